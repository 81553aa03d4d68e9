section
-- ===== PART A: goes FIRST, ahead of the names: the tables' words, and 'selects' of the private methods out of them =====
/-- a private method of a class that the tables say can be made, by its rows of tables_1 -/
def lw_okq (q : MethodName × Nat) : Prop := (q.1.cls ≠ "java/lang/invoke/MethodHandle" ∧ q.1.cls ≠ "java/lang/invoke/VarHandle") ∧ Cond.instantiable q.1.cls q.2 ∈ tables_1 ∧ Cond.privateMethod q.1 ∈ tables_1 ∧ Cond.instanceMethod q.1 ∈ tables_1
theorem lw_p0 : lw_okq (⟨"java/util/ArrayList", "add", "(Ljava/lang/Object;[Ljava/lang/Object;I)V"⟩, 3) := ⟨⟨by decide +kernel, by decide +kernel⟩, List.mem_of_getElem? (i := 29) (by decide +kernel), List.mem_of_getElem? (i := 199) (by decide +kernel), List.mem_of_getElem? (i := 200) (by decide +kernel)⟩
theorem lw_p1 : lw_okq (⟨"java/util/ArrayList", "grow", "()[Ljava/lang/Object;"⟩, 3) := ⟨⟨by decide +kernel, by decide +kernel⟩, List.mem_of_getElem? (i := 29) (by decide +kernel), List.mem_of_getElem? (i := 203) (by decide +kernel), List.mem_of_getElem? (i := 204) (by decide +kernel)⟩
theorem lw_p2 : lw_okq (⟨"java/util/ArrayList", "grow", "(I)[Ljava/lang/Object;"⟩, 3) := ⟨⟨by decide +kernel, by decide +kernel⟩, List.mem_of_getElem? (i := 29) (by decide +kernel), List.mem_of_getElem? (i := 207) (by decide +kernel), List.mem_of_getElem? (i := 208) (by decide +kernel)⟩
theorem lw_p3 : lw_okq (⟨"SegmentLocks", "find", "(I)LSegmentLocks$Task;"⟩, 6) := ⟨⟨by decide +kernel, by decide +kernel⟩, List.mem_of_getElem? (i := 21) (by decide +kernel), List.mem_of_getElem? (i := 254) (by decide +kernel), List.mem_of_getElem? (i := 255) (by decide +kernel)⟩
theorem lw_p4 : lw_okq (⟨"SegmentLocks", "askForLock", "(LSegmentLocks$Task;II)I"⟩, 6) := ⟨⟨by decide +kernel, by decide +kernel⟩, List.mem_of_getElem? (i := 21) (by decide +kernel), List.mem_of_getElem? (i := 275) (by decide +kernel), List.mem_of_getElem? (i := 276) (by decide +kernel)⟩
theorem lw_p5 : lw_okq (⟨"SegmentLocks", "letGo", "(LSegmentLocks$Task;I)V"⟩, 6) := ⟨⟨by decide +kernel, by decide +kernel⟩, List.mem_of_getElem? (i := 21) (by decide +kernel), List.mem_of_getElem? (i := 279) (by decide +kernel), List.mem_of_getElem? (i := 280) (by decide +kernel)⟩
theorem lw_p6 : lw_okq (⟨"SegmentLocks$Rows", "leave", "(LSegmentLocks$Task;)V"⟩, 1) := ⟨⟨by decide +kernel, by decide +kernel⟩, List.mem_of_getElem? (i := 56) (by decide +kernel), List.mem_of_getElem? (i := 283) (by decide +kernel), List.mem_of_getElem? (i := 284) (by decide +kernel)⟩
theorem lw_p7 : lw_okq (⟨"SegmentLocks$Rows", "placeOf", "(LSegmentLocks$Task;)I"⟩, 1) := ⟨⟨by decide +kernel, by decide +kernel⟩, List.mem_of_getElem? (i := 56) (by decide +kernel), List.mem_of_getElem? (i := 287) (by decide +kernel), List.mem_of_getElem? (i := 288) (by decide +kernel)⟩
theorem lw_p8 : lw_okq (⟨"java/util/ArrayList", "fastRemove", "([Ljava/lang/Object;I)V"⟩, 3) := ⟨⟨by decide +kernel, by decide +kernel⟩, List.mem_of_getElem? (i := 29) (by decide +kernel), List.mem_of_getElem? (i := 297) (by decide +kernel), List.mem_of_getElem? (i := 298) (by decide +kernel)⟩
theorem lw_p9 : lw_okq (⟨"SegmentLocks$Task", "forget", "()V"⟩, 15) := ⟨⟨by decide +kernel, by decide +kernel⟩, List.mem_of_getElem? (i := 121) (by decide +kernel), List.mem_of_getElem? (i := 302) (by decide +kernel), List.mem_of_getElem? (i := 303) (by decide +kernel)⟩
theorem lw_p10 : lw_okq (⟨"SegmentLocks$Task", "stopWaiting", "()V"⟩, 15) := ⟨⟨by decide +kernel, by decide +kernel⟩, List.mem_of_getElem? (i := 121) (by decide +kernel), List.mem_of_getElem? (i := 306) (by decide +kernel), List.mem_of_getElem? (i := 307) (by decide +kernel)⟩
theorem lw_p11 : lw_okq (⟨"SegmentLocks", "grantRows", "()V"⟩, 6) := ⟨⟨by decide +kernel, by decide +kernel⟩, List.mem_of_getElem? (i := 21) (by decide +kernel), List.mem_of_getElem? (i := 310) (by decide +kernel), List.mem_of_getElem? (i := 311) (by decide +kernel)⟩
theorem lw_p12 : lw_okq (⟨"SegmentLocks$Rows", "first", "(I)LSegmentLocks$Task;"⟩, 1) := ⟨⟨by decide +kernel, by decide +kernel⟩, List.mem_of_getElem? (i := 56) (by decide +kernel), List.mem_of_getElem? (i := 314) (by decide +kernel), List.mem_of_getElem? (i := 315) (by decide +kernel)⟩
theorem lw_p13 : lw_okq (⟨"SegmentLocks", "canHave", "(LSegmentLocks$Task;II)Z"⟩, 6) := ⟨⟨by decide +kernel, by decide +kernel⟩, List.mem_of_getElem? (i := 21) (by decide +kernel), List.mem_of_getElem? (i := 319) (by decide +kernel), List.mem_of_getElem? (i := 320) (by decide +kernel)⟩
theorem lw_p14 : lw_okq (⟨"SegmentLocks$Task", "take", "(II)V"⟩, 15) := ⟨⟨by decide +kernel, by decide +kernel⟩, List.mem_of_getElem? (i := 121) (by decide +kernel), List.mem_of_getElem? (i := 326) (by decide +kernel), List.mem_of_getElem? (i := 327) (by decide +kernel)⟩
theorem lw_p15 : lw_okq (⟨"SegmentLocks$Rows", "enter", "(LSegmentLocks$Task;)V"⟩, 1) := ⟨⟨by decide +kernel, by decide +kernel⟩, List.mem_of_getElem? (i := 56) (by decide +kernel), List.mem_of_getElem? (i := 331) (by decide +kernel), List.mem_of_getElem? (i := 332) (by decide +kernel)⟩
def lw_privs_1 : List (MethodName × Nat) := [(⟨"java/util/ArrayList", "add", "(Ljava/lang/Object;[Ljava/lang/Object;I)V"⟩, 3), (⟨"java/util/ArrayList", "grow", "()[Ljava/lang/Object;"⟩, 3), (⟨"java/util/ArrayList", "grow", "(I)[Ljava/lang/Object;"⟩, 3), (⟨"SegmentLocks", "find", "(I)LSegmentLocks$Task;"⟩, 6), (⟨"SegmentLocks", "askForLock", "(LSegmentLocks$Task;II)I"⟩, 6), (⟨"SegmentLocks", "letGo", "(LSegmentLocks$Task;I)V"⟩, 6), (⟨"SegmentLocks$Rows", "leave", "(LSegmentLocks$Task;)V"⟩, 1), (⟨"SegmentLocks$Rows", "placeOf", "(LSegmentLocks$Task;)I"⟩, 1), (⟨"java/util/ArrayList", "fastRemove", "([Ljava/lang/Object;I)V"⟩, 3), (⟨"SegmentLocks$Task", "forget", "()V"⟩, 15), (⟨"SegmentLocks$Task", "stopWaiting", "()V"⟩, 15), (⟨"SegmentLocks", "grantRows", "()V"⟩, 6), (⟨"SegmentLocks$Rows", "first", "(I)LSegmentLocks$Task;"⟩, 1), (⟨"SegmentLocks", "canHave", "(LSegmentLocks$Task;II)Z"⟩, 6), (⟨"SegmentLocks$Task", "take", "(II)V"⟩, 15), (⟨"SegmentLocks$Rows", "enter", "(LSegmentLocks$Task;)V"⟩, 1)]
theorem lw_r1 : ∀ q ∈ lw_privs_1, lw_okq q := List.forall_mem_cons.mpr ⟨lw_p0, List.forall_mem_cons.mpr ⟨lw_p1, List.forall_mem_cons.mpr ⟨lw_p2, List.forall_mem_cons.mpr ⟨lw_p3, List.forall_mem_cons.mpr ⟨lw_p4, List.forall_mem_cons.mpr ⟨lw_p5, List.forall_mem_cons.mpr ⟨lw_p6, List.forall_mem_cons.mpr ⟨lw_p7, List.forall_mem_cons.mpr ⟨lw_p8, List.forall_mem_cons.mpr ⟨lw_p9, List.forall_mem_cons.mpr ⟨lw_p10, List.forall_mem_cons.mpr ⟨lw_p11, List.forall_mem_cons.mpr ⟨lw_p12, List.forall_mem_cons.mpr ⟨lw_p13, List.forall_mem_cons.mpr ⟨lw_p14, List.forall_mem_cons.mpr ⟨lw_p15, fun _ h => absurd h List.not_mem_nil⟩⟩⟩⟩⟩⟩⟩⟩⟩⟩⟩⟩⟩⟩⟩⟩
theorem lw_p16 : lw_okq (⟨"SegmentLocks$Rows", "firstWithoutLock", "(I)I"⟩, 1) := ⟨⟨by decide +kernel, by decide +kernel⟩, List.mem_of_getElem? (i := 56) (by decide +kernel), List.mem_of_getElem? (i := 336) (by decide +kernel), List.mem_of_getElem? (i := 337) (by decide +kernel)⟩
theorem lw_p17 : lw_okq (⟨"java/util/ArrayList", "rangeCheckForAdd", "(I)V"⟩, 3) := ⟨⟨by decide +kernel, by decide +kernel⟩, List.mem_of_getElem? (i := 29) (by decide +kernel), List.mem_of_getElem? (i := 344) (by decide +kernel), List.mem_of_getElem? (i := 345) (by decide +kernel)⟩
theorem lw_p18 : lw_okq (⟨"SegmentLocks", "breakRings", "(LSegmentLocks$Task;)I"⟩, 6) := ⟨⟨by decide +kernel, by decide +kernel⟩, List.mem_of_getElem? (i := 21) (by decide +kernel), List.mem_of_getElem? (i := 348) (by decide +kernel), List.mem_of_getElem? (i := 349) (by decide +kernel)⟩
theorem lw_p19 : lw_okq (⟨"SegmentLocks$Rings", "search", "(Ljava/util/ArrayList;LSegmentLocks$Rows;LSegmentLocks$Task;)Z"⟩, 5) := ⟨⟨by decide +kernel, by decide +kernel⟩, List.mem_of_getElem? (i := 68) (by decide +kernel), List.mem_of_getElem? (i := 352) (by decide +kernel), List.mem_of_getElem? (i := 353) (by decide +kernel)⟩
theorem lw_p20 : lw_okq (⟨"SegmentLocks$Rings", "begin", "(LSegmentLocks$Task;)V"⟩, 5) := ⟨⟨by decide +kernel, by decide +kernel⟩, List.mem_of_getElem? (i := 68) (by decide +kernel), List.mem_of_getElem? (i := 356) (by decide +kernel), List.mem_of_getElem? (i := 357) (by decide +kernel)⟩
theorem lw_p21 : lw_okq (⟨"SegmentLocks$Rings", "markBlockers", "(Ljava/util/ArrayList;LSegmentLocks$Rows;LSegmentLocks$Task;)V"⟩, 5) := ⟨⟨by decide +kernel, by decide +kernel⟩, List.mem_of_getElem? (i := 68) (by decide +kernel), List.mem_of_getElem? (i := 368) (by decide +kernel), List.mem_of_getElem? (i := 369) (by decide +kernel)⟩
theorem lw_p22 : lw_okq (⟨"SegmentLocks$Rows", "markAhead", "(LSegmentLocks$Task;[Z)V"⟩, 1) := ⟨⟨by decide +kernel, by decide +kernel⟩, List.mem_of_getElem? (i := 56) (by decide +kernel), List.mem_of_getElem? (i := 374) (by decide +kernel), List.mem_of_getElem? (i := 375) (by decide +kernel)⟩
theorem lw_p23 : lw_okq (⟨"SegmentLocks$Rows", "isAhead", "(ILSegmentLocks$Task;)Z"⟩, 1) := ⟨⟨by decide +kernel, by decide +kernel⟩, List.mem_of_getElem? (i := 56) (by decide +kernel), List.mem_of_getElem? (i := 378) (by decide +kernel), List.mem_of_getElem? (i := 379) (by decide +kernel)⟩
theorem lw_p24 : lw_okq (⟨"SegmentLocks$Rings", "reachBlockers", "(Ljava/util/ArrayList;ILSegmentLocks$Task;)Z"⟩, 5) := ⟨⟨by decide +kernel, by decide +kernel⟩, List.mem_of_getElem? (i := 68) (by decide +kernel), List.mem_of_getElem? (i := 382) (by decide +kernel), List.mem_of_getElem? (i := 383) (by decide +kernel)⟩
theorem lw_p25 : lw_okq (⟨"SegmentLocks$Rings", "keepWayTo", "(I)V"⟩, 5) := ⟨⟨by decide +kernel, by decide +kernel⟩, List.mem_of_getElem? (i := 68) (by decide +kernel), List.mem_of_getElem? (i := 386) (by decide +kernel), List.mem_of_getElem? (i := 387) (by decide +kernel)⟩
theorem lw_p26 : lw_okq (⟨"SegmentLocks$Rings", "youngest", "(LSegmentLocks$Task;)LSegmentLocks$Task;"⟩, 5) := ⟨⟨by decide +kernel, by decide +kernel⟩, List.mem_of_getElem? (i := 68) (by decide +kernel), List.mem_of_getElem? (i := 392) (by decide +kernel), List.mem_of_getElem? (i := 393) (by decide +kernel)⟩
theorem lw_p27 : lw_okq (⟨"SegmentLocks$Task", "isYounger", "(LSegmentLocks$Task;)Z"⟩, 15) := ⟨⟨by decide +kernel, by decide +kernel⟩, List.mem_of_getElem? (i := 121) (by decide +kernel), List.mem_of_getElem? (i := 396) (by decide +kernel), List.mem_of_getElem? (i := 397) (by decide +kernel)⟩
theorem lw_p28 : lw_okq (⟨"SegmentLocks$Task", "keep", "(IJ)V"⟩, 15) := ⟨⟨by decide +kernel, by decide +kernel⟩, List.mem_of_getElem? (i := 121) (by decide +kernel), List.mem_of_getElem? (i := 404) (by decide +kernel), List.mem_of_getElem? (i := 405) (by decide +kernel)⟩
theorem lw_p29 : lw_okq (⟨"SegmentLocks", "agree", "(LSegmentLocks$Task;)V"⟩, 6) := ⟨⟨by decide +kernel, by decide +kernel⟩, List.mem_of_getElem? (i := 21) (by decide +kernel), List.mem_of_getElem? (i := 412) (by decide +kernel), List.mem_of_getElem? (i := 413) (by decide +kernel)⟩
theorem lw_p30 : lw_okq (⟨"SegmentLocks$Task", "isInOrder", "([J)Z"⟩, 15) := ⟨⟨by decide +kernel, by decide +kernel⟩, List.mem_of_getElem? (i := 121) (by decide +kernel), List.mem_of_getElem? (i := 416) (by decide +kernel), List.mem_of_getElem? (i := 417) (by decide +kernel)⟩
theorem lw_p31 : lw_okq (⟨"SegmentLocks$Rings", "member", "(I)I"⟩, 5) := ⟨⟨by decide +kernel, by decide +kernel⟩, List.mem_of_getElem? (i := 68) (by decide +kernel), List.mem_of_getElem? (i := 428) (by decide +kernel), List.mem_of_getElem? (i := 429) (by decide +kernel)⟩
def lw_privs_2 : List (MethodName × Nat) := [(⟨"SegmentLocks$Rows", "firstWithoutLock", "(I)I"⟩, 1), (⟨"java/util/ArrayList", "rangeCheckForAdd", "(I)V"⟩, 3), (⟨"SegmentLocks", "breakRings", "(LSegmentLocks$Task;)I"⟩, 6), (⟨"SegmentLocks$Rings", "search", "(Ljava/util/ArrayList;LSegmentLocks$Rows;LSegmentLocks$Task;)Z"⟩, 5), (⟨"SegmentLocks$Rings", "begin", "(LSegmentLocks$Task;)V"⟩, 5), (⟨"SegmentLocks$Rings", "markBlockers", "(Ljava/util/ArrayList;LSegmentLocks$Rows;LSegmentLocks$Task;)V"⟩, 5), (⟨"SegmentLocks$Rows", "markAhead", "(LSegmentLocks$Task;[Z)V"⟩, 1), (⟨"SegmentLocks$Rows", "isAhead", "(ILSegmentLocks$Task;)Z"⟩, 1), (⟨"SegmentLocks$Rings", "reachBlockers", "(Ljava/util/ArrayList;ILSegmentLocks$Task;)Z"⟩, 5), (⟨"SegmentLocks$Rings", "keepWayTo", "(I)V"⟩, 5), (⟨"SegmentLocks$Rings", "youngest", "(LSegmentLocks$Task;)LSegmentLocks$Task;"⟩, 5), (⟨"SegmentLocks$Task", "isYounger", "(LSegmentLocks$Task;)Z"⟩, 15), (⟨"SegmentLocks$Task", "keep", "(IJ)V"⟩, 15), (⟨"SegmentLocks", "agree", "(LSegmentLocks$Task;)V"⟩, 6), (⟨"SegmentLocks$Task", "isInOrder", "([J)Z"⟩, 15), (⟨"SegmentLocks$Rings", "member", "(I)I"⟩, 5)]
theorem lw_r2 : ∀ q ∈ lw_privs_2, lw_okq q := List.forall_mem_cons.mpr ⟨lw_p16, List.forall_mem_cons.mpr ⟨lw_p17, List.forall_mem_cons.mpr ⟨lw_p18, List.forall_mem_cons.mpr ⟨lw_p19, List.forall_mem_cons.mpr ⟨lw_p20, List.forall_mem_cons.mpr ⟨lw_p21, List.forall_mem_cons.mpr ⟨lw_p22, List.forall_mem_cons.mpr ⟨lw_p23, List.forall_mem_cons.mpr ⟨lw_p24, List.forall_mem_cons.mpr ⟨lw_p25, List.forall_mem_cons.mpr ⟨lw_p26, List.forall_mem_cons.mpr ⟨lw_p27, List.forall_mem_cons.mpr ⟨lw_p28, List.forall_mem_cons.mpr ⟨lw_p29, List.forall_mem_cons.mpr ⟨lw_p30, List.forall_mem_cons.mpr ⟨lw_p31, fun _ h => absurd h List.not_mem_nil⟩⟩⟩⟩⟩⟩⟩⟩⟩⟩⟩⟩⟩⟩⟩⟩
theorem lw_p32 : lw_okq (⟨"SegmentLocks$Rows", "countAhead", "(LSegmentLocks$Task;)I"⟩, 1) := ⟨⟨by decide +kernel, by decide +kernel⟩, List.mem_of_getElem? (i := 56) (by decide +kernel), List.mem_of_getElem? (i := 456) (by decide +kernel), List.mem_of_getElem? (i := 457) (by decide +kernel)⟩
theorem lw_p33 : lw_okq (⟨"java/lang/Throwable", "fillInStackTrace", "(I)Ljava/lang/Throwable;"⟩, 6) := ⟨⟨by decide +kernel, by decide +kernel⟩, List.mem_of_getElem? (i := 506) (by decide +kernel), List.mem_of_getElem? (i := 504) (by decide +kernel), List.mem_of_getElem? (i := 505) (by decide +kernel)⟩
theorem lw_p34 : lw_okq (⟨"SegmentLocks", "latest", "(I)J"⟩, 6) := ⟨⟨by decide +kernel, by decide +kernel⟩, List.mem_of_getElem? (i := 21) (by decide +kernel), List.mem_of_getElem? (i := 553) (by decide +kernel), List.mem_of_getElem? (i := 554) (by decide +kernel)⟩
theorem lw_p35 : lw_okq (⟨"SegmentLocks$Task", "remember", "(IJJ)V"⟩, 15) := ⟨⟨by decide +kernel, by decide +kernel⟩, List.mem_of_getElem? (i := 121) (by decide +kernel), List.mem_of_getElem? (i := 557) (by decide +kernel), List.mem_of_getElem? (i := 558) (by decide +kernel)⟩
theorem lw_p36 : lw_okq (⟨"SegmentLocksModel", "isTask", "(I)Z"⟩, 27) := ⟨⟨by decide +kernel, by decide +kernel⟩, List.mem_of_getElem? (i := 569) (by decide +kernel), List.mem_of_getElem? (i := 665) (by decide +kernel), List.mem_of_getElem? (i := 666) (by decide +kernel)⟩
theorem lw_p37 : lw_okq (⟨"SegmentLocksModel", "locksOf", "(I)I"⟩, 27) := ⟨⟨by decide +kernel, by decide +kernel⟩, List.mem_of_getElem? (i := 569) (by decide +kernel), List.mem_of_getElem? (i := 675) (by decide +kernel), List.mem_of_getElem? (i := 676) (by decide +kernel)⟩
theorem lw_p38 : lw_okq (⟨"SegmentLocksModel", "clear", "(II)I"⟩, 27) := ⟨⟨by decide +kernel, by decide +kernel⟩, List.mem_of_getElem? (i := 569) (by decide +kernel), List.mem_of_getElem? (i := 679) (by decide +kernel), List.mem_of_getElem? (i := 680) (by decide +kernel)⟩
theorem lw_p39 : lw_okq (⟨"SegmentLocksModel", "unwait", "(I)V"⟩, 27) := ⟨⟨by decide +kernel, by decide +kernel⟩, List.mem_of_getElem? (i := 569) (by decide +kernel), List.mem_of_getElem? (i := 683) (by decide +kernel), List.mem_of_getElem? (i := 684) (by decide +kernel)⟩
theorem lw_p40 : lw_okq (⟨"SegmentLocksModel", "placeBefore", "(II)I"⟩, 27) := ⟨⟨by decide +kernel, by decide +kernel⟩, List.mem_of_getElem? (i := 569) (by decide +kernel), List.mem_of_getElem? (i := 687) (by decide +kernel), List.mem_of_getElem? (i := 688) (by decide +kernel)⟩
theorem lw_p41 : lw_okq (⟨"SegmentLocksModel", "forget", "(I)V"⟩, 27) := ⟨⟨by decide +kernel, by decide +kernel⟩, List.mem_of_getElem? (i := 569) (by decide +kernel), List.mem_of_getElem? (i := 691) (by decide +kernel), List.mem_of_getElem? (i := 692) (by decide +kernel)⟩
theorem lw_p42 : lw_okq (⟨"SegmentLocksModel", "grant", "()V"⟩, 27) := ⟨⟨by decide +kernel, by decide +kernel⟩, List.mem_of_getElem? (i := 569) (by decide +kernel), List.mem_of_getElem? (i := 695) (by decide +kernel), List.mem_of_getElem? (i := 696) (by decide +kernel)⟩
theorem lw_p43 : lw_okq (⟨"SegmentLocksModel", "isFree", "(III)Z"⟩, 27) := ⟨⟨by decide +kernel, by decide +kernel⟩, List.mem_of_getElem? (i := 569) (by decide +kernel), List.mem_of_getElem? (i := 699) (by decide +kernel), List.mem_of_getElem? (i := 700) (by decide +kernel)⟩
theorem lw_p44 : lw_okq (⟨"SegmentLocksModel", "insert", "(III)V"⟩, 27) := ⟨⟨by decide +kernel, by decide +kernel⟩, List.mem_of_getElem? (i := 569) (by decide +kernel), List.mem_of_getElem? (i := 706) (by decide +kernel), List.mem_of_getElem? (i := 707) (by decide +kernel)⟩
theorem lw_p45 : lw_okq (⟨"SegmentLocksModel", "findRing", "(I)Z"⟩, 27) := ⟨⟨by decide +kernel, by decide +kernel⟩, List.mem_of_getElem? (i := 569) (by decide +kernel), List.mem_of_getElem? (i := 710) (by decide +kernel), List.mem_of_getElem? (i := 711) (by decide +kernel)⟩
theorem lw_p46 : lw_okq (⟨"SegmentLocksModel", "isBlocked", "(II)Z"⟩, 27) := ⟨⟨by decide +kernel, by decide +kernel⟩, List.mem_of_getElem? (i := 569) (by decide +kernel), List.mem_of_getElem? (i := 714) (by decide +kernel), List.mem_of_getElem? (i := 715) (by decide +kernel)⟩
theorem lw_p47 : lw_okq (⟨"SegmentLocksModel", "placeOf", "(I)I"⟩, 27) := ⟨⟨by decide +kernel, by decide +kernel⟩, List.mem_of_getElem? (i := 569) (by decide +kernel), List.mem_of_getElem? (i := 718) (by decide +kernel), List.mem_of_getElem? (i := 719) (by decide +kernel)⟩
def lw_privs_3 : List (MethodName × Nat) := [(⟨"SegmentLocks$Rows", "countAhead", "(LSegmentLocks$Task;)I"⟩, 1), (⟨"java/lang/Throwable", "fillInStackTrace", "(I)Ljava/lang/Throwable;"⟩, 6), (⟨"SegmentLocks", "latest", "(I)J"⟩, 6), (⟨"SegmentLocks$Task", "remember", "(IJJ)V"⟩, 15), (⟨"SegmentLocksModel", "isTask", "(I)Z"⟩, 27), (⟨"SegmentLocksModel", "locksOf", "(I)I"⟩, 27), (⟨"SegmentLocksModel", "clear", "(II)I"⟩, 27), (⟨"SegmentLocksModel", "unwait", "(I)V"⟩, 27), (⟨"SegmentLocksModel", "placeBefore", "(II)I"⟩, 27), (⟨"SegmentLocksModel", "forget", "(I)V"⟩, 27), (⟨"SegmentLocksModel", "grant", "()V"⟩, 27), (⟨"SegmentLocksModel", "isFree", "(III)Z"⟩, 27), (⟨"SegmentLocksModel", "insert", "(III)V"⟩, 27), (⟨"SegmentLocksModel", "findRing", "(I)Z"⟩, 27), (⟨"SegmentLocksModel", "isBlocked", "(II)Z"⟩, 27), (⟨"SegmentLocksModel", "placeOf", "(I)I"⟩, 27)]
theorem lw_r3 : ∀ q ∈ lw_privs_3, lw_okq q := List.forall_mem_cons.mpr ⟨lw_p32, List.forall_mem_cons.mpr ⟨lw_p33, List.forall_mem_cons.mpr ⟨lw_p34, List.forall_mem_cons.mpr ⟨lw_p35, List.forall_mem_cons.mpr ⟨lw_p36, List.forall_mem_cons.mpr ⟨lw_p37, List.forall_mem_cons.mpr ⟨lw_p38, List.forall_mem_cons.mpr ⟨lw_p39, List.forall_mem_cons.mpr ⟨lw_p40, List.forall_mem_cons.mpr ⟨lw_p41, List.forall_mem_cons.mpr ⟨lw_p42, List.forall_mem_cons.mpr ⟨lw_p43, List.forall_mem_cons.mpr ⟨lw_p44, List.forall_mem_cons.mpr ⟨lw_p45, List.forall_mem_cons.mpr ⟨lw_p46, List.forall_mem_cons.mpr ⟨lw_p47, fun _ h => absurd h List.not_mem_nil⟩⟩⟩⟩⟩⟩⟩⟩⟩⟩⟩⟩⟩⟩⟩⟩
theorem lw_p48 : lw_okq (⟨"SegmentLocksModel", "youngest", "()I"⟩, 27) := ⟨⟨by decide +kernel, by decide +kernel⟩, List.mem_of_getElem? (i := 569) (by decide +kernel), List.mem_of_getElem? (i := 722) (by decide +kernel), List.mem_of_getElem? (i := 723) (by decide +kernel)⟩
theorem lw_p49 : lw_okq (⟨"SegmentLocksModel", "refusal", "(I)I"⟩, 27) := ⟨⟨by decide +kernel, by decide +kernel⟩, List.mem_of_getElem? (i := 569) (by decide +kernel), List.mem_of_getElem? (i := 738) (by decide +kernel), List.mem_of_getElem? (i := 739) (by decide +kernel)⟩
theorem lw_p50 : lw_okq (⟨"SegmentLocksModel", "writesOf", "(I)I"⟩, 27) := ⟨⟨by decide +kernel, by decide +kernel⟩, List.mem_of_getElem? (i := 569) (by decide +kernel), List.mem_of_getElem? (i := 742) (by decide +kernel), List.mem_of_getElem? (i := 743) (by decide +kernel)⟩
theorem lw_p51 : lw_okq (⟨"SegmentLocksModel", "agree", "(I)I"⟩, 27) := ⟨⟨by decide +kernel, by decide +kernel⟩, List.mem_of_getElem? (i := 569) (by decide +kernel), List.mem_of_getElem? (i := 746) (by decide +kernel), List.mem_of_getElem? (i := 747) (by decide +kernel)⟩
theorem lw_p52 : lw_okq (⟨"SegmentLocksModel", "isInOrder", "(I)Z"⟩, 27) := ⟨⟨by decide +kernel, by decide +kernel⟩, List.mem_of_getElem? (i := 569) (by decide +kernel), List.mem_of_getElem? (i := 750) (by decide +kernel), List.mem_of_getElem? (i := 751) (by decide +kernel)⟩
def lw_privs_4 : List (MethodName × Nat) := [(⟨"SegmentLocksModel", "youngest", "()I"⟩, 27), (⟨"SegmentLocksModel", "refusal", "(I)I"⟩, 27), (⟨"SegmentLocksModel", "writesOf", "(I)I"⟩, 27), (⟨"SegmentLocksModel", "agree", "(I)I"⟩, 27), (⟨"SegmentLocksModel", "isInOrder", "(I)Z"⟩, 27)]
theorem lw_r4 : ∀ q ∈ lw_privs_4, lw_okq q := List.forall_mem_cons.mpr ⟨lw_p48, List.forall_mem_cons.mpr ⟨lw_p49, List.forall_mem_cons.mpr ⟨lw_p50, List.forall_mem_cons.mpr ⟨lw_p51, List.forall_mem_cons.mpr ⟨lw_p52, fun _ h => absurd h List.not_mem_nil⟩⟩⟩⟩⟩
def lw_privs : List (MethodName × Nat) := lw_privs_1 ++ (lw_privs_2 ++ (lw_privs_3 ++ (lw_privs_4)))
def lw_tbl : List Cond := k2_sels lw_privs ++ tables_1
theorem lw_privs_ok : ∀ q ∈ lw_privs, lw_okq q := by
  show ∀ q ∈ lw_privs_1 ++ (lw_privs_2 ++ (lw_privs_3 ++ (lw_privs_4))), lw_okq q
  exact List.forall_mem_append.mpr ⟨lw_r1, List.forall_mem_append.mpr ⟨lw_r2, List.forall_mem_append.mpr ⟨lw_r3, lw_r4⟩⟩⟩

def RX0 : String := "SegmentLocks"
def FX0 : u_T := fun k => match k with
  | 0 => ("SegmentLocks", "agreed", "[J", true)
  | 1 => ("SegmentLocks", "tasks", "Ljava/util/ArrayList;", true)
  | 2 => ("SegmentLocks", "rows", "LSegmentLocks$Rows;", true)
  | 3 => ("SegmentLocks", "rings", "LSegmentLocks$Rings;", true)
  | 4 => ("SegmentLocks", "mostLocks", "I", false)
  | _ => ("SegmentLocks", "allInOrder", "Z", false)
def tX0 : Nat → FieldType := fun k => match k with
  | 0 => (.array .long)
  | 1 => (.object "java/util/ArrayList")
  | 2 => (.object "SegmentLocks$Rows")
  | 3 => (.object "SegmentLocks$Rings")
  | 4 => .int
  | _ => .boolean
def RX1 : String := "SegmentLocks$Rows"
def FX1 : u_T := fun k => match k with
  | _ => ("SegmentLocks$Rows", "waiting", "Ljava/util/ArrayList;", true)
def tX1 : Nat → FieldType := fun k => match k with
  | _ => (.object "java/util/ArrayList")
def RX2 : String := "SegmentLocks$Rings"
def FX2 : u_T := fun k => match k with
  | 0 => ("SegmentLocks$Rings", "members", "Ljava/util/ArrayList;", true)
  | 1 => ("SegmentLocks$Rings", "reached", "Ljava/util/ArrayList;", true)
  | 2 => ("SegmentLocks$Rings", "reachedFrom", "[I", true)
  | 3 => ("SegmentLocks$Rings", "isReached", "[Z", true)
  | _ => ("SegmentLocks$Rings", "blocks", "[Z", true)
def tX2 : Nat → FieldType := fun k => match k with
  | 0 => (.object "java/util/ArrayList")
  | 1 => (.object "java/util/ArrayList")
  | 2 => (.array .int)
  | 3 => (.array .boolean)
  | _ => (.array .boolean)
def RX3 : String := "SegmentLocks$Task"
def FX3 : u_T := fun k => match k with
  | 0 => ("SegmentLocks$Task", "number", "I", true)
  | 1 => ("SegmentLocks$Task", "age", "I", true)
  | 2 => ("SegmentLocks$Task", "locks", "[I", true)
  | 3 => ("SegmentLocks$Task", "looks", "[Z", true)
  | 4 => ("SegmentLocks$Task", "written", "[Z", true)
  | 5 => ("SegmentLocks$Task", "kept", "[J", true)
  | 6 => ("SegmentLocks$Task", "hasRead", "[Z", true)
  | 7 => ("SegmentLocks$Task", "seen", "[J", true)
  | 8 => ("SegmentLocks$Task", "strayed", "Z", false)
  | 9 => ("SegmentLocks$Task", "state", "I", false)
  | 10 => ("SegmentLocks$Task", "lockCount", "I", false)
  | 11 => ("SegmentLocks$Task", "writtenCount", "I", false)
  | 12 => ("SegmentLocks$Task", "restarts", "I", false)
  | 13 => ("SegmentLocks$Task", "waitsFor", "I", false)
  | _ => ("SegmentLocks$Task", "wish", "I", false)
def tX3 : Nat → FieldType := fun k => match k with
  | 0 => .int
  | 1 => .int
  | 2 => (.array .int)
  | 3 => (.array .boolean)
  | 4 => (.array .boolean)
  | 5 => (.array .long)
  | 6 => (.array .boolean)
  | 7 => (.array .long)
  | 8 => .boolean
  | 9 => .int
  | 10 => .int
  | 11 => .int
  | 12 => .int
  | 13 => .int
  | _ => .int
def RX4 : String := "SegmentLocksModel"
def FX4 : u_T := fun k => match k with
  | 0 => ("SegmentLocksModel", "code", "I", false)
  | 1 => ("SegmentLocksModel", "agreed", "[J", true)
  | 2 => ("SegmentLocksModel", "tasks", "I", false)
  | 3 => ("SegmentLocksModel", "most", "I", false)
  | 4 => ("SegmentLocksModel", "ages", "[I", true)
  | 5 => ("SegmentLocksModel", "states", "[I", true)
  | 6 => ("SegmentLocksModel", "restarts", "[I", true)
  | 7 => ("SegmentLocksModel", "waitsFor", "[I", true)
  | 8 => ("SegmentLocksModel", "asks", "[I", true)
  | 9 => ("SegmentLocksModel", "locks", "[I", true)
  | 10 => ("SegmentLocksModel", "calls", "[I", true)
  | 11 => ("SegmentLocksModel", "dirty", "[Z", true)
  | 12 => ("SegmentLocksModel", "wrote", "[Z", true)
  | 13 => ("SegmentLocksModel", "writes", "[J", true)
  | 14 => ("SegmentLocksModel", "call", "I", false)
  | 15 => ("SegmentLocksModel", "rows", "[I", true)
  | 16 => ("SegmentLocksModel", "sizes", "[I", true)
  | 17 => ("SegmentLocksModel", "readers", "[I", true)
  | 18 => ("SegmentLocksModel", "readOf", "[I", true)
  | 19 => ("SegmentLocksModel", "seen", "[J", true)
  | 20 => ("SegmentLocksModel", "reads", "I", false)
  | 21 => ("SegmentLocksModel", "ring", "[I", true)
  | 22 => ("SegmentLocksModel", "came", "[I", true)
  | 23 => ("SegmentLocksModel", "far", "[I", true)
  | 24 => ("SegmentLocksModel", "queue", "[I", true)
  | 25 => ("SegmentLocksModel", "ringSize", "I", false)
  | _ => ("SegmentLocksModel", "unordered", "Z", false)
def tX4 : Nat → FieldType := fun k => match k with
  | 0 => .int
  | 1 => (.array .long)
  | 2 => .int
  | 3 => .int
  | 4 => (.array .int)
  | 5 => (.array .int)
  | 6 => (.array .int)
  | 7 => (.array .int)
  | 8 => (.array .int)
  | 9 => (.array .int)
  | 10 => (.array .int)
  | 11 => (.array .boolean)
  | 12 => (.array .boolean)
  | 13 => (.array .long)
  | 14 => .int
  | 15 => (.array .int)
  | 16 => (.array .int)
  | 17 => (.array .int)
  | 18 => (.array .int)
  | 19 => (.array .long)
  | 20 => .int
  | 21 => (.array .int)
  | 22 => (.array .int)
  | 23 => (.array .int)
  | 24 => (.array .int)
  | 25 => .int
  | _ => .boolean
def RX5 : String := "java/util/ArrayList"
def FX5 : u_T := fun k => match k with
  | 0 => ("java/util/ArrayList", "elementData", "[Ljava/lang/Object;", false)
  | 1 => ("java/util/ArrayList", "size", "I", false)
  | _ => ("java/util/AbstractList", "modCount", "I", false)
def tX5 : Nat → FieldType := fun k => match k with
  | 0 => (.array (.object "java/lang/Object"))
  | 1 => .int
  | _ => .int
def RX6 : String := "java/lang/IllegalArgumentException"
def FX6 : u_T := fun k => match k with
  | 0 => ("java/lang/Throwable", "cause", "Ljava/lang/Throwable;", false)
  | 1 => ("java/lang/Throwable", "stackTrace", "[Ljava/lang/StackTraceElement;", false)
  | 2 => ("java/lang/Throwable", "suppressedExceptions", "Ljava/util/List;", false)
  | 3 => ("java/lang/Throwable", "detailMessage", "Ljava/lang/String;", false)
  | 4 => ("java/lang/Throwable", "backtrace", "Ljava/lang/Object;", false)
  | _ => ("java/lang/Throwable", "depth", "I", false)
def tX6 : Nat → FieldType := fun k => match k with
  | 0 => (.object "java/lang/Throwable")
  | 1 => (.array (.object "java/lang/StackTraceElement"))
  | 2 => (.object "java/util/List")
  | 3 => (.object "java/lang/String")
  | 4 => (.object "java/lang/Object")
  | _ => .int
def RX7 : String := "java/lang/IllegalStateException"
def FX7 : u_T := fun k => match k with
  | 0 => ("java/lang/Throwable", "cause", "Ljava/lang/Throwable;", false)
  | 1 => ("java/lang/Throwable", "stackTrace", "[Ljava/lang/StackTraceElement;", false)
  | 2 => ("java/lang/Throwable", "suppressedExceptions", "Ljava/util/List;", false)
  | 3 => ("java/lang/Throwable", "detailMessage", "Ljava/lang/String;", false)
  | 4 => ("java/lang/Throwable", "backtrace", "Ljava/lang/Object;", false)
  | _ => ("java/lang/Throwable", "depth", "I", false)
def tX7 : Nat → FieldType := fun k => match k with
  | 0 => (.object "java/lang/Throwable")
  | 1 => (.array (.object "java/lang/StackTraceElement"))
  | 2 => (.object "java/util/List")
  | 3 => (.object "java/lang/String")
  | 4 => (.object "java/lang/Object")
  | _ => .int
abbrev vwCl : List vw_C := [(RX0, FX0, 6), (RX1, FX1, 1), (RX2, FX2, 5), (RX3, FX3, 15), (RX4, FX4, 27), (RX5, FX5, 3), (RX6, FX6, 6), (RX7, FX7, 6)]
def vwTy : Nat → Nat → FieldType := fun ci => match ci with
  | 0 => tX0
  | 1 => tX1
  | 2 => tX2
  | 3 => tX3
  | 4 => tX4
  | 5 => tX5
  | 6 => tX6
  | _ => tX7
def vwN : Nat → Nat := fun ci => match ci with
  | 0 => 6
  | 1 => 1
  | 2 => 5
  | 3 => 15
  | 4 => 27
  | 5 => 3
  | 6 => 6
  | _ => 6
theorem nX0 : ∀ a, a < 6 → ∀ b, b < 6 → a ≠ b → (FX0 a).2.1 ≠ (FX0 b).2.1 := by decide +kernel
theorem tX0_ok : ∀ k, k < 6 → parseFieldDescriptor (FX0 k).2.2.1 = some (tX0 k) := by decide +kernel
theorem nX1 : ∀ a, a < 1 → ∀ b, b < 1 → a ≠ b → (FX1 a).2.1 ≠ (FX1 b).2.1 := by decide +kernel
theorem tX1_ok : ∀ k, k < 1 → parseFieldDescriptor (FX1 k).2.2.1 = some (tX1 k) := by decide +kernel
theorem nX2 : ∀ a, a < 5 → ∀ b, b < 5 → a ≠ b → (FX2 a).2.1 ≠ (FX2 b).2.1 := by decide +kernel
theorem tX2_ok : ∀ k, k < 5 → parseFieldDescriptor (FX2 k).2.2.1 = some (tX2 k) := by decide +kernel
theorem nX3 : ∀ a, a < 15 → ∀ b, b < 15 → a ≠ b → (FX3 a).2.1 ≠ (FX3 b).2.1 := by decide +kernel
theorem tX3_ok : ∀ k, k < 15 → parseFieldDescriptor (FX3 k).2.2.1 = some (tX3 k) := by decide +kernel
theorem nX4 : ∀ a, a < 27 → ∀ b, b < 27 → a ≠ b → (FX4 a).2.1 ≠ (FX4 b).2.1 := by decide +kernel
theorem tX4_ok : ∀ k, k < 27 → parseFieldDescriptor (FX4 k).2.2.1 = some (tX4 k) := by decide +kernel
theorem nX5 : ∀ a, a < 3 → ∀ b, b < 3 → a ≠ b → (FX5 a).2.1 ≠ (FX5 b).2.1 := by decide +kernel
theorem tX5_ok : ∀ k, k < 3 → parseFieldDescriptor (FX5 k).2.2.1 = some (tX5 k) := by decide +kernel
theorem nX6 : ∀ a, a < 6 → ∀ b, b < 6 → a ≠ b → (FX6 a).2.1 ≠ (FX6 b).2.1 := by decide +kernel
theorem tX6_ok : ∀ k, k < 6 → parseFieldDescriptor (FX6 k).2.2.1 = some (tX6 k) := by decide +kernel
theorem nX7 : ∀ a, a < 6 → ∀ b, b < 6 → a ≠ b → (FX7 a).2.1 ≠ (FX7 b).2.1 := by decide +kernel
theorem tX7_ok : ∀ k, k < 6 → parseFieldDescriptor (FX7 k).2.2.1 = some (tX7 k) := by decide +kernel
/-- the words that every method may use, and those that hold by links of a nest, casts and declarations -/
def wx_T : List Cond := lw_tbl.filter goodWord
theorem wx_sub : ∀ w ∈ wx_T, w ∈ lw_tbl := fun _ h => (List.mem_filter.mp h).1
def wx_isN : Cond → Bool
  | .fieldLinkNest .. => true
  | .methodLinkNest .. => true
  | .castable .. => true
  | .declares _ => true
  | _ => false
def wx_N : List Cond := tables_1.filter wx_isN
/-- the texts: class, entry, text -/
def wx_S : List (String × Nat × String) := [("SegmentLocks", 84, "no such task or segment"), ("SegmentLocks", 91, "the task is not active"), ("SegmentLocks", 94, "the task has not asked for the segment"), ("SegmentLocks", 135, "no such segment")]
set_option maxRecDepth 20000 in
theorem iX0 : ∀ w ∈ u_ws RX0 FX0 6, w ∈ wx_T := by decide +kernel
set_option maxRecDepth 20000 in
theorem iX1 : ∀ w ∈ u_ws RX1 FX1 1, w ∈ wx_T := by decide +kernel
set_option maxRecDepth 20000 in
theorem iX2 : ∀ w ∈ u_ws RX2 FX2 5, w ∈ wx_T := by decide +kernel
set_option maxRecDepth 20000 in
theorem iX3 : ∀ w ∈ u_ws RX3 FX3 15, w ∈ wx_T := by decide +kernel
set_option maxRecDepth 20000 in
theorem iX4 : ∀ w ∈ u_ws RX4 FX4 27, w ∈ wx_T := by decide +kernel
set_option maxRecDepth 20000 in
theorem iX5 : ∀ w ∈ u_ws RX5 FX5 3, w ∈ wx_T := by decide +kernel
set_option maxRecDepth 20000 in
theorem iX6 : ∀ w ∈ u_ws RX6 FX6 6, w ∈ wx_T := by decide +kernel
set_option maxRecDepth 20000 in
theorem iX7 : ∀ w ∈ u_ws RX7 FX7 6, w ∈ wx_T := by decide +kernel
end
section
/-! The abstract heap: for each address its kind (0: no cell of ours; c + 1: an object of class c of vwCl; 21 .. 24: arrays of int, long, boolean, Object), its length, its ints, longs, references by place. -/
abbrev Hp : Type := (Nat → Nat) × (Nat → Nat) × (Nat → Nat → Int32) × (Nat → Nat → Int64) × (Nat → Nat → Option Nat)
def hK (h : Hp) : Nat → Nat := h.1
def hN (h : Hp) : Nat → Nat := h.2.1
def hI (h : Hp) : Nat → Nat → Int32 := h.2.2.1
def hJ (h : Hp) : Nat → Nat → Int64 := h.2.2.2.1
def hR (h : Hp) : Nat → Nat → Option Nat := h.2.2.2.2
def sI (h : Hp) (a k : Nat) (v : Int32) : Hp := (h.1, h.2.1, va_up h.2.2.1 a (va_up (h.2.2.1 a) k v), h.2.2.2.1, h.2.2.2.2)
def sJ (h : Hp) (a k : Nat) (v : Int64) : Hp := (h.1, h.2.1, h.2.2.1, va_up h.2.2.2.1 a (va_up (h.2.2.2.1 a) k v), h.2.2.2.2)
def sR (h : Hp) (a k : Nat) (v : Option Nat) : Hp := (h.1, h.2.1, h.2.2.1, h.2.2.2.1, va_up h.2.2.2.2 a (va_up (h.2.2.2.2 a) k v))
/-- the whole row of references of a cell -/
def sRr (h : Hp) (a : Nat) (f : Nat → Option Nat) : Hp := (h.1, h.2.1, h.2.2.1, h.2.2.2.1, va_up h.2.2.2.2 a f)
/-- a new cell -/
def mkC (h : Hp) (q kd n : Nat) : Hp := (va_up h.1 q kd, va_up h.2.1 q n, va_up h.2.2.1 q (fun _ => 0), va_up h.2.2.2.1 q (fun _ => 0), va_up h.2.2.2.2 q (fun _ => none))
/-- what is fixed over a whole run: classes and slots, classes of arrays, numbers (0: where our cells begin) -/
abbrev Gm : Type := va_G × (Nat → ClassId) × (Nat → Nat)
abbrev gTy (g : Gm) : List (ClassId × FieldType) := [(g.2.1 0, .int), (g.2.1 1, .long), (g.2.1 2, .boolean), (g.2.1 3, .object "java/lang/Object")]
abbrev gA (g : Gm) : Nat → Prop := fun q => g.2.2 0 ≤ q
def vfl (ty : FieldType) (h : Hp) (a k : Nat) : Value := match ty with
  | .long => .long (hJ h a k)
  | .object _ => va_rf (hR h a k)
  | .array _ => va_rf (hR h a k)
  | _ => .int (hI h a k)
def fls (ci : Nat) (h : Hp) (a : Nat) : List Value := (List.range (vwN ci)).map (fun k => vfl (vwTy ci k) h a k)
def cel (g : Gm) (h : Hp) (a : Nat) : va_E :=
  if hK h a = 21 then .inl (g.2.1 0, hN h a, .inl (hI h a))
  else if hK h a = 22 then .inl (g.2.1 1, hN h a, .inr (.inl (hJ h a)))
  else if hK h a = 23 then .inl (g.2.1 2, hN h a, .inl (hI h a))
  else if hK h a = 24 then .inl (g.2.1 3, hN h a, .inr (.inr (.inr (.inr (hR h a)))))
  else .inr (hK h a - 1, fls (hK h a - 1) h a)
/-- the machine's heap holds h -/
def GH (g : Gm) (h : Hp) (H : Heap) : Prop := ∃ L : List Nat, (∀ a, a ∈ L ↔ hK h a ≠ 0) ∧ va_P g.1 vwCl (va_pl L (cel g h)) H ∧ va_D (gA g) (va_pl L (cel g h))
theorem cel_obj {g : Gm} {h : Hp} {a ci : Nat} (hk : hK h a = ci + 1) (hc : ci < 20) : cel g h a = .inr (ci, fls ci h a) := by
  unfold cel
  rw [hk, if_neg (by omega), if_neg (by omega), if_neg (by omega), if_neg (by omega), Nat.add_sub_cancel]
theorem cel_21 {g : Gm} {h : Hp} {a : Nat} (hk : hK h a = 21) : cel g h a = .inl (g.2.1 0, hN h a, .inl (hI h a)) := by
  unfold cel
  rw [hk, if_pos rfl]
theorem cel_22 {g : Gm} {h : Hp} {a : Nat} (hk : hK h a = 22) : cel g h a = .inl (g.2.1 1, hN h a, .inr (.inl (hJ h a))) := by
  unfold cel
  rw [hk, if_neg (by decide), if_pos rfl]
theorem cel_23 {g : Gm} {h : Hp} {a : Nat} (hk : hK h a = 23) : cel g h a = .inl (g.2.1 2, hN h a, .inl (hI h a)) := by
  unfold cel
  rw [hk, if_neg (by decide), if_neg (by decide), if_pos rfl]
theorem cel_24 {g : Gm} {h : Hp} {a : Nat} (hk : hK h a = 24) : cel g h a = .inl (g.2.1 3, hN h a, .inr (.inr (.inr (.inr (hR h a))))) := by
  unfold cel
  rw [hk, if_neg (by decide), if_neg (by decide), if_neg (by decide), if_pos rfl]
theorem cel_same {g : Gm} {h h' : Hp} {a : Nat} (h1 : hK h' a = hK h a) (h2 : hN h' a = hN h a) (h3 : hI h' a = hI h a) (h4 : hJ h' a = hJ h a) (h5 : hR h' a = hR h a) : cel g h' a = cel g h a := by
  unfold cel fls vfl
  rw [h1, h2, h3, h4, h5]
theorem fls_at {ci : Nat} {h : Hp} {a k : Nat} (hk : k < vwN ci) : (fls ci h a)[k]? = some (vfl (vwTy ci k) h a k) := by
  unfold fls
  rw [List.getElem?_map, List.getElem?_range hk]
  rfl
theorem fls_len {ci : Nat} {h : Hp} {a : Nat} : (fls ci h a).length = vwN ci := by
  unfold fls
  rw [List.length_map, List.length_range]
theorem map_set1 {n k : Nat} {f f' : Nat → Value} {v : Value} (hk : k < n) (h1 : f' k = v) (h2 : ∀ j, j ≠ k → f' j = f j) : (List.range n).map f' = ((List.range n).map f).set k v := by
  apply List.ext_getElem?
  intro j
  rw [List.getElem?_set, List.getElem?_map, List.getElem?_map, List.length_map, List.length_range]
  by_cases e : k = j
  · subst e
    rw [if_pos rfl, if_pos hk, List.getElem?_range hk]
    simp [h1]
  · rw [if_neg e]
    by_cases hj : j < n
    · rw [List.getElem?_range hj]
      simp [h2 j (fun q => e q.symm)]
    · rw [List.getElem?_eq_none (by rw [List.length_range]; omega)]
      rfl
def isIt (ty : FieldType) : Bool := match ty with
  | .long => false
  | .object _ => false
  | .array _ => false
  | _ => true
def isRt (ty : FieldType) : Bool := match ty with
  | .object _ => true
  | .array _ => true
  | _ => false
theorem vfl_I {ty : FieldType} (h : isIt ty = true) (hp : Hp) (a k : Nat) : vfl ty hp a k = .int (hI hp a k) := by
  cases ty <;> first | rfl | (simp [isIt] at h)
theorem vfl_R {ty : FieldType} (h : isRt ty = true) (hp : Hp) (a k : Nat) : vfl ty hp a k = va_rf (hR hp a k) := by
  cases ty <;> first | rfl | (simp [isRt] at h)
/-! what reads see behind writes -/
theorem hI_sI (h : Hp) (a k : Nat) (v : Int32) : hI (sI h a k v) = va_up (hI h) a (va_up (hI h a) k v) := rfl
theorem hJ_sJ (h : Hp) (a k : Nat) (v : Int64) : hJ (sJ h a k v) = va_up (hJ h) a (va_up (hJ h a) k v) := rfl
theorem hR_sR (h : Hp) (a k : Nat) (v : Option Nat) : hR (sR h a k v) = va_up (hR h) a (va_up (hR h a) k v) := rfl
theorem fls_sI {ci : Nat} {h : Hp} {a k : Nat} {v : Int32} (hk : k < vwN ci) (ht : isIt (vwTy ci k) = true) : fls ci (sI h a k v) a = (fls ci h a).set k (.int v) := by
  refine map_set1 hk ?_ ?_
  · rw [vfl_I ht, hI_sI, va_up_self, va_up_self]
  · intro j hj
    unfold vfl
    rw [hI_sI, va_up_self, va_up_ne _ _ hj]
    rfl
theorem fls_sJ {ci : Nat} {h : Hp} {a k : Nat} {v : Int64} (hk : k < vwN ci) (ht : vwTy ci k = .long) : fls ci (sJ h a k v) a = (fls ci h a).set k (.long v) := by
  refine map_set1 hk ?_ ?_
  · rw [ht]
    show Value.long (hJ (sJ h a k v) a k) = _
    rw [hJ_sJ, va_up_self, va_up_self]
  · intro j hj
    unfold vfl
    rw [hJ_sJ, va_up_self, va_up_ne _ _ hj]
    rfl
theorem fls_sR {ci : Nat} {h : Hp} {a k : Nat} {v : Option Nat} (hk : k < vwN ci) (ht : isRt (vwTy ci k) = true) : fls ci (sR h a k v) a = (fls ci h a).set k (va_rf v) := by
  refine map_set1 hk ?_ ?_
  · rw [vfl_R ht, hR_sR, va_up_self, va_up_self]
  · intro j hj
    unfold vfl
    rw [hR_sR, va_up_self, va_up_ne _ _ hj]
    rfl
theorem cel_sI {g : Gm} {h : Hp} {a k b : Nat} {v : Int32} (e : b ≠ a) : cel g (sI h a k v) b = cel g h b := cel_same rfl rfl (by rw [hI_sI, va_up_ne _ _ e]) rfl rfl
theorem cel_sJ {g : Gm} {h : Hp} {a k b : Nat} {v : Int64} (e : b ≠ a) : cel g (sJ h a k v) b = cel g h b := cel_same rfl rfl rfl (by rw [hJ_sJ, va_up_ne _ _ e]) rfl
theorem cel_sR {g : Gm} {h : Hp} {a k b : Nat} {v : Option Nat} (e : b ≠ a) : cel g (sR h a k v) b = cel g h b := cel_same rfl rfl rfl rfl (by rw [hR_sR, va_up_ne _ _ e])
theorem cel_sRr {g : Gm} {h : Hp} {a b : Nat} {f : Nat → Option Nat} (e : b ≠ a) : cel g (sRr h a f) b = cel g h b := cel_same rfl rfl rfl rfl (va_up_ne _ _ e)
theorem cel_mk {g : Gm} {h : Hp} {q kd n b : Nat} (e : b ≠ q) : cel g (mkC h q kd n) b = cel g h b := cel_same (va_up_ne _ _ e) (va_up_ne _ _ e) (va_up_ne _ _ e) (va_up_ne _ _ e) (va_up_ne _ _ e)
/-- the place of a cell -/
theorem GH.find {g : Gm} {h : Hp} {H : Heap} {L : List Nat} (hL : ∀ a, a ∈ L ↔ hK h a ≠ 0) {a : Nat} (ha : hK h a ≠ 0) {e : va_E} (he : cel g h a = e) : ∃ k : Nat, (va_pl L (cel g h))[k]? = some (a, e) := by
  obtain ⟨k, hk⟩ := va_pl_get (X := []) (L := L) (f := cel g h) ((hL a).mpr ha)
  rw [List.nil_append] at hk
  exact ⟨k, by rw [hk, he]⟩
/-- a cell was written -/
theorem GH.put {g : Gm} {h h' : Hp} {H1 : Heap} {L : List Nat} {a k : Nat} {e0 e : va_E} (hL : ∀ a, a ∈ L ↔ hK h a ≠ 0) (hD : va_D (gA g) (va_pl L (cel g h))) (hk : (va_pl L (cel g h))[k]? = some (a, e0)) (he0 : cel g h a = e0) (hkk : ∀ b, hK h' b = hK h b) (he : cel g h' a = e) (ho : ∀ b, b ≠ a → cel g h' b = cel g h b)
    (hP1 : va_P g.1 vwCl ((va_pl L (cel g h)).set k (a, e)) H1) (hD1 : va_D (gA g) ((va_pl L (cel g h)).set k (a, e))) : GH g h' H1 := by
  have ha : a ∈ L := by
    obtain ⟨x, hx, hx2⟩ := List.mem_map.mp (List.mem_of_getElem? hk)
    rw [← (Prod.mk.inj hx2).1]
    exact hx
  have e1 := va_pl_set (X := []) (e := e) hD ha (by rw [List.nil_append, he0]; exact hk)
  rw [List.nil_append, List.nil_append] at e1
  have e2 : va_pl L (va_up (cel g h) a e) = va_pl L (cel g h') := va_pl_congr fun b => by
    by_cases eb : b = a
    · rw [eb, va_up_self, he]
    · rw [va_up_ne _ _ eb, ho b eb]
  rw [e1, e2] at hP1 hD1
  exact ⟨L, fun b => by rw [hkk b]; exact hL b, hP1, hD1⟩
/-- a cell was made -/
theorem GH.mk {g : Gm} {h : Hp} {H1 : Heap} {L : List Nat} {q kd n : Nat} {e : va_E} (hL : ∀ a, a ∈ L ↔ hK h a ≠ 0) (hkd : kd ≠ 0) (he : cel g (mkC h q kd n) q = e)
    (hP1 : va_P g.1 vwCl (va_pl L (cel g h) ++ [(q, e)]) H1) (hD1 : va_D (gA g) (va_pl L (cel g h) ++ [(q, e)])) : hK h q = 0 ∧ GH g (mkC h q kd n) H1 := by
  have hq : q ∉ L := va_pl_fresh2 (X := []) (f := cel g h) (e := e) (by rw [List.nil_append]; exact hD1)
  have h0 : hK h q = 0 := by
    by_cases z : hK h q = 0
    · exact z
    · exact absurd ((hL q).mpr z) hq
  rw [va_pl_push hq] at hP1 hD1
  have e2 : va_pl (L ++ [q]) (va_up (cel g h) q e) = va_pl (L ++ [q]) (cel g (mkC h q kd n)) := va_pl_congr fun b => by
    by_cases eb : b = q
    · rw [eb, va_up_self, he]
    · rw [va_up_ne _ _ eb, cel_mk eb]
  rw [e2] at hP1 hD1
  refine ⟨h0, L ++ [q], fun b => ?_, hP1, hD1⟩
  rw [List.mem_append, List.mem_singleton]
  by_cases eb : b = q
  · subst eb
    refine ⟨fun _ => ?_, fun _ => Or.inr rfl⟩
    show va_up h.1 b kd b ≠ 0
    rw [va_up_self]
    exact hkd
  · refine ⟨fun z => ?_, fun z => Or.inl ((hL b).mpr ?_)⟩
    · rcases z with z | z
      · show va_up h.1 q kd b ≠ 0
        rw [va_up_ne _ _ eb]
        exact (hL b).mp z
      · exact absurd z eb
    · have z' : va_up h.1 q kd b ≠ 0 := z
      rw [va_up_ne _ _ eb] at z'
      exact z'
end
section
/-! What holds of the machine's tables at every state of a run, the fixed part of a walk, and a row an instruction over the abstract heap -/
/-- what stands in the old heap: ArrayList's empty array (number 1 of g), the class object of Object[] (number 2) -/
def gO (g : Gm) (U : State) : Prop := va_Z "java/util/ArrayList" "DEFAULTCAPACITY_EMPTY_ELEMENTDATA" "[Ljava/lang/Object;" (.ref (g.2.2 1)) (gA g) U U.heap ∧ va_T (.object "java/lang/Object") (g.2.2 1) 0 (fun _ => .null) (gA g) U U.heap ∧ va_Mi "[Ljava/lang/Object;" (g.2.2 2) U ∧ va_Dc U
/-- a static field is laid, in a cell of the old heap -/
def zs_L (C n d : String) (A : Nat → Prop) (U : State) : Prop := ∃ (c : ClassId) (k : Class) (i : Nat) (f : Field) (a : Nat) (cell : Cell), U.vm.findClass C = some c ∧ U.fieldFound? C n d = some (c, k, i, f) ∧ f.isStatic = true ∧ k.statics = some a ∧ U.heap[a]? = some cell ∧ cell.vm.isStatics = true ∧ cell.cls = c ∧ f.slot < cell.slots.size ∧ k.staticTypes[f.slot]? = some f.type ∧ ¬ A a
theorem zs_L.of {args : Array Value} {s : State} {C n d : String} {A : Nat → Prop} (h : (Cond.laysStatic C n d).before args s = true) (hA : ∀ a : Nat, a < s.heap.size → ¬ A a) : zs_L C n d A s := by
  obtain ⟨c, k, i, f, a, cell, h1, h2, h3, h4, h5, h6, h7, h8, h9⟩ := Cond.laysStatic_spec h
  exact ⟨c, k, i, f, a, cell, h1, h2, h3, h4, h5, h6, h7, h8, h9, hA a (Array.getElem?_eq_some_iff.mp h5).1⟩
theorem zs_L.moved {C n d : String} {A : Nat → Prop} {u U : State} (hvm : u.vm.Alike U.vm) (hk : ∀ a : Nat, a < u.heap.size → ¬ A a → U.heap[a]? = u.heap[a]?) (h : zs_L C n d A u) : zs_L C n d A U := by
  obtain ⟨c, k, i, f, a, cell, h1, h2, h3, h4, h5, h6, h7, h8, h9, h10⟩ := h
  obtain ⟨k', hi', he⟩ := State.fieldFound?_setVm hvm h2
  exact ⟨c, k', i, f, a, cell, by rw [hvm.findClass]; exact h1, hi', h3, by rw [he]; exact h4, by rw [hk a (Array.getElem?_eq_some_iff.mp h5).1 h10]; exact h5, h6, h7, h8, by rw [he]; exact h9, h10⟩
theorem zs_L.use {C n d : String} {A : Nat → Prop} {args : Array Value} {s : State} (h : zs_L C n d A s) : (Cond.laysStatic C n d).before args s = true := by
  obtain ⟨c, k, i, f, a, cell, h1, h2, h3, h4, h5, h6, h7, h8, h9, h10⟩ := h
  simp [Cond.before, Cond.holds, Cond.value, h1, h2, h3, h4, h5, h6, h7, h8, h9]
/-- what a throw asks of the old heap and of the tables: Throwable's statics, the texts -/
def gX (g : Gm) (U : State) : Prop := va_Zq "java/lang/Throwable" "UNASSIGNED_STACK" "[Ljava/lang/StackTraceElement;" (gA g) U U.heap ∧ va_Zq "java/lang/Throwable" "SUPPRESSED_SENTINEL" "Ljava/util/List;" (gA g) U U.heap ∧ (∀ q ∈ wx_S, ∃ a : Nat, vk_R q.1 q.2.1 q.2.2 a U) ∧ zs_L "java/lang/Throwable" "UNASSIGNED_STACK" "[Ljava/lang/StackTraceElement;" (gA g) U ∧ zs_L "java/lang/Throwable" "SUPPRESSED_SENTINEL" "Ljava/util/List;" (gA g) U ∧ va_Nc "java/lang/IllegalStateException" "java/lang/IllegalArgumentException" U
def gK (g : Gm) (U : State) : Prop := va_K g.1 vwCl (gTy g) U ∧ (∀ w ∈ wx_N, va_Nw w U) ∧ g.2.2 0 ≤ U.heap.size ∧ va_AO "java/lang/Object" U ∧ gO g U ∧ gX g U
def gS (g : Gm) (h : Hp) (U : State) : Prop := gK g U ∧ GH g h U.heap
theorem wx_N_warm {s U : State} (hW : s.WarmedH U.vm) (h : ∀ w ∈ wx_N, va_Nw w s) : ∀ w ∈ wx_N, va_Nw w U := by
  intro w hw
  have h1 := h w hw
  have h2 : wx_isN w = true := (List.mem_filter.mp hw).2
  cases w <;> first | exact va_Nw.warmF hW h1 | exact va_Nw.warmM hW h1 | exact va_Nw.warmC hW h1 | exact va_Nw.warmD hW h1 | (simp [wx_isN] at h2)
theorem gO.warm {g : Gm} {s U : State} (hW : s.vm.Alike U.vm) (hk : ∀ a : Nat, a < s.heap.size → ¬ gA g a → U.heap[a]? = s.heap[a]?) (h : gO g s) : gO g U := ⟨(h.1.moved hW).kept hk, (h.2.1.moved hW).kept hk, h.2.2.1.moved hW, h.2.2.2.moved hW⟩
theorem gX.warm {g : Gm} {s U : State} (hW : s.WarmedH U.vm) (hk : ∀ a : Nat, a < s.heap.size → ¬ gA g a → U.heap[a]? = s.heap[a]?) (h : gX g s) : gX g U := ⟨(h.1.moved hW.alike).kept hk, (h.2.1.moved hW.alike).kept hk, fun q hq => by obtain ⟨a, ha⟩ := h.2.2.1 q hq; exact ⟨a, ha.warm hW⟩, h.2.2.2.1.moved hW.alike hk, h.2.2.2.2.1.moved hW.alike hk, h.2.2.2.2.2.moved hW.alike⟩
theorem gX.same {g : Gm} {s U : State} (hv : U.vm = s.vm) (hh : U.heap = s.heap) (h : gX g s) : gX g U := by
  have hal : s.vm.Alike U.vm := by rw [hv]; exact Vm.Alike.refl s.vm
  exact ⟨(h.1.moved hal).kept (fun a _ _ => by rw [hh]), (h.2.1.moved hal).kept (fun a _ _ => by rw [hh]), fun q hq => by obtain ⟨a, ha⟩ := h.2.2.1 q hq; exact ⟨a, ha.same hv⟩, h.2.2.2.1.moved hal (fun a _ _ => by rw [hh]), h.2.2.2.2.1.moved hal (fun a _ _ => by rw [hh]), h.2.2.2.2.2.moved hal⟩
theorem gK.warm {g : Gm} {s U : State} (hW : s.WarmedH U.vm) (hz : s.heap.size ≤ U.heap.size) (hk : ∀ a : Nat, a < s.heap.size → ¬ gA g a → U.heap[a]? = s.heap[a]?) (h : gK g s) : gK g U := ⟨va_K.moved hW.alike h.1, wx_N_warm hW h.2.1, Nat.le_trans h.2.2.1 hz, va_AO.moved hW.alike h.2.2.2.1, gO.warm hW.alike hk h.2.2.2.2.1, gX.warm hW hk h.2.2.2.2.2⟩
theorem wx_N_same {u U : State} (e : u.vm = U.vm) (h : ∀ w ∈ wx_N, va_Nw w u) : ∀ w ∈ wx_N, va_Nw w U := by
  intro w hw
  have h2 : wx_isN w = true := (List.mem_filter.mp hw).2
  exact va_Nw.same (by cases w <;> first | rfl | (simp [wx_isN] at h2)) e (h w hw)
theorem gS.blind {g : Gm} {h : Hp} {av : List Value} : FrameBlind (va_Pc av (gS g h)) := fun a U q mk z => by
  obtain ⟨z1, ⟨z2, z3, z4, z5, z7, z8⟩, z6⟩ := z
  exact ⟨z1, ⟨va_K.moved (u := U) (U := U.calling q mk a) (Vm.Alike.refl U.vm) z2, wx_N_same (u := U) (U := U.calling q mk a) rfl z3, z4, z5, gO.warm (s := U) (U := U.calling q mk a) (Vm.Alike.refl U.vm) (fun _ _ _ => rfl) z7, gX.same (s := U) (U := U.calling q mk a) rfl rfl z8⟩, z6⟩
/-- the fixed part of a walk -/
def Cx (g : Gm) (p : Program) (s : State) (m : MethodId) (args : Array Value) (c : Code) (cc : ByteArray) (nL : Nat) (own : String) : Prop :=
  p.tables.exec = Jvm.exec ∧ c.code = cc ∧ c.maxLocals = nL ∧ s.vm.findClass own = some m.cls ∧ (∀ w ∈ wx_T, w.before args s = true) ∧ gK g s
theorem Cx.hA {g : Gm} {p : Program} {s : State} {m : MethodId} {args : Array Value} {c : Code} {cc : ByteArray} {nL : Nat} {own : String} (h : Cx g p s m args c cc nL own) : ∀ q, s.heap.size ≤ q → gA g q := fun _ z => Nat.le_trans h.2.2.2.2.2.2.2.1 z
section PX
variable {p : Program} {l : Launch} {e : Env} {R : Room} {s : State} {m : MethodId} {args : Array Value} {below : List Frame} {meth : Method} {c : Code} {H : Heap} {locs : List Loc} {cells slots : Nat} {Q : State → Prop}
variable {cc : ByteArray} {pc nL : Nat} {ls : Array Slot} {rest : List Value} {a : Nat} {g : Gm} {h : Hp} {own : String}
/-- where a field's link stands: in the words, or in a nest's -/
def fLink (own : String) (index : Nat) (ref : String) (f : String × String × String × Bool) (host : String) : Bool → Prop
  | false => Cond.fieldLink own index ref f.2.1 f.2.2.1 ∈ wx_T
  | true => Cond.fieldLinkNest own index ref f.2.1 f.2.2.1 host ∈ wx_N
def fSame (ref : String) (f : String × String × String × Bool) : Prop := f.1 = ref ∨ Cond.sameField ref f.1 f.2.1 f.2.2.1 ∈ wx_T
theorem fSame.use {ref : String} {f : String × String × String × Bool} (hs : fSame ref f) (hts : ∀ w ∈ wx_T, w.before args s = true) : ∀ x, s.fieldFound? f.1 f.2.1 f.2.2.1 = some x → s.fieldFound? ref f.2.1 f.2.2.1 = some x := by
  intro x hx
  rcases hs with hs | hs
  · rw [← hs]; exact hx
  · exact u_same (hts _ hs) x hx
theorem px_get (C0 : Cx g p s m args c cc nL own) (hG : GH g h H) {ref C host : String} {T : u_T} {N ci index : Nat} {nest : Bool} (hkd : hK h a = ci + 1) (hci : ci < 20) (hc : vwCl[ci]? = some (C, T, N)) (hin : ∀ w ∈ u_ws C T N, w ∈ wx_T) (k : Nat) (hk : k < N) (hlink : fLink own index ref (T k) host nest) (hsame : fSame ref (T k)) {v : Value} (hv : (fls ci h a)[k]? = some v) (hdg : decode cc pc = .ok (.getfield index, 3))
    (kk : W p l e R s m args below meth c H locs cells slots Q (F0 m (pc + 3) ls (v :: rest))) : W p l e R s m args below meth c H locs cells slots Q (F0 m pc ls (.ref a :: rest)) := by
  obtain ⟨hx, hb, hml, hown, hts, hKK, hNN, hsz, hao, hgo, hgx⟩ := C0
  obtain ⟨L, hL, hP, hD⟩ := hG
  obtain ⟨q0, hq⟩ := GH.find (H := H) hL (by rw [hkd]; omega) (cel_obj (g := g) hkd hci)
  cases nest with
  | false => exact va_get hx hb hts hin hown hKK hP q0 hq hc k hk (hts _ hlink) (hsame.use hts) hv hdg kk
  | true => exact va_getN hx hb hts hin hown hKK hP q0 hq hc k hk (va_Nw.use rfl (hNN _ hlink)) (hsame.use hts) hv hdg kk
theorem px_put (C0 : Cx g p s m args c cc nL own) (hG : GH g h H) (hS : va_S (gA g) s.heap H locs) {ref C host : String} {T : u_T} {N ci index : Nat} {nest : Bool} (hkd : hK h a = ci + 1) (hci : ci < 20) (hc : vwCl[ci]? = some (C, T, N)) (hin : ∀ w ∈ u_ws C T N, w ∈ wx_T) (ty0 : Nat → FieldType) (hty : ∀ k, k < N → parseFieldDescriptor (T k).2.2.1 = some (ty0 k)) (hnm : ∀ a, a < N → ∀ b, b < N → a ≠ b → (T a).2.1 ≠ (T b).2.1) (hN : vwN ci = N) (k : Nat) (hk : k < N) (hlink : fLink own index ref (T k) host nest) (hsame : fSame ref (T k)) (hfin : (T k).2.2.2 = false ∨ ((T k).2.2.2 = true ∧ nest = false ∧ meth.name = "<init>" ∧ (T k).1 = own)) {ty : FieldType} {v : Value} (hd : parseFieldDescriptor (T k).2.2.1 = some ty) (hn : narrow ty v = v) (hfit : fits ty v = true)
    {h' : Hp} (hkk : ∀ b, hK h' b = hK h b) (hset : fls ci h' a = (fls ci h a).set k v) (hoth : ∀ b, b ≠ a → cel g h' b = cel g h b) (hdg : decode cc pc = .ok (.putfield index, 3))
    (kk : ∀ (H1 : Heap) (locs1 : List Loc), GH g h' H1 → va_S (gA g) s.heap H1 locs1 → W p l e R s m args below meth c H1 locs1 cells slots Q (F0 m (pc + 3) ls rest)) : W p l e R s m args below meth c H locs cells slots Q (F0 m pc ls (v :: .ref a :: rest)) := by
  obtain ⟨hx, hb, hml, hown, hts, hKK, hNN, hsz, hao, hgo, hgx⟩ := C0
  obtain ⟨L, hL, hP, hD⟩ := hG
  obtain ⟨q0, hq⟩ := GH.find (H := H) hL (by rw [hkd]; omega) (cel_obj (g := g) hkd hci)
  have he : cel g h' a = .inr (ci, (fls ci h a).set k v) := by rw [cel_obj (by rw [hkk]; exact hkd) hci, hset]
  have fin : ∀ (H1 : Heap) (locs1 : List Loc), va_P g.1 vwCl ((va_pl L (cel g h)).set q0 (a, .inr (ci, (fls ci h a).set k v))) H1 → va_D (gA g) ((va_pl L (cel g h)).set q0 (a, .inr (ci, (fls ci h a).set k v))) → va_S (gA g) s.heap H1 locs1 → W p l e R s m args below meth c H1 locs1 cells slots Q (F0 m (pc + 3) ls rest) := fun H1 locs1 hP1 hD1 hS1 => kk H1 locs1 (GH.put hL hD hq (cel_obj hkd hci) hkk he hoth hP1 hD1) hS1
  rcases hfin with hfin | ⟨hfin, hne, hin2, hdecl⟩
  · cases nest with
    | false => exact va_put hx hb hts hin ty0 hty hnm hown hKK hP hD hS q0 hq hc k hk (hts _ hlink) (hsame.use hts) hfin hd hn hfit (by rw [fls_len, hN]; exact hk) hdg fin
    | true => exact va_putN hx hb hts hin ty0 hty hnm hown hKK hP hD hS q0 hq hc k hk (va_Nw.use rfl (hNN _ hlink)) (hsame.use hts) hfin hd hn hfit (by rw [fls_len, hN]; exact hk) hdg fin
  · subst hne
    exact va_putF hx hb hts hin ty0 hty hnm hown hKK hP hD hS q0 hq hc k hk (hts _ hlink) (hsame.use hts) hfin hin2 hdecl hd hn hfit (by rw [fls_len, hN]; exact hk) hdg fin
theorem px_iald (C0 : Cx g p s m args c cc nL own) (hG : GH g h H) (hkd : hK h a = 21) {i : Int32} (hin : vp_in i (hN h a)) (hdg : decode cc pc = .ok (.iaload, 1))
    (kk : W p l e R s m args below meth c H locs cells slots Q (F0 m (pc + 1) ls (.int (hI h a i.toNatClampNeg) :: rest))) : W p l e R s m args below meth c H locs cells slots Q (F0 m pc ls (.int i :: .ref a :: rest)) := by
  obtain ⟨hx, hb, hml, hown, hts, hKK, hNN, hsz, hao, hgo, hgx⟩ := C0
  obtain ⟨L, hL, hP, hD⟩ := hG
  obtain ⟨q0, hq⟩ := GH.find (H := H) hL (by rw [hkd]; omega) (cel_21 (g := g) hkd)
  exact va_iald hx hb hKK hP q0 0 hq rfl hin hdg kk
theorem px_lald (C0 : Cx g p s m args c cc nL own) (hG : GH g h H) (hkd : hK h a = 22) {i : Int32} (hin : vp_in i (hN h a)) (hdg : decode cc pc = .ok (.laload, 1))
    (kk : W p l e R s m args below meth c H locs cells slots Q (F0 m (pc + 1) ls (.long (hJ h a i.toNatClampNeg) :: rest))) : W p l e R s m args below meth c H locs cells slots Q (F0 m pc ls (.int i :: .ref a :: rest)) := by
  obtain ⟨hx, hb, hml, hown, hts, hKK, hNN, hsz, hao, hgo, hgx⟩ := C0
  obtain ⟨L, hL, hP, hD⟩ := hG
  obtain ⟨q0, hq⟩ := GH.find (H := H) hL (by rw [hkd]; omega) (cel_22 (g := g) hkd)
  exact va_lald hx hb hKK hP q0 1 hq rfl hin hdg kk
theorem px_zald (C0 : Cx g p s m args c cc nL own) (hG : GH g h H) (hkd : hK h a = 23) {i : Int32} (hin : vp_in i (hN h a)) (hdg : decode cc pc = .ok (.baload, 1))
    (kk : W p l e R s m args below meth c H locs cells slots Q (F0 m (pc + 1) ls (.int (hI h a i.toNatClampNeg) :: rest))) : W p l e R s m args below meth c H locs cells slots Q (F0 m pc ls (.int i :: .ref a :: rest)) := by
  obtain ⟨hx, hb, hml, hown, hts, hKK, hNN, hsz, hao, hgo, hgx⟩ := C0
  obtain ⟨L, hL, hP, hD⟩ := hG
  obtain ⟨q0, hq⟩ := GH.find (H := H) hL (by rw [hkd]; omega) (cel_23 (g := g) hkd)
  exact va_zald hx hb hKK hP q0 2 hq rfl hin hdg kk
theorem px_aald (C0 : Cx g p s m args c cc nL own) (hG : GH g h H) (hkd : hK h a = 24) {i : Int32} (hin : vp_in i (hN h a)) (hdg : decode cc pc = .ok (.aaload, 1))
    (kk : W p l e R s m args below meth c H locs cells slots Q (F0 m (pc + 1) ls (va_rf (hR h a i.toNatClampNeg) :: rest))) : W p l e R s m args below meth c H locs cells slots Q (F0 m pc ls (.int i :: .ref a :: rest)) := by
  obtain ⟨hx, hb, hml, hown, hts, hKK, hNN, hsz, hao, hgo, hgx⟩ := C0
  obtain ⟨L, hL, hP, hD⟩ := hG
  obtain ⟨q0, hq⟩ := GH.find (H := H) hL (by rw [hkd]; omega) (cel_24 (g := g) hkd)
  exact va_aldq hx hb hKK hP q0 3 hq rfl hin hdg kk
theorem px_iast (C0 : Cx g p s m args c cc nL own) (hG : GH g h H) (hS : va_S (gA g) s.heap H locs) (hkd : hK h a = 21) {i x : Int32} (hin : vp_in i (hN h a)) (hdg : decode cc pc = .ok (.iastore, 1))
    (kk : ∀ (H1 : Heap) (locs1 : List Loc), GH g (sI h a i.toNatClampNeg x) H1 → va_S (gA g) s.heap H1 locs1 → W p l e R s m args below meth c H1 locs1 cells slots Q (F0 m (pc + 1) ls rest)) : W p l e R s m args below meth c H locs cells slots Q (F0 m pc ls (.int x :: .int i :: .ref a :: rest)) := by
  obtain ⟨hx, hb, hml, hown, hts, hKK, hNN, hsz, hao, hgo, hgx⟩ := C0
  obtain ⟨L, hL, hP, hD⟩ := hG
  obtain ⟨q0, hq⟩ := GH.find (H := H) hL (by rw [hkd]; omega) (cel_21 (g := g) hkd)
  refine va_iast hx hb hKK hP hD hS q0 0 hq rfl hin hdg fun H1 locs1 hP1 hD1 hS1 => kk H1 locs1 (GH.put hL hD hq (cel_21 hkd) (fun _ => rfl) ?_ (fun b e => cel_sI e) hP1 hD1) hS1
  rw [cel_21 (h := sI h a i.toNatClampNeg x) hkd, hI_sI, va_up_self]
  rfl
theorem px_zast (C0 : Cx g p s m args c cc nL own) (hG : GH g h H) (hS : va_S (gA g) s.heap H locs) (hkd : hK h a = 23) {i x : Int32} (hin : vp_in i (hN h a)) (hx01 : vp_nar .boolean x = x) (hdg : decode cc pc = .ok (.bastore, 1))
    (kk : ∀ (H1 : Heap) (locs1 : List Loc), GH g (sI h a i.toNatClampNeg x) H1 → va_S (gA g) s.heap H1 locs1 → W p l e R s m args below meth c H1 locs1 cells slots Q (F0 m (pc + 1) ls rest)) : W p l e R s m args below meth c H locs cells slots Q (F0 m pc ls (.int x :: .int i :: .ref a :: rest)) := by
  obtain ⟨hx, hb, hml, hown, hts, hKK, hNN, hsz, hao, hgo, hgx⟩ := C0
  obtain ⟨L, hL, hP, hD⟩ := hG
  obtain ⟨q0, hq⟩ := GH.find (H := H) hL (by rw [hkd]; omega) (cel_23 (g := g) hkd)
  refine va_zast hx hb hKK hP hD hS q0 2 hq rfl hin hdg fun H1 locs1 hP1 hD1 hS1 => kk H1 locs1 (GH.put hL hD hq (cel_23 hkd) (fun _ => rfl) ?_ (fun b e => cel_sI e) hP1 hD1) hS1
  rw [cel_23 (h := sI h a i.toNatClampNeg x) hkd, hI_sI, va_up_self, hx01]
  rfl
theorem px_last (C0 : Cx g p s m args c cc nL own) (hG : GH g h H) (hS : va_S (gA g) s.heap H locs) (hkd : hK h a = 22) {i : Int32} {x : Int64} (hin : vp_in i (hN h a)) (hdg : decode cc pc = .ok (.lastore, 1))
    (kk : ∀ (H1 : Heap) (locs1 : List Loc), GH g (sJ h a i.toNatClampNeg x) H1 → va_S (gA g) s.heap H1 locs1 → W p l e R s m args below meth c H1 locs1 cells slots Q (F0 m (pc + 1) ls rest)) : W p l e R s m args below meth c H locs cells slots Q (F0 m pc ls (.long x :: .int i :: .ref a :: rest)) := by
  obtain ⟨hx, hb, hml, hown, hts, hKK, hNN, hsz, hao, hgo, hgx⟩ := C0
  obtain ⟨L, hL, hP, hD⟩ := hG
  obtain ⟨q0, hq⟩ := GH.find (H := H) hL (by rw [hkd]; omega) (cel_22 (g := g) hkd)
  refine va_last hx hb hKK hP hD hS q0 1 hq rfl hin hdg fun H1 locs1 hP1 hD1 hS1 => kk H1 locs1 (GH.put hL hD hq (cel_22 hkd) (fun _ => rfl) ?_ (fun b e => cel_sJ e) hP1 hD1) hS1
  rw [cel_22 (h := sJ h a i.toNatClampNeg x) hkd, hJ_sJ, va_up_self]
  rfl
/-- null is stored -/
theorem px_aastN (C0 : Cx g p s m args c cc nL own) (hG : GH g h H) (hS : va_S (gA g) s.heap H locs) (hkd : hK h a = 24) {i : Int32} (hin : vp_in i (hN h a)) (hdg : decode cc pc = .ok (.aastore, 1))
    (kk : ∀ (H1 : Heap) (locs1 : List Loc), GH g (sR h a i.toNatClampNeg none) H1 → va_S (gA g) s.heap H1 locs1 → W p l e R s m args below meth c H1 locs1 cells slots Q (F0 m (pc + 1) ls rest)) : W p l e R s m args below meth c H locs cells slots Q (F0 m pc ls (.null :: .int i :: .ref a :: rest)) := by
  obtain ⟨hx, hb, hml, hown, hts, hKK, hNN, hsz, hao, hgo, hgx⟩ := C0
  obtain ⟨L, hL, hP, hD⟩ := hG
  obtain ⟨q0, hq⟩ := GH.find (H := H) hL (by rw [hkd]; omega) (cel_24 (g := g) hkd)
  refine va_astqN hx hb hKK hP hD hS q0 3 hq rfl hin hdg fun H1 locs1 hP1 hD1 hS1 => kk H1 locs1 (GH.put hL hD hq (cel_24 hkd) (fun _ => rfl) ?_ (fun b e => cel_sR e) hP1 hD1) hS1
  rw [cel_24 (h := sR h a i.toNatClampNeg none) hkd, hR_sR, va_up_self]
  rfl
theorem px_alen (C0 : Cx g p s m args c cc nL own) (hG : GH g h H) (hkd : 21 ≤ hK h a ∧ hK h a ≤ 24) (hdg : decode cc pc = .ok (.arraylength, 1))
    (kk : W p l e R s m args below meth c H locs cells slots Q (F0 m (pc + 1) ls (.int (nI (hN h a)) :: rest))) : W p l e R s m args below meth c H locs cells slots Q (F0 m pc ls (.ref a :: rest)) := by
  obtain ⟨hx, hb, hml, hown, hts, hKK, hNN, hsz, hao, hgo, hgx⟩ := C0
  obtain ⟨L, hL, hP, hD⟩ := hG
  rcases (show hK h a = 21 ∨ hK h a = 22 ∨ hK h a = 23 ∨ hK h a = 24 by omega) with z | z | z | z
  · obtain ⟨q0, hq⟩ := GH.find (H := H) hL (by rw [z]; omega) (cel_21 (g := g) z)
    exact va_alen hx hb hKK hP q0 0 hq rfl rfl hdg kk
  · obtain ⟨q0, hq⟩ := GH.find (H := H) hL (by rw [z]; omega) (cel_22 (g := g) z)
    exact va_alen hx hb hKK hP q0 1 hq rfl rfl hdg kk
  · obtain ⟨q0, hq⟩ := GH.find (H := H) hL (by rw [z]; omega) (cel_23 (g := g) z)
    exact va_alen hx hb hKK hP q0 2 hq rfl rfl hdg kk
  · obtain ⟨q0, hq⟩ := GH.find (H := H) hL (by rw [z]; omega) (cel_24 (g := g) z)
    exact va_alen hx hb hKK hP q0 3 hq rfl rfl hdg kk
/-- the class of a cell that is called -/
theorem px_recv (C0 : Cx g p s m args c cc nL own) (hG : GH g h H) {ci : Nat} {q : vw_C} (hkd : hK h a = ci + 1) (hci : ci < 20) (hc : vwCl[ci]? = some q) : ∃ cell : Cell, H[a]? = some cell ∧ cell.vm.isStatics = false ∧ s.vm.findClass q.1 = some cell.cls := by
  obtain ⟨hx, hb, hml, hown, hts, hKK, hNN, hsz, hao, hgo, hgx⟩ := C0
  obtain ⟨L, hL, hP, hD⟩ := hG
  obtain ⟨q0, hq⟩ := GH.find (H := H) hL (by rw [hkd]; omega) (cel_obj (g := g) hkd hci)
  exact va_recv hKK hP hc hq
/-! references that may be null -/
theorem px_aloadq (hexec : p.tables.exec = Jvm.exec) (hb : c.code = cc) {i : Nat} {r : Option Nat} (hdg : decode cc pc = .ok (.aload i, 2)) (hl : ls[i]? = some (.val (va_rf r)))
    (k : W p l e R s m args below meth c H locs cells slots Q (F0 m (pc + 2) ls (va_rf r :: rest))) : W p l e R s m args below meth c H locs cells slots Q (F0 m pc ls rest) := by
  cases r with
  | none => exact lv_aloadN hexec hb hdg hl k
  | some x => exact lv_aload hexec hb hdg hl k
theorem px_aload_nq (hexec : p.tables.exec = Jvm.exec) (hb : c.code = cc) {j : Fin 4} {i : Nat} {r : Option Nat} (hdg : decode cc pc = .ok (.aload_n j, 1)) (hi : (j : Nat) = i) (hl : ls[i]? = some (.val (va_rf r)))
    (k : W p l e R s m args below meth c H locs cells slots Q (F0 m (pc + 1) ls (va_rf r :: rest))) : W p l e R s m args below meth c H locs cells slots Q (F0 m pc ls rest) := by
  cases r with
  | none => exact lv_aload_nN hexec hb hdg hi hl k
  | some x => exact lv_aload_n hexec hb hdg hi hl k
theorem px_astoreq (hexec : p.tables.exec = Jvm.exec) (hb : c.code = cc) {i nL : Nat} {r : Option Nat} {lv lv' : List (Nat × Value)} (hdg : decode cc pc = .ok (.astore i, 2)) (hh : lv_has ls nL lv) (hn : i < nL) (hl : (i, va_rf r) :: lv.filter (fun q => !(q.1 == i) && !(q.1 + 1 == i && q.2.category == 2)) = lv')
    (k : ∀ ls' : Array Slot, lv_has ls' nL lv' → W p l e R s m args below meth c H locs cells slots Q (F0 m (pc + 2) ls' rest)) : W p l e R s m args below meth c H locs cells slots Q (F0 m pc ls (va_rf r :: rest)) := by
  cases r with
  | none => exact lv_astoreN hexec hb hdg hh hn hl k
  | some x => exact lv_astore hexec hb hdg hh hn hl k
theorem px_astore_nq (hexec : p.tables.exec = Jvm.exec) (hb : c.code = cc) {j : Fin 4} {i nL : Nat} {r : Option Nat} {lv lv' : List (Nat × Value)} (hdg : decode cc pc = .ok (.astore_n j, 1)) (hi : (j : Nat) = i) (hh : lv_has ls nL lv) (hn : i < nL) (hl : (i, va_rf r) :: lv.filter (fun q => !(q.1 == i) && !(q.1 + 1 == i && q.2.category == 2)) = lv')
    (k : ∀ ls' : Array Slot, lv_has ls' nL lv' → W p l e R s m args below meth c H locs cells slots Q (F0 m (pc + 1) ls' rest)) : W p l e R s m args below meth c H locs cells slots Q (F0 m pc ls (va_rf r :: rest)) := by
  cases r with
  | none => exact lv_astore_nN hexec hb hdg hi hh hn hl k
  | some x => exact lv_astore_n hexec hb hdg hi hh hn hl k
theorem px_ifnullq (hexec : p.tables.exec = Jvm.exec) (hb : c.code = cc) {r : Option Nat} {off : Int} {tgt : Nat} (hdg : decode cc pc = .ok (.ifnull off, 3)) (ht : (pc : Int) + off = (tgt : Int)) (kn : r = none → W p l e R s m args below meth c H locs cells slots Q (F0 m tgt ls rest)) (ks : ∀ x, r = some x → W p l e R s m args below meth c H locs cells slots Q (F0 m (pc + 3) ls rest)) : W p l e R s m args below meth c H locs cells slots Q (F0 m pc ls (va_rf r :: rest)) := by
  cases r with
  | none => exact lv_ifnullN hexec hb hdg ht (kn rfl)
  | some x => exact lv_ifnull hexec hb hdg (ks x rfl)
theorem px_ifnonnullq (hexec : p.tables.exec = Jvm.exec) (hb : c.code = cc) {r : Option Nat} {off : Int} {tgt : Nat} (hdg : decode cc pc = .ok (.ifnonnull off, 3)) (ht : (pc : Int) + off = (tgt : Int)) (kn : r = none → W p l e R s m args below meth c H locs cells slots Q (F0 m (pc + 3) ls rest)) (ks : ∀ x, r = some x → W p l e R s m args below meth c H locs cells slots Q (F0 m tgt ls rest)) : W p l e R s m args below meth c H locs cells slots Q (F0 m pc ls (va_rf r :: rest)) := by
  cases r with
  | none => exact lv_ifnonnullN hexec hb hdg (kn rfl)
  | some x => exact lv_ifnonnull hexec hb hdg ht (ks x rfl)
end PX
end
section
/-! Entry, ends and calls over the abstract heap -/
theorem wx_good {y : MethodName} {b : ByteArray} {n : Nat} {r : Option FieldType} (h : Cond.code y b n r ∈ wx_T) : GoodIn wx_T (Cond.code y b n r :: wx_T) := by
  intro w hw
  have hw' : w ∈ wx_T := by
    rcases List.mem_cons.mp hw with e | e
    · rw [e]; exact h
    · exact e
  exact ⟨hw', good_of_word (List.mem_filter.mp hw').2⟩
abbrev rmm (fr lc mc ms : Nat) : Room := { frames := fr, cells := mc, slots := ms, locals := lc }
/-- a method's words: its code, and all -/
abbrev ww (y : MethodName) (b : ByteArray) (n : Nat) (r : Option FieldType) : List Cond := Cond.code y b n r :: wx_T
theorem en_met {l : Launch} {y : MethodName} {bytes : ByteArray} {nL fr lc mc ms : Nat} {ret : Option FieldType} {g : Gm} {h : Hp} {av : List Value} {Qc : Array Value → State → Outcome → State → Prop} {free : Addr → Prop} (hy : plainName y.cls = true)
    (body : ∀ (p : Program) (e : Env) (s : State) (m : MethodId) (below : List Frame) (meth : Method) (c : Code), Cx g p s m av.toArray c bytes nL y.cls → meth.sig.returnType = ret → meth.locks = false → meth.name = y.name → GH g h s.heap →
      W p l e (rmm fr lc mc ms) s m av.toArray below meth c s.heap [] 0 0 (MQ below Qc av.toArray s mc ms free) (entryFrame m av.toArray nL)) : Met l y (ww y bytes nL ret) (rmm fr lc mc ms) (va_Pc av (gS g h)) Qc mc ms free := by
  refine Met.ofW (cc := bytes) (maxL := nL) (ret := ret) hy rfl ?_
  intro p e s m args below meth c s₁ B hml hv
  obtain ⟨rfl, hgk, hgh⟩ := hv
  have hts := atoms_spec (ws := ww y bytes nL ret) B.pre
  exact body p e s m below meth c ⟨B.exec, B.bytes, hml, findClass_of_methodNamed B.named, fun w hw => hts w (List.mem_cons_of_mem _ hw), hgk⟩ B.returns B.notSynchronized (name_of_methodNamed B.named B.method).1 hgh
theorem en_metF {l : Launch} {y : MethodName} {bytes : ByteArray} {nL fr lc mc ms : Nat} {ret : Option FieldType} {g : Gm} {h : Hp} {av : List Value} {Qc : Array Value → State → Outcome → State → Prop} {free : Addr → Prop} (hy : plainFor y = true)
    (body : ∀ (p : Program) (e : Env) (s : State) (m : MethodId) (below : List Frame) (meth : Method) (c : Code), Cx g p s m av.toArray c bytes nL y.cls → meth.sig.returnType = ret → meth.locks = false → meth.name = y.name → GH g h s.heap →
      W p l e (rmm fr lc mc ms) s m av.toArray below meth c s.heap [] 0 0 (MQ below Qc av.toArray s mc ms free) (entryFrame m av.toArray nL)) : Met l y (ww y bytes nL ret) (rmm fr lc mc ms) (va_Pc av (gS g h)) Qc mc ms free := by
  refine va_MetF (cc := bytes) (maxL := nL) (ret := ret) hy rfl ?_
  intro p e s m args below meth c s₁ B hml hv
  obtain ⟨rfl, hgk, hgh⟩ := hv
  have hts := atoms_spec (ws := ww y bytes nL ret) B.pre
  exact body p e s m below meth c ⟨B.exec, B.bytes, hml, findClass_of_methodNamed B.named, fun w hw => hts w (List.mem_cons_of_mem _ hw), hgk⟩ B.returns B.notSynchronized (name_of_methodNamed B.named B.method).1 hgh
section PE
variable {p : Program} {l : Launch} {e : Env} {R : Room} {s : State} {m : MethodId} {args : Array Value} {below : List Frame} {meth : Method} {c : Code} {H : Heap} {locs : List Loc} {cells slots : Nat} {Q : State → Prop}
variable {cc : ByteArray} {pc nL : Nat} {ls : Array Slot} {rest : List Value} {a : Nat} {g : Gm} {h : Hp} {own : String} {mc ms : Nat}
theorem re_i (C0 : Cx g p s m args c cc nL own) (hG : GH g h H) (hS : va_S (gA g) s.heap H locs) (hr : meth.sig.returnType = some .int) (hlk : meth.locks = false) (hm : cells ≤ mc ∧ slots ≤ ms) {post : Int32 → Hp → Prop} {v : Int32} (hp : post v h) (hdg : decode cc pc = .ok (.ireturn, 1)) :
    W p l e R s m args below meth c H locs cells slots (MQ below (va_Qi post (gS g) (gA g)) args s mc ms (gA g)) (F0 m pc ls [.int v]) := by
  obtain ⟨hx, hb, hml, hown, hts, hgk⟩ := C0
  refine W.widen hm.1 hm.2 ?_
  exact W.iret hx hb hr (fun t ht hW => ⟨⟨v, h, rfl, hp, gK.warm hW (by rw [ht]; exact hS.1) (by rw [ht]; exact hS.2.1) hgk, by rw [ht]; exact hG⟩, hS.F ht⟩) hS.2.2 hdg hlk
theorem re_z (C0 : Cx g p s m args c cc nL own) (hG : GH g h H) (hS : va_S (gA g) s.heap H locs) (hr : meth.sig.returnType = some .boolean) (hlk : meth.locks = false) (hm : cells ≤ mc ∧ slots ≤ ms) {post : Int32 → Hp → Prop} {v : Int32} (hv : vp_nar .boolean v = v) (hp : post v h) (hdg : decode cc pc = .ok (.ireturn, 1)) :
    W p l e R s m args below meth c H locs cells slots (MQ below (va_Qi post (gS g) (gA g)) args s mc ms (gA g)) (F0 m pc ls [.int v]) := by
  obtain ⟨hx, hb, hml, hown, hts, hgk⟩ := C0
  refine W.widen hm.1 hm.2 ?_
  refine W.zret (ty := .boolean) hx hb hr ?_ (fun t ht hW => ⟨⟨v, h, rfl, hp, gK.warm hW (by rw [ht]; exact hS.1) (by rw [ht]; exact hS.2.1) hgk, by rw [ht]; exact hG⟩, hS.F ht⟩) hS.2.2 hdg hlk
  have e1 : narrow .boolean (.int v) = .int (vp_nar .boolean v) := rfl
  rw [e1, hv]
theorem re_l (C0 : Cx g p s m args c cc nL own) (hG : GH g h H) (hS : va_S (gA g) s.heap H locs) (hr : meth.sig.returnType = some .long) (hlk : meth.locks = false) (hm : cells ≤ mc ∧ slots ≤ ms) {post : Int64 → Hp → Prop} {v : Int64} (hp : post v h) (hdg : decode cc pc = .ok (.lreturn, 1)) :
    W p l e R s m args below meth c H locs cells slots (MQ below (va_Ql post (gS g) (gA g)) args s mc ms (gA g)) (F0 m pc ls [.long v]) := by
  obtain ⟨hx, hb, hml, hown, hts, hgk⟩ := C0
  refine W.widen hm.1 hm.2 ?_
  exact W.lret hx hb hr (fun t ht hW => ⟨⟨v, h, rfl, hp, gK.warm hW (by rw [ht]; exact hS.1) (by rw [ht]; exact hS.2.1) hgk, by rw [ht]; exact hG⟩, hS.F ht⟩) hS.2.2 hdg hlk
theorem re_v (C0 : Cx g p s m args c cc nL own) (hG : GH g h H) (hS : va_S (gA g) s.heap H locs) (hr : meth.sig.returnType = none) (hlk : meth.locks = false) (hm : cells ≤ mc ∧ slots ≤ ms) {post : Hp → Prop} (hp : post h) (hdg : decode cc pc = .ok (.return_, 1)) :
    W p l e R s m args below meth c H locs cells slots (MQ below (va_Qv post (gS g) (gA g)) args s mc ms (gA g)) (F0 m pc ls []) := by
  obtain ⟨hx, hb, hml, hown, hts, hgk⟩ := C0
  refine W.widen hm.1 hm.2 ?_
  exact W.vret hx hb hr (fun t ht hW => ⟨⟨h, rfl, hp, gK.warm hW (by rw [ht]; exact hS.1) (by rw [ht]; exact hS.2.1) hgk, by rw [ht]; exact hG⟩, hS.F ht⟩) hS.2.2 hdg hlk
theorem re_q (C0 : Cx g p s m args c cc nL own) (hG : GH g h H) (hS : va_S (gA g) s.heap H locs) {rt : FieldType} (hr : meth.sig.returnType = some rt) (hrt : (∃ n, rt = .object n) ∨ ∃ t, rt = .array t) (hlk : meth.locks = false) (hm : cells ≤ mc ∧ slots ≤ ms) {post : Option Nat → Hp → Prop} {v : Option Nat} (hp : post v h) (hdg : decode cc pc = .ok (.areturn, 1)) :
    W p l e R s m args below meth c H locs cells slots (MQ below (va_Qq post (gS g) (gA g)) args s mc ms (gA g)) (F0 m pc ls [va_rf v]) := by
  obtain ⟨hx, hb, hml, hown, hts, hgk⟩ := C0
  refine W.widen hm.1 hm.2 ?_
  exact W.aret hx hb hr hrt (va_rf_or v) (fun t ht hW => ⟨⟨v, h, rfl, hp, gK.warm hW (by rw [ht]; exact hS.1) (by rw [ht]; exact hS.2.1) hgk, by rw [ht]; exact hG⟩, hS.F ht⟩) hS.2.2 hdg hlk
variable {y : MethodName} {bytes : ByteArray} {maxL fr lc n index : Nat} {ret : Option FieldType} {Qc : Array Value → State → Outcome → State → Prop} {b : Nat} {As st0 : List Value} {host : String} {free : Addr → Prop}
/-- where a method's link stands -/
def mLink (own : String) (index : Nat) (y : MethodName) (host : String) : Bool → Prop
  | false => Cond.methodLink own index y ∈ wx_T
  | true => Cond.methodLinkNest own index y host ∈ wx_N
def mDesc (y : MethodName) (n : Nat) : Prop := y.cls ≠ "java/lang/invoke/MethodHandle" ∧ y.cls ≠ "java/lang/invoke/VarHandle" ∧ (parseMethodDescriptor y.desc).map (fun d => d.parameters.length) = some n
theorem rn_V (C0 : Cx g p s m args c cc nL own) (hG : GH g h H) (hS : va_S (gA g) s.heap H locs) (hM : Met l y (ww y bytes maxL ret) (rmm fr lc mc ms) (va_Pc (.ref b :: As) (gS g h)) Qc mc ms free) {ci : Nat} {q : vw_C} (hkd : hK h b = ci + 1) (hci : ci < 20) (hc : vwCl[ci]? = some q) (hq : q.1 = y.cls) {nest : Bool}
    (hcode : Cond.code y bytes maxL ret ∈ wx_T) (hl : mLink own index y host nest) (hi : Cond.instanceMethod y ∈ wx_T) (hsel : Cond.selects y.cls y y ∈ wx_T) (hini : Cond.initialized y.cls ∈ wx_T) (hd : mDesc y n) (hR : fr + 1 ≤ R.frames ∧ 8 + (maxL + 11) + lc ≤ R.locals)
    (hn : As.length = n) (hsize : ls.size = nL) (hstack : st0 = As.reverse ++ .ref b :: rest) (hW : (rest.map fun v => v.category).sum ≤ 8) (hdg : decode cc pc = .ok (.invokevirtual index, 3)) (hf : cells + mc ≤ R.cells ∧ slots + ms ≤ R.slots) :
    va_Run p l e R s m args below meth c H locs cells slots mc ms (F0 m pc ls st0) rest (Qc (Value.ref b :: As).toArray) free := by
  have hrv := px_recv C0 hG hkd hci hc
  obtain ⟨hx, hb, hml, hown, hts, hgk⟩ := C0
  have hpre : PreV s H y.cls b (va_Pc (.ref b :: As) (gS g h)) As := ⟨gS.blind, by rw [← hq]; exact hrv, fun U hU hWU => ⟨rfl, gK.warm hWU (by rw [hU]; exact hS.1) (by rw [hU]; exact hS.2.1) hgk, by rw [hU]; exact hG⟩⟩
  have hW' : 2 * (F0 m pc ls st0).monitorRoom + (rest.map fun v => v.category).sum ≤ 8 := by
    have e0 : (F0 m pc ls st0).monitorRoom = 0 := rfl
    rw [e0]; omega
  cases nest with
  | false => exact va_runV (ws := ww y bytes maxL ret) (rm := rmm fr lc mc ms) ⟨hx, hb, hml, hown, hts⟩ hM ⟨callB_of n hts (wx_good hcode) rfl rfl rfl (hts _ hini) (hts _ hl) hd hR, hts _ hi, hts _ hsel⟩ hpre rfl hn hsize hstack hW' hdg hf
  | true => exact va_runVN (ws := ww y bytes maxL ret) (rm := rmm fr lc mc ms) ⟨hx, hb, hml, hown, hts⟩ hM ⟨va_cnB n hts (wx_good hcode) rfl rfl rfl (hgk.2.1 _ hl) (hts _ hini) hd hR, hts _ hi, hts _ hsel⟩ hpre rfl hn hsize hstack hW' hdg hf
theorem rn_S (C0 : Cx g p s m args c cc nL own) (hG : GH g h H) (hS : va_S (gA g) s.heap H locs) (hM : Met l y (ww y bytes maxL ret) (rmm fr lc mc ms) (va_Pc As (gS g h)) Qc mc ms free) {nest : Bool}
    (hcode : Cond.code y bytes maxL ret ∈ wx_T) (hl : mLink own index y host nest) (hi : Cond.static y ∈ wx_T) (hini : Cond.initialized y.cls ∈ wx_T) (hd : mDesc y n) (hR : fr + 1 ≤ R.frames ∧ 8 + (maxL + 11) + lc ≤ R.locals)
    (hn : As.length = n) (hsize : ls.size = nL) (hstack : st0 = As.reverse ++ rest) (hW : (rest.map fun v => v.category).sum ≤ 8) (hdg : decode cc pc = .ok (.invokestatic index, 3)) (hf : cells + mc ≤ R.cells ∧ slots + ms ≤ R.slots) :
    va_Run p l e R s m args below meth c H locs cells slots mc ms (F0 m pc ls st0) rest (Qc As.toArray) free := by
  obtain ⟨hx, hb, hml, hown, hts, hgk⟩ := C0
  have hpre : PreS s H (va_Pc As (gS g h)) As := ⟨gS.blind, fun U hU hWU => ⟨rfl, gK.warm hWU (by rw [hU]; exact hS.1) (by rw [hU]; exact hS.2.1) hgk, by rw [hU]; exact hG⟩⟩
  have hW' : 2 * (F0 m pc ls st0).monitorRoom + (rest.map fun v => v.category).sum ≤ 8 := by
    have e0 : (F0 m pc ls st0).monitorRoom = 0 := rfl
    rw [e0]; omega
  cases nest with
  | false => exact va_runS (ws := ww y bytes maxL ret) (rm := rmm fr lc mc ms) ⟨hx, hb, hml, hown, hts⟩ hM ⟨callB_of n hts (wx_good hcode) rfl rfl rfl (hts _ hini) (hts _ hl) hd hR, hts _ hi⟩ hpre rfl hn hsize hstack hW' hdg hf
  | true => exact va_runSN (ws := ww y bytes maxL ret) (rm := rmm fr lc mc ms) ⟨hx, hb, hml, hown, hts⟩ hM ⟨va_cnB n hts (wx_good hcode) rfl rfl rfl (hgk.2.1 _ hl) (hts _ hini) hd hR, hts _ hi, trivial⟩ hpre rfl hn hsize hstack hW' hdg hf
theorem rn_I (C0 : Cx g p s m args c cc nL own) (hG : GH g h H) (hS : va_S (gA g) s.heap H locs) (hM : Met l y (ww y bytes maxL none) (rmm fr lc mc ms) (va_Pc (.ref b :: As) (gS g h)) Qc mc ms free) {nest : Bool}
    (hcode : Cond.code y bytes maxL none ∈ wx_T) (hl : mLink own index y host nest) (hi : Cond.instanceMethod y ∈ wx_T) (hini : Cond.initialized y.cls ∈ wx_T) (hy1 : y.name = "<init>") (hd : mDesc y n) (hR : fr + 1 ≤ R.frames ∧ 8 + (maxL + 11) + lc ≤ R.locals)
    (hn : As.length = n) (hsize : ls.size = nL) (hstack : st0 = As.reverse ++ .ref b :: rest) (hW : (rest.map fun v => v.category).sum ≤ 8) (hdg : decode cc pc = .ok (.invokespecial index, 3)) (hf : cells + mc ≤ R.cells ∧ slots + ms ≤ R.slots) :
    va_Run p l e R s m args below meth c H locs cells slots mc ms (F0 m pc ls st0) rest (Qc (Value.ref b :: As).toArray) free := by
  obtain ⟨hx, hb, hml, hown, hts, hgk⟩ := C0
  have hpre : PreS s H (va_Pc (.ref b :: As) (gS g h)) (.ref b :: As) := ⟨gS.blind, fun U hU hWU => ⟨rfl, gK.warm hWU (by rw [hU]; exact hS.1) (by rw [hU]; exact hS.2.1) hgk, by rw [hU]; exact hG⟩⟩
  have hW' : 2 * (F0 m pc ls st0).monitorRoom + (rest.map fun v => v.category).sum ≤ 8 := by
    have e0 : (F0 m pc ls st0).monitorRoom = 0 := rfl
    rw [e0]; omega
  cases nest with
  | false => exact va_runI (ws := ww y bytes maxL none) (rm := rmm fr lc mc ms) ⟨hx, hb, hml, hown, hts⟩ hM ⟨callB_of n hts (wx_good hcode) rfl rfl rfl (hts _ hini) (hts _ hl) hd hR, hy1, hts _ hi⟩ hpre rfl hn hsize hstack hW' hdg hf
  | true => exact va_runIN (ws := ww y bytes maxL none) (rm := rmm fr lc mc ms) ⟨hx, hb, hml, hown, hts⟩ hM ⟨va_cnB n hts (wx_good hcode) rfl rfl rfl (hgk.2.1 _ hl) (hts _ hini) hd hR, hy1, hts _ hi⟩ hpre rfl hn hsize hstack hW' hdg hf
theorem ca_i (hS : va_S (gA g) s.heap H locs) {post : Int32 → Hp → Prop} {av : Array Value} (hr : va_Run p l e R s m args below meth c H locs cells slots mc ms (F0 m pc ls st0) rest (va_Qi post (gS g) (gA g) av) (gA g))
    (kk : ∀ (r : Int32) (h' : Hp) (H1 : Heap) (locs1 : List Loc), post r h' → GH g h' H1 → va_S (gA g) s.heap H1 locs1 → W p l e R s m args below meth c H1 locs1 (cells + mc) (slots + ms) Q (F0 m (pc + 3) ls (.int r :: rest))) : W p l e R s m args below meth c H locs cells slots Q (F0 m pc ls st0) :=
  va_calli hr hS (fun _ _ z => z) (fun _ z => z) (fun r u t H1 locs1 ht _ hp hB _ _ hS1 => kk r u H1 locs1 hp (by rw [← ht]; exact hB.2) hS1)
theorem ca_l (hS : va_S (gA g) s.heap H locs) {post : Int64 → Hp → Prop} {av : Array Value} (hr : va_Run p l e R s m args below meth c H locs cells slots mc ms (F0 m pc ls st0) rest (va_Ql post (gS g) (gA g) av) (gA g))
    (kk : ∀ (r : Int64) (h' : Hp) (H1 : Heap) (locs1 : List Loc), post r h' → GH g h' H1 → va_S (gA g) s.heap H1 locs1 → W p l e R s m args below meth c H1 locs1 (cells + mc) (slots + ms) Q (F0 m (pc + 3) ls (.long r :: rest))) : W p l e R s m args below meth c H locs cells slots Q (F0 m pc ls st0) :=
  va_calll hr hS (fun _ _ z => z) (fun _ z => z) (fun r u t H1 locs1 ht _ hp hB _ _ hS1 => kk r u H1 locs1 hp (by rw [← ht]; exact hB.2) hS1)
theorem ca_q (hS : va_S (gA g) s.heap H locs) {post : Option Nat → Hp → Prop} {av : Array Value} (hr : va_Run p l e R s m args below meth c H locs cells slots mc ms (F0 m pc ls st0) rest (va_Qq post (gS g) (gA g) av) (gA g))
    (kk : ∀ (r : Option Nat) (h' : Hp) (H1 : Heap) (locs1 : List Loc), post r h' → GH g h' H1 → va_S (gA g) s.heap H1 locs1 → W p l e R s m args below meth c H1 locs1 (cells + mc) (slots + ms) Q (F0 m (pc + 3) ls (va_rf r :: rest))) : W p l e R s m args below meth c H locs cells slots Q (F0 m pc ls st0) :=
  va_callq hr hS (fun _ _ z => z) (fun _ z => z) (fun r u t H1 locs1 ht _ hp hB _ _ hS1 => kk r u H1 locs1 hp (by rw [← ht]; exact hB.2) hS1)
theorem ca_v (hS : va_S (gA g) s.heap H locs) {post : Hp → Prop} {av : Array Value} (hr : va_Run p l e R s m args below meth c H locs cells slots mc ms (F0 m pc ls st0) rest (va_Qv post (gS g) (gA g) av) (gA g))
    (kk : ∀ (h' : Hp) (H1 : Heap) (locs1 : List Loc), post h' → GH g h' H1 → va_S (gA g) s.heap H1 locs1 → W p l e R s m args below meth c H1 locs1 (cells + mc) (slots + ms) Q (F0 m (pc + 3) ls rest)) : W p l e R s m args below meth c H locs cells slots Q (F0 m pc ls st0) :=
  va_callv hr hS (fun _ _ z => z) (fun _ z => z) (fun u t H1 locs1 ht _ hp hB _ _ hS1 => kk u H1 locs1 hp (by rw [← ht]; exact hB.2) hS1)
/-! calls and ends of methods that write nothing: the heap is the same -/
theorem cs_i {post : Int32 → Prop} {av : Array Value} (hr : va_Run p l e R s m args below meth c H locs cells slots 0 0 (F0 m pc ls st0) rest (vp_Si post av) (fun _ => False))
    (kk : ∀ r : Int32, post r → W p l e R s m args below meth c H locs cells slots Q (F0 m (pc + 3) ls (.int r :: rest))) : W p l e R s m args below meth c H locs cells slots Q (F0 m pc ls st0) := by
  intro T hT X
  obtain ⟨v, st₀, t, T', L, h0, X', hL, e1, e2, ⟨r, hv, hp, hh⟩, st⟩ := hr T hT X
  cases hv
  have hLn : L = [] := List.eq_nil_iff_forall_not_mem.mpr (fun q hq => hL q hq)
  subst hLn
  rw [List.append_nil] at X'
  obtain ⟨t2, a1, b1⟩ := kk r hp T' (by rw [e1, hh, h0]) X'
  exact ⟨t2, st t2 a1, b1⟩
theorem cs_l {post : Int64 → Prop} {av : Array Value} (hr : va_Run p l e R s m args below meth c H locs cells slots 0 0 (F0 m pc ls st0) rest (vp_Sl post av) (fun _ => False))
    (kk : ∀ r : Int64, post r → W p l e R s m args below meth c H locs cells slots Q (F0 m (pc + 3) ls (.long r :: rest))) : W p l e R s m args below meth c H locs cells slots Q (F0 m pc ls st0) := by
  intro T hT X
  obtain ⟨v, st₀, t, T', L, h0, X', hL, e1, e2, ⟨r, hv, hp, hh⟩, st⟩ := hr T hT X
  cases hv
  have hLn : L = [] := List.eq_nil_iff_forall_not_mem.mpr (fun q hq => hL q hq)
  subst hLn
  rw [List.append_nil] at X'
  obtain ⟨t2, a1, b1⟩ := kk r hp T' (by rw [e1, hh, h0]) X'
  exact ⟨t2, st t2 a1, b1⟩
theorem cs_q {post : Option Nat → Prop} {av : Array Value} (hr : va_Run p l e R s m args below meth c H locs cells slots 0 0 (F0 m pc ls st0) rest (va_Sq post av) (fun _ => False))
    (kk : ∀ r : Option Nat, post r → W p l e R s m args below meth c H locs cells slots Q (F0 m (pc + 3) ls (va_rf r :: rest))) : W p l e R s m args below meth c H locs cells slots Q (F0 m pc ls st0) := by
  intro T hT X
  obtain ⟨v, st₀, t, T', L, h0, X', hL, e1, e2, ⟨r, hv, hp, hh⟩, st⟩ := hr T hT X
  cases hv
  have hLn : L = [] := List.eq_nil_iff_forall_not_mem.mpr (fun q hq => hL q hq)
  subst hLn
  rw [List.append_nil] at X'
  obtain ⟨t2, a1, b1⟩ := kk r hp T' (by rw [e1, hh, h0]) X'
  exact ⟨t2, st t2 a1, b1⟩
/-- nothing is answered, nothing is written -/
def vs_V (post : Prop) : Array Value → State → Outcome → State → Prop := fun _ st o t => o = .returned none ∧ post ∧ t.heap = st.heap
theorem cs_v {post : Prop} {av : Array Value} (hr : va_Run p l e R s m args below meth c H locs cells slots 0 0 (F0 m pc ls st0) rest (vs_V post av) (fun _ => False))
    (kk : post → W p l e R s m args below meth c H locs cells slots Q (F0 m (pc + 3) ls rest)) : W p l e R s m args below meth c H locs cells slots Q (F0 m pc ls st0) := by
  intro T hT X
  obtain ⟨v, st₀, t, T', L, h0, X', hL, e1, e2, ⟨hv, hp, hh⟩, st⟩ := hr T hT X
  cases hv
  have hLn : L = [] := List.eq_nil_iff_forall_not_mem.mpr (fun q hq => hL q hq)
  subst hLn
  rw [List.append_nil] at X'
  obtain ⟨t2, a1, b1⟩ := kk hp T' (by rw [e1, hh, h0]) X'
  exact ⟨t2, st t2 a1, b1⟩
theorem rs_i (C0 : Cx g p s m args c cc nL own) (hr : meth.sig.returnType = some .int) (hlk : meth.locks = false) {post : Int32 → Prop} {v : Int32} (hp : post v) (hdg : decode cc pc = .ok (.ireturn, 1)) :
    W p l e R s m args below meth c s.heap [] 0 0 (MQ below (vp_Si post) args s 0 0 (fun _ => False)) (F0 m pc ls [.int v]) :=
  W.iret C0.1 C0.2.1 hr (fun t ht _ => ⟨v, rfl, hp, ht⟩) (fun q hq => by cases hq) hdg hlk
theorem rs_z (C0 : Cx g p s m args c cc nL own) (hr : meth.sig.returnType = some .boolean) (hlk : meth.locks = false) {post : Int32 → Prop} {v : Int32} (hv : vp_nar .boolean v = v) (hp : post v) (hdg : decode cc pc = .ok (.ireturn, 1)) :
    W p l e R s m args below meth c s.heap [] 0 0 (MQ below (vp_Si post) args s 0 0 (fun _ => False)) (F0 m pc ls [.int v]) := by
  refine W.zret (ty := .boolean) C0.1 C0.2.1 hr ?_ (fun t ht _ => ⟨v, rfl, hp, ht⟩) (fun q hq => by cases hq) hdg hlk
  have e1 : narrow .boolean (.int v) = .int (vp_nar .boolean v) := rfl
  rw [e1, hv]
theorem rs_l (C0 : Cx g p s m args c cc nL own) (hr : meth.sig.returnType = some .long) (hlk : meth.locks = false) {post : Int64 → Prop} {v : Int64} (hp : post v) (hdg : decode cc pc = .ok (.lreturn, 1)) :
    W p l e R s m args below meth c s.heap [] 0 0 (MQ below (vp_Sl post) args s 0 0 (fun _ => False)) (F0 m pc ls [.long v]) :=
  W.lret C0.1 C0.2.1 hr (fun t ht _ => ⟨v, rfl, hp, ht⟩) (fun q hq => by cases hq) hdg hlk
theorem rs_v (C0 : Cx g p s m args c cc nL own) (hr : meth.sig.returnType = none) (hlk : meth.locks = false) {post : Prop} (hp : post) (hdg : decode cc pc = .ok (.return_, 1)) :
    W p l e R s m args below meth c s.heap [] 0 0 (MQ below (vs_V post) args s 0 0 (fun _ => False)) (F0 m pc ls []) :=
  W.vret C0.1 C0.2.1 hr (fun t ht _ => ⟨rfl, hp, ht⟩) (fun q hq => by cases hq) hdg hlk
theorem rs_q (C0 : Cx g p s m args c cc nL own) {rt : FieldType} (hr : meth.sig.returnType = some rt) (hrt : (∃ n, rt = .object n) ∨ ∃ t, rt = .array t) (hlk : meth.locks = false) {post : Option Nat → Prop} {v : Option Nat} (hp : post v) (hdg : decode cc pc = .ok (.areturn, 1)) :
    W p l e R s m args below meth c s.heap [] 0 0 (MQ below (va_Sq post) args s 0 0 (fun _ => False)) (F0 m pc ls [va_rf v]) :=
  W.aret C0.1 C0.2.1 hr hrt (va_rf_or v) (fun t ht _ => ⟨v, rfl, hp, ht⟩) (fun q hq => by cases hq) hdg hlk
end PE
end
section
/-! New cells, references in arrays, copies -/
def dvl (ty : FieldType) : Value := match ty with
  | .long => .long 0
  | .object _ => .null
  | .array _ => .null
  | _ => .int 0
def dfl (ci : Nat) : List Value := (List.range (vwN ci)).map (fun k => dvl (vwTy ci k))
def okTy (ty : FieldType) : Bool := match ty with
  | .float => false
  | .double => false
  | _ => true
theorem dvl_ok {ty : FieldType} (h : okTy ty = true) : defaultValue ty = dvl ty := by
  cases ty <;> first | rfl | (simp [okTy] at h)
theorem fls_mk {h : Hp} {q kd n ci : Nat} : fls ci (mkC h q kd n) q = dfl ci := by
  unfold fls dfl
  refine List.map_congr_left fun k _ => ?_
  have e1 : hI (mkC h q kd n) q k = 0 := by
    show va_up h.2.2.1 q (fun _ => 0) q k = 0
    rw [va_up_self]
  have e2 : hJ (mkC h q kd n) q k = 0 := by
    show va_up h.2.2.2.1 q (fun _ => 0) q k = 0
    rw [va_up_self]
  have e3 : hR (mkC h q kd n) q k = none := by
    show va_up h.2.2.2.2 q (fun _ => none) q k = none
    rw [va_up_self]
  unfold vfl dvl
  rw [e1, e2, e3]
  rfl
theorem hK_mk (h : Hp) (q kd n : Nat) : hK (mkC h q kd n) q = kd := va_up_self _ _ _
theorem hN_mk (h : Hp) (q kd n : Nat) : hN (mkC h q kd n) q = n := va_up_self _ _ _
theorem hI_mk (h : Hp) (q kd n : Nat) : hI (mkC h q kd n) q = fun _ => 0 := va_up_self _ _ _
theorem hJ_mk (h : Hp) (q kd n : Nat) : hJ (mkC h q kd n) q = fun _ => 0 := va_up_self _ _ _
theorem hR_mk (h : Hp) (q kd n : Nat) : hR (mkC h q kd n) q = fun _ => none := va_up_self _ _ _
section PM
variable {p : Program} {l : Launch} {e : Env} {R : Room} {s : State} {m : MethodId} {args : Array Value} {below : List Frame} {meth : Method} {c : Code} {H : Heap} {locs : List Loc} {cells slots : Nat} {Q : State → Prop}
variable {cc : ByteArray} {pc nL : Nat} {ls : Array Slot} {rest : List Value} {a : Nat} {g : Gm} {h : Hp} {own : String}
theorem px_new (C0 : Cx g p s m args c cc nL own) (hG : GH g h H) (hS : va_S (gA g) s.heap H locs) {C : String} {T : u_T} {N ci index : Nat} (hci : ci < 20) (hc : vwCl[ci]? = some (C, T, N)) (hin : ∀ w ∈ u_ws C T N, w ∈ wx_T) (hN : vwN ci = N) (hty : ∀ k, k < N → parseFieldDescriptor (T k).2.2.1 = some (vwTy ci k)) (hok : ∀ k, k < N → okTy (vwTy ci k) = true) (hcl : Cond.classLink own index C ∈ wx_T) (hinst : Cond.instantiable C N ∈ wx_T) (hini : Cond.initialized C ∈ wx_T) (hcells : cells + 1 ≤ R.cells) (hslots : slots + N ≤ R.slots) (hdg : decode cc pc = .ok (.new index, 3))
    (kk : ∀ (q : Nat) (H1 : Heap), hK h q = 0 → GH g (mkC h q (ci + 1) 0) H1 → va_S (gA g) s.heap H1 locs → W p l e R s m args below meth c H1 locs (cells + 1) (slots + N) Q (F0 m (pc + 3) ls (.ref q :: rest))) : W p l e R s m args below meth c H locs cells slots Q (F0 m pc ls rest) := by
  have hA := C0.hA
  obtain ⟨hx, hb, hml, hown, hts, hKK, hNN, hsz, hao, hgo, hgx⟩ := C0
  obtain ⟨L, hL, hP, hD⟩ := hG
  refine va_new (ci := ci) (fs := dfl ci) hx hb hts hin (vwTy ci) hty hown (hts _ hcl) (hts _ hinst) (hts _ hini) hKK hP hD hS hA hc ?_ hcells hslots hdg fun q H1 hP1 hD1 hS1 => ?_
  · intro j hj
    rw [dvl_ok (hok j hj)]
    unfold vp_V dfl
    rw [List.getD_eq_getElem?_getD, List.getElem?_map, List.getElem?_range (by rw [hN]; exact hj)]
    rfl
  · obtain ⟨h0, hG1⟩ := GH.mk (kd := ci + 1) (n := 0) hL (by omega) (by rw [cel_obj (hK_mk _ _ _ _) hci, fls_mk]) hP1 hD1
    exact kk q H1 h0 hG1 hS1
/-- an array's class is the one of its name -/
theorem gTy_same {t0 : Nat} {cA : ClassId} {ty : FieldType} (hgk : gK g s) (hK1 : va_K g.1 vwCl (gTy g ++ [(cA, ty)]) s) (h0 : (gTy g)[t0]? = some (g.2.1 t0, ty)) : cA = g.2.1 t0 := by
  have h4 : (gTy g ++ [(cA, ty)])[4]? = some (cA, ty) := rfl
  have a1 := (hK1.2 4 _ h4).2
  have a2 := (hgk.1.2 t0 _ h0).2
  cases ty with
  | object C =>
    obtain ⟨_, _, _, _, _, b1⟩ := a1
    obtain ⟨_, _, _, _, _, b2⟩ := a2
    exact Option.some.inj (b1.symm.trans b2)
  | _ => exact Option.some.inj (a1.symm.trans a2)
theorem px_newI (C0 : Cx g p s m args c cc nL own) (hG : GH g h H) (hS : va_S (gA g) s.heap H locs) (harr : Cond.arrayClass .int ∈ wx_T) {n : Int32} {N : Nat} (hn : ¬ n < 0) (hN : n.toNatClampNeg = N) (hb1 : N ≤ 100000) (hcells : cells + 1 ≤ R.cells) (hslots : slots + N ≤ R.slots) (hdg : decode cc pc = .ok (.newarray .int, 2))
    (kk : ∀ (q : Nat) (H1 : Heap), hK h q = 0 → GH g (mkC h q 21 N) H1 → va_S (gA g) s.heap H1 locs → W p l e R s m args below meth c H1 locs (cells + 1) (slots + N) Q (F0 m (pc + 2) ls (.ref q :: rest))) : W p l e R s m args below meth c H locs cells slots Q (F0 m pc ls (.int n :: rest)) := by
  have hA := C0.hA
  obtain ⟨hx, hb, hml, hown, hts, hgk⟩ := C0
  obtain ⟨L, hL, hP, hD⟩ := hG
  refine va_newa (atype := .int) (ty := .int) (N' := N) (a0 := (N, .inl (fun _ => 0))) hx hb (hts _ harr) rfl hgk.1 hP hD hS hA (fun _ => rfl) hn hN (by show N * 4 ≤ _; omega) hcells hslots hdg fun q cA H1 hK1 hP1 hD1 hS1 => ?_
  cases gTy_same (t0 := 0) hgk hK1 rfl
  obtain ⟨h0, hG1⟩ := GH.mk (kd := 21) (n := N) hL (by decide) (by rw [cel_21 (hK_mk _ _ _ _), hN_mk, hI_mk]) hP1 hD1
  exact kk q H1 h0 hG1 hS1
theorem px_newJ (C0 : Cx g p s m args c cc nL own) (hG : GH g h H) (hS : va_S (gA g) s.heap H locs) (harr : Cond.arrayClass .long ∈ wx_T) {n : Int32} {N : Nat} (hn : ¬ n < 0) (hN : n.toNatClampNeg = N) (hb1 : N ≤ 100000) (hcells : cells + 1 ≤ R.cells) (hslots : slots + N ≤ R.slots) (hdg : decode cc pc = .ok (.newarray .long, 2))
    (kk : ∀ (q : Nat) (H1 : Heap), hK h q = 0 → GH g (mkC h q 22 N) H1 → va_S (gA g) s.heap H1 locs → W p l e R s m args below meth c H1 locs (cells + 1) (slots + N) Q (F0 m (pc + 2) ls (.ref q :: rest))) : W p l e R s m args below meth c H locs cells slots Q (F0 m pc ls (.int n :: rest)) := by
  have hA := C0.hA
  obtain ⟨hx, hb, hml, hown, hts, hgk⟩ := C0
  obtain ⟨L, hL, hP, hD⟩ := hG
  refine va_newa (atype := .long) (ty := .long) (N' := N) (a0 := (N, .inr (.inl (fun _ => 0)))) hx hb (hts _ harr) rfl hgk.1 hP hD hS hA (fun _ => rfl) hn hN (by show N * 8 ≤ _; omega) hcells hslots hdg fun q cA H1 hK1 hP1 hD1 hS1 => ?_
  cases gTy_same (t0 := 1) hgk hK1 rfl
  obtain ⟨h0, hG1⟩ := GH.mk (kd := 22) (n := N) hL (by decide) (by rw [cel_22 (hK_mk _ _ _ _), hN_mk, hJ_mk]) hP1 hD1
  exact kk q H1 h0 hG1 hS1
theorem px_newZ (C0 : Cx g p s m args c cc nL own) (hG : GH g h H) (hS : va_S (gA g) s.heap H locs) (harr : Cond.arrayClass .boolean ∈ wx_T) {n : Int32} {N : Nat} (hn : ¬ n < 0) (hN : n.toNatClampNeg = N) (hb1 : N ≤ 100000) (hcells : cells + 1 ≤ R.cells) (hslots : slots + N ≤ R.slots) (hdg : decode cc pc = .ok (.newarray .boolean, 2))
    (kk : ∀ (q : Nat) (H1 : Heap), hK h q = 0 → GH g (mkC h q 23 N) H1 → va_S (gA g) s.heap H1 locs → W p l e R s m args below meth c H1 locs (cells + 1) (slots + N) Q (F0 m (pc + 2) ls (.ref q :: rest))) : W p l e R s m args below meth c H locs cells slots Q (F0 m pc ls (.int n :: rest)) := by
  have hA := C0.hA
  obtain ⟨hx, hb, hml, hown, hts, hgk⟩ := C0
  obtain ⟨L, hL, hP, hD⟩ := hG
  refine va_newa (atype := .boolean) (ty := .boolean) (N' := N) (a0 := (N, .inl (fun _ => 0))) hx hb (hts _ harr) rfl hgk.1 hP hD hS hA (fun _ => rfl) hn hN (by show N * 1 ≤ _; omega) hcells hslots hdg fun q cA H1 hK1 hP1 hD1 hS1 => ?_
  cases gTy_same (t0 := 2) hgk hK1 rfl
  obtain ⟨h0, hG1⟩ := GH.mk (kd := 23) (n := N) hL (by decide) (by rw [cel_23 (hK_mk _ _ _ _), hN_mk, hI_mk]) hP1 hD1
  exact kk q H1 h0 hG1 hS1
theorem px_newQ (C0 : Cx g p s m args c cc nL own) (hG : GH g h H) (hS : va_S (gA g) s.heap H locs) {index : Nat} (hcl : Cond.classLink own index "java/lang/Object" ∈ wx_T) {n : Int32} {N : Nat} (hn : ¬ n < 0) (hN : n.toNatClampNeg = N) (hb1 : N ≤ 100000) (hcells : cells + 1 ≤ R.cells) (hslots : slots + N ≤ R.slots) (hdg : decode cc pc = .ok (.anewarray index, 3))
    (kk : ∀ (q : Nat) (H1 : Heap), hK h q = 0 → GH g (mkC h q 24 N) H1 → va_S (gA g) s.heap H1 locs → W p l e R s m args below meth c H1 locs (cells + 1) (slots + N) Q (F0 m (pc + 3) ls (.ref q :: rest))) : W p l e R s m args below meth c H locs cells slots Q (F0 m pc ls (.int n :: rest)) := by
  have hA := C0.hA
  obtain ⟨hx, hb, hml, hown, hts, hgk⟩ := C0
  obtain ⟨L, hL, hP, hD⟩ := hG
  refine va_newq (N' := N) hx hb hown (hts _ hcl) hgk.2.2.2.1 hgk.1 hP hD hS hA hn hN (by omega) hcells hslots hdg fun q cA H1 hK1 hP1 hD1 hS1 => ?_
  cases gTy_same (t0 := 3) hgk hK1 rfl
  obtain ⟨h0, hG1⟩ := GH.mk (kd := 24) (n := N) hL (by decide) (by rw [cel_24 (hK_mk _ _ _ _), hN_mk, hR_mk]) hP1 hD1
  exact kk q H1 h0 hG1 hS1
/-- an object of ours fits a place of an Object array -/
theorem px_any (hgk : gK g s) (hG : GH g h H) {v ci : Nat} (hkd : hK h v = ci + 1) (hci : ci < 20) {q : vw_C} (hc : vwCl[ci]? = some q) (hcast : Cond.castable q.1 "java/lang/Object" ∈ wx_N) : va_Any "java/lang/Object" s H v := by
  obtain ⟨L, hL, hP, hD⟩ := hG
  obtain ⟨q0, hq⟩ := GH.find (H := H) hL (by rw [hkd]; omega) (cel_obj (g := g) hkd hci)
  refine va_rAny hgk.1 hP hq hc fun comp c0 h1 h2 => ?_
  have h3 := hgk.2.1 _ hcast
  simp only [va_Nw, Cond.before, Cond.holds, Cond.value, h1, h2] at h3
  simpa using h3
/-- an object of ours is stored -/
theorem px_aast (C0 : Cx g p s m args c cc nL own) (hG : GH g h H) (hS : va_S (gA g) s.heap H locs) (hkd : hK h a = 24) {i : Int32} (hin : vp_in i (hN h a)) {v ci : Nat} (hkv : hK h v = ci + 1) (hci : ci < 20) {q : vw_C} (hc : vwCl[ci]? = some q) (hcast : Cond.castable q.1 "java/lang/Object" ∈ wx_N) (hdg : decode cc pc = .ok (.aastore, 1))
    (kk : ∀ (H1 : Heap) (locs1 : List Loc), GH g (sR h a i.toNatClampNeg (some v)) H1 → va_S (gA g) s.heap H1 locs1 → W p l e R s m args below meth c H1 locs1 cells slots Q (F0 m (pc + 1) ls rest)) : W p l e R s m args below meth c H locs cells slots Q (F0 m pc ls (.ref v :: .int i :: .ref a :: rest)) := by
  have hany := px_any C0.2.2.2.2.2 hG hkv hci hc hcast
  obtain ⟨hx, hb, hml, hown, hts, hKK, hNN, hsz, hao, hgo, hgx⟩ := C0
  obtain ⟨L, hL, hP, hD⟩ := hG
  obtain ⟨q0, hq⟩ := GH.find (H := H) hL (by rw [hkd]; omega) (cel_24 (g := g) hkd)
  refine va_astqM (E := "java/lang/Object") hx hb hKK hP hD hS q0 3 hq rfl hany hin hdg fun H1 locs1 hP1 hD1 hS1 => kk H1 locs1 (GH.put hL hD hq (cel_24 hkd) (fun _ => rfl) ?_ (fun b e => cel_sR e) hP1 hD1) hS1
  rw [cel_24 (h := sR h a i.toNatClampNeg (some v)) hkd, hR_sR, va_up_self]
  rfl
end PM
/-- a boolean as the machine has it -/
def zB (x : Int32) : Prop := x = 0 ∨ x = 1
theorem zB.nar {x : Int32} (h : zB x) : vp_nar .boolean x = x := by
  rcases h with h | h <;> subst h <;> rfl
theorem zB.fit {x : Int32} (h : zB x) : fits .boolean (.int x) = true := by
  rcases h with h | h <;> subst h <;> rfl
/-- the length of an array of ours, or of the list's empty one -/
def gLen (g : Gm) (h : Hp) (a : Nat) (v : Int32) : Prop := (21 ≤ hK h a ∧ hK h a ≤ 24 ∧ v = nI (hN h a)) ∨ (a = g.2.2 1 ∧ v = 0)
theorem px_len {p : Program} {l : Launch} {e : Env} {R : Room} {s : State} {m : MethodId} {args : Array Value} {below : List Frame} {meth : Method} {c : Code} {H : Heap} {locs : List Loc} {cells slots : Nat} {Q : State → Prop} {cc : ByteArray} {pc nL : Nat} {ls : Array Slot} {rest : List Value} {a : Nat} {g : Gm} {h : Hp} {own : String} (C0 : Cx g p s m args c cc nL own) (hG : GH g h H) (hS : va_S (gA g) s.heap H locs) {v : Int32} (hv : gLen g h a v) (hdg : decode cc pc = .ok (.arraylength, 1))
    (kk : W p l e R s m args below meth c H locs cells slots Q (F0 m (pc + 1) ls (.int v :: rest))) : W p l e R s m args below meth c H locs cells slots Q (F0 m pc ls (.ref a :: rest)) := by
  rcases hv with ⟨h1, h2, rfl⟩ | ⟨rfl, rfl⟩
  · exact px_alen C0 hG ⟨h1, h2⟩ hdg kk
  · obtain ⟨hx, hb, hml, hown, hts, hKK, hNN, hsz, hao, hgo, hgx⟩ := C0
    exact va_tlen hx hb hgo.2.1 hS rfl hdg kk
section PC
variable {p : Program} {l : Launch} {e : Env} {R : Room} {s : State} {m : MethodId} {args : Array Value} {below : List Frame} {meth : Method} {c : Code} {H : Heap} {locs : List Loc} {cells slots : Nat} {Q : State → Prop}
variable {cc : ByteArray} {pc nL : Nat} {ls : Array Slot} {rest : List Value} {a : Nat} {g : Gm} {h : Hp} {own : String}
/-- System.arraycopy between Object arrays of ours that hold objects of class ci -/
theorem px_copy (C0 : Cx g p s m args c cc nL own) (hG : GH g h H) (hS : va_S (gA g) s.heap H locs) (hsize : ls.size = nL) {index : Nat} (hl : Cond.methodLink own index arraycopyName ∈ wx_T) (hnat : Cond.native arraycopyName ∈ wx_T) (hst : Cond.static arraycopyName ∈ wx_T) (hini : Cond.initialized "java/lang/System" ∈ wx_T) {ci : Nat} {q : vw_C} (hci : ci < 20) (hc : vwCl[ci]? = some q) (hcast : Cond.castable q.1 "java/lang/Object" ∈ wx_N)
    {a0 : Nat} (hk0 : hK h a0 = 24) (hk1 : hK h a = 24) {sp dp n : Int32} (h1 : ¬ sp < 0) (h2 : ¬ dp < 0) (h3 : ¬ n < 0) (h4 : sp.toNatClampNeg + n.toNatClampNeg ≤ hN h a0) (h5 : dp.toNatClampNeg + n.toNatClampNeg ≤ hN h a) (hel : ∀ i y : Nat, i < n.toNatClampNeg → hR h a0 (sp.toNatClampNeg + i) = some y → hK h y = ci + 1)
    (hframes : 1 ≤ R.frames) (hlocals : (rest.map fun v => v.category).sum + (nativeFrameWords "java/lang/System" "arraycopy" 5 + 11) ≤ R.locals) (hdg : decode cc pc = .ok (.invokestatic index, 3))
    (kk : ∀ (H1 : Heap) (locs1 : List Loc), GH g (sRr h a (va_cpy (hR h a0) (hR h a) sp.toNatClampNeg dp.toNatClampNeg n.toNatClampNeg)) H1 → va_S (gA g) s.heap H1 locs1 → W p l e R s m args below meth c H1 locs1 cells slots Q (F0 m (pc + 3) ls rest)) : W p l e R s m args below meth c H locs cells slots Q (F0 m pc ls (.int n :: .int dp :: .ref a :: .int sp :: .ref a0 :: rest)) := by
  have hany : ∀ i : Nat, i < n.toNatClampNeg → ∀ y : Nat, hR h a0 (sp.toNatClampNeg + i) = some y → va_Any "java/lang/Object" s H y := fun i hi y hy => px_any C0.2.2.2.2.2 hG (hel i y hi hy) hci hc hcast
  obtain ⟨hx, hb, hml, hown, hts, hKK, hNN, hsz, hao, hgo, hgx⟩ := C0
  obtain ⟨L, hL, hP, hD⟩ := hG
  obtain ⟨q0, hq0⟩ := GH.find (H := H) hL (by rw [hk0]; omega) (cel_24 (g := g) hk0)
  obtain ⟨q1, hq1⟩ := GH.find (H := H) hL (by rw [hk1]; omega) (cel_24 (g := g) hk1)
  refine va_copyM (E0 := "java/lang/Object") (E1 := "java/lang/Object") hx hb (hml.trans hsize.symm) hown (hts _ hl) (hts _ hnat) (hts _ hst) (hts _ hini) hKK hP hD hS q0 q1 3 3 hq0 hq1 rfl rfl h1 h2 h3 h4 h5 hany hframes hlocals hdg fun H1 locs1 hP1 hD1 hS1 => kk H1 locs1 (GH.put hL hD hq1 (cel_24 hk1) (fun _ => rfl) ?_ (fun b e => cel_sRr e) hP1 hD1) hS1
  rw [cel_24 (h := sRr h a (va_cpy (hR h a0) (hR h a) sp.toNatClampNeg dp.toNatClampNeg n.toNatClampNeg)) hk1]
  show Sum.inl (g.2.1 3, hN h a, Sum.inr (Sum.inr (Sum.inr (Sum.inr (va_up h.2.2.2.2 a _ a))))) = _
  rw [va_up_self]
/-- the class of an Object array of ours -/
theorem px_recA (hgk : gK g s) (hG : GH g h H) (hkd : hK h a = 24) : ∃ cell : Cell, H[a]? = some cell ∧ cell.vm.isStatics = false ∧ s.vm.findClass "[Ljava/lang/Object;" = some cell.cls := by
  obtain ⟨L, hL, hP, hD⟩ := hG
  obtain ⟨q0, hq⟩ := GH.find (H := H) hL (by rw [hkd]; omega) (cel_24 (g := g) hkd)
  have h1 : H[a]? = some (vp_cell (g.2.1 3) (hN h a, .inr (.inr (.inr (.inr (hR h a)))))) := hP q0 _ hq
  have h2 := (hgk.1.2 3 _ (rfl : (gTy g)[3]? = some (g.2.1 3, .object "java/lang/Object"))).2
  exact ⟨_, h1, rfl, va_nmO h2 (by decide)⟩
end PC
end
section
/-! Methods that throw, and calls of them that are caught -/
/-- y throws an object of class Xc: nothing that was there is written -/
def MetT (l : Launch) (y : MethodName) (ws : List Cond) (rm : Room) (Pc : Array Value → State → Prop) (Xc : String) (mc ms : Nat) : Prop :=
  MetFree l y (headSpec ws rm) Pc (fun _ _ _ _ _ => True) (fun _ st o t => ∃ x : Addr, o = .threw x ∧ (∃ ce : Cell, t.heap[x]? = some ce ∧ ce.vm.isStatics = false ∧ st.vm.findClass Xc = some ce.cls) ∧ st.WarmedH t.vm ∧ st.sameButNew ({ t with vm := st.vm } : State) [] mc ms)
theorem th_same {s t : State} {k n : Nat} (h : s.sameButNew t [] k n) : ∀ q : Nat, q < s.heap.size → t.heap[q]? = s.heap[q]? := by
  intro q hq
  obtain ⟨-, -, -, -, -, h6⟩ := h
  obtain ⟨c', h1, h2, h3, h4⟩ := h6 q s.heap[q] (Array.getElem?_eq_getElem hq)
  have e : c'.slots = (s.heap[q]).slots := by
    apply Array.ext_getElem?
    intro i
    exact h4 i (by simp)
  rw [h1, h2, e, Array.getElem?_eq_getElem hq]
section TH
variable {p : Program} {l : Launch} {e : Env} {R : Room} {s : State} {m : MethodId} {args : Array Value} {below : List Frame} {meth : Method} {c : Code} {T : State} {locs : List Loc} {cells slots : Nat}
theorem th_call (X : Stand p l e R s m args below meth c T locs cells slots) (hexec : p.tables.exec = Jvm.exec) {own C : String} {index : Nat} {y : MethodName} {bytes : ByteArray} {maxL : Nat} {ret : Option FieldType} {Wd mc ms fr lc : Nat}
    {Pc : Array Value → State → Prop} {Xc : String} (hM : MetT l y (ww y bytes maxL ret) (rmm fr lc mc ms) Pc Xc mc ms) (hblind : FrameBlind Pc) (hfr : fr + 1 ≤ R.frames) (hlo : Wd + (maxL + 11) + lc ≤ R.locals)
    (hws : ∀ w ∈ ww y bytes maxL ret, ∀ (a' : Array Value) (U : State), s.WarmedH U.vm → w.before a' U = true)
    (hown : s.vm.findClass own = some m.cls) (hlink : (Cond.methodLink own index y).before args s = true) (hinst : (Cond.instanceMethod y).before args s = true) (hsel : (Cond.selects C y y).before args s = true)
    (hcode : (Cond.code y bytes maxL ret).before args s = true) (hini : (Cond.initialized y.cls).before args s = true) (hy : y.cls ≠ "java/lang/invoke/MethodHandle" ∧ y.cls ≠ "java/lang/invoke/VarHandle")
    {b : Addr} {cellB : Cell} (hcell : T.heap[b]? = some cellB) (hobj : cellB.vm.isStatics = false) (hcls : s.vm.findClass C = some cellB.cls)
    {g : JFrame} (hg : g.method = m) (hsize : g.locals.size = c.maxLocals) {argsL rest : List Value} (hlen : ∀ sig, parseMethodDescriptor y.desc = some sig → argsL.length = sig.parameters.length)
    (hstack : g.stack = argsL.reverse ++ .ref b :: rest) (hW : 2 * g.monitorRoom + (rest.map fun v => v.category).sum ≤ Wd) (hdg : decode c.code g.pc = .ok (.invokevirtual index, 3))
    (hcells : cells + mc ≤ R.cells) (hslots : slots + ms ≤ R.slots) (hPc : ∀ vm₁, s.WarmedH vm₁ → Pc (Value.ref b :: argsL).toArray (T.setVm vm₁)) :
    ∃ (x : Addr) (T' : State), Stand p l e R s m args below meth c T' locs (cells + mc) (slots + ms) ∧ T.heap.size ≤ T'.heap.size ∧ (∀ q : Nat, q < T.heap.size → T'.heap[q]? = T.heap[q]?) ∧ (∃ ce : Cell, T'.heap[x]? = some ce ∧ ce.vm.isStatics = false ∧ s.vm.findClass Xc = some ce.cls) ∧
      ∀ target, Steps p.tables e below ((T'.setTop { g with stack := rest }).pushFrame (.throwing x)) target → Steps p.tables e below (T.setTop g) target := by
  obtain ⟨mk, methM, hnamed, hmethM, hstM, habM⟩ := Cond.instanceMethod_spec hinst
  obtain ⟨methM', cM, hmethM', hcM, -, hlM, -, -, -, hsigM⟩ := Cond.code_spec hnamed hcode
  cases hmethM.symm.trans hmethM'
  obtain ⟨c2, r2, m2, q1, q2, q3, q4, kP, hkP, hkPi⟩ := Cond.selects_spec hsel
  cases hcls.symm.trans q1
  cases (State.methodFound?_of_named hnamed hy).symm.trans q2
  cases hnamed.symm.trans q3
  have hselP : selectMethod e.platform s.vm cellB.cls mk = .method mk := by rw [Launch.admits_selectMethod X.admits]; exact q4
  obtain ⟨vm₁, X₁, hstep₁⟩ := X.invokevirtual hexec hown hlink hnamed hmethM hstM hkP hkPi hy (a := b) (cell := cellB) hcell
    (fun z h => by rw [h] at hobj; cases hobj) hselP hmethM habM hkP hkPi (g := g) hg (argsL := argsL) (rest := rest) (hlen _ hsigM) hstack hdg
  have hn₁ := X₁.named hnamed
  obtain ⟨methY, cY, hmY, hcY, -, hlY, -, -, -, -⟩ := Cond.code_spec (args := args) (s := T.setVm vm₁) hn₁ (hws _ List.mem_cons_self _ _ X₁.warmed)
  obtain ⟨kY, hkY, -⟩ := className_of_methodNamed hn₁
  have hi1 : (Cond.initialized y.cls).before args (T.setVm vm₁) = true := by
    have h1 := Cond.onTables_warm (T := T) (args' := args) X₁.warmed (c := .initialized y.cls) rfl rfl hini
    exact h1
  have hinitY : kY.init = .initialized := Cond.initialized_spec (findClass_of_methodNamed hn₁) hkY hi1
  have h : At (T.setVm vm₁) ({ g with stack := rest } : JFrame).method c below := by show At _ g.method _ _; rw [hg]; exact X₁.here
  have happ : (headSpec (ww y bytes maxL ret) (rmm fr lc mc ms)).appliesLoose y e.platform ((T.setVm vm₁).calling { g with stack := rest } mk (Value.ref b :: argsL).toArray) = true :=
    Spec.appliesLoose_calling (g := { g with stack := rest }) h hdg hn₁ hkY hinitY
      (X₁.room_calling (g := { g with stack := rest }) (R' := rmm fr lc mc ms) hsize hmY hcY hfr (by show 2 * g.monitorRoom + (rest.map fun v => v.category).sum + (cY.maxLocals + 11) + lc ≤ R.locals; rw [hlY]; omega) hcells hslots) (atoms_intro fun w hw => hws w hw _ _ X₁.warmed)
  obtain ⟨mid, hmid⟩ := h.above
  have hfr2 : ((T.setVm vm₁).setTop { g with stack := rest }).frames = (.java { g with stack := rest } :: mid) ++ below := by rw [State.frames_setTop' _ h.top, hmid]; rfl
  obtain ⟨o, s₂, hsteps, -, hend, hq⟩ := Steps.callFree hM p X.admits X.cas X.clock (acts := []) hfr2 happ (hblind _ _ _ _ (hPc vm₁ X₁.warmed)) trivial
  obtain ⟨x, rfl, ⟨ce, hce1, hce2, hce3⟩, hW2, hsame⟩ := hq
  rw [State.frames_setTop' _ h.top] at hend
  obtain ⟨T', X', hWT, hsameT, ht⟩ := X₁.outOfThrown (g := { g with stack := rest }) hg (mk := mk) (a := (Value.ref b :: argsL).toArray) (t := s₂) (x := x) (L := []) (k := mc) (n := ms) (by rw [X₁.tail] at hend; exact hend) hW2 hsame
  rw [List.append_nil] at X'
  have hT'h : T'.heap = s₂.heap := by rw [ht, Stand.throwing_heap]
  refine ⟨x, T', X', hsameT.2.1, fun q hq => th_same hsameT q hq, ⟨ce, by rw [hT'h]; exact hce1, hce2, ?_⟩, fun target htg => hstep₁ _ fun acts => ?_⟩
  · exact (X₁.warmed.alike.findClass Xc none).symm.trans hce3
  · rw [doInvoke_state]
    exact hsteps.trans (by rw [ht]; exact htg)
/-! the search for a handler, the catch type's entry cold or warm -/
/-- what the search gives, and the tables that it leaves -/
def fz_To (e : Env) (s : State) (f : JFrame) (a : Addr) (hd : Handler) (vm' : Vm) : Prop := ∀ (Q : Handler → Pre) (E : CtlPost) (d : Bool) (acts : List Action), wp (findHandler f a) Q E e d acts s ↔ Q hd d acts (s.setVm vm')
theorem fz_go {Q : Handler → Pre} {E : CtlPost} {e : Env} {d : Bool} {acts : List Action} {s : State} {f : JFrame} {a : Addr} {x : ExceptionTableEntry} {t : List ExceptionTableEntry} {cc : ClassId} {cell : Cell} (hx : covers x f.pc = true) (h0 : x.catchType ≠ 0)
    (hl : s.vm.ClassLinks e.platform f.method.cls x.catchType cc) (hcell : s.heap[a]? = some cell) (hobj : ∀ k, cell.vm ≠ .statics k) (hk : ∃ k, s.vm.classes[cell.cls]? = some k) (hc : ∃ k, s.vm.classes[cc]? = some k) :
    wp (findHandler.go f a (x :: t)) Q E e d acts s ↔ if s.vm.assignable cell.cls cc = true then Q (.found x.handlerPc) d acts (s.setVm (s.vm.noted f.method.cls x.catchType (.cls cc))) else wp (findHandler.go f a t) Q E e d acts (s.setVm (s.vm.noted f.method.cls x.catchType (.cls cc))) := by
  simp only [covers] at hx
  obtain ⟨ha, ht⟩ := (resolveClass_links e.toSetting hl).op (op := VmOp.resolveClass f.method.cls x.catchType) rfl
  have hal : s.vm.Alike (s.vm.noted f.method.cls x.catchType (.cls cc)) := (Vm.Alike.refl s.vm).noted _ _ _
  obtain ⟨k1, hk1⟩ := hk
  obtain ⟨k2, hk2⟩ := hc
  obtain ⟨k1', hk1', -⟩ := hal.2.2 _ _ hk1
  obtain ⟨k2', hk2', -⟩ := hal.2.2 _ _ hk2
  have hfit' : (s.vm.noted f.method.cls x.catchType (.cls cc)).assignable cell.cls cc = s.vm.assignable cell.cls cc := hal.assignable _ _
  cases hfit : s.vm.assignable cell.cls cc <;> simp [findHandler.go, hx, h0, ha, ht, hcell, hobj, hk1', hk2', hfit', hfit, VmOp.dirties, VmOp.acts]
theorem fz_step {e : Env} {s : State} {a : Addr} {f : JFrame} {r : List Frame} {pc : Nat} {vm' : Vm} (hfind : fz_To e s f a (.found pc) vm') : (stepThrowing e s a (.java f :: r)).Is ((s.setVm vm').setFrames (.java { f with pc := pc, stack := [.ref a] } :: r)) [] := by
  simp only [stepThrowing, searchFrame, vmDo]
  generalize hr : Sem.go _ e false [] s = res
  obtain ⟨as, rfl, ha⟩ := Sem.eq_ok_of hr (a := Handler.found pc) (s' := s.setVm vm') (acts' := []) (by simp [hfind _ _ _ _])
  exact ⟨rfl, ha⟩
theorem fz_frames (u : State) (vm' : Vm) (F G : List Frame) : ((u.setFrames F).setVm vm').setFrames G = (u.setVm vm').setFrames G := by
  have h1 : (u.setFrames F).setVm vm' = (u.setVm vm').setFrames F := rfl
  rw [h1, State.setFrames_setFrames]
theorem fz_caught {tb : Tables} {e : Env} {s target : State} {g : JFrame} {c : Code} {below : List Frame} {a : Addr} (h : At s g.method c below) {pc : Nat} {vm' : Vm} (hfind : fz_To e ((s.setTop g).pushFrame (.throwing a)) g a (.found pc) vm')
    (hrest : Steps tb e below ((s.setVm vm').setTop { g with pc := pc, stack := [.ref a] }) target) : Steps tb e below ((s.setTop g).pushFrame (.throwing a)) target := by
  obtain ⟨hgo, hw⟩ := h.throwing a
  refine Steps.head hgo hw ?_
  rw [stepThread_throwing (frames_entered h.top _), (fz_step (s := (s.setTop g).pushFrame (.throwing a)) hfind).1]
  obtain ⟨g₀, hg⟩ := Option.isSome_iff_exists.mp h.top
  obtain ⟨r, hr⟩ := State.topJava?_eq_some.mp hg
  have hr' : (s.setVm vm').frames = .java g₀ :: r := hr
  rw [State.setTop_of_frames _ hr'] at hrest
  rw [hr, List.tail_cons, State.pushFrame, fz_frames, State.setTop_of_frames _ hr, fz_frames]
  exact hrest
end TH
end
section
/-! an exception is caught by the first clause, or by the second -/
section CT
variable {p : Program} {l : Launch} {e : Env} {R : Room} {s : State} {m : MethodId} {args : Array Value} {below : List Frame} {meth : Method} {c : Code} {T : State} {locs : List Loc} {cells slots : Nat}
theorem ct_one (X : Stand p l e R s m args below meth c T locs cells slots) (a : Addr) {g : JFrame} (hg : g.method = m) {own : String} (hown : s.vm.findClass own = some m.cls) {x1 : ExceptionTableEntry} {rest : List ExceptionTableEntry} (htab : c.exceptionTable.toList = x1 :: rest) (hx : covers x1 g.pc = true) (h0 : x1.catchType ≠ 0)
    {name : String} (hlink : (Cond.classLink own x1.catchType name).before args s = true) {cT : ClassId} {cell : Cell} (hcT : s.vm.findClass name = some cT) (hcell : T.heap[a]? = some cell) (hobj : cell.vm.isStatics = false) (hfit : s.vm.assignable cell.cls cT = true) :
    ∃ vm', Stand p l e R s m args below meth c (T.setVm vm') locs cells slots ∧ ∀ target, Steps p.tables e below ((T.setVm vm').setTop { g with pc := x1.handlerPc, stack := [.ref a] }) target → Steps p.tables e below ((T.setTop g).pushFrame (.throwing a)) target := by
  have hpl : e.platform.magicAccessors = ({} : Platform).magicAccessors := by rw [X.admits.platform]
  obtain ⟨c', hc', hcl⟩ := Cond.classLink_spec hown hlink e.platform hpl
  cases hcT.symm.trans hc'
  obtain ⟨dk, _, _, kt, hd, _, _, _, _, hkt, _, hopen⟩ := hcl.here
  have hcl₀ := X.warmed.classLinks hcl
  have hW' : s.WarmedH (T.vm.noted m.cls x1.catchType (.cls cT)) := X.warmed.noted hd hopen (State.rightAt_cls hcl)
  have hal := X.warmed.alike
  obtain ⟨kt', hkt', -⟩ := hal.2.2 _ _ hkt
  have hfit' : T.vm.assignable cell.cls cT = true := by rw [hal.assignable]; exact hfit
  refine ⟨_, X.noted hW', fun target hrest => ?_⟩
  subst hg
  refine fz_caught X.here (fun Q E d acts => ?_) hrest
  rw [W.findHandler_eq (s := (T.setTop g).pushFrame (.throwing a)) (meth := meth) (code := c) X.method' X.code, htab]
  rw [fz_go (s := (T.setTop g).pushFrame (.throwing a)) hx h0 (cc := cT) (cell := cell) hcl₀ hcell (VmData.ne_statics_of hobj) (Vm.classAt_of_assignable hfit' ⟨kt', hkt'⟩) ⟨kt', hkt'⟩, Stand.throwing_vm, if_pos hfit']
theorem ct_two (X : Stand p l e R s m args below meth c T locs cells slots) (a : Addr) {g : JFrame} (hg : g.method = m) {own : String} (hown : s.vm.findClass own = some m.cls) {x1 x2 : ExceptionTableEntry} {rest : List ExceptionTableEntry} (htab : c.exceptionTable.toList = x1 :: x2 :: rest) (hx : covers x1 g.pc = true) (h0 : x1.catchType ≠ 0) (hx2 : covers x2 g.pc = true) (h02 : x2.catchType ≠ 0)
    {name name2 : String} (hlink : (Cond.classLink own x1.catchType name).before args s = true) (hlink2 : (Cond.classLink own x2.catchType name2).before args s = true) {cT cT2 : ClassId} {cell : Cell} (hcT : s.vm.findClass name = some cT) (hcT2 : s.vm.findClass name2 = some cT2) (hcell : T.heap[a]? = some cell) (hobj : cell.vm.isStatics = false) (hno : s.vm.assignable cell.cls cT = false) (hfit : s.vm.assignable cell.cls cT2 = true) :
    ∃ vm', Stand p l e R s m args below meth c (T.setVm vm') locs cells slots ∧ ∀ target, Steps p.tables e below ((T.setVm vm').setTop { g with pc := x2.handlerPc, stack := [.ref a] }) target → Steps p.tables e below ((T.setTop g).pushFrame (.throwing a)) target := by
  have hpl : e.platform.magicAccessors = ({} : Platform).magicAccessors := by rw [X.admits.platform]
  obtain ⟨c', hc', hcl⟩ := Cond.classLink_spec hown hlink e.platform hpl
  cases hcT.symm.trans hc'
  obtain ⟨dk, _, _, kt, hd, _, _, _, _, hkt, _, hopen⟩ := hcl.here
  obtain ⟨c2', hc2', hcl2⟩ := Cond.classLink_spec hown hlink2 e.platform hpl
  cases hcT2.symm.trans hc2'
  obtain ⟨dk2, _, _, kt2, hd2, _, _, _, _, hkt2, _, hopen2⟩ := hcl2.here
  have hcl₀ := X.warmed.classLinks hcl
  have hW1 : s.WarmedH (T.vm.noted m.cls x1.catchType (.cls cT)) := X.warmed.noted hd hopen (State.rightAt_cls hcl)
  have hcl₁ := hW1.classLinks hcl2
  have hW2 : s.WarmedH ((T.vm.noted m.cls x1.catchType (.cls cT)).noted m.cls x2.catchType (.cls cT2)) := hW1.noted hd2 hopen2 (State.rightAt_cls hcl2)
  have hal := X.warmed.alike
  have hal1 := hW1.alike
  obtain ⟨kt', hkt', -⟩ := hal.2.2 _ _ hkt
  obtain ⟨kt2', hkt2', -⟩ := hal1.2.2 _ _ hkt2
  obtain ⟨kt2'', hkt2'', -⟩ := hal.2.2 _ _ hkt2
  have hno' : T.vm.assignable cell.cls cT = false := by rw [hal.assignable]; exact hno
  have hfit' : T.vm.assignable cell.cls cT2 = true := by rw [hal.assignable]; exact hfit
  have hfit1 : (T.vm.noted m.cls x1.catchType (.cls cT)).assignable cell.cls cT2 = true := by rw [hal1.assignable]; exact hfit
  refine ⟨_, X.noted hW2, fun target hrest => ?_⟩
  subst hg
  refine fz_caught X.here (fun Q E d acts => ?_) hrest
  rw [W.findHandler_eq (s := (T.setTop g).pushFrame (.throwing a)) (meth := meth) (code := c) X.method' X.code, htab]
  rw [fz_go (s := (T.setTop g).pushFrame (.throwing a)) hx h0 (cc := cT) (cell := cell) hcl₀ hcell (VmData.ne_statics_of hobj) (Vm.classAt_of_assignable hfit' ⟨kt2'', hkt2''⟩) ⟨kt', hkt'⟩, Stand.throwing_vm, if_neg (by rw [hno']; decide)]
  rw [fz_go (s := ((T.setTop g).pushFrame (.throwing a)).setVm (T.vm.noted g.method.cls x1.catchType (.cls cT))) hx2 h02 (cc := cT2) (cell := cell) hcl₁ hcell (VmData.ne_statics_of hobj) (Vm.classAt_of_assignable hfit1 ⟨kt2', hkt2'⟩) ⟨kt2', hkt2'⟩, State.vm_setVm, if_pos hfit1]
  rfl
end CT
end
section
/-! new X("..") is thrown, out of a method that has written nothing -/
def QT (below : List Frame) (s : State) (Xc : String) : State → Prop := fun t => ∃ o, t.status = .running ∧ Ended t below o ∧ ∃ x : Addr, o = .threw x ∧ (∃ ce : Cell, t.heap[x]? = some ce ∧ ce.vm.isStatics = false ∧ s.vm.findClass Xc = some ce.cls) ∧ s.WarmedH t.vm ∧ s.sameButNew ({ t with vm := s.vm } : State) [] 1 6
def at_1 : Cond := .isRef (.static "java/lang/Throwable" "UNASSIGNED_STACK" "[Ljava/lang/StackTraceElement;")
def at_2 : Cond := .isRef (.static "java/lang/Throwable" "SUPPRESSED_SENTINEL" "Ljava/util/List;")
theorem zq_isRef {C n d : String} {A : Nat → Prop} {args : Array Value} {s : State} (h : va_Zq C n d A s s.heap) : (Cond.isRef (.static C n d)).before args s = true := by
  rcases h with h | ⟨t, h⟩
  · obtain ⟨cf, kf, fi, f, a, cell, h1, h2, h3, h4, h5, h6, h7, h8⟩ := h
    simp [Cond.before, Cond.holds, Cond.value, Term.eval, State.fieldNamed?, h1, h2, h4, h5, h6, h7, Value.isRef]
  · obtain ⟨cf, kf, fi, f, a, cell, h1, h2, h3, h4, h5, h6, h7, h8⟩ := h
    simp [Cond.before, Cond.holds, Cond.value, Term.eval, State.fieldNamed?, h1, h2, h4, h5, h6, h7, Value.isRef]
def at_3 : Cond := .laysStatic "java/lang/Throwable" "UNASSIGNED_STACK" "[Ljava/lang/StackTraceElement;"
def at_4 : Cond := .laysStatic "java/lang/Throwable" "SUPPRESSED_SENTINEL" "Ljava/util/List;"
def at_ok (w : Cond) : Prop := w ∈ wx_T ∨ w ∈ wx_N ∨ w = at_1 ∨ w = at_2 ∨ w = at_3 ∨ w = at_4
section PT
variable {p : Program} {l : Launch} {e : Env} {R : Room} {s : State} {m : MethodId} {args : Array Value} {below : List Frame} {meth : Method} {c : Code}
variable {cc : ByteArray} {pc nL : Nat} {ls : Array Slot} {g : Gm} {own : String}
theorem at_use {w : Cond} (C0 : Cx g p s m args c cc nL own) (h : at_ok w) : w.before args s = true := by
  obtain ⟨hx, hb, hml, hown, hts, hKK, hNN, hsz, hao, hgo, hgx⟩ := C0
  rcases h with h | h | h | h | h | h
  · exact hts w h
  · have h2 : wx_isN w = true := (List.mem_filter.mp h).2
    exact va_Nw.use (by cases w <;> first | rfl | (simp [wx_isN] at h2)) (hNN w h)
  · rw [h]; exact zq_isRef hgx.1
  · rw [h]; exact zq_isRef hgx.2.1
  · rw [h]; exact hgx.2.2.2.1.use
  · rw [h]; exact hgx.2.2.2.2.1.use
set_option maxHeartbeats 4000000 in
theorem px_throw (C0 : Cx g p s m args c cc nL own) (hfl : l.flags = pinnedFlags ++ [noTraceFlag]) (hlk : meth.locks = false) (htab : c.exceptionTable.isEmpty = true) (hsize : ls.size = nL) {Xc tx : String} {names : List String} {ia ib ic : Nat} (hcl : Cond.classLink own ia Xc ∈ wx_T) (hinst : Cond.instantiable Xc 6 ∈ wx_T) (hini : Cond.initialized Xc ∈ wx_T) (hstr : (own, ib, tx) ∈ wx_S)
    (hat : ∀ w ∈ Bundle.ownAtoms own ic Xc names, at_ok w) (hfit : Bundle.fit Xc = true) (hnames : ∀ n ∈ names, Bundle.fit n = true)
    (d0 : decode cc pc = .ok (.new ia, 3)) (d3 : decode cc (pc + 3) = .ok (.dup, 1)) (d4 : decode cc (pc + 3 + 1) = .ok (.ldc ib, 2)) (d6 : decode cc (pc + 3 + 1 + 2) = .ok (.invokespecial ic, 3)) (d9 : decode cc (pc + 3 + 1 + 2 + 3) = .ok (.athrow, 1))
    (hRf : names.length + 3 < R.frames) (hRl : 1 + (13 * (names.length + 1) + 42) ≤ R.locals) (hRc : 1 ≤ R.cells) (hRs : 6 ≤ R.slots) :
    W p l e R s m args below meth c s.heap [] 0 0 (QT below s Xc) (F0 m pc ls []) := by
  have hatb : ∀ w ∈ Bundle.ownAtoms own ic Xc names, w.before args s = true := fun w hw => at_use C0 (hat w hw)
  obtain ⟨q, hq⟩ := C0.2.2.2.2.2.2.2.2.2.2.2.2.1 _ hstr
  obtain ⟨hx, hb, hml, hown, hts, hgk⟩ := C0
  refine W.newc hx hb hown (hts _ hcl) (hts _ hinst) (hts _ hini) rfl d0 (by omega) (by omega) fun cC kC hfc hkC hord hn => ?_
  refine W.eq (g2 := F0 m (pc + 3) ls [.ref s.heap.size]) rfl ?_
  refine lv_dup hx hb d3 rfl ?_
  refine va_ldcS hx hb hown hq d4 ?_
  intro T hT X
  have hcell : T.heap[s.heap.size]? = some (freshCell cC kC) := by
    rw [hT]
    exact Array.getElem?_push_size
  have hout : ∀ x ∈ c.exceptionTable.toList, covers x (pc + 3 + 1 + 2 + 3) = false := fun x hx => by
    rw [Array.isEmpty_iff.mp htab] at hx
    cases hx
  obtain ⟨U, hst, hrun, hend, hWU, hsame, ce, hce, hoc⟩ := X.ctorThrowS hx (Launch.traces_off hfl X.admits) hown hfit hnames hatb (fun x hx => by cases hx) (a := s.heap.size) hfc hkC hcell (Nat.le_refl _) (msg := .ref q) rfl
    (g := F0 m (pc + 3 + 1 + 2) ls [.ref q, .ref s.heap.size, .ref s.heap.size]) rfl (hsize.trans hml.symm) rfl rfl (rest := []) rfl (by rw [hb]; exact d6) (by rw [hb]; exact d9) hout hRf (by show 2 * 0 + (1 + 0) + _ ≤ _; omega) hlk
  exact ⟨U, hst, .threw s.heap.size, hrun, hend, s.heap.size, rfl, ⟨ce, hce, by rw [hoc.vm]; rfl, hoc.cls⟩, hWU, hsame⟩
end PT
/-- entry of a method that throws -/
theorem en_metT {l : Launch} {y : MethodName} {bytes : ByteArray} {nL fr lc : Nat} {ret : Option FieldType} {g : Gm} {h : Hp} {av : List Value} {Xc : String} (hy : plainName y.cls = true)
    (body : ∀ (p : Program) (e : Env) (s : State) (m : MethodId) (below : List Frame) (meth : Method) (c : Code), Cx g p s m av.toArray c bytes nL y.cls → meth.locks = false → c.exceptionTable.isEmpty = true → GH g h s.heap →
      W p l e (rmm fr lc 1 6) s m av.toArray below meth c s.heap [] 0 0 (QT below s Xc) (entryFrame m av.toArray nL)) : MetT l y (ww y bytes nL ret) (rmm fr lc 1 6) (va_Pc av (gS g h)) Xc 1 6 := by
  refine MetFree.of_bodyS (code := bytes) (maxLocals := nL) (ret := ret) hy ?_ ?_
  · intro args s m h hn
    obtain ⟨meth, c, h1, h2, h3, h4, h5, h6, -, -⟩ := Cond.code_spec hn (atoms_spec (ws := ww y bytes nL ret) h _ List.mem_cons_self)
    exact ⟨meth, c, h1, h2, h3, h4, h5, h6⟩
  · intro p e s m args below meth c s₁ B hml hv _
    obtain ⟨rfl, hgk, hgh⟩ := hv
    have hts := atoms_spec (ws := ww y bytes nL ret) B.pre
    have hh0 : s₁.heap = s.heap := by rw [B.state]; rfl
    obtain ⟨t, a1, o, b1, b2, b3⟩ := body p e s m below meth c ⟨B.exec, B.bytes, hml, findClass_of_methodNamed B.named, fun w hw => hts w (List.mem_cons_of_mem _ hw), hgk⟩ B.notSynchronized (B.noHandlers (hts _ List.mem_cons_self)) hgh s₁ hh0 (Stand.of_body B)
    exact ⟨t, o, a1, b1, b2, b3⟩
end
section
/-! Methods with handlers: their entry, calls of them, calls in them that throw -/
theorem GH.kept {g : Gm} {h : Hp} {H H1 : Heap} (hG : GH g h H) (hk : ∀ q : Nat, q < H.size → H1[q]? = H[q]?) : GH g h H1 := by
  obtain ⟨L, hL, hP, hD⟩ := hG
  exact ⟨L, hL, hP.kept (fun k q hq => hk q.1 (hP k q hq).lt), hD⟩
abbrev wwH (y : MethodName) (b : ByteArray) (n : Nat) (r : Option FieldType) (hh : List (Nat × Nat × Nat × Nat)) : List Cond := Cond.codeWith y b n r hh :: wx_T
theorem en_metW {l : Launch} {y : MethodName} {bytes : ByteArray} {nL fr lc mc ms : Nat} {ret : Option FieldType} {hh : List (Nat × Nat × Nat × Nat)} {g : Gm} {h : Hp} {av : List Value} {Qc : Array Value → State → Outcome → State → Prop} {free : Addr → Prop} (hy : plainName y.cls = true)
    (body : ∀ (p : Program) (e : Env) (s : State) (m : MethodId) (below : List Frame) (meth : Method) (c : Code), Cx g p s m av.toArray c bytes nL y.cls → meth.sig.returnType = ret → meth.locks = false → c.exceptionTable.toList.map (fun h => (h.startPc, h.endPc, h.handlerPc, h.catchType)) = hh → GH g h s.heap →
      W p l e (rmm fr lc mc ms) s m av.toArray below meth c s.heap [] 0 0 (MQ below Qc av.toArray s mc ms free) (entryFrame m av.toArray nL)) : Met l y (wwH y bytes nL ret hh) (rmm fr lc mc ms) (va_Pc av (gS g h)) Qc mc ms free := by
  refine va_MetW (cc := bytes) (maxL := nL) (ret := ret) (hh := hh) hy rfl ?_
  intro p e s m args below meth c s₁ B hml hv
  obtain ⟨rfl, hgk, hgh⟩ := hv
  have hts := atoms_spec (ws := wwH y bytes nL ret hh) B.pre
  obtain ⟨m9, meth9, c9, hn9, hm9, hc9, -, -, htab, -, -, -⟩ := Cond.codeWith_spec (hts _ List.mem_cons_self)
  cases B.named.symm.trans hn9
  cases B.method.symm.trans hm9
  cases (Stand.of_body B).code.symm.trans hc9
  exact body p e s m below meth c ⟨B.exec, B.bytes, hml, findClass_of_methodNamed B.named, fun w hw => hts w (List.mem_cons_of_mem _ hw), hgk⟩ B.returns B.notSynchronized htab hgh
section PW
variable {p : Program} {l : Launch} {e : Env} {R : Room} {s : State} {m : MethodId} {args : Array Value} {below : List Frame} {meth : Method} {c : Code} {H : Heap} {locs : List Loc} {cells slots : Nat} {Q : State → Prop}
variable {cc : ByteArray} {pc nL : Nat} {ls : Array Slot} {rest : List Value} {a : Nat} {g : Gm} {h : Hp} {own : String} {mc ms : Nat}
variable {y : MethodName} {bytes : ByteArray} {maxL fr lc n index : Nat} {ret : Option FieldType} {Qc : Array Value → State → Outcome → State → Prop} {b : Nat} {As st0 : List Value} {host : String} {free : Addr → Prop}
theorem rn_SW {hh : List (Nat × Nat × Nat × Nat)} (C0 : Cx g p s m args c cc nL own) (hG : GH g h H) (hS : va_S (gA g) s.heap H locs) (hM : Met l y (wwH y bytes maxL ret hh) (rmm fr lc mc ms) (va_Pc As (gS g h)) Qc mc ms free)
    (hcode : Cond.codeWith y bytes maxL ret hh ∈ wx_T) (hl : Cond.methodLink own index y ∈ wx_T) (hi : Cond.static y ∈ wx_T) (hini : Cond.initialized y.cls ∈ wx_T) (hd : mDesc y n) (hR : fr + 1 ≤ R.frames ∧ 8 + (maxL + 11) + lc ≤ R.locals)
    (hn : As.length = n) (hsize : ls.size = nL) (hstack : st0 = As.reverse ++ rest) (hW : (rest.map fun v => v.category).sum ≤ 8) (hdg : decode cc pc = .ok (.invokestatic index, 3)) (hf : cells + mc ≤ R.cells ∧ slots + ms ≤ R.slots) :
    va_Run p l e R s m args below meth c H locs cells slots mc ms (F0 m pc ls st0) rest (Qc As.toArray) free := by
  obtain ⟨hx, hb, hml, hown, hts, hgk⟩ := C0
  have hgood : ∀ w ∈ wx_T, ∀ (a' : Array Value) (U : State), s.WarmedH U.vm → w.before a' U = true := fun w hw a' U hWU => by
    rcases good_of_word (List.mem_filter.mp hw).2 with hc | ⟨ty, rfl⟩
    · simp only [Bool.and_eq_true] at hc
      have h1 := Cond.onTables_warm (T := U) (args' := a') hWU hc.1 hc.2 (hts w hw)
      rwa [State.setVm_self] at h1
    · have h1 : (Cond.arrayClass ty).before args (s.setVm U.vm) = true := Cond.before_shiftedFace (State.Shifted.of_warmed hWU) _ rfl (hts _ hw)
      exact h1
  have hws : ∀ w ∈ wwH y bytes maxL ret hh, ∀ (a' : Array Value) (U : State), s.WarmedH U.vm → w.before a' U = true := fun w hw a' U hWU => by
    rcases List.mem_cons.mp hw with rfl | hw
    · exact hgood _ hcode a' U hWU
    · exact hgood _ hw a' U hWU
  have hK : Back l R p e below s args y 3 8 (PreOf R mc ms (va_Pc As (gS g h))) (PostOf Qc mc ms free) := va_backW (ws := wwH y bytes maxL ret hh) (rm := rmm fr lc mc ms) (maxL := maxL) (bytes := bytes) (ret := ret) (hh := hh) hM gS.blind rfl rfl hR.1 hR.2 hws List.mem_cons_self (hgood _ hini)
  obtain ⟨mk, methM, cM, hnamed, hmethM, -, -, -, -, -, -, hsigM⟩ := Cond.codeWith_spec (hts _ hcode)
  have hstatic : methM.isStatic = true := Cond.static_spec hnamed hmethM (hts _ hi)
  obtain ⟨kP, hkP, -⟩ := className_of_methodNamed hnamed
  have hinitP : kP.init = .initialized := Cond.initialized_spec (findClass_of_methodNamed hnamed) hkP (hts _ hini)
  intro T hT X
  have hlen : As.length = methM.sig.parameters.length := by
    have h1 := hd.2.2
    rw [hsigM] at h1
    exact hn.trans (Option.some.inj h1).symm
  obtain ⟨vm₁, X₁, hstep₁⟩ := X.invokestatic hx hown (hts _ hl) hnamed hmethM hstatic hkP hinitP ⟨hd.1, hd.2.1⟩ (g := F0 m pc ls st0) rfl (argsL := As) (rest := rest) hlen hstack (by rw [hb]; exact hdg)
  have hW' : 2 * (F0 m pc ls st0).monitorRoom + (rest.map fun v => v.category).sum ≤ 8 := by
    have e0 : (F0 m pc ls st0).monitorRoom = 0 := rfl
    rw [e0]; omega
  obtain ⟨v, ⟨U', l2, c2, s2⟩, X', ⟨g', mk', t, L, e1, e2, hq, h1, hL, h2, h3⟩, hsteps⟩ := hK m meth c ⟨T.setVm vm₁, locs, cells, slots⟩ { F0 m pc ls st0 with stack := rest } (.invokestatic index) mk As.toArray X₁ rfl (hsize.trans hml.symm) (by rw [hb]; exact hdg) hW' (X₁.named hnamed)
    ⟨hf.1, hf.2, rfl, gK.warm (U := T.setVm vm₁) X₁.warmed (by show s.heap.size ≤ T.heap.size; rw [hT]; exact hS.1) (by show ∀ a, a < s.heap.size → ¬ gA g a → T.heap[a]? = s.heap[a]?; rw [hT]; exact hS.2.1) hgk, by show GH g h T.heap; rw [hT]; exact hG⟩
  dsimp only [Pt.U, Pt.locs, Pt.cells, Pt.slots] at X' e1 e2 h1 h2 h3 hsteps
  subst h1; subst h2; subst h3
  exact ⟨v, (T.setVm vm₁).calling g' mk' As.toArray, t, U', L, hT, X', hL, e1, e2, hq, fun target ht => hstep₁ _ fun acts => by rw [doInvoke_state]; exact hsteps.trans ht⟩
/-- a call that throws, and is caught here -/
theorem cx_call (C0 : Cx g p s m args c cc nL own) (hG : GH g h H) (hS : va_S (gA g) s.heap H locs) {Xc : String} (hM : MetT l y (ww y bytes maxL ret) (rmm fr lc 1 6) (va_Pc (.ref b :: As) (gS g h)) Xc 1 6) {ci : Nat} {q : vw_C} (hkd : hK h b = ci + 1) (hci : ci < 20) (hc : vwCl[ci]? = some q) (hq : q.1 = y.cls)
    (hcode : Cond.code y bytes maxL ret ∈ wx_T) (hl : Cond.methodLink own index y ∈ wx_T) (hi : Cond.instanceMethod y ∈ wx_T) (hsel : Cond.selects y.cls y y ∈ wx_T) (hini : Cond.initialized y.cls ∈ wx_T) (hd : mDesc y n) (hR : fr + 1 ≤ R.frames ∧ 8 + (maxL + 11) + lc ≤ R.locals)
    (hn : As.length = n) (hsize : ls.size = nL) (hstack : st0 = As.reverse ++ .ref b :: rest) (hW : (rest.map fun v => v.category).sum ≤ 8) (hdg : decode cc pc = .ok (.invokevirtual index, 3)) (hf : cells + 1 ≤ R.cells ∧ slots + 6 ≤ R.slots) {hpc : Nat}
    (hct : ∀ (T : State) (x : Addr), Stand p l e R s m args below meth c T locs (cells + 1) (slots + 6) → (∃ ce : Cell, T.heap[x]? = some ce ∧ ce.vm.isStatics = false ∧ s.vm.findClass Xc = some ce.cls) → ∃ vm', Stand p l e R s m args below meth c (T.setVm vm') locs (cells + 1) (slots + 6) ∧ ∀ target, Steps p.tables e below ((T.setVm vm').setTop (F0 m hpc ls [.ref x])) target → Steps p.tables e below ((T.setTop (F0 m pc ls rest)).pushFrame (.throwing x)) target)
    (kk : ∀ (x : Nat) (H1 : Heap), GH g h H1 → va_S (gA g) s.heap H1 locs → W p l e R s m args below meth c H1 locs (cells + 1) (slots + 6) Q (F0 m hpc ls [.ref x])) : W p l e R s m args below meth c H locs cells slots Q (F0 m pc ls st0) := by
  obtain ⟨cellB, hcB, hoB, hclB⟩ := px_recv C0 hG hkd hci hc
  rw [hq] at hclB
  obtain ⟨hx, hb, hml, hown, hts, hgk⟩ := C0
  have hgood : ∀ w ∈ ww y bytes maxL ret, ∀ (a' : Array Value) (U : State), s.WarmedH U.vm → w.before a' U = true := fun w hw a' U hWU => by
    obtain ⟨hw', hgw⟩ := wx_good hcode w hw
    rcases hgw with hc | ⟨ty, rfl⟩
    · simp only [Bool.and_eq_true] at hc
      have h1 := Cond.onTables_warm (T := U) (args' := a') hWU hc.1 hc.2 (hts w hw')
      rwa [State.setVm_self] at h1
    · have h1 : (Cond.arrayClass ty).before args (s.setVm U.vm) = true := Cond.before_shiftedFace (State.Shifted.of_warmed hWU) _ rfl (hts _ hw')
      exact h1
  intro T hT X
  obtain ⟨x, T', X', hz, hkeep, hce, hst⟩ := th_call X hx hM gS.blind hR.1 (Wd := 8) hR.2 hgood hown (hts _ hl) (hts _ hi) (hts _ hsel) (hts _ hcode) (hts _ hini) ⟨hd.1, hd.2.1⟩ (by rw [hT]; exact hcB) hoB hclB (g := F0 m pc ls st0) rfl (hsize.trans hml.symm) (argsL := As) (rest := rest)
    (fun sig hs => by
      have h1 := hd.2.2
      rw [hs] at h1
      exact hn.trans (Option.some.inj h1).symm) hstack (by show 2 * 0 + _ ≤ 8; omega) (by rw [hb]; exact hdg) hf.1 hf.2
    (fun vm₁ hW1 => ⟨rfl, gK.warm (U := T.setVm vm₁) hW1 (by show s.heap.size ≤ T.heap.size; rw [hT]; exact hS.1) (by show ∀ a, a < s.heap.size → ¬ gA g a → T.heap[a]? = s.heap[a]?; rw [hT]; exact hS.2.1) hgk, by show GH g h T.heap; rw [hT]; exact hG⟩)
  obtain ⟨vm', X2, hst2⟩ := hct T' x X' hce
  rw [hT] at hz hkeep
  obtain ⟨t2, a1, b1⟩ := kk x T'.heap (hG.kept hkeep) ⟨Nat.le_trans hS.1 hz, fun q h1 h2 => (hkeep q (Nat.lt_of_lt_of_le h1 hS.1)).trans (hS.2.1 q h1 h2), hS.2.2⟩ (T'.setVm vm') rfl X2
  exact ⟨t2, hst _ (hst2 _ a1), b1⟩
end PW
end
section
/-! the clause that catches, as cx_call asks for it -/
section HC
variable {p : Program} {l : Launch} {e : Env} {R : Room} {s : State} {m : MethodId} {args : Array Value} {below : List Frame} {meth : Method} {c : Code} {locs : List Loc} {cells slots : Nat}
variable {cc : ByteArray} {pc nL : Nat} {ls : Array Slot} {rest : List Value} {g : Gm} {own : String}
theorem hc_one (C0 : Cx g p s m args c cc nL own) {s1 e1 h1 t1 : Nat} {r : List (Nat × Nat × Nat × Nat)} (htab : c.exceptionTable.toList.map (fun h => (h.startPc, h.endPc, h.handlerPc, h.catchType)) = (s1, e1, h1, t1) :: r) (hcov : s1 ≤ pc ∧ pc < e1) (ht0 : t1 ≠ 0) {Xc : String} (hlink : Cond.classLink own t1 Xc ∈ wx_T) (hcast : Cond.castable Xc Xc ∈ wx_N) :
    ∀ (T : State) (x : Addr), Stand p l e R s m args below meth c T locs cells slots → (∃ ce : Cell, T.heap[x]? = some ce ∧ ce.vm.isStatics = false ∧ s.vm.findClass Xc = some ce.cls) → ∃ vm', Stand p l e R s m args below meth c (T.setVm vm') locs cells slots ∧ ∀ target, Steps p.tables e below ((T.setVm vm').setTop (F0 m h1 ls [.ref x])) target → Steps p.tables e below ((T.setTop (F0 m pc ls rest)).pushFrame (.throwing x)) target := by
  intro T x X ⟨ce, hc1, hc2, hc3⟩
  obtain ⟨hx, hb, hml, hown, hts, hgk⟩ := C0
  obtain ⟨x1, t, ht, hx1, -⟩ := List.map_eq_cons_iff.mp htab
  obtain ⟨f1, f2, f3, f4⟩ : x1.startPc = s1 ∧ x1.endPc = e1 ∧ x1.handlerPc = h1 ∧ x1.catchType = t1 := by simpa using hx1
  obtain ⟨cx, cy, g1, g2, g3⟩ := Cond.castable_spec (va_Nw.use (A := args) rfl (hgk.2.1 _ hcast))
  cases hc3.symm.trans g1
  obtain ⟨vm', X', hst⟩ := ct_one X x (g := F0 m pc ls rest) rfl hown ht (by simp [covers, f1, f2, hcov.1, hcov.2]) (by rw [f4]; exact ht0) (name := Xc) (by rw [f4]; exact hts _ hlink) g2 hc1 hc2 g3
  exact ⟨vm', X', fun target h => hst target (by rw [f3]; exact h)⟩
theorem hc_two (C0 : Cx g p s m args c cc nL own) {s1 e1 h1 t1 s2 e2 h2 t2 : Nat} {r : List (Nat × Nat × Nat × Nat)} (htab : c.exceptionTable.toList.map (fun h => (h.startPc, h.endPc, h.handlerPc, h.catchType)) = (s1, e1, h1, t1) :: (s2, e2, h2, t2) :: r) (hcov : s1 ≤ pc ∧ pc < e1) (ht0 : t1 ≠ 0) (hcov2 : s2 ≤ pc ∧ pc < e2) (ht02 : t2 ≠ 0) {X1 Xc : String} (hlink : Cond.classLink own t1 X1 ∈ wx_T) (hlink2 : Cond.classLink own t2 Xc ∈ wx_T) (hnc : va_Nc Xc X1 s) (hcast : Cond.castable Xc Xc ∈ wx_N) :
    ∀ (T : State) (x : Addr), Stand p l e R s m args below meth c T locs cells slots → (∃ ce : Cell, T.heap[x]? = some ce ∧ ce.vm.isStatics = false ∧ s.vm.findClass Xc = some ce.cls) → ∃ vm', Stand p l e R s m args below meth c (T.setVm vm') locs cells slots ∧ ∀ target, Steps p.tables e below ((T.setVm vm').setTop (F0 m h2 ls [.ref x])) target → Steps p.tables e below ((T.setTop (F0 m pc ls rest)).pushFrame (.throwing x)) target := by
  intro T x X ⟨ce, hc1, hc2, hc3⟩
  obtain ⟨hx, hb, hml, hown, hts, hgk⟩ := C0
  obtain ⟨x1, t, ht, hx1, ht'⟩ := List.map_eq_cons_iff.mp htab
  obtain ⟨x2, t3, ht3, hx2, -⟩ := List.map_eq_cons_iff.mp ht'
  subst ht3
  obtain ⟨f1, f2, f3, f4⟩ : x1.startPc = s1 ∧ x1.endPc = e1 ∧ x1.handlerPc = h1 ∧ x1.catchType = t1 := by simpa using hx1
  obtain ⟨f5, f6, f7, f8⟩ : x2.startPc = s2 ∧ x2.endPc = e2 ∧ x2.handlerPc = h2 ∧ x2.catchType = t2 := by simpa using hx2
  obtain ⟨cx, cy, g1, g2, g3⟩ := Cond.castable_spec (va_Nw.use (A := args) rfl (hgk.2.1 _ hcast))
  cases hc3.symm.trans g1
  obtain ⟨n1, n2, k1, k2, k3⟩ := hnc
  cases hc3.symm.trans k1
  obtain ⟨vm', X', hst⟩ := ct_two X x (g := F0 m pc ls rest) rfl hown ht (by simp [covers, f1, f2, hcov.1, hcov.2]) (by rw [f4]; exact ht0) (by simp [covers, f5, f6, hcov2.1, hcov2.2]) (by rw [f8]; exact ht02) (name := X1) (name2 := Xc) (by rw [f4]; exact hts _ hlink) (by rw [f8]; exact hts _ hlink2) k2 g2 hc1 hc2 k3 g3
  exact ⟨vm', X', fun target h => hst target (by rw [f7]; exact h)⟩
end HC
end
