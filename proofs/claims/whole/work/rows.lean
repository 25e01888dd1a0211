section
-- ===== PART A: goes FIRST, ahead of the names: the tables' words, and 'selects' of the private methods out of them =====
/-- a private method of a class that the tables say can be made, by its rows of tables_1 -/
def lw_okq (q : MethodName × Nat) : Prop := (q.1.cls ≠ "java/lang/invoke/MethodHandle" ∧ q.1.cls ≠ "java/lang/invoke/VarHandle") ∧ Cond.instantiable q.1.cls q.2 ∈ tables_1 ∧ Cond.privateMethod q.1 ∈ tables_1 ∧ Cond.instanceMethod q.1 ∈ tables_1
theorem lw_p0 : lw_okq (⟨"SlidingHeap", "markLive", "()V"⟩, 18) := ⟨⟨by decide +kernel, by decide +kernel⟩, List.mem_of_getElem? (i := 13) (by decide +kernel), List.mem_of_getElem? (i := 97) (by decide +kernel), List.mem_of_getElem? (i := 98) (by decide +kernel)⟩
theorem lw_p1 : lw_okq (⟨"SlidingHeap", "mark", "(I)V"⟩, 18) := ⟨⟨by decide +kernel, by decide +kernel⟩, List.mem_of_getElem? (i := 13) (by decide +kernel), List.mem_of_getElem? (i := 101) (by decide +kernel), List.mem_of_getElem? (i := 102) (by decide +kernel)⟩
theorem lw_p2 : lw_okq (⟨"SlidingHeap", "isObject", "(I)Z"⟩, 18) := ⟨⟨by decide +kernel, by decide +kernel⟩, List.mem_of_getElem? (i := 13) (by decide +kernel), List.mem_of_getElem? (i := 105) (by decide +kernel), List.mem_of_getElem? (i := 106) (by decide +kernel)⟩
theorem lw_p3 : lw_okq (⟨"SlidingHeap", "spreadMarks", "()V"⟩, 18) := ⟨⟨by decide +kernel, by decide +kernel⟩, List.mem_of_getElem? (i := 13) (by decide +kernel), List.mem_of_getElem? (i := 109) (by decide +kernel), List.mem_of_getElem? (i := 110) (by decide +kernel)⟩
theorem lw_p4 : lw_okq (⟨"SlidingHeap", "firstSlot", "(I)I"⟩, 18) := ⟨⟨by decide +kernel, by decide +kernel⟩, List.mem_of_getElem? (i := 13) (by decide +kernel), List.mem_of_getElem? (i := 113) (by decide +kernel), List.mem_of_getElem? (i := 114) (by decide +kernel)⟩
theorem lw_p5 : lw_okq (⟨"SlidingHeap", "endOf", "(I)I"⟩, 18) := ⟨⟨by decide +kernel, by decide +kernel⟩, List.mem_of_getElem? (i := 13) (by decide +kernel), List.mem_of_getElem? (i := 117) (by decide +kernel), List.mem_of_getElem? (i := 118) (by decide +kernel)⟩
theorem lw_p6 : lw_okq (⟨"SlidingHeap", "sizeOf", "(I)I"⟩, 18) := ⟨⟨by decide +kernel, by decide +kernel⟩, List.mem_of_getElem? (i := 13) (by decide +kernel), List.mem_of_getElem? (i := 121) (by decide +kernel), List.mem_of_getElem? (i := 122) (by decide +kernel)⟩
theorem lw_p7 : lw_okq (⟨"SlidingHeap", "cutWeakSlots", "()V"⟩, 18) := ⟨⟨by decide +kernel, by decide +kernel⟩, List.mem_of_getElem? (i := 13) (by decide +kernel), List.mem_of_getElem? (i := 125) (by decide +kernel), List.mem_of_getElem? (i := 126) (by decide +kernel)⟩
theorem lw_p8 : lw_okq (⟨"SlidingHeap", "queueLost", "()V"⟩, 18) := ⟨⟨by decide +kernel, by decide +kernel⟩, List.mem_of_getElem? (i := 13) (by decide +kernel), List.mem_of_getElem? (i := 129) (by decide +kernel), List.mem_of_getElem? (i := 130) (by decide +kernel)⟩
theorem lw_p9 : lw_okq (⟨"SlidingHeap", "slideDown", "()V"⟩, 18) := ⟨⟨by decide +kernel, by decide +kernel⟩, List.mem_of_getElem? (i := 13) (by decide +kernel), List.mem_of_getElem? (i := 133) (by decide +kernel), List.mem_of_getElem? (i := 134) (by decide +kernel)⟩
theorem lw_p10 : lw_okq (⟨"SlidingHeap", "move", "(II)V"⟩, 18) := ⟨⟨by decide +kernel, by decide +kernel⟩, List.mem_of_getElem? (i := 13) (by decide +kernel), List.mem_of_getElem? (i := 137) (by decide +kernel), List.mem_of_getElem? (i := 138) (by decide +kernel)⟩
theorem lw_p11 : lw_okq (⟨"SlidingHeap", "release", "(I)V"⟩, 18) := ⟨⟨by decide +kernel, by decide +kernel⟩, List.mem_of_getElem? (i := 13) (by decide +kernel), List.mem_of_getElem? (i := 141) (by decide +kernel), List.mem_of_getElem? (i := 142) (by decide +kernel)⟩
theorem lw_p12 : lw_okq (⟨"SlidingHeap", "wipe", "(II)V"⟩, 18) := ⟨⟨by decide +kernel, by decide +kernel⟩, List.mem_of_getElem? (i := 13) (by decide +kernel), List.mem_of_getElem? (i := 145) (by decide +kernel), List.mem_of_getElem? (i := 146) (by decide +kernel)⟩
theorem lw_p13 : lw_okq (⟨"SlidingHeap", "growOlder", "()V"⟩, 18) := ⟨⟨by decide +kernel, by decide +kernel⟩, List.mem_of_getElem? (i := 13) (by decide +kernel), List.mem_of_getElem? (i := 149) (by decide +kernel), List.mem_of_getElem? (i := 150) (by decide +kernel)⟩
theorem lw_p14 : lw_okq (⟨"java/lang/Throwable", "fillInStackTrace", "(I)Ljava/lang/Throwable;"⟩, 6) := ⟨⟨by decide +kernel, by decide +kernel⟩, List.mem_of_getElem? (i := 209) (by decide +kernel), List.mem_of_getElem? (i := 207) (by decide +kernel), List.mem_of_getElem? (i := 208) (by decide +kernel)⟩
theorem lw_p15 : lw_okq (⟨"SlidingHeap", "markSurvivors", "()V"⟩, 18) := ⟨⟨by decide +kernel, by decide +kernel⟩, List.mem_of_getElem? (i := 13) (by decide +kernel), List.mem_of_getElem? (i := 252) (by decide +kernel), List.mem_of_getElem? (i := 253) (by decide +kernel)⟩
def lw_privs_1 : List (MethodName × Nat) := [(⟨"SlidingHeap", "markLive", "()V"⟩, 18), (⟨"SlidingHeap", "mark", "(I)V"⟩, 18), (⟨"SlidingHeap", "isObject", "(I)Z"⟩, 18), (⟨"SlidingHeap", "spreadMarks", "()V"⟩, 18), (⟨"SlidingHeap", "firstSlot", "(I)I"⟩, 18), (⟨"SlidingHeap", "endOf", "(I)I"⟩, 18), (⟨"SlidingHeap", "sizeOf", "(I)I"⟩, 18), (⟨"SlidingHeap", "cutWeakSlots", "()V"⟩, 18), (⟨"SlidingHeap", "queueLost", "()V"⟩, 18), (⟨"SlidingHeap", "slideDown", "()V"⟩, 18), (⟨"SlidingHeap", "move", "(II)V"⟩, 18), (⟨"SlidingHeap", "release", "(I)V"⟩, 18), (⟨"SlidingHeap", "wipe", "(II)V"⟩, 18), (⟨"SlidingHeap", "growOlder", "()V"⟩, 18), (⟨"java/lang/Throwable", "fillInStackTrace", "(I)Ljava/lang/Throwable;"⟩, 6), (⟨"SlidingHeap", "markSurvivors", "()V"⟩, 18)]
theorem lw_r1 : ∀ q ∈ lw_privs_1, lw_okq q := List.forall_mem_cons.mpr ⟨lw_p0, List.forall_mem_cons.mpr ⟨lw_p1, List.forall_mem_cons.mpr ⟨lw_p2, List.forall_mem_cons.mpr ⟨lw_p3, List.forall_mem_cons.mpr ⟨lw_p4, List.forall_mem_cons.mpr ⟨lw_p5, List.forall_mem_cons.mpr ⟨lw_p6, List.forall_mem_cons.mpr ⟨lw_p7, List.forall_mem_cons.mpr ⟨lw_p8, List.forall_mem_cons.mpr ⟨lw_p9, List.forall_mem_cons.mpr ⟨lw_p10, List.forall_mem_cons.mpr ⟨lw_p11, List.forall_mem_cons.mpr ⟨lw_p12, List.forall_mem_cons.mpr ⟨lw_p13, List.forall_mem_cons.mpr ⟨lw_p14, List.forall_mem_cons.mpr ⟨lw_p15, fun _ h => absurd h List.not_mem_nil⟩⟩⟩⟩⟩⟩⟩⟩⟩⟩⟩⟩⟩⟩⟩⟩
theorem lw_p16 : lw_okq (⟨"SlidingHeap", "markedWords", "()I"⟩, 18) := ⟨⟨by decide +kernel, by decide +kernel⟩, List.mem_of_getElem? (i := 13) (by decide +kernel), List.mem_of_getElem? (i := 256) (by decide +kernel), List.mem_of_getElem? (i := 257) (by decide +kernel)⟩
theorem lw_p17 : lw_okq (⟨"SlidingHeap", "leastFreeHandle", "()I"⟩, 18) := ⟨⟨by decide +kernel, by decide +kernel⟩, List.mem_of_getElem? (i := 13) (by decide +kernel), List.mem_of_getElem? (i := 276) (by decide +kernel), List.mem_of_getElem? (i := 277) (by decide +kernel)⟩
theorem lw_p18 : lw_okq (⟨"SlidingHeap", "place", "(II)V"⟩, 18) := ⟨⟨by decide +kernel, by decide +kernel⟩, List.mem_of_getElem? (i := 13) (by decide +kernel), List.mem_of_getElem? (i := 280) (by decide +kernel), List.mem_of_getElem? (i := 281) (by decide +kernel)⟩
theorem lw_p19 : lw_okq (⟨"SlidingHeap", "addRoot", "(I)V"⟩, 18) := ⟨⟨by decide +kernel, by decide +kernel⟩, List.mem_of_getElem? (i := 13) (by decide +kernel), List.mem_of_getElem? (i := 284) (by decide +kernel), List.mem_of_getElem? (i := 285) (by decide +kernel)⟩
theorem lw_p20 : lw_okq (⟨"SlidingHeap", "requireSlot", "(II)V"⟩, 18) := ⟨⟨by decide +kernel, by decide +kernel⟩, List.mem_of_getElem? (i := 13) (by decide +kernel), List.mem_of_getElem? (i := 296) (by decide +kernel), List.mem_of_getElem? (i := 297) (by decide +kernel)⟩
theorem lw_p21 : lw_okq (⟨"SlidingHeap", "requireObject", "(I)V"⟩, 18) := ⟨⟨by decide +kernel, by decide +kernel⟩, List.mem_of_getElem? (i := 13) (by decide +kernel), List.mem_of_getElem? (i := 300) (by decide +kernel), List.mem_of_getElem? (i := 301) (by decide +kernel)⟩
theorem lw_p22 : lw_okq (⟨"SlidingHeap", "setSlot", "(IIII)V"⟩, 18) := ⟨⟨by decide +kernel, by decide +kernel⟩, List.mem_of_getElem? (i := 13) (by decide +kernel), List.mem_of_getElem? (i := 319) (by decide +kernel), List.mem_of_getElem? (i := 320) (by decide +kernel)⟩
theorem lw_p23 : lw_okq (⟨"SlidingHeap", "removeFirstQueued", "()I"⟩, 18) := ⟨⟨by decide +kernel, by decide +kernel⟩, List.mem_of_getElem? (i := 13) (by decide +kernel), List.mem_of_getElem? (i := 365) (by decide +kernel), List.mem_of_getElem? (i := 366) (by decide +kernel)⟩
theorem lw_p24 : lw_okq (⟨"SlidingHeap", "slotsThatShow", "(I)I"⟩, 18) := ⟨⟨by decide +kernel, by decide +kernel⟩, List.mem_of_getElem? (i := 13) (by decide +kernel), List.mem_of_getElem? (i := 383) (by decide +kernel), List.mem_of_getElem? (i := 384) (by decide +kernel)⟩
theorem lw_p25 : lw_okq (⟨"SlidingHeap", "measureTo", "(I)V"⟩, 18) := ⟨⟨by decide +kernel, by decide +kernel⟩, List.mem_of_getElem? (i := 13) (by decide +kernel), List.mem_of_getElem? (i := 394) (by decide +kernel), List.mem_of_getElem? (i := 395) (by decide +kernel)⟩
theorem lw_p26 : lw_okq (⟨"SlidingHeap", "refersToDistance", "(II)Z"⟩, 18) := ⟨⟨by decide +kernel, by decide +kernel⟩, List.mem_of_getElem? (i := 13) (by decide +kernel), List.mem_of_getElem? (i := 398) (by decide +kernel), List.mem_of_getElem? (i := 399) (by decide +kernel)⟩
theorem lw_p27 : lw_okq (⟨"SlidingHeap", "nearestStart", "()I"⟩, 18) := ⟨⟨by decide +kernel, by decide +kernel⟩, List.mem_of_getElem? (i := 13) (by decide +kernel), List.mem_of_getElem? (i := 402) (by decide +kernel), List.mem_of_getElem? (i := 403) (by decide +kernel)⟩
theorem lw_p28 : lw_okq (⟨"SlidingHeap", "nearer", "(II)I"⟩, 18) := ⟨⟨by decide +kernel, by decide +kernel⟩, List.mem_of_getElem? (i := 13) (by decide +kernel), List.mem_of_getElem? (i := 406) (by decide +kernel), List.mem_of_getElem? (i := 407) (by decide +kernel)⟩
theorem lw_p29 : lw_okq (⟨"SlidingHeap", "nextOnWay", "(I)I"⟩, 18) := ⟨⟨by decide +kernel, by decide +kernel⟩, List.mem_of_getElem? (i := 13) (by decide +kernel), List.mem_of_getElem? (i := 417) (by decide +kernel), List.mem_of_getElem? (i := 418) (by decide +kernel)⟩
theorem lw_p30 : lw_okq (⟨"SlidingHeapModel", "collectAll", "()I"⟩, 17) := ⟨⟨by decide +kernel, by decide +kernel⟩, List.mem_of_getElem? (i := 428) (by decide +kernel), List.mem_of_getElem? (i := 494) (by decide +kernel), List.mem_of_getElem? (i := 495) (by decide +kernel)⟩
theorem lw_p31 : lw_okq (⟨"SlidingHeapModel", "wordsOf", "(Z)I"⟩, 17) := ⟨⟨by decide +kernel, by decide +kernel⟩, List.mem_of_getElem? (i := 428) (by decide +kernel), List.mem_of_getElem? (i := 498) (by decide +kernel), List.mem_of_getElem? (i := 499) (by decide +kernel)⟩
def lw_privs_2 : List (MethodName × Nat) := [(⟨"SlidingHeap", "markedWords", "()I"⟩, 18), (⟨"SlidingHeap", "leastFreeHandle", "()I"⟩, 18), (⟨"SlidingHeap", "place", "(II)V"⟩, 18), (⟨"SlidingHeap", "addRoot", "(I)V"⟩, 18), (⟨"SlidingHeap", "requireSlot", "(II)V"⟩, 18), (⟨"SlidingHeap", "requireObject", "(I)V"⟩, 18), (⟨"SlidingHeap", "setSlot", "(IIII)V"⟩, 18), (⟨"SlidingHeap", "removeFirstQueued", "()I"⟩, 18), (⟨"SlidingHeap", "slotsThatShow", "(I)I"⟩, 18), (⟨"SlidingHeap", "measureTo", "(I)V"⟩, 18), (⟨"SlidingHeap", "refersToDistance", "(II)Z"⟩, 18), (⟨"SlidingHeap", "nearestStart", "()I"⟩, 18), (⟨"SlidingHeap", "nearer", "(II)I"⟩, 18), (⟨"SlidingHeap", "nextOnWay", "(I)I"⟩, 18), (⟨"SlidingHeapModel", "collectAll", "()I"⟩, 17), (⟨"SlidingHeapModel", "wordsOf", "(Z)I"⟩, 17)]
theorem lw_r2 : ∀ q ∈ lw_privs_2, lw_okq q := List.forall_mem_cons.mpr ⟨lw_p16, List.forall_mem_cons.mpr ⟨lw_p17, List.forall_mem_cons.mpr ⟨lw_p18, List.forall_mem_cons.mpr ⟨lw_p19, List.forall_mem_cons.mpr ⟨lw_p20, List.forall_mem_cons.mpr ⟨lw_p21, List.forall_mem_cons.mpr ⟨lw_p22, List.forall_mem_cons.mpr ⟨lw_p23, List.forall_mem_cons.mpr ⟨lw_p24, List.forall_mem_cons.mpr ⟨lw_p25, List.forall_mem_cons.mpr ⟨lw_p26, List.forall_mem_cons.mpr ⟨lw_p27, List.forall_mem_cons.mpr ⟨lw_p28, List.forall_mem_cons.mpr ⟨lw_p29, List.forall_mem_cons.mpr ⟨lw_p30, List.forall_mem_cons.mpr ⟨lw_p31, fun _ h => absurd h List.not_mem_nil⟩⟩⟩⟩⟩⟩⟩⟩⟩⟩⟩⟩⟩⟩⟩⟩
theorem lw_p32 : lw_okq (⟨"SlidingHeapModel", "findLive", "()V"⟩, 17) := ⟨⟨by decide +kernel, by decide +kernel⟩, List.mem_of_getElem? (i := 428) (by decide +kernel), List.mem_of_getElem? (i := 502) (by decide +kernel), List.mem_of_getElem? (i := 503) (by decide +kernel)⟩
theorem lw_p33 : lw_okq (⟨"SlidingHeapModel", "isSource", "(I)Z"⟩, 17) := ⟨⟨by decide +kernel, by decide +kernel⟩, List.mem_of_getElem? (i := 428) (by decide +kernel), List.mem_of_getElem? (i := 506) (by decide +kernel), List.mem_of_getElem? (i := 507) (by decide +kernel)⟩
theorem lw_p34 : lw_okq (⟨"SlidingHeapModel", "spread", "()V"⟩, 17) := ⟨⟨by decide +kernel, by decide +kernel⟩, List.mem_of_getElem? (i := 428) (by decide +kernel), List.mem_of_getElem? (i := 510) (by decide +kernel), List.mem_of_getElem? (i := 511) (by decide +kernel)⟩
theorem lw_p35 : lw_okq (⟨"SlidingHeapModel", "refers", "(II)Z"⟩, 17) := ⟨⟨by decide +kernel, by decide +kernel⟩, List.mem_of_getElem? (i := 428) (by decide +kernel), List.mem_of_getElem? (i := 514) (by decide +kernel), List.mem_of_getElem? (i := 515) (by decide +kernel)⟩
theorem lw_p36 : lw_okq (⟨"SlidingHeapModel", "weaken", "(I)V"⟩, 17) := ⟨⟨by decide +kernel, by decide +kernel⟩, List.mem_of_getElem? (i := 428) (by decide +kernel), List.mem_of_getElem? (i := 518) (by decide +kernel), List.mem_of_getElem? (i := 519) (by decide +kernel)⟩
theorem lw_p37 : lw_okq (⟨"SlidingHeapModel", "save", "()V"⟩, 17) := ⟨⟨by decide +kernel, by decide +kernel⟩, List.mem_of_getElem? (i := 428) (by decide +kernel), List.mem_of_getElem? (i := 522) (by decide +kernel), List.mem_of_getElem? (i := 523) (by decide +kernel)⟩
theorem lw_p38 : lw_okq (⟨"SlidingHeapModel", "isRoom", "(I)Z"⟩, 17) := ⟨⟨by decide +kernel, by decide +kernel⟩, List.mem_of_getElem? (i := 428) (by decide +kernel), List.mem_of_getElem? (i := 530) (by decide +kernel), List.mem_of_getElem? (i := 531) (by decide +kernel)⟩
theorem lw_p39 : lw_okq (⟨"SlidingHeapModel", "freeHandle", "()I"⟩, 17) := ⟨⟨by decide +kernel, by decide +kernel⟩, List.mem_of_getElem? (i := 428) (by decide +kernel), List.mem_of_getElem? (i := 534) (by decide +kernel), List.mem_of_getElem? (i := 535) (by decide +kernel)⟩
theorem lw_p40 : lw_okq (⟨"SlidingHeapModel", "wouldBeRoom", "(I)Z"⟩, 17) := ⟨⟨by decide +kernel, by decide +kernel⟩, List.mem_of_getElem? (i := 428) (by decide +kernel), List.mem_of_getElem? (i := 538) (by decide +kernel), List.mem_of_getElem? (i := 539) (by decide +kernel)⟩
theorem lw_p41 : lw_okq (⟨"SlidingHeapModel", "countLive", "()I"⟩, 17) := ⟨⟨by decide +kernel, by decide +kernel⟩, List.mem_of_getElem? (i := 428) (by decide +kernel), List.mem_of_getElem? (i := 542) (by decide +kernel), List.mem_of_getElem? (i := 543) (by decide +kernel)⟩
theorem lw_p42 : lw_okq (⟨"SlidingHeapModel", "refused", "(I)Z"⟩, 17) := ⟨⟨by decide +kernel, by decide +kernel⟩, List.mem_of_getElem? (i := 428) (by decide +kernel), List.mem_of_getElem? (i := 546) (by decide +kernel), List.mem_of_getElem? (i := 547) (by decide +kernel)⟩
theorem lw_p43 : lw_okq (⟨"SlidingHeapModel", "isSlot", "(II)Z"⟩, 17) := ⟨⟨by decide +kernel, by decide +kernel⟩, List.mem_of_getElem? (i := 428) (by decide +kernel), List.mem_of_getElem? (i := 554) (by decide +kernel), List.mem_of_getElem? (i := 555) (by decide +kernel)⟩
theorem lw_p44 : lw_okq (⟨"SlidingHeapModel", "isObject", "(I)Z"⟩, 17) := ⟨⟨by decide +kernel, by decide +kernel⟩, List.mem_of_getElem? (i := 428) (by decide +kernel), List.mem_of_getElem? (i := 558) (by decide +kernel), List.mem_of_getElem? (i := 559) (by decide +kernel)⟩
theorem lw_p45 : lw_okq (⟨"SlidingHeapModel", "placeOf", "(I)I"⟩, 17) := ⟨⟨by decide +kernel, by decide +kernel⟩, List.mem_of_getElem? (i := 428) (by decide +kernel), List.mem_of_getElem? (i := 606) (by decide +kernel), List.mem_of_getElem? (i := 607) (by decide +kernel)⟩
theorem lw_p46 : lw_okq (⟨"SlidingHeapModel", "isLive", "(I)Z"⟩, 17) := ⟨⟨by decide +kernel, by decide +kernel⟩, List.mem_of_getElem? (i := 428) (by decide +kernel), List.mem_of_getElem? (i := 610) (by decide +kernel), List.mem_of_getElem? (i := 611) (by decide +kernel)⟩
theorem lw_p47 : lw_okq (⟨"SlidingHeapModel", "heldBy", "(I)I"⟩, 17) := ⟨⟨by decide +kernel, by decide +kernel⟩, List.mem_of_getElem? (i := 428) (by decide +kernel), List.mem_of_getElem? (i := 614) (by decide +kernel), List.mem_of_getElem? (i := 615) (by decide +kernel)⟩
def lw_privs_3 : List (MethodName × Nat) := [(⟨"SlidingHeapModel", "findLive", "()V"⟩, 17), (⟨"SlidingHeapModel", "isSource", "(I)Z"⟩, 17), (⟨"SlidingHeapModel", "spread", "()V"⟩, 17), (⟨"SlidingHeapModel", "refers", "(II)Z"⟩, 17), (⟨"SlidingHeapModel", "weaken", "(I)V"⟩, 17), (⟨"SlidingHeapModel", "save", "()V"⟩, 17), (⟨"SlidingHeapModel", "isRoom", "(I)Z"⟩, 17), (⟨"SlidingHeapModel", "freeHandle", "()I"⟩, 17), (⟨"SlidingHeapModel", "wouldBeRoom", "(I)Z"⟩, 17), (⟨"SlidingHeapModel", "countLive", "()I"⟩, 17), (⟨"SlidingHeapModel", "refused", "(I)Z"⟩, 17), (⟨"SlidingHeapModel", "isSlot", "(II)Z"⟩, 17), (⟨"SlidingHeapModel", "isObject", "(I)Z"⟩, 17), (⟨"SlidingHeapModel", "placeOf", "(I)I"⟩, 17), (⟨"SlidingHeapModel", "isLive", "(I)Z"⟩, 17), (⟨"SlidingHeapModel", "heldBy", "(I)I"⟩, 17)]
theorem lw_r3 : ∀ q ∈ lw_privs_3, lw_okq q := List.forall_mem_cons.mpr ⟨lw_p32, List.forall_mem_cons.mpr ⟨lw_p33, List.forall_mem_cons.mpr ⟨lw_p34, List.forall_mem_cons.mpr ⟨lw_p35, List.forall_mem_cons.mpr ⟨lw_p36, List.forall_mem_cons.mpr ⟨lw_p37, List.forall_mem_cons.mpr ⟨lw_p38, List.forall_mem_cons.mpr ⟨lw_p39, List.forall_mem_cons.mpr ⟨lw_p40, List.forall_mem_cons.mpr ⟨lw_p41, List.forall_mem_cons.mpr ⟨lw_p42, List.forall_mem_cons.mpr ⟨lw_p43, List.forall_mem_cons.mpr ⟨lw_p44, List.forall_mem_cons.mpr ⟨lw_p45, List.forall_mem_cons.mpr ⟨lw_p46, List.forall_mem_cons.mpr ⟨lw_p47, fun _ h => absurd h List.not_mem_nil⟩⟩⟩⟩⟩⟩⟩⟩⟩⟩⟩⟩⟩⟩⟩⟩
theorem lw_p48 : lw_okq (⟨"SlidingHeapModel", "firstOf", "(I)I"⟩, 17) := ⟨⟨by decide +kernel, by decide +kernel⟩, List.mem_of_getElem? (i := 428) (by decide +kernel), List.mem_of_getElem? (i := 622) (by decide +kernel), List.mem_of_getElem? (i := 623) (by decide +kernel)⟩
theorem lw_p49 : lw_okq (⟨"SlidingHeapModel", "findLeft", "(I)V"⟩, 17) := ⟨⟨by decide +kernel, by decide +kernel⟩, List.mem_of_getElem? (i := 428) (by decide +kernel), List.mem_of_getElem? (i := 626) (by decide +kernel), List.mem_of_getElem? (i := 627) (by decide +kernel)⟩
def lw_privs_4 : List (MethodName × Nat) := [(⟨"SlidingHeapModel", "firstOf", "(I)I"⟩, 17), (⟨"SlidingHeapModel", "findLeft", "(I)V"⟩, 17)]
theorem lw_r4 : ∀ q ∈ lw_privs_4, lw_okq q := List.forall_mem_cons.mpr ⟨lw_p48, List.forall_mem_cons.mpr ⟨lw_p49, fun _ h => absurd h List.not_mem_nil⟩⟩
def lw_privs : List (MethodName × Nat) := lw_privs_1 ++ (lw_privs_2 ++ (lw_privs_3 ++ (lw_privs_4)))
def lw_tbl : List Cond := k2_sels lw_privs ++ tables_1
theorem lw_privs_ok : ∀ q ∈ lw_privs, lw_okq q := by
  show ∀ q ∈ lw_privs_1 ++ (lw_privs_2 ++ (lw_privs_3 ++ (lw_privs_4))), lw_okq q
  exact List.forall_mem_append.mpr ⟨lw_r1, List.forall_mem_append.mpr ⟨lw_r2, List.forall_mem_append.mpr ⟨lw_r3, lw_r4⟩⟩⟩
end
section
/-! ===== BEGIN words of one list among another's, by their places ===== -/
theorem goodIn_r {big : List Cond} (ws : List Cond) (ps : List Nat) (hp : ws = ps.filterMap (fun i => big[i]?)) (h : ws.all goodWord = true) : GoodIn big ws := by
  intro w hw
  have h1 := List.all_eq_true.mp h w hw
  rw [hp] at hw
  obtain ⟨i, -, hi⟩ := List.mem_filterMap.mp hw
  have hm : w ∈ big := by first | exact List.mem_of_getElem? hi | exact List.getElem?_mem hi
  exact ⟨hm, good_of_word h1⟩
theorem goodIn_app {big a b : List Cond} (ha : GoodIn big a) (hb : GoodIn big b) : GoodIn big (a ++ b) := fun w h => (List.mem_append.mp h).elim (ha w) (hb w)
theorem goodIn_ca {big a b : List Cond} {c : Cond} (ha : GoodIn big (c :: a)) (hb : GoodIn big b) : GoodIn big (c :: (a ++ b)) := fun w h => (List.mem_cons.mp h).elim (fun e => ha w (List.mem_cons.mpr (Or.inl e))) (fun h => (List.mem_append.mp h).elim (fun h => ha w (List.mem_cons.mpr (Or.inr h))) (hb w))
theorem goodIn_sub {big ws : List Cond} (hm : ∀ w ∈ ws, w ∈ big) (h : ws.all goodWord = true) : GoodIn big ws := fun w hw => ⟨hm w hw, good_of_word (List.all_eq_true.mp h w hw)⟩
/-! ===== END ===== -/

/-! ===== BEGIN exceptions that leave a method, and their catching by the caller (launches without stack traces) ===== -/
section VXA
/-! The laws vx_back, vx_callV, vx_callS, vx_callSW, vx_throw0, vx_throwS follow proofs of the library, with one case more: JvmDerived/Free/Laws.lean (Back.of_free), Shelf42/LK1.lean (callV, callS), Shelf/KitTraced.lean (throwNew0V, throwNewS). -/
/-- where a method has thrown q: the class by its name, the cell, what was written, the world -/
def vx_T (XC : String → State → State → Prop) (st : State) (q : Addr) (t : State) (mc ms : Nat) (free : Addr → Prop) : Prop :=
  ∃ (E : String) (ce : Cell) (L : List Loc), XC E st t ∧ t.heap[q]? = some ce ∧ ce.vm = .none ∧ st.vm.findClass E = some ce.cls ∧ st.WarmedH t.vm ∧ st.sameButNew ({ t with vm := st.vm } : State) L mc ms ∧ ∀ z ∈ L, free z.base
def vx_Q (Qc : Array Value → State → Outcome → State → Prop) (XC : String → State → State → Prop) (mc ms : Nat) (free : Addr → Prop) : Array Value → State → Outcome → State → Prop := fun a st o t =>
  (Qc a st o t ∧ ∃ L, FrameEnd st o t L mc ms ∧ ∀ q ∈ L, free q.base) ∨ ∃ q, o = .threw q ∧ vx_T XC st q t mc ms free
/-- a callee that returns or throws -/
def vx_Met (l : Launch) (y : MethodName) (ws : List Cond) (rm : Room) (Pc : Array Value → State → Prop) (Qc : Array Value → State → Outcome → State → Prop) (XC : String → State → State → Prop) (mc ms : Nat) (free : Addr → Prop) : Prop :=
  MetFree l y (headSpec ws rm) Pc (fun _ _ _ _ _ => True) (vx_Q Qc XC mc ms free)
def vx_Post (XC : String → State → State → Prop) (mc ms : Nat) (free : Addr → Prop) : Pt → Array Value → Addr → Pt → Prop := fun A a q B =>
  ∃ (g : JFrame) (mk : MethodId) (t : State) (L : List Loc) (E : String) (ce : Cell), B.U.heap = t.heap ∧ B.U.vm = t.vm ∧ XC E (A.U.calling g mk a) t ∧ t.heap[q]? = some ce ∧ ce.vm = .none ∧ A.U.vm.findClass E = some ce.cls ∧ B.locs = A.locs ++ L ∧ (∀ z ∈ L, free z.base) ∧ B.cells = A.cells + mc ∧ B.slots = A.slots + ms
def vx_Back (l : Launch) (R : Room) (p : Program) (e : Env) (below : List Frame) (s : State) (sargs : Array Value) (y : MethodName) (len W9 : Nat)
    (Pre : Pt → Array Value → Prop) (Post : Pt → Array Value → Option Value → Pt → Prop) (PostX : Pt → Array Value → Addr → Pt → Prop) : Prop :=
  ∀ (m : MethodId) (meth : Method) (c : Code) (A : Pt) (g : JFrame) (ig : Instr) (mk : MethodId) (a : Array Value),
    Stand p l e R s m sargs below meth c A.U A.locs A.cells A.slots → g.method = m → g.locals.size = c.maxLocals → decode c.code g.pc = .ok (ig, len) →
    2 * g.monitorRoom + (g.stack.map fun v => v.category).sum ≤ W9 → A.U.methodNamed? y = some mk → Pre A a →
    (∃ (v : Option Value) (B : Pt), Stand p l e R s m sargs below meth c B.U B.locs B.cells B.slots ∧ Post A a v B ∧
      Steps p.tables e below (doInvoke e (A.U.setTop g) [] mk a).1 (B.U.setTop { g with pc := g.pc + len, stack := v.toList ++ g.stack })) ∨
    (∃ (q : Addr) (B : Pt), Stand p l e R s m sargs below meth c B.U B.locs B.cells B.slots ∧ PostX A a q B ∧
      Steps p.tables e below (doInvoke e (A.U.setTop g) [] mk a).1 ((B.U.setTop g).pushFrame (.throwing q)))
section Payer
variable {l : Launch} {R : Room} {p : Program} {e : Env} {below : List Frame} {s : State} {sargs : Array Value} {y : MethodName} {len W9 : Nat}
theorem vx_back {ws : List Cond} {rm : Room} {Pc : Array Value → State → Prop} {Qc : Array Value → State → Outcome → State → Prop} {XC : String → State → State → Prop} {mc ms : Nat} {free : Addr → Prop} {bytes : ByteArray} {maxL : Nat} {ret : Option FieldType}
    (hM : vx_Met l y ws rm Pc Qc XC mc ms free) (hblind : FrameBlind Pc) (hrc : rm.cells = mc) (hrs : rm.slots = ms)
    (hframes : rm.frames + 1 ≤ R.frames) (hlocals : W9 + (maxL + 11) + rm.locals ≤ R.locals)
    (hws : ∀ w ∈ ws, ∀ a' U, s.WarmedH U.vm → w.before a' U = true) (hcode : Cond.code y bytes maxL ret ∈ ws) (hinit : ∀ a' U, s.WarmedH U.vm → (Cond.initialized y.cls).before a' U = true) :
    vx_Back l R p e below s sargs y len W9 (PreOf R mc ms Pc) (PostOf Qc mc ms free) (vx_Post XC mc ms free) := by
  intro m meth c A g ig mk a X hg hsize hdg hW hn hp
  have h1 : (headSpec ws rm).pre.before a A.U = true := atoms_intro fun w hw => hws w hw _ _ X.warmed
  have h2 : (Cond.code y bytes maxL ret).before a A.U = true := hws _ hcode _ _ X.warmed
  have h3 : (Cond.initialized y.cls).before a A.U = true := hinit _ _ X.warmed
  have h4 : A.cells + (headSpec ws rm).room.cells ≤ R.cells := by rw [show (headSpec ws rm).room.cells = mc from hrc]; exact hp.1
  have h5 : A.slots + (headSpec ws rm).room.slots ≤ R.slots := by rw [show (headSpec ws rm).room.slots = ms from hrs]; exact hp.2.1
  have hPc : Pc a (A.U.calling g mk a) := hblind _ _ _ _ hp.2.2
  obtain ⟨U, Ls, c0, s0⟩ := A
  dsimp only [Pt.U, Pt.locs, Pt.cells, Pt.slots] at h1 h2 h3 h4 h5 X hn hPc ⊢
  obtain ⟨methY, cY, hmY, hcY, -, hlY, -, -, -, -⟩ := Cond.code_spec hn h2
  obtain ⟨kY, hkY, -⟩ := className_of_methodNamed hn
  have hinitY : kY.init = .initialized := Cond.initialized_spec (findClass_of_methodNamed hn) hkY h3
  have h : At U g.method c below := by rw [hg]; exact X.here
  have hlocals9 : W9 + (maxL + 11) + (headSpec ws rm).room.locals ≤ R.locals := hlocals
  have happ : (headSpec ws rm).appliesLoose y e.platform (U.calling g mk a) = true :=
    Spec.appliesLoose_calling (g := g) h hdg hn hkY hinitY
      (X.room_calling (g := g) (R' := (headSpec ws rm).room) hsize hmY hcY hframes (by rw [hlY]; omega) h4 h5) h1
  obtain ⟨mid, hmid⟩ := h.above
  have hfr : (U.setTop g).frames = (.java g :: mid) ++ below := by rw [State.frames_setTop' g h.top, hmid]; rfl
  obtain ⟨o, s₂, hsteps, -, hend, hq⟩ := Steps.callFree hM p X.admits X.cas X.clock (acts := []) hfr happ hPc trivial
  have hq' : vx_Q Qc XC mc ms free a (U.calling g mk a) o s₂ := hq
  rw [State.frames_setTop' g h.top] at hend
  obtain ⟨g₀, hg0⟩ := Option.isSome_iff_exists.mp h.top
  obtain ⟨r, hr⟩ := State.topJava?_eq_some.mp hg0
  have hr' : (({ U with heap := s₂.heap, slotsUsed := s₂.slotsUsed } : State).setVm s₂.vm).frames = .java g₀ :: r := hr
  rcases hq' with ⟨hqc, L, hfe, hL⟩ | ⟨q, rfl, E, ce, L, hx, hce, hcv, hcl, hW₂, hsm, hL⟩
  · obtain ⟨⟨v, rfl⟩, hW₂, e2, q2, q3, q4, q5, q6⟩ := id hfe
    have e3 : s₂ = ({ (U.calling g mk a).setFrames s₂.frames with heap := s₂.heap, slotsUsed := s₂.slotsUsed } : State).setVm s₂.vm := by
      have : s₂ = ({ s₂ with vm := (U.calling g mk a).vm } : State).setVm s₂.vm := rfl
      rw [e2] at this
      exact this
    obtain ⟨c₂, i₂, len₂, hc₂, hd₂, hf₂⟩ := hend
    have hW' : U.WarmedH s₂.vm := hW₂
    have hcc : c₂ = c := by
      have h1 : s₂.code? g.method = U.code? g.method := by
        rw [State.code?_eq, State.code?_eq, hW'.alike.method?]
      exact Option.some.inj (hc₂.symm.trans (h1.trans h.code))
    subst hcc
    have hlen : len₂ = len := by rw [hdg] at hd₂; cases hd₂; rfl
    subst hlen
    have hs₂ : s₂ = (({ U with heap := s₂.heap, slotsUsed := s₂.slotsUsed } : State).setVm s₂.vm).setTop { g with pc := g.pc + len₂, stack := v.toList ++ g.stack } := by
      refine e3.trans ?_
      rw [hf₂, State.calling_eq h.top, State.setFrames_setFrames, State.setTop_of_frames _ hr', hr]
      rfl
    have hsame : U.sameButNew ({ U with heap := s₂.heap, slotsUsed := s₂.slotsUsed } : State) L mc ms := by
      refine ⟨?_, q2, q3, q4, q5, q6⟩
      obtain ⟨t, ht, -⟩ := State.frames_cons hr
      show ({ U with heap := s₂.heap, slotsUsed := s₂.slotsUsed } : State) = { U.setFrames U.frames with heap := s₂.heap, slotsUsed := s₂.slotsUsed }
      rw [State.setFrames_self ht]
    subst hg
    refine Or.inl ⟨v, ⟨(({ U with heap := s₂.heap, slotsUsed := s₂.slotsUsed } : State).setVm s₂.vm), Ls ++ L, c0 + mc, s0 + ms⟩,
      ⟨X.admits, X.cas, X.clock, X.frames, X.room, X.hears, X.method, X.code, (X.here.setHeapUsed s₂.heap s₂.slotsUsed).setVm hW'.alike, X.tail, State.WarmedH.trans X.warmed hW', X.limits, X.bytes, X.same.trans (hsame.setVm s.vm)⟩,
      ⟨g, mk, s₂, L, rfl, rfl, hqc, rfl, hL, rfl, rfl⟩, ?_⟩
    show Steps p.tables e below _ ((({ U with heap := s₂.heap, slotsUsed := s₂.slotsUsed } : State).setVm s₂.vm).setTop { g with pc := g.pc + len₂, stack := v.toList ++ g.stack })
    rw [← hs₂]
    exact hsteps
  · obtain ⟨e2, q2, q3, q4, q5, q6⟩ := id hsm
    have e3 : s₂ = ({ (U.calling g mk a).setFrames s₂.frames with heap := s₂.heap, slotsUsed := s₂.slotsUsed } : State).setVm s₂.vm := by
      have : s₂ = ({ s₂ with vm := (U.calling g mk a).vm } : State).setVm s₂.vm := rfl
      rw [e2] at this
      exact this
    have hf₂ : s₂.frames = .throwing q :: .java g :: U.frames.tail := hend
    have hW' : U.WarmedH s₂.vm := hW₂
    have hs₂ : s₂ = ((({ U with heap := s₂.heap, slotsUsed := s₂.slotsUsed } : State).setVm s₂.vm).setTop g).pushFrame (.throwing q) := by
      refine e3.trans ?_
      rw [hf₂, State.calling_eq h.top, State.setFrames_setFrames, State.pushFrame, State.frames_setTop _ hr', State.setTop_of_frames _ hr', State.setFrames_setFrames, hr]
      rfl
    have hsame : U.sameButNew ({ U with heap := s₂.heap, slotsUsed := s₂.slotsUsed } : State) L mc ms := by
      refine ⟨?_, q2, q3, q4, q5, q6⟩
      obtain ⟨t, ht, -⟩ := State.frames_cons hr
      show ({ U with heap := s₂.heap, slotsUsed := s₂.slotsUsed } : State) = { U.setFrames U.frames with heap := s₂.heap, slotsUsed := s₂.slotsUsed }
      rw [State.setFrames_self ht]
    subst hg
    refine Or.inr ⟨q, ⟨(({ U with heap := s₂.heap, slotsUsed := s₂.slotsUsed } : State).setVm s₂.vm), Ls ++ L, c0 + mc, s0 + ms⟩,
      ⟨X.admits, X.cas, X.clock, X.frames, X.room, X.hears, X.method, X.code, (X.here.setHeapUsed s₂.heap s₂.slotsUsed).setVm hW'.alike, X.tail, State.WarmedH.trans X.warmed hW', X.limits, X.bytes, X.same.trans (hsame.setVm s.vm)⟩,
      ⟨g, mk, s₂, L, E, ce, rfl, rfl, hx, hce, hcv, hcl, rfl, hL, rfl, rfl⟩, ?_⟩
    show Steps p.tables e below _ (((({ U with heap := s₂.heap, slotsUsed := s₂.slotsUsed } : State).setVm s₂.vm).setTop g).pushFrame (.throwing q))
    rw [← hs₂]
    exact hsteps
end Payer
section Calls
variable {p : Program} {l : Launch} {e : Env} {R : Room} {s : State} {m : MethodId} {args : Array Value} {below : List Frame} {meth : Method} {c : Code} {T : State} {locs : List Loc} {cells slots : Nat}
theorem vx_callV (X : Stand p l e R s m args below meth c T locs cells slots) (hexec : p.tables.exec = Jvm.exec) {own C : String} {index : Nat} {y : MethodName} {bytes : ByteArray} {maxL : Nat} {ret : Option FieldType}
    (hown : s.vm.findClass own = some m.cls) (hlink : (Cond.methodLink own index y).before args s = true) (hinst : (Cond.instanceMethod y).before args s = true) (hsel : (Cond.selects C y y).before args s = true)
    (hcode : (Cond.code y bytes maxL ret).before args s = true) (hy : y.cls ≠ "java/lang/invoke/MethodHandle" ∧ y.cls ≠ "java/lang/invoke/VarHandle")
    {W9 : Nat} {Pre : Pt → Array Value → Prop} {Post : Pt → Array Value → Option Value → Pt → Prop} {PostX : Pt → Array Value → Addr → Pt → Prop} (hK : vx_Back l R p e below s args y 3 W9 Pre Post PostX)
    {b : Addr} {cellB : Cell} (hcell : T.heap[b]? = some cellB) (hobj : cellB.vm.isStatics = false) (hcls : s.vm.findClass C = some cellB.cls)
    {g : JFrame} (hg : g.method = m) (hsize : g.locals.size = c.maxLocals) {argsL rest : List Value} (hlen : ∀ sig, parseMethodDescriptor y.desc = some sig → argsL.length = sig.parameters.length)
    (hstack : g.stack = argsL.reverse ++ .ref b :: rest) (hW : 2 * g.monitorRoom + (rest.map fun v => v.category).sum ≤ W9) (hdg : decode c.code g.pc = .ok (.invokevirtual index, 3))
    (hpre : ∀ vm₁, s.WarmedH vm₁ → Pre ⟨T.setVm vm₁, locs, cells, slots⟩ (Value.ref b :: argsL).toArray) :
    (∃ (v : Option Value) (vm₁ : Vm) (B : Pt), s.WarmedH vm₁ ∧ Stand p l e R s m args below meth c B.U B.locs B.cells B.slots ∧ Post ⟨T.setVm vm₁, locs, cells, slots⟩ (Value.ref b :: argsL).toArray v B ∧
      ∀ target, Steps p.tables e below (B.U.setTop { g with pc := g.pc + 3, stack := v.toList ++ rest }) target → Steps p.tables e below (T.setTop g) target) ∨
    (∃ (q : Addr) (vm₁ : Vm) (B : Pt), s.WarmedH vm₁ ∧ Stand p l e R s m args below meth c B.U B.locs B.cells B.slots ∧ PostX ⟨T.setVm vm₁, locs, cells, slots⟩ (Value.ref b :: argsL).toArray q B ∧
      Steps p.tables e below (T.setTop g) ((B.U.setTop { g with stack := rest }).pushFrame (.throwing q))) := by
  obtain ⟨mk, methM, hnamed, hmethM, hstM, habM⟩ := Cond.instanceMethod_spec hinst
  obtain ⟨methM', cM, hmethM', -, -, -, -, -, -, hsigM⟩ := Cond.code_spec hnamed hcode
  cases hmethM.symm.trans hmethM'
  obtain ⟨c2, r2, m2, q1, q2, q3, q4, kP, hkP, hkPi⟩ := Cond.selects_spec hsel
  cases hcls.symm.trans q1
  cases (State.methodFound?_of_named hnamed hy).symm.trans q2
  cases hnamed.symm.trans q3
  have hselP : selectMethod e.platform s.vm cellB.cls mk = .method mk := by rw [Launch.admits_selectMethod X.admits]; exact q4
  obtain ⟨vm₁, X₁, hstep₁⟩ := X.invokevirtual hexec hown hlink hnamed hmethM hstM hkP hkPi hy (a := b) (cell := cellB) hcell
    (fun z h => by rw [h] at hobj; cases hobj) hselP hmethM habM hkP hkPi (g := g) hg (argsL := argsL) (rest := rest) (hlen _ hsigM) hstack hdg
  rcases hK m meth c ⟨T.setVm vm₁, locs, cells, slots⟩ { g with stack := rest } (.invokevirtual index) mk (Value.ref b :: argsL).toArray X₁ hg hsize hdg hW (X₁.named hnamed) (hpre vm₁ X₁.warmed) with ⟨v, B, X', hpost, hsteps⟩ | ⟨q, B, X', hpost, hsteps⟩
  · exact Or.inl ⟨v, vm₁, B, X₁.warmed, X', hpost, fun target h => hstep₁ _ fun acts => by rw [doInvoke_state]; exact hsteps.trans h⟩
  · exact Or.inr ⟨q, vm₁, B, X₁.warmed, X', hpost, hstep₁ _ fun acts => by rw [doInvoke_state]; exact hsteps⟩
theorem vx_callS (X : Stand p l e R s m args below meth c T locs cells slots) (hexec : p.tables.exec = Jvm.exec) {own : String} {index : Nat} {y : MethodName} {bytes : ByteArray} {maxL : Nat} {ret : Option FieldType}
    (hown : s.vm.findClass own = some m.cls) (hlink : (Cond.methodLink own index y).before args s = true) (hstat : (Cond.static y).before args s = true) (hinit : (Cond.initialized y.cls).before args s = true)
    (hcode : (Cond.code y bytes maxL ret).before args s = true) (hy : y.cls ≠ "java/lang/invoke/MethodHandle" ∧ y.cls ≠ "java/lang/invoke/VarHandle")
    {W9 : Nat} {Pre : Pt → Array Value → Prop} {Post : Pt → Array Value → Option Value → Pt → Prop} {PostX : Pt → Array Value → Addr → Pt → Prop} (hK : vx_Back l R p e below s args y 3 W9 Pre Post PostX)
    {g : JFrame} (hg : g.method = m) (hsize : g.locals.size = c.maxLocals) {argsL rest : List Value} (hlen : ∀ sig, parseMethodDescriptor y.desc = some sig → argsL.length = sig.parameters.length)
    (hstack : g.stack = argsL.reverse ++ rest) (hW : 2 * g.monitorRoom + (rest.map fun v => v.category).sum ≤ W9) (hdg : decode c.code g.pc = .ok (.invokestatic index, 3))
    (hpre : ∀ vm₁, s.WarmedH vm₁ → Pre ⟨T.setVm vm₁, locs, cells, slots⟩ argsL.toArray) :
    (∃ (v : Option Value) (vm₁ : Vm) (B : Pt), s.WarmedH vm₁ ∧ Stand p l e R s m args below meth c B.U B.locs B.cells B.slots ∧ Post ⟨T.setVm vm₁, locs, cells, slots⟩ argsL.toArray v B ∧
      ∀ target, Steps p.tables e below (B.U.setTop { g with pc := g.pc + 3, stack := v.toList ++ rest }) target → Steps p.tables e below (T.setTop g) target) ∨
    (∃ (q : Addr) (vm₁ : Vm) (B : Pt), s.WarmedH vm₁ ∧ Stand p l e R s m args below meth c B.U B.locs B.cells B.slots ∧ PostX ⟨T.setVm vm₁, locs, cells, slots⟩ argsL.toArray q B ∧
      Steps p.tables e below (T.setTop g) ((B.U.setTop { g with stack := rest }).pushFrame (.throwing q))) := by
  obtain ⟨mk, hnamed⟩ := Cond.code_named hcode
  obtain ⟨methM, cM, hmethM, -, -, -, -, -, -, hsigM⟩ := Cond.code_spec hnamed hcode
  have hstatic : methM.isStatic = true := Cond.static_spec hnamed hmethM hstat
  obtain ⟨kP, hkP, -⟩ := className_of_methodNamed hnamed
  have hinitP : kP.init = .initialized := Cond.initialized_spec (findClass_of_methodNamed hnamed) hkP hinit
  obtain ⟨vm₁, X₁, hstep₁⟩ := X.invokestatic hexec hown hlink hnamed hmethM hstatic hkP hinitP hy (g := g) hg (argsL := argsL) (rest := rest) (hlen _ hsigM) hstack hdg
  rcases hK m meth c ⟨T.setVm vm₁, locs, cells, slots⟩ { g with stack := rest } (.invokestatic index) mk argsL.toArray X₁ hg hsize hdg hW (X₁.named hnamed) (hpre vm₁ X₁.warmed) with ⟨v, B, X', hpost, hsteps⟩ | ⟨q, B, X', hpost, hsteps⟩
  · exact Or.inl ⟨v, vm₁, B, X₁.warmed, X', hpost, fun target h => hstep₁ _ fun acts => by rw [doInvoke_state]; exact hsteps.trans h⟩
  · exact Or.inr ⟨q, vm₁, B, X₁.warmed, X', hpost, hstep₁ _ fun acts => by rw [doInvoke_state]; exact hsteps⟩
end Calls
theorem vx_cls {s : State} {T : State} {vm₁ : Vm} {E : String} {k : ClassId} (hW : s.WarmedH vm₁) (h : (T.setVm vm₁).vm.findClass E = some k) : s.vm.findClass E = some k := by
  have h1 : vm₁.findClass E = some k := h
  rw [hW.alike.findClass] at h1
  exact h1
/-- the method's frame g, with q thrown over it -/
def vx_W (p : Program) (l : Launch) (e : Env) (R : Room) (s : State) (m : MethodId) (args : Array Value) (below : List Frame) (meth : Method) (c : Code) (H : Heap) (locs : List Loc) (cells slots : Nat) (Q : State → Prop) (g : JFrame) (q : Addr) : Prop :=
  ∀ T : State, T.heap = H → Stand p l e R s m args below meth c T locs cells slots → ∃ t, Steps p.tables e below ((T.setTop g).pushFrame (.throwing q)) t ∧ Q t
def vx_Run (p : Program) (l : Launch) (e : Env) (R : Room) (s : State) (m : MethodId) (args : Array Value) (below : List Frame) (meth : Method) (c : Code) (H : Heap) (locs : List Loc) (cells slots mc ms : Nat) (g : JFrame) (rest : List Value) (Qa : State → Outcome → State → Prop) (XC : String → State → State → Prop) (free : Addr → Prop) : Prop :=
  ∀ T : State, T.heap = H → Stand p l e R s m args below meth c T locs cells slots →
    (∃ (v : Option Value) (st₀ t T' : State) (L : List Loc), st₀.heap = H ∧ Stand p l e R s m args below meth c T' (locs ++ L) (cells + mc) (slots + ms) ∧ (∀ q ∈ L, free q.base) ∧ T'.heap = t.heap ∧ T'.vm = t.vm ∧ Qa st₀ (.returned v) t ∧
      Goes p e below T g T' { g with pc := g.pc + 3, stack := v.toList ++ rest }) ∨
    (∃ (q : Addr) (st₀ t T' : State) (L : List Loc) (E : String) (ce : Cell), st₀.heap = H ∧ Stand p l e R s m args below meth c T' (locs ++ L) (cells + mc) (slots + ms) ∧ (∀ z ∈ L, free z.base) ∧ T'.heap = t.heap ∧ T'.vm = t.vm ∧ XC E st₀ t ∧ t.heap[q]? = some ce ∧ ce.vm = .none ∧ s.vm.findClass E = some ce.cls ∧
      Steps p.tables e below (T.setTop g) ((T'.setTop { g with stack := rest }).pushFrame (.throwing q)))
def vx_X {S : Type} (px : S → Prop) (B : String → S → State → Prop) (A : Nat → Prop) : String → State → State → Prop := fun E st t => ∃ u : S, px u ∧ B E u t ∧ va_F A st t
section Runs
variable {p : Program} {l : Launch} {e : Env} {R : Room} {s : State} {m : MethodId} {args : Array Value} {below : List Frame} {meth : Method} {c : Code} {H : Heap} {locs : List Loc} {cells slots : Nat}
variable {y : MethodName} {bytes cc : ByteArray} {maxL nL mc ms n index : Nat} {ret : Option FieldType} {ws : List Cond} {rm : Room} {Pc : Array Value → State → Prop} {Qc : Array Value → State → Outcome → State → Prop} {XC : String → State → State → Prop} {free : Addr → Prop} {Ts : List Cond} {own C : String} {b : Addr} {As rest : List Value} {g : JFrame}
theorem vx_callBack (cb : CallB R s args own index y bytes maxL ret ws rm mc ms n) (hM : vx_Met l y ws rm Pc Qc XC mc ms free) (hbl : FrameBlind Pc) : vx_Back l R p e below s args y 3 8 (PreOf R mc ms Pc) (PostOf Qc mc ms free) (vx_Post XC mc ms free) := by
  obtain ⟨hrc, hrs, hfr, hlo, hws, hcw, -, hini, -⟩ := cb
  exact vx_back (bytes := bytes) (maxL := maxL) (ret := ret) hM hbl hrc hrs hfr hlo hws hcw (fun a' U hW => word_at hW (Or.inl (by first | rfl | simp [Cond.onTables, Cond.keeps, Cond.steady])) hini)
theorem vx_runV (S : CallFix p m c cc nL s args Ts own) (hM : vx_Met l y ws rm Pc Qc XC mc ms free) (cw : CallW R s args own C index y bytes maxL ret ws rm mc ms n) (hp : PreV s H C b Pc As)
    (hg : g.method = m) (hn : As.length = n) (hsize : g.locals.size = nL) (hstack : g.stack = As.reverse ++ .ref b :: rest) (hW : 2 * g.monitorRoom + (rest.map fun v => v.category).sum ≤ 8) (hdg : decode cc g.pc = .ok (.invokevirtual index, 3)) (hf : cells + mc ≤ R.cells ∧ slots + ms ≤ R.slots) :
    vx_Run p l e R s m args below meth c H locs cells slots mc ms g rest (Qc (Value.ref b :: As).toArray) XC free := by
  have hK : vx_Back l R p e below s args y 3 8 (PreOf R mc ms Pc) (PostOf Qc mc ms free) (vx_Post XC mc ms free) := vx_callBack cw.1 hM hp.1
  obtain ⟨⟨-, -, -, -, -, -, hcode, -, hy, hlen, hl⟩, hin, hse⟩ := cw
  obtain ⟨hx, hb, hml, ho, -⟩ := S
  obtain ⟨-, ⟨cellB, hcB, hoB, hclB⟩, hPc⟩ := hp
  intro T hT X
  rcases vx_callV X hx (C := C) (bytes := bytes) (maxL := maxL) (ret := ret) ho hl hin hse hcode hy hK (by rw [hT]; exact hcB) hoB hclB hg (hsize.trans hml.symm) (argsL := As) (rest := rest) (fun sig h => hn.trans (hlen sig h)) hstack hW (by rw [hb]; exact hdg)
    (fun vm₁ hW₁ => ⟨hf.1, hf.2, hPc (T.setVm vm₁) hT hW₁⟩) with ⟨v, vm₁, ⟨U', l2, c2, s2⟩, hW₁, X', ⟨g', mk, t, L, e1, e2, hq, h1, hL, h2, h3⟩, st⟩ | ⟨q, vm₁, ⟨U', l2, c2, s2⟩, hW₁, X', ⟨g', mk, t, L, E, ce, e1, e2, hq, hce, hcv, hcl, h1, hL, h2, h3⟩, st⟩
  · dsimp only [Pt.U, Pt.locs, Pt.cells, Pt.slots] at X' e1 e2 h1 h2 h3 st
    subst h1; subst h2; subst h3
    exact Or.inl ⟨v, (T.setVm vm₁).calling g' mk (Value.ref b :: As).toArray, t, U', L, hT, X', hL, e1, e2, hq, st⟩
  · dsimp only [Pt.U, Pt.locs, Pt.cells, Pt.slots] at X' e1 e2 h1 h2 h3 st hcl
    subst h1; subst h2; subst h3
    exact Or.inr ⟨q, (T.setVm vm₁).calling g' mk (Value.ref b :: As).toArray, t, U', L, E, ce, hT, X', hL, e1, e2, hq, hce, hcv, vx_cls hW₁ hcl, st⟩
theorem vx_runS (S : CallFix p m c cc nL s args Ts own) (hM : vx_Met l y ws rm Pc Qc XC mc ms free) (cw : CallB R s args own index y bytes maxL ret ws rm mc ms n ∧ (Cond.static y).before args s = true) (hp : PreS s H Pc As)
    (hg : g.method = m) (hn : As.length = n) (hsize : g.locals.size = nL) (hstack : g.stack = As.reverse ++ rest) (hW : 2 * g.monitorRoom + (rest.map fun v => v.category).sum ≤ 8) (hdg : decode cc g.pc = .ok (.invokestatic index, 3)) (hf : cells + mc ≤ R.cells ∧ slots + ms ≤ R.slots) :
    vx_Run p l e R s m args below meth c H locs cells slots mc ms g rest (Qc As.toArray) XC free := by
  have hK : vx_Back l R p e below s args y 3 8 (PreOf R mc ms Pc) (PostOf Qc mc ms free) (vx_Post XC mc ms free) := vx_callBack cw.1 hM hp.1
  obtain ⟨⟨-, -, -, -, -, -, hcode, hini, hy, hlen, hl⟩, hstt⟩ := cw
  obtain ⟨hx, hb, hml, ho, -⟩ := S
  intro T hT X
  rcases vx_callS X hx (bytes := bytes) (maxL := maxL) (ret := ret) ho hl hstt hini hcode hy hK hg (hsize.trans hml.symm) (argsL := As) (rest := rest) (fun sig h => hn.trans (hlen sig h)) hstack hW (by rw [hb]; exact hdg)
    (fun vm₁ hW₁ => ⟨hf.1, hf.2, hp.2 (T.setVm vm₁) hT hW₁⟩) with ⟨v, vm₁, ⟨U', l2, c2, s2⟩, hW₁, X', ⟨g', mk, t, L, e1, e2, hq, h1, hL, h2, h3⟩, st⟩ | ⟨q, vm₁, ⟨U', l2, c2, s2⟩, hW₁, X', ⟨g', mk, t, L, E, ce, e1, e2, hq, hce, hcv, hcl, h1, hL, h2, h3⟩, st⟩
  · dsimp only [Pt.U, Pt.locs, Pt.cells, Pt.slots] at X' e1 e2 h1 h2 h3 st
    subst h1; subst h2; subst h3
    exact Or.inl ⟨v, (T.setVm vm₁).calling g' mk As.toArray, t, U', L, hT, X', hL, e1, e2, hq, st⟩
  · dsimp only [Pt.U, Pt.locs, Pt.cells, Pt.slots] at X' e1 e2 h1 h2 h3 st hcl
    subst h1; subst h2; subst h3
    exact Or.inr ⟨q, (T.setVm vm₁).calling g' mk As.toArray, t, U', L, E, ce, hT, X', hL, e1, e2, hq, hce, hcv, vx_cls hW₁ hcl, st⟩
end Runs
section Rows
variable {p : Program} {l : Launch} {e : Env} {R : Room} {s : State} {m : MethodId} {args : Array Value} {below : List Frame} {meth : Method} {c : Code} {H : Heap} {locs : List Loc} {cells slots : Nat} {Q : State → Prop}
variable {mc ms : Nat} {free : Addr → Prop} {A0 A1 : Nat → Prop} {H0 : Heap} {a : Array Value} {pc : Nat} {ls : Array Slot} {st0 rest : List Value}
theorem vx_keep {st₀ t T' : State} {L : List Loc} (h0 : st₀.heap = H) (e1 : T'.heap = t.heap) (hS : va_S A0 H0 H locs) (hA : ∀ q, q < H.size → A1 q → A0 q) (hf : ∀ q, free q → A0 q) (hL : ∀ q ∈ L, free q.base) (hF : va_F A1 st₀ t) :
    H.size ≤ T'.heap.size ∧ (∀ q : Nat, q < H.size → ¬ A1 q → T'.heap[q]? = H[q]?) ∧ va_S A0 H0 T'.heap (locs ++ L) := by
  obtain ⟨hz, hk⟩ := hF
  rw [h0] at hz hk
  exact ⟨by rw [e1]; exact hz, fun q h1 h2 => by rw [e1]; exact hk q h1 h2,
    ⟨Nat.le_trans hS.1 (by rw [e1]; exact hz), fun q h1 h2 => by rw [e1, hk q (Nat.lt_of_lt_of_le h1 hS.1) (fun z => h2 (hA q (Nat.lt_of_lt_of_le h1 hS.1) z))]; exact hS.2.1 q h1 h2, fun q hq => by
      rcases List.mem_append.mp hq with h | h
      · exact hS.2.2 q h
      · exact hf _ (hL q h)⟩⟩
theorem vx_calli {S SX : Type} {post : Int32 → S → Prop} {px : SX → Prop} {B : S → State → Prop} {BX : String → SX → State → Prop} {AX : Nat → Prop} (hr : vx_Run p l e R s m args below meth c H locs cells slots mc ms (F0 m pc ls st0) rest (va_Qi post B A1 a) (vx_X px BX AX) free) (hS : va_S A0 H0 H locs) (hA : ∀ q, q < H.size → A1 q → A0 q) (hf : ∀ q, free q → A0 q) (hAX : ∀ q, q < H.size → AX q → A0 q)
    (kx : ∀ (E : String) (ce : Cell) (q9 : Addr) (u : SX) (t : State) (H1 : Heap) (locs1 : List Loc), t.heap = H1 → s.vm.Alike t.vm → px u → BX E u t → H.size ≤ H1.size → (∀ q : Nat, q < H.size → ¬ AX q → H1[q]? = H[q]?) → va_S A0 H0 H1 locs1 → H1[q9]? = some ce → ce.vm = .none → s.vm.findClass E = some ce.cls → vx_W p l e R s m args below meth c H1 locs1 (cells + mc) (slots + ms) Q (F0 m pc ls rest) q9)
    (kk : ∀ (r : Int32) (u : S) (t : State) (H1 : Heap) (locs1 : List Loc), t.heap = H1 → s.vm.Alike t.vm → post r u → B u t → H.size ≤ H1.size → (∀ q : Nat, q < H.size → ¬ A1 q → H1[q]? = H[q]?) → va_S A0 H0 H1 locs1 → W p l e R s m args below meth c H1 locs1 (cells + mc) (slots + ms) Q (F0 m (pc + 3) ls (.int r :: rest))) : W p l e R s m args below meth c H locs cells slots Q (F0 m pc ls st0) := by
  intro T hT X
  rcases hr T hT X with ⟨v, st₀, t, T', L, h0, X', hL, e1, e2, ⟨⟨r, u, hv, hp, hb⟩, hF⟩, st⟩ | ⟨q, st₀, t, T', L, E, ce, h0, X', hL, e1, e2, ⟨u, hp, hb, hF⟩, hce, hcv, hcl, st⟩
  · cases hv
    obtain ⟨k1, k2, k3⟩ := vx_keep h0 e1 hS hA hf hL hF
    obtain ⟨t2, a1, b1⟩ := kk r u t T'.heap (locs ++ L) e1.symm (by rw [← e2]; exact X'.warmed.alike) hp hb k1 k2 k3 T' rfl X'
    exact ⟨t2, st t2 a1, b1⟩
  · obtain ⟨k1, k2, k3⟩ := vx_keep h0 e1 hS hAX hf hL hF
    obtain ⟨t2, a1, b1⟩ := kx E ce q u t T'.heap (locs ++ L) e1.symm (by rw [← e2]; exact X'.warmed.alike) hp hb k1 k2 k3 (by rw [e1]; exact hce) hcv hcl T' rfl X'
    exact ⟨t2, st.trans a1, b1⟩
theorem vx_calll {S SX : Type} {post : Int64 → S → Prop} {px : SX → Prop} {B : S → State → Prop} {BX : String → SX → State → Prop} {AX : Nat → Prop} (hr : vx_Run p l e R s m args below meth c H locs cells slots mc ms (F0 m pc ls st0) rest (va_Ql post B A1 a) (vx_X px BX AX) free) (hS : va_S A0 H0 H locs) (hA : ∀ q, q < H.size → A1 q → A0 q) (hf : ∀ q, free q → A0 q) (hAX : ∀ q, q < H.size → AX q → A0 q)
    (kx : ∀ (E : String) (ce : Cell) (q9 : Addr) (u : SX) (t : State) (H1 : Heap) (locs1 : List Loc), t.heap = H1 → s.vm.Alike t.vm → px u → BX E u t → H.size ≤ H1.size → (∀ q : Nat, q < H.size → ¬ AX q → H1[q]? = H[q]?) → va_S A0 H0 H1 locs1 → H1[q9]? = some ce → ce.vm = .none → s.vm.findClass E = some ce.cls → vx_W p l e R s m args below meth c H1 locs1 (cells + mc) (slots + ms) Q (F0 m pc ls rest) q9)
    (kk : ∀ (r : Int64) (u : S) (t : State) (H1 : Heap) (locs1 : List Loc), t.heap = H1 → s.vm.Alike t.vm → post r u → B u t → H.size ≤ H1.size → (∀ q : Nat, q < H.size → ¬ A1 q → H1[q]? = H[q]?) → va_S A0 H0 H1 locs1 → W p l e R s m args below meth c H1 locs1 (cells + mc) (slots + ms) Q (F0 m (pc + 3) ls (.long r :: rest))) : W p l e R s m args below meth c H locs cells slots Q (F0 m pc ls st0) := by
  intro T hT X
  rcases hr T hT X with ⟨v, st₀, t, T', L, h0, X', hL, e1, e2, ⟨⟨r, u, hv, hp, hb⟩, hF⟩, st⟩ | ⟨q, st₀, t, T', L, E, ce, h0, X', hL, e1, e2, ⟨u, hp, hb, hF⟩, hce, hcv, hcl, st⟩
  · cases hv
    obtain ⟨k1, k2, k3⟩ := vx_keep h0 e1 hS hA hf hL hF
    obtain ⟨t2, a1, b1⟩ := kk r u t T'.heap (locs ++ L) e1.symm (by rw [← e2]; exact X'.warmed.alike) hp hb k1 k2 k3 T' rfl X'
    exact ⟨t2, st t2 a1, b1⟩
  · obtain ⟨k1, k2, k3⟩ := vx_keep h0 e1 hS hAX hf hL hF
    obtain ⟨t2, a1, b1⟩ := kx E ce q u t T'.heap (locs ++ L) e1.symm (by rw [← e2]; exact X'.warmed.alike) hp hb k1 k2 k3 (by rw [e1]; exact hce) hcv hcl T' rfl X'
    exact ⟨t2, st.trans a1, b1⟩
theorem vx_callf {S SX : Type} {post : UInt32 → S → Prop} {px : SX → Prop} {B : S → State → Prop} {BX : String → SX → State → Prop} {AX : Nat → Prop} (hr : vx_Run p l e R s m args below meth c H locs cells slots mc ms (F0 m pc ls st0) rest (va_Qf post B A1 a) (vx_X px BX AX) free) (hS : va_S A0 H0 H locs) (hA : ∀ q, q < H.size → A1 q → A0 q) (hf : ∀ q, free q → A0 q) (hAX : ∀ q, q < H.size → AX q → A0 q)
    (kx : ∀ (E : String) (ce : Cell) (q9 : Addr) (u : SX) (t : State) (H1 : Heap) (locs1 : List Loc), t.heap = H1 → s.vm.Alike t.vm → px u → BX E u t → H.size ≤ H1.size → (∀ q : Nat, q < H.size → ¬ AX q → H1[q]? = H[q]?) → va_S A0 H0 H1 locs1 → H1[q9]? = some ce → ce.vm = .none → s.vm.findClass E = some ce.cls → vx_W p l e R s m args below meth c H1 locs1 (cells + mc) (slots + ms) Q (F0 m pc ls rest) q9)
    (kk : ∀ (r : UInt32) (u : S) (t : State) (H1 : Heap) (locs1 : List Loc), t.heap = H1 → s.vm.Alike t.vm → post r u → B u t → H.size ≤ H1.size → (∀ q : Nat, q < H.size → ¬ A1 q → H1[q]? = H[q]?) → va_S A0 H0 H1 locs1 → W p l e R s m args below meth c H1 locs1 (cells + mc) (slots + ms) Q (F0 m (pc + 3) ls (.float r :: rest))) : W p l e R s m args below meth c H locs cells slots Q (F0 m pc ls st0) := by
  intro T hT X
  rcases hr T hT X with ⟨v, st₀, t, T', L, h0, X', hL, e1, e2, ⟨⟨r, u, hv, hp, hb⟩, hF⟩, st⟩ | ⟨q, st₀, t, T', L, E, ce, h0, X', hL, e1, e2, ⟨u, hp, hb, hF⟩, hce, hcv, hcl, st⟩
  · cases hv
    obtain ⟨k1, k2, k3⟩ := vx_keep h0 e1 hS hA hf hL hF
    obtain ⟨t2, a1, b1⟩ := kk r u t T'.heap (locs ++ L) e1.symm (by rw [← e2]; exact X'.warmed.alike) hp hb k1 k2 k3 T' rfl X'
    exact ⟨t2, st t2 a1, b1⟩
  · obtain ⟨k1, k2, k3⟩ := vx_keep h0 e1 hS hAX hf hL hF
    obtain ⟨t2, a1, b1⟩ := kx E ce q u t T'.heap (locs ++ L) e1.symm (by rw [← e2]; exact X'.warmed.alike) hp hb k1 k2 k3 (by rw [e1]; exact hce) hcv hcl T' rfl X'
    exact ⟨t2, st.trans a1, b1⟩
theorem vx_calld {S SX : Type} {post : UInt64 → S → Prop} {px : SX → Prop} {B : S → State → Prop} {BX : String → SX → State → Prop} {AX : Nat → Prop} (hr : vx_Run p l e R s m args below meth c H locs cells slots mc ms (F0 m pc ls st0) rest (va_Qd post B A1 a) (vx_X px BX AX) free) (hS : va_S A0 H0 H locs) (hA : ∀ q, q < H.size → A1 q → A0 q) (hf : ∀ q, free q → A0 q) (hAX : ∀ q, q < H.size → AX q → A0 q)
    (kx : ∀ (E : String) (ce : Cell) (q9 : Addr) (u : SX) (t : State) (H1 : Heap) (locs1 : List Loc), t.heap = H1 → s.vm.Alike t.vm → px u → BX E u t → H.size ≤ H1.size → (∀ q : Nat, q < H.size → ¬ AX q → H1[q]? = H[q]?) → va_S A0 H0 H1 locs1 → H1[q9]? = some ce → ce.vm = .none → s.vm.findClass E = some ce.cls → vx_W p l e R s m args below meth c H1 locs1 (cells + mc) (slots + ms) Q (F0 m pc ls rest) q9)
    (kk : ∀ (r : UInt64) (u : S) (t : State) (H1 : Heap) (locs1 : List Loc), t.heap = H1 → s.vm.Alike t.vm → post r u → B u t → H.size ≤ H1.size → (∀ q : Nat, q < H.size → ¬ A1 q → H1[q]? = H[q]?) → va_S A0 H0 H1 locs1 → W p l e R s m args below meth c H1 locs1 (cells + mc) (slots + ms) Q (F0 m (pc + 3) ls (.double r :: rest))) : W p l e R s m args below meth c H locs cells slots Q (F0 m pc ls st0) := by
  intro T hT X
  rcases hr T hT X with ⟨v, st₀, t, T', L, h0, X', hL, e1, e2, ⟨⟨r, u, hv, hp, hb⟩, hF⟩, st⟩ | ⟨q, st₀, t, T', L, E, ce, h0, X', hL, e1, e2, ⟨u, hp, hb, hF⟩, hce, hcv, hcl, st⟩
  · cases hv
    obtain ⟨k1, k2, k3⟩ := vx_keep h0 e1 hS hA hf hL hF
    obtain ⟨t2, a1, b1⟩ := kk r u t T'.heap (locs ++ L) e1.symm (by rw [← e2]; exact X'.warmed.alike) hp hb k1 k2 k3 T' rfl X'
    exact ⟨t2, st t2 a1, b1⟩
  · obtain ⟨k1, k2, k3⟩ := vx_keep h0 e1 hS hAX hf hL hF
    obtain ⟨t2, a1, b1⟩ := kx E ce q u t T'.heap (locs ++ L) e1.symm (by rw [← e2]; exact X'.warmed.alike) hp hb k1 k2 k3 (by rw [e1]; exact hce) hcv hcl T' rfl X'
    exact ⟨t2, st.trans a1, b1⟩
theorem vx_callv {S SX : Type} {post : S → Prop} {px : SX → Prop} {B : S → State → Prop} {BX : String → SX → State → Prop} {AX : Nat → Prop} (hr : vx_Run p l e R s m args below meth c H locs cells slots mc ms (F0 m pc ls st0) rest (va_Qv post B A1 a) (vx_X px BX AX) free) (hS : va_S A0 H0 H locs) (hA : ∀ q, q < H.size → A1 q → A0 q) (hf : ∀ q, free q → A0 q) (hAX : ∀ q, q < H.size → AX q → A0 q)
    (kx : ∀ (E : String) (ce : Cell) (q9 : Addr) (u : SX) (t : State) (H1 : Heap) (locs1 : List Loc), t.heap = H1 → s.vm.Alike t.vm → px u → BX E u t → H.size ≤ H1.size → (∀ q : Nat, q < H.size → ¬ AX q → H1[q]? = H[q]?) → va_S A0 H0 H1 locs1 → H1[q9]? = some ce → ce.vm = .none → s.vm.findClass E = some ce.cls → vx_W p l e R s m args below meth c H1 locs1 (cells + mc) (slots + ms) Q (F0 m pc ls rest) q9)
    (kk : ∀ (u : S) (t : State) (H1 : Heap) (locs1 : List Loc), t.heap = H1 → s.vm.Alike t.vm → post u → B u t → H.size ≤ H1.size → (∀ q : Nat, q < H.size → ¬ A1 q → H1[q]? = H[q]?) → va_S A0 H0 H1 locs1 → W p l e R s m args below meth c H1 locs1 (cells + mc) (slots + ms) Q (F0 m (pc + 3) ls (rest))) : W p l e R s m args below meth c H locs cells slots Q (F0 m pc ls st0) := by
  intro T hT X
  rcases hr T hT X with ⟨v, st₀, t, T', L, h0, X', hL, e1, e2, ⟨⟨u, hv, hp, hb⟩, hF⟩, st⟩ | ⟨q, st₀, t, T', L, E, ce, h0, X', hL, e1, e2, ⟨u, hp, hb, hF⟩, hce, hcv, hcl, st⟩
  · cases hv
    obtain ⟨k1, k2, k3⟩ := vx_keep h0 e1 hS hA hf hL hF
    obtain ⟨t2, a1, b1⟩ := kk u t T'.heap (locs ++ L) e1.symm (by rw [← e2]; exact X'.warmed.alike) hp hb k1 k2 k3 T' rfl X'
    exact ⟨t2, st t2 a1, b1⟩
  · obtain ⟨k1, k2, k3⟩ := vx_keep h0 e1 hS hAX hf hL hF
    obtain ⟨t2, a1, b1⟩ := kx E ce q u t T'.heap (locs ++ L) e1.symm (by rw [← e2]; exact X'.warmed.alike) hp hb k1 k2 k3 (by rw [e1]; exact hce) hcv hcl T' rfl X'
    exact ⟨t2, st.trans a1, b1⟩
/-- caught by the row x of this method's table; the rows ahead don't take it -/
theorem vx_catch {own name : String} {E : String} {ce : Cell} {q : Addr} (hown : s.vm.findClass own = some m.cls) (pre : List ExceptionTableEntry) (x : ExceptionTableEntry) (suf : List ExceptionTableEntry) (hsplit : c.exceptionTable.toList = pre ++ x :: suf)
    (hpass : ∀ z ∈ pre, covers z pc = false ∨ (z.catchType ≠ 0 ∧ ∃ nm : String, (Cond.classLink own z.catchType nm).before args s = true ∧ va_Nc E nm s)) (hx : covers x pc = true) (h0 : x.catchType ≠ 0)
    (hlink : (Cond.classLink own x.catchType name).before args s = true) (hcast : (Cond.castable E name).before args s = true) (hcell : H[q]? = some ce) (hv : ce.vm = .none) (hcl : s.vm.findClass E = some ce.cls)
    (kk : W p l e R s m args below meth c H locs cells slots Q (F0 m x.handlerPc ls [.ref q])) : vx_W p l e R s m args below meth c H locs cells slots Q (F0 m pc ls rest) q := by
  intro T hT X
  have hpl : e.platform.magicAccessors = ({} : Platform).magicAccessors := by rw [X.admits.platform]
  obtain ⟨c3, c4, hc3, hc4, hasg⟩ := Cond.castable_spec hcast
  cases Option.some.inj (hc3.symm.trans hcl)
  obtain ⟨c5, hc5, hcl5⟩ := Cond.classLink_spec hown hlink e.platform hpl
  cases Option.some.inj (hc4.symm.trans hc5)
  obtain ⟨vm', X', st⟩ := X.thenCaughtThrough q (g := F0 m pc ls rest) rfl (Steps.refl _) (by rw [hT]; exact hcell) (by rw [hv]; rfl) (by obtain ⟨k9, h9, -⟩ := Vm.findClass_spec hcl; exact ⟨k9, h9⟩) pre x suf hsplit
    (fun z hz => by
      rcases hpass z hz with h | ⟨hz0, nm, hl1, hn1⟩
      · exact Or.inl h
      · obtain ⟨c6, hc6, hcl6⟩ := Cond.classLink_spec hown hl1 e.platform hpl
        obtain ⟨a8, b8, h1, h2, h3⟩ := hn1
        cases Option.some.inj (h1.symm.trans hcl)
        cases Option.some.inj (h2.symm.trans hc6)
        exact Or.inr ⟨hz0, _, hcl6, h3⟩) hx (Or.inr ⟨h0, c4, hcl5, hasg⟩)
  obtain ⟨t, a1, b1⟩ := kk (T.setVm vm') hT X'
  exact ⟨t, st.trans a1, b1⟩
end Rows
section Ends
variable {p : Program} {l : Launch} {e : Env} {R : Room} {s : State} {m : MethodId} {args : Array Value} {below : List Frame} {meth : Method} {c : Code} {H : Heap} {locs : List Loc} {cells slots : Nat} {Q : State → Prop}
variable {mc ms : Nat} {free : Addr → Prop} {A0 A1 : Nat → Prop} {H0 : Heap} {a : Array Value} {ls : Array Slot} {st0 rest : List Value}
variable {Qc : Array Value → State → Outcome → State → Prop} {XC : String → State → State → Prop}
/-- what a body that may throw owes at its end -/
def vx_MQ (below : List Frame) (Qc : Array Value → State → Outcome → State → Prop) (XC : String → State → State → Prop) (a : Array Value) (s : State) (mc ms : Nat) (free : Addr → Prop) : State → Prop := fun t =>
  ∃ o, t.status = .running ∧ Ended t below o ∧ vx_Q Qc XC mc ms free a s o t
theorem vx_ret {g : JFrame} {mc ms : Nat} (k : W p l e R s m args below meth c H locs cells slots (MQ below Qc args s mc ms free) g) : W p l e R s m args below meth c H locs cells slots (vx_MQ below Qc XC args s mc ms free) g := by
  intro T hT X
  obtain ⟨t, a1, o, b1, b2, b3, b4⟩ := k T hT X
  exact ⟨t, a1, o, b1, b2, Or.inl ⟨b3, b4⟩⟩
/-- not caught here: it goes on to the caller -/
theorem vx_widen {g : JFrame} {q : Addr} {k n : Nat} (h1 : cells ≤ k) (h2 : slots ≤ n) (kk : vx_W p l e R s m args below meth c H locs k n Q g q) : vx_W p l e R s m args below meth c H locs cells slots Q g q := fun T hT X => kk T hT (stand_widen X h1 h2)
theorem vx_out {pc : Nat} {E : String} {ce : Cell} {q : Addr} {mc ms : Nat} (hout : ∀ x ∈ c.exceptionTable.toList, covers x pc = false) (hlocks : meth.locks = false) (hcell : H[q]? = some ce) (hv : ce.vm = .none) (hcl : s.vm.findClass E = some ce.cls)
    (hx : ∀ t : State, t.heap = H → s.vm.Alike t.vm → XC E s t) (hf : ∀ z ∈ locs, free z.base) (hc : cells ≤ mc) (hs : slots ≤ ms) :
    vx_W p l e R s m args below meth c H locs cells slots (vx_MQ below Qc XC args s mc ms free) (F0 m pc ls rest) q := by
  intro T hT X
  obtain ⟨st1, hrun, hend, hW, hsm⟩ := X.leaveThrown q (g := F0 m pc ls rest) rfl rfl rfl hout hlocks
  have hcell9 : (T.setFrames (.throwing q :: below)).heap[q]? = some ce := by
    show T.heap[q]? = some ce
    rw [hT]; exact hcell
  exact ⟨_, st1, .threw q, hrun, hend, Or.inr ⟨q, rfl, E, ce, locs, hx _ hT hW.alike, hcell9, hv, hcl, hW, hsm.mono hc hs, hf⟩⟩
theorem vx_frame {U : State} {k n : Nat} (h : s.sameButNew ({ U with vm := s.vm } : State) locs k n) : s.heap.size ≤ U.heap.size ∧ ∀ q : Nat, q < s.heap.size → (∀ z ∈ locs, z.base ≠ q) → U.heap[q]? = s.heap[q]? := by
  obtain ⟨-, h2, -, -, -, h6⟩ := h
  refine ⟨h2, fun q hq hz => ?_⟩
  obtain ⟨c9, e1, e2, e3, e4⟩ := h6 q _ (Array.getElem?_eq_getElem hq)
  have hs : c9.slots = (s.heap[q]).slots := Array.ext_getElem? fun i => e4 i fun hm => hz _ hm rfl
  have h9 : c9 = s.heap[q] := by
    rw [hs] at e2
    exact e2
  have e5 : U.heap[q]? = some c9 := e1
  rw [e5, h9, Array.getElem?_eq_getElem hq]
/-- the words of a throw but the four that speak of the heap -/
def vx_no (w : Cond) : Bool := decide (w ≠ .isRef (.static Bundle.tN "UNASSIGNED_STACK" Bundle.steD)) && decide (w ≠ .isRef (.static Bundle.tN "SUPPRESSED_SENTINEL" Bundle.listD)) && decide (w ≠ .laysStatic Bundle.tN "UNASSIGNED_STACK" Bundle.steD) && decide (w ≠ .laysStatic Bundle.tN "SUPPRESSED_SENTINEL" Bundle.listD)
def vx_at0 (own : String) (ic : Nat) (X : String) (names : List String) : List Cond := (Bundle.ownAtoms0 own ic X names).filter vx_no
def vx_atS (own : String) (ic : Nat) (X : String) (names : List String) : List Cond := (Bundle.ownAtoms own ic X names).filter vx_no
/-- a word that the tables alone decide, or a good one -/
def vx_ot (w : Cond) : Bool := w.onTables || goodWord w
theorem vx_ot_at {args a' : Array Value} {s U : State} {w : Cond} (hW : s.WarmedH U.vm) (hvm : s.vm = U.vm) (hg : vx_ot w = true) (h : w.before args s = true) : w.before a' U = true := by
  simp only [vx_ot, Bool.or_eq_true] at hg
  rcases hg with hg | hg
  · exact va_tabs hg hvm h
  · exact word_at hW (good_of_word hg) h
/-- a list's words: the good ones out of the method's own list, the others by premises of their own -/
theorem vx_hat {args : Array Value} {s : State} {L B : List Cond} (h1 : ∀ w ∈ L.filter goodWord, w.before args s = true) (h2 : ∀ w ∈ L.filter (fun w => !goodWord w), w ∈ B) (h3 : ∀ w ∈ B, w.before args s = true) : ∀ w ∈ L, w.before args s = true := by
  intro w hw
  by_cases g : goodWord w = true
  · exact h1 w (List.mem_filter.mpr ⟨hw, g⟩)
  · refine h3 w (h2 w (List.mem_filter.mpr ⟨hw, ?_⟩))
    show (!goodWord w) = true
    cases hgw : goodWord w
    · rfl
    · exact absurd hgw g
theorem vx_c {args : Array Value} {s : State} {w : Cond} {B : List Cond} (h : w.before args s = true) (t : ∀ w ∈ B, w.before args s = true) : ∀ w' ∈ w :: B, w'.before args s = true := fun w' h' => (List.mem_cons.mp h').elim (fun e => by rw [e]; exact h) (t w')
theorem vx_n {args : Array Value} {s : State} : ∀ w ∈ ([] : List Cond), w.before args s = true := fun _ h => nomatch h
theorem vx_own {args : Array Value} {s : State} {L : List Cond} (h1 : ∀ w ∈ L.filter vx_no, w.before args s = true)
    (hU : (Cond.isRef (.static Bundle.tN "UNASSIGNED_STACK" Bundle.steD)).before args s = true) (hN : (Cond.isRef (.static Bundle.tN "SUPPRESSED_SENTINEL" Bundle.listD)).before args s = true)
    (lU : (Cond.laysStatic Bundle.tN "UNASSIGNED_STACK" Bundle.steD).before args s = true) (lN : (Cond.laysStatic Bundle.tN "SUPPRESSED_SENTINEL" Bundle.listD).before args s = true) : ∀ w ∈ L, w.before args s = true := by
  intro w hw
  by_cases e1 : w = .isRef (.static Bundle.tN "UNASSIGNED_STACK" Bundle.steD)
  · rw [e1]; exact hU
  · by_cases e2 : w = .isRef (.static Bundle.tN "SUPPRESSED_SENTINEL" Bundle.listD)
    · rw [e2]; exact hN
    · by_cases e3 : w = .laysStatic Bundle.tN "UNASSIGNED_STACK" Bundle.steD
      · rw [e3]; exact lU
      · by_cases e4 : w = .laysStatic Bundle.tN "SUPPRESSED_SENTINEL" Bundle.listD
        · rw [e4]; exact lN
        · exact h1 w (List.mem_filter.mpr ⟨hw, by unfold vx_no; rw [decide_eq_true e1, decide_eq_true e2, decide_eq_true e3, decide_eq_true e4]; rfl⟩)
/-- where a static field lies, its class's statics cell in H -/
def vx_L (C n d : String) (A : Nat → Prop) (U : State) (H : Heap) : Prop := ∃ (c : ClassId) (k : Class) (i : Nat) (f : Field) (a : Nat) (cell : Cell), U.vm.findClass C = some c ∧ U.fieldFound? C n d = some (c, k, i, f) ∧ f.isStatic = true ∧ k.statics = some a ∧ H[a]? = some cell ∧ cell.vm.isStatics = true ∧ cell.cls = c ∧ f.slot < cell.slots.size ∧ k.staticTypes[f.slot]? = some f.type ∧ ¬ A a
theorem vx_L.moved {C n d : String} {A : Nat → Prop} {u U : State} {H : Heap} (hvm : u.vm.Alike U.vm) (h : vx_L C n d A u H) : vx_L C n d A U H := by
  obtain ⟨c, k, i, f, a, cell, h1, h2, h3, h4, h5, h6, h7, h8, h9, h10⟩ := h
  obtain ⟨k', hi', he⟩ := State.fieldFound?_setVm hvm h2
  exact ⟨c, k', i, f, a, cell, by rw [hvm.findClass]; exact h1, hi', h3, by rw [he]; exact h4, h5, h6, h7, h8, by rw [he]; exact h9, h10⟩
theorem vx_L.kept {C n d : String} {A : Nat → Prop} {U : State} {H H1 : Heap} (h : vx_L C n d A U H) (hq : ∀ a : Nat, a < H.size → ¬ A a → H1[a]? = H[a]?) : vx_L C n d A U H1 := by
  obtain ⟨c, k, i, f, a, cell, h1, h2, h3, h4, h5, h6, h7, h8, h9, h10⟩ := h
  exact ⟨c, k, i, f, a, cell, h1, h2, h3, h4, by rw [hq a (Array.getElem?_eq_some_iff.mp h5).1 h10]; exact h5, h6, h7, h8, h9, h10⟩
theorem vx_L.narrow {C n d : String} {A B : Nat → Prop} {U : State} {H : Heap} (h : vx_L C n d A U H) (hAB : ∀ q, B q → A q) : vx_L C n d B U H := by
  obtain ⟨c, k, i, f, a, cell, h1, h2, h3, h4, h5, h6, h7, h8, h9, h10⟩ := h
  exact ⟨c, k, i, f, a, cell, h1, h2, h3, h4, h5, h6, h7, h8, h9, fun z => h10 (hAB _ z)⟩
theorem vx_L.word {C n d : String} {A : Nat → Prop} {s : State} {args : Array Value} (h : vx_L C n d A s s.heap) : (Cond.laysStatic C n d).before args s = true := by
  obtain ⟨c, k, i, f, a, cell, h1, h2, h3, h4, h5, h6, h7, h8, h9, -⟩ := h
  show (Cond.laysStatic C n d).holds args s none s [] = true
  exact Cond.laysStatic_of h1 h2 h3 h4 h5 h6 h7 h8 h9
/-- .. and what it holds: null or some reference -/
def vx_Zq (C n d : String) (A : Nat → Prop) (U : State) (H : Heap) : Prop := va_Zq C n d A U H ∧ vx_L C n d A U H
theorem vx_Zq.moved {C n d : String} {A : Nat → Prop} {u U : State} {H : Heap} (hvm : u.vm.Alike U.vm) (h : vx_Zq C n d A u H) : vx_Zq C n d A U H := ⟨va_Zq.moved hvm h.1, vx_L.moved hvm h.2⟩
theorem vx_Zq.kept {C n d : String} {A : Nat → Prop} {U : State} {H H1 : Heap} (h : vx_Zq C n d A U H) (hq : ∀ a : Nat, a < H.size → ¬ A a → H1[a]? = H[a]?) : vx_Zq C n d A U H1 := ⟨va_Zq.kept h.1 hq, vx_L.kept h.2 hq⟩
theorem vx_Zq.narrow {C n d : String} {A B : Nat → Prop} {U : State} {H : Heap} (h : vx_Zq C n d A U H) (hAB : ∀ q, B q → A q) : vx_Zq C n d B U H := ⟨va_Zq.narrow h.1 hAB, vx_L.narrow h.2 hAB⟩
theorem vx_Zqof {args : Array Value} {s : State} {C n d : String} {A : Nat → Prop} (hl : (Cond.laysStatic C n d).before args s = true) (hini : (Cond.initialized C).before args s = true) (h : (Cond.isRef (.static C n d)).before args s = true) (hA : ∀ a : Nat, a < s.heap.size → ¬ A a) : vx_Zq C n d A s s.heap := by
  refine ⟨va_Zqof hl hini h hA, ?_⟩
  obtain ⟨c, k, i, f, a, cell, h1, h2, h3, h4, h5, h6, h7, h8, h9⟩ := Cond.laysStatic_spec hl
  exact ⟨c, k, i, f, a, cell, h1, h2, h3, h4, h5, h6, h7, h8, h9, hA a (Array.getElem?_eq_some_iff.mp h5).1⟩
theorem vx_isRef {C n d : String} {v : Value} {A : Nat → Prop} {s : State} {args : Array Value} (h : va_Z C n d v A s s.heap) (hv : v.isRef = true) : (Cond.isRef (.static C n d)).before args s = true := by
  obtain ⟨cf, kf, fi, f, a, cell, h1, h2, h3, h4, h5, h6, h7, -⟩ := h
  have he : (Term.static C n d).eval args s none [] s = some v := by
    simp [Term.eval, State.fieldNamed?, h1, h2, h4, h5, h6, h7]
  simp only [Cond.before, Cond.holds, Cond.value, he]
  cases v <;> simp_all [Value.isRef]
theorem vx_isRefq {C n d : String} {A : Nat → Prop} {s : State} {args : Array Value} (h : va_Zq C n d A s s.heap) : (Cond.isRef (.static C n d)).before args s = true := by
  rcases h with h | ⟨t, h⟩
  · exact vx_isRef h rfl
  · exact vx_isRef h rfl
/-- the same frame, seen from here: as if the method were called anew in this heap -/
theorem vx_rebase {T : State} (X : Stand p l e R s m args below meth c T locs cells slots) {R' : Room} (hf : R'.frames ≤ R.frames) (hl : R'.locals ≤ R.locals) (hc : cells + R'.cells ≤ R.cells) (hs : slots + R'.slots ≤ R.slots) :
    Stand p l e R' ((T.setVm s.vm).setFrames (.invoking m args :: below)) m args below meth c T [] 0 0 := by
  have htop : (T.setVm s.vm).topJava?.isSome := X.here.top
  have hF : ((T.setVm s.vm).setFrames (.invoking m args :: below)).frames = .invoking m args :: below := State.frames_setFrames _ (State.cur_lt_of_top htop)
  obtain ⟨g₀, hg0⟩ := Option.isSome_iff_exists.mp htop
  obtain ⟨r, hr⟩ := State.topJava?_eq_some.mp hg0
  have hl9 : e.platform.stackLimits (T.setVm s.vm).me = e.platform.stackLimits s.me := X.limits
  have hb9 : (T.setVm s.vm).me.stackBytes = s.me.stackBytes := X.bytes
  refine ⟨X.admits, X.cas, X.clock, hF, ?_, X.hears, X.method, X.code, X.here, X.tail, X.warmed, ?_, ?_, ?_⟩
  · have h := X.room
    have hU : ((T.setVm s.vm).setFrames (.invoking m args :: below)).localsInUse = s.localsInUse := by
      rw [State.localsInUse_invoking hF (meth := meth) (c := c) X.method X.code, State.localsInUse_invoking X.frames X.method X.code]
    simp only [State.hasRoom, Bool.and_eq_true, decide_eq_true_eq] at h ⊢
    obtain ⟨⟨⟨⟨h1, h2, h3, h4, h5, h6⟩, h7⟩, h8⟩, h9⟩ := h
    rw [X.frames, List.length_cons] at h2 h3
    have q1 := X.heapSize
    have q2 := X.used
    simp only [hF, hU, List.length_cons, State.stackLimits_setFrames, State.stackBytes_setFrames, hl9, hb9]
    refine ⟨⟨⟨⟨by omega, by omega, by omega, by omega, by omega, h6⟩, ?_⟩, ?_⟩, X.book⟩
    · show T.heap.size + R'.cells ≤ e.platform.maxCells
      omega
    · show T.slotsUsed + R'.slots ≤ e.platform.maxSlots
      omega
  · rw [State.stackLimits_setFrames]; rfl
  · rw [State.stackBytes_setFrames]; rfl
  · refine ⟨?_, Nat.le_refl _, Nat.le_refl _, ?_, ?_, fun a c9 h9 => ⟨c9, h9, rfl, rfl, fun _ _ => rfl⟩⟩
    · obtain ⟨t, ht, -⟩ := State.frames_cons hr
      show T.setVm s.vm = { ((T.setVm s.vm).setFrames (.invoking m args :: below)).setFrames (T.setVm s.vm).frames with heap := T.heap, slotsUsed := T.slotsUsed }
      rw [State.setFrames_setFrames, State.setFrames_self ht]
      rfl
    · show T.slotsUsed = T.slotsUsed + ((T.heap.toList.drop T.heap.size).map (·.slots.size)).sum
      rw [List.drop_eq_nil_of_le (Nat.le_of_eq Array.length_toList)]
      rfl
    · show ((T.heap.toList.drop T.heap.size).map (·.slots.size)).sum ≤ 0
      rw [List.drop_eq_nil_of_le (Nat.le_of_eq Array.length_toList)]
      exact Nat.le_refl _
/-- 'throw new E()': new; dup; invokespecial; athrow -/
theorem vx_throw0 {cc : ByteArray} {pc : Nat} (hexec : p.tables.exec = Jvm.exec) (hb : c.code = cc) (hl : l.stackTraces = false) {own cls : String} {names : List String} {ik ic mc ms : Nat} {A : Nat → Prop}
    (hown : s.vm.findClass own = some m.cls) (hcls : Bundle.fit cls = true) (hnames : ∀ n ∈ names, Bundle.fit n = true)
    (hk : (Cond.classLink own ik cls).before args s = true) (hini : (Cond.initialized cls).before args s = true) (hat : ∀ w ∈ vx_at0 own ic cls names, w.before args s = true)
    (hgood : ∀ w ∈ Cond.classLink own ik cls :: Cond.initialized cls :: vx_at0 own ic cls names, vx_ot w = true)
    (hU : vx_Zq Bundle.tN "UNASSIGNED_STACK" Bundle.steD A s s.heap) (hN : vx_Zq Bundle.tN "SUPPRESSED_SENTINEL" Bundle.listD A s s.heap) (hS : va_S A s.heap H locs) (hsize : ls.size = c.maxLocals)
    (d0 : decode cc pc = .ok (.new ik, 3)) (d3 : decode cc (pc + 3) = .ok (.dup, 1)) (d4 : decode cc (pc + 4) = .ok (.invokespecial ic, 3)) (d7 : decode cc (pc + 7) = .ok (.athrow, 1))
    (hout : ∀ x ∈ c.exceptionTable.toList, covers x (pc + 7) = false)
    (hRframes : names.length + 3 < R.frames) (hRlocals : (rest.map fun v => v.category).sum + (13 * (names.length + 1) + 42) ≤ R.locals) (hRcells : cells + 1 ≤ R.cells) (hRslots : slots + 6 ≤ R.slots) (hlocks : meth.locks = false)
    (hx : ∀ t : State, s.vm.Alike t.vm → H.size ≤ t.heap.size → (∀ q : Nat, q < H.size → t.heap[q]? = H[q]?) → XC cls s t)
    (hf : ∀ z ∈ locs, free z.base) (hc : cells + 1 ≤ mc) (hs : slots + 6 ≤ ms) :
    W p l e R s m args below meth c H locs cells slots (vx_MQ below Qc XC args s mc ms free) (F0 m pc ls rest) := by
  intro T hT X
  have htr : e.platform.stackTraces = false := (show e.platform.stackTraces = l.stackTraces by rw [X.admits.platform]).trans hl
  have Y := vx_rebase X (R' := { frames := R.frames, locals := R.locals, cells := 1, slots := 6 }) (Nat.le_refl _) (Nat.le_refl _) hRcells hRslots
  obtain ⟨s', hA⟩ : ∃ z, z = (T.setVm s.vm).setFrames (.invoking m args :: below) := ⟨_, rfl⟩
  rw [← hA] at Y
  have hvm : s'.vm = s.vm := by rw [hA]; rfl
  have hhp : s'.heap = H := by rw [hA]; exact hT
  have hW0 : s.WarmedH s'.vm := by rw [hvm]; exact State.WarmedH.refl s
  have hat' : ∀ w ∈ vx_at0 own ic cls names, w.before args s' = true := fun w hw => vx_ot_at hW0 hvm.symm (hgood w (List.mem_cons_of_mem _ (List.mem_cons_of_mem _ hw))) (hat w hw)
  have hk' : (Cond.classLink own ik cls).before args s' = true := vx_ot_at hW0 hvm.symm (hgood _ List.mem_cons_self) hk
  have hini' : (Cond.initialized cls).before args s' = true := vx_ot_at hW0 hvm.symm (hgood _ (List.mem_cons_of_mem _ List.mem_cons_self)) hini
  have hU' : vx_Zq Bundle.tN "UNASSIGNED_STACK" Bundle.steD A s' s'.heap := by rw [hhp]; exact vx_Zq.moved hW0.alike (hU.kept hS.2.1)
  have hN' : vx_Zq Bundle.tN "SUPPRESSED_SENTINEL" Bundle.listD A s' s'.heap := by rw [hhp]; exact vx_Zq.moved hW0.alike (hN.kept hS.2.1)
  have h : ∀ w ∈ Bundle.ownAtoms0 own ic cls names, w.before args s' = true := vx_own hat' (vx_isRefq hU'.1) (vx_isRefq hN'.1) hU'.2.word hN'.2.word
  have hown' : s'.vm.findClass own = some m.cls := by rw [hvm]; exact hown
  have hins : (Cond.instantiable cls 6).before args s' = true := h _ (by simp [Bundle.ownAtoms0])
  obtain ⟨vm₁, cX, kX, hfX, hkX, -, -, X₁, st1⟩ := Y.newCold hexec (own := own) (C := cls) (index := ik) (n := 6) hown' hk' hins hini'
    (g := F0 m pc ls rest) rfl (by rw [hb]; exact d0) (Nat.le_refl _) (Nat.le_refl _)
  generalize hT1 : (T.setVm vm₁).pushCell { cls := cX, slots := kX.instanceTypes.map defaultValue, vm := .none } = T1 at X₁ st1
  have hcat : (Value.ref T.heap.size).category = 1 := rfl
  have hcellA : T1.heap[T.heap.size]? = some (freshCell cX kX) := by rw [← hT1]; exact State.heap_pushCell_size _ _
  have d3' : decode c.code (pc + 3) = .ok (.dup, 1) := by rw [hb]; exact d3
  obtain ⟨U, hsteps, hrun, hend, hW, hsame, ce, hce, hO⟩ := X₁.ctorThrow0 hexec htr (own := own) (cls := cls) (names := names) (ic := ic) hown' hcls hnames h (fun x hx => nomatch hx) hfX hkX hcellA (by rw [hhp, hT]; exact Nat.le_refl _)
    (g := { method := m, pc := pc + 4, locals := ls, stack := .ref T.heap.size :: .ref T.heap.size :: rest, locked := none }) rfl hsize rfl rfl (rest := rest) rfl
    (by rw [hb]; exact d4) (by rw [hb]; exact d7) hout hRframes (by simp only [List.map_cons, List.sum_cons, hcat]; omega) hlocks
  obtain ⟨f1, f2⟩ := vx_frame hsame
  rw [hhp] at f1 f2
  have hWs : s.WarmedH U.vm := State.WarmedH.trans hW0 hW
  have hcl : s.vm.findClass cls = some ce.cls := by
    have h9 := hO.cls
    rw [hvm] at h9
    exact h9
  have hall : s.sameButNew ({ U with vm := s.vm } : State) locs mc ms := by
    subst hA
    obtain ⟨e1, e2⟩ := hsame
    rw [State.setFrames_setFrames] at e1
    have h2 : (T.setVm s.vm).sameButNew ({ U with vm := s.vm } : State) [] (0 + 1) (0 + 6) := ⟨e1, e2⟩
    have h3 := X.same.trans h2
    rw [List.append_nil] at h3
    exact h3.mono hc hs
  refine ⟨U, ?_, .threw T.heap.size, hrun, hend, Or.inr ⟨T.heap.size, rfl, cls, ce, locs, hx U hWs.alike f1 (fun q hq => f2 q hq (fun z hz => nomatch hz)), hce, hO.vm, hcl, hWs, hall, hf⟩⟩
  refine st1 _ ?_
  show Steps p.tables e below (T1.setTop { method := m, pc := pc + 3, locals := ls, stack := .ref T.heap.size :: rest, locked := none }) _
  jvm_step X₁.here [X₁.here.top, hexec, d3', Value.category]
  exact hsteps
/-- 'throw new E("text")': new; dup; ldc; invokespecial; athrow -/
theorem vx_throwS {cc : ByteArray} {pc : Nat} (hexec : p.tables.exec = Jvm.exec) (hb : c.code = cc) (hl : l.stackTraces = false) {own cls text : String} {names : List String} {ik is ic mc ms sa : Nat} {A : Nat → Prop}
    (hown : s.vm.findClass own = some m.cls) (hcls : Bundle.fit cls = true) (hnames : ∀ n ∈ names, Bundle.fit n = true)
    (hk : (Cond.classLink own ik cls).before args s = true) (hini : (Cond.initialized cls).before args s = true) (hstr : vk_R own is text sa s) (hat : ∀ w ∈ vx_atS own ic cls names, w.before args s = true)
    (hgood : ∀ w ∈ Cond.classLink own ik cls :: Cond.initialized cls :: vx_atS own ic cls names, vx_ot w = true)
    (hU : vx_Zq Bundle.tN "UNASSIGNED_STACK" Bundle.steD A s s.heap) (hN : vx_Zq Bundle.tN "SUPPRESSED_SENTINEL" Bundle.listD A s s.heap) (hS : va_S A s.heap H locs) (hsize : ls.size = c.maxLocals)
    (d0 : decode cc pc = .ok (.new ik, 3)) (d3 : decode cc (pc + 3) = .ok (.dup, 1)) (d4 : decode cc (pc + 4) = .ok (.ldc is, 2)) (d6 : decode cc (pc + 6) = .ok (.invokespecial ic, 3)) (d9 : decode cc (pc + 9) = .ok (.athrow, 1))
    (hout : ∀ x ∈ c.exceptionTable.toList, covers x (pc + 9) = false)
    (hRframes : names.length + 3 < R.frames) (hRlocals : (rest.map fun v => v.category).sum + (13 * (names.length + 1) + 43) ≤ R.locals) (hRcells : cells + 1 ≤ R.cells) (hRslots : slots + 6 ≤ R.slots) (hlocks : meth.locks = false)
    (hx : ∀ t : State, s.vm.Alike t.vm → H.size ≤ t.heap.size → (∀ q : Nat, q < H.size → t.heap[q]? = H[q]?) → XC cls s t)
    (hf : ∀ z ∈ locs, free z.base) (hc : cells + 1 ≤ mc) (hs : slots + 6 ≤ ms) :
    W p l e R s m args below meth c H locs cells slots (vx_MQ below Qc XC args s mc ms free) (F0 m pc ls rest) := by
  intro T hT X
  have htr : e.platform.stackTraces = false := (show e.platform.stackTraces = l.stackTraces by rw [X.admits.platform]).trans hl
  have Y := vx_rebase X (R' := { frames := R.frames, locals := R.locals, cells := 1, slots := 6 }) (Nat.le_refl _) (Nat.le_refl _) hRcells hRslots
  obtain ⟨s', hA⟩ : ∃ z, z = (T.setVm s.vm).setFrames (.invoking m args :: below) := ⟨_, rfl⟩
  rw [← hA] at Y
  have hvm : s'.vm = s.vm := by rw [hA]; rfl
  have hhp : s'.heap = H := by rw [hA]; exact hT
  have hW0 : s.WarmedH s'.vm := by rw [hvm]; exact State.WarmedH.refl s
  have hat' : ∀ w ∈ vx_atS own ic cls names, w.before args s' = true := fun w hw => vx_ot_at hW0 hvm.symm (hgood w (List.mem_cons_of_mem _ (List.mem_cons_of_mem _ hw))) (hat w hw)
  have hk' : (Cond.classLink own ik cls).before args s' = true := vx_ot_at hW0 hvm.symm (hgood _ List.mem_cons_self) hk
  have hini' : (Cond.initialized cls).before args s' = true := vx_ot_at hW0 hvm.symm (hgood _ (List.mem_cons_of_mem _ List.mem_cons_self)) hini
  have hU' : vx_Zq Bundle.tN "UNASSIGNED_STACK" Bundle.steD A s' s'.heap := by rw [hhp]; exact vx_Zq.moved hW0.alike (hU.kept hS.2.1)
  have hN' : vx_Zq Bundle.tN "SUPPRESSED_SENTINEL" Bundle.listD A s' s'.heap := by rw [hhp]; exact vx_Zq.moved hW0.alike (hN.kept hS.2.1)
  have h : ∀ w ∈ Bundle.ownAtoms own ic cls names, w.before args s' = true := vx_own hat' (vx_isRefq hU'.1) (vx_isRefq hN'.1) hU'.2.word hN'.2.word
  have hown' : s'.vm.findClass own = some m.cls := by rw [hvm]; exact hown
  have hins : (Cond.instantiable cls 6).before args s' = true := h _ (by simp [Bundle.ownAtoms])
  obtain ⟨vm₁, cX, kX, hfX, hkX, -, -, X₁, st1⟩ := Y.newCold hexec (own := own) (C := cls) (index := ik) (n := 6) hown' hk' hins hini'
    (g := F0 m pc ls rest) rfl (by rw [hb]; exact d0) (Nat.le_refl _) (Nat.le_refl _)
  generalize hT1 : (T.setVm vm₁).pushCell { cls := cX, slots := kX.instanceTypes.map defaultValue, vm := .none } = T1 at X₁ st1
  have hcat : (Value.ref T.heap.size).category = 1 := rfl
  have hcellA : T1.heap[T.heap.size]? = some (freshCell cX kX) := by rw [← hT1]; exact State.heap_pushCell_size _ _
  have d3' : decode c.code (pc + 3) = .ok (.dup, 1) := by rw [hb]; exact d3
  have d4' : decode c.code (pc + 4) = .ok (.ldc is, 2) := by rw [hb]; exact d4
  have hstr' : vk_R own is text sa s' := vk_R.warm hW0 hstr
  obtain ⟨U, hsteps, hrun, hend, hW, hsame, ce, hce, hO⟩ := X₁.ctorThrowS hexec htr (own := own) (cls := cls) (names := names) (ic := ic) hown' hcls hnames h (fun x hx => nomatch hx) hfX hkX hcellA (by rw [hhp, hT]; exact Nat.le_refl _) (msg := .ref sa) rfl
    (g := { method := m, pc := pc + 6, locals := ls, stack := .ref sa :: .ref T.heap.size :: .ref T.heap.size :: rest, locked := none }) rfl hsize rfl rfl (rest := rest) rfl
    (by rw [hb]; exact d6) (by rw [hb]; exact d9) hout hRframes (by simp only [List.map_cons, List.sum_cons, hcat]; omega) hlocks
  obtain ⟨f1, f2⟩ := vx_frame hsame
  rw [hhp] at f1 f2
  have hWs : s.WarmedH U.vm := State.WarmedH.trans hW0 hW
  have hcl : s.vm.findClass cls = some ce.cls := by
    have h9 := hO.cls
    rw [hvm] at h9
    exact h9
  have hall : s.sameButNew ({ U with vm := s.vm } : State) locs mc ms := by
    subst hA
    obtain ⟨e1, e2⟩ := hsame
    rw [State.setFrames_setFrames] at e1
    have h2 : (T.setVm s.vm).sameButNew ({ U with vm := s.vm } : State) [] (0 + 1) (0 + 6) := ⟨e1, e2⟩
    have h3 := X.same.trans h2
    rw [List.append_nil] at h3
    exact h3.mono hc hs
  refine ⟨U, ?_, .threw T.heap.size, hrun, hend, Or.inr ⟨T.heap.size, rfl, cls, ce, locs, hx U hWs.alike f1 (fun q hq => f2 q hq (fun z hz => nomatch hz)), hce, hO.vm, hcl, hWs, hall, hf⟩⟩
  refine st1 _ ?_
  show Steps p.tables e below (T1.setTop { method := m, pc := pc + 3, locals := ls, stack := .ref T.heap.size :: rest, locked := none }) _
  jvm_step X₁.here [X₁.here.top, hexec, d3', Value.category]
  exact X₁.ldcString hexec (own := own) (text := text) (index := is) (a := sa) hown' hstr'.1 hstr'.2
    (g := { method := m, pc := pc + 4, locals := ls, stack := .ref T.heap.size :: .ref T.heap.size :: rest, locked := none }) rfl d4' _ hsteps
/-- 'throw new E("text")', the text by a wide index -/
theorem vx_throwSW {cc : ByteArray} {pc : Nat} (hexec : p.tables.exec = Jvm.exec) (hb : c.code = cc) (hl : l.stackTraces = false) {own cls text : String} {names : List String} {ik is ic mc ms sa : Nat} {A : Nat → Prop}
    (hown : s.vm.findClass own = some m.cls) (hcls : Bundle.fit cls = true) (hnames : ∀ n ∈ names, Bundle.fit n = true)
    (hk : (Cond.classLink own ik cls).before args s = true) (hini : (Cond.initialized cls).before args s = true) (hstr : vk_R own is text sa s) (hat : ∀ w ∈ vx_atS own ic cls names, w.before args s = true)
    (hgood : ∀ w ∈ Cond.classLink own ik cls :: Cond.initialized cls :: vx_atS own ic cls names, vx_ot w = true)
    (hU : vx_Zq Bundle.tN "UNASSIGNED_STACK" Bundle.steD A s s.heap) (hN : vx_Zq Bundle.tN "SUPPRESSED_SENTINEL" Bundle.listD A s s.heap) (hS : va_S A s.heap H locs) (hsize : ls.size = c.maxLocals)
    (d0 : decode cc pc = .ok (.new ik, 3)) (d3 : decode cc (pc + 3) = .ok (.dup, 1)) (d4 : decode cc (pc + 4) = .ok (.ldc_w is, 3)) (d7 : decode cc (pc + 7) = .ok (.invokespecial ic, 3)) (d10 : decode cc (pc + 10) = .ok (.athrow, 1))
    (hout : ∀ x ∈ c.exceptionTable.toList, covers x (pc + 10) = false)
    (hRframes : names.length + 3 < R.frames) (hRlocals : (rest.map fun v => v.category).sum + (13 * (names.length + 1) + 43) ≤ R.locals) (hRcells : cells + 1 ≤ R.cells) (hRslots : slots + 6 ≤ R.slots) (hlocks : meth.locks = false)
    (hx : ∀ t : State, s.vm.Alike t.vm → H.size ≤ t.heap.size → (∀ q : Nat, q < H.size → t.heap[q]? = H[q]?) → XC cls s t)
    (hf : ∀ z ∈ locs, free z.base) (hc : cells + 1 ≤ mc) (hs : slots + 6 ≤ ms) :
    W p l e R s m args below meth c H locs cells slots (vx_MQ below Qc XC args s mc ms free) (F0 m pc ls rest) := by
  intro T hT X
  have htr : e.platform.stackTraces = false := (show e.platform.stackTraces = l.stackTraces by rw [X.admits.platform]).trans hl
  have Y := vx_rebase X (R' := { frames := R.frames, locals := R.locals, cells := 1, slots := 6 }) (Nat.le_refl _) (Nat.le_refl _) hRcells hRslots
  obtain ⟨s', hA⟩ : ∃ z, z = (T.setVm s.vm).setFrames (.invoking m args :: below) := ⟨_, rfl⟩
  rw [← hA] at Y
  have hvm : s'.vm = s.vm := by rw [hA]; rfl
  have hhp : s'.heap = H := by rw [hA]; exact hT
  have hW0 : s.WarmedH s'.vm := by rw [hvm]; exact State.WarmedH.refl s
  have hat' : ∀ w ∈ vx_atS own ic cls names, w.before args s' = true := fun w hw => vx_ot_at hW0 hvm.symm (hgood w (List.mem_cons_of_mem _ (List.mem_cons_of_mem _ hw))) (hat w hw)
  have hk' : (Cond.classLink own ik cls).before args s' = true := vx_ot_at hW0 hvm.symm (hgood _ List.mem_cons_self) hk
  have hini' : (Cond.initialized cls).before args s' = true := vx_ot_at hW0 hvm.symm (hgood _ (List.mem_cons_of_mem _ List.mem_cons_self)) hini
  have hU' : vx_Zq Bundle.tN "UNASSIGNED_STACK" Bundle.steD A s' s'.heap := by rw [hhp]; exact vx_Zq.moved hW0.alike (hU.kept hS.2.1)
  have hN' : vx_Zq Bundle.tN "SUPPRESSED_SENTINEL" Bundle.listD A s' s'.heap := by rw [hhp]; exact vx_Zq.moved hW0.alike (hN.kept hS.2.1)
  have h : ∀ w ∈ Bundle.ownAtoms own ic cls names, w.before args s' = true := vx_own hat' (vx_isRefq hU'.1) (vx_isRefq hN'.1) hU'.2.word hN'.2.word
  have hown' : s'.vm.findClass own = some m.cls := by rw [hvm]; exact hown
  have hins : (Cond.instantiable cls 6).before args s' = true := h _ (by simp [Bundle.ownAtoms])
  obtain ⟨vm₁, cX, kX, hfX, hkX, -, -, X₁, st1⟩ := Y.newCold hexec (own := own) (C := cls) (index := ik) (n := 6) hown' hk' hins hini'
    (g := F0 m pc ls rest) rfl (by rw [hb]; exact d0) (Nat.le_refl _) (Nat.le_refl _)
  generalize hT1 : (T.setVm vm₁).pushCell { cls := cX, slots := kX.instanceTypes.map defaultValue, vm := .none } = T1 at X₁ st1
  have hcat : (Value.ref T.heap.size).category = 1 := rfl
  have hcellA : T1.heap[T.heap.size]? = some (freshCell cX kX) := by rw [← hT1]; exact State.heap_pushCell_size _ _
  have d3' : decode c.code (pc + 3) = .ok (.dup, 1) := by rw [hb]; exact d3
  have d4' : decode c.code (pc + 4) = .ok (.ldc_w is, 3) := by rw [hb]; exact d4
  have hstr' : vk_R own is text sa s' := vk_R.warm hW0 hstr
  obtain ⟨U, hsteps, hrun, hend, hW, hsame, ce, hce, hO⟩ := X₁.ctorThrowS hexec htr (own := own) (cls := cls) (names := names) (ic := ic) hown' hcls hnames h (fun x hx => nomatch hx) hfX hkX hcellA (by rw [hhp, hT]; exact Nat.le_refl _) (msg := .ref sa) rfl
    (g := { method := m, pc := pc + 7, locals := ls, stack := .ref sa :: .ref T.heap.size :: .ref T.heap.size :: rest, locked := none }) rfl hsize rfl rfl (rest := rest) rfl
    (by rw [hb]; exact d7) (by rw [hb]; exact d10) hout hRframes (by simp only [List.map_cons, List.sum_cons, hcat]; omega) hlocks
  obtain ⟨f1, f2⟩ := vx_frame hsame
  rw [hhp] at f1 f2
  have hWs : s.WarmedH U.vm := State.WarmedH.trans hW0 hW
  have hcl : s.vm.findClass cls = some ce.cls := by
    have h9 := hO.cls
    rw [hvm] at h9
    exact h9
  have hall : s.sameButNew ({ U with vm := s.vm } : State) locs mc ms := by
    subst hA
    obtain ⟨e1, e2⟩ := hsame
    rw [State.setFrames_setFrames] at e1
    have h2 : (T.setVm s.vm).sameButNew ({ U with vm := s.vm } : State) [] (0 + 1) (0 + 6) := ⟨e1, e2⟩
    have h3 := X.same.trans h2
    rw [List.append_nil] at h3
    exact h3.mono hc hs
  refine ⟨U, ?_, .threw T.heap.size, hrun, hend, Or.inr ⟨T.heap.size, rfl, cls, ce, locs, hx U hWs.alike f1 (fun q hq => f2 q hq (fun z hz => nomatch hz)), hce, hO.vm, hcl, hWs, hall, hf⟩⟩
  refine st1 _ ?_
  show Steps p.tables e below (T1.setTop { method := m, pc := pc + 3, locals := ls, stack := .ref T.heap.size :: rest, locked := none }) _
  jvm_step X₁.here [X₁.here.top, hexec, d3', Value.category]
  exact X₁.ldcStringW hexec (own := own) (text := text) (index := is) (a := sa) hown' hstr'.1 hstr'.2
    (g := { method := m, pc := pc + 4, locals := ls, stack := .ref T.heap.size :: .ref T.heap.size :: rest, locked := none }) rfl d4' _ hsteps
end Ends
section Bodies
variable {l : Launch}
theorem vx_ofW {y : MethodName} {ws ws' : List Cond} {rm : Room} {Pc : Array Value → State → Prop} {Qc : Array Value → State → Outcome → State → Prop} {XC : String → State → State → Prop} {mc ms : Nat} {free : Addr → Prop} {cc : ByteArray} {maxL : Nat} {ret : Option FieldType}
    (hy : plainName y.cls = true) (hw : ws = Cond.code y cc maxL ret :: ws')
    (body : ∀ p e s m args below meth c s₁, BodyLoose p l y (headSpec ws rm) cc maxL ret e s m args below meth c s₁ → c.maxLocals = maxL → (∀ x ∈ c.exceptionTable.toList, False) → Pc args s →
      W p l e (headSpec ws rm).room s m args below meth c s.heap [] 0 0 (vx_MQ below Qc XC args s mc ms free) (entryFrame m args maxL)) : vx_Met l y ws rm Pc Qc XC mc ms free := by
  refine MetFree.of_bodyS (code := cc) (maxLocals := maxL) (ret := ret) hy ?_ ?_
  · intro args s m h hn
    obtain ⟨meth, c, h1, h2, h3, h4, h5, h6, -, -⟩ := Cond.code_spec hn (atoms_spec (ws := ws) h _ (by rw [hw]; exact List.mem_cons_self))
    exact ⟨meth, c, h1, h2, h3, h4, h5, h6⟩
  · intro p e s m args below meth c s₁ B hml hP _
    have hh0 : s₁.heap = s.heap := by rw [B.state]; rfl
    have ht : ∀ x ∈ c.exceptionTable.toList, False := by
      obtain ⟨meth9, c9, h1, h2, -, -, -, -, h7, -⟩ := Cond.code_spec B.named (atoms_spec (ws := ws) B.pre _ (by rw [hw]; exact List.mem_cons_self))
      cases Option.some.inj (h1.symm.trans B.method)
      cases Option.some.inj (h2.symm.trans (Stand.of_body B).code)
      intro x hx
      rw [Array.isEmpty_iff.mp h7] at hx
      cases hx
    obtain ⟨t, a1, o, b1, b2, b3⟩ := body p e s m args below meth c s₁ B hml ht hP s₁ hh0 (Stand.of_body B)
    exact ⟨t, o, a1, b1, b2, b3⟩
/-- the table of a body with handlers -/
theorem vx_table {p : Program} {x y : MethodName} {S : Spec} {cc bytes : ByteArray} {maxL maxL' : Nat} {ret ret' : Option FieldType} {e : Env} {s s₁ : State} {m : MethodId} {args : Array Value} {below : List Frame} {meth : Method} {c : Code} {hh : List (Nat × Nat × Nat × Nat)}
    (B : BodyLoose p l y S cc maxL ret e s m args below meth c s₁) (h : (Cond.codeWith y bytes maxL' ret' hh).before args s = true) : c.exceptionTable.toList = tableOf hh := by
  obtain ⟨m9, meth9, c9, hn9, h1, h2, -, -, h6, -⟩ := Cond.codeWith_spec h
  cases Option.some.inj (hn9.symm.trans B.named)
  cases Option.some.inj (h1.symm.trans B.method)
  cases Option.some.inj (h2.symm.trans (Stand.of_body B).code)
  rw [← h6, table_eq]
end Bodies
end VXA
/-! ===== END ===== -/
/-! ===== BEGIN a static call of a method with an exception table ===== -/
section VXS
variable {p : Program} {l : Launch} {e : Env} {R : Room} {s : State} {m : MethodId} {args : Array Value} {below : List Frame} {meth : Method} {c : Code} {T : State} {H : Heap} {locs : List Loc} {cells slots : Nat}
abbrev vx_CSW (R : Room) (s : State) (args : Array Value) (own : String) (index : Nat) (y : MethodName) (bytes : ByteArray) (maxL : Nat) (ret : Option FieldType) (hh : List (Nat × Nat × Nat × Nat)) (ws : List Cond) (rm : Room) (mc ms n : Nat) : Prop :=
  (rm.cells = mc ∧ rm.slots = ms ∧ rm.frames + 1 ≤ R.frames ∧ 8 + (maxL + 11) + rm.locals ≤ R.locals ∧ (∀ w ∈ ws, ∀ (a' : Array Value) (U : State), s.WarmedH U.vm → w.before a' U = true) ∧ Cond.codeWith y bytes maxL ret hh ∈ ws) ∧
  (Cond.codeWith y bytes maxL ret hh).before args s = true ∧ (Cond.initialized y.cls).before args s = true ∧ (y.cls ≠ "java/lang/invoke/MethodHandle" ∧ y.cls ≠ "java/lang/invoke/VarHandle") ∧
  (∀ sig, parseMethodDescriptor y.desc = some sig → n = sig.parameters.length) ∧ (Cond.methodLink own index y).before args s = true ∧ (Cond.static y).before args s = true
theorem vx_cwSW {own : String} {index maxL mc ms : Nat} {y : MethodName} {bytes : ByteArray} {ret : Option FieldType} {hh : List (Nat × Nat × Nat × Nat)} {Ts ws ws' : List Cond} {rm : Room} (n : Nat) (ht : ∀ w ∈ Ts, w.before args s = true) (hT : GoodIn Ts (va_wsS own index y ws)) (hw : ws = Cond.codeWith y bytes maxL ret hh :: ws') (hrc : rm.cells = mc) (hrs : rm.slots = ms)
    (hd : y.cls ≠ "java/lang/invoke/MethodHandle" ∧ y.cls ≠ "java/lang/invoke/VarHandle" ∧ (parseMethodDescriptor y.desc).map (fun d => d.parameters.length) = some n) (hR : rm.frames + 1 ≤ R.frames ∧ 8 + (maxL + 11) + rm.locals ≤ R.locals) :
    vx_CSW R s args own index y bytes maxL ret hh ws rm mc ms n := by
  have ok : ∀ w ∈ va_wsS own index y ws, w.before args s = true := fun w h => ht w (hT w h).1
  have hG : GoodIn Ts ws := fun w h => hT w (by unfold va_wsS; exact List.mem_append_right _ h)
  have hc : Cond.codeWith y bytes maxL ret hh ∈ ws := by rw [hw]; exact List.mem_cons_self
  refine ⟨⟨hrc, hrs, hR.1, hR.2, pay_in ht hG, hc⟩, ht _ (hG _ hc).1, ok _ (by simp [va_wsS]), ⟨hd.1, hd.2.1⟩, fun sig h => ?_, ok _ (by simp [va_wsS]), ok _ (by simp [va_wsS])⟩
  have h2 := hd.2.2
  rw [h] at h2
  exact (Option.some.inj h2).symm
theorem vx_callSW (X : Stand p l e R s m args below meth c T locs cells slots) (hexec : p.tables.exec = Jvm.exec) {own : String} {index : Nat} {y : MethodName} {bytes : ByteArray} {maxL : Nat} {ret : Option FieldType} {hh : List (Nat × Nat × Nat × Nat)}
    (hown : s.vm.findClass own = some m.cls) (hlink : (Cond.methodLink own index y).before args s = true) (hstat : (Cond.static y).before args s = true) (hinit : (Cond.initialized y.cls).before args s = true)
    (hcode : (Cond.codeWith y bytes maxL ret hh).before args s = true) (hy : y.cls ≠ "java/lang/invoke/MethodHandle" ∧ y.cls ≠ "java/lang/invoke/VarHandle")
    {W9 : Nat} {Pre : Pt → Array Value → Prop} {Post : Pt → Array Value → Option Value → Pt → Prop} (hK : Back l R p e below s args y 3 W9 Pre Post)
    {g : JFrame} (hg : g.method = m) (hsize : g.locals.size = c.maxLocals) {argsL rest : List Value} (hlen : ∀ sig, parseMethodDescriptor y.desc = some sig → argsL.length = sig.parameters.length)
    (hstack : g.stack = argsL.reverse ++ rest) (hW : 2 * g.monitorRoom + (rest.map fun v => v.category).sum ≤ W9) (hdg : decode c.code g.pc = .ok (.invokestatic index, 3))
    (hpre : ∀ vm₁, s.WarmedH vm₁ → Pre ⟨T.setVm vm₁, locs, cells, slots⟩ argsL.toArray) :
    ∃ (v : Option Value) (vm₁ : Vm) (B : Pt), s.WarmedH vm₁ ∧ Stand p l e R s m args below meth c B.U B.locs B.cells B.slots ∧ Post ⟨T.setVm vm₁, locs, cells, slots⟩ argsL.toArray v B ∧
      ∀ target, Steps p.tables e below (B.U.setTop { g with pc := g.pc + 3, stack := v.toList ++ rest }) target → Steps p.tables e below (T.setTop g) target := by
  obtain ⟨mk, methM, cM, hnamed, hmethM, -, -, -, -, -, -, hsigM⟩ := Cond.codeWith_spec hcode
  have hstatic : methM.isStatic = true := Cond.static_spec hnamed hmethM hstat
  obtain ⟨kP, hkP, -⟩ := className_of_methodNamed hnamed
  have hinitP : kP.init = .initialized := Cond.initialized_spec (findClass_of_methodNamed hnamed) hkP hinit
  obtain ⟨vm₁, X₁, hstep₁⟩ := X.invokestatic hexec hown hlink hnamed hmethM hstatic hkP hinitP hy (g := g) hg (argsL := argsL) (rest := rest) (hlen _ hsigM) hstack hdg
  obtain ⟨v, B, X', hpost, hsteps⟩ := hK m meth c ⟨T.setVm vm₁, locs, cells, slots⟩ { g with stack := rest } (.invokestatic index) mk argsL.toArray X₁ hg hsize hdg hW (X₁.named hnamed) (hpre vm₁ X₁.warmed)
  exact ⟨v, vm₁, B, X₁.warmed, X', hpost, fun target h => hstep₁ _ fun acts => by rw [doInvoke_state]; exact hsteps.trans h⟩
theorem vx_runSW {y : MethodName} {bytes cc : ByteArray} {maxL nL mc ms n index : Nat} {ret : Option FieldType} {hh : List (Nat × Nat × Nat × Nat)} {ws : List Cond} {rm : Room} {Pc : Array Value → State → Prop} {Qc : Array Value → State → Outcome → State → Prop} {free : Addr → Prop} {Ts : List Cond} {own : String} {As rest : List Value} {g : JFrame}
    (S : CallFix p m c cc nL s args Ts own) (hM : Met l y ws rm Pc Qc mc ms free) (cw : vx_CSW R s args own index y bytes maxL ret hh ws rm mc ms n) (hp : PreS s H Pc As)
    (hg : g.method = m) (hn : As.length = n) (hsize : g.locals.size = nL) (hstack : g.stack = As.reverse ++ rest) (hW : 2 * g.monitorRoom + (rest.map fun v => v.category).sum ≤ 8) (hdg : decode cc g.pc = .ok (.invokestatic index, 3)) (hf : cells + mc ≤ R.cells ∧ slots + ms ≤ R.slots) :
    va_Run p l e R s m args below meth c H locs cells slots mc ms g rest (Qc As.toArray) (free) := by
  obtain ⟨⟨hrc, hrs, hfr, hlo, hws, hcw⟩, hcode, hini, hy, hlen, hl, hstt⟩ := cw
  have hK : Back l R p e below s args y 3 8 (PreOf R mc ms Pc) (PostOf Qc mc ms free) := va_backW (hh := hh) (bytes := bytes) (maxL := maxL) (ret := ret) hM hp.1 hrc hrs hfr hlo hws hcw (fun a' U hW => word_at hW (Or.inl (by first | rfl | simp [Cond.onTables, Cond.keeps, Cond.steady])) hini)
  obtain ⟨hx, hb, hml, ho, -⟩ := S
  intro T hT X
  obtain ⟨v, vm₁, ⟨U', l2, c2, s2⟩, hW₁, X', ⟨g', mk, t, L, e1, e2, hq, h1, hL, h2, h3⟩, st⟩ := vx_callSW X hx (hh := hh) (bytes := bytes) (maxL := maxL) (ret := ret) ho hl hstt hini hcode hy hK hg (hsize.trans hml.symm) (argsL := As) (rest := rest) (fun sig h => hn.trans (hlen sig h)) hstack hW (by rw [hb]; exact hdg)
    (fun vm₁ hW₁ => ⟨hf.1, hf.2, hp.2 (T.setVm vm₁) hT hW₁⟩)
  dsimp only [Pt.U, Pt.locs, Pt.cells, Pt.slots] at X' e1 e2 h1 h2 h3 st
  subst h1; subst h2; subst h3
  exact ⟨v, (T.setVm vm₁).calling g' mk As.toArray, t, U', L, hT, X', hL, e1, e2, hq, st⟩
/-- not caught here, past rows that name other classes: it goes on to the caller -/
theorem vx_outP {p : Program} {l : Launch} {e : Env} {R : Room} {s : State} {m : MethodId} {args : Array Value} {below : List Frame} {meth : Method} {c : Code} {H : Heap} {locs : List Loc} {cells slots : Nat} {free : Addr → Prop} {ls : Array Slot} {rest : List Value} {Qc : Array Value → State → Outcome → State → Prop} {XC : String → State → State → Prop}
    {pc : Nat} {own E : String} {ce : Cell} {q : Addr} {mc ms : Nat} (hown : s.vm.findClass own = some m.cls) (hlocks : meth.locks = false)
    (hpass : ∀ z ∈ c.exceptionTable.toList, covers z pc = false ∨ (z.catchType ≠ 0 ∧ ∃ nm : String, (Cond.classLink own z.catchType nm).before args s = true ∧ va_Nc E nm s)) (hcell : H[q]? = some ce) (hv : ce.vm = .none) (hcl : s.vm.findClass E = some ce.cls)
    (hx : ∀ t : State, t.heap = H → s.vm.Alike t.vm → XC E s t) (hf : ∀ z ∈ locs, free z.base) (hc : cells ≤ mc) (hs : slots ≤ ms) :
    vx_W p l e R s m args below meth c H locs cells slots (vx_MQ below Qc XC args s mc ms free) (F0 m pc ls rest) q := by
  intro T hT X
  have hpl : e.platform.magicAccessors = ({} : Platform).magicAccessors := by rw [X.admits.platform]
  obtain ⟨vm', hW', X', st⟩ := X.outThrough hlocks q (g := F0 m pc ls rest) rfl rfl rfl (cell := ce) (by rw [hT]; exact hcell) (by rw [hv]; rfl)
    (by obtain ⟨k9, h9, -⟩ := Vm.findClass_spec hcl; exact ⟨k9, h9⟩) (fun z hz => by
      rcases hpass z hz with h | ⟨hz0, nm, hl1, hn1⟩
      · exact Or.inl h
      · obtain ⟨c6, hc6, hcl6⟩ := Cond.classLink_spec hown hl1 e.platform hpl
        obtain ⟨a8, b8, h1, h2, h3⟩ := hn1
        cases Option.some.inj (h1.symm.trans hcl)
        cases Option.some.inj (h2.symm.trans hc6)
        exact Or.inr ⟨hz0, _, hcl6, h3⟩)
  obtain ⟨g₀, hfr⟩ := X'.frames_eq
  have hcell9 : ((T.setVm vm').setFrames (.throwing q :: below)).heap[q]? = some ce := by
    show T.heap[q]? = some ce
    rw [hT]; exact hcell
  have hend : Ended ((T.setVm vm').setFrames (.throwing q :: below)) below (.threw q) := State.frames_setFrames _ (State.cur_lt_of_frames hfr)
  refine ⟨(T.setVm vm').setFrames (.throwing q :: below), ?_, .threw q, X'.here.running, hend, Or.inr ⟨q, rfl, E, ce, locs, hx _ hT (X'.ends _).1.alike, hcell9, hv, hcl, (X'.ends _).1, (X'.ends _).2.mono hc hs, hf⟩⟩
  rw [X.pushThrowing_eq]
  exact st
/-- a thing of a world lies in the heap -/
theorem vx_lt {D : va_G} {cl : List vw_C} {ws : va_W} {H1 : Heap} (h : va_P D cl ws H1) {k : Nat} {q : Nat × va_E} (hk : ws[k]? = some q) : q.1 < H1.size := (h k q hk).lt
end VXS
/-! ===== END ===== -/
/-! ===== BEGIN methods with a table of their own: called by a name, returning or throwing ===== -/
section VXH
/-! vx_backW, vx_callVX, vx_callSX, vx_callVW, vx_runVW, vx_runVX, vx_runSX, vx_ofWH follow the same proofs as their sisters above (Free/Laws.lean, Shelf42/LK1.lean); vx_outP calls Shelf42/NT130.lean (outThrough). -/
section
variable {l : Launch} {R : Room} {p : Program} {e : Env} {below : List Frame} {s : State} {sargs : Array Value} {y : MethodName} {len W9 : Nat}
theorem vx_backW {ws : List Cond} {rm : Room} {Pc : Array Value → State → Prop} {Qc : Array Value → State → Outcome → State → Prop} {XC : String → State → State → Prop} {mc ms : Nat} {free : Addr → Prop} {bytes : ByteArray} {maxL : Nat} {ret : Option FieldType} {hh : List (Nat × Nat × Nat × Nat)}
    (hM : vx_Met l y ws rm Pc Qc XC mc ms free) (hblind : FrameBlind Pc) (hrc : rm.cells = mc) (hrs : rm.slots = ms)
    (hframes : rm.frames + 1 ≤ R.frames) (hlocals : W9 + (maxL + 11) + rm.locals ≤ R.locals)
    (hws : ∀ w ∈ ws, ∀ a' U, s.WarmedH U.vm → w.before a' U = true) (hcode : Cond.codeWith y bytes maxL ret hh ∈ ws) (hinit : ∀ a' U, s.WarmedH U.vm → (Cond.initialized y.cls).before a' U = true) :
    vx_Back l R p e below s sargs y len W9 (PreOf R mc ms Pc) (PostOf Qc mc ms free) (vx_Post XC mc ms free) := by
  intro m meth c A g ig mk a X hg hsize hdg hW hn hp
  have h1 : (headSpec ws rm).pre.before a A.U = true := atoms_intro fun w hw => hws w hw _ _ X.warmed
  have h2 : (Cond.codeWith y bytes maxL ret hh).before a A.U = true := hws _ hcode _ _ X.warmed
  have h3 : (Cond.initialized y.cls).before a A.U = true := hinit _ _ X.warmed
  have h4 : A.cells + (headSpec ws rm).room.cells ≤ R.cells := by rw [show (headSpec ws rm).room.cells = mc from hrc]; exact hp.1
  have h5 : A.slots + (headSpec ws rm).room.slots ≤ R.slots := by rw [show (headSpec ws rm).room.slots = ms from hrs]; exact hp.2.1
  have hPc : Pc a (A.U.calling g mk a) := hblind _ _ _ _ hp.2.2
  obtain ⟨U, Ls, c0, s0⟩ := A
  dsimp only [Pt.U, Pt.locs, Pt.cells, Pt.slots] at h1 h2 h3 h4 h5 X hn hPc ⊢
  obtain ⟨m9, methY, cY, hn9, hmY, hcY, -, hlY, -⟩ := Cond.codeWith_spec h2
  cases Option.some.inj (hn9.symm.trans hn)
  obtain ⟨kY, hkY, -⟩ := className_of_methodNamed hn
  have hinitY : kY.init = .initialized := Cond.initialized_spec (findClass_of_methodNamed hn) hkY h3
  have h : At U g.method c below := by rw [hg]; exact X.here
  have hlocals9 : W9 + (maxL + 11) + (headSpec ws rm).room.locals ≤ R.locals := hlocals
  have happ : (headSpec ws rm).appliesLoose y e.platform (U.calling g mk a) = true :=
    Spec.appliesLoose_calling (g := g) h hdg hn hkY hinitY
      (X.room_calling (g := g) (R' := (headSpec ws rm).room) hsize hmY hcY hframes (by rw [hlY]; omega) h4 h5) h1
  obtain ⟨mid, hmid⟩ := h.above
  have hfr : (U.setTop g).frames = (.java g :: mid) ++ below := by rw [State.frames_setTop' g h.top, hmid]; rfl
  obtain ⟨o, s₂, hsteps, -, hend, hq⟩ := Steps.callFree hM p X.admits X.cas X.clock (acts := []) hfr happ hPc trivial
  have hq' : vx_Q Qc XC mc ms free a (U.calling g mk a) o s₂ := hq
  rw [State.frames_setTop' g h.top] at hend
  obtain ⟨g₀, hg0⟩ := Option.isSome_iff_exists.mp h.top
  obtain ⟨r, hr⟩ := State.topJava?_eq_some.mp hg0
  have hr' : (({ U with heap := s₂.heap, slotsUsed := s₂.slotsUsed } : State).setVm s₂.vm).frames = .java g₀ :: r := hr
  rcases hq' with ⟨hqc, L, hfe, hL⟩ | ⟨q, rfl, E, ce, L, hx, hce, hcv, hcl, hW₂, hsm, hL⟩
  · obtain ⟨⟨v, rfl⟩, hW₂, e2, q2, q3, q4, q5, q6⟩ := id hfe
    have e3 : s₂ = ({ (U.calling g mk a).setFrames s₂.frames with heap := s₂.heap, slotsUsed := s₂.slotsUsed } : State).setVm s₂.vm := by
      have : s₂ = ({ s₂ with vm := (U.calling g mk a).vm } : State).setVm s₂.vm := rfl
      rw [e2] at this
      exact this
    obtain ⟨c₂, i₂, len₂, hc₂, hd₂, hf₂⟩ := hend
    have hW' : U.WarmedH s₂.vm := hW₂
    have hcc : c₂ = c := by
      have h1 : s₂.code? g.method = U.code? g.method := by
        rw [State.code?_eq, State.code?_eq, hW'.alike.method?]
      exact Option.some.inj (hc₂.symm.trans (h1.trans h.code))
    subst hcc
    have hlen : len₂ = len := by rw [hdg] at hd₂; cases hd₂; rfl
    subst hlen
    have hs₂ : s₂ = (({ U with heap := s₂.heap, slotsUsed := s₂.slotsUsed } : State).setVm s₂.vm).setTop { g with pc := g.pc + len₂, stack := v.toList ++ g.stack } := by
      refine e3.trans ?_
      rw [hf₂, State.calling_eq h.top, State.setFrames_setFrames, State.setTop_of_frames _ hr', hr]
      rfl
    have hsame : U.sameButNew ({ U with heap := s₂.heap, slotsUsed := s₂.slotsUsed } : State) L mc ms := by
      refine ⟨?_, q2, q3, q4, q5, q6⟩
      obtain ⟨t, ht, -⟩ := State.frames_cons hr
      show ({ U with heap := s₂.heap, slotsUsed := s₂.slotsUsed } : State) = { U.setFrames U.frames with heap := s₂.heap, slotsUsed := s₂.slotsUsed }
      rw [State.setFrames_self ht]
    subst hg
    refine Or.inl ⟨v, ⟨(({ U with heap := s₂.heap, slotsUsed := s₂.slotsUsed } : State).setVm s₂.vm), Ls ++ L, c0 + mc, s0 + ms⟩,
      ⟨X.admits, X.cas, X.clock, X.frames, X.room, X.hears, X.method, X.code, (X.here.setHeapUsed s₂.heap s₂.slotsUsed).setVm hW'.alike, X.tail, State.WarmedH.trans X.warmed hW', X.limits, X.bytes, X.same.trans (hsame.setVm s.vm)⟩,
      ⟨g, mk, s₂, L, rfl, rfl, hqc, rfl, hL, rfl, rfl⟩, ?_⟩
    show Steps p.tables e below _ ((({ U with heap := s₂.heap, slotsUsed := s₂.slotsUsed } : State).setVm s₂.vm).setTop { g with pc := g.pc + len₂, stack := v.toList ++ g.stack })
    rw [← hs₂]
    exact hsteps
  · obtain ⟨e2, q2, q3, q4, q5, q6⟩ := id hsm
    have e3 : s₂ = ({ (U.calling g mk a).setFrames s₂.frames with heap := s₂.heap, slotsUsed := s₂.slotsUsed } : State).setVm s₂.vm := by
      have : s₂ = ({ s₂ with vm := (U.calling g mk a).vm } : State).setVm s₂.vm := rfl
      rw [e2] at this
      exact this
    have hf₂ : s₂.frames = .throwing q :: .java g :: U.frames.tail := hend
    have hW' : U.WarmedH s₂.vm := hW₂
    have hs₂ : s₂ = ((({ U with heap := s₂.heap, slotsUsed := s₂.slotsUsed } : State).setVm s₂.vm).setTop g).pushFrame (.throwing q) := by
      refine e3.trans ?_
      rw [hf₂, State.calling_eq h.top, State.setFrames_setFrames, State.pushFrame, State.frames_setTop _ hr', State.setTop_of_frames _ hr', State.setFrames_setFrames, hr]
      rfl
    have hsame : U.sameButNew ({ U with heap := s₂.heap, slotsUsed := s₂.slotsUsed } : State) L mc ms := by
      refine ⟨?_, q2, q3, q4, q5, q6⟩
      obtain ⟨t, ht, -⟩ := State.frames_cons hr
      show ({ U with heap := s₂.heap, slotsUsed := s₂.slotsUsed } : State) = { U.setFrames U.frames with heap := s₂.heap, slotsUsed := s₂.slotsUsed }
      rw [State.setFrames_self ht]
    subst hg
    refine Or.inr ⟨q, ⟨(({ U with heap := s₂.heap, slotsUsed := s₂.slotsUsed } : State).setVm s₂.vm), Ls ++ L, c0 + mc, s0 + ms⟩,
      ⟨X.admits, X.cas, X.clock, X.frames, X.room, X.hears, X.method, X.code, (X.here.setHeapUsed s₂.heap s₂.slotsUsed).setVm hW'.alike, X.tail, State.WarmedH.trans X.warmed hW', X.limits, X.bytes, X.same.trans (hsame.setVm s.vm)⟩,
      ⟨g, mk, s₂, L, E, ce, rfl, rfl, hx, hce, hcv, hcl, rfl, hL, rfl, rfl⟩, ?_⟩
    show Steps p.tables e below _ (((({ U with heap := s₂.heap, slotsUsed := s₂.slotsUsed } : State).setVm s₂.vm).setTop g).pushFrame (.throwing q))
    rw [← hs₂]
    exact hsteps
end
variable {p : Program} {l : Launch} {e : Env} {R : Room} {s : State} {m : MethodId} {args : Array Value} {below : List Frame} {meth : Method} {c : Code} {T : State} {H : Heap} {locs : List Loc} {cells slots : Nat}
theorem vx_callVX (X : Stand p l e R s m args below meth c T locs cells slots) (hexec : p.tables.exec = Jvm.exec) {own C : String} {index : Nat} {y : MethodName} {bytes : ByteArray} {maxL : Nat} {ret : Option FieldType} {hh : List (Nat × Nat × Nat × Nat)}
    (hown : s.vm.findClass own = some m.cls) (hlink : (Cond.methodLink own index y).before args s = true) (hinst : (Cond.instanceMethod y).before args s = true) (hsel : (Cond.selects C y y).before args s = true)
    (hcode : (Cond.codeWith y bytes maxL ret hh).before args s = true) (hy : y.cls ≠ "java/lang/invoke/MethodHandle" ∧ y.cls ≠ "java/lang/invoke/VarHandle")
    {W9 : Nat} {Pre : Pt → Array Value → Prop} {Post : Pt → Array Value → Option Value → Pt → Prop} {PostX : Pt → Array Value → Addr → Pt → Prop} (hK : vx_Back l R p e below s args y 3 W9 Pre Post PostX)
    {b : Addr} {cellB : Cell} (hcell : T.heap[b]? = some cellB) (hobj : cellB.vm.isStatics = false) (hcls : s.vm.findClass C = some cellB.cls)
    {g : JFrame} (hg : g.method = m) (hsize : g.locals.size = c.maxLocals) {argsL rest : List Value} (hlen : ∀ sig, parseMethodDescriptor y.desc = some sig → argsL.length = sig.parameters.length)
    (hstack : g.stack = argsL.reverse ++ .ref b :: rest) (hW : 2 * g.monitorRoom + (rest.map fun v => v.category).sum ≤ W9) (hdg : decode c.code g.pc = .ok (.invokevirtual index, 3))
    (hpre : ∀ vm₁, s.WarmedH vm₁ → Pre ⟨T.setVm vm₁, locs, cells, slots⟩ (Value.ref b :: argsL).toArray) :
    (∃ (v : Option Value) (vm₁ : Vm) (B : Pt), s.WarmedH vm₁ ∧ Stand p l e R s m args below meth c B.U B.locs B.cells B.slots ∧ Post ⟨T.setVm vm₁, locs, cells, slots⟩ (Value.ref b :: argsL).toArray v B ∧
      ∀ target, Steps p.tables e below (B.U.setTop { g with pc := g.pc + 3, stack := v.toList ++ rest }) target → Steps p.tables e below (T.setTop g) target) ∨
    (∃ (q : Addr) (vm₁ : Vm) (B : Pt), s.WarmedH vm₁ ∧ Stand p l e R s m args below meth c B.U B.locs B.cells B.slots ∧ PostX ⟨T.setVm vm₁, locs, cells, slots⟩ (Value.ref b :: argsL).toArray q B ∧
      Steps p.tables e below (T.setTop g) ((B.U.setTop { g with stack := rest }).pushFrame (.throwing q))) := by
  obtain ⟨mk, methM, hnamed, hmethM, hstM, habM⟩ := Cond.instanceMethod_spec hinst
  obtain ⟨m8, methM', cM, hn8, hmethM', -, -, -, -, -, -, hsigM⟩ := Cond.codeWith_spec hcode
  cases Option.some.inj (hn8.symm.trans hnamed)
  cases hmethM.symm.trans hmethM'
  obtain ⟨c2, r2, m2, q1, q2, q3, q4, kP, hkP, hkPi⟩ := Cond.selects_spec hsel
  cases hcls.symm.trans q1
  cases (State.methodFound?_of_named hnamed hy).symm.trans q2
  cases hnamed.symm.trans q3
  have hselP : selectMethod e.platform s.vm cellB.cls mk = .method mk := by rw [Launch.admits_selectMethod X.admits]; exact q4
  obtain ⟨vm₁, X₁, hstep₁⟩ := X.invokevirtual hexec hown hlink hnamed hmethM hstM hkP hkPi hy (a := b) (cell := cellB) hcell
    (fun z h => by rw [h] at hobj; cases hobj) hselP hmethM habM hkP hkPi (g := g) hg (argsL := argsL) (rest := rest) (hlen _ hsigM) hstack hdg
  rcases hK m meth c ⟨T.setVm vm₁, locs, cells, slots⟩ { g with stack := rest } (.invokevirtual index) mk (Value.ref b :: argsL).toArray X₁ hg hsize hdg hW (X₁.named hnamed) (hpre vm₁ X₁.warmed) with ⟨v, B, X', hpost, hsteps⟩ | ⟨q, B, X', hpost, hsteps⟩
  · exact Or.inl ⟨v, vm₁, B, X₁.warmed, X', hpost, fun target h => hstep₁ _ fun acts => by rw [doInvoke_state]; exact hsteps.trans h⟩
  · exact Or.inr ⟨q, vm₁, B, X₁.warmed, X', hpost, hstep₁ _ fun acts => by rw [doInvoke_state]; exact hsteps⟩
theorem vx_callSX (X : Stand p l e R s m args below meth c T locs cells slots) (hexec : p.tables.exec = Jvm.exec) {own : String} {index : Nat} {y : MethodName} {bytes : ByteArray} {maxL : Nat} {ret : Option FieldType} {hh : List (Nat × Nat × Nat × Nat)}
    (hown : s.vm.findClass own = some m.cls) (hlink : (Cond.methodLink own index y).before args s = true) (hstat : (Cond.static y).before args s = true) (hinit : (Cond.initialized y.cls).before args s = true)
    (hcode : (Cond.codeWith y bytes maxL ret hh).before args s = true) (hy : y.cls ≠ "java/lang/invoke/MethodHandle" ∧ y.cls ≠ "java/lang/invoke/VarHandle")
    {W9 : Nat} {Pre : Pt → Array Value → Prop} {Post : Pt → Array Value → Option Value → Pt → Prop} {PostX : Pt → Array Value → Addr → Pt → Prop} (hK : vx_Back l R p e below s args y 3 W9 Pre Post PostX)
    {g : JFrame} (hg : g.method = m) (hsize : g.locals.size = c.maxLocals) {argsL rest : List Value} (hlen : ∀ sig, parseMethodDescriptor y.desc = some sig → argsL.length = sig.parameters.length)
    (hstack : g.stack = argsL.reverse ++ rest) (hW : 2 * g.monitorRoom + (rest.map fun v => v.category).sum ≤ W9) (hdg : decode c.code g.pc = .ok (.invokestatic index, 3))
    (hpre : ∀ vm₁, s.WarmedH vm₁ → Pre ⟨T.setVm vm₁, locs, cells, slots⟩ argsL.toArray) :
    (∃ (v : Option Value) (vm₁ : Vm) (B : Pt), s.WarmedH vm₁ ∧ Stand p l e R s m args below meth c B.U B.locs B.cells B.slots ∧ Post ⟨T.setVm vm₁, locs, cells, slots⟩ argsL.toArray v B ∧
      ∀ target, Steps p.tables e below (B.U.setTop { g with pc := g.pc + 3, stack := v.toList ++ rest }) target → Steps p.tables e below (T.setTop g) target) ∨
    (∃ (q : Addr) (vm₁ : Vm) (B : Pt), s.WarmedH vm₁ ∧ Stand p l e R s m args below meth c B.U B.locs B.cells B.slots ∧ PostX ⟨T.setVm vm₁, locs, cells, slots⟩ argsL.toArray q B ∧
      Steps p.tables e below (T.setTop g) ((B.U.setTop { g with stack := rest }).pushFrame (.throwing q))) := by
  obtain ⟨mk, methM, cM, hnamed, hmethM, -, -, -, -, -, -, hsigM⟩ := Cond.codeWith_spec hcode
  have hstatic : methM.isStatic = true := Cond.static_spec hnamed hmethM hstat
  obtain ⟨kP, hkP, -⟩ := className_of_methodNamed hnamed
  have hinitP : kP.init = .initialized := Cond.initialized_spec (findClass_of_methodNamed hnamed) hkP hinit
  obtain ⟨vm₁, X₁, hstep₁⟩ := X.invokestatic hexec hown hlink hnamed hmethM hstatic hkP hinitP hy (g := g) hg (argsL := argsL) (rest := rest) (hlen _ hsigM) hstack hdg
  rcases hK m meth c ⟨T.setVm vm₁, locs, cells, slots⟩ { g with stack := rest } (.invokestatic index) mk argsL.toArray X₁ hg hsize hdg hW (X₁.named hnamed) (hpre vm₁ X₁.warmed) with ⟨v, B, X', hpost, hsteps⟩ | ⟨q, B, X', hpost, hsteps⟩
  · exact Or.inl ⟨v, vm₁, B, X₁.warmed, X', hpost, fun target h => hstep₁ _ fun acts => by rw [doInvoke_state]; exact hsteps.trans h⟩
  · exact Or.inr ⟨q, vm₁, B, X₁.warmed, X', hpost, hstep₁ _ fun acts => by rw [doInvoke_state]; exact hsteps⟩
theorem vx_callVW (X : Stand p l e R s m args below meth c T locs cells slots) (hexec : p.tables.exec = Jvm.exec) {own C : String} {index : Nat} {y : MethodName} {bytes : ByteArray} {maxL : Nat} {ret : Option FieldType} {hh : List (Nat × Nat × Nat × Nat)}
    (hown : s.vm.findClass own = some m.cls) (hlink : (Cond.methodLink own index y).before args s = true) (hinst : (Cond.instanceMethod y).before args s = true) (hsel : (Cond.selects C y y).before args s = true)
    (hcode : (Cond.codeWith y bytes maxL ret hh).before args s = true) (hy : y.cls ≠ "java/lang/invoke/MethodHandle" ∧ y.cls ≠ "java/lang/invoke/VarHandle")
    {W9 : Nat} {Pre : Pt → Array Value → Prop} {Post : Pt → Array Value → Option Value → Pt → Prop} (hK : Back l R p e below s args y 3 W9 Pre Post)
    {b : Addr} {cellB : Cell} (hcell : T.heap[b]? = some cellB) (hobj : cellB.vm.isStatics = false) (hcls : s.vm.findClass C = some cellB.cls)
    {g : JFrame} (hg : g.method = m) (hsize : g.locals.size = c.maxLocals) {argsL rest : List Value} (hlen : ∀ sig, parseMethodDescriptor y.desc = some sig → argsL.length = sig.parameters.length)
    (hstack : g.stack = argsL.reverse ++ .ref b :: rest) (hW : 2 * g.monitorRoom + (rest.map fun v => v.category).sum ≤ W9) (hdg : decode c.code g.pc = .ok (.invokevirtual index, 3))
    (hpre : ∀ vm₁, s.WarmedH vm₁ → Pre ⟨T.setVm vm₁, locs, cells, slots⟩ (Value.ref b :: argsL).toArray) :
    ∃ (v : Option Value) (vm₁ : Vm) (B : Pt), s.WarmedH vm₁ ∧ Stand p l e R s m args below meth c B.U B.locs B.cells B.slots ∧ Post ⟨T.setVm vm₁, locs, cells, slots⟩ (Value.ref b :: argsL).toArray v B ∧
      ∀ target, Steps p.tables e below (B.U.setTop { g with pc := g.pc + 3, stack := v.toList ++ rest }) target → Steps p.tables e below (T.setTop g) target := by
  obtain ⟨mk, methM, hnamed, hmethM, hstM, habM⟩ := Cond.instanceMethod_spec hinst
  obtain ⟨m8, methM', cM, hn8, hmethM', -, -, -, -, -, -, hsigM⟩ := Cond.codeWith_spec hcode
  cases Option.some.inj (hn8.symm.trans hnamed)
  cases hmethM.symm.trans hmethM'
  obtain ⟨c2, r2, m2, q1, q2, q3, q4, kP, hkP, hkPi⟩ := Cond.selects_spec hsel
  cases hcls.symm.trans q1
  cases (State.methodFound?_of_named hnamed hy).symm.trans q2
  cases hnamed.symm.trans q3
  have hselP : selectMethod e.platform s.vm cellB.cls mk = .method mk := by rw [Launch.admits_selectMethod X.admits]; exact q4
  obtain ⟨vm₁, X₁, hstep₁⟩ := X.invokevirtual hexec hown hlink hnamed hmethM hstM hkP hkPi hy (a := b) (cell := cellB) hcell
    (fun z h => by rw [h] at hobj; cases hobj) hselP hmethM habM hkP hkPi (g := g) hg (argsL := argsL) (rest := rest) (hlen _ hsigM) hstack hdg
  obtain ⟨v, B, X', hpost, hsteps⟩ := hK m meth c ⟨T.setVm vm₁, locs, cells, slots⟩ { g with stack := rest } (.invokevirtual index) mk (Value.ref b :: argsL).toArray X₁ hg hsize hdg hW (X₁.named hnamed) (hpre vm₁ X₁.warmed)
  exact ⟨v, vm₁, B, X₁.warmed, X', hpost, fun target h => hstep₁ _ fun acts => by rw [doInvoke_state]; exact hsteps.trans h⟩
abbrev vx_CVW (R : Room) (s : State) (args : Array Value) (own C : String) (index : Nat) (y : MethodName) (bytes : ByteArray) (maxL : Nat) (ret : Option FieldType) (hh : List (Nat × Nat × Nat × Nat)) (ws : List Cond) (rm : Room) (mc ms n : Nat) : Prop :=
  (rm.cells = mc ∧ rm.slots = ms ∧ rm.frames + 1 ≤ R.frames ∧ 8 + (maxL + 11) + rm.locals ≤ R.locals ∧ (∀ w ∈ ws, ∀ (a' : Array Value) (U : State), s.WarmedH U.vm → w.before a' U = true) ∧ Cond.codeWith y bytes maxL ret hh ∈ ws) ∧
  (Cond.codeWith y bytes maxL ret hh).before args s = true ∧ (Cond.initialized y.cls).before args s = true ∧ (y.cls ≠ "java/lang/invoke/MethodHandle" ∧ y.cls ≠ "java/lang/invoke/VarHandle") ∧
  (∀ sig, parseMethodDescriptor y.desc = some sig → n = sig.parameters.length) ∧ (Cond.methodLink own index y).before args s = true ∧ (Cond.instanceMethod y).before args s = true ∧ (Cond.selects C y y).before args s = true
theorem vx_cwVW {own C : String} {index maxL mc ms : Nat} {y : MethodName} {bytes : ByteArray} {ret : Option FieldType} {hh : List (Nat × Nat × Nat × Nat)} {Ts ws ws' : List Cond} {rm : Room} (n : Nat) (ht : ∀ w ∈ Ts, w.before args s = true) (hT : GoodIn Ts (wsV own index C y ws)) (hw : ws = Cond.codeWith y bytes maxL ret hh :: ws') (hrc : rm.cells = mc) (hrs : rm.slots = ms)
    (hd : y.cls = C ∧ y.cls ≠ "java/lang/invoke/MethodHandle" ∧ y.cls ≠ "java/lang/invoke/VarHandle" ∧ (parseMethodDescriptor y.desc).map (fun d => d.parameters.length) = some n) (hR : rm.frames + 1 ≤ R.frames ∧ 8 + (maxL + 11) + rm.locals ≤ R.locals) :
    vx_CVW R s args own C index y bytes maxL ret hh ws rm mc ms n := by
  obtain ⟨hC, hd⟩ := hd
  subst hC
  have ok : ∀ w ∈ wsV own index y.cls y ws, w.before args s = true := fun w h => ht w (hT w h).1
  have hG : GoodIn Ts ws := fun w h => hT w (by unfold wsV; exact List.mem_append_right _ h)
  have hc : Cond.codeWith y bytes maxL ret hh ∈ ws := by rw [hw]; exact List.mem_cons_self
  refine ⟨⟨hrc, hrs, hR.1, hR.2, pay_in ht hG, hc⟩, ht _ (hG _ hc).1, ok _ (by simp [wsV]), ⟨hd.1, hd.2.1⟩, fun sig h => ?_, ok _ (by simp [wsV]), ok _ (by simp [wsV]), ok _ (by simp [wsV])⟩
  have h2 := hd.2.2
  rw [h] at h2
  exact (Option.some.inj h2).symm
theorem vx_runVW {y : MethodName} {bytes cc : ByteArray} {maxL nL mc ms n index : Nat} {ret : Option FieldType} {hh : List (Nat × Nat × Nat × Nat)} {ws : List Cond} {rm : Room} {Pc : Array Value → State → Prop} {Qc : Array Value → State → Outcome → State → Prop} {free : Addr → Prop} {Ts : List Cond} {own C : String} {b : Addr} {As rest : List Value} {g : JFrame}
    (S : CallFix p m c cc nL s args Ts own) (hM : Met l y ws rm Pc Qc mc ms free) (cw : vx_CVW R s args own C index y bytes maxL ret hh ws rm mc ms n) (hp : PreV s H C b Pc As)
    (hg : g.method = m) (hn : As.length = n) (hsize : g.locals.size = nL) (hstack : g.stack = As.reverse ++ .ref b :: rest) (hW : 2 * g.monitorRoom + (rest.map fun v => v.category).sum ≤ 8) (hdg : decode cc g.pc = .ok (.invokevirtual index, 3)) (hf : cells + mc ≤ R.cells ∧ slots + ms ≤ R.slots) :
    va_Run p l e R s m args below meth c H locs cells slots mc ms g rest (Qc (Value.ref b :: As).toArray) free := by
  obtain ⟨⟨hrc, hrs, hfr, hlo, hws, hcw⟩, hcode, hini, hy, hlen, hl, hin, hse⟩ := cw
  have hK : Back l R p e below s args y 3 8 (PreOf R mc ms Pc) (PostOf Qc mc ms free) := va_backW (hh := hh) (bytes := bytes) (maxL := maxL) (ret := ret) hM hp.1 hrc hrs hfr hlo hws hcw (fun a' U hW => word_at hW (Or.inl (by first | rfl | simp [Cond.onTables, Cond.keeps, Cond.steady])) hini)
  obtain ⟨hx, hb, hml, ho, -⟩ := S
  obtain ⟨-, ⟨cellB, hcB, hoB, hclB⟩, hPc⟩ := hp
  intro T hT X
  obtain ⟨v, vm₁, ⟨U', l2, c2, s2⟩, hW₁, X', ⟨g', mk, t, L, e1, e2, hq, h1, hL, h2, h3⟩, st⟩ := vx_callVW X hx (C := C) (hh := hh) (bytes := bytes) (maxL := maxL) (ret := ret) ho hl hin hse hcode hy hK (by rw [hT]; exact hcB) hoB hclB hg (hsize.trans hml.symm) (argsL := As) (rest := rest) (fun sig h => hn.trans (hlen sig h)) hstack hW (by rw [hb]; exact hdg)
    (fun vm₁ hW₁ => ⟨hf.1, hf.2, hPc (T.setVm vm₁) hT hW₁⟩)
  dsimp only [Pt.U, Pt.locs, Pt.cells, Pt.slots] at X' e1 e2 h1 h2 h3 st
  subst h1; subst h2; subst h3
  exact ⟨v, (T.setVm vm₁).calling g' mk (Value.ref b :: As).toArray, t, U', L, hT, X', hL, e1, e2, hq, st⟩
section
variable {y : MethodName} {bytes cc : ByteArray} {maxL nL mc ms n index : Nat} {ret : Option FieldType} {ws : List Cond} {rm : Room} {Pc : Array Value → State → Prop} {Qc : Array Value → State → Outcome → State → Prop} {XC : String → State → State → Prop} {free : Addr → Prop} {Ts : List Cond} {own C : String} {b : Addr} {As rest : List Value} {g : JFrame}
theorem vx_runVX {hh : List (Nat × Nat × Nat × Nat)} (S : CallFix p m c cc nL s args Ts own) (hM : vx_Met l y ws rm Pc Qc XC mc ms free) (cw : vx_CVW R s args own C index y bytes maxL ret hh ws rm mc ms n) (hp : PreV s H C b Pc As)
    (hg : g.method = m) (hn : As.length = n) (hsize : g.locals.size = nL) (hstack : g.stack = As.reverse ++ .ref b :: rest) (hW : 2 * g.monitorRoom + (rest.map fun v => v.category).sum ≤ 8) (hdg : decode cc g.pc = .ok (.invokevirtual index, 3)) (hf : cells + mc ≤ R.cells ∧ slots + ms ≤ R.slots) :
    vx_Run p l e R s m args below meth c H locs cells slots mc ms g rest (Qc (Value.ref b :: As).toArray) XC free := by
  obtain ⟨⟨hrc, hrs, hfr, hlo, hws, hcw⟩, hcode, hini, hy, hlen, hl, hin, hse⟩ := cw
  have hK : vx_Back l R p e below s args y 3 8 (PreOf R mc ms Pc) (PostOf Qc mc ms free) (vx_Post XC mc ms free) := vx_backW (hh := hh) (bytes := bytes) (maxL := maxL) (ret := ret) hM hp.1 hrc hrs hfr hlo hws hcw (fun a' U hW => word_at hW (Or.inl (by first | rfl | simp [Cond.onTables, Cond.keeps, Cond.steady])) hini)
  obtain ⟨hx, hb, hml, ho, -⟩ := S
  obtain ⟨-, ⟨cellB, hcB, hoB, hclB⟩, hPc⟩ := hp
  intro T hT X
  rcases vx_callVX X hx (C := C) (hh := hh) (bytes := bytes) (maxL := maxL) (ret := ret) ho hl hin hse hcode hy hK (by rw [hT]; exact hcB) hoB hclB hg (hsize.trans hml.symm) (argsL := As) (rest := rest) (fun sig h => hn.trans (hlen sig h)) hstack hW (by rw [hb]; exact hdg)
    (fun vm₁ hW₁ => ⟨hf.1, hf.2, hPc (T.setVm vm₁) hT hW₁⟩) with ⟨v, vm₁, ⟨U', l2, c2, s2⟩, hW₁, X', ⟨g', mk, t, L, e1, e2, hq, h1, hL, h2, h3⟩, st⟩ | ⟨q, vm₁, ⟨U', l2, c2, s2⟩, hW₁, X', ⟨g', mk, t, L, E, ce, e1, e2, hq, hce, hcv, hcl, h1, hL, h2, h3⟩, st⟩
  · dsimp only [Pt.U, Pt.locs, Pt.cells, Pt.slots] at X' e1 e2 h1 h2 h3 st
    subst h1; subst h2; subst h3
    exact Or.inl ⟨v, (T.setVm vm₁).calling g' mk (Value.ref b :: As).toArray, t, U', L, hT, X', hL, e1, e2, hq, st⟩
  · dsimp only [Pt.U, Pt.locs, Pt.cells, Pt.slots] at X' e1 e2 h1 h2 h3 st hcl
    subst h1; subst h2; subst h3
    exact Or.inr ⟨q, (T.setVm vm₁).calling g' mk (Value.ref b :: As).toArray, t, U', L, E, ce, hT, X', hL, e1, e2, hq, hce, hcv, vx_cls hW₁ hcl, st⟩
theorem vx_runSX {hh : List (Nat × Nat × Nat × Nat)} (S : CallFix p m c cc nL s args Ts own) (hM : vx_Met l y ws rm Pc Qc XC mc ms free) (cw : vx_CSW R s args own index y bytes maxL ret hh ws rm mc ms n) (hp : PreS s H Pc As)
    (hg : g.method = m) (hn : As.length = n) (hsize : g.locals.size = nL) (hstack : g.stack = As.reverse ++ rest) (hW : 2 * g.monitorRoom + (rest.map fun v => v.category).sum ≤ 8) (hdg : decode cc g.pc = .ok (.invokestatic index, 3)) (hf : cells + mc ≤ R.cells ∧ slots + ms ≤ R.slots) :
    vx_Run p l e R s m args below meth c H locs cells slots mc ms g rest (Qc As.toArray) XC free := by
  obtain ⟨⟨hrc, hrs, hfr, hlo, hws, hcw⟩, hcode, hini, hy, hlen, hl, hstt⟩ := cw
  have hK : vx_Back l R p e below s args y 3 8 (PreOf R mc ms Pc) (PostOf Qc mc ms free) (vx_Post XC mc ms free) := vx_backW (hh := hh) (bytes := bytes) (maxL := maxL) (ret := ret) hM hp.1 hrc hrs hfr hlo hws hcw (fun a' U hW => word_at hW (Or.inl (by first | rfl | simp [Cond.onTables, Cond.keeps, Cond.steady])) hini)
  obtain ⟨hx, hb, hml, ho, -⟩ := S
  intro T hT X
  rcases vx_callSX X hx (hh := hh) (bytes := bytes) (maxL := maxL) (ret := ret) ho hl hstt hini hcode hy hK hg (hsize.trans hml.symm) (argsL := As) (rest := rest) (fun sig h => hn.trans (hlen sig h)) hstack hW (by rw [hb]; exact hdg)
    (fun vm₁ hW₁ => ⟨hf.1, hf.2, hp.2 (T.setVm vm₁) hT hW₁⟩) with ⟨v, vm₁, ⟨U', l2, c2, s2⟩, hW₁, X', ⟨g', mk, t, L, e1, e2, hq, h1, hL, h2, h3⟩, st⟩ | ⟨q, vm₁, ⟨U', l2, c2, s2⟩, hW₁, X', ⟨g', mk, t, L, E, ce, e1, e2, hq, hce, hcv, hcl, h1, hL, h2, h3⟩, st⟩
  · dsimp only [Pt.U, Pt.locs, Pt.cells, Pt.slots] at X' e1 e2 h1 h2 h3 st
    subst h1; subst h2; subst h3
    exact Or.inl ⟨v, (T.setVm vm₁).calling g' mk As.toArray, t, U', L, hT, X', hL, e1, e2, hq, st⟩
  · dsimp only [Pt.U, Pt.locs, Pt.cells, Pt.slots] at X' e1 e2 h1 h2 h3 st hcl
    subst h1; subst h2; subst h3
    exact Or.inr ⟨q, (T.setVm vm₁).calling g' mk As.toArray, t, U', L, E, ce, hT, X', hL, e1, e2, hq, hce, hcv, vx_cls hW₁ hcl, st⟩
end
end VXH
theorem vx_ofWH {l : Launch} {y : MethodName} {ws ws' : List Cond} {rm : Room} {Pc : Array Value → State → Prop} {Qc : Array Value → State → Outcome → State → Prop} {XC : String → State → State → Prop} {mc ms : Nat} {free : Addr → Prop} {cc : ByteArray} {maxL : Nat} {ret : Option FieldType} {hh : List (Nat × Nat × Nat × Nat)}
    (hy : plainName y.cls = true) (hw : ws = Cond.codeWith y cc maxL ret hh :: ws')
    (body : ∀ p e s m args below meth c s₁, BodyLoose p l y (headSpec ws rm) cc maxL ret e s m args below meth c s₁ → c.maxLocals = maxL → Pc args s →
      W p l e (headSpec ws rm).room s m args below meth c s.heap [] 0 0 (vx_MQ below Qc XC args s mc ms free) (entryFrame m args maxL)) : vx_Met l y ws rm Pc Qc XC mc ms free := by
  refine MetFree.of_bodyS (code := cc) (maxLocals := maxL) (ret := ret) hy ?_ ?_
  · intro args s m h hn
    obtain ⟨m9, meth, c, hn9, h1, h2, h3, h4, -, h5, h6, -⟩ := Cond.codeWith_spec (atoms_spec (ws := ws) h _ (by rw [hw]; exact List.mem_cons_self))
    cases hn.symm.trans hn9
    exact ⟨meth, c, h1, h2, h3, h4, h5, h6⟩
  · intro p e s m args below meth c s₁ B hml hP _
    have hh0 : s₁.heap = s.heap := by rw [B.state]; rfl
    obtain ⟨t, a1, o, b1, b2, b3⟩ := body p e s m args below meth c s₁ B hml hP s₁ hh0 (Stand.of_body B)
    exact ⟨t, o, a1, b1, b2, b3⟩
/-! ===== END ===== -/

def RX0 : String := "SlidingHeap"
def TX0 : u_T := fun k => match k with
  | 0 => ("SlidingHeap", "words", "[I", true)
  | 1 => ("SlidingHeap", "kinds", "[I", true)
  | 2 => ("SlidingHeap", "top", "I", false)
  | 3 => ("SlidingHeap", "starts", "[I", true)
  | 4 => ("SlidingHeap", "slotCounts", "[I", true)
  | 5 => ("SlidingHeap", "ages", "[I", true)
  | 6 => ("SlidingHeap", "rited", "[Z", true)
  | 7 => ("SlidingHeap", "order", "[I", true)
  | 8 => ("SlidingHeap", "objectCount", "I", false)
  | 9 => ("SlidingHeap", "roots", "[I", true)
  | 10 => ("SlidingHeap", "rootCount", "I", false)
  | 11 => ("SlidingHeap", "queue", "[I", true)
  | 12 => ("SlidingHeap", "queueCount", "I", false)
  | 13 => ("SlidingHeap", "collections", "I", false)
  | 14 => ("SlidingHeap", "marked", "[Z", true)
  | 15 => ("SlidingHeap", "found", "[I", true)
  | 16 => ("SlidingHeap", "foundCount", "I", false)
  | _ => ("SlidingHeap", "distances", "[I", true)
def tyX0 : Nat → FieldType := fun k => match k with
  | 0 => .array .int
  | 1 => .array .int
  | 2 => .int
  | 3 => .array .int
  | 4 => .array .int
  | 5 => .array .int
  | 6 => .array .boolean
  | 7 => .array .int
  | 8 => .int
  | 9 => .array .int
  | 10 => .int
  | 11 => .array .int
  | 12 => .int
  | 13 => .int
  | 14 => .array .boolean
  | 15 => .array .int
  | 16 => .int
  | _ => .array .int
abbrev wsX00 : List Cond := u_ws RX0 TX0 18
theorem nmX0 : ∀ a, a < 18 → ∀ b, b < 18 → a ≠ b → (TX0 a).2.1 ≠ (TX0 b).2.1 := by decide +kernel
theorem tyX0_ok : ∀ k, k < 18 → parseFieldDescriptor (TX0 k).2.2.1 = some (tyX0 k) := by decide +kernel
end
section
/-! tables of the abstract machine, printed by a program of mine (wip/whole/gen.py) out of the listing of the bytecode -/
abbrev En : Type := Nat × Int × Nat × List Int
def am_TM : u_T := fun k => match k with
  | 0 => ("SlidingHeapModel", "fault", "I", false)
  | 1 => ("SlidingHeapModel", "objects", "I", false)
  | 2 => ("SlidingHeapModel", "order", "[I", true)
  | 3 => ("SlidingHeapModel", "is", "[Z", true)
  | 4 => ("SlidingHeapModel", "slots", "[I", true)
  | 5 => ("SlidingHeapModel", "age", "[I", true)
  | 6 => ("SlidingHeapModel", "rites", "[Z", true)
  | 7 => ("SlidingHeapModel", "value", "[I", true)
  | 8 => ("SlidingHeapModel", "kind", "[I", true)
  | 9 => ("SlidingHeapModel", "roots", "I", false)
  | 10 => ("SlidingHeapModel", "root", "[I", true)
  | 11 => ("SlidingHeapModel", "queued", "I", false)
  | 12 => ("SlidingHeapModel", "queue", "[I", true)
  | 13 => ("SlidingHeapModel", "collections", "I", false)
  | 14 => ("SlidingHeapModel", "live", "[Z", true)
  | 15 => ("SlidingHeapModel", "saved", "[Z", true)
  | _ => ("SlidingHeapModel", "left", "[I", true)
def am_YM : Nat → FieldType := fun k => match k with
  | 0 => .int
  | 1 => .int
  | 2 => .array .int
  | 3 => .array .boolean
  | 4 => .array .int
  | 5 => .array .int
  | 6 => .array .boolean
  | 7 => .array .int
  | 8 => .array .int
  | 9 => .int
  | 10 => .array .int
  | 11 => .int
  | 12 => .array .int
  | 13 => .int
  | 14 => .array .boolean
  | 15 => .array .boolean
  | _ => .array .int
def am_law : Nat := 101
def am_cC (o : Nat) : String := if o = 0 then "SlidingHeap" else if o = 1 then "SlidingHeapModel" else if o = 2 then "SlidingHeapLaw" else "java/util/Arrays"
def am_cT (o : Nat) : u_T := if o = 0 then TX0 else am_TM
def am_cY (o : Nat) : Nat → FieldType := if o = 0 then tyX0 else am_YM
def am_nf (o : Nat) : Nat := if o = 0 then 18 else if o = 1 then 17 else 0
def am_fl (o k : Nat) : Nat := if o = 0 then ([2, 3, 30, 4, 5, 6, 7, 8, 31, 9, 32, 10, 33, 34, 11, 12, 35, 13] : List Nat).getD k 99 else if o = 1 then ([40, 41, 14, 15, 16, 17, 18, 19, 20, 42, 21, 43, 22, 44, 23, 24, 25] : List Nat).getD k 99 else 99
abbrev am_cl : List vw_C := [("SlidingHeap", TX0, 18), ("SlidingHeapModel", am_TM, 17)]
def am_lns : List Int := [0, 0, 90, 90, 15, 15, 15, 15, 14, 10, 14, 15, 14, 15, 15, 15, 15, 15, 15, 150, 150, 10, 15, 15, 15, 15, 1]
def am_ln (j : Nat) : Int := am_lns.getD j 0
def am_ats : List Nat := [3, 3, 0, 0, 0, 0, 0, 1, 0, 0, 0, 1, 0, 0, 0, 1, 0, 0, 1, 0, 0, 0, 0, 1, 1, 0, 2]
def am_at (j : Nat) : Nat := am_ats.getD j 3
def am_en (i : Nat) : String := if i = 0 then "java/lang/IllegalArgumentException" else if i = 1 then "java/lang/IllegalStateException" else if i = 2 then "java/lang/UnsupportedOperationException" else "java/lang/IndexOutOfBoundsException"
def am_sup : List String := ["java/lang/RuntimeException", "java/lang/Exception"]
def am_obs : List Nat := [0, 0, 0, 0, 0, 0, 0, 0, 0, 0, 0, 0, 0, 0, 0, 0, 0, 0, 0, 0, 0, 0, 0, 0, 0, 0, 0, 0, 0, 0, 0, 0, 0, 0, 0, 0, 0, 0, 0, 0, 0, 0, 0, 0, 0, 0, 0, 0, 1, 1, 1, 1, 1, 1, 1, 1, 1, 1, 1, 1, 1, 1, 1, 1, 1, 1, 1, 1, 1, 1, 1, 1, 1, 1, 1, 1, 1, 1, 1, 1, 1, 1, 1, 1, 1, 1, 1, 3, 2, 2, 2, 2, 2, 2, 2, 2, 2, 2, 2, 2, 2, 2]
def am_ob (mid : Nat) : Nat := am_obs.getD mid 9
def am_nls : List Nat := [3, 4, 5, 3, 3, 2, 1, 2, 3, 2, 2, 2, 2, 3, 3, 5, 2, 2, 2, 3, 2, 2, 2, 2, 6, 3, 2, 3, 2, 2, 3, 2, 2, 2, 4, 3, 4, 2, 5, 6, 4, 3, 4, 5, 4, 3, 3, 4, 1, 2, 2, 3, 4, 5, 5, 2, 4, 3, 4, 2, 5, 1, 3, 2, 2, 5, 4, 5, 3, 3, 2, 2, 2, 3, 3, 2, 8, 5, 6, 3, 2, 6, 5, 3, 7, 2, 2, 4, 4, 5, 6, 5, 5, 4, 4, 3, 4, 5, 4, 5, 4, 7]
def am_nl (mid : Nat) : Nat := am_nls.getD mid 0
def am_nas : List Nat := [2, 4, 5, 3, 3, 2, 1, 2, 3, 1, 2, 1, 2, 3, 2, 3, 2, 1, 2, 3, 2, 2, 2, 2, 5, 3, 1, 3, 2, 2, 1, 1, 1, 2, 1, 1, 1, 1, 1, 3, 3, 1, 2, 2, 3, 1, 3, 2, 1, 2, 2, 3, 2, 3, 1, 1, 2, 1, 2, 1, 1, 1, 1, 2, 2, 2, 4, 5, 3, 3, 2, 1, 2, 3, 1, 2, 2, 2, 2, 3, 2, 2, 2, 2, 3, 2, 1, 2, 3, 4, 5, 4, 4, 3, 3, 2, 3, 4, 3, 4, 3, 1]
def am_na (mid : Nat) : Nat := am_nas.getD mid 0
def am_frs : List Nat := [6, 8, 8, 8, 8, 7, 0, 0, 7, 6, 0, 4, 6, 7, 7, 7, 6, 1, 6, 7, 0, 0, 0, 1, 1, 0, 0, 1, 0, 0, 0, 3, 4, 1, 2, 1, 2, 0, 2, 1, 0, 1, 0, 3, 2, 2, 1, 2, 0, 0, 0, 1, 0, 0, 1, 2, 0, 0, 0, 2, 3, 4, 0, 1, 3, 4, 2, 2, 2, 2, 1, 0, 0, 1, 1, 0, 1, 0, 0, 4, 3, 1, 2, 3, 3, 3, 0, 0, 7, 9, 9, 9, 9, 8, 8, 7, 7, 8, 8, 8, 7, 10]
def am_fr (mid : Nat) : Nat := am_frs.getD mid 0
def am_los : List Nat := [107, 124, 124, 124, 124, 102, 0, 0, 102, 81, 0, 86, 81, 102, 102, 102, 86, 23, 81, 102, 0, 0, 0, 21, 21, 0, 0, 21, 0, 0, 0, 65, 86, 21, 42, 21, 42, 0, 46, 21, 0, 21, 0, 65, 42, 43, 21, 42, 0, 0, 0, 21, 0, 0, 24, 48, 0, 0, 0, 48, 69, 93, 0, 23, 69, 93, 43, 43, 43, 43, 21, 0, 0, 21, 21, 0, 21, 0, 0, 90, 69, 24, 49, 73, 73, 69, 0, 0, 129, 147, 148, 146, 146, 123, 124, 102, 102, 124, 124, 126, 107, 173]
def am_lo (mid : Nat) : Nat := am_los.getD mid 0
def am_rts : List (Option FieldType) := [some .int, none, none, some .int, some .int, some .int, some .int, some .int, none, some .int, some .int, some .int, some .int, some .int, some .int, some .int, some .int, none, none, none, some .boolean, some .int, some .int, some .int, none, some .boolean, some .int, none, none, none, some .int, none, none, none, none, some .int, none, none, none, none, none, none, some .int, none, some .boolean, some .int, some .int, some .int, some .int, some .boolean, some .boolean, some .boolean, some .boolean, some .boolean, none, none, some .int, some .int, none, none, some .int, some .int, some .int, some .boolean, some .boolean, some .int, none, none, some .int, some .int, some .int, some .int, some .int, none, some .int, some .int, some .int, some .int, some .int, some .int, some .boolean, none, some .int, some .int, some .int, some .int, none, none, some .int, some .int, some .int, some .int, some .int, some .int, some .int, some .int, some .int, some .int, some .int, some .int, some .int, some .boolean]
def am_rt (mid : Nat) : Option FieldType := am_rts.getD mid none
def am_tbs : List (List (Nat × Nat × Nat × Nat)) := [[], [], [], [], [], [], [], [], [], [], [], [], [], [], [], [], [], [], [], [], [], [], [], [], [], [], [], [], [], [], [], [], [], [], [], [], [], [], [], [], [], [], [], [], [], [], [], [], [], [], [], [], [], [], [], [], [], [], [], [], [], [], [], [], [], [], [], [], [], [], [], [], [], [], [], [], [], [], [], [], [], [], [], [], [], [], [], [], [(0, 9, 12, 13), (0, 9, 15, 15), (0, 9, 18, 17)], [(0, 7, 10, 23)], [(0, 9, 12, 23), (0, 9, 16, 13)], [(0, 10, 13, 23)], [(0, 10, 13, 23)], [(0, 9, 12, 23), (0, 9, 15, 15)], [(0, 6, 9, 23)], [(0, 8, 11, 15)], [(0, 9, 12, 23)], [(0, 10, 13, 23), (0, 10, 17, 13)], [(0, 9, 12, 23)], [(0, 10, 13, 23)], [(0, 9, 12, 13)], []]
def am_tb (mid : Nat) : List (Nat × Nat × Nat × Nat) := am_tbs.getD mid []
/-- the exception that a row of a table names -/
def am_ce (ct : Nat) : Nat := if ct = 13 then 0 else if ct = 15 then 1 else if ct = 17 then 2 else if ct = 23 then 3 else 9
def am_cts : List Nat := [13, 15, 17, 23]
def am_ys : List MethodName := [⟨"SlidingHeap", "alloc", "(I)I"⟩, ⟨"SlidingHeap", "number", "(III)V"⟩, ⟨"SlidingHeap", "refer", "(IIIZ)V"⟩, ⟨"SlidingHeap", "get", "(II)I"⟩, ⟨"SlidingHeap", "kind", "(II)I"⟩, ⟨"SlidingHeap", "push", "(I)I"⟩, ⟨"SlidingHeap", "pop", "()I"⟩, ⟨"SlidingHeap", "root", "(I)I"⟩, ⟨"SlidingHeap", "rites", "(IZ)V"⟩, ⟨"SlidingHeap", "take", "()I"⟩, ⟨"SlidingHeap", "queued", "(I)I"⟩, ⟨"SlidingHeap", "collect", "()I"⟩, ⟨"SlidingHeap", "word", "(I)I"⟩, ⟨"SlidingHeap", "about", "(II)I"⟩, ⟨"SlidingHeap", "far", "(I)I"⟩, ⟨"SlidingHeap", "way", "(II)I"⟩, ⟨"SlidingHeap", "count", "(I)I"⟩, ⟨"SlidingHeap", "clear", "()V"⟩, ⟨"SlidingHeap", "requireObject", "(I)V"⟩, ⟨"SlidingHeap", "requireSlot", "(II)V"⟩, ⟨"SlidingHeap", "isObject", "(I)Z"⟩, ⟨"SlidingHeap", "firstSlot", "(I)I"⟩, ⟨"SlidingHeap", "sizeOf", "(I)I"⟩, ⟨"SlidingHeap", "endOf", "(I)I"⟩, ⟨"SlidingHeap", "setSlot", "(IIII)V"⟩, ⟨"SlidingHeap", "fits", "(III)Z"⟩, ⟨"SlidingHeap", "leastFreeHandle", "()I"⟩, ⟨"SlidingHeap", "place", "(II)V"⟩, ⟨"SlidingHeap", "release", "(I)V"⟩, ⟨"SlidingHeap", "addRoot", "(I)V"⟩, ⟨"SlidingHeap", "removeFirstQueued", "()I"⟩, ⟨"SlidingHeap", "markLive", "()V"⟩, ⟨"SlidingHeap", "markSurvivors", "()V"⟩, ⟨"SlidingHeap", "mark", "(I)V"⟩, ⟨"SlidingHeap", "spreadMarks", "()V"⟩, ⟨"SlidingHeap", "markedWords", "()I"⟩, ⟨"SlidingHeap", "cutWeakSlots", "()V"⟩, ⟨"SlidingHeap", "queueLost", "()V"⟩, ⟨"SlidingHeap", "slideDown", "()V"⟩, ⟨"SlidingHeap", "move", "(II)V"⟩, ⟨"SlidingHeap", "wipe", "(II)V"⟩, ⟨"SlidingHeap", "growOlder", "()V"⟩, ⟨"SlidingHeap", "slotsThatShow", "(I)I"⟩, ⟨"SlidingHeap", "measureTo", "(I)V"⟩, ⟨"SlidingHeap", "refersToDistance", "(II)Z"⟩, ⟨"SlidingHeap", "nearestStart", "()I"⟩, ⟨"SlidingHeap", "nearer", "(II)I"⟩, ⟨"SlidingHeap", "nextOnWay", "(I)I"⟩, ⟨"SlidingHeapModel", "thrown", "()I"⟩, ⟨"SlidingHeapModel", "refused", "(I)Z"⟩, ⟨"SlidingHeapModel", "isObject", "(I)Z"⟩, ⟨"SlidingHeapModel", "isSlot", "(II)Z"⟩, ⟨"SlidingHeapModel", "isSource", "(I)Z"⟩, ⟨"SlidingHeapModel", "refers", "(II)Z"⟩, ⟨"SlidingHeapModel", "spread", "()V"⟩, ⟨"SlidingHeapModel", "findLive", "()V"⟩, ⟨"SlidingHeapModel", "wordsOf", "(Z)I"⟩, ⟨"SlidingHeapModel", "countLive", "()I"⟩, ⟨"SlidingHeapModel", "weaken", "(I)V"⟩, ⟨"SlidingHeapModel", "save", "()V"⟩, ⟨"SlidingHeapModel", "collectAll", "()I"⟩, ⟨"SlidingHeapModel", "collect", "()I"⟩, ⟨"SlidingHeapModel", "freeHandle", "()I"⟩, ⟨"SlidingHeapModel", "isRoom", "(I)Z"⟩, ⟨"SlidingHeapModel", "wouldBeRoom", "(I)Z"⟩, ⟨"SlidingHeapModel", "alloc", "(I)I"⟩, ⟨"SlidingHeapModel", "number", "(III)V"⟩, ⟨"SlidingHeapModel", "refer", "(IIIZ)V"⟩, ⟨"SlidingHeapModel", "get", "(II)I"⟩, ⟨"SlidingHeapModel", "kind", "(II)I"⟩, ⟨"SlidingHeapModel", "push", "(I)I"⟩, ⟨"SlidingHeapModel", "pop", "()I"⟩, ⟨"SlidingHeapModel", "root", "(I)I"⟩, ⟨"SlidingHeapModel", "rites", "(IZ)V"⟩, ⟨"SlidingHeapModel", "take", "()I"⟩, ⟨"SlidingHeapModel", "queued", "(I)I"⟩, ⟨"SlidingHeapModel", "word", "(I)I"⟩, ⟨"SlidingHeapModel", "placeOf", "(I)I"⟩, ⟨"SlidingHeapModel", "heldBy", "(I)I"⟩, ⟨"SlidingHeapModel", "about", "(II)I"⟩, ⟨"SlidingHeapModel", "isLive", "(I)Z"⟩, ⟨"SlidingHeapModel", "findLeft", "(I)V"⟩, ⟨"SlidingHeapModel", "firstOf", "(I)I"⟩, ⟨"SlidingHeapModel", "far", "(I)I"⟩, ⟨"SlidingHeapModel", "way", "(II)I"⟩, ⟨"SlidingHeapModel", "count", "(I)I"⟩, ⟨"SlidingHeapModel", "clear", "()V"⟩, ⟨"java/util/Arrays", "fill", "([II)V"⟩, ⟨"SlidingHeapLaw", "alloc", "(LSlidingHeap;I[J)I"⟩, ⟨"SlidingHeapLaw", "number", "(LSlidingHeap;III)I"⟩, ⟨"SlidingHeapLaw", "refer", "(LSlidingHeap;IIIZ)I"⟩, ⟨"SlidingHeapLaw", "get", "(LSlidingHeap;II[J)I"⟩, ⟨"SlidingHeapLaw", "kind", "(LSlidingHeap;II[J)I"⟩, ⟨"SlidingHeapLaw", "push", "(LSlidingHeap;I[J)I"⟩, ⟨"SlidingHeapLaw", "rites", "(LSlidingHeap;IZ)I"⟩, ⟨"SlidingHeapLaw", "take", "(LSlidingHeap;[J)I"⟩, ⟨"SlidingHeapLaw", "word", "(LSlidingHeap;I[J)I"⟩, ⟨"SlidingHeapLaw", "about", "(LSlidingHeap;II[J)I"⟩, ⟨"SlidingHeapLaw", "far", "(LSlidingHeap;I[J)I"⟩, ⟨"SlidingHeapLaw", "way", "(LSlidingHeap;II[J)I"⟩, ⟨"SlidingHeapLaw", "count", "(LSlidingHeap;I[J)I"⟩, ⟨"SlidingHeapLaw", "law", "([I)Z"⟩]
def am_y (mid : Nat) : MethodName := am_ys.getD mid ⟨"", "", ""⟩
def am_ccs : List ByteArray := [prog_1_method_2_code, prog_1_method_3_code, prog_1_method_4_code, prog_1_method_5_code, prog_1_method_6_code, prog_1_method_7_code, prog_1_method_8_code, prog_1_method_9_code, prog_1_method_10_code, prog_1_method_11_code, prog_1_method_12_code, prog_1_method_13_code, prog_1_method_14_code, prog_1_method_15_code, prog_1_method_16_code, prog_1_method_17_code, prog_1_method_18_code, prog_1_method_19_code, prog_1_method_20_code, prog_1_method_21_code, prog_1_method_22_code, prog_1_method_23_code, prog_1_method_24_code, prog_1_method_25_code, prog_1_method_26_code, prog_1_method_27_code, prog_1_method_28_code, prog_1_method_29_code, prog_1_method_30_code, prog_1_method_31_code, prog_1_method_32_code, prog_1_method_33_code, prog_1_method_34_code, prog_1_method_35_code, prog_1_method_36_code, prog_1_method_37_code, prog_1_method_38_code, prog_1_method_39_code, prog_1_method_40_code, prog_1_method_41_code, prog_1_method_42_code, prog_1_method_43_code, prog_1_method_44_code, prog_1_method_45_code, prog_1_method_46_code, prog_1_method_47_code, prog_1_method_48_code, prog_1_method_49_code, prog_3_method_2_code, prog_3_method_3_code, prog_3_method_4_code, prog_3_method_5_code, prog_3_method_6_code, prog_3_method_7_code, prog_3_method_8_code, prog_3_method_9_code, prog_3_method_10_code, prog_3_method_11_code, prog_3_method_12_code, prog_3_method_13_code, prog_3_method_14_code, prog_3_method_15_code, prog_3_method_16_code, prog_3_method_17_code, prog_3_method_18_code, prog_3_method_19_code, prog_3_method_20_code, prog_3_method_21_code, prog_3_method_22_code, prog_3_method_23_code, prog_3_method_24_code, prog_3_method_25_code, prog_3_method_26_code, prog_3_method_27_code, prog_3_method_28_code, prog_3_method_29_code, prog_3_method_30_code, prog_3_method_31_code, prog_3_method_32_code, prog_3_method_33_code, prog_3_method_34_code, prog_3_method_35_code, prog_3_method_36_code, prog_3_method_37_code, prog_3_method_38_code, prog_3_method_39_code, prog_3_method_40_code, prog_12_method_103_code, method_3_code, method_4_code, method_5_code, method_6_code, method_7_code, method_8_code, method_9_code, method_10_code, method_11_code, method_12_code, method_13_code, method_14_code, method_15_code, code]
def am_cc (mid : Nat) : ByteArray := am_ccs.getD mid ByteArray.empty
def am_flk (o : Nat) : List (Nat × Nat) := if o = 0 then [(9, 0), (13, 1), (16, 3), (19, 4), (22, 5), (25, 6), (29, 7), (32, 9), (35, 11), (38, 14), (41, 15), (44, 17), (56, 10), (63, 8), (66, 2), (76, 16), (118, 12), (139, 13)] else if o = 1 then [(7, 2), (13, 3), (17, 4), (20, 5), (23, 6), (26, 7), (29, 8), (32, 10), (35, 12), (38, 14), (41, 15), (44, 16), (47, 0), (55, 9), (58, 11), (85, 1), (88, 13)] else []
/-- calls: class of the caller, place in its pool, callee -/
def am_mlV : List (Nat × Nat × Nat) := [(0, 73, 32), (0, 79, 35), (0, 86, 11), (0, 89, 26), (0, 92, 27), (0, 96, 29), (0, 100, 19), (0, 103, 24), (0, 107, 20), (0, 111, 21), (0, 115, 18), (0, 121, 30), (0, 124, 31), (0, 127, 36), (0, 130, 37), (0, 133, 38), (0, 136, 41), (0, 145, 42), (0, 148, 43), (0, 151, 45), (0, 154, 47), (0, 157, 28), (0, 160, 40), (0, 163, 22), (0, 166, 33), (0, 169, 34), (0, 172, 23), (0, 175, 39), (0, 184, 44), (0, 188, 46), (1, 51, 50), (1, 61, 53), (1, 65, 52), (1, 68, 54), (1, 71, 56), (1, 75, 55), (1, 78, 58), (1, 82, 59), (1, 91, 60), (1, 95, 62), (1, 98, 57), (1, 101, 63), (1, 104, 64), (1, 107, 49), (1, 110, 51), (1, 113, 77), (1, 117, 80), (1, 120, 78), (1, 123, 81), (1, 126, 82), (2, 7, 0), (2, 19, 1), (2, 25, 2), (2, 29, 3), (2, 33, 4), (2, 36, 5), (2, 39, 8), (2, 43, 9), (2, 47, 12), (2, 50, 13), (2, 53, 14), (2, 56, 15), (2, 59, 16), (2, 71, 65), (2, 72, 48), (2, 78, 66), (2, 82, 67), (2, 86, 68), (2, 89, 69), (2, 92, 70), (2, 93, 6), (2, 96, 71), (2, 97, 7), (2, 100, 72), (2, 104, 73), (2, 108, 74), (2, 109, 10), (2, 112, 75), (2, 113, 11), (2, 116, 61), (2, 119, 76), (2, 122, 79), (2, 125, 83), (2, 128, 84), (2, 131, 85), (2, 132, 17), (2, 135, 86)]
/-- calls: class of the caller, place in its pool, callee -/
def am_mlS : List (Nat × Nat × Nat) := [(0, 47, 87), (0, 69, 25)]
/-- calls: class of the caller, place in its pool, callee -/
def am_mlW : List (Nat × Nat × Nat) := [(2, 66, 88), (2, 75, 89), (2, 79, 90), (2, 83, 91), (2, 87, 92), (2, 90, 93), (2, 101, 94), (2, 105, 95), (2, 117, 96), (2, 120, 97), (2, 123, 98), (2, 126, 99), (2, 129, 100)]
/-- throws: class, place of the class in its pool, exception, place of the constructor -/
def am_ths : List (Nat × Nat × Nat × Nat) := [(0, 53, 0, 55), (0, 60, 1, 62), (0, 83, 2, 85), (0, 142, 3, 144)]
def am_min : Nat := 178
/-- SlidingHeap.alloc(I)I -/
def am_c0 : List (Nat × En) := [(0, 3, 0, 1, []), (1, 20, 0, 10, []), (4, 3, 0, 1, []), (5, 1, 10, 0, []), (7, 29, 0, 18, []), (10, 63, 53, 0, [55]), (18, 5, 0, 0, []), (19, 32, 56, 10, []), (22, 1, 10, 0, []), (24, 26, 0, 35, []), (27, 63, 60, 1, [62]), (35, 3, 0, 1, []), (36, 5, 0, 0, []), (37, 32, 63, 8, []), (40, 5, 0, 0, []), (41, 32, 66, 2, []), (44, 51, 69, 25, []), (47, 19, 0, 82, []), (50, 5, 0, 0, []), (51, 50, 73, 32, []), (54, 3, 0, 1, []), (55, 5, 0, 0, []), (56, 32, 76, 16, []), (59, 5, 0, 0, []), (60, 50, 79, 35, []), (63, 51, 69, 25, []), (66, 19, 0, 77, []), (69, 63, 83, 2, [85]), (77, 5, 0, 0, []), (78, 50, 86, 11, []), (81, 17, 0, 0, []), (82, 5, 0, 0, []), (83, 50, 89, 26, []), (86, 7, 0, 2, []), (87, 5, 0, 0, []), (88, 3, 0, 2, []), (89, 3, 0, 1, []), (90, 50, 92, 27, []), (93, 5, 0, 0, []), (94, 3, 0, 2, []), (95, 50, 96, 29, []), (98, 3, 0, 2, []), (99, 60, 0, 0, [])]
/-- SlidingHeap.number(III)V -/
def am_c1 : List (Nat × En) := [(0, 5, 0, 0, []), (1, 3, 0, 1, []), (2, 3, 0, 2, []), (3, 50, 100, 19, []), (6, 5, 0, 0, []), (7, 3, 0, 1, []), (8, 3, 0, 2, []), (9, 0, 0, 0, []), (10, 3, 0, 3, []), (11, 50, 103, 24, []), (14, 62, 0, 0, [])]
/-- SlidingHeap.refer(IIIZ)V -/
def am_c2 : List (Nat × En) := [(0, 5, 0, 0, []), (1, 3, 0, 1, []), (2, 3, 0, 2, []), (3, 50, 100, 19, []), (6, 3, 0, 3, []), (7, 18, 0, 26, []), (10, 5, 0, 0, []), (11, 3, 0, 3, []), (12, 50, 107, 20, []), (15, 19, 0, 26, []), (18, 63, 53, 0, [55]), (26, 5, 0, 0, []), (27, 3, 0, 1, []), (28, 3, 0, 2, []), (29, 4, 0, 4, []), (31, 18, 0, 38, []), (34, 0, 2, 0, []), (35, 30, 0, 39, []), (38, 0, 1, 0, []), (39, 3, 0, 3, []), (40, 50, 103, 24, []), (43, 62, 0, 0, [])]
/-- SlidingHeap.get(II)I -/
def am_c3 : List (Nat × En) := [(0, 5, 0, 0, []), (1, 3, 0, 1, []), (2, 3, 0, 2, []), (3, 50, 100, 19, []), (6, 5, 0, 0, []), (7, 32, 9, 0, []), (10, 5, 0, 0, []), (11, 3, 0, 1, []), (12, 50, 111, 21, []), (15, 3, 0, 2, []), (16, 12, 0, 0, []), (17, 34, 0, 0, []), (18, 60, 0, 0, [])]
/-- SlidingHeap.kind(II)I -/
def am_c4 : List (Nat × En) := [(0, 5, 0, 0, []), (1, 3, 0, 1, []), (2, 3, 0, 2, []), (3, 50, 100, 19, []), (6, 5, 0, 0, []), (7, 32, 13, 1, []), (10, 5, 0, 0, []), (11, 3, 0, 1, []), (12, 50, 111, 21, []), (15, 3, 0, 2, []), (16, 12, 0, 0, []), (17, 34, 0, 0, []), (18, 60, 0, 0, [])]
/-- SlidingHeap.push(I)I -/
def am_c5 : List (Nat × En) := [(0, 5, 0, 0, []), (1, 3, 0, 1, []), (2, 50, 115, 18, []), (5, 5, 0, 0, []), (6, 32, 56, 10, []), (9, 1, 10, 0, []), (11, 26, 0, 22, []), (14, 63, 60, 1, [62]), (22, 5, 0, 0, []), (23, 3, 0, 1, []), (24, 50, 96, 29, []), (27, 5, 0, 0, []), (28, 32, 56, 10, []), (31, 60, 0, 0, [])]
/-- SlidingHeap.pop()I -/
def am_c6 : List (Nat × En) := [(0, 5, 0, 0, []), (1, 32, 56, 10, []), (4, 19, 0, 9, []), (7, 0, -1, 0, []), (8, 60, 0, 0, []), (9, 5, 0, 0, []), (10, 16, 0, 0, []), (11, 32, 56, 10, []), (14, 0, 1, 0, []), (15, 13, 0, 0, []), (16, 33, 56, 10, []), (19, 5, 0, 0, []), (20, 32, 32, 9, []), (23, 5, 0, 0, []), (24, 32, 56, 10, []), (27, 34, 0, 0, []), (28, 60, 0, 0, [])]
/-- SlidingHeap.root(I)I -/
def am_c7 : List (Nat × En) := [(0, 3, 0, 1, []), (1, 20, 0, 21, []), (4, 3, 0, 1, []), (5, 5, 0, 0, []), (6, 32, 56, 10, []), (9, 27, 0, 21, []), (12, 5, 0, 0, []), (13, 32, 32, 9, []), (16, 3, 0, 1, []), (17, 34, 0, 0, []), (18, 30, 0, 22, []), (21, 0, -1, 0, []), (22, 60, 0, 0, [])]
/-- SlidingHeap.rites(IZ)V -/
def am_c8 : List (Nat × En) := [(0, 5, 0, 0, []), (1, 3, 0, 1, []), (2, 50, 115, 18, []), (5, 5, 0, 0, []), (6, 32, 25, 6, []), (9, 3, 0, 1, []), (10, 3, 0, 2, []), (11, 37, 0, 0, []), (12, 62, 0, 0, [])]
/-- SlidingHeap.take()I -/
def am_c9 : List (Nat × En) := [(0, 5, 0, 0, []), (1, 32, 118, 12, []), (4, 19, 0, 9, []), (7, 0, -1, 0, []), (8, 60, 0, 0, []), (9, 5, 0, 0, []), (10, 32, 56, 10, []), (13, 1, 10, 0, []), (15, 26, 0, 26, []), (18, 63, 60, 1, [62]), (26, 5, 0, 0, []), (27, 50, 121, 30, []), (30, 7, 0, 1, []), (31, 5, 0, 0, []), (32, 3, 0, 1, []), (33, 50, 96, 29, []), (36, 3, 0, 1, []), (37, 60, 0, 0, [])]
/-- SlidingHeap.queued(I)I -/
def am_c10 : List (Nat × En) := [(0, 3, 0, 1, []), (1, 20, 0, 21, []), (4, 3, 0, 1, []), (5, 5, 0, 0, []), (6, 32, 118, 12, []), (9, 27, 0, 21, []), (12, 5, 0, 0, []), (13, 32, 35, 11, []), (16, 3, 0, 1, []), (17, 34, 0, 0, []), (18, 30, 0, 22, []), (21, 0, -1, 0, []), (22, 60, 0, 0, [])]
/-- SlidingHeap.collect()I -/
def am_c11 : List (Nat × En) := [(0, 5, 0, 0, []), (1, 32, 66, 2, []), (4, 7, 0, 1, []), (5, 5, 0, 0, []), (6, 50, 124, 31, []), (9, 5, 0, 0, []), (10, 50, 127, 36, []), (13, 5, 0, 0, []), (14, 50, 130, 37, []), (17, 5, 0, 0, []), (18, 50, 124, 31, []), (21, 5, 0, 0, []), (22, 50, 127, 36, []), (25, 5, 0, 0, []), (26, 50, 133, 38, []), (29, 5, 0, 0, []), (30, 50, 136, 41, []), (33, 5, 0, 0, []), (34, 16, 0, 0, []), (35, 32, 139, 13, []), (38, 0, 1, 0, []), (39, 12, 0, 0, []), (40, 33, 139, 13, []), (43, 3, 0, 1, []), (44, 5, 0, 0, []), (45, 32, 66, 2, []), (48, 13, 0, 0, []), (49, 60, 0, 0, [])]
/-- SlidingHeap.word(I)I -/
def am_c12 : List (Nat × En) := [(0, 3, 0, 1, []), (1, 20, 0, 10, []), (4, 3, 0, 1, []), (5, 1, 90, 0, []), (7, 26, 0, 18, []), (10, 63, 142, 3, [144]), (18, 5, 0, 0, []), (19, 32, 9, 0, []), (22, 3, 0, 1, []), (23, 34, 0, 0, []), (24, 60, 0, 0, [])]
/-- SlidingHeap.about(II)I -/
def am_c13 : List (Nat × En) := [(0, 5, 0, 0, []), (1, 3, 0, 1, []), (2, 50, 115, 18, []), (5, 3, 0, 2, []), (6, 31, 0, 38, [105, 44, 51, 58, 65, 80, 99]), (44, 5, 0, 0, []), (45, 32, 16, 3, []), (48, 3, 0, 1, []), (49, 34, 0, 0, []), (50, 60, 0, 0, []), (51, 5, 0, 0, []), (52, 32, 19, 4, []), (55, 3, 0, 1, []), (56, 34, 0, 0, []), (57, 60, 0, 0, []), (58, 5, 0, 0, []), (59, 32, 22, 5, []), (62, 3, 0, 1, []), (63, 34, 0, 0, []), (64, 60, 0, 0, []), (65, 5, 0, 0, []), (66, 32, 25, 6, []), (69, 3, 0, 1, []), (70, 36, 0, 0, []), (71, 18, 0, 78, []), (74, 0, 1, 0, []), (75, 30, 0, 79, []), (78, 0, 0, 0, []), (79, 60, 0, 0, []), (80, 5, 0, 0, []), (81, 50, 124, 31, []), (84, 5, 0, 0, []), (85, 32, 38, 14, []), (88, 3, 0, 1, []), (89, 36, 0, 0, []), (90, 18, 0, 97, []), (93, 0, 1, 0, []), (94, 30, 0, 98, []), (97, 0, 0, 0, []), (98, 60, 0, 0, []), (99, 5, 0, 0, []), (100, 3, 0, 1, []), (101, 50, 145, 42, []), (104, 60, 0, 0, []), (105, 63, 53, 0, [55])]
/-- SlidingHeap.far(I)I -/
def am_c14 : List (Nat × En) := [(0, 5, 0, 0, []), (1, 3, 0, 1, []), (2, 50, 115, 18, []), (5, 5, 0, 0, []), (6, 3, 0, 1, []), (7, 50, 148, 43, []), (10, 5, 0, 0, []), (11, 50, 151, 45, []), (14, 7, 0, 2, []), (15, 3, 0, 2, []), (16, 0, -1, 0, []), (17, 25, 0, 24, []), (20, 0, -1, 0, []), (21, 30, 0, 30, []), (24, 5, 0, 0, []), (25, 32, 44, 17, []), (28, 3, 0, 2, []), (29, 34, 0, 0, []), (30, 60, 0, 0, [])]
/-- SlidingHeap.way(II)I -/
def am_c15 : List (Nat × En) := [(0, 5, 0, 0, []), (1, 3, 0, 1, []), (2, 50, 115, 18, []), (5, 5, 0, 0, []), (6, 3, 0, 1, []), (7, 50, 148, 43, []), (10, 5, 0, 0, []), (11, 50, 151, 45, []), (14, 7, 0, 3, []), (15, 3, 0, 3, []), (16, 0, -1, 0, []), (17, 24, 0, 34, []), (20, 3, 0, 2, []), (21, 20, 0, 34, []), (24, 3, 0, 2, []), (25, 5, 0, 0, []), (26, 32, 44, 17, []), (29, 3, 0, 3, []), (30, 34, 0, 0, []), (31, 29, 0, 36, []), (34, 0, -1, 0, []), (35, 60, 0, 0, []), (36, 0, 0, 0, []), (37, 8, 0, 4, []), (39, 4, 0, 4, []), (41, 3, 0, 2, []), (42, 27, 0, 62, []), (45, 3, 0, 3, []), (46, 0, -1, 0, []), (47, 24, 0, 62, []), (50, 5, 0, 0, []), (51, 3, 0, 3, []), (52, 50, 154, 47, []), (55, 7, 0, 3, []), (56, 11, 1, 4, []), (59, 30, 0, 39, []), (62, 3, 0, 3, []), (63, 60, 0, 0, [])]
/-- SlidingHeap.count(I)I -/
def am_c16 : List (Nat × En) := [(0, 3, 0, 1, []), (1, 31, 0, 43, [87, 44, 49, 58, 63, 72, 77, 82]), (44, 5, 0, 0, []), (45, 32, 63, 8, []), (48, 60, 0, 0, []), (49, 5, 0, 0, []), (50, 50, 124, 31, []), (53, 5, 0, 0, []), (54, 32, 76, 16, []), (57, 60, 0, 0, []), (58, 5, 0, 0, []), (59, 32, 66, 2, []), (62, 60, 0, 0, []), (63, 5, 0, 0, []), (64, 50, 124, 31, []), (67, 5, 0, 0, []), (68, 50, 79, 35, []), (71, 60, 0, 0, []), (72, 5, 0, 0, []), (73, 32, 56, 10, []), (76, 60, 0, 0, []), (77, 5, 0, 0, []), (78, 32, 118, 12, []), (81, 60, 0, 0, []), (82, 5, 0, 0, []), (83, 32, 139, 13, []), (86, 60, 0, 0, []), (87, 63, 53, 0, [55])]
/-- SlidingHeap.clear()V -/
def am_c17 : List (Nat × En) := [(0, 0, 1, 0, []), (1, 7, 0, 1, []), (2, 3, 0, 1, []), (3, 1, 14, 0, []), (5, 28, 0, 19, []), (8, 5, 0, 0, []), (9, 3, 0, 1, []), (10, 50, 157, 28, []), (13, 11, 1, 1, []), (16, 30, 0, 2, []), (19, 5, 0, 0, []), (20, 0, 0, 0, []), (21, 5, 0, 0, []), (22, 32, 66, 2, []), (25, 50, 160, 40, []), (28, 5, 0, 0, []), (29, 0, 0, 0, []), (30, 33, 66, 2, []), (33, 5, 0, 0, []), (34, 0, 0, 0, []), (35, 33, 63, 8, []), (38, 5, 0, 0, []), (39, 0, 0, 0, []), (40, 33, 56, 10, []), (43, 5, 0, 0, []), (44, 0, 0, 0, []), (45, 33, 118, 12, []), (48, 5, 0, 0, []), (49, 0, 0, 0, []), (50, 33, 139, 13, []), (53, 62, 0, 0, [])]
/-- SlidingHeap.requireObject(I)V -/
def am_c18 : List (Nat × En) := [(0, 5, 0, 0, []), (1, 3, 0, 1, []), (2, 50, 107, 20, []), (5, 19, 0, 16, []), (8, 63, 142, 3, [144]), (16, 62, 0, 0, [])]
/-- SlidingHeap.requireSlot(II)V -/
def am_c19 : List (Nat × En) := [(0, 5, 0, 0, []), (1, 3, 0, 1, []), (2, 50, 115, 18, []), (5, 3, 0, 2, []), (6, 20, 0, 19, []), (9, 3, 0, 2, []), (10, 5, 0, 0, []), (11, 32, 19, 4, []), (14, 3, 0, 1, []), (15, 34, 0, 0, []), (16, 26, 0, 27, []), (19, 63, 142, 3, [144]), (27, 62, 0, 0, [])]
/-- SlidingHeap.isObject(I)Z -/
def am_c20 : List (Nat × En) := [(0, 3, 0, 1, []), (1, 0, 1, 0, []), (2, 26, 0, 25, []), (5, 3, 0, 1, []), (6, 1, 14, 0, []), (8, 28, 0, 25, []), (11, 5, 0, 0, []), (12, 32, 16, 3, []), (15, 3, 0, 1, []), (16, 34, 0, 0, []), (17, 0, -1, 0, []), (18, 24, 0, 25, []), (21, 0, 1, 0, []), (22, 30, 0, 26, []), (25, 0, 0, 0, []), (26, 61, 0, 0, [])]
/-- SlidingHeap.firstSlot(I)I -/
def am_c21 : List (Nat × En) := [(0, 5, 0, 0, []), (1, 32, 16, 3, []), (4, 3, 0, 1, []), (5, 34, 0, 0, []), (6, 0, 2, 0, []), (7, 12, 0, 0, []), (8, 60, 0, 0, [])]
/-- SlidingHeap.sizeOf(I)I -/
def am_c22 : List (Nat × En) := [(0, 5, 0, 0, []), (1, 32, 19, 4, []), (4, 3, 0, 1, []), (5, 34, 0, 0, []), (6, 0, 2, 0, []), (7, 12, 0, 0, []), (8, 60, 0, 0, [])]
/-- SlidingHeap.endOf(I)I -/
def am_c23 : List (Nat × En) := [(0, 5, 0, 0, []), (1, 32, 16, 3, []), (4, 3, 0, 1, []), (5, 34, 0, 0, []), (6, 5, 0, 0, []), (7, 3, 0, 1, []), (8, 50, 163, 22, []), (11, 12, 0, 0, []), (12, 60, 0, 0, [])]
/-- SlidingHeap.setSlot(IIII)V -/
def am_c24 : List (Nat × En) := [(0, 5, 0, 0, []), (1, 3, 0, 1, []), (2, 50, 111, 21, []), (5, 3, 0, 2, []), (6, 12, 0, 0, []), (7, 8, 0, 5, []), (9, 5, 0, 0, []), (10, 32, 13, 1, []), (13, 4, 0, 5, []), (15, 3, 0, 3, []), (16, 35, 0, 0, []), (17, 5, 0, 0, []), (18, 32, 9, 0, []), (21, 4, 0, 5, []), (23, 4, 0, 4, []), (25, 35, 0, 0, []), (26, 62, 0, 0, [])]
/-- SlidingHeap.fits(III)Z -/
def am_c25 : List (Nat × En) := [(0, 3, 0, 1, []), (1, 1, 14, 0, []), (3, 27, 0, 20, []), (6, 3, 0, 2, []), (7, 0, 2, 0, []), (8, 12, 0, 0, []), (9, 3, 0, 0, []), (10, 12, 0, 0, []), (11, 1, 90, 0, []), (13, 28, 0, 20, []), (16, 0, 1, 0, []), (17, 30, 0, 21, []), (20, 0, 0, 0, []), (21, 61, 0, 0, [])]
/-- SlidingHeap.leastFreeHandle()I -/
def am_c26 : List (Nat × En) := [(0, 0, 1, 0, []), (1, 7, 0, 1, []), (2, 3, 0, 1, []), (3, 1, 14, 0, []), (5, 27, 0, 24, []), (8, 5, 0, 0, []), (9, 32, 16, 3, []), (12, 3, 0, 1, []), (13, 34, 0, 0, []), (14, 0, -1, 0, []), (15, 24, 0, 24, []), (18, 11, 1, 1, []), (21, 30, 0, 2, []), (24, 3, 0, 1, []), (25, 60, 0, 0, [])]
/-- SlidingHeap.place(II)V -/
def am_c27 : List (Nat × En) := [(0, 5, 0, 0, []), (1, 32, 16, 3, []), (4, 3, 0, 1, []), (5, 5, 0, 0, []), (6, 32, 66, 2, []), (9, 35, 0, 0, []), (10, 5, 0, 0, []), (11, 32, 19, 4, []), (14, 3, 0, 1, []), (15, 3, 0, 2, []), (16, 35, 0, 0, []), (17, 5, 0, 0, []), (18, 32, 9, 0, []), (21, 5, 0, 0, []), (22, 32, 66, 2, []), (25, 3, 0, 2, []), (26, 35, 0, 0, []), (27, 5, 0, 0, []), (28, 32, 9, 0, []), (31, 5, 0, 0, []), (32, 32, 66, 2, []), (35, 0, 1, 0, []), (36, 12, 0, 0, []), (37, 3, 0, 1, []), (38, 35, 0, 0, []), (39, 5, 0, 0, []), (40, 16, 0, 0, []), (41, 32, 66, 2, []), (44, 5, 0, 0, []), (45, 3, 0, 1, []), (46, 50, 163, 22, []), (49, 12, 0, 0, []), (50, 33, 66, 2, []), (53, 5, 0, 0, []), (54, 32, 29, 7, []), (57, 5, 0, 0, []), (58, 32, 63, 8, []), (61, 3, 0, 1, []), (62, 35, 0, 0, []), (63, 5, 0, 0, []), (64, 16, 0, 0, []), (65, 32, 63, 8, []), (68, 0, 1, 0, []), (69, 12, 0, 0, []), (70, 33, 63, 8, []), (73, 62, 0, 0, [])]
/-- SlidingHeap.release(I)V -/
def am_c28 : List (Nat × En) := [(0, 5, 0, 0, []), (1, 32, 16, 3, []), (4, 3, 0, 1, []), (5, 0, -1, 0, []), (6, 35, 0, 0, []), (7, 5, 0, 0, []), (8, 32, 19, 4, []), (11, 3, 0, 1, []), (12, 0, 0, 0, []), (13, 35, 0, 0, []), (14, 5, 0, 0, []), (15, 32, 22, 5, []), (18, 3, 0, 1, []), (19, 0, 0, 0, []), (20, 35, 0, 0, []), (21, 5, 0, 0, []), (22, 32, 25, 6, []), (25, 3, 0, 1, []), (26, 0, 0, 0, []), (27, 37, 0, 0, []), (28, 62, 0, 0, [])]
/-- SlidingHeap.addRoot(I)V -/
def am_c29 : List (Nat × En) := [(0, 5, 0, 0, []), (1, 32, 32, 9, []), (4, 5, 0, 0, []), (5, 32, 56, 10, []), (8, 3, 0, 1, []), (9, 35, 0, 0, []), (10, 5, 0, 0, []), (11, 16, 0, 0, []), (12, 32, 56, 10, []), (15, 0, 1, 0, []), (16, 12, 0, 0, []), (17, 33, 56, 10, []), (20, 62, 0, 0, [])]
/-- SlidingHeap.removeFirstQueued()I -/
def am_c30 : List (Nat × En) := [(0, 5, 0, 0, []), (1, 32, 35, 11, []), (4, 0, 0, 0, []), (5, 34, 0, 0, []), (6, 7, 0, 1, []), (7, 5, 0, 0, []), (8, 16, 0, 0, []), (9, 32, 118, 12, []), (12, 0, 1, 0, []), (13, 13, 0, 0, []), (14, 33, 118, 12, []), (17, 0, 0, 0, []), (18, 7, 0, 2, []), (19, 3, 0, 2, []), (20, 5, 0, 0, []), (21, 32, 118, 12, []), (24, 27, 0, 47, []), (27, 5, 0, 0, []), (28, 32, 35, 11, []), (31, 3, 0, 2, []), (32, 5, 0, 0, []), (33, 32, 35, 11, []), (36, 3, 0, 2, []), (37, 0, 1, 0, []), (38, 12, 0, 0, []), (39, 34, 0, 0, []), (40, 35, 0, 0, []), (41, 11, 1, 2, []), (44, 30, 0, 19, []), (47, 3, 0, 1, []), (48, 60, 0, 0, [])]
/-- SlidingHeap.markLive()V -/
def am_c31 : List (Nat × En) := [(0, 0, 1, 0, []), (1, 7, 0, 1, []), (2, 3, 0, 1, []), (3, 1, 14, 0, []), (5, 28, 0, 21, []), (8, 5, 0, 0, []), (9, 32, 38, 14, []), (12, 3, 0, 1, []), (13, 0, 0, 0, []), (14, 37, 0, 0, []), (15, 11, 1, 1, []), (18, 30, 0, 2, []), (21, 5, 0, 0, []), (22, 0, 0, 0, []), (23, 33, 76, 16, []), (26, 0, 0, 0, []), (27, 7, 0, 1, []), (28, 3, 0, 1, []), (29, 5, 0, 0, []), (30, 32, 56, 10, []), (33, 27, 0, 52, []), (36, 5, 0, 0, []), (37, 5, 0, 0, []), (38, 32, 32, 9, []), (41, 3, 0, 1, []), (42, 34, 0, 0, []), (43, 50, 166, 33, []), (46, 11, 1, 1, []), (49, 30, 0, 28, []), (52, 0, 0, 0, []), (53, 7, 0, 1, []), (54, 3, 0, 1, []), (55, 5, 0, 0, []), (56, 32, 118, 12, []), (59, 27, 0, 78, []), (62, 5, 0, 0, []), (63, 5, 0, 0, []), (64, 32, 35, 11, []), (67, 3, 0, 1, []), (68, 34, 0, 0, []), (69, 50, 166, 33, []), (72, 11, 1, 1, []), (75, 30, 0, 54, []), (78, 5, 0, 0, []), (79, 50, 169, 34, []), (82, 62, 0, 0, [])]
/-- SlidingHeap.markSurvivors()V -/
def am_c32 : List (Nat × En) := [(0, 5, 0, 0, []), (1, 50, 124, 31, []), (4, 0, 1, 0, []), (5, 7, 0, 1, []), (6, 3, 0, 1, []), (7, 1, 14, 0, []), (9, 28, 0, 32, []), (12, 5, 0, 0, []), (13, 32, 25, 6, []), (16, 3, 0, 1, []), (17, 36, 0, 0, []), (18, 18, 0, 26, []), (21, 5, 0, 0, []), (22, 3, 0, 1, []), (23, 50, 166, 33, []), (26, 11, 1, 1, []), (29, 30, 0, 6, []), (32, 5, 0, 0, []), (33, 50, 169, 34, []), (36, 62, 0, 0, [])]
/-- SlidingHeap.mark(I)V -/
def am_c33 : List (Nat × En) := [(0, 5, 0, 0, []), (1, 3, 0, 1, []), (2, 50, 107, 20, []), (5, 18, 0, 44, []), (8, 5, 0, 0, []), (9, 32, 38, 14, []), (12, 3, 0, 1, []), (13, 36, 0, 0, []), (14, 19, 0, 44, []), (17, 5, 0, 0, []), (18, 32, 38, 14, []), (21, 3, 0, 1, []), (22, 0, 1, 0, []), (23, 37, 0, 0, []), (24, 5, 0, 0, []), (25, 32, 41, 15, []), (28, 5, 0, 0, []), (29, 32, 76, 16, []), (32, 3, 0, 1, []), (33, 35, 0, 0, []), (34, 5, 0, 0, []), (35, 16, 0, 0, []), (36, 32, 76, 16, []), (39, 0, 1, 0, []), (40, 12, 0, 0, []), (41, 33, 76, 16, []), (44, 62, 0, 0, [])]
/-- SlidingHeap.spreadMarks()V -/
def am_c34 : List (Nat × En) := [(0, 0, 0, 0, []), (1, 7, 0, 1, []), (2, 3, 0, 1, []), (3, 1, 14, 0, []), (5, 27, 0, 70, []), (8, 3, 0, 1, []), (9, 5, 0, 0, []), (10, 32, 76, 16, []), (13, 27, 0, 70, []), (16, 5, 0, 0, []), (17, 32, 41, 15, []), (20, 3, 0, 1, []), (21, 34, 0, 0, []), (22, 7, 0, 2, []), (23, 5, 0, 0, []), (24, 3, 0, 2, []), (25, 50, 111, 21, []), (28, 7, 0, 3, []), (29, 3, 0, 3, []), (30, 5, 0, 0, []), (31, 3, 0, 2, []), (32, 50, 172, 23, []), (35, 27, 0, 64, []), (38, 5, 0, 0, []), (39, 32, 13, 1, []), (42, 3, 0, 3, []), (43, 34, 0, 0, []), (44, 0, 1, 0, []), (45, 25, 0, 58, []), (48, 5, 0, 0, []), (49, 5, 0, 0, []), (50, 32, 9, 0, []), (53, 3, 0, 3, []), (54, 34, 0, 0, []), (55, 50, 166, 33, []), (58, 11, 1, 3, []), (61, 30, 0, 29, []), (64, 11, 1, 1, []), (67, 30, 0, 2, []), (70, 62, 0, 0, [])]
/-- SlidingHeap.markedWords()I -/
def am_c35 : List (Nat × En) := [(0, 0, 0, 0, []), (1, 7, 0, 1, []), (2, 0, 0, 0, []), (3, 7, 0, 2, []), (4, 3, 0, 2, []), (5, 5, 0, 0, []), (6, 32, 76, 16, []), (9, 27, 0, 31, []), (12, 3, 0, 1, []), (13, 5, 0, 0, []), (14, 5, 0, 0, []), (15, 32, 41, 15, []), (18, 3, 0, 2, []), (19, 34, 0, 0, []), (20, 50, 163, 22, []), (23, 12, 0, 0, []), (24, 7, 0, 1, []), (25, 11, 1, 2, []), (28, 30, 0, 4, []), (31, 3, 0, 1, []), (32, 60, 0, 0, [])]
/-- SlidingHeap.cutWeakSlots()V -/
def am_c36 : List (Nat × En) := [(0, 0, 0, 0, []), (1, 7, 0, 1, []), (2, 3, 0, 1, []), (3, 5, 0, 0, []), (4, 32, 76, 16, []), (7, 27, 0, 75, []), (10, 5, 0, 0, []), (11, 32, 41, 15, []), (14, 3, 0, 1, []), (15, 34, 0, 0, []), (16, 7, 0, 2, []), (17, 5, 0, 0, []), (18, 3, 0, 2, []), (19, 50, 111, 21, []), (22, 7, 0, 3, []), (23, 3, 0, 3, []), (24, 5, 0, 0, []), (25, 3, 0, 2, []), (26, 50, 172, 23, []), (29, 27, 0, 69, []), (32, 5, 0, 0, []), (33, 32, 13, 1, []), (36, 3, 0, 3, []), (37, 34, 0, 0, []), (38, 0, 2, 0, []), (39, 25, 0, 63, []), (42, 5, 0, 0, []), (43, 32, 38, 14, []), (46, 5, 0, 0, []), (47, 32, 9, 0, []), (50, 3, 0, 3, []), (51, 34, 0, 0, []), (52, 36, 0, 0, []), (53, 19, 0, 63, []), (56, 5, 0, 0, []), (57, 32, 9, 0, []), (60, 3, 0, 3, []), (61, 0, 0, 0, []), (62, 35, 0, 0, []), (63, 11, 1, 3, []), (66, 30, 0, 23, []), (69, 11, 1, 1, []), (72, 30, 0, 2, []), (75, 62, 0, 0, [])]
/-- SlidingHeap.queueLost()V -/
def am_c37 : List (Nat × En) := [(0, 0, 1, 0, []), (1, 7, 0, 1, []), (2, 3, 0, 1, []), (3, 1, 14, 0, []), (5, 28, 0, 59, []), (8, 5, 0, 0, []), (9, 32, 25, 6, []), (12, 3, 0, 1, []), (13, 36, 0, 0, []), (14, 18, 0, 53, []), (17, 5, 0, 0, []), (18, 32, 38, 14, []), (21, 3, 0, 1, []), (22, 36, 0, 0, []), (23, 19, 0, 53, []), (26, 5, 0, 0, []), (27, 32, 35, 11, []), (30, 5, 0, 0, []), (31, 32, 118, 12, []), (34, 3, 0, 1, []), (35, 35, 0, 0, []), (36, 5, 0, 0, []), (37, 16, 0, 0, []), (38, 32, 118, 12, []), (41, 0, 1, 0, []), (42, 12, 0, 0, []), (43, 33, 118, 12, []), (46, 5, 0, 0, []), (47, 32, 25, 6, []), (50, 3, 0, 1, []), (51, 0, 0, 0, []), (52, 37, 0, 0, []), (53, 11, 1, 1, []), (56, 30, 0, 2, []), (59, 62, 0, 0, [])]
/-- SlidingHeap.slideDown()V -/
def am_c38 : List (Nat × En) := [(0, 0, 0, 0, []), (1, 7, 0, 1, []), (2, 0, 0, 0, []), (3, 7, 0, 2, []), (4, 0, 0, 0, []), (5, 7, 0, 3, []), (6, 3, 0, 3, []), (7, 5, 0, 0, []), (8, 32, 63, 8, []), (11, 27, 0, 74, []), (14, 5, 0, 0, []), (15, 32, 29, 7, []), (18, 3, 0, 3, []), (19, 34, 0, 0, []), (20, 8, 0, 4, []), (22, 5, 0, 0, []), (23, 32, 38, 14, []), (26, 4, 0, 4, []), (28, 36, 0, 0, []), (29, 18, 0, 62, []), (32, 5, 0, 0, []), (33, 4, 0, 4, []), (35, 3, 0, 1, []), (36, 50, 175, 39, []), (39, 3, 0, 1, []), (40, 5, 0, 0, []), (41, 4, 0, 4, []), (43, 50, 163, 22, []), (46, 12, 0, 0, []), (47, 7, 0, 1, []), (48, 5, 0, 0, []), (49, 32, 29, 7, []), (52, 3, 0, 2, []), (53, 4, 0, 4, []), (55, 35, 0, 0, []), (56, 11, 1, 2, []), (59, 30, 0, 68, []), (62, 5, 0, 0, []), (63, 4, 0, 4, []), (65, 50, 157, 28, []), (68, 11, 1, 3, []), (71, 30, 0, 6, []), (74, 5, 0, 0, []), (75, 3, 0, 1, []), (76, 5, 0, 0, []), (77, 32, 66, 2, []), (80, 50, 160, 40, []), (83, 5, 0, 0, []), (84, 3, 0, 1, []), (85, 33, 66, 2, []), (88, 5, 0, 0, []), (89, 3, 0, 2, []), (90, 33, 63, 8, []), (93, 62, 0, 0, [])]
/-- SlidingHeap.move(II)V -/
def am_c39 : List (Nat × En) := [(0, 5, 0, 0, []), (1, 32, 16, 3, []), (4, 3, 0, 1, []), (5, 34, 0, 0, []), (6, 7, 0, 3, []), (7, 5, 0, 0, []), (8, 3, 0, 1, []), (9, 50, 163, 22, []), (12, 8, 0, 4, []), (14, 0, 0, 0, []), (15, 8, 0, 5, []), (17, 4, 0, 5, []), (19, 4, 0, 4, []), (21, 27, 0, 66, []), (24, 5, 0, 0, []), (25, 32, 9, 0, []), (28, 3, 0, 2, []), (29, 4, 0, 5, []), (31, 12, 0, 0, []), (32, 5, 0, 0, []), (33, 32, 9, 0, []), (36, 3, 0, 3, []), (37, 4, 0, 5, []), (39, 12, 0, 0, []), (40, 34, 0, 0, []), (41, 35, 0, 0, []), (42, 5, 0, 0, []), (43, 32, 13, 1, []), (46, 3, 0, 2, []), (47, 4, 0, 5, []), (49, 12, 0, 0, []), (50, 5, 0, 0, []), (51, 32, 13, 1, []), (54, 3, 0, 3, []), (55, 4, 0, 5, []), (57, 12, 0, 0, []), (58, 34, 0, 0, []), (59, 35, 0, 0, []), (60, 11, 1, 5, []), (63, 30, 0, 17, []), (66, 5, 0, 0, []), (67, 32, 16, 3, []), (70, 3, 0, 1, []), (71, 3, 0, 2, []), (72, 35, 0, 0, []), (73, 62, 0, 0, [])]
/-- SlidingHeap.wipe(II)V -/
def am_c40 : List (Nat × En) := [(0, 3, 0, 1, []), (1, 7, 0, 3, []), (2, 3, 0, 3, []), (3, 3, 0, 2, []), (4, 27, 0, 27, []), (7, 5, 0, 0, []), (8, 32, 9, 0, []), (11, 3, 0, 3, []), (12, 0, 0, 0, []), (13, 35, 0, 0, []), (14, 5, 0, 0, []), (15, 32, 13, 1, []), (18, 3, 0, 3, []), (19, 0, 0, 0, []), (20, 35, 0, 0, []), (21, 11, 1, 3, []), (24, 30, 0, 2, []), (27, 62, 0, 0, [])]
/-- SlidingHeap.growOlder()V -/
def am_c41 : List (Nat × En) := [(0, 0, 0, 0, []), (1, 7, 0, 1, []), (2, 3, 0, 1, []), (3, 5, 0, 0, []), (4, 32, 63, 8, []), (7, 27, 0, 42, []), (10, 5, 0, 0, []), (11, 32, 29, 7, []), (14, 3, 0, 1, []), (15, 34, 0, 0, []), (16, 7, 0, 2, []), (17, 5, 0, 0, []), (18, 32, 22, 5, []), (21, 3, 0, 2, []), (22, 5, 0, 0, []), (23, 32, 22, 5, []), (26, 3, 0, 2, []), (27, 34, 0, 0, []), (28, 0, 1, 0, []), (29, 12, 0, 0, []), (30, 1, 99, 0, []), (32, 43, 178, 0, []), (35, 35, 0, 0, []), (36, 11, 1, 1, []), (39, 30, 0, 2, []), (42, 62, 0, 0, [])]
/-- SlidingHeap.slotsThatShow(I)I -/
def am_c42 : List (Nat × En) := [(0, 0, 0, 0, []), (1, 7, 0, 2, []), (2, 0, 0, 0, []), (3, 7, 0, 3, []), (4, 3, 0, 3, []), (5, 5, 0, 0, []), (6, 32, 66, 2, []), (9, 27, 0, 40, []), (12, 5, 0, 0, []), (13, 32, 13, 1, []), (16, 3, 0, 3, []), (17, 34, 0, 0, []), (18, 18, 0, 34, []), (21, 5, 0, 0, []), (22, 32, 9, 0, []), (25, 3, 0, 3, []), (26, 34, 0, 0, []), (27, 3, 0, 1, []), (28, 25, 0, 34, []), (31, 11, 1, 2, []), (34, 11, 1, 3, []), (37, 30, 0, 4, []), (40, 3, 0, 2, []), (41, 60, 0, 0, [])]
/-- SlidingHeap.measureTo(I)V -/
def am_c43 : List (Nat × En) := [(0, 5, 0, 0, []), (1, 32, 44, 17, []), (4, 0, -1, 0, []), (5, 51, 47, 87, []), (8, 5, 0, 0, []), (9, 32, 44, 17, []), (12, 3, 0, 1, []), (13, 0, 0, 0, []), (14, 35, 0, 0, []), (15, 0, 0, 0, []), (16, 7, 0, 2, []), (17, 3, 0, 2, []), (18, 1, 14, 0, []), (20, 27, 0, 84, []), (23, 0, 0, 0, []), (24, 7, 0, 3, []), (25, 3, 0, 3, []), (26, 5, 0, 0, []), (27, 32, 63, 8, []), (30, 27, 0, 78, []), (33, 5, 0, 0, []), (34, 32, 29, 7, []), (37, 3, 0, 3, []), (38, 34, 0, 0, []), (39, 8, 0, 4, []), (41, 5, 0, 0, []), (42, 32, 44, 17, []), (45, 4, 0, 4, []), (47, 34, 0, 0, []), (48, 0, -1, 0, []), (49, 25, 0, 72, []), (52, 5, 0, 0, []), (53, 4, 0, 4, []), (55, 3, 0, 2, []), (56, 50, 184, 44, []), (59, 18, 0, 72, []), (62, 5, 0, 0, []), (63, 32, 44, 17, []), (66, 4, 0, 4, []), (68, 3, 0, 2, []), (69, 0, 1, 0, []), (70, 12, 0, 0, []), (71, 35, 0, 0, []), (72, 11, 1, 3, []), (75, 30, 0, 25, []), (78, 11, 1, 2, []), (81, 30, 0, 17, []), (84, 62, 0, 0, [])]
/-- SlidingHeap.refersToDistance(II)Z -/
def am_c44 : List (Nat × En) := [(0, 5, 0, 0, []), (1, 3, 0, 1, []), (2, 50, 111, 21, []), (5, 7, 0, 3, []), (6, 3, 0, 3, []), (7, 5, 0, 0, []), (8, 3, 0, 1, []), (9, 50, 172, 23, []), (12, 27, 0, 48, []), (15, 5, 0, 0, []), (16, 32, 13, 1, []), (19, 3, 0, 3, []), (20, 34, 0, 0, []), (21, 0, 1, 0, []), (22, 25, 0, 42, []), (25, 5, 0, 0, []), (26, 32, 44, 17, []), (29, 5, 0, 0, []), (30, 32, 9, 0, []), (33, 3, 0, 3, []), (34, 34, 0, 0, []), (35, 34, 0, 0, []), (36, 3, 0, 2, []), (37, 25, 0, 42, []), (40, 0, 1, 0, []), (41, 61, 0, 0, []), (42, 11, 1, 3, []), (45, 30, 0, 6, []), (48, 0, 0, 0, []), (49, 61, 0, 0, [])]
/-- SlidingHeap.nearestStart()I -/
def am_c45 : List (Nat × En) := [(0, 0, -1, 0, []), (1, 7, 0, 1, []), (2, 0, 0, 0, []), (3, 7, 0, 2, []), (4, 3, 0, 2, []), (5, 5, 0, 0, []), (6, 32, 56, 10, []), (9, 27, 0, 30, []), (12, 5, 0, 0, []), (13, 3, 0, 1, []), (14, 5, 0, 0, []), (15, 32, 32, 9, []), (18, 3, 0, 2, []), (19, 34, 0, 0, []), (20, 50, 188, 46, []), (23, 7, 0, 1, []), (24, 11, 1, 2, []), (27, 30, 0, 4, []), (30, 0, 0, 0, []), (31, 7, 0, 2, []), (32, 3, 0, 2, []), (33, 5, 0, 0, []), (34, 32, 118, 12, []), (37, 27, 0, 58, []), (40, 5, 0, 0, []), (41, 3, 0, 1, []), (42, 5, 0, 0, []), (43, 32, 35, 11, []), (46, 3, 0, 2, []), (47, 34, 0, 0, []), (48, 50, 188, 46, []), (51, 7, 0, 1, []), (52, 11, 1, 2, []), (55, 30, 0, 32, []), (58, 3, 0, 1, []), (59, 60, 0, 0, [])]
/-- SlidingHeap.nearer(II)I -/
def am_c46 : List (Nat × En) := [(0, 5, 0, 0, []), (1, 32, 44, 17, []), (4, 3, 0, 2, []), (5, 34, 0, 0, []), (6, 0, -1, 0, []), (7, 25, 0, 12, []), (10, 3, 0, 1, []), (11, 60, 0, 0, []), (12, 3, 0, 1, []), (13, 0, -1, 0, []), (14, 24, 0, 32, []), (17, 5, 0, 0, []), (18, 32, 44, 17, []), (21, 3, 0, 2, []), (22, 34, 0, 0, []), (23, 5, 0, 0, []), (24, 32, 44, 17, []), (27, 3, 0, 1, []), (28, 34, 0, 0, []), (29, 27, 0, 34, []), (32, 3, 0, 2, []), (33, 60, 0, 0, []), (34, 5, 0, 0, []), (35, 32, 44, 17, []), (38, 3, 0, 2, []), (39, 34, 0, 0, []), (40, 5, 0, 0, []), (41, 32, 44, 17, []), (44, 3, 0, 1, []), (45, 34, 0, 0, []), (46, 25, 0, 57, []), (49, 3, 0, 1, []), (50, 3, 0, 2, []), (51, 43, 178, 0, []), (54, 30, 0, 58, []), (57, 3, 0, 1, []), (58, 60, 0, 0, [])]
/-- SlidingHeap.nextOnWay(I)I -/
def am_c47 : List (Nat × En) := [(0, 0, -1, 0, []), (1, 7, 0, 2, []), (2, 5, 0, 0, []), (3, 3, 0, 1, []), (4, 50, 111, 21, []), (7, 7, 0, 3, []), (8, 3, 0, 3, []), (9, 5, 0, 0, []), (10, 3, 0, 1, []), (11, 50, 172, 23, []), (14, 27, 0, 80, []), (17, 5, 0, 0, []), (18, 32, 13, 1, []), (21, 3, 0, 3, []), (22, 34, 0, 0, []), (23, 0, 1, 0, []), (24, 25, 0, 74, []), (27, 5, 0, 0, []), (28, 32, 44, 17, []), (31, 5, 0, 0, []), (32, 32, 9, 0, []), (35, 3, 0, 3, []), (36, 34, 0, 0, []), (37, 34, 0, 0, []), (38, 5, 0, 0, []), (39, 32, 44, 17, []), (42, 3, 0, 1, []), (43, 34, 0, 0, []), (44, 0, 1, 0, []), (45, 13, 0, 0, []), (46, 25, 0, 74, []), (49, 3, 0, 2, []), (50, 0, -1, 0, []), (51, 25, 0, 63, []), (54, 5, 0, 0, []), (55, 32, 9, 0, []), (58, 3, 0, 3, []), (59, 34, 0, 0, []), (60, 30, 0, 73, []), (63, 3, 0, 2, []), (64, 5, 0, 0, []), (65, 32, 9, 0, []), (68, 3, 0, 3, []), (69, 34, 0, 0, []), (70, 43, 178, 0, []), (73, 7, 0, 2, []), (74, 11, 1, 3, []), (77, 30, 0, 8, []), (80, 3, 0, 2, []), (81, 60, 0, 0, [])]
/-- SlidingHeapModel.thrown()I -/
def am_c48 : List (Nat × En) := [(0, 5, 0, 0, []), (1, 32, 47, 0, []), (4, 60, 0, 0, [])]
/-- SlidingHeapModel.refused(I)Z -/
def am_c49 : List (Nat × En) := [(0, 5, 0, 0, []), (1, 3, 0, 1, []), (2, 33, 47, 0, []), (5, 3, 0, 1, []), (6, 23, 0, 13, []), (9, 0, 1, 0, []), (10, 30, 0, 14, []), (13, 0, 0, 0, []), (14, 61, 0, 0, [])]
/-- SlidingHeapModel.isObject(I)Z -/
def am_c50 : List (Nat × En) := [(0, 3, 0, 1, []), (1, 0, 1, 0, []), (2, 26, 0, 24, []), (5, 3, 0, 1, []), (6, 1, 14, 0, []), (8, 28, 0, 24, []), (11, 5, 0, 0, []), (12, 32, 13, 3, []), (15, 3, 0, 1, []), (16, 36, 0, 0, []), (17, 18, 0, 24, []), (20, 0, 1, 0, []), (21, 30, 0, 25, []), (24, 0, 0, 0, []), (25, 61, 0, 0, [])]
/-- SlidingHeapModel.isSlot(II)Z -/
def am_c51 : List (Nat × En) := [(0, 5, 0, 0, []), (1, 3, 0, 1, []), (2, 50, 51, 50, []), (5, 18, 0, 26, []), (8, 3, 0, 2, []), (9, 20, 0, 26, []), (12, 3, 0, 2, []), (13, 5, 0, 0, []), (14, 32, 17, 4, []), (17, 3, 0, 1, []), (18, 34, 0, 0, []), (19, 27, 0, 26, []), (22, 0, 1, 0, []), (23, 30, 0, 27, []), (26, 0, 0, 0, []), (27, 61, 0, 0, [])]
/-- SlidingHeapModel.isSource(I)Z -/
def am_c52 : List (Nat × En) := [(0, 0, 0, 0, []), (1, 7, 0, 2, []), (2, 0, 0, 0, []), (3, 7, 0, 3, []), (4, 3, 0, 3, []), (5, 5, 0, 0, []), (6, 32, 55, 9, []), (9, 27, 0, 38, []), (12, 3, 0, 2, []), (13, 19, 0, 26, []), (16, 5, 0, 0, []), (17, 32, 32, 10, []), (20, 3, 0, 3, []), (21, 34, 0, 0, []), (22, 3, 0, 1, []), (23, 25, 0, 30, []), (26, 0, 1, 0, []), (27, 30, 0, 31, []), (30, 0, 0, 0, []), (31, 7, 0, 2, []), (32, 11, 1, 3, []), (35, 30, 0, 4, []), (38, 0, 0, 0, []), (39, 7, 0, 3, []), (40, 3, 0, 3, []), (41, 5, 0, 0, []), (42, 32, 58, 11, []), (45, 27, 0, 74, []), (48, 3, 0, 2, []), (49, 19, 0, 62, []), (52, 5, 0, 0, []), (53, 32, 35, 12, []), (56, 3, 0, 3, []), (57, 34, 0, 0, []), (58, 3, 0, 1, []), (59, 25, 0, 66, []), (62, 0, 1, 0, []), (63, 30, 0, 67, []), (66, 0, 0, 0, []), (67, 7, 0, 2, []), (68, 11, 1, 3, []), (71, 30, 0, 40, []), (74, 3, 0, 2, []), (75, 61, 0, 0, [])]
/-- SlidingHeapModel.refers(II)Z -/
def am_c53 : List (Nat × En) := [(0, 0, 0, 0, []), (1, 7, 0, 3, []), (2, 0, 0, 0, []), (3, 8, 0, 4, []), (5, 4, 0, 4, []), (7, 5, 0, 0, []), (8, 32, 17, 4, []), (11, 3, 0, 1, []), (12, 34, 0, 0, []), (13, 27, 0, 64, []), (16, 3, 0, 3, []), (17, 19, 0, 52, []), (20, 5, 0, 0, []), (21, 32, 29, 8, []), (24, 1, 10, 0, []), (26, 3, 0, 1, []), (27, 14, 0, 0, []), (28, 4, 0, 4, []), (30, 12, 0, 0, []), (31, 34, 0, 0, []), (32, 0, 1, 0, []), (33, 25, 0, 56, []), (36, 5, 0, 0, []), (37, 32, 26, 7, []), (40, 1, 10, 0, []), (42, 3, 0, 1, []), (43, 14, 0, 0, []), (44, 4, 0, 4, []), (46, 12, 0, 0, []), (47, 34, 0, 0, []), (48, 3, 0, 2, []), (49, 25, 0, 56, []), (52, 0, 1, 0, []), (53, 30, 0, 57, []), (56, 0, 0, 0, []), (57, 7, 0, 3, []), (58, 11, 1, 4, []), (61, 30, 0, 5, []), (64, 3, 0, 3, []), (65, 61, 0, 0, [])]
/-- SlidingHeapModel.spread()V -/
def am_c54 : List (Nat × En) := [(0, 0, 1, 0, []), (1, 7, 0, 1, []), (2, 3, 0, 1, []), (3, 18, 0, 131, []), (6, 0, 0, 0, []), (7, 7, 0, 1, []), (8, 0, 1, 0, []), (9, 7, 0, 2, []), (10, 3, 0, 2, []), (11, 1, 15, 0, []), (13, 27, 0, 128, []), (16, 0, 1, 0, []), (17, 7, 0, 3, []), (18, 3, 0, 3, []), (19, 1, 15, 0, []), (21, 27, 0, 122, []), (24, 5, 0, 0, []), (25, 32, 13, 3, []), (28, 3, 0, 2, []), (29, 36, 0, 0, []), (30, 18, 0, 73, []), (33, 5, 0, 0, []), (34, 32, 38, 14, []), (37, 3, 0, 2, []), (38, 36, 0, 0, []), (39, 18, 0, 73, []), (42, 5, 0, 0, []), (43, 32, 13, 3, []), (46, 3, 0, 3, []), (47, 36, 0, 0, []), (48, 18, 0, 73, []), (51, 5, 0, 0, []), (52, 32, 38, 14, []), (55, 3, 0, 3, []), (56, 36, 0, 0, []), (57, 19, 0, 73, []), (60, 5, 0, 0, []), (61, 3, 0, 2, []), (62, 3, 0, 3, []), (63, 50, 61, 53, []), (66, 18, 0, 73, []), (69, 0, 1, 0, []), (70, 30, 0, 74, []), (73, 0, 0, 0, []), (74, 8, 0, 4, []), (76, 5, 0, 0, []), (77, 32, 38, 14, []), (80, 3, 0, 3, []), (81, 5, 0, 0, []), (82, 32, 38, 14, []), (85, 3, 0, 3, []), (86, 36, 0, 0, []), (87, 19, 0, 95, []), (90, 4, 0, 4, []), (92, 18, 0, 99, []), (95, 0, 1, 0, []), (96, 30, 0, 100, []), (99, 0, 0, 0, []), (100, 37, 0, 0, []), (101, 3, 0, 1, []), (102, 19, 0, 110, []), (105, 4, 0, 4, []), (107, 18, 0, 114, []), (110, 0, 1, 0, []), (111, 30, 0, 115, []), (114, 0, 0, 0, []), (115, 7, 0, 1, []), (116, 11, 1, 3, []), (119, 30, 0, 18, []), (122, 11, 1, 2, []), (125, 30, 0, 10, []), (128, 30, 0, 2, []), (131, 62, 0, 0, [])]
/-- SlidingHeapModel.findLive()V -/
def am_c55 : List (Nat × En) := [(0, 0, 1, 0, []), (1, 7, 0, 1, []), (2, 3, 0, 1, []), (3, 1, 15, 0, []), (5, 27, 0, 42, []), (8, 5, 0, 0, []), (9, 32, 38, 14, []), (12, 3, 0, 1, []), (13, 5, 0, 0, []), (14, 32, 13, 3, []), (17, 3, 0, 1, []), (18, 36, 0, 0, []), (19, 18, 0, 34, []), (22, 5, 0, 0, []), (23, 3, 0, 1, []), (24, 50, 65, 52, []), (27, 18, 0, 34, []), (30, 0, 1, 0, []), (31, 30, 0, 35, []), (34, 0, 0, 0, []), (35, 37, 0, 0, []), (36, 11, 1, 1, []), (39, 30, 0, 2, []), (42, 5, 0, 0, []), (43, 50, 68, 54, []), (46, 62, 0, 0, [])]
/-- SlidingHeapModel.wordsOf(Z)I -/
def am_c56 : List (Nat × En) := [(0, 0, 0, 0, []), (1, 7, 0, 2, []), (2, 0, 1, 0, []), (3, 7, 0, 3, []), (4, 3, 0, 3, []), (5, 1, 15, 0, []), (7, 27, 0, 53, []), (10, 5, 0, 0, []), (11, 32, 13, 3, []), (14, 3, 0, 3, []), (15, 36, 0, 0, []), (16, 18, 0, 45, []), (19, 5, 0, 0, []), (20, 32, 38, 14, []), (23, 3, 0, 3, []), (24, 36, 0, 0, []), (25, 19, 0, 32, []), (28, 3, 0, 1, []), (29, 19, 0, 45, []), (32, 3, 0, 2, []), (33, 5, 0, 0, []), (34, 32, 17, 4, []), (37, 3, 0, 3, []), (38, 34, 0, 0, []), (39, 12, 0, 0, []), (40, 0, 2, 0, []), (41, 12, 0, 0, []), (42, 30, 0, 46, []), (45, 3, 0, 2, []), (46, 7, 0, 2, []), (47, 11, 1, 3, []), (50, 30, 0, 4, []), (53, 3, 0, 2, []), (54, 60, 0, 0, [])]
/-- SlidingHeapModel.countLive()I -/
def am_c57 : List (Nat × En) := [(0, 0, 0, 0, []), (1, 7, 0, 1, []), (2, 0, 1, 0, []), (3, 7, 0, 2, []), (4, 3, 0, 2, []), (5, 1, 15, 0, []), (7, 27, 0, 33, []), (10, 5, 0, 0, []), (11, 32, 38, 14, []), (14, 3, 0, 2, []), (15, 36, 0, 0, []), (16, 18, 0, 25, []), (19, 3, 0, 1, []), (20, 0, 1, 0, []), (21, 12, 0, 0, []), (22, 30, 0, 26, []), (25, 3, 0, 1, []), (26, 7, 0, 1, []), (27, 11, 1, 2, []), (30, 30, 0, 4, []), (33, 3, 0, 1, []), (34, 60, 0, 0, [])]
/-- SlidingHeapModel.weaken(I)V -/
def am_c58 : List (Nat × En) := [(0, 0, 0, 0, []), (1, 7, 0, 2, []), (2, 3, 0, 2, []), (3, 5, 0, 0, []), (4, 32, 17, 4, []), (7, 3, 0, 1, []), (8, 34, 0, 0, []), (9, 27, 0, 74, []), (12, 1, 10, 0, []), (14, 3, 0, 1, []), (15, 14, 0, 0, []), (16, 3, 0, 2, []), (17, 12, 0, 0, []), (18, 7, 0, 3, []), (19, 5, 0, 0, []), (20, 32, 26, 7, []), (23, 3, 0, 3, []), (24, 5, 0, 0, []), (25, 32, 29, 8, []), (28, 3, 0, 3, []), (29, 34, 0, 0, []), (30, 0, 2, 0, []), (31, 25, 0, 61, []), (34, 5, 0, 0, []), (35, 32, 26, 7, []), (38, 3, 0, 3, []), (39, 34, 0, 0, []), (40, 23, 0, 61, []), (43, 5, 0, 0, []), (44, 32, 38, 14, []), (47, 5, 0, 0, []), (48, 32, 26, 7, []), (51, 3, 0, 3, []), (52, 34, 0, 0, []), (53, 36, 0, 0, []), (54, 19, 0, 61, []), (57, 0, 0, 0, []), (58, 30, 0, 67, []), (61, 5, 0, 0, []), (62, 32, 26, 7, []), (65, 3, 0, 3, []), (66, 34, 0, 0, []), (67, 35, 0, 0, []), (68, 11, 1, 2, []), (71, 30, 0, 2, []), (74, 62, 0, 0, [])]
/-- SlidingHeapModel.save()V -/
def am_c59 : List (Nat × En) := [(0, 0, 1, 0, []), (1, 7, 0, 1, []), (2, 3, 0, 1, []), (3, 1, 15, 0, []), (5, 27, 0, 52, []), (8, 5, 0, 0, []), (9, 32, 41, 15, []), (12, 3, 0, 1, []), (13, 5, 0, 0, []), (14, 32, 13, 3, []), (17, 3, 0, 1, []), (18, 36, 0, 0, []), (19, 18, 0, 44, []), (22, 5, 0, 0, []), (23, 32, 38, 14, []), (26, 3, 0, 1, []), (27, 36, 0, 0, []), (28, 19, 0, 44, []), (31, 5, 0, 0, []), (32, 32, 23, 6, []), (35, 3, 0, 1, []), (36, 36, 0, 0, []), (37, 18, 0, 44, []), (40, 0, 1, 0, []), (41, 30, 0, 45, []), (44, 0, 0, 0, []), (45, 37, 0, 0, []), (46, 11, 1, 1, []), (49, 30, 0, 2, []), (52, 0, 1, 0, []), (53, 7, 0, 1, []), (54, 3, 0, 1, []), (55, 1, 15, 0, []), (57, 27, 0, 95, []), (60, 5, 0, 0, []), (61, 32, 38, 14, []), (64, 3, 0, 1, []), (65, 5, 0, 0, []), (66, 32, 38, 14, []), (69, 3, 0, 1, []), (70, 36, 0, 0, []), (71, 19, 0, 83, []), (74, 5, 0, 0, []), (75, 32, 41, 15, []), (78, 3, 0, 1, []), (79, 36, 0, 0, []), (80, 18, 0, 87, []), (83, 0, 1, 0, []), (84, 30, 0, 88, []), (87, 0, 0, 0, []), (88, 37, 0, 0, []), (89, 11, 1, 1, []), (92, 30, 0, 54, []), (95, 5, 0, 0, []), (96, 50, 68, 54, []), (99, 62, 0, 0, [])]
/-- SlidingHeapModel.collectAll()I -/
def am_c60 : List (Nat × En) := [(0, 5, 0, 0, []), (1, 0, 0, 0, []), (2, 50, 71, 56, []), (5, 7, 0, 1, []), (6, 5, 0, 0, []), (7, 50, 75, 55, []), (10, 0, 1, 0, []), (11, 7, 0, 2, []), (12, 3, 0, 2, []), (13, 1, 15, 0, []), (15, 27, 0, 38, []), (18, 5, 0, 0, []), (19, 32, 38, 14, []), (22, 3, 0, 2, []), (23, 36, 0, 0, []), (24, 18, 0, 32, []), (27, 5, 0, 0, []), (28, 3, 0, 2, []), (29, 50, 78, 58, []), (32, 11, 1, 2, []), (35, 30, 0, 12, []), (38, 5, 0, 0, []), (39, 50, 82, 59, []), (42, 0, 1, 0, []), (43, 7, 0, 2, []), (44, 3, 0, 2, []), (45, 1, 15, 0, []), (47, 27, 0, 136, []), (50, 5, 0, 0, []), (51, 32, 41, 15, []), (54, 3, 0, 2, []), (55, 36, 0, 0, []), (56, 18, 0, 86, []), (59, 5, 0, 0, []), (60, 32, 35, 12, []), (63, 5, 0, 0, []), (64, 32, 58, 11, []), (67, 3, 0, 2, []), (68, 35, 0, 0, []), (69, 5, 0, 0, []), (70, 16, 0, 0, []), (71, 32, 58, 11, []), (74, 0, 1, 0, []), (75, 12, 0, 0, []), (76, 33, 58, 11, []), (79, 5, 0, 0, []), (80, 32, 23, 6, []), (83, 3, 0, 2, []), (84, 0, 0, 0, []), (85, 37, 0, 0, []), (86, 5, 0, 0, []), (87, 32, 38, 14, []), (90, 3, 0, 2, []), (91, 36, 0, 0, []), (92, 18, 0, 130, []), (95, 5, 0, 0, []), (96, 3, 0, 2, []), (97, 50, 78, 58, []), (100, 5, 0, 0, []), (101, 32, 20, 5, []), (104, 3, 0, 2, []), (105, 5, 0, 0, []), (106, 32, 20, 5, []), (109, 3, 0, 2, []), (110, 34, 0, 0, []), (111, 1, 99, 0, []), (113, 27, 0, 127, []), (116, 5, 0, 0, []), (117, 32, 20, 5, []), (120, 3, 0, 2, []), (121, 34, 0, 0, []), (122, 0, 1, 0, []), (123, 12, 0, 0, []), (124, 30, 0, 129, []), (127, 1, 99, 0, []), (129, 35, 0, 0, []), (130, 11, 1, 2, []), (133, 30, 0, 44, []), (136, 0, 0, 0, []), (137, 7, 0, 2, []), (138, 0, 0, 0, []), (139, 7, 0, 3, []), (140, 3, 0, 3, []), (141, 5, 0, 0, []), (142, 32, 85, 1, []), (145, 27, 0, 197, []), (148, 5, 0, 0, []), (149, 32, 7, 2, []), (152, 3, 0, 3, []), (153, 34, 0, 0, []), (154, 8, 0, 4, []), (156, 5, 0, 0, []), (157, 32, 13, 3, []), (160, 4, 0, 4, []), (162, 5, 0, 0, []), (163, 32, 38, 14, []), (166, 4, 0, 4, []), (168, 36, 0, 0, []), (169, 37, 0, 0, []), (170, 5, 0, 0, []), (171, 32, 38, 14, []), (174, 4, 0, 4, []), (176, 36, 0, 0, []), (177, 18, 0, 191, []), (180, 5, 0, 0, []), (181, 32, 7, 2, []), (184, 3, 0, 2, []), (185, 4, 0, 4, []), (187, 35, 0, 0, []), (188, 11, 1, 2, []), (191, 11, 1, 3, []), (194, 30, 0, 140, []), (197, 5, 0, 0, []), (198, 3, 0, 2, []), (199, 33, 85, 1, []), (202, 5, 0, 0, []), (203, 16, 0, 0, []), (204, 32, 88, 13, []), (207, 0, 1, 0, []), (208, 12, 0, 0, []), (209, 33, 88, 13, []), (212, 3, 0, 1, []), (213, 5, 0, 0, []), (214, 0, 0, 0, []), (215, 50, 71, 56, []), (218, 13, 0, 0, []), (219, 60, 0, 0, [])]
/-- SlidingHeapModel.collect()I -/
def am_c61 : List (Nat × En) := [(0, 5, 0, 0, []), (1, 0, 0, 0, []), (2, 33, 47, 0, []), (5, 5, 0, 0, []), (6, 50, 91, 60, []), (9, 60, 0, 0, [])]
/-- SlidingHeapModel.freeHandle()I -/
def am_c62 : List (Nat × En) := [(0, 0, -1, 0, []), (1, 7, 0, 1, []), (2, 1, 14, 0, []), (4, 7, 0, 2, []), (5, 3, 0, 2, []), (6, 23, 0, 30, []), (9, 5, 0, 0, []), (10, 32, 13, 3, []), (13, 3, 0, 2, []), (14, 36, 0, 0, []), (15, 18, 0, 22, []), (18, 3, 0, 1, []), (19, 30, 0, 23, []), (22, 3, 0, 2, []), (23, 7, 0, 1, []), (24, 11, -1, 2, []), (27, 30, 0, 5, []), (30, 3, 0, 1, []), (31, 60, 0, 0, [])]
/-- SlidingHeapModel.isRoom(I)Z -/
def am_c63 : List (Nat × En) := [(0, 5, 0, 0, []), (1, 50, 95, 62, []), (4, 23, 0, 25, []), (7, 5, 0, 0, []), (8, 0, 0, 0, []), (9, 50, 71, 56, []), (12, 3, 0, 1, []), (13, 12, 0, 0, []), (14, 0, 2, 0, []), (15, 12, 0, 0, []), (16, 1, 90, 0, []), (18, 28, 0, 25, []), (21, 0, 1, 0, []), (22, 30, 0, 26, []), (25, 0, 0, 0, []), (26, 61, 0, 0, [])]
/-- SlidingHeapModel.wouldBeRoom(I)Z -/
def am_c64 : List (Nat × En) := [(0, 5, 0, 0, []), (1, 50, 75, 55, []), (4, 5, 0, 0, []), (5, 50, 82, 59, []), (8, 5, 0, 0, []), (9, 50, 98, 57, []), (12, 1, 14, 0, []), (14, 27, 0, 35, []), (17, 5, 0, 0, []), (18, 0, 1, 0, []), (19, 50, 71, 56, []), (22, 3, 0, 1, []), (23, 12, 0, 0, []), (24, 0, 2, 0, []), (25, 12, 0, 0, []), (26, 1, 90, 0, []), (28, 28, 0, 35, []), (31, 0, 1, 0, []), (32, 30, 0, 36, []), (35, 0, 0, 0, []), (36, 61, 0, 0, [])]
/-- SlidingHeapModel.alloc(I)I -/
def am_c65 : List (Nat × En) := [(0, 3, 0, 1, []), (1, 20, 0, 14, []), (4, 3, 0, 1, []), (5, 1, 10, 0, []), (7, 28, 0, 14, []), (10, 0, 1, 0, []), (11, 30, 0, 15, []), (14, 0, 0, 0, []), (15, 7, 0, 2, []), (16, 5, 0, 0, []), (17, 3, 0, 2, []), (18, 19, 0, 25, []), (21, 0, 1, 0, []), (22, 30, 0, 59, []), (25, 5, 0, 0, []), (26, 32, 55, 9, []), (29, 1, 10, 0, []), (31, 25, 0, 38, []), (34, 0, 2, 0, []), (35, 30, 0, 59, []), (38, 5, 0, 0, []), (39, 3, 0, 1, []), (40, 50, 101, 63, []), (43, 19, 0, 54, []), (46, 5, 0, 0, []), (47, 3, 0, 1, []), (48, 50, 104, 64, []), (51, 18, 0, 58, []), (54, 0, 0, 0, []), (55, 30, 0, 59, []), (58, 0, 3, 0, []), (59, 50, 107, 49, []), (62, 18, 0, 67, []), (65, 0, 0, 0, []), (66, 60, 0, 0, []), (67, 5, 0, 0, []), (68, 3, 0, 1, []), (69, 50, 101, 63, []), (72, 19, 0, 80, []), (75, 5, 0, 0, []), (76, 50, 91, 60, []), (79, 17, 0, 0, []), (80, 5, 0, 0, []), (81, 50, 95, 62, []), (84, 7, 0, 3, []), (85, 5, 0, 0, []), (86, 32, 13, 3, []), (89, 3, 0, 3, []), (90, 0, 1, 0, []), (91, 37, 0, 0, []), (92, 5, 0, 0, []), (93, 32, 17, 4, []), (96, 3, 0, 3, []), (97, 3, 0, 1, []), (98, 35, 0, 0, []), (99, 5, 0, 0, []), (100, 32, 20, 5, []), (103, 3, 0, 3, []), (104, 0, 0, 0, []), (105, 35, 0, 0, []), (106, 5, 0, 0, []), (107, 32, 23, 6, []), (110, 3, 0, 3, []), (111, 0, 0, 0, []), (112, 37, 0, 0, []), (113, 0, 0, 0, []), (114, 8, 0, 4, []), (116, 4, 0, 4, []), (118, 1, 10, 0, []), (120, 27, 0, 155, []), (123, 5, 0, 0, []), (124, 32, 26, 7, []), (127, 1, 10, 0, []), (129, 3, 0, 3, []), (130, 14, 0, 0, []), (131, 4, 0, 4, []), (133, 12, 0, 0, []), (134, 0, 0, 0, []), (135, 35, 0, 0, []), (136, 5, 0, 0, []), (137, 32, 29, 8, []), (140, 1, 10, 0, []), (142, 3, 0, 3, []), (143, 14, 0, 0, []), (144, 4, 0, 4, []), (146, 12, 0, 0, []), (147, 0, 0, 0, []), (148, 35, 0, 0, []), (149, 11, 1, 4, []), (152, 30, 0, 116, []), (155, 5, 0, 0, []), (156, 32, 7, 2, []), (159, 5, 0, 0, []), (160, 32, 85, 1, []), (163, 3, 0, 3, []), (164, 35, 0, 0, []), (165, 5, 0, 0, []), (166, 16, 0, 0, []), (167, 32, 85, 1, []), (170, 0, 1, 0, []), (171, 12, 0, 0, []), (172, 33, 85, 1, []), (175, 5, 0, 0, []), (176, 32, 32, 10, []), (179, 5, 0, 0, []), (180, 32, 55, 9, []), (183, 3, 0, 3, []), (184, 35, 0, 0, []), (185, 5, 0, 0, []), (186, 16, 0, 0, []), (187, 32, 55, 9, []), (190, 0, 1, 0, []), (191, 12, 0, 0, []), (192, 33, 55, 9, []), (195, 3, 0, 3, []), (196, 60, 0, 0, [])]
/-- SlidingHeapModel.number(III)V -/
def am_c66 : List (Nat × En) := [(0, 5, 0, 0, []), (1, 5, 0, 0, []), (2, 3, 0, 1, []), (3, 3, 0, 2, []), (4, 50, 110, 51, []), (7, 18, 0, 14, []), (10, 0, 0, 0, []), (11, 30, 0, 15, []), (14, 0, 1, 0, []), (15, 50, 107, 49, []), (18, 19, 0, 45, []), (21, 5, 0, 0, []), (22, 32, 26, 7, []), (25, 1, 10, 0, []), (27, 3, 0, 1, []), (28, 14, 0, 0, []), (29, 3, 0, 2, []), (30, 12, 0, 0, []), (31, 3, 0, 3, []), (32, 35, 0, 0, []), (33, 5, 0, 0, []), (34, 32, 29, 8, []), (37, 1, 10, 0, []), (39, 3, 0, 1, []), (40, 14, 0, 0, []), (41, 3, 0, 2, []), (42, 12, 0, 0, []), (43, 0, 0, 0, []), (44, 35, 0, 0, []), (45, 62, 0, 0, [])]
/-- SlidingHeapModel.refer(IIIZ)V -/
def am_c67 : List (Nat × En) := [(0, 5, 0, 0, []), (1, 5, 0, 0, []), (2, 3, 0, 1, []), (3, 3, 0, 2, []), (4, 50, 110, 51, []), (7, 19, 0, 14, []), (10, 0, 1, 0, []), (11, 30, 0, 31, []), (14, 3, 0, 3, []), (15, 18, 0, 30, []), (18, 5, 0, 0, []), (19, 3, 0, 3, []), (20, 50, 51, 50, []), (23, 19, 0, 30, []), (26, 0, 2, 0, []), (27, 30, 0, 31, []), (30, 0, 0, 0, []), (31, 50, 107, 49, []), (34, 19, 0, 70, []), (37, 5, 0, 0, []), (38, 32, 26, 7, []), (41, 1, 10, 0, []), (43, 3, 0, 1, []), (44, 14, 0, 0, []), (45, 3, 0, 2, []), (46, 12, 0, 0, []), (47, 3, 0, 3, []), (48, 35, 0, 0, []), (49, 5, 0, 0, []), (50, 32, 29, 8, []), (53, 1, 10, 0, []), (55, 3, 0, 1, []), (56, 14, 0, 0, []), (57, 3, 0, 2, []), (58, 12, 0, 0, []), (59, 4, 0, 4, []), (61, 18, 0, 68, []), (64, 0, 2, 0, []), (65, 30, 0, 69, []), (68, 0, 1, 0, []), (69, 35, 0, 0, []), (70, 62, 0, 0, [])]
/-- SlidingHeapModel.get(II)I -/
def am_c68 : List (Nat × En) := [(0, 5, 0, 0, []), (1, 5, 0, 0, []), (2, 3, 0, 1, []), (3, 3, 0, 2, []), (4, 50, 110, 51, []), (7, 18, 0, 14, []), (10, 0, 0, 0, []), (11, 30, 0, 15, []), (14, 0, 1, 0, []), (15, 50, 107, 49, []), (18, 18, 0, 25, []), (21, 0, 0, 0, []), (22, 30, 0, 36, []), (25, 5, 0, 0, []), (26, 32, 26, 7, []), (29, 1, 10, 0, []), (31, 3, 0, 1, []), (32, 14, 0, 0, []), (33, 3, 0, 2, []), (34, 12, 0, 0, []), (35, 34, 0, 0, []), (36, 60, 0, 0, [])]
/-- SlidingHeapModel.kind(II)I -/
def am_c69 : List (Nat × En) := [(0, 5, 0, 0, []), (1, 5, 0, 0, []), (2, 3, 0, 1, []), (3, 3, 0, 2, []), (4, 50, 110, 51, []), (7, 18, 0, 14, []), (10, 0, 0, 0, []), (11, 30, 0, 15, []), (14, 0, 1, 0, []), (15, 50, 107, 49, []), (18, 18, 0, 25, []), (21, 0, 0, 0, []), (22, 30, 0, 36, []), (25, 5, 0, 0, []), (26, 32, 29, 8, []), (29, 1, 10, 0, []), (31, 3, 0, 1, []), (32, 14, 0, 0, []), (33, 3, 0, 2, []), (34, 12, 0, 0, []), (35, 34, 0, 0, []), (36, 60, 0, 0, [])]
/-- SlidingHeapModel.push(I)I -/
def am_c70 : List (Nat × En) := [(0, 5, 0, 0, []), (1, 5, 0, 0, []), (2, 3, 0, 1, []), (3, 50, 51, 50, []), (6, 19, 0, 13, []), (9, 0, 1, 0, []), (10, 30, 0, 27, []), (13, 5, 0, 0, []), (14, 32, 55, 9, []), (17, 1, 10, 0, []), (19, 25, 0, 26, []), (22, 0, 2, 0, []), (23, 30, 0, 27, []), (26, 0, 0, 0, []), (27, 50, 107, 49, []), (30, 18, 0, 35, []), (33, 0, 0, 0, []), (34, 60, 0, 0, []), (35, 5, 0, 0, []), (36, 32, 32, 10, []), (39, 5, 0, 0, []), (40, 32, 55, 9, []), (43, 3, 0, 1, []), (44, 35, 0, 0, []), (45, 5, 0, 0, []), (46, 16, 0, 0, []), (47, 32, 55, 9, []), (50, 0, 1, 0, []), (51, 12, 0, 0, []), (52, 33, 55, 9, []), (55, 5, 0, 0, []), (56, 32, 55, 9, []), (59, 60, 0, 0, [])]
/-- SlidingHeapModel.pop()I -/
def am_c71 : List (Nat × En) := [(0, 5, 0, 0, []), (1, 0, 0, 0, []), (2, 33, 47, 0, []), (5, 5, 0, 0, []), (6, 5, 0, 0, []), (7, 32, 55, 9, []), (10, 23, 0, 22, []), (13, 5, 0, 0, []), (14, 32, 55, 9, []), (17, 0, 1, 0, []), (18, 13, 0, 0, []), (19, 30, 0, 23, []), (22, 0, -1, 0, []), (23, 33, 55, 9, []), (26, 5, 0, 0, []), (27, 32, 55, 9, []), (30, 21, 0, 37, []), (33, 0, -1, 0, []), (34, 30, 0, 46, []), (37, 5, 0, 0, []), (38, 32, 32, 10, []), (41, 5, 0, 0, []), (42, 32, 55, 9, []), (45, 34, 0, 0, []), (46, 7, 0, 1, []), (47, 5, 0, 0, []), (48, 5, 0, 0, []), (49, 32, 55, 9, []), (52, 21, 0, 59, []), (55, 0, 0, 0, []), (56, 30, 0, 63, []), (59, 5, 0, 0, []), (60, 32, 55, 9, []), (63, 33, 55, 9, []), (66, 3, 0, 1, []), (67, 60, 0, 0, [])]
/-- SlidingHeapModel.root(I)I -/
def am_c72 : List (Nat × En) := [(0, 5, 0, 0, []), (1, 0, 0, 0, []), (2, 33, 47, 0, []), (5, 3, 0, 1, []), (6, 20, 0, 17, []), (9, 3, 0, 1, []), (10, 5, 0, 0, []), (11, 32, 55, 9, []), (14, 26, 0, 21, []), (17, 0, -1, 0, []), (18, 30, 0, 27, []), (21, 5, 0, 0, []), (22, 32, 32, 10, []), (25, 3, 0, 1, []), (26, 34, 0, 0, []), (27, 60, 0, 0, [])]
/-- SlidingHeapModel.rites(IZ)V -/
def am_c73 : List (Nat × En) := [(0, 5, 0, 0, []), (1, 5, 0, 0, []), (2, 3, 0, 1, []), (3, 50, 51, 50, []), (6, 18, 0, 13, []), (9, 0, 0, 0, []), (10, 30, 0, 14, []), (13, 0, 1, 0, []), (14, 50, 107, 49, []), (17, 19, 0, 27, []), (20, 5, 0, 0, []), (21, 32, 23, 6, []), (24, 3, 0, 1, []), (25, 3, 0, 2, []), (26, 37, 0, 0, []), (27, 62, 0, 0, [])]
/-- SlidingHeapModel.take()I -/
def am_c74 : List (Nat × En) := [(0, 5, 0, 0, []), (1, 5, 0, 0, []), (2, 32, 58, 11, []), (5, 23, 0, 21, []), (8, 5, 0, 0, []), (9, 32, 55, 9, []), (12, 1, 10, 0, []), (14, 25, 0, 21, []), (17, 0, 1, 0, []), (18, 30, 0, 22, []), (21, 0, 0, 0, []), (22, 50, 107, 49, []), (25, 18, 0, 30, []), (28, 0, 0, 0, []), (29, 60, 0, 0, []), (30, 5, 0, 0, []), (31, 32, 58, 11, []), (34, 19, 0, 39, []), (37, 0, -1, 0, []), (38, 60, 0, 0, []), (39, 5, 0, 0, []), (40, 32, 35, 12, []), (43, 0, 0, 0, []), (44, 34, 0, 0, []), (45, 7, 0, 1, []), (46, 5, 0, 0, []), (47, 16, 0, 0, []), (48, 32, 58, 11, []), (51, 0, 1, 0, []), (52, 13, 0, 0, []), (53, 33, 58, 11, []), (56, 0, 0, 0, []), (57, 7, 0, 2, []), (58, 3, 0, 2, []), (59, 5, 0, 0, []), (60, 32, 58, 11, []), (63, 27, 0, 86, []), (66, 5, 0, 0, []), (67, 32, 35, 12, []), (70, 3, 0, 2, []), (71, 5, 0, 0, []), (72, 32, 35, 12, []), (75, 3, 0, 2, []), (76, 0, 1, 0, []), (77, 12, 0, 0, []), (78, 34, 0, 0, []), (79, 35, 0, 0, []), (80, 11, 1, 2, []), (83, 30, 0, 58, []), (86, 5, 0, 0, []), (87, 32, 32, 10, []), (90, 5, 0, 0, []), (91, 32, 55, 9, []), (94, 3, 0, 1, []), (95, 35, 0, 0, []), (96, 5, 0, 0, []), (97, 16, 0, 0, []), (98, 32, 55, 9, []), (101, 0, 1, 0, []), (102, 12, 0, 0, []), (103, 33, 55, 9, []), (106, 3, 0, 1, []), (107, 60, 0, 0, [])]
/-- SlidingHeapModel.queued(I)I -/
def am_c75 : List (Nat × En) := [(0, 5, 0, 0, []), (1, 0, 0, 0, []), (2, 33, 47, 0, []), (5, 3, 0, 1, []), (6, 20, 0, 17, []), (9, 3, 0, 1, []), (10, 5, 0, 0, []), (11, 32, 58, 11, []), (14, 26, 0, 21, []), (17, 0, -1, 0, []), (18, 30, 0, 27, []), (21, 5, 0, 0, []), (22, 32, 35, 12, []), (25, 3, 0, 1, []), (26, 34, 0, 0, []), (27, 60, 0, 0, [])]
/-- SlidingHeapModel.word(I)I -/
def am_c76 : List (Nat × En) := [(0, 5, 0, 0, []), (1, 3, 0, 1, []), (2, 20, 0, 11, []), (5, 3, 0, 1, []), (6, 1, 89, 0, []), (8, 29, 0, 15, []), (11, 0, 1, 0, []), (12, 30, 0, 16, []), (15, 0, 0, 0, []), (16, 50, 107, 49, []), (19, 18, 0, 24, []), (22, 0, 0, 0, []), (23, 60, 0, 0, []), (24, 0, 0, 0, []), (25, 7, 0, 2, []), (26, 0, 0, 0, []), (27, 7, 0, 3, []), (28, 0, 0, 0, []), (29, 8, 0, 4, []), (31, 4, 0, 4, []), (33, 5, 0, 0, []), (34, 32, 85, 1, []), (37, 27, 0, 149, []), (40, 5, 0, 0, []), (41, 32, 7, 2, []), (44, 4, 0, 4, []), (46, 34, 0, 0, []), (47, 8, 0, 5, []), (49, 3, 0, 1, []), (50, 3, 0, 2, []), (51, 13, 0, 0, []), (52, 8, 0, 6, []), (54, 4, 0, 6, []), (56, 20, 0, 77, []), (59, 4, 0, 6, []), (61, 5, 0, 0, []), (62, 32, 17, 4, []), (65, 4, 0, 5, []), (67, 34, 0, 0, []), (68, 0, 2, 0, []), (69, 12, 0, 0, []), (70, 27, 0, 77, []), (73, 0, 1, 0, []), (74, 30, 0, 78, []), (77, 0, 0, 0, []), (78, 8, 0, 7, []), (80, 4, 0, 7, []), (82, 19, 0, 89, []), (85, 3, 0, 3, []), (86, 30, 0, 130, []), (89, 4, 0, 6, []), (91, 19, 0, 104, []), (94, 5, 0, 0, []), (95, 32, 17, 4, []), (98, 4, 0, 5, []), (100, 34, 0, 0, []), (101, 30, 0, 130, []), (104, 4, 0, 6, []), (106, 0, 1, 0, []), (107, 25, 0, 115, []), (110, 4, 0, 5, []), (112, 30, 0, 130, []), (115, 5, 0, 0, []), (116, 32, 26, 7, []), (119, 1, 10, 0, []), (121, 4, 0, 5, []), (123, 14, 0, 0, []), (124, 4, 0, 6, []), (126, 12, 0, 0, []), (127, 0, 2, 0, []), (128, 13, 0, 0, []), (129, 34, 0, 0, []), (130, 7, 0, 3, []), (131, 3, 0, 2, []), (132, 5, 0, 0, []), (133, 32, 17, 4, []), (136, 4, 0, 5, []), (138, 34, 0, 0, []), (139, 12, 0, 0, []), (140, 0, 2, 0, []), (141, 12, 0, 0, []), (142, 7, 0, 2, []), (143, 11, 1, 4, []), (146, 30, 0, 31, []), (149, 3, 0, 3, []), (150, 60, 0, 0, [])]
/-- SlidingHeapModel.placeOf(I)I -/
def am_c77 : List (Nat × En) := [(0, 0, 0, 0, []), (1, 7, 0, 2, []), (2, 0, 0, 0, []), (3, 7, 0, 3, []), (4, 0, 0, 0, []), (5, 8, 0, 4, []), (7, 4, 0, 4, []), (9, 5, 0, 0, []), (10, 32, 85, 1, []), (13, 27, 0, 56, []), (16, 5, 0, 0, []), (17, 32, 7, 2, []), (20, 4, 0, 4, []), (22, 34, 0, 0, []), (23, 3, 0, 1, []), (24, 25, 0, 31, []), (27, 3, 0, 2, []), (28, 30, 0, 32, []), (31, 3, 0, 3, []), (32, 7, 0, 3, []), (33, 3, 0, 2, []), (34, 5, 0, 0, []), (35, 32, 17, 4, []), (38, 5, 0, 0, []), (39, 32, 7, 2, []), (42, 4, 0, 4, []), (44, 34, 0, 0, []), (45, 34, 0, 0, []), (46, 12, 0, 0, []), (47, 0, 2, 0, []), (48, 12, 0, 0, []), (49, 7, 0, 2, []), (50, 11, 1, 4, []), (53, 30, 0, 7, []), (56, 3, 0, 3, []), (57, 60, 0, 0, [])]
/-- SlidingHeapModel.heldBy(I)I -/
def am_c78 : List (Nat × En) := [(0, 0, 0, 0, []), (1, 7, 0, 2, []), (2, 0, 1, 0, []), (3, 7, 0, 3, []), (4, 3, 0, 3, []), (5, 1, 15, 0, []), (7, 27, 0, 103, []), (10, 0, 0, 0, []), (11, 8, 0, 4, []), (13, 4, 0, 4, []), (15, 1, 10, 0, []), (17, 27, 0, 97, []), (20, 5, 0, 0, []), (21, 32, 13, 3, []), (24, 3, 0, 3, []), (25, 36, 0, 0, []), (26, 18, 0, 75, []), (29, 4, 0, 4, []), (31, 5, 0, 0, []), (32, 32, 17, 4, []), (35, 3, 0, 3, []), (36, 34, 0, 0, []), (37, 27, 0, 75, []), (40, 5, 0, 0, []), (41, 32, 29, 8, []), (44, 1, 10, 0, []), (46, 3, 0, 3, []), (47, 14, 0, 0, []), (48, 4, 0, 4, []), (50, 12, 0, 0, []), (51, 34, 0, 0, []), (52, 23, 0, 75, []), (55, 5, 0, 0, []), (56, 32, 26, 7, []), (59, 1, 10, 0, []), (61, 3, 0, 3, []), (62, 14, 0, 0, []), (63, 4, 0, 4, []), (65, 12, 0, 0, []), (66, 34, 0, 0, []), (67, 3, 0, 1, []), (68, 25, 0, 75, []), (71, 0, 1, 0, []), (72, 30, 0, 76, []), (75, 0, 0, 0, []), (76, 8, 0, 5, []), (78, 4, 0, 5, []), (80, 18, 0, 89, []), (83, 3, 0, 2, []), (84, 0, 1, 0, []), (85, 12, 0, 0, []), (86, 30, 0, 90, []), (89, 3, 0, 2, []), (90, 7, 0, 2, []), (91, 11, 1, 4, []), (94, 30, 0, 13, []), (97, 11, 1, 3, []), (100, 30, 0, 4, []), (103, 3, 0, 2, []), (104, 60, 0, 0, [])]
/-- SlidingHeapModel.about(II)I -/
def am_c79 : List (Nat × En) := [(0, 5, 0, 0, []), (1, 5, 0, 0, []), (2, 3, 0, 1, []), (3, 50, 51, 50, []), (6, 19, 0, 13, []), (9, 0, 1, 0, []), (10, 30, 0, 27, []), (13, 3, 0, 2, []), (14, 20, 0, 22, []), (17, 3, 0, 2, []), (18, 0, 5, 0, []), (19, 29, 0, 26, []), (22, 0, 2, 0, []), (23, 30, 0, 27, []), (26, 0, 0, 0, []), (27, 50, 107, 49, []), (30, 18, 0, 35, []), (33, 0, 0, 0, []), (34, 60, 0, 0, []), (35, 3, 0, 2, []), (36, 31, 0, 36, [121, 72, 78, 85, 92, 107]), (72, 5, 0, 0, []), (73, 3, 0, 1, []), (74, 50, 113, 77, []), (77, 60, 0, 0, []), (78, 5, 0, 0, []), (79, 32, 17, 4, []), (82, 3, 0, 1, []), (83, 34, 0, 0, []), (84, 60, 0, 0, []), (85, 5, 0, 0, []), (86, 32, 20, 5, []), (89, 3, 0, 1, []), (90, 34, 0, 0, []), (91, 60, 0, 0, []), (92, 5, 0, 0, []), (93, 32, 23, 6, []), (96, 3, 0, 1, []), (97, 36, 0, 0, []), (98, 18, 0, 105, []), (101, 0, 1, 0, []), (102, 30, 0, 106, []), (105, 0, 0, 0, []), (106, 60, 0, 0, []), (107, 5, 0, 0, []), (108, 3, 0, 1, []), (109, 50, 117, 80, []), (112, 18, 0, 119, []), (115, 0, 1, 0, []), (116, 30, 0, 120, []), (119, 0, 0, 0, []), (120, 60, 0, 0, []), (121, 5, 0, 0, []), (122, 3, 0, 1, []), (123, 50, 120, 78, []), (126, 60, 0, 0, [])]
/-- SlidingHeapModel.isLive(I)Z -/
def am_c80 : List (Nat × En) := [(0, 5, 0, 0, []), (1, 50, 75, 55, []), (4, 5, 0, 0, []), (5, 32, 38, 14, []), (8, 3, 0, 1, []), (9, 36, 0, 0, []), (10, 61, 0, 0, [])]
/-- SlidingHeapModel.findLeft(I)V -/
def am_c81 : List (Nat × En) := [(0, 0, 1, 0, []), (1, 7, 0, 2, []), (2, 3, 0, 2, []), (3, 1, 15, 0, []), (5, 27, 0, 31, []), (8, 5, 0, 0, []), (9, 32, 44, 16, []), (12, 3, 0, 2, []), (13, 3, 0, 2, []), (14, 3, 0, 1, []), (15, 25, 0, 22, []), (18, 0, 0, 0, []), (19, 30, 0, 24, []), (22, 1, 99, 0, []), (24, 35, 0, 0, []), (25, 11, 1, 2, []), (28, 30, 0, 2, []), (31, 0, 0, 0, []), (32, 7, 0, 2, []), (33, 3, 0, 2, []), (34, 1, 14, 0, []), (36, 27, 0, 158, []), (39, 0, 1, 0, []), (40, 7, 0, 3, []), (41, 3, 0, 3, []), (42, 1, 15, 0, []), (44, 27, 0, 152, []), (47, 0, 1, 0, []), (48, 8, 0, 4, []), (50, 4, 0, 4, []), (52, 1, 15, 0, []), (54, 27, 0, 146, []), (57, 5, 0, 0, []), (58, 32, 13, 3, []), (61, 3, 0, 3, []), (62, 36, 0, 0, []), (63, 18, 0, 108, []), (66, 5, 0, 0, []), (67, 32, 13, 3, []), (70, 4, 0, 4, []), (72, 36, 0, 0, []), (73, 18, 0, 108, []), (76, 5, 0, 0, []), (77, 32, 44, 16, []), (80, 4, 0, 4, []), (82, 34, 0, 0, []), (83, 0, 1, 0, []), (84, 12, 0, 0, []), (85, 5, 0, 0, []), (86, 32, 44, 16, []), (89, 3, 0, 3, []), (90, 34, 0, 0, []), (91, 27, 0, 108, []), (94, 5, 0, 0, []), (95, 3, 0, 3, []), (96, 4, 0, 4, []), (98, 50, 61, 53, []), (101, 18, 0, 108, []), (104, 0, 1, 0, []), (105, 30, 0, 109, []), (108, 0, 0, 0, []), (109, 8, 0, 5, []), (111, 5, 0, 0, []), (112, 32, 44, 16, []), (115, 3, 0, 3, []), (116, 4, 0, 5, []), (118, 18, 0, 133, []), (121, 5, 0, 0, []), (122, 32, 44, 16, []), (125, 4, 0, 4, []), (127, 34, 0, 0, []), (128, 0, 1, 0, []), (129, 12, 0, 0, []), (130, 30, 0, 139, []), (133, 5, 0, 0, []), (134, 32, 44, 16, []), (137, 3, 0, 3, []), (138, 34, 0, 0, []), (139, 35, 0, 0, []), (140, 11, 1, 4, []), (143, 30, 0, 50, []), (146, 11, 1, 3, []), (149, 30, 0, 41, []), (152, 11, 1, 2, []), (155, 30, 0, 33, []), (158, 62, 0, 0, [])]
/-- SlidingHeapModel.firstOf(I)I -/
def am_c82 : List (Nat × En) := [(0, 5, 0, 0, []), (1, 3, 0, 1, []), (2, 50, 123, 81, []), (5, 0, 0, 0, []), (6, 7, 0, 2, []), (7, 1, 14, 0, []), (9, 7, 0, 3, []), (10, 3, 0, 3, []), (11, 23, 0, 85, []), (14, 5, 0, 0, []), (15, 32, 13, 3, []), (18, 3, 0, 3, []), (19, 36, 0, 0, []), (20, 18, 0, 46, []), (23, 5, 0, 0, []), (24, 3, 0, 3, []), (25, 50, 65, 52, []), (28, 18, 0, 46, []), (31, 5, 0, 0, []), (32, 32, 44, 16, []), (35, 3, 0, 3, []), (36, 34, 0, 0, []), (37, 1, 99, 0, []), (39, 27, 0, 46, []), (42, 0, 1, 0, []), (43, 30, 0, 47, []), (46, 0, 0, 0, []), (47, 8, 0, 4, []), (49, 4, 0, 4, []), (51, 18, 0, 77, []), (54, 3, 0, 2, []), (55, 18, 0, 73, []), (58, 5, 0, 0, []), (59, 32, 44, 16, []), (62, 3, 0, 3, []), (63, 34, 0, 0, []), (64, 5, 0, 0, []), (65, 32, 44, 16, []), (68, 3, 0, 2, []), (69, 34, 0, 0, []), (70, 28, 0, 77, []), (73, 3, 0, 3, []), (74, 30, 0, 78, []), (77, 3, 0, 2, []), (78, 7, 0, 2, []), (79, 11, -1, 3, []), (82, 30, 0, 10, []), (85, 3, 0, 2, []), (86, 60, 0, 0, [])]
/-- SlidingHeapModel.far(I)I -/
def am_c83 : List (Nat × En) := [(0, 5, 0, 0, []), (1, 5, 0, 0, []), (2, 3, 0, 1, []), (3, 50, 51, 50, []), (6, 18, 0, 13, []), (9, 0, 0, 0, []), (10, 30, 0, 14, []), (13, 0, 1, 0, []), (14, 50, 107, 49, []), (17, 18, 0, 22, []), (20, 0, 0, 0, []), (21, 60, 0, 0, []), (22, 5, 0, 0, []), (23, 3, 0, 1, []), (24, 50, 126, 82, []), (27, 7, 0, 2, []), (28, 3, 0, 2, []), (29, 19, 0, 36, []), (32, 0, -1, 0, []), (33, 30, 0, 42, []), (36, 5, 0, 0, []), (37, 32, 44, 16, []), (40, 3, 0, 2, []), (41, 34, 0, 0, []), (42, 60, 0, 0, [])]
/-- SlidingHeapModel.way(II)I -/
def am_c84 : List (Nat × En) := [(0, 5, 0, 0, []), (1, 5, 0, 0, []), (2, 3, 0, 1, []), (3, 50, 51, 50, []), (6, 18, 0, 13, []), (9, 0, 0, 0, []), (10, 30, 0, 14, []), (13, 0, 1, 0, []), (14, 50, 107, 49, []), (17, 18, 0, 22, []), (20, 0, 0, 0, []), (21, 60, 0, 0, []), (22, 5, 0, 0, []), (23, 3, 0, 1, []), (24, 50, 126, 82, []), (27, 7, 0, 3, []), (28, 3, 0, 3, []), (29, 18, 0, 46, []), (32, 3, 0, 2, []), (33, 20, 0, 46, []), (36, 3, 0, 2, []), (37, 5, 0, 0, []), (38, 32, 44, 16, []), (41, 3, 0, 3, []), (42, 34, 0, 0, []), (43, 29, 0, 48, []), (46, 0, -1, 0, []), (47, 60, 0, 0, []), (48, 0, 0, 0, []), (49, 8, 0, 4, []), (51, 4, 0, 4, []), (53, 3, 0, 2, []), (54, 27, 0, 131, []), (57, 0, 0, 0, []), (58, 8, 0, 5, []), (60, 1, 14, 0, []), (62, 8, 0, 6, []), (64, 4, 0, 6, []), (66, 23, 0, 122, []), (69, 5, 0, 0, []), (70, 32, 13, 3, []), (73, 4, 0, 6, []), (75, 36, 0, 0, []), (76, 18, 0, 112, []), (79, 5, 0, 0, []), (80, 32, 44, 16, []), (83, 4, 0, 6, []), (85, 34, 0, 0, []), (86, 5, 0, 0, []), (87, 32, 44, 16, []), (90, 3, 0, 3, []), (91, 34, 0, 0, []), (92, 0, 1, 0, []), (93, 13, 0, 0, []), (94, 25, 0, 112, []), (97, 5, 0, 0, []), (98, 3, 0, 3, []), (99, 4, 0, 6, []), (101, 50, 61, 53, []), (104, 18, 0, 112, []), (107, 4, 0, 6, []), (109, 30, 0, 114, []), (112, 4, 0, 5, []), (114, 8, 0, 5, []), (116, 11, -1, 6, []), (119, 30, 0, 64, []), (122, 4, 0, 5, []), (124, 7, 0, 3, []), (125, 11, 1, 4, []), (128, 30, 0, 51, []), (131, 3, 0, 3, []), (132, 60, 0, 0, [])]
/-- SlidingHeapModel.count(I)I -/
def am_c85 : List (Nat × En) := [(0, 5, 0, 0, []), (1, 3, 0, 1, []), (2, 20, 0, 11, []), (5, 3, 0, 1, []), (6, 1, 6, 0, []), (8, 29, 0, 15, []), (11, 0, 1, 0, []), (12, 30, 0, 16, []), (15, 0, 0, 0, []), (16, 50, 107, 49, []), (19, 18, 0, 24, []), (22, 0, 0, 0, []), (23, 60, 0, 0, []), (24, 5, 0, 0, []), (25, 50, 75, 55, []), (28, 3, 0, 1, []), (29, 31, 0, 39, [100, 68, 73, 78, 84, 90, 95]), (68, 5, 0, 0, []), (69, 32, 85, 1, []), (72, 60, 0, 0, []), (73, 5, 0, 0, []), (74, 50, 98, 57, []), (77, 60, 0, 0, []), (78, 5, 0, 0, []), (79, 0, 0, 0, []), (80, 50, 71, 56, []), (83, 60, 0, 0, []), (84, 5, 0, 0, []), (85, 0, 1, 0, []), (86, 50, 71, 56, []), (89, 60, 0, 0, []), (90, 5, 0, 0, []), (91, 32, 55, 9, []), (94, 60, 0, 0, []), (95, 5, 0, 0, []), (96, 32, 58, 11, []), (99, 60, 0, 0, []), (100, 5, 0, 0, []), (101, 32, 88, 13, []), (104, 60, 0, 0, [])]
/-- SlidingHeapModel.clear()V -/
def am_c86 : List (Nat × En) := [(0, 5, 0, 0, []), (1, 0, 0, 0, []), (2, 33, 47, 0, []), (5, 5, 0, 0, []), (6, 0, 0, 0, []), (7, 33, 85, 1, []), (10, 5, 0, 0, []), (11, 0, 0, 0, []), (12, 33, 55, 9, []), (15, 5, 0, 0, []), (16, 0, 0, 0, []), (17, 33, 58, 11, []), (20, 5, 0, 0, []), (21, 0, 0, 0, []), (22, 33, 88, 13, []), (25, 0, 0, 0, []), (26, 7, 0, 1, []), (27, 3, 0, 1, []), (28, 1, 15, 0, []), (30, 27, 0, 46, []), (33, 5, 0, 0, []), (34, 32, 13, 3, []), (37, 3, 0, 1, []), (38, 0, 0, 0, []), (39, 37, 0, 0, []), (40, 11, 1, 1, []), (43, 30, 0, 27, []), (46, 62, 0, 0, [])]
/-- java/util/Arrays.fill([II)V -/
def am_c87 : List (Nat × En) := [(0, 0, 0, 0, []), (1, 7, 0, 2, []), (2, 5, 0, 0, []), (3, 40, 0, 0, []), (4, 7, 0, 3, []), (5, 3, 0, 2, []), (6, 3, 0, 3, []), (7, 27, 0, 20, []), (10, 5, 0, 0, []), (11, 3, 0, 2, []), (12, 3, 0, 1, []), (13, 35, 0, 0, []), (14, 11, 1, 2, []), (17, 30, 0, 5, []), (20, 62, 0, 0, [])]
/-- SlidingHeapLaw.alloc(LSlidingHeap;I[J)I -/
def am_c88 : List (Nat × En) := [(0, 5, 0, 2, []), (1, 0, 0, 0, []), (2, 5, 0, 0, []), (3, 3, 0, 1, []), (4, 50, 7, 0, []), (7, 41, 0, 0, []), (8, 39, 0, 0, []), (9, 30, 0, 21, []), (12, 9, 0, 3, []), (13, 0, 1, 0, []), (14, 60, 0, 0, []), (15, 9, 0, 3, []), (16, 0, 2, 0, []), (17, 60, 0, 0, []), (18, 9, 0, 3, []), (19, 0, 3, 0, []), (20, 60, 0, 0, []), (21, 0, 0, 0, []), (22, 60, 0, 0, [])]
/-- SlidingHeapLaw.number(LSlidingHeap;III)I -/
def am_c89 : List (Nat × En) := [(0, 5, 0, 0, []), (1, 3, 0, 1, []), (2, 3, 0, 2, []), (3, 3, 0, 3, []), (4, 50, 19, 1, []), (7, 30, 0, 14, []), (10, 10, 0, 4, []), (12, 0, 1, 0, []), (13, 60, 0, 0, []), (14, 0, 0, 0, []), (15, 60, 0, 0, [])]
/-- SlidingHeapLaw.refer(LSlidingHeap;IIIZ)I -/
def am_c90 : List (Nat × En) := [(0, 5, 0, 0, []), (1, 3, 0, 1, []), (2, 3, 0, 2, []), (3, 3, 0, 3, []), (4, 4, 0, 4, []), (6, 50, 25, 2, []), (9, 30, 0, 20, []), (12, 10, 0, 5, []), (14, 0, 1, 0, []), (15, 60, 0, 0, []), (16, 10, 0, 5, []), (18, 0, 2, 0, []), (19, 60, 0, 0, []), (20, 0, 0, 0, []), (21, 60, 0, 0, [])]
/-- SlidingHeapLaw.get(LSlidingHeap;II[J)I -/
def am_c91 : List (Nat × En) := [(0, 5, 0, 3, []), (1, 0, 0, 0, []), (2, 5, 0, 0, []), (3, 3, 0, 1, []), (4, 3, 0, 2, []), (5, 50, 29, 3, []), (8, 41, 0, 0, []), (9, 39, 0, 0, []), (10, 30, 0, 17, []), (13, 10, 0, 4, []), (15, 0, 1, 0, []), (16, 60, 0, 0, []), (17, 0, 0, 0, []), (18, 60, 0, 0, [])]
/-- SlidingHeapLaw.kind(LSlidingHeap;II[J)I -/
def am_c92 : List (Nat × En) := [(0, 5, 0, 3, []), (1, 0, 0, 0, []), (2, 5, 0, 0, []), (3, 3, 0, 1, []), (4, 3, 0, 2, []), (5, 50, 33, 4, []), (8, 41, 0, 0, []), (9, 39, 0, 0, []), (10, 30, 0, 17, []), (13, 10, 0, 4, []), (15, 0, 1, 0, []), (16, 60, 0, 0, []), (17, 0, 0, 0, []), (18, 60, 0, 0, [])]
/-- SlidingHeapLaw.push(LSlidingHeap;I[J)I -/
def am_c93 : List (Nat × En) := [(0, 5, 0, 2, []), (1, 0, 0, 0, []), (2, 5, 0, 0, []), (3, 3, 0, 1, []), (4, 50, 36, 5, []), (7, 41, 0, 0, []), (8, 39, 0, 0, []), (9, 30, 0, 18, []), (12, 9, 0, 3, []), (13, 0, 1, 0, []), (14, 60, 0, 0, []), (15, 9, 0, 3, []), (16, 0, 2, 0, []), (17, 60, 0, 0, []), (18, 0, 0, 0, []), (19, 60, 0, 0, [])]
/-- SlidingHeapLaw.rites(LSlidingHeap;IZ)I -/
def am_c94 : List (Nat × En) := [(0, 5, 0, 0, []), (1, 3, 0, 1, []), (2, 3, 0, 2, []), (3, 50, 39, 8, []), (6, 30, 0, 12, []), (9, 9, 0, 3, []), (10, 0, 1, 0, []), (11, 60, 0, 0, []), (12, 0, 0, 0, []), (13, 60, 0, 0, [])]
/-- SlidingHeapLaw.take(LSlidingHeap;[J)I -/
def am_c95 : List (Nat × En) := [(0, 5, 0, 1, []), (1, 0, 0, 0, []), (2, 5, 0, 0, []), (3, 50, 43, 9, []), (6, 41, 0, 0, []), (7, 39, 0, 0, []), (8, 30, 0, 14, []), (11, 9, 0, 2, []), (12, 0, 1, 0, []), (13, 60, 0, 0, []), (14, 0, 0, 0, []), (15, 60, 0, 0, [])]
/-- SlidingHeapLaw.word(LSlidingHeap;I[J)I -/
def am_c96 : List (Nat × En) := [(0, 5, 0, 2, []), (1, 0, 0, 0, []), (2, 5, 0, 0, []), (3, 3, 0, 1, []), (4, 50, 47, 12, []), (7, 41, 0, 0, []), (8, 39, 0, 0, []), (9, 30, 0, 15, []), (12, 9, 0, 3, []), (13, 0, 1, 0, []), (14, 60, 0, 0, []), (15, 0, 0, 0, []), (16, 60, 0, 0, [])]
/-- SlidingHeapLaw.about(LSlidingHeap;II[J)I -/
def am_c97 : List (Nat × En) := [(0, 5, 0, 3, []), (1, 0, 0, 0, []), (2, 5, 0, 0, []), (3, 3, 0, 1, []), (4, 3, 0, 2, []), (5, 50, 50, 13, []), (8, 41, 0, 0, []), (9, 39, 0, 0, []), (10, 30, 0, 21, []), (13, 10, 0, 4, []), (15, 0, 1, 0, []), (16, 60, 0, 0, []), (17, 10, 0, 4, []), (19, 0, 2, 0, []), (20, 60, 0, 0, []), (21, 0, 0, 0, []), (22, 60, 0, 0, [])]
/-- SlidingHeapLaw.far(LSlidingHeap;I[J)I -/
def am_c98 : List (Nat × En) := [(0, 5, 0, 2, []), (1, 0, 0, 0, []), (2, 5, 0, 0, []), (3, 3, 0, 1, []), (4, 50, 53, 14, []), (7, 41, 0, 0, []), (8, 39, 0, 0, []), (9, 30, 0, 15, []), (12, 9, 0, 3, []), (13, 0, 1, 0, []), (14, 60, 0, 0, []), (15, 0, 0, 0, []), (16, 60, 0, 0, [])]
/-- SlidingHeapLaw.way(LSlidingHeap;II[J)I -/
def am_c99 : List (Nat × En) := [(0, 5, 0, 3, []), (1, 0, 0, 0, []), (2, 5, 0, 0, []), (3, 3, 0, 1, []), (4, 3, 0, 2, []), (5, 50, 56, 15, []), (8, 41, 0, 0, []), (9, 39, 0, 0, []), (10, 30, 0, 17, []), (13, 10, 0, 4, []), (15, 0, 1, 0, []), (16, 60, 0, 0, []), (17, 0, 0, 0, []), (18, 60, 0, 0, [])]
/-- SlidingHeapLaw.count(LSlidingHeap;I[J)I -/
def am_c100 : List (Nat × En) := [(0, 5, 0, 2, []), (1, 0, 0, 0, []), (2, 5, 0, 0, []), (3, 3, 0, 1, []), (4, 50, 59, 16, []), (7, 41, 0, 0, []), (8, 39, 0, 0, []), (9, 30, 0, 15, []), (12, 9, 0, 3, []), (13, 0, 1, 0, []), (14, 60, 0, 0, []), (15, 0, 0, 0, []), (16, 60, 0, 0, [])]
/-- SlidingHeapLaw.law([I)Z -/
def am_c101 : List (Nat × En) := [(20, 0, 0, 0, []), (21, 8, 0, 4, []), (23, 4, 0, 4, []), (25, 5, 0, 0, []), (26, 40, 0, 0, []), (27, 0, 5, 0, []), (28, 13, 0, 0, []), (29, 28, 0, 1025, []), (32, 5, 0, 0, []), (33, 4, 0, 4, []), (35, 34, 0, 0, []), (36, 1, 31, 0, []), (38, 15, 0, 0, []), (39, 31, 0, 85, [1019, 124, 180, 240, 328, 396, 464, 520, 533, 558, 622, 666, 691, 704, 760, 828, 884, 952, 1008]), (124, 5, 0, 1, []), (125, 5, 0, 0, []), (126, 4, 0, 4, []), (128, 0, 1, 0, []), (129, 12, 0, 0, []), (130, 34, 0, 0, []), (131, 5, 0, 3, []), (132, 52, 66, 88, []), (135, 8, 0, 5, []), (137, 5, 0, 2, []), (138, 5, 0, 0, []), (139, 4, 0, 4, []), (141, 0, 1, 0, []), (142, 12, 0, 0, []), (143, 34, 0, 0, []), (144, 50, 71, 65, []), (147, 8, 0, 6, []), (149, 5, 0, 2, []), (150, 50, 72, 48, []), (153, 4, 0, 5, []), (155, 24, 0, 160, []), (158, 0, 0, 0, []), (159, 61, 0, 0, []), (160, 4, 0, 5, []), (162, 19, 0, 177, []), (165, 5, 0, 3, []), (166, 0, 0, 0, []), (167, 38, 0, 0, []), (168, 4, 0, 6, []), (170, 41, 0, 0, []), (171, 42, 0, 0, []), (172, 18, 0, 177, []), (175, 0, 0, 0, []), (176, 61, 0, 0, []), (177, 30, 0, 1019, []), (180, 5, 0, 1, []), (181, 5, 0, 0, []), (182, 4, 0, 4, []), (184, 0, 1, 0, []), (185, 12, 0, 0, []), (186, 34, 0, 0, []), (187, 5, 0, 0, []), (188, 4, 0, 4, []), (190, 0, 2, 0, []), (191, 12, 0, 0, []), (192, 34, 0, 0, []), (193, 5, 0, 0, []), (194, 4, 0, 4, []), (196, 0, 3, 0, []), (197, 12, 0, 0, []), (198, 34, 0, 0, []), (199, 52, 75, 89, []), (202, 8, 0, 5, []), (204, 5, 0, 2, []), (205, 5, 0, 0, []), (206, 4, 0, 4, []), (208, 0, 1, 0, []), (209, 12, 0, 0, []), (210, 34, 0, 0, []), (211, 5, 0, 0, []), (212, 4, 0, 4, []), (214, 0, 2, 0, []), (215, 12, 0, 0, []), (216, 34, 0, 0, []), (217, 5, 0, 0, []), (218, 4, 0, 4, []), (220, 0, 3, 0, []), (221, 12, 0, 0, []), (222, 34, 0, 0, []), (223, 50, 78, 66, []), (226, 5, 0, 2, []), (227, 50, 72, 48, []), (230, 4, 0, 5, []), (232, 24, 0, 237, []), (235, 0, 0, 0, []), (236, 61, 0, 0, []), (237, 30, 0, 1019, []), (240, 5, 0, 1, []), (241, 5, 0, 0, []), (242, 4, 0, 4, []), (244, 0, 1, 0, []), (245, 12, 0, 0, []), (246, 34, 0, 0, []), (247, 5, 0, 0, []), (248, 4, 0, 4, []), (250, 0, 2, 0, []), (251, 12, 0, 0, []), (252, 34, 0, 0, []), (253, 5, 0, 0, []), (254, 4, 0, 4, []), (256, 0, 3, 0, []), (257, 12, 0, 0, []), (258, 34, 0, 0, []), (259, 5, 0, 0, []), (260, 4, 0, 4, []), (262, 0, 4, 0, []), (263, 12, 0, 0, []), (264, 34, 0, 0, []), (265, 18, 0, 272, []), (268, 0, 1, 0, []), (269, 30, 0, 273, []), (272, 0, 0, 0, []), (273, 52, 79, 90, []), (276, 8, 0, 5, []), (278, 5, 0, 2, []), (279, 5, 0, 0, []), (280, 4, 0, 4, []), (282, 0, 1, 0, []), (283, 12, 0, 0, []), (284, 34, 0, 0, []), (285, 5, 0, 0, []), (286, 4, 0, 4, []), (288, 0, 2, 0, []), (289, 12, 0, 0, []), (290, 34, 0, 0, []), (291, 5, 0, 0, []), (292, 4, 0, 4, []), (294, 0, 3, 0, []), (295, 12, 0, 0, []), (296, 34, 0, 0, []), (297, 5, 0, 0, []), (298, 4, 0, 4, []), (300, 0, 4, 0, []), (301, 12, 0, 0, []), (302, 34, 0, 0, []), (303, 18, 0, 310, []), (306, 0, 1, 0, []), (307, 30, 0, 311, []), (310, 0, 0, 0, []), (311, 50, 82, 67, []), (314, 5, 0, 2, []), (315, 50, 72, 48, []), (318, 4, 0, 5, []), (320, 24, 0, 325, []), (323, 0, 0, 0, []), (324, 61, 0, 0, []), (325, 30, 0, 1019, []), (328, 5, 0, 1, []), (329, 5, 0, 0, []), (330, 4, 0, 4, []), (332, 0, 1, 0, []), (333, 12, 0, 0, []), (334, 34, 0, 0, []), (335, 5, 0, 0, []), (336, 4, 0, 4, []), (338, 0, 2, 0, []), (339, 12, 0, 0, []), (340, 34, 0, 0, []), (341, 5, 0, 3, []), (342, 52, 83, 91, []), (345, 8, 0, 5, []), (347, 5, 0, 2, []), (348, 5, 0, 0, []), (349, 4, 0, 4, []), (351, 0, 1, 0, []), (352, 12, 0, 0, []), (353, 34, 0, 0, []), (354, 5, 0, 0, []), (355, 4, 0, 4, []), (357, 0, 2, 0, []), (358, 12, 0, 0, []), (359, 34, 0, 0, []), (360, 50, 86, 68, []), (363, 8, 0, 6, []), (365, 5, 0, 2, []), (366, 50, 72, 48, []), (369, 4, 0, 5, []), (371, 24, 0, 376, []), (374, 0, 0, 0, []), (375, 61, 0, 0, []), (376, 4, 0, 5, []), (378, 19, 0, 393, []), (381, 5, 0, 3, []), (382, 0, 0, 0, []), (383, 38, 0, 0, []), (384, 4, 0, 6, []), (386, 41, 0, 0, []), (387, 42, 0, 0, []), (388, 18, 0, 393, []), (391, 0, 0, 0, []), (392, 61, 0, 0, []), (393, 30, 0, 1019, []), (396, 5, 0, 1, []), (397, 5, 0, 0, []), (398, 4, 0, 4, []), (400, 0, 1, 0, []), (401, 12, 0, 0, []), (402, 34, 0, 0, []), (403, 5, 0, 0, []), (404, 4, 0, 4, []), (406, 0, 2, 0, []), (407, 12, 0, 0, []), (408, 34, 0, 0, []), (409, 5, 0, 3, []), (410, 52, 87, 92, []), (413, 8, 0, 5, []), (415, 5, 0, 2, []), (416, 5, 0, 0, []), (417, 4, 0, 4, []), (419, 0, 1, 0, []), (420, 12, 0, 0, []), (421, 34, 0, 0, []), (422, 5, 0, 0, []), (423, 4, 0, 4, []), (425, 0, 2, 0, []), (426, 12, 0, 0, []), (427, 34, 0, 0, []), (428, 50, 89, 69, []), (431, 8, 0, 6, []), (433, 5, 0, 2, []), (434, 50, 72, 48, []), (437, 4, 0, 5, []), (439, 24, 0, 444, []), (442, 0, 0, 0, []), (443, 61, 0, 0, []), (444, 4, 0, 5, []), (446, 19, 0, 461, []), (449, 5, 0, 3, []), (450, 0, 0, 0, []), (451, 38, 0, 0, []), (452, 4, 0, 6, []), (454, 41, 0, 0, []), (455, 42, 0, 0, []), (456, 18, 0, 461, []), (459, 0, 0, 0, []), (460, 61, 0, 0, []), (461, 30, 0, 1019, []), (464, 5, 0, 1, []), (465, 5, 0, 0, []), (466, 4, 0, 4, []), (468, 0, 1, 0, []), (469, 12, 0, 0, []), (470, 34, 0, 0, []), (471, 5, 0, 3, []), (472, 52, 90, 93, []), (475, 8, 0, 5, []), (477, 5, 0, 2, []), (478, 5, 0, 0, []), (479, 4, 0, 4, []), (481, 0, 1, 0, []), (482, 12, 0, 0, []), (483, 34, 0, 0, []), (484, 50, 92, 70, []), (487, 8, 0, 6, []), (489, 5, 0, 2, []), (490, 50, 72, 48, []), (493, 4, 0, 5, []), (495, 24, 0, 500, []), (498, 0, 0, 0, []), (499, 61, 0, 0, []), (500, 4, 0, 5, []), (502, 19, 0, 517, []), (505, 5, 0, 3, []), (506, 0, 0, 0, []), (507, 38, 0, 0, []), (508, 4, 0, 6, []), (510, 41, 0, 0, []), (511, 42, 0, 0, []), (512, 18, 0, 517, []), (515, 0, 0, 0, []), (516, 61, 0, 0, []), (517, 30, 0, 1019, []), (520, 5, 0, 1, []), (521, 50, 93, 6, []), (524, 5, 0, 2, []), (525, 50, 96, 71, []), (528, 24, 0, 1019, []), (531, 0, 0, 0, []), (532, 61, 0, 0, []), (533, 5, 0, 1, []), (534, 5, 0, 0, []), (535, 4, 0, 4, []), (537, 0, 1, 0, []), (538, 12, 0, 0, []), (539, 34, 0, 0, []), (540, 50, 97, 7, []), (543, 5, 0, 2, []), (544, 5, 0, 0, []), (545, 4, 0, 4, []), (547, 0, 1, 0, []), (548, 12, 0, 0, []), (549, 34, 0, 0, []), (550, 50, 100, 72, []), (553, 24, 0, 1019, []), (556, 0, 0, 0, []), (557, 61, 0, 0, []), (558, 5, 0, 1, []), (559, 5, 0, 0, []), (560, 4, 0, 4, []), (562, 0, 1, 0, []), (563, 12, 0, 0, []), (564, 34, 0, 0, []), (565, 5, 0, 0, []), (566, 4, 0, 4, []), (568, 0, 2, 0, []), (569, 12, 0, 0, []), (570, 34, 0, 0, []), (571, 18, 0, 578, []), (574, 0, 1, 0, []), (575, 30, 0, 579, []), (578, 0, 0, 0, []), (579, 52, 101, 94, []), (582, 8, 0, 5, []), (584, 5, 0, 2, []), (585, 5, 0, 0, []), (586, 4, 0, 4, []), (588, 0, 1, 0, []), (589, 12, 0, 0, []), (590, 34, 0, 0, []), (591, 5, 0, 0, []), (592, 4, 0, 4, []), (594, 0, 2, 0, []), (595, 12, 0, 0, []), (596, 34, 0, 0, []), (597, 18, 0, 604, []), (600, 0, 1, 0, []), (601, 30, 0, 605, []), (604, 0, 0, 0, []), (605, 50, 104, 73, []), (608, 5, 0, 2, []), (609, 50, 72, 48, []), (612, 4, 0, 5, []), (614, 24, 0, 619, []), (617, 0, 0, 0, []), (618, 61, 0, 0, []), (619, 30, 0, 1019, []), (622, 5, 0, 1, []), (623, 5, 0, 3, []), (624, 52, 105, 95, []), (627, 8, 0, 5, []), (629, 5, 0, 2, []), (630, 50, 108, 74, []), (633, 8, 0, 6, []), (635, 5, 0, 2, []), (636, 50, 72, 48, []), (639, 4, 0, 5, []), (641, 24, 0, 646, []), (644, 0, 0, 0, []), (645, 61, 0, 0, []), (646, 4, 0, 5, []), (648, 19, 0, 663, []), (651, 5, 0, 3, []), (652, 0, 0, 0, []), (653, 38, 0, 0, []), (654, 4, 0, 6, []), (656, 41, 0, 0, []), (657, 42, 0, 0, []), (658, 18, 0, 663, []), (661, 0, 0, 0, []), (662, 61, 0, 0, []), (663, 30, 0, 1019, []), (666, 5, 0, 1, []), (667, 5, 0, 0, []), (668, 4, 0, 4, []), (670, 0, 1, 0, []), (671, 12, 0, 0, []), (672, 34, 0, 0, []), (673, 50, 109, 10, []), (676, 5, 0, 2, []), (677, 5, 0, 0, []), (678, 4, 0, 4, []), (680, 0, 1, 0, []), (681, 12, 0, 0, []), (682, 34, 0, 0, []), (683, 50, 112, 75, []), (686, 24, 0, 1019, []), (689, 0, 0, 0, []), (690, 61, 0, 0, []), (691, 5, 0, 1, []), (692, 50, 113, 11, []), (695, 5, 0, 2, []), (696, 50, 116, 61, []), (699, 24, 0, 1019, []), (702, 0, 0, 0, []), (703, 61, 0, 0, []), (704, 5, 0, 1, []), (705, 5, 0, 0, []), (706, 4, 0, 4, []), (708, 0, 1, 0, []), (709, 12, 0, 0, []), (710, 34, 0, 0, []), (711, 5, 0, 3, []), (712, 52, 117, 96, []), (715, 8, 0, 5, []), (717, 5, 0, 2, []), (718, 5, 0, 0, []), (719, 4, 0, 4, []), (721, 0, 1, 0, []), (722, 12, 0, 0, []), (723, 34, 0, 0, []), (724, 50, 119, 76, []), (727, 8, 0, 6, []), (729, 5, 0, 2, []), (730, 50, 72, 48, []), (733, 4, 0, 5, []), (735, 24, 0, 740, []), (738, 0, 0, 0, []), (739, 61, 0, 0, []), (740, 4, 0, 5, []), (742, 19, 0, 757, []), (745, 5, 0, 3, []), (746, 0, 0, 0, []), (747, 38, 0, 0, []), (748, 4, 0, 6, []), (750, 41, 0, 0, []), (751, 42, 0, 0, []), (752, 18, 0, 757, []), (755, 0, 0, 0, []), (756, 61, 0, 0, []), (757, 30, 0, 1019, []), (760, 5, 0, 1, []), (761, 5, 0, 0, []), (762, 4, 0, 4, []), (764, 0, 1, 0, []), (765, 12, 0, 0, []), (766, 34, 0, 0, []), (767, 5, 0, 0, []), (768, 4, 0, 4, []), (770, 0, 2, 0, []), (771, 12, 0, 0, []), (772, 34, 0, 0, []), (773, 5, 0, 3, []), (774, 52, 120, 97, []), (777, 8, 0, 5, []), (779, 5, 0, 2, []), (780, 5, 0, 0, []), (781, 4, 0, 4, []), (783, 0, 1, 0, []), (784, 12, 0, 0, []), (785, 34, 0, 0, []), (786, 5, 0, 0, []), (787, 4, 0, 4, []), (789, 0, 2, 0, []), (790, 12, 0, 0, []), (791, 34, 0, 0, []), (792, 50, 122, 79, []), (795, 8, 0, 6, []), (797, 5, 0, 2, []), (798, 50, 72, 48, []), (801, 4, 0, 5, []), (803, 24, 0, 808, []), (806, 0, 0, 0, []), (807, 61, 0, 0, []), (808, 4, 0, 5, []), (810, 19, 0, 825, []), (813, 5, 0, 3, []), (814, 0, 0, 0, []), (815, 38, 0, 0, []), (816, 4, 0, 6, []), (818, 41, 0, 0, []), (819, 42, 0, 0, []), (820, 18, 0, 825, []), (823, 0, 0, 0, []), (824, 61, 0, 0, []), (825, 30, 0, 1019, []), (828, 5, 0, 1, []), (829, 5, 0, 0, []), (830, 4, 0, 4, []), (832, 0, 1, 0, []), (833, 12, 0, 0, []), (834, 34, 0, 0, []), (835, 5, 0, 3, []), (836, 52, 123, 98, []), (839, 8, 0, 5, []), (841, 5, 0, 2, []), (842, 5, 0, 0, []), (843, 4, 0, 4, []), (845, 0, 1, 0, []), (846, 12, 0, 0, []), (847, 34, 0, 0, []), (848, 50, 125, 83, []), (851, 8, 0, 6, []), (853, 5, 0, 2, []), (854, 50, 72, 48, []), (857, 4, 0, 5, []), (859, 24, 0, 864, []), (862, 0, 0, 0, []), (863, 61, 0, 0, []), (864, 4, 0, 5, []), (866, 19, 0, 881, []), (869, 5, 0, 3, []), (870, 0, 0, 0, []), (871, 38, 0, 0, []), (872, 4, 0, 6, []), (874, 41, 0, 0, []), (875, 42, 0, 0, []), (876, 18, 0, 881, []), (879, 0, 0, 0, []), (880, 61, 0, 0, []), (881, 30, 0, 1019, []), (884, 5, 0, 1, []), (885, 5, 0, 0, []), (886, 4, 0, 4, []), (888, 0, 1, 0, []), (889, 12, 0, 0, []), (890, 34, 0, 0, []), (891, 5, 0, 0, []), (892, 4, 0, 4, []), (894, 0, 2, 0, []), (895, 12, 0, 0, []), (896, 34, 0, 0, []), (897, 5, 0, 3, []), (898, 52, 126, 99, []), (901, 8, 0, 5, []), (903, 5, 0, 2, []), (904, 5, 0, 0, []), (905, 4, 0, 4, []), (907, 0, 1, 0, []), (908, 12, 0, 0, []), (909, 34, 0, 0, []), (910, 5, 0, 0, []), (911, 4, 0, 4, []), (913, 0, 2, 0, []), (914, 12, 0, 0, []), (915, 34, 0, 0, []), (916, 50, 128, 84, []), (919, 8, 0, 6, []), (921, 5, 0, 2, []), (922, 50, 72, 48, []), (925, 4, 0, 5, []), (927, 24, 0, 932, []), (930, 0, 0, 0, []), (931, 61, 0, 0, []), (932, 4, 0, 5, []), (934, 19, 0, 949, []), (937, 5, 0, 3, []), (938, 0, 0, 0, []), (939, 38, 0, 0, []), (940, 4, 0, 6, []), (942, 41, 0, 0, []), (943, 42, 0, 0, []), (944, 18, 0, 949, []), (947, 0, 0, 0, []), (948, 61, 0, 0, []), (949, 30, 0, 1019, []), (952, 5, 0, 1, []), (953, 5, 0, 0, []), (954, 4, 0, 4, []), (956, 0, 1, 0, []), (957, 12, 0, 0, []), (958, 34, 0, 0, []), (959, 5, 0, 3, []), (960, 52, 129, 100, []), (963, 8, 0, 5, []), (965, 5, 0, 2, []), (966, 5, 0, 0, []), (967, 4, 0, 4, []), (969, 0, 1, 0, []), (970, 12, 0, 0, []), (971, 34, 0, 0, []), (972, 50, 131, 85, []), (975, 8, 0, 6, []), (977, 5, 0, 2, []), (978, 50, 72, 48, []), (981, 4, 0, 5, []), (983, 24, 0, 988, []), (986, 0, 0, 0, []), (987, 61, 0, 0, []), (988, 4, 0, 5, []), (990, 19, 0, 1005, []), (993, 5, 0, 3, []), (994, 0, 0, 0, []), (995, 38, 0, 0, []), (996, 4, 0, 6, []), (998, 41, 0, 0, []), (999, 42, 0, 0, []), (1000, 18, 0, 1005, []), (1003, 0, 0, 0, []), (1004, 61, 0, 0, []), (1005, 30, 0, 1019, []), (1008, 5, 0, 1, []), (1009, 50, 132, 17, []), (1012, 5, 0, 2, []), (1013, 50, 135, 86, []), (1016, 30, 0, 1019, []), (1019, 11, 5, 4, []), (1022, 30, 0, 23, []), (1025, 0, 1, 0, []), (1026, 61, 0, 0, [])]
def am_codes : List (List (Nat × En)) := [am_c0, am_c1, am_c2, am_c3, am_c4, am_c5, am_c6, am_c7, am_c8, am_c9, am_c10, am_c11, am_c12, am_c13, am_c14, am_c15, am_c16, am_c17, am_c18, am_c19, am_c20, am_c21, am_c22, am_c23, am_c24, am_c25, am_c26, am_c27, am_c28, am_c29, am_c30, am_c31, am_c32, am_c33, am_c34, am_c35, am_c36, am_c37, am_c38, am_c39, am_c40, am_c41, am_c42, am_c43, am_c44, am_c45, am_c46, am_c47, am_c48, am_c49, am_c50, am_c51, am_c52, am_c53, am_c54, am_c55, am_c56, am_c57, am_c58, am_c59, am_c60, am_c61, am_c62, am_c63, am_c64, am_c65, am_c66, am_c67, am_c68, am_c69, am_c70, am_c71, am_c72, am_c73, am_c74, am_c75, am_c76, am_c77, am_c78, am_c79, am_c80, am_c81, am_c82, am_c83, am_c84, am_c85, am_c86, am_c87, am_c88, am_c89, am_c90, am_c91, am_c92, am_c93, am_c94, am_c95, am_c96, am_c97, am_c98, am_c99, am_c100, am_c101]
def am_code (mid : Nat) : List (Nat × En) := am_codes.getD mid []
end
section
/-! what the tables say is what the bytecode says -/
def am_dcd (pc : Nat) (e : En) : Instr × Nat := match e with
  | (op, x, k, ts) => match op with
    | 0 => (.iconst x, 1)
    | 1 => (.bipush x, 2)
    | 2 => (.sipush x, 3)
    | 3 => (.iload_n (Fin.ofNat 4 k), 1)
    | 4 => (.iload k, 2)
    | 5 => (.aload_n (Fin.ofNat 4 k), 1)
    | 6 => (.aload k, 2)
    | 7 => (.istore_n (Fin.ofNat 4 k), 1)
    | 8 => (.istore k, 2)
    | 9 => (.astore_n (Fin.ofNat 4 k), 1)
    | 10 => (.astore k, 2)
    | 11 => (.iinc k x, 3)
    | 12 => (.iadd, 1)
    | 13 => (.isub, 1)
    | 14 => (.imul, 1)
    | 15 => (.iand, 1)
    | 16 => (.dup, 1)
    | 17 => (.pop, 1)
    | 18 => (.ifCond .eq ((k : Int) - (pc : Int)), 3)
    | 19 => (.ifCond .ne ((k : Int) - (pc : Int)), 3)
    | 20 => (.ifCond .lt ((k : Int) - (pc : Int)), 3)
    | 21 => (.ifCond .ge ((k : Int) - (pc : Int)), 3)
    | 22 => (.ifCond .gt ((k : Int) - (pc : Int)), 3)
    | 23 => (.ifCond .le ((k : Int) - (pc : Int)), 3)
    | 24 => (.if_icmp .eq ((k : Int) - (pc : Int)), 3)
    | 25 => (.if_icmp .ne ((k : Int) - (pc : Int)), 3)
    | 26 => (.if_icmp .lt ((k : Int) - (pc : Int)), 3)
    | 27 => (.if_icmp .ge ((k : Int) - (pc : Int)), 3)
    | 28 => (.if_icmp .gt ((k : Int) - (pc : Int)), 3)
    | 29 => (.if_icmp .le ((k : Int) - (pc : Int)), 3)
    | 30 => (.goto ((k : Int) - (pc : Int)), 3)
    | 31 => (.tableswitch (ts.getD 0 0 - (pc : Int)) x (x + (ts.length : Int) - 2) ((ts.drop 1).map (fun t => t - (pc : Int))).toArray, k)
    | 32 => (.getfield x.toNat, 3)
    | 33 => (.putfield x.toNat, 3)
    | 34 => (.iaload, 1)
    | 35 => (.iastore, 1)
    | 36 => (.baload, 1)
    | 37 => (.bastore, 1)
    | 38 => (.laload, 1)
    | 39 => (.lastore, 1)
    | 40 => (.arraylength, 1)
    | 41 => (.i2l, 1)
    | 42 => (.lcmp, 1)
    | 43 => (.invokestatic x.toNat, 3)
    | 50 => (.invokevirtual x.toNat, 3)
    | 51 => (.invokestatic x.toNat, 3)
    | 52 => (.invokestatic x.toNat, 3)
    | 60 => (.ireturn, 1)
    | 61 => (.ireturn, 1)
    | 62 => (.return_, 1)
    | 63 => (.new x.toNat, 3)
    | _ => (.nop, 0)
def am_room (mid k : Nat) : Prop := k < am_law ∧ am_fr k + 1 ≤ am_fr mid ∧ 8 + (am_nl k + 11) + am_lo k ≤ am_lo mid
def am_ck (mid op : Nat) (x : Int) (k : Nat) (ts : List Int) : Bool :=
  if op < 2 then decide (-128 ≤ x ∧ x < 128)
  else if op = 2 then decide (-32768 ≤ x ∧ x < 32768)
  else if op = 3 ∨ op = 5 ∨ op = 7 ∨ op = 9 then decide (k < 4)
  else if op = 31 then decide ((∀ t ∈ ts, 0 ≤ t) ∧ 2 ≤ ts.length)
  else if op = 32 ∨ op = 33 then decide (am_ob mid < 2 ∧ k < am_nf (am_ob mid) ∧ (x.toNat, k) ∈ am_flk (am_ob mid))
  else if op = 43 then decide (x.toNat = am_min ∧ am_ob mid = 0 ∧ 1 ≤ am_fr mid ∧ 21 ≤ am_lo mid)
  else if op = 50 then decide ((am_ob mid, x.toNat, k) ∈ am_mlV ∧ k < am_law ∧ am_fr k + 1 ≤ am_fr mid ∧ 8 + (am_nl k + 11) + am_lo k ≤ am_lo mid)
  else if op = 51 then decide ((am_ob mid, x.toNat, k) ∈ am_mlS ∧ k < am_law ∧ am_fr k + 1 ≤ am_fr mid ∧ 8 + (am_nl k + 11) + am_lo k ≤ am_lo mid)
  else if op = 52 then decide ((am_ob mid, x.toNat, k) ∈ am_mlW ∧ k < am_law ∧ am_fr k + 1 ≤ am_fr mid ∧ 8 + (am_nl k + 11) + am_lo k ≤ am_lo mid)
  else if op = 60 then decide (am_rt mid = some .int)
  else if op = 61 then decide (am_rt mid = some .boolean)
  else if op = 62 then decide (am_rt mid = none)
  else if op = 63 then decide ((am_ob mid, x.toNat, k, (ts.getD 0 0).toNat) ∈ am_ths ∧ am_tb mid = [] ∧ 6 ≤ am_fr mid ∧ 81 ≤ am_lo mid)
  else decide (op < 50)
/-- an entry is sound -/
def am_OK (mid : Nat) (e : Nat × En) : Prop := decode (am_cc mid) e.1 = .ok (am_dcd e.1 e.2) ∧ am_ck mid e.2.1 e.2.2.1 e.2.2.2.1 e.2.2.2.2 = true ∧
  (e.2.1 = 63 → decode (am_cc mid) (e.1 + 3) = .ok (.dup, 1) ∧ decode (am_cc mid) (e.1 + 4) = .ok (.invokespecial (e.2.2.2.2.getD 0 0).toNat, 3) ∧ decode (am_cc mid) (e.1 + 7) = .ok (.athrow, 1))
end
section
theorem am_k0 : ∀ e ∈ am_c0, am_OK 0 e := by unfold am_OK; decide +kernel
theorem am_k1 : ∀ e ∈ am_c1, am_OK 1 e := by unfold am_OK; decide +kernel
theorem am_k2 : ∀ e ∈ am_c2, am_OK 2 e := by unfold am_OK; decide +kernel
theorem am_k3 : ∀ e ∈ am_c3, am_OK 3 e := by unfold am_OK; decide +kernel
theorem am_k4 : ∀ e ∈ am_c4, am_OK 4 e := by unfold am_OK; decide +kernel
theorem am_k5 : ∀ e ∈ am_c5, am_OK 5 e := by unfold am_OK; decide +kernel
theorem am_k6 : ∀ e ∈ am_c6, am_OK 6 e := by unfold am_OK; decide +kernel
theorem am_k7 : ∀ e ∈ am_c7, am_OK 7 e := by unfold am_OK; decide +kernel
theorem am_k8 : ∀ e ∈ am_c8, am_OK 8 e := by unfold am_OK; decide +kernel
theorem am_k9 : ∀ e ∈ am_c9, am_OK 9 e := by unfold am_OK; decide +kernel
theorem am_k10 : ∀ e ∈ am_c10, am_OK 10 e := by unfold am_OK; decide +kernel
theorem am_k11 : ∀ e ∈ am_c11, am_OK 11 e := by unfold am_OK; decide +kernel
theorem am_k12 : ∀ e ∈ am_c12, am_OK 12 e := by unfold am_OK; decide +kernel
theorem am_k13 : ∀ e ∈ am_c13, am_OK 13 e := by unfold am_OK; decide +kernel
theorem am_k14 : ∀ e ∈ am_c14, am_OK 14 e := by unfold am_OK; decide +kernel
theorem am_k15 : ∀ e ∈ am_c15, am_OK 15 e := by unfold am_OK; decide +kernel
theorem am_k16 : ∀ e ∈ am_c16, am_OK 16 e := by unfold am_OK; decide +kernel
theorem am_k17 : ∀ e ∈ am_c17, am_OK 17 e := by unfold am_OK; decide +kernel
theorem am_k18 : ∀ e ∈ am_c18, am_OK 18 e := by unfold am_OK; decide +kernel
theorem am_k19 : ∀ e ∈ am_c19, am_OK 19 e := by unfold am_OK; decide +kernel
theorem am_k20 : ∀ e ∈ am_c20, am_OK 20 e := by unfold am_OK; decide +kernel
theorem am_k21 : ∀ e ∈ am_c21, am_OK 21 e := by unfold am_OK; decide +kernel
theorem am_k22 : ∀ e ∈ am_c22, am_OK 22 e := by unfold am_OK; decide +kernel
theorem am_k23 : ∀ e ∈ am_c23, am_OK 23 e := by unfold am_OK; decide +kernel
theorem am_k24 : ∀ e ∈ am_c24, am_OK 24 e := by unfold am_OK; decide +kernel
theorem am_k25 : ∀ e ∈ am_c25, am_OK 25 e := by unfold am_OK; decide +kernel
theorem am_k26 : ∀ e ∈ am_c26, am_OK 26 e := by unfold am_OK; decide +kernel
theorem am_k27 : ∀ e ∈ am_c27, am_OK 27 e := by unfold am_OK; decide +kernel
theorem am_k28 : ∀ e ∈ am_c28, am_OK 28 e := by unfold am_OK; decide +kernel
theorem am_k29 : ∀ e ∈ am_c29, am_OK 29 e := by unfold am_OK; decide +kernel
theorem am_k30 : ∀ e ∈ am_c30, am_OK 30 e := by unfold am_OK; decide +kernel
theorem am_k31 : ∀ e ∈ am_c31, am_OK 31 e := by unfold am_OK; decide +kernel
theorem am_k32 : ∀ e ∈ am_c32, am_OK 32 e := by unfold am_OK; decide +kernel
theorem am_k33 : ∀ e ∈ am_c33, am_OK 33 e := by unfold am_OK; decide +kernel
theorem am_k34 : ∀ e ∈ am_c34, am_OK 34 e := by unfold am_OK; decide +kernel
theorem am_k35 : ∀ e ∈ am_c35, am_OK 35 e := by unfold am_OK; decide +kernel
theorem am_k36 : ∀ e ∈ am_c36, am_OK 36 e := by unfold am_OK; decide +kernel
theorem am_k37 : ∀ e ∈ am_c37, am_OK 37 e := by unfold am_OK; decide +kernel
theorem am_k38 : ∀ e ∈ am_c38, am_OK 38 e := by unfold am_OK; decide +kernel
theorem am_k39 : ∀ e ∈ am_c39, am_OK 39 e := by unfold am_OK; decide +kernel
theorem am_k40 : ∀ e ∈ am_c40, am_OK 40 e := by unfold am_OK; decide +kernel
theorem am_k41 : ∀ e ∈ am_c41, am_OK 41 e := by unfold am_OK; decide +kernel
theorem am_k42 : ∀ e ∈ am_c42, am_OK 42 e := by unfold am_OK; decide +kernel
theorem am_k43 : ∀ e ∈ am_c43, am_OK 43 e := by unfold am_OK; decide +kernel
theorem am_k44 : ∀ e ∈ am_c44, am_OK 44 e := by unfold am_OK; decide +kernel
theorem am_k45 : ∀ e ∈ am_c45, am_OK 45 e := by unfold am_OK; decide +kernel
theorem am_k46 : ∀ e ∈ am_c46, am_OK 46 e := by unfold am_OK; decide +kernel
theorem am_k47 : ∀ e ∈ am_c47, am_OK 47 e := by unfold am_OK; decide +kernel
end
section
theorem am_k48 : ∀ e ∈ am_c48, am_OK 48 e := by unfold am_OK; decide +kernel
theorem am_k49 : ∀ e ∈ am_c49, am_OK 49 e := by unfold am_OK; decide +kernel
theorem am_k50 : ∀ e ∈ am_c50, am_OK 50 e := by unfold am_OK; decide +kernel
theorem am_k51 : ∀ e ∈ am_c51, am_OK 51 e := by unfold am_OK; decide +kernel
theorem am_k52 : ∀ e ∈ am_c52, am_OK 52 e := by unfold am_OK; decide +kernel
theorem am_k53 : ∀ e ∈ am_c53, am_OK 53 e := by unfold am_OK; decide +kernel
theorem am_k54_0 : ∀ e ∈ (am_c54.drop 0).take 50, am_OK 54 e := by unfold am_OK; decide +kernel
theorem am_k54_1 : ∀ e ∈ (am_c54.drop 50).take 50, am_OK 54 e := by unfold am_OK; decide +kernel
set_option maxRecDepth 1000000 in
theorem am_k54 : ∀ e ∈ am_c54, am_OK 54 e := by
  intro e h
  rw [show am_c54 = (am_c54.drop 0).take 50 ++ (am_c54.drop 50).take 50 from rfl] at h
  simp only [List.mem_append] at h
  rcases h with (h | h)
  · exact am_k54_0 e h
  · exact am_k54_1 e h
theorem am_k55 : ∀ e ∈ am_c55, am_OK 55 e := by unfold am_OK; decide +kernel
theorem am_k56 : ∀ e ∈ am_c56, am_OK 56 e := by unfold am_OK; decide +kernel
theorem am_k57 : ∀ e ∈ am_c57, am_OK 57 e := by unfold am_OK; decide +kernel
theorem am_k58 : ∀ e ∈ am_c58, am_OK 58 e := by unfold am_OK; decide +kernel
theorem am_k59 : ∀ e ∈ am_c59, am_OK 59 e := by unfold am_OK; decide +kernel
theorem am_k60_0 : ∀ e ∈ (am_c60.drop 0).take 50, am_OK 60 e := by unfold am_OK; decide +kernel
theorem am_k60_1 : ∀ e ∈ (am_c60.drop 50).take 50, am_OK 60 e := by unfold am_OK; decide +kernel
theorem am_k60_2 : ∀ e ∈ (am_c60.drop 100).take 50, am_OK 60 e := by unfold am_OK; decide +kernel
set_option maxRecDepth 1000000 in
theorem am_k60 : ∀ e ∈ am_c60, am_OK 60 e := by
  intro e h
  rw [show am_c60 = (am_c60.drop 0).take 50 ++ (am_c60.drop 50).take 50 ++ (am_c60.drop 100).take 50 from rfl] at h
  simp only [List.mem_append] at h
  rcases h with ((h | h) | h)
  · exact am_k60_0 e h
  · exact am_k60_1 e h
  · exact am_k60_2 e h
theorem am_k61 : ∀ e ∈ am_c61, am_OK 61 e := by unfold am_OK; decide +kernel
theorem am_k62 : ∀ e ∈ am_c62, am_OK 62 e := by unfold am_OK; decide +kernel
theorem am_k63 : ∀ e ∈ am_c63, am_OK 63 e := by unfold am_OK; decide +kernel
theorem am_k64 : ∀ e ∈ am_c64, am_OK 64 e := by unfold am_OK; decide +kernel
theorem am_k65_0 : ∀ e ∈ (am_c65.drop 0).take 50, am_OK 65 e := by unfold am_OK; decide +kernel
theorem am_k65_1 : ∀ e ∈ (am_c65.drop 50).take 50, am_OK 65 e := by unfold am_OK; decide +kernel
theorem am_k65_2 : ∀ e ∈ (am_c65.drop 100).take 50, am_OK 65 e := by unfold am_OK; decide +kernel
set_option maxRecDepth 1000000 in
theorem am_k65 : ∀ e ∈ am_c65, am_OK 65 e := by
  intro e h
  rw [show am_c65 = (am_c65.drop 0).take 50 ++ (am_c65.drop 50).take 50 ++ (am_c65.drop 100).take 50 from rfl] at h
  simp only [List.mem_append] at h
  rcases h with ((h | h) | h)
  · exact am_k65_0 e h
  · exact am_k65_1 e h
  · exact am_k65_2 e h
theorem am_k66 : ∀ e ∈ am_c66, am_OK 66 e := by unfold am_OK; decide +kernel
theorem am_k67 : ∀ e ∈ am_c67, am_OK 67 e := by unfold am_OK; decide +kernel
theorem am_k68 : ∀ e ∈ am_c68, am_OK 68 e := by unfold am_OK; decide +kernel
theorem am_k69 : ∀ e ∈ am_c69, am_OK 69 e := by unfold am_OK; decide +kernel
theorem am_k70 : ∀ e ∈ am_c70, am_OK 70 e := by unfold am_OK; decide +kernel
theorem am_k71 : ∀ e ∈ am_c71, am_OK 71 e := by unfold am_OK; decide +kernel
theorem am_k72 : ∀ e ∈ am_c72, am_OK 72 e := by unfold am_OK; decide +kernel
theorem am_k73 : ∀ e ∈ am_c73, am_OK 73 e := by unfold am_OK; decide +kernel
theorem am_k74_0 : ∀ e ∈ (am_c74.drop 0).take 50, am_OK 74 e := by unfold am_OK; decide +kernel
theorem am_k74_1 : ∀ e ∈ (am_c74.drop 50).take 50, am_OK 74 e := by unfold am_OK; decide +kernel
set_option maxRecDepth 1000000 in
theorem am_k74 : ∀ e ∈ am_c74, am_OK 74 e := by
  intro e h
  rw [show am_c74 = (am_c74.drop 0).take 50 ++ (am_c74.drop 50).take 50 from rfl] at h
  simp only [List.mem_append] at h
  rcases h with (h | h)
  · exact am_k74_0 e h
  · exact am_k74_1 e h
theorem am_k75 : ∀ e ∈ am_c75, am_OK 75 e := by unfold am_OK; decide +kernel
theorem am_k76_0 : ∀ e ∈ (am_c76.drop 0).take 50, am_OK 76 e := by unfold am_OK; decide +kernel
theorem am_k76_1 : ∀ e ∈ (am_c76.drop 50).take 50, am_OK 76 e := by unfold am_OK; decide +kernel
set_option maxRecDepth 1000000 in
theorem am_k76 : ∀ e ∈ am_c76, am_OK 76 e := by
  intro e h
  rw [show am_c76 = (am_c76.drop 0).take 50 ++ (am_c76.drop 50).take 50 from rfl] at h
  simp only [List.mem_append] at h
  rcases h with (h | h)
  · exact am_k76_0 e h
  · exact am_k76_1 e h
theorem am_k77 : ∀ e ∈ am_c77, am_OK 77 e := by unfold am_OK; decide +kernel
theorem am_k78 : ∀ e ∈ am_c78, am_OK 78 e := by unfold am_OK; decide +kernel
theorem am_k79 : ∀ e ∈ am_c79, am_OK 79 e := by unfold am_OK; decide +kernel
theorem am_k80 : ∀ e ∈ am_c80, am_OK 80 e := by unfold am_OK; decide +kernel
theorem am_k81_0 : ∀ e ∈ (am_c81.drop 0).take 50, am_OK 81 e := by unfold am_OK; decide +kernel
theorem am_k81_1 : ∀ e ∈ (am_c81.drop 50).take 50, am_OK 81 e := by unfold am_OK; decide +kernel
set_option maxRecDepth 1000000 in
theorem am_k81 : ∀ e ∈ am_c81, am_OK 81 e := by
  intro e h
  rw [show am_c81 = (am_c81.drop 0).take 50 ++ (am_c81.drop 50).take 50 from rfl] at h
  simp only [List.mem_append] at h
  rcases h with (h | h)
  · exact am_k81_0 e h
  · exact am_k81_1 e h
theorem am_k82 : ∀ e ∈ am_c82, am_OK 82 e := by unfold am_OK; decide +kernel
theorem am_k83 : ∀ e ∈ am_c83, am_OK 83 e := by unfold am_OK; decide +kernel
theorem am_k84_0 : ∀ e ∈ (am_c84.drop 0).take 50, am_OK 84 e := by unfold am_OK; decide +kernel
theorem am_k84_1 : ∀ e ∈ (am_c84.drop 50).take 50, am_OK 84 e := by unfold am_OK; decide +kernel
set_option maxRecDepth 1000000 in
theorem am_k84 : ∀ e ∈ am_c84, am_OK 84 e := by
  intro e h
  rw [show am_c84 = (am_c84.drop 0).take 50 ++ (am_c84.drop 50).take 50 from rfl] at h
  simp only [List.mem_append] at h
  rcases h with (h | h)
  · exact am_k84_0 e h
  · exact am_k84_1 e h
theorem am_k85 : ∀ e ∈ am_c85, am_OK 85 e := by unfold am_OK; decide +kernel
theorem am_k86 : ∀ e ∈ am_c86, am_OK 86 e := by unfold am_OK; decide +kernel
theorem am_k87 : ∀ e ∈ am_c87, am_OK 87 e := by unfold am_OK; decide +kernel
theorem am_k88 : ∀ e ∈ am_c88, am_OK 88 e := by unfold am_OK; decide +kernel
theorem am_k89 : ∀ e ∈ am_c89, am_OK 89 e := by unfold am_OK; decide +kernel
theorem am_k90 : ∀ e ∈ am_c90, am_OK 90 e := by unfold am_OK; decide +kernel
theorem am_k91 : ∀ e ∈ am_c91, am_OK 91 e := by unfold am_OK; decide +kernel
theorem am_k92 : ∀ e ∈ am_c92, am_OK 92 e := by unfold am_OK; decide +kernel
theorem am_k93 : ∀ e ∈ am_c93, am_OK 93 e := by unfold am_OK; decide +kernel
theorem am_k94 : ∀ e ∈ am_c94, am_OK 94 e := by unfold am_OK; decide +kernel
theorem am_k95 : ∀ e ∈ am_c95, am_OK 95 e := by unfold am_OK; decide +kernel
theorem am_k96 : ∀ e ∈ am_c96, am_OK 96 e := by unfold am_OK; decide +kernel
theorem am_k97 : ∀ e ∈ am_c97, am_OK 97 e := by unfold am_OK; decide +kernel
theorem am_k98 : ∀ e ∈ am_c98, am_OK 98 e := by unfold am_OK; decide +kernel
theorem am_k99 : ∀ e ∈ am_c99, am_OK 99 e := by unfold am_OK; decide +kernel
theorem am_k100 : ∀ e ∈ am_c100, am_OK 100 e := by unfold am_OK; decide +kernel
end
section
theorem am_k101_0 : ∀ e ∈ (am_c101.drop 0).take 50, am_OK 101 e := by unfold am_OK; decide +kernel
theorem am_k101_1 : ∀ e ∈ (am_c101.drop 50).take 50, am_OK 101 e := by unfold am_OK; decide +kernel
theorem am_k101_2 : ∀ e ∈ (am_c101.drop 100).take 50, am_OK 101 e := by unfold am_OK; decide +kernel
theorem am_k101_3 : ∀ e ∈ (am_c101.drop 150).take 50, am_OK 101 e := by unfold am_OK; decide +kernel
theorem am_k101_4 : ∀ e ∈ (am_c101.drop 200).take 50, am_OK 101 e := by unfold am_OK; decide +kernel
theorem am_k101_5 : ∀ e ∈ (am_c101.drop 250).take 50, am_OK 101 e := by unfold am_OK; decide +kernel
theorem am_k101_6 : ∀ e ∈ (am_c101.drop 300).take 50, am_OK 101 e := by unfold am_OK; decide +kernel
theorem am_k101_7 : ∀ e ∈ (am_c101.drop 350).take 50, am_OK 101 e := by unfold am_OK; decide +kernel
theorem am_k101_8 : ∀ e ∈ (am_c101.drop 400).take 50, am_OK 101 e := by unfold am_OK; decide +kernel
theorem am_k101_9 : ∀ e ∈ (am_c101.drop 450).take 50, am_OK 101 e := by unfold am_OK; decide +kernel
theorem am_k101_10 : ∀ e ∈ (am_c101.drop 500).take 50, am_OK 101 e := by unfold am_OK; decide +kernel
theorem am_k101_11 : ∀ e ∈ (am_c101.drop 550).take 50, am_OK 101 e := by unfold am_OK; decide +kernel
set_option maxRecDepth 1000000 in
theorem am_k101 : ∀ e ∈ am_c101, am_OK 101 e := by
  intro e h
  rw [show am_c101 = (am_c101.drop 0).take 50 ++ (am_c101.drop 50).take 50 ++ (am_c101.drop 100).take 50 ++ (am_c101.drop 150).take 50 ++ (am_c101.drop 200).take 50 ++ (am_c101.drop 250).take 50 ++ (am_c101.drop 300).take 50 ++ (am_c101.drop 350).take 50 ++ (am_c101.drop 400).take 50 ++ (am_c101.drop 450).take 50 ++ (am_c101.drop 500).take 50 ++ (am_c101.drop 550).take 50 from rfl] at h
  simp only [List.mem_append] at h
  rcases h with (((((((((((h | h) | h) | h) | h) | h) | h) | h) | h) | h) | h) | h)
  · exact am_k101_0 e h
  · exact am_k101_1 e h
  · exact am_k101_2 e h
  · exact am_k101_3 e h
  · exact am_k101_4 e h
  · exact am_k101_5 e h
  · exact am_k101_6 e h
  · exact am_k101_7 e h
  · exact am_k101_8 e h
  · exact am_k101_9 e h
  · exact am_k101_10 e h
  · exact am_k101_11 e h
theorem am_okA (mid : Nat) (e : Nat × En) (h : e ∈ am_code mid) : am_OK mid e := by
  by_cases h0 : mid = 0
  · subst h0; exact am_k0 e h
  by_cases h1 : mid = 1
  · subst h1; exact am_k1 e h
  by_cases h2 : mid = 2
  · subst h2; exact am_k2 e h
  by_cases h3 : mid = 3
  · subst h3; exact am_k3 e h
  by_cases h4 : mid = 4
  · subst h4; exact am_k4 e h
  by_cases h5 : mid = 5
  · subst h5; exact am_k5 e h
  by_cases h6 : mid = 6
  · subst h6; exact am_k6 e h
  by_cases h7 : mid = 7
  · subst h7; exact am_k7 e h
  by_cases h8 : mid = 8
  · subst h8; exact am_k8 e h
  by_cases h9 : mid = 9
  · subst h9; exact am_k9 e h
  by_cases h10 : mid = 10
  · subst h10; exact am_k10 e h
  by_cases h11 : mid = 11
  · subst h11; exact am_k11 e h
  by_cases h12 : mid = 12
  · subst h12; exact am_k12 e h
  by_cases h13 : mid = 13
  · subst h13; exact am_k13 e h
  by_cases h14 : mid = 14
  · subst h14; exact am_k14 e h
  by_cases h15 : mid = 15
  · subst h15; exact am_k15 e h
  by_cases h16 : mid = 16
  · subst h16; exact am_k16 e h
  by_cases h17 : mid = 17
  · subst h17; exact am_k17 e h
  by_cases h18 : mid = 18
  · subst h18; exact am_k18 e h
  by_cases h19 : mid = 19
  · subst h19; exact am_k19 e h
  by_cases h20 : mid = 20
  · subst h20; exact am_k20 e h
  by_cases h21 : mid = 21
  · subst h21; exact am_k21 e h
  by_cases h22 : mid = 22
  · subst h22; exact am_k22 e h
  by_cases h23 : mid = 23
  · subst h23; exact am_k23 e h
  by_cases h24 : mid = 24
  · subst h24; exact am_k24 e h
  by_cases h25 : mid = 25
  · subst h25; exact am_k25 e h
  by_cases h26 : mid = 26
  · subst h26; exact am_k26 e h
  by_cases h27 : mid = 27
  · subst h27; exact am_k27 e h
  by_cases h28 : mid = 28
  · subst h28; exact am_k28 e h
  by_cases h29 : mid = 29
  · subst h29; exact am_k29 e h
  by_cases h30 : mid = 30
  · subst h30; exact am_k30 e h
  by_cases h31 : mid = 31
  · subst h31; exact am_k31 e h
  by_cases h32 : mid = 32
  · subst h32; exact am_k32 e h
  by_cases h33 : mid = 33
  · subst h33; exact am_k33 e h
  by_cases h34 : mid = 34
  · subst h34; exact am_k34 e h
  by_cases h35 : mid = 35
  · subst h35; exact am_k35 e h
  by_cases h36 : mid = 36
  · subst h36; exact am_k36 e h
  by_cases h37 : mid = 37
  · subst h37; exact am_k37 e h
  by_cases h38 : mid = 38
  · subst h38; exact am_k38 e h
  by_cases h39 : mid = 39
  · subst h39; exact am_k39 e h
  by_cases h40 : mid = 40
  · subst h40; exact am_k40 e h
  by_cases h41 : mid = 41
  · subst h41; exact am_k41 e h
  by_cases h42 : mid = 42
  · subst h42; exact am_k42 e h
  by_cases h43 : mid = 43
  · subst h43; exact am_k43 e h
  by_cases h44 : mid = 44
  · subst h44; exact am_k44 e h
  by_cases h45 : mid = 45
  · subst h45; exact am_k45 e h
  by_cases h46 : mid = 46
  · subst h46; exact am_k46 e h
  by_cases h47 : mid = 47
  · subst h47; exact am_k47 e h
  by_cases h48 : mid = 48
  · subst h48; exact am_k48 e h
  by_cases h49 : mid = 49
  · subst h49; exact am_k49 e h
  by_cases h50 : mid = 50
  · subst h50; exact am_k50 e h
  by_cases h51 : mid = 51
  · subst h51; exact am_k51 e h
  by_cases h52 : mid = 52
  · subst h52; exact am_k52 e h
  by_cases h53 : mid = 53
  · subst h53; exact am_k53 e h
  by_cases h54 : mid = 54
  · subst h54; exact am_k54 e h
  by_cases h55 : mid = 55
  · subst h55; exact am_k55 e h
  by_cases h56 : mid = 56
  · subst h56; exact am_k56 e h
  by_cases h57 : mid = 57
  · subst h57; exact am_k57 e h
  by_cases h58 : mid = 58
  · subst h58; exact am_k58 e h
  by_cases h59 : mid = 59
  · subst h59; exact am_k59 e h
  by_cases h60 : mid = 60
  · subst h60; exact am_k60 e h
  by_cases h61 : mid = 61
  · subst h61; exact am_k61 e h
  by_cases h62 : mid = 62
  · subst h62; exact am_k62 e h
  by_cases h63 : mid = 63
  · subst h63; exact am_k63 e h
  by_cases h64 : mid = 64
  · subst h64; exact am_k64 e h
  by_cases h65 : mid = 65
  · subst h65; exact am_k65 e h
  by_cases h66 : mid = 66
  · subst h66; exact am_k66 e h
  by_cases h67 : mid = 67
  · subst h67; exact am_k67 e h
  by_cases h68 : mid = 68
  · subst h68; exact am_k68 e h
  by_cases h69 : mid = 69
  · subst h69; exact am_k69 e h
  by_cases h70 : mid = 70
  · subst h70; exact am_k70 e h
  by_cases h71 : mid = 71
  · subst h71; exact am_k71 e h
  by_cases h72 : mid = 72
  · subst h72; exact am_k72 e h
  by_cases h73 : mid = 73
  · subst h73; exact am_k73 e h
  by_cases h74 : mid = 74
  · subst h74; exact am_k74 e h
  by_cases h75 : mid = 75
  · subst h75; exact am_k75 e h
  by_cases h76 : mid = 76
  · subst h76; exact am_k76 e h
  by_cases h77 : mid = 77
  · subst h77; exact am_k77 e h
  by_cases h78 : mid = 78
  · subst h78; exact am_k78 e h
  by_cases h79 : mid = 79
  · subst h79; exact am_k79 e h
  by_cases h80 : mid = 80
  · subst h80; exact am_k80 e h
  by_cases h81 : mid = 81
  · subst h81; exact am_k81 e h
  by_cases h82 : mid = 82
  · subst h82; exact am_k82 e h
  by_cases h83 : mid = 83
  · subst h83; exact am_k83 e h
  by_cases h84 : mid = 84
  · subst h84; exact am_k84 e h
  by_cases h85 : mid = 85
  · subst h85; exact am_k85 e h
  by_cases h86 : mid = 86
  · subst h86; exact am_k86 e h
  by_cases h87 : mid = 87
  · subst h87; exact am_k87 e h
  by_cases h88 : mid = 88
  · subst h88; exact am_k88 e h
  by_cases h89 : mid = 89
  · subst h89; exact am_k89 e h
  by_cases h90 : mid = 90
  · subst h90; exact am_k90 e h
  by_cases h91 : mid = 91
  · subst h91; exact am_k91 e h
  by_cases h92 : mid = 92
  · subst h92; exact am_k92 e h
  by_cases h93 : mid = 93
  · subst h93; exact am_k93 e h
  by_cases h94 : mid = 94
  · subst h94; exact am_k94 e h
  by_cases h95 : mid = 95
  · subst h95; exact am_k95 e h
  by_cases h96 : mid = 96
  · subst h96; exact am_k96 e h
  by_cases h97 : mid = 97
  · subst h97; exact am_k97 e h
  by_cases h98 : mid = 98
  · subst h98; exact am_k98 e h
  by_cases h99 : mid = 99
  · subst h99; exact am_k99 e h
  by_cases h100 : mid = 100
  · subst h100; exact am_k100 e h
  by_cases h101 : mid = 101
  · subst h101; exact am_k101 e h
  exfalso
  unfold am_code at h
  rw [List.getD_eq_getElem?_getD, List.getElem?_eq_none (by show 102 ≤ mid; omega)] at h
  cases h
end
section
/-! words of the methods that are called by invokevirtual -/
def am_kV : List Nat := [0, 1, 2, 3, 4, 5, 6, 7, 8, 9, 10, 11, 12, 13, 14, 15, 16, 17, 18, 19, 20, 21, 22, 23, 24, 26, 27, 28, 29, 30, 31, 32, 33, 34, 35, 36, 37, 38, 39, 40, 41, 42, 43, 44, 45, 46, 47, 48, 49, 50, 51, 52, 53, 54, 55, 56, 57, 58, 59, 60, 61, 62, 63, 64, 65, 66, 67, 68, 69, 70, 71, 72, 73, 74, 75, 76, 77, 78, 79, 80, 81, 82, 83, 84, 85, 86]
theorem am_wI_0 : ∀ k ∈ ([0, 1, 2, 3, 4, 5, 6, 7, 8, 9, 10, 11] : List Nat), Cond.instanceMethod (am_y k) ∈ lw_tbl := by decide +kernel
theorem am_wI_1 : ∀ k ∈ ([12, 13, 14, 15, 16, 17, 18, 19, 20, 21, 22, 23] : List Nat), Cond.instanceMethod (am_y k) ∈ lw_tbl := by decide +kernel
theorem am_wI_2 : ∀ k ∈ ([24, 26, 27, 28, 29, 30, 31, 32, 33, 34, 35, 36] : List Nat), Cond.instanceMethod (am_y k) ∈ lw_tbl := by decide +kernel
theorem am_wI_3 : ∀ k ∈ ([37, 38, 39, 40, 41, 42, 43, 44, 45, 46, 47, 48] : List Nat), Cond.instanceMethod (am_y k) ∈ lw_tbl := by decide +kernel
theorem am_wI_4 : ∀ k ∈ ([49, 50, 51, 52, 53, 54, 55, 56, 57, 58, 59, 60] : List Nat), Cond.instanceMethod (am_y k) ∈ lw_tbl := by decide +kernel
theorem am_wI_5 : ∀ k ∈ ([61, 62, 63, 64, 65, 66, 67, 68, 69, 70, 71, 72] : List Nat), Cond.instanceMethod (am_y k) ∈ lw_tbl := by decide +kernel
theorem am_wI_6 : ∀ k ∈ ([73, 74, 75, 76, 77, 78, 79, 80, 81, 82, 83, 84] : List Nat), Cond.instanceMethod (am_y k) ∈ lw_tbl := by decide +kernel
theorem am_wI_7 : ∀ k ∈ ([85, 86] : List Nat), Cond.instanceMethod (am_y k) ∈ lw_tbl := by decide +kernel
theorem am_wI : ∀ k ∈ am_kV, Cond.instanceMethod (am_y k) ∈ lw_tbl := by
  intro k h
  rw [show am_kV = ([0, 1, 2, 3, 4, 5, 6, 7, 8, 9, 10, 11] : List Nat) ++ ([12, 13, 14, 15, 16, 17, 18, 19, 20, 21, 22, 23] : List Nat) ++ ([24, 26, 27, 28, 29, 30, 31, 32, 33, 34, 35, 36] : List Nat) ++ ([37, 38, 39, 40, 41, 42, 43, 44, 45, 46, 47, 48] : List Nat) ++ ([49, 50, 51, 52, 53, 54, 55, 56, 57, 58, 59, 60] : List Nat) ++ ([61, 62, 63, 64, 65, 66, 67, 68, 69, 70, 71, 72] : List Nat) ++ ([73, 74, 75, 76, 77, 78, 79, 80, 81, 82, 83, 84] : List Nat) ++ ([85, 86] : List Nat) from rfl] at h
  simp only [List.mem_append] at h
  rcases h with (((((((h | h) | h) | h) | h) | h) | h) | h)
  · exact am_wI_0 k h
  · exact am_wI_1 k h
  · exact am_wI_2 k h
  · exact am_wI_3 k h
  · exact am_wI_4 k h
  · exact am_wI_5 k h
  · exact am_wI_6 k h
  · exact am_wI_7 k h
theorem am_wS_0 : ∀ k ∈ ([0, 1, 2, 3, 4, 5, 6, 7, 8, 9, 10, 11] : List Nat), Cond.selects (am_cC (am_ob k)) (am_y k) (am_y k) ∈ lw_tbl := by decide +kernel
theorem am_wS_1 : ∀ k ∈ ([12, 13, 14, 15, 16, 17, 18, 19, 20, 21, 22, 23] : List Nat), Cond.selects (am_cC (am_ob k)) (am_y k) (am_y k) ∈ lw_tbl := by decide +kernel
theorem am_wS_2 : ∀ k ∈ ([24, 26, 27, 28, 29, 30, 31, 32, 33, 34, 35, 36] : List Nat), Cond.selects (am_cC (am_ob k)) (am_y k) (am_y k) ∈ lw_tbl := by decide +kernel
theorem am_wS_3 : ∀ k ∈ ([37, 38, 39, 40, 41, 42, 43, 44, 45, 46, 47, 48] : List Nat), Cond.selects (am_cC (am_ob k)) (am_y k) (am_y k) ∈ lw_tbl := by decide +kernel
theorem am_wS_4 : ∀ k ∈ ([49, 50, 51, 52, 53, 54, 55, 56, 57, 58, 59, 60] : List Nat), Cond.selects (am_cC (am_ob k)) (am_y k) (am_y k) ∈ lw_tbl := by decide +kernel
theorem am_wS_5 : ∀ k ∈ ([61, 62, 63, 64, 65, 66, 67, 68, 69, 70, 71, 72] : List Nat), Cond.selects (am_cC (am_ob k)) (am_y k) (am_y k) ∈ lw_tbl := by decide +kernel
theorem am_wS_6 : ∀ k ∈ ([73, 74, 75, 76, 77, 78, 79, 80, 81, 82, 83, 84] : List Nat), Cond.selects (am_cC (am_ob k)) (am_y k) (am_y k) ∈ lw_tbl := by decide +kernel
theorem am_wS_7 : ∀ k ∈ ([85, 86] : List Nat), Cond.selects (am_cC (am_ob k)) (am_y k) (am_y k) ∈ lw_tbl := by decide +kernel
theorem am_wS : ∀ k ∈ am_kV, Cond.selects (am_cC (am_ob k)) (am_y k) (am_y k) ∈ lw_tbl := by
  intro k h
  rw [show am_kV = ([0, 1, 2, 3, 4, 5, 6, 7, 8, 9, 10, 11] : List Nat) ++ ([12, 13, 14, 15, 16, 17, 18, 19, 20, 21, 22, 23] : List Nat) ++ ([24, 26, 27, 28, 29, 30, 31, 32, 33, 34, 35, 36] : List Nat) ++ ([37, 38, 39, 40, 41, 42, 43, 44, 45, 46, 47, 48] : List Nat) ++ ([49, 50, 51, 52, 53, 54, 55, 56, 57, 58, 59, 60] : List Nat) ++ ([61, 62, 63, 64, 65, 66, 67, 68, 69, 70, 71, 72] : List Nat) ++ ([73, 74, 75, 76, 77, 78, 79, 80, 81, 82, 83, 84] : List Nat) ++ ([85, 86] : List Nat) from rfl] at h
  simp only [List.mem_append] at h
  rcases h with (((((((h | h) | h) | h) | h) | h) | h) | h)
  · exact am_wS_0 k h
  · exact am_wS_1 k h
  · exact am_wS_2 k h
  · exact am_wS_3 k h
  · exact am_wS_4 k h
  · exact am_wS_5 k h
  · exact am_wS_6 k h
  · exact am_wS_7 k h
end
section
theorem am_wC_0 : ∀ k ∈ ([0, 1, 2, 3, 4, 5, 6, 7, 8, 9, 10, 11] : List Nat), Cond.code (am_y k) (am_cc k) (am_nl k) (am_rt k) ∈ lw_tbl := by decide +kernel
theorem am_wC_1 : ∀ k ∈ ([12, 13, 14, 15, 16, 17, 18, 19, 20, 21, 22, 23] : List Nat), Cond.code (am_y k) (am_cc k) (am_nl k) (am_rt k) ∈ lw_tbl := by decide +kernel
theorem am_wC_2 : ∀ k ∈ ([24, 26, 27, 28, 29, 30, 31, 32, 33, 34, 35, 36] : List Nat), Cond.code (am_y k) (am_cc k) (am_nl k) (am_rt k) ∈ lw_tbl := by decide +kernel
theorem am_wC_3 : ∀ k ∈ ([37, 38, 39, 40, 41, 42, 43, 44, 45, 46, 47, 48] : List Nat), Cond.code (am_y k) (am_cc k) (am_nl k) (am_rt k) ∈ lw_tbl := by decide +kernel
theorem am_wC_4 : ∀ k ∈ ([49, 50, 51, 52, 53, 54, 55, 56, 57, 58, 59, 60] : List Nat), Cond.code (am_y k) (am_cc k) (am_nl k) (am_rt k) ∈ lw_tbl := by decide +kernel
theorem am_wC_5 : ∀ k ∈ ([61, 62, 63, 64, 65, 66, 67, 68, 69, 70, 71, 72] : List Nat), Cond.code (am_y k) (am_cc k) (am_nl k) (am_rt k) ∈ lw_tbl := by decide +kernel
theorem am_wC_6 : ∀ k ∈ ([73, 74, 75, 76, 77, 78, 79, 80, 81, 82, 83, 84] : List Nat), Cond.code (am_y k) (am_cc k) (am_nl k) (am_rt k) ∈ lw_tbl := by decide +kernel
theorem am_wC_7 : ∀ k ∈ ([85, 86] : List Nat), Cond.code (am_y k) (am_cc k) (am_nl k) (am_rt k) ∈ lw_tbl := by decide +kernel
theorem am_wC : ∀ k ∈ am_kV, Cond.code (am_y k) (am_cc k) (am_nl k) (am_rt k) ∈ lw_tbl := by
  intro k h
  rw [show am_kV = ([0, 1, 2, 3, 4, 5, 6, 7, 8, 9, 10, 11] : List Nat) ++ ([12, 13, 14, 15, 16, 17, 18, 19, 20, 21, 22, 23] : List Nat) ++ ([24, 26, 27, 28, 29, 30, 31, 32, 33, 34, 35, 36] : List Nat) ++ ([37, 38, 39, 40, 41, 42, 43, 44, 45, 46, 47, 48] : List Nat) ++ ([49, 50, 51, 52, 53, 54, 55, 56, 57, 58, 59, 60] : List Nat) ++ ([61, 62, 63, 64, 65, 66, 67, 68, 69, 70, 71, 72] : List Nat) ++ ([73, 74, 75, 76, 77, 78, 79, 80, 81, 82, 83, 84] : List Nat) ++ ([85, 86] : List Nat) from rfl] at h
  simp only [List.mem_append] at h
  rcases h with (((((((h | h) | h) | h) | h) | h) | h) | h)
  · exact am_wC_0 k h
  · exact am_wC_1 k h
  · exact am_wC_2 k h
  · exact am_wC_3 k h
  · exact am_wC_4 k h
  · exact am_wC_5 k h
  · exact am_wC_6 k h
  · exact am_wC_7 k h
end
section
/-! the words, and what the tables say of classes, calls and throws -/
def am_ws : List Cond := lw_tbl.filter goodWord
theorem am_inw {w : Cond} (h : w ∈ lw_tbl) (hg : goodWord w = true) : w ∈ am_ws := List.mem_filter.mpr ⟨h, hg⟩
theorem am_goodw {w : Cond} (h : w ∈ am_ws) : (w.onTables && w.keeps) = true ∨ ∃ ty, w = .arrayClass ty := good_of_word (List.mem_filter.mp h).2
def am_wsm (mid : Nat) : List Cond := (if am_tb mid = [] then Cond.code (am_y mid) (am_cc mid) (am_nl mid) (am_rt mid) else Cond.codeWith (am_y mid) (am_cc mid) (am_nl mid) (am_rt mid) (am_tb mid)) :: am_ws
/-- words that stay, though not by the kit's good ones -/
def am_xw : List Cond := [.castable (am_en 0) (am_en 0), .castable (am_en 1) (am_en 1), .castable (am_en 2) (am_en 2), .castable (am_en 3) (am_en 3), .declares (Bundle.init0 "java/lang/RuntimeException"), .declares (Bundle.init0 "java/lang/Exception"), .declares (Bundle.init0 "java/lang/Throwable")]
theorem am_xw_in : ∀ w ∈ am_xw, w ∈ lw_tbl := by decide +kernel
theorem am_ths_a : ∀ q ∈ am_ths, q.2.2.1 < 4 ∧ Bundle.fit (am_en q.2.2.1) = true := by decide +kernel
theorem am_ths_b : ∀ q ∈ am_ths, Cond.classLink (am_cC q.1) q.2.1 (am_en q.2.2.1) ∈ lw_tbl := by decide +kernel
theorem am_ths_c : ∀ q ∈ am_ths, Cond.initialized (am_en q.2.2.1) ∈ lw_tbl := by decide +kernel
theorem am_ths_d : ∀ q ∈ am_ths, ∀ w ∈ (vx_at0 (am_cC q.1) q.2.2.2 (am_en q.2.2.1) am_sup).filter goodWord, w ∈ lw_tbl := by decide +kernel
theorem am_ths_e : ∀ q ∈ am_ths, ∀ w ∈ (vx_at0 (am_cC q.1) q.2.2.2 (am_en q.2.2.1) am_sup).filter (fun w => !goodWord w), w ∈ am_xw := by decide +kernel
theorem am_ths_f : ∀ q ∈ am_ths, ∀ w ∈ Cond.classLink (am_cC q.1) q.2.1 (am_en q.2.2.1) :: Cond.initialized (am_en q.2.2.1) :: vx_at0 (am_cC q.1) q.2.2.2 (am_en q.2.2.1) am_sup, vx_ot w = true := by decide +kernel
theorem am_sup_ok : ∀ n ∈ am_sup, Bundle.fit n = true := by decide +kernel
def am_mN (k n : Nat) : Prop := (am_y k).cls = am_cC (am_ob k) ∧ (am_y k).cls ≠ "java/lang/invoke/MethodHandle" ∧ (am_y k).cls ≠ "java/lang/invoke/VarHandle" ∧ (parseMethodDescriptor (am_y k).desc).map (fun d => d.parameters.length) = some n
theorem am_mlV_n : ∀ q ∈ am_mlV, am_tb q.2.2 = [] ∧ am_ob q.2.2 < 2 ∧ 1 ≤ am_na q.2.2 ∧ (am_y q.2.2).cls = am_cC (am_ob q.2.2) ∧ (am_y q.2.2).cls ≠ "java/lang/invoke/MethodHandle" ∧ (am_y q.2.2).cls ≠ "java/lang/invoke/VarHandle" ∧ (parseMethodDescriptor (am_y q.2.2).desc).map (fun d => d.parameters.length) = some (am_na q.2.2 - 1) := by decide +kernel
theorem am_mlV_a : ∀ q ∈ am_mlV, Cond.methodLink (am_cC q.1) q.2.1 (am_y q.2.2) ∈ lw_tbl := by decide +kernel
theorem am_ini0 : Cond.initialized (am_cC 0) ∈ lw_tbl ∧ Cond.initialized (am_cC 1) ∈ lw_tbl := by decide +kernel
theorem am_mlS_n : ∀ q ∈ am_mlS, am_tb q.2.2 = [] ∧ (am_y q.2.2).cls ≠ "java/lang/invoke/MethodHandle" ∧ (am_y q.2.2).cls ≠ "java/lang/invoke/VarHandle" ∧ (parseMethodDescriptor (am_y q.2.2).desc).map (fun d => d.parameters.length) = some (am_na q.2.2) := by decide +kernel
theorem am_mlS_w : ∀ q ∈ am_mlS, ∀ w ∈ ([.methodLink (am_cC q.1) q.2.1 (am_y q.2.2), .static (am_y q.2.2), .initialized (am_y q.2.2).cls, .code (am_y q.2.2) (am_cc q.2.2) (am_nl q.2.2) (am_rt q.2.2)] : List Cond), w ∈ lw_tbl ∧ goodWord w = true := by decide +kernel
theorem am_mlW_n : ∀ q ∈ am_mlW, am_tb q.2.2 ≠ [] ∧ (am_y q.2.2).cls ≠ "java/lang/invoke/MethodHandle" ∧ (am_y q.2.2).cls ≠ "java/lang/invoke/VarHandle" ∧ (parseMethodDescriptor (am_y q.2.2).desc).map (fun d => d.parameters.length) = some (am_na q.2.2) := by decide +kernel
theorem am_mlW_w : ∀ q ∈ am_mlW, ∀ w ∈ ([.methodLink (am_cC q.1) q.2.1 (am_y q.2.2), .static (am_y q.2.2), .initialized (am_y q.2.2).cls, .codeWith (am_y q.2.2) (am_cc q.2.2) (am_nl q.2.2) (am_rt q.2.2) (am_tb q.2.2)] : List Cond), w ∈ lw_tbl ∧ goodWord w = true := by decide +kernel
theorem am_flk_w0 : ∀ q ∈ am_flk 0, Cond.fieldLink (am_cC 0) q.1 (am_cC 0) (am_cT 0 q.2).2.1 (am_cT 0 q.2).2.2.1 ∈ lw_tbl := by decide +kernel
theorem am_flk_w1 : ∀ q ∈ am_flk 1, Cond.fieldLink (am_cC 1) q.1 (am_cC 1) (am_cT 1 q.2).2.1 (am_cT 1 q.2).2.2.1 ∈ lw_tbl := by decide +kernel
theorem am_fin0 : ∀ w ∈ u_ws (am_cC 0) (am_cT 0) (am_nf 0), w ∈ lw_tbl ∧ goodWord w = true := by decide +kernel
theorem am_fin1 : ∀ w ∈ u_ws (am_cC 1) (am_cT 1) (am_nf 1), w ∈ lw_tbl ∧ goodWord w = true := by decide +kernel
theorem am_minw0 : ∀ w ∈ ([.methodLink (am_cC 0) am_min Lib.Math.min.name, .static Lib.Math.min.name, .initialized "java/lang/Math", .code Lib.Math.min.name Lib.Math.min.code 2 (some .int)] : List Cond), w ∈ lw_tbl ∧ goodWord w = true := by decide +kernel
theorem am_ct_ok : ∀ ct ∈ am_cts, ct ≠ 0 ∧ am_ce ct < 4 ∧ Cond.classLink (am_cC 2) ct (am_en (am_ce ct)) ∈ lw_tbl := by decide +kernel
theorem am_okM0 : ∀ mid, mid < 101 → plainName (am_y mid).cls = true ∧ (am_y mid).cls = am_cC (am_ob mid) ∧ am_na mid ≤ am_nl mid := by decide +kernel
theorem am_tb_cts : ∀ mid, mid < 102 → am_tb mid = [] ∨ (am_ob mid = 2 ∧ ∀ q ∈ am_tb mid, q.2.2.2 ∈ am_cts) := by decide +kernel
/-- pairs of exceptions that are no kinds of each other -/
def am_nc : List (String × String) := [(am_en 0, am_en 1), (am_en 0, am_en 2), (am_en 0, am_en 3), (am_en 1, am_en 0), (am_en 1, am_en 2), (am_en 1, am_en 3), (am_en 2, am_en 0), (am_en 2, am_en 1), (am_en 2, am_en 3), (am_en 3, am_en 0), (am_en 3, am_en 1), (am_en 3, am_en 2)]
theorem am_nc_in0 : ∀ i, i < 4 → ∀ j, j < 4 → (i = j ∨ (am_en i, am_en j) ∈ am_nc) := by decide +kernel
theorem am_fl_27a : ∀ o, o < 2 → ∀ k, k < 18 → am_fl o k < 30 → am_fl o k < 27 := by decide +kernel
theorem am_fl_inj0 : ∀ o, o < 2 → ∀ i, i < am_nf o → ∀ k, k < am_nf o → am_fl o i = am_fl o k → 30 ≤ am_fl o i → i = k := by decide +kernel
theorem am_fl_two0 : ∀ i, i < 18 → ∀ k, k < 17 → (am_fl 0 i ≠ am_fl 1 k ∨ am_fl 1 k < 30) := by decide +kernel
theorem am_T10 : ∀ o, o < 2 → ∀ k, k < am_nf o → (am_cT o k).1 = am_cC o := by decide +kernel
theorem am_cY_ok0 : ∀ o, o < 2 → ∀ k, k < am_nf o → parseFieldDescriptor (am_cT o k).2.2.1 = some (am_cY o k) := by decide +kernel
theorem am_nm0 : ∀ o, o < 2 → ∀ a, a < am_nf o → ∀ b, b < am_nf o → a ≠ b → (am_cT o a).2.1 ≠ (am_cT o b).2.1 := by decide +kernel
theorem am_int0 : ∀ o, o < 2 → ∀ k, k < am_nf o → 30 ≤ am_fl o k → (am_cT o k).2.2.2 = false ∧ parseFieldDescriptor (am_cT o k).2.2.1 = some .int := by decide +kernel
theorem am_fl_inj {o i k : Nat} (h : o < 2) (hi : i < am_nf o) (hk : k < am_nf o) (he : am_fl o i = am_fl o k) (h30 : 30 ≤ am_fl o i) : i = k := am_fl_inj0 o h i hi k hk he h30
theorem am_fl_two {o p i k : Nat} (h : o < 2) (hp : p < 2) (hne : o ≠ p) (hi : i < am_nf o) (hk : k < am_nf p) (he : am_fl o i = am_fl p k) (h30 : 30 ≤ am_fl p k) : False := by
  rcases (show (o = 0 ∧ p = 1) ∨ (o = 1 ∧ p = 0) by omega) with ⟨rfl, rfl⟩ | ⟨rfl, rfl⟩
  · rcases am_fl_two0 i hi k hk with h1 | h1
    · exact h1 he
    · omega
  · rcases am_fl_two0 k hk i hi with h1 | h1
    · exact h1 he.symm
    · omega
theorem am_fl_27 (o k : Nat) (h : am_fl o k < 30) : am_fl o k < 27 := by
  by_cases ho : o < 2
  · by_cases hk : k < 18
    · exact am_fl_27a o ho k hk h
    · exfalso
      unfold am_fl at h
      rcases (show o = 0 ∨ o = 1 by omega) with rfl | rfl
      · rw [if_pos rfl, List.getD_eq_getElem?_getD, List.getElem?_eq_none (by show 18 ≤ k; omega)] at h
        exact absurd h (by decide)
      · rw [if_neg (by decide), if_pos rfl, List.getD_eq_getElem?_getD, List.getElem?_eq_none (by show 17 ≤ k; omega)] at h
        exact absurd h (by decide)
  · exfalso
    unfold am_fl at h
    rw [if_neg (by omega), if_neg (by omega)] at h
    exact absurd h (by decide)
theorem am_cl_at {o : Nat} (h : o < 2) : am_cl[o]? = some (am_cC o, am_cT o, am_nf o) := by
  rcases (show o = 0 ∨ o = 1 by omega) with rfl | rfl <;> rfl
theorem am_fin {o : Nat} (h : o < 2) : ∀ w ∈ u_ws (am_cC o) (am_cT o) (am_nf o), w ∈ am_ws := by
  rcases (show o = 0 ∨ o = 1 by omega) with rfl | rfl
  · exact fun w hw => am_inw (am_fin0 w hw).1 (am_fin0 w hw).2
  · exact fun w hw => am_inw (am_fin1 w hw).1 (am_fin1 w hw).2
theorem am_flk_in {o i k : Nat} (h : o < 2) (hin : (i, k) ∈ am_flk o) : Cond.fieldLink (am_cC o) i (am_cC o) (am_cT o k).2.1 (am_cT o k).2.2.1 ∈ am_ws := by
  rcases (show o = 0 ∨ o = 1 by omega) with rfl | rfl
  · exact am_inw (am_flk_w0 _ hin) rfl
  · exact am_inw (am_flk_w1 _ hin) rfl
theorem am_okc0 {pc mid op k : Nat} {x : Int} {ts : List Int} (h : (pc, op, x, k, ts) ∈ am_code mid) : decode (am_cc mid) pc = .ok (am_dcd pc (op, x, k, ts)) ∧ am_ck mid op x k ts = true := ⟨(am_okA mid _ h).1, (am_okA mid _ h).2.1⟩
theorem am_wV : ∀ q ∈ am_mlV, q.2.2 ∈ am_kV := by decide +kernel
end
section
/-! The abstract machine: ints are Int, references are places in the world, one state for the class, the reference and the law. -/
abbrev AV : Type := Int ⊕ (Nat ⊕ Int)
abbrev St : Type := Nat → Int → Int
abbrev Ou : Type := Option Int ⊕ Nat
abbrev Fr : Type := Nat × List AV × List AV × St
abbrev OpT : Type := (Int → Int) → Int → Nat → List Int → Nat → Nat → List AV → List AV → St → Option Fr
def am_R (z : Int) : Prop := -2147483648 ≤ z ∧ z ≤ 2147483647
def am_Rb (z : Int) : Bool := decide (-2147483648 ≤ z) && decide (z ≤ 2147483647)
theorem am_Rb_iff {z : Int} : am_Rb z = true ↔ am_R z := by simp [am_Rb, am_R]
def am_u1 (f : Int → Int) (j v : Int) : Int → Int := fun i => if i = j then v else f i
def am_up (σ : St) (k : Nat) (j v : Int) : St := fun k' => if k' = k then am_u1 (σ k) j v else σ k'
theorem am_u1_s {f : Int → Int} {j v : Int} : am_u1 f j v j = v := if_pos rfl
theorem am_u1_n {f : Int → Int} {j v i : Int} (h : i ≠ j) : am_u1 f j v i = f i := if_neg h
theorem am_up_s {σ : St} {k : Nat} {j v : Int} : am_up σ k j v k = am_u1 (σ k) j v := if_pos rfl
theorem am_up_n {σ : St} {k k' : Nat} {j v : Int} (h : k' ≠ k) : am_up σ k j v k' = σ k' := if_neg h
/-- a value that takes one place -/
def am_one (v : AV) : Bool := match v with
  | .inr (.inr _) => false
  | _ => true
/-- no caught exception -/
def am_nx27 (v : AV) : Bool := match v with
  | .inr (.inl k) => decide (k ≠ 27)
  | _ => true
-- one step: constants, locals, arithmetic, stack
def am_oK (len : Nat) : OpT := fun _ x _ _ _ pc L S σ => some (pc + len, L, .inl x :: S, σ)
def am_oIL (len : Nat) : OpT := fun _ _ k _ _ pc L S σ => match L[k]? with
  | some (.inl z) => some (pc + len, L, .inl z :: S, σ)
  | _ => none
def am_oAL (len : Nat) : OpT := fun _ _ k _ _ pc L S σ => match L[k]? with
  | some (.inr (.inl r)) => some (pc + len, L, .inr (.inl r) :: S, σ)
  | _ => none
def am_oIS (len : Nat) : OpT := fun _ _ k _ _ pc L S σ => match S with
  | .inl z :: S' => if k < L.length then some (pc + len, L.set k (.inl z), S', σ) else none
  | _ => none
def am_oAS (len : Nat) : OpT := fun _ _ k _ _ pc L S σ => match S with
  | .inr (.inl r) :: S' => if k < L.length then some (pc + len, L.set k (.inr (.inl r)), S', σ) else none
  | _ => none
def am_oInc : OpT := fun _ x k _ _ pc L S σ => match L[k]? with
  | some (.inl z) => if am_Rb (z + x) = true then some (pc + 3, L.set k (.inl (z + x)), S, σ) else none
  | _ => none
def am_oAdd : OpT := fun _ _ _ _ _ pc L S σ => match S with
  | .inl y :: .inl x :: S' => if am_Rb (x + y) = true then some (pc + 1, L, .inl (x + y) :: S', σ) else none
  | _ => none
def am_oSub : OpT := fun _ _ _ _ _ pc L S σ => match S with
  | .inl y :: .inl x :: S' => if am_Rb (x - y) = true then some (pc + 1, L, .inl (x - y) :: S', σ) else none
  | _ => none
def am_oMul : OpT := fun _ _ _ _ _ pc L S σ => match S with
  | .inl y :: .inl x :: S' => if am_Rb (x * y) = true then some (pc + 1, L, .inl (x * y) :: S', σ) else none
  | _ => none
def am_oAnd : OpT := fun _ _ _ _ _ pc L S σ => match S with
  | .inl y :: .inl x :: S' => if y = 31 then some (pc + 1, L, .inl (x % 32) :: S', σ) else none
  | _ => none
def am_oDup : OpT := fun _ _ _ _ _ pc L S σ => match S with
  | v :: S' => if am_one v = true then some (pc + 1, L, v :: v :: S', σ) else none
  | _ => none
def am_oPop : OpT := fun _ _ _ _ _ pc L S σ => match S with
  | v :: S' => if am_one v = true then some (pc + 1, L, S', σ) else none
  | _ => none
def am_oIf (t : Int → Bool) : OpT := fun _ _ k _ _ pc L S σ => match S with
  | .inl z :: S' => some (if t z = true then k else pc + 3, L, S', σ)
  | _ => none
def am_oCmp (t : Int → Int → Bool) : OpT := fun _ _ k _ _ pc L S σ => match S with
  | .inl y :: .inl x :: S' => some (if t x y = true then k else pc + 3, L, S', σ)
  | _ => none
def am_oGo : OpT := fun _ _ k _ _ _ L S σ => some (k, L, S, σ)
/-- ts: the targets: the default's, then those of lo = x, lo + 1 .. -/
def am_oSw : OpT := fun _ x _ ts _ _ L S σ => match S with
  | .inl z :: S' => if z < x ∨ x + (ts.length - 1 : Int) ≤ z then some ((ts.getD 0 0).toNat, L, S', σ) else some ((ts.getD ((z - x).toNat + 1) 0).toNat, L, S', σ)
  | _ => none
-- fields and arrays
def am_oGet : OpT := fun _ _ k _ mid pc L S σ => match S with
  | .inr (.inl o) :: S' => if o = am_ob mid then some (pc + 3, L, (if am_fl o k < 30 then .inr (.inl (am_fl o k)) else .inl (σ (am_fl o k) 0)) :: S', σ) else none
  | _ => none
def am_oPut : OpT := fun _ _ k _ mid pc L S σ => match S with
  | .inl z :: .inr (.inl o) :: S' => if o = am_ob mid ∧ 30 ≤ am_fl o k then some (pc + 3, L, S', am_up σ (am_fl o k) 0 z) else none
  | _ => none
def am_oIald : OpT := fun sc _ _ _ mid pc L S σ => match S with
  | .inl i :: .inr (.inl j) :: S' => if am_at j = 0 ∧ 0 ≤ i ∧ i < am_ln j then some (pc + 1, L, .inl (σ j i) :: S', σ)
      else if j = 28 ∧ mid = am_law ∧ 0 ≤ i ∧ i < sc (-1) then some (pc + 1, L, .inl (sc i) :: S', σ) else none
  | _ => none
def am_oIast : OpT := fun _ _ _ _ _ pc L S σ => match S with
  | .inl v :: .inl i :: .inr (.inl j) :: S' => if am_at j = 0 ∧ 0 ≤ i ∧ i < am_ln j then some (pc + 1, L, S', am_up σ j i v) else none
  | _ => none
def am_oBald : OpT := fun _ _ _ _ _ pc L S σ => match S with
  | .inl i :: .inr (.inl j) :: S' => if am_at j = 1 ∧ 0 ≤ i ∧ i < am_ln j then some (pc + 1, L, .inl (σ j i) :: S', σ) else none
  | _ => none
def am_oBast : OpT := fun _ _ _ _ _ pc L S σ => match S with
  | .inl v :: .inl i :: .inr (.inl j) :: S' => if am_at j = 1 ∧ 0 ≤ i ∧ i < am_ln j ∧ (v = 0 ∨ v = 1) then some (pc + 1, L, S', am_up σ j i v) else none
  | _ => none
def am_oLald : OpT := fun _ _ _ _ _ pc L S σ => match S with
  | .inl i :: .inr (.inl j) :: S' => if am_at j = 2 ∧ 0 ≤ i ∧ i < am_ln j then some (pc + 1, L, .inr (.inr (σ j i)) :: S', σ) else none
  | _ => none
def am_oLast : OpT := fun _ _ _ _ _ pc L S σ => match S with
  | .inr (.inr v) :: .inl i :: .inr (.inl j) :: S' => if am_at j = 2 ∧ 0 ≤ i ∧ i < am_ln j then some (pc + 1, L, S', am_up σ j i v) else none
  | _ => none
def am_oLen : OpT := fun sc _ _ _ mid pc L S σ => match S with
  | .inr (.inl j) :: S' => if am_at j < 3 then some (pc + 1, L, .inl (am_ln j) :: S', σ) else if j = 28 ∧ mid = am_law then some (pc + 1, L, .inl (sc (-1)) :: S', σ) else none
  | _ => none
def am_oI2l : OpT := fun _ _ _ _ _ pc L S σ => match S with
  | .inl z :: S' => some (pc + 1, L, .inr (.inr z) :: S', σ)
  | _ => none
def am_oLcmp : OpT := fun _ _ _ _ _ pc L S σ => match S with
  | .inr (.inr y) :: .inr (.inr x) :: S' => some (pc + 1, L, .inl (if y < x then 1 else if x = y then 0 else -1) :: S', σ)
  | _ => none
def am_oMin : OpT := fun _ _ _ _ _ pc L S σ => match S with
  | .inl y :: .inl x :: S' => if S'.length ≤ 4 then some (pc + 3, L, .inl (if y < x then y else x) :: S', σ) else none
  | _ => none
def am_ops : List OpT := [am_oK 1, am_oK 2, am_oK 3, am_oIL 1, am_oIL 2, am_oAL 1, am_oAL 2, am_oIS 1, am_oIS 2, am_oAS 1, am_oAS 2, am_oInc, am_oAdd, am_oSub, am_oMul, am_oAnd, am_oDup, am_oPop,
  am_oIf (fun z => decide (z = 0)), am_oIf (fun z => decide (z ≠ 0)), am_oIf (fun z => decide (z < 0)), am_oIf (fun z => decide (0 ≤ z)), am_oIf (fun z => decide (0 < z)), am_oIf (fun z => decide (z ≤ 0)),
  am_oCmp (fun x y => decide (x = y)), am_oCmp (fun x y => decide (x ≠ y)), am_oCmp (fun x y => decide (x < y)), am_oCmp (fun x y => decide (y ≤ x)), am_oCmp (fun x y => decide (y < x)), am_oCmp (fun x y => decide (x ≤ y)),
  am_oGo, am_oSw, am_oGet, am_oPut, am_oIald, am_oIast, am_oBald, am_oBast, am_oLald, am_oLast, am_oLen, am_oI2l, am_oLcmp, am_oMin]
def am_nx (sc : Int → Int) (op : Nat) (x : Int) (k : Nat) (ts : List Int) (mid pc : Nat) (L S : List AV) (σ : St) : Option Fr := match am_ops[op]? with
  | some f => f sc x k ts mid pc L S σ
  | none => none
def am_lk (pc : Nat) : List (Nat × En) → Option En
  | [] => none
  | q :: r => if q.1 = pc then some q.2 else am_lk pc r
/-- an answer on the stack -/
def am_rv (v : Option Int) : List AV := match v with
  | none => []
  | some z => [.inl z]
/-- the row of a table that takes E at pc -/
def am_hd1 (pc E : Nat) : List (Nat × Nat × Nat × Nat) → Option Nat
  | [] => none
  | q :: r => if q.1 ≤ pc ∧ pc < q.2.1 ∧ am_ce q.2.2.2 = E then some q.2.2.1 else am_hd1 pc E r
def am_hd (mid pc E : Nat) : Option Nat := am_hd1 pc E (am_tb mid)
/-- is it the object at place o -/
def am_isR (v : Option AV) (o : Nat) : Bool := match v with
  | some (.inr (.inl q)) => decide (q = o)
  | _ => false
/-- may the call be made: arguments on the stack, the receiver -/
def am_cal (op k : Nat) (S : List AV) : Bool := decide (am_na k ≤ S.length) && (S.take (am_na k)).all am_one && decide (S.length ≤ am_na k + 4) && (decide (op ≠ 50) || am_isR S[am_na k - 1]? (am_ob k))
/-- t more exceptions were made -/
def am_pl (t : Nat) (r : Option (Ou × St × Nat)) : Option (Ou × St × Nat) := match r with
  | some (o, σ, t2) => some (o, σ, t2 + t)
  | none => none
theorem am_pl_some {t : Nat} {r : Option (Ou × St × Nat)} {o : Ou} {σ : St} {u : Nat} (h : am_pl t r = some (o, σ, u)) : ∃ t2, r = some (o, σ, t2) ∧ u = t2 + t := by
  cases r with
  | none => cases h
  | some q =>
    obtain ⟨o1, σ1, t1⟩ := q
    cases h
    exact ⟨t1, rfl, rfl⟩
/-- a method's locals at its entry -/
def am_ent (c : Nat) (as : List AV) : List AV := as ++ List.replicate (am_nl c - as.length) (.inr (.inr 0))
/-- one more step of a run: rc is the run with less fuel -/
def am_stp2 (sc : Int → Int) (rc : Nat → Nat → List AV → List AV → St → Option (Ou × St × Nat)) (mid pc : Nat) (L S : List AV) (σ : St) : Option (Ou × St × Nat) := match am_lk pc (am_code mid) with
  | none => none
  | some (op, x, k, ts) =>
    if op < 50 then match am_nx sc op x k ts mid pc L S σ with
      | some (pc', L', S', σ') => rc mid pc' L' S' σ'
      | none => none
    else if op < 60 then
      if am_cal op k S = true then match rc k 0 (am_ent k (S.take (am_na k)).reverse) [] σ with
        | some (.inl v, σ', t1) => am_pl t1 (rc mid (pc + 3) L (am_rv v ++ S.drop (am_na k)) σ')
        | some (.inr E, σ', t1) => match am_hd mid pc E with
          | none => if am_tb mid = [] then some (.inr E, σ', t1) else none
          | some h => if L.all am_nx27 = true then am_pl t1 (rc mid h L [.inr (.inl 27)] σ') else none
        | none => none
      else none
    else if op = 60 then match S with
      | [.inl z] => some (.inl (some z), σ, 0)
      | _ => none
    else if op = 61 then match S with
      | [.inl z] => if z = 0 ∨ z = 1 then some (.inl (some z), σ, 0) else none
      | _ => none
    else if op = 62 then match S with
      | [] => some (.inl none, σ, 0)
      | _ => none
    else if op = 63 then match S with
      | [] => some (.inr k, σ, 1)
      | _ => none
    else none
/-- the run, by fuel: the answer or what was thrown, the state, how many exceptions were made -/
def am_ex (sc : Int → Int) : Nat → Nat → Nat → List AV → List AV → St → Option (Ou × St × Nat)
  | 0 => fun _ _ _ _ _ => none
  | n + 1 => am_stp2 sc (am_ex sc n)
theorem am_ex_s {sc : Int → Int} {n mid pc : Nat} {L S : List AV} {σ : St} : am_ex sc (n + 1) mid pc L S σ = am_stp2 sc (am_ex sc n) mid pc L S σ := rfl
end
section
/-! The machine's words for the abstract ones; each step of the abstract machine is a step of the machine. -/
def am_cv (a : Nat → Nat) (v : AV) : Value := match v with
  | .inl z => .int (Int32.ofInt z)
  | .inr (.inl k) => .ref (a k)
  | .inr (.inr z) => .long (Int64.ofInt z)
def am_okV (v : AV) : Prop := match v with
  | .inl z => am_R z
  | .inr (.inl _) => True
  | .inr (.inr z) => am_R z
def am_okL (L : List AV) : Prop := ∀ v ∈ L, am_okV v
def am_okS (σ : St) : Prop := ∀ (k : Nat) (j : Int), am_R (σ k j)
/-- field k of the object at place o -/
def am_fv (a : Nat → Nat) (σ : St) (o k : Nat) : Value := if am_fl o k < 30 then .ref (a (am_fl o k)) else .int (Int32.ofInt (σ (am_fl o k) 0))
def am_cell (a : Nat → Nat) (cs : Nat → ClassId) (σ : St) (j : Nat) : Nat × va_E :=
  (a j, if j < 2 then .inr (j, (List.range (am_nf j)).map (am_fv a σ j)) else .inl (cs (am_at j), (am_ln j).toNat, if am_at j = 2 then .inr (.inl (fun i => Int64.ofInt (σ j i))) else .inl (fun i => Int32.ofInt (σ j i))))
def am_wd (a : Nat → Nat) (cs : Nat → ClassId) (σ : St) : va_W := (List.range 27).map (am_cell a cs σ)
def am_A (a : Nat → Nat) (sz : Nat) : Nat → Prop := fun q => (∃ k, k < 27 ∧ q = a k) ∨ sz ≤ q
def am_ty (cs : Nat → ClassId) : List (ClassId × FieldType) := [(cs 0, .int), (cs 1, .boolean), (cs 2, .long)]
def am_hl (a : Nat → Nat) (ls : Array Slot) (n : Nat) (L : List AV) : Prop := ls.size = n ∧ L.length = n ∧ lv_wf ls ∧ ∀ (i : Nat) (v : AV), L[i]? = some v → am_one v = true → ls[i]? = some (.val (am_cv a v))
-- numbers
theorem am_ofI {x : Int} (h : am_R x) : (Int32.ofInt x).toInt = x := Int32.toInt_ofInt_of_le (by have := h.1; omega) (by have := h.2; omega)
theorem am_eqI {x y : Int} (hx : am_R x) (hy : am_R y) : Int32.ofInt x = Int32.ofInt y ↔ x = y := by
  rw [← Int32.toInt_inj, am_ofI hx, am_ofI hy]
theorem am_ltI {x y : Int} (hx : am_R x) (hy : am_R y) : Int32.ofInt x < Int32.ofInt y ↔ x < y := by
  rw [Int32.lt_iff_toInt_lt, am_ofI hx, am_ofI hy]
theorem am_leI {x y : Int} (hx : am_R x) (hy : am_R y) : Int32.ofInt x ≤ Int32.ofInt y ↔ x ≤ y := by
  rw [Int32.le_iff_toInt_le, am_ofI hx, am_ofI hy]
theorem am_ofN (n : Nat) : Int32.ofNat n = Int32.ofInt (n : Int) := by
  rw [Int32.ofInt_eq_ofNat]
theorem am_0I : Int32.ofInt 0 = 0 := rfl
theorem am_R0 : am_R 0 := ⟨by decide, by decide⟩
theorem am_ofJ {x : Int} (h : am_R x) : (Int64.ofInt x).toInt = x := Int64.toInt_ofInt_of_le (by have := h.1; omega) (by have := h.2; omega)
theorem am_ij {x : Int} (h : am_R x) : (Int32.ofInt x).toInt64 = Int64.ofInt x := by
  rw [← Int64.toInt_inj, Int32.toInt_toInt64, am_ofI h, am_ofJ h]
theorem am_clamp {i : Int} (h : am_R i) : (Int32.ofInt i).toNatClampNeg = i.toNat := Int32.toNatClampNeg_ofInt_of_le (by have := h.1; omega) (by have := h.2; omega)
theorem am_in {i : Int} {n : Nat} (h : am_R i) (h0 : 0 ≤ i) (h1 : i < n) : vp_in (Int32.ofInt i) n := by
  intro q
  rcases q with q | q
  · rw [← am_0I, am_ltI h am_R0] at q
    omega
  · rw [am_clamp h] at q
    omega
theorem am_and {x : Int} (h : am_R x) : Int32.ofInt x &&& Int32.ofInt 31 = Int32.ofInt (x % 32) := by
  rw [pk_and (Int32.ofInt x) (m := Int32.ofInt 31) 5 (by decide)]
  have e : ((Int32.ofInt x).toBitVec.toNat : Int) = x % 2 ^ 32 := by
    have h1 : (Int32.ofInt x).toBitVec = BitVec.ofInt 32 x := rfl
    rw [h1, BitVec.toNat_ofInt]
    omega
  rw [← Int32.toInt_inj, am_ofI ⟨by omega, by omega⟩, nI_toInt (by omega)]
  omega
-- the world
theorem am_wd_at {a : Nat → Nat} {cs : Nat → ClassId} {σ : St} {j : Nat} (h : j < 27) : (am_wd a cs σ)[j]? = some (am_cell a cs σ j) := by
  simp [am_wd, List.getElem?_map, List.getElem?_range h]
theorem am_wd_len {a : Nat → Nat} {cs : Nat → ClassId} {σ : St} : (am_wd a cs σ).length = 27 := by simp [am_wd]
theorem am_wd_set {a : Nat → Nat} {cs : Nat → ClassId} {σ σ' : St} {j : Nat} {q : Nat × va_E} (h : j < 27) (hq : am_cell a cs σ' j = q) (ho : ∀ i, i < 27 → i ≠ j → am_cell a cs σ' i = am_cell a cs σ i) : (am_wd a cs σ).set j q = am_wd a cs σ' := by
  apply List.ext_getElem?
  intro i
  by_cases hi : i < 27
  · by_cases hj : i = j
    · subst hj
      rw [List.getElem?_set_self (by rw [am_wd_len]; exact hi), am_wd_at hi, hq]
    · rw [List.getElem?_set_ne (Ne.symm hj), am_wd_at hi, am_wd_at hi, ho i hi hj]
  · rw [List.getElem?_eq_none (by rw [List.length_set, am_wd_len]; omega), List.getElem?_eq_none (by rw [am_wd_len]; omega)]
theorem am_fv_n {a : Nat → Nat} {σ : St} {o k n : Nat} {j v : Int} (h : n < 30 ∨ am_fl o k ≠ n) : am_fv a (am_up σ n j v) o k = am_fv a σ o k := by
  unfold am_fv
  by_cases hf : am_fl o k < 30
  · rw [if_pos hf, if_pos hf]
  · rw [if_neg hf, if_neg hf, am_up_n]
    rcases h with h | h
    · omega
    · exact h
/-- behind a store into the array at place j -/
theorem am_wd_arr {a : Nat → Nat} {cs : Nat → ClassId} {σ : St} {j : Nat} {i v : Int} {q : Nat × va_E} (h : j < 27) (h2 : 2 ≤ j) (hq : am_cell a cs (am_up σ j i v) j = q) : (am_wd a cs σ).set j q = am_wd a cs (am_up σ j i v) := by
  refine am_wd_set h hq (fun i' hi' hne => ?_)
  unfold am_cell
  by_cases hlt : i' < 2
  · rw [if_pos hlt, if_pos hlt]
    have e : (List.range (am_nf i')).map (am_fv a (am_up σ j i v) i') = (List.range (am_nf i')).map (am_fv a σ i') := List.map_congr_left (fun k _ => am_fv_n (Or.inl (by omega)))
    rw [e]
  · rw [if_neg hlt, if_neg hlt, am_up_n hne]
/-- behind a store into the scalar n of the object o -/
theorem am_wd_fld {a : Nat → Nat} {cs : Nat → ClassId} {σ : St} {o k : Nat} {v : Int} (h : o < 2) (hk : k < am_nf o) (hn : 30 ≤ am_fl o k) :
    (am_wd a cs σ).set o (a o, .inr (o, ((List.range (am_nf o)).map (am_fv a σ o)).set k (.int (Int32.ofInt v)))) = am_wd a cs (am_up σ (am_fl o k) 0 v) := by
  refine am_wd_set (by omega) ?_ (fun i' hi' hne => ?_)
  · unfold am_cell
    rw [if_pos h]
    congr 3
    apply List.ext_getElem?
    intro i
    by_cases hi : i < am_nf o
    · by_cases hik : i = k
      · subst hik
        rw [List.getElem?_set_self (by simpa using hi), List.getElem?_map, List.getElem?_range hi]
        simp only [Option.map_some, am_fv]
        rw [if_neg (by omega), am_up_s, am_u1_s]
      · rw [List.getElem?_set_ne (Ne.symm hik), List.getElem?_map, List.getElem?_map, List.getElem?_range hi]
        simp only [Option.map_some]
        rw [am_fv_n]
        right
        intro he
        exact hik (am_fl_inj h hi hk he (by omega))
    · rw [List.getElem?_eq_none (by simpa using hi), List.getElem?_eq_none (by simpa using hi)]
  · unfold am_cell
    by_cases hlt : i' < 2
    · rw [if_pos hlt, if_pos hlt]
      have e : (List.range (am_nf i')).map (am_fv a (am_up σ (am_fl o k) 0 v) i') = (List.range (am_nf i')).map (am_fv a σ i') := by
        refine List.map_congr_left (fun k' hk' => am_fv_n (Or.inr ?_))
        intro he
        exact am_fl_two hlt h hne (List.mem_range.mp hk') hk he hn
      rw [e]
    · rw [if_neg hlt, if_neg hlt, am_up_n (by omega)]
-- the locals
theorem am_hl_at {a : Nat → Nat} {ls : Array Slot} {n : Nat} {L : List AV} (h : am_hl a ls n L) {i : Nat} {v : AV} (hv : L[i]? = some v) (hc : am_one v = true) : ls[i]? = some (.val (am_cv a v)) := h.2.2.2 i v hv hc
def am_lv (a : Nat → Nat) (L : List AV) : List (Nat × Value) := (List.range L.length).filterMap (fun i => match L[i]? with
  | some v => if am_one v = true then some (i, am_cv a v) else none
  | none => none)
theorem am_lv_has {a : Nat → Nat} {ls : Array Slot} {n : Nat} {L : List AV} (h : am_hl a ls n L) : lv_has ls n (am_lv a L) := by
  refine ⟨h.1, h.2.2.1, fun q hq => ?_⟩
  obtain ⟨i, hi, he⟩ := List.mem_filterMap.mp hq
  cases hv : L[i]? with
  | none => rw [hv] at he; cases he
  | some v =>
    rw [hv] at he
    by_cases hc : am_one v = true
    · simp only [hc, if_true] at he
      cases he
      exact h.2.2.2 i v hv hc
    · simp [hc] at he
theorem am_lv_in {a : Nat → Nat} {L : List AV} {i : Nat} {v : AV} (hv : L[i]? = some v) (hc : am_one v = true) : (i, am_cv a v) ∈ am_lv a L := by
  refine List.mem_filterMap.mpr ⟨i, List.mem_range.mpr (List.getElem?_eq_some_iff.mp hv).1, ?_⟩
  rw [hv]
  simp [hc]
theorem am_cat1 {a : Nat → Nat} {v : AV} (hc : am_one v = true) : (am_cv a v).category = 1 := by
  rcases v with z | k | z
  · rfl
  · rfl
  · cases hc
theorem am_hl_set {a : Nat → Nat} {ls : Array Slot} {n k : Nat} {L : List AV} {w : AV} (h : L.length = n)
    (h2 : lv_has ls n ((k, am_cv a w) :: (am_lv a L).filter (fun q => !(q.1 == k) && !(q.1 + 1 == k && q.2.category == 2)))) : am_hl a ls n (L.set k w) := by
  refine ⟨h2.1, by rw [List.length_set]; exact h, h2.2.1, fun i v hv hc => ?_⟩
  by_cases hik : i = k
  · subst hik
    have hlt : i < L.length := by
      have := (List.getElem?_eq_some_iff.mp hv).1
      rwa [List.length_set] at this
    rw [List.getElem?_set_self hlt] at hv
    cases hv
    exact h2.2.2 (i, _) List.mem_cons_self
  · rw [List.getElem?_set_ne (Ne.symm hik)] at hv
    refine h2.2.2 (i, am_cv a v) (List.mem_cons_of_mem _ (List.mem_filter.mpr ⟨am_lv_in hv hc, ?_⟩))
    have hcat := am_cat1 (a := a) hc
    simp [hik, hcat]
theorem am_i8 {x : Int} (h1 : -128 ≤ x) (h2 : x < 128) : (Int8.ofInt x).toInt32 = Int32.ofInt x := by
  rw [← Int32.toInt_inj, Int8.toInt_toInt32, Int8.toInt_ofInt_of_le (by omega) (by omega), am_ofI ⟨by omega, by omega⟩]
theorem am_i16 {x : Int} (h1 : -32768 ≤ x) (h2 : x < 32768) : (Int16.ofInt x).toInt32 = Int32.ofInt x := by
  rw [← Int32.toInt_inj, Int16.toInt_toInt32, Int16.toInt_ofInt_of_le (by omega) (by omega), am_ofI ⟨by omega, by omega⟩]
theorem am_wd_obj {a : Nat → Nat} {cs : Nat → ClassId} {σ : St} {o : Nat} (h : o < 2) : (am_wd a cs σ)[o]? = some (a o, .inr (o, (List.range (am_nf o)).map (am_fv a σ o))) := by
  rw [am_wd_at (by omega)]
  unfold am_cell
  rw [if_pos h]
theorem am_at_lt {j : Nat} (h : am_at j < 3) : 2 ≤ j ∧ j < 27 := by
  have h27 : j < 27 := Nat.not_le.mp (fun q => by
    unfold am_at at h
    rw [List.getD_eq_getElem?_getD, List.getElem?_eq_none (by show _ ≤ j; exact q)] at h
    exact absurd h (by decide))
  refine ⟨Nat.not_lt.mp (fun q => ?_), h27⟩
  rcases (show j = 0 ∨ j = 1 by omega) with rfl | rfl <;> exact absurd h (by decide)
theorem am_ln_all : ∀ v ∈ am_lns, 0 ≤ v ∧ v ≤ 150 := by decide
theorem am_ln_ok {j : Nat} (_h : am_at j < 3) : 0 ≤ am_ln j ∧ am_ln j ≤ 150 := by
  unfold am_ln
  rw [List.getD_eq_getElem?_getD]
  cases hv : am_lns[j]? with
  | none => exact ⟨by decide, by decide⟩
  | some v => exact am_ln_all v (List.mem_of_getElem? hv)
theorem am_wd_ar {a : Nat → Nat} {cs : Nat → ClassId} {σ : St} {j t : Nat} (hj : 2 ≤ j ∧ j < 27) (ha : am_at j = t) (ht : t ≠ 2 := by decide) : (am_wd a cs σ)[j]? = some (a j, .inl (cs (am_at j), (am_ln j).toNat, .inl (fun i => Int32.ofInt (σ j i)))) := by
  rw [am_wd_at hj.2]
  unfold am_cell
  rw [if_neg (by omega), if_neg (by omega)]
theorem am_wd_arL {a : Nat → Nat} {cs : Nat → ClassId} {σ : St} {j : Nat} (hj : 2 ≤ j ∧ j < 27) (ha : am_at j = 2) : (am_wd a cs σ)[j]? = some (a j, .inl (cs (am_at j), (am_ln j).toNat, .inr (.inl (fun i => Int64.ofInt (σ j i))))) := by
  rw [am_wd_at hj.2]
  unfold am_cell
  rw [if_neg (by omega), if_pos ha]
theorem am_wd_arA {a : Nat → Nat} {cs : Nat → ClassId} {σ : St} {j : Nat} (hj : 2 ≤ j ∧ j < 27) : ∃ xx : vp_A, (am_wd a cs σ)[j]? = some (a j, .inl (cs (am_at j), xx)) ∧ xx.1 = (am_ln j).toNat := by
  by_cases h : am_at j = 2
  · exact ⟨_, am_wd_arL hj h, rfl⟩
  · exact ⟨_, am_wd_ar hj rfl h, rfl⟩
theorem am_cell_ar {a : Nat → Nat} {cs : Nat → ClassId} {σ : St} {j t : Nat} {i v : Int} (hj : 2 ≤ j) (ha : am_at j = t) (h0 : 0 ≤ i) (ht : t ≠ 2 := by decide) : am_cell a cs (am_up σ j i v) j = (a j, .inl (cs (am_at j), (am_ln j).toNat, .inl (upd (fun i => Int32.ofInt (σ j i)) i.toNat (Int32.ofInt v)))) := by
  unfold am_cell
  rw [if_neg (by omega), if_neg (by omega), am_up_s]
  congr 5
  funext n
  unfold upd am_u1
  by_cases hn : n = i.toNat
  · rw [if_pos hn, if_pos (by omega)]
  · rw [if_neg hn, if_neg (by omega)]
theorem am_cell_arL {a : Nat → Nat} {cs : Nat → ClassId} {σ : St} {j : Nat} {i v : Int} (hj : 2 ≤ j) (ha : am_at j = 2) (h0 : 0 ≤ i) : am_cell a cs (am_up σ j i v) j = (a j, .inl (cs (am_at j), (am_ln j).toNat, .inr (.inl (vp_updL (fun i => Int64.ofInt (σ j i)) i.toNat (Int64.ofInt v))))) := by
  unfold am_cell
  rw [if_neg (by omega), if_pos ha, am_up_s]
  congr 6
  funext n
  unfold vp_updL am_u1
  by_cases hn : n = i.toNat
  · rw [if_pos hn, if_pos (by omega)]
  · rw [if_neg hn, if_neg (by omega)]
theorem am_nz {v : Int} (h : v = 0 ∨ v = 1) : vp_nar .boolean (Int32.ofInt v) = Int32.ofInt v := by
  rcases h with rfl | rfl <;> rfl
def am_tyOf (t : Nat) : FieldType := if t = 0 then .int else if t = 1 then .boolean else .long
theorem am_ty_at {cs : Nat → ClassId} {j : Nat} (h : am_at j < 3) : (am_ty cs)[am_at j]? = some (cs (am_at j), am_tyOf (am_at j)) := by
  rcases (show am_at j = 0 ∨ am_at j = 1 ∨ am_at j = 2 by omega) with e | e | e <;> rw [e] <;> rfl
theorem am_lcmp {x y : Int} (hx : am_R x) (hy : am_R y) : lg_cmp (Int64.ofInt x) (Int64.ofInt y) = Int32.ofInt (if y < x then 1 else if x = y then 0 else -1) := by
  unfold lg_cmp
  by_cases h : y < x
  · rw [if_pos h, if_pos (show Int64.ofInt y < Int64.ofInt x by rw [Int64.lt_iff_toInt_lt, am_ofJ hx, am_ofJ hy]; exact h)]
    rfl
  · rw [if_neg h, if_neg (show ¬ Int64.ofInt x > Int64.ofInt y by show ¬ Int64.ofInt y < Int64.ofInt x; rw [Int64.lt_iff_toInt_lt, am_ofJ hx, am_ofJ hy]; exact h)]
    by_cases h2 : x = y
    · rw [if_pos h2, if_pos (by rw [h2])]; rfl
    · rw [if_neg h2, if_neg (show ¬ Int64.ofInt x = Int64.ofInt y by rw [← Int64.toInt_inj, am_ofJ hx, am_ofJ hy]; exact h2)]; rfl
theorem am_catsum (a : Nat → Nat) (S : List AV) : ((S.map (am_cv a)).map fun v => v.category).sum ≤ 2 * S.length := by
  induction S with
  | nil => simp
  | cons v S ih =>
    have hv : (am_cv a v).category ≤ 2 := by rcases v with z | k | z <;> simp [am_cv, Value.category]
    simp only [List.map_cons, List.sum_cons, List.length_cons]
    omega
end
section
/-! one lemma an instruction -/
def am_Zs (A : Nat → Prop) (U : State) (H : Heap) : Prop := vx_Zq Bundle.tN "UNASSIGNED_STACK" Bundle.steD A U H ∧ vx_Zq Bundle.tN "SUPPRESSED_SENTINEL" Bundle.listD A U H
def am_Ncs (U : State) : Prop := (∀ q ∈ am_nc, va_Nc q.1 q.2 U) ∧ ∀ w ∈ am_xw, va_Nw w U
/-- what holds of a method's frame, whatever its place: machine, code, words, tables, room, statics of Throwable, the script (the law's alone) -/
def am_Cx (sc : Int → Int) (D : va_G) (cs : Nat → ClassId) (a : Nat → Nat) (p : Program) (l : Launch) (R : Room) (s : State) (m : MethodId) (args : Array Value) (meth : Method) (c : Code) (mid : Nat) : Prop :=
  (p.tables.exec = Jvm.exec ∧ c.code = am_cc mid ∧ c.maxLocals = am_nl mid ∧ s.vm.findClass (am_cC (am_ob mid)) = some m.cls ∧ (∀ w ∈ am_ws, w.before args s = true)) ∧
  (va_K D am_cl (am_ty cs) s ∧ ∀ i j, i < 27 → j < 27 → a i = a j → i = j) ∧
  (am_fr mid ≤ R.frames ∧ am_lo mid ≤ R.locals) ∧
  (meth.locks = false ∧ meth.sig.returnType = am_rt mid ∧ c.exceptionTable.toList = tableOf (am_tb mid)) ∧
  (l.stackTraces = false ∧ am_Zs (am_A a s.heap.size) s s.heap ∧ am_Ncs s) ∧
  (mid = am_law → ∃ (L : Nat) (xs : Nat → Int32), va_X (a 28) L xs s s.heap ∧ a 28 < s.heap.size ∧ ¬ am_A a s.heap.size (a 28) ∧ sc (-1) = (L : Int) ∧ ∀ j : Nat, j < L → xs j = Int32.ofInt (sc j))
/-- where the heap holds the state -/
def am_In (D : va_G) (cs : Nat → ClassId) (a : Nat → Nat) (s : State) (σ : St) (H : Heap) (locs : List Loc) : Prop := va_P D am_cl (am_wd a cs σ) H ∧ va_S (am_A a s.heap.size) s.heap H locs
theorem am_D_of {a : Nat → Nat} {cs : Nat → ClassId} {σ : St} {sz : Nat} (h : ∀ i j, i < 27 → j < 27 → a i = a j → i = j) : va_D (am_A a sz) (am_wd a cs σ) := by
  have key : ∀ (k : Nat) (q : Nat × va_E), (am_wd a cs σ)[k]? = some q → k < 27 ∧ q.1 = a k := by
    intro k q hk
    by_cases hl : k < 27
    · rw [am_wd_at hl] at hk
      cases hk
      exact ⟨hl, rfl⟩
    · rw [List.getElem?_eq_none (by rw [am_wd_len]; omega)] at hk
      cases hk
  refine ⟨fun i j x y hi hj hxy => ?_, fun k q hk => ?_⟩
  · obtain ⟨h1, h2⟩ := key i x hi
    obtain ⟨h3, h4⟩ := key j y hj
    exact h i j h1 h3 (h2.symm.trans (hxy.trans h4))
  · obtain ⟨h1, h2⟩ := key k q hk
    exact Or.inl ⟨k, h1, h2⟩
/-- an instruction of the abstract machine is one of the machine's -/
def am_Sd (op : Nat) (f : OpT) : Prop := ∀ (sc : Int → Int), (∀ j, am_R (sc j)) → ∀ (mid pc : Nat) (x : Int) (k : Nat) (ts : List Int) (L S : List AV) (σ : St) (pc' : Nat) (L' S' : List AV) (σ' : St),
  decode (am_cc mid) pc = .ok (am_dcd pc (op, x, k, ts)) → am_ck mid op x k ts = true → f sc x k ts mid pc L S σ = some (pc', L', S', σ') → am_okL L → am_okL S → am_okS σ →
  (am_okL L' ∧ am_okL S' ∧ am_okS σ') ∧ ∀ (D : va_G) (cs : Nat → ClassId) (a : Nat → Nat) (p : Program) (l : Launch) (e : Env) (R : Room) (s : State) (m : MethodId) (args : Array Value) (below : List Frame) (meth : Method) (c : Code) (Q : State → Prop), am_Cx sc D cs a p l R s m args meth c mid →
    ∀ (H : Heap) (locs : List Loc) (cells slots : Nat) (ls : Array Slot), cells ≤ R.cells → slots ≤ R.slots → am_In D cs a s σ H locs → am_hl a ls (am_nl mid) L →
    (∀ (H' : Heap) (locs' : List Loc) (ls' : Array Slot), am_In D cs a s σ' H' locs' → am_hl a ls' (am_nl mid) L' → W p l e R s m args below meth c H' locs' cells slots Q (F0 m pc' ls' (S'.map (am_cv a)))) →
    W p l e R s m args below meth c H locs cells slots Q (F0 m pc ls (S.map (am_cv a)))
theorem am_okS_up {σ : St} {k : Nat} {j v : Int} (h : am_okS σ) (hv : am_R v) : am_okS (am_up σ k j v) := by
  intro k' j'
  unfold am_up
  by_cases hk : k' = k
  · rw [if_pos hk]
    unfold am_u1
    by_cases hj : j' = j
    · rw [if_pos hj]; exact hv
    · rw [if_neg hj]; exact h k j'
  · rw [if_neg hk]; exact h k' j'
theorem am_okL_set {L : List AV} {k : Nat} {v : AV} (h : am_okL L) (hv : am_okV v) : am_okL (L.set k v) := by
  intro w hw
  rcases List.mem_or_eq_of_mem_set hw with h1 | h1
  · exact h w h1
  · rw [h1]; exact hv
theorem am_okL_c {v : AV} {S : List AV} (hv : am_okV v) (h : am_okL S) : am_okL (v :: S) := by
  intro w hw
  rcases List.mem_cons.mp hw with h1 | h1
  · rw [h1]; exact hv
  · exact h w h1
theorem am_okL_h {v : AV} {S : List AV} (h : am_okL (v :: S)) : am_okV v := h v List.mem_cons_self
theorem am_okL_t {v : AV} {S : List AV} (h : am_okL (v :: S)) : am_okL S := fun w hw => h w (List.mem_cons_of_mem _ hw)
set_option maxHeartbeats 4000000 in
theorem am_s0 : am_Sd 0 (am_oK 1) := by
  intro sc hsc mid pc x k ts L S σ pc' L' S' σ' hd hk hf oL oS oσ
  have hd : decode (am_cc mid) pc = .ok (.iconst x, 1) := hd
  simp [am_ck] at hk
  cases hf
  refine ⟨⟨oL, am_okL_c ⟨by omega, by omega⟩ oS, oσ⟩, fun D cs a p l e R s m args below meth c Q hC H locs cells slots ls hc hs hI hl kk => ?_⟩
  obtain ⟨⟨hx, hb, -⟩, -⟩ := hC
  exact lv_iconst (v := Int32.ofInt x) hx hb hd rfl (kk H locs ls hI hl)
set_option maxHeartbeats 4000000 in
theorem am_s1 : am_Sd 1 (am_oK 2) := by
  intro sc hsc mid pc x k ts L S σ pc' L' S' σ' hd hk hf oL oS oσ
  have hd : decode (am_cc mid) pc = .ok (.bipush x, 2) := hd
  simp [am_ck] at hk
  cases hf
  refine ⟨⟨oL, am_okL_c ⟨by omega, by omega⟩ oS, oσ⟩, fun D cs a p l e R s m args below meth c Q hC H locs cells slots ls hc hs hI hl kk => ?_⟩
  obtain ⟨⟨hx, hb, -⟩, -⟩ := hC
  exact lv_bipush (v := Int32.ofInt x) hx hb hd (am_i8 (by omega) (by omega)) (kk H locs ls hI hl)
set_option maxHeartbeats 4000000 in
theorem am_s2 : am_Sd 2 (am_oK 3) := by
  intro sc hsc mid pc x k ts L S σ pc' L' S' σ' hd hk hf oL oS oσ
  have hd : decode (am_cc mid) pc = .ok (.sipush x, 3) := hd
  simp [am_ck] at hk
  cases hf
  refine ⟨⟨oL, am_okL_c ⟨by omega, by omega⟩ oS, oσ⟩, fun D cs a p l e R s m args below meth c Q hC H locs cells slots ls hc hs hI hl kk => ?_⟩
  obtain ⟨⟨hx, hb, -⟩, -⟩ := hC
  exact lv_sipush (v := Int32.ofInt x) hx hb hd (am_i16 (by omega) (by omega)) (kk H locs ls hI hl)
set_option maxHeartbeats 4000000 in
theorem am_s3 : am_Sd 3 (am_oIL 1) := by
  intro sc hsc mid pc x k ts L S σ pc' L' S' σ' hd hk hf oL oS oσ
  have hd : decode (am_cc mid) pc = .ok (.iload_n (Fin.ofNat 4 k), 1) := hd
  simp [am_ck] at hk
  unfold am_oIL at hf
  split at hf
  · rename_i z hz
    cases hf
    refine ⟨⟨oL, am_okL_c (oL _ (List.mem_of_getElem? hz)) oS, oσ⟩, fun D cs a p l e R s m args below meth c Q hC H locs cells slots ls hc hs hI hl kk => ?_⟩
    obtain ⟨⟨hx, hb, -⟩, -⟩ := hC
    exact lv_iload_n hx hb hd (Nat.mod_eq_of_lt hk) (am_hl_at hl hz rfl) (kk H locs ls hI hl)
  · cases hf
set_option maxHeartbeats 4000000 in
theorem am_s4 : am_Sd 4 (am_oIL 2) := by
  intro sc hsc mid pc x k ts L S σ pc' L' S' σ' hd hk hf oL oS oσ
  have hd : decode (am_cc mid) pc = .ok (.iload k, 2) := hd
  simp [am_ck] at hk
  unfold am_oIL at hf
  split at hf
  · rename_i z hz
    cases hf
    refine ⟨⟨oL, am_okL_c (oL _ (List.mem_of_getElem? hz)) oS, oσ⟩, fun D cs a p l e R s m args below meth c Q hC H locs cells slots ls hc hs hI hl kk => ?_⟩
    obtain ⟨⟨hx, hb, -⟩, -⟩ := hC
    exact lv_iload hx hb hd (am_hl_at hl hz rfl) (kk H locs ls hI hl)
  · cases hf
set_option maxHeartbeats 4000000 in
theorem am_s5 : am_Sd 5 (am_oAL 1) := by
  intro sc hsc mid pc x k ts L S σ pc' L' S' σ' hd hk hf oL oS oσ
  have hd : decode (am_cc mid) pc = .ok (.aload_n (Fin.ofNat 4 k), 1) := hd
  simp [am_ck] at hk
  unfold am_oAL at hf
  split at hf
  · rename_i z hz
    cases hf
    refine ⟨⟨oL, am_okL_c (oL _ (List.mem_of_getElem? hz)) oS, oσ⟩, fun D cs a p l e R s m args below meth c Q hC H locs cells slots ls hc hs hI hl kk => ?_⟩
    obtain ⟨⟨hx, hb, -⟩, -⟩ := hC
    exact lv_aload_n hx hb hd (Nat.mod_eq_of_lt hk) (am_hl_at hl hz rfl) (kk H locs ls hI hl)
  · cases hf
set_option maxHeartbeats 4000000 in
theorem am_s6 : am_Sd 6 (am_oAL 2) := by
  intro sc hsc mid pc x k ts L S σ pc' L' S' σ' hd hk hf oL oS oσ
  have hd : decode (am_cc mid) pc = .ok (.aload k, 2) := hd
  simp [am_ck] at hk
  unfold am_oAL at hf
  split at hf
  · rename_i z hz
    cases hf
    refine ⟨⟨oL, am_okL_c (oL _ (List.mem_of_getElem? hz)) oS, oσ⟩, fun D cs a p l e R s m args below meth c Q hC H locs cells slots ls hc hs hI hl kk => ?_⟩
    obtain ⟨⟨hx, hb, -⟩, -⟩ := hC
    exact lv_aload hx hb hd (am_hl_at hl hz rfl) (kk H locs ls hI hl)
  · cases hf
set_option maxHeartbeats 4000000 in
theorem am_s7 : am_Sd 7 (am_oIS 1) := by
  intro sc hsc mid pc x k ts L S σ pc' L' S' σ' hd hk hf oL oS oσ
  have hd : decode (am_cc mid) pc = .ok (.istore_n (Fin.ofNat 4 k), 1) := hd
  simp [am_ck] at hk
  unfold am_oIS at hf
  split at hf
  · rename_i z S1
    by_cases hkl : k < L.length
    · rw [if_pos hkl] at hf
      cases hf
      refine ⟨⟨am_okL_set oL (am_okL_h oS), am_okL_t oS, oσ⟩, fun D cs a p l e R s m args below meth c Q hC H locs cells slots ls hc hs hI hl kk => ?_⟩
      obtain ⟨⟨hx, hb, -⟩, -⟩ := hC
      exact lv_istore_n hx hb hd (Nat.mod_eq_of_lt hk) (am_lv_has hl) (by rw [← hl.2.1]; exact hkl) rfl (fun ls' h' => kk H locs ls' hI (am_hl_set (w := .inl z) hl.2.1 h'))
    · rw [if_neg hkl] at hf
      cases hf
  · cases hf
set_option maxHeartbeats 4000000 in
theorem am_s8 : am_Sd 8 (am_oIS 2) := by
  intro sc hsc mid pc x k ts L S σ pc' L' S' σ' hd hk hf oL oS oσ
  have hd : decode (am_cc mid) pc = .ok (.istore k, 2) := hd
  simp [am_ck] at hk
  unfold am_oIS at hf
  split at hf
  · rename_i z S1
    by_cases hkl : k < L.length
    · rw [if_pos hkl] at hf
      cases hf
      refine ⟨⟨am_okL_set oL (am_okL_h oS), am_okL_t oS, oσ⟩, fun D cs a p l e R s m args below meth c Q hC H locs cells slots ls hc hs hI hl kk => ?_⟩
      obtain ⟨⟨hx, hb, -⟩, -⟩ := hC
      exact lv_istore hx hb hd (am_lv_has hl) (by rw [← hl.2.1]; exact hkl) rfl (fun ls' h' => kk H locs ls' hI (am_hl_set (w := .inl z) hl.2.1 h'))
    · rw [if_neg hkl] at hf
      cases hf
  · cases hf
set_option maxHeartbeats 4000000 in
theorem am_s9 : am_Sd 9 (am_oAS 1) := by
  intro sc hsc mid pc x k ts L S σ pc' L' S' σ' hd hk hf oL oS oσ
  have hd : decode (am_cc mid) pc = .ok (.astore_n (Fin.ofNat 4 k), 1) := hd
  simp [am_ck] at hk
  unfold am_oAS at hf
  split at hf
  · rename_i z S1
    by_cases hkl : k < L.length
    · rw [if_pos hkl] at hf
      cases hf
      refine ⟨⟨am_okL_set oL (am_okL_h oS), am_okL_t oS, oσ⟩, fun D cs a p l e R s m args below meth c Q hC H locs cells slots ls hc hs hI hl kk => ?_⟩
      obtain ⟨⟨hx, hb, -⟩, -⟩ := hC
      exact lv_astore_n hx hb hd (Nat.mod_eq_of_lt hk) (am_lv_has hl) (by rw [← hl.2.1]; exact hkl) rfl (fun ls' h' => kk H locs ls' hI (am_hl_set (w := .inr (.inl z)) hl.2.1 h'))
    · rw [if_neg hkl] at hf
      cases hf
  · cases hf
set_option maxHeartbeats 4000000 in
theorem am_s10 : am_Sd 10 (am_oAS 2) := by
  intro sc hsc mid pc x k ts L S σ pc' L' S' σ' hd hk hf oL oS oσ
  have hd : decode (am_cc mid) pc = .ok (.astore k, 2) := hd
  simp [am_ck] at hk
  unfold am_oAS at hf
  split at hf
  · rename_i z S1
    by_cases hkl : k < L.length
    · rw [if_pos hkl] at hf
      cases hf
      refine ⟨⟨am_okL_set oL (am_okL_h oS), am_okL_t oS, oσ⟩, fun D cs a p l e R s m args below meth c Q hC H locs cells slots ls hc hs hI hl kk => ?_⟩
      obtain ⟨⟨hx, hb, -⟩, -⟩ := hC
      exact lv_astore hx hb hd (am_lv_has hl) (by rw [← hl.2.1]; exact hkl) rfl (fun ls' h' => kk H locs ls' hI (am_hl_set (w := .inr (.inl z)) hl.2.1 h'))
    · rw [if_neg hkl] at hf
      cases hf
  · cases hf
set_option maxHeartbeats 4000000 in
theorem am_s11 : am_Sd 11 am_oInc := by
  intro sc hsc mid pc x k ts L S σ pc' L' S' σ' hd hk hf oL oS oσ
  have hd : decode (am_cc mid) pc = .ok (.iinc k x, 3) := hd
  unfold am_oInc at hf
  split at hf
  · rename_i z hz
    by_cases hr : am_Rb (z + x) = true
    · rw [if_pos hr] at hf
      cases hf
      have hr := am_Rb_iff.mp hr
      refine ⟨⟨am_okL_set oL hr, oS, oσ⟩, fun D cs a p l e R s m args below meth c Q hC H locs cells slots ls hc hs hI hl kk => ?_⟩
      obtain ⟨⟨hx, hb, -⟩, -⟩ := hC
      obtain ⟨j, hj⟩ := List.getElem?_of_mem (am_lv_in (a := a) hz rfl)
      exact lv_iinc (v := Int32.ofInt (z + x)) hx hb hd (am_lv_has hl) hj (Int32.ofInt_add z x).symm (by rw [← hl.2.1]; exact (List.getElem?_eq_some_iff.mp hz).1) rfl (fun ls' h' => kk H locs ls' hI (am_hl_set (w := .inl (z + x)) hl.2.1 h'))
    · rw [if_neg hr] at hf
      cases hf
  · cases hf
set_option maxHeartbeats 4000000 in
theorem am_s12 : am_Sd 12 am_oAdd := by
  intro sc hsc mid pc x k ts L S σ pc' L' S' σ' hd hk hf oL oS oσ
  have hd : decode (am_cc mid) pc = .ok (.iadd, 1) := hd
  unfold am_oAdd at hf
  split at hf
  · rename_i z1 z2 S1
    by_cases hr : am_Rb (z2 + z1) = true
    · rw [if_pos hr] at hf
      cases hf
      have hr := am_Rb_iff.mp hr
      refine ⟨⟨oL, am_okL_c hr (am_okL_t (am_okL_t oS)), oσ⟩, fun D cs a p l e R s m args below meth c Q hC H locs cells slots ls hc hs hI hl kk => ?_⟩
      obtain ⟨⟨hx, hb, -⟩, -⟩ := hC
      have h1 := kk H locs ls hI hl
      refine lv_iadd hx hb hd ?_
      rw [← Int32.ofInt_add]
      exact h1
    · rw [if_neg hr] at hf
      cases hf
  · cases hf
set_option maxHeartbeats 4000000 in
theorem am_s13 : am_Sd 13 am_oSub := by
  intro sc hsc mid pc x k ts L S σ pc' L' S' σ' hd hk hf oL oS oσ
  have hd : decode (am_cc mid) pc = .ok (.isub, 1) := hd
  unfold am_oSub at hf
  split at hf
  · rename_i z1 z2 S1
    by_cases hr : am_Rb (z2 - z1) = true
    · rw [if_pos hr] at hf
      cases hf
      have hr := am_Rb_iff.mp hr
      refine ⟨⟨oL, am_okL_c hr (am_okL_t (am_okL_t oS)), oσ⟩, fun D cs a p l e R s m args below meth c Q hC H locs cells slots ls hc hs hI hl kk => ?_⟩
      obtain ⟨⟨hx, hb, -⟩, -⟩ := hC
      have h1 := kk H locs ls hI hl
      refine lv_isub hx hb hd ?_
      rw [← Int32.ofInt_sub]
      exact h1
    · rw [if_neg hr] at hf
      cases hf
  · cases hf
set_option maxHeartbeats 4000000 in
theorem am_s14 : am_Sd 14 am_oMul := by
  intro sc hsc mid pc x k ts L S σ pc' L' S' σ' hd hk hf oL oS oσ
  have hd : decode (am_cc mid) pc = .ok (.imul, 1) := hd
  unfold am_oMul at hf
  split at hf
  · rename_i z1 z2 S1
    by_cases hr : am_Rb (z2 * z1) = true
    · rw [if_pos hr] at hf
      cases hf
      have hr := am_Rb_iff.mp hr
      refine ⟨⟨oL, am_okL_c hr (am_okL_t (am_okL_t oS)), oσ⟩, fun D cs a p l e R s m args below meth c Q hC H locs cells slots ls hc hs hI hl kk => ?_⟩
      obtain ⟨⟨hx, hb, -⟩, -⟩ := hC
      have h1 := kk H locs ls hI hl
      refine lv_imul hx hb hd ?_
      rw [← Int32.ofInt_mul]
      exact h1
    · rw [if_neg hr] at hf
      cases hf
  · cases hf
set_option maxHeartbeats 4000000 in
theorem am_s15 : am_Sd 15 am_oAnd := by
  intro sc hsc mid pc x k ts L S σ pc' L' S' σ' hd hk hf oL oS oσ
  have hd : decode (am_cc mid) pc = .ok (.iand, 1) := hd
  unfold am_oAnd at hf
  split at hf
  · rename_i z1 z2 S1
    by_cases hr : z1 = 31
    · rw [if_pos hr] at hf
      cases hf
      subst hr
      have hz2 : am_R z2 := am_okL_h (am_okL_t oS)
      refine ⟨⟨oL, am_okL_c (v := .inl (z2 % 32)) ⟨by omega, by omega⟩ (am_okL_t (am_okL_t oS)), oσ⟩, fun D cs a p l e R s m args below meth c Q hC H locs cells slots ls hc hs hI hl kk => ?_⟩
      obtain ⟨⟨hx, hb, -⟩, -⟩ := hC
      have h1 := kk H locs ls hI hl
      refine lv_iand hx hb hd ?_
      rw [am_and hz2]
      exact h1
    · rw [if_neg hr] at hf
      cases hf
  · cases hf
set_option maxHeartbeats 4000000 in
theorem am_s16 : am_Sd 16 am_oDup := by
  intro sc hsc mid pc x k ts L S σ pc' L' S' σ' hd hk hf oL oS oσ
  have hd : decode (am_cc mid) pc = .ok (.dup, 1) := hd
  unfold am_oDup at hf
  split at hf
  · rename_i v S1
    by_cases hr : am_one v = true
    · rw [if_pos hr] at hf
      cases hf
      refine ⟨⟨oL, am_okL_c (am_okL_h oS) oS, oσ⟩, fun D cs a p l e R s m args below meth c Q hC H locs cells slots ls hc hs hI hl kk => ?_⟩
      obtain ⟨⟨hx, hb, -⟩, -⟩ := hC
      exact lv_dup hx hb hd (am_cat1 hr) (kk H locs ls hI hl)
    · rw [if_neg hr] at hf
      cases hf
  · cases hf
set_option maxHeartbeats 4000000 in
theorem am_s17 : am_Sd 17 am_oPop := by
  intro sc hsc mid pc x k ts L S σ pc' L' S' σ' hd hk hf oL oS oσ
  have hd : decode (am_cc mid) pc = .ok (.pop, 1) := hd
  unfold am_oPop at hf
  split at hf
  · rename_i v S1
    by_cases hr : am_one v = true
    · rw [if_pos hr] at hf
      cases hf
      refine ⟨⟨oL, am_okL_t oS, oσ⟩, fun D cs a p l e R s m args below meth c Q hC H locs cells slots ls hc hs hI hl kk => ?_⟩
      obtain ⟨⟨hx, hb, -⟩, -⟩ := hC
      exact lv_pop hx hb hd (am_cat1 hr) (kk H locs ls hI hl)
    · rw [if_neg hr] at hf
      cases hf
  · cases hf
set_option maxHeartbeats 4000000 in
theorem am_s18 : am_Sd 18 (am_oIf (fun z => decide (z = 0))) := by
  intro sc hsc mid pc x k ts L S σ pc' L' S' σ' hd hk hf oL oS oσ
  have hd : decode (am_cc mid) pc = .ok (.ifCond .eq ((k : Int) - (pc : Int)), 3) := hd
  unfold am_oIf at hf
  split at hf
  · rename_i z S1
    cases hf
    have hz : am_R z := am_okL_h oS
    refine ⟨⟨oL, am_okL_t oS, oσ⟩, fun D cs a p l e R s m args below meth c Q hC H locs cells slots ls hc hs hI hl kk => ?_⟩
    obtain ⟨⟨hx, hb, -⟩, -⟩ := hC
    have h1 := kk H locs ls hI hl
    refine lv_if_eq hx hb hd (tgt := k) (by omega) (fun h => ?_) (fun h => ?_)
    · rw [← am_0I, am_eqI hz am_R0] at h
      rw [if_pos (decide_eq_true (show z = 0 from h))] at h1
      exact h1
    · rw [← am_0I, am_eqI hz am_R0] at h
      rw [if_neg (fun h9 => absurd (of_decide_eq_true h9) h)] at h1
      exact h1
  · cases hf
set_option maxHeartbeats 4000000 in
theorem am_s19 : am_Sd 19 (am_oIf (fun z => decide (z ≠ 0))) := by
  intro sc hsc mid pc x k ts L S σ pc' L' S' σ' hd hk hf oL oS oσ
  have hd : decode (am_cc mid) pc = .ok (.ifCond .ne ((k : Int) - (pc : Int)), 3) := hd
  unfold am_oIf at hf
  split at hf
  · rename_i z S1
    cases hf
    have hz : am_R z := am_okL_h oS
    refine ⟨⟨oL, am_okL_t oS, oσ⟩, fun D cs a p l e R s m args below meth c Q hC H locs cells slots ls hc hs hI hl kk => ?_⟩
    obtain ⟨⟨hx, hb, -⟩, -⟩ := hC
    have h1 := kk H locs ls hI hl
    refine lv_if_ne hx hb hd (tgt := k) (by omega) (fun h => ?_) (fun h => ?_)
    · rw [← am_0I, am_eqI hz am_R0] at h
      rw [if_pos (decide_eq_true (show z ≠ 0 from h))] at h1
      exact h1
    · rw [← am_0I, am_eqI hz am_R0] at h
      rw [if_neg (fun h9 => absurd (of_decide_eq_true h9) (fun h8 => h8 h))] at h1
      exact h1
  · cases hf
set_option maxHeartbeats 4000000 in
theorem am_s20 : am_Sd 20 (am_oIf (fun z => decide (z < 0))) := by
  intro sc hsc mid pc x k ts L S σ pc' L' S' σ' hd hk hf oL oS oσ
  have hd : decode (am_cc mid) pc = .ok (.ifCond .lt ((k : Int) - (pc : Int)), 3) := hd
  unfold am_oIf at hf
  split at hf
  · rename_i z S1
    cases hf
    have hz : am_R z := am_okL_h oS
    refine ⟨⟨oL, am_okL_t oS, oσ⟩, fun D cs a p l e R s m args below meth c Q hC H locs cells slots ls hc hs hI hl kk => ?_⟩
    obtain ⟨⟨hx, hb, -⟩, -⟩ := hC
    have h1 := kk H locs ls hI hl
    refine lv_if_lt hx hb hd (tgt := k) (by omega) (fun h => ?_) (fun h => ?_)
    · rw [← am_0I, am_ltI hz am_R0] at h
      rw [if_pos (decide_eq_true (show z < 0 from h))] at h1
      exact h1
    · rw [← am_0I, am_ltI hz am_R0] at h
      rw [if_neg (fun h9 => absurd (of_decide_eq_true h9) h)] at h1
      exact h1
  · cases hf
set_option maxHeartbeats 4000000 in
theorem am_s21 : am_Sd 21 (am_oIf (fun z => decide (0 ≤ z))) := by
  intro sc hsc mid pc x k ts L S σ pc' L' S' σ' hd hk hf oL oS oσ
  have hd : decode (am_cc mid) pc = .ok (.ifCond .ge ((k : Int) - (pc : Int)), 3) := hd
  unfold am_oIf at hf
  split at hf
  · rename_i z S1
    cases hf
    have hz : am_R z := am_okL_h oS
    refine ⟨⟨oL, am_okL_t oS, oσ⟩, fun D cs a p l e R s m args below meth c Q hC H locs cells slots ls hc hs hI hl kk => ?_⟩
    obtain ⟨⟨hx, hb, -⟩, -⟩ := hC
    have h1 := kk H locs ls hI hl
    refine lv_if_ge hx hb hd (tgt := k) (by omega) (fun h => ?_) (fun h => ?_)
    · rw [← am_0I, am_leI am_R0 hz] at h
      rw [if_pos (decide_eq_true (show 0 ≤ z from h))] at h1
      exact h1
    · rw [← am_0I, am_leI am_R0 hz] at h
      rw [if_neg (fun h9 => absurd (of_decide_eq_true h9) h)] at h1
      exact h1
  · cases hf
set_option maxHeartbeats 4000000 in
theorem am_s22 : am_Sd 22 (am_oIf (fun z => decide (0 < z))) := by
  intro sc hsc mid pc x k ts L S σ pc' L' S' σ' hd hk hf oL oS oσ
  have hd : decode (am_cc mid) pc = .ok (.ifCond .gt ((k : Int) - (pc : Int)), 3) := hd
  unfold am_oIf at hf
  split at hf
  · rename_i z S1
    cases hf
    have hz : am_R z := am_okL_h oS
    refine ⟨⟨oL, am_okL_t oS, oσ⟩, fun D cs a p l e R s m args below meth c Q hC H locs cells slots ls hc hs hI hl kk => ?_⟩
    obtain ⟨⟨hx, hb, -⟩, -⟩ := hC
    have h1 := kk H locs ls hI hl
    refine lv_if_gt hx hb hd (tgt := k) (by omega) (fun h => ?_) (fun h => ?_)
    · rw [← am_0I, am_ltI am_R0 hz] at h
      rw [if_pos (decide_eq_true (show 0 < z from h))] at h1
      exact h1
    · rw [← am_0I, am_ltI am_R0 hz] at h
      rw [if_neg (fun h9 => absurd (of_decide_eq_true h9) h)] at h1
      exact h1
  · cases hf
set_option maxHeartbeats 4000000 in
theorem am_s23 : am_Sd 23 (am_oIf (fun z => decide (z ≤ 0))) := by
  intro sc hsc mid pc x k ts L S σ pc' L' S' σ' hd hk hf oL oS oσ
  have hd : decode (am_cc mid) pc = .ok (.ifCond .le ((k : Int) - (pc : Int)), 3) := hd
  unfold am_oIf at hf
  split at hf
  · rename_i z S1
    cases hf
    have hz : am_R z := am_okL_h oS
    refine ⟨⟨oL, am_okL_t oS, oσ⟩, fun D cs a p l e R s m args below meth c Q hC H locs cells slots ls hc hs hI hl kk => ?_⟩
    obtain ⟨⟨hx, hb, -⟩, -⟩ := hC
    have h1 := kk H locs ls hI hl
    refine lv_if_le hx hb hd (tgt := k) (by omega) (fun h => ?_) (fun h => ?_)
    · rw [← am_0I, am_leI hz am_R0] at h
      rw [if_pos (decide_eq_true (show z ≤ 0 from h))] at h1
      exact h1
    · rw [← am_0I, am_leI hz am_R0] at h
      rw [if_neg (fun h9 => absurd (of_decide_eq_true h9) h)] at h1
      exact h1
  · cases hf
set_option maxHeartbeats 4000000 in
theorem am_s24 : am_Sd 24 (am_oCmp (fun x y => decide (x = y))) := by
  intro sc hsc mid pc x k ts L S σ pc' L' S' σ' hd hk hf oL oS oσ
  have hd : decode (am_cc mid) pc = .ok (.if_icmp .eq ((k : Int) - (pc : Int)), 3) := hd
  unfold am_oCmp at hf
  split at hf
  · rename_i z1 z2 S1
    cases hf
    have hy2 : am_R z1 := am_okL_h oS
    have hx2 : am_R z2 := am_okL_h (am_okL_t oS)
    refine ⟨⟨oL, am_okL_t (am_okL_t oS), oσ⟩, fun D cs a p l e R s m args below meth c Q hC H locs cells slots ls hc hs hI hl kk => ?_⟩
    obtain ⟨⟨hx, hb, -⟩, -⟩ := hC
    have h1 := kk H locs ls hI hl
    refine lv_icmp_eq hx hb hd (tgt := k) (by omega) (fun h => ?_) (fun h => ?_)
    · rw [am_eqI hx2 hy2] at h
      rw [if_pos (decide_eq_true (show z2 = z1 from h))] at h1
      exact h1
    · rw [am_eqI hx2 hy2] at h
      rw [if_neg (fun h9 => absurd (of_decide_eq_true h9) h)] at h1
      exact h1
  · cases hf
set_option maxHeartbeats 4000000 in
theorem am_s25 : am_Sd 25 (am_oCmp (fun x y => decide (x ≠ y))) := by
  intro sc hsc mid pc x k ts L S σ pc' L' S' σ' hd hk hf oL oS oσ
  have hd : decode (am_cc mid) pc = .ok (.if_icmp .ne ((k : Int) - (pc : Int)), 3) := hd
  unfold am_oCmp at hf
  split at hf
  · rename_i z1 z2 S1
    cases hf
    have hy2 : am_R z1 := am_okL_h oS
    have hx2 : am_R z2 := am_okL_h (am_okL_t oS)
    refine ⟨⟨oL, am_okL_t (am_okL_t oS), oσ⟩, fun D cs a p l e R s m args below meth c Q hC H locs cells slots ls hc hs hI hl kk => ?_⟩
    obtain ⟨⟨hx, hb, -⟩, -⟩ := hC
    have h1 := kk H locs ls hI hl
    refine lv_icmp_ne hx hb hd (tgt := k) (by omega) (fun h => ?_) (fun h => ?_)
    · rw [am_eqI hx2 hy2] at h
      rw [if_pos (decide_eq_true (show z2 ≠ z1 from h))] at h1
      exact h1
    · rw [am_eqI hx2 hy2] at h
      rw [if_neg (fun h9 => absurd (of_decide_eq_true h9) (fun h8 => h8 h))] at h1
      exact h1
  · cases hf
set_option maxHeartbeats 4000000 in
theorem am_s26 : am_Sd 26 (am_oCmp (fun x y => decide (x < y))) := by
  intro sc hsc mid pc x k ts L S σ pc' L' S' σ' hd hk hf oL oS oσ
  have hd : decode (am_cc mid) pc = .ok (.if_icmp .lt ((k : Int) - (pc : Int)), 3) := hd
  unfold am_oCmp at hf
  split at hf
  · rename_i z1 z2 S1
    cases hf
    have hy2 : am_R z1 := am_okL_h oS
    have hx2 : am_R z2 := am_okL_h (am_okL_t oS)
    refine ⟨⟨oL, am_okL_t (am_okL_t oS), oσ⟩, fun D cs a p l e R s m args below meth c Q hC H locs cells slots ls hc hs hI hl kk => ?_⟩
    obtain ⟨⟨hx, hb, -⟩, -⟩ := hC
    have h1 := kk H locs ls hI hl
    refine lv_icmp_lt hx hb hd (tgt := k) (by omega) (fun h => ?_) (fun h => ?_)
    · rw [am_ltI hx2 hy2] at h
      rw [if_pos (decide_eq_true (show z2 < z1 from h))] at h1
      exact h1
    · rw [am_ltI hx2 hy2] at h
      rw [if_neg (fun h9 => absurd (of_decide_eq_true h9) h)] at h1
      exact h1
  · cases hf
set_option maxHeartbeats 4000000 in
theorem am_s27 : am_Sd 27 (am_oCmp (fun x y => decide (y ≤ x))) := by
  intro sc hsc mid pc x k ts L S σ pc' L' S' σ' hd hk hf oL oS oσ
  have hd : decode (am_cc mid) pc = .ok (.if_icmp .ge ((k : Int) - (pc : Int)), 3) := hd
  unfold am_oCmp at hf
  split at hf
  · rename_i z1 z2 S1
    cases hf
    have hy2 : am_R z1 := am_okL_h oS
    have hx2 : am_R z2 := am_okL_h (am_okL_t oS)
    refine ⟨⟨oL, am_okL_t (am_okL_t oS), oσ⟩, fun D cs a p l e R s m args below meth c Q hC H locs cells slots ls hc hs hI hl kk => ?_⟩
    obtain ⟨⟨hx, hb, -⟩, -⟩ := hC
    have h1 := kk H locs ls hI hl
    refine lv_icmp_ge hx hb hd (tgt := k) (by omega) (fun h => ?_) (fun h => ?_)
    · rw [am_leI hy2 hx2] at h
      rw [if_pos (decide_eq_true (show z1 ≤ z2 from h))] at h1
      exact h1
    · rw [am_leI hy2 hx2] at h
      rw [if_neg (fun h9 => absurd (of_decide_eq_true h9) h)] at h1
      exact h1
  · cases hf
set_option maxHeartbeats 4000000 in
theorem am_s28 : am_Sd 28 (am_oCmp (fun x y => decide (y < x))) := by
  intro sc hsc mid pc x k ts L S σ pc' L' S' σ' hd hk hf oL oS oσ
  have hd : decode (am_cc mid) pc = .ok (.if_icmp .gt ((k : Int) - (pc : Int)), 3) := hd
  unfold am_oCmp at hf
  split at hf
  · rename_i z1 z2 S1
    cases hf
    have hy2 : am_R z1 := am_okL_h oS
    have hx2 : am_R z2 := am_okL_h (am_okL_t oS)
    refine ⟨⟨oL, am_okL_t (am_okL_t oS), oσ⟩, fun D cs a p l e R s m args below meth c Q hC H locs cells slots ls hc hs hI hl kk => ?_⟩
    obtain ⟨⟨hx, hb, -⟩, -⟩ := hC
    have h1 := kk H locs ls hI hl
    refine lv_icmp_gt hx hb hd (tgt := k) (by omega) (fun h => ?_) (fun h => ?_)
    · rw [am_ltI hy2 hx2] at h
      rw [if_pos (decide_eq_true (show z1 < z2 from h))] at h1
      exact h1
    · rw [am_ltI hy2 hx2] at h
      rw [if_neg (fun h9 => absurd (of_decide_eq_true h9) h)] at h1
      exact h1
  · cases hf
set_option maxHeartbeats 4000000 in
theorem am_s29 : am_Sd 29 (am_oCmp (fun x y => decide (x ≤ y))) := by
  intro sc hsc mid pc x k ts L S σ pc' L' S' σ' hd hk hf oL oS oσ
  have hd : decode (am_cc mid) pc = .ok (.if_icmp .le ((k : Int) - (pc : Int)), 3) := hd
  unfold am_oCmp at hf
  split at hf
  · rename_i z1 z2 S1
    cases hf
    have hy2 : am_R z1 := am_okL_h oS
    have hx2 : am_R z2 := am_okL_h (am_okL_t oS)
    refine ⟨⟨oL, am_okL_t (am_okL_t oS), oσ⟩, fun D cs a p l e R s m args below meth c Q hC H locs cells slots ls hc hs hI hl kk => ?_⟩
    obtain ⟨⟨hx, hb, -⟩, -⟩ := hC
    have h1 := kk H locs ls hI hl
    refine lv_icmp_le hx hb hd (tgt := k) (by omega) (fun h => ?_) (fun h => ?_)
    · rw [am_leI hx2 hy2] at h
      rw [if_pos (decide_eq_true (show z2 ≤ z1 from h))] at h1
      exact h1
    · rw [am_leI hx2 hy2] at h
      rw [if_neg (fun h9 => absurd (of_decide_eq_true h9) h)] at h1
      exact h1
  · cases hf
set_option maxHeartbeats 4000000 in
theorem am_s30 : am_Sd 30 am_oGo := by
  intro sc hsc mid pc x k ts L S σ pc' L' S' σ' hd hk hf oL oS oσ
  have hd : decode (am_cc mid) pc = .ok (.goto ((k : Int) - (pc : Int)), 3) := hd
  cases hf
  refine ⟨⟨oL, oS, oσ⟩, fun D cs a p l e R s m args below meth c Q hC H locs cells slots ls hc hs hI hl kk => ?_⟩
  obtain ⟨⟨hx, hb, -⟩, -⟩ := hC
  exact lv_goto hx hb hd (by omega) (kk H locs ls hI hl)
set_option maxHeartbeats 4000000 in
theorem am_s31 : am_Sd 31 am_oSw := by
  intro sc hsc mid pc x k ts L S σ pc' L' S' σ' hd hk hf oL oS oσ
  have hd : decode (am_cc mid) pc = .ok (.tableswitch (ts.getD 0 0 - (pc : Int)) x (x + (ts.length : Int) - 2) ((ts.drop 1).map (fun t => t - (pc : Int))).toArray, k) := hd
  simp [am_ck] at hk
  obtain ⟨hk1, hk2⟩ := hk
  have hpos : ∀ i : Nat, 0 ≤ ts.getD i 0 := by
    intro i
    rw [List.getD_eq_getElem?_getD]
    cases hi : ts[i]? with
    | none => simp
    | some v => simpa using hk1 v (List.mem_of_getElem? hi)
  unfold am_oSw at hf
  split at hf
  · rename_i z S1
    have hz : am_R z := am_okL_h oS
    by_cases hr : z < x ∨ x + ((ts.length : Int) - 1) ≤ z
    · rw [if_pos hr] at hf
      cases hf
      refine ⟨⟨oL, am_okL_t oS, oσ⟩, fun D cs a p l e R s m args below meth c Q hC H locs cells slots ls hc hs hI hl kk => ?_⟩
      obtain ⟨⟨hx, hb, -⟩, -⟩ := hC
      refine lv_tableOut hx hb hd (by rw [am_ofI hz]; omega) ?_ (kk H locs ls hI hl)
      have := hpos 0
      omega
    · rw [if_neg hr] at hf
      cases hf
      refine ⟨⟨oL, am_okL_t oS, oσ⟩, fun D cs a p l e R s m args below meth c Q hC H locs cells slots ls hc hs hI hl kk => ?_⟩
      obtain ⟨⟨hx, hb, -⟩, -⟩ := hC
      refine lv_tableIn (off := ts.getD ((z - x).toNat + 1) 0 - (pc : Int)) hx hb hd (by rw [am_ofI hz]; omega) (by rw [am_ofI hz]; omega) ?_ ?_ (kk H locs ls hI hl)
      · rw [am_ofI hz]
        have hlt : (z - x).toNat + 1 < ts.length := by omega
        simp only [List.getElem?_toArray, List.getElem?_map, List.getElem?_drop]
        rw [Nat.add_comm 1, List.getElem?_eq_getElem hlt, List.getD_eq_getElem?_getD, List.getElem?_eq_getElem hlt]
        rfl
      · have := hpos ((z - x).toNat + 1)
        omega
  · cases hf
set_option maxHeartbeats 4000000 in
theorem am_s32 : am_Sd 32 am_oGet := by
  intro sc hsc mid pc x k ts L S σ pc' L' S' σ' hd hk hf oL oS oσ
  have hd : decode (am_cc mid) pc = .ok (.getfield x.toNat, 3) := hd
  simp [am_ck] at hk
  obtain ⟨ho, hkn, hin⟩ := hk
  unfold am_oGet at hf
  split at hf
  · rename_i o S1
    by_cases hr : o = am_ob mid
    · rw [if_pos hr] at hf
      subst hr
      cases hf
      have hv : am_okV (if am_fl (am_ob mid) k < 30 then (.inr (.inl (am_fl (am_ob mid) k)) : AV) else .inl (σ (am_fl (am_ob mid) k) 0)) := by
        by_cases h30 : am_fl (am_ob mid) k < 30
        · rw [if_pos h30]; trivial
        · rw [if_neg h30]; exact oσ _ _
      refine ⟨⟨oL, am_okL_c hv (am_okL_t oS), oσ⟩, fun D cs a p l e R s m args below meth c Q hC H locs cells slots ls hc hs hI hl kk => ?_⟩
      obtain ⟨⟨hx, hb, hml, hown, hts⟩, ⟨hK, hD0⟩, -⟩ := hC
      have h1 := kk H locs ls hI hl
      have he : am_cv a (if am_fl (am_ob mid) k < 30 then (.inr (.inl (am_fl (am_ob mid) k)) : AV) else .inl (σ (am_fl (am_ob mid) k) 0)) = am_fv a σ (am_ob mid) k := by
        unfold am_fv
        by_cases h30 : am_fl (am_ob mid) k < 30
        · rw [if_pos h30, if_pos h30]; rfl
        · rw [if_neg h30, if_neg h30]; rfl
      refine va_get (D := D) (ci := am_ob mid) (v := am_fv a σ (am_ob mid) k) (C := am_cC (am_ob mid)) (T := am_cT (am_ob mid)) (N := am_nf (am_ob mid)) (own := am_cC (am_ob mid)) (ref := am_cC (am_ob mid)) hx hb hts (am_fin ho) hown hK hI.1 (am_ob mid) (am_wd_obj ho) (am_cl_at ho) k hkn (hts _ (am_flk_in ho hin)) (fun z hz => by rw [am_T10 _ ho _ hkn] at hz; exact hz) ?_ hd ?_
      · rw [List.getElem?_map, List.getElem?_range hkn]; rfl
      · rw [← he]; exact h1
    · rw [if_neg hr] at hf
      cases hf
  · cases hf
set_option maxHeartbeats 4000000 in
theorem am_s33 : am_Sd 33 am_oPut := by
  intro sc hsc mid pc x k ts L S σ pc' L' S' σ' hd hk hf oL oS oσ
  have hd : decode (am_cc mid) pc = .ok (.putfield x.toNat, 3) := hd
  simp [am_ck] at hk
  obtain ⟨ho, hkn, hin⟩ := hk
  unfold am_oPut at hf
  split at hf
  · rename_i z o S1
    by_cases hr : o = am_ob mid ∧ 30 ≤ am_fl o k
    · rw [if_pos hr] at hf
      obtain ⟨hr, h30⟩ := hr
      subst hr
      cases hf
      refine ⟨⟨oL, am_okL_t (am_okL_t oS), am_okS_up oσ (am_okL_h oS)⟩, fun D cs a p l e R s m args below meth c Q hC H locs cells slots ls hc hs hI hl kk => ?_⟩
      obtain ⟨⟨hx, hb, hml, hown, hts⟩, ⟨hK, hD0⟩, -⟩ := hC
      refine va_put (D := D) (ci := am_ob mid) (v := .int (Int32.ofInt z)) (ty := .int) (C := am_cC (am_ob mid)) (T := am_cT (am_ob mid)) (N := am_nf (am_ob mid)) (own := am_cC (am_ob mid)) (ref := am_cC (am_ob mid)) hx hb hts (am_fin ho) (am_cY (am_ob mid)) (am_cY_ok0 _ ho) (am_nm0 _ ho) hown hK hI.1 (am_D_of hD0) hI.2 (am_ob mid) (am_wd_obj ho) (am_cl_at ho) k hkn (hts _ (am_flk_in ho hin)) (fun z hz => by rw [am_T10 _ ho _ hkn] at hz; exact hz) (am_int0 _ ho _ hkn h30).1 (am_int0 _ ho _ hkn h30).2 rfl rfl (by simpa using hkn) hd (fun H1 locs1 hP1 hD1 hS1 => ?_)
      rw [am_wd_fld ho hkn h30] at hP1
      exact kk H1 locs1 ls ⟨hP1, hS1⟩ hl
    · rw [if_neg hr] at hf
      cases hf
  · cases hf
set_option maxHeartbeats 4000000 in
theorem am_s34 : am_Sd 34 am_oIald := by
  intro sc hsc mid pc x k ts L S σ pc' L' S' σ' hd hk hf oL oS oσ
  have hd : decode (am_cc mid) pc = .ok (.iaload, 1) := hd
  unfold am_oIald at hf
  split at hf
  · rename_i i j S1
    have hi : am_R i := am_okL_h oS
    by_cases hr : am_at j = 0 ∧ 0 ≤ i ∧ i < am_ln j
    · rw [if_pos hr] at hf
      obtain ⟨ha, h0, h1⟩ := hr
      cases hf
      have hj := am_at_lt (by omega : am_at j < 3)
      refine ⟨⟨oL, am_okL_c (v := .inl (σ j i)) (oσ j i) (am_okL_t (am_okL_t oS)), oσ⟩, fun D cs a p l e R s m args below meth c Q hC H locs cells slots ls hc hs hI hl kk => ?_⟩
      obtain ⟨⟨hx, hb, hml, hown, hts⟩, ⟨hK, hD0⟩, -, -, -, hscr⟩ := hC
      have h9 := kk H locs ls hI hl
      refine va_iald hx hb hK hI.1 j 0 (n := (am_ln j).toNat) (am_wd_ar hj ha) (by rw [ha]; rfl) (i := Int32.ofInt i) (am_in hi h0 (by omega)) hd ?_
      rw [am_clamp hi, show ((i.toNat : Nat) : Int) = i by omega]
      exact h9
    · by_cases hr2 : j = 28 ∧ mid = am_law ∧ 0 ≤ i ∧ i < sc (-1)
      · rw [if_neg hr, if_pos hr2] at hf
        obtain ⟨rfl, hm, h0, h1⟩ := hr2
        cases hf
        refine ⟨⟨oL, am_okL_c (v := .inl (sc i)) (hsc i) (am_okL_t (am_okL_t oS)), oσ⟩, fun D cs a p l e R s m args below meth c Q hC H locs cells slots ls hc hs hI hl kk => ?_⟩
        obtain ⟨⟨hx, hb, hml, hown, hts⟩, ⟨hK, hD0⟩, -, -, -, hscr⟩ := hC
        obtain ⟨Ls, xs, hX, hbl, hbA, hsl, hsv⟩ := hscr hm
        rw [hsl] at h1
        have hsv := hsv i.toNat (by omega)
        have hin' : ((i.toNat : Nat) : Int) = i := by omega
        rw [hin'] at hsv
        have h9 := kk H locs ls hI hl
        refine va_sld hx hb hX hbl hbA hI.2 (i := Int32.ofInt i) (am_in hi h0 h1) hd ?_
        rw [am_clamp hi, hsv]
        exact h9
      · rw [if_neg hr, if_neg hr2] at hf
        cases hf
  · cases hf
set_option maxHeartbeats 4000000 in
theorem am_s35 : am_Sd 35 am_oIast := by
  intro sc hsc mid pc x k ts L S σ pc' L' S' σ' hd hk hf oL oS oσ
  have hd : decode (am_cc mid) pc = .ok (.iastore, 1) := hd
  unfold am_oIast at hf
  split at hf
  · rename_i v i j S1
    have hv : am_R v := am_okL_h oS
    have hi : am_R i := am_okL_h (am_okL_t oS)
    by_cases hr : am_at j = 0 ∧ 0 ≤ i ∧ i < am_ln j
    · rw [if_pos hr] at hf
      obtain ⟨ha, h0, h1⟩ := hr
      cases hf
      have hj := am_at_lt (by omega : am_at j < 3)
      refine ⟨⟨oL, am_okL_t (am_okL_t (am_okL_t oS)), am_okS_up oσ hv⟩, fun D cs a p l e R s m args below meth c Q hC H locs cells slots ls hc hs hI hl kk => ?_⟩
      obtain ⟨⟨hx, hb, hml, hown, hts⟩, ⟨hK, hD0⟩, -⟩ := hC
      refine va_iast hx hb hK hI.1 (am_D_of hD0) hI.2 j 0 (n := (am_ln j).toNat) (am_wd_ar hj ha) (by rw [ha]; rfl) (i := Int32.ofInt i) (am_in hi h0 (by omega)) hd (fun H1 locs1 hP1 hD1 hS1 => ?_)
      rw [am_clamp hi, am_wd_arr (i := i) (v := v) hj.2 hj.1 (am_cell_ar hj.1 ha h0)] at hP1
      exact kk H1 locs1 ls ⟨hP1, hS1⟩ hl
    · rw [if_neg hr] at hf
      cases hf
  · cases hf
set_option maxHeartbeats 4000000 in
theorem am_s36 : am_Sd 36 am_oBald := by
  intro sc hsc mid pc x k ts L S σ pc' L' S' σ' hd hk hf oL oS oσ
  have hd : decode (am_cc mid) pc = .ok (.baload, 1) := hd
  unfold am_oBald at hf
  split at hf
  · rename_i i j S1
    have hi : am_R i := am_okL_h oS
    by_cases hr : am_at j = 1 ∧ 0 ≤ i ∧ i < am_ln j
    · rw [if_pos hr] at hf
      obtain ⟨ha, h0, h1⟩ := hr
      cases hf
      have hj := am_at_lt (by omega : am_at j < 3)
      refine ⟨⟨oL, am_okL_c (v := .inl (σ j i)) (oσ j i) (am_okL_t (am_okL_t oS)), oσ⟩, fun D cs a p l e R s m args below meth c Q hC H locs cells slots ls hc hs hI hl kk => ?_⟩
      obtain ⟨⟨hx, hb, hml, hown, hts⟩, ⟨hK, hD0⟩, -, -, -, hscr⟩ := hC
      have h9 := kk H locs ls hI hl
      refine va_zald hx hb hK hI.1 j 1 (n := (am_ln j).toNat) (am_wd_ar hj ha) (by rw [ha]; rfl) (i := Int32.ofInt i) (am_in hi h0 (by omega)) hd ?_
      rw [am_clamp hi, show ((i.toNat : Nat) : Int) = i by omega]
      exact h9
    · rw [if_neg hr] at hf
      cases hf
  · cases hf
set_option maxHeartbeats 4000000 in
theorem am_s37 : am_Sd 37 am_oBast := by
  intro sc hsc mid pc x k ts L S σ pc' L' S' σ' hd hk hf oL oS oσ
  have hd : decode (am_cc mid) pc = .ok (.bastore, 1) := hd
  unfold am_oBast at hf
  split at hf
  · rename_i v i j S1
    have hv : am_R v := am_okL_h oS
    have hi : am_R i := am_okL_h (am_okL_t oS)
    by_cases hr : am_at j = 1 ∧ 0 ≤ i ∧ i < am_ln j ∧ (v = 0 ∨ v = 1)
    · rw [if_pos hr] at hf
      obtain ⟨ha, h0, h1, hv01⟩ := hr
      cases hf
      have hj := am_at_lt (by omega : am_at j < 3)
      refine ⟨⟨oL, am_okL_t (am_okL_t (am_okL_t oS)), am_okS_up oσ hv⟩, fun D cs a p l e R s m args below meth c Q hC H locs cells slots ls hc hs hI hl kk => ?_⟩
      obtain ⟨⟨hx, hb, hml, hown, hts⟩, ⟨hK, hD0⟩, -⟩ := hC
      refine va_zast hx hb hK hI.1 (am_D_of hD0) hI.2 j 1 (n := (am_ln j).toNat) (am_wd_ar hj ha) (by rw [ha]; rfl) (i := Int32.ofInt i) (am_in hi h0 (by omega)) hd (fun H1 locs1 hP1 hD1 hS1 => ?_)
      rw [am_clamp hi, am_nz hv01, am_wd_arr (i := i) (v := v) hj.2 hj.1 (am_cell_ar hj.1 ha h0)] at hP1
      exact kk H1 locs1 ls ⟨hP1, hS1⟩ hl
    · rw [if_neg hr] at hf
      cases hf
  · cases hf
set_option maxHeartbeats 4000000 in
theorem am_s38 : am_Sd 38 am_oLald := by
  intro sc hsc mid pc x k ts L S σ pc' L' S' σ' hd hk hf oL oS oσ
  have hd : decode (am_cc mid) pc = .ok (.laload, 1) := hd
  unfold am_oLald at hf
  split at hf
  · rename_i i j S1
    have hi : am_R i := am_okL_h oS
    by_cases hr : am_at j = 2 ∧ 0 ≤ i ∧ i < am_ln j
    · rw [if_pos hr] at hf
      obtain ⟨ha, h0, h1⟩ := hr
      cases hf
      have hj := am_at_lt (by omega : am_at j < 3)
      refine ⟨⟨oL, am_okL_c (v := .inr (.inr (σ j i))) (oσ j i) (am_okL_t (am_okL_t oS)), oσ⟩, fun D cs a p l e R s m args below meth c Q hC H locs cells slots ls hc hs hI hl kk => ?_⟩
      obtain ⟨⟨hx, hb, hml, hown, hts⟩, ⟨hK, hD0⟩, -, -, -, hscr⟩ := hC
      have h9 := kk H locs ls hI hl
      refine va_lald hx hb hK hI.1 j 2 (n := (am_ln j).toNat) (am_wd_arL hj ha) (by rw [ha]; rfl) (i := Int32.ofInt i) (am_in hi h0 (by omega)) hd ?_
      rw [am_clamp hi, show ((i.toNat : Nat) : Int) = i by omega]
      exact h9
    · rw [if_neg hr] at hf
      cases hf
  · cases hf
set_option maxHeartbeats 4000000 in
theorem am_s39 : am_Sd 39 am_oLast := by
  intro sc hsc mid pc x k ts L S σ pc' L' S' σ' hd hk hf oL oS oσ
  have hd : decode (am_cc mid) pc = .ok (.lastore, 1) := hd
  unfold am_oLast at hf
  split at hf
  · rename_i v i j S1
    have hv : am_R v := am_okL_h oS
    have hi : am_R i := am_okL_h (am_okL_t oS)
    by_cases hr : am_at j = 2 ∧ 0 ≤ i ∧ i < am_ln j
    · rw [if_pos hr] at hf
      obtain ⟨ha, h0, h1⟩ := hr
      cases hf
      have hj := am_at_lt (by omega : am_at j < 3)
      refine ⟨⟨oL, am_okL_t (am_okL_t (am_okL_t oS)), am_okS_up oσ hv⟩, fun D cs a p l e R s m args below meth c Q hC H locs cells slots ls hc hs hI hl kk => ?_⟩
      obtain ⟨⟨hx, hb, hml, hown, hts⟩, ⟨hK, hD0⟩, -⟩ := hC
      refine va_last hx hb hK hI.1 (am_D_of hD0) hI.2 j 2 (n := (am_ln j).toNat) (am_wd_arL hj ha) (by rw [ha]; rfl) (i := Int32.ofInt i) (am_in hi h0 (by omega)) hd (fun H1 locs1 hP1 hD1 hS1 => ?_)
      rw [am_clamp hi, am_wd_arr (i := i) (v := v) hj.2 hj.1 (am_cell_arL hj.1 ha h0)] at hP1
      exact kk H1 locs1 ls ⟨hP1, hS1⟩ hl
    · rw [if_neg hr] at hf
      cases hf
  · cases hf
set_option maxHeartbeats 4000000 in
theorem am_s40 : am_Sd 40 am_oLen := by
  intro sc hsc mid pc x k ts L S σ pc' L' S' σ' hd hk hf oL oS oσ
  have hd : decode (am_cc mid) pc = .ok (.arraylength, 1) := hd
  unfold am_oLen at hf
  split at hf
  · rename_i j S1
    by_cases hr : am_at j < 3
    · rw [if_pos hr] at hf
      cases hf
      have hj := am_at_lt hr
      have hln := am_ln_ok hr
      refine ⟨⟨oL, am_okL_c (v := .inl (am_ln j)) ⟨by omega, by omega⟩ (am_okL_t oS), oσ⟩, fun D cs a p l e R s m args below meth c Q hC H locs cells slots ls hc hs hI hl kk => ?_⟩
      obtain ⟨⟨hx, hb, hml, hown, hts⟩, ⟨hK, hD0⟩, -, -, -, hscr⟩ := hC
      have h9 := kk H locs ls hI hl
      obtain ⟨xx, hxx, hx1⟩ := am_wd_arA (a := a) (cs := cs) (σ := σ) hj
      refine va_alen hx hb hK hI.1 j (am_at j) hxx (am_ty_at hr) (v := Int32.ofInt (am_ln j)) ?_ hd h9
      rw [hx1, am_ofN]
      congr 1
      omega
    · by_cases hr2 : j = 28 ∧ mid = am_law
      · rw [if_neg hr, if_pos hr2] at hf
        obtain ⟨rfl, hm⟩ := hr2
        cases hf
        refine ⟨⟨oL, am_okL_c (v := .inl (sc (-1))) (hsc (-1)) (am_okL_t oS), oσ⟩, fun D cs a p l e R s m args below meth c Q hC H locs cells slots ls hc hs hI hl kk => ?_⟩
        obtain ⟨⟨hx, hb, hml, hown, hts⟩, ⟨hK, hD0⟩, -, -, -, hscr⟩ := hC
        obtain ⟨Ls, xs, hX, hbl, hbA, hsl, hsv⟩ := hscr hm
        have h9 := kk H locs ls hI hl
        refine va_slen hx hb hX hbl hbA hI.2 hd ?_
        rw [am_ofN, ← hsl]
        exact h9
      · rw [if_neg hr, if_neg hr2] at hf
        cases hf
  · cases hf
set_option maxHeartbeats 4000000 in
theorem am_s41 : am_Sd 41 am_oI2l := by
  intro sc hsc mid pc x k ts L S σ pc' L' S' σ' hd hk hf oL oS oσ
  have hd : decode (am_cc mid) pc = .ok (.i2l, 1) := hd
  unfold am_oI2l at hf
  split at hf
  · rename_i z S1
    cases hf
    have hz : am_R z := am_okL_h oS
    refine ⟨⟨oL, am_okL_c (v := .inr (.inr z)) hz (am_okL_t oS), oσ⟩, fun D cs a p l e R s m args below meth c Q hC H locs cells slots ls hc hs hI hl kk => ?_⟩
    obtain ⟨⟨hx, hb, -⟩, -⟩ := hC
    exact lv_i2l hx hb hd (am_ij hz) (kk H locs ls hI hl)
  · cases hf
set_option maxHeartbeats 4000000 in
theorem am_s42 : am_Sd 42 am_oLcmp := by
  intro sc hsc mid pc x k ts L S σ pc' L' S' σ' hd hk hf oL oS oσ
  have hd : decode (am_cc mid) pc = .ok (.lcmp, 1) := hd
  unfold am_oLcmp at hf
  split at hf
  · rename_i z1 z2 S1
    cases hf
    have h1 : am_R z1 := am_okL_h oS
    have h2 : am_R z2 := am_okL_h (am_okL_t oS)
    have hr : am_R (if z1 < z2 then 1 else if z2 = z1 then 0 else -1) := by
      constructor <;> split <;> (try split) <;> omega
    refine ⟨⟨oL, am_okL_c (v := .inl _) hr (am_okL_t (am_okL_t oS)), oσ⟩, fun D cs a p l e R s m args below meth c Q hC H locs cells slots ls hc hs hI hl kk => ?_⟩
    obtain ⟨⟨hx, hb, -⟩, -⟩ := hC
    have h9 := kk H locs ls hI hl
    refine W.lcmp hx hb hd ?_
    rw [am_lcmp h2 h1]
    exact h9
  · cases hf
set_option maxHeartbeats 4000000 in
theorem am_s43 : am_Sd 43 am_oMin := by
  intro sc hsc mid pc x k ts L S σ pc' L' S' σ' hd hk hf oL oS oσ
  have hd : decode (am_cc mid) pc = .ok (.invokestatic x.toNat, 3) := hd
  simp [am_ck] at hk
  obtain ⟨hk1, hk0, hk2, hk3⟩ := hk
  rw [hk1] at hd
  unfold am_oMin at hf
  split at hf
  · rename_i z1 z2 S1
    by_cases hr : S1.length ≤ 4
    · rw [if_pos hr] at hf
      cases hf
      have h1 : am_R z1 := am_okL_h oS
      have h2 : am_R z2 := am_okL_h (am_okL_t oS)
      have hmn : am_R (if z1 < z2 then z1 else z2) := by split <;> assumption
      refine ⟨⟨oL, am_okL_c (v := .inl _) hmn (am_okL_t (am_okL_t oS)), oσ⟩, fun D cs a p l e R s m args below meth c Q hC H locs cells slots ls hc hs hI hl kk => ?_⟩
      obtain ⟨⟨hx, hb, hml, hown, hts⟩, ⟨hK, hD0⟩, ⟨hfr, hlo⟩, -⟩ := hC
      have h9 := kk H locs ls hI hl
      have hcat := am_catsum a S1
      rw [hk0] at hown
      refine va_mmin hx hb (by rw [hml, hl.1]) hown (hts _ (am_inw (am_minw0 _ (by simp)).1 (am_minw0 _ (by simp)).2)) (hts _ (am_inw (am_minw0 _ (by simp)).1 (am_minw0 _ (by simp)).2)) (hts _ (am_inw (am_minw0 _ (by simp)).1 (am_minw0 _ (by simp)).2)) (hts _ (am_inw (am_minw0 _ (by simp)).1 (am_minw0 _ (by simp)).2)) (by omega) (by omega) hc hs hd ?_
      have e : (if Int32.ofInt z1 < Int32.ofInt z2 then Int32.ofInt z1 else Int32.ofInt z2) = Int32.ofInt (if z1 < z2 then z1 else z2) := by
        by_cases hlt : z1 < z2
        · rw [if_pos hlt, if_pos ((am_ltI h1 h2).mpr hlt)]
        · rw [if_neg hlt, if_neg (fun q => hlt ((am_ltI h1 h2).mp q))]
      rw [e]
      exact h9
    · rw [if_neg hr] at hf
      cases hf
  · cases hf
theorem am_sAll : ∀ (op : Nat) (f : OpT), am_ops[op]? = some f → am_Sd op f := by
  intro op f h
  match op, h with
  | 0, h => cases h; exact am_s0
  | 1, h => cases h; exact am_s1
  | 2, h => cases h; exact am_s2
  | 3, h => cases h; exact am_s3
  | 4, h => cases h; exact am_s4
  | 5, h => cases h; exact am_s5
  | 6, h => cases h; exact am_s6
  | 7, h => cases h; exact am_s7
  | 8, h => cases h; exact am_s8
  | 9, h => cases h; exact am_s9
  | 10, h => cases h; exact am_s10
  | 11, h => cases h; exact am_s11
  | 12, h => cases h; exact am_s12
  | 13, h => cases h; exact am_s13
  | 14, h => cases h; exact am_s14
  | 15, h => cases h; exact am_s15
  | 16, h => cases h; exact am_s16
  | 17, h => cases h; exact am_s17
  | 18, h => cases h; exact am_s18
  | 19, h => cases h; exact am_s19
  | 20, h => cases h; exact am_s20
  | 21, h => cases h; exact am_s21
  | 22, h => cases h; exact am_s22
  | 23, h => cases h; exact am_s23
  | 24, h => cases h; exact am_s24
  | 25, h => cases h; exact am_s25
  | 26, h => cases h; exact am_s26
  | 27, h => cases h; exact am_s27
  | 28, h => cases h; exact am_s28
  | 29, h => cases h; exact am_s29
  | 30, h => cases h; exact am_s30
  | 31, h => cases h; exact am_s31
  | 32, h => cases h; exact am_s32
  | 33, h => cases h; exact am_s33
  | 34, h => cases h; exact am_s34
  | 35, h => cases h; exact am_s35
  | 36, h => cases h; exact am_s36
  | 37, h => cases h; exact am_s37
  | 38, h => cases h; exact am_s38
  | 39, h => cases h; exact am_s39
  | 40, h => cases h; exact am_s40
  | 41, h => cases h; exact am_s41
  | 42, h => cases h; exact am_s42
  | 43, h => cases h; exact am_s43
  | n + 44, h => rw [List.getElem?_eq_none (by show 44 ≤ n + 44; omega)] at h; cases h
end
section
/-! what the checks say, case by case -/
theorem am_lk_in {pc : Nat} {e : En} : ∀ {l : List (Nat × En)}, am_lk pc l = some e → (pc, e) ∈ l := by
  intro l
  induction l with
  | nil => intro h; cases h
  | cons q r ih =>
    intro h
    unfold am_lk at h
    by_cases hq : q.1 = pc
    · rw [if_pos hq] at h
      cases h
      rw [← hq]
      exact List.mem_cons_self
    · rw [if_neg hq] at h
      exact List.mem_cons_of_mem _ (ih h)
theorem am_okc {pc mid op k : Nat} {x : Int} {ts : List Int} (h : am_lk pc (am_code mid) = some (op, x, k, ts)) : decode (am_cc mid) pc = .ok (am_dcd pc (op, x, k, ts)) ∧ am_ck mid op x k ts = true := am_okc0 (am_lk_in h)
theorem am_okM {mid : Nat} (h : mid < am_law) : plainName (am_y mid).cls = true ∧ (am_y mid).cls = am_cC (am_ob mid) ∧ am_na mid ≤ am_nl mid := am_okM0 mid h
theorem am_rt60 {mid k : Nat} {x : Int} {ts : List Int} (h : am_ck mid 60 x k ts = true) : am_rt mid = some .int := by simpa [am_ck] using h
theorem am_rt61 {mid k : Nat} {x : Int} {ts : List Int} (h : am_ck mid 61 x k ts = true) : am_rt mid = some .boolean := by simpa [am_ck] using h
theorem am_rt62 {mid k : Nat} {x : Int} {ts : List Int} (h : am_ck mid 62 x k ts = true) : am_rt mid = none := by simpa [am_ck] using h
theorem am_op5 {mid op k : Nat} {x : Int} {ts : List Int} (h50 : ¬ op < 50) (h60 : op < 60) (h : am_ck mid op x k ts = true) : op = 50 ∨ op = 51 ∨ op = 52 := by
  rcases (show op = 50 ∨ op = 51 ∨ op = 52 ∨ 53 ≤ op by omega) with h1 | h1 | h1 | h1
  · exact Or.inl h1
  · exact Or.inr (Or.inl h1)
  · exact Or.inr (Or.inr h1)
  · exfalso
    simp [am_ck, show ¬ op < 2 by omega, show op ≠ 2 by omega, show op ≠ 3 by omega, show op ≠ 5 by omega, show op ≠ 7 by omega, show op ≠ 9 by omega, show op ≠ 31 by omega, show op ≠ 32 by omega, show op ≠ 33 by omega, show op ≠ 43 by omega, show op ≠ 50 by omega, show op ≠ 51 by omega, show op ≠ 52 by omega, show op ≠ 60 by omega, show op ≠ 61 by omega, show op ≠ 62 by omega, show op ≠ 63 by omega, show ¬ op < 50 by omega] at h
theorem am_ck50 {mid k : Nat} {x : Int} {ts : List Int} (h : am_ck mid 50 x k ts = true) : (am_ob mid, x.toNat, k) ∈ am_mlV ∧ k < am_law ∧ am_fr k + 1 ≤ am_fr mid ∧ 8 + (am_nl k + 11) + am_lo k ≤ am_lo mid := by simpa [am_ck] using h
theorem am_ck51 {mid k : Nat} {x : Int} {ts : List Int} (h : am_ck mid 51 x k ts = true) : (am_ob mid, x.toNat, k) ∈ am_mlS ∧ k < am_law ∧ am_fr k + 1 ≤ am_fr mid ∧ 8 + (am_nl k + 11) + am_lo k ≤ am_lo mid := by simpa [am_ck] using h
theorem am_ck52 {mid k : Nat} {x : Int} {ts : List Int} (h : am_ck mid 52 x k ts = true) : (am_ob mid, x.toNat, k) ∈ am_mlW ∧ k < am_law ∧ am_fr k + 1 ≤ am_fr mid ∧ 8 + (am_nl k + 11) + am_lo k ≤ am_lo mid := by simpa [am_ck] using h
theorem am_callee {mid op k : Nat} {x : Int} {ts : List Int} (h50 : ¬ op < 50) (h60 : op < 60) (h : am_ck mid op x k ts = true) : k < am_law ∧ am_fr k + 1 ≤ am_fr mid ∧ 8 + (am_nl k + 11) + am_lo k ≤ am_lo mid := by
  rcases am_op5 h50 h60 h with rfl | rfl | rfl
  · exact (am_ck50 h).2
  · exact (am_ck51 h).2
  · exact (am_ck52 h).2
theorem am_gin {ws : List Cond} (h : ∀ w ∈ ws, w ∈ am_ws) : GoodIn am_ws ws := fun w hw => ⟨h w hw, am_goodw (h w hw)⟩
theorem am_cwV {mid k : Nat} {x : Int} {ts : List Int} (h : am_ck mid 50 x k ts = true) : GoodIn am_ws (wsV (am_cC (am_ob mid)) x.toNat (am_cC (am_ob k)) (am_y k) (am_wsm k)) ∧ am_wsm k = Cond.code (am_y k) (am_cc k) (am_nl k) (am_rt k) :: am_ws ∧
    ((am_y k).cls = am_cC (am_ob k) ∧ (am_y k).cls ≠ "java/lang/invoke/MethodHandle" ∧ (am_y k).cls ≠ "java/lang/invoke/VarHandle" ∧ (parseMethodDescriptor (am_y k).desc).map (fun d => d.parameters.length) = some (am_na k - 1)) ∧ am_ob k < 2 ∧ 1 ≤ am_na k := by
  obtain ⟨hq, -⟩ := am_ck50 h
  obtain ⟨n1, n2, n3, n4, n5, n6, n7⟩ := am_mlV_n _ hq
  dsimp only at n1 n2 n3 n4 n5 n6 n7
  have hk := am_wV _ hq
  have e : am_wsm k = Cond.code (am_y k) (am_cc k) (am_nl k) (am_rt k) :: am_ws := by unfold am_wsm; rw [if_pos n1]
  have hini : Cond.initialized (am_cC (am_ob k)) ∈ am_ws := by
    rcases (show am_ob k = 0 ∨ am_ob k = 1 by omega) with e1 | e1 <;> rw [e1]
    · exact am_inw am_ini0.1 rfl
    · exact am_inw am_ini0.2 rfl
  refine ⟨am_gin (fun w hw => ?_), e, ⟨n4, n5, n6, n7⟩, n2, n3⟩
  rw [e] at hw
  unfold wsV at hw
  rcases List.mem_append.mp hw with hw | hw
  · simp only [List.mem_cons, List.not_mem_nil, or_false] at hw
    rcases hw with rfl | rfl | rfl | rfl
    · exact am_inw (am_mlV_a _ hq) rfl
    · exact am_inw (am_wI k hk) rfl
    · exact am_inw (am_wS k hk) rfl
    · exact hini
  · rcases List.mem_cons.mp hw with rfl | hw
    · exact am_inw (am_wC k hk) rfl
    · exact hw
theorem am_cwS {mid k : Nat} {x : Int} {ts : List Int} (h : am_ck mid 51 x k ts = true) : GoodIn am_ws (va_wsS (am_cC (am_ob mid)) x.toNat (am_y k) (am_wsm k)) ∧ am_wsm k = Cond.code (am_y k) (am_cc k) (am_nl k) (am_rt k) :: am_ws ∧
    ((am_y k).cls ≠ "java/lang/invoke/MethodHandle" ∧ (am_y k).cls ≠ "java/lang/invoke/VarHandle" ∧ (parseMethodDescriptor (am_y k).desc).map (fun d => d.parameters.length) = some (am_na k)) := by
  obtain ⟨hq, -⟩ := am_ck51 h
  obtain ⟨n1, n5, n6, n7⟩ := am_mlS_n _ hq
  have e : am_wsm k = Cond.code (am_y k) (am_cc k) (am_nl k) (am_rt k) :: am_ws := by unfold am_wsm; rw [if_pos n1]
  refine ⟨am_gin (fun w hw => ?_), e, n5, n6, n7⟩
  rw [e] at hw
  unfold va_wsS at hw
  have hall := am_mlS_w _ hq
  rcases List.mem_append.mp hw with hw | hw
  · exact am_inw (hall w (by simp only [List.mem_cons, List.not_mem_nil, or_false] at hw ⊢; rcases hw with h1 | h1 | h1 <;> simp [h1])).1 (hall w (by simp only [List.mem_cons, List.not_mem_nil, or_false] at hw ⊢; rcases hw with h1 | h1 | h1 <;> simp [h1])).2
  · rcases List.mem_cons.mp hw with rfl | hw
    · exact am_inw (hall _ (by simp)).1 rfl
    · exact hw
theorem am_cwW {mid k : Nat} {x : Int} {ts : List Int} (h : am_ck mid 52 x k ts = true) : GoodIn am_ws (va_wsS (am_cC (am_ob mid)) x.toNat (am_y k) (am_wsm k)) ∧ am_wsm k = Cond.codeWith (am_y k) (am_cc k) (am_nl k) (am_rt k) (am_tb k) :: am_ws ∧
    ((am_y k).cls ≠ "java/lang/invoke/MethodHandle" ∧ (am_y k).cls ≠ "java/lang/invoke/VarHandle" ∧ (parseMethodDescriptor (am_y k).desc).map (fun d => d.parameters.length) = some (am_na k)) := by
  obtain ⟨hq, -⟩ := am_ck52 h
  obtain ⟨n1, n5, n6, n7⟩ := am_mlW_n _ hq
  have e : am_wsm k = Cond.codeWith (am_y k) (am_cc k) (am_nl k) (am_rt k) (am_tb k) :: am_ws := by unfold am_wsm; rw [if_neg n1]
  refine ⟨am_gin (fun w hw => ?_), e, n5, n6, n7⟩
  rw [e] at hw
  unfold va_wsS at hw
  have hall := am_mlW_w _ hq
  rcases List.mem_append.mp hw with hw | hw
  · exact am_inw (hall w (by simp only [List.mem_cons, List.not_mem_nil, or_false] at hw ⊢; rcases hw with h1 | h1 | h1 <;> simp [h1])).1 (hall w (by simp only [List.mem_cons, List.not_mem_nil, or_false] at hw ⊢; rcases hw with h1 | h1 | h1 <;> simp [h1])).2
  · rcases List.mem_cons.mp hw with rfl | hw
    · exact am_inw (hall _ (by simp)).1 rfl
    · exact hw
theorem am_thr {mid pc i : Nat} {x : Int} {ts : List Int} (h : am_lk pc (am_code mid) = some (63, x, i, ts)) : am_tb mid = [] ∧ 6 ≤ am_fr mid ∧ 81 ≤ am_lo mid ∧ (am_ob mid, x.toNat, i, (ts.getD 0 0).toNat) ∈ am_ths ∧
    decode (am_cc mid) pc = .ok (.new x.toNat, 3) ∧ decode (am_cc mid) (pc + 3) = .ok (.dup, 1) ∧ decode (am_cc mid) (pc + 4) = .ok (.invokespecial (ts.getD 0 0).toNat, 3) ∧ decode (am_cc mid) (pc + 7) = .ok (.athrow, 1) := by
  obtain ⟨h1, h2, h3⟩ := am_okA mid _ (am_lk_in h)
  have h2 : (am_ob mid, x.toNat, i, (ts.getD 0 0).toNat) ∈ am_ths ∧ am_tb mid = [] ∧ 6 ≤ am_fr mid ∧ 81 ≤ am_lo mid := of_decide_eq_true h2
  obtain ⟨d1, d2, d3⟩ := h3 rfl
  exact ⟨h2.2.1, h2.2.2.1, h2.2.2.2, h2.1, h1, d1, d2, d3⟩
-- castability and declarations stay
theorem am_castW {C T : String} {s U : State} (hW : s.WarmedH U.vm) (h : va_Nw (.castable C T) s) : va_Nw (.castable C T) U := by
  obtain ⟨c, t, h1, h2, h3⟩ := Cond.castable_spec h
  show (Cond.castable C T).before #[] U = true
  simp [Cond.before, Cond.holds, Cond.value, hW.alike.findClass, h1, h2, hW.alike.assignable, h3]
theorem am_xwW {s U : State} (hW : s.WarmedH U.vm) (h : ∀ w ∈ am_xw, va_Nw w s) : ∀ w ∈ am_xw, va_Nw w U := by
  intro w hw
  have h9 := h w hw
  simp only [am_xw, List.mem_cons, List.not_mem_nil, or_false] at hw
  rcases hw with rfl | rfl | rfl | rfl | rfl | rfl | rfl
  · exact am_castW hW h9
  · exact am_castW hW h9
  · exact am_castW hW h9
  · exact am_castW hW h9
  · exact va_Nw.warmD hW h9
  · exact va_Nw.warmD hW h9
  · exact va_Nw.warmD hW h9
theorem am_xw_ot : ∀ w ∈ am_xw, w.onTables = true := by decide +kernel
theorem am_ths_g {o ix i ic : Nat} {args : Array Value} {s : State} (h : (o, ix, i, ic) ∈ am_ths) (hts : ∀ w ∈ am_ws, w.before args s = true) (hx : ∀ w ∈ am_xw, va_Nw w s) : ∀ w ∈ vx_at0 (am_cC o) ic (am_en i) am_sup, w.before args s = true := by
  have h1 := am_ths_d (o, ix, i, ic) h
  have h2 := am_ths_e (o, ix, i, ic) h
  dsimp only at h1 h2
  generalize vx_at0 (am_cC o) ic (am_en i) am_sup = Ls at h1 h2 ⊢
  exact vx_hat (B := am_xw) (fun w hw => hts w (am_inw (h1 w hw) (List.mem_filter.mp hw).2)) h2 (fun w hw => va_Nw.use (am_xw_ot w hw) (hx w hw))
theorem am_ths_h {o ix i ic : Nat} (h : (o, ix, i, ic) ∈ am_ths) : ∀ w ∈ Cond.classLink (am_cC o) ix (am_en i) :: Cond.initialized (am_en i) :: vx_at0 (am_cC o) ic (am_en i) am_sup, vx_ot w = true := by
  have h1 := am_ths_f (o, ix, i, ic) h
  dsimp only at h1
  exact h1
theorem am_xw_any {s U : State} (h : s.vm = U.vm) (h2 : ∀ w ∈ am_xw, va_Nw w s) : ∀ w ∈ am_xw, va_Nw w U := fun w hw => va_Nw.same (am_xw_ot w hw) h (h2 w hw)
/-! the run of a method: calls, handlers, throws, answers -/
/-- a method's start -/
def am_Pc (D : va_G) (cs : Nat → ClassId) (a : Nat → Nat) (σ : St) (as : List AV) (sz : Nat) : Array Value → State → Prop :=
  va_Pc (as.map (am_cv a)) (fun U => U.heap.size = sz ∧ va_P D am_cl (am_wd a cs σ) U.heap ∧ va_K D am_cl (am_ty cs) U ∧ am_Zs (am_A a sz) U U.heap ∧ am_Ncs U)
/-- a method's end -/
def am_Q (D : va_G) (cs : Nat → ClassId) (a : Nat → Nat) (o : Ou) (σr : St) (sz : Nat) : Array Value → State → Outcome → State → Prop := fun _ st oc t =>
  ∃ v : Option Int, o = .inl v ∧ oc = .returned (v.map fun z => .int (Int32.ofInt z)) ∧ va_P D am_cl (am_wd a cs σr) t.heap ∧ va_F (am_A a sz) st t
def am_X (D : va_G) (cs : Nat → ClassId) (a : Nat → Nat) (o : Ou) (σr : St) (sz : Nat) : String → State → State → Prop := fun E st t =>
  ∃ i : Nat, o = .inr i ∧ E = am_en i ∧ va_P D am_cl (am_wd a cs σr) t.heap ∧ va_F (am_A a sz) st t
def am_okO (o : Ou) : Prop := match o with
  | .inl (some v) => am_R v
  | _ => True
theorem am_A_mono {a : Nat → Nat} {n k : Nat} (h : n ≤ k) : ∀ q, am_A a k q → am_A a n q := by
  intro q hq
  rcases hq with hq | hq
  · exact Or.inl hq
  · exact Or.inr (Nat.le_trans h hq)
theorem am_blind {D : va_G} {cs : Nat → ClassId} {a : Nat → Nat} {σ : St} {as : List AV} {sz : Nat} : FrameBlind (am_Pc D cs a σ as sz) := by
  intro v U g mk hq
  obtain ⟨q0, q1, qP, qK, ⟨qU, qN⟩, qc, qw⟩ := hq
  exact ⟨q0, q1, qP, va_K.moved (u := U) (U := U.calling g mk v) (Vm.Alike.refl U.vm) qK, ⟨vx_Zq.moved (u := U) (U := U.calling g mk v) (Vm.Alike.refl U.vm) qU, vx_Zq.moved (u := U) (U := U.calling g mk v) (Vm.Alike.refl U.vm) qN⟩, fun z hz => va_Nc.moved (u := U) (U := U.calling g mk v) (Vm.Alike.refl U.vm) (qc z hz), am_xw_any (s := U) (U := U.calling g mk v) rfl qw⟩
theorem am_lv_args {a : Nat → Nat} : ∀ (as : List AV) (i0 i : Nat) (v : AV), as.all am_one = true → as[i]? = some v → (i0 + i, am_cv a v) ∈ lv_args i0 (as.map (am_cv a)) := by
  intro as
  induction as with
  | nil => intro i0 i v _ h; cases h
  | cons w as ih =>
    intro i0 i v hall hv
    simp only [List.all_cons, Bool.and_eq_true] at hall
    have hw : ¬ (am_cv a w).category = 2 := by rw [am_cat1 hall.1]; decide
    simp only [List.map_cons, lv_args, if_neg hw]
    cases i with
    | zero =>
      cases hv
      exact List.mem_cons_self
    | succ i =>
      refine List.mem_cons_of_mem _ ?_
      have h1 := ih (i0 + 1) i v hall.2 hv
      rwa [show i0 + 1 + i = i0 + (i + 1) by omega] at h1
theorem am_lg_len {a : Nat → Nat} : ∀ as : List AV, as.all am_one = true → (lg_sl (as.map (am_cv a))).length = as.length := by
  intro as
  induction as with
  | nil => intro _; rfl
  | cons w as ih =>
    intro hall
    simp only [List.all_cons, Bool.and_eq_true] at hall
    have hw : ¬ (am_cv a w).category = 2 := by rw [am_cat1 hall.1]; decide
    have h1 := ih hall.2
    simp only [lg_sl] at h1
    simp only [List.map_cons, lg_sl, List.flatMap_cons, if_neg hw, List.length_append, List.length_cons, List.length_nil, h1]
    omega
/-- the frame at a method's entry -/
theorem am_entry {a : Nat → Nat} {as : List AV} {mid : Nat} (hall : as.all am_one = true) (hn : as.length ≤ am_nl mid) (m : MethodId) : ∃ ls : Array Slot, entryFrame m (as.map (am_cv a)).toArray (am_nl mid) = F0 m 0 ls [] ∧ am_hl a ls (am_nl mid) (am_ent mid as) := by
  refine ⟨_, lg_entry_eq m (as.map (am_cv a)) (am_nl mid), ?_⟩
  have hl := lv_entry (as.map (am_cv a)) (n := am_nl mid) (by rw [am_lg_len as hall]; exact hn)
  refine ⟨hl.1, by simp [am_ent]; omega, hl.2.1, fun i v hv hc => ?_⟩
  by_cases hi : i < as.length
  · unfold am_ent at hv
    rw [List.getElem?_append_left hi] at hv
    have h1 := am_lv_args (a := a) as 0 i v hall hv
    rw [Nat.zero_add] at h1
    exact hl.2.2 _ h1
  · unfold am_ent at hv
    rw [List.getElem?_append_right (by omega)] at hv
    have := List.mem_of_getElem? hv
    rw [List.eq_of_mem_replicate this] at hc
    cases hc
section AMG
variable {p : Program} {l : Launch} {e : Env} {R : Room} {s : State} {m : MethodId} {args : Array Value} {below : List Frame} {meth : Method} {c : Code} {H : Heap} {locs : List Loc} {cells slots : Nat} {Q : State → Prop}
/-- behind a call -/
theorem am_goW {D : va_G} {cs : Nat → ClassId} {a : Nat → Nat} {σ σr : St} {o : Ou} {mc ms pc : Nat} {ls : Array Slot} {st0 rest : List Value} {av : Array Value}
    (hr : vx_Run p l e R s m args below meth c H locs cells slots mc ms (F0 m pc ls st0) rest (am_Q D cs a o σr H.size av) (am_X D cs a o σr H.size) (am_A a H.size)) (hI : am_In D cs a s σ H locs)
    (kk : ∀ (v : Option Int) (H1 : Heap) (locs1 : List Loc), o = .inl v → am_In D cs a s σr H1 locs1 → W p l e R s m args below meth c H1 locs1 (cells + mc) (slots + ms) Q (F0 m (pc + 3) ls ((v.map fun z => .int (Int32.ofInt z)).toList ++ rest)))
    (kx : ∀ (i : Nat) (q : Addr) (ce : Cell) (H1 : Heap) (locs1 : List Loc), o = .inr i → am_In D cs a s σr H1 locs1 → H1[q]? = some ce → ce.vm = .none → s.vm.findClass (am_en i) = some ce.cls → vx_W p l e R s m args below meth c H1 locs1 (cells + mc) (slots + ms) Q (F0 m pc ls rest) q) :
    W p l e R s m args below meth c H locs cells slots Q (F0 m pc ls st0) := by
  intro T hT X
  have hA : ∀ q, q < H.size → am_A a H.size q → am_A a s.heap.size q := fun q _ h => am_A_mono hI.2.1 q h
  rcases hr T hT X with ⟨v, st₀, t, T', L, h0, X', hL, e1, e2, hq, st⟩ | ⟨q, st₀, t, T', L, E, ce, h0, X', hL, e1, e2, hx, hce, hcv, hcl, st⟩
  · obtain ⟨v', ho, hv, hP, hF⟩ := hq
    obtain ⟨k1, k2, k3⟩ := vx_keep h0 e1 hI.2 hA (am_A_mono hI.2.1) hL hF
    cases hv
    obtain ⟨t2, a1, b1⟩ := kk v' T'.heap (locs ++ L) ho ⟨by rw [e1]; exact hP, k3⟩ T' rfl X'
    exact ⟨t2, st t2 a1, b1⟩
  · obtain ⟨i, ho, hE, hP, hF⟩ := hx
    obtain ⟨k1, k2, k3⟩ := vx_keep h0 e1 hI.2 hA (am_A_mono hI.2.1) hL hF
    subst hE
    obtain ⟨t2, a1, b1⟩ := kx i q ce T'.heap (locs ++ L) ho ⟨by rw [e1]; exact hP, k3⟩ (by rw [e1]; exact hce) hcv hcl T' rfl X'
    exact ⟨t2, st.trans a1, b1⟩
end AMG
/-- what a run owes where it ends: with an answer, with a throw of its own, with one that a callee threw -/
def am_Rt (D : va_G) (cs : Nat → ClassId) (a : Nat → Nat) (p : Program) (l : Launch) (e : Env) (R : Room) (s : State) (m : MethodId) (args : Array Value) (below : List Frame) (meth : Method) (c : Code) (Q : State → Prop) (M N mid : Nat) (o : Ou) (σr : St) : Prop :=
  (∀ (v : Option Int) (op pc : Nat) (x : Int) (k : Nat) (ts : List Int) (H : Heap) (locs : List Loc) (cells slots : Nat) (ls : Array Slot), o = .inl v → am_lk pc (am_code mid) = some (op, x, k, ts) → (op = 60 ∧ (∃ z, v = some z) ∨ op = 61 ∧ (v = some 0 ∨ v = some 1) ∨ op = 62 ∧ v = none) → am_In D cs a s σr H locs → cells ≤ M → slots ≤ N →
    W p l e R s m args below meth c H locs cells slots Q (F0 m pc ls ((am_rv v).map (am_cv a)))) ∧
  (∀ (i pc : Nat) (x : Int) (ts : List Int) (H : Heap) (locs : List Loc) (cells slots : Nat) (ls : Array Slot), o = .inr i → am_lk pc (am_code mid) = some (63, x, i, ts) → am_In D cs a s σr H locs → ls.size = am_nl mid → cells + 1 ≤ M → slots + 6 ≤ N →
    W p l e R s m args below meth c H locs cells slots Q (F0 m pc ls [])) ∧
  (∀ (i pc : Nat) (rest : List Value) (H : Heap) (locs : List Loc) (cells slots : Nat) (ls : Array Slot) (q : Addr) (ce : Cell), o = .inr i → am_tb mid = [] → am_In D cs a s σr H locs → H[q]? = some ce → ce.vm = .none → s.vm.findClass (am_en i) = some ce.cls → cells ≤ M → slots ≤ N →
    vx_W p l e R s m args below meth c H locs cells slots Q (F0 m pc ls rest) q)
def am_P (sc : Int → Int) (n : Nat) : Prop := ∀ (mid pc : Nat) (L S : List AV) (σ : St) (o : Ou) (σr : St) (t : Nat), am_ex sc n mid pc L S σ = some (o, σr, t) → am_okL L → am_okL S → am_okS σ →
  (am_okO o ∧ am_okS σr) ∧ ∀ (D : va_G) (cs : Nat → ClassId) (a : Nat → Nat) (p : Program) (l : Launch) (e : Env) (R : Room) (s : State) (m : MethodId) (args : Array Value) (below : List Frame) (meth : Method) (c : Code) (Q : State → Prop) (M N : Nat),
    am_Cx sc D cs a p l R s m args meth c mid → M ≤ R.cells → N ≤ R.slots → am_Rt D cs a p l e R s m args below meth c Q M N mid o σr →
    ∀ (H : Heap) (locs : List Loc) (cells slots : Nat) (ls : Array Slot), cells + t ≤ M → slots + 6 * t ≤ N → am_In D cs a s σ H locs → am_hl a ls (am_nl mid) L → W p l e R s m args below meth c H locs cells slots Q (F0 m pc ls (S.map (am_cv a)))
-- a caught exception has its place in the names of the cells alone
def am_a27 (a : Nat → Nat) (q : Nat) : Nat → Nat := fun k => if k = 27 then q else a k
theorem am_a27_n {a : Nat → Nat} {q k : Nat} (h : k ≠ 27) : am_a27 a q k = a k := if_neg h
theorem am_fl_lt {o k : Nat} (h : am_fl o k < 30) : am_fl o k < 27 := am_fl_27 o k h
theorem am_wd27 {a : Nat → Nat} {cs : Nat → ClassId} {σ : St} {q : Nat} : am_wd (am_a27 a q) cs σ = am_wd a cs σ := by
  refine List.map_congr_left (fun j hj => ?_)
  have hj := List.mem_range.mp hj
  unfold am_cell
  rw [am_a27_n (by omega)]
  have e : am_fv (am_a27 a q) σ j = am_fv a σ j := by
    funext k
    unfold am_fv
    by_cases hf : am_fl j k < 30
    · rw [if_pos hf, if_pos hf, am_a27_n (by have := am_fl_lt hf; omega)]
    · rw [if_neg hf, if_neg hf]
  rw [e]
theorem am_A27 {a : Nat → Nat} {q sz : Nat} : am_A (am_a27 a q) sz = am_A a sz := by
  funext z
  apply propext
  constructor
  · rintro (⟨k, hk, he⟩ | h)
    · exact Or.inl ⟨k, hk, by rw [he, am_a27_n (by omega)]⟩
    · exact Or.inr h
  · rintro (⟨k, hk, he⟩ | h)
    · exact Or.inl ⟨k, hk, by rw [he, am_a27_n (by omega)]⟩
    · exact Or.inr h
theorem am_In27 {D : va_G} {cs : Nat → ClassId} {a : Nat → Nat} {s : State} {σ : St} {H : Heap} {locs : List Loc} {q : Nat} : am_In D cs (am_a27 a q) s σ H locs = am_In D cs a s σ H locs := by
  unfold am_In
  rw [am_wd27, am_A27]
theorem am_Cx27 {sc : Int → Int} {D : va_G} {cs : Nat → ClassId} {a : Nat → Nat} {p : Program} {l : Launch} {R : Room} {s : State} {m : MethodId} {args : Array Value} {meth : Method} {c : Code} {mid q : Nat} (h : am_Cx sc D cs a p l R s m args meth c mid) : am_Cx sc D cs (am_a27 a q) p l R s m args meth c mid := by
  obtain ⟨h1, ⟨h2, h3⟩, h4, h5, h6, h7⟩ := h
  refine ⟨h1, ⟨h2, fun i j hi hj he => h3 i j hi hj ?_⟩, h4, h5, ?_, ?_⟩
  · rwa [am_a27_n (by omega), am_a27_n (by omega)] at he
  · rw [am_A27]; exact h6
  · rw [am_A27, am_a27_n (by decide)]; exact h7
theorem am_cv27 {a : Nat → Nat} {q : Nat} {v : AV} (h : am_nx27 v = true) : am_cv (am_a27 a q) v = am_cv a v := by
  rcases v with z | k | z
  · rfl
  · show Value.ref _ = Value.ref _
    rw [am_a27_n (of_decide_eq_true h)]
  · rfl
theorem am_hl27 {a : Nat → Nat} {q n : Nat} {ls : Array Slot} {L : List AV} (h : am_hl a ls n L) (h2 : L.all am_nx27 = true) : am_hl (am_a27 a q) ls n L := by
  refine ⟨h.1, h.2.1, h.2.2.1, fun i v hv hc => ?_⟩
  rw [am_cv27 (List.all_eq_true.mp h2 v (List.mem_of_getElem? hv))]
  exact h.2.2.2 i v hv hc
theorem am_Rt27 {D : va_G} {cs : Nat → ClassId} {a : Nat → Nat} {p : Program} {l : Launch} {e : Env} {R : Room} {s : State} {m : MethodId} {args : Array Value} {below : List Frame} {meth : Method} {c : Code} {Q : State → Prop} {M N mid : Nat} {o : Ou} {σr : St} {q : Nat}
    (h : am_Rt D cs a p l e R s m args below meth c Q M N mid o σr) : am_Rt D cs (am_a27 a q) p l e R s m args below meth c Q M N mid o σr := by
  obtain ⟨h1, h2, h3⟩ := h
  refine ⟨?_, ?_, ?_⟩
  · intro v op pc x k ts H locs cells slots ls ho hlk hop hI
    rw [am_In27] at hI
    have h9 := h1 v op pc x k ts H locs cells slots ls ho hlk hop hI
    rcases v with _ | z
    · exact h9
    · exact h9
  · intro i pc x ts H locs cells slots ls ho hlk hI
    rw [am_In27] at hI
    exact h2 i pc x ts H locs cells slots ls ho hlk hI
  · intro i pc rest H locs cells slots ls q2 ce ho ht hI
    rw [am_In27] at hI
    exact h3 i pc rest H locs cells slots ls q2 ce ho ht hI
def am_rm (mid t : Nat) : Room := { frames := am_fr mid, cells := t, slots := 6 * t, locals := am_lo mid }
/-- the end of a method -/
theorem am_RtM {sc : Int → Int} {D : va_G} {cs : Nat → ClassId} {a : Nat → Nat} {p : Program} {l : Launch} {e : Env} {R : Room} {s : State} {m : MethodId} {args : Array Value} {below : List Frame} {meth : Method} {c : Code} {mid t : Nat} {o : Ou} {σr : St} (hRc : t ≤ R.cells) (hRs : 6 * t ≤ R.slots)
    (hC : am_Cx sc D cs a p l R s m args meth c mid) : am_Rt D cs a p l e R s m args below meth c (vx_MQ below (am_Q D cs a o σr s.heap.size) (am_X D cs a o σr s.heap.size) args s t (6 * t) (am_A a s.heap.size)) t (6 * t) mid o σr := by
  obtain ⟨⟨hx, hb, hml, hown, hts⟩, ⟨hK, hD0⟩, ⟨hfr, hlo⟩, ⟨hlk, hrt, htb⟩, ⟨htr, ⟨hU, hN⟩, hnc⟩, hscr⟩ := hC
  refine ⟨?_, ?_, ?_⟩
  · intro v op pc x k ts H locs cells slots ls ho hl hop hI hc hs
    obtain ⟨hd, hck⟩ := am_okc hl
    refine W.widen hc hs (vx_ret ?_)
    have hq : ∀ t : State, t.heap = H → s.WarmedH t.vm → am_Q D cs a o σr s.heap.size args s (.returned (v.map fun z => .int (Int32.ofInt z))) t := fun t ht hW => ⟨v, ho, rfl, by rw [ht]; exact hI.1, hI.2.F ht⟩
    rcases hop with ⟨rfl, z, rfl⟩ | ⟨rfl, hv⟩ | ⟨rfl, rfl⟩
    · have hd : decode (am_cc mid) pc = .ok (.ireturn, 1) := hd
      exact W.iret (v := Int32.ofInt z) hx hb (by rw [hrt]; exact am_rt60 hck) hq hI.2.2.2 hd hlk
    · have hd : decode (am_cc mid) pc = .ok (.ireturn, 1) := hd
      rcases hv with rfl | rfl
      · exact W.zret (v := Int32.ofInt 0) (ty := .boolean) hx hb (by rw [hrt]; exact am_rt61 hck) rfl hq hI.2.2.2 hd hlk
      · exact W.zret (v := Int32.ofInt 1) (ty := .boolean) hx hb (by rw [hrt]; exact am_rt61 hck) rfl hq hI.2.2.2 hd hlk
    · have hd : decode (am_cc mid) pc = .ok (.return_, 1) := hd
      exact W.vret hx hb (by rw [hrt]; exact am_rt62 hck) hq hI.2.2.2 hd hlk
  · intro i pc x ts H locs cells slots ls ho hl hI hsz hc hs
    obtain ⟨hd, hck⟩ := am_okc hl
    obtain ⟨ht0, hfr9, hlo9, hin, hd0, hd3, hd4, hd7⟩ := am_thr hl
    obtain ⟨hi4, hf1⟩ := am_ths_a _ hin
    have b1 : Cond.classLink (am_cC (am_ob mid)) x.toNat (am_en i) ∈ am_ws := am_inw (am_ths_b _ hin) rfl
    have b2 : Cond.initialized (am_en i) ∈ am_ws := am_inw (am_ths_c _ hin) rfl
    have b3 := am_ths_g hin hts hnc.2
    have b4 := am_ths_h hin
    have b5 : Bundle.fit (am_en i) = true := hf1
    have b6 : ∀ z ∈ c.exceptionTable.toList, covers z (pc + 7) = false := by rw [htb, ht0]; intro z hz; cases hz
    have b7 : am_sup.length + 3 < R.frames := by show 2 + 3 < _; omega
    have b8 : (([] : List Value).map fun v => v.category).sum + (13 * (am_sup.length + 1) + 42) ≤ R.locals := by show 0 + (13 * (2 + 1) + 42) ≤ _; omega
    refine vx_throw0 (own := am_cC (am_ob mid)) (cls := am_en i) (names := am_sup) (ik := x.toNat) (ic := (ts.getD 0 0).toNat) (A := am_A a s.heap.size) hx hb htr hown b5 am_sup_ok (hts _ b1) (hts _ b2) b3 b4 hU hN hI.2 (by rw [hsz, hml]) hd0 hd3 hd4 hd7 b6 b7 b8 (by omega) (by omega) hlk (fun t hal hz1 hk1 => ?_) hI.2.2.2 hc hs
    refine ⟨i, ho, rfl, hI.1.kept (fun k q hq => hk1 q.1 (hI.1 k q hq).lt), Nat.le_trans hI.2.1 hz1, fun q hq1 hq2 => ?_⟩
    rw [hk1 q (Nat.lt_of_lt_of_le hq1 hI.2.1)]
    exact hI.2.2.1 q hq1 hq2
  · intro i pc rest H locs cells slots ls q ce ho ht0 hI hce hcv hcl hc hs
    exact vx_out (E := am_en i) (by rw [htb, ht0]; intro z hz; cases hz) hlk hce hcv hcl (fun t ht hal => ⟨i, ho, rfl, by rw [ht]; exact hI.1, hI.2.F ht⟩) hI.2.2.2 hc hs
/-- a method's body, begun -/
theorem am_body {sc : Int → Int} {n : Nat} (hP : am_P sc n) {D : va_G} {cs : Nat → ClassId} {a : Nat → Nat} {l : Launch} {mid sz t : Nat} {as : List AV} {σ σr : St} {o : Ou} (hm : mid < am_law)
    (hr : am_ex sc n mid 0 (am_ent mid as) [] σ = some (o, σr, t)) (hall : as.all am_one = true) (hlen : as.length = am_na mid) (oL : am_okL as) (oσ : am_okS σ) (hinj : ∀ i j, i < 27 → j < 27 → a i = a j → i = j) (htr : l.stackTraces = false)
    {p : Program} {e : Env} {s : State} {m : MethodId} {args : Array Value} {below : List Frame} {meth : Method} {c : Code} {s₁ : State}
    (B : BodyLoose p l (am_y mid) (headSpec (am_wsm mid) (am_rm mid t)) (am_cc mid) (am_nl mid) (am_rt mid) e s m args below meth c s₁) (hml : c.maxLocals = am_nl mid) (htb : c.exceptionTable.toList = tableOf (am_tb mid)) (hpc : am_Pc D cs a σ as sz args s) :
    W p l e (headSpec (am_wsm mid) (am_rm mid t)).room s m args below meth c s.heap [] 0 0 (vx_MQ below (am_Q D cs a o σr sz) (am_X D cs a o σr sz) args s t (6 * t) (am_A a sz)) (entryFrame m args (am_nl mid)) := by
  obtain ⟨rfl, hsz, hPw, hK, hZ, hnc⟩ := hpc
  subst hsz
  obtain ⟨hy1, hy2, hy3⟩ := am_okM hm
  have hts := atoms_spec (ws := am_wsm mid) B.pre
  have hown : s.vm.findClass (am_cC (am_ob mid)) = some m.cls := by
    rw [← hy2]
    exact findClass_of_methodNamed B.named
  have hC : am_Cx sc D cs a p l (am_rm mid t) s m (as.map (am_cv a)).toArray meth c mid :=
    ⟨⟨B.exec, B.bytes, hml, hown, fun w hw => hts w (List.mem_cons_of_mem _ hw)⟩, ⟨hK, hinj⟩, ⟨Nat.le_refl _, Nat.le_refl _⟩, ⟨B.notSynchronized, B.returns, htb⟩, ⟨htr, hZ, hnc⟩, fun h => absurd h (Nat.ne_of_lt hm)⟩
  obtain ⟨ls, hE, hl⟩ := am_entry (a := a) hall (by rw [hlen]; exact hy3) m
  rw [hE]
  have oE : am_okL (am_ent mid as) := by
    intro v hv
    rcases List.mem_append.mp hv with h | h
    · exact oL v h
    · rw [List.eq_of_mem_replicate h]; exact am_R0
  exact (hP mid 0 (am_ent mid as) [] σ o σr t hr oE (fun _ h => nomatch h) oσ).2 D cs a p l e (am_rm mid t) s m _ below meth c _ t (6 * t) hC (Nat.le_refl _) (Nat.le_refl _) (am_RtM (Nat.le_refl _) (Nat.le_refl _) hC) s.heap [] 0 0 ls (by omega) (by omega) ⟨hPw, va_S.rf⟩ hl
theorem am_met {sc : Int → Int} {n : Nat} (hP : am_P sc n) {D : va_G} {cs : Nat → ClassId} {a : Nat → Nat} {l : Launch} {mid sz t : Nat} {as : List AV} {σ σr : St} {o : Ou} (hm : mid < am_law)
    (hr : am_ex sc n mid 0 (am_ent mid as) [] σ = some (o, σr, t)) (hall : as.all am_one = true) (hlen : as.length = am_na mid) (oL : am_okL as) (oσ : am_okS σ) (hinj : ∀ i j, i < 27 → j < 27 → a i = a j → i = j) (htr : l.stackTraces = false) :
    vx_Met l (am_y mid) (am_wsm mid) (am_rm mid t) (am_Pc D cs a σ as sz) (am_Q D cs a o σr sz) (am_X D cs a o σr sz) t (6 * t) (am_A a sz) := by
  by_cases ht : am_tb mid = []
  · refine vx_ofW (cc := am_cc mid) (maxL := am_nl mid) (ret := am_rt mid) (am_okM hm).1 (by unfold am_wsm; rw [if_pos ht]) ?_
    intro p e s m args below meth c s₁ B hml hno hpc
    exact am_body hP hm hr hall hlen oL oσ hinj htr B hml (by rw [ht]; exact List.eq_nil_iff_forall_not_mem.mpr hno) hpc
  · refine vx_ofWH (cc := am_cc mid) (maxL := am_nl mid) (ret := am_rt mid) (hh := am_tb mid) (am_okM hm).1 (by unfold am_wsm; rw [if_neg ht]) ?_
    intro p e s m args below meth c s₁ B hml hpc
    exact am_body hP hm hr hall hlen oL oσ hinj htr B hml (vx_table (x := am_y mid) B (atoms_spec (ws := am_wsm mid) B.pre _ (by unfold am_wsm; rw [if_neg ht]; exact List.mem_cons_self))) hpc
end
section
/-! every run of the abstract machine is one of the machine -/
/-- a callee's start, where it is called -/
theorem am_pre {sc : Int → Int} {D : va_G} {cs : Nat → ClassId} {a : Nat → Nat} {p : Program} {l : Launch} {R : Room} {s : State} {m : MethodId} {args : Array Value} {meth : Method} {c : Code} {mid : Nat} {σ : St} {H : Heap} {locs : List Loc} {as : List AV}
    (hC : am_Cx sc D cs a p l R s m args meth c mid) (hI : am_In D cs a s σ H locs) {U : State} (hU : U.heap = H) (hW : s.WarmedH U.vm) : am_Pc D cs a σ as H.size (as.map (am_cv a)).toArray U := by
  obtain ⟨-, ⟨hK, -⟩, -, -, ⟨-, ⟨hZ1, hZ2⟩, hnc, hnw⟩, -⟩ := hC
  refine ⟨rfl, by rw [hU], by rw [hU]; exact hI.1, va_K.moved hW.alike hK, ⟨?_, ?_⟩, fun q hq => va_Nc.moved hW.alike (hnc q hq), am_xwW hW hnw⟩
  · rw [hU]; exact vx_Zq.moved hW.alike ((hZ1.kept hI.2.2.1).narrow (am_A_mono hI.2.1))
  · rw [hU]; exact vx_Zq.moved hW.alike ((hZ2.kept hI.2.2.1).narrow (am_A_mono hI.2.1))
/-- the row of the table that takes what was thrown -/
theorem am_hd_spec {pc E h : Nat} : ∀ {tb : List (Nat × Nat × Nat × Nat)}, am_hd1 pc E tb = some h → ∃ (pre : List ExceptionTableEntry) (x : ExceptionTableEntry) (suf : List ExceptionTableEntry), tableOf tb = pre ++ x :: suf ∧ covers x pc = true ∧ x.handlerPc = h ∧ am_ce x.catchType = E ∧ (∃ q ∈ tb, q.2.2.2 = x.catchType) ∧ ∀ z ∈ pre, (∃ q ∈ tb, q.2.2.2 = z.catchType) ∧ (covers z pc = false ∨ am_ce z.catchType ≠ E) := by
  intro tb
  induction tb with
  | nil => intro hh; cases hh
  | cons q r ih =>
    intro hh
    unfold am_hd1 at hh
    by_cases hq : q.1 ≤ pc ∧ pc < q.2.1 ∧ am_ce q.2.2.2 = E
    · rw [if_pos hq] at hh
      cases hh
      refine ⟨[], ⟨q.1, q.2.1, q.2.2.1, q.2.2.2⟩, tableOf r, rfl, ?_, rfl, hq.2.2, ⟨q, List.mem_cons_self, rfl⟩, fun z hz => nomatch hz⟩
      simp [covers, hq.1, hq.2.1]
    · rw [if_neg hq] at hh
      obtain ⟨pre, x, suf, h1, h2, h3, h4, ⟨q5, h5, h5'⟩, h6⟩ := ih hh
      refine ⟨⟨q.1, q.2.1, q.2.2.1, q.2.2.2⟩ :: pre, x, suf, by show _ :: tableOf r = _; rw [h1]; rfl, h2, h3, h4, ⟨q5, List.mem_cons_of_mem _ h5, h5'⟩, fun z hz => ?_⟩
      rcases List.mem_cons.mp hz with hz | hz
      · subst hz
        refine ⟨⟨q, List.mem_cons_self, rfl⟩, ?_⟩
        by_cases hc : am_ce q.2.2.2 = E
        · left
          have : ¬ (q.1 ≤ pc ∧ pc < q.2.1) := fun w => hq ⟨w.1, w.2, hc⟩
          simp only [covers]
          simp only [Bool.and_eq_false_iff, decide_eq_false_iff_not]
          by_cases h0 : q.1 ≤ pc
          · exact Or.inr (fun w => this ⟨h0, w⟩)
          · exact Or.inl h0
        · exact Or.inr hc
      · obtain ⟨⟨q6, h7, h7'⟩, h8⟩ := h6 z hz
        exact ⟨⟨q6, List.mem_cons_of_mem _ h7, h7'⟩, h8⟩
/-- the receiver is the first argument -/
theorem am_recv {S : List AV} {n o : Nat} (hn : n ≤ S.length) (hp : 1 ≤ n) (h : am_isR S[n - 1]? o = true) : ∃ as : List AV, (S.take n).reverse = .inr (.inl o) :: as := by
  have hlt : n - 1 < S.length := by omega
  rw [List.getElem?_eq_getElem hlt] at h
  have e : S.take n = S.take (n - 1) ++ [S[n - 1]] := by
    have := List.take_succ_eq_append_getElem hlt
    rwa [show n - 1 + 1 = n by omega] at this
  rw [e, List.reverse_append]
  refine ⟨(S.take (n - 1)).reverse, ?_⟩
  have hv : S[n - 1] = .inr (.inl o) := by
    cases hS : S[n - 1] with
    | inl z => rw [hS] at h; cases h
    | inr q =>
      cases q with
      | inl o' => rw [hS] at h; rw [of_decide_eq_true h]
      | inr z => rw [hS] at h; cases h
  rw [hv]
  rfl
theorem am_ct {mid ct : Nat} (h : ∃ q ∈ am_tb mid, q.2.2.2 = ct) : ct ≠ 0 ∧ Cond.classLink (am_cC (am_ob mid)) ct (am_en (am_ce ct)) ∈ am_ws ∧ am_ce ct < 4 := by
  obtain ⟨q, hq, rfl⟩ := h
  have hm : mid < 102 := Nat.not_le.mp (fun h9 => by
    unfold am_tb at hq
    rw [List.getD_eq_getElem?_getD, List.getElem?_eq_none (by show 102 ≤ mid; exact h9)] at hq
    cases hq)
  rcases am_tb_cts mid hm with h1 | ⟨h1, h2⟩
  · rw [h1] at hq; cases hq
  · obtain ⟨a1, a2, a3⟩ := am_ct_ok _ (h2 q hq)
    rw [h1]
    exact ⟨a1, am_inw a3 rfl, a2⟩
theorem am_cast_in {i : Nat} (h : i < 4) : Cond.castable (am_en i) (am_en i) ∈ am_xw := by
  rcases (show i = 0 ∨ i = 1 ∨ i = 2 ∨ i = 3 by omega) with rfl | rfl | rfl | rfl <;> simp [am_xw]
theorem am_rest {a : Nat → Nat} {S : List AV} {n : Nat} (h : S.length ≤ n + 4) : 2 * 0 + (((S.drop n).map (am_cv a)).map fun v => v.category).sum ≤ 8 := by
  have h1 := am_catsum a (S.drop n)
  have h2 : (S.drop n).length ≤ 4 := by rw [List.length_drop]; omega
  omega
theorem am_split {a : Nat → Nat} {S : List AV} {n : Nat} : S.map (am_cv a) = ((S.take n).reverse.map (am_cv a)).reverse ++ (S.drop n).map (am_cv a) := by
  rw [← List.map_reverse, List.reverse_reverse, ← List.map_append, List.take_append_drop]
set_option maxHeartbeats 4000000 in
set_option maxRecDepth 100000 in
theorem am_PS {sc : Int → Int} (hsc : ∀ j, am_R (sc j)) {n : Nat} (ih : am_P sc n) : am_P sc (n + 1) := by
  intro mid pc L S σ o σr t hr oL oS oσ
  rw [am_ex_s] at hr
  unfold am_stp2 at hr
  cases hlk : am_lk pc (am_code mid) with
  | none => rw [hlk] at hr; cases hr
  | some en =>
    obtain ⟨op, x, k, ts⟩ := en
    rw [hlk] at hr
    try dsimp only at hr
    obtain ⟨hd, hck⟩ := am_okc hlk
    by_cases h50 : op < 50
    · rw [if_pos h50] at hr
      cases hnx : am_nx sc op x k ts mid pc L S σ with
      | none => rw [hnx] at hr; cases hr
      | some fr =>
        obtain ⟨pc', L', S', σ'⟩ := fr
        rw [hnx] at hr
        try dsimp only at hr
        unfold am_nx at hnx
        cases hop : am_ops[op]? with
        | none => rw [hop] at hnx; cases hnx
        | some f =>
          rw [hop] at hnx
          dsimp only at hnx
          obtain ⟨⟨o1, o2, o3⟩, hW⟩ := am_sAll op f hop sc hsc mid pc x k ts L S σ pc' L' S' σ' hd hck hnx oL oS oσ
          obtain ⟨hok, hk⟩ := ih mid pc' L' S' σ' o σr t hr o1 o2 o3
          refine ⟨hok, fun D cs a p l e R s m args below meth c Q M N hC hM hN hRt H locs cells slots ls hc hs hI hl => ?_⟩
          exact hW D cs a p l e R s m args below meth c Q hC H locs cells slots ls (by omega) (by omega) hI hl (fun H' locs' ls' hI' hl' => hk D cs a p l e R s m args below meth c Q M N hC hM hN hRt H' locs' cells slots ls' hc hs hI' hl')
    · rw [if_neg h50] at hr
      by_cases h60 : op < 60
      · rw [if_pos h60] at hr
        by_cases hcal : am_cal op k S = true
        · rw [if_pos hcal] at hr
          simp only [am_cal, Bool.and_eq_true, decide_eq_true_eq] at hcal
          obtain ⟨⟨⟨c1, c3⟩, c4⟩, c5⟩ := hcal
          have hal : (S.take (am_na k)).reverse.all am_one = true := by rw [List.all_reverse]; exact c3
          have hle : (S.take (am_na k)).reverse.length = am_na k := by rw [List.length_reverse, List.length_take]; omega
          have oA : am_okL (S.take (am_na k)).reverse := fun v hv => oS v (List.mem_of_mem_take (List.mem_reverse.mp hv))
          have oD : am_okL (S.drop (am_na k)) := fun v hv => oS v (List.mem_of_mem_drop hv)
          have oE : am_okL (am_ent k (S.take (am_na k)).reverse) := by
            intro v hv
            rcases List.mem_append.mp hv with h | h
            · exact oA v h
            · rw [List.eq_of_mem_replicate h]; exact am_R0
          obtain ⟨hm, hroom⟩ := am_callee h50 h60 hck
          cases hcr : am_ex sc n k 0 (am_ent k (S.take (am_na k)).reverse) [] σ with
          | none => rw [hcr] at hr; cases hr
          | some res =>
            obtain ⟨o1, σ1, t1⟩ := res
            rw [hcr] at hr
            try dsimp only at hr
            obtain ⟨⟨ok1, ok2⟩, -⟩ := ih k 0 _ [] σ o1 σ1 t1 hcr oE (fun _ h => nomatch h) oσ
            -- the machine's call
            have hcall : ∀ (D : va_G) (cs : Nat → ClassId) (a : Nat → Nat) (p : Program) (l : Launch) (e : Env) (R : Room) (s : State) (m : MethodId) (args : Array Value) (below : List Frame) (meth : Method) (c : Code), am_Cx sc D cs a p l R s m args meth c mid →
                ∀ (H : Heap) (locs : List Loc) (cells slots : Nat) (ls : Array Slot), cells + t1 ≤ R.cells → slots + 6 * t1 ≤ R.slots → am_In D cs a s σ H locs → am_hl a ls (am_nl mid) L →
                ∃ av : Array Value, vx_Run p l e R s m args below meth c H locs cells slots t1 (6 * t1) (F0 m pc ls (S.map (am_cv a))) ((S.drop (am_na k)).map (am_cv a)) (am_Q D cs a o1 σ1 H.size av) (am_X D cs a o1 σ1 H.size) (am_A a H.size) := by
              intro D cs a p l e R s m args below meth c hC H locs cells slots ls hc hs hI hl
              have hMet := am_met ih (D := D) (cs := cs) (a := a) (l := l) (sz := H.size) hm hcr hal hle oA oσ hC.2.1.2 hC.2.2.2.2.1.1
              obtain ⟨⟨hx, hb, hml, hown, hts⟩, -, ⟨hfr, hlo⟩, -⟩ := id hC
              have hR : (am_rm k t1).frames + 1 ≤ R.frames ∧ 8 + (am_nl k + 11) + (am_rm k t1).locals ≤ R.locals := ⟨by show am_fr k + 1 ≤ _; omega, by show 8 + (am_nl k + 11) + am_lo k ≤ _; omega⟩
              by_cases hop0 : op = 50
              · subst hop0
                obtain ⟨as, hS⟩ : ∃ as : List AV, (S.take (am_na k)).reverse = .inr (.inl (am_ob k)) :: as := am_recv c1 (am_cwV hck).2.2.2.2 (by simpa using c5)
                rw [hS] at hMet hle
                obtain ⟨g1, g2, g3, g4, g5⟩ := am_cwV hck
                refine ⟨_, vx_runV (C := am_cC (am_ob k)) (b := a (am_ob k)) (As := as.map (am_cv a)) ⟨hx, hb, hml, hown, hts⟩ hMet (cwV (am_na k - 1) hts g1 g2 rfl rfl g3 hR) ⟨am_blind, va_recv hC.2.1.1 hI.1 (am_cl_at g4) (am_wd_obj g4), fun U hU hW => ?_⟩ rfl ?_ hl.1 ?_ (am_rest c4) hd ⟨hc, hs⟩⟩
                · have h9 := am_pre (as := .inr (.inl (am_ob k)) :: as) hC hI hU hW
                  exact h9
                · simp only [List.length_cons] at hle
                  simp only [List.length_map]
                  omega
                · show S.map (am_cv a) = _
                  rw [am_split (n := am_na k), hS]
                  simp [am_cv]
              · by_cases hop1 : op = 51
                · subst hop1
                  obtain ⟨g1, g2, g3⟩ := am_cwS hck
                  exact ⟨_, vx_runS (As := (S.take (am_na k)).reverse.map (am_cv a)) ⟨hx, hb, hml, hown, hts⟩ hMet (va_cwS (am_na k) hts g1 g2 rfl rfl g3 hR) ⟨am_blind, fun U hU hW => am_pre hC hI hU hW⟩ rfl (by rw [List.length_map]; exact hle) hl.1 (am_split (n := am_na k)) (am_rest c4) hd ⟨hc, hs⟩⟩
                · have hop2 : op = 52 := by rcases am_op5 h50 h60 hck with h1 | h1 | h1; exact absurd h1 hop0; exact absurd h1 hop1; exact h1
                  subst hop2
                  obtain ⟨g1, g2, g3⟩ := am_cwW hck
                  exact ⟨_, vx_runSX (As := (S.take (am_na k)).reverse.map (am_cv a)) (hh := am_tb k) ⟨hx, hb, hml, hown, hts⟩ hMet (vx_cwSW (am_na k) hts g1 g2 rfl rfl g3 hR) ⟨am_blind, fun U hU hW => am_pre hC hI hU hW⟩ rfl (by rw [List.length_map]; exact hle) hl.1 (am_split (n := am_na k)) (am_rest c4) hd ⟨hc, hs⟩⟩
            cases o1 with
            | inl v =>
              try dsimp only at hr
              have oV : am_okL (am_rv v ++ S.drop (am_na k)) := by
                intro w hw
                rcases List.mem_append.mp hw with h | h
                · cases v with
                  | none => cases h
                  | some z => rw [List.mem_singleton.mp h]; exact ok1
                · exact oD w h
              obtain ⟨t2, hr2, rfl⟩ := am_pl_some hr
              obtain ⟨hok, hk⟩ := ih mid (pc + 3) L _ σ1 o σr t2 hr2 oL oV ok2
              refine ⟨hok, fun D cs a p l e R s m args below meth c Q M N hC hM hN hRt H locs cells slots ls hc hs hI hl => ?_⟩
              obtain ⟨av, hrun⟩ := hcall D cs a p l e R s m args below meth c hC H locs cells slots ls (by omega) (by omega) hI hl
              refine am_goW hrun hI (fun v2 H1 locs1 ho hI1 => ?_) (fun i q ce H1 locs1 ho _ _ _ _ => by cases ho)
              cases ho
              have h9 := hk D cs a p l e R s m args below meth c Q M N hC hM hN hRt H1 locs1 (cells + t1) (slots + 6 * t1) ls (by omega) (by omega) hI1 hl
              rw [List.map_append] at h9
              cases v with
              | none => exact h9
              | some z => exact h9
            | inr E =>
              try dsimp only at hr
              cases hh : am_hd mid pc E with
              | none =>
                rw [hh] at hr
                try dsimp only at hr
                by_cases ht : am_tb mid = []
                · rw [if_pos ht] at hr
                  cases hr
                  refine ⟨⟨trivial, ok2⟩, fun D cs a p l e R s m args below meth c Q M N hC hM hN hRt H locs cells slots ls hc hs hI hl => ?_⟩
                  obtain ⟨av, hrun⟩ := hcall D cs a p l e R s m args below meth c hC H locs cells slots ls (by omega) (by omega) hI hl
                  refine am_goW hrun hI (fun v2 H1 locs1 ho hI1 => by cases ho) (fun i q ce H1 locs1 ho hI1 hce hcv hcl => ?_)
                  exact hRt.2.2 i pc _ H1 locs1 _ _ ls q ce ho ht hI1 hce hcv hcl (by omega) (by omega)
                · rw [if_neg ht] at hr
                  cases hr
              | some h =>
                rw [hh] at hr
                try dsimp only at hr
                by_cases h27 : L.all am_nx27 = true
                · rw [if_pos h27] at hr
                  obtain ⟨t2, hr2, rfl⟩ := am_pl_some hr
                  obtain ⟨hok, hk⟩ := ih mid h L [.inr (.inl 27)] σ1 o σr t2 hr2 oL (fun w hw => by rw [List.mem_singleton.mp hw]; trivial) ok2
                  refine ⟨hok, fun D cs a p l e R s m args below meth c Q M N hC hM hN hRt H locs cells slots ls hc hs hI hl => ?_⟩
                  obtain ⟨av, hrun⟩ := hcall D cs a p l e R s m args below meth c hC H locs cells slots ls (by omega) (by omega) hI hl
                  refine am_goW hrun hI (fun v2 H1 locs1 ho hI1 => by cases ho) (fun i q ce H1 locs1 ho hI1 hce hcv hcl => ?_)
                  cases ho
                  obtain ⟨⟨hx, hb, hml, hown, hts⟩, -, -, ⟨-, -, htb⟩, ⟨-, -, hnc, hnw⟩, -⟩ := id hC
                  obtain ⟨pre, x9, suf, u1, u2, u3, u4, u5, u6⟩ := am_hd_spec hh
                  obtain ⟨w1, w2, w3⟩ := am_ct u5
                  rw [u4] at w2 w3
                  refine vx_catch hown pre x9 suf (by rw [htb]; exact u1) (fun z hz => ?_) u2 w1 (hts _ w2) (va_Nw.use rfl (hnw _ (am_cast_in w3))) hce hcv hcl ?_
                  · obtain ⟨z1, z2⟩ := u6 z hz
                    rcases z2 with z2 | z2
                    · exact Or.inl z2
                    · obtain ⟨y1, y2, y3⟩ := am_ct z1
                      refine Or.inr ⟨y1, _, hts _ y2, hnc (am_en E, am_en (am_ce z.catchType)) ?_⟩
                      rcases am_nc_in0 _ w3 _ y3 with h8 | h8
                      · exact absurd h8.symm z2
                      · exact h8
                  · rw [u3]
                    have h9 := hk D cs (am_a27 a q) p l e R s m args below meth c Q M N (am_Cx27 hC) hM hN (am_Rt27 hRt) H1 locs1 (cells + t1) (slots + 6 * t1) ls (by omega) (by omega) (by rw [am_In27]; exact hI1) (am_hl27 hl h27)
                    exact h9
                · rw [if_neg h27] at hr
                  cases hr
        · rw [if_neg hcal] at hr
          cases hr
      · rw [if_neg h60] at hr
        by_cases e60 : op = 60
        · rw [if_pos e60] at hr
          subst e60
          split at hr
          · rename_i z
            cases hr
            refine ⟨⟨am_okL_h oS, oσ⟩, fun D cs a p l e R s m args below meth c Q M N hC hM hN hRt H locs cells slots ls hc hs hI hl => ?_⟩
            exact hRt.1 (some z) 60 pc x k ts H locs cells slots ls rfl hlk (Or.inl ⟨rfl, z, rfl⟩) hI (by omega) (by omega)
          · cases hr
        · rw [if_neg e60] at hr
          by_cases e61 : op = 61
          · rw [if_pos e61] at hr
            subst e61
            split at hr
            · rename_i z
              by_cases hz : z = 0 ∨ z = 1
              · rw [if_pos hz] at hr
                cases hr
                refine ⟨⟨am_okL_h oS, oσ⟩, fun D cs a p l e R s m args below meth c Q M N hC hM hN hRt H locs cells slots ls hc hs hI hl => ?_⟩
                exact hRt.1 (some z) 61 pc x k ts H locs cells slots ls rfl hlk (Or.inr (Or.inl ⟨rfl, by rcases hz with h | h <;> simp [h]⟩)) hI (by omega) (by omega)
              · rw [if_neg hz] at hr
                cases hr
            · cases hr
          · rw [if_neg e61] at hr
            by_cases e62 : op = 62
            · rw [if_pos e62] at hr
              subst e62
              split at hr
              · cases hr
                refine ⟨⟨trivial, oσ⟩, fun D cs a p l e R s m args below meth c Q M N hC hM hN hRt H locs cells slots ls hc hs hI hl => ?_⟩
                exact hRt.1 none 62 pc x k ts H locs cells slots ls rfl hlk (Or.inr (Or.inr ⟨rfl, rfl⟩)) hI (by omega) (by omega)
              · cases hr
            · rw [if_neg e62] at hr
              by_cases e63 : op = 63
              · rw [if_pos e63] at hr
                subst e63
                split at hr
                · cases hr
                  refine ⟨⟨trivial, oσ⟩, fun D cs a p l e R s m args below meth c Q M N hC hM hN hRt H locs cells slots ls hc hs hI hl => ?_⟩
                  exact hRt.2.1 k pc x ts H locs cells slots ls rfl hlk hI hl.1 (by omega) (by omega)
                · cases hr
              · rw [if_neg e63] at hr
                cases hr
theorem am_PA {sc : Int → Int} (hsc : ∀ j, am_R (sc j)) : ∀ n, am_P sc n
  | 0 => fun _ _ _ _ _ _ _ _ h => nomatch h
  | n + 1 => am_PS hsc (am_PA hsc n)
end
section
/-! runs by what they owe: fuel is forgotten -/
theorem am_pl_i {t : Nat} {r : Option (Ou × St × Nat)} {o : Ou} {σ : St} {u : Nat} (h : r = some (o, σ, u)) : am_pl t r = some (o, σ, u + t) := by rw [h]; rfl
theorem am_mono1 {sc : Int → Int} : ∀ (n mid pc : Nat) (L S : List AV) (σ : St) (r : Ou × St × Nat), am_ex sc n mid pc L S σ = some r → am_ex sc (n + 1) mid pc L S σ = some r := by
  intro n
  induction n with
  | zero => intro mid pc L S σ r h; cases h
  | succ n ih =>
    intro mid pc L S σ r h
    rw [am_ex_s] at h
    rw [am_ex_s]
    unfold am_stp2 at h ⊢
    cases hlk : am_lk pc (am_code mid) with
    | none => rw [hlk] at h; cases h
    | some en =>
      obtain ⟨op, x, k, ts⟩ := en
      rw [hlk] at h
      dsimp only at h ⊢
      by_cases h50 : op < 50
      · rw [if_pos h50] at h ⊢
        cases hnx : am_nx sc op x k ts mid pc L S σ with
        | none => rw [hnx] at h; cases h
        | some fr =>
          obtain ⟨pc', L', S', σ'⟩ := fr
          rw [hnx] at h
          exact ih _ _ _ _ _ _ h
      · rw [if_neg h50] at h ⊢
        by_cases h60 : op < 60
        · rw [if_pos h60] at h ⊢
          by_cases hcal : am_cal op k S = true
          · rw [if_pos hcal] at h ⊢
            cases hcr : am_ex sc n k 0 (am_ent k (S.take (am_na k)).reverse) [] σ with
            | none => rw [hcr] at h; cases h
            | some res =>
              obtain ⟨o1, σ1, t1⟩ := res
              rw [hcr] at h
              rw [ih _ _ _ _ _ _ hcr]
              cases o1 with
              | inl v =>
                obtain ⟨o, σ2, t⟩ := r
                obtain ⟨t2, hr2, rfl⟩ := am_pl_some h
                exact am_pl_i (ih _ _ _ _ _ _ hr2)
              | inr E =>
                dsimp only at h ⊢
                cases hh : am_hd mid pc E with
                | none => rw [hh] at h; exact h
                | some q =>
                  rw [hh] at h
                  dsimp only at h ⊢
                  by_cases h27 : L.all am_nx27 = true
                  · rw [if_pos h27] at h ⊢
                    obtain ⟨o, σ2, t⟩ := r
                    obtain ⟨t2, hr2, rfl⟩ := am_pl_some h
                    exact am_pl_i (ih _ _ _ _ _ _ hr2)
                  · rw [if_neg h27] at h
                    cases h
          · rw [if_neg hcal] at h
            cases h
        · rw [if_neg h60] at h ⊢
          exact h
theorem am_mono {sc : Int → Int} {n n2 mid pc : Nat} {L S : List AV} {σ : St} {r : Ou × St × Nat} (hn : n ≤ n2) (h : am_ex sc n mid pc L S σ = some r) : am_ex sc n2 mid pc L S σ = some r := by
  induction hn with
  | refl => exact h
  | step _ ih => exact am_mono1 _ _ _ _ _ _ _ ih
def am_wp (sc : Int → Int) (mid pc : Nat) (L S : List AV) (σ : St) (Q : Ou → St → Nat → Prop) : Prop := ∃ (n : Nat) (o : Ou) (σ' : St) (t : Nat), am_ex sc n mid pc L S σ = some (o, σ', t) ∧ Q o σ' t
/-- one step that is no call -/
def am_st (sc : Int → Int) (mid pc : Nat) (L S : List AV) (σ : St) : Option Fr := match am_lk pc (am_code mid) with
  | some (op, x, k, ts) => if op < 50 then am_nx sc op x k ts mid pc L S σ else none
  | none => none
section AMW
variable {sc : Int → Int} {mid pc : Nat} {L S : List AV} {σ : St} {Q : Ou → St → Nat → Prop}
theorem am_wn {pc' : Nat} {L' S' : List AV} {σ' : St} (h : am_st sc mid pc L S σ = some (pc', L', S', σ')) (k : am_wp sc mid pc' L' S' σ' Q) : am_wp sc mid pc L S σ Q := by
  obtain ⟨n, o, σ2, t, h1, h2⟩ := k
  refine ⟨n + 1, o, σ2, t, ?_, h2⟩
  rw [am_ex_s]
  unfold am_stp2
  unfold am_st at h
  cases hlk : am_lk pc (am_code mid) with
  | none => rw [hlk] at h; cases h
  | some en =>
    obtain ⟨op, x, k, ts⟩ := en
    rw [hlk] at h
    dsimp only at h ⊢
    by_cases h50 : op < 50
    · rw [if_pos h50] at h ⊢
      rw [h]
      exact h1
    · rw [if_neg h50] at h
      cases h
theorem am_wm {Q' : Ou → St → Nat → Prop} (h : am_wp sc mid pc L S σ Q) (hq : ∀ o σ' t, Q o σ' t → Q' o σ' t) : am_wp sc mid pc L S σ Q' := by
  obtain ⟨n, o, σ2, t, h1, h2⟩ := h
  exact ⟨n, o, σ2, t, h1, hq o σ2 t h2⟩
/-- what is owed behind a call -/
def am_bk (sc : Int → Int) (mid pc : Nat) (L rest : List AV) (Q : Ou → St → Nat → Prop) : Ou → St → Nat → Prop := fun o σ' t1 => match o with
  | .inl v => am_wp sc mid (pc + 3) L (am_rv v ++ rest) σ' (fun o2 σ2 t2 => Q o2 σ2 (t2 + t1))
  | .inr E => match am_hd mid pc E with
    | none => am_tb mid = [] ∧ Q (.inr E) σ' t1
    | some h => L.all am_nx27 = true ∧ am_wp sc mid h L [.inr (.inl 27)] σ' (fun o2 σ2 t2 => Q o2 σ2 (t2 + t1))
/-- a call: what the callee owes -/
theorem am_wc {op : Nat} {x : Int} {c : Nat} {ts : List Int} (hlk : am_lk pc (am_code mid) = some (op, x, c, ts)) (h50 : ¬ op < 50) (h60 : op < 60) (hcal : am_cal op c S = true)
    (k : am_wp sc c 0 (am_ent c (S.take (am_na c)).reverse) [] σ (am_bk sc mid pc L (S.drop (am_na c)) Q)) : am_wp sc mid pc L S σ Q := by
  obtain ⟨n, o1, σ1, t1, h1, h2⟩ := k
  cases o1 with
  | inl v =>
    obtain ⟨n2, o, σ2, t2, h3, h4⟩ := h2
    refine ⟨max n n2 + 1, o, σ2, t2 + t1, ?_, h4⟩
    rw [am_ex_s]
    unfold am_stp2
    rw [hlk]
    dsimp only
    rw [if_neg h50, if_pos h60, if_pos hcal, am_mono (Nat.le_max_left n n2) h1]
    exact am_pl_i (am_mono (Nat.le_max_right n n2) h3)
  | inr E =>
    unfold am_bk at h2
    dsimp only at h2
    cases hh : am_hd mid pc E with
    | none =>
      rw [hh] at h2
      refine ⟨n + 1, .inr E, σ1, t1, ?_, h2.2⟩
      rw [am_ex_s]
      unfold am_stp2
      rw [hlk]
      dsimp only
      rw [if_neg h50, if_pos h60, if_pos hcal, h1]
      dsimp only
      rw [hh]
      dsimp only
      rw [if_pos h2.1]
    | some q =>
      rw [hh] at h2
      obtain ⟨h27, n2, o, σ2, t2, h3, h4⟩ := h2
      refine ⟨max n n2 + 1, o, σ2, t2 + t1, ?_, h4⟩
      rw [am_ex_s]
      unfold am_stp2
      rw [hlk]
      dsimp only
      rw [if_neg h50, if_pos h60, if_pos hcal, am_mono (Nat.le_max_left n n2) h1]
      dsimp only
      rw [hh]
      dsimp only
      rw [if_pos h27]
      exact am_pl_i (am_mono (Nat.le_max_right n n2) h3)
theorem am_w60 {x : Int} {k : Nat} {ts : List Int} {z : Int} (hlk : am_lk pc (am_code mid) = some (60, x, k, ts)) (h : Q (.inl (some z)) σ 0) : am_wp sc mid pc L [.inl z] σ Q := by
  refine ⟨1, _, _, _, ?_, h⟩
  rw [am_ex_s]
  unfold am_stp2
  rw [hlk]
  rfl
theorem am_w61 {x : Int} {k : Nat} {ts : List Int} {z : Int} (hlk : am_lk pc (am_code mid) = some (61, x, k, ts)) (hz : z = 0 ∨ z = 1) (h : Q (.inl (some z)) σ 0) : am_wp sc mid pc L [.inl z] σ Q := by
  refine ⟨1, _, _, _, ?_, h⟩
  rw [am_ex_s]
  unfold am_stp2
  rw [hlk]
  show (if z = 0 ∨ z = 1 then _ else _) = _
  rw [if_pos hz]
theorem am_w62 {x : Int} {k : Nat} {ts : List Int} (hlk : am_lk pc (am_code mid) = some (62, x, k, ts)) (h : Q (.inl none) σ 0) : am_wp sc mid pc L [] σ Q := by
  refine ⟨1, _, _, _, ?_, h⟩
  rw [am_ex_s]
  unfold am_stp2
  rw [hlk]
  rfl
theorem am_w63 {x : Int} {k : Nat} {ts : List Int} (hlk : am_lk pc (am_code mid) = some (63, x, k, ts)) (h : Q (.inr k) σ 1) : am_wp sc mid pc L [] σ Q := by
  refine ⟨1, _, _, _, ?_, h⟩
  rw [am_ex_s]
  unfold am_stp2
  rw [hlk]
  rfl
end AMW
end
section
/-! rules of the steps that ask something -/
section AMR
variable {sc : Int → Int} {mid pc : Nat} {L S : List AV} {σ : St} {Q : Ou → St → Nat → Prop} {x : Int} {k : Nat} {ts : List Int}
theorem ar_iald {i : Int} {j : Nat} (hlk : am_lk pc (am_code mid) = some (34, x, k, ts)) (ha : am_at j = 0) (h : 0 ≤ i ∧ i < am_ln j) (kk : am_wp sc mid (pc + 1) L (.inl (σ j i) :: S) σ Q) : am_wp sc mid pc L (.inl i :: .inr (.inl j) :: S) σ Q := by
  refine am_wn ?_ kk
  unfold am_st
  rw [hlk]
  show am_oIald sc x k ts mid pc L (.inl i :: .inr (.inl j) :: S) σ = _
  unfold am_oIald
  dsimp only
  rw [if_pos ⟨ha, h.1, h.2⟩]
theorem ar_iast {i v : Int} {j : Nat} (hlk : am_lk pc (am_code mid) = some (35, x, k, ts)) (ha : am_at j = 0) (h : 0 ≤ i ∧ i < am_ln j) (kk : am_wp sc mid (pc + 1) L S (am_up σ j i v) Q) : am_wp sc mid pc L (.inl v :: .inl i :: .inr (.inl j) :: S) σ Q := by
  refine am_wn ?_ kk
  unfold am_st
  rw [hlk]
  show am_oIast sc x k ts mid pc L (.inl v :: .inl i :: .inr (.inl j) :: S) σ = _
  unfold am_oIast
  dsimp only
  rw [if_pos ⟨ha, h.1, h.2⟩]
theorem ar_bald {i : Int} {j : Nat} (hlk : am_lk pc (am_code mid) = some (36, x, k, ts)) (ha : am_at j = 1) (h : 0 ≤ i ∧ i < am_ln j) (kk : am_wp sc mid (pc + 1) L (.inl (σ j i) :: S) σ Q) : am_wp sc mid pc L (.inl i :: .inr (.inl j) :: S) σ Q := by
  refine am_wn ?_ kk
  unfold am_st
  rw [hlk]
  show am_oBald sc x k ts mid pc L (.inl i :: .inr (.inl j) :: S) σ = _
  unfold am_oBald
  dsimp only
  rw [if_pos ⟨ha, h.1, h.2⟩]
theorem ar_bast {i v : Int} {j : Nat} (hlk : am_lk pc (am_code mid) = some (37, x, k, ts)) (ha : am_at j = 1) (h : 0 ≤ i ∧ i < am_ln j) (hv : v = 0 ∨ v = 1) (kk : am_wp sc mid (pc + 1) L S (am_up σ j i v) Q) : am_wp sc mid pc L (.inl v :: .inl i :: .inr (.inl j) :: S) σ Q := by
  refine am_wn ?_ kk
  unfold am_st
  rw [hlk]
  show am_oBast sc x k ts mid pc L (.inl v :: .inl i :: .inr (.inl j) :: S) σ = _
  unfold am_oBast
  dsimp only
  rw [if_pos ⟨ha, h.1, h.2, hv⟩]
theorem ar_sald {i : Int} (hlk : am_lk pc (am_code am_law) = some (34, x, k, ts)) (h : 0 ≤ i ∧ i < sc (-1)) (kk : am_wp sc am_law (pc + 1) L (.inl (sc i) :: S) σ Q) : am_wp sc am_law pc L (.inl i :: .inr (.inl 28) :: S) σ Q := by
  refine am_wn ?_ kk
  unfold am_st
  rw [hlk]
  show am_oIald sc x k ts am_law pc L (.inl i :: .inr (.inl 28) :: S) σ = _
  unfold am_oIald
  dsimp only
  rw [if_neg (fun h9 => absurd h9.1 (by decide)), if_pos ⟨rfl, rfl, h.1, h.2⟩]
theorem ar_add {y z : Int} (hlk : am_lk pc (am_code mid) = some (12, x, k, ts)) (h : am_R (z + y)) (kk : am_wp sc mid (pc + 1) L (.inl (z + y) :: S) σ Q) : am_wp sc mid pc L (.inl y :: .inl z :: S) σ Q := by
  refine am_wn ?_ kk
  unfold am_st
  rw [hlk]
  show am_oAdd sc x k ts mid pc L (.inl y :: .inl z :: S) σ = _
  unfold am_oAdd
  dsimp only
  rw [if_pos (am_Rb_iff.mpr h)]
theorem ar_sub {y z : Int} (hlk : am_lk pc (am_code mid) = some (13, x, k, ts)) (h : am_R (z - y)) (kk : am_wp sc mid (pc + 1) L (.inl (z - y) :: S) σ Q) : am_wp sc mid pc L (.inl y :: .inl z :: S) σ Q := by
  refine am_wn ?_ kk
  unfold am_st
  rw [hlk]
  show am_oSub sc x k ts mid pc L (.inl y :: .inl z :: S) σ = _
  unfold am_oSub
  dsimp only
  rw [if_pos (am_Rb_iff.mpr h)]
theorem ar_mul {y z : Int} (hlk : am_lk pc (am_code mid) = some (14, x, k, ts)) (h : am_R (z * y)) (kk : am_wp sc mid (pc + 1) L (.inl (z * y) :: S) σ Q) : am_wp sc mid pc L (.inl y :: .inl z :: S) σ Q := by
  refine am_wn ?_ kk
  unfold am_st
  rw [hlk]
  show am_oMul sc x k ts mid pc L (.inl y :: .inl z :: S) σ = _
  unfold am_oMul
  dsimp only
  rw [if_pos (am_Rb_iff.mpr h)]
theorem ar_inc {z : Int} {L' : List AV} (hlk : am_lk pc (am_code mid) = some (11, x, k, ts)) (hL : L[k]? = some (.inl z)) (h : am_R (z + x)) (hL' : L.set k (.inl (z + x)) = L') (kk : am_wp sc mid (pc + 3) L' S σ Q) : am_wp sc mid pc L S σ Q := by
  subst hL'
  refine am_wn ?_ kk
  unfold am_st
  rw [hlk]
  show am_oInc sc x k ts mid pc L S σ = _
  unfold am_oInc
  rw [hL]
  dsimp only
  rw [if_pos (am_Rb_iff.mpr h)]
theorem ar_br {pc1 pc2 : Nat} {L' S' : List AV} {c : Prop} [Decidable c] (h : am_st sc mid pc L S σ = some (if decide c = true then pc1 else pc2, L', S', σ)) (k1 : c → am_wp sc mid pc1 L' S' σ Q) (k2 : ¬ c → am_wp sc mid pc2 L' S' σ Q) : am_wp sc mid pc L S σ Q := by
  by_cases hc : c
  · rw [if_pos (decide_eq_true hc)] at h
    exact am_wn h (k1 hc)
  · rw [if_neg (by simpa using hc)] at h
    exact am_wn h (k2 hc)
theorem ar_sw {z c : Int} {pc' : Nat} (hz : z = c) (h : am_st sc mid pc L (.inl c :: S) σ = some (pc', L, S, σ)) (kk : am_wp sc mid pc' L S σ Q) : am_wp sc mid pc L (.inl z :: S) σ Q := by
  subst hz
  exact am_wn h kk
theorem ar_swd {z : Int} (hlk : am_lk pc (am_code mid) = some (31, x, k, ts)) (h : z < x ∨ x + ((ts.length : Int) - 1) ≤ z) (kk : am_wp sc mid (ts.getD 0 0).toNat L S σ Q) : am_wp sc mid pc L (.inl z :: S) σ Q := by
  refine am_wn ?_ kk
  unfold am_st
  rw [hlk]
  show am_oSw sc x k ts mid pc L (.inl z :: S) σ = _
  unfold am_oSw
  dsimp only
  rw [if_pos h]
theorem ar_len {j : Nat} (hlk : am_lk pc (am_code mid) = some (40, x, k, ts)) (h : am_at j < 3) (kk : am_wp sc mid (pc + 1) L (.inl (am_ln j) :: S) σ Q) : am_wp sc mid pc L (.inr (.inl j) :: S) σ Q := by
  refine am_wn ?_ kk
  unfold am_st
  rw [hlk]
  show am_oLen sc x k ts mid pc L (.inr (.inl j) :: S) σ = _
  unfold am_oLen
  dsimp only
  rw [if_pos h]
theorem ar_last {i v : Int} (hlk : am_lk pc (am_code mid) = some (39, x, k, ts)) (hi : i = 0) (kk : am_wp sc mid (pc + 1) L S (am_up σ 26 0 v) Q) : am_wp sc mid pc L (.inr (.inr v) :: .inl i :: .inr (.inl 26) :: S) σ Q := by
  subst hi
  refine am_wn ?_ kk
  unfold am_st
  rw [hlk]
  rfl
end AMR
end
section
/-! SlidingHeap.alloc -/
theorem b_0_0 {sc : Int → Int} {σ : St} {Q : Ou → St → Nat → Prop} (z1 : Int) (v2 : AV) (k1 : (z1 < 0) → am_wp sc 0 10 [.inr (.inl 0), .inl z1, v2] [] σ Q) (k2 : ¬ (z1 < 0) → am_wp sc 0 4 [.inr (.inl 0), .inl z1, v2] [] σ Q) : am_wp sc 0 0 [.inr (.inl 0), .inl z1, v2] [] σ Q := by
  refine am_wn rfl ?_
  exact ar_br (c := z1 < 0) rfl k1 k2
theorem b_0_4 {sc : Int → Int} {σ : St} {Q : Ou → St → Nat → Prop} (z1 : Int) (v2 : AV) (k1 : (z1 ≤ 10) → am_wp sc 0 18 [.inr (.inl 0), .inl z1, v2] [] σ Q) (k2 : ¬ (z1 ≤ 10) → am_wp sc 0 10 [.inr (.inl 0), .inl z1, v2] [] σ Q) : am_wp sc 0 4 [.inr (.inl 0), .inl z1, v2] [] σ Q := by
  refine am_wn rfl ?_
  refine am_wn rfl ?_
  exact ar_br (c := z1 ≤ 10) rfl k1 k2
theorem b_0_10 {sc : Int → Int} {σ : St} {Q : Ou → St → Nat → Prop} (z1 : Int) (v2 : AV) (k : Q (.inr 0) σ 1) : am_wp sc 0 10 [.inr (.inl 0), .inl z1, v2] [] σ Q := by
  exact am_w63 rfl k
theorem b_0_18 {sc : Int → Int} {σ : St} {Q : Ou → St → Nat → Prop} (z1 : Int) (v2 : AV) (k1 : ((σ 32 0) < 10) → am_wp sc 0 35 [.inr (.inl 0), .inl z1, v2] [] σ Q) (k2 : ¬ ((σ 32 0) < 10) → am_wp sc 0 27 [.inr (.inl 0), .inl z1, v2] [] σ Q) : am_wp sc 0 18 [.inr (.inl 0), .inl z1, v2] [] σ Q := by
  refine am_wn rfl ?_
  refine am_wn rfl ?_
  refine am_wn rfl ?_
  exact ar_br (c := (σ 32 0) < 10) rfl k1 k2
theorem b_0_27 {sc : Int → Int} {σ : St} {Q : Ou → St → Nat → Prop} (z1 : Int) (v2 : AV) (k : Q (.inr 1) σ 1) : am_wp sc 0 27 [.inr (.inl 0), .inl z1, v2] [] σ Q := by
  exact am_w63 rfl k
theorem b_0_35 {sc : Int → Int} {σ : St} {Q : Ou → St → Nat → Prop} (z1 : Int) (v2 : AV) (k : am_wp sc 25 0 [.inl z1, .inl (σ 31 0), .inl (σ 30 0)] [] σ (am_bk sc 0 44 [.inr (.inl 0), .inl z1, v2] [] Q)) : am_wp sc 0 35 [.inr (.inl 0), .inl z1, v2] [] σ Q := by
  refine am_wn rfl ?_
  refine am_wn rfl ?_
  refine am_wn rfl ?_
  refine am_wn rfl ?_
  refine am_wn rfl ?_
  exact am_wc rfl (by decide) (by decide) rfl k
theorem b_0_47 {sc : Int → Int} {σ : St} {Q : Ou → St → Nat → Prop} (z1 : Int) (v2 : AV) (s0 : Int) (k1 : (s0 ≠ 0) → am_wp sc 0 82 [.inr (.inl 0), .inl z1, v2] [] σ Q) (k2 : ¬ (s0 ≠ 0) → am_wp sc 0 50 [.inr (.inl 0), .inl z1, v2] [] σ Q) : am_wp sc 0 47 [.inr (.inl 0), .inl z1, v2] [.inl s0] σ Q := by
  exact ar_br (c := s0 ≠ 0) rfl k1 k2
theorem b_0_50 {sc : Int → Int} {σ : St} {Q : Ou → St → Nat → Prop} (z1 : Int) (v2 : AV) (k : am_wp sc 32 0 [.inr (.inl 0), .inr (.inr 0)] [] σ (am_bk sc 0 51 [.inr (.inl 0), .inl z1, v2] [] Q)) : am_wp sc 0 50 [.inr (.inl 0), .inl z1, v2] [] σ Q := by
  refine am_wn rfl ?_
  exact am_wc rfl (by decide) (by decide) rfl k
theorem b_0_54 {sc : Int → Int} {σ : St} {Q : Ou → St → Nat → Prop} (z1 : Int) (v2 : AV) (k : am_wp sc 35 0 [.inr (.inl 0), .inr (.inr 0), .inr (.inr 0)] [] σ (am_bk sc 0 60 [.inr (.inl 0), .inl z1, v2] [.inl (σ 35 0), .inl z1] Q)) : am_wp sc 0 54 [.inr (.inl 0), .inl z1, v2] [] σ Q := by
  refine am_wn rfl ?_
  refine am_wn rfl ?_
  refine am_wn rfl ?_
  refine am_wn rfl ?_
  exact am_wc rfl (by decide) (by decide) rfl k
theorem b_0_63 {sc : Int → Int} {σ : St} {Q : Ou → St → Nat → Prop} (z1 : Int) (v2 : AV) (s0 : Int) (s1 : Int) (s2 : Int) (k : am_wp sc 25 0 [.inl s0, .inl s1, .inl s2] [] σ (am_bk sc 0 63 [.inr (.inl 0), .inl z1, v2] [] Q)) : am_wp sc 0 63 [.inr (.inl 0), .inl z1, v2] [.inl s2, .inl s1, .inl s0] σ Q := by
  exact am_wc rfl (by decide) (by decide) rfl k
theorem b_0_66 {sc : Int → Int} {σ : St} {Q : Ou → St → Nat → Prop} (z1 : Int) (v2 : AV) (s0 : Int) (k1 : (s0 ≠ 0) → am_wp sc 0 77 [.inr (.inl 0), .inl z1, v2] [] σ Q) (k2 : ¬ (s0 ≠ 0) → am_wp sc 0 69 [.inr (.inl 0), .inl z1, v2] [] σ Q) : am_wp sc 0 66 [.inr (.inl 0), .inl z1, v2] [.inl s0] σ Q := by
  exact ar_br (c := s0 ≠ 0) rfl k1 k2
theorem b_0_69 {sc : Int → Int} {σ : St} {Q : Ou → St → Nat → Prop} (z1 : Int) (v2 : AV) (k : Q (.inr 2) σ 1) : am_wp sc 0 69 [.inr (.inl 0), .inl z1, v2] [] σ Q := by
  exact am_w63 rfl k
theorem b_0_77 {sc : Int → Int} {σ : St} {Q : Ou → St → Nat → Prop} (z1 : Int) (v2 : AV) (k : am_wp sc 11 0 [.inr (.inl 0), .inr (.inr 0)] [] σ (am_bk sc 0 78 [.inr (.inl 0), .inl z1, v2] [] Q)) : am_wp sc 0 77 [.inr (.inl 0), .inl z1, v2] [] σ Q := by
  refine am_wn rfl ?_
  exact am_wc rfl (by decide) (by decide) rfl k
theorem b_0_81 {sc : Int → Int} {σ : St} {Q : Ou → St → Nat → Prop} (z1 : Int) (v2 : AV) (s0 : Int) (k : am_wp sc 0 82 [.inr (.inl 0), .inl z1, v2] [] σ Q) : am_wp sc 0 81 [.inr (.inl 0), .inl z1, v2] [.inl s0] σ Q := by
  refine am_wn rfl ?_
  exact k
theorem b_0_82 {sc : Int → Int} {σ : St} {Q : Ou → St → Nat → Prop} (z1 : Int) (v2 : AV) (k : am_wp sc 26 0 [.inr (.inl 0), .inr (.inr 0)] [] σ (am_bk sc 0 83 [.inr (.inl 0), .inl z1, v2] [] Q)) : am_wp sc 0 82 [.inr (.inl 0), .inl z1, v2] [] σ Q := by
  refine am_wn rfl ?_
  exact am_wc rfl (by decide) (by decide) rfl k
theorem b_0_86 {sc : Int → Int} {σ : St} {Q : Ou → St → Nat → Prop} (z1 : Int) (v2 : AV) (s0 : Int) (k : am_wp sc 27 0 [.inr (.inl 0), .inl s0, .inl z1] [] σ (am_bk sc 0 90 [.inr (.inl 0), .inl z1, .inl s0] [] Q)) : am_wp sc 0 86 [.inr (.inl 0), .inl z1, v2] [.inl s0] σ Q := by
  refine am_wn rfl ?_
  refine am_wn rfl ?_
  refine am_wn rfl ?_
  refine am_wn rfl ?_
  exact am_wc rfl (by decide) (by decide) rfl k
theorem b_0_93 {sc : Int → Int} {σ : St} {Q : Ou → St → Nat → Prop} (z1 : Int) (z2 : Int) (k : am_wp sc 29 0 [.inr (.inl 0), .inl z2] [] σ (am_bk sc 0 95 [.inr (.inl 0), .inl z1, .inl z2] [] Q)) : am_wp sc 0 93 [.inr (.inl 0), .inl z1, .inl z2] [] σ Q := by
  refine am_wn rfl ?_
  refine am_wn rfl ?_
  exact am_wc rfl (by decide) (by decide) rfl k
theorem b_0_98 {sc : Int → Int} {σ : St} {Q : Ou → St → Nat → Prop} (z1 : Int) (z2 : Int) (k : Q (.inl (some z2)) σ 0) : am_wp sc 0 98 [.inr (.inl 0), .inl z1, .inl z2] [] σ Q := by
  refine am_wn rfl ?_
  exact am_w60 rfl k
/-! SlidingHeap.number -/
theorem b_1_0 {sc : Int → Int} {σ : St} {Q : Ou → St → Nat → Prop} (z1 : Int) (z2 : Int) (z3 : Int) (k : am_wp sc 19 0 [.inr (.inl 0), .inl z1, .inl z2] [] σ (am_bk sc 1 3 [.inr (.inl 0), .inl z1, .inl z2, .inl z3] [] Q)) : am_wp sc 1 0 [.inr (.inl 0), .inl z1, .inl z2, .inl z3] [] σ Q := by
  refine am_wn rfl ?_
  refine am_wn rfl ?_
  refine am_wn rfl ?_
  exact am_wc rfl (by decide) (by decide) rfl k
theorem b_1_6 {sc : Int → Int} {σ : St} {Q : Ou → St → Nat → Prop} (z1 : Int) (z2 : Int) (z3 : Int) (k : am_wp sc 24 0 [.inr (.inl 0), .inl z1, .inl z2, .inl 0, .inl z3, .inr (.inr 0)] [] σ (am_bk sc 1 11 [.inr (.inl 0), .inl z1, .inl z2, .inl z3] [] Q)) : am_wp sc 1 6 [.inr (.inl 0), .inl z1, .inl z2, .inl z3] [] σ Q := by
  refine am_wn rfl ?_
  refine am_wn rfl ?_
  refine am_wn rfl ?_
  refine am_wn rfl ?_
  refine am_wn rfl ?_
  exact am_wc rfl (by decide) (by decide) rfl k
theorem b_1_14 {sc : Int → Int} {σ : St} {Q : Ou → St → Nat → Prop} (z1 : Int) (z2 : Int) (z3 : Int) (k : Q (.inl none) σ 0) : am_wp sc 1 14 [.inr (.inl 0), .inl z1, .inl z2, .inl z3] [] σ Q := by
  exact am_w62 rfl k
/-! SlidingHeap.refer -/
theorem b_2_0 {sc : Int → Int} {σ : St} {Q : Ou → St → Nat → Prop} (z1 : Int) (z2 : Int) (z3 : Int) (z4 : Int) (k : am_wp sc 19 0 [.inr (.inl 0), .inl z1, .inl z2] [] σ (am_bk sc 2 3 [.inr (.inl 0), .inl z1, .inl z2, .inl z3, .inl z4] [] Q)) : am_wp sc 2 0 [.inr (.inl 0), .inl z1, .inl z2, .inl z3, .inl z4] [] σ Q := by
  refine am_wn rfl ?_
  refine am_wn rfl ?_
  refine am_wn rfl ?_
  exact am_wc rfl (by decide) (by decide) rfl k
theorem b_2_6 {sc : Int → Int} {σ : St} {Q : Ou → St → Nat → Prop} (z1 : Int) (z2 : Int) (z3 : Int) (z4 : Int) (k1 : (z3 = 0) → am_wp sc 2 26 [.inr (.inl 0), .inl z1, .inl z2, .inl z3, .inl z4] [] σ Q) (k2 : ¬ (z3 = 0) → am_wp sc 2 10 [.inr (.inl 0), .inl z1, .inl z2, .inl z3, .inl z4] [] σ Q) : am_wp sc 2 6 [.inr (.inl 0), .inl z1, .inl z2, .inl z3, .inl z4] [] σ Q := by
  refine am_wn rfl ?_
  exact ar_br (c := z3 = 0) rfl k1 k2
theorem b_2_10 {sc : Int → Int} {σ : St} {Q : Ou → St → Nat → Prop} (z1 : Int) (z2 : Int) (z3 : Int) (z4 : Int) (k : am_wp sc 20 0 [.inr (.inl 0), .inl z3] [] σ (am_bk sc 2 12 [.inr (.inl 0), .inl z1, .inl z2, .inl z3, .inl z4] [] Q)) : am_wp sc 2 10 [.inr (.inl 0), .inl z1, .inl z2, .inl z3, .inl z4] [] σ Q := by
  refine am_wn rfl ?_
  refine am_wn rfl ?_
  exact am_wc rfl (by decide) (by decide) rfl k
theorem b_2_15 {sc : Int → Int} {σ : St} {Q : Ou → St → Nat → Prop} (z1 : Int) (z2 : Int) (z3 : Int) (z4 : Int) (s0 : Int) (k1 : (s0 ≠ 0) → am_wp sc 2 26 [.inr (.inl 0), .inl z1, .inl z2, .inl z3, .inl z4] [] σ Q) (k2 : ¬ (s0 ≠ 0) → am_wp sc 2 18 [.inr (.inl 0), .inl z1, .inl z2, .inl z3, .inl z4] [] σ Q) : am_wp sc 2 15 [.inr (.inl 0), .inl z1, .inl z2, .inl z3, .inl z4] [.inl s0] σ Q := by
  exact ar_br (c := s0 ≠ 0) rfl k1 k2
theorem b_2_18 {sc : Int → Int} {σ : St} {Q : Ou → St → Nat → Prop} (z1 : Int) (z2 : Int) (z3 : Int) (z4 : Int) (k : Q (.inr 0) σ 1) : am_wp sc 2 18 [.inr (.inl 0), .inl z1, .inl z2, .inl z3, .inl z4] [] σ Q := by
  exact am_w63 rfl k
theorem b_2_26 {sc : Int → Int} {σ : St} {Q : Ou → St → Nat → Prop} (z1 : Int) (z2 : Int) (z3 : Int) (z4 : Int) (k1 : (z4 = 0) → am_wp sc 2 38 [.inr (.inl 0), .inl z1, .inl z2, .inl z3, .inl z4] [.inl z2, .inl z1, .inr (.inl 0)] σ Q) (k2 : ¬ (z4 = 0) → am_wp sc 2 34 [.inr (.inl 0), .inl z1, .inl z2, .inl z3, .inl z4] [.inl z2, .inl z1, .inr (.inl 0)] σ Q) : am_wp sc 2 26 [.inr (.inl 0), .inl z1, .inl z2, .inl z3, .inl z4] [] σ Q := by
  refine am_wn rfl ?_
  refine am_wn rfl ?_
  refine am_wn rfl ?_
  refine am_wn rfl ?_
  exact ar_br (c := z4 = 0) rfl k1 k2
theorem b_2_34 {sc : Int → Int} {σ : St} {Q : Ou → St → Nat → Prop} (z1 : Int) (z2 : Int) (z3 : Int) (z4 : Int) (s1 : Int) (s2 : Int) (k : am_wp sc 2 39 [.inr (.inl 0), .inl z1, .inl z2, .inl z3, .inl z4] [.inl 2, .inl s2, .inl s1, .inr (.inl 0)] σ Q) : am_wp sc 2 34 [.inr (.inl 0), .inl z1, .inl z2, .inl z3, .inl z4] [.inl s2, .inl s1, .inr (.inl 0)] σ Q := by
  refine am_wn rfl ?_
  refine am_wn rfl ?_
  exact k
theorem b_2_38 {sc : Int → Int} {σ : St} {Q : Ou → St → Nat → Prop} (z1 : Int) (z2 : Int) (z3 : Int) (z4 : Int) (s1 : Int) (s2 : Int) (k : am_wp sc 2 39 [.inr (.inl 0), .inl z1, .inl z2, .inl z3, .inl z4] [.inl 1, .inl s2, .inl s1, .inr (.inl 0)] σ Q) : am_wp sc 2 38 [.inr (.inl 0), .inl z1, .inl z2, .inl z3, .inl z4] [.inl s2, .inl s1, .inr (.inl 0)] σ Q := by
  refine am_wn rfl ?_
  exact k
theorem b_2_39 {sc : Int → Int} {σ : St} {Q : Ou → St → Nat → Prop} (z1 : Int) (z2 : Int) (z3 : Int) (z4 : Int) (s1 : Int) (s2 : Int) (s3 : Int) (k : am_wp sc 24 0 [.inr (.inl 0), .inl s1, .inl s2, .inl s3, .inl z3, .inr (.inr 0)] [] σ (am_bk sc 2 40 [.inr (.inl 0), .inl z1, .inl z2, .inl z3, .inl z4] [] Q)) : am_wp sc 2 39 [.inr (.inl 0), .inl z1, .inl z2, .inl z3, .inl z4] [.inl s3, .inl s2, .inl s1, .inr (.inl 0)] σ Q := by
  refine am_wn rfl ?_
  exact am_wc rfl (by decide) (by decide) rfl k
theorem b_2_43 {sc : Int → Int} {σ : St} {Q : Ou → St → Nat → Prop} (z1 : Int) (z2 : Int) (z3 : Int) (z4 : Int) (k : Q (.inl none) σ 0) : am_wp sc 2 43 [.inr (.inl 0), .inl z1, .inl z2, .inl z3, .inl z4] [] σ Q := by
  exact am_w62 rfl k
/-! SlidingHeap.get -/
theorem b_3_0 {sc : Int → Int} {σ : St} {Q : Ou → St → Nat → Prop} (z1 : Int) (z2 : Int) (k : am_wp sc 19 0 [.inr (.inl 0), .inl z1, .inl z2] [] σ (am_bk sc 3 3 [.inr (.inl 0), .inl z1, .inl z2] [] Q)) : am_wp sc 3 0 [.inr (.inl 0), .inl z1, .inl z2] [] σ Q := by
  refine am_wn rfl ?_
  refine am_wn rfl ?_
  refine am_wn rfl ?_
  exact am_wc rfl (by decide) (by decide) rfl k
theorem b_3_6 {sc : Int → Int} {σ : St} {Q : Ou → St → Nat → Prop} (z1 : Int) (z2 : Int) (k : am_wp sc 21 0 [.inr (.inl 0), .inl z1] [] σ (am_bk sc 3 12 [.inr (.inl 0), .inl z1, .inl z2] [.inr (.inl 2)] Q)) : am_wp sc 3 6 [.inr (.inl 0), .inl z1, .inl z2] [] σ Q := by
  refine am_wn rfl ?_
  refine am_wn rfl ?_
  refine am_wn rfl ?_
  refine am_wn rfl ?_
  exact am_wc rfl (by decide) (by decide) rfl k
theorem b_3_15 {sc : Int → Int} {σ : St} {Q : Ou → St → Nat → Prop} (z1 : Int) (z2 : Int) (s1 : Int) (h0 : am_R (s1 + z2)) (h1 : 0 ≤ (s1 + z2) ∧ (s1 + z2) < 90) (k : Q (.inl (some (σ 2 (s1 + z2)))) σ 0) : am_wp sc 3 15 [.inr (.inl 0), .inl z1, .inl z2] [.inl s1, .inr (.inl 2)] σ Q := by
  refine am_wn rfl ?_
  refine ar_add rfl h0 ?_
  refine ar_iald rfl rfl h1 ?_
  exact am_w60 rfl k
/-! SlidingHeap.kind -/
theorem b_4_0 {sc : Int → Int} {σ : St} {Q : Ou → St → Nat → Prop} (z1 : Int) (z2 : Int) (k : am_wp sc 19 0 [.inr (.inl 0), .inl z1, .inl z2] [] σ (am_bk sc 4 3 [.inr (.inl 0), .inl z1, .inl z2] [] Q)) : am_wp sc 4 0 [.inr (.inl 0), .inl z1, .inl z2] [] σ Q := by
  refine am_wn rfl ?_
  refine am_wn rfl ?_
  refine am_wn rfl ?_
  exact am_wc rfl (by decide) (by decide) rfl k
theorem b_4_6 {sc : Int → Int} {σ : St} {Q : Ou → St → Nat → Prop} (z1 : Int) (z2 : Int) (k : am_wp sc 21 0 [.inr (.inl 0), .inl z1] [] σ (am_bk sc 4 12 [.inr (.inl 0), .inl z1, .inl z2] [.inr (.inl 3)] Q)) : am_wp sc 4 6 [.inr (.inl 0), .inl z1, .inl z2] [] σ Q := by
  refine am_wn rfl ?_
  refine am_wn rfl ?_
  refine am_wn rfl ?_
  refine am_wn rfl ?_
  exact am_wc rfl (by decide) (by decide) rfl k
theorem b_4_15 {sc : Int → Int} {σ : St} {Q : Ou → St → Nat → Prop} (z1 : Int) (z2 : Int) (s1 : Int) (h0 : am_R (s1 + z2)) (h1 : 0 ≤ (s1 + z2) ∧ (s1 + z2) < 90) (k : Q (.inl (some (σ 3 (s1 + z2)))) σ 0) : am_wp sc 4 15 [.inr (.inl 0), .inl z1, .inl z2] [.inl s1, .inr (.inl 3)] σ Q := by
  refine am_wn rfl ?_
  refine ar_add rfl h0 ?_
  refine ar_iald rfl rfl h1 ?_
  exact am_w60 rfl k
/-! SlidingHeap.push -/
theorem b_5_0 {sc : Int → Int} {σ : St} {Q : Ou → St → Nat → Prop} (z1 : Int) (k : am_wp sc 18 0 [.inr (.inl 0), .inl z1] [] σ (am_bk sc 5 2 [.inr (.inl 0), .inl z1] [] Q)) : am_wp sc 5 0 [.inr (.inl 0), .inl z1] [] σ Q := by
  refine am_wn rfl ?_
  refine am_wn rfl ?_
  exact am_wc rfl (by decide) (by decide) rfl k
theorem b_5_5 {sc : Int → Int} {σ : St} {Q : Ou → St → Nat → Prop} (z1 : Int) (k1 : ((σ 32 0) < 10) → am_wp sc 5 22 [.inr (.inl 0), .inl z1] [] σ Q) (k2 : ¬ ((σ 32 0) < 10) → am_wp sc 5 14 [.inr (.inl 0), .inl z1] [] σ Q) : am_wp sc 5 5 [.inr (.inl 0), .inl z1] [] σ Q := by
  refine am_wn rfl ?_
  refine am_wn rfl ?_
  refine am_wn rfl ?_
  exact ar_br (c := (σ 32 0) < 10) rfl k1 k2
theorem b_5_14 {sc : Int → Int} {σ : St} {Q : Ou → St → Nat → Prop} (z1 : Int) (k : Q (.inr 1) σ 1) : am_wp sc 5 14 [.inr (.inl 0), .inl z1] [] σ Q := by
  exact am_w63 rfl k
theorem b_5_22 {sc : Int → Int} {σ : St} {Q : Ou → St → Nat → Prop} (z1 : Int) (k : am_wp sc 29 0 [.inr (.inl 0), .inl z1] [] σ (am_bk sc 5 24 [.inr (.inl 0), .inl z1] [] Q)) : am_wp sc 5 22 [.inr (.inl 0), .inl z1] [] σ Q := by
  refine am_wn rfl ?_
  refine am_wn rfl ?_
  exact am_wc rfl (by decide) (by decide) rfl k
theorem b_5_27 {sc : Int → Int} {σ : St} {Q : Ou → St → Nat → Prop} (z1 : Int) (k : Q (.inl (some (σ 32 0))) σ 0) : am_wp sc 5 27 [.inr (.inl 0), .inl z1] [] σ Q := by
  refine am_wn rfl ?_
  refine am_wn rfl ?_
  exact am_w60 rfl k
/-! SlidingHeap.pop -/
theorem b_6_0 {sc : Int → Int} {σ : St} {Q : Ou → St → Nat → Prop}  (k1 : ((σ 32 0) ≠ 0) → am_wp sc 6 9 [.inr (.inl 0)] [] σ Q) (k2 : ¬ ((σ 32 0) ≠ 0) → am_wp sc 6 7 [.inr (.inl 0)] [] σ Q) : am_wp sc 6 0 [.inr (.inl 0)] [] σ Q := by
  refine am_wn rfl ?_
  refine am_wn rfl ?_
  exact ar_br (c := (σ 32 0) ≠ 0) rfl k1 k2
theorem b_6_7 {sc : Int → Int} {σ : St} {Q : Ou → St → Nat → Prop}  (k : Q (.inl (some (-1))) σ 0) : am_wp sc 6 7 [.inr (.inl 0)] [] σ Q := by
  refine am_wn rfl ?_
  exact am_w60 rfl k
theorem b_6_9 {sc : Int → Int} {σ : St} {Q : Ou → St → Nat → Prop}  (h0 : am_R ((σ 32 0) - 1)) (h1 : 0 ≤ ((σ 32 0) - 1) ∧ ((σ 32 0) - 1) < 10) (k : Q (.inl (some (σ 9 ((σ 32 0) - 1)))) (am_up σ 32 0 ((σ 32 0) - 1)) 0) : am_wp sc 6 9 [.inr (.inl 0)] [] σ Q := by
  refine am_wn rfl ?_
  refine am_wn rfl ?_
  refine am_wn rfl ?_
  refine am_wn rfl ?_
  refine ar_sub rfl h0 ?_
  refine am_wn rfl ?_
  refine am_wn rfl ?_
  refine am_wn rfl ?_
  refine am_wn rfl ?_
  refine am_wn rfl ?_
  refine ar_iald rfl rfl h1 ?_
  exact am_w60 rfl k
/-! SlidingHeap.root -/
theorem b_7_0 {sc : Int → Int} {σ : St} {Q : Ou → St → Nat → Prop} (z1 : Int) (k1 : (z1 < 0) → am_wp sc 7 21 [.inr (.inl 0), .inl z1] [] σ Q) (k2 : ¬ (z1 < 0) → am_wp sc 7 4 [.inr (.inl 0), .inl z1] [] σ Q) : am_wp sc 7 0 [.inr (.inl 0), .inl z1] [] σ Q := by
  refine am_wn rfl ?_
  exact ar_br (c := z1 < 0) rfl k1 k2
theorem b_7_4 {sc : Int → Int} {σ : St} {Q : Ou → St → Nat → Prop} (z1 : Int) (k1 : ((σ 32 0) ≤ z1) → am_wp sc 7 21 [.inr (.inl 0), .inl z1] [] σ Q) (k2 : ¬ ((σ 32 0) ≤ z1) → am_wp sc 7 12 [.inr (.inl 0), .inl z1] [] σ Q) : am_wp sc 7 4 [.inr (.inl 0), .inl z1] [] σ Q := by
  refine am_wn rfl ?_
  refine am_wn rfl ?_
  refine am_wn rfl ?_
  exact ar_br (c := (σ 32 0) ≤ z1) rfl k1 k2
theorem b_7_12 {sc : Int → Int} {σ : St} {Q : Ou → St → Nat → Prop} (z1 : Int) (h0 : 0 ≤ z1 ∧ z1 < 10) (k : am_wp sc 7 22 [.inr (.inl 0), .inl z1] [.inl (σ 9 z1)] σ Q) : am_wp sc 7 12 [.inr (.inl 0), .inl z1] [] σ Q := by
  refine am_wn rfl ?_
  refine am_wn rfl ?_
  refine am_wn rfl ?_
  refine ar_iald rfl rfl h0 ?_
  refine am_wn rfl ?_
  exact k
theorem b_7_21 {sc : Int → Int} {σ : St} {Q : Ou → St → Nat → Prop} (z1 : Int) (k : am_wp sc 7 22 [.inr (.inl 0), .inl z1] [.inl (-1)] σ Q) : am_wp sc 7 21 [.inr (.inl 0), .inl z1] [] σ Q := by
  refine am_wn rfl ?_
  exact k
theorem b_7_22 {sc : Int → Int} {σ : St} {Q : Ou → St → Nat → Prop} (z1 : Int) (s0 : Int) (k : Q (.inl (some s0)) σ 0) : am_wp sc 7 22 [.inr (.inl 0), .inl z1] [.inl s0] σ Q := by
  exact am_w60 rfl k
/-! SlidingHeap.rites -/
theorem b_8_0 {sc : Int → Int} {σ : St} {Q : Ou → St → Nat → Prop} (z1 : Int) (z2 : Int) (k : am_wp sc 18 0 [.inr (.inl 0), .inl z1] [] σ (am_bk sc 8 2 [.inr (.inl 0), .inl z1, .inl z2] [] Q)) : am_wp sc 8 0 [.inr (.inl 0), .inl z1, .inl z2] [] σ Q := by
  refine am_wn rfl ?_
  refine am_wn rfl ?_
  exact am_wc rfl (by decide) (by decide) rfl k
theorem b_8_5 {sc : Int → Int} {σ : St} {Q : Ou → St → Nat → Prop} (z1 : Int) (z2 : Int) (h0 : 0 ≤ z1 ∧ z1 < 15) (h1 : z2 = 0 ∨ z2 = 1) (k : Q (.inl none) (am_up σ 7 z1 z2) 0) : am_wp sc 8 5 [.inr (.inl 0), .inl z1, .inl z2] [] σ Q := by
  refine am_wn rfl ?_
  refine am_wn rfl ?_
  refine am_wn rfl ?_
  refine am_wn rfl ?_
  refine ar_bast rfl rfl h0 h1 ?_
  exact am_w62 rfl k
/-! SlidingHeap.take -/
theorem b_9_0 {sc : Int → Int} {σ : St} {Q : Ou → St → Nat → Prop} (v1 : AV) (k1 : ((σ 33 0) ≠ 0) → am_wp sc 9 9 [.inr (.inl 0), v1] [] σ Q) (k2 : ¬ ((σ 33 0) ≠ 0) → am_wp sc 9 7 [.inr (.inl 0), v1] [] σ Q) : am_wp sc 9 0 [.inr (.inl 0), v1] [] σ Q := by
  refine am_wn rfl ?_
  refine am_wn rfl ?_
  exact ar_br (c := (σ 33 0) ≠ 0) rfl k1 k2
theorem b_9_7 {sc : Int → Int} {σ : St} {Q : Ou → St → Nat → Prop} (v1 : AV) (k : Q (.inl (some (-1))) σ 0) : am_wp sc 9 7 [.inr (.inl 0), v1] [] σ Q := by
  refine am_wn rfl ?_
  exact am_w60 rfl k
theorem b_9_9 {sc : Int → Int} {σ : St} {Q : Ou → St → Nat → Prop} (v1 : AV) (k1 : ((σ 32 0) < 10) → am_wp sc 9 26 [.inr (.inl 0), v1] [] σ Q) (k2 : ¬ ((σ 32 0) < 10) → am_wp sc 9 18 [.inr (.inl 0), v1] [] σ Q) : am_wp sc 9 9 [.inr (.inl 0), v1] [] σ Q := by
  refine am_wn rfl ?_
  refine am_wn rfl ?_
  refine am_wn rfl ?_
  exact ar_br (c := (σ 32 0) < 10) rfl k1 k2
theorem b_9_18 {sc : Int → Int} {σ : St} {Q : Ou → St → Nat → Prop} (v1 : AV) (k : Q (.inr 1) σ 1) : am_wp sc 9 18 [.inr (.inl 0), v1] [] σ Q := by
  exact am_w63 rfl k
theorem b_9_26 {sc : Int → Int} {σ : St} {Q : Ou → St → Nat → Prop} (v1 : AV) (k : am_wp sc 30 0 [.inr (.inl 0), .inr (.inr 0), .inr (.inr 0)] [] σ (am_bk sc 9 27 [.inr (.inl 0), v1] [] Q)) : am_wp sc 9 26 [.inr (.inl 0), v1] [] σ Q := by
  refine am_wn rfl ?_
  exact am_wc rfl (by decide) (by decide) rfl k
theorem b_9_30 {sc : Int → Int} {σ : St} {Q : Ou → St → Nat → Prop} (v1 : AV) (s0 : Int) (k : am_wp sc 29 0 [.inr (.inl 0), .inl s0] [] σ (am_bk sc 9 33 [.inr (.inl 0), .inl s0] [] Q)) : am_wp sc 9 30 [.inr (.inl 0), v1] [.inl s0] σ Q := by
  refine am_wn rfl ?_
  refine am_wn rfl ?_
  refine am_wn rfl ?_
  exact am_wc rfl (by decide) (by decide) rfl k
theorem b_9_36 {sc : Int → Int} {σ : St} {Q : Ou → St → Nat → Prop} (z1 : Int) (k : Q (.inl (some z1)) σ 0) : am_wp sc 9 36 [.inr (.inl 0), .inl z1] [] σ Q := by
  refine am_wn rfl ?_
  exact am_w60 rfl k
/-! SlidingHeap.queued -/
theorem b_10_0 {sc : Int → Int} {σ : St} {Q : Ou → St → Nat → Prop} (z1 : Int) (k1 : (z1 < 0) → am_wp sc 10 21 [.inr (.inl 0), .inl z1] [] σ Q) (k2 : ¬ (z1 < 0) → am_wp sc 10 4 [.inr (.inl 0), .inl z1] [] σ Q) : am_wp sc 10 0 [.inr (.inl 0), .inl z1] [] σ Q := by
  refine am_wn rfl ?_
  exact ar_br (c := z1 < 0) rfl k1 k2
theorem b_10_4 {sc : Int → Int} {σ : St} {Q : Ou → St → Nat → Prop} (z1 : Int) (k1 : ((σ 33 0) ≤ z1) → am_wp sc 10 21 [.inr (.inl 0), .inl z1] [] σ Q) (k2 : ¬ ((σ 33 0) ≤ z1) → am_wp sc 10 12 [.inr (.inl 0), .inl z1] [] σ Q) : am_wp sc 10 4 [.inr (.inl 0), .inl z1] [] σ Q := by
  refine am_wn rfl ?_
  refine am_wn rfl ?_
  refine am_wn rfl ?_
  exact ar_br (c := (σ 33 0) ≤ z1) rfl k1 k2
theorem b_10_12 {sc : Int → Int} {σ : St} {Q : Ou → St → Nat → Prop} (z1 : Int) (h0 : 0 ≤ z1 ∧ z1 < 14) (k : am_wp sc 10 22 [.inr (.inl 0), .inl z1] [.inl (σ 10 z1)] σ Q) : am_wp sc 10 12 [.inr (.inl 0), .inl z1] [] σ Q := by
  refine am_wn rfl ?_
  refine am_wn rfl ?_
  refine am_wn rfl ?_
  refine ar_iald rfl rfl h0 ?_
  refine am_wn rfl ?_
  exact k
theorem b_10_21 {sc : Int → Int} {σ : St} {Q : Ou → St → Nat → Prop} (z1 : Int) (k : am_wp sc 10 22 [.inr (.inl 0), .inl z1] [.inl (-1)] σ Q) : am_wp sc 10 21 [.inr (.inl 0), .inl z1] [] σ Q := by
  refine am_wn rfl ?_
  exact k
theorem b_10_22 {sc : Int → Int} {σ : St} {Q : Ou → St → Nat → Prop} (z1 : Int) (s0 : Int) (k : Q (.inl (some s0)) σ 0) : am_wp sc 10 22 [.inr (.inl 0), .inl z1] [.inl s0] σ Q := by
  exact am_w60 rfl k
/-! SlidingHeap.collect -/
theorem b_11_0 {sc : Int → Int} {σ : St} {Q : Ou → St → Nat → Prop} (v1 : AV) (k : am_wp sc 31 0 [.inr (.inl 0), .inr (.inr 0)] [] σ (am_bk sc 11 6 [.inr (.inl 0), .inl (σ 30 0)] [] Q)) : am_wp sc 11 0 [.inr (.inl 0), v1] [] σ Q := by
  refine am_wn rfl ?_
  refine am_wn rfl ?_
  refine am_wn rfl ?_
  refine am_wn rfl ?_
  exact am_wc rfl (by decide) (by decide) rfl k
theorem b_11_9 {sc : Int → Int} {σ : St} {Q : Ou → St → Nat → Prop} (z1 : Int) (k : am_wp sc 36 0 [.inr (.inl 0), .inr (.inr 0), .inr (.inr 0), .inr (.inr 0)] [] σ (am_bk sc 11 10 [.inr (.inl 0), .inl z1] [] Q)) : am_wp sc 11 9 [.inr (.inl 0), .inl z1] [] σ Q := by
  refine am_wn rfl ?_
  exact am_wc rfl (by decide) (by decide) rfl k
theorem b_11_13 {sc : Int → Int} {σ : St} {Q : Ou → St → Nat → Prop} (z1 : Int) (k : am_wp sc 37 0 [.inr (.inl 0), .inr (.inr 0)] [] σ (am_bk sc 11 14 [.inr (.inl 0), .inl z1] [] Q)) : am_wp sc 11 13 [.inr (.inl 0), .inl z1] [] σ Q := by
  refine am_wn rfl ?_
  exact am_wc rfl (by decide) (by decide) rfl k
theorem b_11_17 {sc : Int → Int} {σ : St} {Q : Ou → St → Nat → Prop} (z1 : Int) (k : am_wp sc 31 0 [.inr (.inl 0), .inr (.inr 0)] [] σ (am_bk sc 11 18 [.inr (.inl 0), .inl z1] [] Q)) : am_wp sc 11 17 [.inr (.inl 0), .inl z1] [] σ Q := by
  refine am_wn rfl ?_
  exact am_wc rfl (by decide) (by decide) rfl k
theorem b_11_21 {sc : Int → Int} {σ : St} {Q : Ou → St → Nat → Prop} (z1 : Int) (k : am_wp sc 36 0 [.inr (.inl 0), .inr (.inr 0), .inr (.inr 0), .inr (.inr 0)] [] σ (am_bk sc 11 22 [.inr (.inl 0), .inl z1] [] Q)) : am_wp sc 11 21 [.inr (.inl 0), .inl z1] [] σ Q := by
  refine am_wn rfl ?_
  exact am_wc rfl (by decide) (by decide) rfl k
theorem b_11_25 {sc : Int → Int} {σ : St} {Q : Ou → St → Nat → Prop} (z1 : Int) (k : am_wp sc 38 0 [.inr (.inl 0), .inr (.inr 0), .inr (.inr 0), .inr (.inr 0), .inr (.inr 0)] [] σ (am_bk sc 11 26 [.inr (.inl 0), .inl z1] [] Q)) : am_wp sc 11 25 [.inr (.inl 0), .inl z1] [] σ Q := by
  refine am_wn rfl ?_
  exact am_wc rfl (by decide) (by decide) rfl k
theorem b_11_29 {sc : Int → Int} {σ : St} {Q : Ou → St → Nat → Prop} (z1 : Int) (k : am_wp sc 41 0 [.inr (.inl 0), .inr (.inr 0), .inr (.inr 0)] [] σ (am_bk sc 11 30 [.inr (.inl 0), .inl z1] [] Q)) : am_wp sc 11 29 [.inr (.inl 0), .inl z1] [] σ Q := by
  refine am_wn rfl ?_
  exact am_wc rfl (by decide) (by decide) rfl k
theorem b_11_33 {sc : Int → Int} {σ : St} {Q : Ou → St → Nat → Prop} (z1 : Int) (h0 : am_R ((σ 34 0) + 1)) (h1 : am_R (z1 - (σ 30 0))) (k : Q (.inl (some (z1 - (σ 30 0)))) (am_up σ 34 0 ((σ 34 0) + 1)) 0) : am_wp sc 11 33 [.inr (.inl 0), .inl z1] [] σ Q := by
  refine am_wn rfl ?_
  refine am_wn rfl ?_
  refine am_wn rfl ?_
  refine am_wn rfl ?_
  refine ar_add rfl h0 ?_
  refine am_wn rfl ?_
  refine am_wn rfl ?_
  refine am_wn rfl ?_
  refine am_wn rfl ?_
  refine ar_sub rfl h1 ?_
  exact am_w60 rfl k
/-! SlidingHeap.word -/
theorem b_12_0 {sc : Int → Int} {σ : St} {Q : Ou → St → Nat → Prop} (z1 : Int) (k1 : (z1 < 0) → am_wp sc 12 10 [.inr (.inl 0), .inl z1] [] σ Q) (k2 : ¬ (z1 < 0) → am_wp sc 12 4 [.inr (.inl 0), .inl z1] [] σ Q) : am_wp sc 12 0 [.inr (.inl 0), .inl z1] [] σ Q := by
  refine am_wn rfl ?_
  exact ar_br (c := z1 < 0) rfl k1 k2
theorem b_12_4 {sc : Int → Int} {σ : St} {Q : Ou → St → Nat → Prop} (z1 : Int) (k1 : (z1 < 90) → am_wp sc 12 18 [.inr (.inl 0), .inl z1] [] σ Q) (k2 : ¬ (z1 < 90) → am_wp sc 12 10 [.inr (.inl 0), .inl z1] [] σ Q) : am_wp sc 12 4 [.inr (.inl 0), .inl z1] [] σ Q := by
  refine am_wn rfl ?_
  refine am_wn rfl ?_
  exact ar_br (c := z1 < 90) rfl k1 k2
theorem b_12_10 {sc : Int → Int} {σ : St} {Q : Ou → St → Nat → Prop} (z1 : Int) (k : Q (.inr 3) σ 1) : am_wp sc 12 10 [.inr (.inl 0), .inl z1] [] σ Q := by
  exact am_w63 rfl k
theorem b_12_18 {sc : Int → Int} {σ : St} {Q : Ou → St → Nat → Prop} (z1 : Int) (h0 : 0 ≤ z1 ∧ z1 < 90) (k : Q (.inl (some (σ 2 z1))) σ 0) : am_wp sc 12 18 [.inr (.inl 0), .inl z1] [] σ Q := by
  refine am_wn rfl ?_
  refine am_wn rfl ?_
  refine am_wn rfl ?_
  refine ar_iald rfl rfl h0 ?_
  exact am_w60 rfl k
/-! SlidingHeap.about -/
theorem b_13_0 {sc : Int → Int} {σ : St} {Q : Ou → St → Nat → Prop} (z1 : Int) (z2 : Int) (k : am_wp sc 18 0 [.inr (.inl 0), .inl z1] [] σ (am_bk sc 13 2 [.inr (.inl 0), .inl z1, .inl z2] [] Q)) : am_wp sc 13 0 [.inr (.inl 0), .inl z1, .inl z2] [] σ Q := by
  refine am_wn rfl ?_
  refine am_wn rfl ?_
  exact am_wc rfl (by decide) (by decide) rfl k
theorem b_13_5_c0 {sc : Int → Int} {σ : St} {Q : Ou → St → Nat → Prop} (z1 : Int) (z2 : Int) (hz : z2 = 0) (k : am_wp sc 13 44 [.inr (.inl 0), .inl z1, .inl z2] [] σ Q) : am_wp sc 13 5 [.inr (.inl 0), .inl z1, .inl z2] [] σ Q := by
  refine am_wn rfl ?_
  exact ar_sw hz rfl k
theorem b_13_5_c1 {sc : Int → Int} {σ : St} {Q : Ou → St → Nat → Prop} (z1 : Int) (z2 : Int) (hz : z2 = 1) (k : am_wp sc 13 51 [.inr (.inl 0), .inl z1, .inl z2] [] σ Q) : am_wp sc 13 5 [.inr (.inl 0), .inl z1, .inl z2] [] σ Q := by
  refine am_wn rfl ?_
  exact ar_sw hz rfl k
theorem b_13_5_c2 {sc : Int → Int} {σ : St} {Q : Ou → St → Nat → Prop} (z1 : Int) (z2 : Int) (hz : z2 = 2) (k : am_wp sc 13 58 [.inr (.inl 0), .inl z1, .inl z2] [] σ Q) : am_wp sc 13 5 [.inr (.inl 0), .inl z1, .inl z2] [] σ Q := by
  refine am_wn rfl ?_
  exact ar_sw hz rfl k
theorem b_13_5_c3 {sc : Int → Int} {σ : St} {Q : Ou → St → Nat → Prop} (z1 : Int) (z2 : Int) (hz : z2 = 3) (k : am_wp sc 13 65 [.inr (.inl 0), .inl z1, .inl z2] [] σ Q) : am_wp sc 13 5 [.inr (.inl 0), .inl z1, .inl z2] [] σ Q := by
  refine am_wn rfl ?_
  exact ar_sw hz rfl k
theorem b_13_5_c4 {sc : Int → Int} {σ : St} {Q : Ou → St → Nat → Prop} (z1 : Int) (z2 : Int) (hz : z2 = 4) (k : am_wp sc 13 80 [.inr (.inl 0), .inl z1, .inl z2] [] σ Q) : am_wp sc 13 5 [.inr (.inl 0), .inl z1, .inl z2] [] σ Q := by
  refine am_wn rfl ?_
  exact ar_sw hz rfl k
theorem b_13_5_c5 {sc : Int → Int} {σ : St} {Q : Ou → St → Nat → Prop} (z1 : Int) (z2 : Int) (hz : z2 = 5) (k : am_wp sc 13 99 [.inr (.inl 0), .inl z1, .inl z2] [] σ Q) : am_wp sc 13 5 [.inr (.inl 0), .inl z1, .inl z2] [] σ Q := by
  refine am_wn rfl ?_
  exact ar_sw hz rfl k
theorem b_13_5_d {sc : Int → Int} {σ : St} {Q : Ou → St → Nat → Prop} (z1 : Int) (z2 : Int) (hz : z2 < 0 ∨ 6 ≤ z2) (k : am_wp sc 13 105 [.inr (.inl 0), .inl z1, .inl z2] [] σ Q) : am_wp sc 13 5 [.inr (.inl 0), .inl z1, .inl z2] [] σ Q := by
  refine am_wn rfl ?_
  exact ar_swd rfl hz k
theorem b_13_44 {sc : Int → Int} {σ : St} {Q : Ou → St → Nat → Prop} (z1 : Int) (z2 : Int) (h0 : 0 ≤ z1 ∧ z1 < 15) (k : Q (.inl (some (σ 4 z1))) σ 0) : am_wp sc 13 44 [.inr (.inl 0), .inl z1, .inl z2] [] σ Q := by
  refine am_wn rfl ?_
  refine am_wn rfl ?_
  refine am_wn rfl ?_
  refine ar_iald rfl rfl h0 ?_
  exact am_w60 rfl k
theorem b_13_51 {sc : Int → Int} {σ : St} {Q : Ou → St → Nat → Prop} (z1 : Int) (z2 : Int) (h0 : 0 ≤ z1 ∧ z1 < 15) (k : Q (.inl (some (σ 5 z1))) σ 0) : am_wp sc 13 51 [.inr (.inl 0), .inl z1, .inl z2] [] σ Q := by
  refine am_wn rfl ?_
  refine am_wn rfl ?_
  refine am_wn rfl ?_
  refine ar_iald rfl rfl h0 ?_
  exact am_w60 rfl k
theorem b_13_58 {sc : Int → Int} {σ : St} {Q : Ou → St → Nat → Prop} (z1 : Int) (z2 : Int) (h0 : 0 ≤ z1 ∧ z1 < 15) (k : Q (.inl (some (σ 6 z1))) σ 0) : am_wp sc 13 58 [.inr (.inl 0), .inl z1, .inl z2] [] σ Q := by
  refine am_wn rfl ?_
  refine am_wn rfl ?_
  refine am_wn rfl ?_
  refine ar_iald rfl rfl h0 ?_
  exact am_w60 rfl k
theorem b_13_65 {sc : Int → Int} {σ : St} {Q : Ou → St → Nat → Prop} (z1 : Int) (z2 : Int) (h0 : 0 ≤ z1 ∧ z1 < 15) (k1 : ((σ 7 z1) = 0) → am_wp sc 13 78 [.inr (.inl 0), .inl z1, .inl z2] [] σ Q) (k2 : ¬ ((σ 7 z1) = 0) → am_wp sc 13 74 [.inr (.inl 0), .inl z1, .inl z2] [] σ Q) : am_wp sc 13 65 [.inr (.inl 0), .inl z1, .inl z2] [] σ Q := by
  refine am_wn rfl ?_
  refine am_wn rfl ?_
  refine am_wn rfl ?_
  refine ar_bald rfl rfl h0 ?_
  exact ar_br (c := (σ 7 z1) = 0) rfl k1 k2
theorem b_13_74 {sc : Int → Int} {σ : St} {Q : Ou → St → Nat → Prop} (z1 : Int) (z2 : Int) (k : am_wp sc 13 79 [.inr (.inl 0), .inl z1, .inl z2] [.inl 1] σ Q) : am_wp sc 13 74 [.inr (.inl 0), .inl z1, .inl z2] [] σ Q := by
  refine am_wn rfl ?_
  refine am_wn rfl ?_
  exact k
theorem b_13_78 {sc : Int → Int} {σ : St} {Q : Ou → St → Nat → Prop} (z1 : Int) (z2 : Int) (k : am_wp sc 13 79 [.inr (.inl 0), .inl z1, .inl z2] [.inl 0] σ Q) : am_wp sc 13 78 [.inr (.inl 0), .inl z1, .inl z2] [] σ Q := by
  refine am_wn rfl ?_
  exact k
theorem b_13_79 {sc : Int → Int} {σ : St} {Q : Ou → St → Nat → Prop} (z1 : Int) (z2 : Int) (s0 : Int) (k : Q (.inl (some s0)) σ 0) : am_wp sc 13 79 [.inr (.inl 0), .inl z1, .inl z2] [.inl s0] σ Q := by
  exact am_w60 rfl k
theorem b_13_80 {sc : Int → Int} {σ : St} {Q : Ou → St → Nat → Prop} (z1 : Int) (z2 : Int) (k : am_wp sc 31 0 [.inr (.inl 0), .inr (.inr 0)] [] σ (am_bk sc 13 81 [.inr (.inl 0), .inl z1, .inl z2] [] Q)) : am_wp sc 13 80 [.inr (.inl 0), .inl z1, .inl z2] [] σ Q := by
  refine am_wn rfl ?_
  exact am_wc rfl (by decide) (by decide) rfl k
theorem b_13_84 {sc : Int → Int} {σ : St} {Q : Ou → St → Nat → Prop} (z1 : Int) (z2 : Int) (h0 : 0 ≤ z1 ∧ z1 < 15) (k1 : ((σ 11 z1) = 0) → am_wp sc 13 97 [.inr (.inl 0), .inl z1, .inl z2] [] σ Q) (k2 : ¬ ((σ 11 z1) = 0) → am_wp sc 13 93 [.inr (.inl 0), .inl z1, .inl z2] [] σ Q) : am_wp sc 13 84 [.inr (.inl 0), .inl z1, .inl z2] [] σ Q := by
  refine am_wn rfl ?_
  refine am_wn rfl ?_
  refine am_wn rfl ?_
  refine ar_bald rfl rfl h0 ?_
  exact ar_br (c := (σ 11 z1) = 0) rfl k1 k2
theorem b_13_93 {sc : Int → Int} {σ : St} {Q : Ou → St → Nat → Prop} (z1 : Int) (z2 : Int) (k : am_wp sc 13 98 [.inr (.inl 0), .inl z1, .inl z2] [.inl 1] σ Q) : am_wp sc 13 93 [.inr (.inl 0), .inl z1, .inl z2] [] σ Q := by
  refine am_wn rfl ?_
  refine am_wn rfl ?_
  exact k
theorem b_13_97 {sc : Int → Int} {σ : St} {Q : Ou → St → Nat → Prop} (z1 : Int) (z2 : Int) (k : am_wp sc 13 98 [.inr (.inl 0), .inl z1, .inl z2] [.inl 0] σ Q) : am_wp sc 13 97 [.inr (.inl 0), .inl z1, .inl z2] [] σ Q := by
  refine am_wn rfl ?_
  exact k
theorem b_13_98 {sc : Int → Int} {σ : St} {Q : Ou → St → Nat → Prop} (z1 : Int) (z2 : Int) (s0 : Int) (k : Q (.inl (some s0)) σ 0) : am_wp sc 13 98 [.inr (.inl 0), .inl z1, .inl z2] [.inl s0] σ Q := by
  exact am_w60 rfl k
theorem b_13_99 {sc : Int → Int} {σ : St} {Q : Ou → St → Nat → Prop} (z1 : Int) (z2 : Int) (k : am_wp sc 42 0 [.inr (.inl 0), .inl z1, .inr (.inr 0), .inr (.inr 0)] [] σ (am_bk sc 13 101 [.inr (.inl 0), .inl z1, .inl z2] [] Q)) : am_wp sc 13 99 [.inr (.inl 0), .inl z1, .inl z2] [] σ Q := by
  refine am_wn rfl ?_
  refine am_wn rfl ?_
  exact am_wc rfl (by decide) (by decide) rfl k
theorem b_13_104 {sc : Int → Int} {σ : St} {Q : Ou → St → Nat → Prop} (z1 : Int) (z2 : Int) (s0 : Int) (k : Q (.inl (some s0)) σ 0) : am_wp sc 13 104 [.inr (.inl 0), .inl z1, .inl z2] [.inl s0] σ Q := by
  exact am_w60 rfl k
theorem b_13_105 {sc : Int → Int} {σ : St} {Q : Ou → St → Nat → Prop} (z1 : Int) (z2 : Int) (k : Q (.inr 0) σ 1) : am_wp sc 13 105 [.inr (.inl 0), .inl z1, .inl z2] [] σ Q := by
  exact am_w63 rfl k
/-! SlidingHeap.far -/
theorem b_14_0 {sc : Int → Int} {σ : St} {Q : Ou → St → Nat → Prop} (z1 : Int) (v2 : AV) (k : am_wp sc 18 0 [.inr (.inl 0), .inl z1] [] σ (am_bk sc 14 2 [.inr (.inl 0), .inl z1, v2] [] Q)) : am_wp sc 14 0 [.inr (.inl 0), .inl z1, v2] [] σ Q := by
  refine am_wn rfl ?_
  refine am_wn rfl ?_
  exact am_wc rfl (by decide) (by decide) rfl k
theorem b_14_5 {sc : Int → Int} {σ : St} {Q : Ou → St → Nat → Prop} (z1 : Int) (v2 : AV) (k : am_wp sc 43 0 [.inr (.inl 0), .inl z1, .inr (.inr 0), .inr (.inr 0), .inr (.inr 0)] [] σ (am_bk sc 14 7 [.inr (.inl 0), .inl z1, v2] [] Q)) : am_wp sc 14 5 [.inr (.inl 0), .inl z1, v2] [] σ Q := by
  refine am_wn rfl ?_
  refine am_wn rfl ?_
  exact am_wc rfl (by decide) (by decide) rfl k
theorem b_14_10 {sc : Int → Int} {σ : St} {Q : Ou → St → Nat → Prop} (z1 : Int) (v2 : AV) (k : am_wp sc 45 0 [.inr (.inl 0), .inr (.inr 0), .inr (.inr 0)] [] σ (am_bk sc 14 11 [.inr (.inl 0), .inl z1, v2] [] Q)) : am_wp sc 14 10 [.inr (.inl 0), .inl z1, v2] [] σ Q := by
  refine am_wn rfl ?_
  exact am_wc rfl (by decide) (by decide) rfl k
theorem b_14_14 {sc : Int → Int} {σ : St} {Q : Ou → St → Nat → Prop} (z1 : Int) (v2 : AV) (s0 : Int) (k1 : (s0 ≠ (-1)) → am_wp sc 14 24 [.inr (.inl 0), .inl z1, .inl s0] [] σ Q) (k2 : ¬ (s0 ≠ (-1)) → am_wp sc 14 20 [.inr (.inl 0), .inl z1, .inl s0] [] σ Q) : am_wp sc 14 14 [.inr (.inl 0), .inl z1, v2] [.inl s0] σ Q := by
  refine am_wn rfl ?_
  refine am_wn rfl ?_
  refine am_wn rfl ?_
  exact ar_br (c := s0 ≠ (-1)) rfl k1 k2
theorem b_14_20 {sc : Int → Int} {σ : St} {Q : Ou → St → Nat → Prop} (z1 : Int) (z2 : Int) (k : am_wp sc 14 30 [.inr (.inl 0), .inl z1, .inl z2] [.inl (-1)] σ Q) : am_wp sc 14 20 [.inr (.inl 0), .inl z1, .inl z2] [] σ Q := by
  refine am_wn rfl ?_
  refine am_wn rfl ?_
  exact k
theorem b_14_24 {sc : Int → Int} {σ : St} {Q : Ou → St → Nat → Prop} (z1 : Int) (z2 : Int) (h0 : 0 ≤ z2 ∧ z2 < 15) (k : am_wp sc 14 30 [.inr (.inl 0), .inl z1, .inl z2] [.inl (σ 13 z2)] σ Q) : am_wp sc 14 24 [.inr (.inl 0), .inl z1, .inl z2] [] σ Q := by
  refine am_wn rfl ?_
  refine am_wn rfl ?_
  refine am_wn rfl ?_
  refine ar_iald rfl rfl h0 ?_
  exact k
theorem b_14_30 {sc : Int → Int} {σ : St} {Q : Ou → St → Nat → Prop} (z1 : Int) (z2 : Int) (s0 : Int) (k : Q (.inl (some s0)) σ 0) : am_wp sc 14 30 [.inr (.inl 0), .inl z1, .inl z2] [.inl s0] σ Q := by
  exact am_w60 rfl k
/-! SlidingHeap.way -/
theorem b_15_0 {sc : Int → Int} {σ : St} {Q : Ou → St → Nat → Prop} (z1 : Int) (z2 : Int) (v3 : AV) (v4 : AV) (k : am_wp sc 18 0 [.inr (.inl 0), .inl z1] [] σ (am_bk sc 15 2 [.inr (.inl 0), .inl z1, .inl z2, v3, v4] [] Q)) : am_wp sc 15 0 [.inr (.inl 0), .inl z1, .inl z2, v3, v4] [] σ Q := by
  refine am_wn rfl ?_
  refine am_wn rfl ?_
  exact am_wc rfl (by decide) (by decide) rfl k
theorem b_15_5 {sc : Int → Int} {σ : St} {Q : Ou → St → Nat → Prop} (z1 : Int) (z2 : Int) (v3 : AV) (v4 : AV) (k : am_wp sc 43 0 [.inr (.inl 0), .inl z1, .inr (.inr 0), .inr (.inr 0), .inr (.inr 0)] [] σ (am_bk sc 15 7 [.inr (.inl 0), .inl z1, .inl z2, v3, v4] [] Q)) : am_wp sc 15 5 [.inr (.inl 0), .inl z1, .inl z2, v3, v4] [] σ Q := by
  refine am_wn rfl ?_
  refine am_wn rfl ?_
  exact am_wc rfl (by decide) (by decide) rfl k
theorem b_15_10 {sc : Int → Int} {σ : St} {Q : Ou → St → Nat → Prop} (z1 : Int) (z2 : Int) (v3 : AV) (v4 : AV) (k : am_wp sc 45 0 [.inr (.inl 0), .inr (.inr 0), .inr (.inr 0)] [] σ (am_bk sc 15 11 [.inr (.inl 0), .inl z1, .inl z2, v3, v4] [] Q)) : am_wp sc 15 10 [.inr (.inl 0), .inl z1, .inl z2, v3, v4] [] σ Q := by
  refine am_wn rfl ?_
  exact am_wc rfl (by decide) (by decide) rfl k
theorem b_15_14 {sc : Int → Int} {σ : St} {Q : Ou → St → Nat → Prop} (z1 : Int) (z2 : Int) (v3 : AV) (v4 : AV) (s0 : Int) (k1 : (s0 = (-1)) → am_wp sc 15 34 [.inr (.inl 0), .inl z1, .inl z2, .inl s0, v4] [] σ Q) (k2 : ¬ (s0 = (-1)) → am_wp sc 15 20 [.inr (.inl 0), .inl z1, .inl z2, .inl s0, v4] [] σ Q) : am_wp sc 15 14 [.inr (.inl 0), .inl z1, .inl z2, v3, v4] [.inl s0] σ Q := by
  refine am_wn rfl ?_
  refine am_wn rfl ?_
  refine am_wn rfl ?_
  exact ar_br (c := s0 = (-1)) rfl k1 k2
theorem b_15_20 {sc : Int → Int} {σ : St} {Q : Ou → St → Nat → Prop} (z1 : Int) (z2 : Int) (z3 : Int) (v4 : AV) (k1 : (z2 < 0) → am_wp sc 15 34 [.inr (.inl 0), .inl z1, .inl z2, .inl z3, v4] [] σ Q) (k2 : ¬ (z2 < 0) → am_wp sc 15 24 [.inr (.inl 0), .inl z1, .inl z2, .inl z3, v4] [] σ Q) : am_wp sc 15 20 [.inr (.inl 0), .inl z1, .inl z2, .inl z3, v4] [] σ Q := by
  refine am_wn rfl ?_
  exact ar_br (c := z2 < 0) rfl k1 k2
theorem b_15_24 {sc : Int → Int} {σ : St} {Q : Ou → St → Nat → Prop} (z1 : Int) (z2 : Int) (z3 : Int) (v4 : AV) (h0 : 0 ≤ z3 ∧ z3 < 15) (k1 : (z2 ≤ (σ 13 z3)) → am_wp sc 15 36 [.inr (.inl 0), .inl z1, .inl z2, .inl z3, v4] [] σ Q) (k2 : ¬ (z2 ≤ (σ 13 z3)) → am_wp sc 15 34 [.inr (.inl 0), .inl z1, .inl z2, .inl z3, v4] [] σ Q) : am_wp sc 15 24 [.inr (.inl 0), .inl z1, .inl z2, .inl z3, v4] [] σ Q := by
  refine am_wn rfl ?_
  refine am_wn rfl ?_
  refine am_wn rfl ?_
  refine am_wn rfl ?_
  refine ar_iald rfl rfl h0 ?_
  exact ar_br (c := z2 ≤ (σ 13 z3)) rfl k1 k2
theorem b_15_34 {sc : Int → Int} {σ : St} {Q : Ou → St → Nat → Prop} (z1 : Int) (z2 : Int) (z3 : Int) (v4 : AV) (k : Q (.inl (some (-1))) σ 0) : am_wp sc 15 34 [.inr (.inl 0), .inl z1, .inl z2, .inl z3, v4] [] σ Q := by
  refine am_wn rfl ?_
  exact am_w60 rfl k
theorem b_15_36 {sc : Int → Int} {σ : St} {Q : Ou → St → Nat → Prop} (z1 : Int) (z2 : Int) (z3 : Int) (v4 : AV) (k : am_wp sc 15 39 [.inr (.inl 0), .inl z1, .inl z2, .inl z3, .inl 0] [] σ Q) : am_wp sc 15 36 [.inr (.inl 0), .inl z1, .inl z2, .inl z3, v4] [] σ Q := by
  refine am_wn rfl ?_
  refine am_wn rfl ?_
  exact k
theorem b_15_39 {sc : Int → Int} {σ : St} {Q : Ou → St → Nat → Prop} (z1 : Int) (z2 : Int) (z3 : Int) (z4 : Int) (k1 : (z2 ≤ z4) → am_wp sc 15 62 [.inr (.inl 0), .inl z1, .inl z2, .inl z3, .inl z4] [] σ Q) (k2 : ¬ (z2 ≤ z4) → am_wp sc 15 45 [.inr (.inl 0), .inl z1, .inl z2, .inl z3, .inl z4] [] σ Q) : am_wp sc 15 39 [.inr (.inl 0), .inl z1, .inl z2, .inl z3, .inl z4] [] σ Q := by
  refine am_wn rfl ?_
  refine am_wn rfl ?_
  exact ar_br (c := z2 ≤ z4) rfl k1 k2
theorem b_15_45 {sc : Int → Int} {σ : St} {Q : Ou → St → Nat → Prop} (z1 : Int) (z2 : Int) (z3 : Int) (z4 : Int) (k1 : (z3 = (-1)) → am_wp sc 15 62 [.inr (.inl 0), .inl z1, .inl z2, .inl z3, .inl z4] [] σ Q) (k2 : ¬ (z3 = (-1)) → am_wp sc 15 50 [.inr (.inl 0), .inl z1, .inl z2, .inl z3, .inl z4] [] σ Q) : am_wp sc 15 45 [.inr (.inl 0), .inl z1, .inl z2, .inl z3, .inl z4] [] σ Q := by
  refine am_wn rfl ?_
  refine am_wn rfl ?_
  exact ar_br (c := z3 = (-1)) rfl k1 k2
theorem b_15_50 {sc : Int → Int} {σ : St} {Q : Ou → St → Nat → Prop} (z1 : Int) (z2 : Int) (z3 : Int) (z4 : Int) (k : am_wp sc 47 0 [.inr (.inl 0), .inl z3, .inr (.inr 0), .inr (.inr 0)] [] σ (am_bk sc 15 52 [.inr (.inl 0), .inl z1, .inl z2, .inl z3, .inl z4] [] Q)) : am_wp sc 15 50 [.inr (.inl 0), .inl z1, .inl z2, .inl z3, .inl z4] [] σ Q := by
  refine am_wn rfl ?_
  refine am_wn rfl ?_
  exact am_wc rfl (by decide) (by decide) rfl k
theorem b_15_55 {sc : Int → Int} {σ : St} {Q : Ou → St → Nat → Prop} (z1 : Int) (z2 : Int) (z3 : Int) (z4 : Int) (s0 : Int) (h0 : am_R (z4 + 1)) (k : am_wp sc 15 39 [.inr (.inl 0), .inl z1, .inl z2, .inl s0, .inl (z4 + 1)] [] σ Q) : am_wp sc 15 55 [.inr (.inl 0), .inl z1, .inl z2, .inl z3, .inl z4] [.inl s0] σ Q := by
  refine am_wn rfl ?_
  refine ar_inc (L' := [.inr (.inl 0), .inl z1, .inl z2, .inl s0, .inl (z4 + 1)]) rfl rfl h0 rfl ?_
  refine am_wn rfl ?_
  exact k
theorem b_15_62 {sc : Int → Int} {σ : St} {Q : Ou → St → Nat → Prop} (z1 : Int) (z2 : Int) (z3 : Int) (z4 : Int) (k : Q (.inl (some z3)) σ 0) : am_wp sc 15 62 [.inr (.inl 0), .inl z1, .inl z2, .inl z3, .inl z4] [] σ Q := by
  refine am_wn rfl ?_
  exact am_w60 rfl k
/-! SlidingHeap.count -/
theorem b_16_0_c0 {sc : Int → Int} {σ : St} {Q : Ou → St → Nat → Prop} (z1 : Int) (hz : z1 = 0) (k : am_wp sc 16 44 [.inr (.inl 0), .inl z1] [] σ Q) : am_wp sc 16 0 [.inr (.inl 0), .inl z1] [] σ Q := by
  refine am_wn rfl ?_
  exact ar_sw hz rfl k
theorem b_16_0_c1 {sc : Int → Int} {σ : St} {Q : Ou → St → Nat → Prop} (z1 : Int) (hz : z1 = 1) (k : am_wp sc 16 49 [.inr (.inl 0), .inl z1] [] σ Q) : am_wp sc 16 0 [.inr (.inl 0), .inl z1] [] σ Q := by
  refine am_wn rfl ?_
  exact ar_sw hz rfl k
theorem b_16_0_c2 {sc : Int → Int} {σ : St} {Q : Ou → St → Nat → Prop} (z1 : Int) (hz : z1 = 2) (k : am_wp sc 16 58 [.inr (.inl 0), .inl z1] [] σ Q) : am_wp sc 16 0 [.inr (.inl 0), .inl z1] [] σ Q := by
  refine am_wn rfl ?_
  exact ar_sw hz rfl k
theorem b_16_0_c3 {sc : Int → Int} {σ : St} {Q : Ou → St → Nat → Prop} (z1 : Int) (hz : z1 = 3) (k : am_wp sc 16 63 [.inr (.inl 0), .inl z1] [] σ Q) : am_wp sc 16 0 [.inr (.inl 0), .inl z1] [] σ Q := by
  refine am_wn rfl ?_
  exact ar_sw hz rfl k
theorem b_16_0_c4 {sc : Int → Int} {σ : St} {Q : Ou → St → Nat → Prop} (z1 : Int) (hz : z1 = 4) (k : am_wp sc 16 72 [.inr (.inl 0), .inl z1] [] σ Q) : am_wp sc 16 0 [.inr (.inl 0), .inl z1] [] σ Q := by
  refine am_wn rfl ?_
  exact ar_sw hz rfl k
theorem b_16_0_c5 {sc : Int → Int} {σ : St} {Q : Ou → St → Nat → Prop} (z1 : Int) (hz : z1 = 5) (k : am_wp sc 16 77 [.inr (.inl 0), .inl z1] [] σ Q) : am_wp sc 16 0 [.inr (.inl 0), .inl z1] [] σ Q := by
  refine am_wn rfl ?_
  exact ar_sw hz rfl k
theorem b_16_0_c6 {sc : Int → Int} {σ : St} {Q : Ou → St → Nat → Prop} (z1 : Int) (hz : z1 = 6) (k : am_wp sc 16 82 [.inr (.inl 0), .inl z1] [] σ Q) : am_wp sc 16 0 [.inr (.inl 0), .inl z1] [] σ Q := by
  refine am_wn rfl ?_
  exact ar_sw hz rfl k
theorem b_16_0_d {sc : Int → Int} {σ : St} {Q : Ou → St → Nat → Prop} (z1 : Int) (hz : z1 < 0 ∨ 7 ≤ z1) (k : am_wp sc 16 87 [.inr (.inl 0), .inl z1] [] σ Q) : am_wp sc 16 0 [.inr (.inl 0), .inl z1] [] σ Q := by
  refine am_wn rfl ?_
  exact ar_swd rfl hz k
theorem b_16_44 {sc : Int → Int} {σ : St} {Q : Ou → St → Nat → Prop} (z1 : Int) (k : Q (.inl (some (σ 31 0))) σ 0) : am_wp sc 16 44 [.inr (.inl 0), .inl z1] [] σ Q := by
  refine am_wn rfl ?_
  refine am_wn rfl ?_
  exact am_w60 rfl k
theorem b_16_49 {sc : Int → Int} {σ : St} {Q : Ou → St → Nat → Prop} (z1 : Int) (k : am_wp sc 31 0 [.inr (.inl 0), .inr (.inr 0)] [] σ (am_bk sc 16 50 [.inr (.inl 0), .inl z1] [] Q)) : am_wp sc 16 49 [.inr (.inl 0), .inl z1] [] σ Q := by
  refine am_wn rfl ?_
  exact am_wc rfl (by decide) (by decide) rfl k
theorem b_16_53 {sc : Int → Int} {σ : St} {Q : Ou → St → Nat → Prop} (z1 : Int) (k : Q (.inl (some (σ 35 0))) σ 0) : am_wp sc 16 53 [.inr (.inl 0), .inl z1] [] σ Q := by
  refine am_wn rfl ?_
  refine am_wn rfl ?_
  exact am_w60 rfl k
theorem b_16_58 {sc : Int → Int} {σ : St} {Q : Ou → St → Nat → Prop} (z1 : Int) (k : Q (.inl (some (σ 30 0))) σ 0) : am_wp sc 16 58 [.inr (.inl 0), .inl z1] [] σ Q := by
  refine am_wn rfl ?_
  refine am_wn rfl ?_
  exact am_w60 rfl k
theorem b_16_63 {sc : Int → Int} {σ : St} {Q : Ou → St → Nat → Prop} (z1 : Int) (k : am_wp sc 31 0 [.inr (.inl 0), .inr (.inr 0)] [] σ (am_bk sc 16 64 [.inr (.inl 0), .inl z1] [] Q)) : am_wp sc 16 63 [.inr (.inl 0), .inl z1] [] σ Q := by
  refine am_wn rfl ?_
  exact am_wc rfl (by decide) (by decide) rfl k
theorem b_16_67 {sc : Int → Int} {σ : St} {Q : Ou → St → Nat → Prop} (z1 : Int) (k : am_wp sc 35 0 [.inr (.inl 0), .inr (.inr 0), .inr (.inr 0)] [] σ (am_bk sc 16 68 [.inr (.inl 0), .inl z1] [] Q)) : am_wp sc 16 67 [.inr (.inl 0), .inl z1] [] σ Q := by
  refine am_wn rfl ?_
  exact am_wc rfl (by decide) (by decide) rfl k
theorem b_16_71 {sc : Int → Int} {σ : St} {Q : Ou → St → Nat → Prop} (z1 : Int) (s0 : Int) (k : Q (.inl (some s0)) σ 0) : am_wp sc 16 71 [.inr (.inl 0), .inl z1] [.inl s0] σ Q := by
  exact am_w60 rfl k
theorem b_16_72 {sc : Int → Int} {σ : St} {Q : Ou → St → Nat → Prop} (z1 : Int) (k : Q (.inl (some (σ 32 0))) σ 0) : am_wp sc 16 72 [.inr (.inl 0), .inl z1] [] σ Q := by
  refine am_wn rfl ?_
  refine am_wn rfl ?_
  exact am_w60 rfl k
theorem b_16_77 {sc : Int → Int} {σ : St} {Q : Ou → St → Nat → Prop} (z1 : Int) (k : Q (.inl (some (σ 33 0))) σ 0) : am_wp sc 16 77 [.inr (.inl 0), .inl z1] [] σ Q := by
  refine am_wn rfl ?_
  refine am_wn rfl ?_
  exact am_w60 rfl k
theorem b_16_82 {sc : Int → Int} {σ : St} {Q : Ou → St → Nat → Prop} (z1 : Int) (k : Q (.inl (some (σ 34 0))) σ 0) : am_wp sc 16 82 [.inr (.inl 0), .inl z1] [] σ Q := by
  refine am_wn rfl ?_
  refine am_wn rfl ?_
  exact am_w60 rfl k
theorem b_16_87 {sc : Int → Int} {σ : St} {Q : Ou → St → Nat → Prop} (z1 : Int) (k : Q (.inr 0) σ 1) : am_wp sc 16 87 [.inr (.inl 0), .inl z1] [] σ Q := by
  exact am_w63 rfl k
/-! SlidingHeap.clear -/
theorem b_17_0 {sc : Int → Int} {σ : St} {Q : Ou → St → Nat → Prop} (v1 : AV) (k : am_wp sc 17 2 [.inr (.inl 0), .inl 1] [] σ Q) : am_wp sc 17 0 [.inr (.inl 0), v1] [] σ Q := by
  refine am_wn rfl ?_
  refine am_wn rfl ?_
  exact k
theorem b_17_2 {sc : Int → Int} {σ : St} {Q : Ou → St → Nat → Prop} (z1 : Int) (k1 : (14 < z1) → am_wp sc 17 19 [.inr (.inl 0), .inl z1] [] σ Q) (k2 : ¬ (14 < z1) → am_wp sc 17 8 [.inr (.inl 0), .inl z1] [] σ Q) : am_wp sc 17 2 [.inr (.inl 0), .inl z1] [] σ Q := by
  refine am_wn rfl ?_
  refine am_wn rfl ?_
  exact ar_br (c := 14 < z1) rfl k1 k2
theorem b_17_8 {sc : Int → Int} {σ : St} {Q : Ou → St → Nat → Prop} (z1 : Int) (k : am_wp sc 28 0 [.inr (.inl 0), .inl z1] [] σ (am_bk sc 17 10 [.inr (.inl 0), .inl z1] [] Q)) : am_wp sc 17 8 [.inr (.inl 0), .inl z1] [] σ Q := by
  refine am_wn rfl ?_
  refine am_wn rfl ?_
  exact am_wc rfl (by decide) (by decide) rfl k
theorem b_17_13 {sc : Int → Int} {σ : St} {Q : Ou → St → Nat → Prop} (z1 : Int) (h0 : am_R (z1 + 1)) (k : am_wp sc 17 2 [.inr (.inl 0), .inl (z1 + 1)] [] σ Q) : am_wp sc 17 13 [.inr (.inl 0), .inl z1] [] σ Q := by
  refine ar_inc (L' := [.inr (.inl 0), .inl (z1 + 1)]) rfl rfl h0 rfl ?_
  refine am_wn rfl ?_
  exact k
theorem b_17_19 {sc : Int → Int} {σ : St} {Q : Ou → St → Nat → Prop} (z1 : Int) (k : am_wp sc 40 0 [.inr (.inl 0), .inl 0, .inl (σ 30 0), .inr (.inr 0)] [] σ (am_bk sc 17 25 [.inr (.inl 0), .inl z1] [] Q)) : am_wp sc 17 19 [.inr (.inl 0), .inl z1] [] σ Q := by
  refine am_wn rfl ?_
  refine am_wn rfl ?_
  refine am_wn rfl ?_
  refine am_wn rfl ?_
  exact am_wc rfl (by decide) (by decide) rfl k
theorem b_17_28 {sc : Int → Int} {σ : St} {Q : Ou → St → Nat → Prop} (z1 : Int) (k : Q (.inl none) (am_up (am_up (am_up (am_up (am_up σ 30 0 0) 31 0 0) 32 0 0) 33 0 0) 34 0 0) 0) : am_wp sc 17 28 [.inr (.inl 0), .inl z1] [] σ Q := by
  refine am_wn rfl ?_
  refine am_wn rfl ?_
  refine am_wn rfl ?_
  refine am_wn rfl ?_
  refine am_wn rfl ?_
  refine am_wn rfl ?_
  refine am_wn rfl ?_
  refine am_wn rfl ?_
  refine am_wn rfl ?_
  refine am_wn rfl ?_
  refine am_wn rfl ?_
  refine am_wn rfl ?_
  refine am_wn rfl ?_
  refine am_wn rfl ?_
  refine am_wn rfl ?_
  exact am_w62 rfl k
/-! SlidingHeap.requireObject -/
theorem b_18_0 {sc : Int → Int} {σ : St} {Q : Ou → St → Nat → Prop} (z1 : Int) (k : am_wp sc 20 0 [.inr (.inl 0), .inl z1] [] σ (am_bk sc 18 2 [.inr (.inl 0), .inl z1] [] Q)) : am_wp sc 18 0 [.inr (.inl 0), .inl z1] [] σ Q := by
  refine am_wn rfl ?_
  refine am_wn rfl ?_
  exact am_wc rfl (by decide) (by decide) rfl k
theorem b_18_5 {sc : Int → Int} {σ : St} {Q : Ou → St → Nat → Prop} (z1 : Int) (s0 : Int) (k1 : (s0 ≠ 0) → am_wp sc 18 16 [.inr (.inl 0), .inl z1] [] σ Q) (k2 : ¬ (s0 ≠ 0) → am_wp sc 18 8 [.inr (.inl 0), .inl z1] [] σ Q) : am_wp sc 18 5 [.inr (.inl 0), .inl z1] [.inl s0] σ Q := by
  exact ar_br (c := s0 ≠ 0) rfl k1 k2
theorem b_18_8 {sc : Int → Int} {σ : St} {Q : Ou → St → Nat → Prop} (z1 : Int) (k : Q (.inr 3) σ 1) : am_wp sc 18 8 [.inr (.inl 0), .inl z1] [] σ Q := by
  exact am_w63 rfl k
theorem b_18_16 {sc : Int → Int} {σ : St} {Q : Ou → St → Nat → Prop} (z1 : Int) (k : Q (.inl none) σ 0) : am_wp sc 18 16 [.inr (.inl 0), .inl z1] [] σ Q := by
  exact am_w62 rfl k
/-! SlidingHeap.requireSlot -/
theorem b_19_0 {sc : Int → Int} {σ : St} {Q : Ou → St → Nat → Prop} (z1 : Int) (z2 : Int) (k : am_wp sc 18 0 [.inr (.inl 0), .inl z1] [] σ (am_bk sc 19 2 [.inr (.inl 0), .inl z1, .inl z2] [] Q)) : am_wp sc 19 0 [.inr (.inl 0), .inl z1, .inl z2] [] σ Q := by
  refine am_wn rfl ?_
  refine am_wn rfl ?_
  exact am_wc rfl (by decide) (by decide) rfl k
theorem b_19_5 {sc : Int → Int} {σ : St} {Q : Ou → St → Nat → Prop} (z1 : Int) (z2 : Int) (k1 : (z2 < 0) → am_wp sc 19 19 [.inr (.inl 0), .inl z1, .inl z2] [] σ Q) (k2 : ¬ (z2 < 0) → am_wp sc 19 9 [.inr (.inl 0), .inl z1, .inl z2] [] σ Q) : am_wp sc 19 5 [.inr (.inl 0), .inl z1, .inl z2] [] σ Q := by
  refine am_wn rfl ?_
  exact ar_br (c := z2 < 0) rfl k1 k2
theorem b_19_9 {sc : Int → Int} {σ : St} {Q : Ou → St → Nat → Prop} (z1 : Int) (z2 : Int) (h0 : 0 ≤ z1 ∧ z1 < 15) (k1 : (z2 < (σ 5 z1)) → am_wp sc 19 27 [.inr (.inl 0), .inl z1, .inl z2] [] σ Q) (k2 : ¬ (z2 < (σ 5 z1)) → am_wp sc 19 19 [.inr (.inl 0), .inl z1, .inl z2] [] σ Q) : am_wp sc 19 9 [.inr (.inl 0), .inl z1, .inl z2] [] σ Q := by
  refine am_wn rfl ?_
  refine am_wn rfl ?_
  refine am_wn rfl ?_
  refine am_wn rfl ?_
  refine ar_iald rfl rfl h0 ?_
  exact ar_br (c := z2 < (σ 5 z1)) rfl k1 k2
theorem b_19_19 {sc : Int → Int} {σ : St} {Q : Ou → St → Nat → Prop} (z1 : Int) (z2 : Int) (k : Q (.inr 3) σ 1) : am_wp sc 19 19 [.inr (.inl 0), .inl z1, .inl z2] [] σ Q := by
  exact am_w63 rfl k
theorem b_19_27 {sc : Int → Int} {σ : St} {Q : Ou → St → Nat → Prop} (z1 : Int) (z2 : Int) (k : Q (.inl none) σ 0) : am_wp sc 19 27 [.inr (.inl 0), .inl z1, .inl z2] [] σ Q := by
  exact am_w62 rfl k
/-! SlidingHeap.isObject -/
theorem b_20_0 {sc : Int → Int} {σ : St} {Q : Ou → St → Nat → Prop} (z1 : Int) (k1 : (z1 < 1) → am_wp sc 20 25 [.inr (.inl 0), .inl z1] [] σ Q) (k2 : ¬ (z1 < 1) → am_wp sc 20 5 [.inr (.inl 0), .inl z1] [] σ Q) : am_wp sc 20 0 [.inr (.inl 0), .inl z1] [] σ Q := by
  refine am_wn rfl ?_
  refine am_wn rfl ?_
  exact ar_br (c := z1 < 1) rfl k1 k2
theorem b_20_5 {sc : Int → Int} {σ : St} {Q : Ou → St → Nat → Prop} (z1 : Int) (k1 : (14 < z1) → am_wp sc 20 25 [.inr (.inl 0), .inl z1] [] σ Q) (k2 : ¬ (14 < z1) → am_wp sc 20 11 [.inr (.inl 0), .inl z1] [] σ Q) : am_wp sc 20 5 [.inr (.inl 0), .inl z1] [] σ Q := by
  refine am_wn rfl ?_
  refine am_wn rfl ?_
  exact ar_br (c := 14 < z1) rfl k1 k2
theorem b_20_11 {sc : Int → Int} {σ : St} {Q : Ou → St → Nat → Prop} (z1 : Int) (h0 : 0 ≤ z1 ∧ z1 < 15) (k1 : ((σ 4 z1) = (-1)) → am_wp sc 20 25 [.inr (.inl 0), .inl z1] [] σ Q) (k2 : ¬ ((σ 4 z1) = (-1)) → am_wp sc 20 21 [.inr (.inl 0), .inl z1] [] σ Q) : am_wp sc 20 11 [.inr (.inl 0), .inl z1] [] σ Q := by
  refine am_wn rfl ?_
  refine am_wn rfl ?_
  refine am_wn rfl ?_
  refine ar_iald rfl rfl h0 ?_
  refine am_wn rfl ?_
  exact ar_br (c := (σ 4 z1) = (-1)) rfl k1 k2
theorem b_20_21 {sc : Int → Int} {σ : St} {Q : Ou → St → Nat → Prop} (z1 : Int) (k : am_wp sc 20 26 [.inr (.inl 0), .inl z1] [.inl 1] σ Q) : am_wp sc 20 21 [.inr (.inl 0), .inl z1] [] σ Q := by
  refine am_wn rfl ?_
  refine am_wn rfl ?_
  exact k
theorem b_20_25 {sc : Int → Int} {σ : St} {Q : Ou → St → Nat → Prop} (z1 : Int) (k : am_wp sc 20 26 [.inr (.inl 0), .inl z1] [.inl 0] σ Q) : am_wp sc 20 25 [.inr (.inl 0), .inl z1] [] σ Q := by
  refine am_wn rfl ?_
  exact k
theorem b_20_26 {sc : Int → Int} {σ : St} {Q : Ou → St → Nat → Prop} (z1 : Int) (s0 : Int) (h0 : s0 = 0 ∨ s0 = 1) (k : Q (.inl (some s0)) σ 0) : am_wp sc 20 26 [.inr (.inl 0), .inl z1] [.inl s0] σ Q := by
  exact am_w61 rfl h0 k
/-! SlidingHeap.firstSlot -/
theorem b_21_0 {sc : Int → Int} {σ : St} {Q : Ou → St → Nat → Prop} (z1 : Int) (h0 : 0 ≤ z1 ∧ z1 < 15) (h1 : am_R ((σ 4 z1) + 2)) (k : Q (.inl (some ((σ 4 z1) + 2))) σ 0) : am_wp sc 21 0 [.inr (.inl 0), .inl z1] [] σ Q := by
  refine am_wn rfl ?_
  refine am_wn rfl ?_
  refine am_wn rfl ?_
  refine ar_iald rfl rfl h0 ?_
  refine am_wn rfl ?_
  refine ar_add rfl h1 ?_
  exact am_w60 rfl k
/-! SlidingHeap.sizeOf -/
theorem b_22_0 {sc : Int → Int} {σ : St} {Q : Ou → St → Nat → Prop} (z1 : Int) (h0 : 0 ≤ z1 ∧ z1 < 15) (h1 : am_R ((σ 5 z1) + 2)) (k : Q (.inl (some ((σ 5 z1) + 2))) σ 0) : am_wp sc 22 0 [.inr (.inl 0), .inl z1] [] σ Q := by
  refine am_wn rfl ?_
  refine am_wn rfl ?_
  refine am_wn rfl ?_
  refine ar_iald rfl rfl h0 ?_
  refine am_wn rfl ?_
  refine ar_add rfl h1 ?_
  exact am_w60 rfl k
/-! SlidingHeap.endOf -/
theorem b_23_0 {sc : Int → Int} {σ : St} {Q : Ou → St → Nat → Prop} (z1 : Int) (h0 : 0 ≤ z1 ∧ z1 < 15) (k : am_wp sc 22 0 [.inr (.inl 0), .inl z1] [] σ (am_bk sc 23 8 [.inr (.inl 0), .inl z1] [.inl (σ 4 z1)] Q)) : am_wp sc 23 0 [.inr (.inl 0), .inl z1] [] σ Q := by
  refine am_wn rfl ?_
  refine am_wn rfl ?_
  refine am_wn rfl ?_
  refine ar_iald rfl rfl h0 ?_
  refine am_wn rfl ?_
  refine am_wn rfl ?_
  exact am_wc rfl (by decide) (by decide) rfl k
theorem b_23_11 {sc : Int → Int} {σ : St} {Q : Ou → St → Nat → Prop} (z1 : Int) (s0 : Int) (s1 : Int) (h0 : am_R (s0 + s1)) (k : Q (.inl (some (s0 + s1))) σ 0) : am_wp sc 23 11 [.inr (.inl 0), .inl z1] [.inl s1, .inl s0] σ Q := by
  refine ar_add rfl h0 ?_
  exact am_w60 rfl k
end
section
/-! SlidingHeap.setSlot -/
theorem b_24_0 {sc : Int → Int} {σ : St} {Q : Ou → St → Nat → Prop} (z1 : Int) (z2 : Int) (z3 : Int) (z4 : Int) (v5 : AV) (k : am_wp sc 21 0 [.inr (.inl 0), .inl z1] [] σ (am_bk sc 24 2 [.inr (.inl 0), .inl z1, .inl z2, .inl z3, .inl z4, v5] [] Q)) : am_wp sc 24 0 [.inr (.inl 0), .inl z1, .inl z2, .inl z3, .inl z4, v5] [] σ Q := by
  refine am_wn rfl ?_
  refine am_wn rfl ?_
  exact am_wc rfl (by decide) (by decide) rfl k
theorem b_24_5 {sc : Int → Int} {σ : St} {Q : Ou → St → Nat → Prop} (z1 : Int) (z2 : Int) (z3 : Int) (z4 : Int) (v5 : AV) (s0 : Int) (h0 : am_R (s0 + z2)) (h1 : 0 ≤ (s0 + z2) ∧ (s0 + z2) < 90) (h2 : 0 ≤ (s0 + z2) ∧ (s0 + z2) < 90) (k : Q (.inl none) (am_up (am_up σ 3 (s0 + z2) z3) 2 (s0 + z2) z4) 0) : am_wp sc 24 5 [.inr (.inl 0), .inl z1, .inl z2, .inl z3, .inl z4, v5] [.inl s0] σ Q := by
  refine am_wn rfl ?_
  refine ar_add rfl h0 ?_
  refine am_wn rfl ?_
  refine am_wn rfl ?_
  refine am_wn rfl ?_
  refine am_wn rfl ?_
  refine am_wn rfl ?_
  refine ar_iast rfl rfl h1 ?_
  refine am_wn rfl ?_
  refine am_wn rfl ?_
  refine am_wn rfl ?_
  refine am_wn rfl ?_
  refine ar_iast rfl rfl h2 ?_
  exact am_w62 rfl k
/-! SlidingHeap.fits -/
theorem b_25_0 {sc : Int → Int} {σ : St} {Q : Ou → St → Nat → Prop} (z0 : Int) (z1 : Int) (z2 : Int) (k1 : (14 ≤ z1) → am_wp sc 25 20 [.inl z0, .inl z1, .inl z2] [] σ Q) (k2 : ¬ (14 ≤ z1) → am_wp sc 25 6 [.inl z0, .inl z1, .inl z2] [] σ Q) : am_wp sc 25 0 [.inl z0, .inl z1, .inl z2] [] σ Q := by
  refine am_wn rfl ?_
  refine am_wn rfl ?_
  exact ar_br (c := 14 ≤ z1) rfl k1 k2
theorem b_25_6 {sc : Int → Int} {σ : St} {Q : Ou → St → Nat → Prop} (z0 : Int) (z1 : Int) (z2 : Int) (h0 : am_R (z2 + 2)) (h1 : am_R ((z2 + 2) + z0)) (k1 : (90 < ((z2 + 2) + z0)) → am_wp sc 25 20 [.inl z0, .inl z1, .inl z2] [] σ Q) (k2 : ¬ (90 < ((z2 + 2) + z0)) → am_wp sc 25 16 [.inl z0, .inl z1, .inl z2] [] σ Q) : am_wp sc 25 6 [.inl z0, .inl z1, .inl z2] [] σ Q := by
  refine am_wn rfl ?_
  refine am_wn rfl ?_
  refine ar_add rfl h0 ?_
  refine am_wn rfl ?_
  refine ar_add rfl h1 ?_
  refine am_wn rfl ?_
  exact ar_br (c := 90 < ((z2 + 2) + z0)) rfl k1 k2
theorem b_25_16 {sc : Int → Int} {σ : St} {Q : Ou → St → Nat → Prop} (z0 : Int) (z1 : Int) (z2 : Int) (k : am_wp sc 25 21 [.inl z0, .inl z1, .inl z2] [.inl 1] σ Q) : am_wp sc 25 16 [.inl z0, .inl z1, .inl z2] [] σ Q := by
  refine am_wn rfl ?_
  refine am_wn rfl ?_
  exact k
theorem b_25_20 {sc : Int → Int} {σ : St} {Q : Ou → St → Nat → Prop} (z0 : Int) (z1 : Int) (z2 : Int) (k : am_wp sc 25 21 [.inl z0, .inl z1, .inl z2] [.inl 0] σ Q) : am_wp sc 25 20 [.inl z0, .inl z1, .inl z2] [] σ Q := by
  refine am_wn rfl ?_
  exact k
theorem b_25_21 {sc : Int → Int} {σ : St} {Q : Ou → St → Nat → Prop} (z0 : Int) (z1 : Int) (z2 : Int) (s0 : Int) (h0 : s0 = 0 ∨ s0 = 1) (k : Q (.inl (some s0)) σ 0) : am_wp sc 25 21 [.inl z0, .inl z1, .inl z2] [.inl s0] σ Q := by
  exact am_w61 rfl h0 k
/-! SlidingHeap.leastFreeHandle -/
theorem b_26_0 {sc : Int → Int} {σ : St} {Q : Ou → St → Nat → Prop} (v1 : AV) (k : am_wp sc 26 2 [.inr (.inl 0), .inl 1] [] σ Q) : am_wp sc 26 0 [.inr (.inl 0), v1] [] σ Q := by
  refine am_wn rfl ?_
  refine am_wn rfl ?_
  exact k
theorem b_26_2 {sc : Int → Int} {σ : St} {Q : Ou → St → Nat → Prop} (z1 : Int) (k1 : (14 ≤ z1) → am_wp sc 26 24 [.inr (.inl 0), .inl z1] [] σ Q) (k2 : ¬ (14 ≤ z1) → am_wp sc 26 8 [.inr (.inl 0), .inl z1] [] σ Q) : am_wp sc 26 2 [.inr (.inl 0), .inl z1] [] σ Q := by
  refine am_wn rfl ?_
  refine am_wn rfl ?_
  exact ar_br (c := 14 ≤ z1) rfl k1 k2
theorem b_26_8 {sc : Int → Int} {σ : St} {Q : Ou → St → Nat → Prop} (z1 : Int) (h0 : 0 ≤ z1 ∧ z1 < 15) (k1 : ((σ 4 z1) = (-1)) → am_wp sc 26 24 [.inr (.inl 0), .inl z1] [] σ Q) (k2 : ¬ ((σ 4 z1) = (-1)) → am_wp sc 26 18 [.inr (.inl 0), .inl z1] [] σ Q) : am_wp sc 26 8 [.inr (.inl 0), .inl z1] [] σ Q := by
  refine am_wn rfl ?_
  refine am_wn rfl ?_
  refine am_wn rfl ?_
  refine ar_iald rfl rfl h0 ?_
  refine am_wn rfl ?_
  exact ar_br (c := (σ 4 z1) = (-1)) rfl k1 k2
theorem b_26_18 {sc : Int → Int} {σ : St} {Q : Ou → St → Nat → Prop} (z1 : Int) (h0 : am_R (z1 + 1)) (k : am_wp sc 26 2 [.inr (.inl 0), .inl (z1 + 1)] [] σ Q) : am_wp sc 26 18 [.inr (.inl 0), .inl z1] [] σ Q := by
  refine ar_inc (L' := [.inr (.inl 0), .inl (z1 + 1)]) rfl rfl h0 rfl ?_
  refine am_wn rfl ?_
  exact k
theorem b_26_24 {sc : Int → Int} {σ : St} {Q : Ou → St → Nat → Prop} (z1 : Int) (k : Q (.inl (some z1)) σ 0) : am_wp sc 26 24 [.inr (.inl 0), .inl z1] [] σ Q := by
  refine am_wn rfl ?_
  exact am_w60 rfl k
/-! SlidingHeap.place -/
theorem b_27_0 {sc : Int → Int} {σ : St} {Q : Ou → St → Nat → Prop} (z1 : Int) (z2 : Int) (h0 : 0 ≤ z1 ∧ z1 < 15) (h1 : 0 ≤ z1 ∧ z1 < 15) (h2 : 0 ≤ (σ 30 0) ∧ (σ 30 0) < 90) (h3 : am_R ((σ 30 0) + 1)) (h4 : 0 ≤ ((σ 30 0) + 1) ∧ ((σ 30 0) + 1) < 90) (k : am_wp sc 22 0 [.inr (.inl 0), .inl z1] [] (am_up (am_up (am_up (am_up σ 4 z1 (σ 30 0)) 5 z1 z2) 2 (σ 30 0) z2) 2 ((σ 30 0) + 1) z1) (am_bk sc 27 46 [.inr (.inl 0), .inl z1, .inl z2] [.inl (σ 30 0), .inr (.inl 0)] Q)) : am_wp sc 27 0 [.inr (.inl 0), .inl z1, .inl z2] [] σ Q := by
  refine am_wn rfl ?_
  refine am_wn rfl ?_
  refine am_wn rfl ?_
  refine am_wn rfl ?_
  refine am_wn rfl ?_
  refine ar_iast rfl rfl h0 ?_
  refine am_wn rfl ?_
  refine am_wn rfl ?_
  refine am_wn rfl ?_
  refine am_wn rfl ?_
  refine ar_iast rfl rfl h1 ?_
  refine am_wn rfl ?_
  refine am_wn rfl ?_
  refine am_wn rfl ?_
  refine am_wn rfl ?_
  refine am_wn rfl ?_
  refine ar_iast rfl rfl h2 ?_
  refine am_wn rfl ?_
  refine am_wn rfl ?_
  refine am_wn rfl ?_
  refine am_wn rfl ?_
  refine am_wn rfl ?_
  refine ar_add rfl h3 ?_
  refine am_wn rfl ?_
  refine ar_iast rfl rfl h4 ?_
  refine am_wn rfl ?_
  refine am_wn rfl ?_
  refine am_wn rfl ?_
  refine am_wn rfl ?_
  refine am_wn rfl ?_
  exact am_wc rfl (by decide) (by decide) rfl k
theorem b_27_49 {sc : Int → Int} {σ : St} {Q : Ou → St → Nat → Prop} (z1 : Int) (z2 : Int) (s1 : Int) (s2 : Int) (h0 : am_R (s1 + s2)) (h1 : 0 ≤ (σ 31 0) ∧ (σ 31 0) < 14) (h2 : am_R ((σ 31 0) + 1)) (k : Q (.inl none) (am_up (am_up (am_up σ 30 0 (s1 + s2)) 8 (σ 31 0) z1) 31 0 ((σ 31 0) + 1)) 0) : am_wp sc 27 49 [.inr (.inl 0), .inl z1, .inl z2] [.inl s2, .inl s1, .inr (.inl 0)] σ Q := by
  refine ar_add rfl h0 ?_
  refine am_wn rfl ?_
  refine am_wn rfl ?_
  refine am_wn rfl ?_
  refine am_wn rfl ?_
  refine am_wn rfl ?_
  refine am_wn rfl ?_
  refine ar_iast rfl rfl h1 ?_
  refine am_wn rfl ?_
  refine am_wn rfl ?_
  refine am_wn rfl ?_
  refine am_wn rfl ?_
  refine ar_add rfl h2 ?_
  refine am_wn rfl ?_
  exact am_w62 rfl k
/-! SlidingHeap.release -/
theorem b_28_0 {sc : Int → Int} {σ : St} {Q : Ou → St → Nat → Prop} (z1 : Int) (h0 : 0 ≤ z1 ∧ z1 < 15) (h1 : 0 ≤ z1 ∧ z1 < 15) (h2 : 0 ≤ z1 ∧ z1 < 15) (h3 : 0 ≤ z1 ∧ z1 < 15) (k : Q (.inl none) (am_up (am_up (am_up (am_up σ 4 z1 (-1)) 5 z1 0) 6 z1 0) 7 z1 0) 0) : am_wp sc 28 0 [.inr (.inl 0), .inl z1] [] σ Q := by
  refine am_wn rfl ?_
  refine am_wn rfl ?_
  refine am_wn rfl ?_
  refine am_wn rfl ?_
  refine ar_iast rfl rfl h0 ?_
  refine am_wn rfl ?_
  refine am_wn rfl ?_
  refine am_wn rfl ?_
  refine am_wn rfl ?_
  refine ar_iast rfl rfl h1 ?_
  refine am_wn rfl ?_
  refine am_wn rfl ?_
  refine am_wn rfl ?_
  refine am_wn rfl ?_
  refine ar_iast rfl rfl h2 ?_
  refine am_wn rfl ?_
  refine am_wn rfl ?_
  refine am_wn rfl ?_
  refine am_wn rfl ?_
  refine ar_bast rfl rfl h3 (Or.inl rfl) ?_
  exact am_w62 rfl k
/-! SlidingHeap.addRoot -/
theorem b_29_0 {sc : Int → Int} {σ : St} {Q : Ou → St → Nat → Prop} (z1 : Int) (h0 : 0 ≤ (σ 32 0) ∧ (σ 32 0) < 10) (h1 : am_R ((σ 32 0) + 1)) (k : Q (.inl none) (am_up (am_up σ 9 (σ 32 0) z1) 32 0 ((σ 32 0) + 1)) 0) : am_wp sc 29 0 [.inr (.inl 0), .inl z1] [] σ Q := by
  refine am_wn rfl ?_
  refine am_wn rfl ?_
  refine am_wn rfl ?_
  refine am_wn rfl ?_
  refine am_wn rfl ?_
  refine ar_iast rfl rfl h0 ?_
  refine am_wn rfl ?_
  refine am_wn rfl ?_
  refine am_wn rfl ?_
  refine am_wn rfl ?_
  refine ar_add rfl h1 ?_
  refine am_wn rfl ?_
  exact am_w62 rfl k
/-! SlidingHeap.removeFirstQueued -/
theorem b_30_0 {sc : Int → Int} {σ : St} {Q : Ou → St → Nat → Prop} (v1 : AV) (v2 : AV) (h0 : 0 ≤ (0 : Int) ∧ (0 : Int) < 14) (h1 : am_R ((σ 33 0) - 1)) (k : am_wp sc 30 19 [.inr (.inl 0), .inl (σ 10 0), .inl 0] [] (am_up σ 33 0 ((σ 33 0) - 1)) Q) : am_wp sc 30 0 [.inr (.inl 0), v1, v2] [] σ Q := by
  refine am_wn rfl ?_
  refine am_wn rfl ?_
  refine am_wn rfl ?_
  refine ar_iald rfl rfl h0 ?_
  refine am_wn rfl ?_
  refine am_wn rfl ?_
  refine am_wn rfl ?_
  refine am_wn rfl ?_
  refine am_wn rfl ?_
  refine ar_sub rfl h1 ?_
  refine am_wn rfl ?_
  refine am_wn rfl ?_
  refine am_wn rfl ?_
  exact k
theorem b_30_19 {sc : Int → Int} {σ : St} {Q : Ou → St → Nat → Prop} (z1 : Int) (z2 : Int) (k1 : ((σ 33 0) ≤ z2) → am_wp sc 30 47 [.inr (.inl 0), .inl z1, .inl z2] [] σ Q) (k2 : ¬ ((σ 33 0) ≤ z2) → am_wp sc 30 27 [.inr (.inl 0), .inl z1, .inl z2] [] σ Q) : am_wp sc 30 19 [.inr (.inl 0), .inl z1, .inl z2] [] σ Q := by
  refine am_wn rfl ?_
  refine am_wn rfl ?_
  refine am_wn rfl ?_
  exact ar_br (c := (σ 33 0) ≤ z2) rfl k1 k2
theorem b_30_27 {sc : Int → Int} {σ : St} {Q : Ou → St → Nat → Prop} (z1 : Int) (z2 : Int) (h0 : am_R (z2 + 1)) (h1 : 0 ≤ (z2 + 1) ∧ (z2 + 1) < 14) (h2 : 0 ≤ z2 ∧ z2 < 14) (h3 : am_R (z2 + 1)) (k : am_wp sc 30 19 [.inr (.inl 0), .inl z1, .inl (z2 + 1)] [] (am_up σ 10 z2 (σ 10 (z2 + 1))) Q) : am_wp sc 30 27 [.inr (.inl 0), .inl z1, .inl z2] [] σ Q := by
  refine am_wn rfl ?_
  refine am_wn rfl ?_
  refine am_wn rfl ?_
  refine am_wn rfl ?_
  refine am_wn rfl ?_
  refine am_wn rfl ?_
  refine am_wn rfl ?_
  refine ar_add rfl h0 ?_
  refine ar_iald rfl rfl h1 ?_
  refine ar_iast rfl rfl h2 ?_
  refine ar_inc (L' := [.inr (.inl 0), .inl z1, .inl (z2 + 1)]) rfl rfl h3 rfl ?_
  refine am_wn rfl ?_
  exact k
theorem b_30_47 {sc : Int → Int} {σ : St} {Q : Ou → St → Nat → Prop} (z1 : Int) (z2 : Int) (k : Q (.inl (some z1)) σ 0) : am_wp sc 30 47 [.inr (.inl 0), .inl z1, .inl z2] [] σ Q := by
  refine am_wn rfl ?_
  exact am_w60 rfl k
/-! SlidingHeap.markLive -/
theorem b_31_0 {sc : Int → Int} {σ : St} {Q : Ou → St → Nat → Prop} (v1 : AV) (k : am_wp sc 31 2 [.inr (.inl 0), .inl 1] [] σ Q) : am_wp sc 31 0 [.inr (.inl 0), v1] [] σ Q := by
  refine am_wn rfl ?_
  refine am_wn rfl ?_
  exact k
theorem b_31_2 {sc : Int → Int} {σ : St} {Q : Ou → St → Nat → Prop} (z1 : Int) (k1 : (14 < z1) → am_wp sc 31 21 [.inr (.inl 0), .inl z1] [] σ Q) (k2 : ¬ (14 < z1) → am_wp sc 31 8 [.inr (.inl 0), .inl z1] [] σ Q) : am_wp sc 31 2 [.inr (.inl 0), .inl z1] [] σ Q := by
  refine am_wn rfl ?_
  refine am_wn rfl ?_
  exact ar_br (c := 14 < z1) rfl k1 k2
theorem b_31_8 {sc : Int → Int} {σ : St} {Q : Ou → St → Nat → Prop} (z1 : Int) (h0 : 0 ≤ z1 ∧ z1 < 15) (h1 : am_R (z1 + 1)) (k : am_wp sc 31 2 [.inr (.inl 0), .inl (z1 + 1)] [] (am_up σ 11 z1 0) Q) : am_wp sc 31 8 [.inr (.inl 0), .inl z1] [] σ Q := by
  refine am_wn rfl ?_
  refine am_wn rfl ?_
  refine am_wn rfl ?_
  refine am_wn rfl ?_
  refine ar_bast rfl rfl h0 (Or.inl rfl) ?_
  refine ar_inc (L' := [.inr (.inl 0), .inl (z1 + 1)]) rfl rfl h1 rfl ?_
  refine am_wn rfl ?_
  exact k
theorem b_31_21 {sc : Int → Int} {σ : St} {Q : Ou → St → Nat → Prop} (z1 : Int) (k : am_wp sc 31 28 [.inr (.inl 0), .inl 0] [] (am_up σ 35 0 0) Q) : am_wp sc 31 21 [.inr (.inl 0), .inl z1] [] σ Q := by
  refine am_wn rfl ?_
  refine am_wn rfl ?_
  refine am_wn rfl ?_
  refine am_wn rfl ?_
  refine am_wn rfl ?_
  exact k
theorem b_31_28 {sc : Int → Int} {σ : St} {Q : Ou → St → Nat → Prop} (z1 : Int) (k1 : ((σ 32 0) ≤ z1) → am_wp sc 31 52 [.inr (.inl 0), .inl z1] [] σ Q) (k2 : ¬ ((σ 32 0) ≤ z1) → am_wp sc 31 36 [.inr (.inl 0), .inl z1] [] σ Q) : am_wp sc 31 28 [.inr (.inl 0), .inl z1] [] σ Q := by
  refine am_wn rfl ?_
  refine am_wn rfl ?_
  refine am_wn rfl ?_
  exact ar_br (c := (σ 32 0) ≤ z1) rfl k1 k2
theorem b_31_36 {sc : Int → Int} {σ : St} {Q : Ou → St → Nat → Prop} (z1 : Int) (h0 : 0 ≤ z1 ∧ z1 < 10) (k : am_wp sc 33 0 [.inr (.inl 0), .inl (σ 9 z1)] [] σ (am_bk sc 31 43 [.inr (.inl 0), .inl z1] [] Q)) : am_wp sc 31 36 [.inr (.inl 0), .inl z1] [] σ Q := by
  refine am_wn rfl ?_
  refine am_wn rfl ?_
  refine am_wn rfl ?_
  refine am_wn rfl ?_
  refine ar_iald rfl rfl h0 ?_
  exact am_wc rfl (by decide) (by decide) rfl k
theorem b_31_46 {sc : Int → Int} {σ : St} {Q : Ou → St → Nat → Prop} (z1 : Int) (h0 : am_R (z1 + 1)) (k : am_wp sc 31 28 [.inr (.inl 0), .inl (z1 + 1)] [] σ Q) : am_wp sc 31 46 [.inr (.inl 0), .inl z1] [] σ Q := by
  refine ar_inc (L' := [.inr (.inl 0), .inl (z1 + 1)]) rfl rfl h0 rfl ?_
  refine am_wn rfl ?_
  exact k
theorem b_31_52 {sc : Int → Int} {σ : St} {Q : Ou → St → Nat → Prop} (z1 : Int) (k : am_wp sc 31 54 [.inr (.inl 0), .inl 0] [] σ Q) : am_wp sc 31 52 [.inr (.inl 0), .inl z1] [] σ Q := by
  refine am_wn rfl ?_
  refine am_wn rfl ?_
  exact k
theorem b_31_54 {sc : Int → Int} {σ : St} {Q : Ou → St → Nat → Prop} (z1 : Int) (k1 : ((σ 33 0) ≤ z1) → am_wp sc 31 78 [.inr (.inl 0), .inl z1] [] σ Q) (k2 : ¬ ((σ 33 0) ≤ z1) → am_wp sc 31 62 [.inr (.inl 0), .inl z1] [] σ Q) : am_wp sc 31 54 [.inr (.inl 0), .inl z1] [] σ Q := by
  refine am_wn rfl ?_
  refine am_wn rfl ?_
  refine am_wn rfl ?_
  exact ar_br (c := (σ 33 0) ≤ z1) rfl k1 k2
theorem b_31_62 {sc : Int → Int} {σ : St} {Q : Ou → St → Nat → Prop} (z1 : Int) (h0 : 0 ≤ z1 ∧ z1 < 14) (k : am_wp sc 33 0 [.inr (.inl 0), .inl (σ 10 z1)] [] σ (am_bk sc 31 69 [.inr (.inl 0), .inl z1] [] Q)) : am_wp sc 31 62 [.inr (.inl 0), .inl z1] [] σ Q := by
  refine am_wn rfl ?_
  refine am_wn rfl ?_
  refine am_wn rfl ?_
  refine am_wn rfl ?_
  refine ar_iald rfl rfl h0 ?_
  exact am_wc rfl (by decide) (by decide) rfl k
theorem b_31_72 {sc : Int → Int} {σ : St} {Q : Ou → St → Nat → Prop} (z1 : Int) (h0 : am_R (z1 + 1)) (k : am_wp sc 31 54 [.inr (.inl 0), .inl (z1 + 1)] [] σ Q) : am_wp sc 31 72 [.inr (.inl 0), .inl z1] [] σ Q := by
  refine ar_inc (L' := [.inr (.inl 0), .inl (z1 + 1)]) rfl rfl h0 rfl ?_
  refine am_wn rfl ?_
  exact k
theorem b_31_78 {sc : Int → Int} {σ : St} {Q : Ou → St → Nat → Prop} (z1 : Int) (k : am_wp sc 34 0 [.inr (.inl 0), .inr (.inr 0), .inr (.inr 0), .inr (.inr 0)] [] σ (am_bk sc 31 79 [.inr (.inl 0), .inl z1] [] Q)) : am_wp sc 31 78 [.inr (.inl 0), .inl z1] [] σ Q := by
  refine am_wn rfl ?_
  exact am_wc rfl (by decide) (by decide) rfl k
theorem b_31_82 {sc : Int → Int} {σ : St} {Q : Ou → St → Nat → Prop} (z1 : Int) (k : Q (.inl none) σ 0) : am_wp sc 31 82 [.inr (.inl 0), .inl z1] [] σ Q := by
  exact am_w62 rfl k
/-! SlidingHeap.markSurvivors -/
theorem b_32_0 {sc : Int → Int} {σ : St} {Q : Ou → St → Nat → Prop} (v1 : AV) (k : am_wp sc 31 0 [.inr (.inl 0), .inr (.inr 0)] [] σ (am_bk sc 32 1 [.inr (.inl 0), v1] [] Q)) : am_wp sc 32 0 [.inr (.inl 0), v1] [] σ Q := by
  refine am_wn rfl ?_
  exact am_wc rfl (by decide) (by decide) rfl k
theorem b_32_4 {sc : Int → Int} {σ : St} {Q : Ou → St → Nat → Prop} (v1 : AV) (k : am_wp sc 32 6 [.inr (.inl 0), .inl 1] [] σ Q) : am_wp sc 32 4 [.inr (.inl 0), v1] [] σ Q := by
  refine am_wn rfl ?_
  refine am_wn rfl ?_
  exact k
theorem b_32_6 {sc : Int → Int} {σ : St} {Q : Ou → St → Nat → Prop} (z1 : Int) (k1 : (14 < z1) → am_wp sc 32 32 [.inr (.inl 0), .inl z1] [] σ Q) (k2 : ¬ (14 < z1) → am_wp sc 32 12 [.inr (.inl 0), .inl z1] [] σ Q) : am_wp sc 32 6 [.inr (.inl 0), .inl z1] [] σ Q := by
  refine am_wn rfl ?_
  refine am_wn rfl ?_
  exact ar_br (c := 14 < z1) rfl k1 k2
theorem b_32_12 {sc : Int → Int} {σ : St} {Q : Ou → St → Nat → Prop} (z1 : Int) (h0 : 0 ≤ z1 ∧ z1 < 15) (k1 : ((σ 7 z1) = 0) → am_wp sc 32 26 [.inr (.inl 0), .inl z1] [] σ Q) (k2 : ¬ ((σ 7 z1) = 0) → am_wp sc 32 21 [.inr (.inl 0), .inl z1] [] σ Q) : am_wp sc 32 12 [.inr (.inl 0), .inl z1] [] σ Q := by
  refine am_wn rfl ?_
  refine am_wn rfl ?_
  refine am_wn rfl ?_
  refine ar_bald rfl rfl h0 ?_
  exact ar_br (c := (σ 7 z1) = 0) rfl k1 k2
theorem b_32_21 {sc : Int → Int} {σ : St} {Q : Ou → St → Nat → Prop} (z1 : Int) (k : am_wp sc 33 0 [.inr (.inl 0), .inl z1] [] σ (am_bk sc 32 23 [.inr (.inl 0), .inl z1] [] Q)) : am_wp sc 32 21 [.inr (.inl 0), .inl z1] [] σ Q := by
  refine am_wn rfl ?_
  refine am_wn rfl ?_
  exact am_wc rfl (by decide) (by decide) rfl k
theorem b_32_26 {sc : Int → Int} {σ : St} {Q : Ou → St → Nat → Prop} (z1 : Int) (h0 : am_R (z1 + 1)) (k : am_wp sc 32 6 [.inr (.inl 0), .inl (z1 + 1)] [] σ Q) : am_wp sc 32 26 [.inr (.inl 0), .inl z1] [] σ Q := by
  refine ar_inc (L' := [.inr (.inl 0), .inl (z1 + 1)]) rfl rfl h0 rfl ?_
  refine am_wn rfl ?_
  exact k
theorem b_32_32 {sc : Int → Int} {σ : St} {Q : Ou → St → Nat → Prop} (z1 : Int) (k : am_wp sc 34 0 [.inr (.inl 0), .inr (.inr 0), .inr (.inr 0), .inr (.inr 0)] [] σ (am_bk sc 32 33 [.inr (.inl 0), .inl z1] [] Q)) : am_wp sc 32 32 [.inr (.inl 0), .inl z1] [] σ Q := by
  refine am_wn rfl ?_
  exact am_wc rfl (by decide) (by decide) rfl k
theorem b_32_36 {sc : Int → Int} {σ : St} {Q : Ou → St → Nat → Prop} (z1 : Int) (k : Q (.inl none) σ 0) : am_wp sc 32 36 [.inr (.inl 0), .inl z1] [] σ Q := by
  exact am_w62 rfl k
/-! SlidingHeap.mark -/
theorem b_33_0 {sc : Int → Int} {σ : St} {Q : Ou → St → Nat → Prop} (z1 : Int) (k : am_wp sc 20 0 [.inr (.inl 0), .inl z1] [] σ (am_bk sc 33 2 [.inr (.inl 0), .inl z1] [] Q)) : am_wp sc 33 0 [.inr (.inl 0), .inl z1] [] σ Q := by
  refine am_wn rfl ?_
  refine am_wn rfl ?_
  exact am_wc rfl (by decide) (by decide) rfl k
theorem b_33_5 {sc : Int → Int} {σ : St} {Q : Ou → St → Nat → Prop} (z1 : Int) (s0 : Int) (k1 : (s0 = 0) → am_wp sc 33 44 [.inr (.inl 0), .inl z1] [] σ Q) (k2 : ¬ (s0 = 0) → am_wp sc 33 8 [.inr (.inl 0), .inl z1] [] σ Q) : am_wp sc 33 5 [.inr (.inl 0), .inl z1] [.inl s0] σ Q := by
  exact ar_br (c := s0 = 0) rfl k1 k2
theorem b_33_8 {sc : Int → Int} {σ : St} {Q : Ou → St → Nat → Prop} (z1 : Int) (h0 : 0 ≤ z1 ∧ z1 < 15) (k1 : ((σ 11 z1) ≠ 0) → am_wp sc 33 44 [.inr (.inl 0), .inl z1] [] σ Q) (k2 : ¬ ((σ 11 z1) ≠ 0) → am_wp sc 33 17 [.inr (.inl 0), .inl z1] [] σ Q) : am_wp sc 33 8 [.inr (.inl 0), .inl z1] [] σ Q := by
  refine am_wn rfl ?_
  refine am_wn rfl ?_
  refine am_wn rfl ?_
  refine ar_bald rfl rfl h0 ?_
  exact ar_br (c := (σ 11 z1) ≠ 0) rfl k1 k2
theorem b_33_17 {sc : Int → Int} {σ : St} {Q : Ou → St → Nat → Prop} (z1 : Int) (h0 : 0 ≤ z1 ∧ z1 < 15) (h1 : 0 ≤ (σ 35 0) ∧ (σ 35 0) < 14) (h2 : am_R ((σ 35 0) + 1)) (k : am_wp sc 33 44 [.inr (.inl 0), .inl z1] [] (am_up (am_up (am_up σ 11 z1 1) 12 (σ 35 0) z1) 35 0 ((σ 35 0) + 1)) Q) : am_wp sc 33 17 [.inr (.inl 0), .inl z1] [] σ Q := by
  refine am_wn rfl ?_
  refine am_wn rfl ?_
  refine am_wn rfl ?_
  refine am_wn rfl ?_
  refine ar_bast rfl rfl h0 (Or.inr rfl) ?_
  refine am_wn rfl ?_
  refine am_wn rfl ?_
  refine am_wn rfl ?_
  refine am_wn rfl ?_
  refine am_wn rfl ?_
  refine ar_iast rfl rfl h1 ?_
  refine am_wn rfl ?_
  refine am_wn rfl ?_
  refine am_wn rfl ?_
  refine am_wn rfl ?_
  refine ar_add rfl h2 ?_
  refine am_wn rfl ?_
  exact k
theorem b_33_44 {sc : Int → Int} {σ : St} {Q : Ou → St → Nat → Prop} (z1 : Int) (k : Q (.inl none) σ 0) : am_wp sc 33 44 [.inr (.inl 0), .inl z1] [] σ Q := by
  exact am_w62 rfl k
/-! SlidingHeap.spreadMarks -/
theorem b_34_0 {sc : Int → Int} {σ : St} {Q : Ou → St → Nat → Prop} (v1 : AV) (v2 : AV) (v3 : AV) (k : am_wp sc 34 2 [.inr (.inl 0), .inl 0, v2, v3] [] σ Q) : am_wp sc 34 0 [.inr (.inl 0), v1, v2, v3] [] σ Q := by
  refine am_wn rfl ?_
  refine am_wn rfl ?_
  exact k
theorem b_34_2 {sc : Int → Int} {σ : St} {Q : Ou → St → Nat → Prop} (z1 : Int) (v2 : AV) (v3 : AV) (k1 : (14 ≤ z1) → am_wp sc 34 70 [.inr (.inl 0), .inl z1, v2, v3] [] σ Q) (k2 : ¬ (14 ≤ z1) → am_wp sc 34 8 [.inr (.inl 0), .inl z1, v2, v3] [] σ Q) : am_wp sc 34 2 [.inr (.inl 0), .inl z1, v2, v3] [] σ Q := by
  refine am_wn rfl ?_
  refine am_wn rfl ?_
  exact ar_br (c := 14 ≤ z1) rfl k1 k2
theorem b_34_8 {sc : Int → Int} {σ : St} {Q : Ou → St → Nat → Prop} (z1 : Int) (v2 : AV) (v3 : AV) (k1 : ((σ 35 0) ≤ z1) → am_wp sc 34 70 [.inr (.inl 0), .inl z1, v2, v3] [] σ Q) (k2 : ¬ ((σ 35 0) ≤ z1) → am_wp sc 34 16 [.inr (.inl 0), .inl z1, v2, v3] [] σ Q) : am_wp sc 34 8 [.inr (.inl 0), .inl z1, v2, v3] [] σ Q := by
  refine am_wn rfl ?_
  refine am_wn rfl ?_
  refine am_wn rfl ?_
  exact ar_br (c := (σ 35 0) ≤ z1) rfl k1 k2
theorem b_34_16 {sc : Int → Int} {σ : St} {Q : Ou → St → Nat → Prop} (z1 : Int) (v2 : AV) (v3 : AV) (h0 : 0 ≤ z1 ∧ z1 < 14) (k : am_wp sc 21 0 [.inr (.inl 0), .inl (σ 12 z1)] [] σ (am_bk sc 34 25 [.inr (.inl 0), .inl z1, .inl (σ 12 z1), v3] [] Q)) : am_wp sc 34 16 [.inr (.inl 0), .inl z1, v2, v3] [] σ Q := by
  refine am_wn rfl ?_
  refine am_wn rfl ?_
  refine am_wn rfl ?_
  refine ar_iald rfl rfl h0 ?_
  refine am_wn rfl ?_
  refine am_wn rfl ?_
  refine am_wn rfl ?_
  exact am_wc rfl (by decide) (by decide) rfl k
theorem b_34_28 {sc : Int → Int} {σ : St} {Q : Ou → St → Nat → Prop} (z1 : Int) (z2 : Int) (v3 : AV) (s0 : Int) (k : am_wp sc 34 29 [.inr (.inl 0), .inl z1, .inl z2, .inl s0] [] σ Q) : am_wp sc 34 28 [.inr (.inl 0), .inl z1, .inl z2, v3] [.inl s0] σ Q := by
  refine am_wn rfl ?_
  exact k
theorem b_34_29 {sc : Int → Int} {σ : St} {Q : Ou → St → Nat → Prop} (z1 : Int) (z2 : Int) (z3 : Int) (k : am_wp sc 23 0 [.inr (.inl 0), .inl z2] [] σ (am_bk sc 34 32 [.inr (.inl 0), .inl z1, .inl z2, .inl z3] [.inl z3] Q)) : am_wp sc 34 29 [.inr (.inl 0), .inl z1, .inl z2, .inl z3] [] σ Q := by
  refine am_wn rfl ?_
  refine am_wn rfl ?_
  refine am_wn rfl ?_
  exact am_wc rfl (by decide) (by decide) rfl k
theorem b_34_35 {sc : Int → Int} {σ : St} {Q : Ou → St → Nat → Prop} (z1 : Int) (z2 : Int) (z3 : Int) (s0 : Int) (s1 : Int) (k1 : (s1 ≤ s0) → am_wp sc 34 64 [.inr (.inl 0), .inl z1, .inl z2, .inl z3] [] σ Q) (k2 : ¬ (s1 ≤ s0) → am_wp sc 34 38 [.inr (.inl 0), .inl z1, .inl z2, .inl z3] [] σ Q) : am_wp sc 34 35 [.inr (.inl 0), .inl z1, .inl z2, .inl z3] [.inl s1, .inl s0] σ Q := by
  exact ar_br (c := s1 ≤ s0) rfl k1 k2
theorem b_34_38 {sc : Int → Int} {σ : St} {Q : Ou → St → Nat → Prop} (z1 : Int) (z2 : Int) (z3 : Int) (h0 : 0 ≤ z3 ∧ z3 < 90) (k1 : ((σ 3 z3) ≠ 1) → am_wp sc 34 58 [.inr (.inl 0), .inl z1, .inl z2, .inl z3] [] σ Q) (k2 : ¬ ((σ 3 z3) ≠ 1) → am_wp sc 34 48 [.inr (.inl 0), .inl z1, .inl z2, .inl z3] [] σ Q) : am_wp sc 34 38 [.inr (.inl 0), .inl z1, .inl z2, .inl z3] [] σ Q := by
  refine am_wn rfl ?_
  refine am_wn rfl ?_
  refine am_wn rfl ?_
  refine ar_iald rfl rfl h0 ?_
  refine am_wn rfl ?_
  exact ar_br (c := (σ 3 z3) ≠ 1) rfl k1 k2
theorem b_34_48 {sc : Int → Int} {σ : St} {Q : Ou → St → Nat → Prop} (z1 : Int) (z2 : Int) (z3 : Int) (h0 : 0 ≤ z3 ∧ z3 < 90) (k : am_wp sc 33 0 [.inr (.inl 0), .inl (σ 2 z3)] [] σ (am_bk sc 34 55 [.inr (.inl 0), .inl z1, .inl z2, .inl z3] [] Q)) : am_wp sc 34 48 [.inr (.inl 0), .inl z1, .inl z2, .inl z3] [] σ Q := by
  refine am_wn rfl ?_
  refine am_wn rfl ?_
  refine am_wn rfl ?_
  refine am_wn rfl ?_
  refine ar_iald rfl rfl h0 ?_
  exact am_wc rfl (by decide) (by decide) rfl k
theorem b_34_58 {sc : Int → Int} {σ : St} {Q : Ou → St → Nat → Prop} (z1 : Int) (z2 : Int) (z3 : Int) (h0 : am_R (z3 + 1)) (k : am_wp sc 34 29 [.inr (.inl 0), .inl z1, .inl z2, .inl (z3 + 1)] [] σ Q) : am_wp sc 34 58 [.inr (.inl 0), .inl z1, .inl z2, .inl z3] [] σ Q := by
  refine ar_inc (L' := [.inr (.inl 0), .inl z1, .inl z2, .inl (z3 + 1)]) rfl rfl h0 rfl ?_
  refine am_wn rfl ?_
  exact k
theorem b_34_64 {sc : Int → Int} {σ : St} {Q : Ou → St → Nat → Prop} (z1 : Int) (z2 : Int) (z3 : Int) (h0 : am_R (z1 + 1)) (k : am_wp sc 34 2 [.inr (.inl 0), .inl (z1 + 1), .inl z2, .inl z3] [] σ Q) : am_wp sc 34 64 [.inr (.inl 0), .inl z1, .inl z2, .inl z3] [] σ Q := by
  refine ar_inc (L' := [.inr (.inl 0), .inl (z1 + 1), .inl z2, .inl z3]) rfl rfl h0 rfl ?_
  refine am_wn rfl ?_
  exact k
theorem b_34_70 {sc : Int → Int} {σ : St} {Q : Ou → St → Nat → Prop} (z1 : Int) (v2 : AV) (v3 : AV) (k : Q (.inl none) σ 0) : am_wp sc 34 70 [.inr (.inl 0), .inl z1, v2, v3] [] σ Q := by
  exact am_w62 rfl k
/-! SlidingHeap.markedWords -/
theorem b_35_0 {sc : Int → Int} {σ : St} {Q : Ou → St → Nat → Prop} (v1 : AV) (v2 : AV) (k : am_wp sc 35 4 [.inr (.inl 0), .inl 0, .inl 0] [] σ Q) : am_wp sc 35 0 [.inr (.inl 0), v1, v2] [] σ Q := by
  refine am_wn rfl ?_
  refine am_wn rfl ?_
  refine am_wn rfl ?_
  refine am_wn rfl ?_
  exact k
theorem b_35_4 {sc : Int → Int} {σ : St} {Q : Ou → St → Nat → Prop} (z1 : Int) (z2 : Int) (k1 : ((σ 35 0) ≤ z2) → am_wp sc 35 31 [.inr (.inl 0), .inl z1, .inl z2] [] σ Q) (k2 : ¬ ((σ 35 0) ≤ z2) → am_wp sc 35 12 [.inr (.inl 0), .inl z1, .inl z2] [] σ Q) : am_wp sc 35 4 [.inr (.inl 0), .inl z1, .inl z2] [] σ Q := by
  refine am_wn rfl ?_
  refine am_wn rfl ?_
  refine am_wn rfl ?_
  exact ar_br (c := (σ 35 0) ≤ z2) rfl k1 k2
theorem b_35_12 {sc : Int → Int} {σ : St} {Q : Ou → St → Nat → Prop} (z1 : Int) (z2 : Int) (h0 : 0 ≤ z2 ∧ z2 < 14) (k : am_wp sc 22 0 [.inr (.inl 0), .inl (σ 12 z2)] [] σ (am_bk sc 35 20 [.inr (.inl 0), .inl z1, .inl z2] [.inl z1] Q)) : am_wp sc 35 12 [.inr (.inl 0), .inl z1, .inl z2] [] σ Q := by
  refine am_wn rfl ?_
  refine am_wn rfl ?_
  refine am_wn rfl ?_
  refine am_wn rfl ?_
  refine am_wn rfl ?_
  refine ar_iald rfl rfl h0 ?_
  exact am_wc rfl (by decide) (by decide) rfl k
theorem b_35_23 {sc : Int → Int} {σ : St} {Q : Ou → St → Nat → Prop} (z1 : Int) (z2 : Int) (s0 : Int) (s1 : Int) (h0 : am_R (s0 + s1)) (h1 : am_R (z2 + 1)) (k : am_wp sc 35 4 [.inr (.inl 0), .inl (s0 + s1), .inl (z2 + 1)] [] σ Q) : am_wp sc 35 23 [.inr (.inl 0), .inl z1, .inl z2] [.inl s1, .inl s0] σ Q := by
  refine ar_add rfl h0 ?_
  refine am_wn rfl ?_
  refine ar_inc (L' := [.inr (.inl 0), .inl (s0 + s1), .inl (z2 + 1)]) rfl rfl h1 rfl ?_
  refine am_wn rfl ?_
  exact k
theorem b_35_31 {sc : Int → Int} {σ : St} {Q : Ou → St → Nat → Prop} (z1 : Int) (z2 : Int) (k : Q (.inl (some z1)) σ 0) : am_wp sc 35 31 [.inr (.inl 0), .inl z1, .inl z2] [] σ Q := by
  refine am_wn rfl ?_
  exact am_w60 rfl k
/-! SlidingHeap.cutWeakSlots -/
theorem b_36_0 {sc : Int → Int} {σ : St} {Q : Ou → St → Nat → Prop} (v1 : AV) (v2 : AV) (v3 : AV) (k : am_wp sc 36 2 [.inr (.inl 0), .inl 0, v2, v3] [] σ Q) : am_wp sc 36 0 [.inr (.inl 0), v1, v2, v3] [] σ Q := by
  refine am_wn rfl ?_
  refine am_wn rfl ?_
  exact k
theorem b_36_2 {sc : Int → Int} {σ : St} {Q : Ou → St → Nat → Prop} (z1 : Int) (v2 : AV) (v3 : AV) (k1 : ((σ 35 0) ≤ z1) → am_wp sc 36 75 [.inr (.inl 0), .inl z1, v2, v3] [] σ Q) (k2 : ¬ ((σ 35 0) ≤ z1) → am_wp sc 36 10 [.inr (.inl 0), .inl z1, v2, v3] [] σ Q) : am_wp sc 36 2 [.inr (.inl 0), .inl z1, v2, v3] [] σ Q := by
  refine am_wn rfl ?_
  refine am_wn rfl ?_
  refine am_wn rfl ?_
  exact ar_br (c := (σ 35 0) ≤ z1) rfl k1 k2
theorem b_36_10 {sc : Int → Int} {σ : St} {Q : Ou → St → Nat → Prop} (z1 : Int) (v2 : AV) (v3 : AV) (h0 : 0 ≤ z1 ∧ z1 < 14) (k : am_wp sc 21 0 [.inr (.inl 0), .inl (σ 12 z1)] [] σ (am_bk sc 36 19 [.inr (.inl 0), .inl z1, .inl (σ 12 z1), v3] [] Q)) : am_wp sc 36 10 [.inr (.inl 0), .inl z1, v2, v3] [] σ Q := by
  refine am_wn rfl ?_
  refine am_wn rfl ?_
  refine am_wn rfl ?_
  refine ar_iald rfl rfl h0 ?_
  refine am_wn rfl ?_
  refine am_wn rfl ?_
  refine am_wn rfl ?_
  exact am_wc rfl (by decide) (by decide) rfl k
theorem b_36_22 {sc : Int → Int} {σ : St} {Q : Ou → St → Nat → Prop} (z1 : Int) (z2 : Int) (v3 : AV) (s0 : Int) (k : am_wp sc 36 23 [.inr (.inl 0), .inl z1, .inl z2, .inl s0] [] σ Q) : am_wp sc 36 22 [.inr (.inl 0), .inl z1, .inl z2, v3] [.inl s0] σ Q := by
  refine am_wn rfl ?_
  exact k
theorem b_36_23 {sc : Int → Int} {σ : St} {Q : Ou → St → Nat → Prop} (z1 : Int) (z2 : Int) (z3 : Int) (k : am_wp sc 23 0 [.inr (.inl 0), .inl z2] [] σ (am_bk sc 36 26 [.inr (.inl 0), .inl z1, .inl z2, .inl z3] [.inl z3] Q)) : am_wp sc 36 23 [.inr (.inl 0), .inl z1, .inl z2, .inl z3] [] σ Q := by
  refine am_wn rfl ?_
  refine am_wn rfl ?_
  refine am_wn rfl ?_
  exact am_wc rfl (by decide) (by decide) rfl k
theorem b_36_29 {sc : Int → Int} {σ : St} {Q : Ou → St → Nat → Prop} (z1 : Int) (z2 : Int) (z3 : Int) (s0 : Int) (s1 : Int) (k1 : (s1 ≤ s0) → am_wp sc 36 69 [.inr (.inl 0), .inl z1, .inl z2, .inl z3] [] σ Q) (k2 : ¬ (s1 ≤ s0) → am_wp sc 36 32 [.inr (.inl 0), .inl z1, .inl z2, .inl z3] [] σ Q) : am_wp sc 36 29 [.inr (.inl 0), .inl z1, .inl z2, .inl z3] [.inl s1, .inl s0] σ Q := by
  exact ar_br (c := s1 ≤ s0) rfl k1 k2
theorem b_36_32 {sc : Int → Int} {σ : St} {Q : Ou → St → Nat → Prop} (z1 : Int) (z2 : Int) (z3 : Int) (h0 : 0 ≤ z3 ∧ z3 < 90) (k1 : ((σ 3 z3) ≠ 2) → am_wp sc 36 63 [.inr (.inl 0), .inl z1, .inl z2, .inl z3] [] σ Q) (k2 : ¬ ((σ 3 z3) ≠ 2) → am_wp sc 36 42 [.inr (.inl 0), .inl z1, .inl z2, .inl z3] [] σ Q) : am_wp sc 36 32 [.inr (.inl 0), .inl z1, .inl z2, .inl z3] [] σ Q := by
  refine am_wn rfl ?_
  refine am_wn rfl ?_
  refine am_wn rfl ?_
  refine ar_iald rfl rfl h0 ?_
  refine am_wn rfl ?_
  exact ar_br (c := (σ 3 z3) ≠ 2) rfl k1 k2
theorem b_36_42 {sc : Int → Int} {σ : St} {Q : Ou → St → Nat → Prop} (z1 : Int) (z2 : Int) (z3 : Int) (h0 : 0 ≤ z3 ∧ z3 < 90) (h1 : 0 ≤ (σ 2 z3) ∧ (σ 2 z3) < 15) (k1 : ((σ 11 (σ 2 z3)) ≠ 0) → am_wp sc 36 63 [.inr (.inl 0), .inl z1, .inl z2, .inl z3] [] σ Q) (k2 : ¬ ((σ 11 (σ 2 z3)) ≠ 0) → am_wp sc 36 56 [.inr (.inl 0), .inl z1, .inl z2, .inl z3] [] σ Q) : am_wp sc 36 42 [.inr (.inl 0), .inl z1, .inl z2, .inl z3] [] σ Q := by
  refine am_wn rfl ?_
  refine am_wn rfl ?_
  refine am_wn rfl ?_
  refine am_wn rfl ?_
  refine am_wn rfl ?_
  refine ar_iald rfl rfl h0 ?_
  refine ar_bald rfl rfl h1 ?_
  exact ar_br (c := (σ 11 (σ 2 z3)) ≠ 0) rfl k1 k2
theorem b_36_56 {sc : Int → Int} {σ : St} {Q : Ou → St → Nat → Prop} (z1 : Int) (z2 : Int) (z3 : Int) (h0 : 0 ≤ z3 ∧ z3 < 90) (k : am_wp sc 36 63 [.inr (.inl 0), .inl z1, .inl z2, .inl z3] [] (am_up σ 2 z3 0) Q) : am_wp sc 36 56 [.inr (.inl 0), .inl z1, .inl z2, .inl z3] [] σ Q := by
  refine am_wn rfl ?_
  refine am_wn rfl ?_
  refine am_wn rfl ?_
  refine am_wn rfl ?_
  refine ar_iast rfl rfl h0 ?_
  exact k
theorem b_36_63 {sc : Int → Int} {σ : St} {Q : Ou → St → Nat → Prop} (z1 : Int) (z2 : Int) (z3 : Int) (h0 : am_R (z3 + 1)) (k : am_wp sc 36 23 [.inr (.inl 0), .inl z1, .inl z2, .inl (z3 + 1)] [] σ Q) : am_wp sc 36 63 [.inr (.inl 0), .inl z1, .inl z2, .inl z3] [] σ Q := by
  refine ar_inc (L' := [.inr (.inl 0), .inl z1, .inl z2, .inl (z3 + 1)]) rfl rfl h0 rfl ?_
  refine am_wn rfl ?_
  exact k
theorem b_36_69 {sc : Int → Int} {σ : St} {Q : Ou → St → Nat → Prop} (z1 : Int) (z2 : Int) (z3 : Int) (h0 : am_R (z1 + 1)) (k : am_wp sc 36 2 [.inr (.inl 0), .inl (z1 + 1), .inl z2, .inl z3] [] σ Q) : am_wp sc 36 69 [.inr (.inl 0), .inl z1, .inl z2, .inl z3] [] σ Q := by
  refine ar_inc (L' := [.inr (.inl 0), .inl (z1 + 1), .inl z2, .inl z3]) rfl rfl h0 rfl ?_
  refine am_wn rfl ?_
  exact k
theorem b_36_75 {sc : Int → Int} {σ : St} {Q : Ou → St → Nat → Prop} (z1 : Int) (v2 : AV) (v3 : AV) (k : Q (.inl none) σ 0) : am_wp sc 36 75 [.inr (.inl 0), .inl z1, v2, v3] [] σ Q := by
  exact am_w62 rfl k
/-! SlidingHeap.queueLost -/
theorem b_37_0 {sc : Int → Int} {σ : St} {Q : Ou → St → Nat → Prop} (v1 : AV) (k : am_wp sc 37 2 [.inr (.inl 0), .inl 1] [] σ Q) : am_wp sc 37 0 [.inr (.inl 0), v1] [] σ Q := by
  refine am_wn rfl ?_
  refine am_wn rfl ?_
  exact k
theorem b_37_2 {sc : Int → Int} {σ : St} {Q : Ou → St → Nat → Prop} (z1 : Int) (k1 : (14 < z1) → am_wp sc 37 59 [.inr (.inl 0), .inl z1] [] σ Q) (k2 : ¬ (14 < z1) → am_wp sc 37 8 [.inr (.inl 0), .inl z1] [] σ Q) : am_wp sc 37 2 [.inr (.inl 0), .inl z1] [] σ Q := by
  refine am_wn rfl ?_
  refine am_wn rfl ?_
  exact ar_br (c := 14 < z1) rfl k1 k2
theorem b_37_8 {sc : Int → Int} {σ : St} {Q : Ou → St → Nat → Prop} (z1 : Int) (h0 : 0 ≤ z1 ∧ z1 < 15) (k1 : ((σ 7 z1) = 0) → am_wp sc 37 53 [.inr (.inl 0), .inl z1] [] σ Q) (k2 : ¬ ((σ 7 z1) = 0) → am_wp sc 37 17 [.inr (.inl 0), .inl z1] [] σ Q) : am_wp sc 37 8 [.inr (.inl 0), .inl z1] [] σ Q := by
  refine am_wn rfl ?_
  refine am_wn rfl ?_
  refine am_wn rfl ?_
  refine ar_bald rfl rfl h0 ?_
  exact ar_br (c := (σ 7 z1) = 0) rfl k1 k2
theorem b_37_17 {sc : Int → Int} {σ : St} {Q : Ou → St → Nat → Prop} (z1 : Int) (h0 : 0 ≤ z1 ∧ z1 < 15) (k1 : ((σ 11 z1) ≠ 0) → am_wp sc 37 53 [.inr (.inl 0), .inl z1] [] σ Q) (k2 : ¬ ((σ 11 z1) ≠ 0) → am_wp sc 37 26 [.inr (.inl 0), .inl z1] [] σ Q) : am_wp sc 37 17 [.inr (.inl 0), .inl z1] [] σ Q := by
  refine am_wn rfl ?_
  refine am_wn rfl ?_
  refine am_wn rfl ?_
  refine ar_bald rfl rfl h0 ?_
  exact ar_br (c := (σ 11 z1) ≠ 0) rfl k1 k2
theorem b_37_26 {sc : Int → Int} {σ : St} {Q : Ou → St → Nat → Prop} (z1 : Int) (h0 : 0 ≤ (σ 33 0) ∧ (σ 33 0) < 14) (h1 : am_R ((σ 33 0) + 1)) (h2 : 0 ≤ z1 ∧ z1 < 15) (k : am_wp sc 37 53 [.inr (.inl 0), .inl z1] [] (am_up (am_up (am_up σ 10 (σ 33 0) z1) 33 0 ((σ 33 0) + 1)) 7 z1 0) Q) : am_wp sc 37 26 [.inr (.inl 0), .inl z1] [] σ Q := by
  refine am_wn rfl ?_
  refine am_wn rfl ?_
  refine am_wn rfl ?_
  refine am_wn rfl ?_
  refine am_wn rfl ?_
  refine ar_iast rfl rfl h0 ?_
  refine am_wn rfl ?_
  refine am_wn rfl ?_
  refine am_wn rfl ?_
  refine am_wn rfl ?_
  refine ar_add rfl h1 ?_
  refine am_wn rfl ?_
  refine am_wn rfl ?_
  refine am_wn rfl ?_
  refine am_wn rfl ?_
  refine am_wn rfl ?_
  refine ar_bast rfl rfl h2 (Or.inl rfl) ?_
  exact k
theorem b_37_53 {sc : Int → Int} {σ : St} {Q : Ou → St → Nat → Prop} (z1 : Int) (h0 : am_R (z1 + 1)) (k : am_wp sc 37 2 [.inr (.inl 0), .inl (z1 + 1)] [] σ Q) : am_wp sc 37 53 [.inr (.inl 0), .inl z1] [] σ Q := by
  refine ar_inc (L' := [.inr (.inl 0), .inl (z1 + 1)]) rfl rfl h0 rfl ?_
  refine am_wn rfl ?_
  exact k
theorem b_37_59 {sc : Int → Int} {σ : St} {Q : Ou → St → Nat → Prop} (z1 : Int) (k : Q (.inl none) σ 0) : am_wp sc 37 59 [.inr (.inl 0), .inl z1] [] σ Q := by
  exact am_w62 rfl k
/-! SlidingHeap.slideDown -/
theorem b_38_0 {sc : Int → Int} {σ : St} {Q : Ou → St → Nat → Prop} (v1 : AV) (v2 : AV) (v3 : AV) (v4 : AV) (k : am_wp sc 38 6 [.inr (.inl 0), .inl 0, .inl 0, .inl 0, v4] [] σ Q) : am_wp sc 38 0 [.inr (.inl 0), v1, v2, v3, v4] [] σ Q := by
  refine am_wn rfl ?_
  refine am_wn rfl ?_
  refine am_wn rfl ?_
  refine am_wn rfl ?_
  refine am_wn rfl ?_
  refine am_wn rfl ?_
  exact k
theorem b_38_6 {sc : Int → Int} {σ : St} {Q : Ou → St → Nat → Prop} (z1 : Int) (z2 : Int) (z3 : Int) (v4 : AV) (k1 : ((σ 31 0) ≤ z3) → am_wp sc 38 74 [.inr (.inl 0), .inl z1, .inl z2, .inl z3, v4] [] σ Q) (k2 : ¬ ((σ 31 0) ≤ z3) → am_wp sc 38 14 [.inr (.inl 0), .inl z1, .inl z2, .inl z3, v4] [] σ Q) : am_wp sc 38 6 [.inr (.inl 0), .inl z1, .inl z2, .inl z3, v4] [] σ Q := by
  refine am_wn rfl ?_
  refine am_wn rfl ?_
  refine am_wn rfl ?_
  exact ar_br (c := (σ 31 0) ≤ z3) rfl k1 k2
theorem b_38_14 {sc : Int → Int} {σ : St} {Q : Ou → St → Nat → Prop} (z1 : Int) (z2 : Int) (z3 : Int) (v4 : AV) (h0 : 0 ≤ z3 ∧ z3 < 14) (h1 : 0 ≤ (σ 8 z3) ∧ (σ 8 z3) < 15) (k1 : ((σ 11 (σ 8 z3)) = 0) → am_wp sc 38 62 [.inr (.inl 0), .inl z1, .inl z2, .inl z3, .inl (σ 8 z3)] [] σ Q) (k2 : ¬ ((σ 11 (σ 8 z3)) = 0) → am_wp sc 38 32 [.inr (.inl 0), .inl z1, .inl z2, .inl z3, .inl (σ 8 z3)] [] σ Q) : am_wp sc 38 14 [.inr (.inl 0), .inl z1, .inl z2, .inl z3, v4] [] σ Q := by
  refine am_wn rfl ?_
  refine am_wn rfl ?_
  refine am_wn rfl ?_
  refine ar_iald rfl rfl h0 ?_
  refine am_wn rfl ?_
  refine am_wn rfl ?_
  refine am_wn rfl ?_
  refine am_wn rfl ?_
  refine ar_bald rfl rfl h1 ?_
  exact ar_br (c := (σ 11 (σ 8 z3)) = 0) rfl k1 k2
theorem b_38_32 {sc : Int → Int} {σ : St} {Q : Ou → St → Nat → Prop} (z1 : Int) (z2 : Int) (z3 : Int) (z4 : Int) (k : am_wp sc 39 0 [.inr (.inl 0), .inl z4, .inl z1, .inr (.inr 0), .inr (.inr 0), .inr (.inr 0)] [] σ (am_bk sc 38 36 [.inr (.inl 0), .inl z1, .inl z2, .inl z3, .inl z4] [] Q)) : am_wp sc 38 32 [.inr (.inl 0), .inl z1, .inl z2, .inl z3, .inl z4] [] σ Q := by
  refine am_wn rfl ?_
  refine am_wn rfl ?_
  refine am_wn rfl ?_
  exact am_wc rfl (by decide) (by decide) rfl k
theorem b_38_39 {sc : Int → Int} {σ : St} {Q : Ou → St → Nat → Prop} (z1 : Int) (z2 : Int) (z3 : Int) (z4 : Int) (k : am_wp sc 22 0 [.inr (.inl 0), .inl z4] [] σ (am_bk sc 38 43 [.inr (.inl 0), .inl z1, .inl z2, .inl z3, .inl z4] [.inl z1] Q)) : am_wp sc 38 39 [.inr (.inl 0), .inl z1, .inl z2, .inl z3, .inl z4] [] σ Q := by
  refine am_wn rfl ?_
  refine am_wn rfl ?_
  refine am_wn rfl ?_
  exact am_wc rfl (by decide) (by decide) rfl k
theorem b_38_46 {sc : Int → Int} {σ : St} {Q : Ou → St → Nat → Prop} (z1 : Int) (z2 : Int) (z3 : Int) (z4 : Int) (s0 : Int) (s1 : Int) (h0 : am_R (s0 + s1)) (h1 : 0 ≤ z2 ∧ z2 < 14) (h2 : am_R (z2 + 1)) (k : am_wp sc 38 68 [.inr (.inl 0), .inl (s0 + s1), .inl (z2 + 1), .inl z3, .inl z4] [] (am_up σ 8 z2 z4) Q) : am_wp sc 38 46 [.inr (.inl 0), .inl z1, .inl z2, .inl z3, .inl z4] [.inl s1, .inl s0] σ Q := by
  refine ar_add rfl h0 ?_
  refine am_wn rfl ?_
  refine am_wn rfl ?_
  refine am_wn rfl ?_
  refine am_wn rfl ?_
  refine am_wn rfl ?_
  refine ar_iast rfl rfl h1 ?_
  refine ar_inc (L' := [.inr (.inl 0), .inl (s0 + s1), .inl (z2 + 1), .inl z3, .inl z4]) rfl rfl h2 rfl ?_
  refine am_wn rfl ?_
  exact k
theorem b_38_62 {sc : Int → Int} {σ : St} {Q : Ou → St → Nat → Prop} (z1 : Int) (z2 : Int) (z3 : Int) (z4 : Int) (k : am_wp sc 28 0 [.inr (.inl 0), .inl z4] [] σ (am_bk sc 38 65 [.inr (.inl 0), .inl z1, .inl z2, .inl z3, .inl z4] [] Q)) : am_wp sc 38 62 [.inr (.inl 0), .inl z1, .inl z2, .inl z3, .inl z4] [] σ Q := by
  refine am_wn rfl ?_
  refine am_wn rfl ?_
  exact am_wc rfl (by decide) (by decide) rfl k
theorem b_38_68 {sc : Int → Int} {σ : St} {Q : Ou → St → Nat → Prop} (z1 : Int) (z2 : Int) (z3 : Int) (z4 : Int) (h0 : am_R (z3 + 1)) (k : am_wp sc 38 6 [.inr (.inl 0), .inl z1, .inl z2, .inl (z3 + 1), .inl z4] [] σ Q) : am_wp sc 38 68 [.inr (.inl 0), .inl z1, .inl z2, .inl z3, .inl z4] [] σ Q := by
  refine ar_inc (L' := [.inr (.inl 0), .inl z1, .inl z2, .inl (z3 + 1), .inl z4]) rfl rfl h0 rfl ?_
  refine am_wn rfl ?_
  exact k
theorem b_38_74 {sc : Int → Int} {σ : St} {Q : Ou → St → Nat → Prop} (z1 : Int) (z2 : Int) (z3 : Int) (v4 : AV) (k : am_wp sc 40 0 [.inr (.inl 0), .inl z1, .inl (σ 30 0), .inr (.inr 0)] [] σ (am_bk sc 38 80 [.inr (.inl 0), .inl z1, .inl z2, .inl z3, v4] [] Q)) : am_wp sc 38 74 [.inr (.inl 0), .inl z1, .inl z2, .inl z3, v4] [] σ Q := by
  refine am_wn rfl ?_
  refine am_wn rfl ?_
  refine am_wn rfl ?_
  refine am_wn rfl ?_
  exact am_wc rfl (by decide) (by decide) rfl k
theorem b_38_83 {sc : Int → Int} {σ : St} {Q : Ou → St → Nat → Prop} (z1 : Int) (z2 : Int) (z3 : Int) (v4 : AV) (k : Q (.inl none) (am_up (am_up σ 30 0 z1) 31 0 z2) 0) : am_wp sc 38 83 [.inr (.inl 0), .inl z1, .inl z2, .inl z3, v4] [] σ Q := by
  refine am_wn rfl ?_
  refine am_wn rfl ?_
  refine am_wn rfl ?_
  refine am_wn rfl ?_
  refine am_wn rfl ?_
  refine am_wn rfl ?_
  exact am_w62 rfl k
/-! SlidingHeap.move -/
theorem b_39_0 {sc : Int → Int} {σ : St} {Q : Ou → St → Nat → Prop} (z1 : Int) (z2 : Int) (v3 : AV) (v4 : AV) (v5 : AV) (h0 : 0 ≤ z1 ∧ z1 < 15) (k : am_wp sc 22 0 [.inr (.inl 0), .inl z1] [] σ (am_bk sc 39 9 [.inr (.inl 0), .inl z1, .inl z2, .inl (σ 4 z1), v4, v5] [] Q)) : am_wp sc 39 0 [.inr (.inl 0), .inl z1, .inl z2, v3, v4, v5] [] σ Q := by
  refine am_wn rfl ?_
  refine am_wn rfl ?_
  refine am_wn rfl ?_
  refine ar_iald rfl rfl h0 ?_
  refine am_wn rfl ?_
  refine am_wn rfl ?_
  refine am_wn rfl ?_
  exact am_wc rfl (by decide) (by decide) rfl k
theorem b_39_12 {sc : Int → Int} {σ : St} {Q : Ou → St → Nat → Prop} (z1 : Int) (z2 : Int) (z3 : Int) (v4 : AV) (v5 : AV) (s0 : Int) (k : am_wp sc 39 17 [.inr (.inl 0), .inl z1, .inl z2, .inl z3, .inl s0, .inl 0] [] σ Q) : am_wp sc 39 12 [.inr (.inl 0), .inl z1, .inl z2, .inl z3, v4, v5] [.inl s0] σ Q := by
  refine am_wn rfl ?_
  refine am_wn rfl ?_
  refine am_wn rfl ?_
  exact k
theorem b_39_17 {sc : Int → Int} {σ : St} {Q : Ou → St → Nat → Prop} (z1 : Int) (z2 : Int) (z3 : Int) (z4 : Int) (z5 : Int) (k1 : (z4 ≤ z5) → am_wp sc 39 66 [.inr (.inl 0), .inl z1, .inl z2, .inl z3, .inl z4, .inl z5] [] σ Q) (k2 : ¬ (z4 ≤ z5) → am_wp sc 39 24 [.inr (.inl 0), .inl z1, .inl z2, .inl z3, .inl z4, .inl z5] [] σ Q) : am_wp sc 39 17 [.inr (.inl 0), .inl z1, .inl z2, .inl z3, .inl z4, .inl z5] [] σ Q := by
  refine am_wn rfl ?_
  refine am_wn rfl ?_
  exact ar_br (c := z4 ≤ z5) rfl k1 k2
theorem b_39_24 {sc : Int → Int} {σ : St} {Q : Ou → St → Nat → Prop} (z1 : Int) (z2 : Int) (z3 : Int) (z4 : Int) (z5 : Int) (h0 : am_R (z2 + z5)) (h1 : am_R (z3 + z5)) (h2 : 0 ≤ (z3 + z5) ∧ (z3 + z5) < 90) (h3 : 0 ≤ (z2 + z5) ∧ (z2 + z5) < 90) (h4 : am_R (z2 + z5)) (h5 : am_R (z3 + z5)) (h6 : 0 ≤ (z3 + z5) ∧ (z3 + z5) < 90) (h7 : 0 ≤ (z2 + z5) ∧ (z2 + z5) < 90) (h8 : am_R (z5 + 1)) (k : am_wp sc 39 17 [.inr (.inl 0), .inl z1, .inl z2, .inl z3, .inl z4, .inl (z5 + 1)] [] (am_up (am_up σ 2 (z2 + z5) (σ 2 (z3 + z5))) 3 (z2 + z5) (σ 3 (z3 + z5))) Q) : am_wp sc 39 24 [.inr (.inl 0), .inl z1, .inl z2, .inl z3, .inl z4, .inl z5] [] σ Q := by
  refine am_wn rfl ?_
  refine am_wn rfl ?_
  refine am_wn rfl ?_
  refine am_wn rfl ?_
  refine ar_add rfl h0 ?_
  refine am_wn rfl ?_
  refine am_wn rfl ?_
  refine am_wn rfl ?_
  refine am_wn rfl ?_
  refine ar_add rfl h1 ?_
  refine ar_iald rfl rfl h2 ?_
  refine ar_iast rfl rfl h3 ?_
  refine am_wn rfl ?_
  refine am_wn rfl ?_
  refine am_wn rfl ?_
  refine am_wn rfl ?_
  refine ar_add rfl h4 ?_
  refine am_wn rfl ?_
  refine am_wn rfl ?_
  refine am_wn rfl ?_
  refine am_wn rfl ?_
  refine ar_add rfl h5 ?_
  refine ar_iald rfl rfl h6 ?_
  refine ar_iast rfl rfl h7 ?_
  refine ar_inc (L' := [.inr (.inl 0), .inl z1, .inl z2, .inl z3, .inl z4, .inl (z5 + 1)]) rfl rfl h8 rfl ?_
  refine am_wn rfl ?_
  exact k
theorem b_39_66 {sc : Int → Int} {σ : St} {Q : Ou → St → Nat → Prop} (z1 : Int) (z2 : Int) (z3 : Int) (z4 : Int) (z5 : Int) (h0 : 0 ≤ z1 ∧ z1 < 15) (k : Q (.inl none) (am_up σ 4 z1 z2) 0) : am_wp sc 39 66 [.inr (.inl 0), .inl z1, .inl z2, .inl z3, .inl z4, .inl z5] [] σ Q := by
  refine am_wn rfl ?_
  refine am_wn rfl ?_
  refine am_wn rfl ?_
  refine am_wn rfl ?_
  refine ar_iast rfl rfl h0 ?_
  exact am_w62 rfl k
/-! SlidingHeap.wipe -/
theorem b_40_0 {sc : Int → Int} {σ : St} {Q : Ou → St → Nat → Prop} (z1 : Int) (z2 : Int) (v3 : AV) (k : am_wp sc 40 2 [.inr (.inl 0), .inl z1, .inl z2, .inl z1] [] σ Q) : am_wp sc 40 0 [.inr (.inl 0), .inl z1, .inl z2, v3] [] σ Q := by
  refine am_wn rfl ?_
  refine am_wn rfl ?_
  exact k
theorem b_40_2 {sc : Int → Int} {σ : St} {Q : Ou → St → Nat → Prop} (z1 : Int) (z2 : Int) (z3 : Int) (k1 : (z2 ≤ z3) → am_wp sc 40 27 [.inr (.inl 0), .inl z1, .inl z2, .inl z3] [] σ Q) (k2 : ¬ (z2 ≤ z3) → am_wp sc 40 7 [.inr (.inl 0), .inl z1, .inl z2, .inl z3] [] σ Q) : am_wp sc 40 2 [.inr (.inl 0), .inl z1, .inl z2, .inl z3] [] σ Q := by
  refine am_wn rfl ?_
  refine am_wn rfl ?_
  exact ar_br (c := z2 ≤ z3) rfl k1 k2
theorem b_40_7 {sc : Int → Int} {σ : St} {Q : Ou → St → Nat → Prop} (z1 : Int) (z2 : Int) (z3 : Int) (h0 : 0 ≤ z3 ∧ z3 < 90) (h1 : 0 ≤ z3 ∧ z3 < 90) (h2 : am_R (z3 + 1)) (k : am_wp sc 40 2 [.inr (.inl 0), .inl z1, .inl z2, .inl (z3 + 1)] [] (am_up (am_up σ 2 z3 0) 3 z3 0) Q) : am_wp sc 40 7 [.inr (.inl 0), .inl z1, .inl z2, .inl z3] [] σ Q := by
  refine am_wn rfl ?_
  refine am_wn rfl ?_
  refine am_wn rfl ?_
  refine am_wn rfl ?_
  refine ar_iast rfl rfl h0 ?_
  refine am_wn rfl ?_
  refine am_wn rfl ?_
  refine am_wn rfl ?_
  refine am_wn rfl ?_
  refine ar_iast rfl rfl h1 ?_
  refine ar_inc (L' := [.inr (.inl 0), .inl z1, .inl z2, .inl (z3 + 1)]) rfl rfl h2 rfl ?_
  refine am_wn rfl ?_
  exact k
theorem b_40_27 {sc : Int → Int} {σ : St} {Q : Ou → St → Nat → Prop} (z1 : Int) (z2 : Int) (z3 : Int) (k : Q (.inl none) σ 0) : am_wp sc 40 27 [.inr (.inl 0), .inl z1, .inl z2, .inl z3] [] σ Q := by
  exact am_w62 rfl k
/-! SlidingHeap.growOlder -/
theorem b_41_0 {sc : Int → Int} {σ : St} {Q : Ou → St → Nat → Prop} (v1 : AV) (v2 : AV) (k : am_wp sc 41 2 [.inr (.inl 0), .inl 0, v2] [] σ Q) : am_wp sc 41 0 [.inr (.inl 0), v1, v2] [] σ Q := by
  refine am_wn rfl ?_
  refine am_wn rfl ?_
  exact k
theorem b_41_2 {sc : Int → Int} {σ : St} {Q : Ou → St → Nat → Prop} (z1 : Int) (v2 : AV) (k1 : ((σ 31 0) ≤ z1) → am_wp sc 41 42 [.inr (.inl 0), .inl z1, v2] [] σ Q) (k2 : ¬ ((σ 31 0) ≤ z1) → am_wp sc 41 10 [.inr (.inl 0), .inl z1, v2] [] σ Q) : am_wp sc 41 2 [.inr (.inl 0), .inl z1, v2] [] σ Q := by
  refine am_wn rfl ?_
  refine am_wn rfl ?_
  refine am_wn rfl ?_
  exact ar_br (c := (σ 31 0) ≤ z1) rfl k1 k2
theorem b_41_10 {sc : Int → Int} {σ : St} {Q : Ou → St → Nat → Prop} (z1 : Int) (v2 : AV) (h0 : 0 ≤ z1 ∧ z1 < 14) (h1 : 0 ≤ (σ 8 z1) ∧ (σ 8 z1) < 15) (h2 : am_R ((σ 6 (σ 8 z1)) + 1)) (h3 : 0 ≤ (σ 8 z1) ∧ (σ 8 z1) < 15) (h4 : am_R (z1 + 1)) (k : am_wp sc 41 2 [.inr (.inl 0), .inl (z1 + 1), .inl (σ 8 z1)] [] (am_up σ 6 (σ 8 z1) (if 99 < ((σ 6 (σ 8 z1)) + 1) then 99 else ((σ 6 (σ 8 z1)) + 1))) Q) : am_wp sc 41 10 [.inr (.inl 0), .inl z1, v2] [] σ Q := by
  refine am_wn rfl ?_
  refine am_wn rfl ?_
  refine am_wn rfl ?_
  refine ar_iald rfl rfl h0 ?_
  refine am_wn rfl ?_
  refine am_wn rfl ?_
  refine am_wn rfl ?_
  refine am_wn rfl ?_
  refine am_wn rfl ?_
  refine am_wn rfl ?_
  refine am_wn rfl ?_
  refine ar_iald rfl rfl h1 ?_
  refine am_wn rfl ?_
  refine ar_add rfl h2 ?_
  refine am_wn rfl ?_
  refine am_wn rfl ?_
  refine ar_iast rfl rfl h3 ?_
  refine ar_inc (L' := [.inr (.inl 0), .inl (z1 + 1), .inl (σ 8 z1)]) rfl rfl h4 rfl ?_
  refine am_wn rfl ?_
  exact k
theorem b_41_42 {sc : Int → Int} {σ : St} {Q : Ou → St → Nat → Prop} (z1 : Int) (v2 : AV) (k : Q (.inl none) σ 0) : am_wp sc 41 42 [.inr (.inl 0), .inl z1, v2] [] σ Q := by
  exact am_w62 rfl k
/-! SlidingHeap.slotsThatShow -/
theorem b_42_0 {sc : Int → Int} {σ : St} {Q : Ou → St → Nat → Prop} (z1 : Int) (v2 : AV) (v3 : AV) (k : am_wp sc 42 4 [.inr (.inl 0), .inl z1, .inl 0, .inl 0] [] σ Q) : am_wp sc 42 0 [.inr (.inl 0), .inl z1, v2, v3] [] σ Q := by
  refine am_wn rfl ?_
  refine am_wn rfl ?_
  refine am_wn rfl ?_
  refine am_wn rfl ?_
  exact k
theorem b_42_4 {sc : Int → Int} {σ : St} {Q : Ou → St → Nat → Prop} (z1 : Int) (z2 : Int) (z3 : Int) (k1 : ((σ 30 0) ≤ z3) → am_wp sc 42 40 [.inr (.inl 0), .inl z1, .inl z2, .inl z3] [] σ Q) (k2 : ¬ ((σ 30 0) ≤ z3) → am_wp sc 42 12 [.inr (.inl 0), .inl z1, .inl z2, .inl z3] [] σ Q) : am_wp sc 42 4 [.inr (.inl 0), .inl z1, .inl z2, .inl z3] [] σ Q := by
  refine am_wn rfl ?_
  refine am_wn rfl ?_
  refine am_wn rfl ?_
  exact ar_br (c := (σ 30 0) ≤ z3) rfl k1 k2
theorem b_42_12 {sc : Int → Int} {σ : St} {Q : Ou → St → Nat → Prop} (z1 : Int) (z2 : Int) (z3 : Int) (h0 : 0 ≤ z3 ∧ z3 < 90) (k1 : ((σ 3 z3) = 0) → am_wp sc 42 34 [.inr (.inl 0), .inl z1, .inl z2, .inl z3] [] σ Q) (k2 : ¬ ((σ 3 z3) = 0) → am_wp sc 42 21 [.inr (.inl 0), .inl z1, .inl z2, .inl z3] [] σ Q) : am_wp sc 42 12 [.inr (.inl 0), .inl z1, .inl z2, .inl z3] [] σ Q := by
  refine am_wn rfl ?_
  refine am_wn rfl ?_
  refine am_wn rfl ?_
  refine ar_iald rfl rfl h0 ?_
  exact ar_br (c := (σ 3 z3) = 0) rfl k1 k2
theorem b_42_21 {sc : Int → Int} {σ : St} {Q : Ou → St → Nat → Prop} (z1 : Int) (z2 : Int) (z3 : Int) (h0 : 0 ≤ z3 ∧ z3 < 90) (k1 : ((σ 2 z3) ≠ z1) → am_wp sc 42 34 [.inr (.inl 0), .inl z1, .inl z2, .inl z3] [] σ Q) (k2 : ¬ ((σ 2 z3) ≠ z1) → am_wp sc 42 31 [.inr (.inl 0), .inl z1, .inl z2, .inl z3] [] σ Q) : am_wp sc 42 21 [.inr (.inl 0), .inl z1, .inl z2, .inl z3] [] σ Q := by
  refine am_wn rfl ?_
  refine am_wn rfl ?_
  refine am_wn rfl ?_
  refine ar_iald rfl rfl h0 ?_
  refine am_wn rfl ?_
  exact ar_br (c := (σ 2 z3) ≠ z1) rfl k1 k2
theorem b_42_31 {sc : Int → Int} {σ : St} {Q : Ou → St → Nat → Prop} (z1 : Int) (z2 : Int) (z3 : Int) (h0 : am_R (z2 + 1)) (k : am_wp sc 42 34 [.inr (.inl 0), .inl z1, .inl (z2 + 1), .inl z3] [] σ Q) : am_wp sc 42 31 [.inr (.inl 0), .inl z1, .inl z2, .inl z3] [] σ Q := by
  refine ar_inc (L' := [.inr (.inl 0), .inl z1, .inl (z2 + 1), .inl z3]) rfl rfl h0 rfl ?_
  exact k
theorem b_42_34 {sc : Int → Int} {σ : St} {Q : Ou → St → Nat → Prop} (z1 : Int) (z2 : Int) (z3 : Int) (h0 : am_R (z3 + 1)) (k : am_wp sc 42 4 [.inr (.inl 0), .inl z1, .inl z2, .inl (z3 + 1)] [] σ Q) : am_wp sc 42 34 [.inr (.inl 0), .inl z1, .inl z2, .inl z3] [] σ Q := by
  refine ar_inc (L' := [.inr (.inl 0), .inl z1, .inl z2, .inl (z3 + 1)]) rfl rfl h0 rfl ?_
  refine am_wn rfl ?_
  exact k
theorem b_42_40 {sc : Int → Int} {σ : St} {Q : Ou → St → Nat → Prop} (z1 : Int) (z2 : Int) (z3 : Int) (k : Q (.inl (some z2)) σ 0) : am_wp sc 42 40 [.inr (.inl 0), .inl z1, .inl z2, .inl z3] [] σ Q := by
  refine am_wn rfl ?_
  exact am_w60 rfl k
/-! SlidingHeap.measureTo -/
theorem b_43_0 {sc : Int → Int} {σ : St} {Q : Ou → St → Nat → Prop} (z1 : Int) (v2 : AV) (v3 : AV) (v4 : AV) (k : am_wp sc 87 0 [.inr (.inl 13), .inl (-1), .inr (.inr 0), .inr (.inr 0)] [] σ (am_bk sc 43 5 [.inr (.inl 0), .inl z1, v2, v3, v4] [] Q)) : am_wp sc 43 0 [.inr (.inl 0), .inl z1, v2, v3, v4] [] σ Q := by
  refine am_wn rfl ?_
  refine am_wn rfl ?_
  refine am_wn rfl ?_
  exact am_wc rfl (by decide) (by decide) rfl k
theorem b_43_8 {sc : Int → Int} {σ : St} {Q : Ou → St → Nat → Prop} (z1 : Int) (v2 : AV) (v3 : AV) (v4 : AV) (h0 : 0 ≤ z1 ∧ z1 < 15) (k : am_wp sc 43 17 [.inr (.inl 0), .inl z1, .inl 0, v3, v4] [] (am_up σ 13 z1 0) Q) : am_wp sc 43 8 [.inr (.inl 0), .inl z1, v2, v3, v4] [] σ Q := by
  refine am_wn rfl ?_
  refine am_wn rfl ?_
  refine am_wn rfl ?_
  refine am_wn rfl ?_
  refine ar_iast rfl rfl h0 ?_
  refine am_wn rfl ?_
  refine am_wn rfl ?_
  exact k
theorem b_43_17 {sc : Int → Int} {σ : St} {Q : Ou → St → Nat → Prop} (z1 : Int) (z2 : Int) (v3 : AV) (v4 : AV) (k1 : (14 ≤ z2) → am_wp sc 43 84 [.inr (.inl 0), .inl z1, .inl z2, v3, v4] [] σ Q) (k2 : ¬ (14 ≤ z2) → am_wp sc 43 23 [.inr (.inl 0), .inl z1, .inl z2, v3, v4] [] σ Q) : am_wp sc 43 17 [.inr (.inl 0), .inl z1, .inl z2, v3, v4] [] σ Q := by
  refine am_wn rfl ?_
  refine am_wn rfl ?_
  exact ar_br (c := 14 ≤ z2) rfl k1 k2
theorem b_43_23 {sc : Int → Int} {σ : St} {Q : Ou → St → Nat → Prop} (z1 : Int) (z2 : Int) (v3 : AV) (v4 : AV) (k : am_wp sc 43 25 [.inr (.inl 0), .inl z1, .inl z2, .inl 0, v4] [] σ Q) : am_wp sc 43 23 [.inr (.inl 0), .inl z1, .inl z2, v3, v4] [] σ Q := by
  refine am_wn rfl ?_
  refine am_wn rfl ?_
  exact k
theorem b_43_25 {sc : Int → Int} {σ : St} {Q : Ou → St → Nat → Prop} (z1 : Int) (z2 : Int) (z3 : Int) (v4 : AV) (k1 : ((σ 31 0) ≤ z3) → am_wp sc 43 78 [.inr (.inl 0), .inl z1, .inl z2, .inl z3, v4] [] σ Q) (k2 : ¬ ((σ 31 0) ≤ z3) → am_wp sc 43 33 [.inr (.inl 0), .inl z1, .inl z2, .inl z3, v4] [] σ Q) : am_wp sc 43 25 [.inr (.inl 0), .inl z1, .inl z2, .inl z3, v4] [] σ Q := by
  refine am_wn rfl ?_
  refine am_wn rfl ?_
  refine am_wn rfl ?_
  exact ar_br (c := (σ 31 0) ≤ z3) rfl k1 k2
theorem b_43_33 {sc : Int → Int} {σ : St} {Q : Ou → St → Nat → Prop} (z1 : Int) (z2 : Int) (z3 : Int) (v4 : AV) (h0 : 0 ≤ z3 ∧ z3 < 14) (h1 : 0 ≤ (σ 8 z3) ∧ (σ 8 z3) < 15) (k1 : ((σ 13 (σ 8 z3)) ≠ (-1)) → am_wp sc 43 72 [.inr (.inl 0), .inl z1, .inl z2, .inl z3, .inl (σ 8 z3)] [] σ Q) (k2 : ¬ ((σ 13 (σ 8 z3)) ≠ (-1)) → am_wp sc 43 52 [.inr (.inl 0), .inl z1, .inl z2, .inl z3, .inl (σ 8 z3)] [] σ Q) : am_wp sc 43 33 [.inr (.inl 0), .inl z1, .inl z2, .inl z3, v4] [] σ Q := by
  refine am_wn rfl ?_
  refine am_wn rfl ?_
  refine am_wn rfl ?_
  refine ar_iald rfl rfl h0 ?_
  refine am_wn rfl ?_
  refine am_wn rfl ?_
  refine am_wn rfl ?_
  refine am_wn rfl ?_
  refine ar_iald rfl rfl h1 ?_
  refine am_wn rfl ?_
  exact ar_br (c := (σ 13 (σ 8 z3)) ≠ (-1)) rfl k1 k2
theorem b_43_52 {sc : Int → Int} {σ : St} {Q : Ou → St → Nat → Prop} (z1 : Int) (z2 : Int) (z3 : Int) (z4 : Int) (k : am_wp sc 44 0 [.inr (.inl 0), .inl z4, .inl z2, .inr (.inr 0)] [] σ (am_bk sc 43 56 [.inr (.inl 0), .inl z1, .inl z2, .inl z3, .inl z4] [] Q)) : am_wp sc 43 52 [.inr (.inl 0), .inl z1, .inl z2, .inl z3, .inl z4] [] σ Q := by
  refine am_wn rfl ?_
  refine am_wn rfl ?_
  refine am_wn rfl ?_
  exact am_wc rfl (by decide) (by decide) rfl k
theorem b_43_59 {sc : Int → Int} {σ : St} {Q : Ou → St → Nat → Prop} (z1 : Int) (z2 : Int) (z3 : Int) (z4 : Int) (s0 : Int) (k1 : (s0 = 0) → am_wp sc 43 72 [.inr (.inl 0), .inl z1, .inl z2, .inl z3, .inl z4] [] σ Q) (k2 : ¬ (s0 = 0) → am_wp sc 43 62 [.inr (.inl 0), .inl z1, .inl z2, .inl z3, .inl z4] [] σ Q) : am_wp sc 43 59 [.inr (.inl 0), .inl z1, .inl z2, .inl z3, .inl z4] [.inl s0] σ Q := by
  exact ar_br (c := s0 = 0) rfl k1 k2
theorem b_43_62 {sc : Int → Int} {σ : St} {Q : Ou → St → Nat → Prop} (z1 : Int) (z2 : Int) (z3 : Int) (z4 : Int) (h0 : am_R (z2 + 1)) (h1 : 0 ≤ z4 ∧ z4 < 15) (k : am_wp sc 43 72 [.inr (.inl 0), .inl z1, .inl z2, .inl z3, .inl z4] [] (am_up σ 13 z4 (z2 + 1)) Q) : am_wp sc 43 62 [.inr (.inl 0), .inl z1, .inl z2, .inl z3, .inl z4] [] σ Q := by
  refine am_wn rfl ?_
  refine am_wn rfl ?_
  refine am_wn rfl ?_
  refine am_wn rfl ?_
  refine am_wn rfl ?_
  refine ar_add rfl h0 ?_
  refine ar_iast rfl rfl h1 ?_
  exact k
theorem b_43_72 {sc : Int → Int} {σ : St} {Q : Ou → St → Nat → Prop} (z1 : Int) (z2 : Int) (z3 : Int) (z4 : Int) (h0 : am_R (z3 + 1)) (k : am_wp sc 43 25 [.inr (.inl 0), .inl z1, .inl z2, .inl (z3 + 1), .inl z4] [] σ Q) : am_wp sc 43 72 [.inr (.inl 0), .inl z1, .inl z2, .inl z3, .inl z4] [] σ Q := by
  refine ar_inc (L' := [.inr (.inl 0), .inl z1, .inl z2, .inl (z3 + 1), .inl z4]) rfl rfl h0 rfl ?_
  refine am_wn rfl ?_
  exact k
theorem b_43_78 {sc : Int → Int} {σ : St} {Q : Ou → St → Nat → Prop} (z1 : Int) (z2 : Int) (z3 : Int) (v4 : AV) (h0 : am_R (z2 + 1)) (k : am_wp sc 43 17 [.inr (.inl 0), .inl z1, .inl (z2 + 1), .inl z3, v4] [] σ Q) : am_wp sc 43 78 [.inr (.inl 0), .inl z1, .inl z2, .inl z3, v4] [] σ Q := by
  refine ar_inc (L' := [.inr (.inl 0), .inl z1, .inl (z2 + 1), .inl z3, v4]) rfl rfl h0 rfl ?_
  refine am_wn rfl ?_
  exact k
theorem b_43_84 {sc : Int → Int} {σ : St} {Q : Ou → St → Nat → Prop} (z1 : Int) (z2 : Int) (v3 : AV) (v4 : AV) (k : Q (.inl none) σ 0) : am_wp sc 43 84 [.inr (.inl 0), .inl z1, .inl z2, v3, v4] [] σ Q := by
  exact am_w62 rfl k
/-! SlidingHeap.refersToDistance -/
theorem b_44_0 {sc : Int → Int} {σ : St} {Q : Ou → St → Nat → Prop} (z1 : Int) (z2 : Int) (v3 : AV) (k : am_wp sc 21 0 [.inr (.inl 0), .inl z1] [] σ (am_bk sc 44 2 [.inr (.inl 0), .inl z1, .inl z2, v3] [] Q)) : am_wp sc 44 0 [.inr (.inl 0), .inl z1, .inl z2, v3] [] σ Q := by
  refine am_wn rfl ?_
  refine am_wn rfl ?_
  exact am_wc rfl (by decide) (by decide) rfl k
theorem b_44_5 {sc : Int → Int} {σ : St} {Q : Ou → St → Nat → Prop} (z1 : Int) (z2 : Int) (v3 : AV) (s0 : Int) (k : am_wp sc 44 6 [.inr (.inl 0), .inl z1, .inl z2, .inl s0] [] σ Q) : am_wp sc 44 5 [.inr (.inl 0), .inl z1, .inl z2, v3] [.inl s0] σ Q := by
  refine am_wn rfl ?_
  exact k
theorem b_44_6 {sc : Int → Int} {σ : St} {Q : Ou → St → Nat → Prop} (z1 : Int) (z2 : Int) (z3 : Int) (k : am_wp sc 23 0 [.inr (.inl 0), .inl z1] [] σ (am_bk sc 44 9 [.inr (.inl 0), .inl z1, .inl z2, .inl z3] [.inl z3] Q)) : am_wp sc 44 6 [.inr (.inl 0), .inl z1, .inl z2, .inl z3] [] σ Q := by
  refine am_wn rfl ?_
  refine am_wn rfl ?_
  refine am_wn rfl ?_
  exact am_wc rfl (by decide) (by decide) rfl k
theorem b_44_12 {sc : Int → Int} {σ : St} {Q : Ou → St → Nat → Prop} (z1 : Int) (z2 : Int) (z3 : Int) (s0 : Int) (s1 : Int) (k1 : (s1 ≤ s0) → am_wp sc 44 48 [.inr (.inl 0), .inl z1, .inl z2, .inl z3] [] σ Q) (k2 : ¬ (s1 ≤ s0) → am_wp sc 44 15 [.inr (.inl 0), .inl z1, .inl z2, .inl z3] [] σ Q) : am_wp sc 44 12 [.inr (.inl 0), .inl z1, .inl z2, .inl z3] [.inl s1, .inl s0] σ Q := by
  exact ar_br (c := s1 ≤ s0) rfl k1 k2
theorem b_44_15 {sc : Int → Int} {σ : St} {Q : Ou → St → Nat → Prop} (z1 : Int) (z2 : Int) (z3 : Int) (h0 : 0 ≤ z3 ∧ z3 < 90) (k1 : ((σ 3 z3) ≠ 1) → am_wp sc 44 42 [.inr (.inl 0), .inl z1, .inl z2, .inl z3] [] σ Q) (k2 : ¬ ((σ 3 z3) ≠ 1) → am_wp sc 44 25 [.inr (.inl 0), .inl z1, .inl z2, .inl z3] [] σ Q) : am_wp sc 44 15 [.inr (.inl 0), .inl z1, .inl z2, .inl z3] [] σ Q := by
  refine am_wn rfl ?_
  refine am_wn rfl ?_
  refine am_wn rfl ?_
  refine ar_iald rfl rfl h0 ?_
  refine am_wn rfl ?_
  exact ar_br (c := (σ 3 z3) ≠ 1) rfl k1 k2
theorem b_44_25 {sc : Int → Int} {σ : St} {Q : Ou → St → Nat → Prop} (z1 : Int) (z2 : Int) (z3 : Int) (h0 : 0 ≤ z3 ∧ z3 < 90) (h1 : 0 ≤ (σ 2 z3) ∧ (σ 2 z3) < 15) (k1 : ((σ 13 (σ 2 z3)) ≠ z2) → am_wp sc 44 42 [.inr (.inl 0), .inl z1, .inl z2, .inl z3] [] σ Q) (k2 : ¬ ((σ 13 (σ 2 z3)) ≠ z2) → am_wp sc 44 40 [.inr (.inl 0), .inl z1, .inl z2, .inl z3] [] σ Q) : am_wp sc 44 25 [.inr (.inl 0), .inl z1, .inl z2, .inl z3] [] σ Q := by
  refine am_wn rfl ?_
  refine am_wn rfl ?_
  refine am_wn rfl ?_
  refine am_wn rfl ?_
  refine am_wn rfl ?_
  refine ar_iald rfl rfl h0 ?_
  refine ar_iald rfl rfl h1 ?_
  refine am_wn rfl ?_
  exact ar_br (c := (σ 13 (σ 2 z3)) ≠ z2) rfl k1 k2
theorem b_44_40 {sc : Int → Int} {σ : St} {Q : Ou → St → Nat → Prop} (z1 : Int) (z2 : Int) (z3 : Int) (k : Q (.inl (some 1)) σ 0) : am_wp sc 44 40 [.inr (.inl 0), .inl z1, .inl z2, .inl z3] [] σ Q := by
  refine am_wn rfl ?_
  exact am_w61 rfl (Or.inr rfl) k
theorem b_44_42 {sc : Int → Int} {σ : St} {Q : Ou → St → Nat → Prop} (z1 : Int) (z2 : Int) (z3 : Int) (h0 : am_R (z3 + 1)) (k : am_wp sc 44 6 [.inr (.inl 0), .inl z1, .inl z2, .inl (z3 + 1)] [] σ Q) : am_wp sc 44 42 [.inr (.inl 0), .inl z1, .inl z2, .inl z3] [] σ Q := by
  refine ar_inc (L' := [.inr (.inl 0), .inl z1, .inl z2, .inl (z3 + 1)]) rfl rfl h0 rfl ?_
  refine am_wn rfl ?_
  exact k
theorem b_44_48 {sc : Int → Int} {σ : St} {Q : Ou → St → Nat → Prop} (z1 : Int) (z2 : Int) (z3 : Int) (k : Q (.inl (some 0)) σ 0) : am_wp sc 44 48 [.inr (.inl 0), .inl z1, .inl z2, .inl z3] [] σ Q := by
  refine am_wn rfl ?_
  exact am_w61 rfl (Or.inl rfl) k
/-! SlidingHeap.nearestStart -/
theorem b_45_0 {sc : Int → Int} {σ : St} {Q : Ou → St → Nat → Prop} (v1 : AV) (v2 : AV) (k : am_wp sc 45 4 [.inr (.inl 0), .inl (-1), .inl 0] [] σ Q) : am_wp sc 45 0 [.inr (.inl 0), v1, v2] [] σ Q := by
  refine am_wn rfl ?_
  refine am_wn rfl ?_
  refine am_wn rfl ?_
  refine am_wn rfl ?_
  exact k
theorem b_45_4 {sc : Int → Int} {σ : St} {Q : Ou → St → Nat → Prop} (z1 : Int) (z2 : Int) (k1 : ((σ 32 0) ≤ z2) → am_wp sc 45 30 [.inr (.inl 0), .inl z1, .inl z2] [] σ Q) (k2 : ¬ ((σ 32 0) ≤ z2) → am_wp sc 45 12 [.inr (.inl 0), .inl z1, .inl z2] [] σ Q) : am_wp sc 45 4 [.inr (.inl 0), .inl z1, .inl z2] [] σ Q := by
  refine am_wn rfl ?_
  refine am_wn rfl ?_
  refine am_wn rfl ?_
  exact ar_br (c := (σ 32 0) ≤ z2) rfl k1 k2
theorem b_45_12 {sc : Int → Int} {σ : St} {Q : Ou → St → Nat → Prop} (z1 : Int) (z2 : Int) (h0 : 0 ≤ z2 ∧ z2 < 10) (k : am_wp sc 46 0 [.inr (.inl 0), .inl z1, .inl (σ 9 z2)] [] σ (am_bk sc 45 20 [.inr (.inl 0), .inl z1, .inl z2] [] Q)) : am_wp sc 45 12 [.inr (.inl 0), .inl z1, .inl z2] [] σ Q := by
  refine am_wn rfl ?_
  refine am_wn rfl ?_
  refine am_wn rfl ?_
  refine am_wn rfl ?_
  refine am_wn rfl ?_
  refine ar_iald rfl rfl h0 ?_
  exact am_wc rfl (by decide) (by decide) rfl k
theorem b_45_23 {sc : Int → Int} {σ : St} {Q : Ou → St → Nat → Prop} (z1 : Int) (z2 : Int) (s0 : Int) (h0 : am_R (z2 + 1)) (k : am_wp sc 45 4 [.inr (.inl 0), .inl s0, .inl (z2 + 1)] [] σ Q) : am_wp sc 45 23 [.inr (.inl 0), .inl z1, .inl z2] [.inl s0] σ Q := by
  refine am_wn rfl ?_
  refine ar_inc (L' := [.inr (.inl 0), .inl s0, .inl (z2 + 1)]) rfl rfl h0 rfl ?_
  refine am_wn rfl ?_
  exact k
theorem b_45_30 {sc : Int → Int} {σ : St} {Q : Ou → St → Nat → Prop} (z1 : Int) (z2 : Int) (k : am_wp sc 45 32 [.inr (.inl 0), .inl z1, .inl 0] [] σ Q) : am_wp sc 45 30 [.inr (.inl 0), .inl z1, .inl z2] [] σ Q := by
  refine am_wn rfl ?_
  refine am_wn rfl ?_
  exact k
theorem b_45_32 {sc : Int → Int} {σ : St} {Q : Ou → St → Nat → Prop} (z1 : Int) (z2 : Int) (k1 : ((σ 33 0) ≤ z2) → am_wp sc 45 58 [.inr (.inl 0), .inl z1, .inl z2] [] σ Q) (k2 : ¬ ((σ 33 0) ≤ z2) → am_wp sc 45 40 [.inr (.inl 0), .inl z1, .inl z2] [] σ Q) : am_wp sc 45 32 [.inr (.inl 0), .inl z1, .inl z2] [] σ Q := by
  refine am_wn rfl ?_
  refine am_wn rfl ?_
  refine am_wn rfl ?_
  exact ar_br (c := (σ 33 0) ≤ z2) rfl k1 k2
theorem b_45_40 {sc : Int → Int} {σ : St} {Q : Ou → St → Nat → Prop} (z1 : Int) (z2 : Int) (h0 : 0 ≤ z2 ∧ z2 < 14) (k : am_wp sc 46 0 [.inr (.inl 0), .inl z1, .inl (σ 10 z2)] [] σ (am_bk sc 45 48 [.inr (.inl 0), .inl z1, .inl z2] [] Q)) : am_wp sc 45 40 [.inr (.inl 0), .inl z1, .inl z2] [] σ Q := by
  refine am_wn rfl ?_
  refine am_wn rfl ?_
  refine am_wn rfl ?_
  refine am_wn rfl ?_
  refine am_wn rfl ?_
  refine ar_iald rfl rfl h0 ?_
  exact am_wc rfl (by decide) (by decide) rfl k
theorem b_45_51 {sc : Int → Int} {σ : St} {Q : Ou → St → Nat → Prop} (z1 : Int) (z2 : Int) (s0 : Int) (h0 : am_R (z2 + 1)) (k : am_wp sc 45 32 [.inr (.inl 0), .inl s0, .inl (z2 + 1)] [] σ Q) : am_wp sc 45 51 [.inr (.inl 0), .inl z1, .inl z2] [.inl s0] σ Q := by
  refine am_wn rfl ?_
  refine ar_inc (L' := [.inr (.inl 0), .inl s0, .inl (z2 + 1)]) rfl rfl h0 rfl ?_
  refine am_wn rfl ?_
  exact k
theorem b_45_58 {sc : Int → Int} {σ : St} {Q : Ou → St → Nat → Prop} (z1 : Int) (z2 : Int) (k : Q (.inl (some z1)) σ 0) : am_wp sc 45 58 [.inr (.inl 0), .inl z1, .inl z2] [] σ Q := by
  refine am_wn rfl ?_
  exact am_w60 rfl k
/-! SlidingHeap.nearer -/
theorem b_46_0 {sc : Int → Int} {σ : St} {Q : Ou → St → Nat → Prop} (z1 : Int) (z2 : Int) (h0 : 0 ≤ z2 ∧ z2 < 15) (k1 : ((σ 13 z2) ≠ (-1)) → am_wp sc 46 12 [.inr (.inl 0), .inl z1, .inl z2] [] σ Q) (k2 : ¬ ((σ 13 z2) ≠ (-1)) → am_wp sc 46 10 [.inr (.inl 0), .inl z1, .inl z2] [] σ Q) : am_wp sc 46 0 [.inr (.inl 0), .inl z1, .inl z2] [] σ Q := by
  refine am_wn rfl ?_
  refine am_wn rfl ?_
  refine am_wn rfl ?_
  refine ar_iald rfl rfl h0 ?_
  refine am_wn rfl ?_
  exact ar_br (c := (σ 13 z2) ≠ (-1)) rfl k1 k2
theorem b_46_10 {sc : Int → Int} {σ : St} {Q : Ou → St → Nat → Prop} (z1 : Int) (z2 : Int) (k : Q (.inl (some z1)) σ 0) : am_wp sc 46 10 [.inr (.inl 0), .inl z1, .inl z2] [] σ Q := by
  refine am_wn rfl ?_
  exact am_w60 rfl k
theorem b_46_12 {sc : Int → Int} {σ : St} {Q : Ou → St → Nat → Prop} (z1 : Int) (z2 : Int) (k1 : (z1 = (-1)) → am_wp sc 46 32 [.inr (.inl 0), .inl z1, .inl z2] [] σ Q) (k2 : ¬ (z1 = (-1)) → am_wp sc 46 17 [.inr (.inl 0), .inl z1, .inl z2] [] σ Q) : am_wp sc 46 12 [.inr (.inl 0), .inl z1, .inl z2] [] σ Q := by
  refine am_wn rfl ?_
  refine am_wn rfl ?_
  exact ar_br (c := z1 = (-1)) rfl k1 k2
theorem b_46_17 {sc : Int → Int} {σ : St} {Q : Ou → St → Nat → Prop} (z1 : Int) (z2 : Int) (h0 : 0 ≤ z2 ∧ z2 < 15) (h1 : 0 ≤ z1 ∧ z1 < 15) (k1 : ((σ 13 z1) ≤ (σ 13 z2)) → am_wp sc 46 34 [.inr (.inl 0), .inl z1, .inl z2] [] σ Q) (k2 : ¬ ((σ 13 z1) ≤ (σ 13 z2)) → am_wp sc 46 32 [.inr (.inl 0), .inl z1, .inl z2] [] σ Q) : am_wp sc 46 17 [.inr (.inl 0), .inl z1, .inl z2] [] σ Q := by
  refine am_wn rfl ?_
  refine am_wn rfl ?_
  refine am_wn rfl ?_
  refine ar_iald rfl rfl h0 ?_
  refine am_wn rfl ?_
  refine am_wn rfl ?_
  refine am_wn rfl ?_
  refine ar_iald rfl rfl h1 ?_
  exact ar_br (c := (σ 13 z1) ≤ (σ 13 z2)) rfl k1 k2
theorem b_46_32 {sc : Int → Int} {σ : St} {Q : Ou → St → Nat → Prop} (z1 : Int) (z2 : Int) (k : Q (.inl (some z2)) σ 0) : am_wp sc 46 32 [.inr (.inl 0), .inl z1, .inl z2] [] σ Q := by
  refine am_wn rfl ?_
  exact am_w60 rfl k
theorem b_46_34 {sc : Int → Int} {σ : St} {Q : Ou → St → Nat → Prop} (z1 : Int) (z2 : Int) (h0 : 0 ≤ z2 ∧ z2 < 15) (h1 : 0 ≤ z1 ∧ z1 < 15) (k1 : ((σ 13 z2) ≠ (σ 13 z1)) → am_wp sc 46 57 [.inr (.inl 0), .inl z1, .inl z2] [] σ Q) (k2 : ¬ ((σ 13 z2) ≠ (σ 13 z1)) → am_wp sc 46 49 [.inr (.inl 0), .inl z1, .inl z2] [] σ Q) : am_wp sc 46 34 [.inr (.inl 0), .inl z1, .inl z2] [] σ Q := by
  refine am_wn rfl ?_
  refine am_wn rfl ?_
  refine am_wn rfl ?_
  refine ar_iald rfl rfl h0 ?_
  refine am_wn rfl ?_
  refine am_wn rfl ?_
  refine am_wn rfl ?_
  refine ar_iald rfl rfl h1 ?_
  exact ar_br (c := (σ 13 z2) ≠ (σ 13 z1)) rfl k1 k2
theorem b_46_49 {sc : Int → Int} {σ : St} {Q : Ou → St → Nat → Prop} (z1 : Int) (z2 : Int) (k : am_wp sc 46 58 [.inr (.inl 0), .inl z1, .inl z2] [.inl (if z2 < z1 then z2 else z1)] σ Q) : am_wp sc 46 49 [.inr (.inl 0), .inl z1, .inl z2] [] σ Q := by
  refine am_wn rfl ?_
  refine am_wn rfl ?_
  refine am_wn rfl ?_
  refine am_wn rfl ?_
  exact k
theorem b_46_57 {sc : Int → Int} {σ : St} {Q : Ou → St → Nat → Prop} (z1 : Int) (z2 : Int) (k : am_wp sc 46 58 [.inr (.inl 0), .inl z1, .inl z2] [.inl z1] σ Q) : am_wp sc 46 57 [.inr (.inl 0), .inl z1, .inl z2] [] σ Q := by
  refine am_wn rfl ?_
  exact k
theorem b_46_58 {sc : Int → Int} {σ : St} {Q : Ou → St → Nat → Prop} (z1 : Int) (z2 : Int) (s0 : Int) (k : Q (.inl (some s0)) σ 0) : am_wp sc 46 58 [.inr (.inl 0), .inl z1, .inl z2] [.inl s0] σ Q := by
  exact am_w60 rfl k
/-! SlidingHeap.nextOnWay -/
theorem b_47_0 {sc : Int → Int} {σ : St} {Q : Ou → St → Nat → Prop} (z1 : Int) (v2 : AV) (v3 : AV) (k : am_wp sc 21 0 [.inr (.inl 0), .inl z1] [] σ (am_bk sc 47 4 [.inr (.inl 0), .inl z1, .inl (-1), v3] [] Q)) : am_wp sc 47 0 [.inr (.inl 0), .inl z1, v2, v3] [] σ Q := by
  refine am_wn rfl ?_
  refine am_wn rfl ?_
  refine am_wn rfl ?_
  refine am_wn rfl ?_
  exact am_wc rfl (by decide) (by decide) rfl k
theorem b_47_7 {sc : Int → Int} {σ : St} {Q : Ou → St → Nat → Prop} (z1 : Int) (z2 : Int) (v3 : AV) (s0 : Int) (k : am_wp sc 47 8 [.inr (.inl 0), .inl z1, .inl z2, .inl s0] [] σ Q) : am_wp sc 47 7 [.inr (.inl 0), .inl z1, .inl z2, v3] [.inl s0] σ Q := by
  refine am_wn rfl ?_
  exact k
theorem b_47_8 {sc : Int → Int} {σ : St} {Q : Ou → St → Nat → Prop} (z1 : Int) (z2 : Int) (z3 : Int) (k : am_wp sc 23 0 [.inr (.inl 0), .inl z1] [] σ (am_bk sc 47 11 [.inr (.inl 0), .inl z1, .inl z2, .inl z3] [.inl z3] Q)) : am_wp sc 47 8 [.inr (.inl 0), .inl z1, .inl z2, .inl z3] [] σ Q := by
  refine am_wn rfl ?_
  refine am_wn rfl ?_
  refine am_wn rfl ?_
  exact am_wc rfl (by decide) (by decide) rfl k
theorem b_47_14 {sc : Int → Int} {σ : St} {Q : Ou → St → Nat → Prop} (z1 : Int) (z2 : Int) (z3 : Int) (s0 : Int) (s1 : Int) (k1 : (s1 ≤ s0) → am_wp sc 47 80 [.inr (.inl 0), .inl z1, .inl z2, .inl z3] [] σ Q) (k2 : ¬ (s1 ≤ s0) → am_wp sc 47 17 [.inr (.inl 0), .inl z1, .inl z2, .inl z3] [] σ Q) : am_wp sc 47 14 [.inr (.inl 0), .inl z1, .inl z2, .inl z3] [.inl s1, .inl s0] σ Q := by
  exact ar_br (c := s1 ≤ s0) rfl k1 k2
theorem b_47_17 {sc : Int → Int} {σ : St} {Q : Ou → St → Nat → Prop} (z1 : Int) (z2 : Int) (z3 : Int) (h0 : 0 ≤ z3 ∧ z3 < 90) (k1 : ((σ 3 z3) ≠ 1) → am_wp sc 47 74 [.inr (.inl 0), .inl z1, .inl z2, .inl z3] [] σ Q) (k2 : ¬ ((σ 3 z3) ≠ 1) → am_wp sc 47 27 [.inr (.inl 0), .inl z1, .inl z2, .inl z3] [] σ Q) : am_wp sc 47 17 [.inr (.inl 0), .inl z1, .inl z2, .inl z3] [] σ Q := by
  refine am_wn rfl ?_
  refine am_wn rfl ?_
  refine am_wn rfl ?_
  refine ar_iald rfl rfl h0 ?_
  refine am_wn rfl ?_
  exact ar_br (c := (σ 3 z3) ≠ 1) rfl k1 k2
theorem b_47_27 {sc : Int → Int} {σ : St} {Q : Ou → St → Nat → Prop} (z1 : Int) (z2 : Int) (z3 : Int) (h0 : 0 ≤ z3 ∧ z3 < 90) (h1 : 0 ≤ (σ 2 z3) ∧ (σ 2 z3) < 15) (h2 : 0 ≤ z1 ∧ z1 < 15) (h3 : am_R ((σ 13 z1) - 1)) (k1 : ((σ 13 (σ 2 z3)) ≠ ((σ 13 z1) - 1)) → am_wp sc 47 74 [.inr (.inl 0), .inl z1, .inl z2, .inl z3] [] σ Q) (k2 : ¬ ((σ 13 (σ 2 z3)) ≠ ((σ 13 z1) - 1)) → am_wp sc 47 49 [.inr (.inl 0), .inl z1, .inl z2, .inl z3] [] σ Q) : am_wp sc 47 27 [.inr (.inl 0), .inl z1, .inl z2, .inl z3] [] σ Q := by
  refine am_wn rfl ?_
  refine am_wn rfl ?_
  refine am_wn rfl ?_
  refine am_wn rfl ?_
  refine am_wn rfl ?_
  refine ar_iald rfl rfl h0 ?_
  refine ar_iald rfl rfl h1 ?_
  refine am_wn rfl ?_
  refine am_wn rfl ?_
  refine am_wn rfl ?_
  refine ar_iald rfl rfl h2 ?_
  refine am_wn rfl ?_
  refine ar_sub rfl h3 ?_
  exact ar_br (c := (σ 13 (σ 2 z3)) ≠ ((σ 13 z1) - 1)) rfl k1 k2
theorem b_47_49 {sc : Int → Int} {σ : St} {Q : Ou → St → Nat → Prop} (z1 : Int) (z2 : Int) (z3 : Int) (k1 : (z2 ≠ (-1)) → am_wp sc 47 63 [.inr (.inl 0), .inl z1, .inl z2, .inl z3] [] σ Q) (k2 : ¬ (z2 ≠ (-1)) → am_wp sc 47 54 [.inr (.inl 0), .inl z1, .inl z2, .inl z3] [] σ Q) : am_wp sc 47 49 [.inr (.inl 0), .inl z1, .inl z2, .inl z3] [] σ Q := by
  refine am_wn rfl ?_
  refine am_wn rfl ?_
  exact ar_br (c := z2 ≠ (-1)) rfl k1 k2
theorem b_47_54 {sc : Int → Int} {σ : St} {Q : Ou → St → Nat → Prop} (z1 : Int) (z2 : Int) (z3 : Int) (h0 : 0 ≤ z3 ∧ z3 < 90) (k : am_wp sc 47 73 [.inr (.inl 0), .inl z1, .inl z2, .inl z3] [.inl (σ 2 z3)] σ Q) : am_wp sc 47 54 [.inr (.inl 0), .inl z1, .inl z2, .inl z3] [] σ Q := by
  refine am_wn rfl ?_
  refine am_wn rfl ?_
  refine am_wn rfl ?_
  refine ar_iald rfl rfl h0 ?_
  refine am_wn rfl ?_
  exact k
theorem b_47_63 {sc : Int → Int} {σ : St} {Q : Ou → St → Nat → Prop} (z1 : Int) (z2 : Int) (z3 : Int) (h0 : 0 ≤ z3 ∧ z3 < 90) (k : am_wp sc 47 73 [.inr (.inl 0), .inl z1, .inl z2, .inl z3] [.inl (if (σ 2 z3) < z2 then (σ 2 z3) else z2)] σ Q) : am_wp sc 47 63 [.inr (.inl 0), .inl z1, .inl z2, .inl z3] [] σ Q := by
  refine am_wn rfl ?_
  refine am_wn rfl ?_
  refine am_wn rfl ?_
  refine am_wn rfl ?_
  refine ar_iald rfl rfl h0 ?_
  refine am_wn rfl ?_
  exact k
theorem b_47_73 {sc : Int → Int} {σ : St} {Q : Ou → St → Nat → Prop} (z1 : Int) (z2 : Int) (z3 : Int) (s0 : Int) (k : am_wp sc 47 74 [.inr (.inl 0), .inl z1, .inl s0, .inl z3] [] σ Q) : am_wp sc 47 73 [.inr (.inl 0), .inl z1, .inl z2, .inl z3] [.inl s0] σ Q := by
  refine am_wn rfl ?_
  exact k
theorem b_47_74 {sc : Int → Int} {σ : St} {Q : Ou → St → Nat → Prop} (z1 : Int) (z2 : Int) (z3 : Int) (h0 : am_R (z3 + 1)) (k : am_wp sc 47 8 [.inr (.inl 0), .inl z1, .inl z2, .inl (z3 + 1)] [] σ Q) : am_wp sc 47 74 [.inr (.inl 0), .inl z1, .inl z2, .inl z3] [] σ Q := by
  refine ar_inc (L' := [.inr (.inl 0), .inl z1, .inl z2, .inl (z3 + 1)]) rfl rfl h0 rfl ?_
  refine am_wn rfl ?_
  exact k
theorem b_47_80 {sc : Int → Int} {σ : St} {Q : Ou → St → Nat → Prop} (z1 : Int) (z2 : Int) (z3 : Int) (k : Q (.inl (some z2)) σ 0) : am_wp sc 47 80 [.inr (.inl 0), .inl z1, .inl z2, .inl z3] [] σ Q := by
  refine am_wn rfl ?_
  exact am_w60 rfl k
end
section
/-! SlidingHeapModel.thrown -/
theorem b_48_0 {sc : Int → Int} {σ : St} {Q : Ou → St → Nat → Prop}  (k : Q (.inl (some (σ 40 0))) σ 0) : am_wp sc 48 0 [.inr (.inl 1)] [] σ Q := by
  refine am_wn rfl ?_
  refine am_wn rfl ?_
  exact am_w60 rfl k
/-! SlidingHeapModel.refused -/
theorem b_49_0 {sc : Int → Int} {σ : St} {Q : Ou → St → Nat → Prop} (z1 : Int) (k1 : (z1 ≤ 0) → am_wp sc 49 13 [.inr (.inl 1), .inl z1] [] (am_up σ 40 0 z1) Q) (k2 : ¬ (z1 ≤ 0) → am_wp sc 49 9 [.inr (.inl 1), .inl z1] [] (am_up σ 40 0 z1) Q) : am_wp sc 49 0 [.inr (.inl 1), .inl z1] [] σ Q := by
  refine am_wn rfl ?_
  refine am_wn rfl ?_
  refine am_wn rfl ?_
  refine am_wn rfl ?_
  exact ar_br (c := z1 ≤ 0) rfl k1 k2
theorem b_49_9 {sc : Int → Int} {σ : St} {Q : Ou → St → Nat → Prop} (z1 : Int) (k : am_wp sc 49 14 [.inr (.inl 1), .inl z1] [.inl 1] σ Q) : am_wp sc 49 9 [.inr (.inl 1), .inl z1] [] σ Q := by
  refine am_wn rfl ?_
  refine am_wn rfl ?_
  exact k
theorem b_49_13 {sc : Int → Int} {σ : St} {Q : Ou → St → Nat → Prop} (z1 : Int) (k : am_wp sc 49 14 [.inr (.inl 1), .inl z1] [.inl 0] σ Q) : am_wp sc 49 13 [.inr (.inl 1), .inl z1] [] σ Q := by
  refine am_wn rfl ?_
  exact k
theorem b_49_14 {sc : Int → Int} {σ : St} {Q : Ou → St → Nat → Prop} (z1 : Int) (s0 : Int) (h0 : s0 = 0 ∨ s0 = 1) (k : Q (.inl (some s0)) σ 0) : am_wp sc 49 14 [.inr (.inl 1), .inl z1] [.inl s0] σ Q := by
  exact am_w61 rfl h0 k
/-! SlidingHeapModel.isObject -/
theorem b_50_0 {sc : Int → Int} {σ : St} {Q : Ou → St → Nat → Prop} (z1 : Int) (k1 : (z1 < 1) → am_wp sc 50 24 [.inr (.inl 1), .inl z1] [] σ Q) (k2 : ¬ (z1 < 1) → am_wp sc 50 5 [.inr (.inl 1), .inl z1] [] σ Q) : am_wp sc 50 0 [.inr (.inl 1), .inl z1] [] σ Q := by
  refine am_wn rfl ?_
  refine am_wn rfl ?_
  exact ar_br (c := z1 < 1) rfl k1 k2
theorem b_50_5 {sc : Int → Int} {σ : St} {Q : Ou → St → Nat → Prop} (z1 : Int) (k1 : (14 < z1) → am_wp sc 50 24 [.inr (.inl 1), .inl z1] [] σ Q) (k2 : ¬ (14 < z1) → am_wp sc 50 11 [.inr (.inl 1), .inl z1] [] σ Q) : am_wp sc 50 5 [.inr (.inl 1), .inl z1] [] σ Q := by
  refine am_wn rfl ?_
  refine am_wn rfl ?_
  exact ar_br (c := 14 < z1) rfl k1 k2
theorem b_50_11 {sc : Int → Int} {σ : St} {Q : Ou → St → Nat → Prop} (z1 : Int) (h0 : 0 ≤ z1 ∧ z1 < 15) (k1 : ((σ 15 z1) = 0) → am_wp sc 50 24 [.inr (.inl 1), .inl z1] [] σ Q) (k2 : ¬ ((σ 15 z1) = 0) → am_wp sc 50 20 [.inr (.inl 1), .inl z1] [] σ Q) : am_wp sc 50 11 [.inr (.inl 1), .inl z1] [] σ Q := by
  refine am_wn rfl ?_
  refine am_wn rfl ?_
  refine am_wn rfl ?_
  refine ar_bald rfl rfl h0 ?_
  exact ar_br (c := (σ 15 z1) = 0) rfl k1 k2
theorem b_50_20 {sc : Int → Int} {σ : St} {Q : Ou → St → Nat → Prop} (z1 : Int) (k : am_wp sc 50 25 [.inr (.inl 1), .inl z1] [.inl 1] σ Q) : am_wp sc 50 20 [.inr (.inl 1), .inl z1] [] σ Q := by
  refine am_wn rfl ?_
  refine am_wn rfl ?_
  exact k
theorem b_50_24 {sc : Int → Int} {σ : St} {Q : Ou → St → Nat → Prop} (z1 : Int) (k : am_wp sc 50 25 [.inr (.inl 1), .inl z1] [.inl 0] σ Q) : am_wp sc 50 24 [.inr (.inl 1), .inl z1] [] σ Q := by
  refine am_wn rfl ?_
  exact k
theorem b_50_25 {sc : Int → Int} {σ : St} {Q : Ou → St → Nat → Prop} (z1 : Int) (s0 : Int) (h0 : s0 = 0 ∨ s0 = 1) (k : Q (.inl (some s0)) σ 0) : am_wp sc 50 25 [.inr (.inl 1), .inl z1] [.inl s0] σ Q := by
  exact am_w61 rfl h0 k
/-! SlidingHeapModel.isSlot -/
theorem b_51_0 {sc : Int → Int} {σ : St} {Q : Ou → St → Nat → Prop} (z1 : Int) (z2 : Int) (k : am_wp sc 50 0 [.inr (.inl 1), .inl z1] [] σ (am_bk sc 51 2 [.inr (.inl 1), .inl z1, .inl z2] [] Q)) : am_wp sc 51 0 [.inr (.inl 1), .inl z1, .inl z2] [] σ Q := by
  refine am_wn rfl ?_
  refine am_wn rfl ?_
  exact am_wc rfl (by decide) (by decide) rfl k
theorem b_51_5 {sc : Int → Int} {σ : St} {Q : Ou → St → Nat → Prop} (z1 : Int) (z2 : Int) (s0 : Int) (k1 : (s0 = 0) → am_wp sc 51 26 [.inr (.inl 1), .inl z1, .inl z2] [] σ Q) (k2 : ¬ (s0 = 0) → am_wp sc 51 8 [.inr (.inl 1), .inl z1, .inl z2] [] σ Q) : am_wp sc 51 5 [.inr (.inl 1), .inl z1, .inl z2] [.inl s0] σ Q := by
  exact ar_br (c := s0 = 0) rfl k1 k2
theorem b_51_8 {sc : Int → Int} {σ : St} {Q : Ou → St → Nat → Prop} (z1 : Int) (z2 : Int) (k1 : (z2 < 0) → am_wp sc 51 26 [.inr (.inl 1), .inl z1, .inl z2] [] σ Q) (k2 : ¬ (z2 < 0) → am_wp sc 51 12 [.inr (.inl 1), .inl z1, .inl z2] [] σ Q) : am_wp sc 51 8 [.inr (.inl 1), .inl z1, .inl z2] [] σ Q := by
  refine am_wn rfl ?_
  exact ar_br (c := z2 < 0) rfl k1 k2
theorem b_51_12 {sc : Int → Int} {σ : St} {Q : Ou → St → Nat → Prop} (z1 : Int) (z2 : Int) (h0 : 0 ≤ z1 ∧ z1 < 15) (k1 : ((σ 16 z1) ≤ z2) → am_wp sc 51 26 [.inr (.inl 1), .inl z1, .inl z2] [] σ Q) (k2 : ¬ ((σ 16 z1) ≤ z2) → am_wp sc 51 22 [.inr (.inl 1), .inl z1, .inl z2] [] σ Q) : am_wp sc 51 12 [.inr (.inl 1), .inl z1, .inl z2] [] σ Q := by
  refine am_wn rfl ?_
  refine am_wn rfl ?_
  refine am_wn rfl ?_
  refine am_wn rfl ?_
  refine ar_iald rfl rfl h0 ?_
  exact ar_br (c := (σ 16 z1) ≤ z2) rfl k1 k2
theorem b_51_22 {sc : Int → Int} {σ : St} {Q : Ou → St → Nat → Prop} (z1 : Int) (z2 : Int) (k : am_wp sc 51 27 [.inr (.inl 1), .inl z1, .inl z2] [.inl 1] σ Q) : am_wp sc 51 22 [.inr (.inl 1), .inl z1, .inl z2] [] σ Q := by
  refine am_wn rfl ?_
  refine am_wn rfl ?_
  exact k
theorem b_51_26 {sc : Int → Int} {σ : St} {Q : Ou → St → Nat → Prop} (z1 : Int) (z2 : Int) (k : am_wp sc 51 27 [.inr (.inl 1), .inl z1, .inl z2] [.inl 0] σ Q) : am_wp sc 51 26 [.inr (.inl 1), .inl z1, .inl z2] [] σ Q := by
  refine am_wn rfl ?_
  exact k
theorem b_51_27 {sc : Int → Int} {σ : St} {Q : Ou → St → Nat → Prop} (z1 : Int) (z2 : Int) (s0 : Int) (h0 : s0 = 0 ∨ s0 = 1) (k : Q (.inl (some s0)) σ 0) : am_wp sc 51 27 [.inr (.inl 1), .inl z1, .inl z2] [.inl s0] σ Q := by
  exact am_w61 rfl h0 k
/-! SlidingHeapModel.isSource -/
theorem b_52_0 {sc : Int → Int} {σ : St} {Q : Ou → St → Nat → Prop} (z1 : Int) (v2 : AV) (v3 : AV) (k : am_wp sc 52 4 [.inr (.inl 1), .inl z1, .inl 0, .inl 0] [] σ Q) : am_wp sc 52 0 [.inr (.inl 1), .inl z1, v2, v3] [] σ Q := by
  refine am_wn rfl ?_
  refine am_wn rfl ?_
  refine am_wn rfl ?_
  refine am_wn rfl ?_
  exact k
theorem b_52_4 {sc : Int → Int} {σ : St} {Q : Ou → St → Nat → Prop} (z1 : Int) (z2 : Int) (z3 : Int) (k1 : ((σ 42 0) ≤ z3) → am_wp sc 52 38 [.inr (.inl 1), .inl z1, .inl z2, .inl z3] [] σ Q) (k2 : ¬ ((σ 42 0) ≤ z3) → am_wp sc 52 12 [.inr (.inl 1), .inl z1, .inl z2, .inl z3] [] σ Q) : am_wp sc 52 4 [.inr (.inl 1), .inl z1, .inl z2, .inl z3] [] σ Q := by
  refine am_wn rfl ?_
  refine am_wn rfl ?_
  refine am_wn rfl ?_
  exact ar_br (c := (σ 42 0) ≤ z3) rfl k1 k2
theorem b_52_12 {sc : Int → Int} {σ : St} {Q : Ou → St → Nat → Prop} (z1 : Int) (z2 : Int) (z3 : Int) (k1 : (z2 ≠ 0) → am_wp sc 52 26 [.inr (.inl 1), .inl z1, .inl z2, .inl z3] [] σ Q) (k2 : ¬ (z2 ≠ 0) → am_wp sc 52 16 [.inr (.inl 1), .inl z1, .inl z2, .inl z3] [] σ Q) : am_wp sc 52 12 [.inr (.inl 1), .inl z1, .inl z2, .inl z3] [] σ Q := by
  refine am_wn rfl ?_
  exact ar_br (c := z2 ≠ 0) rfl k1 k2
theorem b_52_16 {sc : Int → Int} {σ : St} {Q : Ou → St → Nat → Prop} (z1 : Int) (z2 : Int) (z3 : Int) (h0 : 0 ≤ z3 ∧ z3 < 10) (k1 : ((σ 21 z3) ≠ z1) → am_wp sc 52 30 [.inr (.inl 1), .inl z1, .inl z2, .inl z3] [] σ Q) (k2 : ¬ ((σ 21 z3) ≠ z1) → am_wp sc 52 26 [.inr (.inl 1), .inl z1, .inl z2, .inl z3] [] σ Q) : am_wp sc 52 16 [.inr (.inl 1), .inl z1, .inl z2, .inl z3] [] σ Q := by
  refine am_wn rfl ?_
  refine am_wn rfl ?_
  refine am_wn rfl ?_
  refine ar_iald rfl rfl h0 ?_
  refine am_wn rfl ?_
  exact ar_br (c := (σ 21 z3) ≠ z1) rfl k1 k2
theorem b_52_26 {sc : Int → Int} {σ : St} {Q : Ou → St → Nat → Prop} (z1 : Int) (z2 : Int) (z3 : Int) (k : am_wp sc 52 31 [.inr (.inl 1), .inl z1, .inl z2, .inl z3] [.inl 1] σ Q) : am_wp sc 52 26 [.inr (.inl 1), .inl z1, .inl z2, .inl z3] [] σ Q := by
  refine am_wn rfl ?_
  refine am_wn rfl ?_
  exact k
theorem b_52_30 {sc : Int → Int} {σ : St} {Q : Ou → St → Nat → Prop} (z1 : Int) (z2 : Int) (z3 : Int) (k : am_wp sc 52 31 [.inr (.inl 1), .inl z1, .inl z2, .inl z3] [.inl 0] σ Q) : am_wp sc 52 30 [.inr (.inl 1), .inl z1, .inl z2, .inl z3] [] σ Q := by
  refine am_wn rfl ?_
  exact k
theorem b_52_31 {sc : Int → Int} {σ : St} {Q : Ou → St → Nat → Prop} (z1 : Int) (z2 : Int) (z3 : Int) (s0 : Int) (h0 : am_R (z3 + 1)) (k : am_wp sc 52 4 [.inr (.inl 1), .inl z1, .inl s0, .inl (z3 + 1)] [] σ Q) : am_wp sc 52 31 [.inr (.inl 1), .inl z1, .inl z2, .inl z3] [.inl s0] σ Q := by
  refine am_wn rfl ?_
  refine ar_inc (L' := [.inr (.inl 1), .inl z1, .inl s0, .inl (z3 + 1)]) rfl rfl h0 rfl ?_
  refine am_wn rfl ?_
  exact k
theorem b_52_38 {sc : Int → Int} {σ : St} {Q : Ou → St → Nat → Prop} (z1 : Int) (z2 : Int) (z3 : Int) (k : am_wp sc 52 40 [.inr (.inl 1), .inl z1, .inl z2, .inl 0] [] σ Q) : am_wp sc 52 38 [.inr (.inl 1), .inl z1, .inl z2, .inl z3] [] σ Q := by
  refine am_wn rfl ?_
  refine am_wn rfl ?_
  exact k
theorem b_52_40 {sc : Int → Int} {σ : St} {Q : Ou → St → Nat → Prop} (z1 : Int) (z2 : Int) (z3 : Int) (k1 : ((σ 43 0) ≤ z3) → am_wp sc 52 74 [.inr (.inl 1), .inl z1, .inl z2, .inl z3] [] σ Q) (k2 : ¬ ((σ 43 0) ≤ z3) → am_wp sc 52 48 [.inr (.inl 1), .inl z1, .inl z2, .inl z3] [] σ Q) : am_wp sc 52 40 [.inr (.inl 1), .inl z1, .inl z2, .inl z3] [] σ Q := by
  refine am_wn rfl ?_
  refine am_wn rfl ?_
  refine am_wn rfl ?_
  exact ar_br (c := (σ 43 0) ≤ z3) rfl k1 k2
theorem b_52_48 {sc : Int → Int} {σ : St} {Q : Ou → St → Nat → Prop} (z1 : Int) (z2 : Int) (z3 : Int) (k1 : (z2 ≠ 0) → am_wp sc 52 62 [.inr (.inl 1), .inl z1, .inl z2, .inl z3] [] σ Q) (k2 : ¬ (z2 ≠ 0) → am_wp sc 52 52 [.inr (.inl 1), .inl z1, .inl z2, .inl z3] [] σ Q) : am_wp sc 52 48 [.inr (.inl 1), .inl z1, .inl z2, .inl z3] [] σ Q := by
  refine am_wn rfl ?_
  exact ar_br (c := z2 ≠ 0) rfl k1 k2
theorem b_52_52 {sc : Int → Int} {σ : St} {Q : Ou → St → Nat → Prop} (z1 : Int) (z2 : Int) (z3 : Int) (h0 : 0 ≤ z3 ∧ z3 < 15) (k1 : ((σ 22 z3) ≠ z1) → am_wp sc 52 66 [.inr (.inl 1), .inl z1, .inl z2, .inl z3] [] σ Q) (k2 : ¬ ((σ 22 z3) ≠ z1) → am_wp sc 52 62 [.inr (.inl 1), .inl z1, .inl z2, .inl z3] [] σ Q) : am_wp sc 52 52 [.inr (.inl 1), .inl z1, .inl z2, .inl z3] [] σ Q := by
  refine am_wn rfl ?_
  refine am_wn rfl ?_
  refine am_wn rfl ?_
  refine ar_iald rfl rfl h0 ?_
  refine am_wn rfl ?_
  exact ar_br (c := (σ 22 z3) ≠ z1) rfl k1 k2
theorem b_52_62 {sc : Int → Int} {σ : St} {Q : Ou → St → Nat → Prop} (z1 : Int) (z2 : Int) (z3 : Int) (k : am_wp sc 52 67 [.inr (.inl 1), .inl z1, .inl z2, .inl z3] [.inl 1] σ Q) : am_wp sc 52 62 [.inr (.inl 1), .inl z1, .inl z2, .inl z3] [] σ Q := by
  refine am_wn rfl ?_
  refine am_wn rfl ?_
  exact k
theorem b_52_66 {sc : Int → Int} {σ : St} {Q : Ou → St → Nat → Prop} (z1 : Int) (z2 : Int) (z3 : Int) (k : am_wp sc 52 67 [.inr (.inl 1), .inl z1, .inl z2, .inl z3] [.inl 0] σ Q) : am_wp sc 52 66 [.inr (.inl 1), .inl z1, .inl z2, .inl z3] [] σ Q := by
  refine am_wn rfl ?_
  exact k
theorem b_52_67 {sc : Int → Int} {σ : St} {Q : Ou → St → Nat → Prop} (z1 : Int) (z2 : Int) (z3 : Int) (s0 : Int) (h0 : am_R (z3 + 1)) (k : am_wp sc 52 40 [.inr (.inl 1), .inl z1, .inl s0, .inl (z3 + 1)] [] σ Q) : am_wp sc 52 67 [.inr (.inl 1), .inl z1, .inl z2, .inl z3] [.inl s0] σ Q := by
  refine am_wn rfl ?_
  refine ar_inc (L' := [.inr (.inl 1), .inl z1, .inl s0, .inl (z3 + 1)]) rfl rfl h0 rfl ?_
  refine am_wn rfl ?_
  exact k
theorem b_52_74 {sc : Int → Int} {σ : St} {Q : Ou → St → Nat → Prop} (z1 : Int) (z2 : Int) (z3 : Int) (h0 : z2 = 0 ∨ z2 = 1) (k : Q (.inl (some z2)) σ 0) : am_wp sc 52 74 [.inr (.inl 1), .inl z1, .inl z2, .inl z3] [] σ Q := by
  refine am_wn rfl ?_
  exact am_w61 rfl h0 k
/-! SlidingHeapModel.refers -/
theorem b_53_0 {sc : Int → Int} {σ : St} {Q : Ou → St → Nat → Prop} (z1 : Int) (z2 : Int) (v3 : AV) (v4 : AV) (k : am_wp sc 53 5 [.inr (.inl 1), .inl z1, .inl z2, .inl 0, .inl 0] [] σ Q) : am_wp sc 53 0 [.inr (.inl 1), .inl z1, .inl z2, v3, v4] [] σ Q := by
  refine am_wn rfl ?_
  refine am_wn rfl ?_
  refine am_wn rfl ?_
  refine am_wn rfl ?_
  exact k
theorem b_53_5 {sc : Int → Int} {σ : St} {Q : Ou → St → Nat → Prop} (z1 : Int) (z2 : Int) (z3 : Int) (z4 : Int) (h0 : 0 ≤ z1 ∧ z1 < 15) (k1 : ((σ 16 z1) ≤ z4) → am_wp sc 53 64 [.inr (.inl 1), .inl z1, .inl z2, .inl z3, .inl z4] [] σ Q) (k2 : ¬ ((σ 16 z1) ≤ z4) → am_wp sc 53 16 [.inr (.inl 1), .inl z1, .inl z2, .inl z3, .inl z4] [] σ Q) : am_wp sc 53 5 [.inr (.inl 1), .inl z1, .inl z2, .inl z3, .inl z4] [] σ Q := by
  refine am_wn rfl ?_
  refine am_wn rfl ?_
  refine am_wn rfl ?_
  refine am_wn rfl ?_
  refine ar_iald rfl rfl h0 ?_
  exact ar_br (c := (σ 16 z1) ≤ z4) rfl k1 k2
theorem b_53_16 {sc : Int → Int} {σ : St} {Q : Ou → St → Nat → Prop} (z1 : Int) (z2 : Int) (z3 : Int) (z4 : Int) (k1 : (z3 ≠ 0) → am_wp sc 53 52 [.inr (.inl 1), .inl z1, .inl z2, .inl z3, .inl z4] [] σ Q) (k2 : ¬ (z3 ≠ 0) → am_wp sc 53 20 [.inr (.inl 1), .inl z1, .inl z2, .inl z3, .inl z4] [] σ Q) : am_wp sc 53 16 [.inr (.inl 1), .inl z1, .inl z2, .inl z3, .inl z4] [] σ Q := by
  refine am_wn rfl ?_
  exact ar_br (c := z3 ≠ 0) rfl k1 k2
theorem b_53_20 {sc : Int → Int} {σ : St} {Q : Ou → St → Nat → Prop} (z1 : Int) (z2 : Int) (z3 : Int) (z4 : Int) (h0 : am_R (10 * z1)) (h1 : am_R ((10 * z1) + z4)) (h2 : 0 ≤ ((10 * z1) + z4) ∧ ((10 * z1) + z4) < 150) (k1 : ((σ 20 ((10 * z1) + z4)) ≠ 1) → am_wp sc 53 56 [.inr (.inl 1), .inl z1, .inl z2, .inl z3, .inl z4] [] σ Q) (k2 : ¬ ((σ 20 ((10 * z1) + z4)) ≠ 1) → am_wp sc 53 36 [.inr (.inl 1), .inl z1, .inl z2, .inl z3, .inl z4] [] σ Q) : am_wp sc 53 20 [.inr (.inl 1), .inl z1, .inl z2, .inl z3, .inl z4] [] σ Q := by
  refine am_wn rfl ?_
  refine am_wn rfl ?_
  refine am_wn rfl ?_
  refine am_wn rfl ?_
  refine ar_mul rfl h0 ?_
  refine am_wn rfl ?_
  refine ar_add rfl h1 ?_
  refine ar_iald rfl rfl h2 ?_
  refine am_wn rfl ?_
  exact ar_br (c := (σ 20 ((10 * z1) + z4)) ≠ 1) rfl k1 k2
theorem b_53_36 {sc : Int → Int} {σ : St} {Q : Ou → St → Nat → Prop} (z1 : Int) (z2 : Int) (z3 : Int) (z4 : Int) (h0 : am_R (10 * z1)) (h1 : am_R ((10 * z1) + z4)) (h2 : 0 ≤ ((10 * z1) + z4) ∧ ((10 * z1) + z4) < 150) (k1 : ((σ 19 ((10 * z1) + z4)) ≠ z2) → am_wp sc 53 56 [.inr (.inl 1), .inl z1, .inl z2, .inl z3, .inl z4] [] σ Q) (k2 : ¬ ((σ 19 ((10 * z1) + z4)) ≠ z2) → am_wp sc 53 52 [.inr (.inl 1), .inl z1, .inl z2, .inl z3, .inl z4] [] σ Q) : am_wp sc 53 36 [.inr (.inl 1), .inl z1, .inl z2, .inl z3, .inl z4] [] σ Q := by
  refine am_wn rfl ?_
  refine am_wn rfl ?_
  refine am_wn rfl ?_
  refine am_wn rfl ?_
  refine ar_mul rfl h0 ?_
  refine am_wn rfl ?_
  refine ar_add rfl h1 ?_
  refine ar_iald rfl rfl h2 ?_
  refine am_wn rfl ?_
  exact ar_br (c := (σ 19 ((10 * z1) + z4)) ≠ z2) rfl k1 k2
theorem b_53_52 {sc : Int → Int} {σ : St} {Q : Ou → St → Nat → Prop} (z1 : Int) (z2 : Int) (z3 : Int) (z4 : Int) (k : am_wp sc 53 57 [.inr (.inl 1), .inl z1, .inl z2, .inl z3, .inl z4] [.inl 1] σ Q) : am_wp sc 53 52 [.inr (.inl 1), .inl z1, .inl z2, .inl z3, .inl z4] [] σ Q := by
  refine am_wn rfl ?_
  refine am_wn rfl ?_
  exact k
theorem b_53_56 {sc : Int → Int} {σ : St} {Q : Ou → St → Nat → Prop} (z1 : Int) (z2 : Int) (z3 : Int) (z4 : Int) (k : am_wp sc 53 57 [.inr (.inl 1), .inl z1, .inl z2, .inl z3, .inl z4] [.inl 0] σ Q) : am_wp sc 53 56 [.inr (.inl 1), .inl z1, .inl z2, .inl z3, .inl z4] [] σ Q := by
  refine am_wn rfl ?_
  exact k
theorem b_53_57 {sc : Int → Int} {σ : St} {Q : Ou → St → Nat → Prop} (z1 : Int) (z2 : Int) (z3 : Int) (z4 : Int) (s0 : Int) (h0 : am_R (z4 + 1)) (k : am_wp sc 53 5 [.inr (.inl 1), .inl z1, .inl z2, .inl s0, .inl (z4 + 1)] [] σ Q) : am_wp sc 53 57 [.inr (.inl 1), .inl z1, .inl z2, .inl z3, .inl z4] [.inl s0] σ Q := by
  refine am_wn rfl ?_
  refine ar_inc (L' := [.inr (.inl 1), .inl z1, .inl z2, .inl s0, .inl (z4 + 1)]) rfl rfl h0 rfl ?_
  refine am_wn rfl ?_
  exact k
theorem b_53_64 {sc : Int → Int} {σ : St} {Q : Ou → St → Nat → Prop} (z1 : Int) (z2 : Int) (z3 : Int) (z4 : Int) (h0 : z3 = 0 ∨ z3 = 1) (k : Q (.inl (some z3)) σ 0) : am_wp sc 53 64 [.inr (.inl 1), .inl z1, .inl z2, .inl z3, .inl z4] [] σ Q := by
  refine am_wn rfl ?_
  exact am_w61 rfl h0 k
/-! SlidingHeapModel.spread -/
theorem b_54_0 {sc : Int → Int} {σ : St} {Q : Ou → St → Nat → Prop} (v1 : AV) (v2 : AV) (v3 : AV) (v4 : AV) (k : am_wp sc 54 2 [.inr (.inl 1), .inl 1, v2, v3, v4] [] σ Q) : am_wp sc 54 0 [.inr (.inl 1), v1, v2, v3, v4] [] σ Q := by
  refine am_wn rfl ?_
  refine am_wn rfl ?_
  exact k
theorem b_54_2 {sc : Int → Int} {σ : St} {Q : Ou → St → Nat → Prop} (z1 : Int) (v2 : AV) (v3 : AV) (v4 : AV) (k1 : (z1 = 0) → am_wp sc 54 131 [.inr (.inl 1), .inl z1, v2, v3, v4] [] σ Q) (k2 : ¬ (z1 = 0) → am_wp sc 54 6 [.inr (.inl 1), .inl z1, v2, v3, v4] [] σ Q) : am_wp sc 54 2 [.inr (.inl 1), .inl z1, v2, v3, v4] [] σ Q := by
  refine am_wn rfl ?_
  exact ar_br (c := z1 = 0) rfl k1 k2
theorem b_54_6 {sc : Int → Int} {σ : St} {Q : Ou → St → Nat → Prop} (z1 : Int) (v2 : AV) (v3 : AV) (v4 : AV) (k : am_wp sc 54 10 [.inr (.inl 1), .inl 0, .inl 1, v3, v4] [] σ Q) : am_wp sc 54 6 [.inr (.inl 1), .inl z1, v2, v3, v4] [] σ Q := by
  refine am_wn rfl ?_
  refine am_wn rfl ?_
  refine am_wn rfl ?_
  refine am_wn rfl ?_
  exact k
theorem b_54_10 {sc : Int → Int} {σ : St} {Q : Ou → St → Nat → Prop} (z1 : Int) (z2 : Int) (v3 : AV) (v4 : AV) (k1 : (15 ≤ z2) → am_wp sc 54 128 [.inr (.inl 1), .inl z1, .inl z2, v3, v4] [] σ Q) (k2 : ¬ (15 ≤ z2) → am_wp sc 54 16 [.inr (.inl 1), .inl z1, .inl z2, v3, v4] [] σ Q) : am_wp sc 54 10 [.inr (.inl 1), .inl z1, .inl z2, v3, v4] [] σ Q := by
  refine am_wn rfl ?_
  refine am_wn rfl ?_
  exact ar_br (c := 15 ≤ z2) rfl k1 k2
theorem b_54_16 {sc : Int → Int} {σ : St} {Q : Ou → St → Nat → Prop} (z1 : Int) (z2 : Int) (v3 : AV) (v4 : AV) (k : am_wp sc 54 18 [.inr (.inl 1), .inl z1, .inl z2, .inl 1, v4] [] σ Q) : am_wp sc 54 16 [.inr (.inl 1), .inl z1, .inl z2, v3, v4] [] σ Q := by
  refine am_wn rfl ?_
  refine am_wn rfl ?_
  exact k
theorem b_54_18 {sc : Int → Int} {σ : St} {Q : Ou → St → Nat → Prop} (z1 : Int) (z2 : Int) (z3 : Int) (v4 : AV) (k1 : (15 ≤ z3) → am_wp sc 54 122 [.inr (.inl 1), .inl z1, .inl z2, .inl z3, v4] [] σ Q) (k2 : ¬ (15 ≤ z3) → am_wp sc 54 24 [.inr (.inl 1), .inl z1, .inl z2, .inl z3, v4] [] σ Q) : am_wp sc 54 18 [.inr (.inl 1), .inl z1, .inl z2, .inl z3, v4] [] σ Q := by
  refine am_wn rfl ?_
  refine am_wn rfl ?_
  exact ar_br (c := 15 ≤ z3) rfl k1 k2
theorem b_54_24 {sc : Int → Int} {σ : St} {Q : Ou → St → Nat → Prop} (z1 : Int) (z2 : Int) (z3 : Int) (v4 : AV) (h0 : 0 ≤ z2 ∧ z2 < 15) (k1 : ((σ 15 z2) = 0) → am_wp sc 54 73 [.inr (.inl 1), .inl z1, .inl z2, .inl z3, v4] [] σ Q) (k2 : ¬ ((σ 15 z2) = 0) → am_wp sc 54 33 [.inr (.inl 1), .inl z1, .inl z2, .inl z3, v4] [] σ Q) : am_wp sc 54 24 [.inr (.inl 1), .inl z1, .inl z2, .inl z3, v4] [] σ Q := by
  refine am_wn rfl ?_
  refine am_wn rfl ?_
  refine am_wn rfl ?_
  refine ar_bald rfl rfl h0 ?_
  exact ar_br (c := (σ 15 z2) = 0) rfl k1 k2
theorem b_54_33 {sc : Int → Int} {σ : St} {Q : Ou → St → Nat → Prop} (z1 : Int) (z2 : Int) (z3 : Int) (v4 : AV) (h0 : 0 ≤ z2 ∧ z2 < 15) (k1 : ((σ 23 z2) = 0) → am_wp sc 54 73 [.inr (.inl 1), .inl z1, .inl z2, .inl z3, v4] [] σ Q) (k2 : ¬ ((σ 23 z2) = 0) → am_wp sc 54 42 [.inr (.inl 1), .inl z1, .inl z2, .inl z3, v4] [] σ Q) : am_wp sc 54 33 [.inr (.inl 1), .inl z1, .inl z2, .inl z3, v4] [] σ Q := by
  refine am_wn rfl ?_
  refine am_wn rfl ?_
  refine am_wn rfl ?_
  refine ar_bald rfl rfl h0 ?_
  exact ar_br (c := (σ 23 z2) = 0) rfl k1 k2
theorem b_54_42 {sc : Int → Int} {σ : St} {Q : Ou → St → Nat → Prop} (z1 : Int) (z2 : Int) (z3 : Int) (v4 : AV) (h0 : 0 ≤ z3 ∧ z3 < 15) (k1 : ((σ 15 z3) = 0) → am_wp sc 54 73 [.inr (.inl 1), .inl z1, .inl z2, .inl z3, v4] [] σ Q) (k2 : ¬ ((σ 15 z3) = 0) → am_wp sc 54 51 [.inr (.inl 1), .inl z1, .inl z2, .inl z3, v4] [] σ Q) : am_wp sc 54 42 [.inr (.inl 1), .inl z1, .inl z2, .inl z3, v4] [] σ Q := by
  refine am_wn rfl ?_
  refine am_wn rfl ?_
  refine am_wn rfl ?_
  refine ar_bald rfl rfl h0 ?_
  exact ar_br (c := (σ 15 z3) = 0) rfl k1 k2
theorem b_54_51 {sc : Int → Int} {σ : St} {Q : Ou → St → Nat → Prop} (z1 : Int) (z2 : Int) (z3 : Int) (v4 : AV) (h0 : 0 ≤ z3 ∧ z3 < 15) (k1 : ((σ 23 z3) ≠ 0) → am_wp sc 54 73 [.inr (.inl 1), .inl z1, .inl z2, .inl z3, v4] [] σ Q) (k2 : ¬ ((σ 23 z3) ≠ 0) → am_wp sc 54 60 [.inr (.inl 1), .inl z1, .inl z2, .inl z3, v4] [] σ Q) : am_wp sc 54 51 [.inr (.inl 1), .inl z1, .inl z2, .inl z3, v4] [] σ Q := by
  refine am_wn rfl ?_
  refine am_wn rfl ?_
  refine am_wn rfl ?_
  refine ar_bald rfl rfl h0 ?_
  exact ar_br (c := (σ 23 z3) ≠ 0) rfl k1 k2
theorem b_54_60 {sc : Int → Int} {σ : St} {Q : Ou → St → Nat → Prop} (z1 : Int) (z2 : Int) (z3 : Int) (v4 : AV) (k : am_wp sc 53 0 [.inr (.inl 1), .inl z2, .inl z3, .inr (.inr 0), .inr (.inr 0)] [] σ (am_bk sc 54 63 [.inr (.inl 1), .inl z1, .inl z2, .inl z3, v4] [] Q)) : am_wp sc 54 60 [.inr (.inl 1), .inl z1, .inl z2, .inl z3, v4] [] σ Q := by
  refine am_wn rfl ?_
  refine am_wn rfl ?_
  refine am_wn rfl ?_
  exact am_wc rfl (by decide) (by decide) rfl k
theorem b_54_66 {sc : Int → Int} {σ : St} {Q : Ou → St → Nat → Prop} (z1 : Int) (z2 : Int) (z3 : Int) (v4 : AV) (s0 : Int) (k1 : (s0 = 0) → am_wp sc 54 73 [.inr (.inl 1), .inl z1, .inl z2, .inl z3, v4] [] σ Q) (k2 : ¬ (s0 = 0) → am_wp sc 54 69 [.inr (.inl 1), .inl z1, .inl z2, .inl z3, v4] [] σ Q) : am_wp sc 54 66 [.inr (.inl 1), .inl z1, .inl z2, .inl z3, v4] [.inl s0] σ Q := by
  exact ar_br (c := s0 = 0) rfl k1 k2
theorem b_54_69 {sc : Int → Int} {σ : St} {Q : Ou → St → Nat → Prop} (z1 : Int) (z2 : Int) (z3 : Int) (v4 : AV) (k : am_wp sc 54 74 [.inr (.inl 1), .inl z1, .inl z2, .inl z3, v4] [.inl 1] σ Q) : am_wp sc 54 69 [.inr (.inl 1), .inl z1, .inl z2, .inl z3, v4] [] σ Q := by
  refine am_wn rfl ?_
  refine am_wn rfl ?_
  exact k
theorem b_54_73 {sc : Int → Int} {σ : St} {Q : Ou → St → Nat → Prop} (z1 : Int) (z2 : Int) (z3 : Int) (v4 : AV) (k : am_wp sc 54 74 [.inr (.inl 1), .inl z1, .inl z2, .inl z3, v4] [.inl 0] σ Q) : am_wp sc 54 73 [.inr (.inl 1), .inl z1, .inl z2, .inl z3, v4] [] σ Q := by
  refine am_wn rfl ?_
  exact k
theorem b_54_74 {sc : Int → Int} {σ : St} {Q : Ou → St → Nat → Prop} (z1 : Int) (z2 : Int) (z3 : Int) (v4 : AV) (s0 : Int) (h0 : 0 ≤ z3 ∧ z3 < 15) (k1 : ((σ 23 z3) ≠ 0) → am_wp sc 54 95 [.inr (.inl 1), .inl z1, .inl z2, .inl z3, .inl s0] [.inl z3, .inr (.inl 23)] σ Q) (k2 : ¬ ((σ 23 z3) ≠ 0) → am_wp sc 54 90 [.inr (.inl 1), .inl z1, .inl z2, .inl z3, .inl s0] [.inl z3, .inr (.inl 23)] σ Q) : am_wp sc 54 74 [.inr (.inl 1), .inl z1, .inl z2, .inl z3, v4] [.inl s0] σ Q := by
  refine am_wn rfl ?_
  refine am_wn rfl ?_
  refine am_wn rfl ?_
  refine am_wn rfl ?_
  refine am_wn rfl ?_
  refine am_wn rfl ?_
  refine am_wn rfl ?_
  refine ar_bald rfl rfl h0 ?_
  exact ar_br (c := (σ 23 z3) ≠ 0) rfl k1 k2
theorem b_54_90 {sc : Int → Int} {σ : St} {Q : Ou → St → Nat → Prop} (z1 : Int) (z2 : Int) (z3 : Int) (z4 : Int) (s1 : Int) (k1 : (z4 = 0) → am_wp sc 54 99 [.inr (.inl 1), .inl z1, .inl z2, .inl z3, .inl z4] [.inl s1, .inr (.inl 23)] σ Q) (k2 : ¬ (z4 = 0) → am_wp sc 54 95 [.inr (.inl 1), .inl z1, .inl z2, .inl z3, .inl z4] [.inl s1, .inr (.inl 23)] σ Q) : am_wp sc 54 90 [.inr (.inl 1), .inl z1, .inl z2, .inl z3, .inl z4] [.inl s1, .inr (.inl 23)] σ Q := by
  refine am_wn rfl ?_
  exact ar_br (c := z4 = 0) rfl k1 k2
theorem b_54_95 {sc : Int → Int} {σ : St} {Q : Ou → St → Nat → Prop} (z1 : Int) (z2 : Int) (z3 : Int) (z4 : Int) (s1 : Int) (k : am_wp sc 54 100 [.inr (.inl 1), .inl z1, .inl z2, .inl z3, .inl z4] [.inl 1, .inl s1, .inr (.inl 23)] σ Q) : am_wp sc 54 95 [.inr (.inl 1), .inl z1, .inl z2, .inl z3, .inl z4] [.inl s1, .inr (.inl 23)] σ Q := by
  refine am_wn rfl ?_
  refine am_wn rfl ?_
  exact k
theorem b_54_99 {sc : Int → Int} {σ : St} {Q : Ou → St → Nat → Prop} (z1 : Int) (z2 : Int) (z3 : Int) (z4 : Int) (s1 : Int) (k : am_wp sc 54 100 [.inr (.inl 1), .inl z1, .inl z2, .inl z3, .inl z4] [.inl 0, .inl s1, .inr (.inl 23)] σ Q) : am_wp sc 54 99 [.inr (.inl 1), .inl z1, .inl z2, .inl z3, .inl z4] [.inl s1, .inr (.inl 23)] σ Q := by
  refine am_wn rfl ?_
  exact k
theorem b_54_100 {sc : Int → Int} {σ : St} {Q : Ou → St → Nat → Prop} (z1 : Int) (z2 : Int) (z3 : Int) (z4 : Int) (s1 : Int) (s2 : Int) (h0 : 0 ≤ s1 ∧ s1 < 15) (h1 : s2 = 0 ∨ s2 = 1) (k1 : (z1 ≠ 0) → am_wp sc 54 110 [.inr (.inl 1), .inl z1, .inl z2, .inl z3, .inl z4] [] (am_up σ 23 s1 s2) Q) (k2 : ¬ (z1 ≠ 0) → am_wp sc 54 105 [.inr (.inl 1), .inl z1, .inl z2, .inl z3, .inl z4] [] (am_up σ 23 s1 s2) Q) : am_wp sc 54 100 [.inr (.inl 1), .inl z1, .inl z2, .inl z3, .inl z4] [.inl s2, .inl s1, .inr (.inl 23)] σ Q := by
  refine ar_bast rfl rfl h0 h1 ?_
  refine am_wn rfl ?_
  exact ar_br (c := z1 ≠ 0) rfl k1 k2
theorem b_54_105 {sc : Int → Int} {σ : St} {Q : Ou → St → Nat → Prop} (z1 : Int) (z2 : Int) (z3 : Int) (z4 : Int) (k1 : (z4 = 0) → am_wp sc 54 114 [.inr (.inl 1), .inl z1, .inl z2, .inl z3, .inl z4] [] σ Q) (k2 : ¬ (z4 = 0) → am_wp sc 54 110 [.inr (.inl 1), .inl z1, .inl z2, .inl z3, .inl z4] [] σ Q) : am_wp sc 54 105 [.inr (.inl 1), .inl z1, .inl z2, .inl z3, .inl z4] [] σ Q := by
  refine am_wn rfl ?_
  exact ar_br (c := z4 = 0) rfl k1 k2
theorem b_54_110 {sc : Int → Int} {σ : St} {Q : Ou → St → Nat → Prop} (z1 : Int) (z2 : Int) (z3 : Int) (z4 : Int) (k : am_wp sc 54 115 [.inr (.inl 1), .inl z1, .inl z2, .inl z3, .inl z4] [.inl 1] σ Q) : am_wp sc 54 110 [.inr (.inl 1), .inl z1, .inl z2, .inl z3, .inl z4] [] σ Q := by
  refine am_wn rfl ?_
  refine am_wn rfl ?_
  exact k
theorem b_54_114 {sc : Int → Int} {σ : St} {Q : Ou → St → Nat → Prop} (z1 : Int) (z2 : Int) (z3 : Int) (z4 : Int) (k : am_wp sc 54 115 [.inr (.inl 1), .inl z1, .inl z2, .inl z3, .inl z4] [.inl 0] σ Q) : am_wp sc 54 114 [.inr (.inl 1), .inl z1, .inl z2, .inl z3, .inl z4] [] σ Q := by
  refine am_wn rfl ?_
  exact k
theorem b_54_115 {sc : Int → Int} {σ : St} {Q : Ou → St → Nat → Prop} (z1 : Int) (z2 : Int) (z3 : Int) (z4 : Int) (s0 : Int) (h0 : am_R (z3 + 1)) (k : am_wp sc 54 18 [.inr (.inl 1), .inl s0, .inl z2, .inl (z3 + 1), .inl z4] [] σ Q) : am_wp sc 54 115 [.inr (.inl 1), .inl z1, .inl z2, .inl z3, .inl z4] [.inl s0] σ Q := by
  refine am_wn rfl ?_
  refine ar_inc (L' := [.inr (.inl 1), .inl s0, .inl z2, .inl (z3 + 1), .inl z4]) rfl rfl h0 rfl ?_
  refine am_wn rfl ?_
  exact k
theorem b_54_122 {sc : Int → Int} {σ : St} {Q : Ou → St → Nat → Prop} (z1 : Int) (z2 : Int) (z3 : Int) (v4 : AV) (h0 : am_R (z2 + 1)) (k : am_wp sc 54 10 [.inr (.inl 1), .inl z1, .inl (z2 + 1), .inl z3, v4] [] σ Q) : am_wp sc 54 122 [.inr (.inl 1), .inl z1, .inl z2, .inl z3, v4] [] σ Q := by
  refine ar_inc (L' := [.inr (.inl 1), .inl z1, .inl (z2 + 1), .inl z3, v4]) rfl rfl h0 rfl ?_
  refine am_wn rfl ?_
  exact k
theorem b_54_128 {sc : Int → Int} {σ : St} {Q : Ou → St → Nat → Prop} (z1 : Int) (z2 : Int) (v3 : AV) (v4 : AV) (k : am_wp sc 54 2 [.inr (.inl 1), .inl z1, .inl z2, v3, v4] [] σ Q) : am_wp sc 54 128 [.inr (.inl 1), .inl z1, .inl z2, v3, v4] [] σ Q := by
  refine am_wn rfl ?_
  exact k
theorem b_54_131 {sc : Int → Int} {σ : St} {Q : Ou → St → Nat → Prop} (z1 : Int) (v2 : AV) (v3 : AV) (v4 : AV) (k : Q (.inl none) σ 0) : am_wp sc 54 131 [.inr (.inl 1), .inl z1, v2, v3, v4] [] σ Q := by
  exact am_w62 rfl k
/-! SlidingHeapModel.findLive -/
theorem b_55_0 {sc : Int → Int} {σ : St} {Q : Ou → St → Nat → Prop} (v1 : AV) (k : am_wp sc 55 2 [.inr (.inl 1), .inl 1] [] σ Q) : am_wp sc 55 0 [.inr (.inl 1), v1] [] σ Q := by
  refine am_wn rfl ?_
  refine am_wn rfl ?_
  exact k
theorem b_55_2 {sc : Int → Int} {σ : St} {Q : Ou → St → Nat → Prop} (z1 : Int) (k1 : (15 ≤ z1) → am_wp sc 55 42 [.inr (.inl 1), .inl z1] [] σ Q) (k2 : ¬ (15 ≤ z1) → am_wp sc 55 8 [.inr (.inl 1), .inl z1] [] σ Q) : am_wp sc 55 2 [.inr (.inl 1), .inl z1] [] σ Q := by
  refine am_wn rfl ?_
  refine am_wn rfl ?_
  exact ar_br (c := 15 ≤ z1) rfl k1 k2
theorem b_55_8 {sc : Int → Int} {σ : St} {Q : Ou → St → Nat → Prop} (z1 : Int) (h0 : 0 ≤ z1 ∧ z1 < 15) (k1 : ((σ 15 z1) = 0) → am_wp sc 55 34 [.inr (.inl 1), .inl z1] [.inl z1, .inr (.inl 23)] σ Q) (k2 : ¬ ((σ 15 z1) = 0) → am_wp sc 55 22 [.inr (.inl 1), .inl z1] [.inl z1, .inr (.inl 23)] σ Q) : am_wp sc 55 8 [.inr (.inl 1), .inl z1] [] σ Q := by
  refine am_wn rfl ?_
  refine am_wn rfl ?_
  refine am_wn rfl ?_
  refine am_wn rfl ?_
  refine am_wn rfl ?_
  refine am_wn rfl ?_
  refine ar_bald rfl rfl h0 ?_
  exact ar_br (c := (σ 15 z1) = 0) rfl k1 k2
theorem b_55_22 {sc : Int → Int} {σ : St} {Q : Ou → St → Nat → Prop} (z1 : Int) (s1 : Int) (k : am_wp sc 52 0 [.inr (.inl 1), .inl z1, .inr (.inr 0), .inr (.inr 0)] [] σ (am_bk sc 55 24 [.inr (.inl 1), .inl z1] [.inl s1, .inr (.inl 23)] Q)) : am_wp sc 55 22 [.inr (.inl 1), .inl z1] [.inl s1, .inr (.inl 23)] σ Q := by
  refine am_wn rfl ?_
  refine am_wn rfl ?_
  exact am_wc rfl (by decide) (by decide) rfl k
theorem b_55_27 {sc : Int → Int} {σ : St} {Q : Ou → St → Nat → Prop} (z1 : Int) (s1 : Int) (s2 : Int) (k1 : (s2 = 0) → am_wp sc 55 34 [.inr (.inl 1), .inl z1] [.inl s1, .inr (.inl 23)] σ Q) (k2 : ¬ (s2 = 0) → am_wp sc 55 30 [.inr (.inl 1), .inl z1] [.inl s1, .inr (.inl 23)] σ Q) : am_wp sc 55 27 [.inr (.inl 1), .inl z1] [.inl s2, .inl s1, .inr (.inl 23)] σ Q := by
  exact ar_br (c := s2 = 0) rfl k1 k2
theorem b_55_30 {sc : Int → Int} {σ : St} {Q : Ou → St → Nat → Prop} (z1 : Int) (s1 : Int) (k : am_wp sc 55 35 [.inr (.inl 1), .inl z1] [.inl 1, .inl s1, .inr (.inl 23)] σ Q) : am_wp sc 55 30 [.inr (.inl 1), .inl z1] [.inl s1, .inr (.inl 23)] σ Q := by
  refine am_wn rfl ?_
  refine am_wn rfl ?_
  exact k
theorem b_55_34 {sc : Int → Int} {σ : St} {Q : Ou → St → Nat → Prop} (z1 : Int) (s1 : Int) (k : am_wp sc 55 35 [.inr (.inl 1), .inl z1] [.inl 0, .inl s1, .inr (.inl 23)] σ Q) : am_wp sc 55 34 [.inr (.inl 1), .inl z1] [.inl s1, .inr (.inl 23)] σ Q := by
  refine am_wn rfl ?_
  exact k
theorem b_55_35 {sc : Int → Int} {σ : St} {Q : Ou → St → Nat → Prop} (z1 : Int) (s1 : Int) (s2 : Int) (h0 : 0 ≤ s1 ∧ s1 < 15) (h1 : s2 = 0 ∨ s2 = 1) (h2 : am_R (z1 + 1)) (k : am_wp sc 55 2 [.inr (.inl 1), .inl (z1 + 1)] [] (am_up σ 23 s1 s2) Q) : am_wp sc 55 35 [.inr (.inl 1), .inl z1] [.inl s2, .inl s1, .inr (.inl 23)] σ Q := by
  refine ar_bast rfl rfl h0 h1 ?_
  refine ar_inc (L' := [.inr (.inl 1), .inl (z1 + 1)]) rfl rfl h2 rfl ?_
  refine am_wn rfl ?_
  exact k
theorem b_55_42 {sc : Int → Int} {σ : St} {Q : Ou → St → Nat → Prop} (z1 : Int) (k : am_wp sc 54 0 [.inr (.inl 1), .inr (.inr 0), .inr (.inr 0), .inr (.inr 0), .inr (.inr 0)] [] σ (am_bk sc 55 43 [.inr (.inl 1), .inl z1] [] Q)) : am_wp sc 55 42 [.inr (.inl 1), .inl z1] [] σ Q := by
  refine am_wn rfl ?_
  exact am_wc rfl (by decide) (by decide) rfl k
theorem b_55_46 {sc : Int → Int} {σ : St} {Q : Ou → St → Nat → Prop} (z1 : Int) (k : Q (.inl none) σ 0) : am_wp sc 55 46 [.inr (.inl 1), .inl z1] [] σ Q := by
  exact am_w62 rfl k
/-! SlidingHeapModel.wordsOf -/
theorem b_56_0 {sc : Int → Int} {σ : St} {Q : Ou → St → Nat → Prop} (z1 : Int) (v2 : AV) (v3 : AV) (k : am_wp sc 56 4 [.inr (.inl 1), .inl z1, .inl 0, .inl 1] [] σ Q) : am_wp sc 56 0 [.inr (.inl 1), .inl z1, v2, v3] [] σ Q := by
  refine am_wn rfl ?_
  refine am_wn rfl ?_
  refine am_wn rfl ?_
  refine am_wn rfl ?_
  exact k
theorem b_56_4 {sc : Int → Int} {σ : St} {Q : Ou → St → Nat → Prop} (z1 : Int) (z2 : Int) (z3 : Int) (k1 : (15 ≤ z3) → am_wp sc 56 53 [.inr (.inl 1), .inl z1, .inl z2, .inl z3] [] σ Q) (k2 : ¬ (15 ≤ z3) → am_wp sc 56 10 [.inr (.inl 1), .inl z1, .inl z2, .inl z3] [] σ Q) : am_wp sc 56 4 [.inr (.inl 1), .inl z1, .inl z2, .inl z3] [] σ Q := by
  refine am_wn rfl ?_
  refine am_wn rfl ?_
  exact ar_br (c := 15 ≤ z3) rfl k1 k2
theorem b_56_10 {sc : Int → Int} {σ : St} {Q : Ou → St → Nat → Prop} (z1 : Int) (z2 : Int) (z3 : Int) (h0 : 0 ≤ z3 ∧ z3 < 15) (k1 : ((σ 15 z3) = 0) → am_wp sc 56 45 [.inr (.inl 1), .inl z1, .inl z2, .inl z3] [] σ Q) (k2 : ¬ ((σ 15 z3) = 0) → am_wp sc 56 19 [.inr (.inl 1), .inl z1, .inl z2, .inl z3] [] σ Q) : am_wp sc 56 10 [.inr (.inl 1), .inl z1, .inl z2, .inl z3] [] σ Q := by
  refine am_wn rfl ?_
  refine am_wn rfl ?_
  refine am_wn rfl ?_
  refine ar_bald rfl rfl h0 ?_
  exact ar_br (c := (σ 15 z3) = 0) rfl k1 k2
theorem b_56_19 {sc : Int → Int} {σ : St} {Q : Ou → St → Nat → Prop} (z1 : Int) (z2 : Int) (z3 : Int) (h0 : 0 ≤ z3 ∧ z3 < 15) (k1 : ((σ 23 z3) ≠ 0) → am_wp sc 56 32 [.inr (.inl 1), .inl z1, .inl z2, .inl z3] [] σ Q) (k2 : ¬ ((σ 23 z3) ≠ 0) → am_wp sc 56 28 [.inr (.inl 1), .inl z1, .inl z2, .inl z3] [] σ Q) : am_wp sc 56 19 [.inr (.inl 1), .inl z1, .inl z2, .inl z3] [] σ Q := by
  refine am_wn rfl ?_
  refine am_wn rfl ?_
  refine am_wn rfl ?_
  refine ar_bald rfl rfl h0 ?_
  exact ar_br (c := (σ 23 z3) ≠ 0) rfl k1 k2
theorem b_56_28 {sc : Int → Int} {σ : St} {Q : Ou → St → Nat → Prop} (z1 : Int) (z2 : Int) (z3 : Int) (k1 : (z1 ≠ 0) → am_wp sc 56 45 [.inr (.inl 1), .inl z1, .inl z2, .inl z3] [] σ Q) (k2 : ¬ (z1 ≠ 0) → am_wp sc 56 32 [.inr (.inl 1), .inl z1, .inl z2, .inl z3] [] σ Q) : am_wp sc 56 28 [.inr (.inl 1), .inl z1, .inl z2, .inl z3] [] σ Q := by
  refine am_wn rfl ?_
  exact ar_br (c := z1 ≠ 0) rfl k1 k2
theorem b_56_32 {sc : Int → Int} {σ : St} {Q : Ou → St → Nat → Prop} (z1 : Int) (z2 : Int) (z3 : Int) (h0 : 0 ≤ z3 ∧ z3 < 15) (h1 : am_R (z2 + (σ 16 z3))) (h2 : am_R ((z2 + (σ 16 z3)) + 2)) (k : am_wp sc 56 46 [.inr (.inl 1), .inl z1, .inl z2, .inl z3] [.inl ((z2 + (σ 16 z3)) + 2)] σ Q) : am_wp sc 56 32 [.inr (.inl 1), .inl z1, .inl z2, .inl z3] [] σ Q := by
  refine am_wn rfl ?_
  refine am_wn rfl ?_
  refine am_wn rfl ?_
  refine am_wn rfl ?_
  refine ar_iald rfl rfl h0 ?_
  refine ar_add rfl h1 ?_
  refine am_wn rfl ?_
  refine ar_add rfl h2 ?_
  refine am_wn rfl ?_
  exact k
theorem b_56_45 {sc : Int → Int} {σ : St} {Q : Ou → St → Nat → Prop} (z1 : Int) (z2 : Int) (z3 : Int) (k : am_wp sc 56 46 [.inr (.inl 1), .inl z1, .inl z2, .inl z3] [.inl z2] σ Q) : am_wp sc 56 45 [.inr (.inl 1), .inl z1, .inl z2, .inl z3] [] σ Q := by
  refine am_wn rfl ?_
  exact k
theorem b_56_46 {sc : Int → Int} {σ : St} {Q : Ou → St → Nat → Prop} (z1 : Int) (z2 : Int) (z3 : Int) (s0 : Int) (h0 : am_R (z3 + 1)) (k : am_wp sc 56 4 [.inr (.inl 1), .inl z1, .inl s0, .inl (z3 + 1)] [] σ Q) : am_wp sc 56 46 [.inr (.inl 1), .inl z1, .inl z2, .inl z3] [.inl s0] σ Q := by
  refine am_wn rfl ?_
  refine ar_inc (L' := [.inr (.inl 1), .inl z1, .inl s0, .inl (z3 + 1)]) rfl rfl h0 rfl ?_
  refine am_wn rfl ?_
  exact k
theorem b_56_53 {sc : Int → Int} {σ : St} {Q : Ou → St → Nat → Prop} (z1 : Int) (z2 : Int) (z3 : Int) (k : Q (.inl (some z2)) σ 0) : am_wp sc 56 53 [.inr (.inl 1), .inl z1, .inl z2, .inl z3] [] σ Q := by
  refine am_wn rfl ?_
  exact am_w60 rfl k
/-! SlidingHeapModel.countLive -/
theorem b_57_0 {sc : Int → Int} {σ : St} {Q : Ou → St → Nat → Prop} (v1 : AV) (v2 : AV) (k : am_wp sc 57 4 [.inr (.inl 1), .inl 0, .inl 1] [] σ Q) : am_wp sc 57 0 [.inr (.inl 1), v1, v2] [] σ Q := by
  refine am_wn rfl ?_
  refine am_wn rfl ?_
  refine am_wn rfl ?_
  refine am_wn rfl ?_
  exact k
theorem b_57_4 {sc : Int → Int} {σ : St} {Q : Ou → St → Nat → Prop} (z1 : Int) (z2 : Int) (k1 : (15 ≤ z2) → am_wp sc 57 33 [.inr (.inl 1), .inl z1, .inl z2] [] σ Q) (k2 : ¬ (15 ≤ z2) → am_wp sc 57 10 [.inr (.inl 1), .inl z1, .inl z2] [] σ Q) : am_wp sc 57 4 [.inr (.inl 1), .inl z1, .inl z2] [] σ Q := by
  refine am_wn rfl ?_
  refine am_wn rfl ?_
  exact ar_br (c := 15 ≤ z2) rfl k1 k2
theorem b_57_10 {sc : Int → Int} {σ : St} {Q : Ou → St → Nat → Prop} (z1 : Int) (z2 : Int) (h0 : 0 ≤ z2 ∧ z2 < 15) (k1 : ((σ 23 z2) = 0) → am_wp sc 57 25 [.inr (.inl 1), .inl z1, .inl z2] [] σ Q) (k2 : ¬ ((σ 23 z2) = 0) → am_wp sc 57 19 [.inr (.inl 1), .inl z1, .inl z2] [] σ Q) : am_wp sc 57 10 [.inr (.inl 1), .inl z1, .inl z2] [] σ Q := by
  refine am_wn rfl ?_
  refine am_wn rfl ?_
  refine am_wn rfl ?_
  refine ar_bald rfl rfl h0 ?_
  exact ar_br (c := (σ 23 z2) = 0) rfl k1 k2
theorem b_57_19 {sc : Int → Int} {σ : St} {Q : Ou → St → Nat → Prop} (z1 : Int) (z2 : Int) (h0 : am_R (z1 + 1)) (k : am_wp sc 57 26 [.inr (.inl 1), .inl z1, .inl z2] [.inl (z1 + 1)] σ Q) : am_wp sc 57 19 [.inr (.inl 1), .inl z1, .inl z2] [] σ Q := by
  refine am_wn rfl ?_
  refine am_wn rfl ?_
  refine ar_add rfl h0 ?_
  refine am_wn rfl ?_
  exact k
theorem b_57_25 {sc : Int → Int} {σ : St} {Q : Ou → St → Nat → Prop} (z1 : Int) (z2 : Int) (k : am_wp sc 57 26 [.inr (.inl 1), .inl z1, .inl z2] [.inl z1] σ Q) : am_wp sc 57 25 [.inr (.inl 1), .inl z1, .inl z2] [] σ Q := by
  refine am_wn rfl ?_
  exact k
theorem b_57_26 {sc : Int → Int} {σ : St} {Q : Ou → St → Nat → Prop} (z1 : Int) (z2 : Int) (s0 : Int) (h0 : am_R (z2 + 1)) (k : am_wp sc 57 4 [.inr (.inl 1), .inl s0, .inl (z2 + 1)] [] σ Q) : am_wp sc 57 26 [.inr (.inl 1), .inl z1, .inl z2] [.inl s0] σ Q := by
  refine am_wn rfl ?_
  refine ar_inc (L' := [.inr (.inl 1), .inl s0, .inl (z2 + 1)]) rfl rfl h0 rfl ?_
  refine am_wn rfl ?_
  exact k
theorem b_57_33 {sc : Int → Int} {σ : St} {Q : Ou → St → Nat → Prop} (z1 : Int) (z2 : Int) (k : Q (.inl (some z1)) σ 0) : am_wp sc 57 33 [.inr (.inl 1), .inl z1, .inl z2] [] σ Q := by
  refine am_wn rfl ?_
  exact am_w60 rfl k
/-! SlidingHeapModel.weaken -/
theorem b_58_0 {sc : Int → Int} {σ : St} {Q : Ou → St → Nat → Prop} (z1 : Int) (v2 : AV) (v3 : AV) (k : am_wp sc 58 2 [.inr (.inl 1), .inl z1, .inl 0, v3] [] σ Q) : am_wp sc 58 0 [.inr (.inl 1), .inl z1, v2, v3] [] σ Q := by
  refine am_wn rfl ?_
  refine am_wn rfl ?_
  exact k
theorem b_58_2 {sc : Int → Int} {σ : St} {Q : Ou → St → Nat → Prop} (z1 : Int) (z2 : Int) (v3 : AV) (h0 : 0 ≤ z1 ∧ z1 < 15) (k1 : ((σ 16 z1) ≤ z2) → am_wp sc 58 74 [.inr (.inl 1), .inl z1, .inl z2, v3] [] σ Q) (k2 : ¬ ((σ 16 z1) ≤ z2) → am_wp sc 58 12 [.inr (.inl 1), .inl z1, .inl z2, v3] [] σ Q) : am_wp sc 58 2 [.inr (.inl 1), .inl z1, .inl z2, v3] [] σ Q := by
  refine am_wn rfl ?_
  refine am_wn rfl ?_
  refine am_wn rfl ?_
  refine am_wn rfl ?_
  refine ar_iald rfl rfl h0 ?_
  exact ar_br (c := (σ 16 z1) ≤ z2) rfl k1 k2
theorem b_58_12 {sc : Int → Int} {σ : St} {Q : Ou → St → Nat → Prop} (z1 : Int) (z2 : Int) (v3 : AV) (h0 : am_R (10 * z1)) (h1 : am_R ((10 * z1) + z2)) (h2 : 0 ≤ ((10 * z1) + z2) ∧ ((10 * z1) + z2) < 150) (k1 : ((σ 20 ((10 * z1) + z2)) ≠ 2) → am_wp sc 58 61 [.inr (.inl 1), .inl z1, .inl z2, .inl ((10 * z1) + z2)] [.inl ((10 * z1) + z2), .inr (.inl 19)] σ Q) (k2 : ¬ ((σ 20 ((10 * z1) + z2)) ≠ 2) → am_wp sc 58 34 [.inr (.inl 1), .inl z1, .inl z2, .inl ((10 * z1) + z2)] [.inl ((10 * z1) + z2), .inr (.inl 19)] σ Q) : am_wp sc 58 12 [.inr (.inl 1), .inl z1, .inl z2, v3] [] σ Q := by
  refine am_wn rfl ?_
  refine am_wn rfl ?_
  refine ar_mul rfl h0 ?_
  refine am_wn rfl ?_
  refine ar_add rfl h1 ?_
  refine am_wn rfl ?_
  refine am_wn rfl ?_
  refine am_wn rfl ?_
  refine am_wn rfl ?_
  refine am_wn rfl ?_
  refine am_wn rfl ?_
  refine am_wn rfl ?_
  refine ar_iald rfl rfl h2 ?_
  refine am_wn rfl ?_
  exact ar_br (c := (σ 20 ((10 * z1) + z2)) ≠ 2) rfl k1 k2
theorem b_58_34 {sc : Int → Int} {σ : St} {Q : Ou → St → Nat → Prop} (z1 : Int) (z2 : Int) (z3 : Int) (s1 : Int) (h0 : 0 ≤ z3 ∧ z3 < 150) (k1 : ((σ 19 z3) ≤ 0) → am_wp sc 58 61 [.inr (.inl 1), .inl z1, .inl z2, .inl z3] [.inl s1, .inr (.inl 19)] σ Q) (k2 : ¬ ((σ 19 z3) ≤ 0) → am_wp sc 58 43 [.inr (.inl 1), .inl z1, .inl z2, .inl z3] [.inl s1, .inr (.inl 19)] σ Q) : am_wp sc 58 34 [.inr (.inl 1), .inl z1, .inl z2, .inl z3] [.inl s1, .inr (.inl 19)] σ Q := by
  refine am_wn rfl ?_
  refine am_wn rfl ?_
  refine am_wn rfl ?_
  refine ar_iald rfl rfl h0 ?_
  exact ar_br (c := (σ 19 z3) ≤ 0) rfl k1 k2
theorem b_58_43 {sc : Int → Int} {σ : St} {Q : Ou → St → Nat → Prop} (z1 : Int) (z2 : Int) (z3 : Int) (s1 : Int) (h0 : 0 ≤ z3 ∧ z3 < 150) (h1 : 0 ≤ (σ 19 z3) ∧ (σ 19 z3) < 15) (k1 : ((σ 23 (σ 19 z3)) ≠ 0) → am_wp sc 58 61 [.inr (.inl 1), .inl z1, .inl z2, .inl z3] [.inl s1, .inr (.inl 19)] σ Q) (k2 : ¬ ((σ 23 (σ 19 z3)) ≠ 0) → am_wp sc 58 57 [.inr (.inl 1), .inl z1, .inl z2, .inl z3] [.inl s1, .inr (.inl 19)] σ Q) : am_wp sc 58 43 [.inr (.inl 1), .inl z1, .inl z2, .inl z3] [.inl s1, .inr (.inl 19)] σ Q := by
  refine am_wn rfl ?_
  refine am_wn rfl ?_
  refine am_wn rfl ?_
  refine am_wn rfl ?_
  refine am_wn rfl ?_
  refine ar_iald rfl rfl h0 ?_
  refine ar_bald rfl rfl h1 ?_
  exact ar_br (c := (σ 23 (σ 19 z3)) ≠ 0) rfl k1 k2
theorem b_58_57 {sc : Int → Int} {σ : St} {Q : Ou → St → Nat → Prop} (z1 : Int) (z2 : Int) (z3 : Int) (s1 : Int) (k : am_wp sc 58 67 [.inr (.inl 1), .inl z1, .inl z2, .inl z3] [.inl 0, .inl s1, .inr (.inl 19)] σ Q) : am_wp sc 58 57 [.inr (.inl 1), .inl z1, .inl z2, .inl z3] [.inl s1, .inr (.inl 19)] σ Q := by
  refine am_wn rfl ?_
  refine am_wn rfl ?_
  exact k
theorem b_58_61 {sc : Int → Int} {σ : St} {Q : Ou → St → Nat → Prop} (z1 : Int) (z2 : Int) (z3 : Int) (s1 : Int) (h0 : 0 ≤ z3 ∧ z3 < 150) (k : am_wp sc 58 67 [.inr (.inl 1), .inl z1, .inl z2, .inl z3] [.inl (σ 19 z3), .inl s1, .inr (.inl 19)] σ Q) : am_wp sc 58 61 [.inr (.inl 1), .inl z1, .inl z2, .inl z3] [.inl s1, .inr (.inl 19)] σ Q := by
  refine am_wn rfl ?_
  refine am_wn rfl ?_
  refine am_wn rfl ?_
  refine ar_iald rfl rfl h0 ?_
  exact k
theorem b_58_67 {sc : Int → Int} {σ : St} {Q : Ou → St → Nat → Prop} (z1 : Int) (z2 : Int) (z3 : Int) (s1 : Int) (s2 : Int) (h0 : 0 ≤ s1 ∧ s1 < 150) (h1 : am_R (z2 + 1)) (k : am_wp sc 58 2 [.inr (.inl 1), .inl z1, .inl (z2 + 1), .inl z3] [] (am_up σ 19 s1 s2) Q) : am_wp sc 58 67 [.inr (.inl 1), .inl z1, .inl z2, .inl z3] [.inl s2, .inl s1, .inr (.inl 19)] σ Q := by
  refine ar_iast rfl rfl h0 ?_
  refine ar_inc (L' := [.inr (.inl 1), .inl z1, .inl (z2 + 1), .inl z3]) rfl rfl h1 rfl ?_
  refine am_wn rfl ?_
  exact k
theorem b_58_74 {sc : Int → Int} {σ : St} {Q : Ou → St → Nat → Prop} (z1 : Int) (z2 : Int) (v3 : AV) (k : Q (.inl none) σ 0) : am_wp sc 58 74 [.inr (.inl 1), .inl z1, .inl z2, v3] [] σ Q := by
  exact am_w62 rfl k
/-! SlidingHeapModel.save -/
theorem b_59_0 {sc : Int → Int} {σ : St} {Q : Ou → St → Nat → Prop} (v1 : AV) (k : am_wp sc 59 2 [.inr (.inl 1), .inl 1] [] σ Q) : am_wp sc 59 0 [.inr (.inl 1), v1] [] σ Q := by
  refine am_wn rfl ?_
  refine am_wn rfl ?_
  exact k
theorem b_59_2 {sc : Int → Int} {σ : St} {Q : Ou → St → Nat → Prop} (z1 : Int) (k1 : (15 ≤ z1) → am_wp sc 59 52 [.inr (.inl 1), .inl z1] [] σ Q) (k2 : ¬ (15 ≤ z1) → am_wp sc 59 8 [.inr (.inl 1), .inl z1] [] σ Q) : am_wp sc 59 2 [.inr (.inl 1), .inl z1] [] σ Q := by
  refine am_wn rfl ?_
  refine am_wn rfl ?_
  exact ar_br (c := 15 ≤ z1) rfl k1 k2
theorem b_59_8 {sc : Int → Int} {σ : St} {Q : Ou → St → Nat → Prop} (z1 : Int) (h0 : 0 ≤ z1 ∧ z1 < 15) (k1 : ((σ 15 z1) = 0) → am_wp sc 59 44 [.inr (.inl 1), .inl z1] [.inl z1, .inr (.inl 24)] σ Q) (k2 : ¬ ((σ 15 z1) = 0) → am_wp sc 59 22 [.inr (.inl 1), .inl z1] [.inl z1, .inr (.inl 24)] σ Q) : am_wp sc 59 8 [.inr (.inl 1), .inl z1] [] σ Q := by
  refine am_wn rfl ?_
  refine am_wn rfl ?_
  refine am_wn rfl ?_
  refine am_wn rfl ?_
  refine am_wn rfl ?_
  refine am_wn rfl ?_
  refine ar_bald rfl rfl h0 ?_
  exact ar_br (c := (σ 15 z1) = 0) rfl k1 k2
theorem b_59_22 {sc : Int → Int} {σ : St} {Q : Ou → St → Nat → Prop} (z1 : Int) (s1 : Int) (h0 : 0 ≤ z1 ∧ z1 < 15) (k1 : ((σ 23 z1) ≠ 0) → am_wp sc 59 44 [.inr (.inl 1), .inl z1] [.inl s1, .inr (.inl 24)] σ Q) (k2 : ¬ ((σ 23 z1) ≠ 0) → am_wp sc 59 31 [.inr (.inl 1), .inl z1] [.inl s1, .inr (.inl 24)] σ Q) : am_wp sc 59 22 [.inr (.inl 1), .inl z1] [.inl s1, .inr (.inl 24)] σ Q := by
  refine am_wn rfl ?_
  refine am_wn rfl ?_
  refine am_wn rfl ?_
  refine ar_bald rfl rfl h0 ?_
  exact ar_br (c := (σ 23 z1) ≠ 0) rfl k1 k2
theorem b_59_31 {sc : Int → Int} {σ : St} {Q : Ou → St → Nat → Prop} (z1 : Int) (s1 : Int) (h0 : 0 ≤ z1 ∧ z1 < 15) (k1 : ((σ 18 z1) = 0) → am_wp sc 59 44 [.inr (.inl 1), .inl z1] [.inl s1, .inr (.inl 24)] σ Q) (k2 : ¬ ((σ 18 z1) = 0) → am_wp sc 59 40 [.inr (.inl 1), .inl z1] [.inl s1, .inr (.inl 24)] σ Q) : am_wp sc 59 31 [.inr (.inl 1), .inl z1] [.inl s1, .inr (.inl 24)] σ Q := by
  refine am_wn rfl ?_
  refine am_wn rfl ?_
  refine am_wn rfl ?_
  refine ar_bald rfl rfl h0 ?_
  exact ar_br (c := (σ 18 z1) = 0) rfl k1 k2
theorem b_59_40 {sc : Int → Int} {σ : St} {Q : Ou → St → Nat → Prop} (z1 : Int) (s1 : Int) (k : am_wp sc 59 45 [.inr (.inl 1), .inl z1] [.inl 1, .inl s1, .inr (.inl 24)] σ Q) : am_wp sc 59 40 [.inr (.inl 1), .inl z1] [.inl s1, .inr (.inl 24)] σ Q := by
  refine am_wn rfl ?_
  refine am_wn rfl ?_
  exact k
theorem b_59_44 {sc : Int → Int} {σ : St} {Q : Ou → St → Nat → Prop} (z1 : Int) (s1 : Int) (k : am_wp sc 59 45 [.inr (.inl 1), .inl z1] [.inl 0, .inl s1, .inr (.inl 24)] σ Q) : am_wp sc 59 44 [.inr (.inl 1), .inl z1] [.inl s1, .inr (.inl 24)] σ Q := by
  refine am_wn rfl ?_
  exact k
theorem b_59_45 {sc : Int → Int} {σ : St} {Q : Ou → St → Nat → Prop} (z1 : Int) (s1 : Int) (s2 : Int) (h0 : 0 ≤ s1 ∧ s1 < 15) (h1 : s2 = 0 ∨ s2 = 1) (h2 : am_R (z1 + 1)) (k : am_wp sc 59 2 [.inr (.inl 1), .inl (z1 + 1)] [] (am_up σ 24 s1 s2) Q) : am_wp sc 59 45 [.inr (.inl 1), .inl z1] [.inl s2, .inl s1, .inr (.inl 24)] σ Q := by
  refine ar_bast rfl rfl h0 h1 ?_
  refine ar_inc (L' := [.inr (.inl 1), .inl (z1 + 1)]) rfl rfl h2 rfl ?_
  refine am_wn rfl ?_
  exact k
theorem b_59_52 {sc : Int → Int} {σ : St} {Q : Ou → St → Nat → Prop} (z1 : Int) (k : am_wp sc 59 54 [.inr (.inl 1), .inl 1] [] σ Q) : am_wp sc 59 52 [.inr (.inl 1), .inl z1] [] σ Q := by
  refine am_wn rfl ?_
  refine am_wn rfl ?_
  exact k
theorem b_59_54 {sc : Int → Int} {σ : St} {Q : Ou → St → Nat → Prop} (z1 : Int) (k1 : (15 ≤ z1) → am_wp sc 59 95 [.inr (.inl 1), .inl z1] [] σ Q) (k2 : ¬ (15 ≤ z1) → am_wp sc 59 60 [.inr (.inl 1), .inl z1] [] σ Q) : am_wp sc 59 54 [.inr (.inl 1), .inl z1] [] σ Q := by
  refine am_wn rfl ?_
  refine am_wn rfl ?_
  exact ar_br (c := 15 ≤ z1) rfl k1 k2
theorem b_59_60 {sc : Int → Int} {σ : St} {Q : Ou → St → Nat → Prop} (z1 : Int) (h0 : 0 ≤ z1 ∧ z1 < 15) (k1 : ((σ 23 z1) ≠ 0) → am_wp sc 59 83 [.inr (.inl 1), .inl z1] [.inl z1, .inr (.inl 23)] σ Q) (k2 : ¬ ((σ 23 z1) ≠ 0) → am_wp sc 59 74 [.inr (.inl 1), .inl z1] [.inl z1, .inr (.inl 23)] σ Q) : am_wp sc 59 60 [.inr (.inl 1), .inl z1] [] σ Q := by
  refine am_wn rfl ?_
  refine am_wn rfl ?_
  refine am_wn rfl ?_
  refine am_wn rfl ?_
  refine am_wn rfl ?_
  refine am_wn rfl ?_
  refine ar_bald rfl rfl h0 ?_
  exact ar_br (c := (σ 23 z1) ≠ 0) rfl k1 k2
theorem b_59_74 {sc : Int → Int} {σ : St} {Q : Ou → St → Nat → Prop} (z1 : Int) (s1 : Int) (h0 : 0 ≤ z1 ∧ z1 < 15) (k1 : ((σ 24 z1) = 0) → am_wp sc 59 87 [.inr (.inl 1), .inl z1] [.inl s1, .inr (.inl 23)] σ Q) (k2 : ¬ ((σ 24 z1) = 0) → am_wp sc 59 83 [.inr (.inl 1), .inl z1] [.inl s1, .inr (.inl 23)] σ Q) : am_wp sc 59 74 [.inr (.inl 1), .inl z1] [.inl s1, .inr (.inl 23)] σ Q := by
  refine am_wn rfl ?_
  refine am_wn rfl ?_
  refine am_wn rfl ?_
  refine ar_bald rfl rfl h0 ?_
  exact ar_br (c := (σ 24 z1) = 0) rfl k1 k2
theorem b_59_83 {sc : Int → Int} {σ : St} {Q : Ou → St → Nat → Prop} (z1 : Int) (s1 : Int) (k : am_wp sc 59 88 [.inr (.inl 1), .inl z1] [.inl 1, .inl s1, .inr (.inl 23)] σ Q) : am_wp sc 59 83 [.inr (.inl 1), .inl z1] [.inl s1, .inr (.inl 23)] σ Q := by
  refine am_wn rfl ?_
  refine am_wn rfl ?_
  exact k
theorem b_59_87 {sc : Int → Int} {σ : St} {Q : Ou → St → Nat → Prop} (z1 : Int) (s1 : Int) (k : am_wp sc 59 88 [.inr (.inl 1), .inl z1] [.inl 0, .inl s1, .inr (.inl 23)] σ Q) : am_wp sc 59 87 [.inr (.inl 1), .inl z1] [.inl s1, .inr (.inl 23)] σ Q := by
  refine am_wn rfl ?_
  exact k
theorem b_59_88 {sc : Int → Int} {σ : St} {Q : Ou → St → Nat → Prop} (z1 : Int) (s1 : Int) (s2 : Int) (h0 : 0 ≤ s1 ∧ s1 < 15) (h1 : s2 = 0 ∨ s2 = 1) (h2 : am_R (z1 + 1)) (k : am_wp sc 59 54 [.inr (.inl 1), .inl (z1 + 1)] [] (am_up σ 23 s1 s2) Q) : am_wp sc 59 88 [.inr (.inl 1), .inl z1] [.inl s2, .inl s1, .inr (.inl 23)] σ Q := by
  refine ar_bast rfl rfl h0 h1 ?_
  refine ar_inc (L' := [.inr (.inl 1), .inl (z1 + 1)]) rfl rfl h2 rfl ?_
  refine am_wn rfl ?_
  exact k
theorem b_59_95 {sc : Int → Int} {σ : St} {Q : Ou → St → Nat → Prop} (z1 : Int) (k : am_wp sc 54 0 [.inr (.inl 1), .inr (.inr 0), .inr (.inr 0), .inr (.inr 0), .inr (.inr 0)] [] σ (am_bk sc 59 96 [.inr (.inl 1), .inl z1] [] Q)) : am_wp sc 59 95 [.inr (.inl 1), .inl z1] [] σ Q := by
  refine am_wn rfl ?_
  exact am_wc rfl (by decide) (by decide) rfl k
theorem b_59_99 {sc : Int → Int} {σ : St} {Q : Ou → St → Nat → Prop} (z1 : Int) (k : Q (.inl none) σ 0) : am_wp sc 59 99 [.inr (.inl 1), .inl z1] [] σ Q := by
  exact am_w62 rfl k
/-! SlidingHeapModel.collectAll -/
theorem b_60_0 {sc : Int → Int} {σ : St} {Q : Ou → St → Nat → Prop} (v1 : AV) (v2 : AV) (v3 : AV) (v4 : AV) (k : am_wp sc 56 0 [.inr (.inl 1), .inl 0, .inr (.inr 0), .inr (.inr 0)] [] σ (am_bk sc 60 2 [.inr (.inl 1), v1, v2, v3, v4] [] Q)) : am_wp sc 60 0 [.inr (.inl 1), v1, v2, v3, v4] [] σ Q := by
  refine am_wn rfl ?_
  refine am_wn rfl ?_
  exact am_wc rfl (by decide) (by decide) rfl k
theorem b_60_5 {sc : Int → Int} {σ : St} {Q : Ou → St → Nat → Prop} (v1 : AV) (v2 : AV) (v3 : AV) (v4 : AV) (s0 : Int) (k : am_wp sc 55 0 [.inr (.inl 1), .inr (.inr 0)] [] σ (am_bk sc 60 7 [.inr (.inl 1), .inl s0, v2, v3, v4] [] Q)) : am_wp sc 60 5 [.inr (.inl 1), v1, v2, v3, v4] [.inl s0] σ Q := by
  refine am_wn rfl ?_
  refine am_wn rfl ?_
  exact am_wc rfl (by decide) (by decide) rfl k
theorem b_60_10 {sc : Int → Int} {σ : St} {Q : Ou → St → Nat → Prop} (z1 : Int) (v2 : AV) (v3 : AV) (v4 : AV) (k : am_wp sc 60 12 [.inr (.inl 1), .inl z1, .inl 1, v3, v4] [] σ Q) : am_wp sc 60 10 [.inr (.inl 1), .inl z1, v2, v3, v4] [] σ Q := by
  refine am_wn rfl ?_
  refine am_wn rfl ?_
  exact k
theorem b_60_12 {sc : Int → Int} {σ : St} {Q : Ou → St → Nat → Prop} (z1 : Int) (z2 : Int) (v3 : AV) (v4 : AV) (k1 : (15 ≤ z2) → am_wp sc 60 38 [.inr (.inl 1), .inl z1, .inl z2, v3, v4] [] σ Q) (k2 : ¬ (15 ≤ z2) → am_wp sc 60 18 [.inr (.inl 1), .inl z1, .inl z2, v3, v4] [] σ Q) : am_wp sc 60 12 [.inr (.inl 1), .inl z1, .inl z2, v3, v4] [] σ Q := by
  refine am_wn rfl ?_
  refine am_wn rfl ?_
  exact ar_br (c := 15 ≤ z2) rfl k1 k2
theorem b_60_18 {sc : Int → Int} {σ : St} {Q : Ou → St → Nat → Prop} (z1 : Int) (z2 : Int) (v3 : AV) (v4 : AV) (h0 : 0 ≤ z2 ∧ z2 < 15) (k1 : ((σ 23 z2) = 0) → am_wp sc 60 32 [.inr (.inl 1), .inl z1, .inl z2, v3, v4] [] σ Q) (k2 : ¬ ((σ 23 z2) = 0) → am_wp sc 60 27 [.inr (.inl 1), .inl z1, .inl z2, v3, v4] [] σ Q) : am_wp sc 60 18 [.inr (.inl 1), .inl z1, .inl z2, v3, v4] [] σ Q := by
  refine am_wn rfl ?_
  refine am_wn rfl ?_
  refine am_wn rfl ?_
  refine ar_bald rfl rfl h0 ?_
  exact ar_br (c := (σ 23 z2) = 0) rfl k1 k2
theorem b_60_27 {sc : Int → Int} {σ : St} {Q : Ou → St → Nat → Prop} (z1 : Int) (z2 : Int) (v3 : AV) (v4 : AV) (k : am_wp sc 58 0 [.inr (.inl 1), .inl z2, .inr (.inr 0), .inr (.inr 0)] [] σ (am_bk sc 60 29 [.inr (.inl 1), .inl z1, .inl z2, v3, v4] [] Q)) : am_wp sc 60 27 [.inr (.inl 1), .inl z1, .inl z2, v3, v4] [] σ Q := by
  refine am_wn rfl ?_
  refine am_wn rfl ?_
  exact am_wc rfl (by decide) (by decide) rfl k
theorem b_60_32 {sc : Int → Int} {σ : St} {Q : Ou → St → Nat → Prop} (z1 : Int) (z2 : Int) (v3 : AV) (v4 : AV) (h0 : am_R (z2 + 1)) (k : am_wp sc 60 12 [.inr (.inl 1), .inl z1, .inl (z2 + 1), v3, v4] [] σ Q) : am_wp sc 60 32 [.inr (.inl 1), .inl z1, .inl z2, v3, v4] [] σ Q := by
  refine ar_inc (L' := [.inr (.inl 1), .inl z1, .inl (z2 + 1), v3, v4]) rfl rfl h0 rfl ?_
  refine am_wn rfl ?_
  exact k
theorem b_60_38 {sc : Int → Int} {σ : St} {Q : Ou → St → Nat → Prop} (z1 : Int) (z2 : Int) (v3 : AV) (v4 : AV) (k : am_wp sc 59 0 [.inr (.inl 1), .inr (.inr 0)] [] σ (am_bk sc 60 39 [.inr (.inl 1), .inl z1, .inl z2, v3, v4] [] Q)) : am_wp sc 60 38 [.inr (.inl 1), .inl z1, .inl z2, v3, v4] [] σ Q := by
  refine am_wn rfl ?_
  exact am_wc rfl (by decide) (by decide) rfl k
theorem b_60_42 {sc : Int → Int} {σ : St} {Q : Ou → St → Nat → Prop} (z1 : Int) (z2 : Int) (v3 : AV) (v4 : AV) (k : am_wp sc 60 44 [.inr (.inl 1), .inl z1, .inl 1, v3, v4] [] σ Q) : am_wp sc 60 42 [.inr (.inl 1), .inl z1, .inl z2, v3, v4] [] σ Q := by
  refine am_wn rfl ?_
  refine am_wn rfl ?_
  exact k
theorem b_60_44 {sc : Int → Int} {σ : St} {Q : Ou → St → Nat → Prop} (z1 : Int) (z2 : Int) (v3 : AV) (v4 : AV) (k1 : (15 ≤ z2) → am_wp sc 60 136 [.inr (.inl 1), .inl z1, .inl z2, v3, v4] [] σ Q) (k2 : ¬ (15 ≤ z2) → am_wp sc 60 50 [.inr (.inl 1), .inl z1, .inl z2, v3, v4] [] σ Q) : am_wp sc 60 44 [.inr (.inl 1), .inl z1, .inl z2, v3, v4] [] σ Q := by
  refine am_wn rfl ?_
  refine am_wn rfl ?_
  exact ar_br (c := 15 ≤ z2) rfl k1 k2
theorem b_60_50 {sc : Int → Int} {σ : St} {Q : Ou → St → Nat → Prop} (z1 : Int) (z2 : Int) (v3 : AV) (v4 : AV) (h0 : 0 ≤ z2 ∧ z2 < 15) (k1 : ((σ 24 z2) = 0) → am_wp sc 60 86 [.inr (.inl 1), .inl z1, .inl z2, v3, v4] [] σ Q) (k2 : ¬ ((σ 24 z2) = 0) → am_wp sc 60 59 [.inr (.inl 1), .inl z1, .inl z2, v3, v4] [] σ Q) : am_wp sc 60 50 [.inr (.inl 1), .inl z1, .inl z2, v3, v4] [] σ Q := by
  refine am_wn rfl ?_
  refine am_wn rfl ?_
  refine am_wn rfl ?_
  refine ar_bald rfl rfl h0 ?_
  exact ar_br (c := (σ 24 z2) = 0) rfl k1 k2
theorem b_60_59 {sc : Int → Int} {σ : St} {Q : Ou → St → Nat → Prop} (z1 : Int) (z2 : Int) (v3 : AV) (v4 : AV) (h0 : 0 ≤ (σ 43 0) ∧ (σ 43 0) < 15) (h1 : am_R ((σ 43 0) + 1)) (h2 : 0 ≤ z2 ∧ z2 < 15) (k : am_wp sc 60 86 [.inr (.inl 1), .inl z1, .inl z2, v3, v4] [] (am_up (am_up (am_up σ 22 (σ 43 0) z2) 43 0 ((σ 43 0) + 1)) 18 z2 0) Q) : am_wp sc 60 59 [.inr (.inl 1), .inl z1, .inl z2, v3, v4] [] σ Q := by
  refine am_wn rfl ?_
  refine am_wn rfl ?_
  refine am_wn rfl ?_
  refine am_wn rfl ?_
  refine am_wn rfl ?_
  refine ar_iast rfl rfl h0 ?_
  refine am_wn rfl ?_
  refine am_wn rfl ?_
  refine am_wn rfl ?_
  refine am_wn rfl ?_
  refine ar_add rfl h1 ?_
  refine am_wn rfl ?_
  refine am_wn rfl ?_
  refine am_wn rfl ?_
  refine am_wn rfl ?_
  refine am_wn rfl ?_
  refine ar_bast rfl rfl h2 (Or.inl rfl) ?_
  exact k
theorem b_60_86 {sc : Int → Int} {σ : St} {Q : Ou → St → Nat → Prop} (z1 : Int) (z2 : Int) (v3 : AV) (v4 : AV) (h0 : 0 ≤ z2 ∧ z2 < 15) (k1 : ((σ 23 z2) = 0) → am_wp sc 60 130 [.inr (.inl 1), .inl z1, .inl z2, v3, v4] [] σ Q) (k2 : ¬ ((σ 23 z2) = 0) → am_wp sc 60 95 [.inr (.inl 1), .inl z1, .inl z2, v3, v4] [] σ Q) : am_wp sc 60 86 [.inr (.inl 1), .inl z1, .inl z2, v3, v4] [] σ Q := by
  refine am_wn rfl ?_
  refine am_wn rfl ?_
  refine am_wn rfl ?_
  refine ar_bald rfl rfl h0 ?_
  exact ar_br (c := (σ 23 z2) = 0) rfl k1 k2
theorem b_60_95 {sc : Int → Int} {σ : St} {Q : Ou → St → Nat → Prop} (z1 : Int) (z2 : Int) (v3 : AV) (v4 : AV) (k : am_wp sc 58 0 [.inr (.inl 1), .inl z2, .inr (.inr 0), .inr (.inr 0)] [] σ (am_bk sc 60 97 [.inr (.inl 1), .inl z1, .inl z2, v3, v4] [] Q)) : am_wp sc 60 95 [.inr (.inl 1), .inl z1, .inl z2, v3, v4] [] σ Q := by
  refine am_wn rfl ?_
  refine am_wn rfl ?_
  exact am_wc rfl (by decide) (by decide) rfl k
theorem b_60_100 {sc : Int → Int} {σ : St} {Q : Ou → St → Nat → Prop} (z1 : Int) (z2 : Int) (v3 : AV) (v4 : AV) (h0 : 0 ≤ z2 ∧ z2 < 15) (k1 : (99 ≤ (σ 17 z2)) → am_wp sc 60 127 [.inr (.inl 1), .inl z1, .inl z2, v3, v4] [.inl z2, .inr (.inl 17)] σ Q) (k2 : ¬ (99 ≤ (σ 17 z2)) → am_wp sc 60 116 [.inr (.inl 1), .inl z1, .inl z2, v3, v4] [.inl z2, .inr (.inl 17)] σ Q) : am_wp sc 60 100 [.inr (.inl 1), .inl z1, .inl z2, v3, v4] [] σ Q := by
  refine am_wn rfl ?_
  refine am_wn rfl ?_
  refine am_wn rfl ?_
  refine am_wn rfl ?_
  refine am_wn rfl ?_
  refine am_wn rfl ?_
  refine ar_iald rfl rfl h0 ?_
  refine am_wn rfl ?_
  exact ar_br (c := 99 ≤ (σ 17 z2)) rfl k1 k2
theorem b_60_116 {sc : Int → Int} {σ : St} {Q : Ou → St → Nat → Prop} (z1 : Int) (z2 : Int) (v3 : AV) (v4 : AV) (s1 : Int) (h0 : 0 ≤ z2 ∧ z2 < 15) (h1 : am_R ((σ 17 z2) + 1)) (k : am_wp sc 60 129 [.inr (.inl 1), .inl z1, .inl z2, v3, v4] [.inl ((σ 17 z2) + 1), .inl s1, .inr (.inl 17)] σ Q) : am_wp sc 60 116 [.inr (.inl 1), .inl z1, .inl z2, v3, v4] [.inl s1, .inr (.inl 17)] σ Q := by
  refine am_wn rfl ?_
  refine am_wn rfl ?_
  refine am_wn rfl ?_
  refine ar_iald rfl rfl h0 ?_
  refine am_wn rfl ?_
  refine ar_add rfl h1 ?_
  refine am_wn rfl ?_
  exact k
theorem b_60_127 {sc : Int → Int} {σ : St} {Q : Ou → St → Nat → Prop} (z1 : Int) (z2 : Int) (v3 : AV) (v4 : AV) (s1 : Int) (k : am_wp sc 60 129 [.inr (.inl 1), .inl z1, .inl z2, v3, v4] [.inl 99, .inl s1, .inr (.inl 17)] σ Q) : am_wp sc 60 127 [.inr (.inl 1), .inl z1, .inl z2, v3, v4] [.inl s1, .inr (.inl 17)] σ Q := by
  refine am_wn rfl ?_
  exact k
theorem b_60_129 {sc : Int → Int} {σ : St} {Q : Ou → St → Nat → Prop} (z1 : Int) (z2 : Int) (v3 : AV) (v4 : AV) (s1 : Int) (s2 : Int) (h0 : 0 ≤ s1 ∧ s1 < 15) (k : am_wp sc 60 130 [.inr (.inl 1), .inl z1, .inl z2, v3, v4] [] (am_up σ 17 s1 s2) Q) : am_wp sc 60 129 [.inr (.inl 1), .inl z1, .inl z2, v3, v4] [.inl s2, .inl s1, .inr (.inl 17)] σ Q := by
  refine ar_iast rfl rfl h0 ?_
  exact k
theorem b_60_130 {sc : Int → Int} {σ : St} {Q : Ou → St → Nat → Prop} (z1 : Int) (z2 : Int) (v3 : AV) (v4 : AV) (h0 : am_R (z2 + 1)) (k : am_wp sc 60 44 [.inr (.inl 1), .inl z1, .inl (z2 + 1), v3, v4] [] σ Q) : am_wp sc 60 130 [.inr (.inl 1), .inl z1, .inl z2, v3, v4] [] σ Q := by
  refine ar_inc (L' := [.inr (.inl 1), .inl z1, .inl (z2 + 1), v3, v4]) rfl rfl h0 rfl ?_
  refine am_wn rfl ?_
  exact k
theorem b_60_136 {sc : Int → Int} {σ : St} {Q : Ou → St → Nat → Prop} (z1 : Int) (z2 : Int) (v3 : AV) (v4 : AV) (k : am_wp sc 60 140 [.inr (.inl 1), .inl z1, .inl 0, .inl 0, v4] [] σ Q) : am_wp sc 60 136 [.inr (.inl 1), .inl z1, .inl z2, v3, v4] [] σ Q := by
  refine am_wn rfl ?_
  refine am_wn rfl ?_
  refine am_wn rfl ?_
  refine am_wn rfl ?_
  exact k
theorem b_60_140 {sc : Int → Int} {σ : St} {Q : Ou → St → Nat → Prop} (z1 : Int) (z2 : Int) (z3 : Int) (v4 : AV) (k1 : ((σ 41 0) ≤ z3) → am_wp sc 60 197 [.inr (.inl 1), .inl z1, .inl z2, .inl z3, v4] [] σ Q) (k2 : ¬ ((σ 41 0) ≤ z3) → am_wp sc 60 148 [.inr (.inl 1), .inl z1, .inl z2, .inl z3, v4] [] σ Q) : am_wp sc 60 140 [.inr (.inl 1), .inl z1, .inl z2, .inl z3, v4] [] σ Q := by
  refine am_wn rfl ?_
  refine am_wn rfl ?_
  refine am_wn rfl ?_
  exact ar_br (c := (σ 41 0) ≤ z3) rfl k1 k2
theorem b_60_148 {sc : Int → Int} {σ : St} {Q : Ou → St → Nat → Prop} (z1 : Int) (z2 : Int) (z3 : Int) (v4 : AV) (h0 : 0 ≤ z3 ∧ z3 < 15) (h1 : 0 ≤ (σ 14 z3) ∧ (σ 14 z3) < 15) (h2 : 0 ≤ (σ 14 z3) ∧ (σ 14 z3) < 15) (h3 : (σ 23 (σ 14 z3)) = 0 ∨ (σ 23 (σ 14 z3)) = 1) (h4 : 0 ≤ (σ 14 z3) ∧ (σ 14 z3) < 15) (k1 : ((σ 23 (σ 14 z3)) = 0) → am_wp sc 60 191 [.inr (.inl 1), .inl z1, .inl z2, .inl z3, .inl (σ 14 z3)] [] (am_up σ 15 (σ 14 z3) (σ 23 (σ 14 z3))) Q) (k2 : ¬ ((σ 23 (σ 14 z3)) = 0) → am_wp sc 60 180 [.inr (.inl 1), .inl z1, .inl z2, .inl z3, .inl (σ 14 z3)] [] (am_up σ 15 (σ 14 z3) (σ 23 (σ 14 z3))) Q) : am_wp sc 60 148 [.inr (.inl 1), .inl z1, .inl z2, .inl z3, v4] [] σ Q := by
  refine am_wn rfl ?_
  refine am_wn rfl ?_
  refine am_wn rfl ?_
  refine ar_iald rfl rfl h0 ?_
  refine am_wn rfl ?_
  refine am_wn rfl ?_
  refine am_wn rfl ?_
  refine am_wn rfl ?_
  refine am_wn rfl ?_
  refine am_wn rfl ?_
  refine am_wn rfl ?_
  refine ar_bald rfl rfl h1 ?_
  refine ar_bast rfl rfl h2 h3 ?_
  refine am_wn rfl ?_
  refine am_wn rfl ?_
  refine am_wn rfl ?_
  refine ar_bald rfl rfl h4 ?_
  exact ar_br (c := (σ 23 (σ 14 z3)) = 0) rfl k1 k2
theorem b_60_180 {sc : Int → Int} {σ : St} {Q : Ou → St → Nat → Prop} (z1 : Int) (z2 : Int) (z3 : Int) (z4 : Int) (h0 : 0 ≤ z2 ∧ z2 < 15) (h1 : am_R (z2 + 1)) (k : am_wp sc 60 191 [.inr (.inl 1), .inl z1, .inl (z2 + 1), .inl z3, .inl z4] [] (am_up σ 14 z2 z4) Q) : am_wp sc 60 180 [.inr (.inl 1), .inl z1, .inl z2, .inl z3, .inl z4] [] σ Q := by
  refine am_wn rfl ?_
  refine am_wn rfl ?_
  refine am_wn rfl ?_
  refine am_wn rfl ?_
  refine ar_iast rfl rfl h0 ?_
  refine ar_inc (L' := [.inr (.inl 1), .inl z1, .inl (z2 + 1), .inl z3, .inl z4]) rfl rfl h1 rfl ?_
  exact k
theorem b_60_191 {sc : Int → Int} {σ : St} {Q : Ou → St → Nat → Prop} (z1 : Int) (z2 : Int) (z3 : Int) (z4 : Int) (h0 : am_R (z3 + 1)) (k : am_wp sc 60 140 [.inr (.inl 1), .inl z1, .inl z2, .inl (z3 + 1), .inl z4] [] σ Q) : am_wp sc 60 191 [.inr (.inl 1), .inl z1, .inl z2, .inl z3, .inl z4] [] σ Q := by
  refine ar_inc (L' := [.inr (.inl 1), .inl z1, .inl z2, .inl (z3 + 1), .inl z4]) rfl rfl h0 rfl ?_
  refine am_wn rfl ?_
  exact k
theorem b_60_197 {sc : Int → Int} {σ : St} {Q : Ou → St → Nat → Prop} (z1 : Int) (z2 : Int) (z3 : Int) (v4 : AV) (h0 : am_R ((σ 44 0) + 1)) (k : am_wp sc 56 0 [.inr (.inl 1), .inl 0, .inr (.inr 0), .inr (.inr 0)] [] (am_up (am_up σ 41 0 z2) 44 0 ((σ 44 0) + 1)) (am_bk sc 60 215 [.inr (.inl 1), .inl z1, .inl z2, .inl z3, v4] [.inl z1] Q)) : am_wp sc 60 197 [.inr (.inl 1), .inl z1, .inl z2, .inl z3, v4] [] σ Q := by
  refine am_wn rfl ?_
  refine am_wn rfl ?_
  refine am_wn rfl ?_
  refine am_wn rfl ?_
  refine am_wn rfl ?_
  refine am_wn rfl ?_
  refine am_wn rfl ?_
  refine ar_add rfl h0 ?_
  refine am_wn rfl ?_
  refine am_wn rfl ?_
  refine am_wn rfl ?_
  refine am_wn rfl ?_
  exact am_wc rfl (by decide) (by decide) rfl k
theorem b_60_218 {sc : Int → Int} {σ : St} {Q : Ou → St → Nat → Prop} (z1 : Int) (z2 : Int) (z3 : Int) (v4 : AV) (s0 : Int) (s1 : Int) (h0 : am_R (s0 - s1)) (k : Q (.inl (some (s0 - s1))) σ 0) : am_wp sc 60 218 [.inr (.inl 1), .inl z1, .inl z2, .inl z3, v4] [.inl s1, .inl s0] σ Q := by
  refine ar_sub rfl h0 ?_
  exact am_w60 rfl k
/-! SlidingHeapModel.collect -/
theorem b_61_0 {sc : Int → Int} {σ : St} {Q : Ou → St → Nat → Prop}  (k : am_wp sc 60 0 [.inr (.inl 1), .inr (.inr 0), .inr (.inr 0), .inr (.inr 0), .inr (.inr 0)] [] (am_up σ 40 0 0) (am_bk sc 61 6 [.inr (.inl 1)] [] Q)) : am_wp sc 61 0 [.inr (.inl 1)] [] σ Q := by
  refine am_wn rfl ?_
  refine am_wn rfl ?_
  refine am_wn rfl ?_
  refine am_wn rfl ?_
  exact am_wc rfl (by decide) (by decide) rfl k
theorem b_61_9 {sc : Int → Int} {σ : St} {Q : Ou → St → Nat → Prop} (s0 : Int) (k : Q (.inl (some s0)) σ 0) : am_wp sc 61 9 [.inr (.inl 1)] [.inl s0] σ Q := by
  exact am_w60 rfl k
/-! SlidingHeapModel.freeHandle -/
theorem b_62_0 {sc : Int → Int} {σ : St} {Q : Ou → St → Nat → Prop} (v1 : AV) (v2 : AV) (k : am_wp sc 62 5 [.inr (.inl 1), .inl (-1), .inl 14] [] σ Q) : am_wp sc 62 0 [.inr (.inl 1), v1, v2] [] σ Q := by
  refine am_wn rfl ?_
  refine am_wn rfl ?_
  refine am_wn rfl ?_
  refine am_wn rfl ?_
  exact k
theorem b_62_5 {sc : Int → Int} {σ : St} {Q : Ou → St → Nat → Prop} (z1 : Int) (z2 : Int) (k1 : (z2 ≤ 0) → am_wp sc 62 30 [.inr (.inl 1), .inl z1, .inl z2] [] σ Q) (k2 : ¬ (z2 ≤ 0) → am_wp sc 62 9 [.inr (.inl 1), .inl z1, .inl z2] [] σ Q) : am_wp sc 62 5 [.inr (.inl 1), .inl z1, .inl z2] [] σ Q := by
  refine am_wn rfl ?_
  exact ar_br (c := z2 ≤ 0) rfl k1 k2
theorem b_62_9 {sc : Int → Int} {σ : St} {Q : Ou → St → Nat → Prop} (z1 : Int) (z2 : Int) (h0 : 0 ≤ z2 ∧ z2 < 15) (k1 : ((σ 15 z2) = 0) → am_wp sc 62 22 [.inr (.inl 1), .inl z1, .inl z2] [] σ Q) (k2 : ¬ ((σ 15 z2) = 0) → am_wp sc 62 18 [.inr (.inl 1), .inl z1, .inl z2] [] σ Q) : am_wp sc 62 9 [.inr (.inl 1), .inl z1, .inl z2] [] σ Q := by
  refine am_wn rfl ?_
  refine am_wn rfl ?_
  refine am_wn rfl ?_
  refine ar_bald rfl rfl h0 ?_
  exact ar_br (c := (σ 15 z2) = 0) rfl k1 k2
theorem b_62_18 {sc : Int → Int} {σ : St} {Q : Ou → St → Nat → Prop} (z1 : Int) (z2 : Int) (k : am_wp sc 62 23 [.inr (.inl 1), .inl z1, .inl z2] [.inl z1] σ Q) : am_wp sc 62 18 [.inr (.inl 1), .inl z1, .inl z2] [] σ Q := by
  refine am_wn rfl ?_
  refine am_wn rfl ?_
  exact k
theorem b_62_22 {sc : Int → Int} {σ : St} {Q : Ou → St → Nat → Prop} (z1 : Int) (z2 : Int) (k : am_wp sc 62 23 [.inr (.inl 1), .inl z1, .inl z2] [.inl z2] σ Q) : am_wp sc 62 22 [.inr (.inl 1), .inl z1, .inl z2] [] σ Q := by
  refine am_wn rfl ?_
  exact k
theorem b_62_23 {sc : Int → Int} {σ : St} {Q : Ou → St → Nat → Prop} (z1 : Int) (z2 : Int) (s0 : Int) (h0 : am_R (z2 + (-1))) (k : am_wp sc 62 5 [.inr (.inl 1), .inl s0, .inl (z2 + (-1))] [] σ Q) : am_wp sc 62 23 [.inr (.inl 1), .inl z1, .inl z2] [.inl s0] σ Q := by
  refine am_wn rfl ?_
  refine ar_inc (L' := [.inr (.inl 1), .inl s0, .inl (z2 + (-1))]) rfl rfl h0 rfl ?_
  refine am_wn rfl ?_
  exact k
theorem b_62_30 {sc : Int → Int} {σ : St} {Q : Ou → St → Nat → Prop} (z1 : Int) (z2 : Int) (k : Q (.inl (some z1)) σ 0) : am_wp sc 62 30 [.inr (.inl 1), .inl z1, .inl z2] [] σ Q := by
  refine am_wn rfl ?_
  exact am_w60 rfl k
/-! SlidingHeapModel.isRoom -/
theorem b_63_0 {sc : Int → Int} {σ : St} {Q : Ou → St → Nat → Prop} (z1 : Int) (k : am_wp sc 62 0 [.inr (.inl 1), .inr (.inr 0), .inr (.inr 0)] [] σ (am_bk sc 63 1 [.inr (.inl 1), .inl z1] [] Q)) : am_wp sc 63 0 [.inr (.inl 1), .inl z1] [] σ Q := by
  refine am_wn rfl ?_
  exact am_wc rfl (by decide) (by decide) rfl k
theorem b_63_4 {sc : Int → Int} {σ : St} {Q : Ou → St → Nat → Prop} (z1 : Int) (s0 : Int) (k1 : (s0 ≤ 0) → am_wp sc 63 25 [.inr (.inl 1), .inl z1] [] σ Q) (k2 : ¬ (s0 ≤ 0) → am_wp sc 63 7 [.inr (.inl 1), .inl z1] [] σ Q) : am_wp sc 63 4 [.inr (.inl 1), .inl z1] [.inl s0] σ Q := by
  exact ar_br (c := s0 ≤ 0) rfl k1 k2
theorem b_63_7 {sc : Int → Int} {σ : St} {Q : Ou → St → Nat → Prop} (z1 : Int) (k : am_wp sc 56 0 [.inr (.inl 1), .inl 0, .inr (.inr 0), .inr (.inr 0)] [] σ (am_bk sc 63 9 [.inr (.inl 1), .inl z1] [] Q)) : am_wp sc 63 7 [.inr (.inl 1), .inl z1] [] σ Q := by
  refine am_wn rfl ?_
  refine am_wn rfl ?_
  exact am_wc rfl (by decide) (by decide) rfl k
theorem b_63_12 {sc : Int → Int} {σ : St} {Q : Ou → St → Nat → Prop} (z1 : Int) (s0 : Int) (h0 : am_R (s0 + z1)) (h1 : am_R ((s0 + z1) + 2)) (k1 : (90 < ((s0 + z1) + 2)) → am_wp sc 63 25 [.inr (.inl 1), .inl z1] [] σ Q) (k2 : ¬ (90 < ((s0 + z1) + 2)) → am_wp sc 63 21 [.inr (.inl 1), .inl z1] [] σ Q) : am_wp sc 63 12 [.inr (.inl 1), .inl z1] [.inl s0] σ Q := by
  refine am_wn rfl ?_
  refine ar_add rfl h0 ?_
  refine am_wn rfl ?_
  refine ar_add rfl h1 ?_
  refine am_wn rfl ?_
  exact ar_br (c := 90 < ((s0 + z1) + 2)) rfl k1 k2
theorem b_63_21 {sc : Int → Int} {σ : St} {Q : Ou → St → Nat → Prop} (z1 : Int) (k : am_wp sc 63 26 [.inr (.inl 1), .inl z1] [.inl 1] σ Q) : am_wp sc 63 21 [.inr (.inl 1), .inl z1] [] σ Q := by
  refine am_wn rfl ?_
  refine am_wn rfl ?_
  exact k
theorem b_63_25 {sc : Int → Int} {σ : St} {Q : Ou → St → Nat → Prop} (z1 : Int) (k : am_wp sc 63 26 [.inr (.inl 1), .inl z1] [.inl 0] σ Q) : am_wp sc 63 25 [.inr (.inl 1), .inl z1] [] σ Q := by
  refine am_wn rfl ?_
  exact k
theorem b_63_26 {sc : Int → Int} {σ : St} {Q : Ou → St → Nat → Prop} (z1 : Int) (s0 : Int) (h0 : s0 = 0 ∨ s0 = 1) (k : Q (.inl (some s0)) σ 0) : am_wp sc 63 26 [.inr (.inl 1), .inl z1] [.inl s0] σ Q := by
  exact am_w61 rfl h0 k
/-! SlidingHeapModel.wouldBeRoom -/
theorem b_64_0 {sc : Int → Int} {σ : St} {Q : Ou → St → Nat → Prop} (z1 : Int) (k : am_wp sc 55 0 [.inr (.inl 1), .inr (.inr 0)] [] σ (am_bk sc 64 1 [.inr (.inl 1), .inl z1] [] Q)) : am_wp sc 64 0 [.inr (.inl 1), .inl z1] [] σ Q := by
  refine am_wn rfl ?_
  exact am_wc rfl (by decide) (by decide) rfl k
theorem b_64_4 {sc : Int → Int} {σ : St} {Q : Ou → St → Nat → Prop} (z1 : Int) (k : am_wp sc 59 0 [.inr (.inl 1), .inr (.inr 0)] [] σ (am_bk sc 64 5 [.inr (.inl 1), .inl z1] [] Q)) : am_wp sc 64 4 [.inr (.inl 1), .inl z1] [] σ Q := by
  refine am_wn rfl ?_
  exact am_wc rfl (by decide) (by decide) rfl k
theorem b_64_8 {sc : Int → Int} {σ : St} {Q : Ou → St → Nat → Prop} (z1 : Int) (k : am_wp sc 57 0 [.inr (.inl 1), .inr (.inr 0), .inr (.inr 0)] [] σ (am_bk sc 64 9 [.inr (.inl 1), .inl z1] [] Q)) : am_wp sc 64 8 [.inr (.inl 1), .inl z1] [] σ Q := by
  refine am_wn rfl ?_
  exact am_wc rfl (by decide) (by decide) rfl k
theorem b_64_12 {sc : Int → Int} {σ : St} {Q : Ou → St → Nat → Prop} (z1 : Int) (s0 : Int) (k1 : (14 ≤ s0) → am_wp sc 64 35 [.inr (.inl 1), .inl z1] [] σ Q) (k2 : ¬ (14 ≤ s0) → am_wp sc 64 17 [.inr (.inl 1), .inl z1] [] σ Q) : am_wp sc 64 12 [.inr (.inl 1), .inl z1] [.inl s0] σ Q := by
  refine am_wn rfl ?_
  exact ar_br (c := 14 ≤ s0) rfl k1 k2
theorem b_64_17 {sc : Int → Int} {σ : St} {Q : Ou → St → Nat → Prop} (z1 : Int) (k : am_wp sc 56 0 [.inr (.inl 1), .inl 1, .inr (.inr 0), .inr (.inr 0)] [] σ (am_bk sc 64 19 [.inr (.inl 1), .inl z1] [] Q)) : am_wp sc 64 17 [.inr (.inl 1), .inl z1] [] σ Q := by
  refine am_wn rfl ?_
  refine am_wn rfl ?_
  exact am_wc rfl (by decide) (by decide) rfl k
theorem b_64_22 {sc : Int → Int} {σ : St} {Q : Ou → St → Nat → Prop} (z1 : Int) (s0 : Int) (h0 : am_R (s0 + z1)) (h1 : am_R ((s0 + z1) + 2)) (k1 : (90 < ((s0 + z1) + 2)) → am_wp sc 64 35 [.inr (.inl 1), .inl z1] [] σ Q) (k2 : ¬ (90 < ((s0 + z1) + 2)) → am_wp sc 64 31 [.inr (.inl 1), .inl z1] [] σ Q) : am_wp sc 64 22 [.inr (.inl 1), .inl z1] [.inl s0] σ Q := by
  refine am_wn rfl ?_
  refine ar_add rfl h0 ?_
  refine am_wn rfl ?_
  refine ar_add rfl h1 ?_
  refine am_wn rfl ?_
  exact ar_br (c := 90 < ((s0 + z1) + 2)) rfl k1 k2
theorem b_64_31 {sc : Int → Int} {σ : St} {Q : Ou → St → Nat → Prop} (z1 : Int) (k : am_wp sc 64 36 [.inr (.inl 1), .inl z1] [.inl 1] σ Q) : am_wp sc 64 31 [.inr (.inl 1), .inl z1] [] σ Q := by
  refine am_wn rfl ?_
  refine am_wn rfl ?_
  exact k
theorem b_64_35 {sc : Int → Int} {σ : St} {Q : Ou → St → Nat → Prop} (z1 : Int) (k : am_wp sc 64 36 [.inr (.inl 1), .inl z1] [.inl 0] σ Q) : am_wp sc 64 35 [.inr (.inl 1), .inl z1] [] σ Q := by
  refine am_wn rfl ?_
  exact k
theorem b_64_36 {sc : Int → Int} {σ : St} {Q : Ou → St → Nat → Prop} (z1 : Int) (s0 : Int) (h0 : s0 = 0 ∨ s0 = 1) (k : Q (.inl (some s0)) σ 0) : am_wp sc 64 36 [.inr (.inl 1), .inl z1] [.inl s0] σ Q := by
  exact am_w61 rfl h0 k
/-! SlidingHeapModel.alloc -/
theorem b_65_0 {sc : Int → Int} {σ : St} {Q : Ou → St → Nat → Prop} (z1 : Int) (v2 : AV) (v3 : AV) (v4 : AV) (k1 : (z1 < 0) → am_wp sc 65 14 [.inr (.inl 1), .inl z1, v2, v3, v4] [] σ Q) (k2 : ¬ (z1 < 0) → am_wp sc 65 4 [.inr (.inl 1), .inl z1, v2, v3, v4] [] σ Q) : am_wp sc 65 0 [.inr (.inl 1), .inl z1, v2, v3, v4] [] σ Q := by
  refine am_wn rfl ?_
  exact ar_br (c := z1 < 0) rfl k1 k2
theorem b_65_4 {sc : Int → Int} {σ : St} {Q : Ou → St → Nat → Prop} (z1 : Int) (v2 : AV) (v3 : AV) (v4 : AV) (k1 : (10 < z1) → am_wp sc 65 14 [.inr (.inl 1), .inl z1, v2, v3, v4] [] σ Q) (k2 : ¬ (10 < z1) → am_wp sc 65 10 [.inr (.inl 1), .inl z1, v2, v3, v4] [] σ Q) : am_wp sc 65 4 [.inr (.inl 1), .inl z1, v2, v3, v4] [] σ Q := by
  refine am_wn rfl ?_
  refine am_wn rfl ?_
  exact ar_br (c := 10 < z1) rfl k1 k2
theorem b_65_10 {sc : Int → Int} {σ : St} {Q : Ou → St → Nat → Prop} (z1 : Int) (v2 : AV) (v3 : AV) (v4 : AV) (k : am_wp sc 65 15 [.inr (.inl 1), .inl z1, v2, v3, v4] [.inl 1] σ Q) : am_wp sc 65 10 [.inr (.inl 1), .inl z1, v2, v3, v4] [] σ Q := by
  refine am_wn rfl ?_
  refine am_wn rfl ?_
  exact k
theorem b_65_14 {sc : Int → Int} {σ : St} {Q : Ou → St → Nat → Prop} (z1 : Int) (v2 : AV) (v3 : AV) (v4 : AV) (k : am_wp sc 65 15 [.inr (.inl 1), .inl z1, v2, v3, v4] [.inl 0] σ Q) : am_wp sc 65 14 [.inr (.inl 1), .inl z1, v2, v3, v4] [] σ Q := by
  refine am_wn rfl ?_
  exact k
theorem b_65_15 {sc : Int → Int} {σ : St} {Q : Ou → St → Nat → Prop} (z1 : Int) (v2 : AV) (v3 : AV) (v4 : AV) (s0 : Int) (k1 : (s0 ≠ 0) → am_wp sc 65 25 [.inr (.inl 1), .inl z1, .inl s0, v3, v4] [.inr (.inl 1)] σ Q) (k2 : ¬ (s0 ≠ 0) → am_wp sc 65 21 [.inr (.inl 1), .inl z1, .inl s0, v3, v4] [.inr (.inl 1)] σ Q) : am_wp sc 65 15 [.inr (.inl 1), .inl z1, v2, v3, v4] [.inl s0] σ Q := by
  refine am_wn rfl ?_
  refine am_wn rfl ?_
  refine am_wn rfl ?_
  exact ar_br (c := s0 ≠ 0) rfl k1 k2
theorem b_65_21 {sc : Int → Int} {σ : St} {Q : Ou → St → Nat → Prop} (z1 : Int) (z2 : Int) (v3 : AV) (v4 : AV) (k : am_wp sc 65 59 [.inr (.inl 1), .inl z1, .inl z2, v3, v4] [.inl 1, .inr (.inl 1)] σ Q) : am_wp sc 65 21 [.inr (.inl 1), .inl z1, .inl z2, v3, v4] [.inr (.inl 1)] σ Q := by
  refine am_wn rfl ?_
  refine am_wn rfl ?_
  exact k
theorem b_65_25 {sc : Int → Int} {σ : St} {Q : Ou → St → Nat → Prop} (z1 : Int) (z2 : Int) (v3 : AV) (v4 : AV) (k1 : ((σ 42 0) ≠ 10) → am_wp sc 65 38 [.inr (.inl 1), .inl z1, .inl z2, v3, v4] [.inr (.inl 1)] σ Q) (k2 : ¬ ((σ 42 0) ≠ 10) → am_wp sc 65 34 [.inr (.inl 1), .inl z1, .inl z2, v3, v4] [.inr (.inl 1)] σ Q) : am_wp sc 65 25 [.inr (.inl 1), .inl z1, .inl z2, v3, v4] [.inr (.inl 1)] σ Q := by
  refine am_wn rfl ?_
  refine am_wn rfl ?_
  refine am_wn rfl ?_
  exact ar_br (c := (σ 42 0) ≠ 10) rfl k1 k2
theorem b_65_34 {sc : Int → Int} {σ : St} {Q : Ou → St → Nat → Prop} (z1 : Int) (z2 : Int) (v3 : AV) (v4 : AV) (k : am_wp sc 65 59 [.inr (.inl 1), .inl z1, .inl z2, v3, v4] [.inl 2, .inr (.inl 1)] σ Q) : am_wp sc 65 34 [.inr (.inl 1), .inl z1, .inl z2, v3, v4] [.inr (.inl 1)] σ Q := by
  refine am_wn rfl ?_
  refine am_wn rfl ?_
  exact k
theorem b_65_38 {sc : Int → Int} {σ : St} {Q : Ou → St → Nat → Prop} (z1 : Int) (z2 : Int) (v3 : AV) (v4 : AV) (k : am_wp sc 63 0 [.inr (.inl 1), .inl z1] [] σ (am_bk sc 65 40 [.inr (.inl 1), .inl z1, .inl z2, v3, v4] [.inr (.inl 1)] Q)) : am_wp sc 65 38 [.inr (.inl 1), .inl z1, .inl z2, v3, v4] [.inr (.inl 1)] σ Q := by
  refine am_wn rfl ?_
  refine am_wn rfl ?_
  exact am_wc rfl (by decide) (by decide) rfl k
theorem b_65_43 {sc : Int → Int} {σ : St} {Q : Ou → St → Nat → Prop} (z1 : Int) (z2 : Int) (v3 : AV) (v4 : AV) (s1 : Int) (k1 : (s1 ≠ 0) → am_wp sc 65 54 [.inr (.inl 1), .inl z1, .inl z2, v3, v4] [.inr (.inl 1)] σ Q) (k2 : ¬ (s1 ≠ 0) → am_wp sc 65 46 [.inr (.inl 1), .inl z1, .inl z2, v3, v4] [.inr (.inl 1)] σ Q) : am_wp sc 65 43 [.inr (.inl 1), .inl z1, .inl z2, v3, v4] [.inl s1, .inr (.inl 1)] σ Q := by
  exact ar_br (c := s1 ≠ 0) rfl k1 k2
theorem b_65_46 {sc : Int → Int} {σ : St} {Q : Ou → St → Nat → Prop} (z1 : Int) (z2 : Int) (v3 : AV) (v4 : AV) (k : am_wp sc 64 0 [.inr (.inl 1), .inl z1] [] σ (am_bk sc 65 48 [.inr (.inl 1), .inl z1, .inl z2, v3, v4] [.inr (.inl 1)] Q)) : am_wp sc 65 46 [.inr (.inl 1), .inl z1, .inl z2, v3, v4] [.inr (.inl 1)] σ Q := by
  refine am_wn rfl ?_
  refine am_wn rfl ?_
  exact am_wc rfl (by decide) (by decide) rfl k
theorem b_65_51 {sc : Int → Int} {σ : St} {Q : Ou → St → Nat → Prop} (z1 : Int) (z2 : Int) (v3 : AV) (v4 : AV) (s1 : Int) (k1 : (s1 = 0) → am_wp sc 65 58 [.inr (.inl 1), .inl z1, .inl z2, v3, v4] [.inr (.inl 1)] σ Q) (k2 : ¬ (s1 = 0) → am_wp sc 65 54 [.inr (.inl 1), .inl z1, .inl z2, v3, v4] [.inr (.inl 1)] σ Q) : am_wp sc 65 51 [.inr (.inl 1), .inl z1, .inl z2, v3, v4] [.inl s1, .inr (.inl 1)] σ Q := by
  exact ar_br (c := s1 = 0) rfl k1 k2
theorem b_65_54 {sc : Int → Int} {σ : St} {Q : Ou → St → Nat → Prop} (z1 : Int) (z2 : Int) (v3 : AV) (v4 : AV) (k : am_wp sc 65 59 [.inr (.inl 1), .inl z1, .inl z2, v3, v4] [.inl 0, .inr (.inl 1)] σ Q) : am_wp sc 65 54 [.inr (.inl 1), .inl z1, .inl z2, v3, v4] [.inr (.inl 1)] σ Q := by
  refine am_wn rfl ?_
  refine am_wn rfl ?_
  exact k
theorem b_65_58 {sc : Int → Int} {σ : St} {Q : Ou → St → Nat → Prop} (z1 : Int) (z2 : Int) (v3 : AV) (v4 : AV) (k : am_wp sc 65 59 [.inr (.inl 1), .inl z1, .inl z2, v3, v4] [.inl 3, .inr (.inl 1)] σ Q) : am_wp sc 65 58 [.inr (.inl 1), .inl z1, .inl z2, v3, v4] [.inr (.inl 1)] σ Q := by
  refine am_wn rfl ?_
  exact k
theorem b_65_59 {sc : Int → Int} {σ : St} {Q : Ou → St → Nat → Prop} (z1 : Int) (z2 : Int) (v3 : AV) (v4 : AV) (s1 : Int) (k : am_wp sc 49 0 [.inr (.inl 1), .inl s1] [] σ (am_bk sc 65 59 [.inr (.inl 1), .inl z1, .inl z2, v3, v4] [] Q)) : am_wp sc 65 59 [.inr (.inl 1), .inl z1, .inl z2, v3, v4] [.inl s1, .inr (.inl 1)] σ Q := by
  exact am_wc rfl (by decide) (by decide) rfl k
theorem b_65_62 {sc : Int → Int} {σ : St} {Q : Ou → St → Nat → Prop} (z1 : Int) (z2 : Int) (v3 : AV) (v4 : AV) (s0 : Int) (k1 : (s0 = 0) → am_wp sc 65 67 [.inr (.inl 1), .inl z1, .inl z2, v3, v4] [] σ Q) (k2 : ¬ (s0 = 0) → am_wp sc 65 65 [.inr (.inl 1), .inl z1, .inl z2, v3, v4] [] σ Q) : am_wp sc 65 62 [.inr (.inl 1), .inl z1, .inl z2, v3, v4] [.inl s0] σ Q := by
  exact ar_br (c := s0 = 0) rfl k1 k2
theorem b_65_65 {sc : Int → Int} {σ : St} {Q : Ou → St → Nat → Prop} (z1 : Int) (z2 : Int) (v3 : AV) (v4 : AV) (k : Q (.inl (some 0)) σ 0) : am_wp sc 65 65 [.inr (.inl 1), .inl z1, .inl z2, v3, v4] [] σ Q := by
  refine am_wn rfl ?_
  exact am_w60 rfl k
theorem b_65_67 {sc : Int → Int} {σ : St} {Q : Ou → St → Nat → Prop} (z1 : Int) (z2 : Int) (v3 : AV) (v4 : AV) (k : am_wp sc 63 0 [.inr (.inl 1), .inl z1] [] σ (am_bk sc 65 69 [.inr (.inl 1), .inl z1, .inl z2, v3, v4] [] Q)) : am_wp sc 65 67 [.inr (.inl 1), .inl z1, .inl z2, v3, v4] [] σ Q := by
  refine am_wn rfl ?_
  refine am_wn rfl ?_
  exact am_wc rfl (by decide) (by decide) rfl k
theorem b_65_72 {sc : Int → Int} {σ : St} {Q : Ou → St → Nat → Prop} (z1 : Int) (z2 : Int) (v3 : AV) (v4 : AV) (s0 : Int) (k1 : (s0 ≠ 0) → am_wp sc 65 80 [.inr (.inl 1), .inl z1, .inl z2, v3, v4] [] σ Q) (k2 : ¬ (s0 ≠ 0) → am_wp sc 65 75 [.inr (.inl 1), .inl z1, .inl z2, v3, v4] [] σ Q) : am_wp sc 65 72 [.inr (.inl 1), .inl z1, .inl z2, v3, v4] [.inl s0] σ Q := by
  exact ar_br (c := s0 ≠ 0) rfl k1 k2
theorem b_65_75 {sc : Int → Int} {σ : St} {Q : Ou → St → Nat → Prop} (z1 : Int) (z2 : Int) (v3 : AV) (v4 : AV) (k : am_wp sc 60 0 [.inr (.inl 1), .inr (.inr 0), .inr (.inr 0), .inr (.inr 0), .inr (.inr 0)] [] σ (am_bk sc 65 76 [.inr (.inl 1), .inl z1, .inl z2, v3, v4] [] Q)) : am_wp sc 65 75 [.inr (.inl 1), .inl z1, .inl z2, v3, v4] [] σ Q := by
  refine am_wn rfl ?_
  exact am_wc rfl (by decide) (by decide) rfl k
theorem b_65_79 {sc : Int → Int} {σ : St} {Q : Ou → St → Nat → Prop} (z1 : Int) (z2 : Int) (v3 : AV) (v4 : AV) (s0 : Int) (k : am_wp sc 65 80 [.inr (.inl 1), .inl z1, .inl z2, v3, v4] [] σ Q) : am_wp sc 65 79 [.inr (.inl 1), .inl z1, .inl z2, v3, v4] [.inl s0] σ Q := by
  refine am_wn rfl ?_
  exact k
theorem b_65_80 {sc : Int → Int} {σ : St} {Q : Ou → St → Nat → Prop} (z1 : Int) (z2 : Int) (v3 : AV) (v4 : AV) (k : am_wp sc 62 0 [.inr (.inl 1), .inr (.inr 0), .inr (.inr 0)] [] σ (am_bk sc 65 81 [.inr (.inl 1), .inl z1, .inl z2, v3, v4] [] Q)) : am_wp sc 65 80 [.inr (.inl 1), .inl z1, .inl z2, v3, v4] [] σ Q := by
  refine am_wn rfl ?_
  exact am_wc rfl (by decide) (by decide) rfl k
theorem b_65_84 {sc : Int → Int} {σ : St} {Q : Ou → St → Nat → Prop} (z1 : Int) (z2 : Int) (v3 : AV) (v4 : AV) (s0 : Int) (h0 : 0 ≤ s0 ∧ s0 < 15) (h1 : 0 ≤ s0 ∧ s0 < 15) (h2 : 0 ≤ s0 ∧ s0 < 15) (h3 : 0 ≤ s0 ∧ s0 < 15) (k : am_wp sc 65 116 [.inr (.inl 1), .inl z1, .inl z2, .inl s0, .inl 0] [] (am_up (am_up (am_up (am_up σ 15 s0 1) 16 s0 z1) 17 s0 0) 18 s0 0) Q) : am_wp sc 65 84 [.inr (.inl 1), .inl z1, .inl z2, v3, v4] [.inl s0] σ Q := by
  refine am_wn rfl ?_
  refine am_wn rfl ?_
  refine am_wn rfl ?_
  refine am_wn rfl ?_
  refine am_wn rfl ?_
  refine ar_bast rfl rfl h0 (Or.inr rfl) ?_
  refine am_wn rfl ?_
  refine am_wn rfl ?_
  refine am_wn rfl ?_
  refine am_wn rfl ?_
  refine ar_iast rfl rfl h1 ?_
  refine am_wn rfl ?_
  refine am_wn rfl ?_
  refine am_wn rfl ?_
  refine am_wn rfl ?_
  refine ar_iast rfl rfl h2 ?_
  refine am_wn rfl ?_
  refine am_wn rfl ?_
  refine am_wn rfl ?_
  refine am_wn rfl ?_
  refine ar_bast rfl rfl h3 (Or.inl rfl) ?_
  refine am_wn rfl ?_
  refine am_wn rfl ?_
  exact k
theorem b_65_116 {sc : Int → Int} {σ : St} {Q : Ou → St → Nat → Prop} (z1 : Int) (z2 : Int) (z3 : Int) (z4 : Int) (k1 : (10 ≤ z4) → am_wp sc 65 155 [.inr (.inl 1), .inl z1, .inl z2, .inl z3, .inl z4] [] σ Q) (k2 : ¬ (10 ≤ z4) → am_wp sc 65 123 [.inr (.inl 1), .inl z1, .inl z2, .inl z3, .inl z4] [] σ Q) : am_wp sc 65 116 [.inr (.inl 1), .inl z1, .inl z2, .inl z3, .inl z4] [] σ Q := by
  refine am_wn rfl ?_
  refine am_wn rfl ?_
  exact ar_br (c := 10 ≤ z4) rfl k1 k2
theorem b_65_123 {sc : Int → Int} {σ : St} {Q : Ou → St → Nat → Prop} (z1 : Int) (z2 : Int) (z3 : Int) (z4 : Int) (h0 : am_R (10 * z3)) (h1 : am_R ((10 * z3) + z4)) (h2 : 0 ≤ ((10 * z3) + z4) ∧ ((10 * z3) + z4) < 150) (h3 : am_R (10 * z3)) (h4 : am_R ((10 * z3) + z4)) (h5 : 0 ≤ ((10 * z3) + z4) ∧ ((10 * z3) + z4) < 150) (h6 : am_R (z4 + 1)) (k : am_wp sc 65 116 [.inr (.inl 1), .inl z1, .inl z2, .inl z3, .inl (z4 + 1)] [] (am_up (am_up σ 19 ((10 * z3) + z4) 0) 20 ((10 * z3) + z4) 0) Q) : am_wp sc 65 123 [.inr (.inl 1), .inl z1, .inl z2, .inl z3, .inl z4] [] σ Q := by
  refine am_wn rfl ?_
  refine am_wn rfl ?_
  refine am_wn rfl ?_
  refine am_wn rfl ?_
  refine ar_mul rfl h0 ?_
  refine am_wn rfl ?_
  refine ar_add rfl h1 ?_
  refine am_wn rfl ?_
  refine ar_iast rfl rfl h2 ?_
  refine am_wn rfl ?_
  refine am_wn rfl ?_
  refine am_wn rfl ?_
  refine am_wn rfl ?_
  refine ar_mul rfl h3 ?_
  refine am_wn rfl ?_
  refine ar_add rfl h4 ?_
  refine am_wn rfl ?_
  refine ar_iast rfl rfl h5 ?_
  refine ar_inc (L' := [.inr (.inl 1), .inl z1, .inl z2, .inl z3, .inl (z4 + 1)]) rfl rfl h6 rfl ?_
  refine am_wn rfl ?_
  exact k
theorem b_65_155 {sc : Int → Int} {σ : St} {Q : Ou → St → Nat → Prop} (z1 : Int) (z2 : Int) (z3 : Int) (z4 : Int) (h0 : 0 ≤ (σ 41 0) ∧ (σ 41 0) < 15) (h1 : am_R ((σ 41 0) + 1)) (h2 : 0 ≤ (σ 42 0) ∧ (σ 42 0) < 10) (h3 : am_R ((σ 42 0) + 1)) (k : Q (.inl (some z3)) (am_up (am_up (am_up (am_up σ 14 (σ 41 0) z3) 41 0 ((σ 41 0) + 1)) 21 (σ 42 0) z3) 42 0 ((σ 42 0) + 1)) 0) : am_wp sc 65 155 [.inr (.inl 1), .inl z1, .inl z2, .inl z3, .inl z4] [] σ Q := by
  refine am_wn rfl ?_
  refine am_wn rfl ?_
  refine am_wn rfl ?_
  refine am_wn rfl ?_
  refine am_wn rfl ?_
  refine ar_iast rfl rfl h0 ?_
  refine am_wn rfl ?_
  refine am_wn rfl ?_
  refine am_wn rfl ?_
  refine am_wn rfl ?_
  refine ar_add rfl h1 ?_
  refine am_wn rfl ?_
  refine am_wn rfl ?_
  refine am_wn rfl ?_
  refine am_wn rfl ?_
  refine am_wn rfl ?_
  refine am_wn rfl ?_
  refine ar_iast rfl rfl h2 ?_
  refine am_wn rfl ?_
  refine am_wn rfl ?_
  refine am_wn rfl ?_
  refine am_wn rfl ?_
  refine ar_add rfl h3 ?_
  refine am_wn rfl ?_
  refine am_wn rfl ?_
  exact am_w60 rfl k
end
section
/-! SlidingHeapModel.number -/
theorem b_66_0 {sc : Int → Int} {σ : St} {Q : Ou → St → Nat → Prop} (z1 : Int) (z2 : Int) (z3 : Int) (k : am_wp sc 51 0 [.inr (.inl 1), .inl z1, .inl z2] [] σ (am_bk sc 66 4 [.inr (.inl 1), .inl z1, .inl z2, .inl z3] [.inr (.inl 1)] Q)) : am_wp sc 66 0 [.inr (.inl 1), .inl z1, .inl z2, .inl z3] [] σ Q := by
  refine am_wn rfl ?_
  refine am_wn rfl ?_
  refine am_wn rfl ?_
  refine am_wn rfl ?_
  exact am_wc rfl (by decide) (by decide) rfl k
theorem b_66_7 {sc : Int → Int} {σ : St} {Q : Ou → St → Nat → Prop} (z1 : Int) (z2 : Int) (z3 : Int) (s1 : Int) (k1 : (s1 = 0) → am_wp sc 66 14 [.inr (.inl 1), .inl z1, .inl z2, .inl z3] [.inr (.inl 1)] σ Q) (k2 : ¬ (s1 = 0) → am_wp sc 66 10 [.inr (.inl 1), .inl z1, .inl z2, .inl z3] [.inr (.inl 1)] σ Q) : am_wp sc 66 7 [.inr (.inl 1), .inl z1, .inl z2, .inl z3] [.inl s1, .inr (.inl 1)] σ Q := by
  exact ar_br (c := s1 = 0) rfl k1 k2
theorem b_66_10 {sc : Int → Int} {σ : St} {Q : Ou → St → Nat → Prop} (z1 : Int) (z2 : Int) (z3 : Int) (k : am_wp sc 66 15 [.inr (.inl 1), .inl z1, .inl z2, .inl z3] [.inl 0, .inr (.inl 1)] σ Q) : am_wp sc 66 10 [.inr (.inl 1), .inl z1, .inl z2, .inl z3] [.inr (.inl 1)] σ Q := by
  refine am_wn rfl ?_
  refine am_wn rfl ?_
  exact k
theorem b_66_14 {sc : Int → Int} {σ : St} {Q : Ou → St → Nat → Prop} (z1 : Int) (z2 : Int) (z3 : Int) (k : am_wp sc 66 15 [.inr (.inl 1), .inl z1, .inl z2, .inl z3] [.inl 1, .inr (.inl 1)] σ Q) : am_wp sc 66 14 [.inr (.inl 1), .inl z1, .inl z2, .inl z3] [.inr (.inl 1)] σ Q := by
  refine am_wn rfl ?_
  exact k
theorem b_66_15 {sc : Int → Int} {σ : St} {Q : Ou → St → Nat → Prop} (z1 : Int) (z2 : Int) (z3 : Int) (s1 : Int) (k : am_wp sc 49 0 [.inr (.inl 1), .inl s1] [] σ (am_bk sc 66 15 [.inr (.inl 1), .inl z1, .inl z2, .inl z3] [] Q)) : am_wp sc 66 15 [.inr (.inl 1), .inl z1, .inl z2, .inl z3] [.inl s1, .inr (.inl 1)] σ Q := by
  exact am_wc rfl (by decide) (by decide) rfl k
theorem b_66_18 {sc : Int → Int} {σ : St} {Q : Ou → St → Nat → Prop} (z1 : Int) (z2 : Int) (z3 : Int) (s0 : Int) (k1 : (s0 ≠ 0) → am_wp sc 66 45 [.inr (.inl 1), .inl z1, .inl z2, .inl z3] [] σ Q) (k2 : ¬ (s0 ≠ 0) → am_wp sc 66 21 [.inr (.inl 1), .inl z1, .inl z2, .inl z3] [] σ Q) : am_wp sc 66 18 [.inr (.inl 1), .inl z1, .inl z2, .inl z3] [.inl s0] σ Q := by
  exact ar_br (c := s0 ≠ 0) rfl k1 k2
theorem b_66_21 {sc : Int → Int} {σ : St} {Q : Ou → St → Nat → Prop} (z1 : Int) (z2 : Int) (z3 : Int) (h0 : am_R (10 * z1)) (h1 : am_R ((10 * z1) + z2)) (h2 : 0 ≤ ((10 * z1) + z2) ∧ ((10 * z1) + z2) < 150) (h3 : am_R (10 * z1)) (h4 : am_R ((10 * z1) + z2)) (h5 : 0 ≤ ((10 * z1) + z2) ∧ ((10 * z1) + z2) < 150) (k : am_wp sc 66 45 [.inr (.inl 1), .inl z1, .inl z2, .inl z3] [] (am_up (am_up σ 19 ((10 * z1) + z2) z3) 20 ((10 * z1) + z2) 0) Q) : am_wp sc 66 21 [.inr (.inl 1), .inl z1, .inl z2, .inl z3] [] σ Q := by
  refine am_wn rfl ?_
  refine am_wn rfl ?_
  refine am_wn rfl ?_
  refine am_wn rfl ?_
  refine ar_mul rfl h0 ?_
  refine am_wn rfl ?_
  refine ar_add rfl h1 ?_
  refine am_wn rfl ?_
  refine ar_iast rfl rfl h2 ?_
  refine am_wn rfl ?_
  refine am_wn rfl ?_
  refine am_wn rfl ?_
  refine am_wn rfl ?_
  refine ar_mul rfl h3 ?_
  refine am_wn rfl ?_
  refine ar_add rfl h4 ?_
  refine am_wn rfl ?_
  refine ar_iast rfl rfl h5 ?_
  exact k
theorem b_66_45 {sc : Int → Int} {σ : St} {Q : Ou → St → Nat → Prop} (z1 : Int) (z2 : Int) (z3 : Int) (k : Q (.inl none) σ 0) : am_wp sc 66 45 [.inr (.inl 1), .inl z1, .inl z2, .inl z3] [] σ Q := by
  exact am_w62 rfl k
/-! SlidingHeapModel.refer -/
theorem b_67_0 {sc : Int → Int} {σ : St} {Q : Ou → St → Nat → Prop} (z1 : Int) (z2 : Int) (z3 : Int) (z4 : Int) (k : am_wp sc 51 0 [.inr (.inl 1), .inl z1, .inl z2] [] σ (am_bk sc 67 4 [.inr (.inl 1), .inl z1, .inl z2, .inl z3, .inl z4] [.inr (.inl 1)] Q)) : am_wp sc 67 0 [.inr (.inl 1), .inl z1, .inl z2, .inl z3, .inl z4] [] σ Q := by
  refine am_wn rfl ?_
  refine am_wn rfl ?_
  refine am_wn rfl ?_
  refine am_wn rfl ?_
  exact am_wc rfl (by decide) (by decide) rfl k
theorem b_67_7 {sc : Int → Int} {σ : St} {Q : Ou → St → Nat → Prop} (z1 : Int) (z2 : Int) (z3 : Int) (z4 : Int) (s1 : Int) (k1 : (s1 ≠ 0) → am_wp sc 67 14 [.inr (.inl 1), .inl z1, .inl z2, .inl z3, .inl z4] [.inr (.inl 1)] σ Q) (k2 : ¬ (s1 ≠ 0) → am_wp sc 67 10 [.inr (.inl 1), .inl z1, .inl z2, .inl z3, .inl z4] [.inr (.inl 1)] σ Q) : am_wp sc 67 7 [.inr (.inl 1), .inl z1, .inl z2, .inl z3, .inl z4] [.inl s1, .inr (.inl 1)] σ Q := by
  exact ar_br (c := s1 ≠ 0) rfl k1 k2
theorem b_67_10 {sc : Int → Int} {σ : St} {Q : Ou → St → Nat → Prop} (z1 : Int) (z2 : Int) (z3 : Int) (z4 : Int) (k : am_wp sc 67 31 [.inr (.inl 1), .inl z1, .inl z2, .inl z3, .inl z4] [.inl 1, .inr (.inl 1)] σ Q) : am_wp sc 67 10 [.inr (.inl 1), .inl z1, .inl z2, .inl z3, .inl z4] [.inr (.inl 1)] σ Q := by
  refine am_wn rfl ?_
  refine am_wn rfl ?_
  exact k
theorem b_67_14 {sc : Int → Int} {σ : St} {Q : Ou → St → Nat → Prop} (z1 : Int) (z2 : Int) (z3 : Int) (z4 : Int) (k1 : (z3 = 0) → am_wp sc 67 30 [.inr (.inl 1), .inl z1, .inl z2, .inl z3, .inl z4] [.inr (.inl 1)] σ Q) (k2 : ¬ (z3 = 0) → am_wp sc 67 18 [.inr (.inl 1), .inl z1, .inl z2, .inl z3, .inl z4] [.inr (.inl 1)] σ Q) : am_wp sc 67 14 [.inr (.inl 1), .inl z1, .inl z2, .inl z3, .inl z4] [.inr (.inl 1)] σ Q := by
  refine am_wn rfl ?_
  exact ar_br (c := z3 = 0) rfl k1 k2
theorem b_67_18 {sc : Int → Int} {σ : St} {Q : Ou → St → Nat → Prop} (z1 : Int) (z2 : Int) (z3 : Int) (z4 : Int) (k : am_wp sc 50 0 [.inr (.inl 1), .inl z3] [] σ (am_bk sc 67 20 [.inr (.inl 1), .inl z1, .inl z2, .inl z3, .inl z4] [.inr (.inl 1)] Q)) : am_wp sc 67 18 [.inr (.inl 1), .inl z1, .inl z2, .inl z3, .inl z4] [.inr (.inl 1)] σ Q := by
  refine am_wn rfl ?_
  refine am_wn rfl ?_
  exact am_wc rfl (by decide) (by decide) rfl k
theorem b_67_23 {sc : Int → Int} {σ : St} {Q : Ou → St → Nat → Prop} (z1 : Int) (z2 : Int) (z3 : Int) (z4 : Int) (s1 : Int) (k1 : (s1 ≠ 0) → am_wp sc 67 30 [.inr (.inl 1), .inl z1, .inl z2, .inl z3, .inl z4] [.inr (.inl 1)] σ Q) (k2 : ¬ (s1 ≠ 0) → am_wp sc 67 26 [.inr (.inl 1), .inl z1, .inl z2, .inl z3, .inl z4] [.inr (.inl 1)] σ Q) : am_wp sc 67 23 [.inr (.inl 1), .inl z1, .inl z2, .inl z3, .inl z4] [.inl s1, .inr (.inl 1)] σ Q := by
  exact ar_br (c := s1 ≠ 0) rfl k1 k2
theorem b_67_26 {sc : Int → Int} {σ : St} {Q : Ou → St → Nat → Prop} (z1 : Int) (z2 : Int) (z3 : Int) (z4 : Int) (k : am_wp sc 67 31 [.inr (.inl 1), .inl z1, .inl z2, .inl z3, .inl z4] [.inl 2, .inr (.inl 1)] σ Q) : am_wp sc 67 26 [.inr (.inl 1), .inl z1, .inl z2, .inl z3, .inl z4] [.inr (.inl 1)] σ Q := by
  refine am_wn rfl ?_
  refine am_wn rfl ?_
  exact k
theorem b_67_30 {sc : Int → Int} {σ : St} {Q : Ou → St → Nat → Prop} (z1 : Int) (z2 : Int) (z3 : Int) (z4 : Int) (k : am_wp sc 67 31 [.inr (.inl 1), .inl z1, .inl z2, .inl z3, .inl z4] [.inl 0, .inr (.inl 1)] σ Q) : am_wp sc 67 30 [.inr (.inl 1), .inl z1, .inl z2, .inl z3, .inl z4] [.inr (.inl 1)] σ Q := by
  refine am_wn rfl ?_
  exact k
theorem b_67_31 {sc : Int → Int} {σ : St} {Q : Ou → St → Nat → Prop} (z1 : Int) (z2 : Int) (z3 : Int) (z4 : Int) (s1 : Int) (k : am_wp sc 49 0 [.inr (.inl 1), .inl s1] [] σ (am_bk sc 67 31 [.inr (.inl 1), .inl z1, .inl z2, .inl z3, .inl z4] [] Q)) : am_wp sc 67 31 [.inr (.inl 1), .inl z1, .inl z2, .inl z3, .inl z4] [.inl s1, .inr (.inl 1)] σ Q := by
  exact am_wc rfl (by decide) (by decide) rfl k
theorem b_67_34 {sc : Int → Int} {σ : St} {Q : Ou → St → Nat → Prop} (z1 : Int) (z2 : Int) (z3 : Int) (z4 : Int) (s0 : Int) (k1 : (s0 ≠ 0) → am_wp sc 67 70 [.inr (.inl 1), .inl z1, .inl z2, .inl z3, .inl z4] [] σ Q) (k2 : ¬ (s0 ≠ 0) → am_wp sc 67 37 [.inr (.inl 1), .inl z1, .inl z2, .inl z3, .inl z4] [] σ Q) : am_wp sc 67 34 [.inr (.inl 1), .inl z1, .inl z2, .inl z3, .inl z4] [.inl s0] σ Q := by
  exact ar_br (c := s0 ≠ 0) rfl k1 k2
theorem b_67_37 {sc : Int → Int} {σ : St} {Q : Ou → St → Nat → Prop} (z1 : Int) (z2 : Int) (z3 : Int) (z4 : Int) (h0 : am_R (10 * z1)) (h1 : am_R ((10 * z1) + z2)) (h2 : 0 ≤ ((10 * z1) + z2) ∧ ((10 * z1) + z2) < 150) (h3 : am_R (10 * z1)) (h4 : am_R ((10 * z1) + z2)) (k1 : (z4 = 0) → am_wp sc 67 68 [.inr (.inl 1), .inl z1, .inl z2, .inl z3, .inl z4] [.inl ((10 * z1) + z2), .inr (.inl 20)] (am_up σ 19 ((10 * z1) + z2) z3) Q) (k2 : ¬ (z4 = 0) → am_wp sc 67 64 [.inr (.inl 1), .inl z1, .inl z2, .inl z3, .inl z4] [.inl ((10 * z1) + z2), .inr (.inl 20)] (am_up σ 19 ((10 * z1) + z2) z3) Q) : am_wp sc 67 37 [.inr (.inl 1), .inl z1, .inl z2, .inl z3, .inl z4] [] σ Q := by
  refine am_wn rfl ?_
  refine am_wn rfl ?_
  refine am_wn rfl ?_
  refine am_wn rfl ?_
  refine ar_mul rfl h0 ?_
  refine am_wn rfl ?_
  refine ar_add rfl h1 ?_
  refine am_wn rfl ?_
  refine ar_iast rfl rfl h2 ?_
  refine am_wn rfl ?_
  refine am_wn rfl ?_
  refine am_wn rfl ?_
  refine am_wn rfl ?_
  refine ar_mul rfl h3 ?_
  refine am_wn rfl ?_
  refine ar_add rfl h4 ?_
  refine am_wn rfl ?_
  exact ar_br (c := z4 = 0) rfl k1 k2
theorem b_67_64 {sc : Int → Int} {σ : St} {Q : Ou → St → Nat → Prop} (z1 : Int) (z2 : Int) (z3 : Int) (z4 : Int) (s1 : Int) (k : am_wp sc 67 69 [.inr (.inl 1), .inl z1, .inl z2, .inl z3, .inl z4] [.inl 2, .inl s1, .inr (.inl 20)] σ Q) : am_wp sc 67 64 [.inr (.inl 1), .inl z1, .inl z2, .inl z3, .inl z4] [.inl s1, .inr (.inl 20)] σ Q := by
  refine am_wn rfl ?_
  refine am_wn rfl ?_
  exact k
theorem b_67_68 {sc : Int → Int} {σ : St} {Q : Ou → St → Nat → Prop} (z1 : Int) (z2 : Int) (z3 : Int) (z4 : Int) (s1 : Int) (k : am_wp sc 67 69 [.inr (.inl 1), .inl z1, .inl z2, .inl z3, .inl z4] [.inl 1, .inl s1, .inr (.inl 20)] σ Q) : am_wp sc 67 68 [.inr (.inl 1), .inl z1, .inl z2, .inl z3, .inl z4] [.inl s1, .inr (.inl 20)] σ Q := by
  refine am_wn rfl ?_
  exact k
theorem b_67_69 {sc : Int → Int} {σ : St} {Q : Ou → St → Nat → Prop} (z1 : Int) (z2 : Int) (z3 : Int) (z4 : Int) (s1 : Int) (s2 : Int) (h0 : 0 ≤ s1 ∧ s1 < 150) (k : am_wp sc 67 70 [.inr (.inl 1), .inl z1, .inl z2, .inl z3, .inl z4] [] (am_up σ 20 s1 s2) Q) : am_wp sc 67 69 [.inr (.inl 1), .inl z1, .inl z2, .inl z3, .inl z4] [.inl s2, .inl s1, .inr (.inl 20)] σ Q := by
  refine ar_iast rfl rfl h0 ?_
  exact k
theorem b_67_70 {sc : Int → Int} {σ : St} {Q : Ou → St → Nat → Prop} (z1 : Int) (z2 : Int) (z3 : Int) (z4 : Int) (k : Q (.inl none) σ 0) : am_wp sc 67 70 [.inr (.inl 1), .inl z1, .inl z2, .inl z3, .inl z4] [] σ Q := by
  exact am_w62 rfl k
/-! SlidingHeapModel.get -/
theorem b_68_0 {sc : Int → Int} {σ : St} {Q : Ou → St → Nat → Prop} (z1 : Int) (z2 : Int) (k : am_wp sc 51 0 [.inr (.inl 1), .inl z1, .inl z2] [] σ (am_bk sc 68 4 [.inr (.inl 1), .inl z1, .inl z2] [.inr (.inl 1)] Q)) : am_wp sc 68 0 [.inr (.inl 1), .inl z1, .inl z2] [] σ Q := by
  refine am_wn rfl ?_
  refine am_wn rfl ?_
  refine am_wn rfl ?_
  refine am_wn rfl ?_
  exact am_wc rfl (by decide) (by decide) rfl k
theorem b_68_7 {sc : Int → Int} {σ : St} {Q : Ou → St → Nat → Prop} (z1 : Int) (z2 : Int) (s1 : Int) (k1 : (s1 = 0) → am_wp sc 68 14 [.inr (.inl 1), .inl z1, .inl z2] [.inr (.inl 1)] σ Q) (k2 : ¬ (s1 = 0) → am_wp sc 68 10 [.inr (.inl 1), .inl z1, .inl z2] [.inr (.inl 1)] σ Q) : am_wp sc 68 7 [.inr (.inl 1), .inl z1, .inl z2] [.inl s1, .inr (.inl 1)] σ Q := by
  exact ar_br (c := s1 = 0) rfl k1 k2
theorem b_68_10 {sc : Int → Int} {σ : St} {Q : Ou → St → Nat → Prop} (z1 : Int) (z2 : Int) (k : am_wp sc 68 15 [.inr (.inl 1), .inl z1, .inl z2] [.inl 0, .inr (.inl 1)] σ Q) : am_wp sc 68 10 [.inr (.inl 1), .inl z1, .inl z2] [.inr (.inl 1)] σ Q := by
  refine am_wn rfl ?_
  refine am_wn rfl ?_
  exact k
theorem b_68_14 {sc : Int → Int} {σ : St} {Q : Ou → St → Nat → Prop} (z1 : Int) (z2 : Int) (k : am_wp sc 68 15 [.inr (.inl 1), .inl z1, .inl z2] [.inl 1, .inr (.inl 1)] σ Q) : am_wp sc 68 14 [.inr (.inl 1), .inl z1, .inl z2] [.inr (.inl 1)] σ Q := by
  refine am_wn rfl ?_
  exact k
theorem b_68_15 {sc : Int → Int} {σ : St} {Q : Ou → St → Nat → Prop} (z1 : Int) (z2 : Int) (s1 : Int) (k : am_wp sc 49 0 [.inr (.inl 1), .inl s1] [] σ (am_bk sc 68 15 [.inr (.inl 1), .inl z1, .inl z2] [] Q)) : am_wp sc 68 15 [.inr (.inl 1), .inl z1, .inl z2] [.inl s1, .inr (.inl 1)] σ Q := by
  exact am_wc rfl (by decide) (by decide) rfl k
theorem b_68_18 {sc : Int → Int} {σ : St} {Q : Ou → St → Nat → Prop} (z1 : Int) (z2 : Int) (s0 : Int) (k1 : (s0 = 0) → am_wp sc 68 25 [.inr (.inl 1), .inl z1, .inl z2] [] σ Q) (k2 : ¬ (s0 = 0) → am_wp sc 68 21 [.inr (.inl 1), .inl z1, .inl z2] [] σ Q) : am_wp sc 68 18 [.inr (.inl 1), .inl z1, .inl z2] [.inl s0] σ Q := by
  exact ar_br (c := s0 = 0) rfl k1 k2
theorem b_68_21 {sc : Int → Int} {σ : St} {Q : Ou → St → Nat → Prop} (z1 : Int) (z2 : Int) (k : am_wp sc 68 36 [.inr (.inl 1), .inl z1, .inl z2] [.inl 0] σ Q) : am_wp sc 68 21 [.inr (.inl 1), .inl z1, .inl z2] [] σ Q := by
  refine am_wn rfl ?_
  refine am_wn rfl ?_
  exact k
theorem b_68_25 {sc : Int → Int} {σ : St} {Q : Ou → St → Nat → Prop} (z1 : Int) (z2 : Int) (h0 : am_R (10 * z1)) (h1 : am_R ((10 * z1) + z2)) (h2 : 0 ≤ ((10 * z1) + z2) ∧ ((10 * z1) + z2) < 150) (k : am_wp sc 68 36 [.inr (.inl 1), .inl z1, .inl z2] [.inl (σ 19 ((10 * z1) + z2))] σ Q) : am_wp sc 68 25 [.inr (.inl 1), .inl z1, .inl z2] [] σ Q := by
  refine am_wn rfl ?_
  refine am_wn rfl ?_
  refine am_wn rfl ?_
  refine am_wn rfl ?_
  refine ar_mul rfl h0 ?_
  refine am_wn rfl ?_
  refine ar_add rfl h1 ?_
  refine ar_iald rfl rfl h2 ?_
  exact k
theorem b_68_36 {sc : Int → Int} {σ : St} {Q : Ou → St → Nat → Prop} (z1 : Int) (z2 : Int) (s0 : Int) (k : Q (.inl (some s0)) σ 0) : am_wp sc 68 36 [.inr (.inl 1), .inl z1, .inl z2] [.inl s0] σ Q := by
  exact am_w60 rfl k
/-! SlidingHeapModel.kind -/
theorem b_69_0 {sc : Int → Int} {σ : St} {Q : Ou → St → Nat → Prop} (z1 : Int) (z2 : Int) (k : am_wp sc 51 0 [.inr (.inl 1), .inl z1, .inl z2] [] σ (am_bk sc 69 4 [.inr (.inl 1), .inl z1, .inl z2] [.inr (.inl 1)] Q)) : am_wp sc 69 0 [.inr (.inl 1), .inl z1, .inl z2] [] σ Q := by
  refine am_wn rfl ?_
  refine am_wn rfl ?_
  refine am_wn rfl ?_
  refine am_wn rfl ?_
  exact am_wc rfl (by decide) (by decide) rfl k
theorem b_69_7 {sc : Int → Int} {σ : St} {Q : Ou → St → Nat → Prop} (z1 : Int) (z2 : Int) (s1 : Int) (k1 : (s1 = 0) → am_wp sc 69 14 [.inr (.inl 1), .inl z1, .inl z2] [.inr (.inl 1)] σ Q) (k2 : ¬ (s1 = 0) → am_wp sc 69 10 [.inr (.inl 1), .inl z1, .inl z2] [.inr (.inl 1)] σ Q) : am_wp sc 69 7 [.inr (.inl 1), .inl z1, .inl z2] [.inl s1, .inr (.inl 1)] σ Q := by
  exact ar_br (c := s1 = 0) rfl k1 k2
theorem b_69_10 {sc : Int → Int} {σ : St} {Q : Ou → St → Nat → Prop} (z1 : Int) (z2 : Int) (k : am_wp sc 69 15 [.inr (.inl 1), .inl z1, .inl z2] [.inl 0, .inr (.inl 1)] σ Q) : am_wp sc 69 10 [.inr (.inl 1), .inl z1, .inl z2] [.inr (.inl 1)] σ Q := by
  refine am_wn rfl ?_
  refine am_wn rfl ?_
  exact k
theorem b_69_14 {sc : Int → Int} {σ : St} {Q : Ou → St → Nat → Prop} (z1 : Int) (z2 : Int) (k : am_wp sc 69 15 [.inr (.inl 1), .inl z1, .inl z2] [.inl 1, .inr (.inl 1)] σ Q) : am_wp sc 69 14 [.inr (.inl 1), .inl z1, .inl z2] [.inr (.inl 1)] σ Q := by
  refine am_wn rfl ?_
  exact k
theorem b_69_15 {sc : Int → Int} {σ : St} {Q : Ou → St → Nat → Prop} (z1 : Int) (z2 : Int) (s1 : Int) (k : am_wp sc 49 0 [.inr (.inl 1), .inl s1] [] σ (am_bk sc 69 15 [.inr (.inl 1), .inl z1, .inl z2] [] Q)) : am_wp sc 69 15 [.inr (.inl 1), .inl z1, .inl z2] [.inl s1, .inr (.inl 1)] σ Q := by
  exact am_wc rfl (by decide) (by decide) rfl k
theorem b_69_18 {sc : Int → Int} {σ : St} {Q : Ou → St → Nat → Prop} (z1 : Int) (z2 : Int) (s0 : Int) (k1 : (s0 = 0) → am_wp sc 69 25 [.inr (.inl 1), .inl z1, .inl z2] [] σ Q) (k2 : ¬ (s0 = 0) → am_wp sc 69 21 [.inr (.inl 1), .inl z1, .inl z2] [] σ Q) : am_wp sc 69 18 [.inr (.inl 1), .inl z1, .inl z2] [.inl s0] σ Q := by
  exact ar_br (c := s0 = 0) rfl k1 k2
theorem b_69_21 {sc : Int → Int} {σ : St} {Q : Ou → St → Nat → Prop} (z1 : Int) (z2 : Int) (k : am_wp sc 69 36 [.inr (.inl 1), .inl z1, .inl z2] [.inl 0] σ Q) : am_wp sc 69 21 [.inr (.inl 1), .inl z1, .inl z2] [] σ Q := by
  refine am_wn rfl ?_
  refine am_wn rfl ?_
  exact k
theorem b_69_25 {sc : Int → Int} {σ : St} {Q : Ou → St → Nat → Prop} (z1 : Int) (z2 : Int) (h0 : am_R (10 * z1)) (h1 : am_R ((10 * z1) + z2)) (h2 : 0 ≤ ((10 * z1) + z2) ∧ ((10 * z1) + z2) < 150) (k : am_wp sc 69 36 [.inr (.inl 1), .inl z1, .inl z2] [.inl (σ 20 ((10 * z1) + z2))] σ Q) : am_wp sc 69 25 [.inr (.inl 1), .inl z1, .inl z2] [] σ Q := by
  refine am_wn rfl ?_
  refine am_wn rfl ?_
  refine am_wn rfl ?_
  refine am_wn rfl ?_
  refine ar_mul rfl h0 ?_
  refine am_wn rfl ?_
  refine ar_add rfl h1 ?_
  refine ar_iald rfl rfl h2 ?_
  exact k
theorem b_69_36 {sc : Int → Int} {σ : St} {Q : Ou → St → Nat → Prop} (z1 : Int) (z2 : Int) (s0 : Int) (k : Q (.inl (some s0)) σ 0) : am_wp sc 69 36 [.inr (.inl 1), .inl z1, .inl z2] [.inl s0] σ Q := by
  exact am_w60 rfl k
/-! SlidingHeapModel.push -/
theorem b_70_0 {sc : Int → Int} {σ : St} {Q : Ou → St → Nat → Prop} (z1 : Int) (k : am_wp sc 50 0 [.inr (.inl 1), .inl z1] [] σ (am_bk sc 70 3 [.inr (.inl 1), .inl z1] [.inr (.inl 1)] Q)) : am_wp sc 70 0 [.inr (.inl 1), .inl z1] [] σ Q := by
  refine am_wn rfl ?_
  refine am_wn rfl ?_
  refine am_wn rfl ?_
  exact am_wc rfl (by decide) (by decide) rfl k
theorem b_70_6 {sc : Int → Int} {σ : St} {Q : Ou → St → Nat → Prop} (z1 : Int) (s1 : Int) (k1 : (s1 ≠ 0) → am_wp sc 70 13 [.inr (.inl 1), .inl z1] [.inr (.inl 1)] σ Q) (k2 : ¬ (s1 ≠ 0) → am_wp sc 70 9 [.inr (.inl 1), .inl z1] [.inr (.inl 1)] σ Q) : am_wp sc 70 6 [.inr (.inl 1), .inl z1] [.inl s1, .inr (.inl 1)] σ Q := by
  exact ar_br (c := s1 ≠ 0) rfl k1 k2
theorem b_70_9 {sc : Int → Int} {σ : St} {Q : Ou → St → Nat → Prop} (z1 : Int) (k : am_wp sc 70 27 [.inr (.inl 1), .inl z1] [.inl 1, .inr (.inl 1)] σ Q) : am_wp sc 70 9 [.inr (.inl 1), .inl z1] [.inr (.inl 1)] σ Q := by
  refine am_wn rfl ?_
  refine am_wn rfl ?_
  exact k
theorem b_70_13 {sc : Int → Int} {σ : St} {Q : Ou → St → Nat → Prop} (z1 : Int) (k1 : ((σ 42 0) ≠ 10) → am_wp sc 70 26 [.inr (.inl 1), .inl z1] [.inr (.inl 1)] σ Q) (k2 : ¬ ((σ 42 0) ≠ 10) → am_wp sc 70 22 [.inr (.inl 1), .inl z1] [.inr (.inl 1)] σ Q) : am_wp sc 70 13 [.inr (.inl 1), .inl z1] [.inr (.inl 1)] σ Q := by
  refine am_wn rfl ?_
  refine am_wn rfl ?_
  refine am_wn rfl ?_
  exact ar_br (c := (σ 42 0) ≠ 10) rfl k1 k2
theorem b_70_22 {sc : Int → Int} {σ : St} {Q : Ou → St → Nat → Prop} (z1 : Int) (k : am_wp sc 70 27 [.inr (.inl 1), .inl z1] [.inl 2, .inr (.inl 1)] σ Q) : am_wp sc 70 22 [.inr (.inl 1), .inl z1] [.inr (.inl 1)] σ Q := by
  refine am_wn rfl ?_
  refine am_wn rfl ?_
  exact k
theorem b_70_26 {sc : Int → Int} {σ : St} {Q : Ou → St → Nat → Prop} (z1 : Int) (k : am_wp sc 70 27 [.inr (.inl 1), .inl z1] [.inl 0, .inr (.inl 1)] σ Q) : am_wp sc 70 26 [.inr (.inl 1), .inl z1] [.inr (.inl 1)] σ Q := by
  refine am_wn rfl ?_
  exact k
theorem b_70_27 {sc : Int → Int} {σ : St} {Q : Ou → St → Nat → Prop} (z1 : Int) (s1 : Int) (k : am_wp sc 49 0 [.inr (.inl 1), .inl s1] [] σ (am_bk sc 70 27 [.inr (.inl 1), .inl z1] [] Q)) : am_wp sc 70 27 [.inr (.inl 1), .inl z1] [.inl s1, .inr (.inl 1)] σ Q := by
  exact am_wc rfl (by decide) (by decide) rfl k
theorem b_70_30 {sc : Int → Int} {σ : St} {Q : Ou → St → Nat → Prop} (z1 : Int) (s0 : Int) (k1 : (s0 = 0) → am_wp sc 70 35 [.inr (.inl 1), .inl z1] [] σ Q) (k2 : ¬ (s0 = 0) → am_wp sc 70 33 [.inr (.inl 1), .inl z1] [] σ Q) : am_wp sc 70 30 [.inr (.inl 1), .inl z1] [.inl s0] σ Q := by
  exact ar_br (c := s0 = 0) rfl k1 k2
theorem b_70_33 {sc : Int → Int} {σ : St} {Q : Ou → St → Nat → Prop} (z1 : Int) (k : Q (.inl (some 0)) σ 0) : am_wp sc 70 33 [.inr (.inl 1), .inl z1] [] σ Q := by
  refine am_wn rfl ?_
  exact am_w60 rfl k
theorem b_70_35 {sc : Int → Int} {σ : St} {Q : Ou → St → Nat → Prop} (z1 : Int) (h0 : 0 ≤ (σ 42 0) ∧ (σ 42 0) < 10) (h1 : am_R ((σ 42 0) + 1)) (k : Q (.inl (some ((σ 42 0) + 1))) (am_up (am_up σ 21 (σ 42 0) z1) 42 0 ((σ 42 0) + 1)) 0) : am_wp sc 70 35 [.inr (.inl 1), .inl z1] [] σ Q := by
  refine am_wn rfl ?_
  refine am_wn rfl ?_
  refine am_wn rfl ?_
  refine am_wn rfl ?_
  refine am_wn rfl ?_
  refine ar_iast rfl rfl h0 ?_
  refine am_wn rfl ?_
  refine am_wn rfl ?_
  refine am_wn rfl ?_
  refine am_wn rfl ?_
  refine ar_add rfl h1 ?_
  refine am_wn rfl ?_
  refine am_wn rfl ?_
  refine am_wn rfl ?_
  exact am_w60 rfl k
/-! SlidingHeapModel.pop -/
theorem b_71_0 {sc : Int → Int} {σ : St} {Q : Ou → St → Nat → Prop} (v1 : AV) (k1 : ((σ 42 0) ≤ 0) → am_wp sc 71 22 [.inr (.inl 1), v1] [.inr (.inl 1)] (am_up σ 40 0 0) Q) (k2 : ¬ ((σ 42 0) ≤ 0) → am_wp sc 71 13 [.inr (.inl 1), v1] [.inr (.inl 1)] (am_up σ 40 0 0) Q) : am_wp sc 71 0 [.inr (.inl 1), v1] [] σ Q := by
  refine am_wn rfl ?_
  refine am_wn rfl ?_
  refine am_wn rfl ?_
  refine am_wn rfl ?_
  refine am_wn rfl ?_
  refine am_wn rfl ?_
  exact ar_br (c := (σ 42 0) ≤ 0) rfl k1 k2
theorem b_71_13 {sc : Int → Int} {σ : St} {Q : Ou → St → Nat → Prop} (v1 : AV) (h0 : am_R ((σ 42 0) - 1)) (k : am_wp sc 71 23 [.inr (.inl 1), v1] [.inl ((σ 42 0) - 1), .inr (.inl 1)] σ Q) : am_wp sc 71 13 [.inr (.inl 1), v1] [.inr (.inl 1)] σ Q := by
  refine am_wn rfl ?_
  refine am_wn rfl ?_
  refine am_wn rfl ?_
  refine ar_sub rfl h0 ?_
  refine am_wn rfl ?_
  exact k
theorem b_71_22 {sc : Int → Int} {σ : St} {Q : Ou → St → Nat → Prop} (v1 : AV) (k : am_wp sc 71 23 [.inr (.inl 1), v1] [.inl (-1), .inr (.inl 1)] σ Q) : am_wp sc 71 22 [.inr (.inl 1), v1] [.inr (.inl 1)] σ Q := by
  refine am_wn rfl ?_
  exact k
theorem b_71_23 {sc : Int → Int} {σ : St} {Q : Ou → St → Nat → Prop} (v1 : AV) (s1 : Int) (k1 : (0 ≤ s1) → am_wp sc 71 37 [.inr (.inl 1), v1] [] (am_up σ 42 0 s1) Q) (k2 : ¬ (0 ≤ s1) → am_wp sc 71 33 [.inr (.inl 1), v1] [] (am_up σ 42 0 s1) Q) : am_wp sc 71 23 [.inr (.inl 1), v1] [.inl s1, .inr (.inl 1)] σ Q := by
  refine am_wn rfl ?_
  refine am_wn rfl ?_
  refine am_wn rfl ?_
  exact ar_br (c := 0 ≤ s1) rfl k1 k2
theorem b_71_33 {sc : Int → Int} {σ : St} {Q : Ou → St → Nat → Prop} (v1 : AV) (k : am_wp sc 71 46 [.inr (.inl 1), v1] [.inl (-1)] σ Q) : am_wp sc 71 33 [.inr (.inl 1), v1] [] σ Q := by
  refine am_wn rfl ?_
  refine am_wn rfl ?_
  exact k
theorem b_71_37 {sc : Int → Int} {σ : St} {Q : Ou → St → Nat → Prop} (v1 : AV) (h0 : 0 ≤ (σ 42 0) ∧ (σ 42 0) < 10) (k : am_wp sc 71 46 [.inr (.inl 1), v1] [.inl (σ 21 (σ 42 0))] σ Q) : am_wp sc 71 37 [.inr (.inl 1), v1] [] σ Q := by
  refine am_wn rfl ?_
  refine am_wn rfl ?_
  refine am_wn rfl ?_
  refine am_wn rfl ?_
  refine ar_iald rfl rfl h0 ?_
  exact k
theorem b_71_46 {sc : Int → Int} {σ : St} {Q : Ou → St → Nat → Prop} (v1 : AV) (s0 : Int) (k1 : (0 ≤ (σ 42 0)) → am_wp sc 71 59 [.inr (.inl 1), .inl s0] [.inr (.inl 1)] σ Q) (k2 : ¬ (0 ≤ (σ 42 0)) → am_wp sc 71 55 [.inr (.inl 1), .inl s0] [.inr (.inl 1)] σ Q) : am_wp sc 71 46 [.inr (.inl 1), v1] [.inl s0] σ Q := by
  refine am_wn rfl ?_
  refine am_wn rfl ?_
  refine am_wn rfl ?_
  refine am_wn rfl ?_
  exact ar_br (c := 0 ≤ (σ 42 0)) rfl k1 k2
theorem b_71_55 {sc : Int → Int} {σ : St} {Q : Ou → St → Nat → Prop} (z1 : Int) (k : am_wp sc 71 63 [.inr (.inl 1), .inl z1] [.inl 0, .inr (.inl 1)] σ Q) : am_wp sc 71 55 [.inr (.inl 1), .inl z1] [.inr (.inl 1)] σ Q := by
  refine am_wn rfl ?_
  refine am_wn rfl ?_
  exact k
theorem b_71_59 {sc : Int → Int} {σ : St} {Q : Ou → St → Nat → Prop} (z1 : Int) (k : am_wp sc 71 63 [.inr (.inl 1), .inl z1] [.inl (σ 42 0), .inr (.inl 1)] σ Q) : am_wp sc 71 59 [.inr (.inl 1), .inl z1] [.inr (.inl 1)] σ Q := by
  refine am_wn rfl ?_
  refine am_wn rfl ?_
  exact k
theorem b_71_63 {sc : Int → Int} {σ : St} {Q : Ou → St → Nat → Prop} (z1 : Int) (s1 : Int) (k : Q (.inl (some z1)) (am_up σ 42 0 s1) 0) : am_wp sc 71 63 [.inr (.inl 1), .inl z1] [.inl s1, .inr (.inl 1)] σ Q := by
  refine am_wn rfl ?_
  refine am_wn rfl ?_
  exact am_w60 rfl k
/-! SlidingHeapModel.root -/
theorem b_72_0 {sc : Int → Int} {σ : St} {Q : Ou → St → Nat → Prop} (z1 : Int) (k1 : (z1 < 0) → am_wp sc 72 17 [.inr (.inl 1), .inl z1] [] (am_up σ 40 0 0) Q) (k2 : ¬ (z1 < 0) → am_wp sc 72 9 [.inr (.inl 1), .inl z1] [] (am_up σ 40 0 0) Q) : am_wp sc 72 0 [.inr (.inl 1), .inl z1] [] σ Q := by
  refine am_wn rfl ?_
  refine am_wn rfl ?_
  refine am_wn rfl ?_
  refine am_wn rfl ?_
  exact ar_br (c := z1 < 0) rfl k1 k2
theorem b_72_9 {sc : Int → Int} {σ : St} {Q : Ou → St → Nat → Prop} (z1 : Int) (k1 : (z1 < (σ 42 0)) → am_wp sc 72 21 [.inr (.inl 1), .inl z1] [] σ Q) (k2 : ¬ (z1 < (σ 42 0)) → am_wp sc 72 17 [.inr (.inl 1), .inl z1] [] σ Q) : am_wp sc 72 9 [.inr (.inl 1), .inl z1] [] σ Q := by
  refine am_wn rfl ?_
  refine am_wn rfl ?_
  refine am_wn rfl ?_
  exact ar_br (c := z1 < (σ 42 0)) rfl k1 k2
theorem b_72_17 {sc : Int → Int} {σ : St} {Q : Ou → St → Nat → Prop} (z1 : Int) (k : am_wp sc 72 27 [.inr (.inl 1), .inl z1] [.inl (-1)] σ Q) : am_wp sc 72 17 [.inr (.inl 1), .inl z1] [] σ Q := by
  refine am_wn rfl ?_
  refine am_wn rfl ?_
  exact k
theorem b_72_21 {sc : Int → Int} {σ : St} {Q : Ou → St → Nat → Prop} (z1 : Int) (h0 : 0 ≤ z1 ∧ z1 < 10) (k : am_wp sc 72 27 [.inr (.inl 1), .inl z1] [.inl (σ 21 z1)] σ Q) : am_wp sc 72 21 [.inr (.inl 1), .inl z1] [] σ Q := by
  refine am_wn rfl ?_
  refine am_wn rfl ?_
  refine am_wn rfl ?_
  refine ar_iald rfl rfl h0 ?_
  exact k
theorem b_72_27 {sc : Int → Int} {σ : St} {Q : Ou → St → Nat → Prop} (z1 : Int) (s0 : Int) (k : Q (.inl (some s0)) σ 0) : am_wp sc 72 27 [.inr (.inl 1), .inl z1] [.inl s0] σ Q := by
  exact am_w60 rfl k
/-! SlidingHeapModel.rites -/
theorem b_73_0 {sc : Int → Int} {σ : St} {Q : Ou → St → Nat → Prop} (z1 : Int) (z2 : Int) (k : am_wp sc 50 0 [.inr (.inl 1), .inl z1] [] σ (am_bk sc 73 3 [.inr (.inl 1), .inl z1, .inl z2] [.inr (.inl 1)] Q)) : am_wp sc 73 0 [.inr (.inl 1), .inl z1, .inl z2] [] σ Q := by
  refine am_wn rfl ?_
  refine am_wn rfl ?_
  refine am_wn rfl ?_
  exact am_wc rfl (by decide) (by decide) rfl k
theorem b_73_6 {sc : Int → Int} {σ : St} {Q : Ou → St → Nat → Prop} (z1 : Int) (z2 : Int) (s1 : Int) (k1 : (s1 = 0) → am_wp sc 73 13 [.inr (.inl 1), .inl z1, .inl z2] [.inr (.inl 1)] σ Q) (k2 : ¬ (s1 = 0) → am_wp sc 73 9 [.inr (.inl 1), .inl z1, .inl z2] [.inr (.inl 1)] σ Q) : am_wp sc 73 6 [.inr (.inl 1), .inl z1, .inl z2] [.inl s1, .inr (.inl 1)] σ Q := by
  exact ar_br (c := s1 = 0) rfl k1 k2
theorem b_73_9 {sc : Int → Int} {σ : St} {Q : Ou → St → Nat → Prop} (z1 : Int) (z2 : Int) (k : am_wp sc 73 14 [.inr (.inl 1), .inl z1, .inl z2] [.inl 0, .inr (.inl 1)] σ Q) : am_wp sc 73 9 [.inr (.inl 1), .inl z1, .inl z2] [.inr (.inl 1)] σ Q := by
  refine am_wn rfl ?_
  refine am_wn rfl ?_
  exact k
theorem b_73_13 {sc : Int → Int} {σ : St} {Q : Ou → St → Nat → Prop} (z1 : Int) (z2 : Int) (k : am_wp sc 73 14 [.inr (.inl 1), .inl z1, .inl z2] [.inl 1, .inr (.inl 1)] σ Q) : am_wp sc 73 13 [.inr (.inl 1), .inl z1, .inl z2] [.inr (.inl 1)] σ Q := by
  refine am_wn rfl ?_
  exact k
theorem b_73_14 {sc : Int → Int} {σ : St} {Q : Ou → St → Nat → Prop} (z1 : Int) (z2 : Int) (s1 : Int) (k : am_wp sc 49 0 [.inr (.inl 1), .inl s1] [] σ (am_bk sc 73 14 [.inr (.inl 1), .inl z1, .inl z2] [] Q)) : am_wp sc 73 14 [.inr (.inl 1), .inl z1, .inl z2] [.inl s1, .inr (.inl 1)] σ Q := by
  exact am_wc rfl (by decide) (by decide) rfl k
theorem b_73_17 {sc : Int → Int} {σ : St} {Q : Ou → St → Nat → Prop} (z1 : Int) (z2 : Int) (s0 : Int) (k1 : (s0 ≠ 0) → am_wp sc 73 27 [.inr (.inl 1), .inl z1, .inl z2] [] σ Q) (k2 : ¬ (s0 ≠ 0) → am_wp sc 73 20 [.inr (.inl 1), .inl z1, .inl z2] [] σ Q) : am_wp sc 73 17 [.inr (.inl 1), .inl z1, .inl z2] [.inl s0] σ Q := by
  exact ar_br (c := s0 ≠ 0) rfl k1 k2
theorem b_73_20 {sc : Int → Int} {σ : St} {Q : Ou → St → Nat → Prop} (z1 : Int) (z2 : Int) (h0 : 0 ≤ z1 ∧ z1 < 15) (h1 : z2 = 0 ∨ z2 = 1) (k : am_wp sc 73 27 [.inr (.inl 1), .inl z1, .inl z2] [] (am_up σ 18 z1 z2) Q) : am_wp sc 73 20 [.inr (.inl 1), .inl z1, .inl z2] [] σ Q := by
  refine am_wn rfl ?_
  refine am_wn rfl ?_
  refine am_wn rfl ?_
  refine am_wn rfl ?_
  refine ar_bast rfl rfl h0 h1 ?_
  exact k
theorem b_73_27 {sc : Int → Int} {σ : St} {Q : Ou → St → Nat → Prop} (z1 : Int) (z2 : Int) (k : Q (.inl none) σ 0) : am_wp sc 73 27 [.inr (.inl 1), .inl z1, .inl z2] [] σ Q := by
  exact am_w62 rfl k
/-! SlidingHeapModel.take -/
theorem b_74_0 {sc : Int → Int} {σ : St} {Q : Ou → St → Nat → Prop} (v1 : AV) (v2 : AV) (k1 : ((σ 43 0) ≤ 0) → am_wp sc 74 21 [.inr (.inl 1), v1, v2] [.inr (.inl 1)] σ Q) (k2 : ¬ ((σ 43 0) ≤ 0) → am_wp sc 74 8 [.inr (.inl 1), v1, v2] [.inr (.inl 1)] σ Q) : am_wp sc 74 0 [.inr (.inl 1), v1, v2] [] σ Q := by
  refine am_wn rfl ?_
  refine am_wn rfl ?_
  refine am_wn rfl ?_
  exact ar_br (c := (σ 43 0) ≤ 0) rfl k1 k2
theorem b_74_8 {sc : Int → Int} {σ : St} {Q : Ou → St → Nat → Prop} (v1 : AV) (v2 : AV) (k1 : ((σ 42 0) ≠ 10) → am_wp sc 74 21 [.inr (.inl 1), v1, v2] [.inr (.inl 1)] σ Q) (k2 : ¬ ((σ 42 0) ≠ 10) → am_wp sc 74 17 [.inr (.inl 1), v1, v2] [.inr (.inl 1)] σ Q) : am_wp sc 74 8 [.inr (.inl 1), v1, v2] [.inr (.inl 1)] σ Q := by
  refine am_wn rfl ?_
  refine am_wn rfl ?_
  refine am_wn rfl ?_
  exact ar_br (c := (σ 42 0) ≠ 10) rfl k1 k2
theorem b_74_17 {sc : Int → Int} {σ : St} {Q : Ou → St → Nat → Prop} (v1 : AV) (v2 : AV) (k : am_wp sc 74 22 [.inr (.inl 1), v1, v2] [.inl 1, .inr (.inl 1)] σ Q) : am_wp sc 74 17 [.inr (.inl 1), v1, v2] [.inr (.inl 1)] σ Q := by
  refine am_wn rfl ?_
  refine am_wn rfl ?_
  exact k
theorem b_74_21 {sc : Int → Int} {σ : St} {Q : Ou → St → Nat → Prop} (v1 : AV) (v2 : AV) (k : am_wp sc 74 22 [.inr (.inl 1), v1, v2] [.inl 0, .inr (.inl 1)] σ Q) : am_wp sc 74 21 [.inr (.inl 1), v1, v2] [.inr (.inl 1)] σ Q := by
  refine am_wn rfl ?_
  exact k
theorem b_74_22 {sc : Int → Int} {σ : St} {Q : Ou → St → Nat → Prop} (v1 : AV) (v2 : AV) (s1 : Int) (k : am_wp sc 49 0 [.inr (.inl 1), .inl s1] [] σ (am_bk sc 74 22 [.inr (.inl 1), v1, v2] [] Q)) : am_wp sc 74 22 [.inr (.inl 1), v1, v2] [.inl s1, .inr (.inl 1)] σ Q := by
  exact am_wc rfl (by decide) (by decide) rfl k
theorem b_74_25 {sc : Int → Int} {σ : St} {Q : Ou → St → Nat → Prop} (v1 : AV) (v2 : AV) (s0 : Int) (k1 : (s0 = 0) → am_wp sc 74 30 [.inr (.inl 1), v1, v2] [] σ Q) (k2 : ¬ (s0 = 0) → am_wp sc 74 28 [.inr (.inl 1), v1, v2] [] σ Q) : am_wp sc 74 25 [.inr (.inl 1), v1, v2] [.inl s0] σ Q := by
  exact ar_br (c := s0 = 0) rfl k1 k2
theorem b_74_28 {sc : Int → Int} {σ : St} {Q : Ou → St → Nat → Prop} (v1 : AV) (v2 : AV) (k : Q (.inl (some 0)) σ 0) : am_wp sc 74 28 [.inr (.inl 1), v1, v2] [] σ Q := by
  refine am_wn rfl ?_
  exact am_w60 rfl k
theorem b_74_30 {sc : Int → Int} {σ : St} {Q : Ou → St → Nat → Prop} (v1 : AV) (v2 : AV) (k1 : ((σ 43 0) ≠ 0) → am_wp sc 74 39 [.inr (.inl 1), v1, v2] [] σ Q) (k2 : ¬ ((σ 43 0) ≠ 0) → am_wp sc 74 37 [.inr (.inl 1), v1, v2] [] σ Q) : am_wp sc 74 30 [.inr (.inl 1), v1, v2] [] σ Q := by
  refine am_wn rfl ?_
  refine am_wn rfl ?_
  exact ar_br (c := (σ 43 0) ≠ 0) rfl k1 k2
theorem b_74_37 {sc : Int → Int} {σ : St} {Q : Ou → St → Nat → Prop} (v1 : AV) (v2 : AV) (k : Q (.inl (some (-1))) σ 0) : am_wp sc 74 37 [.inr (.inl 1), v1, v2] [] σ Q := by
  refine am_wn rfl ?_
  exact am_w60 rfl k
theorem b_74_39 {sc : Int → Int} {σ : St} {Q : Ou → St → Nat → Prop} (v1 : AV) (v2 : AV) (h0 : 0 ≤ (0 : Int) ∧ (0 : Int) < 15) (h1 : am_R ((σ 43 0) - 1)) (k : am_wp sc 74 58 [.inr (.inl 1), .inl (σ 22 0), .inl 0] [] (am_up σ 43 0 ((σ 43 0) - 1)) Q) : am_wp sc 74 39 [.inr (.inl 1), v1, v2] [] σ Q := by
  refine am_wn rfl ?_
  refine am_wn rfl ?_
  refine am_wn rfl ?_
  refine ar_iald rfl rfl h0 ?_
  refine am_wn rfl ?_
  refine am_wn rfl ?_
  refine am_wn rfl ?_
  refine am_wn rfl ?_
  refine am_wn rfl ?_
  refine ar_sub rfl h1 ?_
  refine am_wn rfl ?_
  refine am_wn rfl ?_
  refine am_wn rfl ?_
  exact k
theorem b_74_58 {sc : Int → Int} {σ : St} {Q : Ou → St → Nat → Prop} (z1 : Int) (z2 : Int) (k1 : ((σ 43 0) ≤ z2) → am_wp sc 74 86 [.inr (.inl 1), .inl z1, .inl z2] [] σ Q) (k2 : ¬ ((σ 43 0) ≤ z2) → am_wp sc 74 66 [.inr (.inl 1), .inl z1, .inl z2] [] σ Q) : am_wp sc 74 58 [.inr (.inl 1), .inl z1, .inl z2] [] σ Q := by
  refine am_wn rfl ?_
  refine am_wn rfl ?_
  refine am_wn rfl ?_
  exact ar_br (c := (σ 43 0) ≤ z2) rfl k1 k2
theorem b_74_66 {sc : Int → Int} {σ : St} {Q : Ou → St → Nat → Prop} (z1 : Int) (z2 : Int) (h0 : am_R (z2 + 1)) (h1 : 0 ≤ (z2 + 1) ∧ (z2 + 1) < 15) (h2 : 0 ≤ z2 ∧ z2 < 15) (h3 : am_R (z2 + 1)) (k : am_wp sc 74 58 [.inr (.inl 1), .inl z1, .inl (z2 + 1)] [] (am_up σ 22 z2 (σ 22 (z2 + 1))) Q) : am_wp sc 74 66 [.inr (.inl 1), .inl z1, .inl z2] [] σ Q := by
  refine am_wn rfl ?_
  refine am_wn rfl ?_
  refine am_wn rfl ?_
  refine am_wn rfl ?_
  refine am_wn rfl ?_
  refine am_wn rfl ?_
  refine am_wn rfl ?_
  refine ar_add rfl h0 ?_
  refine ar_iald rfl rfl h1 ?_
  refine ar_iast rfl rfl h2 ?_
  refine ar_inc (L' := [.inr (.inl 1), .inl z1, .inl (z2 + 1)]) rfl rfl h3 rfl ?_
  refine am_wn rfl ?_
  exact k
theorem b_74_86 {sc : Int → Int} {σ : St} {Q : Ou → St → Nat → Prop} (z1 : Int) (z2 : Int) (h0 : 0 ≤ (σ 42 0) ∧ (σ 42 0) < 10) (h1 : am_R ((σ 42 0) + 1)) (k : Q (.inl (some z1)) (am_up (am_up σ 21 (σ 42 0) z1) 42 0 ((σ 42 0) + 1)) 0) : am_wp sc 74 86 [.inr (.inl 1), .inl z1, .inl z2] [] σ Q := by
  refine am_wn rfl ?_
  refine am_wn rfl ?_
  refine am_wn rfl ?_
  refine am_wn rfl ?_
  refine am_wn rfl ?_
  refine ar_iast rfl rfl h0 ?_
  refine am_wn rfl ?_
  refine am_wn rfl ?_
  refine am_wn rfl ?_
  refine am_wn rfl ?_
  refine ar_add rfl h1 ?_
  refine am_wn rfl ?_
  refine am_wn rfl ?_
  exact am_w60 rfl k
/-! SlidingHeapModel.queued -/
theorem b_75_0 {sc : Int → Int} {σ : St} {Q : Ou → St → Nat → Prop} (z1 : Int) (k1 : (z1 < 0) → am_wp sc 75 17 [.inr (.inl 1), .inl z1] [] (am_up σ 40 0 0) Q) (k2 : ¬ (z1 < 0) → am_wp sc 75 9 [.inr (.inl 1), .inl z1] [] (am_up σ 40 0 0) Q) : am_wp sc 75 0 [.inr (.inl 1), .inl z1] [] σ Q := by
  refine am_wn rfl ?_
  refine am_wn rfl ?_
  refine am_wn rfl ?_
  refine am_wn rfl ?_
  exact ar_br (c := z1 < 0) rfl k1 k2
theorem b_75_9 {sc : Int → Int} {σ : St} {Q : Ou → St → Nat → Prop} (z1 : Int) (k1 : (z1 < (σ 43 0)) → am_wp sc 75 21 [.inr (.inl 1), .inl z1] [] σ Q) (k2 : ¬ (z1 < (σ 43 0)) → am_wp sc 75 17 [.inr (.inl 1), .inl z1] [] σ Q) : am_wp sc 75 9 [.inr (.inl 1), .inl z1] [] σ Q := by
  refine am_wn rfl ?_
  refine am_wn rfl ?_
  refine am_wn rfl ?_
  exact ar_br (c := z1 < (σ 43 0)) rfl k1 k2
theorem b_75_17 {sc : Int → Int} {σ : St} {Q : Ou → St → Nat → Prop} (z1 : Int) (k : am_wp sc 75 27 [.inr (.inl 1), .inl z1] [.inl (-1)] σ Q) : am_wp sc 75 17 [.inr (.inl 1), .inl z1] [] σ Q := by
  refine am_wn rfl ?_
  refine am_wn rfl ?_
  exact k
theorem b_75_21 {sc : Int → Int} {σ : St} {Q : Ou → St → Nat → Prop} (z1 : Int) (h0 : 0 ≤ z1 ∧ z1 < 15) (k : am_wp sc 75 27 [.inr (.inl 1), .inl z1] [.inl (σ 22 z1)] σ Q) : am_wp sc 75 21 [.inr (.inl 1), .inl z1] [] σ Q := by
  refine am_wn rfl ?_
  refine am_wn rfl ?_
  refine am_wn rfl ?_
  refine ar_iald rfl rfl h0 ?_
  exact k
theorem b_75_27 {sc : Int → Int} {σ : St} {Q : Ou → St → Nat → Prop} (z1 : Int) (s0 : Int) (k : Q (.inl (some s0)) σ 0) : am_wp sc 75 27 [.inr (.inl 1), .inl z1] [.inl s0] σ Q := by
  exact am_w60 rfl k
/-! SlidingHeapModel.word -/
theorem b_76_0 {sc : Int → Int} {σ : St} {Q : Ou → St → Nat → Prop} (z1 : Int) (v2 : AV) (v3 : AV) (v4 : AV) (v5 : AV) (v6 : AV) (v7 : AV) (k1 : (z1 < 0) → am_wp sc 76 11 [.inr (.inl 1), .inl z1, v2, v3, v4, v5, v6, v7] [.inr (.inl 1)] σ Q) (k2 : ¬ (z1 < 0) → am_wp sc 76 5 [.inr (.inl 1), .inl z1, v2, v3, v4, v5, v6, v7] [.inr (.inl 1)] σ Q) : am_wp sc 76 0 [.inr (.inl 1), .inl z1, v2, v3, v4, v5, v6, v7] [] σ Q := by
  refine am_wn rfl ?_
  refine am_wn rfl ?_
  exact ar_br (c := z1 < 0) rfl k1 k2
theorem b_76_5 {sc : Int → Int} {σ : St} {Q : Ou → St → Nat → Prop} (z1 : Int) (v2 : AV) (v3 : AV) (v4 : AV) (v5 : AV) (v6 : AV) (v7 : AV) (k1 : (z1 ≤ 89) → am_wp sc 76 15 [.inr (.inl 1), .inl z1, v2, v3, v4, v5, v6, v7] [.inr (.inl 1)] σ Q) (k2 : ¬ (z1 ≤ 89) → am_wp sc 76 11 [.inr (.inl 1), .inl z1, v2, v3, v4, v5, v6, v7] [.inr (.inl 1)] σ Q) : am_wp sc 76 5 [.inr (.inl 1), .inl z1, v2, v3, v4, v5, v6, v7] [.inr (.inl 1)] σ Q := by
  refine am_wn rfl ?_
  refine am_wn rfl ?_
  exact ar_br (c := z1 ≤ 89) rfl k1 k2
theorem b_76_11 {sc : Int → Int} {σ : St} {Q : Ou → St → Nat → Prop} (z1 : Int) (v2 : AV) (v3 : AV) (v4 : AV) (v5 : AV) (v6 : AV) (v7 : AV) (k : am_wp sc 76 16 [.inr (.inl 1), .inl z1, v2, v3, v4, v5, v6, v7] [.inl 1, .inr (.inl 1)] σ Q) : am_wp sc 76 11 [.inr (.inl 1), .inl z1, v2, v3, v4, v5, v6, v7] [.inr (.inl 1)] σ Q := by
  refine am_wn rfl ?_
  refine am_wn rfl ?_
  exact k
theorem b_76_15 {sc : Int → Int} {σ : St} {Q : Ou → St → Nat → Prop} (z1 : Int) (v2 : AV) (v3 : AV) (v4 : AV) (v5 : AV) (v6 : AV) (v7 : AV) (k : am_wp sc 76 16 [.inr (.inl 1), .inl z1, v2, v3, v4, v5, v6, v7] [.inl 0, .inr (.inl 1)] σ Q) : am_wp sc 76 15 [.inr (.inl 1), .inl z1, v2, v3, v4, v5, v6, v7] [.inr (.inl 1)] σ Q := by
  refine am_wn rfl ?_
  exact k
theorem b_76_16 {sc : Int → Int} {σ : St} {Q : Ou → St → Nat → Prop} (z1 : Int) (v2 : AV) (v3 : AV) (v4 : AV) (v5 : AV) (v6 : AV) (v7 : AV) (s1 : Int) (k : am_wp sc 49 0 [.inr (.inl 1), .inl s1] [] σ (am_bk sc 76 16 [.inr (.inl 1), .inl z1, v2, v3, v4, v5, v6, v7] [] Q)) : am_wp sc 76 16 [.inr (.inl 1), .inl z1, v2, v3, v4, v5, v6, v7] [.inl s1, .inr (.inl 1)] σ Q := by
  exact am_wc rfl (by decide) (by decide) rfl k
theorem b_76_19 {sc : Int → Int} {σ : St} {Q : Ou → St → Nat → Prop} (z1 : Int) (v2 : AV) (v3 : AV) (v4 : AV) (v5 : AV) (v6 : AV) (v7 : AV) (s0 : Int) (k1 : (s0 = 0) → am_wp sc 76 24 [.inr (.inl 1), .inl z1, v2, v3, v4, v5, v6, v7] [] σ Q) (k2 : ¬ (s0 = 0) → am_wp sc 76 22 [.inr (.inl 1), .inl z1, v2, v3, v4, v5, v6, v7] [] σ Q) : am_wp sc 76 19 [.inr (.inl 1), .inl z1, v2, v3, v4, v5, v6, v7] [.inl s0] σ Q := by
  exact ar_br (c := s0 = 0) rfl k1 k2
theorem b_76_22 {sc : Int → Int} {σ : St} {Q : Ou → St → Nat → Prop} (z1 : Int) (v2 : AV) (v3 : AV) (v4 : AV) (v5 : AV) (v6 : AV) (v7 : AV) (k : Q (.inl (some 0)) σ 0) : am_wp sc 76 22 [.inr (.inl 1), .inl z1, v2, v3, v4, v5, v6, v7] [] σ Q := by
  refine am_wn rfl ?_
  exact am_w60 rfl k
theorem b_76_24 {sc : Int → Int} {σ : St} {Q : Ou → St → Nat → Prop} (z1 : Int) (v2 : AV) (v3 : AV) (v4 : AV) (v5 : AV) (v6 : AV) (v7 : AV) (k : am_wp sc 76 31 [.inr (.inl 1), .inl z1, .inl 0, .inl 0, .inl 0, v5, v6, v7] [] σ Q) : am_wp sc 76 24 [.inr (.inl 1), .inl z1, v2, v3, v4, v5, v6, v7] [] σ Q := by
  refine am_wn rfl ?_
  refine am_wn rfl ?_
  refine am_wn rfl ?_
  refine am_wn rfl ?_
  refine am_wn rfl ?_
  refine am_wn rfl ?_
  exact k
theorem b_76_31 {sc : Int → Int} {σ : St} {Q : Ou → St → Nat → Prop} (z1 : Int) (z2 : Int) (z3 : Int) (z4 : Int) (v5 : AV) (v6 : AV) (v7 : AV) (k1 : ((σ 41 0) ≤ z4) → am_wp sc 76 149 [.inr (.inl 1), .inl z1, .inl z2, .inl z3, .inl z4, v5, v6, v7] [] σ Q) (k2 : ¬ ((σ 41 0) ≤ z4) → am_wp sc 76 40 [.inr (.inl 1), .inl z1, .inl z2, .inl z3, .inl z4, v5, v6, v7] [] σ Q) : am_wp sc 76 31 [.inr (.inl 1), .inl z1, .inl z2, .inl z3, .inl z4, v5, v6, v7] [] σ Q := by
  refine am_wn rfl ?_
  refine am_wn rfl ?_
  refine am_wn rfl ?_
  exact ar_br (c := (σ 41 0) ≤ z4) rfl k1 k2
theorem b_76_40 {sc : Int → Int} {σ : St} {Q : Ou → St → Nat → Prop} (z1 : Int) (z2 : Int) (z3 : Int) (z4 : Int) (v5 : AV) (v6 : AV) (v7 : AV) (h0 : 0 ≤ z4 ∧ z4 < 15) (h1 : am_R (z1 - z2)) (k1 : ((z1 - z2) < 0) → am_wp sc 76 77 [.inr (.inl 1), .inl z1, .inl z2, .inl z3, .inl z4, .inl (σ 14 z4), .inl (z1 - z2), v7] [] σ Q) (k2 : ¬ ((z1 - z2) < 0) → am_wp sc 76 59 [.inr (.inl 1), .inl z1, .inl z2, .inl z3, .inl z4, .inl (σ 14 z4), .inl (z1 - z2), v7] [] σ Q) : am_wp sc 76 40 [.inr (.inl 1), .inl z1, .inl z2, .inl z3, .inl z4, v5, v6, v7] [] σ Q := by
  refine am_wn rfl ?_
  refine am_wn rfl ?_
  refine am_wn rfl ?_
  refine ar_iald rfl rfl h0 ?_
  refine am_wn rfl ?_
  refine am_wn rfl ?_
  refine am_wn rfl ?_
  refine ar_sub rfl h1 ?_
  refine am_wn rfl ?_
  refine am_wn rfl ?_
  exact ar_br (c := (z1 - z2) < 0) rfl k1 k2
theorem b_76_59 {sc : Int → Int} {σ : St} {Q : Ou → St → Nat → Prop} (z1 : Int) (z2 : Int) (z3 : Int) (z4 : Int) (z5 : Int) (z6 : Int) (v7 : AV) (h0 : 0 ≤ z5 ∧ z5 < 15) (h1 : am_R ((σ 16 z5) + 2)) (k1 : (((σ 16 z5) + 2) ≤ z6) → am_wp sc 76 77 [.inr (.inl 1), .inl z1, .inl z2, .inl z3, .inl z4, .inl z5, .inl z6, v7] [] σ Q) (k2 : ¬ (((σ 16 z5) + 2) ≤ z6) → am_wp sc 76 73 [.inr (.inl 1), .inl z1, .inl z2, .inl z3, .inl z4, .inl z5, .inl z6, v7] [] σ Q) : am_wp sc 76 59 [.inr (.inl 1), .inl z1, .inl z2, .inl z3, .inl z4, .inl z5, .inl z6, v7] [] σ Q := by
  refine am_wn rfl ?_
  refine am_wn rfl ?_
  refine am_wn rfl ?_
  refine am_wn rfl ?_
  refine ar_iald rfl rfl h0 ?_
  refine am_wn rfl ?_
  refine ar_add rfl h1 ?_
  exact ar_br (c := ((σ 16 z5) + 2) ≤ z6) rfl k1 k2
theorem b_76_73 {sc : Int → Int} {σ : St} {Q : Ou → St → Nat → Prop} (z1 : Int) (z2 : Int) (z3 : Int) (z4 : Int) (z5 : Int) (z6 : Int) (v7 : AV) (k : am_wp sc 76 78 [.inr (.inl 1), .inl z1, .inl z2, .inl z3, .inl z4, .inl z5, .inl z6, v7] [.inl 1] σ Q) : am_wp sc 76 73 [.inr (.inl 1), .inl z1, .inl z2, .inl z3, .inl z4, .inl z5, .inl z6, v7] [] σ Q := by
  refine am_wn rfl ?_
  refine am_wn rfl ?_
  exact k
theorem b_76_77 {sc : Int → Int} {σ : St} {Q : Ou → St → Nat → Prop} (z1 : Int) (z2 : Int) (z3 : Int) (z4 : Int) (z5 : Int) (z6 : Int) (v7 : AV) (k : am_wp sc 76 78 [.inr (.inl 1), .inl z1, .inl z2, .inl z3, .inl z4, .inl z5, .inl z6, v7] [.inl 0] σ Q) : am_wp sc 76 77 [.inr (.inl 1), .inl z1, .inl z2, .inl z3, .inl z4, .inl z5, .inl z6, v7] [] σ Q := by
  refine am_wn rfl ?_
  exact k
theorem b_76_78 {sc : Int → Int} {σ : St} {Q : Ou → St → Nat → Prop} (z1 : Int) (z2 : Int) (z3 : Int) (z4 : Int) (z5 : Int) (z6 : Int) (v7 : AV) (s0 : Int) (k1 : (s0 ≠ 0) → am_wp sc 76 89 [.inr (.inl 1), .inl z1, .inl z2, .inl z3, .inl z4, .inl z5, .inl z6, .inl s0] [] σ Q) (k2 : ¬ (s0 ≠ 0) → am_wp sc 76 85 [.inr (.inl 1), .inl z1, .inl z2, .inl z3, .inl z4, .inl z5, .inl z6, .inl s0] [] σ Q) : am_wp sc 76 78 [.inr (.inl 1), .inl z1, .inl z2, .inl z3, .inl z4, .inl z5, .inl z6, v7] [.inl s0] σ Q := by
  refine am_wn rfl ?_
  refine am_wn rfl ?_
  exact ar_br (c := s0 ≠ 0) rfl k1 k2
theorem b_76_85 {sc : Int → Int} {σ : St} {Q : Ou → St → Nat → Prop} (z1 : Int) (z2 : Int) (z3 : Int) (z4 : Int) (z5 : Int) (z6 : Int) (z7 : Int) (k : am_wp sc 76 130 [.inr (.inl 1), .inl z1, .inl z2, .inl z3, .inl z4, .inl z5, .inl z6, .inl z7] [.inl z3] σ Q) : am_wp sc 76 85 [.inr (.inl 1), .inl z1, .inl z2, .inl z3, .inl z4, .inl z5, .inl z6, .inl z7] [] σ Q := by
  refine am_wn rfl ?_
  refine am_wn rfl ?_
  exact k
theorem b_76_89 {sc : Int → Int} {σ : St} {Q : Ou → St → Nat → Prop} (z1 : Int) (z2 : Int) (z3 : Int) (z4 : Int) (z5 : Int) (z6 : Int) (z7 : Int) (k1 : (z6 ≠ 0) → am_wp sc 76 104 [.inr (.inl 1), .inl z1, .inl z2, .inl z3, .inl z4, .inl z5, .inl z6, .inl z7] [] σ Q) (k2 : ¬ (z6 ≠ 0) → am_wp sc 76 94 [.inr (.inl 1), .inl z1, .inl z2, .inl z3, .inl z4, .inl z5, .inl z6, .inl z7] [] σ Q) : am_wp sc 76 89 [.inr (.inl 1), .inl z1, .inl z2, .inl z3, .inl z4, .inl z5, .inl z6, .inl z7] [] σ Q := by
  refine am_wn rfl ?_
  exact ar_br (c := z6 ≠ 0) rfl k1 k2
theorem b_76_94 {sc : Int → Int} {σ : St} {Q : Ou → St → Nat → Prop} (z1 : Int) (z2 : Int) (z3 : Int) (z4 : Int) (z5 : Int) (z6 : Int) (z7 : Int) (h0 : 0 ≤ z5 ∧ z5 < 15) (k : am_wp sc 76 130 [.inr (.inl 1), .inl z1, .inl z2, .inl z3, .inl z4, .inl z5, .inl z6, .inl z7] [.inl (σ 16 z5)] σ Q) : am_wp sc 76 94 [.inr (.inl 1), .inl z1, .inl z2, .inl z3, .inl z4, .inl z5, .inl z6, .inl z7] [] σ Q := by
  refine am_wn rfl ?_
  refine am_wn rfl ?_
  refine am_wn rfl ?_
  refine ar_iald rfl rfl h0 ?_
  refine am_wn rfl ?_
  exact k
theorem b_76_104 {sc : Int → Int} {σ : St} {Q : Ou → St → Nat → Prop} (z1 : Int) (z2 : Int) (z3 : Int) (z4 : Int) (z5 : Int) (z6 : Int) (z7 : Int) (k1 : (z6 ≠ 1) → am_wp sc 76 115 [.inr (.inl 1), .inl z1, .inl z2, .inl z3, .inl z4, .inl z5, .inl z6, .inl z7] [] σ Q) (k2 : ¬ (z6 ≠ 1) → am_wp sc 76 110 [.inr (.inl 1), .inl z1, .inl z2, .inl z3, .inl z4, .inl z5, .inl z6, .inl z7] [] σ Q) : am_wp sc 76 104 [.inr (.inl 1), .inl z1, .inl z2, .inl z3, .inl z4, .inl z5, .inl z6, .inl z7] [] σ Q := by
  refine am_wn rfl ?_
  refine am_wn rfl ?_
  exact ar_br (c := z6 ≠ 1) rfl k1 k2
theorem b_76_110 {sc : Int → Int} {σ : St} {Q : Ou → St → Nat → Prop} (z1 : Int) (z2 : Int) (z3 : Int) (z4 : Int) (z5 : Int) (z6 : Int) (z7 : Int) (k : am_wp sc 76 130 [.inr (.inl 1), .inl z1, .inl z2, .inl z3, .inl z4, .inl z5, .inl z6, .inl z7] [.inl z5] σ Q) : am_wp sc 76 110 [.inr (.inl 1), .inl z1, .inl z2, .inl z3, .inl z4, .inl z5, .inl z6, .inl z7] [] σ Q := by
  refine am_wn rfl ?_
  refine am_wn rfl ?_
  exact k
theorem b_76_115 {sc : Int → Int} {σ : St} {Q : Ou → St → Nat → Prop} (z1 : Int) (z2 : Int) (z3 : Int) (z4 : Int) (z5 : Int) (z6 : Int) (z7 : Int) (h0 : am_R (10 * z5)) (h1 : am_R ((10 * z5) + z6)) (h2 : am_R (((10 * z5) + z6) - 2)) (h3 : 0 ≤ (((10 * z5) + z6) - 2) ∧ (((10 * z5) + z6) - 2) < 150) (k : am_wp sc 76 130 [.inr (.inl 1), .inl z1, .inl z2, .inl z3, .inl z4, .inl z5, .inl z6, .inl z7] [.inl (σ 19 (((10 * z5) + z6) - 2))] σ Q) : am_wp sc 76 115 [.inr (.inl 1), .inl z1, .inl z2, .inl z3, .inl z4, .inl z5, .inl z6, .inl z7] [] σ Q := by
  refine am_wn rfl ?_
  refine am_wn rfl ?_
  refine am_wn rfl ?_
  refine am_wn rfl ?_
  refine ar_mul rfl h0 ?_
  refine am_wn rfl ?_
  refine ar_add rfl h1 ?_
  refine am_wn rfl ?_
  refine ar_sub rfl h2 ?_
  refine ar_iald rfl rfl h3 ?_
  exact k
theorem b_76_130 {sc : Int → Int} {σ : St} {Q : Ou → St → Nat → Prop} (z1 : Int) (z2 : Int) (z3 : Int) (z4 : Int) (z5 : Int) (z6 : Int) (z7 : Int) (s0 : Int) (h0 : 0 ≤ z5 ∧ z5 < 15) (h1 : am_R (z2 + (σ 16 z5))) (h2 : am_R ((z2 + (σ 16 z5)) + 2)) (h3 : am_R (z4 + 1)) (k : am_wp sc 76 31 [.inr (.inl 1), .inl z1, .inl ((z2 + (σ 16 z5)) + 2), .inl s0, .inl (z4 + 1), .inl z5, .inl z6, .inl z7] [] σ Q) : am_wp sc 76 130 [.inr (.inl 1), .inl z1, .inl z2, .inl z3, .inl z4, .inl z5, .inl z6, .inl z7] [.inl s0] σ Q := by
  refine am_wn rfl ?_
  refine am_wn rfl ?_
  refine am_wn rfl ?_
  refine am_wn rfl ?_
  refine am_wn rfl ?_
  refine ar_iald rfl rfl h0 ?_
  refine ar_add rfl h1 ?_
  refine am_wn rfl ?_
  refine ar_add rfl h2 ?_
  refine am_wn rfl ?_
  refine ar_inc (L' := [.inr (.inl 1), .inl z1, .inl ((z2 + (σ 16 z5)) + 2), .inl s0, .inl (z4 + 1), .inl z5, .inl z6, .inl z7]) rfl rfl h3 rfl ?_
  refine am_wn rfl ?_
  exact k
theorem b_76_149 {sc : Int → Int} {σ : St} {Q : Ou → St → Nat → Prop} (z1 : Int) (z2 : Int) (z3 : Int) (z4 : Int) (v5 : AV) (v6 : AV) (v7 : AV) (k : Q (.inl (some z3)) σ 0) : am_wp sc 76 149 [.inr (.inl 1), .inl z1, .inl z2, .inl z3, .inl z4, v5, v6, v7] [] σ Q := by
  refine am_wn rfl ?_
  exact am_w60 rfl k
/-! SlidingHeapModel.placeOf -/
theorem b_77_0 {sc : Int → Int} {σ : St} {Q : Ou → St → Nat → Prop} (z1 : Int) (v2 : AV) (v3 : AV) (v4 : AV) (k : am_wp sc 77 7 [.inr (.inl 1), .inl z1, .inl 0, .inl 0, .inl 0] [] σ Q) : am_wp sc 77 0 [.inr (.inl 1), .inl z1, v2, v3, v4] [] σ Q := by
  refine am_wn rfl ?_
  refine am_wn rfl ?_
  refine am_wn rfl ?_
  refine am_wn rfl ?_
  refine am_wn rfl ?_
  refine am_wn rfl ?_
  exact k
theorem b_77_7 {sc : Int → Int} {σ : St} {Q : Ou → St → Nat → Prop} (z1 : Int) (z2 : Int) (z3 : Int) (z4 : Int) (k1 : ((σ 41 0) ≤ z4) → am_wp sc 77 56 [.inr (.inl 1), .inl z1, .inl z2, .inl z3, .inl z4] [] σ Q) (k2 : ¬ ((σ 41 0) ≤ z4) → am_wp sc 77 16 [.inr (.inl 1), .inl z1, .inl z2, .inl z3, .inl z4] [] σ Q) : am_wp sc 77 7 [.inr (.inl 1), .inl z1, .inl z2, .inl z3, .inl z4] [] σ Q := by
  refine am_wn rfl ?_
  refine am_wn rfl ?_
  refine am_wn rfl ?_
  exact ar_br (c := (σ 41 0) ≤ z4) rfl k1 k2
theorem b_77_16 {sc : Int → Int} {σ : St} {Q : Ou → St → Nat → Prop} (z1 : Int) (z2 : Int) (z3 : Int) (z4 : Int) (h0 : 0 ≤ z4 ∧ z4 < 15) (k1 : ((σ 14 z4) ≠ z1) → am_wp sc 77 31 [.inr (.inl 1), .inl z1, .inl z2, .inl z3, .inl z4] [] σ Q) (k2 : ¬ ((σ 14 z4) ≠ z1) → am_wp sc 77 27 [.inr (.inl 1), .inl z1, .inl z2, .inl z3, .inl z4] [] σ Q) : am_wp sc 77 16 [.inr (.inl 1), .inl z1, .inl z2, .inl z3, .inl z4] [] σ Q := by
  refine am_wn rfl ?_
  refine am_wn rfl ?_
  refine am_wn rfl ?_
  refine ar_iald rfl rfl h0 ?_
  refine am_wn rfl ?_
  exact ar_br (c := (σ 14 z4) ≠ z1) rfl k1 k2
theorem b_77_27 {sc : Int → Int} {σ : St} {Q : Ou → St → Nat → Prop} (z1 : Int) (z2 : Int) (z3 : Int) (z4 : Int) (k : am_wp sc 77 32 [.inr (.inl 1), .inl z1, .inl z2, .inl z3, .inl z4] [.inl z2] σ Q) : am_wp sc 77 27 [.inr (.inl 1), .inl z1, .inl z2, .inl z3, .inl z4] [] σ Q := by
  refine am_wn rfl ?_
  refine am_wn rfl ?_
  exact k
theorem b_77_31 {sc : Int → Int} {σ : St} {Q : Ou → St → Nat → Prop} (z1 : Int) (z2 : Int) (z3 : Int) (z4 : Int) (k : am_wp sc 77 32 [.inr (.inl 1), .inl z1, .inl z2, .inl z3, .inl z4] [.inl z3] σ Q) : am_wp sc 77 31 [.inr (.inl 1), .inl z1, .inl z2, .inl z3, .inl z4] [] σ Q := by
  refine am_wn rfl ?_
  exact k
theorem b_77_32 {sc : Int → Int} {σ : St} {Q : Ou → St → Nat → Prop} (z1 : Int) (z2 : Int) (z3 : Int) (z4 : Int) (s0 : Int) (h0 : 0 ≤ z4 ∧ z4 < 15) (h1 : 0 ≤ (σ 14 z4) ∧ (σ 14 z4) < 15) (h2 : am_R (z2 + (σ 16 (σ 14 z4)))) (h3 : am_R ((z2 + (σ 16 (σ 14 z4))) + 2)) (h4 : am_R (z4 + 1)) (k : am_wp sc 77 7 [.inr (.inl 1), .inl z1, .inl ((z2 + (σ 16 (σ 14 z4))) + 2), .inl s0, .inl (z4 + 1)] [] σ Q) : am_wp sc 77 32 [.inr (.inl 1), .inl z1, .inl z2, .inl z3, .inl z4] [.inl s0] σ Q := by
  refine am_wn rfl ?_
  refine am_wn rfl ?_
  refine am_wn rfl ?_
  refine am_wn rfl ?_
  refine am_wn rfl ?_
  refine am_wn rfl ?_
  refine am_wn rfl ?_
  refine ar_iald rfl rfl h0 ?_
  refine ar_iald rfl rfl h1 ?_
  refine ar_add rfl h2 ?_
  refine am_wn rfl ?_
  refine ar_add rfl h3 ?_
  refine am_wn rfl ?_
  refine ar_inc (L' := [.inr (.inl 1), .inl z1, .inl ((z2 + (σ 16 (σ 14 z4))) + 2), .inl s0, .inl (z4 + 1)]) rfl rfl h4 rfl ?_
  refine am_wn rfl ?_
  exact k
theorem b_77_56 {sc : Int → Int} {σ : St} {Q : Ou → St → Nat → Prop} (z1 : Int) (z2 : Int) (z3 : Int) (z4 : Int) (k : Q (.inl (some z3)) σ 0) : am_wp sc 77 56 [.inr (.inl 1), .inl z1, .inl z2, .inl z3, .inl z4] [] σ Q := by
  refine am_wn rfl ?_
  exact am_w60 rfl k
/-! SlidingHeapModel.heldBy -/
theorem b_78_0 {sc : Int → Int} {σ : St} {Q : Ou → St → Nat → Prop} (z1 : Int) (v2 : AV) (v3 : AV) (v4 : AV) (v5 : AV) (k : am_wp sc 78 4 [.inr (.inl 1), .inl z1, .inl 0, .inl 1, v4, v5] [] σ Q) : am_wp sc 78 0 [.inr (.inl 1), .inl z1, v2, v3, v4, v5] [] σ Q := by
  refine am_wn rfl ?_
  refine am_wn rfl ?_
  refine am_wn rfl ?_
  refine am_wn rfl ?_
  exact k
theorem b_78_4 {sc : Int → Int} {σ : St} {Q : Ou → St → Nat → Prop} (z1 : Int) (z2 : Int) (z3 : Int) (v4 : AV) (v5 : AV) (k1 : (15 ≤ z3) → am_wp sc 78 103 [.inr (.inl 1), .inl z1, .inl z2, .inl z3, v4, v5] [] σ Q) (k2 : ¬ (15 ≤ z3) → am_wp sc 78 10 [.inr (.inl 1), .inl z1, .inl z2, .inl z3, v4, v5] [] σ Q) : am_wp sc 78 4 [.inr (.inl 1), .inl z1, .inl z2, .inl z3, v4, v5] [] σ Q := by
  refine am_wn rfl ?_
  refine am_wn rfl ?_
  exact ar_br (c := 15 ≤ z3) rfl k1 k2
theorem b_78_10 {sc : Int → Int} {σ : St} {Q : Ou → St → Nat → Prop} (z1 : Int) (z2 : Int) (z3 : Int) (v4 : AV) (v5 : AV) (k : am_wp sc 78 13 [.inr (.inl 1), .inl z1, .inl z2, .inl z3, .inl 0, v5] [] σ Q) : am_wp sc 78 10 [.inr (.inl 1), .inl z1, .inl z2, .inl z3, v4, v5] [] σ Q := by
  refine am_wn rfl ?_
  refine am_wn rfl ?_
  exact k
theorem b_78_13 {sc : Int → Int} {σ : St} {Q : Ou → St → Nat → Prop} (z1 : Int) (z2 : Int) (z3 : Int) (z4 : Int) (v5 : AV) (k1 : (10 ≤ z4) → am_wp sc 78 97 [.inr (.inl 1), .inl z1, .inl z2, .inl z3, .inl z4, v5] [] σ Q) (k2 : ¬ (10 ≤ z4) → am_wp sc 78 20 [.inr (.inl 1), .inl z1, .inl z2, .inl z3, .inl z4, v5] [] σ Q) : am_wp sc 78 13 [.inr (.inl 1), .inl z1, .inl z2, .inl z3, .inl z4, v5] [] σ Q := by
  refine am_wn rfl ?_
  refine am_wn rfl ?_
  exact ar_br (c := 10 ≤ z4) rfl k1 k2
theorem b_78_20 {sc : Int → Int} {σ : St} {Q : Ou → St → Nat → Prop} (z1 : Int) (z2 : Int) (z3 : Int) (z4 : Int) (v5 : AV) (h0 : 0 ≤ z3 ∧ z3 < 15) (k1 : ((σ 15 z3) = 0) → am_wp sc 78 75 [.inr (.inl 1), .inl z1, .inl z2, .inl z3, .inl z4, v5] [] σ Q) (k2 : ¬ ((σ 15 z3) = 0) → am_wp sc 78 29 [.inr (.inl 1), .inl z1, .inl z2, .inl z3, .inl z4, v5] [] σ Q) : am_wp sc 78 20 [.inr (.inl 1), .inl z1, .inl z2, .inl z3, .inl z4, v5] [] σ Q := by
  refine am_wn rfl ?_
  refine am_wn rfl ?_
  refine am_wn rfl ?_
  refine ar_bald rfl rfl h0 ?_
  exact ar_br (c := (σ 15 z3) = 0) rfl k1 k2
theorem b_78_29 {sc : Int → Int} {σ : St} {Q : Ou → St → Nat → Prop} (z1 : Int) (z2 : Int) (z3 : Int) (z4 : Int) (v5 : AV) (h0 : 0 ≤ z3 ∧ z3 < 15) (k1 : ((σ 16 z3) ≤ z4) → am_wp sc 78 75 [.inr (.inl 1), .inl z1, .inl z2, .inl z3, .inl z4, v5] [] σ Q) (k2 : ¬ ((σ 16 z3) ≤ z4) → am_wp sc 78 40 [.inr (.inl 1), .inl z1, .inl z2, .inl z3, .inl z4, v5] [] σ Q) : am_wp sc 78 29 [.inr (.inl 1), .inl z1, .inl z2, .inl z3, .inl z4, v5] [] σ Q := by
  refine am_wn rfl ?_
  refine am_wn rfl ?_
  refine am_wn rfl ?_
  refine am_wn rfl ?_
  refine ar_iald rfl rfl h0 ?_
  exact ar_br (c := (σ 16 z3) ≤ z4) rfl k1 k2
theorem b_78_40 {sc : Int → Int} {σ : St} {Q : Ou → St → Nat → Prop} (z1 : Int) (z2 : Int) (z3 : Int) (z4 : Int) (v5 : AV) (h0 : am_R (10 * z3)) (h1 : am_R ((10 * z3) + z4)) (h2 : 0 ≤ ((10 * z3) + z4) ∧ ((10 * z3) + z4) < 150) (k1 : ((σ 20 ((10 * z3) + z4)) ≤ 0) → am_wp sc 78 75 [.inr (.inl 1), .inl z1, .inl z2, .inl z3, .inl z4, v5] [] σ Q) (k2 : ¬ ((σ 20 ((10 * z3) + z4)) ≤ 0) → am_wp sc 78 55 [.inr (.inl 1), .inl z1, .inl z2, .inl z3, .inl z4, v5] [] σ Q) : am_wp sc 78 40 [.inr (.inl 1), .inl z1, .inl z2, .inl z3, .inl z4, v5] [] σ Q := by
  refine am_wn rfl ?_
  refine am_wn rfl ?_
  refine am_wn rfl ?_
  refine am_wn rfl ?_
  refine ar_mul rfl h0 ?_
  refine am_wn rfl ?_
  refine ar_add rfl h1 ?_
  refine ar_iald rfl rfl h2 ?_
  exact ar_br (c := (σ 20 ((10 * z3) + z4)) ≤ 0) rfl k1 k2
theorem b_78_55 {sc : Int → Int} {σ : St} {Q : Ou → St → Nat → Prop} (z1 : Int) (z2 : Int) (z3 : Int) (z4 : Int) (v5 : AV) (h0 : am_R (10 * z3)) (h1 : am_R ((10 * z3) + z4)) (h2 : 0 ≤ ((10 * z3) + z4) ∧ ((10 * z3) + z4) < 150) (k1 : ((σ 19 ((10 * z3) + z4)) ≠ z1) → am_wp sc 78 75 [.inr (.inl 1), .inl z1, .inl z2, .inl z3, .inl z4, v5] [] σ Q) (k2 : ¬ ((σ 19 ((10 * z3) + z4)) ≠ z1) → am_wp sc 78 71 [.inr (.inl 1), .inl z1, .inl z2, .inl z3, .inl z4, v5] [] σ Q) : am_wp sc 78 55 [.inr (.inl 1), .inl z1, .inl z2, .inl z3, .inl z4, v5] [] σ Q := by
  refine am_wn rfl ?_
  refine am_wn rfl ?_
  refine am_wn rfl ?_
  refine am_wn rfl ?_
  refine ar_mul rfl h0 ?_
  refine am_wn rfl ?_
  refine ar_add rfl h1 ?_
  refine ar_iald rfl rfl h2 ?_
  refine am_wn rfl ?_
  exact ar_br (c := (σ 19 ((10 * z3) + z4)) ≠ z1) rfl k1 k2
theorem b_78_71 {sc : Int → Int} {σ : St} {Q : Ou → St → Nat → Prop} (z1 : Int) (z2 : Int) (z3 : Int) (z4 : Int) (v5 : AV) (k : am_wp sc 78 76 [.inr (.inl 1), .inl z1, .inl z2, .inl z3, .inl z4, v5] [.inl 1] σ Q) : am_wp sc 78 71 [.inr (.inl 1), .inl z1, .inl z2, .inl z3, .inl z4, v5] [] σ Q := by
  refine am_wn rfl ?_
  refine am_wn rfl ?_
  exact k
theorem b_78_75 {sc : Int → Int} {σ : St} {Q : Ou → St → Nat → Prop} (z1 : Int) (z2 : Int) (z3 : Int) (z4 : Int) (v5 : AV) (k : am_wp sc 78 76 [.inr (.inl 1), .inl z1, .inl z2, .inl z3, .inl z4, v5] [.inl 0] σ Q) : am_wp sc 78 75 [.inr (.inl 1), .inl z1, .inl z2, .inl z3, .inl z4, v5] [] σ Q := by
  refine am_wn rfl ?_
  exact k
theorem b_78_76 {sc : Int → Int} {σ : St} {Q : Ou → St → Nat → Prop} (z1 : Int) (z2 : Int) (z3 : Int) (z4 : Int) (v5 : AV) (s0 : Int) (k1 : (s0 = 0) → am_wp sc 78 89 [.inr (.inl 1), .inl z1, .inl z2, .inl z3, .inl z4, .inl s0] [] σ Q) (k2 : ¬ (s0 = 0) → am_wp sc 78 83 [.inr (.inl 1), .inl z1, .inl z2, .inl z3, .inl z4, .inl s0] [] σ Q) : am_wp sc 78 76 [.inr (.inl 1), .inl z1, .inl z2, .inl z3, .inl z4, v5] [.inl s0] σ Q := by
  refine am_wn rfl ?_
  refine am_wn rfl ?_
  exact ar_br (c := s0 = 0) rfl k1 k2
theorem b_78_83 {sc : Int → Int} {σ : St} {Q : Ou → St → Nat → Prop} (z1 : Int) (z2 : Int) (z3 : Int) (z4 : Int) (z5 : Int) (h0 : am_R (z2 + 1)) (k : am_wp sc 78 90 [.inr (.inl 1), .inl z1, .inl z2, .inl z3, .inl z4, .inl z5] [.inl (z2 + 1)] σ Q) : am_wp sc 78 83 [.inr (.inl 1), .inl z1, .inl z2, .inl z3, .inl z4, .inl z5] [] σ Q := by
  refine am_wn rfl ?_
  refine am_wn rfl ?_
  refine ar_add rfl h0 ?_
  refine am_wn rfl ?_
  exact k
theorem b_78_89 {sc : Int → Int} {σ : St} {Q : Ou → St → Nat → Prop} (z1 : Int) (z2 : Int) (z3 : Int) (z4 : Int) (z5 : Int) (k : am_wp sc 78 90 [.inr (.inl 1), .inl z1, .inl z2, .inl z3, .inl z4, .inl z5] [.inl z2] σ Q) : am_wp sc 78 89 [.inr (.inl 1), .inl z1, .inl z2, .inl z3, .inl z4, .inl z5] [] σ Q := by
  refine am_wn rfl ?_
  exact k
theorem b_78_90 {sc : Int → Int} {σ : St} {Q : Ou → St → Nat → Prop} (z1 : Int) (z2 : Int) (z3 : Int) (z4 : Int) (z5 : Int) (s0 : Int) (h0 : am_R (z4 + 1)) (k : am_wp sc 78 13 [.inr (.inl 1), .inl z1, .inl s0, .inl z3, .inl (z4 + 1), .inl z5] [] σ Q) : am_wp sc 78 90 [.inr (.inl 1), .inl z1, .inl z2, .inl z3, .inl z4, .inl z5] [.inl s0] σ Q := by
  refine am_wn rfl ?_
  refine ar_inc (L' := [.inr (.inl 1), .inl z1, .inl s0, .inl z3, .inl (z4 + 1), .inl z5]) rfl rfl h0 rfl ?_
  refine am_wn rfl ?_
  exact k
theorem b_78_97 {sc : Int → Int} {σ : St} {Q : Ou → St → Nat → Prop} (z1 : Int) (z2 : Int) (z3 : Int) (z4 : Int) (v5 : AV) (h0 : am_R (z3 + 1)) (k : am_wp sc 78 4 [.inr (.inl 1), .inl z1, .inl z2, .inl (z3 + 1), .inl z4, v5] [] σ Q) : am_wp sc 78 97 [.inr (.inl 1), .inl z1, .inl z2, .inl z3, .inl z4, v5] [] σ Q := by
  refine ar_inc (L' := [.inr (.inl 1), .inl z1, .inl z2, .inl (z3 + 1), .inl z4, v5]) rfl rfl h0 rfl ?_
  refine am_wn rfl ?_
  exact k
theorem b_78_103 {sc : Int → Int} {σ : St} {Q : Ou → St → Nat → Prop} (z1 : Int) (z2 : Int) (z3 : Int) (v4 : AV) (v5 : AV) (k : Q (.inl (some z2)) σ 0) : am_wp sc 78 103 [.inr (.inl 1), .inl z1, .inl z2, .inl z3, v4, v5] [] σ Q := by
  refine am_wn rfl ?_
  exact am_w60 rfl k
/-! SlidingHeapModel.about -/
theorem b_79_0 {sc : Int → Int} {σ : St} {Q : Ou → St → Nat → Prop} (z1 : Int) (z2 : Int) (k : am_wp sc 50 0 [.inr (.inl 1), .inl z1] [] σ (am_bk sc 79 3 [.inr (.inl 1), .inl z1, .inl z2] [.inr (.inl 1)] Q)) : am_wp sc 79 0 [.inr (.inl 1), .inl z1, .inl z2] [] σ Q := by
  refine am_wn rfl ?_
  refine am_wn rfl ?_
  refine am_wn rfl ?_
  exact am_wc rfl (by decide) (by decide) rfl k
theorem b_79_6 {sc : Int → Int} {σ : St} {Q : Ou → St → Nat → Prop} (z1 : Int) (z2 : Int) (s1 : Int) (k1 : (s1 ≠ 0) → am_wp sc 79 13 [.inr (.inl 1), .inl z1, .inl z2] [.inr (.inl 1)] σ Q) (k2 : ¬ (s1 ≠ 0) → am_wp sc 79 9 [.inr (.inl 1), .inl z1, .inl z2] [.inr (.inl 1)] σ Q) : am_wp sc 79 6 [.inr (.inl 1), .inl z1, .inl z2] [.inl s1, .inr (.inl 1)] σ Q := by
  exact ar_br (c := s1 ≠ 0) rfl k1 k2
theorem b_79_9 {sc : Int → Int} {σ : St} {Q : Ou → St → Nat → Prop} (z1 : Int) (z2 : Int) (k : am_wp sc 79 27 [.inr (.inl 1), .inl z1, .inl z2] [.inl 1, .inr (.inl 1)] σ Q) : am_wp sc 79 9 [.inr (.inl 1), .inl z1, .inl z2] [.inr (.inl 1)] σ Q := by
  refine am_wn rfl ?_
  refine am_wn rfl ?_
  exact k
theorem b_79_13 {sc : Int → Int} {σ : St} {Q : Ou → St → Nat → Prop} (z1 : Int) (z2 : Int) (k1 : (z2 < 0) → am_wp sc 79 22 [.inr (.inl 1), .inl z1, .inl z2] [.inr (.inl 1)] σ Q) (k2 : ¬ (z2 < 0) → am_wp sc 79 17 [.inr (.inl 1), .inl z1, .inl z2] [.inr (.inl 1)] σ Q) : am_wp sc 79 13 [.inr (.inl 1), .inl z1, .inl z2] [.inr (.inl 1)] σ Q := by
  refine am_wn rfl ?_
  exact ar_br (c := z2 < 0) rfl k1 k2
theorem b_79_17 {sc : Int → Int} {σ : St} {Q : Ou → St → Nat → Prop} (z1 : Int) (z2 : Int) (k1 : (z2 ≤ 5) → am_wp sc 79 26 [.inr (.inl 1), .inl z1, .inl z2] [.inr (.inl 1)] σ Q) (k2 : ¬ (z2 ≤ 5) → am_wp sc 79 22 [.inr (.inl 1), .inl z1, .inl z2] [.inr (.inl 1)] σ Q) : am_wp sc 79 17 [.inr (.inl 1), .inl z1, .inl z2] [.inr (.inl 1)] σ Q := by
  refine am_wn rfl ?_
  refine am_wn rfl ?_
  exact ar_br (c := z2 ≤ 5) rfl k1 k2
theorem b_79_22 {sc : Int → Int} {σ : St} {Q : Ou → St → Nat → Prop} (z1 : Int) (z2 : Int) (k : am_wp sc 79 27 [.inr (.inl 1), .inl z1, .inl z2] [.inl 2, .inr (.inl 1)] σ Q) : am_wp sc 79 22 [.inr (.inl 1), .inl z1, .inl z2] [.inr (.inl 1)] σ Q := by
  refine am_wn rfl ?_
  refine am_wn rfl ?_
  exact k
theorem b_79_26 {sc : Int → Int} {σ : St} {Q : Ou → St → Nat → Prop} (z1 : Int) (z2 : Int) (k : am_wp sc 79 27 [.inr (.inl 1), .inl z1, .inl z2] [.inl 0, .inr (.inl 1)] σ Q) : am_wp sc 79 26 [.inr (.inl 1), .inl z1, .inl z2] [.inr (.inl 1)] σ Q := by
  refine am_wn rfl ?_
  exact k
theorem b_79_27 {sc : Int → Int} {σ : St} {Q : Ou → St → Nat → Prop} (z1 : Int) (z2 : Int) (s1 : Int) (k : am_wp sc 49 0 [.inr (.inl 1), .inl s1] [] σ (am_bk sc 79 27 [.inr (.inl 1), .inl z1, .inl z2] [] Q)) : am_wp sc 79 27 [.inr (.inl 1), .inl z1, .inl z2] [.inl s1, .inr (.inl 1)] σ Q := by
  exact am_wc rfl (by decide) (by decide) rfl k
theorem b_79_30 {sc : Int → Int} {σ : St} {Q : Ou → St → Nat → Prop} (z1 : Int) (z2 : Int) (s0 : Int) (k1 : (s0 = 0) → am_wp sc 79 35 [.inr (.inl 1), .inl z1, .inl z2] [] σ Q) (k2 : ¬ (s0 = 0) → am_wp sc 79 33 [.inr (.inl 1), .inl z1, .inl z2] [] σ Q) : am_wp sc 79 30 [.inr (.inl 1), .inl z1, .inl z2] [.inl s0] σ Q := by
  exact ar_br (c := s0 = 0) rfl k1 k2
theorem b_79_33 {sc : Int → Int} {σ : St} {Q : Ou → St → Nat → Prop} (z1 : Int) (z2 : Int) (k : Q (.inl (some 0)) σ 0) : am_wp sc 79 33 [.inr (.inl 1), .inl z1, .inl z2] [] σ Q := by
  refine am_wn rfl ?_
  exact am_w60 rfl k
theorem b_79_35_c0 {sc : Int → Int} {σ : St} {Q : Ou → St → Nat → Prop} (z1 : Int) (z2 : Int) (hz : z2 = 0) (k : am_wp sc 79 72 [.inr (.inl 1), .inl z1, .inl z2] [] σ Q) : am_wp sc 79 35 [.inr (.inl 1), .inl z1, .inl z2] [] σ Q := by
  refine am_wn rfl ?_
  exact ar_sw hz rfl k
theorem b_79_35_c1 {sc : Int → Int} {σ : St} {Q : Ou → St → Nat → Prop} (z1 : Int) (z2 : Int) (hz : z2 = 1) (k : am_wp sc 79 78 [.inr (.inl 1), .inl z1, .inl z2] [] σ Q) : am_wp sc 79 35 [.inr (.inl 1), .inl z1, .inl z2] [] σ Q := by
  refine am_wn rfl ?_
  exact ar_sw hz rfl k
theorem b_79_35_c2 {sc : Int → Int} {σ : St} {Q : Ou → St → Nat → Prop} (z1 : Int) (z2 : Int) (hz : z2 = 2) (k : am_wp sc 79 85 [.inr (.inl 1), .inl z1, .inl z2] [] σ Q) : am_wp sc 79 35 [.inr (.inl 1), .inl z1, .inl z2] [] σ Q := by
  refine am_wn rfl ?_
  exact ar_sw hz rfl k
theorem b_79_35_c3 {sc : Int → Int} {σ : St} {Q : Ou → St → Nat → Prop} (z1 : Int) (z2 : Int) (hz : z2 = 3) (k : am_wp sc 79 92 [.inr (.inl 1), .inl z1, .inl z2] [] σ Q) : am_wp sc 79 35 [.inr (.inl 1), .inl z1, .inl z2] [] σ Q := by
  refine am_wn rfl ?_
  exact ar_sw hz rfl k
theorem b_79_35_c4 {sc : Int → Int} {σ : St} {Q : Ou → St → Nat → Prop} (z1 : Int) (z2 : Int) (hz : z2 = 4) (k : am_wp sc 79 107 [.inr (.inl 1), .inl z1, .inl z2] [] σ Q) : am_wp sc 79 35 [.inr (.inl 1), .inl z1, .inl z2] [] σ Q := by
  refine am_wn rfl ?_
  exact ar_sw hz rfl k
theorem b_79_35_d {sc : Int → Int} {σ : St} {Q : Ou → St → Nat → Prop} (z1 : Int) (z2 : Int) (hz : z2 < 0 ∨ 5 ≤ z2) (k : am_wp sc 79 121 [.inr (.inl 1), .inl z1, .inl z2] [] σ Q) : am_wp sc 79 35 [.inr (.inl 1), .inl z1, .inl z2] [] σ Q := by
  refine am_wn rfl ?_
  exact ar_swd rfl hz k
theorem b_79_72 {sc : Int → Int} {σ : St} {Q : Ou → St → Nat → Prop} (z1 : Int) (z2 : Int) (k : am_wp sc 77 0 [.inr (.inl 1), .inl z1, .inr (.inr 0), .inr (.inr 0), .inr (.inr 0)] [] σ (am_bk sc 79 74 [.inr (.inl 1), .inl z1, .inl z2] [] Q)) : am_wp sc 79 72 [.inr (.inl 1), .inl z1, .inl z2] [] σ Q := by
  refine am_wn rfl ?_
  refine am_wn rfl ?_
  exact am_wc rfl (by decide) (by decide) rfl k
theorem b_79_77 {sc : Int → Int} {σ : St} {Q : Ou → St → Nat → Prop} (z1 : Int) (z2 : Int) (s0 : Int) (k : Q (.inl (some s0)) σ 0) : am_wp sc 79 77 [.inr (.inl 1), .inl z1, .inl z2] [.inl s0] σ Q := by
  exact am_w60 rfl k
theorem b_79_78 {sc : Int → Int} {σ : St} {Q : Ou → St → Nat → Prop} (z1 : Int) (z2 : Int) (h0 : 0 ≤ z1 ∧ z1 < 15) (k : Q (.inl (some (σ 16 z1))) σ 0) : am_wp sc 79 78 [.inr (.inl 1), .inl z1, .inl z2] [] σ Q := by
  refine am_wn rfl ?_
  refine am_wn rfl ?_
  refine am_wn rfl ?_
  refine ar_iald rfl rfl h0 ?_
  exact am_w60 rfl k
theorem b_79_85 {sc : Int → Int} {σ : St} {Q : Ou → St → Nat → Prop} (z1 : Int) (z2 : Int) (h0 : 0 ≤ z1 ∧ z1 < 15) (k : Q (.inl (some (σ 17 z1))) σ 0) : am_wp sc 79 85 [.inr (.inl 1), .inl z1, .inl z2] [] σ Q := by
  refine am_wn rfl ?_
  refine am_wn rfl ?_
  refine am_wn rfl ?_
  refine ar_iald rfl rfl h0 ?_
  exact am_w60 rfl k
theorem b_79_92 {sc : Int → Int} {σ : St} {Q : Ou → St → Nat → Prop} (z1 : Int) (z2 : Int) (h0 : 0 ≤ z1 ∧ z1 < 15) (k1 : ((σ 18 z1) = 0) → am_wp sc 79 105 [.inr (.inl 1), .inl z1, .inl z2] [] σ Q) (k2 : ¬ ((σ 18 z1) = 0) → am_wp sc 79 101 [.inr (.inl 1), .inl z1, .inl z2] [] σ Q) : am_wp sc 79 92 [.inr (.inl 1), .inl z1, .inl z2] [] σ Q := by
  refine am_wn rfl ?_
  refine am_wn rfl ?_
  refine am_wn rfl ?_
  refine ar_bald rfl rfl h0 ?_
  exact ar_br (c := (σ 18 z1) = 0) rfl k1 k2
theorem b_79_101 {sc : Int → Int} {σ : St} {Q : Ou → St → Nat → Prop} (z1 : Int) (z2 : Int) (k : am_wp sc 79 106 [.inr (.inl 1), .inl z1, .inl z2] [.inl 1] σ Q) : am_wp sc 79 101 [.inr (.inl 1), .inl z1, .inl z2] [] σ Q := by
  refine am_wn rfl ?_
  refine am_wn rfl ?_
  exact k
theorem b_79_105 {sc : Int → Int} {σ : St} {Q : Ou → St → Nat → Prop} (z1 : Int) (z2 : Int) (k : am_wp sc 79 106 [.inr (.inl 1), .inl z1, .inl z2] [.inl 0] σ Q) : am_wp sc 79 105 [.inr (.inl 1), .inl z1, .inl z2] [] σ Q := by
  refine am_wn rfl ?_
  exact k
theorem b_79_106 {sc : Int → Int} {σ : St} {Q : Ou → St → Nat → Prop} (z1 : Int) (z2 : Int) (s0 : Int) (k : Q (.inl (some s0)) σ 0) : am_wp sc 79 106 [.inr (.inl 1), .inl z1, .inl z2] [.inl s0] σ Q := by
  exact am_w60 rfl k
theorem b_79_107 {sc : Int → Int} {σ : St} {Q : Ou → St → Nat → Prop} (z1 : Int) (z2 : Int) (k : am_wp sc 80 0 [.inr (.inl 1), .inl z1] [] σ (am_bk sc 79 109 [.inr (.inl 1), .inl z1, .inl z2] [] Q)) : am_wp sc 79 107 [.inr (.inl 1), .inl z1, .inl z2] [] σ Q := by
  refine am_wn rfl ?_
  refine am_wn rfl ?_
  exact am_wc rfl (by decide) (by decide) rfl k
theorem b_79_112 {sc : Int → Int} {σ : St} {Q : Ou → St → Nat → Prop} (z1 : Int) (z2 : Int) (s0 : Int) (k1 : (s0 = 0) → am_wp sc 79 119 [.inr (.inl 1), .inl z1, .inl z2] [] σ Q) (k2 : ¬ (s0 = 0) → am_wp sc 79 115 [.inr (.inl 1), .inl z1, .inl z2] [] σ Q) : am_wp sc 79 112 [.inr (.inl 1), .inl z1, .inl z2] [.inl s0] σ Q := by
  exact ar_br (c := s0 = 0) rfl k1 k2
theorem b_79_115 {sc : Int → Int} {σ : St} {Q : Ou → St → Nat → Prop} (z1 : Int) (z2 : Int) (k : am_wp sc 79 120 [.inr (.inl 1), .inl z1, .inl z2] [.inl 1] σ Q) : am_wp sc 79 115 [.inr (.inl 1), .inl z1, .inl z2] [] σ Q := by
  refine am_wn rfl ?_
  refine am_wn rfl ?_
  exact k
theorem b_79_119 {sc : Int → Int} {σ : St} {Q : Ou → St → Nat → Prop} (z1 : Int) (z2 : Int) (k : am_wp sc 79 120 [.inr (.inl 1), .inl z1, .inl z2] [.inl 0] σ Q) : am_wp sc 79 119 [.inr (.inl 1), .inl z1, .inl z2] [] σ Q := by
  refine am_wn rfl ?_
  exact k
theorem b_79_120 {sc : Int → Int} {σ : St} {Q : Ou → St → Nat → Prop} (z1 : Int) (z2 : Int) (s0 : Int) (k : Q (.inl (some s0)) σ 0) : am_wp sc 79 120 [.inr (.inl 1), .inl z1, .inl z2] [.inl s0] σ Q := by
  exact am_w60 rfl k
theorem b_79_121 {sc : Int → Int} {σ : St} {Q : Ou → St → Nat → Prop} (z1 : Int) (z2 : Int) (k : am_wp sc 78 0 [.inr (.inl 1), .inl z1, .inr (.inr 0), .inr (.inr 0), .inr (.inr 0), .inr (.inr 0)] [] σ (am_bk sc 79 123 [.inr (.inl 1), .inl z1, .inl z2] [] Q)) : am_wp sc 79 121 [.inr (.inl 1), .inl z1, .inl z2] [] σ Q := by
  refine am_wn rfl ?_
  refine am_wn rfl ?_
  exact am_wc rfl (by decide) (by decide) rfl k
theorem b_79_126 {sc : Int → Int} {σ : St} {Q : Ou → St → Nat → Prop} (z1 : Int) (z2 : Int) (s0 : Int) (k : Q (.inl (some s0)) σ 0) : am_wp sc 79 126 [.inr (.inl 1), .inl z1, .inl z2] [.inl s0] σ Q := by
  exact am_w60 rfl k
/-! SlidingHeapModel.isLive -/
theorem b_80_0 {sc : Int → Int} {σ : St} {Q : Ou → St → Nat → Prop} (z1 : Int) (k : am_wp sc 55 0 [.inr (.inl 1), .inr (.inr 0)] [] σ (am_bk sc 80 1 [.inr (.inl 1), .inl z1] [] Q)) : am_wp sc 80 0 [.inr (.inl 1), .inl z1] [] σ Q := by
  refine am_wn rfl ?_
  exact am_wc rfl (by decide) (by decide) rfl k
theorem b_80_4 {sc : Int → Int} {σ : St} {Q : Ou → St → Nat → Prop} (z1 : Int) (h0 : 0 ≤ z1 ∧ z1 < 15) (h1 : (σ 23 z1) = 0 ∨ (σ 23 z1) = 1) (k : Q (.inl (some (σ 23 z1))) σ 0) : am_wp sc 80 4 [.inr (.inl 1), .inl z1] [] σ Q := by
  refine am_wn rfl ?_
  refine am_wn rfl ?_
  refine am_wn rfl ?_
  refine ar_bald rfl rfl h0 ?_
  exact am_w61 rfl h1 k
/-! SlidingHeapModel.findLeft -/
theorem b_81_0 {sc : Int → Int} {σ : St} {Q : Ou → St → Nat → Prop} (z1 : Int) (v2 : AV) (v3 : AV) (v4 : AV) (v5 : AV) (k : am_wp sc 81 2 [.inr (.inl 1), .inl z1, .inl 1, v3, v4, v5] [] σ Q) : am_wp sc 81 0 [.inr (.inl 1), .inl z1, v2, v3, v4, v5] [] σ Q := by
  refine am_wn rfl ?_
  refine am_wn rfl ?_
  exact k
theorem b_81_2 {sc : Int → Int} {σ : St} {Q : Ou → St → Nat → Prop} (z1 : Int) (z2 : Int) (v3 : AV) (v4 : AV) (v5 : AV) (k1 : (15 ≤ z2) → am_wp sc 81 31 [.inr (.inl 1), .inl z1, .inl z2, v3, v4, v5] [] σ Q) (k2 : ¬ (15 ≤ z2) → am_wp sc 81 8 [.inr (.inl 1), .inl z1, .inl z2, v3, v4, v5] [] σ Q) : am_wp sc 81 2 [.inr (.inl 1), .inl z1, .inl z2, v3, v4, v5] [] σ Q := by
  refine am_wn rfl ?_
  refine am_wn rfl ?_
  exact ar_br (c := 15 ≤ z2) rfl k1 k2
theorem b_81_8 {sc : Int → Int} {σ : St} {Q : Ou → St → Nat → Prop} (z1 : Int) (z2 : Int) (v3 : AV) (v4 : AV) (v5 : AV) (k1 : (z2 ≠ z1) → am_wp sc 81 22 [.inr (.inl 1), .inl z1, .inl z2, v3, v4, v5] [.inl z2, .inr (.inl 25)] σ Q) (k2 : ¬ (z2 ≠ z1) → am_wp sc 81 18 [.inr (.inl 1), .inl z1, .inl z2, v3, v4, v5] [.inl z2, .inr (.inl 25)] σ Q) : am_wp sc 81 8 [.inr (.inl 1), .inl z1, .inl z2, v3, v4, v5] [] σ Q := by
  refine am_wn rfl ?_
  refine am_wn rfl ?_
  refine am_wn rfl ?_
  refine am_wn rfl ?_
  refine am_wn rfl ?_
  exact ar_br (c := z2 ≠ z1) rfl k1 k2
theorem b_81_18 {sc : Int → Int} {σ : St} {Q : Ou → St → Nat → Prop} (z1 : Int) (z2 : Int) (v3 : AV) (v4 : AV) (v5 : AV) (s1 : Int) (k : am_wp sc 81 24 [.inr (.inl 1), .inl z1, .inl z2, v3, v4, v5] [.inl 0, .inl s1, .inr (.inl 25)] σ Q) : am_wp sc 81 18 [.inr (.inl 1), .inl z1, .inl z2, v3, v4, v5] [.inl s1, .inr (.inl 25)] σ Q := by
  refine am_wn rfl ?_
  refine am_wn rfl ?_
  exact k
theorem b_81_22 {sc : Int → Int} {σ : St} {Q : Ou → St → Nat → Prop} (z1 : Int) (z2 : Int) (v3 : AV) (v4 : AV) (v5 : AV) (s1 : Int) (k : am_wp sc 81 24 [.inr (.inl 1), .inl z1, .inl z2, v3, v4, v5] [.inl 99, .inl s1, .inr (.inl 25)] σ Q) : am_wp sc 81 22 [.inr (.inl 1), .inl z1, .inl z2, v3, v4, v5] [.inl s1, .inr (.inl 25)] σ Q := by
  refine am_wn rfl ?_
  exact k
theorem b_81_24 {sc : Int → Int} {σ : St} {Q : Ou → St → Nat → Prop} (z1 : Int) (z2 : Int) (v3 : AV) (v4 : AV) (v5 : AV) (s1 : Int) (s2 : Int) (h0 : 0 ≤ s1 ∧ s1 < 15) (h1 : am_R (z2 + 1)) (k : am_wp sc 81 2 [.inr (.inl 1), .inl z1, .inl (z2 + 1), v3, v4, v5] [] (am_up σ 25 s1 s2) Q) : am_wp sc 81 24 [.inr (.inl 1), .inl z1, .inl z2, v3, v4, v5] [.inl s2, .inl s1, .inr (.inl 25)] σ Q := by
  refine ar_iast rfl rfl h0 ?_
  refine ar_inc (L' := [.inr (.inl 1), .inl z1, .inl (z2 + 1), v3, v4, v5]) rfl rfl h1 rfl ?_
  refine am_wn rfl ?_
  exact k
theorem b_81_31 {sc : Int → Int} {σ : St} {Q : Ou → St → Nat → Prop} (z1 : Int) (z2 : Int) (v3 : AV) (v4 : AV) (v5 : AV) (k : am_wp sc 81 33 [.inr (.inl 1), .inl z1, .inl 0, v3, v4, v5] [] σ Q) : am_wp sc 81 31 [.inr (.inl 1), .inl z1, .inl z2, v3, v4, v5] [] σ Q := by
  refine am_wn rfl ?_
  refine am_wn rfl ?_
  exact k
theorem b_81_33 {sc : Int → Int} {σ : St} {Q : Ou → St → Nat → Prop} (z1 : Int) (z2 : Int) (v3 : AV) (v4 : AV) (v5 : AV) (k1 : (14 ≤ z2) → am_wp sc 81 158 [.inr (.inl 1), .inl z1, .inl z2, v3, v4, v5] [] σ Q) (k2 : ¬ (14 ≤ z2) → am_wp sc 81 39 [.inr (.inl 1), .inl z1, .inl z2, v3, v4, v5] [] σ Q) : am_wp sc 81 33 [.inr (.inl 1), .inl z1, .inl z2, v3, v4, v5] [] σ Q := by
  refine am_wn rfl ?_
  refine am_wn rfl ?_
  exact ar_br (c := 14 ≤ z2) rfl k1 k2
theorem b_81_39 {sc : Int → Int} {σ : St} {Q : Ou → St → Nat → Prop} (z1 : Int) (z2 : Int) (v3 : AV) (v4 : AV) (v5 : AV) (k : am_wp sc 81 41 [.inr (.inl 1), .inl z1, .inl z2, .inl 1, v4, v5] [] σ Q) : am_wp sc 81 39 [.inr (.inl 1), .inl z1, .inl z2, v3, v4, v5] [] σ Q := by
  refine am_wn rfl ?_
  refine am_wn rfl ?_
  exact k
theorem b_81_41 {sc : Int → Int} {σ : St} {Q : Ou → St → Nat → Prop} (z1 : Int) (z2 : Int) (z3 : Int) (v4 : AV) (v5 : AV) (k1 : (15 ≤ z3) → am_wp sc 81 152 [.inr (.inl 1), .inl z1, .inl z2, .inl z3, v4, v5] [] σ Q) (k2 : ¬ (15 ≤ z3) → am_wp sc 81 47 [.inr (.inl 1), .inl z1, .inl z2, .inl z3, v4, v5] [] σ Q) : am_wp sc 81 41 [.inr (.inl 1), .inl z1, .inl z2, .inl z3, v4, v5] [] σ Q := by
  refine am_wn rfl ?_
  refine am_wn rfl ?_
  exact ar_br (c := 15 ≤ z3) rfl k1 k2
theorem b_81_47 {sc : Int → Int} {σ : St} {Q : Ou → St → Nat → Prop} (z1 : Int) (z2 : Int) (z3 : Int) (v4 : AV) (v5 : AV) (k : am_wp sc 81 50 [.inr (.inl 1), .inl z1, .inl z2, .inl z3, .inl 1, v5] [] σ Q) : am_wp sc 81 47 [.inr (.inl 1), .inl z1, .inl z2, .inl z3, v4, v5] [] σ Q := by
  refine am_wn rfl ?_
  refine am_wn rfl ?_
  exact k
theorem b_81_50 {sc : Int → Int} {σ : St} {Q : Ou → St → Nat → Prop} (z1 : Int) (z2 : Int) (z3 : Int) (z4 : Int) (v5 : AV) (k1 : (15 ≤ z4) → am_wp sc 81 146 [.inr (.inl 1), .inl z1, .inl z2, .inl z3, .inl z4, v5] [] σ Q) (k2 : ¬ (15 ≤ z4) → am_wp sc 81 57 [.inr (.inl 1), .inl z1, .inl z2, .inl z3, .inl z4, v5] [] σ Q) : am_wp sc 81 50 [.inr (.inl 1), .inl z1, .inl z2, .inl z3, .inl z4, v5] [] σ Q := by
  refine am_wn rfl ?_
  refine am_wn rfl ?_
  exact ar_br (c := 15 ≤ z4) rfl k1 k2
theorem b_81_57 {sc : Int → Int} {σ : St} {Q : Ou → St → Nat → Prop} (z1 : Int) (z2 : Int) (z3 : Int) (z4 : Int) (v5 : AV) (h0 : 0 ≤ z3 ∧ z3 < 15) (k1 : ((σ 15 z3) = 0) → am_wp sc 81 108 [.inr (.inl 1), .inl z1, .inl z2, .inl z3, .inl z4, v5] [] σ Q) (k2 : ¬ ((σ 15 z3) = 0) → am_wp sc 81 66 [.inr (.inl 1), .inl z1, .inl z2, .inl z3, .inl z4, v5] [] σ Q) : am_wp sc 81 57 [.inr (.inl 1), .inl z1, .inl z2, .inl z3, .inl z4, v5] [] σ Q := by
  refine am_wn rfl ?_
  refine am_wn rfl ?_
  refine am_wn rfl ?_
  refine ar_bald rfl rfl h0 ?_
  exact ar_br (c := (σ 15 z3) = 0) rfl k1 k2
theorem b_81_66 {sc : Int → Int} {σ : St} {Q : Ou → St → Nat → Prop} (z1 : Int) (z2 : Int) (z3 : Int) (z4 : Int) (v5 : AV) (h0 : 0 ≤ z4 ∧ z4 < 15) (k1 : ((σ 15 z4) = 0) → am_wp sc 81 108 [.inr (.inl 1), .inl z1, .inl z2, .inl z3, .inl z4, v5] [] σ Q) (k2 : ¬ ((σ 15 z4) = 0) → am_wp sc 81 76 [.inr (.inl 1), .inl z1, .inl z2, .inl z3, .inl z4, v5] [] σ Q) : am_wp sc 81 66 [.inr (.inl 1), .inl z1, .inl z2, .inl z3, .inl z4, v5] [] σ Q := by
  refine am_wn rfl ?_
  refine am_wn rfl ?_
  refine am_wn rfl ?_
  refine ar_bald rfl rfl h0 ?_
  exact ar_br (c := (σ 15 z4) = 0) rfl k1 k2
theorem b_81_76 {sc : Int → Int} {σ : St} {Q : Ou → St → Nat → Prop} (z1 : Int) (z2 : Int) (z3 : Int) (z4 : Int) (v5 : AV) (h0 : 0 ≤ z4 ∧ z4 < 15) (h1 : am_R ((σ 25 z4) + 1)) (h2 : 0 ≤ z3 ∧ z3 < 15) (k1 : ((σ 25 z3) ≤ ((σ 25 z4) + 1)) → am_wp sc 81 108 [.inr (.inl 1), .inl z1, .inl z2, .inl z3, .inl z4, v5] [] σ Q) (k2 : ¬ ((σ 25 z3) ≤ ((σ 25 z4) + 1)) → am_wp sc 81 94 [.inr (.inl 1), .inl z1, .inl z2, .inl z3, .inl z4, v5] [] σ Q) : am_wp sc 81 76 [.inr (.inl 1), .inl z1, .inl z2, .inl z3, .inl z4, v5] [] σ Q := by
  refine am_wn rfl ?_
  refine am_wn rfl ?_
  refine am_wn rfl ?_
  refine ar_iald rfl rfl h0 ?_
  refine am_wn rfl ?_
  refine ar_add rfl h1 ?_
  refine am_wn rfl ?_
  refine am_wn rfl ?_
  refine am_wn rfl ?_
  refine ar_iald rfl rfl h2 ?_
  exact ar_br (c := (σ 25 z3) ≤ ((σ 25 z4) + 1)) rfl k1 k2
theorem b_81_94 {sc : Int → Int} {σ : St} {Q : Ou → St → Nat → Prop} (z1 : Int) (z2 : Int) (z3 : Int) (z4 : Int) (v5 : AV) (k : am_wp sc 53 0 [.inr (.inl 1), .inl z3, .inl z4, .inr (.inr 0), .inr (.inr 0)] [] σ (am_bk sc 81 98 [.inr (.inl 1), .inl z1, .inl z2, .inl z3, .inl z4, v5] [] Q)) : am_wp sc 81 94 [.inr (.inl 1), .inl z1, .inl z2, .inl z3, .inl z4, v5] [] σ Q := by
  refine am_wn rfl ?_
  refine am_wn rfl ?_
  refine am_wn rfl ?_
  exact am_wc rfl (by decide) (by decide) rfl k
theorem b_81_101 {sc : Int → Int} {σ : St} {Q : Ou → St → Nat → Prop} (z1 : Int) (z2 : Int) (z3 : Int) (z4 : Int) (v5 : AV) (s0 : Int) (k1 : (s0 = 0) → am_wp sc 81 108 [.inr (.inl 1), .inl z1, .inl z2, .inl z3, .inl z4, v5] [] σ Q) (k2 : ¬ (s0 = 0) → am_wp sc 81 104 [.inr (.inl 1), .inl z1, .inl z2, .inl z3, .inl z4, v5] [] σ Q) : am_wp sc 81 101 [.inr (.inl 1), .inl z1, .inl z2, .inl z3, .inl z4, v5] [.inl s0] σ Q := by
  exact ar_br (c := s0 = 0) rfl k1 k2
theorem b_81_104 {sc : Int → Int} {σ : St} {Q : Ou → St → Nat → Prop} (z1 : Int) (z2 : Int) (z3 : Int) (z4 : Int) (v5 : AV) (k : am_wp sc 81 109 [.inr (.inl 1), .inl z1, .inl z2, .inl z3, .inl z4, v5] [.inl 1] σ Q) : am_wp sc 81 104 [.inr (.inl 1), .inl z1, .inl z2, .inl z3, .inl z4, v5] [] σ Q := by
  refine am_wn rfl ?_
  refine am_wn rfl ?_
  exact k
theorem b_81_108 {sc : Int → Int} {σ : St} {Q : Ou → St → Nat → Prop} (z1 : Int) (z2 : Int) (z3 : Int) (z4 : Int) (v5 : AV) (k : am_wp sc 81 109 [.inr (.inl 1), .inl z1, .inl z2, .inl z3, .inl z4, v5] [.inl 0] σ Q) : am_wp sc 81 108 [.inr (.inl 1), .inl z1, .inl z2, .inl z3, .inl z4, v5] [] σ Q := by
  refine am_wn rfl ?_
  exact k
theorem b_81_109 {sc : Int → Int} {σ : St} {Q : Ou → St → Nat → Prop} (z1 : Int) (z2 : Int) (z3 : Int) (z4 : Int) (v5 : AV) (s0 : Int) (k1 : (s0 = 0) → am_wp sc 81 133 [.inr (.inl 1), .inl z1, .inl z2, .inl z3, .inl z4, .inl s0] [.inl z3, .inr (.inl 25)] σ Q) (k2 : ¬ (s0 = 0) → am_wp sc 81 121 [.inr (.inl 1), .inl z1, .inl z2, .inl z3, .inl z4, .inl s0] [.inl z3, .inr (.inl 25)] σ Q) : am_wp sc 81 109 [.inr (.inl 1), .inl z1, .inl z2, .inl z3, .inl z4, v5] [.inl s0] σ Q := by
  refine am_wn rfl ?_
  refine am_wn rfl ?_
  refine am_wn rfl ?_
  refine am_wn rfl ?_
  refine am_wn rfl ?_
  exact ar_br (c := s0 = 0) rfl k1 k2
theorem b_81_121 {sc : Int → Int} {σ : St} {Q : Ou → St → Nat → Prop} (z1 : Int) (z2 : Int) (z3 : Int) (z4 : Int) (z5 : Int) (s1 : Int) (h0 : 0 ≤ z4 ∧ z4 < 15) (h1 : am_R ((σ 25 z4) + 1)) (k : am_wp sc 81 139 [.inr (.inl 1), .inl z1, .inl z2, .inl z3, .inl z4, .inl z5] [.inl ((σ 25 z4) + 1), .inl s1, .inr (.inl 25)] σ Q) : am_wp sc 81 121 [.inr (.inl 1), .inl z1, .inl z2, .inl z3, .inl z4, .inl z5] [.inl s1, .inr (.inl 25)] σ Q := by
  refine am_wn rfl ?_
  refine am_wn rfl ?_
  refine am_wn rfl ?_
  refine ar_iald rfl rfl h0 ?_
  refine am_wn rfl ?_
  refine ar_add rfl h1 ?_
  refine am_wn rfl ?_
  exact k
theorem b_81_133 {sc : Int → Int} {σ : St} {Q : Ou → St → Nat → Prop} (z1 : Int) (z2 : Int) (z3 : Int) (z4 : Int) (z5 : Int) (s1 : Int) (h0 : 0 ≤ z3 ∧ z3 < 15) (k : am_wp sc 81 139 [.inr (.inl 1), .inl z1, .inl z2, .inl z3, .inl z4, .inl z5] [.inl (σ 25 z3), .inl s1, .inr (.inl 25)] σ Q) : am_wp sc 81 133 [.inr (.inl 1), .inl z1, .inl z2, .inl z3, .inl z4, .inl z5] [.inl s1, .inr (.inl 25)] σ Q := by
  refine am_wn rfl ?_
  refine am_wn rfl ?_
  refine am_wn rfl ?_
  refine ar_iald rfl rfl h0 ?_
  exact k
theorem b_81_139 {sc : Int → Int} {σ : St} {Q : Ou → St → Nat → Prop} (z1 : Int) (z2 : Int) (z3 : Int) (z4 : Int) (z5 : Int) (s1 : Int) (s2 : Int) (h0 : 0 ≤ s1 ∧ s1 < 15) (h1 : am_R (z4 + 1)) (k : am_wp sc 81 50 [.inr (.inl 1), .inl z1, .inl z2, .inl z3, .inl (z4 + 1), .inl z5] [] (am_up σ 25 s1 s2) Q) : am_wp sc 81 139 [.inr (.inl 1), .inl z1, .inl z2, .inl z3, .inl z4, .inl z5] [.inl s2, .inl s1, .inr (.inl 25)] σ Q := by
  refine ar_iast rfl rfl h0 ?_
  refine ar_inc (L' := [.inr (.inl 1), .inl z1, .inl z2, .inl z3, .inl (z4 + 1), .inl z5]) rfl rfl h1 rfl ?_
  refine am_wn rfl ?_
  exact k
theorem b_81_146 {sc : Int → Int} {σ : St} {Q : Ou → St → Nat → Prop} (z1 : Int) (z2 : Int) (z3 : Int) (z4 : Int) (v5 : AV) (h0 : am_R (z3 + 1)) (k : am_wp sc 81 41 [.inr (.inl 1), .inl z1, .inl z2, .inl (z3 + 1), .inl z4, v5] [] σ Q) : am_wp sc 81 146 [.inr (.inl 1), .inl z1, .inl z2, .inl z3, .inl z4, v5] [] σ Q := by
  refine ar_inc (L' := [.inr (.inl 1), .inl z1, .inl z2, .inl (z3 + 1), .inl z4, v5]) rfl rfl h0 rfl ?_
  refine am_wn rfl ?_
  exact k
theorem b_81_152 {sc : Int → Int} {σ : St} {Q : Ou → St → Nat → Prop} (z1 : Int) (z2 : Int) (z3 : Int) (v4 : AV) (v5 : AV) (h0 : am_R (z2 + 1)) (k : am_wp sc 81 33 [.inr (.inl 1), .inl z1, .inl (z2 + 1), .inl z3, v4, v5] [] σ Q) : am_wp sc 81 152 [.inr (.inl 1), .inl z1, .inl z2, .inl z3, v4, v5] [] σ Q := by
  refine ar_inc (L' := [.inr (.inl 1), .inl z1, .inl (z2 + 1), .inl z3, v4, v5]) rfl rfl h0 rfl ?_
  refine am_wn rfl ?_
  exact k
theorem b_81_158 {sc : Int → Int} {σ : St} {Q : Ou → St → Nat → Prop} (z1 : Int) (z2 : Int) (v3 : AV) (v4 : AV) (v5 : AV) (k : Q (.inl none) σ 0) : am_wp sc 81 158 [.inr (.inl 1), .inl z1, .inl z2, v3, v4, v5] [] σ Q := by
  exact am_w62 rfl k
/-! SlidingHeapModel.firstOf -/
theorem b_82_0 {sc : Int → Int} {σ : St} {Q : Ou → St → Nat → Prop} (z1 : Int) (v2 : AV) (v3 : AV) (v4 : AV) (k : am_wp sc 81 0 [.inr (.inl 1), .inl z1, .inr (.inr 0), .inr (.inr 0), .inr (.inr 0), .inr (.inr 0)] [] σ (am_bk sc 82 2 [.inr (.inl 1), .inl z1, v2, v3, v4] [] Q)) : am_wp sc 82 0 [.inr (.inl 1), .inl z1, v2, v3, v4] [] σ Q := by
  refine am_wn rfl ?_
  refine am_wn rfl ?_
  exact am_wc rfl (by decide) (by decide) rfl k
theorem b_82_5 {sc : Int → Int} {σ : St} {Q : Ou → St → Nat → Prop} (z1 : Int) (v2 : AV) (v3 : AV) (v4 : AV) (k : am_wp sc 82 10 [.inr (.inl 1), .inl z1, .inl 0, .inl 14, v4] [] σ Q) : am_wp sc 82 5 [.inr (.inl 1), .inl z1, v2, v3, v4] [] σ Q := by
  refine am_wn rfl ?_
  refine am_wn rfl ?_
  refine am_wn rfl ?_
  refine am_wn rfl ?_
  exact k
theorem b_82_10 {sc : Int → Int} {σ : St} {Q : Ou → St → Nat → Prop} (z1 : Int) (z2 : Int) (z3 : Int) (v4 : AV) (k1 : (z3 ≤ 0) → am_wp sc 82 85 [.inr (.inl 1), .inl z1, .inl z2, .inl z3, v4] [] σ Q) (k2 : ¬ (z3 ≤ 0) → am_wp sc 82 14 [.inr (.inl 1), .inl z1, .inl z2, .inl z3, v4] [] σ Q) : am_wp sc 82 10 [.inr (.inl 1), .inl z1, .inl z2, .inl z3, v4] [] σ Q := by
  refine am_wn rfl ?_
  exact ar_br (c := z3 ≤ 0) rfl k1 k2
theorem b_82_14 {sc : Int → Int} {σ : St} {Q : Ou → St → Nat → Prop} (z1 : Int) (z2 : Int) (z3 : Int) (v4 : AV) (h0 : 0 ≤ z3 ∧ z3 < 15) (k1 : ((σ 15 z3) = 0) → am_wp sc 82 46 [.inr (.inl 1), .inl z1, .inl z2, .inl z3, v4] [] σ Q) (k2 : ¬ ((σ 15 z3) = 0) → am_wp sc 82 23 [.inr (.inl 1), .inl z1, .inl z2, .inl z3, v4] [] σ Q) : am_wp sc 82 14 [.inr (.inl 1), .inl z1, .inl z2, .inl z3, v4] [] σ Q := by
  refine am_wn rfl ?_
  refine am_wn rfl ?_
  refine am_wn rfl ?_
  refine ar_bald rfl rfl h0 ?_
  exact ar_br (c := (σ 15 z3) = 0) rfl k1 k2
theorem b_82_23 {sc : Int → Int} {σ : St} {Q : Ou → St → Nat → Prop} (z1 : Int) (z2 : Int) (z3 : Int) (v4 : AV) (k : am_wp sc 52 0 [.inr (.inl 1), .inl z3, .inr (.inr 0), .inr (.inr 0)] [] σ (am_bk sc 82 25 [.inr (.inl 1), .inl z1, .inl z2, .inl z3, v4] [] Q)) : am_wp sc 82 23 [.inr (.inl 1), .inl z1, .inl z2, .inl z3, v4] [] σ Q := by
  refine am_wn rfl ?_
  refine am_wn rfl ?_
  exact am_wc rfl (by decide) (by decide) rfl k
theorem b_82_28 {sc : Int → Int} {σ : St} {Q : Ou → St → Nat → Prop} (z1 : Int) (z2 : Int) (z3 : Int) (v4 : AV) (s0 : Int) (k1 : (s0 = 0) → am_wp sc 82 46 [.inr (.inl 1), .inl z1, .inl z2, .inl z3, v4] [] σ Q) (k2 : ¬ (s0 = 0) → am_wp sc 82 31 [.inr (.inl 1), .inl z1, .inl z2, .inl z3, v4] [] σ Q) : am_wp sc 82 28 [.inr (.inl 1), .inl z1, .inl z2, .inl z3, v4] [.inl s0] σ Q := by
  exact ar_br (c := s0 = 0) rfl k1 k2
theorem b_82_31 {sc : Int → Int} {σ : St} {Q : Ou → St → Nat → Prop} (z1 : Int) (z2 : Int) (z3 : Int) (v4 : AV) (h0 : 0 ≤ z3 ∧ z3 < 15) (k1 : (99 ≤ (σ 25 z3)) → am_wp sc 82 46 [.inr (.inl 1), .inl z1, .inl z2, .inl z3, v4] [] σ Q) (k2 : ¬ (99 ≤ (σ 25 z3)) → am_wp sc 82 42 [.inr (.inl 1), .inl z1, .inl z2, .inl z3, v4] [] σ Q) : am_wp sc 82 31 [.inr (.inl 1), .inl z1, .inl z2, .inl z3, v4] [] σ Q := by
  refine am_wn rfl ?_
  refine am_wn rfl ?_
  refine am_wn rfl ?_
  refine ar_iald rfl rfl h0 ?_
  refine am_wn rfl ?_
  exact ar_br (c := 99 ≤ (σ 25 z3)) rfl k1 k2
theorem b_82_42 {sc : Int → Int} {σ : St} {Q : Ou → St → Nat → Prop} (z1 : Int) (z2 : Int) (z3 : Int) (v4 : AV) (k : am_wp sc 82 47 [.inr (.inl 1), .inl z1, .inl z2, .inl z3, v4] [.inl 1] σ Q) : am_wp sc 82 42 [.inr (.inl 1), .inl z1, .inl z2, .inl z3, v4] [] σ Q := by
  refine am_wn rfl ?_
  refine am_wn rfl ?_
  exact k
theorem b_82_46 {sc : Int → Int} {σ : St} {Q : Ou → St → Nat → Prop} (z1 : Int) (z2 : Int) (z3 : Int) (v4 : AV) (k : am_wp sc 82 47 [.inr (.inl 1), .inl z1, .inl z2, .inl z3, v4] [.inl 0] σ Q) : am_wp sc 82 46 [.inr (.inl 1), .inl z1, .inl z2, .inl z3, v4] [] σ Q := by
  refine am_wn rfl ?_
  exact k
theorem b_82_47 {sc : Int → Int} {σ : St} {Q : Ou → St → Nat → Prop} (z1 : Int) (z2 : Int) (z3 : Int) (v4 : AV) (s0 : Int) (k1 : (s0 = 0) → am_wp sc 82 77 [.inr (.inl 1), .inl z1, .inl z2, .inl z3, .inl s0] [] σ Q) (k2 : ¬ (s0 = 0) → am_wp sc 82 54 [.inr (.inl 1), .inl z1, .inl z2, .inl z3, .inl s0] [] σ Q) : am_wp sc 82 47 [.inr (.inl 1), .inl z1, .inl z2, .inl z3, v4] [.inl s0] σ Q := by
  refine am_wn rfl ?_
  refine am_wn rfl ?_
  exact ar_br (c := s0 = 0) rfl k1 k2
theorem b_82_54 {sc : Int → Int} {σ : St} {Q : Ou → St → Nat → Prop} (z1 : Int) (z2 : Int) (z3 : Int) (z4 : Int) (k1 : (z2 = 0) → am_wp sc 82 73 [.inr (.inl 1), .inl z1, .inl z2, .inl z3, .inl z4] [] σ Q) (k2 : ¬ (z2 = 0) → am_wp sc 82 58 [.inr (.inl 1), .inl z1, .inl z2, .inl z3, .inl z4] [] σ Q) : am_wp sc 82 54 [.inr (.inl 1), .inl z1, .inl z2, .inl z3, .inl z4] [] σ Q := by
  refine am_wn rfl ?_
  exact ar_br (c := z2 = 0) rfl k1 k2
theorem b_82_58 {sc : Int → Int} {σ : St} {Q : Ou → St → Nat → Prop} (z1 : Int) (z2 : Int) (z3 : Int) (z4 : Int) (h0 : 0 ≤ z3 ∧ z3 < 15) (h1 : 0 ≤ z2 ∧ z2 < 15) (k1 : ((σ 25 z2) < (σ 25 z3)) → am_wp sc 82 77 [.inr (.inl 1), .inl z1, .inl z2, .inl z3, .inl z4] [] σ Q) (k2 : ¬ ((σ 25 z2) < (σ 25 z3)) → am_wp sc 82 73 [.inr (.inl 1), .inl z1, .inl z2, .inl z3, .inl z4] [] σ Q) : am_wp sc 82 58 [.inr (.inl 1), .inl z1, .inl z2, .inl z3, .inl z4] [] σ Q := by
  refine am_wn rfl ?_
  refine am_wn rfl ?_
  refine am_wn rfl ?_
  refine ar_iald rfl rfl h0 ?_
  refine am_wn rfl ?_
  refine am_wn rfl ?_
  refine am_wn rfl ?_
  refine ar_iald rfl rfl h1 ?_
  exact ar_br (c := (σ 25 z2) < (σ 25 z3)) rfl k1 k2
theorem b_82_73 {sc : Int → Int} {σ : St} {Q : Ou → St → Nat → Prop} (z1 : Int) (z2 : Int) (z3 : Int) (z4 : Int) (k : am_wp sc 82 78 [.inr (.inl 1), .inl z1, .inl z2, .inl z3, .inl z4] [.inl z3] σ Q) : am_wp sc 82 73 [.inr (.inl 1), .inl z1, .inl z2, .inl z3, .inl z4] [] σ Q := by
  refine am_wn rfl ?_
  refine am_wn rfl ?_
  exact k
theorem b_82_77 {sc : Int → Int} {σ : St} {Q : Ou → St → Nat → Prop} (z1 : Int) (z2 : Int) (z3 : Int) (z4 : Int) (k : am_wp sc 82 78 [.inr (.inl 1), .inl z1, .inl z2, .inl z3, .inl z4] [.inl z2] σ Q) : am_wp sc 82 77 [.inr (.inl 1), .inl z1, .inl z2, .inl z3, .inl z4] [] σ Q := by
  refine am_wn rfl ?_
  exact k
theorem b_82_78 {sc : Int → Int} {σ : St} {Q : Ou → St → Nat → Prop} (z1 : Int) (z2 : Int) (z3 : Int) (z4 : Int) (s0 : Int) (h0 : am_R (z3 + (-1))) (k : am_wp sc 82 10 [.inr (.inl 1), .inl z1, .inl s0, .inl (z3 + (-1)), .inl z4] [] σ Q) : am_wp sc 82 78 [.inr (.inl 1), .inl z1, .inl z2, .inl z3, .inl z4] [.inl s0] σ Q := by
  refine am_wn rfl ?_
  refine ar_inc (L' := [.inr (.inl 1), .inl z1, .inl s0, .inl (z3 + (-1)), .inl z4]) rfl rfl h0 rfl ?_
  refine am_wn rfl ?_
  exact k
theorem b_82_85 {sc : Int → Int} {σ : St} {Q : Ou → St → Nat → Prop} (z1 : Int) (z2 : Int) (z3 : Int) (v4 : AV) (k : Q (.inl (some z2)) σ 0) : am_wp sc 82 85 [.inr (.inl 1), .inl z1, .inl z2, .inl z3, v4] [] σ Q := by
  refine am_wn rfl ?_
  exact am_w60 rfl k
/-! SlidingHeapModel.far -/
theorem b_83_0 {sc : Int → Int} {σ : St} {Q : Ou → St → Nat → Prop} (z1 : Int) (v2 : AV) (k : am_wp sc 50 0 [.inr (.inl 1), .inl z1] [] σ (am_bk sc 83 3 [.inr (.inl 1), .inl z1, v2] [.inr (.inl 1)] Q)) : am_wp sc 83 0 [.inr (.inl 1), .inl z1, v2] [] σ Q := by
  refine am_wn rfl ?_
  refine am_wn rfl ?_
  refine am_wn rfl ?_
  exact am_wc rfl (by decide) (by decide) rfl k
theorem b_83_6 {sc : Int → Int} {σ : St} {Q : Ou → St → Nat → Prop} (z1 : Int) (v2 : AV) (s1 : Int) (k1 : (s1 = 0) → am_wp sc 83 13 [.inr (.inl 1), .inl z1, v2] [.inr (.inl 1)] σ Q) (k2 : ¬ (s1 = 0) → am_wp sc 83 9 [.inr (.inl 1), .inl z1, v2] [.inr (.inl 1)] σ Q) : am_wp sc 83 6 [.inr (.inl 1), .inl z1, v2] [.inl s1, .inr (.inl 1)] σ Q := by
  exact ar_br (c := s1 = 0) rfl k1 k2
theorem b_83_9 {sc : Int → Int} {σ : St} {Q : Ou → St → Nat → Prop} (z1 : Int) (v2 : AV) (k : am_wp sc 83 14 [.inr (.inl 1), .inl z1, v2] [.inl 0, .inr (.inl 1)] σ Q) : am_wp sc 83 9 [.inr (.inl 1), .inl z1, v2] [.inr (.inl 1)] σ Q := by
  refine am_wn rfl ?_
  refine am_wn rfl ?_
  exact k
theorem b_83_13 {sc : Int → Int} {σ : St} {Q : Ou → St → Nat → Prop} (z1 : Int) (v2 : AV) (k : am_wp sc 83 14 [.inr (.inl 1), .inl z1, v2] [.inl 1, .inr (.inl 1)] σ Q) : am_wp sc 83 13 [.inr (.inl 1), .inl z1, v2] [.inr (.inl 1)] σ Q := by
  refine am_wn rfl ?_
  exact k
theorem b_83_14 {sc : Int → Int} {σ : St} {Q : Ou → St → Nat → Prop} (z1 : Int) (v2 : AV) (s1 : Int) (k : am_wp sc 49 0 [.inr (.inl 1), .inl s1] [] σ (am_bk sc 83 14 [.inr (.inl 1), .inl z1, v2] [] Q)) : am_wp sc 83 14 [.inr (.inl 1), .inl z1, v2] [.inl s1, .inr (.inl 1)] σ Q := by
  exact am_wc rfl (by decide) (by decide) rfl k
theorem b_83_17 {sc : Int → Int} {σ : St} {Q : Ou → St → Nat → Prop} (z1 : Int) (v2 : AV) (s0 : Int) (k1 : (s0 = 0) → am_wp sc 83 22 [.inr (.inl 1), .inl z1, v2] [] σ Q) (k2 : ¬ (s0 = 0) → am_wp sc 83 20 [.inr (.inl 1), .inl z1, v2] [] σ Q) : am_wp sc 83 17 [.inr (.inl 1), .inl z1, v2] [.inl s0] σ Q := by
  exact ar_br (c := s0 = 0) rfl k1 k2
theorem b_83_20 {sc : Int → Int} {σ : St} {Q : Ou → St → Nat → Prop} (z1 : Int) (v2 : AV) (k : Q (.inl (some 0)) σ 0) : am_wp sc 83 20 [.inr (.inl 1), .inl z1, v2] [] σ Q := by
  refine am_wn rfl ?_
  exact am_w60 rfl k
theorem b_83_22 {sc : Int → Int} {σ : St} {Q : Ou → St → Nat → Prop} (z1 : Int) (v2 : AV) (k : am_wp sc 82 0 [.inr (.inl 1), .inl z1, .inr (.inr 0), .inr (.inr 0), .inr (.inr 0)] [] σ (am_bk sc 83 24 [.inr (.inl 1), .inl z1, v2] [] Q)) : am_wp sc 83 22 [.inr (.inl 1), .inl z1, v2] [] σ Q := by
  refine am_wn rfl ?_
  refine am_wn rfl ?_
  exact am_wc rfl (by decide) (by decide) rfl k
theorem b_83_27 {sc : Int → Int} {σ : St} {Q : Ou → St → Nat → Prop} (z1 : Int) (v2 : AV) (s0 : Int) (k1 : (s0 ≠ 0) → am_wp sc 83 36 [.inr (.inl 1), .inl z1, .inl s0] [] σ Q) (k2 : ¬ (s0 ≠ 0) → am_wp sc 83 32 [.inr (.inl 1), .inl z1, .inl s0] [] σ Q) : am_wp sc 83 27 [.inr (.inl 1), .inl z1, v2] [.inl s0] σ Q := by
  refine am_wn rfl ?_
  refine am_wn rfl ?_
  exact ar_br (c := s0 ≠ 0) rfl k1 k2
theorem b_83_32 {sc : Int → Int} {σ : St} {Q : Ou → St → Nat → Prop} (z1 : Int) (z2 : Int) (k : am_wp sc 83 42 [.inr (.inl 1), .inl z1, .inl z2] [.inl (-1)] σ Q) : am_wp sc 83 32 [.inr (.inl 1), .inl z1, .inl z2] [] σ Q := by
  refine am_wn rfl ?_
  refine am_wn rfl ?_
  exact k
theorem b_83_36 {sc : Int → Int} {σ : St} {Q : Ou → St → Nat → Prop} (z1 : Int) (z2 : Int) (h0 : 0 ≤ z2 ∧ z2 < 15) (k : am_wp sc 83 42 [.inr (.inl 1), .inl z1, .inl z2] [.inl (σ 25 z2)] σ Q) : am_wp sc 83 36 [.inr (.inl 1), .inl z1, .inl z2] [] σ Q := by
  refine am_wn rfl ?_
  refine am_wn rfl ?_
  refine am_wn rfl ?_
  refine ar_iald rfl rfl h0 ?_
  exact k
theorem b_83_42 {sc : Int → Int} {σ : St} {Q : Ou → St → Nat → Prop} (z1 : Int) (z2 : Int) (s0 : Int) (k : Q (.inl (some s0)) σ 0) : am_wp sc 83 42 [.inr (.inl 1), .inl z1, .inl z2] [.inl s0] σ Q := by
  exact am_w60 rfl k
/-! SlidingHeapModel.way -/
theorem b_84_0 {sc : Int → Int} {σ : St} {Q : Ou → St → Nat → Prop} (z1 : Int) (z2 : Int) (v3 : AV) (v4 : AV) (v5 : AV) (v6 : AV) (k : am_wp sc 50 0 [.inr (.inl 1), .inl z1] [] σ (am_bk sc 84 3 [.inr (.inl 1), .inl z1, .inl z2, v3, v4, v5, v6] [.inr (.inl 1)] Q)) : am_wp sc 84 0 [.inr (.inl 1), .inl z1, .inl z2, v3, v4, v5, v6] [] σ Q := by
  refine am_wn rfl ?_
  refine am_wn rfl ?_
  refine am_wn rfl ?_
  exact am_wc rfl (by decide) (by decide) rfl k
theorem b_84_6 {sc : Int → Int} {σ : St} {Q : Ou → St → Nat → Prop} (z1 : Int) (z2 : Int) (v3 : AV) (v4 : AV) (v5 : AV) (v6 : AV) (s1 : Int) (k1 : (s1 = 0) → am_wp sc 84 13 [.inr (.inl 1), .inl z1, .inl z2, v3, v4, v5, v6] [.inr (.inl 1)] σ Q) (k2 : ¬ (s1 = 0) → am_wp sc 84 9 [.inr (.inl 1), .inl z1, .inl z2, v3, v4, v5, v6] [.inr (.inl 1)] σ Q) : am_wp sc 84 6 [.inr (.inl 1), .inl z1, .inl z2, v3, v4, v5, v6] [.inl s1, .inr (.inl 1)] σ Q := by
  exact ar_br (c := s1 = 0) rfl k1 k2
theorem b_84_9 {sc : Int → Int} {σ : St} {Q : Ou → St → Nat → Prop} (z1 : Int) (z2 : Int) (v3 : AV) (v4 : AV) (v5 : AV) (v6 : AV) (k : am_wp sc 84 14 [.inr (.inl 1), .inl z1, .inl z2, v3, v4, v5, v6] [.inl 0, .inr (.inl 1)] σ Q) : am_wp sc 84 9 [.inr (.inl 1), .inl z1, .inl z2, v3, v4, v5, v6] [.inr (.inl 1)] σ Q := by
  refine am_wn rfl ?_
  refine am_wn rfl ?_
  exact k
theorem b_84_13 {sc : Int → Int} {σ : St} {Q : Ou → St → Nat → Prop} (z1 : Int) (z2 : Int) (v3 : AV) (v4 : AV) (v5 : AV) (v6 : AV) (k : am_wp sc 84 14 [.inr (.inl 1), .inl z1, .inl z2, v3, v4, v5, v6] [.inl 1, .inr (.inl 1)] σ Q) : am_wp sc 84 13 [.inr (.inl 1), .inl z1, .inl z2, v3, v4, v5, v6] [.inr (.inl 1)] σ Q := by
  refine am_wn rfl ?_
  exact k
theorem b_84_14 {sc : Int → Int} {σ : St} {Q : Ou → St → Nat → Prop} (z1 : Int) (z2 : Int) (v3 : AV) (v4 : AV) (v5 : AV) (v6 : AV) (s1 : Int) (k : am_wp sc 49 0 [.inr (.inl 1), .inl s1] [] σ (am_bk sc 84 14 [.inr (.inl 1), .inl z1, .inl z2, v3, v4, v5, v6] [] Q)) : am_wp sc 84 14 [.inr (.inl 1), .inl z1, .inl z2, v3, v4, v5, v6] [.inl s1, .inr (.inl 1)] σ Q := by
  exact am_wc rfl (by decide) (by decide) rfl k
theorem b_84_17 {sc : Int → Int} {σ : St} {Q : Ou → St → Nat → Prop} (z1 : Int) (z2 : Int) (v3 : AV) (v4 : AV) (v5 : AV) (v6 : AV) (s0 : Int) (k1 : (s0 = 0) → am_wp sc 84 22 [.inr (.inl 1), .inl z1, .inl z2, v3, v4, v5, v6] [] σ Q) (k2 : ¬ (s0 = 0) → am_wp sc 84 20 [.inr (.inl 1), .inl z1, .inl z2, v3, v4, v5, v6] [] σ Q) : am_wp sc 84 17 [.inr (.inl 1), .inl z1, .inl z2, v3, v4, v5, v6] [.inl s0] σ Q := by
  exact ar_br (c := s0 = 0) rfl k1 k2
theorem b_84_20 {sc : Int → Int} {σ : St} {Q : Ou → St → Nat → Prop} (z1 : Int) (z2 : Int) (v3 : AV) (v4 : AV) (v5 : AV) (v6 : AV) (k : Q (.inl (some 0)) σ 0) : am_wp sc 84 20 [.inr (.inl 1), .inl z1, .inl z2, v3, v4, v5, v6] [] σ Q := by
  refine am_wn rfl ?_
  exact am_w60 rfl k
theorem b_84_22 {sc : Int → Int} {σ : St} {Q : Ou → St → Nat → Prop} (z1 : Int) (z2 : Int) (v3 : AV) (v4 : AV) (v5 : AV) (v6 : AV) (k : am_wp sc 82 0 [.inr (.inl 1), .inl z1, .inr (.inr 0), .inr (.inr 0), .inr (.inr 0)] [] σ (am_bk sc 84 24 [.inr (.inl 1), .inl z1, .inl z2, v3, v4, v5, v6] [] Q)) : am_wp sc 84 22 [.inr (.inl 1), .inl z1, .inl z2, v3, v4, v5, v6] [] σ Q := by
  refine am_wn rfl ?_
  refine am_wn rfl ?_
  exact am_wc rfl (by decide) (by decide) rfl k
theorem b_84_27 {sc : Int → Int} {σ : St} {Q : Ou → St → Nat → Prop} (z1 : Int) (z2 : Int) (v3 : AV) (v4 : AV) (v5 : AV) (v6 : AV) (s0 : Int) (k1 : (s0 = 0) → am_wp sc 84 46 [.inr (.inl 1), .inl z1, .inl z2, .inl s0, v4, v5, v6] [] σ Q) (k2 : ¬ (s0 = 0) → am_wp sc 84 32 [.inr (.inl 1), .inl z1, .inl z2, .inl s0, v4, v5, v6] [] σ Q) : am_wp sc 84 27 [.inr (.inl 1), .inl z1, .inl z2, v3, v4, v5, v6] [.inl s0] σ Q := by
  refine am_wn rfl ?_
  refine am_wn rfl ?_
  exact ar_br (c := s0 = 0) rfl k1 k2
theorem b_84_32 {sc : Int → Int} {σ : St} {Q : Ou → St → Nat → Prop} (z1 : Int) (z2 : Int) (z3 : Int) (v4 : AV) (v5 : AV) (v6 : AV) (k1 : (z2 < 0) → am_wp sc 84 46 [.inr (.inl 1), .inl z1, .inl z2, .inl z3, v4, v5, v6] [] σ Q) (k2 : ¬ (z2 < 0) → am_wp sc 84 36 [.inr (.inl 1), .inl z1, .inl z2, .inl z3, v4, v5, v6] [] σ Q) : am_wp sc 84 32 [.inr (.inl 1), .inl z1, .inl z2, .inl z3, v4, v5, v6] [] σ Q := by
  refine am_wn rfl ?_
  exact ar_br (c := z2 < 0) rfl k1 k2
theorem b_84_36 {sc : Int → Int} {σ : St} {Q : Ou → St → Nat → Prop} (z1 : Int) (z2 : Int) (z3 : Int) (v4 : AV) (v5 : AV) (v6 : AV) (h0 : 0 ≤ z3 ∧ z3 < 15) (k1 : (z2 ≤ (σ 25 z3)) → am_wp sc 84 48 [.inr (.inl 1), .inl z1, .inl z2, .inl z3, v4, v5, v6] [] σ Q) (k2 : ¬ (z2 ≤ (σ 25 z3)) → am_wp sc 84 46 [.inr (.inl 1), .inl z1, .inl z2, .inl z3, v4, v5, v6] [] σ Q) : am_wp sc 84 36 [.inr (.inl 1), .inl z1, .inl z2, .inl z3, v4, v5, v6] [] σ Q := by
  refine am_wn rfl ?_
  refine am_wn rfl ?_
  refine am_wn rfl ?_
  refine am_wn rfl ?_
  refine ar_iald rfl rfl h0 ?_
  exact ar_br (c := z2 ≤ (σ 25 z3)) rfl k1 k2
theorem b_84_46 {sc : Int → Int} {σ : St} {Q : Ou → St → Nat → Prop} (z1 : Int) (z2 : Int) (z3 : Int) (v4 : AV) (v5 : AV) (v6 : AV) (k : Q (.inl (some (-1))) σ 0) : am_wp sc 84 46 [.inr (.inl 1), .inl z1, .inl z2, .inl z3, v4, v5, v6] [] σ Q := by
  refine am_wn rfl ?_
  exact am_w60 rfl k
theorem b_84_48 {sc : Int → Int} {σ : St} {Q : Ou → St → Nat → Prop} (z1 : Int) (z2 : Int) (z3 : Int) (v4 : AV) (v5 : AV) (v6 : AV) (k : am_wp sc 84 51 [.inr (.inl 1), .inl z1, .inl z2, .inl z3, .inl 0, v5, v6] [] σ Q) : am_wp sc 84 48 [.inr (.inl 1), .inl z1, .inl z2, .inl z3, v4, v5, v6] [] σ Q := by
  refine am_wn rfl ?_
  refine am_wn rfl ?_
  exact k
theorem b_84_51 {sc : Int → Int} {σ : St} {Q : Ou → St → Nat → Prop} (z1 : Int) (z2 : Int) (z3 : Int) (z4 : Int) (v5 : AV) (v6 : AV) (k1 : (z2 ≤ z4) → am_wp sc 84 131 [.inr (.inl 1), .inl z1, .inl z2, .inl z3, .inl z4, v5, v6] [] σ Q) (k2 : ¬ (z2 ≤ z4) → am_wp sc 84 57 [.inr (.inl 1), .inl z1, .inl z2, .inl z3, .inl z4, v5, v6] [] σ Q) : am_wp sc 84 51 [.inr (.inl 1), .inl z1, .inl z2, .inl z3, .inl z4, v5, v6] [] σ Q := by
  refine am_wn rfl ?_
  refine am_wn rfl ?_
  exact ar_br (c := z2 ≤ z4) rfl k1 k2
theorem b_84_57 {sc : Int → Int} {σ : St} {Q : Ou → St → Nat → Prop} (z1 : Int) (z2 : Int) (z3 : Int) (z4 : Int) (v5 : AV) (v6 : AV) (k : am_wp sc 84 64 [.inr (.inl 1), .inl z1, .inl z2, .inl z3, .inl z4, .inl 0, .inl 14] [] σ Q) : am_wp sc 84 57 [.inr (.inl 1), .inl z1, .inl z2, .inl z3, .inl z4, v5, v6] [] σ Q := by
  refine am_wn rfl ?_
  refine am_wn rfl ?_
  refine am_wn rfl ?_
  refine am_wn rfl ?_
  exact k
theorem b_84_64 {sc : Int → Int} {σ : St} {Q : Ou → St → Nat → Prop} (z1 : Int) (z2 : Int) (z3 : Int) (z4 : Int) (z5 : Int) (z6 : Int) (k1 : (z6 ≤ 0) → am_wp sc 84 122 [.inr (.inl 1), .inl z1, .inl z2, .inl z3, .inl z4, .inl z5, .inl z6] [] σ Q) (k2 : ¬ (z6 ≤ 0) → am_wp sc 84 69 [.inr (.inl 1), .inl z1, .inl z2, .inl z3, .inl z4, .inl z5, .inl z6] [] σ Q) : am_wp sc 84 64 [.inr (.inl 1), .inl z1, .inl z2, .inl z3, .inl z4, .inl z5, .inl z6] [] σ Q := by
  refine am_wn rfl ?_
  exact ar_br (c := z6 ≤ 0) rfl k1 k2
theorem b_84_69 {sc : Int → Int} {σ : St} {Q : Ou → St → Nat → Prop} (z1 : Int) (z2 : Int) (z3 : Int) (z4 : Int) (z5 : Int) (z6 : Int) (h0 : 0 ≤ z6 ∧ z6 < 15) (k1 : ((σ 15 z6) = 0) → am_wp sc 84 112 [.inr (.inl 1), .inl z1, .inl z2, .inl z3, .inl z4, .inl z5, .inl z6] [] σ Q) (k2 : ¬ ((σ 15 z6) = 0) → am_wp sc 84 79 [.inr (.inl 1), .inl z1, .inl z2, .inl z3, .inl z4, .inl z5, .inl z6] [] σ Q) : am_wp sc 84 69 [.inr (.inl 1), .inl z1, .inl z2, .inl z3, .inl z4, .inl z5, .inl z6] [] σ Q := by
  refine am_wn rfl ?_
  refine am_wn rfl ?_
  refine am_wn rfl ?_
  refine ar_bald rfl rfl h0 ?_
  exact ar_br (c := (σ 15 z6) = 0) rfl k1 k2
theorem b_84_79 {sc : Int → Int} {σ : St} {Q : Ou → St → Nat → Prop} (z1 : Int) (z2 : Int) (z3 : Int) (z4 : Int) (z5 : Int) (z6 : Int) (h0 : 0 ≤ z6 ∧ z6 < 15) (h1 : 0 ≤ z3 ∧ z3 < 15) (h2 : am_R ((σ 25 z3) - 1)) (k1 : ((σ 25 z6) ≠ ((σ 25 z3) - 1)) → am_wp sc 84 112 [.inr (.inl 1), .inl z1, .inl z2, .inl z3, .inl z4, .inl z5, .inl z6] [] σ Q) (k2 : ¬ ((σ 25 z6) ≠ ((σ 25 z3) - 1)) → am_wp sc 84 97 [.inr (.inl 1), .inl z1, .inl z2, .inl z3, .inl z4, .inl z5, .inl z6] [] σ Q) : am_wp sc 84 79 [.inr (.inl 1), .inl z1, .inl z2, .inl z3, .inl z4, .inl z5, .inl z6] [] σ Q := by
  refine am_wn rfl ?_
  refine am_wn rfl ?_
  refine am_wn rfl ?_
  refine ar_iald rfl rfl h0 ?_
  refine am_wn rfl ?_
  refine am_wn rfl ?_
  refine am_wn rfl ?_
  refine ar_iald rfl rfl h1 ?_
  refine am_wn rfl ?_
  refine ar_sub rfl h2 ?_
  exact ar_br (c := (σ 25 z6) ≠ ((σ 25 z3) - 1)) rfl k1 k2
theorem b_84_97 {sc : Int → Int} {σ : St} {Q : Ou → St → Nat → Prop} (z1 : Int) (z2 : Int) (z3 : Int) (z4 : Int) (z5 : Int) (z6 : Int) (k : am_wp sc 53 0 [.inr (.inl 1), .inl z3, .inl z6, .inr (.inr 0), .inr (.inr 0)] [] σ (am_bk sc 84 101 [.inr (.inl 1), .inl z1, .inl z2, .inl z3, .inl z4, .inl z5, .inl z6] [] Q)) : am_wp sc 84 97 [.inr (.inl 1), .inl z1, .inl z2, .inl z3, .inl z4, .inl z5, .inl z6] [] σ Q := by
  refine am_wn rfl ?_
  refine am_wn rfl ?_
  refine am_wn rfl ?_
  exact am_wc rfl (by decide) (by decide) rfl k
theorem b_84_104 {sc : Int → Int} {σ : St} {Q : Ou → St → Nat → Prop} (z1 : Int) (z2 : Int) (z3 : Int) (z4 : Int) (z5 : Int) (z6 : Int) (s0 : Int) (k1 : (s0 = 0) → am_wp sc 84 112 [.inr (.inl 1), .inl z1, .inl z2, .inl z3, .inl z4, .inl z5, .inl z6] [] σ Q) (k2 : ¬ (s0 = 0) → am_wp sc 84 107 [.inr (.inl 1), .inl z1, .inl z2, .inl z3, .inl z4, .inl z5, .inl z6] [] σ Q) : am_wp sc 84 104 [.inr (.inl 1), .inl z1, .inl z2, .inl z3, .inl z4, .inl z5, .inl z6] [.inl s0] σ Q := by
  exact ar_br (c := s0 = 0) rfl k1 k2
theorem b_84_107 {sc : Int → Int} {σ : St} {Q : Ou → St → Nat → Prop} (z1 : Int) (z2 : Int) (z3 : Int) (z4 : Int) (z5 : Int) (z6 : Int) (k : am_wp sc 84 114 [.inr (.inl 1), .inl z1, .inl z2, .inl z3, .inl z4, .inl z5, .inl z6] [.inl z6] σ Q) : am_wp sc 84 107 [.inr (.inl 1), .inl z1, .inl z2, .inl z3, .inl z4, .inl z5, .inl z6] [] σ Q := by
  refine am_wn rfl ?_
  refine am_wn rfl ?_
  exact k
theorem b_84_112 {sc : Int → Int} {σ : St} {Q : Ou → St → Nat → Prop} (z1 : Int) (z2 : Int) (z3 : Int) (z4 : Int) (z5 : Int) (z6 : Int) (k : am_wp sc 84 114 [.inr (.inl 1), .inl z1, .inl z2, .inl z3, .inl z4, .inl z5, .inl z6] [.inl z5] σ Q) : am_wp sc 84 112 [.inr (.inl 1), .inl z1, .inl z2, .inl z3, .inl z4, .inl z5, .inl z6] [] σ Q := by
  refine am_wn rfl ?_
  exact k
theorem b_84_114 {sc : Int → Int} {σ : St} {Q : Ou → St → Nat → Prop} (z1 : Int) (z2 : Int) (z3 : Int) (z4 : Int) (z5 : Int) (z6 : Int) (s0 : Int) (h0 : am_R (z6 + (-1))) (k : am_wp sc 84 64 [.inr (.inl 1), .inl z1, .inl z2, .inl z3, .inl z4, .inl s0, .inl (z6 + (-1))] [] σ Q) : am_wp sc 84 114 [.inr (.inl 1), .inl z1, .inl z2, .inl z3, .inl z4, .inl z5, .inl z6] [.inl s0] σ Q := by
  refine am_wn rfl ?_
  refine ar_inc (L' := [.inr (.inl 1), .inl z1, .inl z2, .inl z3, .inl z4, .inl s0, .inl (z6 + (-1))]) rfl rfl h0 rfl ?_
  refine am_wn rfl ?_
  exact k
theorem b_84_122 {sc : Int → Int} {σ : St} {Q : Ou → St → Nat → Prop} (z1 : Int) (z2 : Int) (z3 : Int) (z4 : Int) (z5 : Int) (z6 : Int) (h0 : am_R (z4 + 1)) (k : am_wp sc 84 51 [.inr (.inl 1), .inl z1, .inl z2, .inl z5, .inl (z4 + 1), .inl z5, .inl z6] [] σ Q) : am_wp sc 84 122 [.inr (.inl 1), .inl z1, .inl z2, .inl z3, .inl z4, .inl z5, .inl z6] [] σ Q := by
  refine am_wn rfl ?_
  refine am_wn rfl ?_
  refine ar_inc (L' := [.inr (.inl 1), .inl z1, .inl z2, .inl z5, .inl (z4 + 1), .inl z5, .inl z6]) rfl rfl h0 rfl ?_
  refine am_wn rfl ?_
  exact k
theorem b_84_131 {sc : Int → Int} {σ : St} {Q : Ou → St → Nat → Prop} (z1 : Int) (z2 : Int) (z3 : Int) (z4 : Int) (v5 : AV) (v6 : AV) (k : Q (.inl (some z3)) σ 0) : am_wp sc 84 131 [.inr (.inl 1), .inl z1, .inl z2, .inl z3, .inl z4, v5, v6] [] σ Q := by
  refine am_wn rfl ?_
  exact am_w60 rfl k
/-! SlidingHeapModel.count -/
theorem b_85_0 {sc : Int → Int} {σ : St} {Q : Ou → St → Nat → Prop} (z1 : Int) (k1 : (z1 < 0) → am_wp sc 85 11 [.inr (.inl 1), .inl z1] [.inr (.inl 1)] σ Q) (k2 : ¬ (z1 < 0) → am_wp sc 85 5 [.inr (.inl 1), .inl z1] [.inr (.inl 1)] σ Q) : am_wp sc 85 0 [.inr (.inl 1), .inl z1] [] σ Q := by
  refine am_wn rfl ?_
  refine am_wn rfl ?_
  exact ar_br (c := z1 < 0) rfl k1 k2
theorem b_85_5 {sc : Int → Int} {σ : St} {Q : Ou → St → Nat → Prop} (z1 : Int) (k1 : (z1 ≤ 6) → am_wp sc 85 15 [.inr (.inl 1), .inl z1] [.inr (.inl 1)] σ Q) (k2 : ¬ (z1 ≤ 6) → am_wp sc 85 11 [.inr (.inl 1), .inl z1] [.inr (.inl 1)] σ Q) : am_wp sc 85 5 [.inr (.inl 1), .inl z1] [.inr (.inl 1)] σ Q := by
  refine am_wn rfl ?_
  refine am_wn rfl ?_
  exact ar_br (c := z1 ≤ 6) rfl k1 k2
theorem b_85_11 {sc : Int → Int} {σ : St} {Q : Ou → St → Nat → Prop} (z1 : Int) (k : am_wp sc 85 16 [.inr (.inl 1), .inl z1] [.inl 1, .inr (.inl 1)] σ Q) : am_wp sc 85 11 [.inr (.inl 1), .inl z1] [.inr (.inl 1)] σ Q := by
  refine am_wn rfl ?_
  refine am_wn rfl ?_
  exact k
theorem b_85_15 {sc : Int → Int} {σ : St} {Q : Ou → St → Nat → Prop} (z1 : Int) (k : am_wp sc 85 16 [.inr (.inl 1), .inl z1] [.inl 0, .inr (.inl 1)] σ Q) : am_wp sc 85 15 [.inr (.inl 1), .inl z1] [.inr (.inl 1)] σ Q := by
  refine am_wn rfl ?_
  exact k
theorem b_85_16 {sc : Int → Int} {σ : St} {Q : Ou → St → Nat → Prop} (z1 : Int) (s1 : Int) (k : am_wp sc 49 0 [.inr (.inl 1), .inl s1] [] σ (am_bk sc 85 16 [.inr (.inl 1), .inl z1] [] Q)) : am_wp sc 85 16 [.inr (.inl 1), .inl z1] [.inl s1, .inr (.inl 1)] σ Q := by
  exact am_wc rfl (by decide) (by decide) rfl k
theorem b_85_19 {sc : Int → Int} {σ : St} {Q : Ou → St → Nat → Prop} (z1 : Int) (s0 : Int) (k1 : (s0 = 0) → am_wp sc 85 24 [.inr (.inl 1), .inl z1] [] σ Q) (k2 : ¬ (s0 = 0) → am_wp sc 85 22 [.inr (.inl 1), .inl z1] [] σ Q) : am_wp sc 85 19 [.inr (.inl 1), .inl z1] [.inl s0] σ Q := by
  exact ar_br (c := s0 = 0) rfl k1 k2
theorem b_85_22 {sc : Int → Int} {σ : St} {Q : Ou → St → Nat → Prop} (z1 : Int) (k : Q (.inl (some 0)) σ 0) : am_wp sc 85 22 [.inr (.inl 1), .inl z1] [] σ Q := by
  refine am_wn rfl ?_
  exact am_w60 rfl k
theorem b_85_24 {sc : Int → Int} {σ : St} {Q : Ou → St → Nat → Prop} (z1 : Int) (k : am_wp sc 55 0 [.inr (.inl 1), .inr (.inr 0)] [] σ (am_bk sc 85 25 [.inr (.inl 1), .inl z1] [] Q)) : am_wp sc 85 24 [.inr (.inl 1), .inl z1] [] σ Q := by
  refine am_wn rfl ?_
  exact am_wc rfl (by decide) (by decide) rfl k
theorem b_85_28_c0 {sc : Int → Int} {σ : St} {Q : Ou → St → Nat → Prop} (z1 : Int) (hz : z1 = 0) (k : am_wp sc 85 68 [.inr (.inl 1), .inl z1] [] σ Q) : am_wp sc 85 28 [.inr (.inl 1), .inl z1] [] σ Q := by
  refine am_wn rfl ?_
  exact ar_sw hz rfl k
theorem b_85_28_c1 {sc : Int → Int} {σ : St} {Q : Ou → St → Nat → Prop} (z1 : Int) (hz : z1 = 1) (k : am_wp sc 85 73 [.inr (.inl 1), .inl z1] [] σ Q) : am_wp sc 85 28 [.inr (.inl 1), .inl z1] [] σ Q := by
  refine am_wn rfl ?_
  exact ar_sw hz rfl k
theorem b_85_28_c2 {sc : Int → Int} {σ : St} {Q : Ou → St → Nat → Prop} (z1 : Int) (hz : z1 = 2) (k : am_wp sc 85 78 [.inr (.inl 1), .inl z1] [] σ Q) : am_wp sc 85 28 [.inr (.inl 1), .inl z1] [] σ Q := by
  refine am_wn rfl ?_
  exact ar_sw hz rfl k
theorem b_85_28_c3 {sc : Int → Int} {σ : St} {Q : Ou → St → Nat → Prop} (z1 : Int) (hz : z1 = 3) (k : am_wp sc 85 84 [.inr (.inl 1), .inl z1] [] σ Q) : am_wp sc 85 28 [.inr (.inl 1), .inl z1] [] σ Q := by
  refine am_wn rfl ?_
  exact ar_sw hz rfl k
theorem b_85_28_c4 {sc : Int → Int} {σ : St} {Q : Ou → St → Nat → Prop} (z1 : Int) (hz : z1 = 4) (k : am_wp sc 85 90 [.inr (.inl 1), .inl z1] [] σ Q) : am_wp sc 85 28 [.inr (.inl 1), .inl z1] [] σ Q := by
  refine am_wn rfl ?_
  exact ar_sw hz rfl k
theorem b_85_28_c5 {sc : Int → Int} {σ : St} {Q : Ou → St → Nat → Prop} (z1 : Int) (hz : z1 = 5) (k : am_wp sc 85 95 [.inr (.inl 1), .inl z1] [] σ Q) : am_wp sc 85 28 [.inr (.inl 1), .inl z1] [] σ Q := by
  refine am_wn rfl ?_
  exact ar_sw hz rfl k
theorem b_85_28_d {sc : Int → Int} {σ : St} {Q : Ou → St → Nat → Prop} (z1 : Int) (hz : z1 < 0 ∨ 6 ≤ z1) (k : am_wp sc 85 100 [.inr (.inl 1), .inl z1] [] σ Q) : am_wp sc 85 28 [.inr (.inl 1), .inl z1] [] σ Q := by
  refine am_wn rfl ?_
  exact ar_swd rfl hz k
theorem b_85_68 {sc : Int → Int} {σ : St} {Q : Ou → St → Nat → Prop} (z1 : Int) (k : Q (.inl (some (σ 41 0))) σ 0) : am_wp sc 85 68 [.inr (.inl 1), .inl z1] [] σ Q := by
  refine am_wn rfl ?_
  refine am_wn rfl ?_
  exact am_w60 rfl k
theorem b_85_73 {sc : Int → Int} {σ : St} {Q : Ou → St → Nat → Prop} (z1 : Int) (k : am_wp sc 57 0 [.inr (.inl 1), .inr (.inr 0), .inr (.inr 0)] [] σ (am_bk sc 85 74 [.inr (.inl 1), .inl z1] [] Q)) : am_wp sc 85 73 [.inr (.inl 1), .inl z1] [] σ Q := by
  refine am_wn rfl ?_
  exact am_wc rfl (by decide) (by decide) rfl k
theorem b_85_77 {sc : Int → Int} {σ : St} {Q : Ou → St → Nat → Prop} (z1 : Int) (s0 : Int) (k : Q (.inl (some s0)) σ 0) : am_wp sc 85 77 [.inr (.inl 1), .inl z1] [.inl s0] σ Q := by
  exact am_w60 rfl k
theorem b_85_78 {sc : Int → Int} {σ : St} {Q : Ou → St → Nat → Prop} (z1 : Int) (k : am_wp sc 56 0 [.inr (.inl 1), .inl 0, .inr (.inr 0), .inr (.inr 0)] [] σ (am_bk sc 85 80 [.inr (.inl 1), .inl z1] [] Q)) : am_wp sc 85 78 [.inr (.inl 1), .inl z1] [] σ Q := by
  refine am_wn rfl ?_
  refine am_wn rfl ?_
  exact am_wc rfl (by decide) (by decide) rfl k
theorem b_85_83 {sc : Int → Int} {σ : St} {Q : Ou → St → Nat → Prop} (z1 : Int) (s0 : Int) (k : Q (.inl (some s0)) σ 0) : am_wp sc 85 83 [.inr (.inl 1), .inl z1] [.inl s0] σ Q := by
  exact am_w60 rfl k
theorem b_85_84 {sc : Int → Int} {σ : St} {Q : Ou → St → Nat → Prop} (z1 : Int) (k : am_wp sc 56 0 [.inr (.inl 1), .inl 1, .inr (.inr 0), .inr (.inr 0)] [] σ (am_bk sc 85 86 [.inr (.inl 1), .inl z1] [] Q)) : am_wp sc 85 84 [.inr (.inl 1), .inl z1] [] σ Q := by
  refine am_wn rfl ?_
  refine am_wn rfl ?_
  exact am_wc rfl (by decide) (by decide) rfl k
theorem b_85_89 {sc : Int → Int} {σ : St} {Q : Ou → St → Nat → Prop} (z1 : Int) (s0 : Int) (k : Q (.inl (some s0)) σ 0) : am_wp sc 85 89 [.inr (.inl 1), .inl z1] [.inl s0] σ Q := by
  exact am_w60 rfl k
theorem b_85_90 {sc : Int → Int} {σ : St} {Q : Ou → St → Nat → Prop} (z1 : Int) (k : Q (.inl (some (σ 42 0))) σ 0) : am_wp sc 85 90 [.inr (.inl 1), .inl z1] [] σ Q := by
  refine am_wn rfl ?_
  refine am_wn rfl ?_
  exact am_w60 rfl k
theorem b_85_95 {sc : Int → Int} {σ : St} {Q : Ou → St → Nat → Prop} (z1 : Int) (k : Q (.inl (some (σ 43 0))) σ 0) : am_wp sc 85 95 [.inr (.inl 1), .inl z1] [] σ Q := by
  refine am_wn rfl ?_
  refine am_wn rfl ?_
  exact am_w60 rfl k
theorem b_85_100 {sc : Int → Int} {σ : St} {Q : Ou → St → Nat → Prop} (z1 : Int) (k : Q (.inl (some (σ 44 0))) σ 0) : am_wp sc 85 100 [.inr (.inl 1), .inl z1] [] σ Q := by
  refine am_wn rfl ?_
  refine am_wn rfl ?_
  exact am_w60 rfl k
/-! SlidingHeapModel.clear -/
theorem b_86_0 {sc : Int → Int} {σ : St} {Q : Ou → St → Nat → Prop} (v1 : AV) (k : am_wp sc 86 27 [.inr (.inl 1), .inl 0] [] (am_up (am_up (am_up (am_up (am_up σ 40 0 0) 41 0 0) 42 0 0) 43 0 0) 44 0 0) Q) : am_wp sc 86 0 [.inr (.inl 1), v1] [] σ Q := by
  refine am_wn rfl ?_
  refine am_wn rfl ?_
  refine am_wn rfl ?_
  refine am_wn rfl ?_
  refine am_wn rfl ?_
  refine am_wn rfl ?_
  refine am_wn rfl ?_
  refine am_wn rfl ?_
  refine am_wn rfl ?_
  refine am_wn rfl ?_
  refine am_wn rfl ?_
  refine am_wn rfl ?_
  refine am_wn rfl ?_
  refine am_wn rfl ?_
  refine am_wn rfl ?_
  refine am_wn rfl ?_
  refine am_wn rfl ?_
  exact k
theorem b_86_27 {sc : Int → Int} {σ : St} {Q : Ou → St → Nat → Prop} (z1 : Int) (k1 : (15 ≤ z1) → am_wp sc 86 46 [.inr (.inl 1), .inl z1] [] σ Q) (k2 : ¬ (15 ≤ z1) → am_wp sc 86 33 [.inr (.inl 1), .inl z1] [] σ Q) : am_wp sc 86 27 [.inr (.inl 1), .inl z1] [] σ Q := by
  refine am_wn rfl ?_
  refine am_wn rfl ?_
  exact ar_br (c := 15 ≤ z1) rfl k1 k2
theorem b_86_33 {sc : Int → Int} {σ : St} {Q : Ou → St → Nat → Prop} (z1 : Int) (h0 : 0 ≤ z1 ∧ z1 < 15) (h1 : am_R (z1 + 1)) (k : am_wp sc 86 27 [.inr (.inl 1), .inl (z1 + 1)] [] (am_up σ 15 z1 0) Q) : am_wp sc 86 33 [.inr (.inl 1), .inl z1] [] σ Q := by
  refine am_wn rfl ?_
  refine am_wn rfl ?_
  refine am_wn rfl ?_
  refine am_wn rfl ?_
  refine ar_bast rfl rfl h0 (Or.inl rfl) ?_
  refine ar_inc (L' := [.inr (.inl 1), .inl (z1 + 1)]) rfl rfl h1 rfl ?_
  refine am_wn rfl ?_
  exact k
theorem b_86_46 {sc : Int → Int} {σ : St} {Q : Ou → St → Nat → Prop} (z1 : Int) (k : Q (.inl none) σ 0) : am_wp sc 86 46 [.inr (.inl 1), .inl z1] [] σ Q := by
  exact am_w62 rfl k
/-! java/util/Arrays.fill -/
theorem b_87_0 {sc : Int → Int} {σ : St} {Q : Ou → St → Nat → Prop} (v0 : Nat) (z1 : Int) (v2 : AV) (v3 : AV) (h0 : am_at v0 < 3) (k : am_wp sc 87 5 [.inr (.inl v0), .inl z1, .inl 0, .inl (am_ln v0)] [] σ Q) : am_wp sc 87 0 [.inr (.inl v0), .inl z1, v2, v3] [] σ Q := by
  refine am_wn rfl ?_
  refine am_wn rfl ?_
  refine am_wn rfl ?_
  refine ar_len rfl h0 ?_
  refine am_wn rfl ?_
  exact k
theorem b_87_5 {sc : Int → Int} {σ : St} {Q : Ou → St → Nat → Prop} (v0 : Nat) (z1 : Int) (z2 : Int) (z3 : Int) (k1 : (z3 ≤ z2) → am_wp sc 87 20 [.inr (.inl v0), .inl z1, .inl z2, .inl z3] [] σ Q) (k2 : ¬ (z3 ≤ z2) → am_wp sc 87 10 [.inr (.inl v0), .inl z1, .inl z2, .inl z3] [] σ Q) : am_wp sc 87 5 [.inr (.inl v0), .inl z1, .inl z2, .inl z3] [] σ Q := by
  refine am_wn rfl ?_
  refine am_wn rfl ?_
  exact ar_br (c := z3 ≤ z2) rfl k1 k2
theorem b_87_10 {sc : Int → Int} {σ : St} {Q : Ou → St → Nat → Prop} (v0 : Nat) (z1 : Int) (z2 : Int) (z3 : Int) (h0 : am_at v0 = 0) (h1 : 0 ≤ z2 ∧ z2 < am_ln v0) (h2 : am_R (z2 + 1)) (k : am_wp sc 87 5 [.inr (.inl v0), .inl z1, .inl (z2 + 1), .inl z3] [] (am_up σ v0 z2 z1) Q) : am_wp sc 87 10 [.inr (.inl v0), .inl z1, .inl z2, .inl z3] [] σ Q := by
  refine am_wn rfl ?_
  refine am_wn rfl ?_
  refine am_wn rfl ?_
  refine ar_iast rfl h0 h1 ?_
  refine ar_inc (L' := [.inr (.inl v0), .inl z1, .inl (z2 + 1), .inl z3]) rfl rfl h2 rfl ?_
  refine am_wn rfl ?_
  exact k
theorem b_87_20 {sc : Int → Int} {σ : St} {Q : Ou → St → Nat → Prop} (v0 : Nat) (z1 : Int) (z2 : Int) (z3 : Int) (k : Q (.inl none) σ 0) : am_wp sc 87 20 [.inr (.inl v0), .inl z1, .inl z2, .inl z3] [] σ Q := by
  exact am_w62 rfl k
end
section
/-! SlidingHeapLaw.alloc -/
theorem b_88_0 {sc : Int → Int} {σ : St} {Q : Ou → St → Nat → Prop} (z1 : Int) (v3 : AV) (k : am_wp sc 0 0 [.inr (.inl 0), .inl z1, .inr (.inr 0)] [] σ (am_bk sc 88 4 [.inr (.inl 0), .inl z1, .inr (.inl 26), v3] [.inl 0, .inr (.inl 26)] Q)) : am_wp sc 88 0 [.inr (.inl 0), .inl z1, .inr (.inl 26), v3] [] σ Q := by
  refine am_wn rfl ?_
  refine am_wn rfl ?_
  refine am_wn rfl ?_
  refine am_wn rfl ?_
  exact am_wc rfl (by decide) (by decide) rfl k
theorem b_88_7 {sc : Int → Int} {σ : St} {Q : Ou → St → Nat → Prop} (z1 : Int) (v3 : AV) (s1 : Int) (s2 : Int) (h0 : s1 = 0) (k : am_wp sc 88 21 [.inr (.inl 0), .inl z1, .inr (.inl 26), v3] [] (am_up σ 26 0 s2) Q) : am_wp sc 88 7 [.inr (.inl 0), .inl z1, .inr (.inl 26), v3] [.inl s2, .inl s1, .inr (.inl 26)] σ Q := by
  refine am_wn rfl ?_
  refine ar_last rfl h0 ?_
  refine am_wn rfl ?_
  exact k
theorem b_88_12 {sc : Int → Int} {σ : St} {Q : Ou → St → Nat → Prop} (z1 : Int) (v3 : AV) (k : Q (.inl (some 1)) σ 0) : am_wp sc 88 12 [.inr (.inl 0), .inl z1, .inr (.inl 26), v3] [.inr (.inl 27)] σ Q := by
  refine am_wn rfl ?_
  refine am_wn rfl ?_
  exact am_w60 rfl k
theorem b_88_15 {sc : Int → Int} {σ : St} {Q : Ou → St → Nat → Prop} (z1 : Int) (v3 : AV) (k : Q (.inl (some 2)) σ 0) : am_wp sc 88 15 [.inr (.inl 0), .inl z1, .inr (.inl 26), v3] [.inr (.inl 27)] σ Q := by
  refine am_wn rfl ?_
  refine am_wn rfl ?_
  exact am_w60 rfl k
theorem b_88_18 {sc : Int → Int} {σ : St} {Q : Ou → St → Nat → Prop} (z1 : Int) (v3 : AV) (k : Q (.inl (some 3)) σ 0) : am_wp sc 88 18 [.inr (.inl 0), .inl z1, .inr (.inl 26), v3] [.inr (.inl 27)] σ Q := by
  refine am_wn rfl ?_
  refine am_wn rfl ?_
  exact am_w60 rfl k
theorem b_88_21 {sc : Int → Int} {σ : St} {Q : Ou → St → Nat → Prop} (z1 : Int) (v3 : AV) (k : Q (.inl (some 0)) σ 0) : am_wp sc 88 21 [.inr (.inl 0), .inl z1, .inr (.inl 26), v3] [] σ Q := by
  refine am_wn rfl ?_
  exact am_w60 rfl k
/-! SlidingHeapLaw.number -/
theorem b_89_0 {sc : Int → Int} {σ : St} {Q : Ou → St → Nat → Prop} (z1 : Int) (z2 : Int) (z3 : Int) (v4 : AV) (k : am_wp sc 1 0 [.inr (.inl 0), .inl z1, .inl z2, .inl z3] [] σ (am_bk sc 89 4 [.inr (.inl 0), .inl z1, .inl z2, .inl z3, v4] [] Q)) : am_wp sc 89 0 [.inr (.inl 0), .inl z1, .inl z2, .inl z3, v4] [] σ Q := by
  refine am_wn rfl ?_
  refine am_wn rfl ?_
  refine am_wn rfl ?_
  refine am_wn rfl ?_
  exact am_wc rfl (by decide) (by decide) rfl k
theorem b_89_7 {sc : Int → Int} {σ : St} {Q : Ou → St → Nat → Prop} (z1 : Int) (z2 : Int) (z3 : Int) (v4 : AV) (k : am_wp sc 89 14 [.inr (.inl 0), .inl z1, .inl z2, .inl z3, v4] [] σ Q) : am_wp sc 89 7 [.inr (.inl 0), .inl z1, .inl z2, .inl z3, v4] [] σ Q := by
  refine am_wn rfl ?_
  exact k
theorem b_89_10 {sc : Int → Int} {σ : St} {Q : Ou → St → Nat → Prop} (z1 : Int) (z2 : Int) (z3 : Int) (v4 : AV) (k : Q (.inl (some 1)) σ 0) : am_wp sc 89 10 [.inr (.inl 0), .inl z1, .inl z2, .inl z3, v4] [.inr (.inl 27)] σ Q := by
  refine am_wn rfl ?_
  refine am_wn rfl ?_
  exact am_w60 rfl k
theorem b_89_14 {sc : Int → Int} {σ : St} {Q : Ou → St → Nat → Prop} (z1 : Int) (z2 : Int) (z3 : Int) (v4 : AV) (k : Q (.inl (some 0)) σ 0) : am_wp sc 89 14 [.inr (.inl 0), .inl z1, .inl z2, .inl z3, v4] [] σ Q := by
  refine am_wn rfl ?_
  exact am_w60 rfl k
/-! SlidingHeapLaw.refer -/
theorem b_90_0 {sc : Int → Int} {σ : St} {Q : Ou → St → Nat → Prop} (z1 : Int) (z2 : Int) (z3 : Int) (z4 : Int) (v5 : AV) (k : am_wp sc 2 0 [.inr (.inl 0), .inl z1, .inl z2, .inl z3, .inl z4] [] σ (am_bk sc 90 6 [.inr (.inl 0), .inl z1, .inl z2, .inl z3, .inl z4, v5] [] Q)) : am_wp sc 90 0 [.inr (.inl 0), .inl z1, .inl z2, .inl z3, .inl z4, v5] [] σ Q := by
  refine am_wn rfl ?_
  refine am_wn rfl ?_
  refine am_wn rfl ?_
  refine am_wn rfl ?_
  refine am_wn rfl ?_
  exact am_wc rfl (by decide) (by decide) rfl k
theorem b_90_9 {sc : Int → Int} {σ : St} {Q : Ou → St → Nat → Prop} (z1 : Int) (z2 : Int) (z3 : Int) (z4 : Int) (v5 : AV) (k : am_wp sc 90 20 [.inr (.inl 0), .inl z1, .inl z2, .inl z3, .inl z4, v5] [] σ Q) : am_wp sc 90 9 [.inr (.inl 0), .inl z1, .inl z2, .inl z3, .inl z4, v5] [] σ Q := by
  refine am_wn rfl ?_
  exact k
theorem b_90_12 {sc : Int → Int} {σ : St} {Q : Ou → St → Nat → Prop} (z1 : Int) (z2 : Int) (z3 : Int) (z4 : Int) (v5 : AV) (k : Q (.inl (some 1)) σ 0) : am_wp sc 90 12 [.inr (.inl 0), .inl z1, .inl z2, .inl z3, .inl z4, v5] [.inr (.inl 27)] σ Q := by
  refine am_wn rfl ?_
  refine am_wn rfl ?_
  exact am_w60 rfl k
theorem b_90_16 {sc : Int → Int} {σ : St} {Q : Ou → St → Nat → Prop} (z1 : Int) (z2 : Int) (z3 : Int) (z4 : Int) (v5 : AV) (k : Q (.inl (some 2)) σ 0) : am_wp sc 90 16 [.inr (.inl 0), .inl z1, .inl z2, .inl z3, .inl z4, v5] [.inr (.inl 27)] σ Q := by
  refine am_wn rfl ?_
  refine am_wn rfl ?_
  exact am_w60 rfl k
theorem b_90_20 {sc : Int → Int} {σ : St} {Q : Ou → St → Nat → Prop} (z1 : Int) (z2 : Int) (z3 : Int) (z4 : Int) (v5 : AV) (k : Q (.inl (some 0)) σ 0) : am_wp sc 90 20 [.inr (.inl 0), .inl z1, .inl z2, .inl z3, .inl z4, v5] [] σ Q := by
  refine am_wn rfl ?_
  exact am_w60 rfl k
/-! SlidingHeapLaw.get -/
theorem b_91_0 {sc : Int → Int} {σ : St} {Q : Ou → St → Nat → Prop} (z1 : Int) (z2 : Int) (v4 : AV) (k : am_wp sc 3 0 [.inr (.inl 0), .inl z1, .inl z2] [] σ (am_bk sc 91 5 [.inr (.inl 0), .inl z1, .inl z2, .inr (.inl 26), v4] [.inl 0, .inr (.inl 26)] Q)) : am_wp sc 91 0 [.inr (.inl 0), .inl z1, .inl z2, .inr (.inl 26), v4] [] σ Q := by
  refine am_wn rfl ?_
  refine am_wn rfl ?_
  refine am_wn rfl ?_
  refine am_wn rfl ?_
  refine am_wn rfl ?_
  exact am_wc rfl (by decide) (by decide) rfl k
theorem b_91_8 {sc : Int → Int} {σ : St} {Q : Ou → St → Nat → Prop} (z1 : Int) (z2 : Int) (v4 : AV) (s1 : Int) (s2 : Int) (h0 : s1 = 0) (k : am_wp sc 91 17 [.inr (.inl 0), .inl z1, .inl z2, .inr (.inl 26), v4] [] (am_up σ 26 0 s2) Q) : am_wp sc 91 8 [.inr (.inl 0), .inl z1, .inl z2, .inr (.inl 26), v4] [.inl s2, .inl s1, .inr (.inl 26)] σ Q := by
  refine am_wn rfl ?_
  refine ar_last rfl h0 ?_
  refine am_wn rfl ?_
  exact k
theorem b_91_13 {sc : Int → Int} {σ : St} {Q : Ou → St → Nat → Prop} (z1 : Int) (z2 : Int) (v4 : AV) (k : Q (.inl (some 1)) σ 0) : am_wp sc 91 13 [.inr (.inl 0), .inl z1, .inl z2, .inr (.inl 26), v4] [.inr (.inl 27)] σ Q := by
  refine am_wn rfl ?_
  refine am_wn rfl ?_
  exact am_w60 rfl k
theorem b_91_17 {sc : Int → Int} {σ : St} {Q : Ou → St → Nat → Prop} (z1 : Int) (z2 : Int) (v4 : AV) (k : Q (.inl (some 0)) σ 0) : am_wp sc 91 17 [.inr (.inl 0), .inl z1, .inl z2, .inr (.inl 26), v4] [] σ Q := by
  refine am_wn rfl ?_
  exact am_w60 rfl k
/-! SlidingHeapLaw.kind -/
theorem b_92_0 {sc : Int → Int} {σ : St} {Q : Ou → St → Nat → Prop} (z1 : Int) (z2 : Int) (v4 : AV) (k : am_wp sc 4 0 [.inr (.inl 0), .inl z1, .inl z2] [] σ (am_bk sc 92 5 [.inr (.inl 0), .inl z1, .inl z2, .inr (.inl 26), v4] [.inl 0, .inr (.inl 26)] Q)) : am_wp sc 92 0 [.inr (.inl 0), .inl z1, .inl z2, .inr (.inl 26), v4] [] σ Q := by
  refine am_wn rfl ?_
  refine am_wn rfl ?_
  refine am_wn rfl ?_
  refine am_wn rfl ?_
  refine am_wn rfl ?_
  exact am_wc rfl (by decide) (by decide) rfl k
theorem b_92_8 {sc : Int → Int} {σ : St} {Q : Ou → St → Nat → Prop} (z1 : Int) (z2 : Int) (v4 : AV) (s1 : Int) (s2 : Int) (h0 : s1 = 0) (k : am_wp sc 92 17 [.inr (.inl 0), .inl z1, .inl z2, .inr (.inl 26), v4] [] (am_up σ 26 0 s2) Q) : am_wp sc 92 8 [.inr (.inl 0), .inl z1, .inl z2, .inr (.inl 26), v4] [.inl s2, .inl s1, .inr (.inl 26)] σ Q := by
  refine am_wn rfl ?_
  refine ar_last rfl h0 ?_
  refine am_wn rfl ?_
  exact k
theorem b_92_13 {sc : Int → Int} {σ : St} {Q : Ou → St → Nat → Prop} (z1 : Int) (z2 : Int) (v4 : AV) (k : Q (.inl (some 1)) σ 0) : am_wp sc 92 13 [.inr (.inl 0), .inl z1, .inl z2, .inr (.inl 26), v4] [.inr (.inl 27)] σ Q := by
  refine am_wn rfl ?_
  refine am_wn rfl ?_
  exact am_w60 rfl k
theorem b_92_17 {sc : Int → Int} {σ : St} {Q : Ou → St → Nat → Prop} (z1 : Int) (z2 : Int) (v4 : AV) (k : Q (.inl (some 0)) σ 0) : am_wp sc 92 17 [.inr (.inl 0), .inl z1, .inl z2, .inr (.inl 26), v4] [] σ Q := by
  refine am_wn rfl ?_
  exact am_w60 rfl k
/-! SlidingHeapLaw.push -/
theorem b_93_0 {sc : Int → Int} {σ : St} {Q : Ou → St → Nat → Prop} (z1 : Int) (v3 : AV) (k : am_wp sc 5 0 [.inr (.inl 0), .inl z1] [] σ (am_bk sc 93 4 [.inr (.inl 0), .inl z1, .inr (.inl 26), v3] [.inl 0, .inr (.inl 26)] Q)) : am_wp sc 93 0 [.inr (.inl 0), .inl z1, .inr (.inl 26), v3] [] σ Q := by
  refine am_wn rfl ?_
  refine am_wn rfl ?_
  refine am_wn rfl ?_
  refine am_wn rfl ?_
  exact am_wc rfl (by decide) (by decide) rfl k
theorem b_93_7 {sc : Int → Int} {σ : St} {Q : Ou → St → Nat → Prop} (z1 : Int) (v3 : AV) (s1 : Int) (s2 : Int) (h0 : s1 = 0) (k : am_wp sc 93 18 [.inr (.inl 0), .inl z1, .inr (.inl 26), v3] [] (am_up σ 26 0 s2) Q) : am_wp sc 93 7 [.inr (.inl 0), .inl z1, .inr (.inl 26), v3] [.inl s2, .inl s1, .inr (.inl 26)] σ Q := by
  refine am_wn rfl ?_
  refine ar_last rfl h0 ?_
  refine am_wn rfl ?_
  exact k
theorem b_93_12 {sc : Int → Int} {σ : St} {Q : Ou → St → Nat → Prop} (z1 : Int) (v3 : AV) (k : Q (.inl (some 1)) σ 0) : am_wp sc 93 12 [.inr (.inl 0), .inl z1, .inr (.inl 26), v3] [.inr (.inl 27)] σ Q := by
  refine am_wn rfl ?_
  refine am_wn rfl ?_
  exact am_w60 rfl k
theorem b_93_15 {sc : Int → Int} {σ : St} {Q : Ou → St → Nat → Prop} (z1 : Int) (v3 : AV) (k : Q (.inl (some 2)) σ 0) : am_wp sc 93 15 [.inr (.inl 0), .inl z1, .inr (.inl 26), v3] [.inr (.inl 27)] σ Q := by
  refine am_wn rfl ?_
  refine am_wn rfl ?_
  exact am_w60 rfl k
theorem b_93_18 {sc : Int → Int} {σ : St} {Q : Ou → St → Nat → Prop} (z1 : Int) (v3 : AV) (k : Q (.inl (some 0)) σ 0) : am_wp sc 93 18 [.inr (.inl 0), .inl z1, .inr (.inl 26), v3] [] σ Q := by
  refine am_wn rfl ?_
  exact am_w60 rfl k
/-! SlidingHeapLaw.rites -/
theorem b_94_0 {sc : Int → Int} {σ : St} {Q : Ou → St → Nat → Prop} (z1 : Int) (z2 : Int) (v3 : AV) (k : am_wp sc 8 0 [.inr (.inl 0), .inl z1, .inl z2] [] σ (am_bk sc 94 3 [.inr (.inl 0), .inl z1, .inl z2, v3] [] Q)) : am_wp sc 94 0 [.inr (.inl 0), .inl z1, .inl z2, v3] [] σ Q := by
  refine am_wn rfl ?_
  refine am_wn rfl ?_
  refine am_wn rfl ?_
  exact am_wc rfl (by decide) (by decide) rfl k
theorem b_94_6 {sc : Int → Int} {σ : St} {Q : Ou → St → Nat → Prop} (z1 : Int) (z2 : Int) (v3 : AV) (k : am_wp sc 94 12 [.inr (.inl 0), .inl z1, .inl z2, v3] [] σ Q) : am_wp sc 94 6 [.inr (.inl 0), .inl z1, .inl z2, v3] [] σ Q := by
  refine am_wn rfl ?_
  exact k
theorem b_94_9 {sc : Int → Int} {σ : St} {Q : Ou → St → Nat → Prop} (z1 : Int) (z2 : Int) (v3 : AV) (k : Q (.inl (some 1)) σ 0) : am_wp sc 94 9 [.inr (.inl 0), .inl z1, .inl z2, v3] [.inr (.inl 27)] σ Q := by
  refine am_wn rfl ?_
  refine am_wn rfl ?_
  exact am_w60 rfl k
theorem b_94_12 {sc : Int → Int} {σ : St} {Q : Ou → St → Nat → Prop} (z1 : Int) (z2 : Int) (v3 : AV) (k : Q (.inl (some 0)) σ 0) : am_wp sc 94 12 [.inr (.inl 0), .inl z1, .inl z2, v3] [] σ Q := by
  refine am_wn rfl ?_
  exact am_w60 rfl k
/-! SlidingHeapLaw.take -/
theorem b_95_0 {sc : Int → Int} {σ : St} {Q : Ou → St → Nat → Prop} (v2 : AV) (k : am_wp sc 9 0 [.inr (.inl 0), .inr (.inr 0)] [] σ (am_bk sc 95 3 [.inr (.inl 0), .inr (.inl 26), v2] [.inl 0, .inr (.inl 26)] Q)) : am_wp sc 95 0 [.inr (.inl 0), .inr (.inl 26), v2] [] σ Q := by
  refine am_wn rfl ?_
  refine am_wn rfl ?_
  refine am_wn rfl ?_
  exact am_wc rfl (by decide) (by decide) rfl k
theorem b_95_6 {sc : Int → Int} {σ : St} {Q : Ou → St → Nat → Prop} (v2 : AV) (s1 : Int) (s2 : Int) (h0 : s1 = 0) (k : am_wp sc 95 14 [.inr (.inl 0), .inr (.inl 26), v2] [] (am_up σ 26 0 s2) Q) : am_wp sc 95 6 [.inr (.inl 0), .inr (.inl 26), v2] [.inl s2, .inl s1, .inr (.inl 26)] σ Q := by
  refine am_wn rfl ?_
  refine ar_last rfl h0 ?_
  refine am_wn rfl ?_
  exact k
theorem b_95_11 {sc : Int → Int} {σ : St} {Q : Ou → St → Nat → Prop} (v2 : AV) (k : Q (.inl (some 1)) σ 0) : am_wp sc 95 11 [.inr (.inl 0), .inr (.inl 26), v2] [.inr (.inl 27)] σ Q := by
  refine am_wn rfl ?_
  refine am_wn rfl ?_
  exact am_w60 rfl k
theorem b_95_14 {sc : Int → Int} {σ : St} {Q : Ou → St → Nat → Prop} (v2 : AV) (k : Q (.inl (some 0)) σ 0) : am_wp sc 95 14 [.inr (.inl 0), .inr (.inl 26), v2] [] σ Q := by
  refine am_wn rfl ?_
  exact am_w60 rfl k
/-! SlidingHeapLaw.word -/
theorem b_96_0 {sc : Int → Int} {σ : St} {Q : Ou → St → Nat → Prop} (z1 : Int) (v3 : AV) (k : am_wp sc 12 0 [.inr (.inl 0), .inl z1] [] σ (am_bk sc 96 4 [.inr (.inl 0), .inl z1, .inr (.inl 26), v3] [.inl 0, .inr (.inl 26)] Q)) : am_wp sc 96 0 [.inr (.inl 0), .inl z1, .inr (.inl 26), v3] [] σ Q := by
  refine am_wn rfl ?_
  refine am_wn rfl ?_
  refine am_wn rfl ?_
  refine am_wn rfl ?_
  exact am_wc rfl (by decide) (by decide) rfl k
theorem b_96_7 {sc : Int → Int} {σ : St} {Q : Ou → St → Nat → Prop} (z1 : Int) (v3 : AV) (s1 : Int) (s2 : Int) (h0 : s1 = 0) (k : am_wp sc 96 15 [.inr (.inl 0), .inl z1, .inr (.inl 26), v3] [] (am_up σ 26 0 s2) Q) : am_wp sc 96 7 [.inr (.inl 0), .inl z1, .inr (.inl 26), v3] [.inl s2, .inl s1, .inr (.inl 26)] σ Q := by
  refine am_wn rfl ?_
  refine ar_last rfl h0 ?_
  refine am_wn rfl ?_
  exact k
theorem b_96_12 {sc : Int → Int} {σ : St} {Q : Ou → St → Nat → Prop} (z1 : Int) (v3 : AV) (k : Q (.inl (some 1)) σ 0) : am_wp sc 96 12 [.inr (.inl 0), .inl z1, .inr (.inl 26), v3] [.inr (.inl 27)] σ Q := by
  refine am_wn rfl ?_
  refine am_wn rfl ?_
  exact am_w60 rfl k
theorem b_96_15 {sc : Int → Int} {σ : St} {Q : Ou → St → Nat → Prop} (z1 : Int) (v3 : AV) (k : Q (.inl (some 0)) σ 0) : am_wp sc 96 15 [.inr (.inl 0), .inl z1, .inr (.inl 26), v3] [] σ Q := by
  refine am_wn rfl ?_
  exact am_w60 rfl k
/-! SlidingHeapLaw.about -/
theorem b_97_0 {sc : Int → Int} {σ : St} {Q : Ou → St → Nat → Prop} (z1 : Int) (z2 : Int) (v4 : AV) (k : am_wp sc 13 0 [.inr (.inl 0), .inl z1, .inl z2] [] σ (am_bk sc 97 5 [.inr (.inl 0), .inl z1, .inl z2, .inr (.inl 26), v4] [.inl 0, .inr (.inl 26)] Q)) : am_wp sc 97 0 [.inr (.inl 0), .inl z1, .inl z2, .inr (.inl 26), v4] [] σ Q := by
  refine am_wn rfl ?_
  refine am_wn rfl ?_
  refine am_wn rfl ?_
  refine am_wn rfl ?_
  refine am_wn rfl ?_
  exact am_wc rfl (by decide) (by decide) rfl k
theorem b_97_8 {sc : Int → Int} {σ : St} {Q : Ou → St → Nat → Prop} (z1 : Int) (z2 : Int) (v4 : AV) (s1 : Int) (s2 : Int) (h0 : s1 = 0) (k : am_wp sc 97 21 [.inr (.inl 0), .inl z1, .inl z2, .inr (.inl 26), v4] [] (am_up σ 26 0 s2) Q) : am_wp sc 97 8 [.inr (.inl 0), .inl z1, .inl z2, .inr (.inl 26), v4] [.inl s2, .inl s1, .inr (.inl 26)] σ Q := by
  refine am_wn rfl ?_
  refine ar_last rfl h0 ?_
  refine am_wn rfl ?_
  exact k
theorem b_97_13 {sc : Int → Int} {σ : St} {Q : Ou → St → Nat → Prop} (z1 : Int) (z2 : Int) (v4 : AV) (k : Q (.inl (some 1)) σ 0) : am_wp sc 97 13 [.inr (.inl 0), .inl z1, .inl z2, .inr (.inl 26), v4] [.inr (.inl 27)] σ Q := by
  refine am_wn rfl ?_
  refine am_wn rfl ?_
  exact am_w60 rfl k
theorem b_97_17 {sc : Int → Int} {σ : St} {Q : Ou → St → Nat → Prop} (z1 : Int) (z2 : Int) (v4 : AV) (k : Q (.inl (some 2)) σ 0) : am_wp sc 97 17 [.inr (.inl 0), .inl z1, .inl z2, .inr (.inl 26), v4] [.inr (.inl 27)] σ Q := by
  refine am_wn rfl ?_
  refine am_wn rfl ?_
  exact am_w60 rfl k
theorem b_97_21 {sc : Int → Int} {σ : St} {Q : Ou → St → Nat → Prop} (z1 : Int) (z2 : Int) (v4 : AV) (k : Q (.inl (some 0)) σ 0) : am_wp sc 97 21 [.inr (.inl 0), .inl z1, .inl z2, .inr (.inl 26), v4] [] σ Q := by
  refine am_wn rfl ?_
  exact am_w60 rfl k
/-! SlidingHeapLaw.far -/
theorem b_98_0 {sc : Int → Int} {σ : St} {Q : Ou → St → Nat → Prop} (z1 : Int) (v3 : AV) (k : am_wp sc 14 0 [.inr (.inl 0), .inl z1, .inr (.inr 0)] [] σ (am_bk sc 98 4 [.inr (.inl 0), .inl z1, .inr (.inl 26), v3] [.inl 0, .inr (.inl 26)] Q)) : am_wp sc 98 0 [.inr (.inl 0), .inl z1, .inr (.inl 26), v3] [] σ Q := by
  refine am_wn rfl ?_
  refine am_wn rfl ?_
  refine am_wn rfl ?_
  refine am_wn rfl ?_
  exact am_wc rfl (by decide) (by decide) rfl k
theorem b_98_7 {sc : Int → Int} {σ : St} {Q : Ou → St → Nat → Prop} (z1 : Int) (v3 : AV) (s1 : Int) (s2 : Int) (h0 : s1 = 0) (k : am_wp sc 98 15 [.inr (.inl 0), .inl z1, .inr (.inl 26), v3] [] (am_up σ 26 0 s2) Q) : am_wp sc 98 7 [.inr (.inl 0), .inl z1, .inr (.inl 26), v3] [.inl s2, .inl s1, .inr (.inl 26)] σ Q := by
  refine am_wn rfl ?_
  refine ar_last rfl h0 ?_
  refine am_wn rfl ?_
  exact k
theorem b_98_12 {sc : Int → Int} {σ : St} {Q : Ou → St → Nat → Prop} (z1 : Int) (v3 : AV) (k : Q (.inl (some 1)) σ 0) : am_wp sc 98 12 [.inr (.inl 0), .inl z1, .inr (.inl 26), v3] [.inr (.inl 27)] σ Q := by
  refine am_wn rfl ?_
  refine am_wn rfl ?_
  exact am_w60 rfl k
theorem b_98_15 {sc : Int → Int} {σ : St} {Q : Ou → St → Nat → Prop} (z1 : Int) (v3 : AV) (k : Q (.inl (some 0)) σ 0) : am_wp sc 98 15 [.inr (.inl 0), .inl z1, .inr (.inl 26), v3] [] σ Q := by
  refine am_wn rfl ?_
  exact am_w60 rfl k
/-! SlidingHeapLaw.way -/
theorem b_99_0 {sc : Int → Int} {σ : St} {Q : Ou → St → Nat → Prop} (z1 : Int) (z2 : Int) (v4 : AV) (k : am_wp sc 15 0 [.inr (.inl 0), .inl z1, .inl z2, .inr (.inr 0), .inr (.inr 0)] [] σ (am_bk sc 99 5 [.inr (.inl 0), .inl z1, .inl z2, .inr (.inl 26), v4] [.inl 0, .inr (.inl 26)] Q)) : am_wp sc 99 0 [.inr (.inl 0), .inl z1, .inl z2, .inr (.inl 26), v4] [] σ Q := by
  refine am_wn rfl ?_
  refine am_wn rfl ?_
  refine am_wn rfl ?_
  refine am_wn rfl ?_
  refine am_wn rfl ?_
  exact am_wc rfl (by decide) (by decide) rfl k
theorem b_99_8 {sc : Int → Int} {σ : St} {Q : Ou → St → Nat → Prop} (z1 : Int) (z2 : Int) (v4 : AV) (s1 : Int) (s2 : Int) (h0 : s1 = 0) (k : am_wp sc 99 17 [.inr (.inl 0), .inl z1, .inl z2, .inr (.inl 26), v4] [] (am_up σ 26 0 s2) Q) : am_wp sc 99 8 [.inr (.inl 0), .inl z1, .inl z2, .inr (.inl 26), v4] [.inl s2, .inl s1, .inr (.inl 26)] σ Q := by
  refine am_wn rfl ?_
  refine ar_last rfl h0 ?_
  refine am_wn rfl ?_
  exact k
theorem b_99_13 {sc : Int → Int} {σ : St} {Q : Ou → St → Nat → Prop} (z1 : Int) (z2 : Int) (v4 : AV) (k : Q (.inl (some 1)) σ 0) : am_wp sc 99 13 [.inr (.inl 0), .inl z1, .inl z2, .inr (.inl 26), v4] [.inr (.inl 27)] σ Q := by
  refine am_wn rfl ?_
  refine am_wn rfl ?_
  exact am_w60 rfl k
theorem b_99_17 {sc : Int → Int} {σ : St} {Q : Ou → St → Nat → Prop} (z1 : Int) (z2 : Int) (v4 : AV) (k : Q (.inl (some 0)) σ 0) : am_wp sc 99 17 [.inr (.inl 0), .inl z1, .inl z2, .inr (.inl 26), v4] [] σ Q := by
  refine am_wn rfl ?_
  exact am_w60 rfl k
/-! SlidingHeapLaw.count -/
theorem b_100_0 {sc : Int → Int} {σ : St} {Q : Ou → St → Nat → Prop} (z1 : Int) (v3 : AV) (k : am_wp sc 16 0 [.inr (.inl 0), .inl z1] [] σ (am_bk sc 100 4 [.inr (.inl 0), .inl z1, .inr (.inl 26), v3] [.inl 0, .inr (.inl 26)] Q)) : am_wp sc 100 0 [.inr (.inl 0), .inl z1, .inr (.inl 26), v3] [] σ Q := by
  refine am_wn rfl ?_
  refine am_wn rfl ?_
  refine am_wn rfl ?_
  refine am_wn rfl ?_
  exact am_wc rfl (by decide) (by decide) rfl k
theorem b_100_7 {sc : Int → Int} {σ : St} {Q : Ou → St → Nat → Prop} (z1 : Int) (v3 : AV) (s1 : Int) (s2 : Int) (h0 : s1 = 0) (k : am_wp sc 100 15 [.inr (.inl 0), .inl z1, .inr (.inl 26), v3] [] (am_up σ 26 0 s2) Q) : am_wp sc 100 7 [.inr (.inl 0), .inl z1, .inr (.inl 26), v3] [.inl s2, .inl s1, .inr (.inl 26)] σ Q := by
  refine am_wn rfl ?_
  refine ar_last rfl h0 ?_
  refine am_wn rfl ?_
  exact k
theorem b_100_12 {sc : Int → Int} {σ : St} {Q : Ou → St → Nat → Prop} (z1 : Int) (v3 : AV) (k : Q (.inl (some 1)) σ 0) : am_wp sc 100 12 [.inr (.inl 0), .inl z1, .inr (.inl 26), v3] [.inr (.inl 27)] σ Q := by
  refine am_wn rfl ?_
  refine am_wn rfl ?_
  exact am_w60 rfl k
theorem b_100_15 {sc : Int → Int} {σ : St} {Q : Ou → St → Nat → Prop} (z1 : Int) (v3 : AV) (k : Q (.inl (some 0)) σ 0) : am_wp sc 100 15 [.inr (.inl 0), .inl z1, .inr (.inl 26), v3] [] σ Q := by
  refine am_wn rfl ?_
  exact am_w60 rfl k
end
section
/-! SlidingHeapLaw.law -/
set_option maxRecDepth 100000 in
theorem b_law_20 {sc : Int → Int} {σ : St} {Q : Ou → St → Nat → Prop} (v4 : AV) (v5 : AV) (v6 : AV) (k : am_wp sc am_law 23 [.inr (.inl 28), .inr (.inl 0), .inr (.inl 1), .inr (.inl 26), .inl 0, v5, v6] [] σ Q) : am_wp sc am_law 20 [.inr (.inl 28), .inr (.inl 0), .inr (.inl 1), .inr (.inl 26), v4, v5, v6] [] σ Q := by
  refine am_wn rfl ?_
  refine am_wn rfl ?_
  exact k
set_option maxRecDepth 100000 in
theorem b_law_23 {sc : Int → Int} {σ : St} {Q : Ou → St → Nat → Prop} (z4 : Int) (v5 : AV) (v6 : AV) (h0 : am_R ((sc (-1)) - 5)) (k1 : (((sc (-1)) - 5) < z4) → am_wp sc am_law 1025 [.inr (.inl 28), .inr (.inl 0), .inr (.inl 1), .inr (.inl 26), .inl z4, v5, v6] [] σ Q) (k2 : ¬ (((sc (-1)) - 5) < z4) → am_wp sc am_law 32 [.inr (.inl 28), .inr (.inl 0), .inr (.inl 1), .inr (.inl 26), .inl z4, v5, v6] [] σ Q) : am_wp sc am_law 23 [.inr (.inl 28), .inr (.inl 0), .inr (.inl 1), .inr (.inl 26), .inl z4, v5, v6] [] σ Q := by
  refine am_wn rfl ?_
  refine am_wn rfl ?_
  refine am_wn rfl ?_
  refine am_wn rfl ?_
  refine ar_sub rfl h0 ?_
  exact ar_br (c := ((sc (-1)) - 5) < z4) rfl k1 k2
set_option maxRecDepth 100000 in
theorem b_law_32_c0 {sc : Int → Int} {σ : St} {Q : Ou → St → Nat → Prop} (z4 : Int) (v5 : AV) (v6 : AV) (h0 : 0 ≤ z4 ∧ z4 < sc (-1)) (hz : ((sc z4) % 32) = 0) (k : am_wp sc am_law 124 [.inr (.inl 28), .inr (.inl 0), .inr (.inl 1), .inr (.inl 26), .inl z4, v5, v6] [] σ Q) : am_wp sc am_law 32 [.inr (.inl 28), .inr (.inl 0), .inr (.inl 1), .inr (.inl 26), .inl z4, v5, v6] [] σ Q := by
  refine am_wn rfl ?_
  refine am_wn rfl ?_
  refine ar_sald rfl h0 ?_
  refine am_wn rfl ?_
  refine am_wn rfl ?_
  exact ar_sw hz rfl k
set_option maxRecDepth 100000 in
theorem b_law_32_c1 {sc : Int → Int} {σ : St} {Q : Ou → St → Nat → Prop} (z4 : Int) (v5 : AV) (v6 : AV) (h0 : 0 ≤ z4 ∧ z4 < sc (-1)) (hz : ((sc z4) % 32) = 1) (k : am_wp sc am_law 180 [.inr (.inl 28), .inr (.inl 0), .inr (.inl 1), .inr (.inl 26), .inl z4, v5, v6] [] σ Q) : am_wp sc am_law 32 [.inr (.inl 28), .inr (.inl 0), .inr (.inl 1), .inr (.inl 26), .inl z4, v5, v6] [] σ Q := by
  refine am_wn rfl ?_
  refine am_wn rfl ?_
  refine ar_sald rfl h0 ?_
  refine am_wn rfl ?_
  refine am_wn rfl ?_
  exact ar_sw hz rfl k
set_option maxRecDepth 100000 in
theorem b_law_32_c2 {sc : Int → Int} {σ : St} {Q : Ou → St → Nat → Prop} (z4 : Int) (v5 : AV) (v6 : AV) (h0 : 0 ≤ z4 ∧ z4 < sc (-1)) (hz : ((sc z4) % 32) = 2) (k : am_wp sc am_law 240 [.inr (.inl 28), .inr (.inl 0), .inr (.inl 1), .inr (.inl 26), .inl z4, v5, v6] [] σ Q) : am_wp sc am_law 32 [.inr (.inl 28), .inr (.inl 0), .inr (.inl 1), .inr (.inl 26), .inl z4, v5, v6] [] σ Q := by
  refine am_wn rfl ?_
  refine am_wn rfl ?_
  refine ar_sald rfl h0 ?_
  refine am_wn rfl ?_
  refine am_wn rfl ?_
  exact ar_sw hz rfl k
set_option maxRecDepth 100000 in
theorem b_law_32_c3 {sc : Int → Int} {σ : St} {Q : Ou → St → Nat → Prop} (z4 : Int) (v5 : AV) (v6 : AV) (h0 : 0 ≤ z4 ∧ z4 < sc (-1)) (hz : ((sc z4) % 32) = 3) (k : am_wp sc am_law 328 [.inr (.inl 28), .inr (.inl 0), .inr (.inl 1), .inr (.inl 26), .inl z4, v5, v6] [] σ Q) : am_wp sc am_law 32 [.inr (.inl 28), .inr (.inl 0), .inr (.inl 1), .inr (.inl 26), .inl z4, v5, v6] [] σ Q := by
  refine am_wn rfl ?_
  refine am_wn rfl ?_
  refine ar_sald rfl h0 ?_
  refine am_wn rfl ?_
  refine am_wn rfl ?_
  exact ar_sw hz rfl k
set_option maxRecDepth 100000 in
theorem b_law_32_c4 {sc : Int → Int} {σ : St} {Q : Ou → St → Nat → Prop} (z4 : Int) (v5 : AV) (v6 : AV) (h0 : 0 ≤ z4 ∧ z4 < sc (-1)) (hz : ((sc z4) % 32) = 4) (k : am_wp sc am_law 396 [.inr (.inl 28), .inr (.inl 0), .inr (.inl 1), .inr (.inl 26), .inl z4, v5, v6] [] σ Q) : am_wp sc am_law 32 [.inr (.inl 28), .inr (.inl 0), .inr (.inl 1), .inr (.inl 26), .inl z4, v5, v6] [] σ Q := by
  refine am_wn rfl ?_
  refine am_wn rfl ?_
  refine ar_sald rfl h0 ?_
  refine am_wn rfl ?_
  refine am_wn rfl ?_
  exact ar_sw hz rfl k
set_option maxRecDepth 100000 in
theorem b_law_32_c5 {sc : Int → Int} {σ : St} {Q : Ou → St → Nat → Prop} (z4 : Int) (v5 : AV) (v6 : AV) (h0 : 0 ≤ z4 ∧ z4 < sc (-1)) (hz : ((sc z4) % 32) = 5) (k : am_wp sc am_law 464 [.inr (.inl 28), .inr (.inl 0), .inr (.inl 1), .inr (.inl 26), .inl z4, v5, v6] [] σ Q) : am_wp sc am_law 32 [.inr (.inl 28), .inr (.inl 0), .inr (.inl 1), .inr (.inl 26), .inl z4, v5, v6] [] σ Q := by
  refine am_wn rfl ?_
  refine am_wn rfl ?_
  refine ar_sald rfl h0 ?_
  refine am_wn rfl ?_
  refine am_wn rfl ?_
  exact ar_sw hz rfl k
set_option maxRecDepth 100000 in
theorem b_law_32_c6 {sc : Int → Int} {σ : St} {Q : Ou → St → Nat → Prop} (z4 : Int) (v5 : AV) (v6 : AV) (h0 : 0 ≤ z4 ∧ z4 < sc (-1)) (hz : ((sc z4) % 32) = 6) (k : am_wp sc am_law 520 [.inr (.inl 28), .inr (.inl 0), .inr (.inl 1), .inr (.inl 26), .inl z4, v5, v6] [] σ Q) : am_wp sc am_law 32 [.inr (.inl 28), .inr (.inl 0), .inr (.inl 1), .inr (.inl 26), .inl z4, v5, v6] [] σ Q := by
  refine am_wn rfl ?_
  refine am_wn rfl ?_
  refine ar_sald rfl h0 ?_
  refine am_wn rfl ?_
  refine am_wn rfl ?_
  exact ar_sw hz rfl k
set_option maxRecDepth 100000 in
theorem b_law_32_c7 {sc : Int → Int} {σ : St} {Q : Ou → St → Nat → Prop} (z4 : Int) (v5 : AV) (v6 : AV) (h0 : 0 ≤ z4 ∧ z4 < sc (-1)) (hz : ((sc z4) % 32) = 7) (k : am_wp sc am_law 533 [.inr (.inl 28), .inr (.inl 0), .inr (.inl 1), .inr (.inl 26), .inl z4, v5, v6] [] σ Q) : am_wp sc am_law 32 [.inr (.inl 28), .inr (.inl 0), .inr (.inl 1), .inr (.inl 26), .inl z4, v5, v6] [] σ Q := by
  refine am_wn rfl ?_
  refine am_wn rfl ?_
  refine ar_sald rfl h0 ?_
  refine am_wn rfl ?_
  refine am_wn rfl ?_
  exact ar_sw hz rfl k
set_option maxRecDepth 100000 in
theorem b_law_32_c8 {sc : Int → Int} {σ : St} {Q : Ou → St → Nat → Prop} (z4 : Int) (v5 : AV) (v6 : AV) (h0 : 0 ≤ z4 ∧ z4 < sc (-1)) (hz : ((sc z4) % 32) = 8) (k : am_wp sc am_law 558 [.inr (.inl 28), .inr (.inl 0), .inr (.inl 1), .inr (.inl 26), .inl z4, v5, v6] [] σ Q) : am_wp sc am_law 32 [.inr (.inl 28), .inr (.inl 0), .inr (.inl 1), .inr (.inl 26), .inl z4, v5, v6] [] σ Q := by
  refine am_wn rfl ?_
  refine am_wn rfl ?_
  refine ar_sald rfl h0 ?_
  refine am_wn rfl ?_
  refine am_wn rfl ?_
  exact ar_sw hz rfl k
set_option maxRecDepth 100000 in
theorem b_law_32_c9 {sc : Int → Int} {σ : St} {Q : Ou → St → Nat → Prop} (z4 : Int) (v5 : AV) (v6 : AV) (h0 : 0 ≤ z4 ∧ z4 < sc (-1)) (hz : ((sc z4) % 32) = 9) (k : am_wp sc am_law 622 [.inr (.inl 28), .inr (.inl 0), .inr (.inl 1), .inr (.inl 26), .inl z4, v5, v6] [] σ Q) : am_wp sc am_law 32 [.inr (.inl 28), .inr (.inl 0), .inr (.inl 1), .inr (.inl 26), .inl z4, v5, v6] [] σ Q := by
  refine am_wn rfl ?_
  refine am_wn rfl ?_
  refine ar_sald rfl h0 ?_
  refine am_wn rfl ?_
  refine am_wn rfl ?_
  exact ar_sw hz rfl k
set_option maxRecDepth 100000 in
theorem b_law_32_c10 {sc : Int → Int} {σ : St} {Q : Ou → St → Nat → Prop} (z4 : Int) (v5 : AV) (v6 : AV) (h0 : 0 ≤ z4 ∧ z4 < sc (-1)) (hz : ((sc z4) % 32) = 10) (k : am_wp sc am_law 666 [.inr (.inl 28), .inr (.inl 0), .inr (.inl 1), .inr (.inl 26), .inl z4, v5, v6] [] σ Q) : am_wp sc am_law 32 [.inr (.inl 28), .inr (.inl 0), .inr (.inl 1), .inr (.inl 26), .inl z4, v5, v6] [] σ Q := by
  refine am_wn rfl ?_
  refine am_wn rfl ?_
  refine ar_sald rfl h0 ?_
  refine am_wn rfl ?_
  refine am_wn rfl ?_
  exact ar_sw hz rfl k
set_option maxRecDepth 100000 in
theorem b_law_32_c11 {sc : Int → Int} {σ : St} {Q : Ou → St → Nat → Prop} (z4 : Int) (v5 : AV) (v6 : AV) (h0 : 0 ≤ z4 ∧ z4 < sc (-1)) (hz : ((sc z4) % 32) = 11) (k : am_wp sc am_law 691 [.inr (.inl 28), .inr (.inl 0), .inr (.inl 1), .inr (.inl 26), .inl z4, v5, v6] [] σ Q) : am_wp sc am_law 32 [.inr (.inl 28), .inr (.inl 0), .inr (.inl 1), .inr (.inl 26), .inl z4, v5, v6] [] σ Q := by
  refine am_wn rfl ?_
  refine am_wn rfl ?_
  refine ar_sald rfl h0 ?_
  refine am_wn rfl ?_
  refine am_wn rfl ?_
  exact ar_sw hz rfl k
set_option maxRecDepth 100000 in
theorem b_law_32_c12 {sc : Int → Int} {σ : St} {Q : Ou → St → Nat → Prop} (z4 : Int) (v5 : AV) (v6 : AV) (h0 : 0 ≤ z4 ∧ z4 < sc (-1)) (hz : ((sc z4) % 32) = 12) (k : am_wp sc am_law 704 [.inr (.inl 28), .inr (.inl 0), .inr (.inl 1), .inr (.inl 26), .inl z4, v5, v6] [] σ Q) : am_wp sc am_law 32 [.inr (.inl 28), .inr (.inl 0), .inr (.inl 1), .inr (.inl 26), .inl z4, v5, v6] [] σ Q := by
  refine am_wn rfl ?_
  refine am_wn rfl ?_
  refine ar_sald rfl h0 ?_
  refine am_wn rfl ?_
  refine am_wn rfl ?_
  exact ar_sw hz rfl k
set_option maxRecDepth 100000 in
theorem b_law_32_c13 {sc : Int → Int} {σ : St} {Q : Ou → St → Nat → Prop} (z4 : Int) (v5 : AV) (v6 : AV) (h0 : 0 ≤ z4 ∧ z4 < sc (-1)) (hz : ((sc z4) % 32) = 13) (k : am_wp sc am_law 760 [.inr (.inl 28), .inr (.inl 0), .inr (.inl 1), .inr (.inl 26), .inl z4, v5, v6] [] σ Q) : am_wp sc am_law 32 [.inr (.inl 28), .inr (.inl 0), .inr (.inl 1), .inr (.inl 26), .inl z4, v5, v6] [] σ Q := by
  refine am_wn rfl ?_
  refine am_wn rfl ?_
  refine ar_sald rfl h0 ?_
  refine am_wn rfl ?_
  refine am_wn rfl ?_
  exact ar_sw hz rfl k
set_option maxRecDepth 100000 in
theorem b_law_32_c14 {sc : Int → Int} {σ : St} {Q : Ou → St → Nat → Prop} (z4 : Int) (v5 : AV) (v6 : AV) (h0 : 0 ≤ z4 ∧ z4 < sc (-1)) (hz : ((sc z4) % 32) = 14) (k : am_wp sc am_law 828 [.inr (.inl 28), .inr (.inl 0), .inr (.inl 1), .inr (.inl 26), .inl z4, v5, v6] [] σ Q) : am_wp sc am_law 32 [.inr (.inl 28), .inr (.inl 0), .inr (.inl 1), .inr (.inl 26), .inl z4, v5, v6] [] σ Q := by
  refine am_wn rfl ?_
  refine am_wn rfl ?_
  refine ar_sald rfl h0 ?_
  refine am_wn rfl ?_
  refine am_wn rfl ?_
  exact ar_sw hz rfl k
set_option maxRecDepth 100000 in
theorem b_law_32_c15 {sc : Int → Int} {σ : St} {Q : Ou → St → Nat → Prop} (z4 : Int) (v5 : AV) (v6 : AV) (h0 : 0 ≤ z4 ∧ z4 < sc (-1)) (hz : ((sc z4) % 32) = 15) (k : am_wp sc am_law 884 [.inr (.inl 28), .inr (.inl 0), .inr (.inl 1), .inr (.inl 26), .inl z4, v5, v6] [] σ Q) : am_wp sc am_law 32 [.inr (.inl 28), .inr (.inl 0), .inr (.inl 1), .inr (.inl 26), .inl z4, v5, v6] [] σ Q := by
  refine am_wn rfl ?_
  refine am_wn rfl ?_
  refine ar_sald rfl h0 ?_
  refine am_wn rfl ?_
  refine am_wn rfl ?_
  exact ar_sw hz rfl k
set_option maxRecDepth 100000 in
theorem b_law_32_c16 {sc : Int → Int} {σ : St} {Q : Ou → St → Nat → Prop} (z4 : Int) (v5 : AV) (v6 : AV) (h0 : 0 ≤ z4 ∧ z4 < sc (-1)) (hz : ((sc z4) % 32) = 16) (k : am_wp sc am_law 952 [.inr (.inl 28), .inr (.inl 0), .inr (.inl 1), .inr (.inl 26), .inl z4, v5, v6] [] σ Q) : am_wp sc am_law 32 [.inr (.inl 28), .inr (.inl 0), .inr (.inl 1), .inr (.inl 26), .inl z4, v5, v6] [] σ Q := by
  refine am_wn rfl ?_
  refine am_wn rfl ?_
  refine ar_sald rfl h0 ?_
  refine am_wn rfl ?_
  refine am_wn rfl ?_
  exact ar_sw hz rfl k
set_option maxRecDepth 100000 in
theorem b_law_32_c17 {sc : Int → Int} {σ : St} {Q : Ou → St → Nat → Prop} (z4 : Int) (v5 : AV) (v6 : AV) (h0 : 0 ≤ z4 ∧ z4 < sc (-1)) (hz : ((sc z4) % 32) = 17) (k : am_wp sc am_law 1008 [.inr (.inl 28), .inr (.inl 0), .inr (.inl 1), .inr (.inl 26), .inl z4, v5, v6] [] σ Q) : am_wp sc am_law 32 [.inr (.inl 28), .inr (.inl 0), .inr (.inl 1), .inr (.inl 26), .inl z4, v5, v6] [] σ Q := by
  refine am_wn rfl ?_
  refine am_wn rfl ?_
  refine ar_sald rfl h0 ?_
  refine am_wn rfl ?_
  refine am_wn rfl ?_
  exact ar_sw hz rfl k
set_option maxRecDepth 100000 in
theorem b_law_32_d {sc : Int → Int} {σ : St} {Q : Ou → St → Nat → Prop} (z4 : Int) (v5 : AV) (v6 : AV) (h0 : 0 ≤ z4 ∧ z4 < sc (-1)) (hz : ((sc z4) % 32) < 0 ∨ 18 ≤ ((sc z4) % 32)) (k : am_wp sc am_law 1019 [.inr (.inl 28), .inr (.inl 0), .inr (.inl 1), .inr (.inl 26), .inl z4, v5, v6] [] σ Q) : am_wp sc am_law 32 [.inr (.inl 28), .inr (.inl 0), .inr (.inl 1), .inr (.inl 26), .inl z4, v5, v6] [] σ Q := by
  refine am_wn rfl ?_
  refine am_wn rfl ?_
  refine ar_sald rfl h0 ?_
  refine am_wn rfl ?_
  refine am_wn rfl ?_
  exact ar_swd rfl hz k
set_option maxRecDepth 100000 in
theorem b_law_124 {sc : Int → Int} {σ : St} {Q : Ou → St → Nat → Prop} (z4 : Int) (v5 : AV) (v6 : AV) (h0 : am_R (z4 + 1)) (h1 : 0 ≤ (z4 + 1) ∧ (z4 + 1) < sc (-1)) (k : am_wp sc 88 0 [.inr (.inl 0), .inl (sc (z4 + 1)), .inr (.inl 26), .inr (.inr 0)] [] σ (am_bk sc am_law 132 [.inr (.inl 28), .inr (.inl 0), .inr (.inl 1), .inr (.inl 26), .inl z4, v5, v6] [] Q)) : am_wp sc am_law 124 [.inr (.inl 28), .inr (.inl 0), .inr (.inl 1), .inr (.inl 26), .inl z4, v5, v6] [] σ Q := by
  refine am_wn rfl ?_
  refine am_wn rfl ?_
  refine am_wn rfl ?_
  refine am_wn rfl ?_
  refine ar_add rfl h0 ?_
  refine ar_sald rfl h1 ?_
  refine am_wn rfl ?_
  exact am_wc rfl (by decide) (by decide) rfl k
set_option maxRecDepth 100000 in
theorem b_law_135 {sc : Int → Int} {σ : St} {Q : Ou → St → Nat → Prop} (z4 : Int) (v5 : AV) (v6 : AV) (s0 : Int) (h0 : am_R (z4 + 1)) (h1 : 0 ≤ (z4 + 1) ∧ (z4 + 1) < sc (-1)) (k : am_wp sc 65 0 [.inr (.inl 1), .inl (sc (z4 + 1)), .inr (.inr 0), .inr (.inr 0), .inr (.inr 0)] [] σ (am_bk sc am_law 144 [.inr (.inl 28), .inr (.inl 0), .inr (.inl 1), .inr (.inl 26), .inl z4, .inl s0, v6] [] Q)) : am_wp sc am_law 135 [.inr (.inl 28), .inr (.inl 0), .inr (.inl 1), .inr (.inl 26), .inl z4, v5, v6] [.inl s0] σ Q := by
  refine am_wn rfl ?_
  refine am_wn rfl ?_
  refine am_wn rfl ?_
  refine am_wn rfl ?_
  refine am_wn rfl ?_
  refine ar_add rfl h0 ?_
  refine ar_sald rfl h1 ?_
  exact am_wc rfl (by decide) (by decide) rfl k
set_option maxRecDepth 100000 in
theorem b_law_147 {sc : Int → Int} {σ : St} {Q : Ou → St → Nat → Prop} (z4 : Int) (z5 : Int) (v6 : AV) (s0 : Int) (k : am_wp sc 48 0 [.inr (.inl 1)] [] σ (am_bk sc am_law 150 [.inr (.inl 28), .inr (.inl 0), .inr (.inl 1), .inr (.inl 26), .inl z4, .inl z5, .inl s0] [] Q)) : am_wp sc am_law 147 [.inr (.inl 28), .inr (.inl 0), .inr (.inl 1), .inr (.inl 26), .inl z4, .inl z5, v6] [.inl s0] σ Q := by
  refine am_wn rfl ?_
  refine am_wn rfl ?_
  exact am_wc rfl (by decide) (by decide) rfl k
set_option maxRecDepth 100000 in
theorem b_law_153 {sc : Int → Int} {σ : St} {Q : Ou → St → Nat → Prop} (z4 : Int) (z5 : Int) (z6 : Int) (s0 : Int) (k1 : (s0 = z5) → am_wp sc am_law 160 [.inr (.inl 28), .inr (.inl 0), .inr (.inl 1), .inr (.inl 26), .inl z4, .inl z5, .inl z6] [] σ Q) (k2 : ¬ (s0 = z5) → am_wp sc am_law 158 [.inr (.inl 28), .inr (.inl 0), .inr (.inl 1), .inr (.inl 26), .inl z4, .inl z5, .inl z6] [] σ Q) : am_wp sc am_law 153 [.inr (.inl 28), .inr (.inl 0), .inr (.inl 1), .inr (.inl 26), .inl z4, .inl z5, .inl z6] [.inl s0] σ Q := by
  refine am_wn rfl ?_
  exact ar_br (c := s0 = z5) rfl k1 k2
set_option maxRecDepth 100000 in
theorem b_law_158 {sc : Int → Int} {σ : St} {Q : Ou → St → Nat → Prop} (z4 : Int) (z5 : Int) (z6 : Int) (k : Q (.inl (some 0)) σ 0) : am_wp sc am_law 158 [.inr (.inl 28), .inr (.inl 0), .inr (.inl 1), .inr (.inl 26), .inl z4, .inl z5, .inl z6] [] σ Q := by
  refine am_wn rfl ?_
  exact am_w61 rfl (Or.inl rfl) k
set_option maxRecDepth 100000 in
theorem b_law_160 {sc : Int → Int} {σ : St} {Q : Ou → St → Nat → Prop} (z4 : Int) (z5 : Int) (z6 : Int) (k1 : (z5 ≠ 0) → am_wp sc am_law 177 [.inr (.inl 28), .inr (.inl 0), .inr (.inl 1), .inr (.inl 26), .inl z4, .inl z5, .inl z6] [] σ Q) (k2 : ¬ (z5 ≠ 0) → am_wp sc am_law 165 [.inr (.inl 28), .inr (.inl 0), .inr (.inl 1), .inr (.inl 26), .inl z4, .inl z5, .inl z6] [] σ Q) : am_wp sc am_law 160 [.inr (.inl 28), .inr (.inl 0), .inr (.inl 1), .inr (.inl 26), .inl z4, .inl z5, .inl z6] [] σ Q := by
  refine am_wn rfl ?_
  exact ar_br (c := z5 ≠ 0) rfl k1 k2
set_option maxRecDepth 100000 in
theorem b_law_165 {sc : Int → Int} {σ : St} {Q : Ou → St → Nat → Prop} (z4 : Int) (z5 : Int) (z6 : Int) (k1 : ((if z6 < (σ 26 0) then 1 else if (σ 26 0) = z6 then 0 else -1) = 0) → am_wp sc am_law 177 [.inr (.inl 28), .inr (.inl 0), .inr (.inl 1), .inr (.inl 26), .inl z4, .inl z5, .inl z6] [] σ Q) (k2 : ¬ ((if z6 < (σ 26 0) then 1 else if (σ 26 0) = z6 then 0 else -1) = 0) → am_wp sc am_law 175 [.inr (.inl 28), .inr (.inl 0), .inr (.inl 1), .inr (.inl 26), .inl z4, .inl z5, .inl z6] [] σ Q) : am_wp sc am_law 165 [.inr (.inl 28), .inr (.inl 0), .inr (.inl 1), .inr (.inl 26), .inl z4, .inl z5, .inl z6] [] σ Q := by
  refine am_wn rfl ?_
  refine am_wn rfl ?_
  refine am_wn rfl ?_
  refine am_wn rfl ?_
  refine am_wn rfl ?_
  refine am_wn rfl ?_
  exact ar_br (c := (if z6 < (σ 26 0) then 1 else if (σ 26 0) = z6 then 0 else -1) = 0) rfl k1 k2
set_option maxRecDepth 100000 in
theorem b_law_175 {sc : Int → Int} {σ : St} {Q : Ou → St → Nat → Prop} (z4 : Int) (z5 : Int) (z6 : Int) (k : Q (.inl (some 0)) σ 0) : am_wp sc am_law 175 [.inr (.inl 28), .inr (.inl 0), .inr (.inl 1), .inr (.inl 26), .inl z4, .inl z5, .inl z6] [] σ Q := by
  refine am_wn rfl ?_
  exact am_w61 rfl (Or.inl rfl) k
set_option maxRecDepth 100000 in
theorem b_law_177 {sc : Int → Int} {σ : St} {Q : Ou → St → Nat → Prop} (z4 : Int) (z5 : Int) (z6 : Int) (k : am_wp sc am_law 1019 [.inr (.inl 28), .inr (.inl 0), .inr (.inl 1), .inr (.inl 26), .inl z4, .inl z5, .inl z6] [] σ Q) : am_wp sc am_law 177 [.inr (.inl 28), .inr (.inl 0), .inr (.inl 1), .inr (.inl 26), .inl z4, .inl z5, .inl z6] [] σ Q := by
  refine am_wn rfl ?_
  exact k
set_option maxRecDepth 100000 in
theorem b_law_180 {sc : Int → Int} {σ : St} {Q : Ou → St → Nat → Prop} (z4 : Int) (v5 : AV) (v6 : AV) (h0 : am_R (z4 + 1)) (h1 : 0 ≤ (z4 + 1) ∧ (z4 + 1) < sc (-1)) (h2 : am_R (z4 + 2)) (h3 : 0 ≤ (z4 + 2) ∧ (z4 + 2) < sc (-1)) (h4 : am_R (z4 + 3)) (h5 : 0 ≤ (z4 + 3) ∧ (z4 + 3) < sc (-1)) (k : am_wp sc 89 0 [.inr (.inl 0), .inl (sc (z4 + 1)), .inl (sc (z4 + 2)), .inl (sc (z4 + 3)), .inr (.inr 0)] [] σ (am_bk sc am_law 199 [.inr (.inl 28), .inr (.inl 0), .inr (.inl 1), .inr (.inl 26), .inl z4, v5, v6] [] Q)) : am_wp sc am_law 180 [.inr (.inl 28), .inr (.inl 0), .inr (.inl 1), .inr (.inl 26), .inl z4, v5, v6] [] σ Q := by
  refine am_wn rfl ?_
  refine am_wn rfl ?_
  refine am_wn rfl ?_
  refine am_wn rfl ?_
  refine ar_add rfl h0 ?_
  refine ar_sald rfl h1 ?_
  refine am_wn rfl ?_
  refine am_wn rfl ?_
  refine am_wn rfl ?_
  refine ar_add rfl h2 ?_
  refine ar_sald rfl h3 ?_
  refine am_wn rfl ?_
  refine am_wn rfl ?_
  refine am_wn rfl ?_
  refine ar_add rfl h4 ?_
  refine ar_sald rfl h5 ?_
  exact am_wc rfl (by decide) (by decide) rfl k
set_option maxRecDepth 100000 in
theorem b_law_202 {sc : Int → Int} {σ : St} {Q : Ou → St → Nat → Prop} (z4 : Int) (v5 : AV) (v6 : AV) (s0 : Int) (h0 : am_R (z4 + 1)) (h1 : 0 ≤ (z4 + 1) ∧ (z4 + 1) < sc (-1)) (h2 : am_R (z4 + 2)) (h3 : 0 ≤ (z4 + 2) ∧ (z4 + 2) < sc (-1)) (h4 : am_R (z4 + 3)) (h5 : 0 ≤ (z4 + 3) ∧ (z4 + 3) < sc (-1)) (k : am_wp sc 66 0 [.inr (.inl 1), .inl (sc (z4 + 1)), .inl (sc (z4 + 2)), .inl (sc (z4 + 3))] [] σ (am_bk sc am_law 223 [.inr (.inl 28), .inr (.inl 0), .inr (.inl 1), .inr (.inl 26), .inl z4, .inl s0, v6] [] Q)) : am_wp sc am_law 202 [.inr (.inl 28), .inr (.inl 0), .inr (.inl 1), .inr (.inl 26), .inl z4, v5, v6] [.inl s0] σ Q := by
  refine am_wn rfl ?_
  refine am_wn rfl ?_
  refine am_wn rfl ?_
  refine am_wn rfl ?_
  refine am_wn rfl ?_
  refine ar_add rfl h0 ?_
  refine ar_sald rfl h1 ?_
  refine am_wn rfl ?_
  refine am_wn rfl ?_
  refine am_wn rfl ?_
  refine ar_add rfl h2 ?_
  refine ar_sald rfl h3 ?_
  refine am_wn rfl ?_
  refine am_wn rfl ?_
  refine am_wn rfl ?_
  refine ar_add rfl h4 ?_
  refine ar_sald rfl h5 ?_
  exact am_wc rfl (by decide) (by decide) rfl k
set_option maxRecDepth 100000 in
theorem b_law_226 {sc : Int → Int} {σ : St} {Q : Ou → St → Nat → Prop} (z4 : Int) (z5 : Int) (v6 : AV) (k : am_wp sc 48 0 [.inr (.inl 1)] [] σ (am_bk sc am_law 227 [.inr (.inl 28), .inr (.inl 0), .inr (.inl 1), .inr (.inl 26), .inl z4, .inl z5, v6] [] Q)) : am_wp sc am_law 226 [.inr (.inl 28), .inr (.inl 0), .inr (.inl 1), .inr (.inl 26), .inl z4, .inl z5, v6] [] σ Q := by
  refine am_wn rfl ?_
  exact am_wc rfl (by decide) (by decide) rfl k
set_option maxRecDepth 100000 in
theorem b_law_230 {sc : Int → Int} {σ : St} {Q : Ou → St → Nat → Prop} (z4 : Int) (z5 : Int) (v6 : AV) (s0 : Int) (k1 : (s0 = z5) → am_wp sc am_law 237 [.inr (.inl 28), .inr (.inl 0), .inr (.inl 1), .inr (.inl 26), .inl z4, .inl z5, v6] [] σ Q) (k2 : ¬ (s0 = z5) → am_wp sc am_law 235 [.inr (.inl 28), .inr (.inl 0), .inr (.inl 1), .inr (.inl 26), .inl z4, .inl z5, v6] [] σ Q) : am_wp sc am_law 230 [.inr (.inl 28), .inr (.inl 0), .inr (.inl 1), .inr (.inl 26), .inl z4, .inl z5, v6] [.inl s0] σ Q := by
  refine am_wn rfl ?_
  exact ar_br (c := s0 = z5) rfl k1 k2
set_option maxRecDepth 100000 in
theorem b_law_235 {sc : Int → Int} {σ : St} {Q : Ou → St → Nat → Prop} (z4 : Int) (z5 : Int) (v6 : AV) (k : Q (.inl (some 0)) σ 0) : am_wp sc am_law 235 [.inr (.inl 28), .inr (.inl 0), .inr (.inl 1), .inr (.inl 26), .inl z4, .inl z5, v6] [] σ Q := by
  refine am_wn rfl ?_
  exact am_w61 rfl (Or.inl rfl) k
set_option maxRecDepth 100000 in
theorem b_law_237 {sc : Int → Int} {σ : St} {Q : Ou → St → Nat → Prop} (z4 : Int) (z5 : Int) (v6 : AV) (k : am_wp sc am_law 1019 [.inr (.inl 28), .inr (.inl 0), .inr (.inl 1), .inr (.inl 26), .inl z4, .inl z5, v6] [] σ Q) : am_wp sc am_law 237 [.inr (.inl 28), .inr (.inl 0), .inr (.inl 1), .inr (.inl 26), .inl z4, .inl z5, v6] [] σ Q := by
  refine am_wn rfl ?_
  exact k
set_option maxRecDepth 100000 in
theorem b_law_240 {sc : Int → Int} {σ : St} {Q : Ou → St → Nat → Prop} (z4 : Int) (v5 : AV) (v6 : AV) (h0 : am_R (z4 + 1)) (h1 : 0 ≤ (z4 + 1) ∧ (z4 + 1) < sc (-1)) (h2 : am_R (z4 + 2)) (h3 : 0 ≤ (z4 + 2) ∧ (z4 + 2) < sc (-1)) (h4 : am_R (z4 + 3)) (h5 : 0 ≤ (z4 + 3) ∧ (z4 + 3) < sc (-1)) (h6 : am_R (z4 + 4)) (h7 : 0 ≤ (z4 + 4) ∧ (z4 + 4) < sc (-1)) (k1 : ((sc (z4 + 4)) = 0) → am_wp sc am_law 272 [.inr (.inl 28), .inr (.inl 0), .inr (.inl 1), .inr (.inl 26), .inl z4, v5, v6] [.inl (sc (z4 + 3)), .inl (sc (z4 + 2)), .inl (sc (z4 + 1)), .inr (.inl 0)] σ Q) (k2 : ¬ ((sc (z4 + 4)) = 0) → am_wp sc am_law 268 [.inr (.inl 28), .inr (.inl 0), .inr (.inl 1), .inr (.inl 26), .inl z4, v5, v6] [.inl (sc (z4 + 3)), .inl (sc (z4 + 2)), .inl (sc (z4 + 1)), .inr (.inl 0)] σ Q) : am_wp sc am_law 240 [.inr (.inl 28), .inr (.inl 0), .inr (.inl 1), .inr (.inl 26), .inl z4, v5, v6] [] σ Q := by
  refine am_wn rfl ?_
  refine am_wn rfl ?_
  refine am_wn rfl ?_
  refine am_wn rfl ?_
  refine ar_add rfl h0 ?_
  refine ar_sald rfl h1 ?_
  refine am_wn rfl ?_
  refine am_wn rfl ?_
  refine am_wn rfl ?_
  refine ar_add rfl h2 ?_
  refine ar_sald rfl h3 ?_
  refine am_wn rfl ?_
  refine am_wn rfl ?_
  refine am_wn rfl ?_
  refine ar_add rfl h4 ?_
  refine ar_sald rfl h5 ?_
  refine am_wn rfl ?_
  refine am_wn rfl ?_
  refine am_wn rfl ?_
  refine ar_add rfl h6 ?_
  refine ar_sald rfl h7 ?_
  exact ar_br (c := (sc (z4 + 4)) = 0) rfl k1 k2
set_option maxRecDepth 100000 in
theorem b_law_268 {sc : Int → Int} {σ : St} {Q : Ou → St → Nat → Prop} (z4 : Int) (v5 : AV) (v6 : AV) (s1 : Int) (s2 : Int) (s3 : Int) (k : am_wp sc am_law 273 [.inr (.inl 28), .inr (.inl 0), .inr (.inl 1), .inr (.inl 26), .inl z4, v5, v6] [.inl 1, .inl s3, .inl s2, .inl s1, .inr (.inl 0)] σ Q) : am_wp sc am_law 268 [.inr (.inl 28), .inr (.inl 0), .inr (.inl 1), .inr (.inl 26), .inl z4, v5, v6] [.inl s3, .inl s2, .inl s1, .inr (.inl 0)] σ Q := by
  refine am_wn rfl ?_
  refine am_wn rfl ?_
  exact k
set_option maxRecDepth 100000 in
theorem b_law_272 {sc : Int → Int} {σ : St} {Q : Ou → St → Nat → Prop} (z4 : Int) (v5 : AV) (v6 : AV) (s1 : Int) (s2 : Int) (s3 : Int) (k : am_wp sc am_law 273 [.inr (.inl 28), .inr (.inl 0), .inr (.inl 1), .inr (.inl 26), .inl z4, v5, v6] [.inl 0, .inl s3, .inl s2, .inl s1, .inr (.inl 0)] σ Q) : am_wp sc am_law 272 [.inr (.inl 28), .inr (.inl 0), .inr (.inl 1), .inr (.inl 26), .inl z4, v5, v6] [.inl s3, .inl s2, .inl s1, .inr (.inl 0)] σ Q := by
  refine am_wn rfl ?_
  exact k
set_option maxRecDepth 100000 in
theorem b_law_273 {sc : Int → Int} {σ : St} {Q : Ou → St → Nat → Prop} (z4 : Int) (v5 : AV) (v6 : AV) (s1 : Int) (s2 : Int) (s3 : Int) (s4 : Int) (k : am_wp sc 90 0 [.inr (.inl 0), .inl s1, .inl s2, .inl s3, .inl s4, .inr (.inr 0)] [] σ (am_bk sc am_law 273 [.inr (.inl 28), .inr (.inl 0), .inr (.inl 1), .inr (.inl 26), .inl z4, v5, v6] [] Q)) : am_wp sc am_law 273 [.inr (.inl 28), .inr (.inl 0), .inr (.inl 1), .inr (.inl 26), .inl z4, v5, v6] [.inl s4, .inl s3, .inl s2, .inl s1, .inr (.inl 0)] σ Q := by
  exact am_wc rfl (by decide) (by decide) rfl k
set_option maxRecDepth 100000 in
theorem b_law_276 {sc : Int → Int} {σ : St} {Q : Ou → St → Nat → Prop} (z4 : Int) (v5 : AV) (v6 : AV) (s0 : Int) (h0 : am_R (z4 + 1)) (h1 : 0 ≤ (z4 + 1) ∧ (z4 + 1) < sc (-1)) (h2 : am_R (z4 + 2)) (h3 : 0 ≤ (z4 + 2) ∧ (z4 + 2) < sc (-1)) (h4 : am_R (z4 + 3)) (h5 : 0 ≤ (z4 + 3) ∧ (z4 + 3) < sc (-1)) (h6 : am_R (z4 + 4)) (h7 : 0 ≤ (z4 + 4) ∧ (z4 + 4) < sc (-1)) (k1 : ((sc (z4 + 4)) = 0) → am_wp sc am_law 310 [.inr (.inl 28), .inr (.inl 0), .inr (.inl 1), .inr (.inl 26), .inl z4, .inl s0, v6] [.inl (sc (z4 + 3)), .inl (sc (z4 + 2)), .inl (sc (z4 + 1)), .inr (.inl 1)] σ Q) (k2 : ¬ ((sc (z4 + 4)) = 0) → am_wp sc am_law 306 [.inr (.inl 28), .inr (.inl 0), .inr (.inl 1), .inr (.inl 26), .inl z4, .inl s0, v6] [.inl (sc (z4 + 3)), .inl (sc (z4 + 2)), .inl (sc (z4 + 1)), .inr (.inl 1)] σ Q) : am_wp sc am_law 276 [.inr (.inl 28), .inr (.inl 0), .inr (.inl 1), .inr (.inl 26), .inl z4, v5, v6] [.inl s0] σ Q := by
  refine am_wn rfl ?_
  refine am_wn rfl ?_
  refine am_wn rfl ?_
  refine am_wn rfl ?_
  refine am_wn rfl ?_
  refine ar_add rfl h0 ?_
  refine ar_sald rfl h1 ?_
  refine am_wn rfl ?_
  refine am_wn rfl ?_
  refine am_wn rfl ?_
  refine ar_add rfl h2 ?_
  refine ar_sald rfl h3 ?_
  refine am_wn rfl ?_
  refine am_wn rfl ?_
  refine am_wn rfl ?_
  refine ar_add rfl h4 ?_
  refine ar_sald rfl h5 ?_
  refine am_wn rfl ?_
  refine am_wn rfl ?_
  refine am_wn rfl ?_
  refine ar_add rfl h6 ?_
  refine ar_sald rfl h7 ?_
  exact ar_br (c := (sc (z4 + 4)) = 0) rfl k1 k2
set_option maxRecDepth 100000 in
theorem b_law_306 {sc : Int → Int} {σ : St} {Q : Ou → St → Nat → Prop} (z4 : Int) (z5 : Int) (v6 : AV) (s1 : Int) (s2 : Int) (s3 : Int) (k : am_wp sc am_law 311 [.inr (.inl 28), .inr (.inl 0), .inr (.inl 1), .inr (.inl 26), .inl z4, .inl z5, v6] [.inl 1, .inl s3, .inl s2, .inl s1, .inr (.inl 1)] σ Q) : am_wp sc am_law 306 [.inr (.inl 28), .inr (.inl 0), .inr (.inl 1), .inr (.inl 26), .inl z4, .inl z5, v6] [.inl s3, .inl s2, .inl s1, .inr (.inl 1)] σ Q := by
  refine am_wn rfl ?_
  refine am_wn rfl ?_
  exact k
set_option maxRecDepth 100000 in
theorem b_law_310 {sc : Int → Int} {σ : St} {Q : Ou → St → Nat → Prop} (z4 : Int) (z5 : Int) (v6 : AV) (s1 : Int) (s2 : Int) (s3 : Int) (k : am_wp sc am_law 311 [.inr (.inl 28), .inr (.inl 0), .inr (.inl 1), .inr (.inl 26), .inl z4, .inl z5, v6] [.inl 0, .inl s3, .inl s2, .inl s1, .inr (.inl 1)] σ Q) : am_wp sc am_law 310 [.inr (.inl 28), .inr (.inl 0), .inr (.inl 1), .inr (.inl 26), .inl z4, .inl z5, v6] [.inl s3, .inl s2, .inl s1, .inr (.inl 1)] σ Q := by
  refine am_wn rfl ?_
  exact k
set_option maxRecDepth 100000 in
theorem b_law_311 {sc : Int → Int} {σ : St} {Q : Ou → St → Nat → Prop} (z4 : Int) (z5 : Int) (v6 : AV) (s1 : Int) (s2 : Int) (s3 : Int) (s4 : Int) (k : am_wp sc 67 0 [.inr (.inl 1), .inl s1, .inl s2, .inl s3, .inl s4] [] σ (am_bk sc am_law 311 [.inr (.inl 28), .inr (.inl 0), .inr (.inl 1), .inr (.inl 26), .inl z4, .inl z5, v6] [] Q)) : am_wp sc am_law 311 [.inr (.inl 28), .inr (.inl 0), .inr (.inl 1), .inr (.inl 26), .inl z4, .inl z5, v6] [.inl s4, .inl s3, .inl s2, .inl s1, .inr (.inl 1)] σ Q := by
  exact am_wc rfl (by decide) (by decide) rfl k
set_option maxRecDepth 100000 in
theorem b_law_314 {sc : Int → Int} {σ : St} {Q : Ou → St → Nat → Prop} (z4 : Int) (z5 : Int) (v6 : AV) (k : am_wp sc 48 0 [.inr (.inl 1)] [] σ (am_bk sc am_law 315 [.inr (.inl 28), .inr (.inl 0), .inr (.inl 1), .inr (.inl 26), .inl z4, .inl z5, v6] [] Q)) : am_wp sc am_law 314 [.inr (.inl 28), .inr (.inl 0), .inr (.inl 1), .inr (.inl 26), .inl z4, .inl z5, v6] [] σ Q := by
  refine am_wn rfl ?_
  exact am_wc rfl (by decide) (by decide) rfl k
set_option maxRecDepth 100000 in
theorem b_law_318 {sc : Int → Int} {σ : St} {Q : Ou → St → Nat → Prop} (z4 : Int) (z5 : Int) (v6 : AV) (s0 : Int) (k1 : (s0 = z5) → am_wp sc am_law 325 [.inr (.inl 28), .inr (.inl 0), .inr (.inl 1), .inr (.inl 26), .inl z4, .inl z5, v6] [] σ Q) (k2 : ¬ (s0 = z5) → am_wp sc am_law 323 [.inr (.inl 28), .inr (.inl 0), .inr (.inl 1), .inr (.inl 26), .inl z4, .inl z5, v6] [] σ Q) : am_wp sc am_law 318 [.inr (.inl 28), .inr (.inl 0), .inr (.inl 1), .inr (.inl 26), .inl z4, .inl z5, v6] [.inl s0] σ Q := by
  refine am_wn rfl ?_
  exact ar_br (c := s0 = z5) rfl k1 k2
set_option maxRecDepth 100000 in
theorem b_law_323 {sc : Int → Int} {σ : St} {Q : Ou → St → Nat → Prop} (z4 : Int) (z5 : Int) (v6 : AV) (k : Q (.inl (some 0)) σ 0) : am_wp sc am_law 323 [.inr (.inl 28), .inr (.inl 0), .inr (.inl 1), .inr (.inl 26), .inl z4, .inl z5, v6] [] σ Q := by
  refine am_wn rfl ?_
  exact am_w61 rfl (Or.inl rfl) k
set_option maxRecDepth 100000 in
theorem b_law_325 {sc : Int → Int} {σ : St} {Q : Ou → St → Nat → Prop} (z4 : Int) (z5 : Int) (v6 : AV) (k : am_wp sc am_law 1019 [.inr (.inl 28), .inr (.inl 0), .inr (.inl 1), .inr (.inl 26), .inl z4, .inl z5, v6] [] σ Q) : am_wp sc am_law 325 [.inr (.inl 28), .inr (.inl 0), .inr (.inl 1), .inr (.inl 26), .inl z4, .inl z5, v6] [] σ Q := by
  refine am_wn rfl ?_
  exact k
set_option maxRecDepth 100000 in
theorem b_law_328 {sc : Int → Int} {σ : St} {Q : Ou → St → Nat → Prop} (z4 : Int) (v5 : AV) (v6 : AV) (h0 : am_R (z4 + 1)) (h1 : 0 ≤ (z4 + 1) ∧ (z4 + 1) < sc (-1)) (h2 : am_R (z4 + 2)) (h3 : 0 ≤ (z4 + 2) ∧ (z4 + 2) < sc (-1)) (k : am_wp sc 91 0 [.inr (.inl 0), .inl (sc (z4 + 1)), .inl (sc (z4 + 2)), .inr (.inl 26), .inr (.inr 0)] [] σ (am_bk sc am_law 342 [.inr (.inl 28), .inr (.inl 0), .inr (.inl 1), .inr (.inl 26), .inl z4, v5, v6] [] Q)) : am_wp sc am_law 328 [.inr (.inl 28), .inr (.inl 0), .inr (.inl 1), .inr (.inl 26), .inl z4, v5, v6] [] σ Q := by
  refine am_wn rfl ?_
  refine am_wn rfl ?_
  refine am_wn rfl ?_
  refine am_wn rfl ?_
  refine ar_add rfl h0 ?_
  refine ar_sald rfl h1 ?_
  refine am_wn rfl ?_
  refine am_wn rfl ?_
  refine am_wn rfl ?_
  refine ar_add rfl h2 ?_
  refine ar_sald rfl h3 ?_
  refine am_wn rfl ?_
  exact am_wc rfl (by decide) (by decide) rfl k
set_option maxRecDepth 100000 in
theorem b_law_345 {sc : Int → Int} {σ : St} {Q : Ou → St → Nat → Prop} (z4 : Int) (v5 : AV) (v6 : AV) (s0 : Int) (h0 : am_R (z4 + 1)) (h1 : 0 ≤ (z4 + 1) ∧ (z4 + 1) < sc (-1)) (h2 : am_R (z4 + 2)) (h3 : 0 ≤ (z4 + 2) ∧ (z4 + 2) < sc (-1)) (k : am_wp sc 68 0 [.inr (.inl 1), .inl (sc (z4 + 1)), .inl (sc (z4 + 2))] [] σ (am_bk sc am_law 360 [.inr (.inl 28), .inr (.inl 0), .inr (.inl 1), .inr (.inl 26), .inl z4, .inl s0, v6] [] Q)) : am_wp sc am_law 345 [.inr (.inl 28), .inr (.inl 0), .inr (.inl 1), .inr (.inl 26), .inl z4, v5, v6] [.inl s0] σ Q := by
  refine am_wn rfl ?_
  refine am_wn rfl ?_
  refine am_wn rfl ?_
  refine am_wn rfl ?_
  refine am_wn rfl ?_
  refine ar_add rfl h0 ?_
  refine ar_sald rfl h1 ?_
  refine am_wn rfl ?_
  refine am_wn rfl ?_
  refine am_wn rfl ?_
  refine ar_add rfl h2 ?_
  refine ar_sald rfl h3 ?_
  exact am_wc rfl (by decide) (by decide) rfl k
set_option maxRecDepth 100000 in
theorem b_law_363 {sc : Int → Int} {σ : St} {Q : Ou → St → Nat → Prop} (z4 : Int) (z5 : Int) (v6 : AV) (s0 : Int) (k : am_wp sc 48 0 [.inr (.inl 1)] [] σ (am_bk sc am_law 366 [.inr (.inl 28), .inr (.inl 0), .inr (.inl 1), .inr (.inl 26), .inl z4, .inl z5, .inl s0] [] Q)) : am_wp sc am_law 363 [.inr (.inl 28), .inr (.inl 0), .inr (.inl 1), .inr (.inl 26), .inl z4, .inl z5, v6] [.inl s0] σ Q := by
  refine am_wn rfl ?_
  refine am_wn rfl ?_
  exact am_wc rfl (by decide) (by decide) rfl k
set_option maxRecDepth 100000 in
theorem b_law_369 {sc : Int → Int} {σ : St} {Q : Ou → St → Nat → Prop} (z4 : Int) (z5 : Int) (z6 : Int) (s0 : Int) (k1 : (s0 = z5) → am_wp sc am_law 376 [.inr (.inl 28), .inr (.inl 0), .inr (.inl 1), .inr (.inl 26), .inl z4, .inl z5, .inl z6] [] σ Q) (k2 : ¬ (s0 = z5) → am_wp sc am_law 374 [.inr (.inl 28), .inr (.inl 0), .inr (.inl 1), .inr (.inl 26), .inl z4, .inl z5, .inl z6] [] σ Q) : am_wp sc am_law 369 [.inr (.inl 28), .inr (.inl 0), .inr (.inl 1), .inr (.inl 26), .inl z4, .inl z5, .inl z6] [.inl s0] σ Q := by
  refine am_wn rfl ?_
  exact ar_br (c := s0 = z5) rfl k1 k2
set_option maxRecDepth 100000 in
theorem b_law_374 {sc : Int → Int} {σ : St} {Q : Ou → St → Nat → Prop} (z4 : Int) (z5 : Int) (z6 : Int) (k : Q (.inl (some 0)) σ 0) : am_wp sc am_law 374 [.inr (.inl 28), .inr (.inl 0), .inr (.inl 1), .inr (.inl 26), .inl z4, .inl z5, .inl z6] [] σ Q := by
  refine am_wn rfl ?_
  exact am_w61 rfl (Or.inl rfl) k
set_option maxRecDepth 100000 in
theorem b_law_376 {sc : Int → Int} {σ : St} {Q : Ou → St → Nat → Prop} (z4 : Int) (z5 : Int) (z6 : Int) (k1 : (z5 ≠ 0) → am_wp sc am_law 393 [.inr (.inl 28), .inr (.inl 0), .inr (.inl 1), .inr (.inl 26), .inl z4, .inl z5, .inl z6] [] σ Q) (k2 : ¬ (z5 ≠ 0) → am_wp sc am_law 381 [.inr (.inl 28), .inr (.inl 0), .inr (.inl 1), .inr (.inl 26), .inl z4, .inl z5, .inl z6] [] σ Q) : am_wp sc am_law 376 [.inr (.inl 28), .inr (.inl 0), .inr (.inl 1), .inr (.inl 26), .inl z4, .inl z5, .inl z6] [] σ Q := by
  refine am_wn rfl ?_
  exact ar_br (c := z5 ≠ 0) rfl k1 k2
set_option maxRecDepth 100000 in
theorem b_law_381 {sc : Int → Int} {σ : St} {Q : Ou → St → Nat → Prop} (z4 : Int) (z5 : Int) (z6 : Int) (k1 : ((if z6 < (σ 26 0) then 1 else if (σ 26 0) = z6 then 0 else -1) = 0) → am_wp sc am_law 393 [.inr (.inl 28), .inr (.inl 0), .inr (.inl 1), .inr (.inl 26), .inl z4, .inl z5, .inl z6] [] σ Q) (k2 : ¬ ((if z6 < (σ 26 0) then 1 else if (σ 26 0) = z6 then 0 else -1) = 0) → am_wp sc am_law 391 [.inr (.inl 28), .inr (.inl 0), .inr (.inl 1), .inr (.inl 26), .inl z4, .inl z5, .inl z6] [] σ Q) : am_wp sc am_law 381 [.inr (.inl 28), .inr (.inl 0), .inr (.inl 1), .inr (.inl 26), .inl z4, .inl z5, .inl z6] [] σ Q := by
  refine am_wn rfl ?_
  refine am_wn rfl ?_
  refine am_wn rfl ?_
  refine am_wn rfl ?_
  refine am_wn rfl ?_
  refine am_wn rfl ?_
  exact ar_br (c := (if z6 < (σ 26 0) then 1 else if (σ 26 0) = z6 then 0 else -1) = 0) rfl k1 k2
set_option maxRecDepth 100000 in
theorem b_law_391 {sc : Int → Int} {σ : St} {Q : Ou → St → Nat → Prop} (z4 : Int) (z5 : Int) (z6 : Int) (k : Q (.inl (some 0)) σ 0) : am_wp sc am_law 391 [.inr (.inl 28), .inr (.inl 0), .inr (.inl 1), .inr (.inl 26), .inl z4, .inl z5, .inl z6] [] σ Q := by
  refine am_wn rfl ?_
  exact am_w61 rfl (Or.inl rfl) k
set_option maxRecDepth 100000 in
theorem b_law_393 {sc : Int → Int} {σ : St} {Q : Ou → St → Nat → Prop} (z4 : Int) (z5 : Int) (z6 : Int) (k : am_wp sc am_law 1019 [.inr (.inl 28), .inr (.inl 0), .inr (.inl 1), .inr (.inl 26), .inl z4, .inl z5, .inl z6] [] σ Q) : am_wp sc am_law 393 [.inr (.inl 28), .inr (.inl 0), .inr (.inl 1), .inr (.inl 26), .inl z4, .inl z5, .inl z6] [] σ Q := by
  refine am_wn rfl ?_
  exact k
set_option maxRecDepth 100000 in
theorem b_law_396 {sc : Int → Int} {σ : St} {Q : Ou → St → Nat → Prop} (z4 : Int) (v5 : AV) (v6 : AV) (h0 : am_R (z4 + 1)) (h1 : 0 ≤ (z4 + 1) ∧ (z4 + 1) < sc (-1)) (h2 : am_R (z4 + 2)) (h3 : 0 ≤ (z4 + 2) ∧ (z4 + 2) < sc (-1)) (k : am_wp sc 92 0 [.inr (.inl 0), .inl (sc (z4 + 1)), .inl (sc (z4 + 2)), .inr (.inl 26), .inr (.inr 0)] [] σ (am_bk sc am_law 410 [.inr (.inl 28), .inr (.inl 0), .inr (.inl 1), .inr (.inl 26), .inl z4, v5, v6] [] Q)) : am_wp sc am_law 396 [.inr (.inl 28), .inr (.inl 0), .inr (.inl 1), .inr (.inl 26), .inl z4, v5, v6] [] σ Q := by
  refine am_wn rfl ?_
  refine am_wn rfl ?_
  refine am_wn rfl ?_
  refine am_wn rfl ?_
  refine ar_add rfl h0 ?_
  refine ar_sald rfl h1 ?_
  refine am_wn rfl ?_
  refine am_wn rfl ?_
  refine am_wn rfl ?_
  refine ar_add rfl h2 ?_
  refine ar_sald rfl h3 ?_
  refine am_wn rfl ?_
  exact am_wc rfl (by decide) (by decide) rfl k
set_option maxRecDepth 100000 in
theorem b_law_413 {sc : Int → Int} {σ : St} {Q : Ou → St → Nat → Prop} (z4 : Int) (v5 : AV) (v6 : AV) (s0 : Int) (h0 : am_R (z4 + 1)) (h1 : 0 ≤ (z4 + 1) ∧ (z4 + 1) < sc (-1)) (h2 : am_R (z4 + 2)) (h3 : 0 ≤ (z4 + 2) ∧ (z4 + 2) < sc (-1)) (k : am_wp sc 69 0 [.inr (.inl 1), .inl (sc (z4 + 1)), .inl (sc (z4 + 2))] [] σ (am_bk sc am_law 428 [.inr (.inl 28), .inr (.inl 0), .inr (.inl 1), .inr (.inl 26), .inl z4, .inl s0, v6] [] Q)) : am_wp sc am_law 413 [.inr (.inl 28), .inr (.inl 0), .inr (.inl 1), .inr (.inl 26), .inl z4, v5, v6] [.inl s0] σ Q := by
  refine am_wn rfl ?_
  refine am_wn rfl ?_
  refine am_wn rfl ?_
  refine am_wn rfl ?_
  refine am_wn rfl ?_
  refine ar_add rfl h0 ?_
  refine ar_sald rfl h1 ?_
  refine am_wn rfl ?_
  refine am_wn rfl ?_
  refine am_wn rfl ?_
  refine ar_add rfl h2 ?_
  refine ar_sald rfl h3 ?_
  exact am_wc rfl (by decide) (by decide) rfl k
set_option maxRecDepth 100000 in
theorem b_law_431 {sc : Int → Int} {σ : St} {Q : Ou → St → Nat → Prop} (z4 : Int) (z5 : Int) (v6 : AV) (s0 : Int) (k : am_wp sc 48 0 [.inr (.inl 1)] [] σ (am_bk sc am_law 434 [.inr (.inl 28), .inr (.inl 0), .inr (.inl 1), .inr (.inl 26), .inl z4, .inl z5, .inl s0] [] Q)) : am_wp sc am_law 431 [.inr (.inl 28), .inr (.inl 0), .inr (.inl 1), .inr (.inl 26), .inl z4, .inl z5, v6] [.inl s0] σ Q := by
  refine am_wn rfl ?_
  refine am_wn rfl ?_
  exact am_wc rfl (by decide) (by decide) rfl k
set_option maxRecDepth 100000 in
theorem b_law_437 {sc : Int → Int} {σ : St} {Q : Ou → St → Nat → Prop} (z4 : Int) (z5 : Int) (z6 : Int) (s0 : Int) (k1 : (s0 = z5) → am_wp sc am_law 444 [.inr (.inl 28), .inr (.inl 0), .inr (.inl 1), .inr (.inl 26), .inl z4, .inl z5, .inl z6] [] σ Q) (k2 : ¬ (s0 = z5) → am_wp sc am_law 442 [.inr (.inl 28), .inr (.inl 0), .inr (.inl 1), .inr (.inl 26), .inl z4, .inl z5, .inl z6] [] σ Q) : am_wp sc am_law 437 [.inr (.inl 28), .inr (.inl 0), .inr (.inl 1), .inr (.inl 26), .inl z4, .inl z5, .inl z6] [.inl s0] σ Q := by
  refine am_wn rfl ?_
  exact ar_br (c := s0 = z5) rfl k1 k2
set_option maxRecDepth 100000 in
theorem b_law_442 {sc : Int → Int} {σ : St} {Q : Ou → St → Nat → Prop} (z4 : Int) (z5 : Int) (z6 : Int) (k : Q (.inl (some 0)) σ 0) : am_wp sc am_law 442 [.inr (.inl 28), .inr (.inl 0), .inr (.inl 1), .inr (.inl 26), .inl z4, .inl z5, .inl z6] [] σ Q := by
  refine am_wn rfl ?_
  exact am_w61 rfl (Or.inl rfl) k
set_option maxRecDepth 100000 in
theorem b_law_444 {sc : Int → Int} {σ : St} {Q : Ou → St → Nat → Prop} (z4 : Int) (z5 : Int) (z6 : Int) (k1 : (z5 ≠ 0) → am_wp sc am_law 461 [.inr (.inl 28), .inr (.inl 0), .inr (.inl 1), .inr (.inl 26), .inl z4, .inl z5, .inl z6] [] σ Q) (k2 : ¬ (z5 ≠ 0) → am_wp sc am_law 449 [.inr (.inl 28), .inr (.inl 0), .inr (.inl 1), .inr (.inl 26), .inl z4, .inl z5, .inl z6] [] σ Q) : am_wp sc am_law 444 [.inr (.inl 28), .inr (.inl 0), .inr (.inl 1), .inr (.inl 26), .inl z4, .inl z5, .inl z6] [] σ Q := by
  refine am_wn rfl ?_
  exact ar_br (c := z5 ≠ 0) rfl k1 k2
set_option maxRecDepth 100000 in
theorem b_law_449 {sc : Int → Int} {σ : St} {Q : Ou → St → Nat → Prop} (z4 : Int) (z5 : Int) (z6 : Int) (k1 : ((if z6 < (σ 26 0) then 1 else if (σ 26 0) = z6 then 0 else -1) = 0) → am_wp sc am_law 461 [.inr (.inl 28), .inr (.inl 0), .inr (.inl 1), .inr (.inl 26), .inl z4, .inl z5, .inl z6] [] σ Q) (k2 : ¬ ((if z6 < (σ 26 0) then 1 else if (σ 26 0) = z6 then 0 else -1) = 0) → am_wp sc am_law 459 [.inr (.inl 28), .inr (.inl 0), .inr (.inl 1), .inr (.inl 26), .inl z4, .inl z5, .inl z6] [] σ Q) : am_wp sc am_law 449 [.inr (.inl 28), .inr (.inl 0), .inr (.inl 1), .inr (.inl 26), .inl z4, .inl z5, .inl z6] [] σ Q := by
  refine am_wn rfl ?_
  refine am_wn rfl ?_
  refine am_wn rfl ?_
  refine am_wn rfl ?_
  refine am_wn rfl ?_
  refine am_wn rfl ?_
  exact ar_br (c := (if z6 < (σ 26 0) then 1 else if (σ 26 0) = z6 then 0 else -1) = 0) rfl k1 k2
set_option maxRecDepth 100000 in
theorem b_law_459 {sc : Int → Int} {σ : St} {Q : Ou → St → Nat → Prop} (z4 : Int) (z5 : Int) (z6 : Int) (k : Q (.inl (some 0)) σ 0) : am_wp sc am_law 459 [.inr (.inl 28), .inr (.inl 0), .inr (.inl 1), .inr (.inl 26), .inl z4, .inl z5, .inl z6] [] σ Q := by
  refine am_wn rfl ?_
  exact am_w61 rfl (Or.inl rfl) k
set_option maxRecDepth 100000 in
theorem b_law_461 {sc : Int → Int} {σ : St} {Q : Ou → St → Nat → Prop} (z4 : Int) (z5 : Int) (z6 : Int) (k : am_wp sc am_law 1019 [.inr (.inl 28), .inr (.inl 0), .inr (.inl 1), .inr (.inl 26), .inl z4, .inl z5, .inl z6] [] σ Q) : am_wp sc am_law 461 [.inr (.inl 28), .inr (.inl 0), .inr (.inl 1), .inr (.inl 26), .inl z4, .inl z5, .inl z6] [] σ Q := by
  refine am_wn rfl ?_
  exact k
set_option maxRecDepth 100000 in
theorem b_law_464 {sc : Int → Int} {σ : St} {Q : Ou → St → Nat → Prop} (z4 : Int) (v5 : AV) (v6 : AV) (h0 : am_R (z4 + 1)) (h1 : 0 ≤ (z4 + 1) ∧ (z4 + 1) < sc (-1)) (k : am_wp sc 93 0 [.inr (.inl 0), .inl (sc (z4 + 1)), .inr (.inl 26), .inr (.inr 0)] [] σ (am_bk sc am_law 472 [.inr (.inl 28), .inr (.inl 0), .inr (.inl 1), .inr (.inl 26), .inl z4, v5, v6] [] Q)) : am_wp sc am_law 464 [.inr (.inl 28), .inr (.inl 0), .inr (.inl 1), .inr (.inl 26), .inl z4, v5, v6] [] σ Q := by
  refine am_wn rfl ?_
  refine am_wn rfl ?_
  refine am_wn rfl ?_
  refine am_wn rfl ?_
  refine ar_add rfl h0 ?_
  refine ar_sald rfl h1 ?_
  refine am_wn rfl ?_
  exact am_wc rfl (by decide) (by decide) rfl k
set_option maxRecDepth 100000 in
theorem b_law_475 {sc : Int → Int} {σ : St} {Q : Ou → St → Nat → Prop} (z4 : Int) (v5 : AV) (v6 : AV) (s0 : Int) (h0 : am_R (z4 + 1)) (h1 : 0 ≤ (z4 + 1) ∧ (z4 + 1) < sc (-1)) (k : am_wp sc 70 0 [.inr (.inl 1), .inl (sc (z4 + 1))] [] σ (am_bk sc am_law 484 [.inr (.inl 28), .inr (.inl 0), .inr (.inl 1), .inr (.inl 26), .inl z4, .inl s0, v6] [] Q)) : am_wp sc am_law 475 [.inr (.inl 28), .inr (.inl 0), .inr (.inl 1), .inr (.inl 26), .inl z4, v5, v6] [.inl s0] σ Q := by
  refine am_wn rfl ?_
  refine am_wn rfl ?_
  refine am_wn rfl ?_
  refine am_wn rfl ?_
  refine am_wn rfl ?_
  refine ar_add rfl h0 ?_
  refine ar_sald rfl h1 ?_
  exact am_wc rfl (by decide) (by decide) rfl k
set_option maxRecDepth 100000 in
theorem b_law_487 {sc : Int → Int} {σ : St} {Q : Ou → St → Nat → Prop} (z4 : Int) (z5 : Int) (v6 : AV) (s0 : Int) (k : am_wp sc 48 0 [.inr (.inl 1)] [] σ (am_bk sc am_law 490 [.inr (.inl 28), .inr (.inl 0), .inr (.inl 1), .inr (.inl 26), .inl z4, .inl z5, .inl s0] [] Q)) : am_wp sc am_law 487 [.inr (.inl 28), .inr (.inl 0), .inr (.inl 1), .inr (.inl 26), .inl z4, .inl z5, v6] [.inl s0] σ Q := by
  refine am_wn rfl ?_
  refine am_wn rfl ?_
  exact am_wc rfl (by decide) (by decide) rfl k
set_option maxRecDepth 100000 in
theorem b_law_493 {sc : Int → Int} {σ : St} {Q : Ou → St → Nat → Prop} (z4 : Int) (z5 : Int) (z6 : Int) (s0 : Int) (k1 : (s0 = z5) → am_wp sc am_law 500 [.inr (.inl 28), .inr (.inl 0), .inr (.inl 1), .inr (.inl 26), .inl z4, .inl z5, .inl z6] [] σ Q) (k2 : ¬ (s0 = z5) → am_wp sc am_law 498 [.inr (.inl 28), .inr (.inl 0), .inr (.inl 1), .inr (.inl 26), .inl z4, .inl z5, .inl z6] [] σ Q) : am_wp sc am_law 493 [.inr (.inl 28), .inr (.inl 0), .inr (.inl 1), .inr (.inl 26), .inl z4, .inl z5, .inl z6] [.inl s0] σ Q := by
  refine am_wn rfl ?_
  exact ar_br (c := s0 = z5) rfl k1 k2
set_option maxRecDepth 100000 in
theorem b_law_498 {sc : Int → Int} {σ : St} {Q : Ou → St → Nat → Prop} (z4 : Int) (z5 : Int) (z6 : Int) (k : Q (.inl (some 0)) σ 0) : am_wp sc am_law 498 [.inr (.inl 28), .inr (.inl 0), .inr (.inl 1), .inr (.inl 26), .inl z4, .inl z5, .inl z6] [] σ Q := by
  refine am_wn rfl ?_
  exact am_w61 rfl (Or.inl rfl) k
set_option maxRecDepth 100000 in
theorem b_law_500 {sc : Int → Int} {σ : St} {Q : Ou → St → Nat → Prop} (z4 : Int) (z5 : Int) (z6 : Int) (k1 : (z5 ≠ 0) → am_wp sc am_law 517 [.inr (.inl 28), .inr (.inl 0), .inr (.inl 1), .inr (.inl 26), .inl z4, .inl z5, .inl z6] [] σ Q) (k2 : ¬ (z5 ≠ 0) → am_wp sc am_law 505 [.inr (.inl 28), .inr (.inl 0), .inr (.inl 1), .inr (.inl 26), .inl z4, .inl z5, .inl z6] [] σ Q) : am_wp sc am_law 500 [.inr (.inl 28), .inr (.inl 0), .inr (.inl 1), .inr (.inl 26), .inl z4, .inl z5, .inl z6] [] σ Q := by
  refine am_wn rfl ?_
  exact ar_br (c := z5 ≠ 0) rfl k1 k2
set_option maxRecDepth 100000 in
theorem b_law_505 {sc : Int → Int} {σ : St} {Q : Ou → St → Nat → Prop} (z4 : Int) (z5 : Int) (z6 : Int) (k1 : ((if z6 < (σ 26 0) then 1 else if (σ 26 0) = z6 then 0 else -1) = 0) → am_wp sc am_law 517 [.inr (.inl 28), .inr (.inl 0), .inr (.inl 1), .inr (.inl 26), .inl z4, .inl z5, .inl z6] [] σ Q) (k2 : ¬ ((if z6 < (σ 26 0) then 1 else if (σ 26 0) = z6 then 0 else -1) = 0) → am_wp sc am_law 515 [.inr (.inl 28), .inr (.inl 0), .inr (.inl 1), .inr (.inl 26), .inl z4, .inl z5, .inl z6] [] σ Q) : am_wp sc am_law 505 [.inr (.inl 28), .inr (.inl 0), .inr (.inl 1), .inr (.inl 26), .inl z4, .inl z5, .inl z6] [] σ Q := by
  refine am_wn rfl ?_
  refine am_wn rfl ?_
  refine am_wn rfl ?_
  refine am_wn rfl ?_
  refine am_wn rfl ?_
  refine am_wn rfl ?_
  exact ar_br (c := (if z6 < (σ 26 0) then 1 else if (σ 26 0) = z6 then 0 else -1) = 0) rfl k1 k2
set_option maxRecDepth 100000 in
theorem b_law_515 {sc : Int → Int} {σ : St} {Q : Ou → St → Nat → Prop} (z4 : Int) (z5 : Int) (z6 : Int) (k : Q (.inl (some 0)) σ 0) : am_wp sc am_law 515 [.inr (.inl 28), .inr (.inl 0), .inr (.inl 1), .inr (.inl 26), .inl z4, .inl z5, .inl z6] [] σ Q := by
  refine am_wn rfl ?_
  exact am_w61 rfl (Or.inl rfl) k
set_option maxRecDepth 100000 in
theorem b_law_517 {sc : Int → Int} {σ : St} {Q : Ou → St → Nat → Prop} (z4 : Int) (z5 : Int) (z6 : Int) (k : am_wp sc am_law 1019 [.inr (.inl 28), .inr (.inl 0), .inr (.inl 1), .inr (.inl 26), .inl z4, .inl z5, .inl z6] [] σ Q) : am_wp sc am_law 517 [.inr (.inl 28), .inr (.inl 0), .inr (.inl 1), .inr (.inl 26), .inl z4, .inl z5, .inl z6] [] σ Q := by
  refine am_wn rfl ?_
  exact k
set_option maxRecDepth 100000 in
theorem b_law_520 {sc : Int → Int} {σ : St} {Q : Ou → St → Nat → Prop} (z4 : Int) (v5 : AV) (v6 : AV) (k : am_wp sc 6 0 [.inr (.inl 0)] [] σ (am_bk sc am_law 521 [.inr (.inl 28), .inr (.inl 0), .inr (.inl 1), .inr (.inl 26), .inl z4, v5, v6] [] Q)) : am_wp sc am_law 520 [.inr (.inl 28), .inr (.inl 0), .inr (.inl 1), .inr (.inl 26), .inl z4, v5, v6] [] σ Q := by
  refine am_wn rfl ?_
  exact am_wc rfl (by decide) (by decide) rfl k
set_option maxRecDepth 100000 in
theorem b_law_524 {sc : Int → Int} {σ : St} {Q : Ou → St → Nat → Prop} (z4 : Int) (v5 : AV) (v6 : AV) (s0 : Int) (k : am_wp sc 71 0 [.inr (.inl 1), .inr (.inr 0)] [] σ (am_bk sc am_law 525 [.inr (.inl 28), .inr (.inl 0), .inr (.inl 1), .inr (.inl 26), .inl z4, v5, v6] [.inl s0] Q)) : am_wp sc am_law 524 [.inr (.inl 28), .inr (.inl 0), .inr (.inl 1), .inr (.inl 26), .inl z4, v5, v6] [.inl s0] σ Q := by
  refine am_wn rfl ?_
  exact am_wc rfl (by decide) (by decide) rfl k
set_option maxRecDepth 100000 in
theorem b_law_528 {sc : Int → Int} {σ : St} {Q : Ou → St → Nat → Prop} (z4 : Int) (v5 : AV) (v6 : AV) (s0 : Int) (s1 : Int) (k1 : (s0 = s1) → am_wp sc am_law 1019 [.inr (.inl 28), .inr (.inl 0), .inr (.inl 1), .inr (.inl 26), .inl z4, v5, v6] [] σ Q) (k2 : ¬ (s0 = s1) → am_wp sc am_law 531 [.inr (.inl 28), .inr (.inl 0), .inr (.inl 1), .inr (.inl 26), .inl z4, v5, v6] [] σ Q) : am_wp sc am_law 528 [.inr (.inl 28), .inr (.inl 0), .inr (.inl 1), .inr (.inl 26), .inl z4, v5, v6] [.inl s1, .inl s0] σ Q := by
  exact ar_br (c := s0 = s1) rfl k1 k2
set_option maxRecDepth 100000 in
theorem b_law_531 {sc : Int → Int} {σ : St} {Q : Ou → St → Nat → Prop} (z4 : Int) (v5 : AV) (v6 : AV) (k : Q (.inl (some 0)) σ 0) : am_wp sc am_law 531 [.inr (.inl 28), .inr (.inl 0), .inr (.inl 1), .inr (.inl 26), .inl z4, v5, v6] [] σ Q := by
  refine am_wn rfl ?_
  exact am_w61 rfl (Or.inl rfl) k
set_option maxRecDepth 100000 in
theorem b_law_533 {sc : Int → Int} {σ : St} {Q : Ou → St → Nat → Prop} (z4 : Int) (v5 : AV) (v6 : AV) (h0 : am_R (z4 + 1)) (h1 : 0 ≤ (z4 + 1) ∧ (z4 + 1) < sc (-1)) (k : am_wp sc 7 0 [.inr (.inl 0), .inl (sc (z4 + 1))] [] σ (am_bk sc am_law 540 [.inr (.inl 28), .inr (.inl 0), .inr (.inl 1), .inr (.inl 26), .inl z4, v5, v6] [] Q)) : am_wp sc am_law 533 [.inr (.inl 28), .inr (.inl 0), .inr (.inl 1), .inr (.inl 26), .inl z4, v5, v6] [] σ Q := by
  refine am_wn rfl ?_
  refine am_wn rfl ?_
  refine am_wn rfl ?_
  refine am_wn rfl ?_
  refine ar_add rfl h0 ?_
  refine ar_sald rfl h1 ?_
  exact am_wc rfl (by decide) (by decide) rfl k
set_option maxRecDepth 100000 in
theorem b_law_543 {sc : Int → Int} {σ : St} {Q : Ou → St → Nat → Prop} (z4 : Int) (v5 : AV) (v6 : AV) (s0 : Int) (h0 : am_R (z4 + 1)) (h1 : 0 ≤ (z4 + 1) ∧ (z4 + 1) < sc (-1)) (k : am_wp sc 72 0 [.inr (.inl 1), .inl (sc (z4 + 1))] [] σ (am_bk sc am_law 550 [.inr (.inl 28), .inr (.inl 0), .inr (.inl 1), .inr (.inl 26), .inl z4, v5, v6] [.inl s0] Q)) : am_wp sc am_law 543 [.inr (.inl 28), .inr (.inl 0), .inr (.inl 1), .inr (.inl 26), .inl z4, v5, v6] [.inl s0] σ Q := by
  refine am_wn rfl ?_
  refine am_wn rfl ?_
  refine am_wn rfl ?_
  refine am_wn rfl ?_
  refine ar_add rfl h0 ?_
  refine ar_sald rfl h1 ?_
  exact am_wc rfl (by decide) (by decide) rfl k
set_option maxRecDepth 100000 in
theorem b_law_553 {sc : Int → Int} {σ : St} {Q : Ou → St → Nat → Prop} (z4 : Int) (v5 : AV) (v6 : AV) (s0 : Int) (s1 : Int) (k1 : (s0 = s1) → am_wp sc am_law 1019 [.inr (.inl 28), .inr (.inl 0), .inr (.inl 1), .inr (.inl 26), .inl z4, v5, v6] [] σ Q) (k2 : ¬ (s0 = s1) → am_wp sc am_law 556 [.inr (.inl 28), .inr (.inl 0), .inr (.inl 1), .inr (.inl 26), .inl z4, v5, v6] [] σ Q) : am_wp sc am_law 553 [.inr (.inl 28), .inr (.inl 0), .inr (.inl 1), .inr (.inl 26), .inl z4, v5, v6] [.inl s1, .inl s0] σ Q := by
  exact ar_br (c := s0 = s1) rfl k1 k2
set_option maxRecDepth 100000 in
theorem b_law_556 {sc : Int → Int} {σ : St} {Q : Ou → St → Nat → Prop} (z4 : Int) (v5 : AV) (v6 : AV) (k : Q (.inl (some 0)) σ 0) : am_wp sc am_law 556 [.inr (.inl 28), .inr (.inl 0), .inr (.inl 1), .inr (.inl 26), .inl z4, v5, v6] [] σ Q := by
  refine am_wn rfl ?_
  exact am_w61 rfl (Or.inl rfl) k
set_option maxRecDepth 100000 in
theorem b_law_558 {sc : Int → Int} {σ : St} {Q : Ou → St → Nat → Prop} (z4 : Int) (v5 : AV) (v6 : AV) (h0 : am_R (z4 + 1)) (h1 : 0 ≤ (z4 + 1) ∧ (z4 + 1) < sc (-1)) (h2 : am_R (z4 + 2)) (h3 : 0 ≤ (z4 + 2) ∧ (z4 + 2) < sc (-1)) (k1 : ((sc (z4 + 2)) = 0) → am_wp sc am_law 578 [.inr (.inl 28), .inr (.inl 0), .inr (.inl 1), .inr (.inl 26), .inl z4, v5, v6] [.inl (sc (z4 + 1)), .inr (.inl 0)] σ Q) (k2 : ¬ ((sc (z4 + 2)) = 0) → am_wp sc am_law 574 [.inr (.inl 28), .inr (.inl 0), .inr (.inl 1), .inr (.inl 26), .inl z4, v5, v6] [.inl (sc (z4 + 1)), .inr (.inl 0)] σ Q) : am_wp sc am_law 558 [.inr (.inl 28), .inr (.inl 0), .inr (.inl 1), .inr (.inl 26), .inl z4, v5, v6] [] σ Q := by
  refine am_wn rfl ?_
  refine am_wn rfl ?_
  refine am_wn rfl ?_
  refine am_wn rfl ?_
  refine ar_add rfl h0 ?_
  refine ar_sald rfl h1 ?_
  refine am_wn rfl ?_
  refine am_wn rfl ?_
  refine am_wn rfl ?_
  refine ar_add rfl h2 ?_
  refine ar_sald rfl h3 ?_
  exact ar_br (c := (sc (z4 + 2)) = 0) rfl k1 k2
set_option maxRecDepth 100000 in
theorem b_law_574 {sc : Int → Int} {σ : St} {Q : Ou → St → Nat → Prop} (z4 : Int) (v5 : AV) (v6 : AV) (s1 : Int) (k : am_wp sc am_law 579 [.inr (.inl 28), .inr (.inl 0), .inr (.inl 1), .inr (.inl 26), .inl z4, v5, v6] [.inl 1, .inl s1, .inr (.inl 0)] σ Q) : am_wp sc am_law 574 [.inr (.inl 28), .inr (.inl 0), .inr (.inl 1), .inr (.inl 26), .inl z4, v5, v6] [.inl s1, .inr (.inl 0)] σ Q := by
  refine am_wn rfl ?_
  refine am_wn rfl ?_
  exact k
set_option maxRecDepth 100000 in
theorem b_law_578 {sc : Int → Int} {σ : St} {Q : Ou → St → Nat → Prop} (z4 : Int) (v5 : AV) (v6 : AV) (s1 : Int) (k : am_wp sc am_law 579 [.inr (.inl 28), .inr (.inl 0), .inr (.inl 1), .inr (.inl 26), .inl z4, v5, v6] [.inl 0, .inl s1, .inr (.inl 0)] σ Q) : am_wp sc am_law 578 [.inr (.inl 28), .inr (.inl 0), .inr (.inl 1), .inr (.inl 26), .inl z4, v5, v6] [.inl s1, .inr (.inl 0)] σ Q := by
  refine am_wn rfl ?_
  exact k
set_option maxRecDepth 100000 in
theorem b_law_579 {sc : Int → Int} {σ : St} {Q : Ou → St → Nat → Prop} (z4 : Int) (v5 : AV) (v6 : AV) (s1 : Int) (s2 : Int) (k : am_wp sc 94 0 [.inr (.inl 0), .inl s1, .inl s2, .inr (.inr 0)] [] σ (am_bk sc am_law 579 [.inr (.inl 28), .inr (.inl 0), .inr (.inl 1), .inr (.inl 26), .inl z4, v5, v6] [] Q)) : am_wp sc am_law 579 [.inr (.inl 28), .inr (.inl 0), .inr (.inl 1), .inr (.inl 26), .inl z4, v5, v6] [.inl s2, .inl s1, .inr (.inl 0)] σ Q := by
  exact am_wc rfl (by decide) (by decide) rfl k
set_option maxRecDepth 100000 in
theorem b_law_582 {sc : Int → Int} {σ : St} {Q : Ou → St → Nat → Prop} (z4 : Int) (v5 : AV) (v6 : AV) (s0 : Int) (h0 : am_R (z4 + 1)) (h1 : 0 ≤ (z4 + 1) ∧ (z4 + 1) < sc (-1)) (h2 : am_R (z4 + 2)) (h3 : 0 ≤ (z4 + 2) ∧ (z4 + 2) < sc (-1)) (k1 : ((sc (z4 + 2)) = 0) → am_wp sc am_law 604 [.inr (.inl 28), .inr (.inl 0), .inr (.inl 1), .inr (.inl 26), .inl z4, .inl s0, v6] [.inl (sc (z4 + 1)), .inr (.inl 1)] σ Q) (k2 : ¬ ((sc (z4 + 2)) = 0) → am_wp sc am_law 600 [.inr (.inl 28), .inr (.inl 0), .inr (.inl 1), .inr (.inl 26), .inl z4, .inl s0, v6] [.inl (sc (z4 + 1)), .inr (.inl 1)] σ Q) : am_wp sc am_law 582 [.inr (.inl 28), .inr (.inl 0), .inr (.inl 1), .inr (.inl 26), .inl z4, v5, v6] [.inl s0] σ Q := by
  refine am_wn rfl ?_
  refine am_wn rfl ?_
  refine am_wn rfl ?_
  refine am_wn rfl ?_
  refine am_wn rfl ?_
  refine ar_add rfl h0 ?_
  refine ar_sald rfl h1 ?_
  refine am_wn rfl ?_
  refine am_wn rfl ?_
  refine am_wn rfl ?_
  refine ar_add rfl h2 ?_
  refine ar_sald rfl h3 ?_
  exact ar_br (c := (sc (z4 + 2)) = 0) rfl k1 k2
set_option maxRecDepth 100000 in
theorem b_law_600 {sc : Int → Int} {σ : St} {Q : Ou → St → Nat → Prop} (z4 : Int) (z5 : Int) (v6 : AV) (s1 : Int) (k : am_wp sc am_law 605 [.inr (.inl 28), .inr (.inl 0), .inr (.inl 1), .inr (.inl 26), .inl z4, .inl z5, v6] [.inl 1, .inl s1, .inr (.inl 1)] σ Q) : am_wp sc am_law 600 [.inr (.inl 28), .inr (.inl 0), .inr (.inl 1), .inr (.inl 26), .inl z4, .inl z5, v6] [.inl s1, .inr (.inl 1)] σ Q := by
  refine am_wn rfl ?_
  refine am_wn rfl ?_
  exact k
set_option maxRecDepth 100000 in
theorem b_law_604 {sc : Int → Int} {σ : St} {Q : Ou → St → Nat → Prop} (z4 : Int) (z5 : Int) (v6 : AV) (s1 : Int) (k : am_wp sc am_law 605 [.inr (.inl 28), .inr (.inl 0), .inr (.inl 1), .inr (.inl 26), .inl z4, .inl z5, v6] [.inl 0, .inl s1, .inr (.inl 1)] σ Q) : am_wp sc am_law 604 [.inr (.inl 28), .inr (.inl 0), .inr (.inl 1), .inr (.inl 26), .inl z4, .inl z5, v6] [.inl s1, .inr (.inl 1)] σ Q := by
  refine am_wn rfl ?_
  exact k
set_option maxRecDepth 100000 in
theorem b_law_605 {sc : Int → Int} {σ : St} {Q : Ou → St → Nat → Prop} (z4 : Int) (z5 : Int) (v6 : AV) (s1 : Int) (s2 : Int) (k : am_wp sc 73 0 [.inr (.inl 1), .inl s1, .inl s2] [] σ (am_bk sc am_law 605 [.inr (.inl 28), .inr (.inl 0), .inr (.inl 1), .inr (.inl 26), .inl z4, .inl z5, v6] [] Q)) : am_wp sc am_law 605 [.inr (.inl 28), .inr (.inl 0), .inr (.inl 1), .inr (.inl 26), .inl z4, .inl z5, v6] [.inl s2, .inl s1, .inr (.inl 1)] σ Q := by
  exact am_wc rfl (by decide) (by decide) rfl k
set_option maxRecDepth 100000 in
theorem b_law_608 {sc : Int → Int} {σ : St} {Q : Ou → St → Nat → Prop} (z4 : Int) (z5 : Int) (v6 : AV) (k : am_wp sc 48 0 [.inr (.inl 1)] [] σ (am_bk sc am_law 609 [.inr (.inl 28), .inr (.inl 0), .inr (.inl 1), .inr (.inl 26), .inl z4, .inl z5, v6] [] Q)) : am_wp sc am_law 608 [.inr (.inl 28), .inr (.inl 0), .inr (.inl 1), .inr (.inl 26), .inl z4, .inl z5, v6] [] σ Q := by
  refine am_wn rfl ?_
  exact am_wc rfl (by decide) (by decide) rfl k
set_option maxRecDepth 100000 in
theorem b_law_612 {sc : Int → Int} {σ : St} {Q : Ou → St → Nat → Prop} (z4 : Int) (z5 : Int) (v6 : AV) (s0 : Int) (k1 : (s0 = z5) → am_wp sc am_law 619 [.inr (.inl 28), .inr (.inl 0), .inr (.inl 1), .inr (.inl 26), .inl z4, .inl z5, v6] [] σ Q) (k2 : ¬ (s0 = z5) → am_wp sc am_law 617 [.inr (.inl 28), .inr (.inl 0), .inr (.inl 1), .inr (.inl 26), .inl z4, .inl z5, v6] [] σ Q) : am_wp sc am_law 612 [.inr (.inl 28), .inr (.inl 0), .inr (.inl 1), .inr (.inl 26), .inl z4, .inl z5, v6] [.inl s0] σ Q := by
  refine am_wn rfl ?_
  exact ar_br (c := s0 = z5) rfl k1 k2
set_option maxRecDepth 100000 in
theorem b_law_617 {sc : Int → Int} {σ : St} {Q : Ou → St → Nat → Prop} (z4 : Int) (z5 : Int) (v6 : AV) (k : Q (.inl (some 0)) σ 0) : am_wp sc am_law 617 [.inr (.inl 28), .inr (.inl 0), .inr (.inl 1), .inr (.inl 26), .inl z4, .inl z5, v6] [] σ Q := by
  refine am_wn rfl ?_
  exact am_w61 rfl (Or.inl rfl) k
set_option maxRecDepth 100000 in
theorem b_law_619 {sc : Int → Int} {σ : St} {Q : Ou → St → Nat → Prop} (z4 : Int) (z5 : Int) (v6 : AV) (k : am_wp sc am_law 1019 [.inr (.inl 28), .inr (.inl 0), .inr (.inl 1), .inr (.inl 26), .inl z4, .inl z5, v6] [] σ Q) : am_wp sc am_law 619 [.inr (.inl 28), .inr (.inl 0), .inr (.inl 1), .inr (.inl 26), .inl z4, .inl z5, v6] [] σ Q := by
  refine am_wn rfl ?_
  exact k
set_option maxRecDepth 100000 in
theorem b_law_622 {sc : Int → Int} {σ : St} {Q : Ou → St → Nat → Prop} (z4 : Int) (v5 : AV) (v6 : AV) (k : am_wp sc 95 0 [.inr (.inl 0), .inr (.inl 26), .inr (.inr 0)] [] σ (am_bk sc am_law 624 [.inr (.inl 28), .inr (.inl 0), .inr (.inl 1), .inr (.inl 26), .inl z4, v5, v6] [] Q)) : am_wp sc am_law 622 [.inr (.inl 28), .inr (.inl 0), .inr (.inl 1), .inr (.inl 26), .inl z4, v5, v6] [] σ Q := by
  refine am_wn rfl ?_
  refine am_wn rfl ?_
  exact am_wc rfl (by decide) (by decide) rfl k
set_option maxRecDepth 100000 in
theorem b_law_627 {sc : Int → Int} {σ : St} {Q : Ou → St → Nat → Prop} (z4 : Int) (v5 : AV) (v6 : AV) (s0 : Int) (k : am_wp sc 74 0 [.inr (.inl 1), .inr (.inr 0), .inr (.inr 0)] [] σ (am_bk sc am_law 630 [.inr (.inl 28), .inr (.inl 0), .inr (.inl 1), .inr (.inl 26), .inl z4, .inl s0, v6] [] Q)) : am_wp sc am_law 627 [.inr (.inl 28), .inr (.inl 0), .inr (.inl 1), .inr (.inl 26), .inl z4, v5, v6] [.inl s0] σ Q := by
  refine am_wn rfl ?_
  refine am_wn rfl ?_
  exact am_wc rfl (by decide) (by decide) rfl k
set_option maxRecDepth 100000 in
theorem b_law_633 {sc : Int → Int} {σ : St} {Q : Ou → St → Nat → Prop} (z4 : Int) (z5 : Int) (v6 : AV) (s0 : Int) (k : am_wp sc 48 0 [.inr (.inl 1)] [] σ (am_bk sc am_law 636 [.inr (.inl 28), .inr (.inl 0), .inr (.inl 1), .inr (.inl 26), .inl z4, .inl z5, .inl s0] [] Q)) : am_wp sc am_law 633 [.inr (.inl 28), .inr (.inl 0), .inr (.inl 1), .inr (.inl 26), .inl z4, .inl z5, v6] [.inl s0] σ Q := by
  refine am_wn rfl ?_
  refine am_wn rfl ?_
  exact am_wc rfl (by decide) (by decide) rfl k
set_option maxRecDepth 100000 in
theorem b_law_639 {sc : Int → Int} {σ : St} {Q : Ou → St → Nat → Prop} (z4 : Int) (z5 : Int) (z6 : Int) (s0 : Int) (k1 : (s0 = z5) → am_wp sc am_law 646 [.inr (.inl 28), .inr (.inl 0), .inr (.inl 1), .inr (.inl 26), .inl z4, .inl z5, .inl z6] [] σ Q) (k2 : ¬ (s0 = z5) → am_wp sc am_law 644 [.inr (.inl 28), .inr (.inl 0), .inr (.inl 1), .inr (.inl 26), .inl z4, .inl z5, .inl z6] [] σ Q) : am_wp sc am_law 639 [.inr (.inl 28), .inr (.inl 0), .inr (.inl 1), .inr (.inl 26), .inl z4, .inl z5, .inl z6] [.inl s0] σ Q := by
  refine am_wn rfl ?_
  exact ar_br (c := s0 = z5) rfl k1 k2
set_option maxRecDepth 100000 in
theorem b_law_644 {sc : Int → Int} {σ : St} {Q : Ou → St → Nat → Prop} (z4 : Int) (z5 : Int) (z6 : Int) (k : Q (.inl (some 0)) σ 0) : am_wp sc am_law 644 [.inr (.inl 28), .inr (.inl 0), .inr (.inl 1), .inr (.inl 26), .inl z4, .inl z5, .inl z6] [] σ Q := by
  refine am_wn rfl ?_
  exact am_w61 rfl (Or.inl rfl) k
set_option maxRecDepth 100000 in
theorem b_law_646 {sc : Int → Int} {σ : St} {Q : Ou → St → Nat → Prop} (z4 : Int) (z5 : Int) (z6 : Int) (k1 : (z5 ≠ 0) → am_wp sc am_law 663 [.inr (.inl 28), .inr (.inl 0), .inr (.inl 1), .inr (.inl 26), .inl z4, .inl z5, .inl z6] [] σ Q) (k2 : ¬ (z5 ≠ 0) → am_wp sc am_law 651 [.inr (.inl 28), .inr (.inl 0), .inr (.inl 1), .inr (.inl 26), .inl z4, .inl z5, .inl z6] [] σ Q) : am_wp sc am_law 646 [.inr (.inl 28), .inr (.inl 0), .inr (.inl 1), .inr (.inl 26), .inl z4, .inl z5, .inl z6] [] σ Q := by
  refine am_wn rfl ?_
  exact ar_br (c := z5 ≠ 0) rfl k1 k2
set_option maxRecDepth 100000 in
theorem b_law_651 {sc : Int → Int} {σ : St} {Q : Ou → St → Nat → Prop} (z4 : Int) (z5 : Int) (z6 : Int) (k1 : ((if z6 < (σ 26 0) then 1 else if (σ 26 0) = z6 then 0 else -1) = 0) → am_wp sc am_law 663 [.inr (.inl 28), .inr (.inl 0), .inr (.inl 1), .inr (.inl 26), .inl z4, .inl z5, .inl z6] [] σ Q) (k2 : ¬ ((if z6 < (σ 26 0) then 1 else if (σ 26 0) = z6 then 0 else -1) = 0) → am_wp sc am_law 661 [.inr (.inl 28), .inr (.inl 0), .inr (.inl 1), .inr (.inl 26), .inl z4, .inl z5, .inl z6] [] σ Q) : am_wp sc am_law 651 [.inr (.inl 28), .inr (.inl 0), .inr (.inl 1), .inr (.inl 26), .inl z4, .inl z5, .inl z6] [] σ Q := by
  refine am_wn rfl ?_
  refine am_wn rfl ?_
  refine am_wn rfl ?_
  refine am_wn rfl ?_
  refine am_wn rfl ?_
  refine am_wn rfl ?_
  exact ar_br (c := (if z6 < (σ 26 0) then 1 else if (σ 26 0) = z6 then 0 else -1) = 0) rfl k1 k2
set_option maxRecDepth 100000 in
theorem b_law_661 {sc : Int → Int} {σ : St} {Q : Ou → St → Nat → Prop} (z4 : Int) (z5 : Int) (z6 : Int) (k : Q (.inl (some 0)) σ 0) : am_wp sc am_law 661 [.inr (.inl 28), .inr (.inl 0), .inr (.inl 1), .inr (.inl 26), .inl z4, .inl z5, .inl z6] [] σ Q := by
  refine am_wn rfl ?_
  exact am_w61 rfl (Or.inl rfl) k
set_option maxRecDepth 100000 in
theorem b_law_663 {sc : Int → Int} {σ : St} {Q : Ou → St → Nat → Prop} (z4 : Int) (z5 : Int) (z6 : Int) (k : am_wp sc am_law 1019 [.inr (.inl 28), .inr (.inl 0), .inr (.inl 1), .inr (.inl 26), .inl z4, .inl z5, .inl z6] [] σ Q) : am_wp sc am_law 663 [.inr (.inl 28), .inr (.inl 0), .inr (.inl 1), .inr (.inl 26), .inl z4, .inl z5, .inl z6] [] σ Q := by
  refine am_wn rfl ?_
  exact k
set_option maxRecDepth 100000 in
theorem b_law_666 {sc : Int → Int} {σ : St} {Q : Ou → St → Nat → Prop} (z4 : Int) (v5 : AV) (v6 : AV) (h0 : am_R (z4 + 1)) (h1 : 0 ≤ (z4 + 1) ∧ (z4 + 1) < sc (-1)) (k : am_wp sc 10 0 [.inr (.inl 0), .inl (sc (z4 + 1))] [] σ (am_bk sc am_law 673 [.inr (.inl 28), .inr (.inl 0), .inr (.inl 1), .inr (.inl 26), .inl z4, v5, v6] [] Q)) : am_wp sc am_law 666 [.inr (.inl 28), .inr (.inl 0), .inr (.inl 1), .inr (.inl 26), .inl z4, v5, v6] [] σ Q := by
  refine am_wn rfl ?_
  refine am_wn rfl ?_
  refine am_wn rfl ?_
  refine am_wn rfl ?_
  refine ar_add rfl h0 ?_
  refine ar_sald rfl h1 ?_
  exact am_wc rfl (by decide) (by decide) rfl k
set_option maxRecDepth 100000 in
theorem b_law_676 {sc : Int → Int} {σ : St} {Q : Ou → St → Nat → Prop} (z4 : Int) (v5 : AV) (v6 : AV) (s0 : Int) (h0 : am_R (z4 + 1)) (h1 : 0 ≤ (z4 + 1) ∧ (z4 + 1) < sc (-1)) (k : am_wp sc 75 0 [.inr (.inl 1), .inl (sc (z4 + 1))] [] σ (am_bk sc am_law 683 [.inr (.inl 28), .inr (.inl 0), .inr (.inl 1), .inr (.inl 26), .inl z4, v5, v6] [.inl s0] Q)) : am_wp sc am_law 676 [.inr (.inl 28), .inr (.inl 0), .inr (.inl 1), .inr (.inl 26), .inl z4, v5, v6] [.inl s0] σ Q := by
  refine am_wn rfl ?_
  refine am_wn rfl ?_
  refine am_wn rfl ?_
  refine am_wn rfl ?_
  refine ar_add rfl h0 ?_
  refine ar_sald rfl h1 ?_
  exact am_wc rfl (by decide) (by decide) rfl k
set_option maxRecDepth 100000 in
theorem b_law_686 {sc : Int → Int} {σ : St} {Q : Ou → St → Nat → Prop} (z4 : Int) (v5 : AV) (v6 : AV) (s0 : Int) (s1 : Int) (k1 : (s0 = s1) → am_wp sc am_law 1019 [.inr (.inl 28), .inr (.inl 0), .inr (.inl 1), .inr (.inl 26), .inl z4, v5, v6] [] σ Q) (k2 : ¬ (s0 = s1) → am_wp sc am_law 689 [.inr (.inl 28), .inr (.inl 0), .inr (.inl 1), .inr (.inl 26), .inl z4, v5, v6] [] σ Q) : am_wp sc am_law 686 [.inr (.inl 28), .inr (.inl 0), .inr (.inl 1), .inr (.inl 26), .inl z4, v5, v6] [.inl s1, .inl s0] σ Q := by
  exact ar_br (c := s0 = s1) rfl k1 k2
set_option maxRecDepth 100000 in
theorem b_law_689 {sc : Int → Int} {σ : St} {Q : Ou → St → Nat → Prop} (z4 : Int) (v5 : AV) (v6 : AV) (k : Q (.inl (some 0)) σ 0) : am_wp sc am_law 689 [.inr (.inl 28), .inr (.inl 0), .inr (.inl 1), .inr (.inl 26), .inl z4, v5, v6] [] σ Q := by
  refine am_wn rfl ?_
  exact am_w61 rfl (Or.inl rfl) k
set_option maxRecDepth 100000 in
theorem b_law_691 {sc : Int → Int} {σ : St} {Q : Ou → St → Nat → Prop} (z4 : Int) (v5 : AV) (v6 : AV) (k : am_wp sc 11 0 [.inr (.inl 0), .inr (.inr 0)] [] σ (am_bk sc am_law 692 [.inr (.inl 28), .inr (.inl 0), .inr (.inl 1), .inr (.inl 26), .inl z4, v5, v6] [] Q)) : am_wp sc am_law 691 [.inr (.inl 28), .inr (.inl 0), .inr (.inl 1), .inr (.inl 26), .inl z4, v5, v6] [] σ Q := by
  refine am_wn rfl ?_
  exact am_wc rfl (by decide) (by decide) rfl k
set_option maxRecDepth 100000 in
theorem b_law_695 {sc : Int → Int} {σ : St} {Q : Ou → St → Nat → Prop} (z4 : Int) (v5 : AV) (v6 : AV) (s0 : Int) (k : am_wp sc 61 0 [.inr (.inl 1)] [] σ (am_bk sc am_law 696 [.inr (.inl 28), .inr (.inl 0), .inr (.inl 1), .inr (.inl 26), .inl z4, v5, v6] [.inl s0] Q)) : am_wp sc am_law 695 [.inr (.inl 28), .inr (.inl 0), .inr (.inl 1), .inr (.inl 26), .inl z4, v5, v6] [.inl s0] σ Q := by
  refine am_wn rfl ?_
  exact am_wc rfl (by decide) (by decide) rfl k
set_option maxRecDepth 100000 in
theorem b_law_699 {sc : Int → Int} {σ : St} {Q : Ou → St → Nat → Prop} (z4 : Int) (v5 : AV) (v6 : AV) (s0 : Int) (s1 : Int) (k1 : (s0 = s1) → am_wp sc am_law 1019 [.inr (.inl 28), .inr (.inl 0), .inr (.inl 1), .inr (.inl 26), .inl z4, v5, v6] [] σ Q) (k2 : ¬ (s0 = s1) → am_wp sc am_law 702 [.inr (.inl 28), .inr (.inl 0), .inr (.inl 1), .inr (.inl 26), .inl z4, v5, v6] [] σ Q) : am_wp sc am_law 699 [.inr (.inl 28), .inr (.inl 0), .inr (.inl 1), .inr (.inl 26), .inl z4, v5, v6] [.inl s1, .inl s0] σ Q := by
  exact ar_br (c := s0 = s1) rfl k1 k2
set_option maxRecDepth 100000 in
theorem b_law_702 {sc : Int → Int} {σ : St} {Q : Ou → St → Nat → Prop} (z4 : Int) (v5 : AV) (v6 : AV) (k : Q (.inl (some 0)) σ 0) : am_wp sc am_law 702 [.inr (.inl 28), .inr (.inl 0), .inr (.inl 1), .inr (.inl 26), .inl z4, v5, v6] [] σ Q := by
  refine am_wn rfl ?_
  exact am_w61 rfl (Or.inl rfl) k
set_option maxRecDepth 100000 in
theorem b_law_704 {sc : Int → Int} {σ : St} {Q : Ou → St → Nat → Prop} (z4 : Int) (v5 : AV) (v6 : AV) (h0 : am_R (z4 + 1)) (h1 : 0 ≤ (z4 + 1) ∧ (z4 + 1) < sc (-1)) (k : am_wp sc 96 0 [.inr (.inl 0), .inl (sc (z4 + 1)), .inr (.inl 26), .inr (.inr 0)] [] σ (am_bk sc am_law 712 [.inr (.inl 28), .inr (.inl 0), .inr (.inl 1), .inr (.inl 26), .inl z4, v5, v6] [] Q)) : am_wp sc am_law 704 [.inr (.inl 28), .inr (.inl 0), .inr (.inl 1), .inr (.inl 26), .inl z4, v5, v6] [] σ Q := by
  refine am_wn rfl ?_
  refine am_wn rfl ?_
  refine am_wn rfl ?_
  refine am_wn rfl ?_
  refine ar_add rfl h0 ?_
  refine ar_sald rfl h1 ?_
  refine am_wn rfl ?_
  exact am_wc rfl (by decide) (by decide) rfl k
set_option maxRecDepth 100000 in
theorem b_law_715 {sc : Int → Int} {σ : St} {Q : Ou → St → Nat → Prop} (z4 : Int) (v5 : AV) (v6 : AV) (s0 : Int) (h0 : am_R (z4 + 1)) (h1 : 0 ≤ (z4 + 1) ∧ (z4 + 1) < sc (-1)) (k : am_wp sc 76 0 [.inr (.inl 1), .inl (sc (z4 + 1)), .inr (.inr 0), .inr (.inr 0), .inr (.inr 0), .inr (.inr 0), .inr (.inr 0), .inr (.inr 0)] [] σ (am_bk sc am_law 724 [.inr (.inl 28), .inr (.inl 0), .inr (.inl 1), .inr (.inl 26), .inl z4, .inl s0, v6] [] Q)) : am_wp sc am_law 715 [.inr (.inl 28), .inr (.inl 0), .inr (.inl 1), .inr (.inl 26), .inl z4, v5, v6] [.inl s0] σ Q := by
  refine am_wn rfl ?_
  refine am_wn rfl ?_
  refine am_wn rfl ?_
  refine am_wn rfl ?_
  refine am_wn rfl ?_
  refine ar_add rfl h0 ?_
  refine ar_sald rfl h1 ?_
  exact am_wc rfl (by decide) (by decide) rfl k
set_option maxRecDepth 100000 in
theorem b_law_727 {sc : Int → Int} {σ : St} {Q : Ou → St → Nat → Prop} (z4 : Int) (z5 : Int) (v6 : AV) (s0 : Int) (k : am_wp sc 48 0 [.inr (.inl 1)] [] σ (am_bk sc am_law 730 [.inr (.inl 28), .inr (.inl 0), .inr (.inl 1), .inr (.inl 26), .inl z4, .inl z5, .inl s0] [] Q)) : am_wp sc am_law 727 [.inr (.inl 28), .inr (.inl 0), .inr (.inl 1), .inr (.inl 26), .inl z4, .inl z5, v6] [.inl s0] σ Q := by
  refine am_wn rfl ?_
  refine am_wn rfl ?_
  exact am_wc rfl (by decide) (by decide) rfl k
set_option maxRecDepth 100000 in
theorem b_law_733 {sc : Int → Int} {σ : St} {Q : Ou → St → Nat → Prop} (z4 : Int) (z5 : Int) (z6 : Int) (s0 : Int) (k1 : (s0 = z5) → am_wp sc am_law 740 [.inr (.inl 28), .inr (.inl 0), .inr (.inl 1), .inr (.inl 26), .inl z4, .inl z5, .inl z6] [] σ Q) (k2 : ¬ (s0 = z5) → am_wp sc am_law 738 [.inr (.inl 28), .inr (.inl 0), .inr (.inl 1), .inr (.inl 26), .inl z4, .inl z5, .inl z6] [] σ Q) : am_wp sc am_law 733 [.inr (.inl 28), .inr (.inl 0), .inr (.inl 1), .inr (.inl 26), .inl z4, .inl z5, .inl z6] [.inl s0] σ Q := by
  refine am_wn rfl ?_
  exact ar_br (c := s0 = z5) rfl k1 k2
set_option maxRecDepth 100000 in
theorem b_law_738 {sc : Int → Int} {σ : St} {Q : Ou → St → Nat → Prop} (z4 : Int) (z5 : Int) (z6 : Int) (k : Q (.inl (some 0)) σ 0) : am_wp sc am_law 738 [.inr (.inl 28), .inr (.inl 0), .inr (.inl 1), .inr (.inl 26), .inl z4, .inl z5, .inl z6] [] σ Q := by
  refine am_wn rfl ?_
  exact am_w61 rfl (Or.inl rfl) k
set_option maxRecDepth 100000 in
theorem b_law_740 {sc : Int → Int} {σ : St} {Q : Ou → St → Nat → Prop} (z4 : Int) (z5 : Int) (z6 : Int) (k1 : (z5 ≠ 0) → am_wp sc am_law 757 [.inr (.inl 28), .inr (.inl 0), .inr (.inl 1), .inr (.inl 26), .inl z4, .inl z5, .inl z6] [] σ Q) (k2 : ¬ (z5 ≠ 0) → am_wp sc am_law 745 [.inr (.inl 28), .inr (.inl 0), .inr (.inl 1), .inr (.inl 26), .inl z4, .inl z5, .inl z6] [] σ Q) : am_wp sc am_law 740 [.inr (.inl 28), .inr (.inl 0), .inr (.inl 1), .inr (.inl 26), .inl z4, .inl z5, .inl z6] [] σ Q := by
  refine am_wn rfl ?_
  exact ar_br (c := z5 ≠ 0) rfl k1 k2
set_option maxRecDepth 100000 in
theorem b_law_745 {sc : Int → Int} {σ : St} {Q : Ou → St → Nat → Prop} (z4 : Int) (z5 : Int) (z6 : Int) (k1 : ((if z6 < (σ 26 0) then 1 else if (σ 26 0) = z6 then 0 else -1) = 0) → am_wp sc am_law 757 [.inr (.inl 28), .inr (.inl 0), .inr (.inl 1), .inr (.inl 26), .inl z4, .inl z5, .inl z6] [] σ Q) (k2 : ¬ ((if z6 < (σ 26 0) then 1 else if (σ 26 0) = z6 then 0 else -1) = 0) → am_wp sc am_law 755 [.inr (.inl 28), .inr (.inl 0), .inr (.inl 1), .inr (.inl 26), .inl z4, .inl z5, .inl z6] [] σ Q) : am_wp sc am_law 745 [.inr (.inl 28), .inr (.inl 0), .inr (.inl 1), .inr (.inl 26), .inl z4, .inl z5, .inl z6] [] σ Q := by
  refine am_wn rfl ?_
  refine am_wn rfl ?_
  refine am_wn rfl ?_
  refine am_wn rfl ?_
  refine am_wn rfl ?_
  refine am_wn rfl ?_
  exact ar_br (c := (if z6 < (σ 26 0) then 1 else if (σ 26 0) = z6 then 0 else -1) = 0) rfl k1 k2
set_option maxRecDepth 100000 in
theorem b_law_755 {sc : Int → Int} {σ : St} {Q : Ou → St → Nat → Prop} (z4 : Int) (z5 : Int) (z6 : Int) (k : Q (.inl (some 0)) σ 0) : am_wp sc am_law 755 [.inr (.inl 28), .inr (.inl 0), .inr (.inl 1), .inr (.inl 26), .inl z4, .inl z5, .inl z6] [] σ Q := by
  refine am_wn rfl ?_
  exact am_w61 rfl (Or.inl rfl) k
set_option maxRecDepth 100000 in
theorem b_law_757 {sc : Int → Int} {σ : St} {Q : Ou → St → Nat → Prop} (z4 : Int) (z5 : Int) (z6 : Int) (k : am_wp sc am_law 1019 [.inr (.inl 28), .inr (.inl 0), .inr (.inl 1), .inr (.inl 26), .inl z4, .inl z5, .inl z6] [] σ Q) : am_wp sc am_law 757 [.inr (.inl 28), .inr (.inl 0), .inr (.inl 1), .inr (.inl 26), .inl z4, .inl z5, .inl z6] [] σ Q := by
  refine am_wn rfl ?_
  exact k
set_option maxRecDepth 100000 in
theorem b_law_760 {sc : Int → Int} {σ : St} {Q : Ou → St → Nat → Prop} (z4 : Int) (v5 : AV) (v6 : AV) (h0 : am_R (z4 + 1)) (h1 : 0 ≤ (z4 + 1) ∧ (z4 + 1) < sc (-1)) (h2 : am_R (z4 + 2)) (h3 : 0 ≤ (z4 + 2) ∧ (z4 + 2) < sc (-1)) (k : am_wp sc 97 0 [.inr (.inl 0), .inl (sc (z4 + 1)), .inl (sc (z4 + 2)), .inr (.inl 26), .inr (.inr 0)] [] σ (am_bk sc am_law 774 [.inr (.inl 28), .inr (.inl 0), .inr (.inl 1), .inr (.inl 26), .inl z4, v5, v6] [] Q)) : am_wp sc am_law 760 [.inr (.inl 28), .inr (.inl 0), .inr (.inl 1), .inr (.inl 26), .inl z4, v5, v6] [] σ Q := by
  refine am_wn rfl ?_
  refine am_wn rfl ?_
  refine am_wn rfl ?_
  refine am_wn rfl ?_
  refine ar_add rfl h0 ?_
  refine ar_sald rfl h1 ?_
  refine am_wn rfl ?_
  refine am_wn rfl ?_
  refine am_wn rfl ?_
  refine ar_add rfl h2 ?_
  refine ar_sald rfl h3 ?_
  refine am_wn rfl ?_
  exact am_wc rfl (by decide) (by decide) rfl k
set_option maxRecDepth 100000 in
theorem b_law_777 {sc : Int → Int} {σ : St} {Q : Ou → St → Nat → Prop} (z4 : Int) (v5 : AV) (v6 : AV) (s0 : Int) (h0 : am_R (z4 + 1)) (h1 : 0 ≤ (z4 + 1) ∧ (z4 + 1) < sc (-1)) (h2 : am_R (z4 + 2)) (h3 : 0 ≤ (z4 + 2) ∧ (z4 + 2) < sc (-1)) (k : am_wp sc 79 0 [.inr (.inl 1), .inl (sc (z4 + 1)), .inl (sc (z4 + 2))] [] σ (am_bk sc am_law 792 [.inr (.inl 28), .inr (.inl 0), .inr (.inl 1), .inr (.inl 26), .inl z4, .inl s0, v6] [] Q)) : am_wp sc am_law 777 [.inr (.inl 28), .inr (.inl 0), .inr (.inl 1), .inr (.inl 26), .inl z4, v5, v6] [.inl s0] σ Q := by
  refine am_wn rfl ?_
  refine am_wn rfl ?_
  refine am_wn rfl ?_
  refine am_wn rfl ?_
  refine am_wn rfl ?_
  refine ar_add rfl h0 ?_
  refine ar_sald rfl h1 ?_
  refine am_wn rfl ?_
  refine am_wn rfl ?_
  refine am_wn rfl ?_
  refine ar_add rfl h2 ?_
  refine ar_sald rfl h3 ?_
  exact am_wc rfl (by decide) (by decide) rfl k
set_option maxRecDepth 100000 in
theorem b_law_795 {sc : Int → Int} {σ : St} {Q : Ou → St → Nat → Prop} (z4 : Int) (z5 : Int) (v6 : AV) (s0 : Int) (k : am_wp sc 48 0 [.inr (.inl 1)] [] σ (am_bk sc am_law 798 [.inr (.inl 28), .inr (.inl 0), .inr (.inl 1), .inr (.inl 26), .inl z4, .inl z5, .inl s0] [] Q)) : am_wp sc am_law 795 [.inr (.inl 28), .inr (.inl 0), .inr (.inl 1), .inr (.inl 26), .inl z4, .inl z5, v6] [.inl s0] σ Q := by
  refine am_wn rfl ?_
  refine am_wn rfl ?_
  exact am_wc rfl (by decide) (by decide) rfl k
set_option maxRecDepth 100000 in
theorem b_law_801 {sc : Int → Int} {σ : St} {Q : Ou → St → Nat → Prop} (z4 : Int) (z5 : Int) (z6 : Int) (s0 : Int) (k1 : (s0 = z5) → am_wp sc am_law 808 [.inr (.inl 28), .inr (.inl 0), .inr (.inl 1), .inr (.inl 26), .inl z4, .inl z5, .inl z6] [] σ Q) (k2 : ¬ (s0 = z5) → am_wp sc am_law 806 [.inr (.inl 28), .inr (.inl 0), .inr (.inl 1), .inr (.inl 26), .inl z4, .inl z5, .inl z6] [] σ Q) : am_wp sc am_law 801 [.inr (.inl 28), .inr (.inl 0), .inr (.inl 1), .inr (.inl 26), .inl z4, .inl z5, .inl z6] [.inl s0] σ Q := by
  refine am_wn rfl ?_
  exact ar_br (c := s0 = z5) rfl k1 k2
set_option maxRecDepth 100000 in
theorem b_law_806 {sc : Int → Int} {σ : St} {Q : Ou → St → Nat → Prop} (z4 : Int) (z5 : Int) (z6 : Int) (k : Q (.inl (some 0)) σ 0) : am_wp sc am_law 806 [.inr (.inl 28), .inr (.inl 0), .inr (.inl 1), .inr (.inl 26), .inl z4, .inl z5, .inl z6] [] σ Q := by
  refine am_wn rfl ?_
  exact am_w61 rfl (Or.inl rfl) k
set_option maxRecDepth 100000 in
theorem b_law_808 {sc : Int → Int} {σ : St} {Q : Ou → St → Nat → Prop} (z4 : Int) (z5 : Int) (z6 : Int) (k1 : (z5 ≠ 0) → am_wp sc am_law 825 [.inr (.inl 28), .inr (.inl 0), .inr (.inl 1), .inr (.inl 26), .inl z4, .inl z5, .inl z6] [] σ Q) (k2 : ¬ (z5 ≠ 0) → am_wp sc am_law 813 [.inr (.inl 28), .inr (.inl 0), .inr (.inl 1), .inr (.inl 26), .inl z4, .inl z5, .inl z6] [] σ Q) : am_wp sc am_law 808 [.inr (.inl 28), .inr (.inl 0), .inr (.inl 1), .inr (.inl 26), .inl z4, .inl z5, .inl z6] [] σ Q := by
  refine am_wn rfl ?_
  exact ar_br (c := z5 ≠ 0) rfl k1 k2
set_option maxRecDepth 100000 in
theorem b_law_813 {sc : Int → Int} {σ : St} {Q : Ou → St → Nat → Prop} (z4 : Int) (z5 : Int) (z6 : Int) (k1 : ((if z6 < (σ 26 0) then 1 else if (σ 26 0) = z6 then 0 else -1) = 0) → am_wp sc am_law 825 [.inr (.inl 28), .inr (.inl 0), .inr (.inl 1), .inr (.inl 26), .inl z4, .inl z5, .inl z6] [] σ Q) (k2 : ¬ ((if z6 < (σ 26 0) then 1 else if (σ 26 0) = z6 then 0 else -1) = 0) → am_wp sc am_law 823 [.inr (.inl 28), .inr (.inl 0), .inr (.inl 1), .inr (.inl 26), .inl z4, .inl z5, .inl z6] [] σ Q) : am_wp sc am_law 813 [.inr (.inl 28), .inr (.inl 0), .inr (.inl 1), .inr (.inl 26), .inl z4, .inl z5, .inl z6] [] σ Q := by
  refine am_wn rfl ?_
  refine am_wn rfl ?_
  refine am_wn rfl ?_
  refine am_wn rfl ?_
  refine am_wn rfl ?_
  refine am_wn rfl ?_
  exact ar_br (c := (if z6 < (σ 26 0) then 1 else if (σ 26 0) = z6 then 0 else -1) = 0) rfl k1 k2
set_option maxRecDepth 100000 in
theorem b_law_823 {sc : Int → Int} {σ : St} {Q : Ou → St → Nat → Prop} (z4 : Int) (z5 : Int) (z6 : Int) (k : Q (.inl (some 0)) σ 0) : am_wp sc am_law 823 [.inr (.inl 28), .inr (.inl 0), .inr (.inl 1), .inr (.inl 26), .inl z4, .inl z5, .inl z6] [] σ Q := by
  refine am_wn rfl ?_
  exact am_w61 rfl (Or.inl rfl) k
set_option maxRecDepth 100000 in
theorem b_law_825 {sc : Int → Int} {σ : St} {Q : Ou → St → Nat → Prop} (z4 : Int) (z5 : Int) (z6 : Int) (k : am_wp sc am_law 1019 [.inr (.inl 28), .inr (.inl 0), .inr (.inl 1), .inr (.inl 26), .inl z4, .inl z5, .inl z6] [] σ Q) : am_wp sc am_law 825 [.inr (.inl 28), .inr (.inl 0), .inr (.inl 1), .inr (.inl 26), .inl z4, .inl z5, .inl z6] [] σ Q := by
  refine am_wn rfl ?_
  exact k
set_option maxRecDepth 100000 in
theorem b_law_828 {sc : Int → Int} {σ : St} {Q : Ou → St → Nat → Prop} (z4 : Int) (v5 : AV) (v6 : AV) (h0 : am_R (z4 + 1)) (h1 : 0 ≤ (z4 + 1) ∧ (z4 + 1) < sc (-1)) (k : am_wp sc 98 0 [.inr (.inl 0), .inl (sc (z4 + 1)), .inr (.inl 26), .inr (.inr 0)] [] σ (am_bk sc am_law 836 [.inr (.inl 28), .inr (.inl 0), .inr (.inl 1), .inr (.inl 26), .inl z4, v5, v6] [] Q)) : am_wp sc am_law 828 [.inr (.inl 28), .inr (.inl 0), .inr (.inl 1), .inr (.inl 26), .inl z4, v5, v6] [] σ Q := by
  refine am_wn rfl ?_
  refine am_wn rfl ?_
  refine am_wn rfl ?_
  refine am_wn rfl ?_
  refine ar_add rfl h0 ?_
  refine ar_sald rfl h1 ?_
  refine am_wn rfl ?_
  exact am_wc rfl (by decide) (by decide) rfl k
set_option maxRecDepth 100000 in
theorem b_law_839 {sc : Int → Int} {σ : St} {Q : Ou → St → Nat → Prop} (z4 : Int) (v5 : AV) (v6 : AV) (s0 : Int) (h0 : am_R (z4 + 1)) (h1 : 0 ≤ (z4 + 1) ∧ (z4 + 1) < sc (-1)) (k : am_wp sc 83 0 [.inr (.inl 1), .inl (sc (z4 + 1)), .inr (.inr 0)] [] σ (am_bk sc am_law 848 [.inr (.inl 28), .inr (.inl 0), .inr (.inl 1), .inr (.inl 26), .inl z4, .inl s0, v6] [] Q)) : am_wp sc am_law 839 [.inr (.inl 28), .inr (.inl 0), .inr (.inl 1), .inr (.inl 26), .inl z4, v5, v6] [.inl s0] σ Q := by
  refine am_wn rfl ?_
  refine am_wn rfl ?_
  refine am_wn rfl ?_
  refine am_wn rfl ?_
  refine am_wn rfl ?_
  refine ar_add rfl h0 ?_
  refine ar_sald rfl h1 ?_
  exact am_wc rfl (by decide) (by decide) rfl k
set_option maxRecDepth 100000 in
theorem b_law_851 {sc : Int → Int} {σ : St} {Q : Ou → St → Nat → Prop} (z4 : Int) (z5 : Int) (v6 : AV) (s0 : Int) (k : am_wp sc 48 0 [.inr (.inl 1)] [] σ (am_bk sc am_law 854 [.inr (.inl 28), .inr (.inl 0), .inr (.inl 1), .inr (.inl 26), .inl z4, .inl z5, .inl s0] [] Q)) : am_wp sc am_law 851 [.inr (.inl 28), .inr (.inl 0), .inr (.inl 1), .inr (.inl 26), .inl z4, .inl z5, v6] [.inl s0] σ Q := by
  refine am_wn rfl ?_
  refine am_wn rfl ?_
  exact am_wc rfl (by decide) (by decide) rfl k
set_option maxRecDepth 100000 in
theorem b_law_857 {sc : Int → Int} {σ : St} {Q : Ou → St → Nat → Prop} (z4 : Int) (z5 : Int) (z6 : Int) (s0 : Int) (k1 : (s0 = z5) → am_wp sc am_law 864 [.inr (.inl 28), .inr (.inl 0), .inr (.inl 1), .inr (.inl 26), .inl z4, .inl z5, .inl z6] [] σ Q) (k2 : ¬ (s0 = z5) → am_wp sc am_law 862 [.inr (.inl 28), .inr (.inl 0), .inr (.inl 1), .inr (.inl 26), .inl z4, .inl z5, .inl z6] [] σ Q) : am_wp sc am_law 857 [.inr (.inl 28), .inr (.inl 0), .inr (.inl 1), .inr (.inl 26), .inl z4, .inl z5, .inl z6] [.inl s0] σ Q := by
  refine am_wn rfl ?_
  exact ar_br (c := s0 = z5) rfl k1 k2
set_option maxRecDepth 100000 in
theorem b_law_862 {sc : Int → Int} {σ : St} {Q : Ou → St → Nat → Prop} (z4 : Int) (z5 : Int) (z6 : Int) (k : Q (.inl (some 0)) σ 0) : am_wp sc am_law 862 [.inr (.inl 28), .inr (.inl 0), .inr (.inl 1), .inr (.inl 26), .inl z4, .inl z5, .inl z6] [] σ Q := by
  refine am_wn rfl ?_
  exact am_w61 rfl (Or.inl rfl) k
set_option maxRecDepth 100000 in
theorem b_law_864 {sc : Int → Int} {σ : St} {Q : Ou → St → Nat → Prop} (z4 : Int) (z5 : Int) (z6 : Int) (k1 : (z5 ≠ 0) → am_wp sc am_law 881 [.inr (.inl 28), .inr (.inl 0), .inr (.inl 1), .inr (.inl 26), .inl z4, .inl z5, .inl z6] [] σ Q) (k2 : ¬ (z5 ≠ 0) → am_wp sc am_law 869 [.inr (.inl 28), .inr (.inl 0), .inr (.inl 1), .inr (.inl 26), .inl z4, .inl z5, .inl z6] [] σ Q) : am_wp sc am_law 864 [.inr (.inl 28), .inr (.inl 0), .inr (.inl 1), .inr (.inl 26), .inl z4, .inl z5, .inl z6] [] σ Q := by
  refine am_wn rfl ?_
  exact ar_br (c := z5 ≠ 0) rfl k1 k2
set_option maxRecDepth 100000 in
theorem b_law_869 {sc : Int → Int} {σ : St} {Q : Ou → St → Nat → Prop} (z4 : Int) (z5 : Int) (z6 : Int) (k1 : ((if z6 < (σ 26 0) then 1 else if (σ 26 0) = z6 then 0 else -1) = 0) → am_wp sc am_law 881 [.inr (.inl 28), .inr (.inl 0), .inr (.inl 1), .inr (.inl 26), .inl z4, .inl z5, .inl z6] [] σ Q) (k2 : ¬ ((if z6 < (σ 26 0) then 1 else if (σ 26 0) = z6 then 0 else -1) = 0) → am_wp sc am_law 879 [.inr (.inl 28), .inr (.inl 0), .inr (.inl 1), .inr (.inl 26), .inl z4, .inl z5, .inl z6] [] σ Q) : am_wp sc am_law 869 [.inr (.inl 28), .inr (.inl 0), .inr (.inl 1), .inr (.inl 26), .inl z4, .inl z5, .inl z6] [] σ Q := by
  refine am_wn rfl ?_
  refine am_wn rfl ?_
  refine am_wn rfl ?_
  refine am_wn rfl ?_
  refine am_wn rfl ?_
  refine am_wn rfl ?_
  exact ar_br (c := (if z6 < (σ 26 0) then 1 else if (σ 26 0) = z6 then 0 else -1) = 0) rfl k1 k2
set_option maxRecDepth 100000 in
theorem b_law_879 {sc : Int → Int} {σ : St} {Q : Ou → St → Nat → Prop} (z4 : Int) (z5 : Int) (z6 : Int) (k : Q (.inl (some 0)) σ 0) : am_wp sc am_law 879 [.inr (.inl 28), .inr (.inl 0), .inr (.inl 1), .inr (.inl 26), .inl z4, .inl z5, .inl z6] [] σ Q := by
  refine am_wn rfl ?_
  exact am_w61 rfl (Or.inl rfl) k
set_option maxRecDepth 100000 in
theorem b_law_881 {sc : Int → Int} {σ : St} {Q : Ou → St → Nat → Prop} (z4 : Int) (z5 : Int) (z6 : Int) (k : am_wp sc am_law 1019 [.inr (.inl 28), .inr (.inl 0), .inr (.inl 1), .inr (.inl 26), .inl z4, .inl z5, .inl z6] [] σ Q) : am_wp sc am_law 881 [.inr (.inl 28), .inr (.inl 0), .inr (.inl 1), .inr (.inl 26), .inl z4, .inl z5, .inl z6] [] σ Q := by
  refine am_wn rfl ?_
  exact k
set_option maxRecDepth 100000 in
theorem b_law_884 {sc : Int → Int} {σ : St} {Q : Ou → St → Nat → Prop} (z4 : Int) (v5 : AV) (v6 : AV) (h0 : am_R (z4 + 1)) (h1 : 0 ≤ (z4 + 1) ∧ (z4 + 1) < sc (-1)) (h2 : am_R (z4 + 2)) (h3 : 0 ≤ (z4 + 2) ∧ (z4 + 2) < sc (-1)) (k : am_wp sc 99 0 [.inr (.inl 0), .inl (sc (z4 + 1)), .inl (sc (z4 + 2)), .inr (.inl 26), .inr (.inr 0)] [] σ (am_bk sc am_law 898 [.inr (.inl 28), .inr (.inl 0), .inr (.inl 1), .inr (.inl 26), .inl z4, v5, v6] [] Q)) : am_wp sc am_law 884 [.inr (.inl 28), .inr (.inl 0), .inr (.inl 1), .inr (.inl 26), .inl z4, v5, v6] [] σ Q := by
  refine am_wn rfl ?_
  refine am_wn rfl ?_
  refine am_wn rfl ?_
  refine am_wn rfl ?_
  refine ar_add rfl h0 ?_
  refine ar_sald rfl h1 ?_
  refine am_wn rfl ?_
  refine am_wn rfl ?_
  refine am_wn rfl ?_
  refine ar_add rfl h2 ?_
  refine ar_sald rfl h3 ?_
  refine am_wn rfl ?_
  exact am_wc rfl (by decide) (by decide) rfl k
set_option maxRecDepth 100000 in
theorem b_law_901 {sc : Int → Int} {σ : St} {Q : Ou → St → Nat → Prop} (z4 : Int) (v5 : AV) (v6 : AV) (s0 : Int) (h0 : am_R (z4 + 1)) (h1 : 0 ≤ (z4 + 1) ∧ (z4 + 1) < sc (-1)) (h2 : am_R (z4 + 2)) (h3 : 0 ≤ (z4 + 2) ∧ (z4 + 2) < sc (-1)) (k : am_wp sc 84 0 [.inr (.inl 1), .inl (sc (z4 + 1)), .inl (sc (z4 + 2)), .inr (.inr 0), .inr (.inr 0), .inr (.inr 0), .inr (.inr 0)] [] σ (am_bk sc am_law 916 [.inr (.inl 28), .inr (.inl 0), .inr (.inl 1), .inr (.inl 26), .inl z4, .inl s0, v6] [] Q)) : am_wp sc am_law 901 [.inr (.inl 28), .inr (.inl 0), .inr (.inl 1), .inr (.inl 26), .inl z4, v5, v6] [.inl s0] σ Q := by
  refine am_wn rfl ?_
  refine am_wn rfl ?_
  refine am_wn rfl ?_
  refine am_wn rfl ?_
  refine am_wn rfl ?_
  refine ar_add rfl h0 ?_
  refine ar_sald rfl h1 ?_
  refine am_wn rfl ?_
  refine am_wn rfl ?_
  refine am_wn rfl ?_
  refine ar_add rfl h2 ?_
  refine ar_sald rfl h3 ?_
  exact am_wc rfl (by decide) (by decide) rfl k
set_option maxRecDepth 100000 in
theorem b_law_919 {sc : Int → Int} {σ : St} {Q : Ou → St → Nat → Prop} (z4 : Int) (z5 : Int) (v6 : AV) (s0 : Int) (k : am_wp sc 48 0 [.inr (.inl 1)] [] σ (am_bk sc am_law 922 [.inr (.inl 28), .inr (.inl 0), .inr (.inl 1), .inr (.inl 26), .inl z4, .inl z5, .inl s0] [] Q)) : am_wp sc am_law 919 [.inr (.inl 28), .inr (.inl 0), .inr (.inl 1), .inr (.inl 26), .inl z4, .inl z5, v6] [.inl s0] σ Q := by
  refine am_wn rfl ?_
  refine am_wn rfl ?_
  exact am_wc rfl (by decide) (by decide) rfl k
set_option maxRecDepth 100000 in
theorem b_law_925 {sc : Int → Int} {σ : St} {Q : Ou → St → Nat → Prop} (z4 : Int) (z5 : Int) (z6 : Int) (s0 : Int) (k1 : (s0 = z5) → am_wp sc am_law 932 [.inr (.inl 28), .inr (.inl 0), .inr (.inl 1), .inr (.inl 26), .inl z4, .inl z5, .inl z6] [] σ Q) (k2 : ¬ (s0 = z5) → am_wp sc am_law 930 [.inr (.inl 28), .inr (.inl 0), .inr (.inl 1), .inr (.inl 26), .inl z4, .inl z5, .inl z6] [] σ Q) : am_wp sc am_law 925 [.inr (.inl 28), .inr (.inl 0), .inr (.inl 1), .inr (.inl 26), .inl z4, .inl z5, .inl z6] [.inl s0] σ Q := by
  refine am_wn rfl ?_
  exact ar_br (c := s0 = z5) rfl k1 k2
set_option maxRecDepth 100000 in
theorem b_law_930 {sc : Int → Int} {σ : St} {Q : Ou → St → Nat → Prop} (z4 : Int) (z5 : Int) (z6 : Int) (k : Q (.inl (some 0)) σ 0) : am_wp sc am_law 930 [.inr (.inl 28), .inr (.inl 0), .inr (.inl 1), .inr (.inl 26), .inl z4, .inl z5, .inl z6] [] σ Q := by
  refine am_wn rfl ?_
  exact am_w61 rfl (Or.inl rfl) k
set_option maxRecDepth 100000 in
theorem b_law_932 {sc : Int → Int} {σ : St} {Q : Ou → St → Nat → Prop} (z4 : Int) (z5 : Int) (z6 : Int) (k1 : (z5 ≠ 0) → am_wp sc am_law 949 [.inr (.inl 28), .inr (.inl 0), .inr (.inl 1), .inr (.inl 26), .inl z4, .inl z5, .inl z6] [] σ Q) (k2 : ¬ (z5 ≠ 0) → am_wp sc am_law 937 [.inr (.inl 28), .inr (.inl 0), .inr (.inl 1), .inr (.inl 26), .inl z4, .inl z5, .inl z6] [] σ Q) : am_wp sc am_law 932 [.inr (.inl 28), .inr (.inl 0), .inr (.inl 1), .inr (.inl 26), .inl z4, .inl z5, .inl z6] [] σ Q := by
  refine am_wn rfl ?_
  exact ar_br (c := z5 ≠ 0) rfl k1 k2
set_option maxRecDepth 100000 in
theorem b_law_937 {sc : Int → Int} {σ : St} {Q : Ou → St → Nat → Prop} (z4 : Int) (z5 : Int) (z6 : Int) (k1 : ((if z6 < (σ 26 0) then 1 else if (σ 26 0) = z6 then 0 else -1) = 0) → am_wp sc am_law 949 [.inr (.inl 28), .inr (.inl 0), .inr (.inl 1), .inr (.inl 26), .inl z4, .inl z5, .inl z6] [] σ Q) (k2 : ¬ ((if z6 < (σ 26 0) then 1 else if (σ 26 0) = z6 then 0 else -1) = 0) → am_wp sc am_law 947 [.inr (.inl 28), .inr (.inl 0), .inr (.inl 1), .inr (.inl 26), .inl z4, .inl z5, .inl z6] [] σ Q) : am_wp sc am_law 937 [.inr (.inl 28), .inr (.inl 0), .inr (.inl 1), .inr (.inl 26), .inl z4, .inl z5, .inl z6] [] σ Q := by
  refine am_wn rfl ?_
  refine am_wn rfl ?_
  refine am_wn rfl ?_
  refine am_wn rfl ?_
  refine am_wn rfl ?_
  refine am_wn rfl ?_
  exact ar_br (c := (if z6 < (σ 26 0) then 1 else if (σ 26 0) = z6 then 0 else -1) = 0) rfl k1 k2
set_option maxRecDepth 100000 in
theorem b_law_947 {sc : Int → Int} {σ : St} {Q : Ou → St → Nat → Prop} (z4 : Int) (z5 : Int) (z6 : Int) (k : Q (.inl (some 0)) σ 0) : am_wp sc am_law 947 [.inr (.inl 28), .inr (.inl 0), .inr (.inl 1), .inr (.inl 26), .inl z4, .inl z5, .inl z6] [] σ Q := by
  refine am_wn rfl ?_
  exact am_w61 rfl (Or.inl rfl) k
set_option maxRecDepth 100000 in
theorem b_law_949 {sc : Int → Int} {σ : St} {Q : Ou → St → Nat → Prop} (z4 : Int) (z5 : Int) (z6 : Int) (k : am_wp sc am_law 1019 [.inr (.inl 28), .inr (.inl 0), .inr (.inl 1), .inr (.inl 26), .inl z4, .inl z5, .inl z6] [] σ Q) : am_wp sc am_law 949 [.inr (.inl 28), .inr (.inl 0), .inr (.inl 1), .inr (.inl 26), .inl z4, .inl z5, .inl z6] [] σ Q := by
  refine am_wn rfl ?_
  exact k
set_option maxRecDepth 100000 in
theorem b_law_952 {sc : Int → Int} {σ : St} {Q : Ou → St → Nat → Prop} (z4 : Int) (v5 : AV) (v6 : AV) (h0 : am_R (z4 + 1)) (h1 : 0 ≤ (z4 + 1) ∧ (z4 + 1) < sc (-1)) (k : am_wp sc 100 0 [.inr (.inl 0), .inl (sc (z4 + 1)), .inr (.inl 26), .inr (.inr 0)] [] σ (am_bk sc am_law 960 [.inr (.inl 28), .inr (.inl 0), .inr (.inl 1), .inr (.inl 26), .inl z4, v5, v6] [] Q)) : am_wp sc am_law 952 [.inr (.inl 28), .inr (.inl 0), .inr (.inl 1), .inr (.inl 26), .inl z4, v5, v6] [] σ Q := by
  refine am_wn rfl ?_
  refine am_wn rfl ?_
  refine am_wn rfl ?_
  refine am_wn rfl ?_
  refine ar_add rfl h0 ?_
  refine ar_sald rfl h1 ?_
  refine am_wn rfl ?_
  exact am_wc rfl (by decide) (by decide) rfl k
set_option maxRecDepth 100000 in
theorem b_law_963 {sc : Int → Int} {σ : St} {Q : Ou → St → Nat → Prop} (z4 : Int) (v5 : AV) (v6 : AV) (s0 : Int) (h0 : am_R (z4 + 1)) (h1 : 0 ≤ (z4 + 1) ∧ (z4 + 1) < sc (-1)) (k : am_wp sc 85 0 [.inr (.inl 1), .inl (sc (z4 + 1))] [] σ (am_bk sc am_law 972 [.inr (.inl 28), .inr (.inl 0), .inr (.inl 1), .inr (.inl 26), .inl z4, .inl s0, v6] [] Q)) : am_wp sc am_law 963 [.inr (.inl 28), .inr (.inl 0), .inr (.inl 1), .inr (.inl 26), .inl z4, v5, v6] [.inl s0] σ Q := by
  refine am_wn rfl ?_
  refine am_wn rfl ?_
  refine am_wn rfl ?_
  refine am_wn rfl ?_
  refine am_wn rfl ?_
  refine ar_add rfl h0 ?_
  refine ar_sald rfl h1 ?_
  exact am_wc rfl (by decide) (by decide) rfl k
set_option maxRecDepth 100000 in
theorem b_law_975 {sc : Int → Int} {σ : St} {Q : Ou → St → Nat → Prop} (z4 : Int) (z5 : Int) (v6 : AV) (s0 : Int) (k : am_wp sc 48 0 [.inr (.inl 1)] [] σ (am_bk sc am_law 978 [.inr (.inl 28), .inr (.inl 0), .inr (.inl 1), .inr (.inl 26), .inl z4, .inl z5, .inl s0] [] Q)) : am_wp sc am_law 975 [.inr (.inl 28), .inr (.inl 0), .inr (.inl 1), .inr (.inl 26), .inl z4, .inl z5, v6] [.inl s0] σ Q := by
  refine am_wn rfl ?_
  refine am_wn rfl ?_
  exact am_wc rfl (by decide) (by decide) rfl k
set_option maxRecDepth 100000 in
theorem b_law_981 {sc : Int → Int} {σ : St} {Q : Ou → St → Nat → Prop} (z4 : Int) (z5 : Int) (z6 : Int) (s0 : Int) (k1 : (s0 = z5) → am_wp sc am_law 988 [.inr (.inl 28), .inr (.inl 0), .inr (.inl 1), .inr (.inl 26), .inl z4, .inl z5, .inl z6] [] σ Q) (k2 : ¬ (s0 = z5) → am_wp sc am_law 986 [.inr (.inl 28), .inr (.inl 0), .inr (.inl 1), .inr (.inl 26), .inl z4, .inl z5, .inl z6] [] σ Q) : am_wp sc am_law 981 [.inr (.inl 28), .inr (.inl 0), .inr (.inl 1), .inr (.inl 26), .inl z4, .inl z5, .inl z6] [.inl s0] σ Q := by
  refine am_wn rfl ?_
  exact ar_br (c := s0 = z5) rfl k1 k2
set_option maxRecDepth 100000 in
theorem b_law_986 {sc : Int → Int} {σ : St} {Q : Ou → St → Nat → Prop} (z4 : Int) (z5 : Int) (z6 : Int) (k : Q (.inl (some 0)) σ 0) : am_wp sc am_law 986 [.inr (.inl 28), .inr (.inl 0), .inr (.inl 1), .inr (.inl 26), .inl z4, .inl z5, .inl z6] [] σ Q := by
  refine am_wn rfl ?_
  exact am_w61 rfl (Or.inl rfl) k
set_option maxRecDepth 100000 in
theorem b_law_988 {sc : Int → Int} {σ : St} {Q : Ou → St → Nat → Prop} (z4 : Int) (z5 : Int) (z6 : Int) (k1 : (z5 ≠ 0) → am_wp sc am_law 1005 [.inr (.inl 28), .inr (.inl 0), .inr (.inl 1), .inr (.inl 26), .inl z4, .inl z5, .inl z6] [] σ Q) (k2 : ¬ (z5 ≠ 0) → am_wp sc am_law 993 [.inr (.inl 28), .inr (.inl 0), .inr (.inl 1), .inr (.inl 26), .inl z4, .inl z5, .inl z6] [] σ Q) : am_wp sc am_law 988 [.inr (.inl 28), .inr (.inl 0), .inr (.inl 1), .inr (.inl 26), .inl z4, .inl z5, .inl z6] [] σ Q := by
  refine am_wn rfl ?_
  exact ar_br (c := z5 ≠ 0) rfl k1 k2
set_option maxRecDepth 100000 in
theorem b_law_993 {sc : Int → Int} {σ : St} {Q : Ou → St → Nat → Prop} (z4 : Int) (z5 : Int) (z6 : Int) (k1 : ((if z6 < (σ 26 0) then 1 else if (σ 26 0) = z6 then 0 else -1) = 0) → am_wp sc am_law 1005 [.inr (.inl 28), .inr (.inl 0), .inr (.inl 1), .inr (.inl 26), .inl z4, .inl z5, .inl z6] [] σ Q) (k2 : ¬ ((if z6 < (σ 26 0) then 1 else if (σ 26 0) = z6 then 0 else -1) = 0) → am_wp sc am_law 1003 [.inr (.inl 28), .inr (.inl 0), .inr (.inl 1), .inr (.inl 26), .inl z4, .inl z5, .inl z6] [] σ Q) : am_wp sc am_law 993 [.inr (.inl 28), .inr (.inl 0), .inr (.inl 1), .inr (.inl 26), .inl z4, .inl z5, .inl z6] [] σ Q := by
  refine am_wn rfl ?_
  refine am_wn rfl ?_
  refine am_wn rfl ?_
  refine am_wn rfl ?_
  refine am_wn rfl ?_
  refine am_wn rfl ?_
  exact ar_br (c := (if z6 < (σ 26 0) then 1 else if (σ 26 0) = z6 then 0 else -1) = 0) rfl k1 k2
set_option maxRecDepth 100000 in
theorem b_law_1003 {sc : Int → Int} {σ : St} {Q : Ou → St → Nat → Prop} (z4 : Int) (z5 : Int) (z6 : Int) (k : Q (.inl (some 0)) σ 0) : am_wp sc am_law 1003 [.inr (.inl 28), .inr (.inl 0), .inr (.inl 1), .inr (.inl 26), .inl z4, .inl z5, .inl z6] [] σ Q := by
  refine am_wn rfl ?_
  exact am_w61 rfl (Or.inl rfl) k
set_option maxRecDepth 100000 in
theorem b_law_1005 {sc : Int → Int} {σ : St} {Q : Ou → St → Nat → Prop} (z4 : Int) (z5 : Int) (z6 : Int) (k : am_wp sc am_law 1019 [.inr (.inl 28), .inr (.inl 0), .inr (.inl 1), .inr (.inl 26), .inl z4, .inl z5, .inl z6] [] σ Q) : am_wp sc am_law 1005 [.inr (.inl 28), .inr (.inl 0), .inr (.inl 1), .inr (.inl 26), .inl z4, .inl z5, .inl z6] [] σ Q := by
  refine am_wn rfl ?_
  exact k
set_option maxRecDepth 100000 in
theorem b_law_1008 {sc : Int → Int} {σ : St} {Q : Ou → St → Nat → Prop} (z4 : Int) (v5 : AV) (v6 : AV) (k : am_wp sc 17 0 [.inr (.inl 0), .inr (.inr 0)] [] σ (am_bk sc am_law 1009 [.inr (.inl 28), .inr (.inl 0), .inr (.inl 1), .inr (.inl 26), .inl z4, v5, v6] [] Q)) : am_wp sc am_law 1008 [.inr (.inl 28), .inr (.inl 0), .inr (.inl 1), .inr (.inl 26), .inl z4, v5, v6] [] σ Q := by
  refine am_wn rfl ?_
  exact am_wc rfl (by decide) (by decide) rfl k
set_option maxRecDepth 100000 in
theorem b_law_1012 {sc : Int → Int} {σ : St} {Q : Ou → St → Nat → Prop} (z4 : Int) (v5 : AV) (v6 : AV) (k : am_wp sc 86 0 [.inr (.inl 1), .inr (.inr 0)] [] σ (am_bk sc am_law 1013 [.inr (.inl 28), .inr (.inl 0), .inr (.inl 1), .inr (.inl 26), .inl z4, v5, v6] [] Q)) : am_wp sc am_law 1012 [.inr (.inl 28), .inr (.inl 0), .inr (.inl 1), .inr (.inl 26), .inl z4, v5, v6] [] σ Q := by
  refine am_wn rfl ?_
  exact am_wc rfl (by decide) (by decide) rfl k
set_option maxRecDepth 100000 in
theorem b_law_1016 {sc : Int → Int} {σ : St} {Q : Ou → St → Nat → Prop} (z4 : Int) (v5 : AV) (v6 : AV) (k : am_wp sc am_law 1019 [.inr (.inl 28), .inr (.inl 0), .inr (.inl 1), .inr (.inl 26), .inl z4, v5, v6] [] σ Q) : am_wp sc am_law 1016 [.inr (.inl 28), .inr (.inl 0), .inr (.inl 1), .inr (.inl 26), .inl z4, v5, v6] [] σ Q := by
  refine am_wn rfl ?_
  exact k
set_option maxRecDepth 100000 in
theorem b_law_1019 {sc : Int → Int} {σ : St} {Q : Ou → St → Nat → Prop} (z4 : Int) (v5 : AV) (v6 : AV) (h0 : am_R (z4 + 5)) (k : am_wp sc am_law 23 [.inr (.inl 28), .inr (.inl 0), .inr (.inl 1), .inr (.inl 26), .inl (z4 + 5), v5, v6] [] σ Q) : am_wp sc am_law 1019 [.inr (.inl 28), .inr (.inl 0), .inr (.inl 1), .inr (.inl 26), .inl z4, v5, v6] [] σ Q := by
  refine ar_inc (L' := [.inr (.inl 28), .inr (.inl 0), .inr (.inl 1), .inr (.inl 26), .inl (z4 + 5), v5, v6]) rfl rfl h0 rfl ?_
  refine am_wn rfl ?_
  exact k
set_option maxRecDepth 100000 in
theorem b_law_1025 {sc : Int → Int} {σ : St} {Q : Ou → St → Nat → Prop} (z4 : Int) (v5 : AV) (v6 : AV) (k : Q (.inl (some 1)) σ 0) : am_wp sc am_law 1025 [.inr (.inl 28), .inr (.inl 0), .inr (.inl 1), .inr (.inl 26), .inl z4, v5, v6] [] σ Q := by
  refine am_wn rfl ?_
  exact am_w61 rfl (Or.inr rfl) k
end
section
/-! making the two objects: the constructors, walked -/
/-- the state at the start -/
def am_st0 : St := fun k _ => if k = 4 then -1 else 0
theorem ct_oX : Cond.methodLink (am_cC 0) 1 objectInit ∈ lw_tbl := by decide +kernel
theorem ct_oM : Cond.methodLink (am_cC 1) 1 objectInit ∈ lw_tbl := by decide +kernel
theorem ct_oi : Cond.instanceMethod objectInit ∈ lw_tbl := by decide +kernel
theorem ct_oc : Cond.code objectInit ⟨#[0xb1]⟩ 1 none ∈ lw_tbl := by decide +kernel
theorem ct_aI : Cond.arrayClass .int ∈ lw_tbl := by decide +kernel
theorem ct_aZ : Cond.arrayClass .boolean ∈ lw_tbl := by decide +kernel
theorem ct_aL : Cond.arrayClass .long ∈ lw_tbl := by decide +kernel
theorem ct_arr {cA : ClassId} {n : Nat} {f g : Nat → Int32} (h : ∀ j, j < n → f j = g j) : vp_cell cA (n, .inl f) = vp_cell cA (n, .inl g) := by
  rw [vp_cell_i, vp_cell_i]
  unfold arrV
  congr 2
  funext j
  show Value.int (f j.val) = Value.int (g j.val)
  rw [h j.val j.isLt]
theorem ct_dF_0 : decode prog_12_method_103_code 0 = .ok (.iconst 0, 1) := by decide +kernel
theorem ct_dF_1 : decode prog_12_method_103_code 1 = .ok (.istore_n 2, 1) := by decide +kernel
theorem ct_dF_2 : decode prog_12_method_103_code 2 = .ok (.aload_n 0, 1) := by decide +kernel
theorem ct_dF_3 : decode prog_12_method_103_code 3 = .ok (.arraylength, 1) := by decide +kernel
theorem ct_dF_4 : decode prog_12_method_103_code 4 = .ok (.istore_n 3, 1) := by decide +kernel
theorem ct_dF_5 : decode prog_12_method_103_code 5 = .ok (.iload_n 2, 1) := by decide +kernel
theorem ct_dF_6 : decode prog_12_method_103_code 6 = .ok (.iload_n 3, 1) := by decide +kernel
theorem ct_dF_7 : decode prog_12_method_103_code 7 = .ok (.if_icmp .ge 13, 3) := by decide +kernel
theorem ct_dF_10 : decode prog_12_method_103_code 10 = .ok (.aload_n 0, 1) := by decide +kernel
theorem ct_dF_11 : decode prog_12_method_103_code 11 = .ok (.iload_n 2, 1) := by decide +kernel
theorem ct_dF_12 : decode prog_12_method_103_code 12 = .ok (.iload_n 1, 1) := by decide +kernel
theorem ct_dF_13 : decode prog_12_method_103_code 13 = .ok (.iastore, 1) := by decide +kernel
theorem ct_dF_14 : decode prog_12_method_103_code 14 = .ok (.iinc 2 1, 3) := by decide +kernel
theorem ct_dF_17 : decode prog_12_method_103_code 17 = .ok (.goto (-12), 3) := by decide +kernel
theorem ct_dF_20 : decode prog_12_method_103_code 20 = .ok (.return_, 1) := by decide +kernel
def ct_yF : MethodName := ⟨"java/util/Arrays", "fill", "([II)V"⟩
def ct_wF : List Cond := [.code ct_yF prog_12_method_103_code 4 none]
set_option maxHeartbeats 4000000 in
set_option maxRecDepth 100000 in
/-- Arrays.fill of an array of 15 places -/
theorem ct_fill (l : Launch) (D : va_G) (q sz : Nat) (cA : ClassId) (v : Int32) : Met l ct_yF ct_wF ({ frames := 0, cells := 0, slots := 0, locals := 0 }) (va_Pc [.ref q, .int v] (fun U => U.heap.size = sz ∧ va_P D am_cl [(q, .inl (cA, 15, .inl (fun _ => 0)))] U.heap ∧ va_K D am_cl [(cA, .int)] U ∧ va_D (fun _ => True) [(q, .inl (cA, 15, .inl (fun _ => 0)))])) (va_Qv (fun _ : Unit => True) (fun _ t => va_P D am_cl [(q, .inl (cA, 15, .inl (fun _ => v)))] t.heap) (va_A [(q, .inl (cA, 15, .inl (fun _ => 0)))] sz)) 0 0 (va_A [(q, .inl (cA, 15, .inl (fun _ => 0)))] sz) := by
  refine Met.ofW (cc := prog_12_method_103_code) (maxL := 4) (ret := none) (by decide) rfl ?_
  intro p e s m args below meth c s₁ B hml hv
  obtain ⟨rfl, hsz, hP, hK, hD0⟩ := hv
  have hx := B.exec
  have hb := B.bytes
  have hr := B.returns
  have hlocks := B.notSynchronized
  subst hsz
  have hD := hD0.self (sz := s.heap.size)
  generalize hAe : va_A [(q, .inl (cA, 15, .inl (fun _ => 0)))] s.heap.size = A at hD ⊢
  have hS : va_S A s.heap s.heap [] := va_S.rf
  have hl := lv_entry ([.ref q, .int v]) (n := 4) (Nat.le_of_ble_eq_true rfl)
  rw [lg_entry_eq]
  generalize (lg_sl ([.ref q, .int v]) ++ List.replicate (4 - (lg_sl ([.ref q, .int v])).length) Slot.unset).toArray = ls at hl ⊢
  have hl : lv_has ls 4 [(0, .ref q), (1, .int v)] := hl
  have loop : ∀ (d i : Nat), i + d = 15 → ∀ (g : Nat → Int32) (H : Heap) (locs : List Loc) (ls : Array Slot), (∀ j, j < i → g j = v) → va_P D am_cl [(q, .inl (cA, 15, .inl g))] H → va_D A [(q, .inl (cA, 15, .inl g))] → va_S A s.heap H locs → lv_has ls 4 [(0, .ref q), (1, .int v), (2, .int (nI i)), (3, .int 15)] →
      W p l e (headSpec ct_wF { frames := 0, cells := 0, slots := 0, locals := 0 }).room s m [Value.ref q, Value.int v].toArray below meth c H locs 0 0 (MQ below (va_Qv (fun _ : Unit => True) (fun _ t => va_P D am_cl [(q, .inl (cA, 15, .inl (fun _ => v)))] t.heap) A) [Value.ref q, Value.int v].toArray s 0 0 A) (F0 m 5 ls []) := by
    intro d
    induction d with
    | zero =>
      intro i hi g H locs ls hg hP hD hS hl
      refine lv_iload_n hx hb ct_dF_5 rfl (lv_at hl 2 rfl) ?_
      refine lv_iload_n hx hb ct_dF_6 rfl (lv_at hl 3 rfl) ?_
      refine lv_icmp_ge hx hb ct_dF_7 (tgt := 20) (by decide) (fun h => ?_) (fun h => ?_)
      · refine W.vret hx hb hr (fun t ht hW => ⟨⟨(), rfl, trivial, ?_⟩, hS.F ht⟩) hS.2.2 ct_dF_20
        show va_P D am_cl [(q, .inl (cA, 15, .inl (fun _ => v)))] t.heap
        rw [ht]
        intro k z hz
        have h0 := hP k
        match k, hz with
        | 0, hz =>
          cases hz
          have h1 := h0 _ rfl
          show H[q]? = some (vp_cell cA (15, .inl (fun _ => v)))
          rw [← ct_arr (f := g) (fun j hj => hg j (by omega))]
          exact h1
      · exact absurd (show (15 : Int32) ≤ nI i by rw [show i = 15 by omega]; decide) h
    | succ d ih =>
      intro i hi g H locs ls hg hP hD hS hl
      refine lv_iload_n hx hb ct_dF_5 rfl (lv_at hl 2 rfl) ?_
      refine lv_iload_n hx hb ct_dF_6 rfl (lv_at hl 3 rfl) ?_
      refine lv_icmp_ge hx hb ct_dF_7 (tgt := 20) (by decide) (fun h => ?_) (fun h => ?_)
      · exact absurd h (show ¬ nI 15 ≤ nI i from nI_ge (by omega) (by omega))
      · refine lv_aload_n hx hb ct_dF_10 rfl (lv_at hl 0 rfl) ?_
        refine lv_iload_n hx hb ct_dF_11 rfl (lv_at hl 2 rfl) ?_
        refine lv_iload_n hx hb ct_dF_12 rfl (lv_at hl 1 rfl) ?_
        refine va_iast hx hb hK hP hD hS 0 0 rfl rfl (i := nI i) (x := v) (vp_in_nI (by omega) (by omega)) ct_dF_13 (fun H1 locs1 hP hD hS => ?_)
        rw [nI_clamp (by omega)] at hP hD
        refine lv_iinc (k := 2) (v := nI (i + 1)) hx hb ct_dF_14 hl rfl (by rw [nI_succ]; rfl) (by decide) rfl (fun ls' hl' => ?_)
        refine lv_goto hx hb ct_dF_17 (tgt := 5) (by decide) ?_
        refine ih (i + 1) (by omega) (upd g i v) H1 locs1 ls' (fun j hj => ?_) hP hD hS (lv_sub hl' [1, 2, 0, 3] rfl)
        by_cases hji : j = i
        · rw [hji]; exact pk_us
        · rw [pk_un hji]; exact hg j (by omega)
  refine lv_iconst (v := 0) hx hb ct_dF_0 (by decide) ?_
  refine lv_istore_n hx hb ct_dF_1 rfl hl (by decide) rfl (fun ls hl => ?_)
  refine lv_aload_n hx hb ct_dF_2 rfl (lv_at hl 1 rfl) ?_
  refine va_alen hx hb hK hP 0 0 rfl rfl (v := 15) rfl ct_dF_3 ?_
  refine lv_istore_n hx hb ct_dF_4 rfl hl (by decide) rfl (fun ls hl => ?_)
  exact loop 15 0 rfl _ s.heap [] ls (fun j hj => absurd hj (Nat.not_lt_zero j)) hP hD hS (lv_sub hl [2, 3, 1, 0] rfl)
theorem ct_fw : GoodIn am_ws (va_wsS (am_cC 0) 47 ct_yF ct_wF) := by
  refine am_gin (fun w hw => ?_)
  have hall := am_mlS_w (0, 47, 87) (by decide)
  exact am_inw (hall w hw).1 (hall w hw).2
/-! the constructor of SlidingHeap -/
def ct_yX : MethodName := ⟨"SlidingHeap", "<init>", "()V"⟩
def ct_wX : List Cond := .code ct_yX prog_1_method_1_code 1 none :: am_ws
theorem ct_dX_0 : decode prog_1_method_1_code 0 = .ok (.aload_n 0, 1) := by decide +kernel
theorem ct_dX_1 : decode prog_1_method_1_code 1 = .ok (.invokespecial 1, 3) := by decide +kernel
theorem ct_dX_4 : decode prog_1_method_1_code 4 = .ok (.aload_n 0, 1) := by decide +kernel
theorem ct_dX_5 : decode prog_1_method_1_code 5 = .ok (.bipush 90, 2) := by decide +kernel
theorem ct_dX_7 : decode prog_1_method_1_code 7 = .ok (.newarray .int, 2) := by decide +kernel
theorem ct_dX_9 : decode prog_1_method_1_code 9 = .ok (.putfield 9, 3) := by decide +kernel
theorem ct_dX_12 : decode prog_1_method_1_code 12 = .ok (.aload_n 0, 1) := by decide +kernel
theorem ct_dX_13 : decode prog_1_method_1_code 13 = .ok (.bipush 90, 2) := by decide +kernel
theorem ct_dX_15 : decode prog_1_method_1_code 15 = .ok (.newarray .int, 2) := by decide +kernel
theorem ct_dX_17 : decode prog_1_method_1_code 17 = .ok (.putfield 13, 3) := by decide +kernel
theorem ct_dX_20 : decode prog_1_method_1_code 20 = .ok (.aload_n 0, 1) := by decide +kernel
theorem ct_dX_21 : decode prog_1_method_1_code 21 = .ok (.bipush 15, 2) := by decide +kernel
theorem ct_dX_23 : decode prog_1_method_1_code 23 = .ok (.newarray .int, 2) := by decide +kernel
theorem ct_dX_25 : decode prog_1_method_1_code 25 = .ok (.putfield 16, 3) := by decide +kernel
theorem ct_dX_28 : decode prog_1_method_1_code 28 = .ok (.aload_n 0, 1) := by decide +kernel
theorem ct_dX_29 : decode prog_1_method_1_code 29 = .ok (.bipush 15, 2) := by decide +kernel
theorem ct_dX_31 : decode prog_1_method_1_code 31 = .ok (.newarray .int, 2) := by decide +kernel
theorem ct_dX_33 : decode prog_1_method_1_code 33 = .ok (.putfield 19, 3) := by decide +kernel
theorem ct_dX_36 : decode prog_1_method_1_code 36 = .ok (.aload_n 0, 1) := by decide +kernel
theorem ct_dX_37 : decode prog_1_method_1_code 37 = .ok (.bipush 15, 2) := by decide +kernel
theorem ct_dX_39 : decode prog_1_method_1_code 39 = .ok (.newarray .int, 2) := by decide +kernel
theorem ct_dX_41 : decode prog_1_method_1_code 41 = .ok (.putfield 22, 3) := by decide +kernel
theorem ct_dX_44 : decode prog_1_method_1_code 44 = .ok (.aload_n 0, 1) := by decide +kernel
theorem ct_dX_45 : decode prog_1_method_1_code 45 = .ok (.bipush 15, 2) := by decide +kernel
theorem ct_dX_47 : decode prog_1_method_1_code 47 = .ok (.newarray .boolean, 2) := by decide +kernel
theorem ct_dX_49 : decode prog_1_method_1_code 49 = .ok (.putfield 25, 3) := by decide +kernel
theorem ct_dX_52 : decode prog_1_method_1_code 52 = .ok (.aload_n 0, 1) := by decide +kernel
theorem ct_dX_53 : decode prog_1_method_1_code 53 = .ok (.bipush 14, 2) := by decide +kernel
theorem ct_dX_55 : decode prog_1_method_1_code 55 = .ok (.newarray .int, 2) := by decide +kernel
theorem ct_dX_57 : decode prog_1_method_1_code 57 = .ok (.putfield 29, 3) := by decide +kernel
theorem ct_dX_60 : decode prog_1_method_1_code 60 = .ok (.aload_n 0, 1) := by decide +kernel
theorem ct_dX_61 : decode prog_1_method_1_code 61 = .ok (.bipush 10, 2) := by decide +kernel
theorem ct_dX_63 : decode prog_1_method_1_code 63 = .ok (.newarray .int, 2) := by decide +kernel
theorem ct_dX_65 : decode prog_1_method_1_code 65 = .ok (.putfield 32, 3) := by decide +kernel
theorem ct_dX_68 : decode prog_1_method_1_code 68 = .ok (.aload_n 0, 1) := by decide +kernel
theorem ct_dX_69 : decode prog_1_method_1_code 69 = .ok (.bipush 14, 2) := by decide +kernel
theorem ct_dX_71 : decode prog_1_method_1_code 71 = .ok (.newarray .int, 2) := by decide +kernel
theorem ct_dX_73 : decode prog_1_method_1_code 73 = .ok (.putfield 35, 3) := by decide +kernel
theorem ct_dX_76 : decode prog_1_method_1_code 76 = .ok (.aload_n 0, 1) := by decide +kernel
theorem ct_dX_77 : decode prog_1_method_1_code 77 = .ok (.bipush 15, 2) := by decide +kernel
theorem ct_dX_79 : decode prog_1_method_1_code 79 = .ok (.newarray .boolean, 2) := by decide +kernel
theorem ct_dX_81 : decode prog_1_method_1_code 81 = .ok (.putfield 38, 3) := by decide +kernel
theorem ct_dX_84 : decode prog_1_method_1_code 84 = .ok (.aload_n 0, 1) := by decide +kernel
theorem ct_dX_85 : decode prog_1_method_1_code 85 = .ok (.bipush 14, 2) := by decide +kernel
theorem ct_dX_87 : decode prog_1_method_1_code 87 = .ok (.newarray .int, 2) := by decide +kernel
theorem ct_dX_89 : decode prog_1_method_1_code 89 = .ok (.putfield 41, 3) := by decide +kernel
theorem ct_dX_92 : decode prog_1_method_1_code 92 = .ok (.aload_n 0, 1) := by decide +kernel
theorem ct_dX_93 : decode prog_1_method_1_code 93 = .ok (.bipush 15, 2) := by decide +kernel
theorem ct_dX_95 : decode prog_1_method_1_code 95 = .ok (.newarray .int, 2) := by decide +kernel
theorem ct_dX_97 : decode prog_1_method_1_code 97 = .ok (.putfield 44, 3) := by decide +kernel
theorem ct_dX_100 : decode prog_1_method_1_code 100 = .ok (.aload_n 0, 1) := by decide +kernel
theorem ct_dX_101 : decode prog_1_method_1_code 101 = .ok (.getfield 16, 3) := by decide +kernel
theorem ct_dX_104 : decode prog_1_method_1_code 104 = .ok (.iconst (-1), 1) := by decide +kernel
theorem ct_dX_105 : decode prog_1_method_1_code 105 = .ok (.invokestatic 47, 3) := by decide +kernel
theorem ct_dX_108 : decode prog_1_method_1_code 108 = .ok (.return_, 1) := by decide +kernel
/-- the world behind it: the object and its arrays -/
def ct_WX (a : Nat → Nat) (cs : Nat → ClassId) : va_W := ([0, 2, 3, 4, 5, 6, 7, 8, 9, 10, 11, 12, 13] : List Nat).map (am_cell a cs am_st0)
abbrev ct_BX (D : va_G) (A : Nat → Prop) (h0 : Nat) (u : (Nat → Nat) × (Nat → ClassId)) (t : State) : Prop := u.1 0 = h0 ∧ va_P D am_cl (ct_WX u.1 u.2) t.heap ∧ va_K D am_cl [(u.2 0, .int), (u.2 1, .boolean)] t ∧ va_D A (ct_WX u.1 u.2)
set_option maxHeartbeats 4000000 in
set_option maxRecDepth 100000 in
theorem ct_X (l : Launch) (D : va_G) (h0 sz : Nat) : Met l ct_yX ct_wX ({ frames := 1, cells := 12, slots := 322, locals := 23 }) (va_Pc [.ref h0] (fun U => U.heap.size = sz ∧ va_P D am_cl [(h0, .inr (0, [.null, .null, .int 0, .null, .null, .null, .null, .null, .int 0, .null, .int 0, .null, .int 0, .int 0, .null, .null, .int 0, .null]))] U.heap ∧ va_K D am_cl [] U ∧ va_D (fun _ => True) [(h0, .inr (0, [.null, .null, .int 0, .null, .null, .null, .null, .null, .int 0, .null, .int 0, .null, .int 0, .int 0, .null, .null, .int 0, .null]))])) (va_Qv (fun _ : (Nat → Nat) × (Nat → ClassId) => True) (ct_BX D (va_A [(h0, .inr (0, [.null, .null, .int 0, .null, .null, .null, .null, .null, .int 0, .null, .int 0, .null, .int 0, .int 0, .null, .null, .int 0, .null]))] sz) h0) (va_A [(h0, .inr (0, [.null, .null, .int 0, .null, .null, .null, .null, .null, .int 0, .null, .int 0, .null, .int 0, .int 0, .null, .null, .int 0, .null]))] sz)) 12 322 (va_A [(h0, .inr (0, [.null, .null, .int 0, .null, .null, .null, .null, .null, .int 0, .null, .int 0, .null, .int 0, .int 0, .null, .null, .int 0, .null]))] sz) := by
  refine Met.ofW (cc := prog_1_method_1_code) (maxL := 1) (ret := none) (by decide) rfl ?_
  intro p e s m args below meth c s₁ B hml hv
  obtain ⟨rfl, hsz, hP, hK, hD0⟩ := hv
  have hx := B.exec
  have hb := B.bytes
  have hr := B.returns
  have hts0 := atoms_spec (ws := ct_wX) B.pre
  have hts : ∀ w ∈ am_ws, w.before _ s = true := fun w hw => hts0 w (List.mem_cons_of_mem _ hw)
  have hown : s.vm.findClass (am_cC 0) = some m.cls := findClass_of_methodNamed B.named
  have hlocks := B.notSynchronized
  have hin : meth.name = "<init>" := (name_of_methodNamed B.named B.method).1
  subst hsz
  have hD := hD0.self (sz := s.heap.size)
  generalize hAe : va_A [(h0, .inr (0, [.null, .null, .int 0, .null, .null, .null, .null, .null, .int 0, .null, .int 0, .null, .int 0, .int 0, .null, .null, .int 0, .null]))] s.heap.size = A at hD ⊢
  have hA : ∀ q : Nat, s.heap.size ≤ q → A q := fun q h => by rw [← hAe]; exact Or.inr h
  have hS : va_S A s.heap s.heap [] := va_S.rf
  have hl := lv_entry ([.ref h0]) (n := 1) (Nat.le_of_ble_eq_true rfl)
  rw [lg_entry_eq]
  generalize (lg_sl ([.ref h0]) ++ List.replicate (1 - (lg_sl ([.ref h0])).length) Slot.unset).toArray = ls at hl ⊢
  have hl : lv_has ls 1 [(0, .ref h0)] := hl
  refine lv_aload_n hx hb ct_dX_0 rfl (lv_at hl 0 rfl) ?_
  refine W.objInit hx hb hown (hts _ (am_inw ct_oX rfl)) (hts _ (am_inw ct_oi rfl)) (hts _ (am_inw ct_oc rfl)) rfl (by rw [hml]; exact hl.1) rfl ct_dX_1 (Nat.le_of_ble_eq_true rfl) (Nat.le_of_ble_eq_true rfl) ?_
  refine W.eq (g2 := F0 m 4 ls []) rfl ?_
  refine lv_aload_n hx hb ct_dX_4 rfl (lv_at hl 0 rfl) ?_
  refine lv_bipush (v := 90) hx hb ct_dX_5 (by decide) ?_
  refine va_newa (atype := .int) (ty := .int) (a0 := (90, .inl (fun _ => 0))) hx hb (hts _ (am_inw ct_aI rfl)) rfl hK hP hD hS hA (fun cA => rfl) (by decide) rfl (by decide) (by show 0 + 1 ≤ 12; decide) (by show 0 + 90 ≤ 322; decide) ct_dX_7 (fun q0 c0 H hK hP hD hS => ?_)
  have hP : va_P D am_cl [(h0, .inr (0, [.null, .null, .int 0, .null, .null, .null, .null, .null, .int 0, .null, .int 0, .null, .int 0, .int 0, .null, .null, .int 0, .null])), (q0, .inl (c0, 90, .inl (fun _ => 0)))] H := hP
  have hD : va_D A [(h0, .inr (0, [.null, .null, .int 0, .null, .null, .null, .null, .null, .int 0, .null, .int 0, .null, .int 0, .int 0, .null, .null, .int 0, .null])), (q0, .inl (c0, 90, .inl (fun _ => 0)))] := hD
  refine W.widen (k := 1) (n := 90) (by decide) (by decide) ?_
  refine va_putF (D := D) (ci := 0) (v := .ref q0) (ty := am_cY 0 0) (C := am_cC 0) (T := am_cT 0) (N := am_nf 0) hx hb hts (am_fin (by decide)) (am_cY 0) (am_cY_ok0 0 (by decide)) (am_nm0 0 (by decide)) hown hK hP hD hS 0 rfl rfl 0 (by decide) (hts _ (am_flk_in (o := 0) (k := 0) (by decide) (by decide))) (fun _ h9 => h9) rfl hin rfl (am_cY_ok0 0 (by decide) 0 (by decide)) rfl rfl (Nat.le_of_ble_eq_true rfl) ct_dX_9 (fun H locs hP hD hS => ?_)
  have hP : va_P D am_cl [(h0, .inr (0, [.ref q0, .null, .int 0, .null, .null, .null, .null, .null, .int 0, .null, .int 0, .null, .int 0, .int 0, .null, .null, .int 0, .null])), (q0, .inl (c0, 90, .inl (fun _ => 0)))] H := hP
  have hD : va_D A [(h0, .inr (0, [.ref q0, .null, .int 0, .null, .null, .null, .null, .null, .int 0, .null, .int 0, .null, .int 0, .int 0, .null, .null, .int 0, .null])), (q0, .inl (c0, 90, .inl (fun _ => 0)))] := hD
  refine lv_aload_n hx hb ct_dX_12 rfl (lv_at hl 0 rfl) ?_
  refine lv_bipush (v := 90) hx hb ct_dX_13 (by decide) ?_
  refine va_newa (atype := .int) (ty := .int) (a0 := (90, .inl (fun _ => 0))) hx hb (hts _ (am_inw ct_aI rfl)) rfl hK hP hD hS hA (fun cA => rfl) (by decide) rfl (by decide) (by show 1 + 1 ≤ 12; decide) (by show 90 + 90 ≤ 322; decide) ct_dX_15 (fun q1 c1 H hK hP hD hS => ?_)
  have hP : va_P D am_cl [(h0, .inr (0, [.ref q0, .null, .int 0, .null, .null, .null, .null, .null, .int 0, .null, .int 0, .null, .int 0, .int 0, .null, .null, .int 0, .null])), (q0, .inl (c0, 90, .inl (fun _ => 0))), (q1, .inl (c1, 90, .inl (fun _ => 0)))] H := hP
  have hD : va_D A [(h0, .inr (0, [.ref q0, .null, .int 0, .null, .null, .null, .null, .null, .int 0, .null, .int 0, .null, .int 0, .int 0, .null, .null, .int 0, .null])), (q0, .inl (c0, 90, .inl (fun _ => 0))), (q1, .inl (c1, 90, .inl (fun _ => 0)))] := hD
  refine W.widen (k := 2) (n := 180) (by decide) (by decide) ?_
  refine va_putF (D := D) (ci := 0) (v := .ref q1) (ty := am_cY 0 1) (C := am_cC 0) (T := am_cT 0) (N := am_nf 0) hx hb hts (am_fin (by decide)) (am_cY 0) (am_cY_ok0 0 (by decide)) (am_nm0 0 (by decide)) hown hK hP hD hS 0 rfl rfl 1 (by decide) (hts _ (am_flk_in (o := 0) (k := 1) (by decide) (by decide))) (fun _ h9 => h9) rfl hin rfl (am_cY_ok0 0 (by decide) 1 (by decide)) rfl rfl (Nat.le_of_ble_eq_true rfl) ct_dX_17 (fun H locs hP hD hS => ?_)
  have hP : va_P D am_cl [(h0, .inr (0, [.ref q0, .ref q1, .int 0, .null, .null, .null, .null, .null, .int 0, .null, .int 0, .null, .int 0, .int 0, .null, .null, .int 0, .null])), (q0, .inl (c0, 90, .inl (fun _ => 0))), (q1, .inl (c1, 90, .inl (fun _ => 0)))] H := hP
  have hD : va_D A [(h0, .inr (0, [.ref q0, .ref q1, .int 0, .null, .null, .null, .null, .null, .int 0, .null, .int 0, .null, .int 0, .int 0, .null, .null, .int 0, .null])), (q0, .inl (c0, 90, .inl (fun _ => 0))), (q1, .inl (c1, 90, .inl (fun _ => 0)))] := hD
  refine lv_aload_n hx hb ct_dX_20 rfl (lv_at hl 0 rfl) ?_
  refine lv_bipush (v := 15) hx hb ct_dX_21 (by decide) ?_
  refine va_newa (atype := .int) (ty := .int) (a0 := (15, .inl (fun _ => 0))) hx hb (hts _ (am_inw ct_aI rfl)) rfl hK hP hD hS hA (fun cA => rfl) (by decide) rfl (by decide) (by show 2 + 1 ≤ 12; decide) (by show 180 + 15 ≤ 322; decide) ct_dX_23 (fun q2 c2 H hK hP hD hS => ?_)
  have hP : va_P D am_cl [(h0, .inr (0, [.ref q0, .ref q1, .int 0, .null, .null, .null, .null, .null, .int 0, .null, .int 0, .null, .int 0, .int 0, .null, .null, .int 0, .null])), (q0, .inl (c0, 90, .inl (fun _ => 0))), (q1, .inl (c1, 90, .inl (fun _ => 0))), (q2, .inl (c2, 15, .inl (fun _ => 0)))] H := hP
  have hD : va_D A [(h0, .inr (0, [.ref q0, .ref q1, .int 0, .null, .null, .null, .null, .null, .int 0, .null, .int 0, .null, .int 0, .int 0, .null, .null, .int 0, .null])), (q0, .inl (c0, 90, .inl (fun _ => 0))), (q1, .inl (c1, 90, .inl (fun _ => 0))), (q2, .inl (c2, 15, .inl (fun _ => 0)))] := hD
  refine W.widen (k := 3) (n := 195) (by decide) (by decide) ?_
  refine va_putF (D := D) (ci := 0) (v := .ref q2) (ty := am_cY 0 3) (C := am_cC 0) (T := am_cT 0) (N := am_nf 0) hx hb hts (am_fin (by decide)) (am_cY 0) (am_cY_ok0 0 (by decide)) (am_nm0 0 (by decide)) hown hK hP hD hS 0 rfl rfl 3 (by decide) (hts _ (am_flk_in (o := 0) (k := 3) (by decide) (by decide))) (fun _ h9 => h9) rfl hin rfl (am_cY_ok0 0 (by decide) 3 (by decide)) rfl rfl (Nat.le_of_ble_eq_true rfl) ct_dX_25 (fun H locs hP hD hS => ?_)
  have hP : va_P D am_cl [(h0, .inr (0, [.ref q0, .ref q1, .int 0, .ref q2, .null, .null, .null, .null, .int 0, .null, .int 0, .null, .int 0, .int 0, .null, .null, .int 0, .null])), (q0, .inl (c0, 90, .inl (fun _ => 0))), (q1, .inl (c1, 90, .inl (fun _ => 0))), (q2, .inl (c2, 15, .inl (fun _ => 0)))] H := hP
  have hD : va_D A [(h0, .inr (0, [.ref q0, .ref q1, .int 0, .ref q2, .null, .null, .null, .null, .int 0, .null, .int 0, .null, .int 0, .int 0, .null, .null, .int 0, .null])), (q0, .inl (c0, 90, .inl (fun _ => 0))), (q1, .inl (c1, 90, .inl (fun _ => 0))), (q2, .inl (c2, 15, .inl (fun _ => 0)))] := hD
  refine lv_aload_n hx hb ct_dX_28 rfl (lv_at hl 0 rfl) ?_
  refine lv_bipush (v := 15) hx hb ct_dX_29 (by decide) ?_
  refine va_newa (atype := .int) (ty := .int) (a0 := (15, .inl (fun _ => 0))) hx hb (hts _ (am_inw ct_aI rfl)) rfl hK hP hD hS hA (fun cA => rfl) (by decide) rfl (by decide) (by show 3 + 1 ≤ 12; decide) (by show 195 + 15 ≤ 322; decide) ct_dX_31 (fun q3 c3 H hK hP hD hS => ?_)
  have hP : va_P D am_cl [(h0, .inr (0, [.ref q0, .ref q1, .int 0, .ref q2, .null, .null, .null, .null, .int 0, .null, .int 0, .null, .int 0, .int 0, .null, .null, .int 0, .null])), (q0, .inl (c0, 90, .inl (fun _ => 0))), (q1, .inl (c1, 90, .inl (fun _ => 0))), (q2, .inl (c2, 15, .inl (fun _ => 0))), (q3, .inl (c3, 15, .inl (fun _ => 0)))] H := hP
  have hD : va_D A [(h0, .inr (0, [.ref q0, .ref q1, .int 0, .ref q2, .null, .null, .null, .null, .int 0, .null, .int 0, .null, .int 0, .int 0, .null, .null, .int 0, .null])), (q0, .inl (c0, 90, .inl (fun _ => 0))), (q1, .inl (c1, 90, .inl (fun _ => 0))), (q2, .inl (c2, 15, .inl (fun _ => 0))), (q3, .inl (c3, 15, .inl (fun _ => 0)))] := hD
  refine W.widen (k := 4) (n := 210) (by decide) (by decide) ?_
  refine va_putF (D := D) (ci := 0) (v := .ref q3) (ty := am_cY 0 4) (C := am_cC 0) (T := am_cT 0) (N := am_nf 0) hx hb hts (am_fin (by decide)) (am_cY 0) (am_cY_ok0 0 (by decide)) (am_nm0 0 (by decide)) hown hK hP hD hS 0 rfl rfl 4 (by decide) (hts _ (am_flk_in (o := 0) (k := 4) (by decide) (by decide))) (fun _ h9 => h9) rfl hin rfl (am_cY_ok0 0 (by decide) 4 (by decide)) rfl rfl (Nat.le_of_ble_eq_true rfl) ct_dX_33 (fun H locs hP hD hS => ?_)
  have hP : va_P D am_cl [(h0, .inr (0, [.ref q0, .ref q1, .int 0, .ref q2, .ref q3, .null, .null, .null, .int 0, .null, .int 0, .null, .int 0, .int 0, .null, .null, .int 0, .null])), (q0, .inl (c0, 90, .inl (fun _ => 0))), (q1, .inl (c1, 90, .inl (fun _ => 0))), (q2, .inl (c2, 15, .inl (fun _ => 0))), (q3, .inl (c3, 15, .inl (fun _ => 0)))] H := hP
  have hD : va_D A [(h0, .inr (0, [.ref q0, .ref q1, .int 0, .ref q2, .ref q3, .null, .null, .null, .int 0, .null, .int 0, .null, .int 0, .int 0, .null, .null, .int 0, .null])), (q0, .inl (c0, 90, .inl (fun _ => 0))), (q1, .inl (c1, 90, .inl (fun _ => 0))), (q2, .inl (c2, 15, .inl (fun _ => 0))), (q3, .inl (c3, 15, .inl (fun _ => 0)))] := hD
  refine lv_aload_n hx hb ct_dX_36 rfl (lv_at hl 0 rfl) ?_
  refine lv_bipush (v := 15) hx hb ct_dX_37 (by decide) ?_
  refine va_newa (atype := .int) (ty := .int) (a0 := (15, .inl (fun _ => 0))) hx hb (hts _ (am_inw ct_aI rfl)) rfl hK hP hD hS hA (fun cA => rfl) (by decide) rfl (by decide) (by show 4 + 1 ≤ 12; decide) (by show 210 + 15 ≤ 322; decide) ct_dX_39 (fun q4 c4 H hK hP hD hS => ?_)
  have hP : va_P D am_cl [(h0, .inr (0, [.ref q0, .ref q1, .int 0, .ref q2, .ref q3, .null, .null, .null, .int 0, .null, .int 0, .null, .int 0, .int 0, .null, .null, .int 0, .null])), (q0, .inl (c0, 90, .inl (fun _ => 0))), (q1, .inl (c1, 90, .inl (fun _ => 0))), (q2, .inl (c2, 15, .inl (fun _ => 0))), (q3, .inl (c3, 15, .inl (fun _ => 0))), (q4, .inl (c4, 15, .inl (fun _ => 0)))] H := hP
  have hD : va_D A [(h0, .inr (0, [.ref q0, .ref q1, .int 0, .ref q2, .ref q3, .null, .null, .null, .int 0, .null, .int 0, .null, .int 0, .int 0, .null, .null, .int 0, .null])), (q0, .inl (c0, 90, .inl (fun _ => 0))), (q1, .inl (c1, 90, .inl (fun _ => 0))), (q2, .inl (c2, 15, .inl (fun _ => 0))), (q3, .inl (c3, 15, .inl (fun _ => 0))), (q4, .inl (c4, 15, .inl (fun _ => 0)))] := hD
  refine W.widen (k := 5) (n := 225) (by decide) (by decide) ?_
  refine va_putF (D := D) (ci := 0) (v := .ref q4) (ty := am_cY 0 5) (C := am_cC 0) (T := am_cT 0) (N := am_nf 0) hx hb hts (am_fin (by decide)) (am_cY 0) (am_cY_ok0 0 (by decide)) (am_nm0 0 (by decide)) hown hK hP hD hS 0 rfl rfl 5 (by decide) (hts _ (am_flk_in (o := 0) (k := 5) (by decide) (by decide))) (fun _ h9 => h9) rfl hin rfl (am_cY_ok0 0 (by decide) 5 (by decide)) rfl rfl (Nat.le_of_ble_eq_true rfl) ct_dX_41 (fun H locs hP hD hS => ?_)
  have hP : va_P D am_cl [(h0, .inr (0, [.ref q0, .ref q1, .int 0, .ref q2, .ref q3, .ref q4, .null, .null, .int 0, .null, .int 0, .null, .int 0, .int 0, .null, .null, .int 0, .null])), (q0, .inl (c0, 90, .inl (fun _ => 0))), (q1, .inl (c1, 90, .inl (fun _ => 0))), (q2, .inl (c2, 15, .inl (fun _ => 0))), (q3, .inl (c3, 15, .inl (fun _ => 0))), (q4, .inl (c4, 15, .inl (fun _ => 0)))] H := hP
  have hD : va_D A [(h0, .inr (0, [.ref q0, .ref q1, .int 0, .ref q2, .ref q3, .ref q4, .null, .null, .int 0, .null, .int 0, .null, .int 0, .int 0, .null, .null, .int 0, .null])), (q0, .inl (c0, 90, .inl (fun _ => 0))), (q1, .inl (c1, 90, .inl (fun _ => 0))), (q2, .inl (c2, 15, .inl (fun _ => 0))), (q3, .inl (c3, 15, .inl (fun _ => 0))), (q4, .inl (c4, 15, .inl (fun _ => 0)))] := hD
  refine lv_aload_n hx hb ct_dX_44 rfl (lv_at hl 0 rfl) ?_
  refine lv_bipush (v := 15) hx hb ct_dX_45 (by decide) ?_
  refine va_newa (atype := .boolean) (ty := .boolean) (a0 := (15, .inl (fun _ => 0))) hx hb (hts _ (am_inw ct_aZ rfl)) rfl hK hP hD hS hA (fun cA => rfl) (by decide) rfl (by decide) (by show 5 + 1 ≤ 12; decide) (by show 225 + 15 ≤ 322; decide) ct_dX_47 (fun q5 c5 H hK hP hD hS => ?_)
  have hP : va_P D am_cl [(h0, .inr (0, [.ref q0, .ref q1, .int 0, .ref q2, .ref q3, .ref q4, .null, .null, .int 0, .null, .int 0, .null, .int 0, .int 0, .null, .null, .int 0, .null])), (q0, .inl (c0, 90, .inl (fun _ => 0))), (q1, .inl (c1, 90, .inl (fun _ => 0))), (q2, .inl (c2, 15, .inl (fun _ => 0))), (q3, .inl (c3, 15, .inl (fun _ => 0))), (q4, .inl (c4, 15, .inl (fun _ => 0))), (q5, .inl (c5, 15, .inl (fun _ => 0)))] H := hP
  have hD : va_D A [(h0, .inr (0, [.ref q0, .ref q1, .int 0, .ref q2, .ref q3, .ref q4, .null, .null, .int 0, .null, .int 0, .null, .int 0, .int 0, .null, .null, .int 0, .null])), (q0, .inl (c0, 90, .inl (fun _ => 0))), (q1, .inl (c1, 90, .inl (fun _ => 0))), (q2, .inl (c2, 15, .inl (fun _ => 0))), (q3, .inl (c3, 15, .inl (fun _ => 0))), (q4, .inl (c4, 15, .inl (fun _ => 0))), (q5, .inl (c5, 15, .inl (fun _ => 0)))] := hD
  refine W.widen (k := 6) (n := 240) (by decide) (by decide) ?_
  refine va_putF (D := D) (ci := 0) (v := .ref q5) (ty := am_cY 0 6) (C := am_cC 0) (T := am_cT 0) (N := am_nf 0) hx hb hts (am_fin (by decide)) (am_cY 0) (am_cY_ok0 0 (by decide)) (am_nm0 0 (by decide)) hown hK hP hD hS 0 rfl rfl 6 (by decide) (hts _ (am_flk_in (o := 0) (k := 6) (by decide) (by decide))) (fun _ h9 => h9) rfl hin rfl (am_cY_ok0 0 (by decide) 6 (by decide)) rfl rfl (Nat.le_of_ble_eq_true rfl) ct_dX_49 (fun H locs hP hD hS => ?_)
  have hP : va_P D am_cl [(h0, .inr (0, [.ref q0, .ref q1, .int 0, .ref q2, .ref q3, .ref q4, .ref q5, .null, .int 0, .null, .int 0, .null, .int 0, .int 0, .null, .null, .int 0, .null])), (q0, .inl (c0, 90, .inl (fun _ => 0))), (q1, .inl (c1, 90, .inl (fun _ => 0))), (q2, .inl (c2, 15, .inl (fun _ => 0))), (q3, .inl (c3, 15, .inl (fun _ => 0))), (q4, .inl (c4, 15, .inl (fun _ => 0))), (q5, .inl (c5, 15, .inl (fun _ => 0)))] H := hP
  have hD : va_D A [(h0, .inr (0, [.ref q0, .ref q1, .int 0, .ref q2, .ref q3, .ref q4, .ref q5, .null, .int 0, .null, .int 0, .null, .int 0, .int 0, .null, .null, .int 0, .null])), (q0, .inl (c0, 90, .inl (fun _ => 0))), (q1, .inl (c1, 90, .inl (fun _ => 0))), (q2, .inl (c2, 15, .inl (fun _ => 0))), (q3, .inl (c3, 15, .inl (fun _ => 0))), (q4, .inl (c4, 15, .inl (fun _ => 0))), (q5, .inl (c5, 15, .inl (fun _ => 0)))] := hD
  refine lv_aload_n hx hb ct_dX_52 rfl (lv_at hl 0 rfl) ?_
  refine lv_bipush (v := 14) hx hb ct_dX_53 (by decide) ?_
  refine va_newa (atype := .int) (ty := .int) (a0 := (14, .inl (fun _ => 0))) hx hb (hts _ (am_inw ct_aI rfl)) rfl hK hP hD hS hA (fun cA => rfl) (by decide) rfl (by decide) (by show 6 + 1 ≤ 12; decide) (by show 240 + 14 ≤ 322; decide) ct_dX_55 (fun q6 c6 H hK hP hD hS => ?_)
  have hP : va_P D am_cl [(h0, .inr (0, [.ref q0, .ref q1, .int 0, .ref q2, .ref q3, .ref q4, .ref q5, .null, .int 0, .null, .int 0, .null, .int 0, .int 0, .null, .null, .int 0, .null])), (q0, .inl (c0, 90, .inl (fun _ => 0))), (q1, .inl (c1, 90, .inl (fun _ => 0))), (q2, .inl (c2, 15, .inl (fun _ => 0))), (q3, .inl (c3, 15, .inl (fun _ => 0))), (q4, .inl (c4, 15, .inl (fun _ => 0))), (q5, .inl (c5, 15, .inl (fun _ => 0))), (q6, .inl (c6, 14, .inl (fun _ => 0)))] H := hP
  have hD : va_D A [(h0, .inr (0, [.ref q0, .ref q1, .int 0, .ref q2, .ref q3, .ref q4, .ref q5, .null, .int 0, .null, .int 0, .null, .int 0, .int 0, .null, .null, .int 0, .null])), (q0, .inl (c0, 90, .inl (fun _ => 0))), (q1, .inl (c1, 90, .inl (fun _ => 0))), (q2, .inl (c2, 15, .inl (fun _ => 0))), (q3, .inl (c3, 15, .inl (fun _ => 0))), (q4, .inl (c4, 15, .inl (fun _ => 0))), (q5, .inl (c5, 15, .inl (fun _ => 0))), (q6, .inl (c6, 14, .inl (fun _ => 0)))] := hD
  refine W.widen (k := 7) (n := 254) (by decide) (by decide) ?_
  refine va_putF (D := D) (ci := 0) (v := .ref q6) (ty := am_cY 0 7) (C := am_cC 0) (T := am_cT 0) (N := am_nf 0) hx hb hts (am_fin (by decide)) (am_cY 0) (am_cY_ok0 0 (by decide)) (am_nm0 0 (by decide)) hown hK hP hD hS 0 rfl rfl 7 (by decide) (hts _ (am_flk_in (o := 0) (k := 7) (by decide) (by decide))) (fun _ h9 => h9) rfl hin rfl (am_cY_ok0 0 (by decide) 7 (by decide)) rfl rfl (Nat.le_of_ble_eq_true rfl) ct_dX_57 (fun H locs hP hD hS => ?_)
  have hP : va_P D am_cl [(h0, .inr (0, [.ref q0, .ref q1, .int 0, .ref q2, .ref q3, .ref q4, .ref q5, .ref q6, .int 0, .null, .int 0, .null, .int 0, .int 0, .null, .null, .int 0, .null])), (q0, .inl (c0, 90, .inl (fun _ => 0))), (q1, .inl (c1, 90, .inl (fun _ => 0))), (q2, .inl (c2, 15, .inl (fun _ => 0))), (q3, .inl (c3, 15, .inl (fun _ => 0))), (q4, .inl (c4, 15, .inl (fun _ => 0))), (q5, .inl (c5, 15, .inl (fun _ => 0))), (q6, .inl (c6, 14, .inl (fun _ => 0)))] H := hP
  have hD : va_D A [(h0, .inr (0, [.ref q0, .ref q1, .int 0, .ref q2, .ref q3, .ref q4, .ref q5, .ref q6, .int 0, .null, .int 0, .null, .int 0, .int 0, .null, .null, .int 0, .null])), (q0, .inl (c0, 90, .inl (fun _ => 0))), (q1, .inl (c1, 90, .inl (fun _ => 0))), (q2, .inl (c2, 15, .inl (fun _ => 0))), (q3, .inl (c3, 15, .inl (fun _ => 0))), (q4, .inl (c4, 15, .inl (fun _ => 0))), (q5, .inl (c5, 15, .inl (fun _ => 0))), (q6, .inl (c6, 14, .inl (fun _ => 0)))] := hD
  refine lv_aload_n hx hb ct_dX_60 rfl (lv_at hl 0 rfl) ?_
  refine lv_bipush (v := 10) hx hb ct_dX_61 (by decide) ?_
  refine va_newa (atype := .int) (ty := .int) (a0 := (10, .inl (fun _ => 0))) hx hb (hts _ (am_inw ct_aI rfl)) rfl hK hP hD hS hA (fun cA => rfl) (by decide) rfl (by decide) (by show 7 + 1 ≤ 12; decide) (by show 254 + 10 ≤ 322; decide) ct_dX_63 (fun q7 c7 H hK hP hD hS => ?_)
  have hP : va_P D am_cl [(h0, .inr (0, [.ref q0, .ref q1, .int 0, .ref q2, .ref q3, .ref q4, .ref q5, .ref q6, .int 0, .null, .int 0, .null, .int 0, .int 0, .null, .null, .int 0, .null])), (q0, .inl (c0, 90, .inl (fun _ => 0))), (q1, .inl (c1, 90, .inl (fun _ => 0))), (q2, .inl (c2, 15, .inl (fun _ => 0))), (q3, .inl (c3, 15, .inl (fun _ => 0))), (q4, .inl (c4, 15, .inl (fun _ => 0))), (q5, .inl (c5, 15, .inl (fun _ => 0))), (q6, .inl (c6, 14, .inl (fun _ => 0))), (q7, .inl (c7, 10, .inl (fun _ => 0)))] H := hP
  have hD : va_D A [(h0, .inr (0, [.ref q0, .ref q1, .int 0, .ref q2, .ref q3, .ref q4, .ref q5, .ref q6, .int 0, .null, .int 0, .null, .int 0, .int 0, .null, .null, .int 0, .null])), (q0, .inl (c0, 90, .inl (fun _ => 0))), (q1, .inl (c1, 90, .inl (fun _ => 0))), (q2, .inl (c2, 15, .inl (fun _ => 0))), (q3, .inl (c3, 15, .inl (fun _ => 0))), (q4, .inl (c4, 15, .inl (fun _ => 0))), (q5, .inl (c5, 15, .inl (fun _ => 0))), (q6, .inl (c6, 14, .inl (fun _ => 0))), (q7, .inl (c7, 10, .inl (fun _ => 0)))] := hD
  refine W.widen (k := 8) (n := 264) (by decide) (by decide) ?_
  refine va_putF (D := D) (ci := 0) (v := .ref q7) (ty := am_cY 0 9) (C := am_cC 0) (T := am_cT 0) (N := am_nf 0) hx hb hts (am_fin (by decide)) (am_cY 0) (am_cY_ok0 0 (by decide)) (am_nm0 0 (by decide)) hown hK hP hD hS 0 rfl rfl 9 (by decide) (hts _ (am_flk_in (o := 0) (k := 9) (by decide) (by decide))) (fun _ h9 => h9) rfl hin rfl (am_cY_ok0 0 (by decide) 9 (by decide)) rfl rfl (Nat.le_of_ble_eq_true rfl) ct_dX_65 (fun H locs hP hD hS => ?_)
  have hP : va_P D am_cl [(h0, .inr (0, [.ref q0, .ref q1, .int 0, .ref q2, .ref q3, .ref q4, .ref q5, .ref q6, .int 0, .ref q7, .int 0, .null, .int 0, .int 0, .null, .null, .int 0, .null])), (q0, .inl (c0, 90, .inl (fun _ => 0))), (q1, .inl (c1, 90, .inl (fun _ => 0))), (q2, .inl (c2, 15, .inl (fun _ => 0))), (q3, .inl (c3, 15, .inl (fun _ => 0))), (q4, .inl (c4, 15, .inl (fun _ => 0))), (q5, .inl (c5, 15, .inl (fun _ => 0))), (q6, .inl (c6, 14, .inl (fun _ => 0))), (q7, .inl (c7, 10, .inl (fun _ => 0)))] H := hP
  have hD : va_D A [(h0, .inr (0, [.ref q0, .ref q1, .int 0, .ref q2, .ref q3, .ref q4, .ref q5, .ref q6, .int 0, .ref q7, .int 0, .null, .int 0, .int 0, .null, .null, .int 0, .null])), (q0, .inl (c0, 90, .inl (fun _ => 0))), (q1, .inl (c1, 90, .inl (fun _ => 0))), (q2, .inl (c2, 15, .inl (fun _ => 0))), (q3, .inl (c3, 15, .inl (fun _ => 0))), (q4, .inl (c4, 15, .inl (fun _ => 0))), (q5, .inl (c5, 15, .inl (fun _ => 0))), (q6, .inl (c6, 14, .inl (fun _ => 0))), (q7, .inl (c7, 10, .inl (fun _ => 0)))] := hD
  refine lv_aload_n hx hb ct_dX_68 rfl (lv_at hl 0 rfl) ?_
  refine lv_bipush (v := 14) hx hb ct_dX_69 (by decide) ?_
  refine va_newa (atype := .int) (ty := .int) (a0 := (14, .inl (fun _ => 0))) hx hb (hts _ (am_inw ct_aI rfl)) rfl hK hP hD hS hA (fun cA => rfl) (by decide) rfl (by decide) (by show 8 + 1 ≤ 12; decide) (by show 264 + 14 ≤ 322; decide) ct_dX_71 (fun q8 c8 H hK hP hD hS => ?_)
  have hP : va_P D am_cl [(h0, .inr (0, [.ref q0, .ref q1, .int 0, .ref q2, .ref q3, .ref q4, .ref q5, .ref q6, .int 0, .ref q7, .int 0, .null, .int 0, .int 0, .null, .null, .int 0, .null])), (q0, .inl (c0, 90, .inl (fun _ => 0))), (q1, .inl (c1, 90, .inl (fun _ => 0))), (q2, .inl (c2, 15, .inl (fun _ => 0))), (q3, .inl (c3, 15, .inl (fun _ => 0))), (q4, .inl (c4, 15, .inl (fun _ => 0))), (q5, .inl (c5, 15, .inl (fun _ => 0))), (q6, .inl (c6, 14, .inl (fun _ => 0))), (q7, .inl (c7, 10, .inl (fun _ => 0))), (q8, .inl (c8, 14, .inl (fun _ => 0)))] H := hP
  have hD : va_D A [(h0, .inr (0, [.ref q0, .ref q1, .int 0, .ref q2, .ref q3, .ref q4, .ref q5, .ref q6, .int 0, .ref q7, .int 0, .null, .int 0, .int 0, .null, .null, .int 0, .null])), (q0, .inl (c0, 90, .inl (fun _ => 0))), (q1, .inl (c1, 90, .inl (fun _ => 0))), (q2, .inl (c2, 15, .inl (fun _ => 0))), (q3, .inl (c3, 15, .inl (fun _ => 0))), (q4, .inl (c4, 15, .inl (fun _ => 0))), (q5, .inl (c5, 15, .inl (fun _ => 0))), (q6, .inl (c6, 14, .inl (fun _ => 0))), (q7, .inl (c7, 10, .inl (fun _ => 0))), (q8, .inl (c8, 14, .inl (fun _ => 0)))] := hD
  refine W.widen (k := 9) (n := 278) (by decide) (by decide) ?_
  refine va_putF (D := D) (ci := 0) (v := .ref q8) (ty := am_cY 0 11) (C := am_cC 0) (T := am_cT 0) (N := am_nf 0) hx hb hts (am_fin (by decide)) (am_cY 0) (am_cY_ok0 0 (by decide)) (am_nm0 0 (by decide)) hown hK hP hD hS 0 rfl rfl 11 (by decide) (hts _ (am_flk_in (o := 0) (k := 11) (by decide) (by decide))) (fun _ h9 => h9) rfl hin rfl (am_cY_ok0 0 (by decide) 11 (by decide)) rfl rfl (Nat.le_of_ble_eq_true rfl) ct_dX_73 (fun H locs hP hD hS => ?_)
  have hP : va_P D am_cl [(h0, .inr (0, [.ref q0, .ref q1, .int 0, .ref q2, .ref q3, .ref q4, .ref q5, .ref q6, .int 0, .ref q7, .int 0, .ref q8, .int 0, .int 0, .null, .null, .int 0, .null])), (q0, .inl (c0, 90, .inl (fun _ => 0))), (q1, .inl (c1, 90, .inl (fun _ => 0))), (q2, .inl (c2, 15, .inl (fun _ => 0))), (q3, .inl (c3, 15, .inl (fun _ => 0))), (q4, .inl (c4, 15, .inl (fun _ => 0))), (q5, .inl (c5, 15, .inl (fun _ => 0))), (q6, .inl (c6, 14, .inl (fun _ => 0))), (q7, .inl (c7, 10, .inl (fun _ => 0))), (q8, .inl (c8, 14, .inl (fun _ => 0)))] H := hP
  have hD : va_D A [(h0, .inr (0, [.ref q0, .ref q1, .int 0, .ref q2, .ref q3, .ref q4, .ref q5, .ref q6, .int 0, .ref q7, .int 0, .ref q8, .int 0, .int 0, .null, .null, .int 0, .null])), (q0, .inl (c0, 90, .inl (fun _ => 0))), (q1, .inl (c1, 90, .inl (fun _ => 0))), (q2, .inl (c2, 15, .inl (fun _ => 0))), (q3, .inl (c3, 15, .inl (fun _ => 0))), (q4, .inl (c4, 15, .inl (fun _ => 0))), (q5, .inl (c5, 15, .inl (fun _ => 0))), (q6, .inl (c6, 14, .inl (fun _ => 0))), (q7, .inl (c7, 10, .inl (fun _ => 0))), (q8, .inl (c8, 14, .inl (fun _ => 0)))] := hD
  refine lv_aload_n hx hb ct_dX_76 rfl (lv_at hl 0 rfl) ?_
  refine lv_bipush (v := 15) hx hb ct_dX_77 (by decide) ?_
  refine va_newa (atype := .boolean) (ty := .boolean) (a0 := (15, .inl (fun _ => 0))) hx hb (hts _ (am_inw ct_aZ rfl)) rfl hK hP hD hS hA (fun cA => rfl) (by decide) rfl (by decide) (by show 9 + 1 ≤ 12; decide) (by show 278 + 15 ≤ 322; decide) ct_dX_79 (fun q9 c9 H hK hP hD hS => ?_)
  have hP : va_P D am_cl [(h0, .inr (0, [.ref q0, .ref q1, .int 0, .ref q2, .ref q3, .ref q4, .ref q5, .ref q6, .int 0, .ref q7, .int 0, .ref q8, .int 0, .int 0, .null, .null, .int 0, .null])), (q0, .inl (c0, 90, .inl (fun _ => 0))), (q1, .inl (c1, 90, .inl (fun _ => 0))), (q2, .inl (c2, 15, .inl (fun _ => 0))), (q3, .inl (c3, 15, .inl (fun _ => 0))), (q4, .inl (c4, 15, .inl (fun _ => 0))), (q5, .inl (c5, 15, .inl (fun _ => 0))), (q6, .inl (c6, 14, .inl (fun _ => 0))), (q7, .inl (c7, 10, .inl (fun _ => 0))), (q8, .inl (c8, 14, .inl (fun _ => 0))), (q9, .inl (c9, 15, .inl (fun _ => 0)))] H := hP
  have hD : va_D A [(h0, .inr (0, [.ref q0, .ref q1, .int 0, .ref q2, .ref q3, .ref q4, .ref q5, .ref q6, .int 0, .ref q7, .int 0, .ref q8, .int 0, .int 0, .null, .null, .int 0, .null])), (q0, .inl (c0, 90, .inl (fun _ => 0))), (q1, .inl (c1, 90, .inl (fun _ => 0))), (q2, .inl (c2, 15, .inl (fun _ => 0))), (q3, .inl (c3, 15, .inl (fun _ => 0))), (q4, .inl (c4, 15, .inl (fun _ => 0))), (q5, .inl (c5, 15, .inl (fun _ => 0))), (q6, .inl (c6, 14, .inl (fun _ => 0))), (q7, .inl (c7, 10, .inl (fun _ => 0))), (q8, .inl (c8, 14, .inl (fun _ => 0))), (q9, .inl (c9, 15, .inl (fun _ => 0)))] := hD
  refine W.widen (k := 10) (n := 293) (by decide) (by decide) ?_
  refine va_putF (D := D) (ci := 0) (v := .ref q9) (ty := am_cY 0 14) (C := am_cC 0) (T := am_cT 0) (N := am_nf 0) hx hb hts (am_fin (by decide)) (am_cY 0) (am_cY_ok0 0 (by decide)) (am_nm0 0 (by decide)) hown hK hP hD hS 0 rfl rfl 14 (by decide) (hts _ (am_flk_in (o := 0) (k := 14) (by decide) (by decide))) (fun _ h9 => h9) rfl hin rfl (am_cY_ok0 0 (by decide) 14 (by decide)) rfl rfl (Nat.le_of_ble_eq_true rfl) ct_dX_81 (fun H locs hP hD hS => ?_)
  have hP : va_P D am_cl [(h0, .inr (0, [.ref q0, .ref q1, .int 0, .ref q2, .ref q3, .ref q4, .ref q5, .ref q6, .int 0, .ref q7, .int 0, .ref q8, .int 0, .int 0, .ref q9, .null, .int 0, .null])), (q0, .inl (c0, 90, .inl (fun _ => 0))), (q1, .inl (c1, 90, .inl (fun _ => 0))), (q2, .inl (c2, 15, .inl (fun _ => 0))), (q3, .inl (c3, 15, .inl (fun _ => 0))), (q4, .inl (c4, 15, .inl (fun _ => 0))), (q5, .inl (c5, 15, .inl (fun _ => 0))), (q6, .inl (c6, 14, .inl (fun _ => 0))), (q7, .inl (c7, 10, .inl (fun _ => 0))), (q8, .inl (c8, 14, .inl (fun _ => 0))), (q9, .inl (c9, 15, .inl (fun _ => 0)))] H := hP
  have hD : va_D A [(h0, .inr (0, [.ref q0, .ref q1, .int 0, .ref q2, .ref q3, .ref q4, .ref q5, .ref q6, .int 0, .ref q7, .int 0, .ref q8, .int 0, .int 0, .ref q9, .null, .int 0, .null])), (q0, .inl (c0, 90, .inl (fun _ => 0))), (q1, .inl (c1, 90, .inl (fun _ => 0))), (q2, .inl (c2, 15, .inl (fun _ => 0))), (q3, .inl (c3, 15, .inl (fun _ => 0))), (q4, .inl (c4, 15, .inl (fun _ => 0))), (q5, .inl (c5, 15, .inl (fun _ => 0))), (q6, .inl (c6, 14, .inl (fun _ => 0))), (q7, .inl (c7, 10, .inl (fun _ => 0))), (q8, .inl (c8, 14, .inl (fun _ => 0))), (q9, .inl (c9, 15, .inl (fun _ => 0)))] := hD
  refine lv_aload_n hx hb ct_dX_84 rfl (lv_at hl 0 rfl) ?_
  refine lv_bipush (v := 14) hx hb ct_dX_85 (by decide) ?_
  refine va_newa (atype := .int) (ty := .int) (a0 := (14, .inl (fun _ => 0))) hx hb (hts _ (am_inw ct_aI rfl)) rfl hK hP hD hS hA (fun cA => rfl) (by decide) rfl (by decide) (by show 10 + 1 ≤ 12; decide) (by show 293 + 14 ≤ 322; decide) ct_dX_87 (fun q10 c10 H hK hP hD hS => ?_)
  have hP : va_P D am_cl [(h0, .inr (0, [.ref q0, .ref q1, .int 0, .ref q2, .ref q3, .ref q4, .ref q5, .ref q6, .int 0, .ref q7, .int 0, .ref q8, .int 0, .int 0, .ref q9, .null, .int 0, .null])), (q0, .inl (c0, 90, .inl (fun _ => 0))), (q1, .inl (c1, 90, .inl (fun _ => 0))), (q2, .inl (c2, 15, .inl (fun _ => 0))), (q3, .inl (c3, 15, .inl (fun _ => 0))), (q4, .inl (c4, 15, .inl (fun _ => 0))), (q5, .inl (c5, 15, .inl (fun _ => 0))), (q6, .inl (c6, 14, .inl (fun _ => 0))), (q7, .inl (c7, 10, .inl (fun _ => 0))), (q8, .inl (c8, 14, .inl (fun _ => 0))), (q9, .inl (c9, 15, .inl (fun _ => 0))), (q10, .inl (c10, 14, .inl (fun _ => 0)))] H := hP
  have hD : va_D A [(h0, .inr (0, [.ref q0, .ref q1, .int 0, .ref q2, .ref q3, .ref q4, .ref q5, .ref q6, .int 0, .ref q7, .int 0, .ref q8, .int 0, .int 0, .ref q9, .null, .int 0, .null])), (q0, .inl (c0, 90, .inl (fun _ => 0))), (q1, .inl (c1, 90, .inl (fun _ => 0))), (q2, .inl (c2, 15, .inl (fun _ => 0))), (q3, .inl (c3, 15, .inl (fun _ => 0))), (q4, .inl (c4, 15, .inl (fun _ => 0))), (q5, .inl (c5, 15, .inl (fun _ => 0))), (q6, .inl (c6, 14, .inl (fun _ => 0))), (q7, .inl (c7, 10, .inl (fun _ => 0))), (q8, .inl (c8, 14, .inl (fun _ => 0))), (q9, .inl (c9, 15, .inl (fun _ => 0))), (q10, .inl (c10, 14, .inl (fun _ => 0)))] := hD
  refine W.widen (k := 11) (n := 307) (by decide) (by decide) ?_
  refine va_putF (D := D) (ci := 0) (v := .ref q10) (ty := am_cY 0 15) (C := am_cC 0) (T := am_cT 0) (N := am_nf 0) hx hb hts (am_fin (by decide)) (am_cY 0) (am_cY_ok0 0 (by decide)) (am_nm0 0 (by decide)) hown hK hP hD hS 0 rfl rfl 15 (by decide) (hts _ (am_flk_in (o := 0) (k := 15) (by decide) (by decide))) (fun _ h9 => h9) rfl hin rfl (am_cY_ok0 0 (by decide) 15 (by decide)) rfl rfl (Nat.le_of_ble_eq_true rfl) ct_dX_89 (fun H locs hP hD hS => ?_)
  have hP : va_P D am_cl [(h0, .inr (0, [.ref q0, .ref q1, .int 0, .ref q2, .ref q3, .ref q4, .ref q5, .ref q6, .int 0, .ref q7, .int 0, .ref q8, .int 0, .int 0, .ref q9, .ref q10, .int 0, .null])), (q0, .inl (c0, 90, .inl (fun _ => 0))), (q1, .inl (c1, 90, .inl (fun _ => 0))), (q2, .inl (c2, 15, .inl (fun _ => 0))), (q3, .inl (c3, 15, .inl (fun _ => 0))), (q4, .inl (c4, 15, .inl (fun _ => 0))), (q5, .inl (c5, 15, .inl (fun _ => 0))), (q6, .inl (c6, 14, .inl (fun _ => 0))), (q7, .inl (c7, 10, .inl (fun _ => 0))), (q8, .inl (c8, 14, .inl (fun _ => 0))), (q9, .inl (c9, 15, .inl (fun _ => 0))), (q10, .inl (c10, 14, .inl (fun _ => 0)))] H := hP
  have hD : va_D A [(h0, .inr (0, [.ref q0, .ref q1, .int 0, .ref q2, .ref q3, .ref q4, .ref q5, .ref q6, .int 0, .ref q7, .int 0, .ref q8, .int 0, .int 0, .ref q9, .ref q10, .int 0, .null])), (q0, .inl (c0, 90, .inl (fun _ => 0))), (q1, .inl (c1, 90, .inl (fun _ => 0))), (q2, .inl (c2, 15, .inl (fun _ => 0))), (q3, .inl (c3, 15, .inl (fun _ => 0))), (q4, .inl (c4, 15, .inl (fun _ => 0))), (q5, .inl (c5, 15, .inl (fun _ => 0))), (q6, .inl (c6, 14, .inl (fun _ => 0))), (q7, .inl (c7, 10, .inl (fun _ => 0))), (q8, .inl (c8, 14, .inl (fun _ => 0))), (q9, .inl (c9, 15, .inl (fun _ => 0))), (q10, .inl (c10, 14, .inl (fun _ => 0)))] := hD
  refine lv_aload_n hx hb ct_dX_92 rfl (lv_at hl 0 rfl) ?_
  refine lv_bipush (v := 15) hx hb ct_dX_93 (by decide) ?_
  refine va_newa (atype := .int) (ty := .int) (a0 := (15, .inl (fun _ => 0))) hx hb (hts _ (am_inw ct_aI rfl)) rfl hK hP hD hS hA (fun cA => rfl) (by decide) rfl (by decide) (by show 11 + 1 ≤ 12; decide) (by show 307 + 15 ≤ 322; decide) ct_dX_95 (fun q11 c11 H hK hP hD hS => ?_)
  have hP : va_P D am_cl [(h0, .inr (0, [.ref q0, .ref q1, .int 0, .ref q2, .ref q3, .ref q4, .ref q5, .ref q6, .int 0, .ref q7, .int 0, .ref q8, .int 0, .int 0, .ref q9, .ref q10, .int 0, .null])), (q0, .inl (c0, 90, .inl (fun _ => 0))), (q1, .inl (c1, 90, .inl (fun _ => 0))), (q2, .inl (c2, 15, .inl (fun _ => 0))), (q3, .inl (c3, 15, .inl (fun _ => 0))), (q4, .inl (c4, 15, .inl (fun _ => 0))), (q5, .inl (c5, 15, .inl (fun _ => 0))), (q6, .inl (c6, 14, .inl (fun _ => 0))), (q7, .inl (c7, 10, .inl (fun _ => 0))), (q8, .inl (c8, 14, .inl (fun _ => 0))), (q9, .inl (c9, 15, .inl (fun _ => 0))), (q10, .inl (c10, 14, .inl (fun _ => 0))), (q11, .inl (c11, 15, .inl (fun _ => 0)))] H := hP
  have hD : va_D A [(h0, .inr (0, [.ref q0, .ref q1, .int 0, .ref q2, .ref q3, .ref q4, .ref q5, .ref q6, .int 0, .ref q7, .int 0, .ref q8, .int 0, .int 0, .ref q9, .ref q10, .int 0, .null])), (q0, .inl (c0, 90, .inl (fun _ => 0))), (q1, .inl (c1, 90, .inl (fun _ => 0))), (q2, .inl (c2, 15, .inl (fun _ => 0))), (q3, .inl (c3, 15, .inl (fun _ => 0))), (q4, .inl (c4, 15, .inl (fun _ => 0))), (q5, .inl (c5, 15, .inl (fun _ => 0))), (q6, .inl (c6, 14, .inl (fun _ => 0))), (q7, .inl (c7, 10, .inl (fun _ => 0))), (q8, .inl (c8, 14, .inl (fun _ => 0))), (q9, .inl (c9, 15, .inl (fun _ => 0))), (q10, .inl (c10, 14, .inl (fun _ => 0))), (q11, .inl (c11, 15, .inl (fun _ => 0)))] := hD
  refine W.widen (k := 12) (n := 322) (by decide) (by decide) ?_
  refine va_putF (D := D) (ci := 0) (v := .ref q11) (ty := am_cY 0 17) (C := am_cC 0) (T := am_cT 0) (N := am_nf 0) hx hb hts (am_fin (by decide)) (am_cY 0) (am_cY_ok0 0 (by decide)) (am_nm0 0 (by decide)) hown hK hP hD hS 0 rfl rfl 17 (by decide) (hts _ (am_flk_in (o := 0) (k := 17) (by decide) (by decide))) (fun _ h9 => h9) rfl hin rfl (am_cY_ok0 0 (by decide) 17 (by decide)) rfl rfl (Nat.le_of_ble_eq_true rfl) ct_dX_97 (fun H locs hP hD hS => ?_)
  have hP : va_P D am_cl [(h0, .inr (0, [.ref q0, .ref q1, .int 0, .ref q2, .ref q3, .ref q4, .ref q5, .ref q6, .int 0, .ref q7, .int 0, .ref q8, .int 0, .int 0, .ref q9, .ref q10, .int 0, .ref q11])), (q0, .inl (c0, 90, .inl (fun _ => 0))), (q1, .inl (c1, 90, .inl (fun _ => 0))), (q2, .inl (c2, 15, .inl (fun _ => 0))), (q3, .inl (c3, 15, .inl (fun _ => 0))), (q4, .inl (c4, 15, .inl (fun _ => 0))), (q5, .inl (c5, 15, .inl (fun _ => 0))), (q6, .inl (c6, 14, .inl (fun _ => 0))), (q7, .inl (c7, 10, .inl (fun _ => 0))), (q8, .inl (c8, 14, .inl (fun _ => 0))), (q9, .inl (c9, 15, .inl (fun _ => 0))), (q10, .inl (c10, 14, .inl (fun _ => 0))), (q11, .inl (c11, 15, .inl (fun _ => 0)))] H := hP
  have hD : va_D A [(h0, .inr (0, [.ref q0, .ref q1, .int 0, .ref q2, .ref q3, .ref q4, .ref q5, .ref q6, .int 0, .ref q7, .int 0, .ref q8, .int 0, .int 0, .ref q9, .ref q10, .int 0, .ref q11])), (q0, .inl (c0, 90, .inl (fun _ => 0))), (q1, .inl (c1, 90, .inl (fun _ => 0))), (q2, .inl (c2, 15, .inl (fun _ => 0))), (q3, .inl (c3, 15, .inl (fun _ => 0))), (q4, .inl (c4, 15, .inl (fun _ => 0))), (q5, .inl (c5, 15, .inl (fun _ => 0))), (q6, .inl (c6, 14, .inl (fun _ => 0))), (q7, .inl (c7, 10, .inl (fun _ => 0))), (q8, .inl (c8, 14, .inl (fun _ => 0))), (q9, .inl (c9, 15, .inl (fun _ => 0))), (q10, .inl (c10, 14, .inl (fun _ => 0))), (q11, .inl (c11, 15, .inl (fun _ => 0)))] := hD
  refine lv_aload_n hx hb ct_dX_100 rfl (lv_at hl 0 rfl) ?_
  refine va_get (D := D) (ci := 0) (v := .ref q2) (C := am_cC 0) (T := am_cT 0) (N := am_nf 0) hx hb hts (am_fin (by decide)) hown hK hP 0 rfl rfl 3 (by decide) (hts _ (am_flk_in (o := 0) (k := 3) (by decide) (by decide))) (fun _ h9 => h9) rfl ct_dX_101 ?_
  refine lv_iconst (v := -1) hx hb ct_dX_104 (by decide) ?_
  have hPc := hP.sub (ws' := [(q2, .inl (c2, 15, .inl (fun _ => 0)))]) [3] rfl
  have hDc := hD.sub (ws' := [(q2, .inl (c2, 15, .inl (fun _ => 0)))]) [3] (by decide) rfl
  have hKc := hK.sub (tys' := [(c2, .int)]) [2] rfl
  have hFc := va_free (wc := [(q2, .inl (c2, 15, .inl (fun _ => 0)))]) hD hS hA [3] rfl
  refine va_callv (va_runS (As := [.ref q2, .int (-1)]) (rest := []) ⟨hx, hb, hml, hown, hts⟩ (ct_fill l D q2 H.size c2 (-1)) (va_cwS 2 hts ct_fw rfl rfl rfl (by decide +kernel) ⟨Nat.le_of_ble_eq_true rfl, Nat.le_of_ble_eq_true rfl⟩) ⟨fun a U g mk q => by obtain ⟨q0, q1, qP, qK, qD⟩ := q; exact ⟨q0, q1, qP, va_K.moved (u := U) (U := U.calling g mk a) (Vm.Alike.refl U.vm) qK, qD⟩, fun U hU hW => ⟨rfl, by rw [hU], by rw [hU]; exact hPc, va_K.moved hW.alike hKc, hDc.weaken (fun _ _ _ _ => trivial)⟩⟩ rfl rfl hl.1 rfl (lv_room (Nat.le_of_ble_eq_true rfl)) ct_dX_105 ⟨by show 12 + 0 ≤ 12; decide, by show 322 + 0 ≤ 322; decide⟩) hS (fun q _ h => hFc q h) hFc (fun u t H1 locs ht hvm hw hB hz1 hk1 hS => ?_)
  rw [ht] at hB
  obtain ⟨hP, hD⟩ := va_join (wr := [(h0, .inr (0, [.ref q0, .ref q1, .int 0, .ref q2, .ref q3, .ref q4, .ref q5, .ref q6, .int 0, .ref q7, .int 0, .ref q8, .int 0, .int 0, .ref q9, .ref q10, .int 0, .ref q11])), (q0, .inl (c0, 90, .inl (fun _ => 0))), (q1, .inl (c1, 90, .inl (fun _ => 0))), (q3, .inl (c3, 15, .inl (fun _ => 0))), (q4, .inl (c4, 15, .inl (fun _ => 0))), (q5, .inl (c5, 15, .inl (fun _ => 0))), (q6, .inl (c6, 14, .inl (fun _ => 0))), (q7, .inl (c7, 10, .inl (fun _ => 0))), (q8, .inl (c8, 14, .inl (fun _ => 0))), (q9, .inl (c9, 15, .inl (fun _ => 0))), (q10, .inl (c10, 14, .inl (fun _ => 0))), (q11, .inl (c11, 15, .inl (fun _ => 0)))]) (w1 := [(q2, .inl (c2, 15, .inl (fun _ => -1)))]) hP hD [3] [0, 1, 2, 4, 5, 6, 7, 8, 9, 10, 11, 12] rfl rfl (by decide) (by decide) hk1 hFc hB (va_D.set (p := 0) (e := .inl (c2, 15, .inl (fun _ => -1))) (hDc.self (sz := H.size)) rfl)
  generalize H1 = H at hP hS ⊢
  have hP := hP.sub (ws' := [(h0, .inr (0, [.ref q0, .ref q1, .int 0, .ref q2, .ref q3, .ref q4, .ref q5, .ref q6, .int 0, .ref q7, .int 0, .ref q8, .int 0, .int 0, .ref q9, .ref q10, .int 0, .ref q11])), (q0, .inl (c0, 90, .inl (fun _ => 0))), (q1, .inl (c1, 90, .inl (fun _ => 0))), (q2, .inl (c2, 15, .inl (fun _ => -1))), (q3, .inl (c3, 15, .inl (fun _ => 0))), (q4, .inl (c4, 15, .inl (fun _ => 0))), (q5, .inl (c5, 15, .inl (fun _ => 0))), (q6, .inl (c6, 14, .inl (fun _ => 0))), (q7, .inl (c7, 10, .inl (fun _ => 0))), (q8, .inl (c8, 14, .inl (fun _ => 0))), (q9, .inl (c9, 15, .inl (fun _ => 0))), (q10, .inl (c10, 14, .inl (fun _ => 0))), (q11, .inl (c11, 15, .inl (fun _ => 0)))]) [0, 1, 2, 12, 3, 4, 5, 6, 7, 8, 9, 10, 11] rfl
  have hD := hD.sub (ws' := [(h0, .inr (0, [.ref q0, .ref q1, .int 0, .ref q2, .ref q3, .ref q4, .ref q5, .ref q6, .int 0, .ref q7, .int 0, .ref q8, .int 0, .int 0, .ref q9, .ref q10, .int 0, .ref q11])), (q0, .inl (c0, 90, .inl (fun _ => 0))), (q1, .inl (c1, 90, .inl (fun _ => 0))), (q2, .inl (c2, 15, .inl (fun _ => -1))), (q3, .inl (c3, 15, .inl (fun _ => 0))), (q4, .inl (c4, 15, .inl (fun _ => 0))), (q5, .inl (c5, 15, .inl (fun _ => 0))), (q6, .inl (c6, 14, .inl (fun _ => 0))), (q7, .inl (c7, 10, .inl (fun _ => 0))), (q8, .inl (c8, 14, .inl (fun _ => 0))), (q9, .inl (c9, 15, .inl (fun _ => 0))), (q10, .inl (c10, 14, .inl (fun _ => 0))), (q11, .inl (c11, 15, .inl (fun _ => 0)))]) [0, 1, 2, 12, 3, 4, 5, 6, 7, 8, 9, 10, 11] (by decide) rfl
  have e1 : c0 = c1 := Option.some.inj (((hK.2 0 _ rfl).2 : s.vm.findClass _ = some c0).symm.trans (hK.2 1 _ rfl).2)
  have e2 : c0 = c2 := Option.some.inj (((hK.2 0 _ rfl).2 : s.vm.findClass _ = some c0).symm.trans (hK.2 2 _ rfl).2)
  have e3 : c0 = c3 := Option.some.inj (((hK.2 0 _ rfl).2 : s.vm.findClass _ = some c0).symm.trans (hK.2 3 _ rfl).2)
  have e4 : c0 = c4 := Option.some.inj (((hK.2 0 _ rfl).2 : s.vm.findClass _ = some c0).symm.trans (hK.2 4 _ rfl).2)
  have e6 : c0 = c6 := Option.some.inj (((hK.2 0 _ rfl).2 : s.vm.findClass _ = some c0).symm.trans (hK.2 6 _ rfl).2)
  have e7 : c0 = c7 := Option.some.inj (((hK.2 0 _ rfl).2 : s.vm.findClass _ = some c0).symm.trans (hK.2 7 _ rfl).2)
  have e8 : c0 = c8 := Option.some.inj (((hK.2 0 _ rfl).2 : s.vm.findClass _ = some c0).symm.trans (hK.2 8 _ rfl).2)
  have e9 : c5 = c9 := Option.some.inj (((hK.2 5 _ rfl).2 : s.vm.findClass _ = some c5).symm.trans (hK.2 9 _ rfl).2)
  have e10 : c0 = c10 := Option.some.inj (((hK.2 0 _ rfl).2 : s.vm.findClass _ = some c0).symm.trans (hK.2 10 _ rfl).2)
  have e11 : c0 = c11 := Option.some.inj (((hK.2 0 _ rfl).2 : s.vm.findClass _ = some c0).symm.trans (hK.2 11 _ rfl).2)
  subst e1
  subst e2
  subst e3
  subst e4
  subst e6
  subst e7
  subst e8
  subst e9
  subst e10
  subst e11
  refine W.widen (k := 12) (n := 322) (by decide) (by decide) ?_
  refine W.vret hx hb hr (fun t ht hW => ⟨⟨((fun k => ([h0, 0, q0, q1, q2, q3, q4, q5, q6, q7, q8, q9, q10, q11, 0, 0, 0, 0, 0, 0, 0, 0, 0, 0, 0, 0, 0] : List Nat).getD k 0), (fun k => if k = 0 then c0 else c5)), rfl, trivial, rfl, by rw [ht]; exact hP, va_K.moved hW.alike (hK.sub [0, 5] rfl), hD⟩, hS.F ht⟩) hS.2.2 ct_dX_108
/-! the constructor of SlidingHeapModel -/
def ct_yM : MethodName := ⟨"SlidingHeapModel", "<init>", "()V"⟩
def ct_wM : List Cond := .code ct_yM prog_3_method_1_code 1 none :: am_ws
theorem ct_dM_0 : decode prog_3_method_1_code 0 = .ok (.aload_n 0, 1) := by decide +kernel
theorem ct_dM_1 : decode prog_3_method_1_code 1 = .ok (.invokespecial 1, 3) := by decide +kernel
theorem ct_dM_4 : decode prog_3_method_1_code 4 = .ok (.aload_n 0, 1) := by decide +kernel
theorem ct_dM_5 : decode prog_3_method_1_code 5 = .ok (.bipush 15, 2) := by decide +kernel
theorem ct_dM_7 : decode prog_3_method_1_code 7 = .ok (.newarray .int, 2) := by decide +kernel
theorem ct_dM_9 : decode prog_3_method_1_code 9 = .ok (.putfield 7, 3) := by decide +kernel
theorem ct_dM_12 : decode prog_3_method_1_code 12 = .ok (.aload_n 0, 1) := by decide +kernel
theorem ct_dM_13 : decode prog_3_method_1_code 13 = .ok (.bipush 15, 2) := by decide +kernel
theorem ct_dM_15 : decode prog_3_method_1_code 15 = .ok (.newarray .boolean, 2) := by decide +kernel
theorem ct_dM_17 : decode prog_3_method_1_code 17 = .ok (.putfield 13, 3) := by decide +kernel
theorem ct_dM_20 : decode prog_3_method_1_code 20 = .ok (.aload_n 0, 1) := by decide +kernel
theorem ct_dM_21 : decode prog_3_method_1_code 21 = .ok (.bipush 15, 2) := by decide +kernel
theorem ct_dM_23 : decode prog_3_method_1_code 23 = .ok (.newarray .int, 2) := by decide +kernel
theorem ct_dM_25 : decode prog_3_method_1_code 25 = .ok (.putfield 17, 3) := by decide +kernel
theorem ct_dM_28 : decode prog_3_method_1_code 28 = .ok (.aload_n 0, 1) := by decide +kernel
theorem ct_dM_29 : decode prog_3_method_1_code 29 = .ok (.bipush 15, 2) := by decide +kernel
theorem ct_dM_31 : decode prog_3_method_1_code 31 = .ok (.newarray .int, 2) := by decide +kernel
theorem ct_dM_33 : decode prog_3_method_1_code 33 = .ok (.putfield 20, 3) := by decide +kernel
theorem ct_dM_36 : decode prog_3_method_1_code 36 = .ok (.aload_n 0, 1) := by decide +kernel
theorem ct_dM_37 : decode prog_3_method_1_code 37 = .ok (.bipush 15, 2) := by decide +kernel
theorem ct_dM_39 : decode prog_3_method_1_code 39 = .ok (.newarray .boolean, 2) := by decide +kernel
theorem ct_dM_41 : decode prog_3_method_1_code 41 = .ok (.putfield 23, 3) := by decide +kernel
theorem ct_dM_44 : decode prog_3_method_1_code 44 = .ok (.aload_n 0, 1) := by decide +kernel
theorem ct_dM_45 : decode prog_3_method_1_code 45 = .ok (.sipush 150, 3) := by decide +kernel
theorem ct_dM_48 : decode prog_3_method_1_code 48 = .ok (.newarray .int, 2) := by decide +kernel
theorem ct_dM_50 : decode prog_3_method_1_code 50 = .ok (.putfield 26, 3) := by decide +kernel
theorem ct_dM_53 : decode prog_3_method_1_code 53 = .ok (.aload_n 0, 1) := by decide +kernel
theorem ct_dM_54 : decode prog_3_method_1_code 54 = .ok (.sipush 150, 3) := by decide +kernel
theorem ct_dM_57 : decode prog_3_method_1_code 57 = .ok (.newarray .int, 2) := by decide +kernel
theorem ct_dM_59 : decode prog_3_method_1_code 59 = .ok (.putfield 29, 3) := by decide +kernel
theorem ct_dM_62 : decode prog_3_method_1_code 62 = .ok (.aload_n 0, 1) := by decide +kernel
theorem ct_dM_63 : decode prog_3_method_1_code 63 = .ok (.bipush 10, 2) := by decide +kernel
theorem ct_dM_65 : decode prog_3_method_1_code 65 = .ok (.newarray .int, 2) := by decide +kernel
theorem ct_dM_67 : decode prog_3_method_1_code 67 = .ok (.putfield 32, 3) := by decide +kernel
theorem ct_dM_70 : decode prog_3_method_1_code 70 = .ok (.aload_n 0, 1) := by decide +kernel
theorem ct_dM_71 : decode prog_3_method_1_code 71 = .ok (.bipush 15, 2) := by decide +kernel
theorem ct_dM_73 : decode prog_3_method_1_code 73 = .ok (.newarray .int, 2) := by decide +kernel
theorem ct_dM_75 : decode prog_3_method_1_code 75 = .ok (.putfield 35, 3) := by decide +kernel
theorem ct_dM_78 : decode prog_3_method_1_code 78 = .ok (.aload_n 0, 1) := by decide +kernel
theorem ct_dM_79 : decode prog_3_method_1_code 79 = .ok (.bipush 15, 2) := by decide +kernel
theorem ct_dM_81 : decode prog_3_method_1_code 81 = .ok (.newarray .boolean, 2) := by decide +kernel
theorem ct_dM_83 : decode prog_3_method_1_code 83 = .ok (.putfield 38, 3) := by decide +kernel
theorem ct_dM_86 : decode prog_3_method_1_code 86 = .ok (.aload_n 0, 1) := by decide +kernel
theorem ct_dM_87 : decode prog_3_method_1_code 87 = .ok (.bipush 15, 2) := by decide +kernel
theorem ct_dM_89 : decode prog_3_method_1_code 89 = .ok (.newarray .boolean, 2) := by decide +kernel
theorem ct_dM_91 : decode prog_3_method_1_code 91 = .ok (.putfield 41, 3) := by decide +kernel
theorem ct_dM_94 : decode prog_3_method_1_code 94 = .ok (.aload_n 0, 1) := by decide +kernel
theorem ct_dM_95 : decode prog_3_method_1_code 95 = .ok (.bipush 15, 2) := by decide +kernel
theorem ct_dM_97 : decode prog_3_method_1_code 97 = .ok (.newarray .int, 2) := by decide +kernel
theorem ct_dM_99 : decode prog_3_method_1_code 99 = .ok (.putfield 44, 3) := by decide +kernel
theorem ct_dM_102 : decode prog_3_method_1_code 102 = .ok (.return_, 1) := by decide +kernel
/-- the world behind it: the object and its arrays -/
def ct_WM (a : Nat → Nat) (cs : Nat → ClassId) : va_W := ([1, 14, 15, 16, 17, 18, 19, 20, 21, 22, 23, 24, 25] : List Nat).map (am_cell a cs am_st0)
abbrev ct_BM (D : va_G) (A : Nat → Prop) (h0 : Nat) (u : (Nat → Nat) × (Nat → ClassId)) (t : State) : Prop := u.1 1 = h0 ∧ va_P D am_cl (ct_WM u.1 u.2) t.heap ∧ va_K D am_cl [(u.2 0, .int), (u.2 1, .boolean)] t ∧ va_D A (ct_WM u.1 u.2)
set_option maxHeartbeats 4000000 in
set_option maxRecDepth 100000 in
theorem ct_M (l : Launch) (D : va_G) (h0 sz : Nat) : Met l ct_yM ct_wM ({ frames := 1, cells := 12, slots := 445, locals := 12 }) (va_Pc [.ref h0] (fun U => U.heap.size = sz ∧ va_P D am_cl [(h0, .inr (1, [.int 0, .int 0, .null, .null, .null, .null, .null, .null, .null, .int 0, .null, .int 0, .null, .int 0, .null, .null, .null]))] U.heap ∧ va_K D am_cl [] U ∧ va_D (fun _ => True) [(h0, .inr (1, [.int 0, .int 0, .null, .null, .null, .null, .null, .null, .null, .int 0, .null, .int 0, .null, .int 0, .null, .null, .null]))])) (va_Qv (fun _ : (Nat → Nat) × (Nat → ClassId) => True) (ct_BM D (va_A [(h0, .inr (1, [.int 0, .int 0, .null, .null, .null, .null, .null, .null, .null, .int 0, .null, .int 0, .null, .int 0, .null, .null, .null]))] sz) h0) (va_A [(h0, .inr (1, [.int 0, .int 0, .null, .null, .null, .null, .null, .null, .null, .int 0, .null, .int 0, .null, .int 0, .null, .null, .null]))] sz)) 12 445 (va_A [(h0, .inr (1, [.int 0, .int 0, .null, .null, .null, .null, .null, .null, .null, .int 0, .null, .int 0, .null, .int 0, .null, .null, .null]))] sz) := by
  refine Met.ofW (cc := prog_3_method_1_code) (maxL := 1) (ret := none) (by decide) rfl ?_
  intro p e s m args below meth c s₁ B hml hv
  obtain ⟨rfl, hsz, hP, hK, hD0⟩ := hv
  have hx := B.exec
  have hb := B.bytes
  have hr := B.returns
  have hts0 := atoms_spec (ws := ct_wM) B.pre
  have hts : ∀ w ∈ am_ws, w.before _ s = true := fun w hw => hts0 w (List.mem_cons_of_mem _ hw)
  have hown : s.vm.findClass (am_cC 1) = some m.cls := findClass_of_methodNamed B.named
  have hlocks := B.notSynchronized
  have hin : meth.name = "<init>" := (name_of_methodNamed B.named B.method).1
  subst hsz
  have hD := hD0.self (sz := s.heap.size)
  generalize hAe : va_A [(h0, .inr (1, [.int 0, .int 0, .null, .null, .null, .null, .null, .null, .null, .int 0, .null, .int 0, .null, .int 0, .null, .null, .null]))] s.heap.size = A at hD ⊢
  have hA : ∀ q : Nat, s.heap.size ≤ q → A q := fun q h => by rw [← hAe]; exact Or.inr h
  have hS : va_S A s.heap s.heap [] := va_S.rf
  have hl := lv_entry ([.ref h0]) (n := 1) (Nat.le_of_ble_eq_true rfl)
  rw [lg_entry_eq]
  generalize (lg_sl ([.ref h0]) ++ List.replicate (1 - (lg_sl ([.ref h0])).length) Slot.unset).toArray = ls at hl ⊢
  have hl : lv_has ls 1 [(0, .ref h0)] := hl
  refine lv_aload_n hx hb ct_dM_0 rfl (lv_at hl 0 rfl) ?_
  refine W.objInit hx hb hown (hts _ (am_inw ct_oM rfl)) (hts _ (am_inw ct_oi rfl)) (hts _ (am_inw ct_oc rfl)) rfl (by rw [hml]; exact hl.1) rfl ct_dM_1 (Nat.le_of_ble_eq_true rfl) (Nat.le_of_ble_eq_true rfl) ?_
  refine W.eq (g2 := F0 m 4 ls []) rfl ?_
  refine lv_aload_n hx hb ct_dM_4 rfl (lv_at hl 0 rfl) ?_
  refine lv_bipush (v := 15) hx hb ct_dM_5 (by decide) ?_
  refine va_newa (atype := .int) (ty := .int) (a0 := (15, .inl (fun _ => 0))) hx hb (hts _ (am_inw ct_aI rfl)) rfl hK hP hD hS hA (fun cA => rfl) (by decide) rfl (by decide) (by show 0 + 1 ≤ 12; decide) (by show 0 + 15 ≤ 445; decide) ct_dM_7 (fun q0 c0 H hK hP hD hS => ?_)
  have hP : va_P D am_cl [(h0, .inr (1, [.int 0, .int 0, .null, .null, .null, .null, .null, .null, .null, .int 0, .null, .int 0, .null, .int 0, .null, .null, .null])), (q0, .inl (c0, 15, .inl (fun _ => 0)))] H := hP
  have hD : va_D A [(h0, .inr (1, [.int 0, .int 0, .null, .null, .null, .null, .null, .null, .null, .int 0, .null, .int 0, .null, .int 0, .null, .null, .null])), (q0, .inl (c0, 15, .inl (fun _ => 0)))] := hD
  refine W.widen (k := 1) (n := 15) (by decide) (by decide) ?_
  refine va_putF (D := D) (ci := 1) (v := .ref q0) (ty := am_cY 1 2) (C := am_cC 1) (T := am_cT 1) (N := am_nf 1) hx hb hts (am_fin (by decide)) (am_cY 1) (am_cY_ok0 1 (by decide)) (am_nm0 1 (by decide)) hown hK hP hD hS 0 rfl rfl 2 (by decide) (hts _ (am_flk_in (o := 1) (k := 2) (by decide) (by decide))) (fun _ h9 => h9) rfl hin rfl (am_cY_ok0 1 (by decide) 2 (by decide)) rfl rfl (Nat.le_of_ble_eq_true rfl) ct_dM_9 (fun H locs hP hD hS => ?_)
  have hP : va_P D am_cl [(h0, .inr (1, [.int 0, .int 0, .ref q0, .null, .null, .null, .null, .null, .null, .int 0, .null, .int 0, .null, .int 0, .null, .null, .null])), (q0, .inl (c0, 15, .inl (fun _ => 0)))] H := hP
  have hD : va_D A [(h0, .inr (1, [.int 0, .int 0, .ref q0, .null, .null, .null, .null, .null, .null, .int 0, .null, .int 0, .null, .int 0, .null, .null, .null])), (q0, .inl (c0, 15, .inl (fun _ => 0)))] := hD
  refine lv_aload_n hx hb ct_dM_12 rfl (lv_at hl 0 rfl) ?_
  refine lv_bipush (v := 15) hx hb ct_dM_13 (by decide) ?_
  refine va_newa (atype := .boolean) (ty := .boolean) (a0 := (15, .inl (fun _ => 0))) hx hb (hts _ (am_inw ct_aZ rfl)) rfl hK hP hD hS hA (fun cA => rfl) (by decide) rfl (by decide) (by show 1 + 1 ≤ 12; decide) (by show 15 + 15 ≤ 445; decide) ct_dM_15 (fun q1 c1 H hK hP hD hS => ?_)
  have hP : va_P D am_cl [(h0, .inr (1, [.int 0, .int 0, .ref q0, .null, .null, .null, .null, .null, .null, .int 0, .null, .int 0, .null, .int 0, .null, .null, .null])), (q0, .inl (c0, 15, .inl (fun _ => 0))), (q1, .inl (c1, 15, .inl (fun _ => 0)))] H := hP
  have hD : va_D A [(h0, .inr (1, [.int 0, .int 0, .ref q0, .null, .null, .null, .null, .null, .null, .int 0, .null, .int 0, .null, .int 0, .null, .null, .null])), (q0, .inl (c0, 15, .inl (fun _ => 0))), (q1, .inl (c1, 15, .inl (fun _ => 0)))] := hD
  refine W.widen (k := 2) (n := 30) (by decide) (by decide) ?_
  refine va_putF (D := D) (ci := 1) (v := .ref q1) (ty := am_cY 1 3) (C := am_cC 1) (T := am_cT 1) (N := am_nf 1) hx hb hts (am_fin (by decide)) (am_cY 1) (am_cY_ok0 1 (by decide)) (am_nm0 1 (by decide)) hown hK hP hD hS 0 rfl rfl 3 (by decide) (hts _ (am_flk_in (o := 1) (k := 3) (by decide) (by decide))) (fun _ h9 => h9) rfl hin rfl (am_cY_ok0 1 (by decide) 3 (by decide)) rfl rfl (Nat.le_of_ble_eq_true rfl) ct_dM_17 (fun H locs hP hD hS => ?_)
  have hP : va_P D am_cl [(h0, .inr (1, [.int 0, .int 0, .ref q0, .ref q1, .null, .null, .null, .null, .null, .int 0, .null, .int 0, .null, .int 0, .null, .null, .null])), (q0, .inl (c0, 15, .inl (fun _ => 0))), (q1, .inl (c1, 15, .inl (fun _ => 0)))] H := hP
  have hD : va_D A [(h0, .inr (1, [.int 0, .int 0, .ref q0, .ref q1, .null, .null, .null, .null, .null, .int 0, .null, .int 0, .null, .int 0, .null, .null, .null])), (q0, .inl (c0, 15, .inl (fun _ => 0))), (q1, .inl (c1, 15, .inl (fun _ => 0)))] := hD
  refine lv_aload_n hx hb ct_dM_20 rfl (lv_at hl 0 rfl) ?_
  refine lv_bipush (v := 15) hx hb ct_dM_21 (by decide) ?_
  refine va_newa (atype := .int) (ty := .int) (a0 := (15, .inl (fun _ => 0))) hx hb (hts _ (am_inw ct_aI rfl)) rfl hK hP hD hS hA (fun cA => rfl) (by decide) rfl (by decide) (by show 2 + 1 ≤ 12; decide) (by show 30 + 15 ≤ 445; decide) ct_dM_23 (fun q2 c2 H hK hP hD hS => ?_)
  have hP : va_P D am_cl [(h0, .inr (1, [.int 0, .int 0, .ref q0, .ref q1, .null, .null, .null, .null, .null, .int 0, .null, .int 0, .null, .int 0, .null, .null, .null])), (q0, .inl (c0, 15, .inl (fun _ => 0))), (q1, .inl (c1, 15, .inl (fun _ => 0))), (q2, .inl (c2, 15, .inl (fun _ => 0)))] H := hP
  have hD : va_D A [(h0, .inr (1, [.int 0, .int 0, .ref q0, .ref q1, .null, .null, .null, .null, .null, .int 0, .null, .int 0, .null, .int 0, .null, .null, .null])), (q0, .inl (c0, 15, .inl (fun _ => 0))), (q1, .inl (c1, 15, .inl (fun _ => 0))), (q2, .inl (c2, 15, .inl (fun _ => 0)))] := hD
  refine W.widen (k := 3) (n := 45) (by decide) (by decide) ?_
  refine va_putF (D := D) (ci := 1) (v := .ref q2) (ty := am_cY 1 4) (C := am_cC 1) (T := am_cT 1) (N := am_nf 1) hx hb hts (am_fin (by decide)) (am_cY 1) (am_cY_ok0 1 (by decide)) (am_nm0 1 (by decide)) hown hK hP hD hS 0 rfl rfl 4 (by decide) (hts _ (am_flk_in (o := 1) (k := 4) (by decide) (by decide))) (fun _ h9 => h9) rfl hin rfl (am_cY_ok0 1 (by decide) 4 (by decide)) rfl rfl (Nat.le_of_ble_eq_true rfl) ct_dM_25 (fun H locs hP hD hS => ?_)
  have hP : va_P D am_cl [(h0, .inr (1, [.int 0, .int 0, .ref q0, .ref q1, .ref q2, .null, .null, .null, .null, .int 0, .null, .int 0, .null, .int 0, .null, .null, .null])), (q0, .inl (c0, 15, .inl (fun _ => 0))), (q1, .inl (c1, 15, .inl (fun _ => 0))), (q2, .inl (c2, 15, .inl (fun _ => 0)))] H := hP
  have hD : va_D A [(h0, .inr (1, [.int 0, .int 0, .ref q0, .ref q1, .ref q2, .null, .null, .null, .null, .int 0, .null, .int 0, .null, .int 0, .null, .null, .null])), (q0, .inl (c0, 15, .inl (fun _ => 0))), (q1, .inl (c1, 15, .inl (fun _ => 0))), (q2, .inl (c2, 15, .inl (fun _ => 0)))] := hD
  refine lv_aload_n hx hb ct_dM_28 rfl (lv_at hl 0 rfl) ?_
  refine lv_bipush (v := 15) hx hb ct_dM_29 (by decide) ?_
  refine va_newa (atype := .int) (ty := .int) (a0 := (15, .inl (fun _ => 0))) hx hb (hts _ (am_inw ct_aI rfl)) rfl hK hP hD hS hA (fun cA => rfl) (by decide) rfl (by decide) (by show 3 + 1 ≤ 12; decide) (by show 45 + 15 ≤ 445; decide) ct_dM_31 (fun q3 c3 H hK hP hD hS => ?_)
  have hP : va_P D am_cl [(h0, .inr (1, [.int 0, .int 0, .ref q0, .ref q1, .ref q2, .null, .null, .null, .null, .int 0, .null, .int 0, .null, .int 0, .null, .null, .null])), (q0, .inl (c0, 15, .inl (fun _ => 0))), (q1, .inl (c1, 15, .inl (fun _ => 0))), (q2, .inl (c2, 15, .inl (fun _ => 0))), (q3, .inl (c3, 15, .inl (fun _ => 0)))] H := hP
  have hD : va_D A [(h0, .inr (1, [.int 0, .int 0, .ref q0, .ref q1, .ref q2, .null, .null, .null, .null, .int 0, .null, .int 0, .null, .int 0, .null, .null, .null])), (q0, .inl (c0, 15, .inl (fun _ => 0))), (q1, .inl (c1, 15, .inl (fun _ => 0))), (q2, .inl (c2, 15, .inl (fun _ => 0))), (q3, .inl (c3, 15, .inl (fun _ => 0)))] := hD
  refine W.widen (k := 4) (n := 60) (by decide) (by decide) ?_
  refine va_putF (D := D) (ci := 1) (v := .ref q3) (ty := am_cY 1 5) (C := am_cC 1) (T := am_cT 1) (N := am_nf 1) hx hb hts (am_fin (by decide)) (am_cY 1) (am_cY_ok0 1 (by decide)) (am_nm0 1 (by decide)) hown hK hP hD hS 0 rfl rfl 5 (by decide) (hts _ (am_flk_in (o := 1) (k := 5) (by decide) (by decide))) (fun _ h9 => h9) rfl hin rfl (am_cY_ok0 1 (by decide) 5 (by decide)) rfl rfl (Nat.le_of_ble_eq_true rfl) ct_dM_33 (fun H locs hP hD hS => ?_)
  have hP : va_P D am_cl [(h0, .inr (1, [.int 0, .int 0, .ref q0, .ref q1, .ref q2, .ref q3, .null, .null, .null, .int 0, .null, .int 0, .null, .int 0, .null, .null, .null])), (q0, .inl (c0, 15, .inl (fun _ => 0))), (q1, .inl (c1, 15, .inl (fun _ => 0))), (q2, .inl (c2, 15, .inl (fun _ => 0))), (q3, .inl (c3, 15, .inl (fun _ => 0)))] H := hP
  have hD : va_D A [(h0, .inr (1, [.int 0, .int 0, .ref q0, .ref q1, .ref q2, .ref q3, .null, .null, .null, .int 0, .null, .int 0, .null, .int 0, .null, .null, .null])), (q0, .inl (c0, 15, .inl (fun _ => 0))), (q1, .inl (c1, 15, .inl (fun _ => 0))), (q2, .inl (c2, 15, .inl (fun _ => 0))), (q3, .inl (c3, 15, .inl (fun _ => 0)))] := hD
  refine lv_aload_n hx hb ct_dM_36 rfl (lv_at hl 0 rfl) ?_
  refine lv_bipush (v := 15) hx hb ct_dM_37 (by decide) ?_
  refine va_newa (atype := .boolean) (ty := .boolean) (a0 := (15, .inl (fun _ => 0))) hx hb (hts _ (am_inw ct_aZ rfl)) rfl hK hP hD hS hA (fun cA => rfl) (by decide) rfl (by decide) (by show 4 + 1 ≤ 12; decide) (by show 60 + 15 ≤ 445; decide) ct_dM_39 (fun q4 c4 H hK hP hD hS => ?_)
  have hP : va_P D am_cl [(h0, .inr (1, [.int 0, .int 0, .ref q0, .ref q1, .ref q2, .ref q3, .null, .null, .null, .int 0, .null, .int 0, .null, .int 0, .null, .null, .null])), (q0, .inl (c0, 15, .inl (fun _ => 0))), (q1, .inl (c1, 15, .inl (fun _ => 0))), (q2, .inl (c2, 15, .inl (fun _ => 0))), (q3, .inl (c3, 15, .inl (fun _ => 0))), (q4, .inl (c4, 15, .inl (fun _ => 0)))] H := hP
  have hD : va_D A [(h0, .inr (1, [.int 0, .int 0, .ref q0, .ref q1, .ref q2, .ref q3, .null, .null, .null, .int 0, .null, .int 0, .null, .int 0, .null, .null, .null])), (q0, .inl (c0, 15, .inl (fun _ => 0))), (q1, .inl (c1, 15, .inl (fun _ => 0))), (q2, .inl (c2, 15, .inl (fun _ => 0))), (q3, .inl (c3, 15, .inl (fun _ => 0))), (q4, .inl (c4, 15, .inl (fun _ => 0)))] := hD
  refine W.widen (k := 5) (n := 75) (by decide) (by decide) ?_
  refine va_putF (D := D) (ci := 1) (v := .ref q4) (ty := am_cY 1 6) (C := am_cC 1) (T := am_cT 1) (N := am_nf 1) hx hb hts (am_fin (by decide)) (am_cY 1) (am_cY_ok0 1 (by decide)) (am_nm0 1 (by decide)) hown hK hP hD hS 0 rfl rfl 6 (by decide) (hts _ (am_flk_in (o := 1) (k := 6) (by decide) (by decide))) (fun _ h9 => h9) rfl hin rfl (am_cY_ok0 1 (by decide) 6 (by decide)) rfl rfl (Nat.le_of_ble_eq_true rfl) ct_dM_41 (fun H locs hP hD hS => ?_)
  have hP : va_P D am_cl [(h0, .inr (1, [.int 0, .int 0, .ref q0, .ref q1, .ref q2, .ref q3, .ref q4, .null, .null, .int 0, .null, .int 0, .null, .int 0, .null, .null, .null])), (q0, .inl (c0, 15, .inl (fun _ => 0))), (q1, .inl (c1, 15, .inl (fun _ => 0))), (q2, .inl (c2, 15, .inl (fun _ => 0))), (q3, .inl (c3, 15, .inl (fun _ => 0))), (q4, .inl (c4, 15, .inl (fun _ => 0)))] H := hP
  have hD : va_D A [(h0, .inr (1, [.int 0, .int 0, .ref q0, .ref q1, .ref q2, .ref q3, .ref q4, .null, .null, .int 0, .null, .int 0, .null, .int 0, .null, .null, .null])), (q0, .inl (c0, 15, .inl (fun _ => 0))), (q1, .inl (c1, 15, .inl (fun _ => 0))), (q2, .inl (c2, 15, .inl (fun _ => 0))), (q3, .inl (c3, 15, .inl (fun _ => 0))), (q4, .inl (c4, 15, .inl (fun _ => 0)))] := hD
  refine lv_aload_n hx hb ct_dM_44 rfl (lv_at hl 0 rfl) ?_
  refine lv_sipush (v := 150) hx hb ct_dM_45 (by decide) ?_
  refine va_newa (atype := .int) (ty := .int) (a0 := (150, .inl (fun _ => 0))) hx hb (hts _ (am_inw ct_aI rfl)) rfl hK hP hD hS hA (fun cA => rfl) (by decide) rfl (by decide) (by show 5 + 1 ≤ 12; decide) (by show 75 + 150 ≤ 445; decide) ct_dM_48 (fun q5 c5 H hK hP hD hS => ?_)
  have hP : va_P D am_cl [(h0, .inr (1, [.int 0, .int 0, .ref q0, .ref q1, .ref q2, .ref q3, .ref q4, .null, .null, .int 0, .null, .int 0, .null, .int 0, .null, .null, .null])), (q0, .inl (c0, 15, .inl (fun _ => 0))), (q1, .inl (c1, 15, .inl (fun _ => 0))), (q2, .inl (c2, 15, .inl (fun _ => 0))), (q3, .inl (c3, 15, .inl (fun _ => 0))), (q4, .inl (c4, 15, .inl (fun _ => 0))), (q5, .inl (c5, 150, .inl (fun _ => 0)))] H := hP
  have hD : va_D A [(h0, .inr (1, [.int 0, .int 0, .ref q0, .ref q1, .ref q2, .ref q3, .ref q4, .null, .null, .int 0, .null, .int 0, .null, .int 0, .null, .null, .null])), (q0, .inl (c0, 15, .inl (fun _ => 0))), (q1, .inl (c1, 15, .inl (fun _ => 0))), (q2, .inl (c2, 15, .inl (fun _ => 0))), (q3, .inl (c3, 15, .inl (fun _ => 0))), (q4, .inl (c4, 15, .inl (fun _ => 0))), (q5, .inl (c5, 150, .inl (fun _ => 0)))] := hD
  refine W.widen (k := 6) (n := 225) (by decide) (by decide) ?_
  refine va_putF (D := D) (ci := 1) (v := .ref q5) (ty := am_cY 1 7) (C := am_cC 1) (T := am_cT 1) (N := am_nf 1) hx hb hts (am_fin (by decide)) (am_cY 1) (am_cY_ok0 1 (by decide)) (am_nm0 1 (by decide)) hown hK hP hD hS 0 rfl rfl 7 (by decide) (hts _ (am_flk_in (o := 1) (k := 7) (by decide) (by decide))) (fun _ h9 => h9) rfl hin rfl (am_cY_ok0 1 (by decide) 7 (by decide)) rfl rfl (Nat.le_of_ble_eq_true rfl) ct_dM_50 (fun H locs hP hD hS => ?_)
  have hP : va_P D am_cl [(h0, .inr (1, [.int 0, .int 0, .ref q0, .ref q1, .ref q2, .ref q3, .ref q4, .ref q5, .null, .int 0, .null, .int 0, .null, .int 0, .null, .null, .null])), (q0, .inl (c0, 15, .inl (fun _ => 0))), (q1, .inl (c1, 15, .inl (fun _ => 0))), (q2, .inl (c2, 15, .inl (fun _ => 0))), (q3, .inl (c3, 15, .inl (fun _ => 0))), (q4, .inl (c4, 15, .inl (fun _ => 0))), (q5, .inl (c5, 150, .inl (fun _ => 0)))] H := hP
  have hD : va_D A [(h0, .inr (1, [.int 0, .int 0, .ref q0, .ref q1, .ref q2, .ref q3, .ref q4, .ref q5, .null, .int 0, .null, .int 0, .null, .int 0, .null, .null, .null])), (q0, .inl (c0, 15, .inl (fun _ => 0))), (q1, .inl (c1, 15, .inl (fun _ => 0))), (q2, .inl (c2, 15, .inl (fun _ => 0))), (q3, .inl (c3, 15, .inl (fun _ => 0))), (q4, .inl (c4, 15, .inl (fun _ => 0))), (q5, .inl (c5, 150, .inl (fun _ => 0)))] := hD
  refine lv_aload_n hx hb ct_dM_53 rfl (lv_at hl 0 rfl) ?_
  refine lv_sipush (v := 150) hx hb ct_dM_54 (by decide) ?_
  refine va_newa (atype := .int) (ty := .int) (a0 := (150, .inl (fun _ => 0))) hx hb (hts _ (am_inw ct_aI rfl)) rfl hK hP hD hS hA (fun cA => rfl) (by decide) rfl (by decide) (by show 6 + 1 ≤ 12; decide) (by show 225 + 150 ≤ 445; decide) ct_dM_57 (fun q6 c6 H hK hP hD hS => ?_)
  have hP : va_P D am_cl [(h0, .inr (1, [.int 0, .int 0, .ref q0, .ref q1, .ref q2, .ref q3, .ref q4, .ref q5, .null, .int 0, .null, .int 0, .null, .int 0, .null, .null, .null])), (q0, .inl (c0, 15, .inl (fun _ => 0))), (q1, .inl (c1, 15, .inl (fun _ => 0))), (q2, .inl (c2, 15, .inl (fun _ => 0))), (q3, .inl (c3, 15, .inl (fun _ => 0))), (q4, .inl (c4, 15, .inl (fun _ => 0))), (q5, .inl (c5, 150, .inl (fun _ => 0))), (q6, .inl (c6, 150, .inl (fun _ => 0)))] H := hP
  have hD : va_D A [(h0, .inr (1, [.int 0, .int 0, .ref q0, .ref q1, .ref q2, .ref q3, .ref q4, .ref q5, .null, .int 0, .null, .int 0, .null, .int 0, .null, .null, .null])), (q0, .inl (c0, 15, .inl (fun _ => 0))), (q1, .inl (c1, 15, .inl (fun _ => 0))), (q2, .inl (c2, 15, .inl (fun _ => 0))), (q3, .inl (c3, 15, .inl (fun _ => 0))), (q4, .inl (c4, 15, .inl (fun _ => 0))), (q5, .inl (c5, 150, .inl (fun _ => 0))), (q6, .inl (c6, 150, .inl (fun _ => 0)))] := hD
  refine W.widen (k := 7) (n := 375) (by decide) (by decide) ?_
  refine va_putF (D := D) (ci := 1) (v := .ref q6) (ty := am_cY 1 8) (C := am_cC 1) (T := am_cT 1) (N := am_nf 1) hx hb hts (am_fin (by decide)) (am_cY 1) (am_cY_ok0 1 (by decide)) (am_nm0 1 (by decide)) hown hK hP hD hS 0 rfl rfl 8 (by decide) (hts _ (am_flk_in (o := 1) (k := 8) (by decide) (by decide))) (fun _ h9 => h9) rfl hin rfl (am_cY_ok0 1 (by decide) 8 (by decide)) rfl rfl (Nat.le_of_ble_eq_true rfl) ct_dM_59 (fun H locs hP hD hS => ?_)
  have hP : va_P D am_cl [(h0, .inr (1, [.int 0, .int 0, .ref q0, .ref q1, .ref q2, .ref q3, .ref q4, .ref q5, .ref q6, .int 0, .null, .int 0, .null, .int 0, .null, .null, .null])), (q0, .inl (c0, 15, .inl (fun _ => 0))), (q1, .inl (c1, 15, .inl (fun _ => 0))), (q2, .inl (c2, 15, .inl (fun _ => 0))), (q3, .inl (c3, 15, .inl (fun _ => 0))), (q4, .inl (c4, 15, .inl (fun _ => 0))), (q5, .inl (c5, 150, .inl (fun _ => 0))), (q6, .inl (c6, 150, .inl (fun _ => 0)))] H := hP
  have hD : va_D A [(h0, .inr (1, [.int 0, .int 0, .ref q0, .ref q1, .ref q2, .ref q3, .ref q4, .ref q5, .ref q6, .int 0, .null, .int 0, .null, .int 0, .null, .null, .null])), (q0, .inl (c0, 15, .inl (fun _ => 0))), (q1, .inl (c1, 15, .inl (fun _ => 0))), (q2, .inl (c2, 15, .inl (fun _ => 0))), (q3, .inl (c3, 15, .inl (fun _ => 0))), (q4, .inl (c4, 15, .inl (fun _ => 0))), (q5, .inl (c5, 150, .inl (fun _ => 0))), (q6, .inl (c6, 150, .inl (fun _ => 0)))] := hD
  refine lv_aload_n hx hb ct_dM_62 rfl (lv_at hl 0 rfl) ?_
  refine lv_bipush (v := 10) hx hb ct_dM_63 (by decide) ?_
  refine va_newa (atype := .int) (ty := .int) (a0 := (10, .inl (fun _ => 0))) hx hb (hts _ (am_inw ct_aI rfl)) rfl hK hP hD hS hA (fun cA => rfl) (by decide) rfl (by decide) (by show 7 + 1 ≤ 12; decide) (by show 375 + 10 ≤ 445; decide) ct_dM_65 (fun q7 c7 H hK hP hD hS => ?_)
  have hP : va_P D am_cl [(h0, .inr (1, [.int 0, .int 0, .ref q0, .ref q1, .ref q2, .ref q3, .ref q4, .ref q5, .ref q6, .int 0, .null, .int 0, .null, .int 0, .null, .null, .null])), (q0, .inl (c0, 15, .inl (fun _ => 0))), (q1, .inl (c1, 15, .inl (fun _ => 0))), (q2, .inl (c2, 15, .inl (fun _ => 0))), (q3, .inl (c3, 15, .inl (fun _ => 0))), (q4, .inl (c4, 15, .inl (fun _ => 0))), (q5, .inl (c5, 150, .inl (fun _ => 0))), (q6, .inl (c6, 150, .inl (fun _ => 0))), (q7, .inl (c7, 10, .inl (fun _ => 0)))] H := hP
  have hD : va_D A [(h0, .inr (1, [.int 0, .int 0, .ref q0, .ref q1, .ref q2, .ref q3, .ref q4, .ref q5, .ref q6, .int 0, .null, .int 0, .null, .int 0, .null, .null, .null])), (q0, .inl (c0, 15, .inl (fun _ => 0))), (q1, .inl (c1, 15, .inl (fun _ => 0))), (q2, .inl (c2, 15, .inl (fun _ => 0))), (q3, .inl (c3, 15, .inl (fun _ => 0))), (q4, .inl (c4, 15, .inl (fun _ => 0))), (q5, .inl (c5, 150, .inl (fun _ => 0))), (q6, .inl (c6, 150, .inl (fun _ => 0))), (q7, .inl (c7, 10, .inl (fun _ => 0)))] := hD
  refine W.widen (k := 8) (n := 385) (by decide) (by decide) ?_
  refine va_putF (D := D) (ci := 1) (v := .ref q7) (ty := am_cY 1 10) (C := am_cC 1) (T := am_cT 1) (N := am_nf 1) hx hb hts (am_fin (by decide)) (am_cY 1) (am_cY_ok0 1 (by decide)) (am_nm0 1 (by decide)) hown hK hP hD hS 0 rfl rfl 10 (by decide) (hts _ (am_flk_in (o := 1) (k := 10) (by decide) (by decide))) (fun _ h9 => h9) rfl hin rfl (am_cY_ok0 1 (by decide) 10 (by decide)) rfl rfl (Nat.le_of_ble_eq_true rfl) ct_dM_67 (fun H locs hP hD hS => ?_)
  have hP : va_P D am_cl [(h0, .inr (1, [.int 0, .int 0, .ref q0, .ref q1, .ref q2, .ref q3, .ref q4, .ref q5, .ref q6, .int 0, .ref q7, .int 0, .null, .int 0, .null, .null, .null])), (q0, .inl (c0, 15, .inl (fun _ => 0))), (q1, .inl (c1, 15, .inl (fun _ => 0))), (q2, .inl (c2, 15, .inl (fun _ => 0))), (q3, .inl (c3, 15, .inl (fun _ => 0))), (q4, .inl (c4, 15, .inl (fun _ => 0))), (q5, .inl (c5, 150, .inl (fun _ => 0))), (q6, .inl (c6, 150, .inl (fun _ => 0))), (q7, .inl (c7, 10, .inl (fun _ => 0)))] H := hP
  have hD : va_D A [(h0, .inr (1, [.int 0, .int 0, .ref q0, .ref q1, .ref q2, .ref q3, .ref q4, .ref q5, .ref q6, .int 0, .ref q7, .int 0, .null, .int 0, .null, .null, .null])), (q0, .inl (c0, 15, .inl (fun _ => 0))), (q1, .inl (c1, 15, .inl (fun _ => 0))), (q2, .inl (c2, 15, .inl (fun _ => 0))), (q3, .inl (c3, 15, .inl (fun _ => 0))), (q4, .inl (c4, 15, .inl (fun _ => 0))), (q5, .inl (c5, 150, .inl (fun _ => 0))), (q6, .inl (c6, 150, .inl (fun _ => 0))), (q7, .inl (c7, 10, .inl (fun _ => 0)))] := hD
  refine lv_aload_n hx hb ct_dM_70 rfl (lv_at hl 0 rfl) ?_
  refine lv_bipush (v := 15) hx hb ct_dM_71 (by decide) ?_
  refine va_newa (atype := .int) (ty := .int) (a0 := (15, .inl (fun _ => 0))) hx hb (hts _ (am_inw ct_aI rfl)) rfl hK hP hD hS hA (fun cA => rfl) (by decide) rfl (by decide) (by show 8 + 1 ≤ 12; decide) (by show 385 + 15 ≤ 445; decide) ct_dM_73 (fun q8 c8 H hK hP hD hS => ?_)
  have hP : va_P D am_cl [(h0, .inr (1, [.int 0, .int 0, .ref q0, .ref q1, .ref q2, .ref q3, .ref q4, .ref q5, .ref q6, .int 0, .ref q7, .int 0, .null, .int 0, .null, .null, .null])), (q0, .inl (c0, 15, .inl (fun _ => 0))), (q1, .inl (c1, 15, .inl (fun _ => 0))), (q2, .inl (c2, 15, .inl (fun _ => 0))), (q3, .inl (c3, 15, .inl (fun _ => 0))), (q4, .inl (c4, 15, .inl (fun _ => 0))), (q5, .inl (c5, 150, .inl (fun _ => 0))), (q6, .inl (c6, 150, .inl (fun _ => 0))), (q7, .inl (c7, 10, .inl (fun _ => 0))), (q8, .inl (c8, 15, .inl (fun _ => 0)))] H := hP
  have hD : va_D A [(h0, .inr (1, [.int 0, .int 0, .ref q0, .ref q1, .ref q2, .ref q3, .ref q4, .ref q5, .ref q6, .int 0, .ref q7, .int 0, .null, .int 0, .null, .null, .null])), (q0, .inl (c0, 15, .inl (fun _ => 0))), (q1, .inl (c1, 15, .inl (fun _ => 0))), (q2, .inl (c2, 15, .inl (fun _ => 0))), (q3, .inl (c3, 15, .inl (fun _ => 0))), (q4, .inl (c4, 15, .inl (fun _ => 0))), (q5, .inl (c5, 150, .inl (fun _ => 0))), (q6, .inl (c6, 150, .inl (fun _ => 0))), (q7, .inl (c7, 10, .inl (fun _ => 0))), (q8, .inl (c8, 15, .inl (fun _ => 0)))] := hD
  refine W.widen (k := 9) (n := 400) (by decide) (by decide) ?_
  refine va_putF (D := D) (ci := 1) (v := .ref q8) (ty := am_cY 1 12) (C := am_cC 1) (T := am_cT 1) (N := am_nf 1) hx hb hts (am_fin (by decide)) (am_cY 1) (am_cY_ok0 1 (by decide)) (am_nm0 1 (by decide)) hown hK hP hD hS 0 rfl rfl 12 (by decide) (hts _ (am_flk_in (o := 1) (k := 12) (by decide) (by decide))) (fun _ h9 => h9) rfl hin rfl (am_cY_ok0 1 (by decide) 12 (by decide)) rfl rfl (Nat.le_of_ble_eq_true rfl) ct_dM_75 (fun H locs hP hD hS => ?_)
  have hP : va_P D am_cl [(h0, .inr (1, [.int 0, .int 0, .ref q0, .ref q1, .ref q2, .ref q3, .ref q4, .ref q5, .ref q6, .int 0, .ref q7, .int 0, .ref q8, .int 0, .null, .null, .null])), (q0, .inl (c0, 15, .inl (fun _ => 0))), (q1, .inl (c1, 15, .inl (fun _ => 0))), (q2, .inl (c2, 15, .inl (fun _ => 0))), (q3, .inl (c3, 15, .inl (fun _ => 0))), (q4, .inl (c4, 15, .inl (fun _ => 0))), (q5, .inl (c5, 150, .inl (fun _ => 0))), (q6, .inl (c6, 150, .inl (fun _ => 0))), (q7, .inl (c7, 10, .inl (fun _ => 0))), (q8, .inl (c8, 15, .inl (fun _ => 0)))] H := hP
  have hD : va_D A [(h0, .inr (1, [.int 0, .int 0, .ref q0, .ref q1, .ref q2, .ref q3, .ref q4, .ref q5, .ref q6, .int 0, .ref q7, .int 0, .ref q8, .int 0, .null, .null, .null])), (q0, .inl (c0, 15, .inl (fun _ => 0))), (q1, .inl (c1, 15, .inl (fun _ => 0))), (q2, .inl (c2, 15, .inl (fun _ => 0))), (q3, .inl (c3, 15, .inl (fun _ => 0))), (q4, .inl (c4, 15, .inl (fun _ => 0))), (q5, .inl (c5, 150, .inl (fun _ => 0))), (q6, .inl (c6, 150, .inl (fun _ => 0))), (q7, .inl (c7, 10, .inl (fun _ => 0))), (q8, .inl (c8, 15, .inl (fun _ => 0)))] := hD
  refine lv_aload_n hx hb ct_dM_78 rfl (lv_at hl 0 rfl) ?_
  refine lv_bipush (v := 15) hx hb ct_dM_79 (by decide) ?_
  refine va_newa (atype := .boolean) (ty := .boolean) (a0 := (15, .inl (fun _ => 0))) hx hb (hts _ (am_inw ct_aZ rfl)) rfl hK hP hD hS hA (fun cA => rfl) (by decide) rfl (by decide) (by show 9 + 1 ≤ 12; decide) (by show 400 + 15 ≤ 445; decide) ct_dM_81 (fun q9 c9 H hK hP hD hS => ?_)
  have hP : va_P D am_cl [(h0, .inr (1, [.int 0, .int 0, .ref q0, .ref q1, .ref q2, .ref q3, .ref q4, .ref q5, .ref q6, .int 0, .ref q7, .int 0, .ref q8, .int 0, .null, .null, .null])), (q0, .inl (c0, 15, .inl (fun _ => 0))), (q1, .inl (c1, 15, .inl (fun _ => 0))), (q2, .inl (c2, 15, .inl (fun _ => 0))), (q3, .inl (c3, 15, .inl (fun _ => 0))), (q4, .inl (c4, 15, .inl (fun _ => 0))), (q5, .inl (c5, 150, .inl (fun _ => 0))), (q6, .inl (c6, 150, .inl (fun _ => 0))), (q7, .inl (c7, 10, .inl (fun _ => 0))), (q8, .inl (c8, 15, .inl (fun _ => 0))), (q9, .inl (c9, 15, .inl (fun _ => 0)))] H := hP
  have hD : va_D A [(h0, .inr (1, [.int 0, .int 0, .ref q0, .ref q1, .ref q2, .ref q3, .ref q4, .ref q5, .ref q6, .int 0, .ref q7, .int 0, .ref q8, .int 0, .null, .null, .null])), (q0, .inl (c0, 15, .inl (fun _ => 0))), (q1, .inl (c1, 15, .inl (fun _ => 0))), (q2, .inl (c2, 15, .inl (fun _ => 0))), (q3, .inl (c3, 15, .inl (fun _ => 0))), (q4, .inl (c4, 15, .inl (fun _ => 0))), (q5, .inl (c5, 150, .inl (fun _ => 0))), (q6, .inl (c6, 150, .inl (fun _ => 0))), (q7, .inl (c7, 10, .inl (fun _ => 0))), (q8, .inl (c8, 15, .inl (fun _ => 0))), (q9, .inl (c9, 15, .inl (fun _ => 0)))] := hD
  refine W.widen (k := 10) (n := 415) (by decide) (by decide) ?_
  refine va_putF (D := D) (ci := 1) (v := .ref q9) (ty := am_cY 1 14) (C := am_cC 1) (T := am_cT 1) (N := am_nf 1) hx hb hts (am_fin (by decide)) (am_cY 1) (am_cY_ok0 1 (by decide)) (am_nm0 1 (by decide)) hown hK hP hD hS 0 rfl rfl 14 (by decide) (hts _ (am_flk_in (o := 1) (k := 14) (by decide) (by decide))) (fun _ h9 => h9) rfl hin rfl (am_cY_ok0 1 (by decide) 14 (by decide)) rfl rfl (Nat.le_of_ble_eq_true rfl) ct_dM_83 (fun H locs hP hD hS => ?_)
  have hP : va_P D am_cl [(h0, .inr (1, [.int 0, .int 0, .ref q0, .ref q1, .ref q2, .ref q3, .ref q4, .ref q5, .ref q6, .int 0, .ref q7, .int 0, .ref q8, .int 0, .ref q9, .null, .null])), (q0, .inl (c0, 15, .inl (fun _ => 0))), (q1, .inl (c1, 15, .inl (fun _ => 0))), (q2, .inl (c2, 15, .inl (fun _ => 0))), (q3, .inl (c3, 15, .inl (fun _ => 0))), (q4, .inl (c4, 15, .inl (fun _ => 0))), (q5, .inl (c5, 150, .inl (fun _ => 0))), (q6, .inl (c6, 150, .inl (fun _ => 0))), (q7, .inl (c7, 10, .inl (fun _ => 0))), (q8, .inl (c8, 15, .inl (fun _ => 0))), (q9, .inl (c9, 15, .inl (fun _ => 0)))] H := hP
  have hD : va_D A [(h0, .inr (1, [.int 0, .int 0, .ref q0, .ref q1, .ref q2, .ref q3, .ref q4, .ref q5, .ref q6, .int 0, .ref q7, .int 0, .ref q8, .int 0, .ref q9, .null, .null])), (q0, .inl (c0, 15, .inl (fun _ => 0))), (q1, .inl (c1, 15, .inl (fun _ => 0))), (q2, .inl (c2, 15, .inl (fun _ => 0))), (q3, .inl (c3, 15, .inl (fun _ => 0))), (q4, .inl (c4, 15, .inl (fun _ => 0))), (q5, .inl (c5, 150, .inl (fun _ => 0))), (q6, .inl (c6, 150, .inl (fun _ => 0))), (q7, .inl (c7, 10, .inl (fun _ => 0))), (q8, .inl (c8, 15, .inl (fun _ => 0))), (q9, .inl (c9, 15, .inl (fun _ => 0)))] := hD
  refine lv_aload_n hx hb ct_dM_86 rfl (lv_at hl 0 rfl) ?_
  refine lv_bipush (v := 15) hx hb ct_dM_87 (by decide) ?_
  refine va_newa (atype := .boolean) (ty := .boolean) (a0 := (15, .inl (fun _ => 0))) hx hb (hts _ (am_inw ct_aZ rfl)) rfl hK hP hD hS hA (fun cA => rfl) (by decide) rfl (by decide) (by show 10 + 1 ≤ 12; decide) (by show 415 + 15 ≤ 445; decide) ct_dM_89 (fun q10 c10 H hK hP hD hS => ?_)
  have hP : va_P D am_cl [(h0, .inr (1, [.int 0, .int 0, .ref q0, .ref q1, .ref q2, .ref q3, .ref q4, .ref q5, .ref q6, .int 0, .ref q7, .int 0, .ref q8, .int 0, .ref q9, .null, .null])), (q0, .inl (c0, 15, .inl (fun _ => 0))), (q1, .inl (c1, 15, .inl (fun _ => 0))), (q2, .inl (c2, 15, .inl (fun _ => 0))), (q3, .inl (c3, 15, .inl (fun _ => 0))), (q4, .inl (c4, 15, .inl (fun _ => 0))), (q5, .inl (c5, 150, .inl (fun _ => 0))), (q6, .inl (c6, 150, .inl (fun _ => 0))), (q7, .inl (c7, 10, .inl (fun _ => 0))), (q8, .inl (c8, 15, .inl (fun _ => 0))), (q9, .inl (c9, 15, .inl (fun _ => 0))), (q10, .inl (c10, 15, .inl (fun _ => 0)))] H := hP
  have hD : va_D A [(h0, .inr (1, [.int 0, .int 0, .ref q0, .ref q1, .ref q2, .ref q3, .ref q4, .ref q5, .ref q6, .int 0, .ref q7, .int 0, .ref q8, .int 0, .ref q9, .null, .null])), (q0, .inl (c0, 15, .inl (fun _ => 0))), (q1, .inl (c1, 15, .inl (fun _ => 0))), (q2, .inl (c2, 15, .inl (fun _ => 0))), (q3, .inl (c3, 15, .inl (fun _ => 0))), (q4, .inl (c4, 15, .inl (fun _ => 0))), (q5, .inl (c5, 150, .inl (fun _ => 0))), (q6, .inl (c6, 150, .inl (fun _ => 0))), (q7, .inl (c7, 10, .inl (fun _ => 0))), (q8, .inl (c8, 15, .inl (fun _ => 0))), (q9, .inl (c9, 15, .inl (fun _ => 0))), (q10, .inl (c10, 15, .inl (fun _ => 0)))] := hD
  refine W.widen (k := 11) (n := 430) (by decide) (by decide) ?_
  refine va_putF (D := D) (ci := 1) (v := .ref q10) (ty := am_cY 1 15) (C := am_cC 1) (T := am_cT 1) (N := am_nf 1) hx hb hts (am_fin (by decide)) (am_cY 1) (am_cY_ok0 1 (by decide)) (am_nm0 1 (by decide)) hown hK hP hD hS 0 rfl rfl 15 (by decide) (hts _ (am_flk_in (o := 1) (k := 15) (by decide) (by decide))) (fun _ h9 => h9) rfl hin rfl (am_cY_ok0 1 (by decide) 15 (by decide)) rfl rfl (Nat.le_of_ble_eq_true rfl) ct_dM_91 (fun H locs hP hD hS => ?_)
  have hP : va_P D am_cl [(h0, .inr (1, [.int 0, .int 0, .ref q0, .ref q1, .ref q2, .ref q3, .ref q4, .ref q5, .ref q6, .int 0, .ref q7, .int 0, .ref q8, .int 0, .ref q9, .ref q10, .null])), (q0, .inl (c0, 15, .inl (fun _ => 0))), (q1, .inl (c1, 15, .inl (fun _ => 0))), (q2, .inl (c2, 15, .inl (fun _ => 0))), (q3, .inl (c3, 15, .inl (fun _ => 0))), (q4, .inl (c4, 15, .inl (fun _ => 0))), (q5, .inl (c5, 150, .inl (fun _ => 0))), (q6, .inl (c6, 150, .inl (fun _ => 0))), (q7, .inl (c7, 10, .inl (fun _ => 0))), (q8, .inl (c8, 15, .inl (fun _ => 0))), (q9, .inl (c9, 15, .inl (fun _ => 0))), (q10, .inl (c10, 15, .inl (fun _ => 0)))] H := hP
  have hD : va_D A [(h0, .inr (1, [.int 0, .int 0, .ref q0, .ref q1, .ref q2, .ref q3, .ref q4, .ref q5, .ref q6, .int 0, .ref q7, .int 0, .ref q8, .int 0, .ref q9, .ref q10, .null])), (q0, .inl (c0, 15, .inl (fun _ => 0))), (q1, .inl (c1, 15, .inl (fun _ => 0))), (q2, .inl (c2, 15, .inl (fun _ => 0))), (q3, .inl (c3, 15, .inl (fun _ => 0))), (q4, .inl (c4, 15, .inl (fun _ => 0))), (q5, .inl (c5, 150, .inl (fun _ => 0))), (q6, .inl (c6, 150, .inl (fun _ => 0))), (q7, .inl (c7, 10, .inl (fun _ => 0))), (q8, .inl (c8, 15, .inl (fun _ => 0))), (q9, .inl (c9, 15, .inl (fun _ => 0))), (q10, .inl (c10, 15, .inl (fun _ => 0)))] := hD
  refine lv_aload_n hx hb ct_dM_94 rfl (lv_at hl 0 rfl) ?_
  refine lv_bipush (v := 15) hx hb ct_dM_95 (by decide) ?_
  refine va_newa (atype := .int) (ty := .int) (a0 := (15, .inl (fun _ => 0))) hx hb (hts _ (am_inw ct_aI rfl)) rfl hK hP hD hS hA (fun cA => rfl) (by decide) rfl (by decide) (by show 11 + 1 ≤ 12; decide) (by show 430 + 15 ≤ 445; decide) ct_dM_97 (fun q11 c11 H hK hP hD hS => ?_)
  have hP : va_P D am_cl [(h0, .inr (1, [.int 0, .int 0, .ref q0, .ref q1, .ref q2, .ref q3, .ref q4, .ref q5, .ref q6, .int 0, .ref q7, .int 0, .ref q8, .int 0, .ref q9, .ref q10, .null])), (q0, .inl (c0, 15, .inl (fun _ => 0))), (q1, .inl (c1, 15, .inl (fun _ => 0))), (q2, .inl (c2, 15, .inl (fun _ => 0))), (q3, .inl (c3, 15, .inl (fun _ => 0))), (q4, .inl (c4, 15, .inl (fun _ => 0))), (q5, .inl (c5, 150, .inl (fun _ => 0))), (q6, .inl (c6, 150, .inl (fun _ => 0))), (q7, .inl (c7, 10, .inl (fun _ => 0))), (q8, .inl (c8, 15, .inl (fun _ => 0))), (q9, .inl (c9, 15, .inl (fun _ => 0))), (q10, .inl (c10, 15, .inl (fun _ => 0))), (q11, .inl (c11, 15, .inl (fun _ => 0)))] H := hP
  have hD : va_D A [(h0, .inr (1, [.int 0, .int 0, .ref q0, .ref q1, .ref q2, .ref q3, .ref q4, .ref q5, .ref q6, .int 0, .ref q7, .int 0, .ref q8, .int 0, .ref q9, .ref q10, .null])), (q0, .inl (c0, 15, .inl (fun _ => 0))), (q1, .inl (c1, 15, .inl (fun _ => 0))), (q2, .inl (c2, 15, .inl (fun _ => 0))), (q3, .inl (c3, 15, .inl (fun _ => 0))), (q4, .inl (c4, 15, .inl (fun _ => 0))), (q5, .inl (c5, 150, .inl (fun _ => 0))), (q6, .inl (c6, 150, .inl (fun _ => 0))), (q7, .inl (c7, 10, .inl (fun _ => 0))), (q8, .inl (c8, 15, .inl (fun _ => 0))), (q9, .inl (c9, 15, .inl (fun _ => 0))), (q10, .inl (c10, 15, .inl (fun _ => 0))), (q11, .inl (c11, 15, .inl (fun _ => 0)))] := hD
  refine W.widen (k := 12) (n := 445) (by decide) (by decide) ?_
  refine va_putF (D := D) (ci := 1) (v := .ref q11) (ty := am_cY 1 16) (C := am_cC 1) (T := am_cT 1) (N := am_nf 1) hx hb hts (am_fin (by decide)) (am_cY 1) (am_cY_ok0 1 (by decide)) (am_nm0 1 (by decide)) hown hK hP hD hS 0 rfl rfl 16 (by decide) (hts _ (am_flk_in (o := 1) (k := 16) (by decide) (by decide))) (fun _ h9 => h9) rfl hin rfl (am_cY_ok0 1 (by decide) 16 (by decide)) rfl rfl (Nat.le_of_ble_eq_true rfl) ct_dM_99 (fun H locs hP hD hS => ?_)
  have hP : va_P D am_cl [(h0, .inr (1, [.int 0, .int 0, .ref q0, .ref q1, .ref q2, .ref q3, .ref q4, .ref q5, .ref q6, .int 0, .ref q7, .int 0, .ref q8, .int 0, .ref q9, .ref q10, .ref q11])), (q0, .inl (c0, 15, .inl (fun _ => 0))), (q1, .inl (c1, 15, .inl (fun _ => 0))), (q2, .inl (c2, 15, .inl (fun _ => 0))), (q3, .inl (c3, 15, .inl (fun _ => 0))), (q4, .inl (c4, 15, .inl (fun _ => 0))), (q5, .inl (c5, 150, .inl (fun _ => 0))), (q6, .inl (c6, 150, .inl (fun _ => 0))), (q7, .inl (c7, 10, .inl (fun _ => 0))), (q8, .inl (c8, 15, .inl (fun _ => 0))), (q9, .inl (c9, 15, .inl (fun _ => 0))), (q10, .inl (c10, 15, .inl (fun _ => 0))), (q11, .inl (c11, 15, .inl (fun _ => 0)))] H := hP
  have hD : va_D A [(h0, .inr (1, [.int 0, .int 0, .ref q0, .ref q1, .ref q2, .ref q3, .ref q4, .ref q5, .ref q6, .int 0, .ref q7, .int 0, .ref q8, .int 0, .ref q9, .ref q10, .ref q11])), (q0, .inl (c0, 15, .inl (fun _ => 0))), (q1, .inl (c1, 15, .inl (fun _ => 0))), (q2, .inl (c2, 15, .inl (fun _ => 0))), (q3, .inl (c3, 15, .inl (fun _ => 0))), (q4, .inl (c4, 15, .inl (fun _ => 0))), (q5, .inl (c5, 150, .inl (fun _ => 0))), (q6, .inl (c6, 150, .inl (fun _ => 0))), (q7, .inl (c7, 10, .inl (fun _ => 0))), (q8, .inl (c8, 15, .inl (fun _ => 0))), (q9, .inl (c9, 15, .inl (fun _ => 0))), (q10, .inl (c10, 15, .inl (fun _ => 0))), (q11, .inl (c11, 15, .inl (fun _ => 0)))] := hD
  have e2 : c0 = c2 := Option.some.inj (((hK.2 0 _ rfl).2 : s.vm.findClass _ = some c0).symm.trans (hK.2 2 _ rfl).2)
  have e3 : c0 = c3 := Option.some.inj (((hK.2 0 _ rfl).2 : s.vm.findClass _ = some c0).symm.trans (hK.2 3 _ rfl).2)
  have e4 : c1 = c4 := Option.some.inj (((hK.2 1 _ rfl).2 : s.vm.findClass _ = some c1).symm.trans (hK.2 4 _ rfl).2)
  have e5 : c0 = c5 := Option.some.inj (((hK.2 0 _ rfl).2 : s.vm.findClass _ = some c0).symm.trans (hK.2 5 _ rfl).2)
  have e6 : c0 = c6 := Option.some.inj (((hK.2 0 _ rfl).2 : s.vm.findClass _ = some c0).symm.trans (hK.2 6 _ rfl).2)
  have e7 : c0 = c7 := Option.some.inj (((hK.2 0 _ rfl).2 : s.vm.findClass _ = some c0).symm.trans (hK.2 7 _ rfl).2)
  have e8 : c0 = c8 := Option.some.inj (((hK.2 0 _ rfl).2 : s.vm.findClass _ = some c0).symm.trans (hK.2 8 _ rfl).2)
  have e9 : c1 = c9 := Option.some.inj (((hK.2 1 _ rfl).2 : s.vm.findClass _ = some c1).symm.trans (hK.2 9 _ rfl).2)
  have e10 : c1 = c10 := Option.some.inj (((hK.2 1 _ rfl).2 : s.vm.findClass _ = some c1).symm.trans (hK.2 10 _ rfl).2)
  have e11 : c0 = c11 := Option.some.inj (((hK.2 0 _ rfl).2 : s.vm.findClass _ = some c0).symm.trans (hK.2 11 _ rfl).2)
  subst e2
  subst e3
  subst e4
  subst e5
  subst e6
  subst e7
  subst e8
  subst e9
  subst e10
  subst e11
  refine W.widen (k := 12) (n := 445) (by decide) (by decide) ?_
  refine W.vret hx hb hr (fun t ht hW => ⟨⟨((fun k => ([0, h0, 0, 0, 0, 0, 0, 0, 0, 0, 0, 0, 0, 0, q0, q1, q2, q3, q4, q5, q6, q7, q8, q9, q10, q11, 0] : List Nat).getD k 0), (fun k => if k = 0 then c0 else c1)), rfl, trivial, rfl, by rw [ht]; exact hP, va_K.moved hW.alike (hK.sub [0, 1] rfl), hD⟩, hS.F ht⟩) hS.2.2 ct_dM_102
end
section
/-! THE CLAIM OUT OF ONE WALK OF THE LAW'S BODY. Your part is whole_start (and what it stands on); all else here is the same for every law, but numbers. -/
def R_law : String := "SlidingHeapLaw"
def lw_P (b : Addr) (xs : List Int32) (args : Array Value) (s : State) : Prop := args = #[.ref b] ∧ s.IntsAt b xs ∧ xs.length ≤ 2560 ∧ (Jvm.Cond.and given_1 narrow_1).before args s = true
def lw_Q (_ : Array Value) (s : State) (o : Outcome) (t : State) : Prop := o = .returned (some (.int 1)) ∧ Framed s o t [] 1062 9061
def lw_Z (below : List Frame) (a : Array Value) (s : State) : State → Prop := fun t => ∃ o, t.status = .running ∧ Ended t below o ∧ lw_Q a s o t
/-- the law's own end, with 1 on the stack, nothing written that was there before, its room as the claim has it -/
theorem lw_ret {p : Program} {l : Launch} {e : Env} {s : State} {m : MethodId} {below : List Frame} {meth : Method} {c : Code} {b : Nat} (hx : p.tables.exec = Jvm.exec) (hb : c.code = code) (hr : meth.sig.returnType = ret) (hlocks : meth.locks = false) {pc : Nat} {H : Heap} {ls : Array Slot} (hdg : decode code pc = .ok (.ireturn, 1)) : W p l e room_1 s m #[Value.ref b] below meth c H [] 1062 9061 (lw_Z below #[Value.ref b] s) (F0 m pc ls [.int 1]) := by
  intro T hT X
  obtain ⟨fs, hret, hrun, hended, hW, hframe⟩ := X.leave (v := some (.int 1)) (hlocks := hlocks) (fun h => by rw [hr] at h; cases h)
  have hmeth' : T.vm.method? m = some meth := X.method'
  refine ⟨T.setFrames fs, ?_, .returned (some (.int 1)), hrun, hended, rfl, ⟨_, rfl⟩, hW, hframe⟩
  jvm_step X.here [X.here.top, hx, hb, hdg, hmeth', hr, ret, narrow_b1]
  (try refine ⟨rfl, ?_⟩); (try refine ⟨rfl, ?_⟩)
  first | (intro acts; rw [hret _ acts rfl rfl rfl]) | rw [hret _ _ rfl rfl rfl]
  exact Steps.refl _
/-- what holds at the law's entry: the machine, the code, the tables' words (any of lw_tbl by 'hts w (by decide +kernel)'), the script of L ints xs at the cell b, what the Statement gives of the start (any of its parts by flat_of_before) -/
def lw_At (p : Program) (s : State) (m : MethodId) (meth : Method) (c : Code) (b L : Nat) (xs : Nat → Int32) : Prop :=
  p.tables.exec = Jvm.exec ∧ c.code = code ∧ meth.sig.returnType = ret ∧ c.maxLocals = 7 ∧ s.vm.findClass R_law = some m.cls ∧ (∀ w ∈ lw_tbl, w.before #[Value.ref b] s = true) ∧ va_X b L xs s s.heap ∧ b < s.heap.size ∧ meth.locks = false ∧ (Jvm.Cond.and given_1 narrow_1).before #[Value.ref b] s = true

theorem st_d_0 : decode code 0 = .ok (.new 8, 3) := by decide +kernel
theorem st_d_3 : decode code 3 = .ok (.dup, 1) := by decide +kernel
theorem st_d_4 : decode code 4 = .ok (.invokespecial 62, 3) := by decide +kernel
theorem st_d_7 : decode code 7 = .ok (.astore_n 1, 1) := by decide +kernel
theorem st_d_8 : decode code 8 = .ok (.new 63, 3) := by decide +kernel
theorem st_d_11 : decode code 11 = .ok (.dup, 1) := by decide +kernel
theorem st_d_12 : decode code 12 = .ok (.invokespecial 65, 3) := by decide +kernel
theorem st_d_15 : decode code 15 = .ok (.astore_n 2, 1) := by decide +kernel
theorem st_d_16 : decode code 16 = .ok (.iconst 1, 1) := by decide +kernel
theorem st_d_17 : decode code 17 = .ok (.newarray .long, 2) := by decide +kernel
theorem st_d_19 : decode code 19 = .ok (.astore_n 3, 1) := by decide +kernel
theorem st_w0 : ∀ w ∈ ([.classLink (am_cC 2) 8 (am_cC 0), .instantiable (am_cC 0) 18, .initialized (am_cC 0), .methodLink (am_cC 2) 62 ct_yX, .instanceMethod ct_yX, .code ct_yX prog_1_method_1_code 1 none, .classLink (am_cC 2) 63 (am_cC 1), .instantiable (am_cC 1) 17, .initialized (am_cC 1), .methodLink (am_cC 2) 65 ct_yM, .instanceMethod ct_yM, .code ct_yM prog_3_method_1_code 1 none] : List Cond), w ∈ lw_tbl ∧ goodWord w = true := by decide +kernel
theorem st_gX : GoodIn am_ws ct_wX := am_gin (fun w hw => by
  rcases List.mem_cons.mp hw with rfl | hw
  · exact am_inw (st_w0 _ (by simp)).1 rfl
  · exact hw)
theorem st_gM : GoodIn am_ws ct_wM := am_gin (fun w hw => by
  rcases List.mem_cons.mp hw with rfl | hw
  · exact am_inw (st_w0 _ (by simp)).1 rfl
  · exact hw)
theorem st_zs : Cond.laysStatic Bundle.tN "UNASSIGNED_STACK" Bundle.steD ∈ lw_tbl ∧ Cond.laysStatic Bundle.tN "SUPPRESSED_SENTINEL" Bundle.listD ∈ lw_tbl ∧ Cond.initialized Bundle.tN ∈ lw_tbl := by decide +kernel
theorem st_nf : Cond.isRef (.static Bundle.tN "UNASSIGNED_STACK" Bundle.steD) ∈ flatC (Jvm.Cond.and given_1 narrow_1) ∧ Cond.isRef (.static Bundle.tN "SUPPRESSED_SENTINEL" Bundle.listD) ∈ flatC (Jvm.Cond.and given_1 narrow_1) := by decide +kernel
theorem st_nc : ∀ q ∈ am_nc, Cond.not (.castable q.1 q.2) ∈ flatC (Jvm.Cond.and given_1 narrow_1) := by decide +kernel
-- the cells of the world by where they were made
def st_pos (k : Nat) : Nat := if k = 0 then 0 else if k = 1 then 13 else if k < 14 then k - 1 else k
def st_a (a1 a2 : Nat → Nat) (q b : Nat) : Nat → Nat := fun k => if k = 0 then a1 0 else if k = 1 then a2 1 else if k < 14 then a1 k else if k < 26 then a2 k else if k = 26 then q else b
def st_cs (cs1 : Nat → ClassId) (c3 : ClassId) : Nat → ClassId := fun k => if k = 2 then c3 else cs1 k
theorem st_fl0 : ∀ k, k < 18 → am_fl 0 k < 30 → 2 ≤ am_fl 0 k ∧ am_fl 0 k < 14 := by decide +kernel
theorem st_fl1 : ∀ k, k < 17 → am_fl 1 k < 30 → 14 ≤ am_fl 1 k ∧ am_fl 1 k < 26 := by decide +kernel
theorem st_at : ∀ j, j < 26 → 2 ≤ j → am_at j < 2 := by decide +kernel
theorem st_cellX {a a1 : Nat → Nat} {cs cs1 : Nat → ClassId} {σ : St} (ha : ∀ k, k = 0 ∨ 2 ≤ k ∧ k < 14 → a k = a1 k) (hc : ∀ k, k < 2 → cs k = cs1 k) {j : Nat} (hj : j = 0 ∨ 2 ≤ j ∧ j < 14) : am_cell a1 cs1 σ j = am_cell a cs σ j := by
  unfold am_cell
  rw [ha j hj]
  rcases hj with rfl | ⟨h1, h2⟩
  · rw [if_pos (by decide), if_pos (by decide)]
    congr 3
    refine List.map_congr_left (fun k hk => ?_)
    have hk : k < 18 := List.mem_range.mp hk
    unfold am_fv
    by_cases hf : am_fl 0 k < 30
    · rw [if_pos hf, if_pos hf, ha _ (Or.inr (st_fl0 k hk hf))]
    · rw [if_neg hf, if_neg hf]
  · rw [if_neg (show ¬ j < 2 by omega), if_neg (show ¬ j < 2 by omega), hc _ (st_at j (by omega) h1)]
theorem st_cellM {a a1 : Nat → Nat} {cs cs1 : Nat → ClassId} {σ : St} (ha : ∀ k, k = 1 ∨ 14 ≤ k ∧ k < 26 → a k = a1 k) (hc : ∀ k, k < 2 → cs k = cs1 k) {j : Nat} (hj : j = 1 ∨ 14 ≤ j ∧ j < 26) : am_cell a1 cs1 σ j = am_cell a cs σ j := by
  unfold am_cell
  rw [ha j hj]
  rcases hj with rfl | ⟨h1, h2⟩
  · rw [if_pos (by decide), if_pos (by decide)]
    congr 3
    refine List.map_congr_left (fun k hk => ?_)
    have hk : k < 17 := List.mem_range.mp hk
    unfold am_fv
    by_cases hf : am_fl 1 k < 30
    · rw [if_pos hf, if_pos hf, ha _ (Or.inr (st_fl1 k hk hf))]
    · rw [if_neg hf, if_neg hf]
  · rw [if_neg (show ¬ j < 2 by omega), if_neg (show ¬ j < 2 by omega), hc _ (st_at j (by omega) (by omega))]
theorem st_world {a1 a2 : Nat → Nat} {cs1 cs2 : Nat → ClassId} {q b : Nat} {c3 : ClassId} (h0 : cs2 0 = cs1 0) (h1 : cs2 1 = cs1 1) : ∀ k, k < 27 → (ct_WX a1 cs1 ++ ct_WM a2 cs2 ++ [(q, .inl (c3, 1, .inr (.inl (fun _ => 0))))])[st_pos k]? = some (am_cell (st_a a1 a2 q b) (st_cs cs1 c3) am_st0 k) := by
  intro k hk
  have hcX : ∀ k, k < 2 → st_cs cs1 c3 k = cs1 k := fun k hk => if_neg (by omega)
  have hcM : ∀ k, k < 2 → st_cs cs1 c3 k = cs2 k := fun k hk => by
    rw [hcX k hk]
    rcases (show k = 0 ∨ k = 1 by omega) with rfl | rfl
    · exact h0.symm
    · exact h1.symm
  have haX : ∀ k, k = 0 ∨ 2 ≤ k ∧ k < 14 → st_a a1 a2 q b k = a1 k := fun k hk => by
    unfold st_a
    rcases hk with rfl | ⟨h1, h2⟩
    · rw [if_pos rfl]
    · rw [if_neg (by omega), if_neg (by omega), if_pos h2]
  have haM : ∀ k, k = 1 ∨ 14 ≤ k ∧ k < 26 → st_a a1 a2 q b k = a2 k := fun k hk => by
    unfold st_a
    rcases hk with rfl | ⟨h1, h2⟩
    · rw [if_neg (by decide), if_pos rfl]
    · rw [if_neg (by omega), if_neg (by omega), if_neg (by omega), if_pos h2]
  by_cases hX : k = 0 ∨ 2 ≤ k ∧ k < 14
  · rw [← st_cellX haX hcX hX]
    rcases (show k = 0 ∨ k = 2 ∨ k = 3 ∨ k = 4 ∨ k = 5 ∨ k = 6 ∨ k = 7 ∨ k = 8 ∨ k = 9 ∨ k = 10 ∨ k = 11 ∨ k = 12 ∨ k = 13 by omega) with rfl | rfl | rfl | rfl | rfl | rfl | rfl | rfl | rfl | rfl | rfl | rfl | rfl <;> rfl
  · by_cases hM : k = 1 ∨ 14 ≤ k ∧ k < 26
    · rw [← st_cellM haM hcM hM]
      rcases (show k = 1 ∨ k = 14 ∨ k = 15 ∨ k = 16 ∨ k = 17 ∨ k = 18 ∨ k = 19 ∨ k = 20 ∨ k = 21 ∨ k = 22 ∨ k = 23 ∨ k = 24 ∨ k = 25 by omega) with rfl | rfl | rfl | rfl | rfl | rfl | rfl | rfl | rfl | rfl | rfl | rfl | rfl <;> rfl
    · have : k = 26 := by omega
      subst this
      rfl
theorem st_pos_inj {i j : Nat} (hi : i < 27) (hj : j < 27) (h : st_pos i = st_pos j) : i = j := by
  unfold st_pos at h
  by_cases h1 : i = 0
  · by_cases h2 : j = 0
    · omega
    · rw [if_pos h1, if_neg h2] at h
      by_cases h3 : j = 1
      · rw [if_pos h3] at h; omega
      · rw [if_neg h3] at h
        by_cases h4 : j < 14
        · rw [if_pos h4] at h; omega
        · rw [if_neg h4] at h; omega
  · rw [if_neg h1] at h
    by_cases h2 : j = 0
    · rw [if_pos h2] at h
      by_cases h3 : i = 1
      · rw [if_pos h3] at h; omega
      · rw [if_neg h3] at h
        by_cases h4 : i < 14
        · rw [if_pos h4] at h; omega
        · rw [if_neg h4] at h; omega
    · rw [if_neg h2] at h
      by_cases h3 : i = 1
      · rw [if_pos h3] at h
        by_cases h5 : j = 1
        · omega
        · rw [if_neg h5] at h
          by_cases h4 : j < 14
          · rw [if_pos h4] at h; omega
          · rw [if_neg h4] at h; omega
      · rw [if_neg h3] at h
        by_cases h5 : j = 1
        · rw [if_pos h5] at h
          by_cases h4 : i < 14
          · rw [if_pos h4] at h; omega
          · rw [if_neg h4] at h; omega
        · rw [if_neg h5] at h
          by_cases h4 : i < 14
          · rw [if_pos h4] at h
            by_cases h6 : j < 14
            · rw [if_pos h6] at h; omega
            · rw [if_neg h6] at h; omega
          · rw [if_neg h4] at h
            by_cases h6 : j < 14
            · rw [if_pos h6] at h; omega
            · rw [if_neg h6] at h; omega
/-- the pure claim: the law's loop, from the fresh objects, answers 1, and makes at most 1000 exceptions -/
def st_pure : Prop := ∀ (sc : Int → Int) (L : Nat), L ≤ 2560 → (∀ j, am_R (sc j)) → sc (-1) = (L : Int) →
  am_wp sc am_law 20 [.inr (.inl 28), .inr (.inl 0), .inr (.inl 1), .inr (.inl 26), .inr (.inr 0), .inr (.inr 0), .inr (.inr 0)] [] am_st0 (fun o _ t => o = .inl (some 1) ∧ t ≤ 1000)
set_option maxHeartbeats 8000000 in
set_option maxRecDepth 100000 in
theorem st_start (hpure : st_pure) {p : Program} {e : Env} {s : State} {m : MethodId} {below : List Frame} {meth : Method} {c : Code} (l : Launch) (htr : l.stackTraces = false) (htab : c.exceptionTable.toList = []) {b L : Nat} {xs : Nat → Int32} (hL : L ≤ 2560) (C0 : lw_At p s m meth c b L xs) : W p l e room_1 s m #[Value.ref b] below meth c s.heap [] 0 0 (lw_Z below #[Value.ref b] s) (entryFrame m ([Value.ref b] : List Value).toArray 7) := by
  obtain ⟨hx, hb, hr, hml, hown0, htl, hX, hbl, hlocks, hgv⟩ := C0
  have hown : s.vm.findClass (am_cC 2) = some m.cls := hown0
  have hts : ∀ w ∈ am_ws, w.before #[Value.ref b] s = true := fun w hw => htl w (List.mem_filter.mp hw).1
  have hflat := flat_of_before _ hgv
  obtain ⟨cX, iX, kX⟩ := u_known (C := am_cC 0) (T := am_cT 0) (N := am_nf 0) hts (am_fin (by decide)) (hts _ (am_inw (st_w0 (.instantiable (am_cC 0) 18) (by simp)).1 rfl))
  obtain ⟨cM, iM, kM⟩ := u_known (C := am_cC 1) (T := am_cT 1) (N := am_nf 1) hts (am_fin (by decide)) (hts _ (am_inw (st_w0 (.instantiable (am_cC 1) 17) (by simp)).1 rfl))
  obtain ⟨D, hD1⟩ : ∃ D : va_G, D = ((fun o => if o = 0 then cX else cM), (fun o => if o = 0 then iX else iM)) := ⟨_, rfl⟩
  have hK : va_K D am_cl [] s := by
    refine ⟨fun o q hq => ?_, fun k q hk => by cases hk⟩
    match o, hq with
    | 0, hq => cases hq; rw [hD1]; exact kX
    | 1, hq => cases hq; rw [hD1]; exact kM
    | n + 2, hq => cases hq
  clear hD1 kX kM
  obtain ⟨A, hAe⟩ : ∃ A : Nat → Prop, A = fun q => s.heap.size ≤ q := ⟨_, rfl⟩
  have hA : ∀ q : Nat, s.heap.size ≤ q → A q := fun q h => by rw [hAe]; exact h
  have hS : va_S A s.heap s.heap [] := va_S.rf
  have hP : va_P D am_cl [] s.heap := fun k q hk => by cases hk
  have hD : va_D A [] := ⟨fun i j p q hi _ _ => (by cases hi), fun k q hk => (by cases hk)⟩
  have hl := lv_entry ([.ref b]) (n := 7) (Nat.le_of_ble_eq_true rfl)
  rw [lg_entry_eq]
  generalize (lg_sl ([.ref b]) ++ List.replicate (7 - (lg_sl ([.ref b])).length) Slot.unset).toArray = ls at hl ⊢
  have hl : lv_has ls 7 [(0, .ref b)] := hl
  -- new SlidingHeap()
  refine va_new (ci := 0) (fs := [.null, .null, .int 0, .null, .null, .null, .null, .null, .int 0, .null, .int 0, .null, .int 0, .int 0, .null, .null, .int 0, .null]) (C := am_cC 0) (T := am_cT 0) (N := am_nf 0) hx hb hts (am_fin (by decide)) (am_cY 0) (am_cY_ok0 0 (by decide)) hown (hts _ (am_inw (st_w0 (.classLink (am_cC 2) 8 (am_cC 0)) (by simp)).1 rfl)) (hts _ (am_inw (st_w0 (.instantiable (am_cC 0) 18) (by simp)).1 rfl)) (hts _ (am_inw (st_w0 (.initialized (am_cC 0)) (by simp)).1 rfl)) hK hP hD hS hA rfl (by decide +kernel) (by decide) (by decide) st_d_0 (fun qx H hP hD hS => ?_)
  refine W.widen (k := 1) (n := 18) (by decide) (by decide) ?_
  refine lv_dup hx hb st_d_3 rfl ?_
  have hFc := va_free (wc := [(qx, .inr (0, [.null, .null, .int 0, .null, .null, .null, .null, .null, .int 0, .null, .int 0, .null, .int 0, .int 0, .null, .null, .int 0, .null]))]) hD hS hA [0] rfl
  refine va_callv (va_runI (As := []) (rest := [.ref qx]) ⟨hx, hb, hml, hown, hts⟩ (ct_X l D qx H.size) (cwI 0 hts st_gX rfl rfl rfl (hts _ (am_inw (st_w0 (.initialized (am_cC 0)) (by simp)).1 rfl)) (hts _ (am_inw (st_w0 (.methodLink (am_cC 2) 62 ct_yX) (by simp)).1 rfl)) (hts _ (am_inw (st_w0 (.instanceMethod ct_yX) (by simp)).1 rfl)) rfl (by decide +kernel) ⟨by decide, by decide⟩) ⟨fun a U g mk q => by obtain ⟨q0, q1, qP, qK, qD⟩ := q; exact ⟨q0, q1, qP, va_K.moved (u := U) (U := U.calling g mk a) (Vm.Alike.refl U.vm) qK, qD⟩, fun U hU hW => ⟨rfl, by rw [hU], by rw [hU]; exact hP, va_K.moved hW.alike hK, hD.weaken (fun _ _ _ _ => trivial)⟩⟩ rfl rfl hl.1 rfl (lv_room (Nat.le_of_ble_eq_true rfl)) st_d_4 ⟨by decide, by decide⟩) hS (fun q _ h => hFc q h) hFc (fun u t H1 locs ht hvm hw hB hz1 hk1 hS => ?_)
  obtain ⟨a1, cs1⟩ := u
  obtain ⟨ha1, hP1, hK1, hD1⟩ := hB
  dsimp only at ha1 hP1 hK1 hD1
  rw [ht] at hP1
  have hK1 := va_K.moved hvm.symm hK1
  obtain ⟨hP, hD⟩ := va_join (wr := []) (w1 := ct_WX a1 cs1) hP hD [0] [] rfl rfl (by decide) (by decide) hk1 hFc hP1 hD1
  generalize H1 = H at hP hS ⊢
  have hP : va_P D am_cl (ct_WX a1 cs1) H := hP
  have hD : va_D A (ct_WX a1 cs1) := hD
  refine W.widen (k := 13) (n := 340) (by decide) (by decide) ?_
  refine lv_astore_n hx hb st_d_7 rfl hl (by decide) rfl (fun ls hl => ?_)
  -- new SlidingHeapModel()
  refine va_new (ci := 1) (fs := [.int 0, .int 0, .null, .null, .null, .null, .null, .null, .null, .int 0, .null, .int 0, .null, .int 0, .null, .null, .null]) (C := am_cC 1) (T := am_cT 1) (N := am_nf 1) hx hb hts (am_fin (by decide)) (am_cY 1) (am_cY_ok0 1 (by decide)) hown (hts _ (am_inw (st_w0 (.classLink (am_cC 2) 63 (am_cC 1)) (by simp)).1 rfl)) (hts _ (am_inw (st_w0 (.instantiable (am_cC 1) 17) (by simp)).1 rfl)) (hts _ (am_inw (st_w0 (.initialized (am_cC 1)) (by simp)).1 rfl)) hK hP hD hS hA rfl (by decide +kernel) (by decide) (by decide) st_d_8 (fun qm H hP hD hS => ?_)
  refine W.widen (k := 14) (n := 357) (by decide) (by decide) ?_
  refine lv_dup hx hb st_d_11 rfl ?_
  have hPc := hP.sub (ws' := [(qm, .inr (1, [.int 0, .int 0, .null, .null, .null, .null, .null, .null, .null, .int 0, .null, .int 0, .null, .int 0, .null, .null, .null]))]) [13] rfl
  have hDc := hD.sub (ws' := [(qm, .inr (1, [.int 0, .int 0, .null, .null, .null, .null, .null, .null, .null, .int 0, .null, .int 0, .null, .int 0, .null, .null, .null]))]) [13] (by decide) rfl
  have hFc := va_free (wc := [(qm, .inr (1, [.int 0, .int 0, .null, .null, .null, .null, .null, .null, .null, .int 0, .null, .int 0, .null, .int 0, .null, .null, .null]))]) hD hS hA [13] rfl
  refine va_callv (va_runI (As := []) (rest := [.ref qm]) ⟨hx, hb, hml, hown, hts⟩ (ct_M l D qm H.size) (cwI 0 hts st_gM rfl rfl rfl (hts _ (am_inw (st_w0 (.initialized (am_cC 1)) (by simp)).1 rfl)) (hts _ (am_inw (st_w0 (.methodLink (am_cC 2) 65 ct_yM) (by simp)).1 rfl)) (hts _ (am_inw (st_w0 (.instanceMethod ct_yM) (by simp)).1 rfl)) rfl (by decide +kernel) ⟨by decide, by decide⟩) ⟨fun a U g mk q => by obtain ⟨q0, q1, qP, qK, qD⟩ := q; exact ⟨q0, q1, qP, va_K.moved (u := U) (U := U.calling g mk a) (Vm.Alike.refl U.vm) qK, qD⟩, fun U hU hW => ⟨rfl, by rw [hU], by rw [hU]; exact hPc, va_K.moved hW.alike hK, hDc.weaken (fun _ _ _ _ => trivial)⟩⟩ rfl rfl hl.1 rfl (lv_room (Nat.le_of_ble_eq_true rfl)) st_d_12 ⟨by decide, by decide⟩) hS (fun q _ h => hFc q h) hFc (fun u t H1 locs ht hvm hw hB hz1 hk1 hS => ?_)
  obtain ⟨a2, cs2⟩ := u
  obtain ⟨ha2, hP2, hK2, hD2⟩ := hB
  dsimp only at ha2 hP2 hK2 hD2
  rw [ht] at hP2
  have hK2 := va_K.moved hvm.symm hK2
  obtain ⟨hP, hD⟩ := va_join (wr := ct_WX a1 cs1) (w1 := ct_WM a2 cs2) hP hD [13] [0, 1, 2, 3, 4, 5, 6, 7, 8, 9, 10, 11, 12] rfl rfl (by decide) (by decide) hk1 hFc hP2 hD2
  generalize H1 = H at hP hS ⊢
  refine W.widen (k := 26) (n := 802) (by decide) (by decide) ?_
  refine lv_astore_n hx hb st_d_15 rfl hl (by decide) rfl (fun ls hl => ?_)
  refine lv_iconst (v := 1) hx hb st_d_16 (by decide) ?_
  refine va_newa (atype := .long) (ty := .long) (a0 := (1, .inr (.inl (fun _ => 0)))) hx hb (hts _ (am_inw ct_aL rfl)) rfl hK hP hD hS hA (fun cA => rfl) (by decide) rfl (by decide) (by decide) (by decide) st_d_17 (fun qo c3 H hK3 hP hD hS => ?_)
  refine W.widen (k := 27) (n := 803) (by decide) (by decide) ?_
  refine lv_astore_n hx hb st_d_19 rfl hl (by decide) rfl (fun ls hl => ?_)
  -- the world, in order
  have e0 : cs2 0 = cs1 0 := Option.some.inj (((hK2.2 0 _ rfl).2 : s.vm.findClass _ = some (cs2 0)).symm.trans (hK1.2 0 _ rfl).2)
  have e1 : cs2 1 = cs1 1 := Option.some.inj (((hK2.2 1 _ rfl).2 : s.vm.findClass _ = some (cs2 1)).symm.trans (hK1.2 1 _ rfl).2)
  have hwd := st_world (a1 := a1) (a2 := a2) (q := qo) (b := b) (c3 := c3) e0 e1
  obtain ⟨a, hae⟩ : ∃ a, a = st_a a1 a2 qo b := ⟨_, rfl⟩
  obtain ⟨cs, hce⟩ : ∃ cs, cs = st_cs cs1 c3 := ⟨_, rfl⟩
  rw [← hae, ← hce] at hwd
  have ha0 : a 0 = qx := by rw [hae]; exact ha1
  have ham : a 1 = qm := by rw [hae]; exact ha2
  have hao : a 26 = qo := by rw [hae]; rfl
  have hab : a 28 = b := by rw [hae]; rfl
  have hPw : va_P D am_cl (am_wd a cs am_st0) H := by
    intro k q hk
    by_cases h27 : k < 27
    · rw [am_wd_at h27] at hk
      cases hk
      exact hP _ _ (hwd k h27)
    · rw [List.getElem?_eq_none (by rw [am_wd_len]; omega)] at hk
      cases hk
  have hge : ∀ k, k < 27 → s.heap.size ≤ a k := fun k hk => by
    have h9 := hD.2 _ _ (hwd k hk)
    rw [hAe] at h9
    exact h9
  have hinj : ∀ i j, i < 27 → j < 27 → a i = a j → i = j := fun i j hi hj he => st_pos_inj hi hj (hD.1 _ _ _ _ (hwd i hi) (hwd j hj) he)
  have hAq : ∀ q, am_A a s.heap.size q → s.heap.size ≤ q := fun q hq => by
    rcases hq with ⟨k, hk, rfl⟩ | hq
    · exact hge k hk
    · exact hq
  have hKw : va_K D am_cl (am_ty cs) s := by
    refine ⟨hK.1, fun k q hk => ?_⟩
    match k, hk with
    | 0, hk => cases hk; rw [hce]; exact hK1.2 0 _ rfl
    | 1, hk => cases hk; rw [hce]; exact hK1.2 1 _ rfl
    | 2, hk => cases hk; rw [hce]; exact hK3.2 0 _ rfl
    | n + 3, hk => cases hk
  have hIn : am_In D cs a s am_st0 H locs := ⟨hPw, hS.1, fun q h1 h2 => hS.2.1 q h1 (by rw [hAe]; intro h3; omega), fun z hz => Or.inr (by have h9 := hS.2.2 z hz; rw [hAe] at h9; exact h9)⟩
  have hhl : am_hl a ls (am_nl am_law) [.inr (.inl 28), .inr (.inl 0), .inr (.inl 1), .inr (.inl 26), .inr (.inr 0), .inr (.inr 0), .inr (.inr 0)] := by
    refine ⟨hl.1, rfl, hl.2.1, fun i v hv ho => ?_⟩
    match i, hv with
    | 0, hv => cases hv; show _ = some (Slot.val (Value.ref (a 28))); rw [hab]; exact lv_at hl 3 rfl
    | 1, hv => cases hv; show _ = some (Slot.val (Value.ref (a 0))); rw [ha0]; exact lv_at hl 2 rfl
    | 2, hv => cases hv; show _ = some (Slot.val (Value.ref (a 1))); rw [ham]; exact lv_at hl 1 rfl
    | 3, hv => cases hv; show _ = some (Slot.val (Value.ref (a 26))); rw [hao]; exact lv_at hl 0 rfl
    | 4, hv => cases hv; cases ho
    | 5, hv => cases hv; cases ho
    | 6, hv => cases hv; cases ho
    | n + 7, hv => cases hv
  -- the script
  obtain ⟨sc, hsce⟩ : ∃ sc : Int → Int, sc = fun j => if j = -1 then (L : Int) else (xs j.toNat).toInt := ⟨_, rfl⟩
  have hsc1 : sc (-1) = (L : Int) := by rw [hsce]; rfl
  have hsc : ∀ j, am_R (sc j) := fun j => by
    rw [hsce]
    dsimp only
    by_cases hj : j = -1
    · rw [if_pos hj]; exact ⟨by omega, by omega⟩
    · rw [if_neg hj]
      have h1 := (xs j.toNat).toInt_lt
      have h2 := (xs j.toNat).le_toInt
      exact ⟨by omega, by omega⟩
  have hscx : ∀ j : Nat, j < L → xs j = Int32.ofInt (sc j) := fun j hj => by
    rw [hsce]
    dsimp only
    rw [if_neg (by omega), Int.toNat_natCast, Int32.ofInt_toInt]
  have hZ : am_Zs (am_A a s.heap.size) s s.heap := ⟨vx_Zqof (htl _ st_zs.1) (htl _ st_zs.2.2) (hflat _ st_nf.1) (fun q hq h9 => by have := hAq q h9; omega), vx_Zqof (htl _ st_zs.2.1) (htl _ st_zs.2.2) (hflat _ st_nf.2) (fun q hq h9 => by have := hAq q h9; omega)⟩
  have hN : am_Ncs s := ⟨fun q hq => va_Nc.of (hflat _ (st_nc q hq)), fun w hw => va_Nw.of (am_xw_ot w hw) (htl w (am_xw_in w hw))⟩
  have hCx : am_Cx sc D cs a p l room_1 s m #[Value.ref b] meth c am_law := ⟨⟨hx, hb, hml, hown, hts⟩, ⟨hKw, hinj⟩, ⟨by decide, by decide⟩, ⟨hlocks, hr, htab⟩, ⟨htr, hZ, hN⟩, fun _ => ⟨L, xs, by rw [hab]; exact hX, by rw [hab]; exact hbl, by rw [hab]; intro h9; have := hAq b h9; omega, hsc1, hscx⟩⟩
  obtain ⟨n, o, σr, t, hrun, ho, ht9⟩ := hpure sc L hL hsc hsc1
  refine (am_PA hsc n am_law 20 _ [] am_st0 o σr t hrun (fun v hv => ?_) (fun v hv => nomatch hv) (fun k j => ?_)).2 D cs a p l e room_1 s m #[Value.ref b] below meth c (lw_Z below #[Value.ref b] s) 1062 9061 hCx (by decide) (by decide) ⟨?_, ?_, ?_⟩ H locs 27 803 ls (by omega) (by omega) hIn hhl
  · simp only [List.mem_cons, List.not_mem_nil, or_false] at hv
    rcases hv with rfl | rfl | rfl | rfl | rfl | rfl | rfl
    · trivial
    · trivial
    · trivial
    · trivial
    · exact am_R0
    · exact am_R0
    · exact am_R0
  · unfold am_st0
    by_cases h4 : k = 4
    · rw [if_pos h4]; exact ⟨by decide, by decide⟩
    · rw [if_neg h4]; exact am_R0
  · intro v op pc x k ts H2 locs2 cells slots ls2 ho2 hlk hop hI2 hc2 hs2
    rw [ho] at ho2
    cases ho2
    obtain ⟨hd, hck⟩ := am_okc hlk
    have hd2 : decode code pc = .ok (.ireturn, 1) := by
      rcases hop with ⟨rfl, -⟩ | ⟨rfl, -⟩ | ⟨-, h9⟩
      · exact hd
      · exact hd
      · cases h9
    refine va_forget (fun q hq => hAq _ (hI2.2.2.2 q hq)) (W.widen hc2 hs2 ?_)
    exact lw_ret hx hb hr hlocks hd2
  · intro i pc x ts H2 locs2 cells slots ls2 ho2
    rw [ho] at ho2
    cases ho2
  · intro i pc rest H2 locs2 cells slots ls2 q ce ho2
    rw [ho] at ho2
    cases ho2
end
section
set_option maxHeartbeats 4000000 in
theorem lw_walk (hpure : st_pure) (l : Launch) (htr : l.stackTraces = false) (b : Addr) (xs : List Int32) : MetFree l x (headSpec (Jvm.Cond.code x code maxLocals ret :: tables_1) room_1) (lw_P b xs) (fun _ _ _ _ _ => True) lw_Q := by
  refine MetFree.of_bodyS (code := code) (maxLocals := maxLocals) (ret := ret) (by decide) ?_ ?_
  · intro args s m h hn
    obtain ⟨meth, c, h1, h2, h3, h4, h5, h6, -, -⟩ := Cond.code_spec hn (atoms_spec (ws := Jvm.Cond.code x code maxLocals ret :: tables_1) h _ List.mem_cons_self)
    exact ⟨meth, c, h1, h2, h3, h4, h5, h6⟩
  · intro p e s m args below meth c s₁ B hml0 hP _
    obtain ⟨rfl, hx, hbd, hgv⟩ := hP
    obtain ⟨scr, harrAt, hlist, hof, hsmall⟩ := hx
    obtain ⟨hcb, hkn, -, -⟩ := State.arrayAt?_spec harrAt
    have hown : s.vm.findClass R_law = some m.cls := findClass_of_methodNamed B.named
    have hts0 : ∀ c ∈ (Jvm.Cond.code x code maxLocals ret :: tables_1), c.before #[Value.ref b] s = true := atoms_spec (ws := Jvm.Cond.code x code maxLocals ret :: tables_1) B.pre
    have hts : ∀ w ∈ lw_tbl, w.before #[Value.ref b] s = true := k2_hts_sels lw_privs (fun w hw => hts0 w (List.mem_cons_of_mem _ hw)) lw_privs_ok
    have hml : c.maxLocals = 7 := B.maxLocals_eq (hts0 _ List.mem_cons_self)
    have X₀ : Stand p l e room_1 s m #[Value.ref b] below meth c s₁ [] 0 0 := Stand.of_body B
    have hh0 : s₁.heap = s.heap := by rw [B.state]; rfl
    have hsz : scr.slots.size = xs.length := by rw [← Array.length_toList, hlist, List.length_map]
    have hval : ∀ j : Nat, j < xs.length → scr.slots[j]? = some (.int (xs.getD j 0)) := fun j hj => by
      rw [← Array.getElem?_toList, hlist]
      simp [hj]
    have hbl : b < s.heap.size := (Array.getElem?_eq_some_iff.mp hcb).1
    have hX : va_X b xs.length (fun j => xs.getD j 0) s s.heap := ⟨scr, hcb, hof, hkn, hsz, hval⟩
    have K : W p l e room_1 s m #[Value.ref b] below meth c s₁.heap [] 0 0 (lw_Z below #[Value.ref b] s) (entryFrame m ([Value.ref b] : List Value).toArray 7) := by
      rw [hh0]
      exact st_start hpure l htr (by have h9 := B.noHandlers (hts0 _ List.mem_cons_self); rw [Array.isEmpty_iff] at h9; rw [h9]) hbd ⟨B.exec, B.bytes, B.returns, hml, hown, hts, hX, hbl, B.notSynchronized, hgv⟩
    obtain ⟨t, a1, o, b1, b2, b3⟩ := K s₁ rfl X₀
    exact ⟨t, o, a1, b1, b2, b3⟩
theorem lw_pre_spec {args : Array Value} {s : State} (h : (Jvm.Cond.and given_1 narrow_1).before args s = true) (hr : rest_1_c.before args s = true) : ∃ (b : Addr) (xs : List Int32), lw_P b xs args s := by
  have hs := flat_of_before _ h
  have hq := flat_of_before _ hr
  have hc : (Cond.count 1).before args s = true := hs _ (by decide +kernel)
  have harr : (Cond.arrayOf (.arg 0) .int).before args s = true := hs _ (by decide +kernel)
  have hle : (Cond.le (.length (.arg 0)) (.int 2560)).before args s = true := hs _ (by decide +kernel)
  have hlen : (Cond.isInt (.length (.arg 0))).before args s = true := hq _ (by decide +kernel)
  have hall : (Cond.all (.arg 0) (.isInt (.elem (.arg 0) (.index 0)))).before args s = true := hq _ (by decide +kernel)
  obtain ⟨b, xs, hb, hx⟩ := State.ints_of_pre rfl harr hlen hall
  have hsm : xs.length < 2 ^ 31 := hx.choose_spec.2.2.2
  have hev : (Term.length (.arg 0)).eval args s none [] s = some (.int xs.length.toInt32) := hx.length_eval hb
  have hv := Cond.le_ints hev (show (Term.int 2560).eval args s none [] s = some (.int 2560) from rfl)
  have hd : xs.length.toInt32 ≤ 2560 := by
    simpa [Cond.before, Cond.holds, hv] using hle
  have hN : xs.length ≤ 2560 := (Int32.ofNat_le_ofNat hsm (by decide)).mp (show Int32.ofNat xs.length ≤ Int32.ofNat 2560 from hd)
  exact ⟨b, xs, Cond.one_arg hc (show args[0]? = some (.ref b) from hb), hx, hN, h⟩
theorem lw_comes (hpure : st_pure) (l : Launch) (htr : l.stackTraces = false) : Comes l x (Jvm.Cond.code x code maxLocals ret :: tables_1) room_1 (fun tb e args s => Calls_1 tb e args s ∧ rest_1 tb e args s ∧ Pre_1 tb e args s)
    (fun _ _ args s o t => lw_Q args s o t) := by
  intro p e ha hc hk s m args below hf hfit hheap happ hpre
  obtain ⟨b, xs, hP⟩ := lw_pre_spec hpre.2.2 hpre.2.1
  obtain ⟨k, o, h1, h2, h3, hQ⟩ := lw_walk hpure l htr b xs p e ha hc hk s m args below hf ((Spec.applies_iff_loose hf).mp happ).1 hP trivial
  exact ⟨k, o, h1, h2, h3, hQ⟩
theorem lw_frame {s t : State} {o : Outcome} {args : Array Value} (h : Framed s o t [] 1062 9061) :
    Framed s o t (fieldLocs frame_1_writes args s ++ arrayLocs frame_1_arrays args s ++ staticLocs frame_1_statics s) 1062 9061 := h
theorem lw_limb (hpure : st_pure) (L : Cond) (hL : ∀ (args : Array Value) (s t : State), L.after args s (.returned (some (.int 1))) t = true) :
    ArmFor flags0 classFile x code maxLocals ret World_1 tables_1 room_1 Calls_1 rest_1 Pre_1
      (fun tb e a s o t => postC L tb e a s o t ∧ Framed s o t (fieldLocs frame_1_writes a s ++ arrayLocs frame_1_arrays a s ++ staticLocs frame_1_statics s) 1062 9061) := by
  intro l hfl _ _ p e ha hc hk s m args below hf hfit hheap happ hpre
  have htr : l.stackTraces = false := by unfold Launch.stackTraces; rw [hfl]; decide +kernel
  obtain ⟨k, o, h1, h2, h3, rfl, hF⟩ := lw_comes hpure l htr p e ha hc hk s m args below hf hfit hheap happ hpre
  exact ⟨k, _, h1, h2, h3, hL args s _, lw_frame hF⟩
theorem i_vc_open (hpure : st_pure) : Claimed_1_1 ∧ Claimed_1_2 := ⟨lw_limb hpure limb_1_1 (fun args s t => by simp [limb_1_1, Cond.after, Cond.holds, Cond.value]), lw_limb hpure limb_1_2 (fun args s t => Cond.after_iff.mpr (by
  first | (rw [show limb_1_2 = Cond.eq .result (.int 1) from rfl, Cond.eq_ints (x := 1) (y := 1) rfl rfl]; simp; done) | (simp [limb_1_2, Cond.value, Term.eval]; done)))⟩
end
section
/-! sums and enumerations -/
def pu_s (f : Int → Int) : Nat → Int
  | 0 => 0
  | n + 1 => pu_s f n + f n
theorem pu_s_congr {f g : Int → Int} : ∀ {n : Nat}, (∀ i : Nat, i < n → f i = g i) → pu_s f n = pu_s g n := by
  intro n
  induction n with
  | zero => intro _; rfl
  | succ n ih =>
    intro h
    show pu_s f n + f n = pu_s g n + g n
    rw [ih (fun i hi => h i (by omega)), h n (by omega)]
theorem pu_s_one {f g : Int → Int} {k : Nat} : ∀ {n : Nat}, k < n → (∀ i : Nat, i < n → i ≠ k → f i = g i) → pu_s f n = pu_s g n + (f k - g k) := by
  intro n
  induction n with
  | zero => intro h; omega
  | succ n ih =>
    intro hk h
    show pu_s f n + f n = pu_s g n + g n + (f k - g k)
    by_cases hkn : k = n
    · subst hkn
      rw [pu_s_congr (fun i hi => h i (by omega) (by omega))]
      omega
    · rw [ih (by omega) (fun i hi hne => h i (by omega) hne), h n (by omega) (fun e => hkn e.symm)]
      omega
theorem pu_s_le {f : Int → Int} {c : Int} : ∀ {n : Nat}, (∀ i : Nat, i < n → f i ≤ c) → pu_s f n ≤ n * c := by
  intro n
  induction n with
  | zero => intro _; show (0 : Int) ≤ _; simp
  | succ n ih =>
    intro h
    have h1 := ih (fun i hi => h i (by omega))
    have h2 := h n (by omega)
    show pu_s f n + f n ≤ ((n + 1 : Nat) : Int) * c
    rw [show ((n + 1 : Nat) : Int) * c = n * c + c by rw [Int.natCast_add, Int.add_mul]; simp]
    omega
theorem pu_s_ge {f : Int → Int} {c : Int} : ∀ {n : Nat}, (∀ i : Nat, i < n → c ≤ f i) → n * c ≤ pu_s f n := by
  intro n
  induction n with
  | zero => intro _; show _ ≤ (0 : Int); simp
  | succ n ih =>
    intro h
    have h1 := ih (fun i hi => h i (by omega))
    have h2 := h n (by omega)
    show ((n + 1 : Nat) : Int) * c ≤ pu_s f n + f n
    rw [show ((n + 1 : Nat) : Int) * c = n * c + c by rw [Int.natCast_add, Int.add_mul]; simp]
    omega
theorem pu_s_const {c : Int} : ∀ {n : Nat}, pu_s (fun _ => c) n = n * c := by
  intro n
  induction n with
  | zero => show (0 : Int) = _; simp
  | succ n ih =>
    show pu_s (fun _ => c) n + c = _
    rw [ih, Int.natCast_add, Int.add_mul]; simp
/-- the numbers e 0 .. e (n-1) are apart, of 1 .. 14, and are those h with c h = 1 -/
def pu_en (e : Int → Int) (n : Nat) (c : Int → Int) : Prop :=
  (∀ i : Nat, i < n → 1 ≤ e i ∧ e i ≤ 14) ∧ (∀ i j : Nat, i < n → j < n → e i = e j → i = j) ∧ (∀ h : Nat, 1 ≤ h → h ≤ 14 → (c h = 1 ∧ ∃ i : Nat, i < n ∧ e i = h) ∨ (c h = 0 ∧ ∀ i : Nat, i < n → e i ≠ h))
theorem pu_en_sum {e g : Int → Int} : ∀ {n : Nat} {c : Int → Int}, pu_en e n c → pu_s (fun i => g (e i)) n = pu_s (fun h => if 1 ≤ h ∧ c h = 1 then g h else 0) 15 := by
  intro n
  induction n with
  | zero =>
    intro c h
    rw [pu_s_congr (g := fun _ => 0) (n := 15), pu_s_const]
    · show (0 : Int) = _; simp
    · intro i hi
      show (if _ then _ else _) = _
      rw [if_neg]
      rintro ⟨h1, h2⟩
      rcases h.2.2 i (by omega) (by omega) with ⟨-, j, hj, -⟩ | ⟨h0, -⟩
      · omega
      · omega
  | succ n ih =>
    intro c h
    obtain ⟨h1, h2, h3⟩ := h
    have hen := h1 n (by omega)
    obtain ⟨k, hk⟩ : ∃ k : Nat, (k : Int) = e n := ⟨(e n).toNat, by omega⟩
    have hck : c k = 1 := by
      rcases h3 k (by omega) (by omega) with ⟨h4, -⟩ | ⟨-, h4⟩
      · exact h4
      · exact absurd hk.symm (h4 n (by omega))
    have hsub : pu_en e n (fun x => if x = k then 0 else c x) := by
      refine ⟨fun i hi => h1 i (by omega), fun i j hi hj he => h2 i j (by omega) (by omega) he, fun x hx1 hx2 => ?_⟩
      by_cases hxk : (x : Int) = k
      · right
        refine ⟨if_pos hxk, fun i hi he => ?_⟩
        have := h2 i n (by omega) (by omega) (by rw [he, hxk, hk])
        omega
      · rcases h3 x hx1 hx2 with ⟨h4, i, hi, he⟩ | ⟨h4, h5⟩
        · left
          refine ⟨by show (if _ then _ else _) = _; rw [if_neg hxk]; exact h4, i, ?_, he⟩
          rcases Nat.lt_or_ge i n with h6 | h6
          · exact h6
          · exfalso
            have : i = n := by omega
            subst this
            exact hxk (by rw [← he, hk])
        · right
          exact ⟨by show (if _ then _ else _) = _; rw [if_neg hxk]; exact h4, fun i hi => h5 i (by omega)⟩
    show pu_s (fun i => g (e i)) n + g (e n) = _
    rw [ih hsub, pu_s_one (f := fun h => if 1 ≤ h ∧ c h = 1 then g h else 0) (g := fun h => if 1 ≤ h ∧ (if h = (k : Int) then 0 else c h) = 1 then g h else 0) (k := k) (n := 15) (by omega)]
    · show _ = _ + ((if _ then _ else _) - (if _ then _ else _))
      rw [if_pos (show 1 ≤ (k : Int) ∧ c k = 1 from ⟨by omega, hck⟩), if_neg (by rintro ⟨-, h7⟩; simp at h7), hk]
      omega
    · intro i hi hne
      show (if _ then _ else _) = (if _ then _ else _)
      rw [if_neg (show ¬ ((i : Int) = (k : Int)) by omega)]
/-- .. so there are at most 14 -/
theorem pu_en_le {e c : Int → Int} {n : Nat} (h : pu_en e n c) : n ≤ 14 := by
  have h1 := pu_en_sum (g := fun _ => 1) h
  have h2 : pu_s (fun h => if 1 ≤ h ∧ c h = 1 then (1 : Int) else 0) 15 = pu_s (fun h => if 1 ≤ h ∧ c h = 1 then (1 : Int) else 0) 15 := rfl
  have h3 : pu_s (fun i => (fun _ => (1 : Int)) (e i)) n = n := by
    show pu_s (fun _ => (1 : Int)) n = n
    rw [pu_s_const]; simp
  rw [h3] at h1
  have h4 : pu_s (fun h => if 1 ≤ h ∧ c h = 1 then (1 : Int) else 0) 15 ≤ 14 := by
    have h5 := pu_s_one (f := fun h => if 1 ≤ h ∧ c h = 1 then (1 : Int) else 0) (g := fun h => if h = 0 then 1 else if 1 ≤ h ∧ c h = 1 then (1 : Int) else 0) (k := 0) (n := 15) (by omega) (fun i hi hne => by
      show (if _ then _ else _) = (if _ then _ else _)
      rw [if_neg (show ¬ ((i : Int) = 0) by omega)])
    have h6 : pu_s (fun h => if h = 0 then 1 else if 1 ≤ h ∧ c h = 1 then (1 : Int) else 0) 15 ≤ (15 : Nat) * 1 := pu_s_le (fun i hi => by
      show (if _ then _ else if _ then _ else _) ≤ _
      split
      · omega
      · split <;> omega)
    rw [if_neg (by rintro ⟨h9, -⟩; simp at h9), if_pos (by simp)] at h5
    omega
  omega
end
section
/-! the class's methods without loops -/
theorem am_bi {sc : Int → Int} {mid pc : Nat} {L rest : List AV} {Q : Ou → St → Nat → Prop} {v : Option Int} {σ : St} (k : am_wp sc mid (pc + 3) L (am_rv v ++ rest) σ Q) : am_bk sc mid pc L rest Q (.inl v) σ 0 := k
theorem am_bx {sc : Int → Int} {mid pc : Nat} {L rest : List AV} {Q : Ou → St → Nat → Prop} {E t : Nat} {σ : St} (h : am_tb mid = []) (k : Q (.inr E) σ t) : am_bk sc mid pc L rest Q (.inr E) σ t := by
  unfold am_bk
  dsimp only
  rw [show am_hd mid pc E = none by unfold am_hd; rw [h]; rfl]
  exact ⟨h, k⟩
/-- h is an object, as the class has it; s is a slot of it -/
def xO (σ : St) (h : Int) : Prop := 1 ≤ h ∧ h ≤ 14 ∧ σ 4 h ≠ -1
def xS (σ : St) (h s : Int) : Prop := xO σ h ∧ 0 ≤ s ∧ s < σ 5 h
section X1
variable {sc : Int → Int} {σ : St} {Q : Ou → St → Nat → Prop}
theorem x_isObject {h : Int} (k1 : xO σ h → Q (.inl (some 1)) σ 0) (k0 : ¬ xO σ h → Q (.inl (some 0)) σ 0) : am_wp sc 20 0 [.inr (.inl 0), .inl h] [] σ Q := by
  refine b_20_0 h (fun h1 => ?_) (fun h1 => ?_)
  · exact b_20_25 h (b_20_26 h 0 (Or.inl rfl) (k0 (fun q => by have := q.1; omega)))
  · refine b_20_5 h (fun h2 => ?_) (fun h2 => ?_)
    · exact b_20_25 h (b_20_26 h 0 (Or.inl rfl) (k0 (fun q => by have := q.2.1; omega)))
    · refine b_20_11 h ⟨by omega, by omega⟩ (fun h3 => ?_) (fun h3 => ?_)
      · exact b_20_25 h (b_20_26 h 0 (Or.inl rfl) (k0 (fun q => q.2.2 h3)))
      · exact b_20_21 h (b_20_26 h 1 (Or.inr rfl) (k1 ⟨by omega, by omega, h3⟩))
theorem x_requireObject {h : Int} (k1 : xO σ h → Q (.inl none) σ 0) (k0 : ¬ xO σ h → Q (.inr 3) σ 1) : am_wp sc 18 0 [.inr (.inl 0), .inl h] [] σ Q := by
  refine b_18_0 h (x_isObject (fun q => am_bi ?_) (fun q => am_bi ?_))
  · exact b_18_5 h 1 (fun _ => b_18_16 h (k1 q)) (fun h9 => absurd (by decide) h9)
  · exact b_18_5 h 0 (fun h9 => absurd rfl h9) (fun _ => b_18_8 h (k0 q))
theorem x_requireSlot {h s : Int} (k1 : xS σ h s → Q (.inl none) σ 0) (k0 : ¬ xS σ h s → Q (.inr 3) σ 1) : am_wp sc 19 0 [.inr (.inl 0), .inl h, .inl s] [] σ Q := by
  refine b_19_0 h s (x_requireObject (fun q => am_bi ?_) (fun q => am_bx rfl (k0 (fun z => q z.1))))
  refine b_19_5 h s (fun h1 => ?_) (fun h1 => ?_)
  · exact b_19_19 h s (k0 (fun z => by have := z.2.1; omega))
  · refine b_19_9 h s ⟨by have := q.1; omega, by have := q.2.1; omega⟩ (fun h2 => ?_) (fun h2 => ?_)
    · exact b_19_27 h s (k1 ⟨q, by omega, h2⟩)
    · exact b_19_19 h s (k0 (fun z => h2 z.2.2))
theorem x_endOf {h : Int} (h0 : 0 ≤ h ∧ h < 15) (h1 : am_R (σ 5 h + 2)) (h2 : am_R (σ 4 h + (σ 5 h + 2))) (k : Q (.inl (some (σ 4 h + (σ 5 h + 2)))) σ 0) : am_wp sc 23 0 [.inr (.inl 0), .inl h] [] σ Q :=
  b_23_0 h h0 (b_22_0 h h0 h1 (am_bi (b_23_11 h _ _ h2 k)))
theorem x_setSlot {h s kd v : Int} {v5 : AV} (h0 : 0 ≤ h ∧ h < 15) (hb : 0 ≤ σ 4 h + 2 + s ∧ σ 4 h + 2 + s < 90) (hf : am_R (σ 4 h + 2)) (k : Q (.inl none) (am_up (am_up σ 3 (σ 4 h + 2 + s) kd) 2 (σ 4 h + 2 + s) v) 0) : am_wp sc 24 0 [.inr (.inl 0), .inl h, .inl s, .inl kd, .inl v, v5] [] σ Q :=
  b_24_0 h s kd v v5 (b_21_0 h h0 hf (am_bi (b_24_5 h s kd v v5 _ ⟨by omega, by omega⟩ hb hb k)))
theorem x_fits {n c u : Int} (h0 : 0 ≤ n ∧ n ≤ 10) (h1 : 0 ≤ u ∧ u ≤ 1000) (k1 : c < 14 ∧ u + 2 + n ≤ 90 → Q (.inl (some 1)) σ 0) (k0 : ¬ (c < 14 ∧ u + 2 + n ≤ 90) → Q (.inl (some 0)) σ 0) : am_wp sc 25 0 [.inl n, .inl c, .inl u] [] σ Q := by
  refine b_25_0 n c u (fun h2 => ?_) (fun h2 => ?_)
  · exact b_25_20 n c u (b_25_21 n c u 0 (Or.inl rfl) (k0 (by omega)))
  · refine b_25_6 n c u ⟨by omega, by omega⟩ ⟨by omega, by omega⟩ (fun h3 => ?_) (fun h3 => ?_)
    · exact b_25_20 n c u (b_25_21 n c u 0 (Or.inl rfl) (k0 (by omega)))
    · exact b_25_16 n c u (b_25_21 n c u 1 (Or.inr rfl) (k1 ⟨by omega, by omega⟩))
theorem x_number {h s v : Int} (hb : xS σ h s → 0 ≤ σ 4 h + 2 + s ∧ σ 4 h + 2 + s < 90) (hf : xS σ h s → am_R (σ 4 h + 2)) (k1 : xS σ h s → Q (.inl none) (am_up (am_up σ 3 (σ 4 h + 2 + s) 0) 2 (σ 4 h + 2 + s) v) 0) (k0 : ¬ xS σ h s → Q (.inr 3) σ 1) : am_wp sc 1 0 [.inr (.inl 0), .inl h, .inl s, .inl v] [] σ Q := by
  refine b_1_0 h s v (x_requireSlot (fun q => am_bi ?_) (fun q => am_bx rfl (k0 q)))
  exact b_1_6 h s v (x_setSlot ⟨by have := q.1.1; omega, by have := q.1.2.1; omega⟩ (hb q) (hf q) (am_bi (b_1_14 h s v (k1 q))))
theorem x_get {h s : Int} (hb : xS σ h s → 0 ≤ σ 4 h + 2 + s ∧ σ 4 h + 2 + s < 90) (hf : xS σ h s → am_R (σ 4 h + 2)) (k1 : xS σ h s → Q (.inl (some (σ 2 (σ 4 h + 2 + s)))) σ 0) (k0 : ¬ xS σ h s → Q (.inr 3) σ 1) : am_wp sc 3 0 [.inr (.inl 0), .inl h, .inl s] [] σ Q := by
  refine b_3_0 h s (x_requireSlot (fun q => am_bi ?_) (fun q => am_bx rfl (k0 q)))
  exact b_3_6 h s (b_21_0 h ⟨by have := q.1.1; omega, by have := q.1.2.1; omega⟩ (hf q) (am_bi (b_3_15 h s _ (by have := hb q; exact ⟨by omega, by omega⟩) (hb q) (k1 q))))
theorem x_kind {h s : Int} (hb : xS σ h s → 0 ≤ σ 4 h + 2 + s ∧ σ 4 h + 2 + s < 90) (hf : xS σ h s → am_R (σ 4 h + 2)) (k1 : xS σ h s → Q (.inl (some (σ 3 (σ 4 h + 2 + s)))) σ 0) (k0 : ¬ xS σ h s → Q (.inr 3) σ 1) : am_wp sc 4 0 [.inr (.inl 0), .inl h, .inl s] [] σ Q := by
  refine b_4_0 h s (x_requireSlot (fun q => am_bi ?_) (fun q => am_bx rfl (k0 q)))
  exact b_4_6 h s (b_21_0 h ⟨by have := q.1.1; omega, by have := q.1.2.1; omega⟩ (hf q) (am_bi (b_4_15 h s _ (by have := hb q; exact ⟨by omega, by omega⟩) (hb q) (k1 q))))
theorem x_refer {h s t w : Int} (hb : xS σ h s → 0 ≤ σ 4 h + 2 + s ∧ σ 4 h + 2 + s < 90) (hf : xS σ h s → am_R (σ 4 h + 2))
    (k1 : xS σ h s → (t = 0 ∨ xO σ t) → Q (.inl none) (am_up (am_up σ 3 (σ 4 h + 2 + s) (if w = 0 then 1 else 2)) 2 (σ 4 h + 2 + s) t) 0) (k0 : ¬ xS σ h s → Q (.inr 3) σ 1) (k2 : xS σ h s → ¬ (t = 0 ∨ xO σ t) → Q (.inr 0) σ 1) : am_wp sc 2 0 [.inr (.inl 0), .inl h, .inl s, .inl t, .inl w] [] σ Q := by
  refine b_2_0 h s t w (x_requireSlot (fun q => am_bi ?_) (fun q => am_bx rfl (k0 q)))
  have go : (t = 0 ∨ xO σ t) → am_wp sc 2 26 [.inr (.inl 0), .inl h, .inl s, .inl t, .inl w] [] σ Q := by
    intro ht
    have k1 := k1 q ht
    refine b_2_26 h s t w (fun hw => ?_) (fun hw => ?_)
    · rw [if_pos hw] at k1
      exact b_2_38 h s t w h s (b_2_39 h s t w h s 1 (x_setSlot ⟨by have := q.1.1; omega, by have := q.1.2.1; omega⟩ (hb q) (hf q) (am_bi (b_2_43 h s t w k1))))
    · rw [if_neg hw] at k1
      exact b_2_34 h s t w h s (b_2_39 h s t w h s 2 (x_setSlot ⟨by have := q.1.1; omega, by have := q.1.2.1; omega⟩ (hb q) (hf q) (am_bi (b_2_43 h s t w k1))))
  refine b_2_6 h s t w (fun ht => go (Or.inl ht)) (fun ht => ?_)
  refine b_2_10 h s t w (x_isObject (fun z => am_bi ?_) (fun z => am_bi ?_))
  · exact b_2_15 h s t w 1 (fun _ => go (Or.inr z)) (fun h9 => absurd (by decide) h9)
  · exact b_2_15 h s t w 0 (fun h9 => absurd rfl h9) (fun _ => b_2_18 h s t w (k2 q (fun y => y.elim ht z)))
theorem x_push {h : Int} (hr : 0 ≤ σ 32 0 ∧ σ 32 0 ≤ 10) (k1 : xO σ h → σ 32 0 < 10 → Q (.inl (some (σ 32 0 + 1))) (am_up (am_up σ 9 (σ 32 0) h) 32 0 (σ 32 0 + 1)) 0) (k0 : ¬ xO σ h → Q (.inr 3) σ 1) (k2 : xO σ h → ¬ σ 32 0 < 10 → Q (.inr 1) σ 1) : am_wp sc 5 0 [.inr (.inl 0), .inl h] [] σ Q := by
  refine b_5_0 h (x_requireObject (fun q => am_bi ?_) (fun q => am_bx rfl (k0 q)))
  refine b_5_5 h (fun h1 => ?_) (fun h1 => b_5_14 h (k2 q h1))
  exact b_5_22 h (b_29_0 h ⟨by omega, by omega⟩ ⟨by omega, by omega⟩ (am_bi (b_5_27 h (k1 q h1))))
theorem x_pop (hr : 0 ≤ σ 32 0 ∧ σ 32 0 ≤ 10) (k1 : σ 32 0 ≠ 0 → Q (.inl (some (σ 9 (σ 32 0 - 1)))) (am_up σ 32 0 (σ 32 0 - 1)) 0) (k0 : σ 32 0 = 0 → Q (.inl (some (-1))) σ 0) : am_wp sc 6 0 [.inr (.inl 0)] [] σ Q := by
  refine b_6_0 (fun h1 => ?_) (fun h1 => ?_)
  · exact b_6_9 ⟨by omega, by omega⟩ ⟨by omega, by omega⟩ (k1 h1)
  · exact b_6_7 (k0 (by omega))
theorem x_root {i : Int} (hr : 0 ≤ σ 32 0 ∧ σ 32 0 ≤ 10) (k1 : 0 ≤ i ∧ i < σ 32 0 → Q (.inl (some (σ 9 i))) σ 0) (k0 : ¬ (0 ≤ i ∧ i < σ 32 0) → Q (.inl (some (-1))) σ 0) : am_wp sc 7 0 [.inr (.inl 0), .inl i] [] σ Q := by
  refine b_7_0 i (fun h1 => b_7_21 i (b_7_22 i _ (k0 (by omega)))) (fun h1 => ?_)
  refine b_7_4 i (fun h2 => b_7_21 i (b_7_22 i _ (k0 (by omega)))) (fun h2 => ?_)
  exact b_7_12 i ⟨by omega, by omega⟩ (b_7_22 i _ (k1 ⟨by omega, by omega⟩))
theorem x_rites {h w : Int} (hw : w = 0 ∨ w = 1) (k1 : xO σ h → Q (.inl none) (am_up σ 7 h w) 0) (k0 : ¬ xO σ h → Q (.inr 3) σ 1) : am_wp sc 8 0 [.inr (.inl 0), .inl h, .inl w] [] σ Q := by
  refine b_8_0 h w (x_requireObject (fun q => am_bi ?_) (fun q => am_bx rfl (k0 q)))
  exact b_8_5 h w ⟨by have := q.1; omega, by have := q.2.1; omega⟩ hw (k1 q)
theorem x_queued {i : Int} (hr : 0 ≤ σ 33 0 ∧ σ 33 0 ≤ 14) (k1 : 0 ≤ i ∧ i < σ 33 0 → Q (.inl (some (σ 10 i))) σ 0) (k0 : ¬ (0 ≤ i ∧ i < σ 33 0) → Q (.inl (some (-1))) σ 0) : am_wp sc 10 0 [.inr (.inl 0), .inl i] [] σ Q := by
  refine b_10_0 i (fun h1 => b_10_21 i (b_10_22 i _ (k0 (by omega)))) (fun h1 => ?_)
  refine b_10_4 i (fun h2 => b_10_21 i (b_10_22 i _ (k0 (by omega)))) (fun h2 => ?_)
  exact b_10_12 i ⟨by omega, by omega⟩ (b_10_22 i _ (k1 ⟨by omega, by omega⟩))
theorem x_word {i : Int} (k1 : 0 ≤ i ∧ i < 90 → Q (.inl (some (σ 2 i))) σ 0) (k0 : ¬ (0 ≤ i ∧ i < 90) → Q (.inr 3) σ 1) : am_wp sc 12 0 [.inr (.inl 0), .inl i] [] σ Q := by
  refine b_12_0 i (fun h1 => b_12_10 i (k0 (by omega))) (fun h1 => ?_)
  refine b_12_4 i (fun h2 => b_12_18 i ⟨by omega, by omega⟩ (k1 ⟨by omega, by omega⟩)) (fun h2 => b_12_10 i (k0 (by omega)))
end X1
end
section
/-! the reference's methods without loops -/
def mO (σ : St) (h : Int) : Prop := 1 ≤ h ∧ h ≤ 14 ∧ σ 15 h ≠ 0
def mS (σ : St) (h s : Int) : Prop := mO σ h ∧ 0 ≤ s ∧ s < σ 16 h
section M1
variable {sc : Int → Int} {σ : St} {Q : Ou → St → Nat → Prop}
theorem m_refused {f : Int} (k1 : 0 < f → Q (.inl (some 1)) (am_up σ 40 0 f) 0) (k0 : f ≤ 0 → Q (.inl (some 0)) (am_up σ 40 0 f) 0) : am_wp sc 49 0 [.inr (.inl 1), .inl f] [] σ Q := by
  refine b_49_0 f (fun h => ?_) (fun h => ?_)
  · exact b_49_13 f (b_49_14 f 0 (Or.inl rfl) (k0 h))
  · exact b_49_9 f (b_49_14 f 1 (Or.inr rfl) (k1 (by omega)))
theorem m_isObject {h : Int} (k1 : mO σ h → Q (.inl (some 1)) σ 0) (k0 : ¬ mO σ h → Q (.inl (some 0)) σ 0) : am_wp sc 50 0 [.inr (.inl 1), .inl h] [] σ Q := by
  refine b_50_0 h (fun h1 => ?_) (fun h1 => ?_)
  · exact b_50_24 h (b_50_25 h 0 (Or.inl rfl) (k0 (fun q => by have := q.1; omega)))
  · refine b_50_5 h (fun h2 => ?_) (fun h2 => ?_)
    · exact b_50_24 h (b_50_25 h 0 (Or.inl rfl) (k0 (fun q => by have := q.2.1; omega)))
    · refine b_50_11 h ⟨by omega, by omega⟩ (fun h3 => ?_) (fun h3 => ?_)
      · exact b_50_24 h (b_50_25 h 0 (Or.inl rfl) (k0 (fun q => q.2.2 h3)))
      · exact b_50_20 h (b_50_25 h 1 (Or.inr rfl) (k1 ⟨by omega, by omega, h3⟩))
theorem m_isSlot {h s : Int} (k1 : mS σ h s → Q (.inl (some 1)) σ 0) (k0 : ¬ mS σ h s → Q (.inl (some 0)) σ 0) : am_wp sc 51 0 [.inr (.inl 1), .inl h, .inl s] [] σ Q := by
  refine b_51_0 h s (m_isObject (fun q => am_bi ?_) (fun q => am_bi ?_))
  · refine b_51_5 h s 1 (fun h9 => absurd h9 (by decide)) (fun _ => ?_)
    refine b_51_8 h s (fun h1 => ?_) (fun h1 => ?_)
    · exact b_51_26 h s (b_51_27 h s 0 (Or.inl rfl) (k0 (fun z => by have := z.2.1; omega)))
    · refine b_51_12 h s ⟨by have := q.1; omega, by have := q.2.1; omega⟩ (fun h2 => ?_) (fun h2 => ?_)
      · exact b_51_26 h s (b_51_27 h s 0 (Or.inl rfl) (k0 (fun z => by have := z.2.2; omega)))
      · exact b_51_22 h s (b_51_27 h s 1 (Or.inr rfl) (k1 ⟨q, by omega, by omega⟩))
  · exact b_51_5 h s 0 (fun _ => b_51_26 h s (b_51_27 h s 0 (Or.inl rfl) (k0 (fun z => q z.1)))) (fun h9 => absurd rfl h9)
theorem m_number {h s v : Int} (hs : mS σ h s → s < 10) (k1 : mS σ h s → Q (.inl none) (am_up (am_up (am_up σ 40 0 0) 19 (10 * h + s) v) 20 (10 * h + s) 0) 0) (k0 : ¬ mS σ h s → Q (.inl none) (am_up σ 40 0 1) 0) : am_wp sc 66 0 [.inr (.inl 1), .inl h, .inl s, .inl v] [] σ Q := by
  refine b_66_0 h s v (m_isSlot (fun q => am_bi ?_) (fun q => am_bi ?_))
  · refine b_66_7 h s v 1 (fun h9 => absurd h9 (by decide)) (fun _ => b_66_10 h s v (b_66_15 h s v 0 (m_refused (fun h9 => absurd h9 (by decide)) (fun _ => am_bi ?_))))
    refine b_66_18 h s v 0 (fun h9 => absurd rfl h9) (fun _ => ?_)
    have h1 := q.1.1; have h2 := q.1.2.1; have h3 := q.2.1; have h4 := hs q
    exact b_66_21 h s v ⟨by omega, by omega⟩ ⟨by omega, by omega⟩ ⟨by omega, by omega⟩ ⟨by omega, by omega⟩ ⟨by omega, by omega⟩ ⟨by omega, by omega⟩ (b_66_45 h s v (k1 q))
  · refine b_66_7 h s v 0 (fun _ => b_66_14 h s v (b_66_15 h s v 1 (m_refused (fun _ => am_bi ?_) (fun h9 => absurd h9 (by decide))))) (fun h9 => absurd rfl h9)
    exact b_66_18 h s v 1 (fun _ => b_66_45 h s v (k0 q)) (fun h9 => absurd (by decide) h9)
theorem m_refer {h s t w : Int} (hs : mS σ h s → s < 10) (k1 : mS σ h s → (t = 0 ∨ mO σ t) → Q (.inl none) (am_up (am_up (am_up σ 40 0 0) 19 (10 * h + s) t) 20 (10 * h + s) (if w = 0 then 1 else 2)) 0) (k0 : ¬ mS σ h s → Q (.inl none) (am_up σ 40 0 1) 0) (k2 : mS σ h s → ¬ (t = 0 ∨ mO σ t) → Q (.inl none) (am_up σ 40 0 2) 0) : am_wp sc 67 0 [.inr (.inl 1), .inl h, .inl s, .inl t, .inl w] [] σ Q := by
  have bad : ∀ f : Int, 0 < f → Q (.inl none) (am_up σ 40 0 f) 0 → am_wp sc 67 31 [.inr (.inl 1), .inl h, .inl s, .inl t, .inl w] [.inl f, .inr (.inl 1)] σ Q := by
    intro f hf kf
    refine b_67_31 h s t w f (m_refused (fun _ => am_bi ?_) (fun h9 => absurd h9 (by omega)))
    exact b_67_34 h s t w 1 (fun _ => b_67_70 h s t w kf) (fun h9 => absurd (by decide) h9)
  refine b_67_0 h s t w (m_isSlot (fun q => am_bi ?_) (fun q => am_bi ?_))
  · have go : (t = 0 ∨ mO σ t) → am_wp sc 67 30 [.inr (.inl 1), .inl h, .inl s, .inl t, .inl w] [.inr (.inl 1)] σ Q := by
      intro ht
      have k1 := k1 q ht
      have h1 := q.1.1; have h2 := q.1.2.1; have h3 := q.2.1; have h4 := hs q
      refine b_67_30 h s t w (b_67_31 h s t w 0 (m_refused (fun h9 => absurd h9 (by decide)) (fun _ => am_bi ?_)))
      refine b_67_34 h s t w 0 (fun h9 => absurd rfl h9) (fun _ => ?_)
      refine b_67_37 h s t w ⟨by omega, by omega⟩ ⟨by omega, by omega⟩ ⟨by omega, by omega⟩ ⟨by omega, by omega⟩ ⟨by omega, by omega⟩ (fun hw => ?_) (fun hw => ?_)
      · rw [if_pos hw] at k1
        exact b_67_68 h s t w _ (b_67_69 h s t w _ 1 ⟨by omega, by omega⟩ (b_67_70 h s t w k1))
      · rw [if_neg hw] at k1
        exact b_67_64 h s t w _ (b_67_69 h s t w _ 2 ⟨by omega, by omega⟩ (b_67_70 h s t w k1))
    refine b_67_7 h s t w 1 (fun _ => ?_) (fun h9 => absurd (by decide) h9)
    refine b_67_14 h s t w (fun ht => go (Or.inl ht)) (fun ht => ?_)
    refine b_67_18 h s t w (m_isObject (fun z => am_bi ?_) (fun z => am_bi ?_))
    · exact b_67_23 h s t w 1 (fun _ => go (Or.inr z)) (fun h9 => absurd (by decide) h9)
    · exact b_67_23 h s t w 0 (fun h9 => absurd rfl h9) (fun _ => b_67_26 h s t w (bad 2 (by decide) (k2 q (fun y => y.elim ht z))))
  · exact b_67_7 h s t w 0 (fun h9 => absurd rfl h9) (fun _ => b_67_10 h s t w (bad 1 (by decide) (k0 q)))
theorem m_get {h s : Int} (hs : mS σ h s → s < 10) (k1 : mS σ h s → Q (.inl (some (σ 19 (10 * h + s)))) (am_up σ 40 0 0) 0) (k0 : ¬ mS σ h s → Q (.inl (some 0)) (am_up σ 40 0 1) 0) : am_wp sc 68 0 [.inr (.inl 1), .inl h, .inl s] [] σ Q := by
  refine b_68_0 h s (m_isSlot (fun q => am_bi ?_) (fun q => am_bi ?_))
  · refine b_68_7 h s 1 (fun h9 => absurd h9 (by decide)) (fun _ => b_68_10 h s (b_68_15 h s 0 (m_refused (fun h9 => absurd h9 (by decide)) (fun _ => am_bi ?_))))
    refine b_68_18 h s 0 (fun _ => ?_) (fun h9 => absurd rfl h9)
    have h1 := q.1.1; have h2 := q.1.2.1; have h3 := q.2.1; have h4 := hs q
    exact b_68_25 h s ⟨by omega, by omega⟩ ⟨by omega, by omega⟩ ⟨by omega, by omega⟩ (b_68_36 h s _ (k1 q))
  · refine b_68_7 h s 0 (fun _ => b_68_14 h s (b_68_15 h s 1 (m_refused (fun _ => am_bi ?_) (fun h9 => absurd h9 (by decide))))) (fun h9 => absurd rfl h9)
    exact b_68_18 h s 1 (fun h9 => absurd h9 (by decide)) (fun _ => b_68_21 h s (b_68_36 h s _ (k0 q)))
theorem m_kind {h s : Int} (hs : mS σ h s → s < 10) (k1 : mS σ h s → Q (.inl (some (σ 20 (10 * h + s)))) (am_up σ 40 0 0) 0) (k0 : ¬ mS σ h s → Q (.inl (some 0)) (am_up σ 40 0 1) 0) : am_wp sc 69 0 [.inr (.inl 1), .inl h, .inl s] [] σ Q := by
  refine b_69_0 h s (m_isSlot (fun q => am_bi ?_) (fun q => am_bi ?_))
  · refine b_69_7 h s 1 (fun h9 => absurd h9 (by decide)) (fun _ => b_69_10 h s (b_69_15 h s 0 (m_refused (fun h9 => absurd h9 (by decide)) (fun _ => am_bi ?_))))
    refine b_69_18 h s 0 (fun _ => ?_) (fun h9 => absurd rfl h9)
    have h1 := q.1.1; have h2 := q.1.2.1; have h3 := q.2.1; have h4 := hs q
    exact b_69_25 h s ⟨by omega, by omega⟩ ⟨by omega, by omega⟩ ⟨by omega, by omega⟩ (b_69_36 h s _ (k1 q))
  · refine b_69_7 h s 0 (fun _ => b_69_14 h s (b_69_15 h s 1 (m_refused (fun _ => am_bi ?_) (fun h9 => absurd h9 (by decide))))) (fun h9 => absurd rfl h9)
    exact b_69_18 h s 1 (fun h9 => absurd h9 (by decide)) (fun _ => b_69_21 h s (b_69_36 h s _ (k0 q)))
theorem m_push {h : Int} (hr : 0 ≤ σ 42 0 ∧ σ 42 0 ≤ 10) (k1 : mO σ h → σ 42 0 < 10 → Q (.inl (some (σ 42 0 + 1))) (am_up (am_up (am_up σ 40 0 0) 21 (σ 42 0) h) 42 0 (σ 42 0 + 1)) 0) (k0 : ¬ mO σ h → Q (.inl (some 0)) (am_up σ 40 0 1) 0) (k2 : mO σ h → ¬ σ 42 0 < 10 → Q (.inl (some 0)) (am_up σ 40 0 2) 0) : am_wp sc 70 0 [.inr (.inl 1), .inl h] [] σ Q := by
  have bad : ∀ f : Int, 0 < f → Q (.inl (some 0)) (am_up σ 40 0 f) 0 → am_wp sc 70 27 [.inr (.inl 1), .inl h] [.inl f, .inr (.inl 1)] σ Q := by
    intro f hf kf
    refine b_70_27 h f (m_refused (fun _ => am_bi ?_) (fun h9 => absurd h9 (by omega)))
    exact b_70_30 h 1 (fun h9 => absurd h9 (by decide)) (fun _ => b_70_33 h kf)
  refine b_70_0 h (m_isObject (fun q => am_bi ?_) (fun q => am_bi ?_))
  · refine b_70_6 h 1 (fun _ => ?_) (fun h9 => absurd (by decide) h9)
    refine b_70_13 h (fun h1 => ?_) (fun h1 => b_70_22 h (bad 2 (by decide) (k2 q (by omega))))
    refine b_70_26 h (b_70_27 h 0 (m_refused (fun h9 => absurd h9 (by decide)) (fun _ => am_bi ?_)))
    refine b_70_30 h 0 (fun _ => ?_) (fun h9 => absurd rfl h9)
    exact b_70_35 h (show 0 ≤ σ 42 0 ∧ σ 42 0 < 10 from ⟨by omega, by omega⟩) (show am_R (σ 42 0 + 1) from ⟨by omega, by omega⟩) (k1 q (by omega))
  · exact b_70_6 h 0 (fun h9 => absurd rfl h9) (fun _ => b_70_9 h (bad 1 (by decide) (k0 q)))
theorem m_pop {v1 : AV} (hr : 0 ≤ σ 42 0 ∧ σ 42 0 ≤ 10) (k1 : σ 42 0 ≠ 0 → Q (.inl (some (σ 21 (σ 42 0 - 1)))) (am_up (am_up (am_up σ 40 0 0) 42 0 (σ 42 0 - 1)) 42 0 (σ 42 0 - 1)) 0) (k0 : σ 42 0 = 0 → Q (.inl (some (-1))) (am_up (am_up (am_up σ 40 0 0) 42 0 (-1)) 42 0 0) 0) : am_wp sc 71 0 [.inr (.inl 1), v1] [] σ Q := by
  refine b_71_0 v1 (fun h1 => ?_) (fun h1 => ?_)
  · refine b_71_22 v1 (b_71_23 v1 (-1) (fun h9 => absurd h9 (by decide)) (fun _ => ?_))
    refine b_71_33 v1 (b_71_46 v1 (-1) (fun h9 => absurd (show (0 : Int) ≤ -1 from h9) (by decide)) (fun _ => ?_))
    exact b_71_55 (-1) (b_71_63 (-1) 0 (k0 (by omega)))
  · refine b_71_13 v1 (show am_R (σ 42 0 - 1) from ⟨by omega, by omega⟩) (b_71_23 v1 (σ 42 0 - 1) (fun h2 => ?_) (fun h2 => absurd (show 0 ≤ σ 42 0 - 1 by omega) h2))
    refine b_71_37 v1 (show 0 ≤ σ 42 0 - 1 ∧ σ 42 0 - 1 < 10 from ⟨by omega, by omega⟩) (b_71_46 v1 _ (fun _ => ?_) (fun h9 => absurd (show 0 ≤ σ 42 0 - 1 by omega) h9))
    exact b_71_59 _ (b_71_63 _ _ (k1 (by omega)))
theorem m_root {i : Int} (hr : 0 ≤ σ 42 0 ∧ σ 42 0 ≤ 10) (k1 : 0 ≤ i ∧ i < σ 42 0 → Q (.inl (some (σ 21 i))) (am_up σ 40 0 0) 0) (k0 : ¬ (0 ≤ i ∧ i < σ 42 0) → Q (.inl (some (-1))) (am_up σ 40 0 0) 0) : am_wp sc 72 0 [.inr (.inl 1), .inl i] [] σ Q := by
  refine b_72_0 i (fun h1 => b_72_17 i (b_72_27 i _ (k0 (by omega)))) (fun h1 => ?_)
  refine b_72_9 i (fun h2 => ?_) (fun h2 => b_72_17 i (b_72_27 i _ (k0 (fun z => h2 z.2))))
  have h2 : i < σ 42 0 := h2
  exact b_72_21 i ⟨by omega, by omega⟩ (b_72_27 i _ (k1 ⟨by omega, h2⟩))
theorem m_rites {h w : Int} (hw : w = 0 ∨ w = 1) (k1 : mO σ h → Q (.inl none) (am_up (am_up σ 40 0 0) 18 h w) 0) (k0 : ¬ mO σ h → Q (.inl none) (am_up σ 40 0 1) 0) : am_wp sc 73 0 [.inr (.inl 1), .inl h, .inl w] [] σ Q := by
  refine b_73_0 h w (m_isObject (fun q => am_bi ?_) (fun q => am_bi ?_))
  · refine b_73_6 h w 1 (fun h9 => absurd h9 (by decide)) (fun _ => b_73_9 h w (b_73_14 h w 0 (m_refused (fun h9 => absurd h9 (by decide)) (fun _ => am_bi ?_))))
    refine b_73_17 h w 0 (fun h9 => absurd rfl h9) (fun _ => ?_)
    exact b_73_20 h w ⟨by have := q.1; omega, by have := q.2.1; omega⟩ hw (b_73_27 h w (k1 q))
  · refine b_73_6 h w 0 (fun _ => b_73_13 h w (b_73_14 h w 1 (m_refused (fun _ => am_bi ?_) (fun h9 => absurd h9 (by decide))))) (fun h9 => absurd rfl h9)
    exact b_73_17 h w 1 (fun _ => b_73_27 h w (k0 q)) (fun h9 => absurd (by decide) h9)
theorem m_queued {i : Int} (hr : 0 ≤ σ 43 0 ∧ σ 43 0 ≤ 14) (k1 : 0 ≤ i ∧ i < σ 43 0 → Q (.inl (some (σ 22 i))) (am_up σ 40 0 0) 0) (k0 : ¬ (0 ≤ i ∧ i < σ 43 0) → Q (.inl (some (-1))) (am_up σ 40 0 0) 0) : am_wp sc 75 0 [.inr (.inl 1), .inl i] [] σ Q := by
  refine b_75_0 i (fun h1 => b_75_17 i (b_75_27 i _ (k0 (by omega)))) (fun h1 => ?_)
  refine b_75_9 i (fun h2 => ?_) (fun h2 => b_75_17 i (b_75_27 i _ (k0 (fun z => h2 z.2))))
  have h2 : i < σ 43 0 := h2
  exact b_75_21 i ⟨by omega, by omega⟩ (b_75_27 i _ (k1 ⟨by omega, h2⟩))
end M1
end
section
/-! the class's marking -/
theorem pu_en_add {e c : Int → Int} {n : Nat} {h : Int} (H : pu_en e n c) (h1 : 1 ≤ h) (h2 : h ≤ 14) (h0 : c h = 0) : pu_en (am_u1 e n h) (n + 1) (am_u1 c h 1) := by
  obtain ⟨g1, g2, g3⟩ := H
  have hno : ∀ i : Nat, i < n → e i ≠ h := by
    intro i hi he
    rcases g3 h.toNat (by omega) (by omega) with ⟨q, -⟩ | ⟨-, q⟩
    · rw [show ((h.toNat : Nat) : Int) = h by omega] at q
      omega
    · exact q i hi (by rw [he]; omega)
  have ein : am_u1 e n h n = h := am_u1_s
  have eil : ∀ i : Nat, i < n → am_u1 e n h i = e i := fun i hi => am_u1_n (by omega)
  refine ⟨fun i hi => ?_, fun i j hi hj he => ?_, fun x hx1 hx2 => ?_⟩
  · by_cases hin : i = n
    · rw [hin, ein]; exact ⟨h1, h2⟩
    · rw [eil i (by omega)]; exact g1 i (by omega)
  · by_cases hin : i = n
    · by_cases hjn : j = n
      · omega
      · rw [hin, ein, eil j (by omega)] at he
        exact absurd he.symm (hno j (by omega))
    · by_cases hjn : j = n
      · rw [hjn, ein, eil i (by omega)] at he
        exact absurd he (hno i (by omega))
      · rw [eil i (by omega), eil j (by omega)] at he
        exact g2 i j (by omega) (by omega) he
  · by_cases hxh : (x : Int) = h
    · left
      exact ⟨by rw [hxh]; exact am_u1_s, n, by omega, by rw [ein, hxh]⟩
    · rcases g3 x hx1 hx2 with ⟨q, i, hi, he⟩ | ⟨q, hq⟩
      · left
        exact ⟨by rw [am_u1_n hxh]; exact q, i, by omega, by rw [eil i hi]; exact he⟩
      · right
        refine ⟨by rw [am_u1_n hxh]; exact q, fun i hi he => ?_⟩
        by_cases hin : i = n
        · rw [hin, ein] at he
          exact hxh he.symm
        · rw [eil i (by omega)] at he
          exact hq i (by omega) he
/-- the marks so far: what is found is what is marked, all of it objects with P -/
def xMK (σ0 : St) (P : Int → Prop) (σ : St) (fc : Nat) : Prop :=
  (∀ k, k ≠ 11 → k ≠ 12 → k ≠ 35 → σ k = σ0 k) ∧ σ 11 0 = σ0 11 0 ∧ σ 35 0 = (fc : Int) ∧ pu_en (σ 12) fc (σ 11) ∧ ∀ i : Nat, i < fc → xO σ0 (σ 12 i) ∧ P (σ 12 i)
theorem xMK.m01 {σ0 : St} {P : Int → Prop} {σ : St} {fc : Nat} (h : xMK σ0 P σ fc) {x : Int} (h1 : 1 ≤ x) (h2 : x ≤ 14) : σ 11 x = 0 ∨ σ 11 x = 1 := by
  rcases h.2.2.2.1.2.2 x.toNat (by omega) (by omega) with ⟨q, -⟩ | ⟨q, -⟩
  · rw [show ((x.toNat : Nat) : Int) = x by omega] at q; exact Or.inr q
  · rw [show ((x.toNat : Nat) : Int) = x by omega] at q; exact Or.inl q
theorem xMK.found {σ0 : St} {P : Int → Prop} {σ : St} {fc : Nat} (h : xMK σ0 P σ fc) {x : Int} (h1 : 1 ≤ x) (h2 : x ≤ 14) (hm : σ 11 x = 1) : ∃ i : Nat, i < fc ∧ σ 12 i = x := by
  rcases h.2.2.2.1.2.2 x.toNat (by omega) (by omega) with ⟨-, i, hi, he⟩ | ⟨q, -⟩
  · exact ⟨i, hi, by rw [he]; omega⟩
  · rw [show ((x.toNat : Nat) : Int) = x by omega] at q; omega
theorem xMK.obj {σ0 : St} {P : Int → Prop} {σ : St} {fc : Nat} (h : xMK σ0 P σ fc) {x : Int} : xO σ x ↔ xO σ0 x := by
  unfold xO
  rw [h.1 4 (by decide) (by decide) (by decide)]
section XM
variable {sc : Int → Int} {Q : Ou → St → Nat → Prop} {σ0 : St} {P : Int → Prop}
theorem x_mark {σ : St} {fc : Nat} {h : Int} (hM : xMK σ0 P σ fc) (hP : xO σ0 h → P h)
    (k : ∀ (σ' : St) (fc' : Nat), xMK σ0 P σ' fc' → fc ≤ fc' → (∀ i : Nat, i < fc → σ' 12 i = σ 12 i) → (xO σ0 h → σ' 11 h = 1) → (∀ x, σ 11 x = 1 → σ' 11 x = 1) → Q (.inl none) σ' 0) : am_wp sc 33 0 [.inr (.inl 0), .inl h] [] σ Q := by
  refine b_33_0 h (x_isObject (fun q => am_bi ?_) (fun q => am_bi ?_))
  · have q0 : xO σ0 h := hM.obj.mp q
    have a1 := q.1; have a2 := q.2.1
    refine b_33_5 h 1 (fun h9 => absurd h9 (by decide)) (fun _ => ?_)
    refine b_33_8 h ⟨by omega, by omega⟩ (fun h1 => ?_) (fun h1 => ?_)
    · refine b_33_44 h (k σ fc hM (Nat.le_refl _) (fun _ _ => rfl) (fun _ => ?_) (fun _ z => z))
      rcases hM.m01 a1 a2 with z | z
      · exact absurd z h1
      · exact z
    · have h0 : σ 11 h = 0 := by
        rcases hM.m01 a1 a2 with z | z
        · exact z
        · exact absurd (by rw [z]; decide) h1
      have hadd := pu_en_add hM.2.2.2.1 a1 a2 h0
      have hle := pu_en_le hadd
      have hfc := hM.2.2.1
      refine b_33_17 h ⟨by omega, by omega⟩ ⟨by omega, by omega⟩ ⟨by omega, by omega⟩ (b_33_44 h ?_)
      refine k _ (fc + 1) ⟨fun k h1 h2 h3 => ?_, ?_, ?_, ?_, fun i hi => ?_⟩ (Nat.le_succ _) (fun i hi => ?_) (fun _ => ?_) (fun x hx => ?_)
      · rw [am_up_n h3, am_up_n h2, am_up_n h1]; exact hM.1 k h1 h2 h3
      · show am_u1 (σ 11) h 1 0 = _
        rw [am_u1_n (by omega)]; exact hM.2.1
      · show σ 35 0 + 1 = _
        rw [hfc]; rfl
      · show pu_en (am_u1 (σ 12) (σ 35 0) h) (fc + 1) (am_u1 (σ 11) h 1)
        rw [hfc]; exact hadd
      · show xO σ0 (am_u1 (σ 12) (σ 35 0) h i) ∧ P (am_u1 (σ 12) (σ 35 0) h i)
        rw [hfc]
        by_cases hin : i = fc
        · rw [hin, am_u1_s]; exact ⟨q0, hP q0⟩
        · rw [am_u1_n (by omega)]; exact hM.2.2.2.2 i (by omega)
      · show am_u1 (σ 12) (σ 35 0) h i = _
        rw [hfc, am_u1_n (by omega)]
      · exact am_u1_s
      · show am_u1 (σ 11) h 1 x = 1
        by_cases hxh : x = h
        · rw [hxh]; exact am_u1_s
        · rw [am_u1_n hxh]; exact hx
  · refine b_33_5 h 0 (fun _ => b_33_44 h (k σ fc hM (Nat.le_refl _) (fun _ _ => rfl) (fun z => absurd (hM.obj.mpr z) q) (fun _ z => z))) (fun h9 => absurd rfl h9)
/-- objects lie within the words -/
def xG (σ0 : St) : Prop := ∀ h, xO σ0 h → 0 ≤ σ0 4 h ∧ 0 ≤ σ0 5 h ∧ σ0 5 h ≤ 10 ∧ σ0 4 h + 2 + σ0 5 h ≤ 90
/-- slot s of h is a reference to an object t -/
def xE (σ0 : St) (h s t : Int) : Prop := 0 ≤ s ∧ s < σ0 5 h ∧ σ0 3 (σ0 4 h + 2 + s) = 1 ∧ σ0 2 (σ0 4 h + 2 + s) = t ∧ xO σ0 t
theorem x_spread_in (hg : xG σ0) (hcl : ∀ h s t, xO σ0 h → P h → xE σ0 h s t → P t) {i h : Int} (ho : xO σ0 h) (hPh : P h) {σs : St} {fs : Nat}
    (kk : ∀ (σ' : St) (fc' : Nat) (z3 : Int), xMK σ0 P σ' fc' → fs ≤ fc' → (∀ j : Nat, j < fs → σ' 12 j = σs 12 j) → (∀ x, σs 11 x = 1 → σ' 11 x = 1) → (∀ s t, xE σ0 h s t → σ' 11 t = 1) → am_wp sc 34 64 [.inr (.inl 0), .inl i, .inl h, .inl z3] [] σ' Q) :
    ∀ (d s : Nat), (s : Int) + d = σ0 5 h → ∀ (σ : St) (fc : Nat), xMK σ0 P σ fc → fs ≤ fc → (∀ j : Nat, j < fs → σ 12 j = σs 12 j) → (∀ x, σs 11 x = 1 → σ 11 x = 1) → (∀ s' t, s' < (s : Int) → xE σ0 h s' t → σ 11 t = 1) →
      am_wp sc 34 29 [.inr (.inl 0), .inl i, .inl h, .inl (σ0 4 h + 2 + s)] [] σ Q := by
  intro d
  induction d with
  | zero =>
    intro s hs σ fc hM hfs hpre hmo hdone
    have e4 := hM.1 4 (by decide) (by decide) (by decide)
    have e5 := hM.1 5 (by decide) (by decide) (by decide)
    obtain ⟨g1, g2, g3, g4⟩ := hg h ho
    have a1 := ho.1; have a2 := ho.2.1
    refine b_34_29 i h _ (x_endOf ⟨by omega, by omega⟩ (by rw [e5]; exact ⟨by omega, by omega⟩) (by rw [e4, e5]; exact ⟨by omega, by omega⟩) (am_bi ?_))
    rw [e4, e5]
    refine b_34_35 i h _ _ _ (fun hle => ?_) (fun hlt => absurd (by omega) hlt)
    exact kk σ fc _ hM hfs hpre hmo (fun s' t z => hdone s' t (by have := z.2.1; omega) z)
  | succ d ih =>
    intro s hs σ fc hM hfs hpre hmo hdone
    have e4 := hM.1 4 (by decide) (by decide) (by decide)
    have e5 := hM.1 5 (by decide) (by decide) (by decide)
    have e3 := hM.1 3 (by decide) (by decide) (by decide)
    have e2 := hM.1 2 (by decide) (by decide) (by decide)
    obtain ⟨g1, g2, g3, g4⟩ := hg h ho
    have a1 := ho.1; have a2 := ho.2.1
    have enx : σ0 4 h + 2 + (s : Int) + 1 = σ0 4 h + 2 + ((s + 1 : Nat) : Int) := by omega
    refine b_34_29 i h _ (x_endOf ⟨by omega, by omega⟩ (by rw [e5]; exact ⟨by omega, by omega⟩) (by rw [e4, e5]; exact ⟨by omega, by omega⟩) (am_bi ?_))
    rw [e4, e5]
    refine b_34_35 i h _ _ _ (fun hle => absurd hle (by omega)) (fun hlt => ?_)
    refine b_34_38 i h _ ⟨by omega, by omega⟩ (fun hk => ?_) (fun hk => ?_)
    · refine b_34_58 i h _ ⟨by omega, by omega⟩ ?_
      rw [enx]
      refine ih (s + 1) (by omega) σ fc hM hfs hpre hmo (fun s' t hs' z => ?_)
      by_cases he : s' = (s : Int)
      · exfalso
        rw [e3] at hk
        have := z.2.2.1
        rw [he] at this
        exact hk this
      · exact hdone s' t (by omega) z
    · refine b_34_48 i h _ ⟨by omega, by omega⟩ ?_
      rw [e3] at hk
      rw [e2]
      have hk1 : σ0 3 (σ0 4 h + 2 + (s : Int)) = 1 := by omega
      refine x_mark hM (fun z => hcl h s _ ho hPh ⟨by omega, by omega, hk1, rfl, z⟩) (fun σ' fc' hM' hle' hpre' hmk hmo' => am_bi ?_)
      refine b_34_58 i h _ ⟨by omega, by omega⟩ ?_
      rw [enx]
      refine ih (s + 1) (by omega) σ' fc' hM' (Nat.le_trans hfs hle') (fun j hj => by rw [hpre' j (by omega)]; exact hpre j hj) (fun x hx => hmo' x (hmo x hx)) (fun s' t hs' z => ?_)
      by_cases he : s' = (s : Int)
      · have h5 := z.2.2.2.1
        rw [he] at h5
        rw [← h5]
        exact hmk (by rw [h5]; exact z.2.2.2.2)
      · exact hmo' _ (hdone s' t (by omega) z)
theorem x_spread {σ : St} {fc : Nat} {v1 v2 v3 : AV} (hg : xG σ0) (hcl : ∀ h s t, xO σ0 h → P h → xE σ0 h s t → P t) (hM : xMK σ0 P σ fc)
    (k : ∀ (σ' : St) (fc' : Nat), xMK σ0 P σ' fc' → (∀ x, σ 11 x = 1 → σ' 11 x = 1) → (∀ h s t, 1 ≤ h → h ≤ 14 → σ' 11 h = 1 → xE σ0 h s t → σ' 11 t = 1) → Q (.inl none) σ' 0) : am_wp sc 34 0 [.inr (.inl 0), v1, v2, v3] [] σ Q := by
  have loop : ∀ (d i : Nat), i + d = 14 → ∀ (v2 v3 : AV) (σ1 : St) (f1 : Nat), xMK σ0 P σ1 f1 → (∀ x, σ 11 x = 1 → σ1 11 x = 1) → (∀ j : Nat, j < i → j < f1 → ∀ s t, xE σ0 (σ1 12 j) s t → σ1 11 t = 1) →
      am_wp sc 34 2 [.inr (.inl 0), .inl (i : Int), v2, v3] [] σ1 Q := by
    intro d
    induction d with
    | zero =>
      intro i hi v2 v3 σ1 f1 hM1 hmo hdone
      have hle := pu_en_le hM1.2.2.2.1
      refine b_34_2 _ v2 v3 (fun h1 => ?_) (fun h1 => absurd (by omega) h1)
      refine b_34_70 _ v2 v3 (k σ1 f1 hM1 hmo (fun h s t a1 a2 hm z => ?_))
      obtain ⟨j, hj, he⟩ := hM1.found a1 a2 hm
      exact hdone j (by omega) hj s t (by rw [he]; exact z)
    | succ d ih =>
      intro i hi v2 v3 σ1 f1 hM1 hmo hdone
      have hle := pu_en_le hM1.2.2.2.1
      have hfc := hM1.2.2.1
      refine b_34_2 _ v2 v3 (fun h1 => absurd h1 (by omega)) (fun h1 => ?_)
      refine b_34_8 _ v2 v3 (fun h2 => ?_) (fun h2 => ?_)
      · refine b_34_70 _ v2 v3 (k σ1 f1 hM1 hmo (fun h s t a1 a2 hm z => ?_))
        obtain ⟨j, hj, he⟩ := hM1.found a1 a2 hm
        exact hdone j (by omega) hj s t (by rw [he]; exact z)
      · have hif : i < f1 := by omega
        obtain ⟨ho, hPh⟩ := hM1.2.2.2.2 i hif
        have e4 := hM1.1 4 (by decide) (by decide) (by decide)
        obtain ⟨g1, g2, g3, g4⟩ := hg _ ho
        have a1 := ho.1; have a2 := ho.2.1
        refine b_34_16 _ v2 v3 ⟨by omega, by omega⟩ (b_21_0 _ ⟨by omega, by omega⟩ (by rw [e4]; exact ⟨by omega, by omega⟩) (am_bi ?_))
        rw [e4]
        refine b_34_28 _ _ v3 _ ?_
        have h9 := x_spread_in (sc := sc) (Q := Q) hg hcl (i := (i : Int)) ho hPh (σs := σ1) (fs := f1) (fun σ' fc' z3 hM' hf' hpre' hmo' hall => by
          refine b_34_64 _ _ z3 ⟨by omega, by omega⟩ ?_
          rw [show (i : Int) + 1 = ((i + 1 : Nat) : Int) by omega]
          refine ih (i + 1) (by omega) _ _ σ' fc' hM' (fun x hx => hmo' x (hmo x hx)) (fun j hj hjf s t z => ?_)
          by_cases hji : j = i
          · subst hji
            rw [hpre' j hif] at z
            exact hall s t z
          · rw [hpre' j (by omega)] at z
            exact hmo' t (hdone j (by omega) (by omega) s t z)) (σ0 5 (σ1 12 i)).toNat 0 (by omega) σ1 f1 hM1 (Nat.le_refl _) (fun _ _ => rfl) (fun _ z => z) (fun s' t hs' z => absurd z.1 (by omega))
        rw [show σ0 4 (σ1 12 (i : Int)) + 2 + ((0 : Nat) : Int) = σ0 4 (σ1 12 (i : Int)) + 2 by omega] at h9
        exact h9
  exact b_34_0 v1 v2 v3 (loop 14 0 rfl v2 v3 σ fc hM (fun _ z => z) (fun j hj => absurd hj (Nat.not_lt_zero j)))
end XM
end
section
/-! what is live, as the class has it -/
/-- the least closed set with the sources -/
def xL (σ0 : St) (src : Int → Prop) (h : Int) : Prop := ∀ P : Int → Prop, (∀ x, src x → P x) → (∀ h s t, xO σ0 h → P h → xE σ0 h s t → P t) → P h
theorem xL.src {σ0 : St} {src : Int → Prop} {h : Int} (H : src h) : xL σ0 src h := fun _ h1 _ => h1 h H
theorem xL.step {σ0 : St} {src : Int → Prop} (h s t : Int) (ho : xO σ0 h) (H : xL σ0 src h) (e : xE σ0 h s t) : xL σ0 src t := fun P h1 h2 => h2 h s t ho (H P h1 h2) e
theorem xL.mono {σ0 : St} {src src2 : Int → Prop} {h : Int} (H : xL σ0 src h) (hs : ∀ x, src x → src2 x) : xL σ0 src2 h := fun P h1 h2 => H P (fun x hx => h1 x (hs x hx)) h2
theorem xMK.mono {σ0 : St} {P P2 : Int → Prop} {σ : St} {fc : Nat} (h : xMK σ0 P σ fc) (hp : ∀ x, P x → P2 x) : xMK σ0 P2 σ fc := ⟨h.1, h.2.1, h.2.2.1, h.2.2.2.1, fun i hi => ⟨(h.2.2.2.2 i hi).1, hp _ (h.2.2.2.2 i hi).2⟩⟩
/-- in the roots or in the queue -/
def xsrc (σ0 : St) (h : Int) : Prop := (∃ i : Int, 0 ≤ i ∧ i < σ0 32 0 ∧ σ0 9 i = h) ∨ ∃ i : Int, 0 ≤ i ∧ i < σ0 33 0 ∧ σ0 10 i = h
section XL
variable {sc : Int → Int} {Q : Ou → St → Nat → Prop} {σ0 : St}
theorem x_markLive {v1 : AV} (hg : xG σ0) (hr : 0 ≤ σ0 32 0 ∧ σ0 32 0 ≤ 10) (hq : 0 ≤ σ0 33 0 ∧ σ0 33 0 ≤ 14) (hso : ∀ h, xsrc σ0 h → xO σ0 h)
    (k : ∀ (σ' : St) (fc' : Nat), xMK σ0 (xL σ0 (xsrc σ0)) σ' fc' → (∀ h, xL σ0 (xsrc σ0) h → σ' 11 h = 1) → Q (.inl none) σ' 0) : am_wp sc 31 0 [.inr (.inl 0), v1] [] σ0 Q := by
  -- behind the third loop
  have l4 : ∀ (z1 : Int) (σ1 : St) (f1 : Nat), xMK σ0 (xL σ0 (xsrc σ0)) σ1 f1 → (∀ h, xsrc σ0 h → σ1 11 h = 1) → am_wp sc 31 78 [.inr (.inl 0), .inl z1] [] σ1 Q := by
    intro z1 σ1 f1 hM hs
    refine b_31_78 z1 (x_spread hg (fun h s t ho hP e => xL.step h s t ho hP e) hM (fun σ' fc' hM' hmo hcl => am_bi (b_31_82 z1 (k σ' fc' hM' (fun h H => ?_)))))
    exact H (fun x => σ' 11 x = 1) (fun x hx => hmo x (hs x hx)) (fun h s t ho hm e => hcl h s t ho.1 ho.2.1 hm e)
  have l3 : ∀ (d : Nat) (z : Int), 0 ≤ z → z + d = σ0 33 0 → ∀ (σ1 : St) (f1 : Nat), xMK σ0 (xL σ0 (xsrc σ0)) σ1 f1 → (∀ i : Int, 0 ≤ i → i < σ0 32 0 → σ1 11 (σ0 9 i) = 1) → (∀ i : Int, 0 ≤ i → i < z → σ1 11 (σ0 10 i) = 1) → am_wp sc 31 54 [.inr (.inl 0), .inl z] [] σ1 Q := by
    intro d
    induction d with
    | zero =>
      intro z hz hd σ1 f1 hM h1 h2
      have e33 := hM.1 33 (by decide) (by decide) (by decide)
      refine b_31_54 z (fun h3 => l4 z σ1 f1 hM (fun h hs => ?_)) (fun h3 => absurd (by rw [e33]; omega) h3)
      rcases hs with ⟨i, a, b, rfl⟩ | ⟨i, a, b, rfl⟩
      · exact h1 i a b
      · exact h2 i a (by omega)
    | succ d ih =>
      intro z hz hd σ1 f1 hM h1 h2
      have e33 := hM.1 33 (by decide) (by decide) (by decide)
      have e10 := hM.1 10 (by decide) (by decide) (by decide)
      refine b_31_54 z (fun h3 => absurd h3 (by rw [e33]; omega)) (fun h3 => ?_)
      refine b_31_62 z ⟨by omega, by omega⟩ ?_
      rw [e10]
      have hsz : xsrc σ0 (σ0 10 z) := Or.inr ⟨z, by omega, by omega, rfl⟩
      refine x_mark hM (fun _ => xL.src hsz) (fun σ' fc' hM' _ _ hmk hmo => am_bi (b_31_72 z ⟨by omega, by omega⟩ ?_))
      refine ih (z + 1) (by omega) (by omega) σ' fc' hM' (fun i a b => hmo _ (h1 i a b)) (fun i a b => ?_)
      by_cases hiz : i = z
      · rw [hiz]; exact hmk (hso _ hsz)
      · exact hmo _ (h2 i a (by omega))
  have l2 : ∀ (d : Nat) (z : Int), 0 ≤ z → z + d = σ0 32 0 → ∀ (σ1 : St) (f1 : Nat), xMK σ0 (xL σ0 (xsrc σ0)) σ1 f1 → (∀ i : Int, 0 ≤ i → i < z → σ1 11 (σ0 9 i) = 1) → am_wp sc 31 28 [.inr (.inl 0), .inl z] [] σ1 Q := by
    intro d
    induction d with
    | zero =>
      intro z hz hd σ1 f1 hM h1
      have e32 := hM.1 32 (by decide) (by decide) (by decide)
      refine b_31_28 z (fun h3 => ?_) (fun h3 => absurd (by rw [e32]; omega) h3)
      refine b_31_52 z (l3 (σ0 33 0).toNat 0 (by omega) (by omega) σ1 f1 hM (fun i a b => h1 i a (by omega)) (fun i a b => absurd a (by omega)))
    | succ d ih =>
      intro z hz hd σ1 f1 hM h1
      have e32 := hM.1 32 (by decide) (by decide) (by decide)
      have e9 := hM.1 9 (by decide) (by decide) (by decide)
      refine b_31_28 z (fun h3 => absurd h3 (by rw [e32]; omega)) (fun h3 => ?_)
      refine b_31_36 z ⟨by omega, by omega⟩ ?_
      rw [e9]
      have hsz : xsrc σ0 (σ0 9 z) := Or.inl ⟨z, by omega, by omega, rfl⟩
      refine x_mark hM (fun _ => xL.src hsz) (fun σ' fc' hM' _ _ hmk hmo => am_bi (b_31_46 z ⟨by omega, by omega⟩ ?_))
      refine ih (z + 1) (by omega) (by omega) σ' fc' hM' (fun i a b => ?_)
      by_cases hiz : i = z
      · rw [hiz]; exact hmk (hso _ hsz)
      · exact hmo _ (h1 i a (by omega))
  have l1 : ∀ (d : Nat) (z : Int), 1 ≤ z → z + d = 15 → ∀ σ1 : St, (∀ k, k ≠ 11 → σ1 k = σ0 k) → σ1 11 0 = σ0 11 0 → (∀ x, 1 ≤ x → x < z → σ1 11 x = 0) → am_wp sc 31 2 [.inr (.inl 0), .inl z] [] σ1 Q := by
    intro d
    induction d with
    | zero =>
      intro z hz hd σ1 hf h0 hc
      refine b_31_2 z (fun _ => ?_) (fun h3 => absurd (by omega) h3)
      refine b_31_21 z (l2 (σ0 32 0).toNat 0 (by omega) (by omega) _ 0 ⟨fun k h1 h2 h3 => ?_, h0, rfl, ⟨fun i hi => absurd hi (Nat.not_lt_zero i), fun i j hi => absurd hi (Nat.not_lt_zero i), fun x hx1 hx2 => Or.inr ⟨?_, fun i hi => absurd hi (Nat.not_lt_zero i)⟩⟩, fun i hi => absurd hi (Nat.not_lt_zero i)⟩ (fun i a b => absurd a (by omega)))
      · rw [am_up_n h3]; exact hf k h1
      · exact hc x (by omega) (by omega)
    | succ d ih =>
      intro z hz hd σ1 hf h0 hc
      refine b_31_2 z (fun h3 => absurd h3 (by omega)) (fun _ => ?_)
      refine b_31_8 z ⟨by omega, by omega⟩ ⟨by omega, by omega⟩ (ih (z + 1) (by omega) (by omega) _ (fun k h1 => ?_) ?_ (fun x a b => ?_))
      · rw [am_up_n h1]; exact hf k h1
      · show am_u1 (σ1 11) z 0 0 = _
        rw [am_u1_n (by omega)]; exact h0
      · show am_u1 (σ1 11) z 0 x = 0
        by_cases hxz : x = z
        · rw [hxz]; exact am_u1_s
        · rw [am_u1_n hxz]; exact hc x a (by omega)
  exact b_31_0 v1 (l1 14 1 (by omega) (by omega) σ0 (fun _ _ => rfl) rfl (fun x a b => absurd a (by omega)))
/-- those, and what has rites -/
def xsrc2 (σ0 : St) (h : Int) : Prop := xsrc σ0 h ∨ (xO σ0 h ∧ σ0 7 h ≠ 0)
theorem x_markSurvivors {v1 : AV} (hg : xG σ0) (hr : 0 ≤ σ0 32 0 ∧ σ0 32 0 ≤ 10) (hq : 0 ≤ σ0 33 0 ∧ σ0 33 0 ≤ 14) (hso : ∀ h, xsrc σ0 h → xO σ0 h)
    (k : ∀ (σ' : St) (fc' : Nat), xMK σ0 (xL σ0 (xsrc2 σ0)) σ' fc' → (∀ h, xL σ0 (xsrc2 σ0) h → σ' 11 h = 1) → Q (.inl none) σ' 0) : am_wp sc 32 0 [.inr (.inl 0), v1] [] σ0 Q := by
  refine b_32_0 v1 (x_markLive hg hr hq hso (fun σa fa hMa hLa => am_bi (b_32_4 v1 ?_)))
  have loop : ∀ (d : Nat) (z : Int), 1 ≤ z → z + d = 15 → ∀ (σ1 : St) (f1 : Nat), xMK σ0 (xL σ0 (xsrc2 σ0)) σ1 f1 → (∀ h, xsrc σ0 h → σ1 11 h = 1) → (∀ x, x < z → xO σ0 x → σ0 7 x ≠ 0 → σ1 11 x = 1) → am_wp sc 32 6 [.inr (.inl 0), .inl z] [] σ1 Q := by
    intro d
    induction d with
    | zero =>
      intro z hz hd σ1 f1 hM h1 h2
      refine b_32_6 z (fun _ => ?_) (fun h3 => absurd (by omega) h3)
      refine b_32_32 z (x_spread hg (fun h s t ho hP e => xL.step h s t ho hP e) hM (fun σ' fc' hM' hmo hcl => am_bi (b_32_36 z (k σ' fc' hM' (fun h H => ?_)))))
      refine H (fun x => σ' 11 x = 1) (fun x hx => hmo x ?_) (fun h s t ho hm e => hcl h s t ho.1 ho.2.1 hm e)
      rcases hx with hx | ⟨a, b⟩
      · exact h1 x hx
      · exact h2 x (by have := a.2.1; omega) a b
    | succ d ih =>
      intro z hz hd σ1 f1 hM h1 h2
      have e7 := hM.1 7 (by decide) (by decide) (by decide)
      refine b_32_6 z (fun h3 => absurd h3 (by omega)) (fun _ => ?_)
      refine b_32_12 z ⟨by omega, by omega⟩ (fun h4 => ?_) (fun h4 => ?_)
      · refine b_32_26 z ⟨by omega, by omega⟩ (ih (z + 1) (by omega) (by omega) σ1 f1 hM h1 (fun x a b c => ?_))
        by_cases hxz : x = z
        · rw [e7, ← hxz] at h4; exact absurd h4 c
        · exact h2 x (by omega) b c
      · rw [e7] at h4
        refine b_32_21 z (x_mark hM (fun ho => xL.src (Or.inr ⟨ho, h4⟩)) (fun σ' fc' hM' _ _ hmk hmo => am_bi (b_32_26 z ⟨by omega, by omega⟩ ?_)))
        refine ih (z + 1) (by omega) (by omega) σ' fc' hM' (fun h hs => hmo _ (h1 h hs)) (fun x a b c => ?_)
        by_cases hxz : x = z
        · rw [hxz] at b ⊢; exact hmk b
        · exact hmo _ (h2 x (by omega) b c)
  exact loop 14 1 (by omega) (by omega) σa fa (hMa.mono (fun x hx => hx.mono (fun y hy => Or.inl hy))) (fun h hs => hLa h (xL.src hs)) (fun x a b _ => absurd b.1 (by omega))
theorem x_markedWords {P : Int → Prop} {σ : St} {fc : Nat} {v1 v2 : AV} (hg : xG σ0) (hM : xMK σ0 P σ fc) (k : Q (.inl (some (pu_s (fun i => σ0 5 (σ 12 i) + 2) fc))) σ 0) : am_wp sc 35 0 [.inr (.inl 0), v1, v2] [] σ Q := by
  have hle := pu_en_le hM.2.2.2.1
  have hfc := hM.2.2.1
  have e5 := hM.1 5 (by decide) (by decide) (by decide)
  have hb : ∀ i : Nat, i ≤ fc → 0 ≤ pu_s (fun i => σ0 5 (σ 12 i) + 2) i ∧ pu_s (fun i => σ0 5 (σ 12 i) + 2) i ≤ 12 * i := by
    intro i
    induction i with
    | zero => intro _; exact ⟨by show (0 : Int) ≤ 0; omega, by show (0 : Int) ≤ _; omega⟩
    | succ i ih =>
      intro hi
      have h1 := ih (by omega)
      have h2 := hg _ (hM.2.2.2.2 i (by omega)).1
      show 0 ≤ pu_s (fun i => σ0 5 (σ 12 i) + 2) i + (σ0 5 (σ 12 i) + 2) ∧ pu_s (fun i => σ0 5 (σ 12 i) + 2) i + (σ0 5 (σ 12 i) + 2) ≤ _
      omega
  have loop : ∀ (d i : Nat), i + d = fc → am_wp sc 35 4 [.inr (.inl 0), .inl (pu_s (fun i => σ0 5 (σ 12 i) + 2) i), .inl (i : Int)] [] σ Q := by
    intro d
    induction d with
    | zero =>
      intro i hi
      refine b_35_4 _ _ (fun _ => b_35_31 _ _ ?_) (fun h3 => absurd (by rw [hfc]; omega) h3)
      rw [show i = fc by omega]; exact k
    | succ d ih =>
      intro i hi
      have h2 := hM.2.2.2.2 i (by omega)
      have h3 := hg _ h2.1
      have h4 := hb i (by omega)
      have a1 := h2.1.1; have a2 := h2.1.2.1
      refine b_35_4 _ _ (fun h5 => absurd h5 (by rw [hfc]; omega)) (fun _ => ?_)
      refine b_35_12 _ _ ⟨by omega, by omega⟩ (b_22_0 _ ⟨by omega, by omega⟩ (by rw [e5]; exact ⟨by omega, by omega⟩) (am_bi ?_))
      rw [e5]
      refine b_35_23 _ _ _ _ ⟨by omega, by omega⟩ ⟨by omega, by omega⟩ ?_
      rw [show (i : Int) + 1 = ((i + 1 : Nat) : Int) by omega]
      exact ih (i + 1) (by omega)
  exact b_35_0 v1 v2 (loop fc 0 (by omega))
end XL
end
