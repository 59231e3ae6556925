section
-- ===== PART A: goes FIRST, ahead of the names: the tables' words, and 'selects' of the private methods out of them =====
/-- a private method of a class that the tables say can be made, by its rows of tables_1 -/
def lw_okq (q : MethodName × Nat) : Prop := (q.1.cls ≠ "java/lang/invoke/MethodHandle" ∧ q.1.cls ≠ "java/lang/invoke/VarHandle") ∧ Cond.instantiable q.1.cls q.2 ∈ tables_1 ∧ Cond.privateMethod q.1 ∈ tables_1 ∧ Cond.instanceMethod q.1 ∈ tables_1
theorem lw_p0 : lw_okq (⟨"BurnedDown", "refuse", "(I)I"⟩, 11) := ⟨⟨by decide +kernel, by decide +kernel⟩, List.mem_of_getElem? (i := 15) (by decide +kernel), List.mem_of_getElem? (i := 260) (by decide +kernel), List.mem_of_getElem? (i := 261) (by decide +kernel)⟩
theorem lw_p1 : lw_okq (⟨"BurnedDown$Tape", "take", "(IJ)I"⟩, 6) := ⟨⟨by decide +kernel, by decide +kernel⟩, List.mem_of_getElem? (i := 140) (by decide +kernel), List.mem_of_getElem? (i := 270) (by decide +kernel), List.mem_of_getElem? (i := 271) (by decide +kernel)⟩
theorem lw_p2 : lw_okq (⟨"BurnedDown$Tape", "read", "()I"⟩, 6) := ⟨⟨by decide +kernel, by decide +kernel⟩, List.mem_of_getElem? (i := 140) (by decide +kernel), List.mem_of_getElem? (i := 279) (by decide +kernel), List.mem_of_getElem? (i := 280) (by decide +kernel)⟩
theorem lw_p3 : lw_okq (⟨"BurnedDown$Tape", "byteHere", "()I"⟩, 6) := ⟨⟨by decide +kernel, by decide +kernel⟩, List.mem_of_getElem? (i := 140) (by decide +kernel), List.mem_of_getElem? (i := 283) (by decide +kernel), List.mem_of_getElem? (i := 284) (by decide +kernel)⟩
theorem lw_p4 : lw_okq (⟨"BurnedDown$Tape", "readNumber", "(I)I"⟩, 6) := ⟨⟨by decide +kernel, by decide +kernel⟩, List.mem_of_getElem? (i := 140) (by decide +kernel), List.mem_of_getElem? (i := 291) (by decide +kernel), List.mem_of_getElem? (i := 292) (by decide +kernel)⟩
theorem lw_p5 : lw_okq (⟨"BurnedDown$Things", "add", "(III)I"⟩, 7) := ⟨⟨by decide +kernel, by decide +kernel⟩, List.mem_of_getElem? (i := 29) (by decide +kernel), List.mem_of_getElem? (i := 295) (by decide +kernel), List.mem_of_getElem? (i := 296) (by decide +kernel)⟩
theorem lw_p6 : lw_okq (⟨"BurnedDown$Things", "tie", "(IIII)I"⟩, 7) := ⟨⟨by decide +kernel, by decide +kernel⟩, List.mem_of_getElem? (i := 29) (by decide +kernel), List.mem_of_getElem? (i := 300) (by decide +kernel), List.mem_of_getElem? (i := 301) (by decide +kernel)⟩
theorem lw_p7 : lw_okq (⟨"BurnedDown", "isThing", "(I)Z"⟩, 11) := ⟨⟨by decide +kernel, by decide +kernel⟩, List.mem_of_getElem? (i := 15) (by decide +kernel), List.mem_of_getElem? (i := 308) (by decide +kernel), List.mem_of_getElem? (i := 309) (by decide +kernel)⟩
theorem lw_p8 : lw_okq (⟨"BurnedDown$Against", "forget", "()V"⟩, 2) := ⟨⟨by decide +kernel, by decide +kernel⟩, List.mem_of_getElem? (i := 169) (by decide +kernel), List.mem_of_getElem? (i := 316) (by decide +kernel), List.mem_of_getElem? (i := 317) (by decide +kernel)⟩
theorem lw_p9 : lw_okq (⟨"BurnedDown$World", "shut", "()V"⟩, 9) := ⟨⟨by decide +kernel, by decide +kernel⟩, List.mem_of_getElem? (i := 23) (by decide +kernel), List.mem_of_getElem? (i := 324) (by decide +kernel), List.mem_of_getElem? (i := 325) (by decide +kernel)⟩
theorem lw_p10 : lw_okq (⟨"BurnedDown$World", "open", "(II)V"⟩, 9) := ⟨⟨by decide +kernel, by decide +kernel⟩, List.mem_of_getElem? (i := 23) (by decide +kernel), List.mem_of_getElem? (i := 328) (by decide +kernel), List.mem_of_getElem? (i := 329) (by decide +kernel)⟩
theorem lw_p11 : lw_okq (⟨"BurnedDown$World", "addCandidate", "(II)I"⟩, 9) := ⟨⟨by decide +kernel, by decide +kernel⟩, List.mem_of_getElem? (i := 23) (by decide +kernel), List.mem_of_getElem? (i := 337) (by decide +kernel), List.mem_of_getElem? (i := 338) (by decide +kernel)⟩
theorem lw_p12 : lw_okq (⟨"BurnedDown$World", "leftAfter", "(III)I"⟩, 9) := ⟨⟨by decide +kernel, by decide +kernel⟩, List.mem_of_getElem? (i := 23) (by decide +kernel), List.mem_of_getElem? (i := 346) (by decide +kernel), List.mem_of_getElem? (i := 347) (by decide +kernel)⟩
theorem lw_p13 : lw_okq (⟨"BurnedDown$World", "minutesInWindow", "(II)I"⟩, 9) := ⟨⟨by decide +kernel, by decide +kernel⟩, List.mem_of_getElem? (i := 23) (by decide +kernel), List.mem_of_getElem? (i := 354) (by decide +kernel), List.mem_of_getElem? (i := 355) (by decide +kernel)⟩
theorem lw_p14 : lw_okq (⟨"BurnedDown$World", "nearing", "(IIIII)I"⟩, 9) := ⟨⟨by decide +kernel, by decide +kernel⟩, List.mem_of_getElem? (i := 23) (by decide +kernel), List.mem_of_getElem? (i := 361) (by decide +kernel), List.mem_of_getElem? (i := 362) (by decide +kernel)⟩
theorem lw_p15 : lw_okq (⟨"BurnedDown$World", "nearer", "(II)I"⟩, 9) := ⟨⟨by decide +kernel, by decide +kernel⟩, List.mem_of_getElem? (i := 23) (by decide +kernel), List.mem_of_getElem? (i := 365) (by decide +kernel), List.mem_of_getElem? (i := 366) (by decide +kernel)⟩
def lw_privs_1 : List (MethodName × Nat) := [(⟨"BurnedDown", "refuse", "(I)I"⟩, 11), (⟨"BurnedDown$Tape", "take", "(IJ)I"⟩, 6), (⟨"BurnedDown$Tape", "read", "()I"⟩, 6), (⟨"BurnedDown$Tape", "byteHere", "()I"⟩, 6), (⟨"BurnedDown$Tape", "readNumber", "(I)I"⟩, 6), (⟨"BurnedDown$Things", "add", "(III)I"⟩, 7), (⟨"BurnedDown$Things", "tie", "(IIII)I"⟩, 7), (⟨"BurnedDown", "isThing", "(I)Z"⟩, 11), (⟨"BurnedDown$Against", "forget", "()V"⟩, 2), (⟨"BurnedDown$World", "shut", "()V"⟩, 9), (⟨"BurnedDown$World", "open", "(II)V"⟩, 9), (⟨"BurnedDown$World", "addCandidate", "(II)I"⟩, 9), (⟨"BurnedDown$World", "leftAfter", "(III)I"⟩, 9), (⟨"BurnedDown$World", "minutesInWindow", "(II)I"⟩, 9), (⟨"BurnedDown$World", "nearing", "(IIIII)I"⟩, 9), (⟨"BurnedDown$World", "nearer", "(II)I"⟩, 9)]
theorem lw_r1 : ∀ q ∈ lw_privs_1, lw_okq q := List.forall_mem_cons.mpr ⟨lw_p0, List.forall_mem_cons.mpr ⟨lw_p1, List.forall_mem_cons.mpr ⟨lw_p2, List.forall_mem_cons.mpr ⟨lw_p3, List.forall_mem_cons.mpr ⟨lw_p4, List.forall_mem_cons.mpr ⟨lw_p5, List.forall_mem_cons.mpr ⟨lw_p6, List.forall_mem_cons.mpr ⟨lw_p7, List.forall_mem_cons.mpr ⟨lw_p8, List.forall_mem_cons.mpr ⟨lw_p9, List.forall_mem_cons.mpr ⟨lw_p10, List.forall_mem_cons.mpr ⟨lw_p11, List.forall_mem_cons.mpr ⟨lw_p12, List.forall_mem_cons.mpr ⟨lw_p13, List.forall_mem_cons.mpr ⟨lw_p14, List.forall_mem_cons.mpr ⟨lw_p15, fun _ h => absurd h List.not_mem_nil⟩⟩⟩⟩⟩⟩⟩⟩⟩⟩⟩⟩⟩⟩⟩⟩
theorem lw_p16 : lw_okq (⟨"BurnedDown$World", "inWindow", "(I)Z"⟩, 9) := ⟨⟨by decide +kernel, by decide +kernel⟩, List.mem_of_getElem? (i := 23) (by decide +kernel), List.mem_of_getElem? (i := 369) (by decide +kernel), List.mem_of_getElem? (i := 370) (by decide +kernel)⟩
theorem lw_p17 : lw_okq (⟨"BurnedDown$Looks", "add", "(IIII)I"⟩, 6) := ⟨⟨by decide +kernel, by decide +kernel⟩, List.mem_of_getElem? (i := 68) (by decide +kernel), List.mem_of_getElem? (i := 377) (by decide +kernel), List.mem_of_getElem? (i := 378) (by decide +kernel)⟩
theorem lw_p18 : lw_okq (⟨"BurnedDown$Looks", "mark", "(IZ)Z"⟩, 6) := ⟨⟨by decide +kernel, by decide +kernel⟩, List.mem_of_getElem? (i := 68) (by decide +kernel), List.mem_of_getElem? (i := 386) (by decide +kernel), List.mem_of_getElem? (i := 387) (by decide +kernel)⟩
theorem lw_p19 : lw_okq (⟨"BurnedDown$Against", "learn", "(LBurnedDown$World;)V"⟩, 2) := ⟨⟨by decide +kernel, by decide +kernel⟩, List.mem_of_getElem? (i := 169) (by decide +kernel), List.mem_of_getElem? (i := 402) (by decide +kernel), List.mem_of_getElem? (i := 403) (by decide +kernel)⟩
theorem lw_p20 : lw_okq (⟨"BurnedDown$Against", "learnLook", "(LBurnedDown$World;I)V"⟩, 2) := ⟨⟨by decide +kernel, by decide +kernel⟩, List.mem_of_getElem? (i := 169) (by decide +kernel), List.mem_of_getElem? (i := 406) (by decide +kernel), List.mem_of_getElem? (i := 407) (by decide +kernel)⟩
theorem lw_p21 : lw_okq (⟨"BurnedDown$World", "fillLefts", "(II)V"⟩, 9) := ⟨⟨by decide +kernel, by decide +kernel⟩, List.mem_of_getElem? (i := 23) (by decide +kernel), List.mem_of_getElem? (i := 411) (by decide +kernel), List.mem_of_getElem? (i := 412) (by decide +kernel)⟩
theorem lw_p22 : lw_okq (⟨"BurnedDown$World", "fillToward", "(II)V"⟩, 9) := ⟨⟨by decide +kernel, by decide +kernel⟩, List.mem_of_getElem? (i := 23) (by decide +kernel), List.mem_of_getElem? (i := 415) (by decide +kernel), List.mem_of_getElem? (i := 416) (by decide +kernel)⟩
theorem lw_p23 : lw_okq (⟨"BurnedDown$Against", "speaking", "(LBurnedDown$World;II)I"⟩, 2) := ⟨⟨by decide +kernel, by decide +kernel⟩, List.mem_of_getElem? (i := 169) (by decide +kernel), List.mem_of_getElem? (i := 421) (by decide +kernel), List.mem_of_getElem? (i := 422) (by decide +kernel)⟩
theorem lw_p24 : lw_okq (⟨"BurnedDown", "waysWithout", "(I)J"⟩, 11) := ⟨⟨by decide +kernel, by decide +kernel⟩, List.mem_of_getElem? (i := 15) (by decide +kernel), List.mem_of_getElem? (i := 433) (by decide +kernel), List.mem_of_getElem? (i := 434) (by decide +kernel)⟩
theorem lw_p25 : lw_okq (⟨"BurnedDown", "setCounts", "(I)V"⟩, 11) := ⟨⟨by decide +kernel, by decide +kernel⟩, List.mem_of_getElem? (i := 15) (by decide +kernel), List.mem_of_getElem? (i := 437) (by decide +kernel), List.mem_of_getElem? (i := 438) (by decide +kernel)⟩
theorem lw_p26 : lw_okq (⟨"BurnedDown$Gathering", "set", "(IIJ)V"⟩, 3) := ⟨⟨by decide +kernel, by decide +kernel⟩, List.mem_of_getElem? (i := 182) (by decide +kernel), List.mem_of_getElem? (i := 441) (by decide +kernel), List.mem_of_getElem? (i := 442) (by decide +kernel)⟩
theorem lw_p27 : lw_okq (⟨"BurnedDown$Gathering", "gather", "(LBurnedDown$Things;ILBurnedDown$Reckoning;)V"⟩, 3) := ⟨⟨by decide +kernel, by decide +kernel⟩, List.mem_of_getElem? (i := 182) (by decide +kernel), List.mem_of_getElem? (i := 448) (by decide +kernel), List.mem_of_getElem? (i := 449) (by decide +kernel)⟩
theorem lw_p28 : lw_okq (⟨"BurnedDown$Gathering", "findPath", "(LBurnedDown$Things;I)V"⟩, 3) := ⟨⟨by decide +kernel, by decide +kernel⟩, List.mem_of_getElem? (i := 182) (by decide +kernel), List.mem_of_getElem? (i := 452) (by decide +kernel), List.mem_of_getElem? (i := 453) (by decide +kernel)⟩
theorem lw_p29 : lw_okq (⟨"BurnedDown$Gathering", "onPath", "(I)Z"⟩, 3) := ⟨⟨by decide +kernel, by decide +kernel⟩, List.mem_of_getElem? (i := 182) (by decide +kernel), List.mem_of_getElem? (i := 458) (by decide +kernel), List.mem_of_getElem? (i := 459) (by decide +kernel)⟩
theorem lw_p30 : lw_okq (⟨"BurnedDown$Gathering", "bring", "(LBurnedDown$Things;IZLBurnedDown$Reckoning;)V"⟩, 3) := ⟨⟨by decide +kernel, by decide +kernel⟩, List.mem_of_getElem? (i := 182) (by decide +kernel), List.mem_of_getElem? (i := 462) (by decide +kernel), List.mem_of_getElem? (i := 463) (by decide +kernel)⟩
theorem lw_p31 : lw_okq (⟨"BurnedDown$Things", "lowest", "(IIZ)I"⟩, 7) := ⟨⟨by decide +kernel, by decide +kernel⟩, List.mem_of_getElem? (i := 29) (by decide +kernel), List.mem_of_getElem? (i := 484) (by decide +kernel), List.mem_of_getElem? (i := 485) (by decide +kernel)⟩
def lw_privs_2 : List (MethodName × Nat) := [(⟨"BurnedDown$World", "inWindow", "(I)Z"⟩, 9), (⟨"BurnedDown$Looks", "add", "(IIII)I"⟩, 6), (⟨"BurnedDown$Looks", "mark", "(IZ)Z"⟩, 6), (⟨"BurnedDown$Against", "learn", "(LBurnedDown$World;)V"⟩, 2), (⟨"BurnedDown$Against", "learnLook", "(LBurnedDown$World;I)V"⟩, 2), (⟨"BurnedDown$World", "fillLefts", "(II)V"⟩, 9), (⟨"BurnedDown$World", "fillToward", "(II)V"⟩, 9), (⟨"BurnedDown$Against", "speaking", "(LBurnedDown$World;II)I"⟩, 2), (⟨"BurnedDown", "waysWithout", "(I)J"⟩, 11), (⟨"BurnedDown", "setCounts", "(I)V"⟩, 11), (⟨"BurnedDown$Gathering", "set", "(IIJ)V"⟩, 3), (⟨"BurnedDown$Gathering", "gather", "(LBurnedDown$Things;ILBurnedDown$Reckoning;)V"⟩, 3), (⟨"BurnedDown$Gathering", "findPath", "(LBurnedDown$Things;I)V"⟩, 3), (⟨"BurnedDown$Gathering", "onPath", "(I)Z"⟩, 3), (⟨"BurnedDown$Gathering", "bring", "(LBurnedDown$Things;IZLBurnedDown$Reckoning;)V"⟩, 3), (⟨"BurnedDown$Things", "lowest", "(IIZ)I"⟩, 7)]
theorem lw_r2 : ∀ q ∈ lw_privs_2, lw_okq q := List.forall_mem_cons.mpr ⟨lw_p16, List.forall_mem_cons.mpr ⟨lw_p17, List.forall_mem_cons.mpr ⟨lw_p18, List.forall_mem_cons.mpr ⟨lw_p19, List.forall_mem_cons.mpr ⟨lw_p20, List.forall_mem_cons.mpr ⟨lw_p21, List.forall_mem_cons.mpr ⟨lw_p22, List.forall_mem_cons.mpr ⟨lw_p23, List.forall_mem_cons.mpr ⟨lw_p24, List.forall_mem_cons.mpr ⟨lw_p25, List.forall_mem_cons.mpr ⟨lw_p26, List.forall_mem_cons.mpr ⟨lw_p27, List.forall_mem_cons.mpr ⟨lw_p28, List.forall_mem_cons.mpr ⟨lw_p29, List.forall_mem_cons.mpr ⟨lw_p30, List.forall_mem_cons.mpr ⟨lw_p31, fun _ h => absurd h List.not_mem_nil⟩⟩⟩⟩⟩⟩⟩⟩⟩⟩⟩⟩⟩⟩⟩⟩
theorem lw_p32 : lw_okq (⟨"BurnedDown$Things", "highest", "(IIZ)I"⟩, 7) := ⟨⟨by decide +kernel, by decide +kernel⟩, List.mem_of_getElem? (i := 29) (by decide +kernel), List.mem_of_getElem? (i := 489) (by decide +kernel), List.mem_of_getElem? (i := 490) (by decide +kernel)⟩
theorem lw_p33 : lw_okq (⟨"BurnedDown$Gathering", "value", "(II)J"⟩, 3) := ⟨⟨by decide +kernel, by decide +kernel⟩, List.mem_of_getElem? (i := 182) (by decide +kernel), List.mem_of_getElem? (i := 524) (by decide +kernel), List.mem_of_getElem? (i := 525) (by decide +kernel)⟩
theorem lw_p34 : lw_okq (⟨"BurnedDown$Gathering", "bringAll", "(IILBurnedDown$Reckoning;)V"⟩, 3) := ⟨⟨by decide +kernel, by decide +kernel⟩, List.mem_of_getElem? (i := 182) (by decide +kernel), List.mem_of_getElem? (i := 539) (by decide +kernel), List.mem_of_getElem? (i := 540) (by decide +kernel)⟩
theorem lw_p35 : lw_okq (⟨"BurnedDown$Gathering", "together", "(ILBurnedDown$Reckoning;)J"⟩, 3) := ⟨⟨by decide +kernel, by decide +kernel⟩, List.mem_of_getElem? (i := 182) (by decide +kernel), List.mem_of_getElem? (i := 543) (by decide +kernel), List.mem_of_getElem? (i := 544) (by decide +kernel)⟩
theorem lw_p36 : lw_okq (⟨"BurnedDown", "countWaysOf", "(I)V"⟩, 11) := ⟨⟨by decide +kernel, by decide +kernel⟩, List.mem_of_getElem? (i := 15) (by decide +kernel), List.mem_of_getElem? (i := 553) (by decide +kernel), List.mem_of_getElem? (i := 554) (by decide +kernel)⟩
theorem lw_p37 : lw_okq (⟨"BurnedDown", "runStart", "(II)I"⟩, 11) := ⟨⟨by decide +kernel, by decide +kernel⟩, List.mem_of_getElem? (i := 15) (by decide +kernel), List.mem_of_getElem? (i := 562) (by decide +kernel), List.mem_of_getElem? (i := 563) (by decide +kernel)⟩
theorem lw_p38 : lw_okq (⟨"BurnedDown", "runEnd", "(II)I"⟩, 11) := ⟨⟨by decide +kernel, by decide +kernel⟩, List.mem_of_getElem? (i := 15) (by decide +kernel), List.mem_of_getElem? (i := 566) (by decide +kernel), List.mem_of_getElem? (i := 567) (by decide +kernel)⟩
theorem lw_p39 : lw_okq (⟨"BurnedDown", "wrongInRow", "(I)I"⟩, 11) := ⟨⟨by decide +kernel, by decide +kernel⟩, List.mem_of_getElem? (i := 15) (by decide +kernel), List.mem_of_getElem? (i := 585) (by decide +kernel), List.mem_of_getElem? (i := 586) (by decide +kernel)⟩
theorem lw_p40 : lw_okq (⟨"BurnedDown", "someWayBefore", "(II)Z"⟩, 11) := ⟨⟨by decide +kernel, by decide +kernel⟩, List.mem_of_getElem? (i := 15) (by decide +kernel), List.mem_of_getElem? (i := 621) (by decide +kernel), List.mem_of_getElem? (i := 622) (by decide +kernel)⟩
theorem lw_p41 : lw_okq (⟨"BurnedDown", "setMinutes", "(IZ)V"⟩, 11) := ⟨⟨by decide +kernel, by decide +kernel⟩, List.mem_of_getElem? (i := 15) (by decide +kernel), List.mem_of_getElem? (i := 625) (by decide +kernel), List.mem_of_getElem? (i := 626) (by decide +kernel)⟩
theorem lw_p42 : lw_okq (⟨"BurnedDown", "someWayNotBefore", "(II)Z"⟩, 11) := ⟨⟨by decide +kernel, by decide +kernel⟩, List.mem_of_getElem? (i := 15) (by decide +kernel), List.mem_of_getElem? (i := 630) (by decide +kernel), List.mem_of_getElem? (i := 631) (by decide +kernel)⟩
theorem lw_p43 : lw_okq (⟨"BurnedDown", "mostAlike", "(II)I"⟩, 11) := ⟨⟨by decide +kernel, by decide +kernel⟩, List.mem_of_getElem? (i := 15) (by decide +kernel), List.mem_of_getElem? (i := 638) (by decide +kernel), List.mem_of_getElem? (i := 639) (by decide +kernel)⟩
theorem lw_p44 : lw_okq (⟨"BurnedDown$World", "take", "(LBurnedDown$World;)V"⟩, 9) := ⟨⟨by decide +kernel, by decide +kernel⟩, List.mem_of_getElem? (i := 23) (by decide +kernel), List.mem_of_getElem? (i := 652) (by decide +kernel), List.mem_of_getElem? (i := 653) (by decide +kernel)⟩
theorem lw_p45 : lw_okq (⟨"BurnedDown$Things", "take", "(LBurnedDown$Things;)V"⟩, 7) := ⟨⟨by decide +kernel, by decide +kernel⟩, List.mem_of_getElem? (i := 29) (by decide +kernel), List.mem_of_getElem? (i := 656) (by decide +kernel), List.mem_of_getElem? (i := 657) (by decide +kernel)⟩
theorem lw_p46 : lw_okq (⟨"BurnedDown$Looks", "take", "(LBurnedDown$Looks;)V"⟩, 6) := ⟨⟨by decide +kernel, by decide +kernel⟩, List.mem_of_getElem? (i := 68) (by decide +kernel), List.mem_of_getElem? (i := 663) (by decide +kernel), List.mem_of_getElem? (i := 664) (by decide +kernel)⟩
theorem lw_p47 : lw_okq (⟨"BurnedDown$Things", "joinings", "()I"⟩, 7) := ⟨⟨by decide +kernel, by decide +kernel⟩, List.mem_of_getElem? (i := 29) (by decide +kernel), List.mem_of_getElem? (i := 677) (by decide +kernel), List.mem_of_getElem? (i := 678) (by decide +kernel)⟩
def lw_privs_3 : List (MethodName × Nat) := [(⟨"BurnedDown$Things", "highest", "(IIZ)I"⟩, 7), (⟨"BurnedDown$Gathering", "value", "(II)J"⟩, 3), (⟨"BurnedDown$Gathering", "bringAll", "(IILBurnedDown$Reckoning;)V"⟩, 3), (⟨"BurnedDown$Gathering", "together", "(ILBurnedDown$Reckoning;)J"⟩, 3), (⟨"BurnedDown", "countWaysOf", "(I)V"⟩, 11), (⟨"BurnedDown", "runStart", "(II)I"⟩, 11), (⟨"BurnedDown", "runEnd", "(II)I"⟩, 11), (⟨"BurnedDown", "wrongInRow", "(I)I"⟩, 11), (⟨"BurnedDown", "someWayBefore", "(II)Z"⟩, 11), (⟨"BurnedDown", "setMinutes", "(IZ)V"⟩, 11), (⟨"BurnedDown", "someWayNotBefore", "(II)Z"⟩, 11), (⟨"BurnedDown", "mostAlike", "(II)I"⟩, 11), (⟨"BurnedDown$World", "take", "(LBurnedDown$World;)V"⟩, 9), (⟨"BurnedDown$Things", "take", "(LBurnedDown$Things;)V"⟩, 7), (⟨"BurnedDown$Looks", "take", "(LBurnedDown$Looks;)V"⟩, 6), (⟨"BurnedDown$Things", "joinings", "()I"⟩, 7)]
theorem lw_r3 : ∀ q ∈ lw_privs_3, lw_okq q := List.forall_mem_cons.mpr ⟨lw_p32, List.forall_mem_cons.mpr ⟨lw_p33, List.forall_mem_cons.mpr ⟨lw_p34, List.forall_mem_cons.mpr ⟨lw_p35, List.forall_mem_cons.mpr ⟨lw_p36, List.forall_mem_cons.mpr ⟨lw_p37, List.forall_mem_cons.mpr ⟨lw_p38, List.forall_mem_cons.mpr ⟨lw_p39, List.forall_mem_cons.mpr ⟨lw_p40, List.forall_mem_cons.mpr ⟨lw_p41, List.forall_mem_cons.mpr ⟨lw_p42, List.forall_mem_cons.mpr ⟨lw_p43, List.forall_mem_cons.mpr ⟨lw_p44, List.forall_mem_cons.mpr ⟨lw_p45, List.forall_mem_cons.mpr ⟨lw_p46, List.forall_mem_cons.mpr ⟨lw_p47, fun _ h => absurd h List.not_mem_nil⟩⟩⟩⟩⟩⟩⟩⟩⟩⟩⟩⟩⟩⟩⟩⟩
theorem lw_p48 : lw_okq (⟨"BurnedDownModel", "no", "(I)I"⟩, 38) := ⟨⟨by decide +kernel, by decide +kernel⟩, List.mem_of_getElem? (i := 681) (by decide +kernel), List.mem_of_getElem? (i := 810) (by decide +kernel), List.mem_of_getElem? (i := 811) (by decide +kernel)⟩
theorem lw_p49 : lw_okq (⟨"BurnedDownModel", "reads", "()Z"⟩, 38) := ⟨⟨by decide +kernel, by decide +kernel⟩, List.mem_of_getElem? (i := 681) (by decide +kernel), List.mem_of_getElem? (i := 819) (by decide +kernel), List.mem_of_getElem? (i := 820) (by decide +kernel)⟩
theorem lw_p50 : lw_okq (⟨"BurnedDownModel", "sign", "()I"⟩, 38) := ⟨⟨by decide +kernel, by decide +kernel⟩, List.mem_of_getElem? (i := 681) (by decide +kernel), List.mem_of_getElem? (i := 823) (by decide +kernel), List.mem_of_getElem? (i := 824) (by decide +kernel)⟩
theorem lw_p51 : lw_okq (⟨"BurnedDownModel", "number", "(I)I"⟩, 38) := ⟨⟨by decide +kernel, by decide +kernel⟩, List.mem_of_getElem? (i := 681) (by decide +kernel), List.mem_of_getElem? (i := 827) (by decide +kernel), List.mem_of_getElem? (i := 828) (by decide +kernel)⟩
theorem lw_p52 : lw_okq (⟨"BurnedDownModel", "isThing", "(I)Z"⟩, 38) := ⟨⟨by decide +kernel, by decide +kernel⟩, List.mem_of_getElem? (i := 681) (by decide +kernel), List.mem_of_getElem? (i := 838) (by decide +kernel), List.mem_of_getElem? (i := 839) (by decide +kernel)⟩
theorem lw_p53 : lw_okq (⟨"BurnedDownModel", "leftOf", "(III)I"⟩, 38) := ⟨⟨by decide +kernel, by decide +kernel⟩, List.mem_of_getElem? (i := 681) (by decide +kernel), List.mem_of_getElem? (i := 861) (by decide +kernel), List.mem_of_getElem? (i := 862) (by decide +kernel)⟩
theorem lw_p54 : lw_okq (⟨"BurnedDownModel", "isOpen", "(I)Z"⟩, 38) := ⟨⟨by decide +kernel, by decide +kernel⟩, List.mem_of_getElem? (i := 681) (by decide +kernel), List.mem_of_getElem? (i := 865) (by decide +kernel), List.mem_of_getElem? (i := 866) (by decide +kernel)⟩
theorem lw_p55 : lw_okq (⟨"BurnedDownModel", "nearer", "(II)I"⟩, 38) := ⟨⟨by decide +kernel, by decide +kernel⟩, List.mem_of_getElem? (i := 681) (by decide +kernel), List.mem_of_getElem? (i := 869) (by decide +kernel), List.mem_of_getElem? (i := 870) (by decide +kernel)⟩
theorem lw_p56 : lw_okq (⟨"BurnedDownModel", "finds", "()V"⟩, 38) := ⟨⟨by decide +kernel, by decide +kernel⟩, List.mem_of_getElem? (i := 681) (by decide +kernel), List.mem_of_getElem? (i := 889) (by decide +kernel), List.mem_of_getElem? (i := 890) (by decide +kernel)⟩
theorem lw_p57 : lw_okq (⟨"BurnedDownModel", "letsBy", "(II)Z"⟩, 38) := ⟨⟨by decide +kernel, by decide +kernel⟩, List.mem_of_getElem? (i := 681) (by decide +kernel), List.mem_of_getElem? (i := 893) (by decide +kernel), List.mem_of_getElem? (i := 894) (by decide +kernel)⟩
theorem lw_p58 : lw_okq (⟨"BurnedDownModel", "frees", "()V"⟩, 38) := ⟨⟨by decide +kernel, by decide +kernel⟩, List.mem_of_getElem? (i := 681) (by decide +kernel), List.mem_of_getElem? (i := 897) (by decide +kernel), List.mem_of_getElem? (i := 898) (by decide +kernel)⟩
theorem lw_p59 : lw_okq (⟨"BurnedDownModel", "canOf", "(II)Z"⟩, 38) := ⟨⟨by decide +kernel, by decide +kernel⟩, List.mem_of_getElem? (i := 681) (by decide +kernel), List.mem_of_getElem? (i := 901) (by decide +kernel), List.mem_of_getElem? (i := 902) (by decide +kernel)⟩
theorem lw_p60 : lw_okq (⟨"BurnedDownModel", "counts", "(I)Z"⟩, 38) := ⟨⟨by decide +kernel, by decide +kernel⟩, List.mem_of_getElem? (i := 681) (by decide +kernel), List.mem_of_getElem? (i := 905) (by decide +kernel), List.mem_of_getElem? (i := 906) (by decide +kernel)⟩
theorem lw_p61 : lw_okq (⟨"BurnedDownModel", "waysOf", "()J"⟩, 38) := ⟨⟨by decide +kernel, by decide +kernel⟩, List.mem_of_getElem? (i := 681) (by decide +kernel), List.mem_of_getElem? (i := 917) (by decide +kernel), List.mem_of_getElem? (i := 918) (by decide +kernel)⟩
theorem lw_p62 : lw_okq (⟨"BurnedDownModel", "joined", "(II)J"⟩, 38) := ⟨⟨by decide +kernel, by decide +kernel⟩, List.mem_of_getElem? (i := 681) (by decide +kernel), List.mem_of_getElem? (i := 921) (by decide +kernel), List.mem_of_getElem? (i := 922) (by decide +kernel)⟩
theorem lw_p63 : lw_okq (⟨"BurnedDownModel", "between", "(II)J"⟩, 38) := ⟨⟨by decide +kernel, by decide +kernel⟩, List.mem_of_getElem? (i := 681) (by decide +kernel), List.mem_of_getElem? (i := 925) (by decide +kernel), List.mem_of_getElem? (i := 926) (by decide +kernel)⟩
def lw_privs_4 : List (MethodName × Nat) := [(⟨"BurnedDownModel", "no", "(I)I"⟩, 38), (⟨"BurnedDownModel", "reads", "()Z"⟩, 38), (⟨"BurnedDownModel", "sign", "()I"⟩, 38), (⟨"BurnedDownModel", "number", "(I)I"⟩, 38), (⟨"BurnedDownModel", "isThing", "(I)Z"⟩, 38), (⟨"BurnedDownModel", "leftOf", "(III)I"⟩, 38), (⟨"BurnedDownModel", "isOpen", "(I)Z"⟩, 38), (⟨"BurnedDownModel", "nearer", "(II)I"⟩, 38), (⟨"BurnedDownModel", "finds", "()V"⟩, 38), (⟨"BurnedDownModel", "letsBy", "(II)Z"⟩, 38), (⟨"BurnedDownModel", "frees", "()V"⟩, 38), (⟨"BurnedDownModel", "canOf", "(II)Z"⟩, 38), (⟨"BurnedDownModel", "counts", "(I)Z"⟩, 38), (⟨"BurnedDownModel", "waysOf", "()J"⟩, 38), (⟨"BurnedDownModel", "joined", "(II)J"⟩, 38), (⟨"BurnedDownModel", "between", "(II)J"⟩, 38)]
theorem lw_r4 : ∀ q ∈ lw_privs_4, lw_okq q := List.forall_mem_cons.mpr ⟨lw_p48, List.forall_mem_cons.mpr ⟨lw_p49, List.forall_mem_cons.mpr ⟨lw_p50, List.forall_mem_cons.mpr ⟨lw_p51, List.forall_mem_cons.mpr ⟨lw_p52, List.forall_mem_cons.mpr ⟨lw_p53, List.forall_mem_cons.mpr ⟨lw_p54, List.forall_mem_cons.mpr ⟨lw_p55, List.forall_mem_cons.mpr ⟨lw_p56, List.forall_mem_cons.mpr ⟨lw_p57, List.forall_mem_cons.mpr ⟨lw_p58, List.forall_mem_cons.mpr ⟨lw_p59, List.forall_mem_cons.mpr ⟨lw_p60, List.forall_mem_cons.mpr ⟨lw_p61, List.forall_mem_cons.mpr ⟨lw_p62, List.forall_mem_cons.mpr ⟨lw_p63, fun _ h => absurd h List.not_mem_nil⟩⟩⟩⟩⟩⟩⟩⟩⟩⟩⟩⟩⟩⟩⟩⟩
theorem lw_p64 : lw_okq (⟨"BurnedDownModel", "findMay", "(I)V"⟩, 38) := ⟨⟨by decide +kernel, by decide +kernel⟩, List.mem_of_getElem? (i := 681) (by decide +kernel), List.mem_of_getElem? (i := 933) (by decide +kernel), List.mem_of_getElem? (i := 934) (by decide +kernel)⟩
theorem lw_p65 : lw_okq (⟨"BurnedDownModel", "waysWith", "(II)J"⟩, 38) := ⟨⟨by decide +kernel, by decide +kernel⟩, List.mem_of_getElem? (i := 681) (by decide +kernel), List.mem_of_getElem? (i := 937) (by decide +kernel), List.mem_of_getElem? (i := 938) (by decide +kernel)⟩
theorem lw_p66 : lw_okq (⟨"BurnedDownModel", "isJoined", "(I)Z"⟩, 38) := ⟨⟨by decide +kernel, by decide +kernel⟩, List.mem_of_getElem? (i := 681) (by decide +kernel), List.mem_of_getElem? (i := 960) (by decide +kernel), List.mem_of_getElem? (i := 961) (by decide +kernel)⟩
theorem lw_p67 : lw_okq (⟨"BurnedDownModel", "narrowOf", "(II)I"⟩, 38) := ⟨⟨by decide +kernel, by decide +kernel⟩, List.mem_of_getElem? (i := 681) (by decide +kernel), List.mem_of_getElem? (i := 987) (by decide +kernel), List.mem_of_getElem? (i := 988) (by decide +kernel)⟩
theorem lw_p68 : lw_okq (⟨"BurnedDownModel", "passesAll", "()V"⟩, 38) := ⟨⟨by decide +kernel, by decide +kernel⟩, List.mem_of_getElem? (i := 681) (by decide +kernel), List.mem_of_getElem? (i := 999) (by decide +kernel), List.mem_of_getElem? (i := 1000) (by decide +kernel)⟩
theorem lw_p69 : lw_okq (⟨"BurnedDownModel", "passes", "([I)V"⟩, 38) := ⟨⟨by decide +kernel, by decide +kernel⟩, List.mem_of_getElem? (i := 681) (by decide +kernel), List.mem_of_getElem? (i := 1003) (by decide +kernel), List.mem_of_getElem? (i := 1004) (by decide +kernel)⟩
theorem lw_p70 : lw_okq (⟨"BurnedDownModel", "passOne", "(I)I"⟩, 38) := ⟨⟨by decide +kernel, by decide +kernel⟩, List.mem_of_getElem? (i := 681) (by decide +kernel), List.mem_of_getElem? (i := 1007) (by decide +kernel), List.mem_of_getElem? (i := 1008) (by decide +kernel)⟩
def lw_privs_5 : List (MethodName × Nat) := [(⟨"BurnedDownModel", "findMay", "(I)V"⟩, 38), (⟨"BurnedDownModel", "waysWith", "(II)J"⟩, 38), (⟨"BurnedDownModel", "isJoined", "(I)Z"⟩, 38), (⟨"BurnedDownModel", "narrowOf", "(II)I"⟩, 38), (⟨"BurnedDownModel", "passesAll", "()V"⟩, 38), (⟨"BurnedDownModel", "passes", "([I)V"⟩, 38), (⟨"BurnedDownModel", "passOne", "(I)I"⟩, 38)]
theorem lw_r5 : ∀ q ∈ lw_privs_5, lw_okq q := List.forall_mem_cons.mpr ⟨lw_p64, List.forall_mem_cons.mpr ⟨lw_p65, List.forall_mem_cons.mpr ⟨lw_p66, List.forall_mem_cons.mpr ⟨lw_p67, List.forall_mem_cons.mpr ⟨lw_p68, List.forall_mem_cons.mpr ⟨lw_p69, List.forall_mem_cons.mpr ⟨lw_p70, fun _ h => absurd h List.not_mem_nil⟩⟩⟩⟩⟩⟩⟩
def lw_privs : List (MethodName × Nat) := lw_privs_1 ++ (lw_privs_2 ++ (lw_privs_3 ++ (lw_privs_4 ++ (lw_privs_5))))
def lw_tbl : List Cond := k2_sels lw_privs ++ tables_1
theorem lw_privs_ok : ∀ q ∈ lw_privs, lw_okq q := by
  show ∀ q ∈ lw_privs_1 ++ (lw_privs_2 ++ (lw_privs_3 ++ (lw_privs_4 ++ (lw_privs_5)))), lw_okq q
  exact List.forall_mem_append.mpr ⟨lw_r1, List.forall_mem_append.mpr ⟨lw_r2, List.forall_mem_append.mpr ⟨lw_r3, List.forall_mem_append.mpr ⟨lw_r4, lw_r5⟩⟩⟩⟩
end
section
/-! ===== BEGIN words of one list among another's, by their places ===== -/
theorem goodIn_r {big : List Cond} (ws : List Cond) (ps : List Nat) (hp : ws = ps.filterMap (fun i => big[i]?)) (h : ws.all goodWord = true) : GoodIn big ws := by
  intro w hw
  have h1 := List.all_eq_true.mp h w hw
  rw [hp] at hw
  obtain ⟨i, -, hi⟩ := List.mem_filterMap.mp hw
  have hm : w ∈ big := by first | exact List.mem_of_getElem? hi | exact List.getElem?_mem hi
  exact ⟨hm, good_of_word h1⟩
theorem goodIn_app {big a b : List Cond} (ha : GoodIn big a) (hb : GoodIn big b) : GoodIn big (a ++ b) := fun w h => (List.mem_append.mp h).elim (ha w) (hb w)
theorem goodIn_ca {big a b : List Cond} {c : Cond} (ha : GoodIn big (c :: a)) (hb : GoodIn big b) : GoodIn big (c :: (a ++ b)) := fun w h => (List.mem_cons.mp h).elim (fun e => ha w (List.mem_cons.mpr (Or.inl e))) (fun h => (List.mem_append.mp h).elim (fun h => ha w (List.mem_cons.mpr (Or.inr h))) (hb w))
theorem goodIn_sub {big ws : List Cond} (hm : ∀ w ∈ ws, w ∈ big) (h : ws.all goodWord = true) : GoodIn big ws := fun w hw => ⟨hm w hw, good_of_word (List.all_eq_true.mp h w hw)⟩
/-! ===== END ===== -/
def RX0 : String := "BurnedDown$Against"
def TX0 : u_T := fun k => match k with
  | 0 => ("BurnedDown$Against", "bits", "[I", true)
  | _ => ("BurnedDown$Against", "learned", "I", false)
def tyX0 : Nat → FieldType := fun k => match k with
  | 0 => .array .int
  | _ => .int
theorem nmX0 : ∀ a, a < 2 → ∀ b, b < 2 → a ≠ b → (TX0 a).2.1 ≠ (TX0 b).2.1 := by decide +kernel
theorem tyX0_ok : ∀ k, k < 2 → parseFieldDescriptor (TX0 k).2.2.1 = some (tyX0 k) := by decide +kernel
abbrev cX0_init : ByteArray := prog_2_method_1_code
def yX0_init : MethodName := ⟨RX0, "<init>", "()V"⟩
abbrev cX0_forget : ByteArray := prog_2_method_2_code
def yX0_forget : MethodName := ⟨RX0, "forget", "()V"⟩
abbrev cX0_learn : ByteArray := prog_2_method_3_code
def yX0_learn : MethodName := ⟨RX0, "learn", "(LBurnedDown$World;)V"⟩
abbrev cX0_learnLook : ByteArray := prog_2_method_4_code
def yX0_learnLook : MethodName := ⟨RX0, "learnLook", "(LBurnedDown$World;I)V"⟩
abbrev cX0_speaking : ByteArray := prog_2_method_5_code
def yX0_speaking : MethodName := ⟨RX0, "speaking", "(LBurnedDown$World;II)I"⟩
def RX1 : String := "BurnedDown$Counting"
def TX1 : u_T := fun k => match k with
  | _ => ("BurnedDown$Counting", "before", "[J", true)
def tyX1 : Nat → FieldType := fun k => match k with
  | _ => .array .long
theorem nmX1 : ∀ a, a < 1 → ∀ b, b < 1 → a ≠ b → (TX1 a).2.1 ≠ (TX1 b).2.1 := by decide +kernel
theorem tyX1_ok : ∀ k, k < 1 → parseFieldDescriptor (TX1 k).2.2.1 = some (tyX1 k) := by decide +kernel
abbrev cX1_init : ByteArray := prog_3_method_1_code
def yX1_init : MethodName := ⟨RX1, "<init>", "()V"⟩
abbrev cX1_none : ByteArray := prog_3_method_2_code
def yX1_none : MethodName := ⟨RX1, "none", "()J"⟩
abbrev cX1_both : ByteArray := prog_3_method_3_code
def yX1_both : MethodName := ⟨RX1, "both", "(JJ)J"⟩
abbrev cX1_load : ByteArray := prog_3_method_4_code
def yX1_load : MethodName := ⟨RX1, "load", "([JI)V"⟩
abbrev cX1_over : ByteArray := prog_3_method_5_code
def yX1_over : MethodName := ⟨RX1, "over", "(II)J"⟩
def RX2 : String := "BurnedDown$Gathering"
def TX2 : u_T := fun k => match k with
  | 0 => ("BurnedDown$Gathering", "rows", "[J", true)
  | 1 => ("BurnedDown$Gathering", "path", "[I", true)
  | _ => ("BurnedDown$Gathering", "pathLength", "I", false)
def tyX2 : Nat → FieldType := fun k => match k with
  | 0 => .array .long
  | 1 => .array .int
  | _ => .int
theorem nmX2 : ∀ a, a < 3 → ∀ b, b < 3 → a ≠ b → (TX2 a).2.1 ≠ (TX2 b).2.1 := by decide +kernel
theorem tyX2_ok : ∀ k, k < 3 → parseFieldDescriptor (TX2 k).2.2.1 = some (tyX2 k) := by decide +kernel
abbrev cX2_init : ByteArray := prog_4_method_1_code
def yX2_init : MethodName := ⟨RX2, "<init>", "()V"⟩
abbrev cX2_set : ByteArray := prog_4_method_2_code
def yX2_set : MethodName := ⟨RX2, "set", "(IIJ)V"⟩
abbrev cX2_value : ByteArray := prog_4_method_3_code
def yX2_value : MethodName := ⟨RX2, "value", "(II)J"⟩
abbrev cX2_together : ByteArray := prog_4_method_4_code
def yX2_together : MethodName := ⟨RX2, "together", "(ILBurnedDown$Reckoning;)J"⟩
abbrev cX2_gather : ByteArray := prog_4_method_5_code
def yX2_gather : MethodName := ⟨RX2, "gather", "(LBurnedDown$Things;ILBurnedDown$Reckoning;)V"⟩
abbrev cX2_findPath : ByteArray := prog_4_method_6_code
def yX2_findPath : MethodName := ⟨RX2, "findPath", "(LBurnedDown$Things;I)V"⟩
abbrev cX2_onPath : ByteArray := prog_4_method_7_code
def yX2_onPath : MethodName := ⟨RX2, "onPath", "(I)Z"⟩
abbrev cX2_bring : ByteArray := prog_4_method_8_code
def yX2_bring : MethodName := ⟨RX2, "bring", "(LBurnedDown$Things;IZLBurnedDown$Reckoning;)V"⟩
abbrev cX2_bringAll : ByteArray := prog_4_method_9_code
def yX2_bringAll : MethodName := ⟨RX2, "bringAll", "(IILBurnedDown$Reckoning;)V"⟩
def RX3 : String := "BurnedDown$Least"
def TX3 : u_T := fun k => match k with
  | _ => ("BurnedDown$Least", "kept", "[J", true)
def tyX3 : Nat → FieldType := fun k => match k with
  | _ => .array .long
theorem nmX3 : ∀ a, a < 1 → ∀ b, b < 1 → a ≠ b → (TX3 a).2.1 ≠ (TX3 b).2.1 := by decide +kernel
theorem tyX3_ok : ∀ k, k < 1 → parseFieldDescriptor (TX3 k).2.2.1 = some (tyX3 k) := by decide +kernel
abbrev cX3_init : ByteArray := prog_5_method_1_code
def yX3_init : MethodName := ⟨RX3, "<init>", "()V"⟩
abbrev cX3_none : ByteArray := prog_5_method_2_code
def yX3_none : MethodName := ⟨RX3, "none", "()J"⟩
abbrev cX3_both : ByteArray := prog_5_method_3_code
def yX3_both : MethodName := ⟨RX3, "both", "(JJ)J"⟩
abbrev cX3_load : ByteArray := prog_5_method_4_code
def yX3_load : MethodName := ⟨RX3, "load", "([JI)V"⟩
abbrev cX3_over : ByteArray := prog_5_method_5_code
def yX3_over : MethodName := ⟨RX3, "over", "(II)J"⟩
def RX4 : String := "BurnedDown$Looks"
def TX4 : u_T := fun k => match k with
  | 0 => ("BurnedDown$Looks", "count", "I", false)
  | 1 => ("BurnedDown$Looks", "doubted", "I", false)
  | 2 => ("BurnedDown$Looks", "thing", "[I", true)
  | 3 => ("BurnedDown$Looks", "minute", "[I", true)
  | 4 => ("BurnedDown$Looks", "low", "[I", true)
  | _ => ("BurnedDown$Looks", "high", "[I", true)
def tyX4 : Nat → FieldType := fun k => match k with
  | 0 => .int
  | 1 => .int
  | 2 => .array .int
  | 3 => .array .int
  | 4 => .array .int
  | _ => .array .int
theorem nmX4 : ∀ a, a < 6 → ∀ b, b < 6 → a ≠ b → (TX4 a).2.1 ≠ (TX4 b).2.1 := by decide +kernel
theorem tyX4_ok : ∀ k, k < 6 → parseFieldDescriptor (TX4 k).2.2.1 = some (tyX4 k) := by decide +kernel
abbrev cX4_init : ByteArray := prog_6_method_1_code
def yX4_init : MethodName := ⟨RX4, "<init>", "()V"⟩
abbrev cX4_add : ByteArray := prog_6_method_2_code
def yX4_add : MethodName := ⟨RX4, "add", "(IIII)I"⟩
abbrev cX4_mark : ByteArray := prog_6_method_3_code
def yX4_mark : MethodName := ⟨RX4, "mark", "(IZ)Z"⟩
abbrev cX4_take : ByteArray := prog_6_method_4_code
def yX4_take : MethodName := ⟨RX4, "take", "(LBurnedDown$Looks;)V"⟩
def RX5 : String := "BurnedDown$Reckoning"
def TX5 : u_T := fun k => match k with
  | _ => ("", "", "", false)
def tyX5 : Nat → FieldType := fun k => match k with
  | _ => .int
theorem nmX5 : ∀ a, a < 0 → ∀ b, b < 0 → a ≠ b → (TX5 a).2.1 ≠ (TX5 b).2.1 := by decide +kernel
theorem tyX5_ok : ∀ k, k < 0 → parseFieldDescriptor (TX5 k).2.2.1 = some (tyX5 k) := by decide +kernel
abbrev cX5_init : ByteArray := prog_7_method_1_code
def yX5_init : MethodName := ⟨RX5, "<init>", "()V"⟩
abbrev cX5_within : ByteArray := prog_7_method_6_code
def yX5_within : MethodName := ⟨RX5, "within", "(II)J"⟩
def RX6 : String := "BurnedDown$Tape"
def TX6 : u_T := fun k => match k with
  | 0 => ("BurnedDown$Tape", "bytes", "[I", true)
  | 1 => ("BurnedDown$Tape", "length", "I", false)
  | 2 => ("BurnedDown$Tape", "place", "I", false)
  | 3 => ("BurnedDown$Tape", "law", "I", false)
  | 4 => ("BurnedDown$Tape", "beginning", "I", false)
  | _ => ("BurnedDown$Tape", "pace", "I", false)
def tyX6 : Nat → FieldType := fun k => match k with
  | 0 => .array .int
  | 1 => .int
  | 2 => .int
  | 3 => .int
  | 4 => .int
  | _ => .int
theorem nmX6 : ∀ a, a < 6 → ∀ b, b < 6 → a ≠ b → (TX6 a).2.1 ≠ (TX6 b).2.1 := by decide +kernel
theorem tyX6_ok : ∀ k, k < 6 → parseFieldDescriptor (TX6 k).2.2.1 = some (tyX6 k) := by decide +kernel
abbrev cX6_init : ByteArray := prog_8_method_1_code
def yX6_init : MethodName := ⟨RX6, "<init>", "()V"⟩
abbrev cX6_take : ByteArray := prog_8_method_2_code
def yX6_take : MethodName := ⟨RX6, "take", "(IJ)I"⟩
abbrev cX6_read : ByteArray := prog_8_method_3_code
def yX6_read : MethodName := ⟨RX6, "read", "()I"⟩
abbrev cX6_readNumber : ByteArray := prog_8_method_4_code
def yX6_readNumber : MethodName := ⟨RX6, "readNumber", "(I)I"⟩
abbrev cX6_byteHere : ByteArray := prog_8_method_5_code
def yX6_byteHere : MethodName := ⟨RX6, "byteHere", "()I"⟩
abbrev cX6_lawOf : ByteArray := prog_8_method_6_code
def yX6_lawOf : MethodName := ⟨RX6, "lawOf", "(I)I"⟩
def RX7 : String := "BurnedDown$Things"
def TX7 : u_T := fun k => match k with
  | 0 => ("BurnedDown$Things", "count", "I", false)
  | 1 => ("BurnedDown$Things", "law", "[I", true)
  | 2 => ("BurnedDown$Things", "beginning", "[I", true)
  | 3 => ("BurnedDown$Things", "pace", "[I", true)
  | 4 => ("BurnedDown$Things", "joined", "[I", true)
  | 5 => ("BurnedDown$Things", "kind", "[I", true)
  | _ => ("BurnedDown$Things", "distance", "[I", true)
def tyX7 : Nat → FieldType := fun k => match k with
  | 0 => .int
  | 1 => .array .int
  | 2 => .array .int
  | 3 => .array .int
  | 4 => .array .int
  | 5 => .array .int
  | _ => .array .int
theorem nmX7 : ∀ a, a < 7 → ∀ b, b < 7 → a ≠ b → (TX7 a).2.1 ≠ (TX7 b).2.1 := by decide +kernel
theorem tyX7_ok : ∀ k, k < 7 → parseFieldDescriptor (TX7 k).2.2.1 = some (tyX7 k) := by decide +kernel
abbrev cX7_init : ByteArray := prog_9_method_1_code
def yX7_init : MethodName := ⟨RX7, "<init>", "()V"⟩
abbrev cX7_add : ByteArray := prog_9_method_2_code
def yX7_add : MethodName := ⟨RX7, "add", "(III)I"⟩
abbrev cX7_tie : ByteArray := prog_9_method_3_code
def yX7_tie : MethodName := ⟨RX7, "tie", "(IIII)I"⟩
abbrev cX7_joinings : ByteArray := prog_9_method_4_code
def yX7_joinings : MethodName := ⟨RX7, "joinings", "()I"⟩
abbrev cX7_lowest : ByteArray := prog_9_method_5_code
def yX7_lowest : MethodName := ⟨RX7, "lowest", "(IIZ)I"⟩
abbrev cX7_highest : ByteArray := prog_9_method_6_code
def yX7_highest : MethodName := ⟨RX7, "highest", "(IIZ)I"⟩
abbrev cX7_take : ByteArray := prog_9_method_7_code
def yX7_take : MethodName := ⟨RX7, "take", "(LBurnedDown$Things;)V"⟩
def RX8 : String := "BurnedDown$World"
def TX8 : u_T := fun k => match k with
  | 0 => ("BurnedDown$World", "things", "LBurnedDown$Things;", true)
  | 1 => ("BurnedDown$World", "looks", "LBurnedDown$Looks;", true)
  | 2 => ("BurnedDown$World", "room", "I", false)
  | 3 => ("BurnedDown$World", "opens", "I", false)
  | 4 => ("BurnedDown$World", "closes", "I", false)
  | 5 => ("BurnedDown$World", "candidates", "I", false)
  | 6 => ("BurnedDown$World", "from", "[I", true)
  | 7 => ("BurnedDown$World", "to", "[I", true)
  | _ => ("BurnedDown$World", "lefts", "[I", true)
def tyX8 : Nat → FieldType := fun k => match k with
  | 0 => .object "BurnedDown$Things"
  | 1 => .object "BurnedDown$Looks"
  | 2 => .int
  | 3 => .int
  | 4 => .int
  | 5 => .int
  | 6 => .array .int
  | 7 => .array .int
  | _ => .array .int
theorem nmX8 : ∀ a, a < 9 → ∀ b, b < 9 → a ≠ b → (TX8 a).2.1 ≠ (TX8 b).2.1 := by decide +kernel
theorem tyX8_ok : ∀ k, k < 9 → parseFieldDescriptor (TX8 k).2.2.1 = some (tyX8 k) := by decide +kernel
abbrev cX8_init : ByteArray := prog_10_method_1_code
def yX8_init : MethodName := ⟨RX8, "<init>", "()V"⟩
abbrev cX8_open : ByteArray := prog_10_method_2_code
def yX8_open : MethodName := ⟨RX8, "open", "(II)V"⟩
abbrev cX8_shut : ByteArray := prog_10_method_3_code
def yX8_shut : MethodName := ⟨RX8, "shut", "()V"⟩
abbrev cX8_addCandidate : ByteArray := prog_10_method_4_code
def yX8_addCandidate : MethodName := ⟨RX8, "addCandidate", "(II)I"⟩
abbrev cX8_take : ByteArray := prog_10_method_5_code
def yX8_take : MethodName := ⟨RX8, "take", "(LBurnedDown$World;)V"⟩
abbrev cX8_leftAfter : ByteArray := prog_10_method_6_code
def yX8_leftAfter : MethodName := ⟨RX8, "leftAfter", "(III)I"⟩
abbrev cX8_minutesInWindow : ByteArray := prog_10_method_7_code
def yX8_minutesInWindow : MethodName := ⟨RX8, "minutesInWindow", "(II)I"⟩
abbrev cX8_inWindow : ByteArray := prog_10_method_8_code
def yX8_inWindow : MethodName := ⟨RX8, "inWindow", "(I)Z"⟩
abbrev cX8_nearing : ByteArray := prog_10_method_9_code
def yX8_nearing : MethodName := ⟨RX8, "nearing", "(IIIII)I"⟩
abbrev cX8_nearer : ByteArray := prog_10_method_10_code
def yX8_nearer : MethodName := ⟨RX8, "nearer", "(II)I"⟩
abbrev cX8_fillLefts : ByteArray := prog_10_method_11_code
def yX8_fillLefts : MethodName := ⟨RX8, "fillLefts", "(II)V"⟩
abbrev cX8_fillToward : ByteArray := prog_10_method_12_code
def yX8_fillToward : MethodName := ⟨RX8, "fillToward", "(II)V"⟩
def RX9 : String := "BurnedDown"
def TX9 : u_T := fun k => match k with
  | 0 => ("BurnedDown", "world", "LBurnedDown$World;", true)
  | 1 => ("BurnedDown", "picture", "LBurnedDown$World;", true)
  | 2 => ("BurnedDown", "pictured", "Z", false)
  | 3 => ("BurnedDown", "tape", "LBurnedDown$Tape;", true)
  | 4 => ("BurnedDown", "row", "[I", true)
  | 5 => ("BurnedDown", "rowLength", "I", false)
  | 6 => ("BurnedDown", "refusals", "[I", true)
  | 7 => ("BurnedDown", "against", "LBurnedDown$Against;", true)
  | 8 => ("BurnedDown", "gathering", "LBurnedDown$Gathering;", true)
  | 9 => ("BurnedDown", "counting", "LBurnedDown$Counting;", true)
  | _ => ("BurnedDown", "least", "LBurnedDown$Least;", true)
def tyX9 : Nat → FieldType := fun k => match k with
  | 0 => .object "BurnedDown$World"
  | 1 => .object "BurnedDown$World"
  | 2 => .boolean
  | 3 => .object "BurnedDown$Tape"
  | 4 => .array .int
  | 5 => .int
  | 6 => .array .int
  | 7 => .object "BurnedDown$Against"
  | 8 => .object "BurnedDown$Gathering"
  | 9 => .object "BurnedDown$Counting"
  | _ => .object "BurnedDown$Least"
theorem nmX9 : ∀ a, a < 11 → ∀ b, b < 11 → a ≠ b → (TX9 a).2.1 ≠ (TX9 b).2.1 := by decide +kernel
theorem tyX9_ok : ∀ k, k < 11 → parseFieldDescriptor (TX9 k).2.2.1 = some (tyX9 k) := by decide +kernel
abbrev cX9_init : ByteArray := prog_1_method_1_code
def yX9_init : MethodName := ⟨RX9, "<init>", "()V"⟩
abbrev cX9_feed : ByteArray := prog_1_method_2_code
def yX9_feed : MethodName := ⟨RX9, "feed", "(IJ)I"⟩
abbrev cX9_thing : ByteArray := prog_1_method_3_code
def yX9_thing : MethodName := ⟨RX9, "thing", "()I"⟩
abbrev cX9_thingOf : ByteArray := prog_1_method_4_code
def yX9_thingOf : MethodName := ⟨RX9, "thingOf", "(II)I"⟩
abbrev cX9_room : ByteArray := prog_1_method_5_code
def yX9_room : MethodName := ⟨RX9, "room", "(I)I"⟩
abbrev cX9_window : ByteArray := prog_1_method_6_code
def yX9_window : MethodName := ⟨RX9, "window", "(II)I"⟩
abbrev cX9_candidate : ByteArray := prog_1_method_7_code
def yX9_candidate : MethodName := ⟨RX9, "candidate", "(II)I"⟩
abbrev cX9_left : ByteArray := prog_1_method_8_code
def yX9_left : MethodName := ⟨RX9, "left", "(III)I"⟩
abbrev cX9_look : ByteArray := prog_1_method_9_code
def yX9_look : MethodName := ⟨RX9, "look", "(IIII)I"⟩
abbrev cX9_doubt : ByteArray := prog_1_method_10_code
def yX9_doubt : MethodName := ⟨RX9, "doubt", "(IZ)I"⟩
abbrev cX9_join : ByteArray := prog_1_method_11_code
def yX9_join : MethodName := ⟨RX9, "join", "(IIII)I"⟩
abbrev cX9_alone : ByteArray := prog_1_method_12_code
def yX9_alone : MethodName := ⟨RX9, "alone", "(I)I"⟩
abbrev cX9_can : ByteArray := prog_1_method_13_code
def yX9_can : MethodName := ⟨RX9, "can", "(II)I"⟩
abbrev cX9_ways : ByteArray := prog_1_method_14_code
def yX9_ways : MethodName := ⟨RX9, "ways", "()J"⟩
abbrev cX9_may : ByteArray := prog_1_method_15_code
def yX9_may : MethodName := ⟨RX9, "may", "(I)I"⟩
abbrev cX9_run : ByteArray := prog_1_method_16_code
def yX9_run : MethodName := ⟨RX9, "run", "(III)I"⟩
abbrev cX9_chance : ByteArray := prog_1_method_17_code
def yX9_chance : MethodName := ⟨RX9, "chance", "(III)J"⟩
abbrev cX9_put : ByteArray := prog_1_method_18_code
def yX9_put : MethodName := ⟨RX9, "put", "(I)I"⟩
abbrev cX9_judge : ByteArray := prog_1_method_19_code
def yX9_judge : MethodName := ⟨RX9, "judge", "()I"⟩
abbrev cX9_doubts : ByteArray := prog_1_method_20_code
def yX9_doubts : MethodName := ⟨RX9, "doubts", "()I"⟩
abbrev cX9_opened : ByteArray := prog_1_method_21_code
def yX9_opened : MethodName := ⟨RX9, "opened", "()I"⟩
abbrev cX9_hangs : ByteArray := prog_1_method_22_code
def yX9_hangs : MethodName := ⟨RX9, "hangs", "()I"⟩
abbrev cX9_ahead : ByteArray := prog_1_method_23_code
def yX9_ahead : MethodName := ⟨RX9, "ahead", "(II)I"⟩
abbrev cX9_narrow : ByteArray := prog_1_method_24_code
def yX9_narrow : MethodName := ⟨RX9, "narrow", "(II)I"⟩
abbrev cX9_next : ByteArray := prog_1_method_25_code
def yX9_next : MethodName := ⟨RX9, "next", "(I)I"⟩
abbrev cX9_image : ByteArray := prog_1_method_26_code
def yX9_image : MethodName := ⟨RX9, "image", "()I"⟩
abbrev cX9_on : ByteArray := prog_1_method_27_code
def yX9_on : MethodName := ⟨RX9, "on", "()I"⟩
abbrev cX9_count : ByteArray := prog_1_method_28_code
def yX9_count : MethodName := ⟨RX9, "count", "(I)I"⟩
abbrev cX9_refuse : ByteArray := prog_1_method_29_code
def yX9_refuse : MethodName := ⟨RX9, "refuse", "(I)I"⟩
abbrev cX9_isThing : ByteArray := prog_1_method_30_code
def yX9_isThing : MethodName := ⟨RX9, "isThing", "(I)Z"⟩
abbrev cX9_wrongMinute : ByteArray := prog_1_method_31_code
def yX9_wrongMinute : MethodName := ⟨RX9, "wrongMinute", "(I)I"⟩
abbrev cX9_waysWithout : ByteArray := prog_1_method_32_code
def yX9_waysWithout : MethodName := ⟨RX9, "waysWithout", "(I)J"⟩
abbrev cX9_countWaysOf : ByteArray := prog_1_method_33_code
def yX9_countWaysOf : MethodName := ⟨RX9, "countWaysOf", "(I)V"⟩
abbrev cX9_setCounts : ByteArray := prog_1_method_34_code
def yX9_setCounts : MethodName := ⟨RX9, "setCounts", "(I)V"⟩
abbrev cX9_runStart : ByteArray := prog_1_method_35_code
def yX9_runStart : MethodName := ⟨RX9, "runStart", "(II)I"⟩
abbrev cX9_runEnd : ByteArray := prog_1_method_36_code
def yX9_runEnd : MethodName := ⟨RX9, "runEnd", "(II)I"⟩
abbrev cX9_greatestDivisor : ByteArray := prog_1_method_37_code
def yX9_greatestDivisor : MethodName := ⟨RX9, "greatestDivisor", "(JJ)J"⟩
abbrev cX9_wrongInRow : ByteArray := prog_1_method_38_code
def yX9_wrongInRow : MethodName := ⟨RX9, "wrongInRow", "(I)I"⟩
abbrev cX9_costOf : ByteArray := prog_1_method_39_code
def yX9_costOf : MethodName := ⟨RX9, "costOf", "(I)J"⟩
abbrev cX9_someWayBefore : ByteArray := prog_1_method_40_code
def yX9_someWayBefore : MethodName := ⟨RX9, "someWayBefore", "(II)Z"⟩
abbrev cX9_someWayNotBefore : ByteArray := prog_1_method_41_code
def yX9_someWayNotBefore : MethodName := ⟨RX9, "someWayNotBefore", "(II)Z"⟩
abbrev cX9_setMinutes : ByteArray := prog_1_method_42_code
def yX9_setMinutes : MethodName := ⟨RX9, "setMinutes", "(IZ)V"⟩
abbrev cX9_mostAlike : ByteArray := prog_1_method_43_code
def yX9_mostAlike : MethodName := ⟨RX9, "mostAlike", "(II)I"⟩
abbrev cX9_at : ByteArray := prog_1_method_44_code
def yX9_at : MethodName := ⟨RX9, "at", "([II)I"⟩
abbrev cX9_at_ : ByteArray := prog_1_method_45_code
def yX9_at_ : MethodName := ⟨RX9, "at", "([JI)J"⟩
abbrev cX9_lay : ByteArray := prog_1_method_46_code
def yX9_lay : MethodName := ⟨RX9, "lay", "([III)V"⟩
abbrev cX9_lay_ : ByteArray := prog_1_method_47_code
def yX9_lay_ : MethodName := ⟨RX9, "lay", "([JIJ)V"⟩
abbrev cX9_copyRow : ByteArray := prog_1_method_48_code
def yX9_copyRow : MethodName := ⟨RX9, "copyRow", "([I[I)V"⟩
def RX10 : String := "BurnedDownModel"
def TX10 : u_T := fun k => match k with
  | 0 => ("BurnedDownModel", "refused", "[I", true)
  | 1 => ("BurnedDownModel", "tape", "[I", true)
  | 2 => ("BurnedDownModel", "law", "[I", true)
  | 3 => ("BurnedDownModel", "beginning", "[I", true)
  | 4 => ("BurnedDownModel", "pace", "[I", true)
  | 5 => ("BurnedDownModel", "taped", "I", false)
  | 6 => ("BurnedDownModel", "at", "I", false)
  | 7 => ("BurnedDownModel", "things", "I", false)
  | 8 => ("BurnedDownModel", "candidateFrom", "[I", true)
  | 9 => ("BurnedDownModel", "candidateTo", "[I", true)
  | 10 => ("BurnedDownModel", "room", "I", false)
  | 11 => ("BurnedDownModel", "windowFrom", "I", false)
  | 12 => ("BurnedDownModel", "windowTo", "I", false)
  | 13 => ("BurnedDownModel", "candidates", "I", false)
  | 14 => ("BurnedDownModel", "isNew", "Z", false)
  | 15 => ("BurnedDownModel", "lookOf", "[I", true)
  | 16 => ("BurnedDownModel", "lookAt", "[I", true)
  | 17 => ("BurnedDownModel", "low", "[I", true)
  | 18 => ("BurnedDownModel", "high", "[I", true)
  | 19 => ("BurnedDownModel", "doubted", "[I", true)
  | 20 => ("BurnedDownModel", "looks", "I", false)
  | 21 => ("BurnedDownModel", "joinedTo", "[I", true)
  | 22 => ("BurnedDownModel", "joinKind", "[I", true)
  | 23 => ("BurnedDownModel", "joinN", "[I", true)
  | 24 => ("BurnedDownModel", "lets", "[Z", true)
  | 25 => ("BurnedDownModel", "from", "[I", true)
  | 26 => ("BurnedDownModel", "to", "[I", true)
  | 27 => ("BurnedDownModel", "many", "[J", true)
  | 28 => ("BurnedDownModel", "below", "[J", true)
  | 29 => ("BurnedDownModel", "leftOut", "I", false)
  | 30 => ("BurnedDownModel", "isMay", "[Z", true)
  | 31 => ("BurnedDownModel", "row", "[I", true)
  | 32 => ("BurnedDownModel", "rowMany", "I", false)
  | 33 => ("BurnedDownModel", "same", "[I", true)
  | 34 => ("BurnedDownModel", "kept", "[I", true)
  | 35 => ("BurnedDownModel", "hasImage", "Z", false)
  | 36 => ("BurnedDownModel", "isKeeping", "Z", false)
  | _ => ("BurnedDownModel", "cursor", "I", false)
def tyX10 : Nat → FieldType := fun k => match k with
  | 0 => .array .int
  | 1 => .array .int
  | 2 => .array .int
  | 3 => .array .int
  | 4 => .array .int
  | 5 => .int
  | 6 => .int
  | 7 => .int
  | 8 => .array .int
  | 9 => .array .int
  | 10 => .int
  | 11 => .int
  | 12 => .int
  | 13 => .int
  | 14 => .boolean
  | 15 => .array .int
  | 16 => .array .int
  | 17 => .array .int
  | 18 => .array .int
  | 19 => .array .int
  | 20 => .int
  | 21 => .array .int
  | 22 => .array .int
  | 23 => .array .int
  | 24 => .array .boolean
  | 25 => .array .int
  | 26 => .array .int
  | 27 => .array .long
  | 28 => .array .long
  | 29 => .int
  | 30 => .array .boolean
  | 31 => .array .int
  | 32 => .int
  | 33 => .array .int
  | 34 => .array .int
  | 35 => .boolean
  | 36 => .boolean
  | _ => .int
theorem nmX10 : ∀ a, a < 38 → ∀ b, b < 38 → a ≠ b → (TX10 a).2.1 ≠ (TX10 b).2.1 := by decide +kernel
theorem tyX10_ok : ∀ k, k < 38 → parseFieldDescriptor (TX10 k).2.2.1 = some (tyX10 k) := by decide +kernel
abbrev cX10_init : ByteArray := prog_12_method_1_code
def yX10_init : MethodName := ⟨RX10, "<init>", "()V"⟩
abbrev cX10_no : ByteArray := prog_12_method_2_code
def yX10_no : MethodName := ⟨RX10, "no", "(I)I"⟩
abbrev cX10_isIn : ByteArray := prog_12_method_3_code
def yX10_isIn : MethodName := ⟨RX10, "isIn", "(III)Z"⟩
abbrev cX10_out : ByteArray := prog_12_method_4_code
def yX10_out : MethodName := ⟨RX10, "out", "(III)I"⟩
abbrev cX10_why : ByteArray := prog_12_method_5_code
def yX10_why : MethodName := ⟨RX10, "why", "(II)I"⟩
abbrev cX10_feed : ByteArray := prog_12_method_6_code
def yX10_feed : MethodName := ⟨RX10, "feed", "(IJ)I"⟩
abbrev cX10_sign : ByteArray := prog_12_method_7_code
def yX10_sign : MethodName := ⟨RX10, "sign", "()I"⟩
abbrev cX10_number : ByteArray := prog_12_method_8_code
def yX10_number : MethodName := ⟨RX10, "number", "(I)I"⟩
abbrev cX10_reads : ByteArray := prog_12_method_9_code
def yX10_reads : MethodName := ⟨RX10, "reads", "()Z"⟩
abbrev cX10_thing : ByteArray := prog_12_method_10_code
def yX10_thing : MethodName := ⟨RX10, "thing", "()I"⟩
abbrev cX10_isThing : ByteArray := prog_12_method_11_code
def yX10_isThing : MethodName := ⟨RX10, "isThing", "(I)Z"⟩
abbrev cX10_thingOf : ByteArray := prog_12_method_12_code
def yX10_thingOf : MethodName := ⟨RX10, "thingOf", "(II)I"⟩
abbrev cX10_room : ByteArray := prog_12_method_13_code
def yX10_room : MethodName := ⟨RX10, "room", "(I)I"⟩
abbrev cX10_window : ByteArray := prog_12_method_14_code
def yX10_window : MethodName := ⟨RX10, "window", "(II)I"⟩
abbrev cX10_candidate : ByteArray := prog_12_method_15_code
def yX10_candidate : MethodName := ⟨RX10, "candidate", "(II)I"⟩
abbrev cX10_isOpen : ByteArray := prog_12_method_16_code
def yX10_isOpen : MethodName := ⟨RX10, "isOpen", "(I)Z"⟩
abbrev cX10_nearer : ByteArray := prog_12_method_17_code
def yX10_nearer : MethodName := ⟨RX10, "nearer", "(II)I"⟩
abbrev cX10_leftOf : ByteArray := prog_12_method_18_code
def yX10_leftOf : MethodName := ⟨RX10, "leftOf", "(III)I"⟩
abbrev cX10_left : ByteArray := prog_12_method_19_code
def yX10_left : MethodName := ⟨RX10, "left", "(III)I"⟩
abbrev cX10_look : ByteArray := prog_12_method_20_code
def yX10_look : MethodName := ⟨RX10, "look", "(IIII)I"⟩
abbrev cX10_doubt : ByteArray := prog_12_method_21_code
def yX10_doubt : MethodName := ⟨RX10, "doubt", "(IZ)I"⟩
abbrev cX10_join : ByteArray := prog_12_method_22_code
def yX10_join : MethodName := ⟨RX10, "join", "(IIII)I"⟩
abbrev cX10_letsBy : ByteArray := prog_12_method_23_code
def yX10_letsBy : MethodName := ⟨RX10, "letsBy", "(II)Z"⟩
abbrev cX10_finds : ByteArray := prog_12_method_24_code
def yX10_finds : MethodName := ⟨RX10, "finds", "()V"⟩
abbrev cX10_counts : ByteArray := prog_12_method_25_code
def yX10_counts : MethodName := ⟨RX10, "counts", "(I)Z"⟩
abbrev cX10_canOf : ByteArray := prog_12_method_26_code
def yX10_canOf : MethodName := ⟨RX10, "canOf", "(II)Z"⟩
abbrev cX10_frees : ByteArray := prog_12_method_27_code
def yX10_frees : MethodName := ⟨RX10, "frees", "()V"⟩
abbrev cX10_between : ByteArray := prog_12_method_28_code
def yX10_between : MethodName := ⟨RX10, "between", "(II)J"⟩
abbrev cX10_joined : ByteArray := prog_12_method_29_code
def yX10_joined : MethodName := ⟨RX10, "joined", "(II)J"⟩
abbrev cX10_waysOf : ByteArray := prog_12_method_30_code
def yX10_waysOf : MethodName := ⟨RX10, "waysOf", "()J"⟩
abbrev cX10_waysWith : ByteArray := prog_12_method_31_code
def yX10_waysWith : MethodName := ⟨RX10, "waysWith", "(II)J"⟩
abbrev cX10_alone : ByteArray := prog_12_method_32_code
def yX10_alone : MethodName := ⟨RX10, "alone", "(I)I"⟩
abbrev cX10_can : ByteArray := prog_12_method_33_code
def yX10_can : MethodName := ⟨RX10, "can", "(II)I"⟩
abbrev cX10_ways : ByteArray := prog_12_method_34_code
def yX10_ways : MethodName := ⟨RX10, "ways", "()J"⟩
abbrev cX10_findMay : ByteArray := prog_12_method_35_code
def yX10_findMay : MethodName := ⟨RX10, "findMay", "(I)V"⟩
abbrev cX10_may : ByteArray := prog_12_method_36_code
def yX10_may : MethodName := ⟨RX10, "may", "(I)I"⟩
abbrev cX10_run : ByteArray := prog_12_method_37_code
def yX10_run : MethodName := ⟨RX10, "run", "(III)I"⟩
abbrev cX10_divisor : ByteArray := prog_12_method_38_code
def yX10_divisor : MethodName := ⟨RX10, "divisor", "(JJ)J"⟩
abbrev cX10_chance : ByteArray := prog_12_method_39_code
def yX10_chance : MethodName := ⟨RX10, "chance", "(III)J"⟩
abbrev cX10_put : ByteArray := prog_12_method_40_code
def yX10_put : MethodName := ⟨RX10, "put", "(I)I"⟩
abbrev cX10_isJoined : ByteArray := prog_12_method_41_code
def yX10_isJoined : MethodName := ⟨RX10, "isJoined", "(I)Z"⟩
abbrev cX10_judge : ByteArray := prog_12_method_42_code
def yX10_judge : MethodName := ⟨RX10, "judge", "()I"⟩
abbrev cX10_bits : ByteArray := prog_12_method_43_code
def yX10_bits : MethodName := ⟨RX10, "bits", "(I)I"⟩
abbrev cX10_doubts : ByteArray := prog_12_method_44_code
def yX10_doubts : MethodName := ⟨RX10, "doubts", "()I"⟩
abbrev cX10_opened : ByteArray := prog_12_method_45_code
def yX10_opened : MethodName := ⟨RX10, "opened", "()I"⟩
abbrev cX10_hangs : ByteArray := prog_12_method_46_code
def yX10_hangs : MethodName := ⟨RX10, "hangs", "()I"⟩
abbrev cX10_ahead : ByteArray := prog_12_method_47_code
def yX10_ahead : MethodName := ⟨RX10, "ahead", "(II)I"⟩
abbrev cX10_narrowOf : ByteArray := prog_12_method_48_code
def yX10_narrowOf : MethodName := ⟨RX10, "narrowOf", "(II)I"⟩
abbrev cX10_narrow : ByteArray := prog_12_method_49_code
def yX10_narrow : MethodName := ⟨RX10, "narrow", "(II)I"⟩
abbrev cX10_next : ByteArray := prog_12_method_50_code
def yX10_next : MethodName := ⟨RX10, "next", "(I)I"⟩
abbrev cX10_passes : ByteArray := prog_12_method_51_code
def yX10_passes : MethodName := ⟨RX10, "passes", "([I)V"⟩
abbrev cX10_passOne : ByteArray := prog_12_method_52_code
def yX10_passOne : MethodName := ⟨RX10, "passOne", "(I)I"⟩
abbrev cX10_passesAll : ByteArray := prog_12_method_53_code
def yX10_passesAll : MethodName := ⟨RX10, "passesAll", "()V"⟩
abbrev cX10_image : ByteArray := prog_12_method_54_code
def yX10_image : MethodName := ⟨RX10, "image", "()I"⟩
abbrev cX10_on : ByteArray := prog_12_method_55_code
def yX10_on : MethodName := ⟨RX10, "on", "()I"⟩
abbrev cX10_count : ByteArray := prog_12_method_56_code
def yX10_count : MethodName := ⟨RX10, "count", "(I)I"⟩
def RJ6 : String := "java/lang/Integer"
def TJ6 : u_T := fun k => match k with
  | _ => ("", "", "", false)
def tyJ6 : Nat → FieldType := fun k => match k with
  | _ => .int
theorem nmJ6 : ∀ a, a < 0 → ∀ b, b < 0 → a ≠ b → (TJ6 a).2.1 ≠ (TJ6 b).2.1 := by decide +kernel
theorem tyJ6_ok : ∀ k, k < 0 → parseFieldDescriptor (TJ6 k).2.2.1 = some (tyJ6 k) := by decide +kernel
abbrev cJ6_numberOfLeadingZeros_0f7a4 : ByteArray := prog_13_method_47_code
def yJ6_numberOfLeadingZeros_0f7a4 : MethodName := ⟨RJ6, "numberOfLeadingZeros", "(I)I"⟩
abbrev cJ6_numberOfTrailingZeros_0f7a4 : ByteArray := prog_13_method_48_code
def yJ6_numberOfTrailingZeros_0f7a4 : MethodName := ⟨RJ6, "numberOfTrailingZeros", "(I)I"⟩
abbrev cJ6_bitCount_0f7a4 : ByteArray := prog_13_method_49_code
def yJ6_bitCount_0f7a4 : MethodName := ⟨RJ6, "bitCount", "(I)I"⟩
def RJ9 : String := "java/lang/Math"
def TJ9 : u_T := fun k => match k with
  | _ => ("", "", "", false)
def tyJ9 : Nat → FieldType := fun k => match k with
  | _ => .int
theorem nmJ9 : ∀ a, a < 0 → ∀ b, b < 0 → a ≠ b → (TJ9 a).2.1 ≠ (TJ9 b).2.1 := by decide +kernel
theorem tyJ9_ok : ∀ k, k < 0 → parseFieldDescriptor (TJ9 k).2.2.1 = some (tyJ9 k) := by decide +kernel
abbrev cJ9_max_7cf53 : ByteArray := prog_14_method_65_code
def yJ9_max_7cf53 : MethodName := ⟨RJ9, "max", "(II)I"⟩
abbrev cJ9_min_7cf53 : ByteArray := prog_14_method_69_code
def yJ9_min_7cf53 : MethodName := ⟨RJ9, "min", "(II)I"⟩
abbrev cJ9_min_f86c9 : ByteArray := prog_14_method_70_code
def yJ9_min_f86c9 : MethodName := ⟨RJ9, "min", "(JJ)J"⟩
def RL : String := "BurnedDownLaw"
abbrev cL_law : ByteArray := code
def yL_law : MethodName := ⟨RL, "law", "([I)Z"⟩
abbrev vwCl : List vw_C := [(RX0, TX0, 2), (RX1, TX1, 1), (RX2, TX2, 3), (RX3, TX3, 1), (RX4, TX4, 6), (RX6, TX6, 6), (RX7, TX7, 7), (RX8, TX8, 9), (RX9, TX9, 11), (RX10, TX10, 38)]
end
section
def bt_0 : List Cond := [(Cond.selects "BurnedDown" ⟨"BurnedDown", "refuse", "(I)I"⟩ ⟨"BurnedDown", "refuse", "(I)I"⟩), (Cond.selects "BurnedDown$Tape" ⟨"BurnedDown$Tape", "take", "(IJ)I"⟩ ⟨"BurnedDown$Tape", "take", "(IJ)I"⟩), (Cond.selects "BurnedDown$Tape" ⟨"BurnedDown$Tape", "read", "()I"⟩ ⟨"BurnedDown$Tape", "read", "()I"⟩), (Cond.selects "BurnedDown$Tape" ⟨"BurnedDown$Tape", "byteHere", "()I"⟩ ⟨"BurnedDown$Tape", "byteHere", "()I"⟩), (Cond.selects "BurnedDown$Tape" ⟨"BurnedDown$Tape", "readNumber", "(I)I"⟩ ⟨"BurnedDown$Tape", "readNumber", "(I)I"⟩), (Cond.selects "BurnedDown$Things" ⟨"BurnedDown$Things", "add", "(III)I"⟩ ⟨"BurnedDown$Things", "add", "(III)I"⟩), (Cond.selects "BurnedDown$Things" ⟨"BurnedDown$Things", "tie", "(IIII)I"⟩ ⟨"BurnedDown$Things", "tie", "(IIII)I"⟩), (Cond.selects "BurnedDown" ⟨"BurnedDown", "isThing", "(I)Z"⟩ ⟨"BurnedDown", "isThing", "(I)Z"⟩), (Cond.selects "BurnedDown$Against" ⟨"BurnedDown$Against", "forget", "()V"⟩ ⟨"BurnedDown$Against", "forget", "()V"⟩), (Cond.selects "BurnedDown$World" ⟨"BurnedDown$World", "shut", "()V"⟩ ⟨"BurnedDown$World", "shut", "()V"⟩), (Cond.selects "BurnedDown$World" ⟨"BurnedDown$World", "open", "(II)V"⟩ ⟨"BurnedDown$World", "open", "(II)V"⟩), (Cond.selects "BurnedDown$World" ⟨"BurnedDown$World", "addCandidate", "(II)I"⟩ ⟨"BurnedDown$World", "addCandidate", "(II)I"⟩), (Cond.selects "BurnedDown$World" ⟨"BurnedDown$World", "leftAfter", "(III)I"⟩ ⟨"BurnedDown$World", "leftAfter", "(III)I"⟩), (Cond.selects "BurnedDown$World" ⟨"BurnedDown$World", "minutesInWindow", "(II)I"⟩ ⟨"BurnedDown$World", "minutesInWindow", "(II)I"⟩), (Cond.selects "BurnedDown$World" ⟨"BurnedDown$World", "nearing", "(IIIII)I"⟩ ⟨"BurnedDown$World", "nearing", "(IIIII)I"⟩), (Cond.selects "BurnedDown$World" ⟨"BurnedDown$World", "nearer", "(II)I"⟩ ⟨"BurnedDown$World", "nearer", "(II)I"⟩), (Cond.selects "BurnedDown$World" ⟨"BurnedDown$World", "inWindow", "(I)Z"⟩ ⟨"BurnedDown$World", "inWindow", "(I)Z"⟩), (Cond.selects "BurnedDown$Looks" ⟨"BurnedDown$Looks", "add", "(IIII)I"⟩ ⟨"BurnedDown$Looks", "add", "(IIII)I"⟩), (Cond.selects "BurnedDown$Looks" ⟨"BurnedDown$Looks", "mark", "(IZ)Z"⟩ ⟨"BurnedDown$Looks", "mark", "(IZ)Z"⟩), (Cond.selects "BurnedDown$Against" ⟨"BurnedDown$Against", "learn", "(LBurnedDown$World;)V"⟩ ⟨"BurnedDown$Against", "learn", "(LBurnedDown$World;)V"⟩), (Cond.selects "BurnedDown$Against" ⟨"BurnedDown$Against", "learnLook", "(LBurnedDown$World;I)V"⟩ ⟨"BurnedDown$Against", "learnLook", "(LBurnedDown$World;I)V"⟩), (Cond.selects "BurnedDown$World" ⟨"BurnedDown$World", "fillLefts", "(II)V"⟩ ⟨"BurnedDown$World", "fillLefts", "(II)V"⟩), (Cond.selects "BurnedDown$World" ⟨"BurnedDown$World", "fillToward", "(II)V"⟩ ⟨"BurnedDown$World", "fillToward", "(II)V"⟩), (Cond.selects "BurnedDown$Against" ⟨"BurnedDown$Against", "speaking", "(LBurnedDown$World;II)I"⟩ ⟨"BurnedDown$Against", "speaking", "(LBurnedDown$World;II)I"⟩)]
def bt_1 : List Cond := [(Cond.selects "BurnedDown" ⟨"BurnedDown", "waysWithout", "(I)J"⟩ ⟨"BurnedDown", "waysWithout", "(I)J"⟩), (Cond.selects "BurnedDown" ⟨"BurnedDown", "setCounts", "(I)V"⟩ ⟨"BurnedDown", "setCounts", "(I)V"⟩), (Cond.selects "BurnedDown$Gathering" ⟨"BurnedDown$Gathering", "set", "(IIJ)V"⟩ ⟨"BurnedDown$Gathering", "set", "(IIJ)V"⟩), (Cond.selects "BurnedDown$Gathering" ⟨"BurnedDown$Gathering", "gather", "(LBurnedDown$Things;ILBurnedDown$Reckoning;)V"⟩ ⟨"BurnedDown$Gathering", "gather", "(LBurnedDown$Things;ILBurnedDown$Reckoning;)V"⟩), (Cond.selects "BurnedDown$Gathering" ⟨"BurnedDown$Gathering", "findPath", "(LBurnedDown$Things;I)V"⟩ ⟨"BurnedDown$Gathering", "findPath", "(LBurnedDown$Things;I)V"⟩), (Cond.selects "BurnedDown$Gathering" ⟨"BurnedDown$Gathering", "onPath", "(I)Z"⟩ ⟨"BurnedDown$Gathering", "onPath", "(I)Z"⟩), (Cond.selects "BurnedDown$Gathering" ⟨"BurnedDown$Gathering", "bring", "(LBurnedDown$Things;IZLBurnedDown$Reckoning;)V"⟩ ⟨"BurnedDown$Gathering", "bring", "(LBurnedDown$Things;IZLBurnedDown$Reckoning;)V"⟩), (Cond.selects "BurnedDown$Things" ⟨"BurnedDown$Things", "lowest", "(IIZ)I"⟩ ⟨"BurnedDown$Things", "lowest", "(IIZ)I"⟩), (Cond.selects "BurnedDown$Things" ⟨"BurnedDown$Things", "highest", "(IIZ)I"⟩ ⟨"BurnedDown$Things", "highest", "(IIZ)I"⟩), (Cond.selects "BurnedDown$Gathering" ⟨"BurnedDown$Gathering", "value", "(II)J"⟩ ⟨"BurnedDown$Gathering", "value", "(II)J"⟩), (Cond.selects "BurnedDown$Gathering" ⟨"BurnedDown$Gathering", "bringAll", "(IILBurnedDown$Reckoning;)V"⟩ ⟨"BurnedDown$Gathering", "bringAll", "(IILBurnedDown$Reckoning;)V"⟩), (Cond.selects "BurnedDown$Gathering" ⟨"BurnedDown$Gathering", "together", "(ILBurnedDown$Reckoning;)J"⟩ ⟨"BurnedDown$Gathering", "together", "(ILBurnedDown$Reckoning;)J"⟩), (Cond.selects "BurnedDown" ⟨"BurnedDown", "countWaysOf", "(I)V"⟩ ⟨"BurnedDown", "countWaysOf", "(I)V"⟩), (Cond.selects "BurnedDown" ⟨"BurnedDown", "runStart", "(II)I"⟩ ⟨"BurnedDown", "runStart", "(II)I"⟩), (Cond.selects "BurnedDown" ⟨"BurnedDown", "runEnd", "(II)I"⟩ ⟨"BurnedDown", "runEnd", "(II)I"⟩), (Cond.selects "BurnedDown" ⟨"BurnedDown", "wrongInRow", "(I)I"⟩ ⟨"BurnedDown", "wrongInRow", "(I)I"⟩), (Cond.selects "BurnedDown" ⟨"BurnedDown", "someWayBefore", "(II)Z"⟩ ⟨"BurnedDown", "someWayBefore", "(II)Z"⟩), (Cond.selects "BurnedDown" ⟨"BurnedDown", "setMinutes", "(IZ)V"⟩ ⟨"BurnedDown", "setMinutes", "(IZ)V"⟩), (Cond.selects "BurnedDown" ⟨"BurnedDown", "someWayNotBefore", "(II)Z"⟩ ⟨"BurnedDown", "someWayNotBefore", "(II)Z"⟩), (Cond.selects "BurnedDown" ⟨"BurnedDown", "mostAlike", "(II)I"⟩ ⟨"BurnedDown", "mostAlike", "(II)I"⟩), (Cond.selects "BurnedDown$World" ⟨"BurnedDown$World", "take", "(LBurnedDown$World;)V"⟩ ⟨"BurnedDown$World", "take", "(LBurnedDown$World;)V"⟩), (Cond.selects "BurnedDown$Things" ⟨"BurnedDown$Things", "take", "(LBurnedDown$Things;)V"⟩ ⟨"BurnedDown$Things", "take", "(LBurnedDown$Things;)V"⟩), (Cond.selects "BurnedDown$Looks" ⟨"BurnedDown$Looks", "take", "(LBurnedDown$Looks;)V"⟩ ⟨"BurnedDown$Looks", "take", "(LBurnedDown$Looks;)V"⟩), (Cond.selects "BurnedDown$Things" ⟨"BurnedDown$Things", "joinings", "()I"⟩ ⟨"BurnedDown$Things", "joinings", "()I"⟩)]
def bt_2 : List Cond := [(Cond.selects "BurnedDownModel" ⟨"BurnedDownModel", "no", "(I)I"⟩ ⟨"BurnedDownModel", "no", "(I)I"⟩), (Cond.selects "BurnedDownModel" ⟨"BurnedDownModel", "reads", "()Z"⟩ ⟨"BurnedDownModel", "reads", "()Z"⟩), (Cond.selects "BurnedDownModel" ⟨"BurnedDownModel", "sign", "()I"⟩ ⟨"BurnedDownModel", "sign", "()I"⟩), (Cond.selects "BurnedDownModel" ⟨"BurnedDownModel", "number", "(I)I"⟩ ⟨"BurnedDownModel", "number", "(I)I"⟩), (Cond.selects "BurnedDownModel" ⟨"BurnedDownModel", "isThing", "(I)Z"⟩ ⟨"BurnedDownModel", "isThing", "(I)Z"⟩), (Cond.selects "BurnedDownModel" ⟨"BurnedDownModel", "leftOf", "(III)I"⟩ ⟨"BurnedDownModel", "leftOf", "(III)I"⟩), (Cond.selects "BurnedDownModel" ⟨"BurnedDownModel", "isOpen", "(I)Z"⟩ ⟨"BurnedDownModel", "isOpen", "(I)Z"⟩), (Cond.selects "BurnedDownModel" ⟨"BurnedDownModel", "nearer", "(II)I"⟩ ⟨"BurnedDownModel", "nearer", "(II)I"⟩), (Cond.selects "BurnedDownModel" ⟨"BurnedDownModel", "finds", "()V"⟩ ⟨"BurnedDownModel", "finds", "()V"⟩), (Cond.selects "BurnedDownModel" ⟨"BurnedDownModel", "letsBy", "(II)Z"⟩ ⟨"BurnedDownModel", "letsBy", "(II)Z"⟩), (Cond.selects "BurnedDownModel" ⟨"BurnedDownModel", "frees", "()V"⟩ ⟨"BurnedDownModel", "frees", "()V"⟩), (Cond.selects "BurnedDownModel" ⟨"BurnedDownModel", "canOf", "(II)Z"⟩ ⟨"BurnedDownModel", "canOf", "(II)Z"⟩), (Cond.selects "BurnedDownModel" ⟨"BurnedDownModel", "counts", "(I)Z"⟩ ⟨"BurnedDownModel", "counts", "(I)Z"⟩), (Cond.selects "BurnedDownModel" ⟨"BurnedDownModel", "waysOf", "()J"⟩ ⟨"BurnedDownModel", "waysOf", "()J"⟩), (Cond.selects "BurnedDownModel" ⟨"BurnedDownModel", "joined", "(II)J"⟩ ⟨"BurnedDownModel", "joined", "(II)J"⟩), (Cond.selects "BurnedDownModel" ⟨"BurnedDownModel", "between", "(II)J"⟩ ⟨"BurnedDownModel", "between", "(II)J"⟩), (Cond.selects "BurnedDownModel" ⟨"BurnedDownModel", "findMay", "(I)V"⟩ ⟨"BurnedDownModel", "findMay", "(I)V"⟩), (Cond.selects "BurnedDownModel" ⟨"BurnedDownModel", "waysWith", "(II)J"⟩ ⟨"BurnedDownModel", "waysWith", "(II)J"⟩), (Cond.selects "BurnedDownModel" ⟨"BurnedDownModel", "isJoined", "(I)Z"⟩ ⟨"BurnedDownModel", "isJoined", "(I)Z"⟩), (Cond.selects "BurnedDownModel" ⟨"BurnedDownModel", "narrowOf", "(II)I"⟩ ⟨"BurnedDownModel", "narrowOf", "(II)I"⟩), (Cond.selects "BurnedDownModel" ⟨"BurnedDownModel", "passesAll", "()V"⟩ ⟨"BurnedDownModel", "passesAll", "()V"⟩), (Cond.selects "BurnedDownModel" ⟨"BurnedDownModel", "passes", "([I)V"⟩ ⟨"BurnedDownModel", "passes", "([I)V"⟩), (Cond.selects "BurnedDownModel" ⟨"BurnedDownModel", "passOne", "(I)I"⟩ ⟨"BurnedDownModel", "passOne", "(I)I"⟩), (Jvm.Cond.initialized "BurnedDownLaw")]
def bt_3 : List Cond := [(Jvm.Cond.initialized "BurnedDown"), (Jvm.Cond.initialized "BurnedDown$World"), (Jvm.Cond.initialized "BurnedDown$Things"), (Jvm.Cond.initialized "BurnedDown$Looks"), (Jvm.Cond.initialized "BurnedDown$Tape"), (Jvm.Cond.initialized "BurnedDown$Against"), (Jvm.Cond.initialized "BurnedDown$Gathering"), (Jvm.Cond.initialized "BurnedDown$Reckoning"), (Jvm.Cond.initialized "BurnedDown$Counting"), (Jvm.Cond.initialized "BurnedDown$Least"), (Jvm.Cond.initialized "BurnedDownModel"), (Jvm.Cond.initialized "java/lang/Math"), (Jvm.Cond.initialized "java/lang/Integer"), (Jvm.Cond.classLink "BurnedDownLaw" (7 : Nat) "BurnedDown"), (Jvm.Cond.instantiable "BurnedDown" (11 : Nat)), (Jvm.Cond.methodLink "BurnedDownLaw" (9 : Nat) ({ cls := "BurnedDown", name := "<init>", desc := "()V" } : Jvm.MethodName)), (Jvm.Cond.instanceMethod ({ cls := "BurnedDown", name := "<init>", desc := "()V" } : Jvm.MethodName)), (Jvm.Cond.code ({ cls := "BurnedDown", name := "<init>", desc := "()V" } : Jvm.MethodName) prog_1_method_1_code (1 : Nat) (Option.none : Option Jvm.ClassFile.FieldType)), (Jvm.Cond.methodLink "BurnedDown" (3 : Nat) ({ cls := "java/lang/Object", name := "<init>", desc := "()V" } : Jvm.MethodName)), (Jvm.Cond.instanceMethod ({ cls := "java/lang/Object", name := "<init>", desc := "()V" } : Jvm.MethodName)), (Jvm.Cond.code ({ cls := "java/lang/Object", name := "<init>", desc := "()V" } : Jvm.MethodName) object_method_1_code (1 : Nat) (Option.none : Option Jvm.ClassFile.FieldType)), (Jvm.Cond.classLink "BurnedDown" (9 : Nat) "BurnedDown$World"), (Jvm.Cond.instantiable "BurnedDown$World" (9 : Nat)), (Jvm.Cond.instanceMethod ({ cls := "BurnedDown$World", name := "<init>", desc := "()V" } : Jvm.MethodName))]
def bt_4 : List Cond := [(Jvm.Cond.code ({ cls := "BurnedDown$World", name := "<init>", desc := "()V" } : Jvm.MethodName) prog_10_method_1_code (1 : Nat) (Option.none : Option Jvm.ClassFile.FieldType)), (Jvm.Cond.methodLink "BurnedDown$World" (3 : Nat) ({ cls := "java/lang/Object", name := "<init>", desc := "()V" } : Jvm.MethodName)), (Jvm.Cond.classLink "BurnedDown$World" (9 : Nat) "BurnedDown$Things"), (Jvm.Cond.instantiable "BurnedDown$Things" (7 : Nat)), (Jvm.Cond.instanceMethod ({ cls := "BurnedDown$Things", name := "<init>", desc := "()V" } : Jvm.MethodName)), (Jvm.Cond.code ({ cls := "BurnedDown$Things", name := "<init>", desc := "()V" } : Jvm.MethodName) prog_9_method_1_code (1 : Nat) (Option.none : Option Jvm.ClassFile.FieldType)), (Jvm.Cond.methodLink "BurnedDown$Things" (3 : Nat) ({ cls := "java/lang/Object", name := "<init>", desc := "()V" } : Jvm.MethodName)), (Jvm.Cond.fieldLink "BurnedDown$Things" (30 : Nat) "BurnedDown$Things" "count" "I"), (Jvm.Cond.fieldLink "BurnedDown$Things" (9 : Nat) "BurnedDown$Things" "law" "[I"), (Jvm.Cond.fieldLink "BurnedDown$Things" (15 : Nat) "BurnedDown$Things" "beginning" "[I"), (Jvm.Cond.fieldLink "BurnedDown$Things" (18 : Nat) "BurnedDown$Things" "pace" "[I"), (Jvm.Cond.fieldLink "BurnedDown$Things" (21 : Nat) "BurnedDown$Things" "joined" "[I"), (Jvm.Cond.fieldLink "BurnedDown$Things" (24 : Nat) "BurnedDown$Things" "kind" "[I"), (Jvm.Cond.fieldLink "BurnedDown$Things" (27 : Nat) "BurnedDown$Things" "distance" "[I"), (Jvm.Cond.lays "BurnedDown$Things" "BurnedDown$Things" "count" "I"), (Jvm.Cond.laysFinal "BurnedDown$Things" "BurnedDown$Things" "law" "[I"), (Jvm.Cond.laysFinal "BurnedDown$Things" "BurnedDown$Things" "beginning" "[I"), (Jvm.Cond.laysFinal "BurnedDown$Things" "BurnedDown$Things" "pace" "[I"), (Jvm.Cond.laysFinal "BurnedDown$Things" "BurnedDown$Things" "joined" "[I"), (Jvm.Cond.laysFinal "BurnedDown$Things" "BurnedDown$Things" "kind" "[I"), (Jvm.Cond.laysFinal "BurnedDown$Things" "BurnedDown$Things" "distance" "[I"), (Jvm.Cond.arrayClass Jvm.ClassFile.FieldType.int), (Jvm.Cond.classLink "BurnedDown$World" (18 : Nat) "BurnedDown$Looks"), (Jvm.Cond.instantiable "BurnedDown$Looks" (6 : Nat))]
def bt_5 : List Cond := [(Jvm.Cond.instanceMethod ({ cls := "BurnedDown$Looks", name := "<init>", desc := "()V" } : Jvm.MethodName)), (Jvm.Cond.code ({ cls := "BurnedDown$Looks", name := "<init>", desc := "()V" } : Jvm.MethodName) prog_6_method_1_code (1 : Nat) (Option.none : Option Jvm.ClassFile.FieldType)), (Jvm.Cond.methodLink "BurnedDown$Looks" (3 : Nat) ({ cls := "java/lang/Object", name := "<init>", desc := "()V" } : Jvm.MethodName)), (Jvm.Cond.fieldLink "BurnedDown$Looks" (24 : Nat) "BurnedDown$Looks" "count" "I"), (Jvm.Cond.fieldLink "BurnedDown$Looks" (32 : Nat) "BurnedDown$Looks" "doubted" "I"), (Jvm.Cond.fieldLink "BurnedDown$Looks" (9 : Nat) "BurnedDown$Looks" "thing" "[I"), (Jvm.Cond.fieldLink "BurnedDown$Looks" (15 : Nat) "BurnedDown$Looks" "minute" "[I"), (Jvm.Cond.fieldLink "BurnedDown$Looks" (18 : Nat) "BurnedDown$Looks" "low" "[I"), (Jvm.Cond.fieldLink "BurnedDown$Looks" (21 : Nat) "BurnedDown$Looks" "high" "[I"), (Jvm.Cond.lays "BurnedDown$Looks" "BurnedDown$Looks" "count" "I"), (Jvm.Cond.lays "BurnedDown$Looks" "BurnedDown$Looks" "doubted" "I"), (Jvm.Cond.laysFinal "BurnedDown$Looks" "BurnedDown$Looks" "thing" "[I"), (Jvm.Cond.laysFinal "BurnedDown$Looks" "BurnedDown$Looks" "minute" "[I"), (Jvm.Cond.laysFinal "BurnedDown$Looks" "BurnedDown$Looks" "low" "[I"), (Jvm.Cond.laysFinal "BurnedDown$Looks" "BurnedDown$Looks" "high" "[I"), (Jvm.Cond.fieldLink "BurnedDown$World" (12 : Nat) "BurnedDown$World" "things" "LBurnedDown$Things;"), (Jvm.Cond.fieldLink "BurnedDown$World" (21 : Nat) "BurnedDown$World" "looks" "LBurnedDown$Looks;"), (Jvm.Cond.fieldLink "BurnedDown$World" (25 : Nat) "BurnedDown$World" "room" "I"), (Jvm.Cond.fieldLink "BurnedDown$World" (29 : Nat) "BurnedDown$World" "opens" "I"), (Jvm.Cond.fieldLink "BurnedDown$World" (32 : Nat) "BurnedDown$World" "closes" "I"), (Jvm.Cond.fieldLink "BurnedDown$World" (49 : Nat) "BurnedDown$World" "candidates" "I"), (Jvm.Cond.fieldLink "BurnedDown$World" (35 : Nat) "BurnedDown$World" "from" "[I"), (Jvm.Cond.fieldLink "BurnedDown$World" (39 : Nat) "BurnedDown$World" "to" "[I"), (Jvm.Cond.fieldLink "BurnedDown$World" (42 : Nat) "BurnedDown$World" "lefts" "[I")]
def bt_6 : List Cond := [(Jvm.Cond.laysFinal "BurnedDown$World" "BurnedDown$World" "things" "LBurnedDown$Things;"), (Jvm.Cond.laysFinal "BurnedDown$World" "BurnedDown$World" "looks" "LBurnedDown$Looks;"), (Jvm.Cond.lays "BurnedDown$World" "BurnedDown$World" "room" "I"), (Jvm.Cond.lays "BurnedDown$World" "BurnedDown$World" "opens" "I"), (Jvm.Cond.lays "BurnedDown$World" "BurnedDown$World" "closes" "I"), (Jvm.Cond.lays "BurnedDown$World" "BurnedDown$World" "candidates" "I"), (Jvm.Cond.laysFinal "BurnedDown$World" "BurnedDown$World" "from" "[I"), (Jvm.Cond.laysFinal "BurnedDown$World" "BurnedDown$World" "to" "[I"), (Jvm.Cond.laysFinal "BurnedDown$World" "BurnedDown$World" "lefts" "[I"), (Jvm.Cond.classLink "BurnedDown" (19 : Nat) "BurnedDown$Tape"), (Jvm.Cond.instantiable "BurnedDown$Tape" (6 : Nat)), (Jvm.Cond.instanceMethod ({ cls := "BurnedDown$Tape", name := "<init>", desc := "()V" } : Jvm.MethodName)), (Jvm.Cond.code ({ cls := "BurnedDown$Tape", name := "<init>", desc := "()V" } : Jvm.MethodName) prog_8_method_1_code (1 : Nat) (Option.none : Option Jvm.ClassFile.FieldType)), (Jvm.Cond.methodLink "BurnedDown$Tape" (3 : Nat) ({ cls := "java/lang/Object", name := "<init>", desc := "()V" } : Jvm.MethodName)), (Jvm.Cond.fieldLink "BurnedDown$Tape" (9 : Nat) "BurnedDown$Tape" "bytes" "[I"), (Jvm.Cond.fieldLink "BurnedDown$Tape" (15 : Nat) "BurnedDown$Tape" "length" "I"), (Jvm.Cond.fieldLink "BurnedDown$Tape" (23 : Nat) "BurnedDown$Tape" "place" "I"), (Jvm.Cond.fieldLink "BurnedDown$Tape" (34 : Nat) "BurnedDown$Tape" "law" "I"), (Jvm.Cond.fieldLink "BurnedDown$Tape" (40 : Nat) "BurnedDown$Tape" "beginning" "I"), (Jvm.Cond.fieldLink "BurnedDown$Tape" (43 : Nat) "BurnedDown$Tape" "pace" "I"), (Jvm.Cond.laysFinal "BurnedDown$Tape" "BurnedDown$Tape" "bytes" "[I"), (Jvm.Cond.lays "BurnedDown$Tape" "BurnedDown$Tape" "length" "I"), (Jvm.Cond.lays "BurnedDown$Tape" "BurnedDown$Tape" "place" "I"), (Jvm.Cond.lays "BurnedDown$Tape" "BurnedDown$Tape" "law" "I")]
def bt_7 : List Cond := [(Jvm.Cond.lays "BurnedDown$Tape" "BurnedDown$Tape" "beginning" "I"), (Jvm.Cond.lays "BurnedDown$Tape" "BurnedDown$Tape" "pace" "I"), (Jvm.Cond.classLink "BurnedDown" (33 : Nat) "BurnedDown$Against"), (Jvm.Cond.instantiable "BurnedDown$Against" (2 : Nat)), (Jvm.Cond.instanceMethod ({ cls := "BurnedDown$Against", name := "<init>", desc := "()V" } : Jvm.MethodName)), (Jvm.Cond.code ({ cls := "BurnedDown$Against", name := "<init>", desc := "()V" } : Jvm.MethodName) prog_2_method_1_code (1 : Nat) (Option.none : Option Jvm.ClassFile.FieldType)), (Jvm.Cond.methodLink "BurnedDown$Against" (3 : Nat) ({ cls := "java/lang/Object", name := "<init>", desc := "()V" } : Jvm.MethodName)), (Jvm.Cond.fieldLink "BurnedDown$Against" (9 : Nat) "BurnedDown$Against" "bits" "[I"), (Jvm.Cond.fieldLink "BurnedDown$Against" (15 : Nat) "BurnedDown$Against" "learned" "I"), (Jvm.Cond.laysFinal "BurnedDown$Against" "BurnedDown$Against" "bits" "[I"), (Jvm.Cond.lays "BurnedDown$Against" "BurnedDown$Against" "learned" "I"), (Jvm.Cond.classLink "BurnedDown" (40 : Nat) "BurnedDown$Gathering"), (Jvm.Cond.instantiable "BurnedDown$Gathering" (3 : Nat)), (Jvm.Cond.instanceMethod ({ cls := "BurnedDown$Gathering", name := "<init>", desc := "()V" } : Jvm.MethodName)), (Jvm.Cond.code ({ cls := "BurnedDown$Gathering", name := "<init>", desc := "()V" } : Jvm.MethodName) prog_4_method_1_code (1 : Nat) (Option.none : Option Jvm.ClassFile.FieldType)), (Jvm.Cond.methodLink "BurnedDown$Gathering" (3 : Nat) ({ cls := "java/lang/Object", name := "<init>", desc := "()V" } : Jvm.MethodName)), (Jvm.Cond.fieldLink "BurnedDown$Gathering" (9 : Nat) "BurnedDown$Gathering" "rows" "[J"), (Jvm.Cond.fieldLink "BurnedDown$Gathering" (15 : Nat) "BurnedDown$Gathering" "path" "[I"), (Jvm.Cond.fieldLink "BurnedDown$Gathering" (61 : Nat) "BurnedDown$Gathering" "pathLength" "I"), (Jvm.Cond.laysFinal "BurnedDown$Gathering" "BurnedDown$Gathering" "rows" "[J"), (Jvm.Cond.laysFinal "BurnedDown$Gathering" "BurnedDown$Gathering" "path" "[I"), (Jvm.Cond.lays "BurnedDown$Gathering" "BurnedDown$Gathering" "pathLength" "I"), (Jvm.Cond.arrayClass Jvm.ClassFile.FieldType.long), (Jvm.Cond.classLink "BurnedDown" (47 : Nat) "BurnedDown$Counting")]
def bt_8 : List Cond := [(Jvm.Cond.instantiable "BurnedDown$Counting" (1 : Nat)), (Jvm.Cond.instanceMethod ({ cls := "BurnedDown$Counting", name := "<init>", desc := "()V" } : Jvm.MethodName)), (Jvm.Cond.code ({ cls := "BurnedDown$Counting", name := "<init>", desc := "()V" } : Jvm.MethodName) prog_3_method_1_code (1 : Nat) (Option.none : Option Jvm.ClassFile.FieldType)), (Jvm.Cond.instanceMethod ({ cls := "BurnedDown$Reckoning", name := "<init>", desc := "()V" } : Jvm.MethodName)), (Jvm.Cond.code ({ cls := "BurnedDown$Reckoning", name := "<init>", desc := "()V" } : Jvm.MethodName) prog_7_method_1_code (1 : Nat) (Option.none : Option Jvm.ClassFile.FieldType)), (Jvm.Cond.methodLink "BurnedDown$Reckoning" (3 : Nat) ({ cls := "java/lang/Object", name := "<init>", desc := "()V" } : Jvm.MethodName)), (Jvm.Cond.fieldLink "BurnedDown$Counting" (9 : Nat) "BurnedDown$Counting" "before" "[J"), (Jvm.Cond.laysFinal "BurnedDown$Counting" "BurnedDown$Counting" "before" "[J"), (Jvm.Cond.classLink "BurnedDown" (54 : Nat) "BurnedDown$Least"), (Jvm.Cond.instantiable "BurnedDown$Least" (1 : Nat)), (Jvm.Cond.instanceMethod ({ cls := "BurnedDown$Least", name := "<init>", desc := "()V" } : Jvm.MethodName)), (Jvm.Cond.code ({ cls := "BurnedDown$Least", name := "<init>", desc := "()V" } : Jvm.MethodName) prog_5_method_1_code (1 : Nat) (Option.none : Option Jvm.ClassFile.FieldType)), (Jvm.Cond.fieldLink "BurnedDown$Least" (11 : Nat) "BurnedDown$Least" "kept" "[J"), (Jvm.Cond.laysFinal "BurnedDown$Least" "BurnedDown$Least" "kept" "[J"), (Jvm.Cond.fieldLink "BurnedDown" (12 : Nat) "BurnedDown" "world" "LBurnedDown$World;"), (Jvm.Cond.fieldLink "BurnedDown" (16 : Nat) "BurnedDown" "picture" "LBurnedDown$World;"), (Jvm.Cond.fieldLink "BurnedDown" (237 : Nat) "BurnedDown" "pictured" "Z"), (Jvm.Cond.fieldLink "BurnedDown" (22 : Nat) "BurnedDown" "tape" "LBurnedDown$Tape;"), (Jvm.Cond.fieldLink "BurnedDown" (26 : Nat) "BurnedDown" "row" "[I"), (Jvm.Cond.fieldLink "BurnedDown" (190 : Nat) "BurnedDown" "rowLength" "I"), (Jvm.Cond.fieldLink "BurnedDown" (30 : Nat) "BurnedDown" "refusals" "[I"), (Jvm.Cond.fieldLink "BurnedDown" (36 : Nat) "BurnedDown" "against" "LBurnedDown$Against;"), (Jvm.Cond.fieldLink "BurnedDown" (43 : Nat) "BurnedDown" "gathering" "LBurnedDown$Gathering;"), (Jvm.Cond.fieldLink "BurnedDown" (50 : Nat) "BurnedDown" "counting" "LBurnedDown$Counting;")]
def bt_9 : List Cond := [(Jvm.Cond.fieldLink "BurnedDown" (57 : Nat) "BurnedDown" "least" "LBurnedDown$Least;"), (Jvm.Cond.laysFinal "BurnedDown" "BurnedDown" "world" "LBurnedDown$World;"), (Jvm.Cond.laysFinal "BurnedDown" "BurnedDown" "picture" "LBurnedDown$World;"), (Jvm.Cond.lays "BurnedDown" "BurnedDown" "pictured" "Z"), (Jvm.Cond.laysFinal "BurnedDown" "BurnedDown" "tape" "LBurnedDown$Tape;"), (Jvm.Cond.laysFinal "BurnedDown" "BurnedDown" "row" "[I"), (Jvm.Cond.lays "BurnedDown" "BurnedDown" "rowLength" "I"), (Jvm.Cond.laysFinal "BurnedDown" "BurnedDown" "refusals" "[I"), (Jvm.Cond.laysFinal "BurnedDown" "BurnedDown" "against" "LBurnedDown$Against;"), (Jvm.Cond.laysFinal "BurnedDown" "BurnedDown" "gathering" "LBurnedDown$Gathering;"), (Jvm.Cond.laysFinal "BurnedDown" "BurnedDown" "counting" "LBurnedDown$Counting;"), (Jvm.Cond.laysFinal "BurnedDown" "BurnedDown" "least" "LBurnedDown$Least;"), (Jvm.Cond.methodLink "BurnedDownLaw" (15 : Nat) ({ cls := "BurnedDown", name := "feed", desc := "(IJ)I" } : Jvm.MethodName)), (Jvm.Cond.instanceMethod ({ cls := "BurnedDown", name := "feed", desc := "(IJ)I" } : Jvm.MethodName)), (Jvm.Cond.selects "BurnedDown" ({ cls := "BurnedDown", name := "feed", desc := "(IJ)I" } : Jvm.MethodName) ({ cls := "BurnedDown", name := "feed", desc := "(IJ)I" } : Jvm.MethodName)), (Jvm.Cond.code ({ cls := "BurnedDown", name := "feed", desc := "(IJ)I" } : Jvm.MethodName) prog_1_method_2_code (4 : Nat) (Option.some Jvm.ClassFile.FieldType.int)), (Jvm.Cond.methodLink "BurnedDown" (61 : Nat) ({ cls := "BurnedDown", name := "refuse", desc := "(I)I" } : Jvm.MethodName)), (Jvm.Cond.instanceMethod ({ cls := "BurnedDown", name := "refuse", desc := "(I)I" } : Jvm.MethodName)), (Jvm.Cond.code ({ cls := "BurnedDown", name := "refuse", desc := "(I)I" } : Jvm.MethodName) prog_1_method_29_code (2 : Nat) (Option.some Jvm.ClassFile.FieldType.int)), (Jvm.Cond.methodLink "BurnedDown" (105 : Nat) ({ cls := "BurnedDown", name := "at", desc := "([II)I" } : Jvm.MethodName)), (Jvm.Cond.static ({ cls := "BurnedDown", name := "at", desc := "([II)I" } : Jvm.MethodName)), (Jvm.Cond.code ({ cls := "BurnedDown", name := "at", desc := "([II)I" } : Jvm.MethodName) prog_1_method_44_code (2 : Nat) (Option.some Jvm.ClassFile.FieldType.int)), (Jvm.Cond.methodLink "BurnedDown" (193 : Nat) ({ cls := "BurnedDown", name := "lay", desc := "([III)V" } : Jvm.MethodName)), (Jvm.Cond.static ({ cls := "BurnedDown", name := "lay", desc := "([III)V" } : Jvm.MethodName))]
def bt_10 : List Cond := [(Jvm.Cond.code ({ cls := "BurnedDown", name := "lay", desc := "([III)V" } : Jvm.MethodName) prog_1_method_46_code (3 : Nat) (Option.none : Option Jvm.ClassFile.FieldType)), (Jvm.Cond.instanceMethod ({ cls := "BurnedDown$Tape", name := "take", desc := "(IJ)I" } : Jvm.MethodName)), (Jvm.Cond.code ({ cls := "BurnedDown$Tape", name := "take", desc := "(IJ)I" } : Jvm.MethodName) prog_8_method_2_code (5 : Nat) (Option.some Jvm.ClassFile.FieldType.int)), (Jvm.Cond.methodLink "BurnedDownLaw" (20 : Nat) ({ cls := "BurnedDown", name := "thing", desc := "()I" } : Jvm.MethodName)), (Jvm.Cond.instanceMethod ({ cls := "BurnedDown", name := "thing", desc := "()I" } : Jvm.MethodName)), (Jvm.Cond.selects "BurnedDown" ({ cls := "BurnedDown", name := "thing", desc := "()I" } : Jvm.MethodName) ({ cls := "BurnedDown", name := "thing", desc := "()I" } : Jvm.MethodName)), (Jvm.Cond.code ({ cls := "BurnedDown", name := "thing", desc := "()I" } : Jvm.MethodName) prog_1_method_3_code (2 : Nat) (Option.some Jvm.ClassFile.FieldType.int)), (Jvm.Cond.instanceMethod ({ cls := "BurnedDown$Tape", name := "read", desc := "()I" } : Jvm.MethodName)), (Jvm.Cond.code ({ cls := "BurnedDown$Tape", name := "read", desc := "()I" } : Jvm.MethodName) prog_8_method_3_code (1 : Nat) (Option.some Jvm.ClassFile.FieldType.int)), (Jvm.Cond.methodLink "BurnedDown$Tape" (26 : Nat) ({ cls := "BurnedDown$Tape", name := "byteHere", desc := "()I" } : Jvm.MethodName)), (Jvm.Cond.instanceMethod ({ cls := "BurnedDown$Tape", name := "byteHere", desc := "()I" } : Jvm.MethodName)), (Jvm.Cond.code ({ cls := "BurnedDown$Tape", name := "byteHere", desc := "()I" } : Jvm.MethodName) prog_8_method_5_code (1 : Nat) (Option.some Jvm.ClassFile.FieldType.int)), (Jvm.Cond.methodLink "BurnedDown$Tape" (30 : Nat) ({ cls := "BurnedDown$Tape", name := "lawOf", desc := "(I)I" } : Jvm.MethodName)), (Jvm.Cond.static ({ cls := "BurnedDown$Tape", name := "lawOf", desc := "(I)I" } : Jvm.MethodName)), (Jvm.Cond.code ({ cls := "BurnedDown$Tape", name := "lawOf", desc := "(I)I" } : Jvm.MethodName) prog_8_method_6_code (1 : Nat) (Option.some Jvm.ClassFile.FieldType.int)), (Jvm.Cond.methodLink "BurnedDown$Tape" (37 : Nat) ({ cls := "BurnedDown$Tape", name := "readNumber", desc := "(I)I" } : Jvm.MethodName)), (Jvm.Cond.instanceMethod ({ cls := "BurnedDown$Tape", name := "readNumber", desc := "(I)I" } : Jvm.MethodName)), (Jvm.Cond.code ({ cls := "BurnedDown$Tape", name := "readNumber", desc := "(I)I" } : Jvm.MethodName) prog_8_method_4_code (4 : Nat) (Option.some Jvm.ClassFile.FieldType.int)), (Jvm.Cond.instanceMethod ({ cls := "BurnedDown$Things", name := "add", desc := "(III)I" } : Jvm.MethodName)), (Jvm.Cond.code ({ cls := "BurnedDown$Things", name := "add", desc := "(III)I" } : Jvm.MethodName) prog_9_method_2_code (4 : Nat) (Option.some Jvm.ClassFile.FieldType.int)), (Jvm.Cond.methodLink "BurnedDown$Things" (38 : Nat) ({ cls := "BurnedDown$Things", name := "tie", desc := "(IIII)I" } : Jvm.MethodName)), (Jvm.Cond.instanceMethod ({ cls := "BurnedDown$Things", name := "tie", desc := "(IIII)I" } : Jvm.MethodName)), (Jvm.Cond.code ({ cls := "BurnedDown$Things", name := "tie", desc := "(IIII)I" } : Jvm.MethodName) prog_9_method_3_code (5 : Nat) (Option.some Jvm.ClassFile.FieldType.int)), (Jvm.Cond.methodLink "BurnedDownLaw" (25 : Nat) ({ cls := "BurnedDown", name := "thingOf", desc := "(II)I" } : Jvm.MethodName))]
def bt_11 : List Cond := [(Jvm.Cond.instanceMethod ({ cls := "BurnedDown", name := "thingOf", desc := "(II)I" } : Jvm.MethodName)), (Jvm.Cond.selects "BurnedDown" ({ cls := "BurnedDown", name := "thingOf", desc := "(II)I" } : Jvm.MethodName) ({ cls := "BurnedDown", name := "thingOf", desc := "(II)I" } : Jvm.MethodName)), (Jvm.Cond.code ({ cls := "BurnedDown", name := "thingOf", desc := "(II)I" } : Jvm.MethodName) prog_1_method_4_code (3 : Nat) (Option.some Jvm.ClassFile.FieldType.int)), (Jvm.Cond.methodLink "BurnedDown" (99 : Nat) ({ cls := "BurnedDown", name := "isThing", desc := "(I)Z" } : Jvm.MethodName)), (Jvm.Cond.instanceMethod ({ cls := "BurnedDown", name := "isThing", desc := "(I)Z" } : Jvm.MethodName)), (Jvm.Cond.code ({ cls := "BurnedDown", name := "isThing", desc := "(I)Z" } : Jvm.MethodName) prog_1_method_30_code (2 : Nat) (Option.some Jvm.ClassFile.FieldType.boolean)), (Jvm.Cond.methodLink "BurnedDownLaw" (30 : Nat) ({ cls := "BurnedDown", name := "room", desc := "(I)I" } : Jvm.MethodName)), (Jvm.Cond.instanceMethod ({ cls := "BurnedDown", name := "room", desc := "(I)I" } : Jvm.MethodName)), (Jvm.Cond.selects "BurnedDown" ({ cls := "BurnedDown", name := "room", desc := "(I)I" } : Jvm.MethodName) ({ cls := "BurnedDown", name := "room", desc := "(I)I" } : Jvm.MethodName)), (Jvm.Cond.code ({ cls := "BurnedDown", name := "room", desc := "(I)I" } : Jvm.MethodName) prog_1_method_5_code (3 : Nat) (Option.some Jvm.ClassFile.FieldType.int)), (Jvm.Cond.instanceMethod ({ cls := "BurnedDown$Against", name := "forget", desc := "()V" } : Jvm.MethodName)), (Jvm.Cond.code ({ cls := "BurnedDown$Against", name := "forget", desc := "()V" } : Jvm.MethodName) prog_2_method_2_code (2 : Nat) (Option.none : Option Jvm.ClassFile.FieldType)), (Jvm.Cond.methodLink "BurnedDownLaw" (35 : Nat) ({ cls := "BurnedDown", name := "window", desc := "(II)I" } : Jvm.MethodName)), (Jvm.Cond.instanceMethod ({ cls := "BurnedDown", name := "window", desc := "(II)I" } : Jvm.MethodName)), (Jvm.Cond.selects "BurnedDown" ({ cls := "BurnedDown", name := "window", desc := "(II)I" } : Jvm.MethodName) ({ cls := "BurnedDown", name := "window", desc := "(II)I" } : Jvm.MethodName)), (Jvm.Cond.code ({ cls := "BurnedDown", name := "window", desc := "(II)I" } : Jvm.MethodName) prog_1_method_6_code (3 : Nat) (Option.some Jvm.ClassFile.FieldType.int)), (Jvm.Cond.instanceMethod ({ cls := "BurnedDown$World", name := "shut", desc := "()V" } : Jvm.MethodName)), (Jvm.Cond.code ({ cls := "BurnedDown$World", name := "shut", desc := "()V" } : Jvm.MethodName) prog_10_method_3_code (1 : Nat) (Option.none : Option Jvm.ClassFile.FieldType)), (Jvm.Cond.methodLink "BurnedDown$World" (45 : Nat) ({ cls := "BurnedDown$World", name := "open", desc := "(II)V" } : Jvm.MethodName)), (Jvm.Cond.instanceMethod ({ cls := "BurnedDown$World", name := "open", desc := "(II)V" } : Jvm.MethodName)), (Jvm.Cond.code ({ cls := "BurnedDown$World", name := "open", desc := "(II)V" } : Jvm.MethodName) prog_10_method_2_code (3 : Nat) (Option.none : Option Jvm.ClassFile.FieldType)), (Jvm.Cond.methodLink "BurnedDownLaw" (39 : Nat) ({ cls := "BurnedDown", name := "candidate", desc := "(II)I" } : Jvm.MethodName)), (Jvm.Cond.instanceMethod ({ cls := "BurnedDown", name := "candidate", desc := "(II)I" } : Jvm.MethodName)), (Jvm.Cond.selects "BurnedDown" ({ cls := "BurnedDown", name := "candidate", desc := "(II)I" } : Jvm.MethodName) ({ cls := "BurnedDown", name := "candidate", desc := "(II)I" } : Jvm.MethodName))]
def bt_12 : List Cond := [(Jvm.Cond.code ({ cls := "BurnedDown", name := "candidate", desc := "(II)I" } : Jvm.MethodName) prog_1_method_7_code (3 : Nat) (Option.some Jvm.ClassFile.FieldType.int)), (Jvm.Cond.instanceMethod ({ cls := "BurnedDown$World", name := "addCandidate", desc := "(II)I" } : Jvm.MethodName)), (Jvm.Cond.code ({ cls := "BurnedDown$World", name := "addCandidate", desc := "(II)I" } : Jvm.MethodName) prog_10_method_4_code (3 : Nat) (Option.some Jvm.ClassFile.FieldType.int)), (Jvm.Cond.methodLink "BurnedDownLaw" (43 : Nat) ({ cls := "BurnedDown", name := "left", desc := "(III)I" } : Jvm.MethodName)), (Jvm.Cond.instanceMethod ({ cls := "BurnedDown", name := "left", desc := "(III)I" } : Jvm.MethodName)), (Jvm.Cond.selects "BurnedDown" ({ cls := "BurnedDown", name := "left", desc := "(III)I" } : Jvm.MethodName) ({ cls := "BurnedDown", name := "left", desc := "(III)I" } : Jvm.MethodName)), (Jvm.Cond.code ({ cls := "BurnedDown", name := "left", desc := "(III)I" } : Jvm.MethodName) prog_1_method_8_code (4 : Nat) (Option.some Jvm.ClassFile.FieldType.int)), (Jvm.Cond.instanceMethod ({ cls := "BurnedDown$World", name := "leftAfter", desc := "(III)I" } : Jvm.MethodName)), (Jvm.Cond.code ({ cls := "BurnedDown$World", name := "leftAfter", desc := "(III)I" } : Jvm.MethodName) prog_10_method_6_code (6 : Nat) (Option.some Jvm.ClassFile.FieldType.int)), (Jvm.Cond.methodLink "BurnedDown$World" (80 : Nat) ({ cls := "java/lang/Math", name := "max", desc := "(II)I" } : Jvm.MethodName)), (Jvm.Cond.static ({ cls := "java/lang/Math", name := "max", desc := "(II)I" } : Jvm.MethodName)), (Jvm.Cond.code ({ cls := "java/lang/Math", name := "max", desc := "(II)I" } : Jvm.MethodName) prog_14_method_65_code (2 : Nat) (Option.some Jvm.ClassFile.FieldType.int)), (Jvm.Cond.methodLink "BurnedDown$World" (86 : Nat) ({ cls := "BurnedDown$World", name := "minutesInWindow", desc := "(II)I" } : Jvm.MethodName)), (Jvm.Cond.instanceMethod ({ cls := "BurnedDown$World", name := "minutesInWindow", desc := "(II)I" } : Jvm.MethodName)), (Jvm.Cond.code ({ cls := "BurnedDown$World", name := "minutesInWindow", desc := "(II)I" } : Jvm.MethodName) prog_10_method_7_code (3 : Nat) (Option.some Jvm.ClassFile.FieldType.int)), (Jvm.Cond.methodLink "BurnedDown$World" (93 : Nat) ({ cls := "java/lang/Math", name := "min", desc := "(II)I" } : Jvm.MethodName)), (Jvm.Cond.static ({ cls := "java/lang/Math", name := "min", desc := "(II)I" } : Jvm.MethodName)), (Jvm.Cond.code ({ cls := "java/lang/Math", name := "min", desc := "(II)I" } : Jvm.MethodName) prog_14_method_69_code (2 : Nat) (Option.some Jvm.ClassFile.FieldType.int)), (Jvm.Cond.methodLink "BurnedDown$World" (89 : Nat) ({ cls := "BurnedDown$World", name := "nearing", desc := "(IIIII)I" } : Jvm.MethodName)), (Jvm.Cond.instanceMethod ({ cls := "BurnedDown$World", name := "nearing", desc := "(IIIII)I" } : Jvm.MethodName)), (Jvm.Cond.code ({ cls := "BurnedDown$World", name := "nearing", desc := "(IIIII)I" } : Jvm.MethodName) prog_10_method_9_code (8 : Nat) (Option.some Jvm.ClassFile.FieldType.int)), (Jvm.Cond.methodLink "BurnedDown$World" (96 : Nat) ({ cls := "BurnedDown$World", name := "nearer", desc := "(II)I" } : Jvm.MethodName)), (Jvm.Cond.instanceMethod ({ cls := "BurnedDown$World", name := "nearer", desc := "(II)I" } : Jvm.MethodName)), (Jvm.Cond.code ({ cls := "BurnedDown$World", name := "nearer", desc := "(II)I" } : Jvm.MethodName) prog_10_method_10_code (3 : Nat) (Option.some Jvm.ClassFile.FieldType.int))]
def bt_13 : List Cond := [(Jvm.Cond.methodLink "BurnedDown$World" (99 : Nat) ({ cls := "BurnedDown$World", name := "inWindow", desc := "(I)Z" } : Jvm.MethodName)), (Jvm.Cond.instanceMethod ({ cls := "BurnedDown$World", name := "inWindow", desc := "(I)Z" } : Jvm.MethodName)), (Jvm.Cond.code ({ cls := "BurnedDown$World", name := "inWindow", desc := "(I)Z" } : Jvm.MethodName) prog_10_method_8_code (2 : Nat) (Option.some Jvm.ClassFile.FieldType.boolean)), (Jvm.Cond.methodLink "BurnedDownLaw" (48 : Nat) ({ cls := "BurnedDown", name := "look", desc := "(IIII)I" } : Jvm.MethodName)), (Jvm.Cond.instanceMethod ({ cls := "BurnedDown", name := "look", desc := "(IIII)I" } : Jvm.MethodName)), (Jvm.Cond.selects "BurnedDown" ({ cls := "BurnedDown", name := "look", desc := "(IIII)I" } : Jvm.MethodName) ({ cls := "BurnedDown", name := "look", desc := "(IIII)I" } : Jvm.MethodName)), (Jvm.Cond.code ({ cls := "BurnedDown", name := "look", desc := "(IIII)I" } : Jvm.MethodName) prog_1_method_9_code (5 : Nat) (Option.some Jvm.ClassFile.FieldType.int)), (Jvm.Cond.instanceMethod ({ cls := "BurnedDown$Looks", name := "add", desc := "(IIII)I" } : Jvm.MethodName)), (Jvm.Cond.code ({ cls := "BurnedDown$Looks", name := "add", desc := "(IIII)I" } : Jvm.MethodName) prog_6_method_2_code (5 : Nat) (Option.some Jvm.ClassFile.FieldType.int)), (Jvm.Cond.methodLink "BurnedDownLaw" (53 : Nat) ({ cls := "BurnedDown", name := "doubt", desc := "(IZ)I" } : Jvm.MethodName)), (Jvm.Cond.instanceMethod ({ cls := "BurnedDown", name := "doubt", desc := "(IZ)I" } : Jvm.MethodName)), (Jvm.Cond.selects "BurnedDown" ({ cls := "BurnedDown", name := "doubt", desc := "(IZ)I" } : Jvm.MethodName) ({ cls := "BurnedDown", name := "doubt", desc := "(IZ)I" } : Jvm.MethodName)), (Jvm.Cond.code ({ cls := "BurnedDown", name := "doubt", desc := "(IZ)I" } : Jvm.MethodName) prog_1_method_10_code (3 : Nat) (Option.some Jvm.ClassFile.FieldType.int)), (Jvm.Cond.instanceMethod ({ cls := "BurnedDown$Looks", name := "mark", desc := "(IZ)Z" } : Jvm.MethodName)), (Jvm.Cond.code ({ cls := "BurnedDown$Looks", name := "mark", desc := "(IZ)Z" } : Jvm.MethodName) prog_6_method_3_code (5 : Nat) (Option.some Jvm.ClassFile.FieldType.boolean)), (Jvm.Cond.methodLink "BurnedDownLaw" (58 : Nat) ({ cls := "BurnedDown", name := "join", desc := "(IIII)I" } : Jvm.MethodName)), (Jvm.Cond.instanceMethod ({ cls := "BurnedDown", name := "join", desc := "(IIII)I" } : Jvm.MethodName)), (Jvm.Cond.selects "BurnedDown" ({ cls := "BurnedDown", name := "join", desc := "(IIII)I" } : Jvm.MethodName) ({ cls := "BurnedDown", name := "join", desc := "(IIII)I" } : Jvm.MethodName)), (Jvm.Cond.code ({ cls := "BurnedDown", name := "join", desc := "(IIII)I" } : Jvm.MethodName) prog_1_method_11_code (6 : Nat) (Option.some Jvm.ClassFile.FieldType.int)), (Jvm.Cond.methodLink "BurnedDown" (153 : Nat) ({ cls := "BurnedDown", name := "wrongMinute", desc := "(I)I" } : Jvm.MethodName)), (Jvm.Cond.static ({ cls := "BurnedDown", name := "wrongMinute", desc := "(I)I" } : Jvm.MethodName)), (Jvm.Cond.code ({ cls := "BurnedDown", name := "wrongMinute", desc := "(I)I" } : Jvm.MethodName) prog_1_method_31_code (1 : Nat) (Option.some Jvm.ClassFile.FieldType.int)), (Jvm.Cond.methodLink "BurnedDownLaw" (62 : Nat) ({ cls := "BurnedDown", name := "alone", desc := "(I)I" } : Jvm.MethodName)), (Jvm.Cond.instanceMethod ({ cls := "BurnedDown", name := "alone", desc := "(I)I" } : Jvm.MethodName))]
def bt_14 : List Cond := [(Jvm.Cond.selects "BurnedDown" ({ cls := "BurnedDown", name := "alone", desc := "(I)I" } : Jvm.MethodName) ({ cls := "BurnedDown", name := "alone", desc := "(I)I" } : Jvm.MethodName)), (Jvm.Cond.code ({ cls := "BurnedDown", name := "alone", desc := "(I)I" } : Jvm.MethodName) prog_1_method_12_code (4 : Nat) (Option.some Jvm.ClassFile.FieldType.int)), (Jvm.Cond.instanceMethod ({ cls := "BurnedDown$Against", name := "learn", desc := "(LBurnedDown$World;)V" } : Jvm.MethodName)), (Jvm.Cond.code ({ cls := "BurnedDown$Against", name := "learn", desc := "(LBurnedDown$World;)V" } : Jvm.MethodName) prog_2_method_3_code (3 : Nat) (Option.none : Option Jvm.ClassFile.FieldType)), (Jvm.Cond.methodLink "BurnedDown$Against" (30 : Nat) ({ cls := "BurnedDown$Against", name := "learnLook", desc := "(LBurnedDown$World;I)V" } : Jvm.MethodName)), (Jvm.Cond.instanceMethod ({ cls := "BurnedDown$Against", name := "learnLook", desc := "(LBurnedDown$World;I)V" } : Jvm.MethodName)), (Jvm.Cond.code ({ cls := "BurnedDown$Against", name := "learnLook", desc := "(LBurnedDown$World;I)V" } : Jvm.MethodName) prog_2_method_4_code (10 : Nat) (Option.none : Option Jvm.ClassFile.FieldType)), (Jvm.Cond.instanceMethod ({ cls := "BurnedDown$World", name := "fillLefts", desc := "(II)V" } : Jvm.MethodName)), (Jvm.Cond.code ({ cls := "BurnedDown$World", name := "fillLefts", desc := "(II)V" } : Jvm.MethodName) prog_10_method_11_code (4 : Nat) (Option.none : Option Jvm.ClassFile.FieldType)), (Jvm.Cond.methodLink "BurnedDown$World" (103 : Nat) ({ cls := "BurnedDown$World", name := "fillToward", desc := "(II)V" } : Jvm.MethodName)), (Jvm.Cond.instanceMethod ({ cls := "BurnedDown$World", name := "fillToward", desc := "(II)V" } : Jvm.MethodName)), (Jvm.Cond.code ({ cls := "BurnedDown$World", name := "fillToward", desc := "(II)V" } : Jvm.MethodName) prog_10_method_12_code (5 : Nat) (Option.none : Option Jvm.ClassFile.FieldType)), (Jvm.Cond.methodLink "BurnedDown$World" (106 : Nat) ({ cls := "BurnedDown$World", name := "leftAfter", desc := "(III)I" } : Jvm.MethodName)), (Jvm.Cond.instanceMethod ({ cls := "BurnedDown$Against", name := "speaking", desc := "(LBurnedDown$World;II)I" } : Jvm.MethodName)), (Jvm.Cond.code ({ cls := "BurnedDown$Against", name := "speaking", desc := "(LBurnedDown$World;II)I" } : Jvm.MethodName) prog_2_method_5_code (4 : Nat) (Option.some Jvm.ClassFile.FieldType.int)), (Jvm.Cond.methodLink "BurnedDownLaw" (66 : Nat) ({ cls := "BurnedDown", name := "can", desc := "(II)I" } : Jvm.MethodName)), (Jvm.Cond.instanceMethod ({ cls := "BurnedDown", name := "can", desc := "(II)I" } : Jvm.MethodName)), (Jvm.Cond.selects "BurnedDown" ({ cls := "BurnedDown", name := "can", desc := "(II)I" } : Jvm.MethodName) ({ cls := "BurnedDown", name := "can", desc := "(II)I" } : Jvm.MethodName)), (Jvm.Cond.code ({ cls := "BurnedDown", name := "can", desc := "(II)I" } : Jvm.MethodName) prog_1_method_13_code (4 : Nat) (Option.some Jvm.ClassFile.FieldType.int)), (Jvm.Cond.methodLink "BurnedDownLaw" (70 : Nat) ({ cls := "BurnedDown", name := "ways", desc := "()J" } : Jvm.MethodName)), (Jvm.Cond.instanceMethod ({ cls := "BurnedDown", name := "ways", desc := "()J" } : Jvm.MethodName)), (Jvm.Cond.selects "BurnedDown" ({ cls := "BurnedDown", name := "ways", desc := "()J" } : Jvm.MethodName) ({ cls := "BurnedDown", name := "ways", desc := "()J" } : Jvm.MethodName)), (Jvm.Cond.code ({ cls := "BurnedDown", name := "ways", desc := "()J" } : Jvm.MethodName) prog_1_method_14_code (1 : Nat) (Option.some Jvm.ClassFile.FieldType.long)), (Jvm.Cond.methodLink "BurnedDown" (164 : Nat) ({ cls := "BurnedDown", name := "waysWithout", desc := "(I)J" } : Jvm.MethodName))]
def bt_15 : List Cond := [(Jvm.Cond.instanceMethod ({ cls := "BurnedDown", name := "waysWithout", desc := "(I)J" } : Jvm.MethodName)), (Jvm.Cond.code ({ cls := "BurnedDown", name := "waysWithout", desc := "(I)J" } : Jvm.MethodName) prog_1_method_32_code (2 : Nat) (Option.some Jvm.ClassFile.FieldType.long)), (Jvm.Cond.methodLink "BurnedDown" (252 : Nat) ({ cls := "BurnedDown", name := "setCounts", desc := "(I)V" } : Jvm.MethodName)), (Jvm.Cond.instanceMethod ({ cls := "BurnedDown", name := "setCounts", desc := "(I)V" } : Jvm.MethodName)), (Jvm.Cond.code ({ cls := "BurnedDown", name := "setCounts", desc := "(I)V" } : Jvm.MethodName) prog_1_method_34_code (5 : Nat) (Option.none : Option Jvm.ClassFile.FieldType)), (Jvm.Cond.instanceMethod ({ cls := "BurnedDown$Gathering", name := "set", desc := "(IIJ)V" } : Jvm.MethodName)), (Jvm.Cond.code ({ cls := "BurnedDown$Gathering", name := "set", desc := "(IIJ)V" } : Jvm.MethodName) prog_4_method_2_code (5 : Nat) (Option.none : Option Jvm.ClassFile.FieldType)), (Jvm.Cond.static ({ cls := "BurnedDown", name := "lay", desc := "([JIJ)V" } : Jvm.MethodName)), (Jvm.Cond.code ({ cls := "BurnedDown", name := "lay", desc := "([JIJ)V" } : Jvm.MethodName) prog_1_method_47_code (4 : Nat) (Option.none : Option Jvm.ClassFile.FieldType)), (Jvm.Cond.instanceMethod ({ cls := "BurnedDown$Gathering", name := "gather", desc := "(LBurnedDown$Things;ILBurnedDown$Reckoning;)V" } : Jvm.MethodName)), (Jvm.Cond.code ({ cls := "BurnedDown$Gathering", name := "gather", desc := "(LBurnedDown$Things;ILBurnedDown$Reckoning;)V" } : Jvm.MethodName) prog_4_method_5_code (6 : Nat) (Option.none : Option Jvm.ClassFile.FieldType)), (Jvm.Cond.methodLink "BurnedDown$Gathering" (37 : Nat) ({ cls := "BurnedDown$Gathering", name := "findPath", desc := "(LBurnedDown$Things;I)V" } : Jvm.MethodName)), (Jvm.Cond.instanceMethod ({ cls := "BurnedDown$Gathering", name := "findPath", desc := "(LBurnedDown$Things;I)V" } : Jvm.MethodName)), (Jvm.Cond.code ({ cls := "BurnedDown$Gathering", name := "findPath", desc := "(LBurnedDown$Things;I)V" } : Jvm.MethodName) prog_4_method_6_code (4 : Nat) (Option.none : Option Jvm.ClassFile.FieldType)), (Jvm.Cond.methodLink "BurnedDown$Gathering" (53 : Nat) ({ cls := "BurnedDown$Gathering", name := "onPath", desc := "(I)Z" } : Jvm.MethodName)), (Jvm.Cond.instanceMethod ({ cls := "BurnedDown$Gathering", name := "onPath", desc := "(I)Z" } : Jvm.MethodName)), (Jvm.Cond.code ({ cls := "BurnedDown$Gathering", name := "onPath", desc := "(I)Z" } : Jvm.MethodName) prog_4_method_7_code (3 : Nat) (Option.some Jvm.ClassFile.FieldType.boolean)), (Jvm.Cond.methodLink "BurnedDown$Gathering" (57 : Nat) ({ cls := "BurnedDown$Gathering", name := "bring", desc := "(LBurnedDown$Things;IZLBurnedDown$Reckoning;)V" } : Jvm.MethodName)), (Jvm.Cond.instanceMethod ({ cls := "BurnedDown$Gathering", name := "bring", desc := "(LBurnedDown$Things;IZLBurnedDown$Reckoning;)V" } : Jvm.MethodName)), (Jvm.Cond.code ({ cls := "BurnedDown$Gathering", name := "bring", desc := "(LBurnedDown$Things;IZLBurnedDown$Reckoning;)V" } : Jvm.MethodName) prog_4_method_8_code (10 : Nat) (Option.none : Option Jvm.ClassFile.FieldType)), (Jvm.Cond.methodLink "BurnedDown$Gathering" (27 : Nat) ({ cls := "BurnedDown$Reckoning", name := "load", desc := "([JI)V" } : Jvm.MethodName)), (Jvm.Cond.sameMethod "BurnedDown$Reckoning" "BurnedDown$Reckoning" "load" "([JI)V"), (Jvm.Cond.selects "BurnedDown$Counting" ({ cls := "BurnedDown$Reckoning", name := "load", desc := "([JI)V" } : Jvm.MethodName) ({ cls := "BurnedDown$Counting", name := "load", desc := "([JI)V" } : Jvm.MethodName)), (Jvm.Cond.instanceMethod ({ cls := "BurnedDown$Counting", name := "load", desc := "([JI)V" } : Jvm.MethodName))]
def bt_16 : List Cond := [(Jvm.Cond.code ({ cls := "BurnedDown$Counting", name := "load", desc := "([JI)V" } : Jvm.MethodName) prog_3_method_4_code (6 : Nat) (Option.none : Option Jvm.ClassFile.FieldType)), (Jvm.Cond.static ({ cls := "BurnedDown", name := "at", desc := "([JI)J" } : Jvm.MethodName)), (Jvm.Cond.code ({ cls := "BurnedDown", name := "at", desc := "([JI)J" } : Jvm.MethodName) prog_1_method_45_code (2 : Nat) (Option.some Jvm.ClassFile.FieldType.long)), (Jvm.Cond.selects "BurnedDown$Least" ({ cls := "BurnedDown$Reckoning", name := "load", desc := "([JI)V" } : Jvm.MethodName) ({ cls := "BurnedDown$Least", name := "load", desc := "([JI)V" } : Jvm.MethodName)), (Jvm.Cond.instanceMethod ({ cls := "BurnedDown$Least", name := "load", desc := "([JI)V" } : Jvm.MethodName)), (Jvm.Cond.code ({ cls := "BurnedDown$Least", name := "load", desc := "([JI)V" } : Jvm.MethodName) prog_5_method_4_code (10 : Nat) (Option.none : Option Jvm.ClassFile.FieldType)), (Jvm.Cond.methodLink "BurnedDown$Least" (17 : Nat) ({ cls := "java/lang/Math", name := "min", desc := "(JJ)J" } : Jvm.MethodName)), (Jvm.Cond.static ({ cls := "java/lang/Math", name := "min", desc := "(JJ)J" } : Jvm.MethodName)), (Jvm.Cond.code ({ cls := "java/lang/Math", name := "min", desc := "(JJ)J" } : Jvm.MethodName) prog_14_method_70_code (4 : Nat) (Option.some Jvm.ClassFile.FieldType.long)), (Jvm.Cond.instanceMethod ({ cls := "BurnedDown$Things", name := "lowest", desc := "(IIZ)I" } : Jvm.MethodName)), (Jvm.Cond.code ({ cls := "BurnedDown$Things", name := "lowest", desc := "(IIZ)I" } : Jvm.MethodName) prog_9_method_5_code (5 : Nat) (Option.some Jvm.ClassFile.FieldType.int)), (Jvm.Cond.instanceMethod ({ cls := "BurnedDown$Things", name := "highest", desc := "(IIZ)I" } : Jvm.MethodName)), (Jvm.Cond.code ({ cls := "BurnedDown$Things", name := "highest", desc := "(IIZ)I" } : Jvm.MethodName) prog_9_method_6_code (5 : Nat) (Option.some Jvm.ClassFile.FieldType.int)), (Jvm.Cond.methodLink "BurnedDown$Gathering" (78 : Nat) ({ cls := "BurnedDown$Reckoning", name := "within", desc := "(II)J" } : Jvm.MethodName)), (Jvm.Cond.instanceMethod ({ cls := "BurnedDown$Reckoning", name := "within", desc := "(II)J" } : Jvm.MethodName)), (Jvm.Cond.sameMethod "BurnedDown$Reckoning" "BurnedDown$Reckoning" "within" "(II)J"), (Jvm.Cond.selects "BurnedDown$Counting" ({ cls := "BurnedDown$Reckoning", name := "within", desc := "(II)J" } : Jvm.MethodName) ({ cls := "BurnedDown$Reckoning", name := "within", desc := "(II)J" } : Jvm.MethodName)), (Jvm.Cond.selects "BurnedDown$Least" ({ cls := "BurnedDown$Reckoning", name := "within", desc := "(II)J" } : Jvm.MethodName) ({ cls := "BurnedDown$Reckoning", name := "within", desc := "(II)J" } : Jvm.MethodName)), (Jvm.Cond.code ({ cls := "BurnedDown$Reckoning", name := "within", desc := "(II)J" } : Jvm.MethodName) prog_7_method_6_code (5 : Nat) (Option.some Jvm.ClassFile.FieldType.long)), (Jvm.Cond.methodLink "BurnedDown$Reckoning" (9 : Nat) ({ cls := "java/lang/Math", name := "max", desc := "(II)I" } : Jvm.MethodName)), (Jvm.Cond.methodLink "BurnedDown$Reckoning" (15 : Nat) ({ cls := "java/lang/Math", name := "min", desc := "(II)I" } : Jvm.MethodName)), (Jvm.Cond.methodLink "BurnedDown$Reckoning" (18 : Nat) ({ cls := "BurnedDown$Reckoning", name := "none", desc := "()J" } : Jvm.MethodName)), (Jvm.Cond.sameMethod "BurnedDown$Reckoning" "BurnedDown$Reckoning" "none" "()J"), (Jvm.Cond.selects "BurnedDown$Counting" ({ cls := "BurnedDown$Reckoning", name := "none", desc := "()J" } : Jvm.MethodName) ({ cls := "BurnedDown$Counting", name := "none", desc := "()J" } : Jvm.MethodName))]
def bt_17 : List Cond := [(Jvm.Cond.instanceMethod ({ cls := "BurnedDown$Counting", name := "none", desc := "()J" } : Jvm.MethodName)), (Jvm.Cond.code ({ cls := "BurnedDown$Counting", name := "none", desc := "()J" } : Jvm.MethodName) prog_3_method_2_code (1 : Nat) (Option.some Jvm.ClassFile.FieldType.long)), (Jvm.Cond.selects "BurnedDown$Least" ({ cls := "BurnedDown$Reckoning", name := "none", desc := "()J" } : Jvm.MethodName) ({ cls := "BurnedDown$Least", name := "none", desc := "()J" } : Jvm.MethodName)), (Jvm.Cond.instanceMethod ({ cls := "BurnedDown$Least", name := "none", desc := "()J" } : Jvm.MethodName)), (Jvm.Cond.code ({ cls := "BurnedDown$Least", name := "none", desc := "()J" } : Jvm.MethodName) prog_5_method_2_code (1 : Nat) (Option.some Jvm.ClassFile.FieldType.long)), (Jvm.Cond.constantLong "BurnedDown$Least" (15 : Nat) (1099511627776 : Int64)), (Jvm.Cond.methodLink "BurnedDown$Reckoning" (24 : Nat) ({ cls := "BurnedDown$Reckoning", name := "over", desc := "(II)J" } : Jvm.MethodName)), (Jvm.Cond.sameMethod "BurnedDown$Reckoning" "BurnedDown$Reckoning" "over" "(II)J"), (Jvm.Cond.selects "BurnedDown$Counting" ({ cls := "BurnedDown$Reckoning", name := "over", desc := "(II)J" } : Jvm.MethodName) ({ cls := "BurnedDown$Counting", name := "over", desc := "(II)J" } : Jvm.MethodName)), (Jvm.Cond.instanceMethod ({ cls := "BurnedDown$Counting", name := "over", desc := "(II)J" } : Jvm.MethodName)), (Jvm.Cond.code ({ cls := "BurnedDown$Counting", name := "over", desc := "(II)J" } : Jvm.MethodName) prog_3_method_5_code (3 : Nat) (Option.some Jvm.ClassFile.FieldType.long)), (Jvm.Cond.selects "BurnedDown$Least" ({ cls := "BurnedDown$Reckoning", name := "over", desc := "(II)J" } : Jvm.MethodName) ({ cls := "BurnedDown$Least", name := "over", desc := "(II)J" } : Jvm.MethodName)), (Jvm.Cond.instanceMethod ({ cls := "BurnedDown$Least", name := "over", desc := "(II)J" } : Jvm.MethodName)), (Jvm.Cond.code ({ cls := "BurnedDown$Least", name := "over", desc := "(II)J" } : Jvm.MethodName) prog_5_method_5_code (5 : Nat) (Option.some Jvm.ClassFile.FieldType.long)), (Jvm.Cond.methodLink "BurnedDown$Least" (31 : Nat) ({ cls := "java/lang/Integer", name := "numberOfLeadingZeros", desc := "(I)I" } : Jvm.MethodName)), (Jvm.Cond.static ({ cls := "java/lang/Integer", name := "numberOfLeadingZeros", desc := "(I)I" } : Jvm.MethodName)), (Jvm.Cond.code ({ cls := "java/lang/Integer", name := "numberOfLeadingZeros", desc := "(I)I" } : Jvm.MethodName) prog_13_method_47_code (2 : Nat) (Option.some Jvm.ClassFile.FieldType.int)), (Jvm.Cond.constant "java/lang/Integer" (264 : Nat) (65536 : Int32)), (Jvm.Cond.methodLink "BurnedDown$Gathering" (81 : Nat) ({ cls := "BurnedDown$Gathering", name := "value", desc := "(II)J" } : Jvm.MethodName)), (Jvm.Cond.instanceMethod ({ cls := "BurnedDown$Gathering", name := "value", desc := "(II)J" } : Jvm.MethodName)), (Jvm.Cond.code ({ cls := "BurnedDown$Gathering", name := "value", desc := "(II)J" } : Jvm.MethodName) prog_4_method_3_code (3 : Nat) (Option.some Jvm.ClassFile.FieldType.long)), (Jvm.Cond.methodLink "BurnedDown$Gathering" (84 : Nat) ({ cls := "BurnedDown$Reckoning", name := "both", desc := "(JJ)J" } : Jvm.MethodName)), (Jvm.Cond.sameMethod "BurnedDown$Reckoning" "BurnedDown$Reckoning" "both" "(JJ)J"), (Jvm.Cond.selects "BurnedDown$Counting" ({ cls := "BurnedDown$Reckoning", name := "both", desc := "(JJ)J" } : Jvm.MethodName) ({ cls := "BurnedDown$Counting", name := "both", desc := "(JJ)J" } : Jvm.MethodName))]
def bt_18 : List Cond := [(Jvm.Cond.instanceMethod ({ cls := "BurnedDown$Counting", name := "both", desc := "(JJ)J" } : Jvm.MethodName)), (Jvm.Cond.code ({ cls := "BurnedDown$Counting", name := "both", desc := "(JJ)J" } : Jvm.MethodName) prog_3_method_3_code (5 : Nat) (Option.some Jvm.ClassFile.FieldType.long)), (Jvm.Cond.selects "BurnedDown$Least" ({ cls := "BurnedDown$Reckoning", name := "both", desc := "(JJ)J" } : Jvm.MethodName) ({ cls := "BurnedDown$Least", name := "both", desc := "(JJ)J" } : Jvm.MethodName)), (Jvm.Cond.instanceMethod ({ cls := "BurnedDown$Least", name := "both", desc := "(JJ)J" } : Jvm.MethodName)), (Jvm.Cond.code ({ cls := "BurnedDown$Least", name := "both", desc := "(JJ)J" } : Jvm.MethodName) prog_5_method_3_code (5 : Nat) (Option.some Jvm.ClassFile.FieldType.long)), (Jvm.Cond.methodLink "BurnedDown$Gathering" (88 : Nat) ({ cls := "BurnedDown$Gathering", name := "set", desc := "(IIJ)V" } : Jvm.MethodName)), (Jvm.Cond.methodLink "BurnedDown$Gathering" (64 : Nat) ({ cls := "BurnedDown$Gathering", name := "bringAll", desc := "(IILBurnedDown$Reckoning;)V" } : Jvm.MethodName)), (Jvm.Cond.instanceMethod ({ cls := "BurnedDown$Gathering", name := "bringAll", desc := "(IILBurnedDown$Reckoning;)V" } : Jvm.MethodName)), (Jvm.Cond.code ({ cls := "BurnedDown$Gathering", name := "bringAll", desc := "(IILBurnedDown$Reckoning;)V" } : Jvm.MethodName) prog_4_method_9_code (7 : Nat) (Option.none : Option Jvm.ClassFile.FieldType)), (Jvm.Cond.methodLink "BurnedDown$Gathering" (92 : Nat) ({ cls := "BurnedDown$Gathering", name := "together", desc := "(ILBurnedDown$Reckoning;)J" } : Jvm.MethodName)), (Jvm.Cond.instanceMethod ({ cls := "BurnedDown$Gathering", name := "together", desc := "(ILBurnedDown$Reckoning;)J" } : Jvm.MethodName)), (Jvm.Cond.code ({ cls := "BurnedDown$Gathering", name := "together", desc := "(ILBurnedDown$Reckoning;)J" } : Jvm.MethodName) prog_4_method_4_code (3 : Nat) (Option.some Jvm.ClassFile.FieldType.long)), (Jvm.Cond.methodLink "BurnedDown$Gathering" (33 : Nat) ({ cls := "BurnedDown$Reckoning", name := "over", desc := "(II)J" } : Jvm.MethodName)), (Jvm.Cond.methodLink "BurnedDownLaw" (75 : Nat) ({ cls := "BurnedDown", name := "may", desc := "(I)I" } : Jvm.MethodName)), (Jvm.Cond.instanceMethod ({ cls := "BurnedDown", name := "may", desc := "(I)I" } : Jvm.MethodName)), (Jvm.Cond.selects "BurnedDown" ({ cls := "BurnedDown", name := "may", desc := "(I)I" } : Jvm.MethodName) ({ cls := "BurnedDown", name := "may", desc := "(I)I" } : Jvm.MethodName)), (Jvm.Cond.code ({ cls := "BurnedDown", name := "may", desc := "(I)I" } : Jvm.MethodName) prog_1_method_15_code (4 : Nat) (Option.some Jvm.ClassFile.FieldType.int)), (Jvm.Cond.methodLink "BurnedDown" (168 : Nat) ({ cls := "BurnedDown", name := "countWaysOf", desc := "(I)V" } : Jvm.MethodName)), (Jvm.Cond.instanceMethod ({ cls := "BurnedDown", name := "countWaysOf", desc := "(I)V" } : Jvm.MethodName)), (Jvm.Cond.code ({ cls := "BurnedDown", name := "countWaysOf", desc := "(I)V" } : Jvm.MethodName) prog_1_method_33_code (2 : Nat) (Option.none : Option Jvm.ClassFile.FieldType)), (Jvm.Cond.methodLink "BurnedDownLaw" (79 : Nat) ({ cls := "BurnedDown", name := "run", desc := "(III)I" } : Jvm.MethodName)), (Jvm.Cond.instanceMethod ({ cls := "BurnedDown", name := "run", desc := "(III)I" } : Jvm.MethodName)), (Jvm.Cond.selects "BurnedDown" ({ cls := "BurnedDown", name := "run", desc := "(III)I" } : Jvm.MethodName) ({ cls := "BurnedDown", name := "run", desc := "(III)I" } : Jvm.MethodName)), (Jvm.Cond.code ({ cls := "BurnedDown", name := "run", desc := "(III)I" } : Jvm.MethodName) prog_1_method_16_code (5 : Nat) (Option.some Jvm.ClassFile.FieldType.int))]
def bt_19 : List Cond := [(Jvm.Cond.methodLink "BurnedDown" (176 : Nat) ({ cls := "BurnedDown", name := "runStart", desc := "(II)I" } : Jvm.MethodName)), (Jvm.Cond.instanceMethod ({ cls := "BurnedDown", name := "runStart", desc := "(II)I" } : Jvm.MethodName)), (Jvm.Cond.code ({ cls := "BurnedDown", name := "runStart", desc := "(II)I" } : Jvm.MethodName) prog_1_method_35_code (6 : Nat) (Option.some Jvm.ClassFile.FieldType.int)), (Jvm.Cond.methodLink "BurnedDown" (179 : Nat) ({ cls := "BurnedDown", name := "runEnd", desc := "(II)I" } : Jvm.MethodName)), (Jvm.Cond.instanceMethod ({ cls := "BurnedDown", name := "runEnd", desc := "(II)I" } : Jvm.MethodName)), (Jvm.Cond.code ({ cls := "BurnedDown", name := "runEnd", desc := "(II)I" } : Jvm.MethodName) prog_1_method_36_code (4 : Nat) (Option.some Jvm.ClassFile.FieldType.int)), (Jvm.Cond.methodLink "BurnedDownLaw" (83 : Nat) ({ cls := "BurnedDown", name := "chance", desc := "(III)J" } : Jvm.MethodName)), (Jvm.Cond.instanceMethod ({ cls := "BurnedDown", name := "chance", desc := "(III)J" } : Jvm.MethodName)), (Jvm.Cond.selects "BurnedDown" ({ cls := "BurnedDown", name := "chance", desc := "(III)J" } : Jvm.MethodName) ({ cls := "BurnedDown", name := "chance", desc := "(III)J" } : Jvm.MethodName)), (Jvm.Cond.code ({ cls := "BurnedDown", name := "chance", desc := "(III)J" } : Jvm.MethodName) prog_1_method_17_code (11 : Nat) (Option.some Jvm.ClassFile.FieldType.long)), (Jvm.Cond.methodLink "BurnedDown" (186 : Nat) ({ cls := "BurnedDown", name := "greatestDivisor", desc := "(JJ)J" } : Jvm.MethodName)), (Jvm.Cond.static ({ cls := "BurnedDown", name := "greatestDivisor", desc := "(JJ)J" } : Jvm.MethodName)), (Jvm.Cond.code ({ cls := "BurnedDown", name := "greatestDivisor", desc := "(JJ)J" } : Jvm.MethodName) prog_1_method_37_code (11 : Nat) (Option.some Jvm.ClassFile.FieldType.long)), (Jvm.Cond.methodLink "BurnedDownLaw" (88 : Nat) ({ cls := "BurnedDown", name := "put", desc := "(I)I" } : Jvm.MethodName)), (Jvm.Cond.instanceMethod ({ cls := "BurnedDown", name := "put", desc := "(I)I" } : Jvm.MethodName)), (Jvm.Cond.selects "BurnedDown" ({ cls := "BurnedDown", name := "put", desc := "(I)I" } : Jvm.MethodName) ({ cls := "BurnedDown", name := "put", desc := "(I)I" } : Jvm.MethodName)), (Jvm.Cond.code ({ cls := "BurnedDown", name := "put", desc := "(I)I" } : Jvm.MethodName) prog_1_method_18_code (3 : Nat) (Option.some Jvm.ClassFile.FieldType.int)), (Jvm.Cond.methodLink "BurnedDownLaw" (92 : Nat) ({ cls := "BurnedDown", name := "judge", desc := "()I" } : Jvm.MethodName)), (Jvm.Cond.instanceMethod ({ cls := "BurnedDown", name := "judge", desc := "()I" } : Jvm.MethodName)), (Jvm.Cond.selects "BurnedDown" ({ cls := "BurnedDown", name := "judge", desc := "()I" } : Jvm.MethodName) ({ cls := "BurnedDown", name := "judge", desc := "()I" } : Jvm.MethodName)), (Jvm.Cond.code ({ cls := "BurnedDown", name := "judge", desc := "()I" } : Jvm.MethodName) prog_1_method_19_code (4 : Nat) (Option.some Jvm.ClassFile.FieldType.int)), (Jvm.Cond.methodLink "BurnedDown" (197 : Nat) ({ cls := "BurnedDown", name := "wrongInRow", desc := "(I)I" } : Jvm.MethodName)), (Jvm.Cond.instanceMethod ({ cls := "BurnedDown", name := "wrongInRow", desc := "(I)I" } : Jvm.MethodName)), (Jvm.Cond.code ({ cls := "BurnedDown", name := "wrongInRow", desc := "(I)I" } : Jvm.MethodName) prog_1_method_38_code (7 : Nat) (Option.some Jvm.ClassFile.FieldType.int))]
def bt_20 : List Cond := [(Jvm.Cond.methodLink "BurnedDown" (255 : Nat) ({ cls := "java/lang/Integer", name := "numberOfTrailingZeros", desc := "(I)I" } : Jvm.MethodName)), (Jvm.Cond.static ({ cls := "java/lang/Integer", name := "numberOfTrailingZeros", desc := "(I)I" } : Jvm.MethodName)), (Jvm.Cond.code ({ cls := "java/lang/Integer", name := "numberOfTrailingZeros", desc := "(I)I" } : Jvm.MethodName) prog_13_method_48_code (2 : Nat) (Option.some Jvm.ClassFile.FieldType.int)), (Jvm.Cond.methodLink "BurnedDownLaw" (96 : Nat) ({ cls := "BurnedDown", name := "doubts", desc := "()I" } : Jvm.MethodName)), (Jvm.Cond.instanceMethod ({ cls := "BurnedDown", name := "doubts", desc := "()I" } : Jvm.MethodName)), (Jvm.Cond.selects "BurnedDown" ({ cls := "BurnedDown", name := "doubts", desc := "()I" } : Jvm.MethodName) ({ cls := "BurnedDown", name := "doubts", desc := "()I" } : Jvm.MethodName)), (Jvm.Cond.code ({ cls := "BurnedDown", name := "doubts", desc := "()I" } : Jvm.MethodName) prog_1_method_20_code (3 : Nat) (Option.some Jvm.ClassFile.FieldType.int)), (Jvm.Cond.methodLink "BurnedDown" (200 : Nat) ({ cls := "BurnedDown", name := "costOf", desc := "(I)J" } : Jvm.MethodName)), (Jvm.Cond.static ({ cls := "BurnedDown", name := "costOf", desc := "(I)J" } : Jvm.MethodName)), (Jvm.Cond.code ({ cls := "BurnedDown", name := "costOf", desc := "(I)J" } : Jvm.MethodName) prog_1_method_39_code (1 : Nat) (Option.some Jvm.ClassFile.FieldType.long)), (Jvm.Cond.methodLink "BurnedDown" (244 : Nat) ({ cls := "java/lang/Integer", name := "bitCount", desc := "(I)I" } : Jvm.MethodName)), (Jvm.Cond.static ({ cls := "java/lang/Integer", name := "bitCount", desc := "(I)I" } : Jvm.MethodName)), (Jvm.Cond.code ({ cls := "java/lang/Integer", name := "bitCount", desc := "(I)I" } : Jvm.MethodName) prog_13_method_49_code (1 : Nat) (Option.some Jvm.ClassFile.FieldType.int)), (Jvm.Cond.constant "java/lang/Integer" (265 : Nat) (1431655765 : Int32)), (Jvm.Cond.constant "java/lang/Integer" (266 : Nat) (858993459 : Int32)), (Jvm.Cond.constant "java/lang/Integer" (267 : Nat) (252645135 : Int32)), (Jvm.Cond.constantLong "BurnedDown" (268 : Nat) (1024 : Int64)), (Jvm.Cond.constantLong "BurnedDown" (211 : Nat) (1099511627776 : Int64)), (Jvm.Cond.methodLink "BurnedDownLaw" (100 : Nat) ({ cls := "BurnedDown", name := "opened", desc := "()I" } : Jvm.MethodName)), (Jvm.Cond.instanceMethod ({ cls := "BurnedDown", name := "opened", desc := "()I" } : Jvm.MethodName)), (Jvm.Cond.selects "BurnedDown" ({ cls := "BurnedDown", name := "opened", desc := "()I" } : Jvm.MethodName) ({ cls := "BurnedDown", name := "opened", desc := "()I" } : Jvm.MethodName)), (Jvm.Cond.code ({ cls := "BurnedDown", name := "opened", desc := "()I" } : Jvm.MethodName) prog_1_method_21_code (5 : Nat) (Option.some Jvm.ClassFile.FieldType.int)), (Jvm.Cond.methodLink "BurnedDownLaw" (104 : Nat) ({ cls := "BurnedDown", name := "hangs", desc := "()I" } : Jvm.MethodName)), (Jvm.Cond.instanceMethod ({ cls := "BurnedDown", name := "hangs", desc := "()I" } : Jvm.MethodName))]
def bt_21 : List Cond := [(Jvm.Cond.selects "BurnedDown" ({ cls := "BurnedDown", name := "hangs", desc := "()I" } : Jvm.MethodName) ({ cls := "BurnedDown", name := "hangs", desc := "()I" } : Jvm.MethodName)), (Jvm.Cond.code ({ cls := "BurnedDown", name := "hangs", desc := "()I" } : Jvm.MethodName) prog_1_method_22_code (7 : Nat) (Option.some Jvm.ClassFile.FieldType.int)), (Jvm.Cond.methodLink "BurnedDownLaw" (108 : Nat) ({ cls := "BurnedDown", name := "ahead", desc := "(II)I" } : Jvm.MethodName)), (Jvm.Cond.instanceMethod ({ cls := "BurnedDown", name := "ahead", desc := "(II)I" } : Jvm.MethodName)), (Jvm.Cond.selects "BurnedDown" ({ cls := "BurnedDown", name := "ahead", desc := "(II)I" } : Jvm.MethodName) ({ cls := "BurnedDown", name := "ahead", desc := "(II)I" } : Jvm.MethodName)), (Jvm.Cond.code ({ cls := "BurnedDown", name := "ahead", desc := "(II)I" } : Jvm.MethodName) prog_1_method_23_code (5 : Nat) (Option.some Jvm.ClassFile.FieldType.int)), (Jvm.Cond.methodLink "BurnedDown" (225 : Nat) ({ cls := "BurnedDown", name := "someWayBefore", desc := "(II)Z" } : Jvm.MethodName)), (Jvm.Cond.instanceMethod ({ cls := "BurnedDown", name := "someWayBefore", desc := "(II)Z" } : Jvm.MethodName)), (Jvm.Cond.code ({ cls := "BurnedDown", name := "someWayBefore", desc := "(II)Z" } : Jvm.MethodName) prog_1_method_40_code (6 : Nat) (Option.some Jvm.ClassFile.FieldType.boolean)), (Jvm.Cond.methodLink "BurnedDown" (270 : Nat) ({ cls := "BurnedDown", name := "setMinutes", desc := "(IZ)V" } : Jvm.MethodName)), (Jvm.Cond.instanceMethod ({ cls := "BurnedDown", name := "setMinutes", desc := "(IZ)V" } : Jvm.MethodName)), (Jvm.Cond.code ({ cls := "BurnedDown", name := "setMinutes", desc := "(IZ)V" } : Jvm.MethodName) prog_1_method_42_code (7 : Nat) (Option.none : Option Jvm.ClassFile.FieldType)), (Jvm.Cond.constantLong "BurnedDown" (274 : Nat) (299 : Int64)), (Jvm.Cond.methodLink "BurnedDown" (229 : Nat) ({ cls := "BurnedDown", name := "someWayNotBefore", desc := "(II)Z" } : Jvm.MethodName)), (Jvm.Cond.instanceMethod ({ cls := "BurnedDown", name := "someWayNotBefore", desc := "(II)Z" } : Jvm.MethodName)), (Jvm.Cond.code ({ cls := "BurnedDown", name := "someWayNotBefore", desc := "(II)Z" } : Jvm.MethodName) prog_1_method_41_code (4 : Nat) (Option.some Jvm.ClassFile.FieldType.boolean)), (Jvm.Cond.methodLink "BurnedDownLaw" (112 : Nat) ({ cls := "BurnedDown", name := "narrow", desc := "(II)I" } : Jvm.MethodName)), (Jvm.Cond.instanceMethod ({ cls := "BurnedDown", name := "narrow", desc := "(II)I" } : Jvm.MethodName)), (Jvm.Cond.selects "BurnedDown" ({ cls := "BurnedDown", name := "narrow", desc := "(II)I" } : Jvm.MethodName) ({ cls := "BurnedDown", name := "narrow", desc := "(II)I" } : Jvm.MethodName)), (Jvm.Cond.code ({ cls := "BurnedDown", name := "narrow", desc := "(II)I" } : Jvm.MethodName) prog_1_method_24_code (4 : Nat) (Option.some Jvm.ClassFile.FieldType.int)), (Jvm.Cond.methodLink "BurnedDown" (232 : Nat) ({ cls := "BurnedDown", name := "mostAlike", desc := "(II)I" } : Jvm.MethodName)), (Jvm.Cond.instanceMethod ({ cls := "BurnedDown", name := "mostAlike", desc := "(II)I" } : Jvm.MethodName)), (Jvm.Cond.code ({ cls := "BurnedDown", name := "mostAlike", desc := "(II)I" } : Jvm.MethodName) prog_1_method_43_code (8 : Nat) (Option.some Jvm.ClassFile.FieldType.int)), (Jvm.Cond.methodLink "BurnedDown" (282 : Nat) ({ cls := "java/lang/Math", name := "max", desc := "(II)I" } : Jvm.MethodName))]
def bt_22 : List Cond := [(Jvm.Cond.methodLink "BurnedDownLaw" (116 : Nat) ({ cls := "BurnedDown", name := "next", desc := "(I)I" } : Jvm.MethodName)), (Jvm.Cond.instanceMethod ({ cls := "BurnedDown", name := "next", desc := "(I)I" } : Jvm.MethodName)), (Jvm.Cond.selects "BurnedDown" ({ cls := "BurnedDown", name := "next", desc := "(I)I" } : Jvm.MethodName) ({ cls := "BurnedDown", name := "next", desc := "(I)I" } : Jvm.MethodName)), (Jvm.Cond.code ({ cls := "BurnedDown", name := "next", desc := "(I)I" } : Jvm.MethodName) prog_1_method_25_code (7 : Nat) (Option.some Jvm.ClassFile.FieldType.int)), (Jvm.Cond.methodLink "BurnedDownLaw" (120 : Nat) ({ cls := "BurnedDown", name := "image", desc := "()I" } : Jvm.MethodName)), (Jvm.Cond.instanceMethod ({ cls := "BurnedDown", name := "image", desc := "()I" } : Jvm.MethodName)), (Jvm.Cond.selects "BurnedDown" ({ cls := "BurnedDown", name := "image", desc := "()I" } : Jvm.MethodName) ({ cls := "BurnedDown", name := "image", desc := "()I" } : Jvm.MethodName)), (Jvm.Cond.code ({ cls := "BurnedDown", name := "image", desc := "()I" } : Jvm.MethodName) prog_1_method_26_code (1 : Nat) (Option.some Jvm.ClassFile.FieldType.int)), (Jvm.Cond.instanceMethod ({ cls := "BurnedDown$World", name := "take", desc := "(LBurnedDown$World;)V" } : Jvm.MethodName)), (Jvm.Cond.code ({ cls := "BurnedDown$World", name := "take", desc := "(LBurnedDown$World;)V" } : Jvm.MethodName) prog_10_method_5_code (2 : Nat) (Option.none : Option Jvm.ClassFile.FieldType)), (Jvm.Cond.instanceMethod ({ cls := "BurnedDown$Things", name := "take", desc := "(LBurnedDown$Things;)V" } : Jvm.MethodName)), (Jvm.Cond.code ({ cls := "BurnedDown$Things", name := "take", desc := "(LBurnedDown$Things;)V" } : Jvm.MethodName) prog_9_method_7_code (2 : Nat) (Option.none : Option Jvm.ClassFile.FieldType)), (Jvm.Cond.static ({ cls := "BurnedDown", name := "copyRow", desc := "([I[I)V" } : Jvm.MethodName)), (Jvm.Cond.code ({ cls := "BurnedDown", name := "copyRow", desc := "([I[I)V" } : Jvm.MethodName) prog_1_method_48_code (3 : Nat) (Option.none : Option Jvm.ClassFile.FieldType)), (Jvm.Cond.instanceMethod ({ cls := "BurnedDown$Looks", name := "take", desc := "(LBurnedDown$Looks;)V" } : Jvm.MethodName)), (Jvm.Cond.code ({ cls := "BurnedDown$Looks", name := "take", desc := "(LBurnedDown$Looks;)V" } : Jvm.MethodName) prog_6_method_4_code (2 : Nat) (Option.none : Option Jvm.ClassFile.FieldType)), (Jvm.Cond.methodLink "BurnedDownLaw" (124 : Nat) ({ cls := "BurnedDown", name := "on", desc := "()I" } : Jvm.MethodName)), (Jvm.Cond.instanceMethod ({ cls := "BurnedDown", name := "on", desc := "()I" } : Jvm.MethodName)), (Jvm.Cond.selects "BurnedDown" ({ cls := "BurnedDown", name := "on", desc := "()I" } : Jvm.MethodName) ({ cls := "BurnedDown", name := "on", desc := "()I" } : Jvm.MethodName)), (Jvm.Cond.code ({ cls := "BurnedDown", name := "on", desc := "()I" } : Jvm.MethodName) prog_1_method_27_code (1 : Nat) (Option.some Jvm.ClassFile.FieldType.int)), (Jvm.Cond.methodLink "BurnedDownLaw" (128 : Nat) ({ cls := "BurnedDown", name := "count", desc := "(I)I" } : Jvm.MethodName)), (Jvm.Cond.instanceMethod ({ cls := "BurnedDown", name := "count", desc := "(I)I" } : Jvm.MethodName)), (Jvm.Cond.selects "BurnedDown" ({ cls := "BurnedDown", name := "count", desc := "(I)I" } : Jvm.MethodName) ({ cls := "BurnedDown", name := "count", desc := "(I)I" } : Jvm.MethodName)), (Jvm.Cond.code ({ cls := "BurnedDown", name := "count", desc := "(I)I" } : Jvm.MethodName) prog_1_method_28_code (2 : Nat) (Option.some Jvm.ClassFile.FieldType.int))]
def bt_23 : List Cond := [(Jvm.Cond.instanceMethod ({ cls := "BurnedDown$Things", name := "joinings", desc := "()I" } : Jvm.MethodName)), (Jvm.Cond.code ({ cls := "BurnedDown$Things", name := "joinings", desc := "()I" } : Jvm.MethodName) prog_9_method_4_code (3 : Nat) (Option.some Jvm.ClassFile.FieldType.int)), (Jvm.Cond.classLink "BurnedDownLaw" (10 : Nat) "BurnedDownModel"), (Jvm.Cond.instantiable "BurnedDownModel" (38 : Nat)), (Jvm.Cond.methodLink "BurnedDownLaw" (12 : Nat) ({ cls := "BurnedDownModel", name := "<init>", desc := "()V" } : Jvm.MethodName)), (Jvm.Cond.instanceMethod ({ cls := "BurnedDownModel", name := "<init>", desc := "()V" } : Jvm.MethodName)), (Jvm.Cond.code ({ cls := "BurnedDownModel", name := "<init>", desc := "()V" } : Jvm.MethodName) prog_12_method_1_code (2 : Nat) (Option.none : Option Jvm.ClassFile.FieldType)), (Jvm.Cond.methodLink "BurnedDownModel" (1 : Nat) ({ cls := "java/lang/Object", name := "<init>", desc := "()V" } : Jvm.MethodName)), (Jvm.Cond.fieldLink "BurnedDownModel" (7 : Nat) "BurnedDownModel" "refused" "[I"), (Jvm.Cond.fieldLink "BurnedDownModel" (13 : Nat) "BurnedDownModel" "tape" "[I"), (Jvm.Cond.fieldLink "BurnedDownModel" (16 : Nat) "BurnedDownModel" "law" "[I"), (Jvm.Cond.fieldLink "BurnedDownModel" (19 : Nat) "BurnedDownModel" "beginning" "[I"), (Jvm.Cond.fieldLink "BurnedDownModel" (22 : Nat) "BurnedDownModel" "pace" "[I"), (Jvm.Cond.fieldLink "BurnedDownModel" (102 : Nat) "BurnedDownModel" "taped" "I"), (Jvm.Cond.fieldLink "BurnedDownModel" (111 : Nat) "BurnedDownModel" "at" "I"), (Jvm.Cond.fieldLink "BurnedDownModel" (125 : Nat) "BurnedDownModel" "things" "I"), (Jvm.Cond.fieldLink "BurnedDownModel" (25 : Nat) "BurnedDownModel" "candidateFrom" "[I"), (Jvm.Cond.fieldLink "BurnedDownModel" (28 : Nat) "BurnedDownModel" "candidateTo" "[I"), (Jvm.Cond.fieldLink "BurnedDownModel" (31 : Nat) "BurnedDownModel" "room" "I"), (Jvm.Cond.fieldLink "BurnedDownModel" (35 : Nat) "BurnedDownModel" "windowFrom" "I"), (Jvm.Cond.fieldLink "BurnedDownModel" (38 : Nat) "BurnedDownModel" "windowTo" "I"), (Jvm.Cond.fieldLink "BurnedDownModel" (136 : Nat) "BurnedDownModel" "candidates" "I"), (Jvm.Cond.fieldLink "BurnedDownModel" (41 : Nat) "BurnedDownModel" "isNew" "Z"), (Jvm.Cond.fieldLink "BurnedDownModel" (45 : Nat) "BurnedDownModel" "lookOf" "[I")]
def bt_24 : List Cond := [(Jvm.Cond.fieldLink "BurnedDownModel" (48 : Nat) "BurnedDownModel" "lookAt" "[I"), (Jvm.Cond.fieldLink "BurnedDownModel" (51 : Nat) "BurnedDownModel" "low" "[I"), (Jvm.Cond.fieldLink "BurnedDownModel" (54 : Nat) "BurnedDownModel" "high" "[I"), (Jvm.Cond.fieldLink "BurnedDownModel" (57 : Nat) "BurnedDownModel" "doubted" "[I"), (Jvm.Cond.fieldLink "BurnedDownModel" (152 : Nat) "BurnedDownModel" "looks" "I"), (Jvm.Cond.fieldLink "BurnedDownModel" (60 : Nat) "BurnedDownModel" "joinedTo" "[I"), (Jvm.Cond.fieldLink "BurnedDownModel" (63 : Nat) "BurnedDownModel" "joinKind" "[I"), (Jvm.Cond.fieldLink "BurnedDownModel" (66 : Nat) "BurnedDownModel" "joinN" "[I"), (Jvm.Cond.fieldLink "BurnedDownModel" (69 : Nat) "BurnedDownModel" "lets" "[Z"), (Jvm.Cond.fieldLink "BurnedDownModel" (73 : Nat) "BurnedDownModel" "from" "[I"), (Jvm.Cond.fieldLink "BurnedDownModel" (76 : Nat) "BurnedDownModel" "to" "[I"), (Jvm.Cond.fieldLink "BurnedDownModel" (79 : Nat) "BurnedDownModel" "many" "[J"), (Jvm.Cond.fieldLink "BurnedDownModel" (83 : Nat) "BurnedDownModel" "below" "[J"), (Jvm.Cond.fieldLink "BurnedDownModel" (159 : Nat) "BurnedDownModel" "leftOut" "I"), (Jvm.Cond.fieldLink "BurnedDownModel" (86 : Nat) "BurnedDownModel" "isMay" "[Z"), (Jvm.Cond.fieldLink "BurnedDownModel" (89 : Nat) "BurnedDownModel" "row" "[I"), (Jvm.Cond.fieldLink "BurnedDownModel" (196 : Nat) "BurnedDownModel" "rowMany" "I"), (Jvm.Cond.fieldLink "BurnedDownModel" (92 : Nat) "BurnedDownModel" "same" "[I"), (Jvm.Cond.fieldLink "BurnedDownModel" (95 : Nat) "BurnedDownModel" "kept" "[I"), (Jvm.Cond.fieldLink "BurnedDownModel" (221 : Nat) "BurnedDownModel" "hasImage" "Z"), (Jvm.Cond.fieldLink "BurnedDownModel" (208 : Nat) "BurnedDownModel" "isKeeping" "Z"), (Jvm.Cond.fieldLink "BurnedDownModel" (211 : Nat) "BurnedDownModel" "cursor" "I"), (Jvm.Cond.laysFinal "BurnedDownModel" "BurnedDownModel" "refused" "[I"), (Jvm.Cond.laysFinal "BurnedDownModel" "BurnedDownModel" "tape" "[I")]
def bt_25 : List Cond := [(Jvm.Cond.laysFinal "BurnedDownModel" "BurnedDownModel" "law" "[I"), (Jvm.Cond.laysFinal "BurnedDownModel" "BurnedDownModel" "beginning" "[I"), (Jvm.Cond.laysFinal "BurnedDownModel" "BurnedDownModel" "pace" "[I"), (Jvm.Cond.lays "BurnedDownModel" "BurnedDownModel" "taped" "I"), (Jvm.Cond.lays "BurnedDownModel" "BurnedDownModel" "at" "I"), (Jvm.Cond.lays "BurnedDownModel" "BurnedDownModel" "things" "I"), (Jvm.Cond.laysFinal "BurnedDownModel" "BurnedDownModel" "candidateFrom" "[I"), (Jvm.Cond.laysFinal "BurnedDownModel" "BurnedDownModel" "candidateTo" "[I"), (Jvm.Cond.lays "BurnedDownModel" "BurnedDownModel" "room" "I"), (Jvm.Cond.lays "BurnedDownModel" "BurnedDownModel" "windowFrom" "I"), (Jvm.Cond.lays "BurnedDownModel" "BurnedDownModel" "windowTo" "I"), (Jvm.Cond.lays "BurnedDownModel" "BurnedDownModel" "candidates" "I"), (Jvm.Cond.lays "BurnedDownModel" "BurnedDownModel" "isNew" "Z"), (Jvm.Cond.laysFinal "BurnedDownModel" "BurnedDownModel" "lookOf" "[I"), (Jvm.Cond.laysFinal "BurnedDownModel" "BurnedDownModel" "lookAt" "[I"), (Jvm.Cond.laysFinal "BurnedDownModel" "BurnedDownModel" "low" "[I"), (Jvm.Cond.laysFinal "BurnedDownModel" "BurnedDownModel" "high" "[I"), (Jvm.Cond.laysFinal "BurnedDownModel" "BurnedDownModel" "doubted" "[I"), (Jvm.Cond.lays "BurnedDownModel" "BurnedDownModel" "looks" "I"), (Jvm.Cond.laysFinal "BurnedDownModel" "BurnedDownModel" "joinedTo" "[I"), (Jvm.Cond.laysFinal "BurnedDownModel" "BurnedDownModel" "joinKind" "[I"), (Jvm.Cond.laysFinal "BurnedDownModel" "BurnedDownModel" "joinN" "[I"), (Jvm.Cond.laysFinal "BurnedDownModel" "BurnedDownModel" "lets" "[Z"), (Jvm.Cond.laysFinal "BurnedDownModel" "BurnedDownModel" "from" "[I")]
def bt_26 : List Cond := [(Jvm.Cond.laysFinal "BurnedDownModel" "BurnedDownModel" "to" "[I"), (Jvm.Cond.laysFinal "BurnedDownModel" "BurnedDownModel" "many" "[J"), (Jvm.Cond.laysFinal "BurnedDownModel" "BurnedDownModel" "below" "[J"), (Jvm.Cond.lays "BurnedDownModel" "BurnedDownModel" "leftOut" "I"), (Jvm.Cond.laysFinal "BurnedDownModel" "BurnedDownModel" "isMay" "[Z"), (Jvm.Cond.laysFinal "BurnedDownModel" "BurnedDownModel" "row" "[I"), (Jvm.Cond.lays "BurnedDownModel" "BurnedDownModel" "rowMany" "I"), (Jvm.Cond.laysFinal "BurnedDownModel" "BurnedDownModel" "same" "[I"), (Jvm.Cond.laysFinal "BurnedDownModel" "BurnedDownModel" "kept" "[I"), (Jvm.Cond.lays "BurnedDownModel" "BurnedDownModel" "hasImage" "Z"), (Jvm.Cond.lays "BurnedDownModel" "BurnedDownModel" "isKeeping" "Z"), (Jvm.Cond.lays "BurnedDownModel" "BurnedDownModel" "cursor" "I"), (Jvm.Cond.arrayClass Jvm.ClassFile.FieldType.boolean), (Jvm.Cond.methodLink "BurnedDownLaw" (19 : Nat) ({ cls := "BurnedDownModel", name := "feed", desc := "(IJ)I" } : Jvm.MethodName)), (Jvm.Cond.instanceMethod ({ cls := "BurnedDownModel", name := "feed", desc := "(IJ)I" } : Jvm.MethodName)), (Jvm.Cond.selects "BurnedDownModel" ({ cls := "BurnedDownModel", name := "feed", desc := "(IJ)I" } : Jvm.MethodName) ({ cls := "BurnedDownModel", name := "feed", desc := "(IJ)I" } : Jvm.MethodName)), (Jvm.Cond.code ({ cls := "BurnedDownModel", name := "feed", desc := "(IJ)I" } : Jvm.MethodName) prog_12_method_6_code (6 : Nat) (Option.some Jvm.ClassFile.FieldType.int)), (Jvm.Cond.methodLink "BurnedDownModel" (98 : Nat) ({ cls := "BurnedDownModel", name := "out", desc := "(III)I" } : Jvm.MethodName)), (Jvm.Cond.static ({ cls := "BurnedDownModel", name := "out", desc := "(III)I" } : Jvm.MethodName)), (Jvm.Cond.code ({ cls := "BurnedDownModel", name := "out", desc := "(III)I" } : Jvm.MethodName) prog_12_method_4_code (3 : Nat) (Option.some Jvm.ClassFile.FieldType.int)), (Jvm.Cond.methodLink "BurnedDownModel" (105 : Nat) ({ cls := "BurnedDownModel", name := "no", desc := "(I)I" } : Jvm.MethodName)), (Jvm.Cond.instanceMethod ({ cls := "BurnedDownModel", name := "no", desc := "(I)I" } : Jvm.MethodName)), (Jvm.Cond.code ({ cls := "BurnedDownModel", name := "no", desc := "(I)I" } : Jvm.MethodName) prog_12_method_2_code (2 : Nat) (Option.some Jvm.ClassFile.FieldType.int)), (Jvm.Cond.constantLong "BurnedDownModel" (109 : Nat) (255 : Int64))]
def bt_27 : List Cond := [(Jvm.Cond.methodLink "BurnedDownLaw" (24 : Nat) ({ cls := "BurnedDownModel", name := "thing", desc := "()I" } : Jvm.MethodName)), (Jvm.Cond.instanceMethod ({ cls := "BurnedDownModel", name := "thing", desc := "()I" } : Jvm.MethodName)), (Jvm.Cond.selects "BurnedDownModel" ({ cls := "BurnedDownModel", name := "thing", desc := "()I" } : Jvm.MethodName) ({ cls := "BurnedDownModel", name := "thing", desc := "()I" } : Jvm.MethodName)), (Jvm.Cond.code ({ cls := "BurnedDownModel", name := "thing", desc := "()I" } : Jvm.MethodName) prog_12_method_10_code (2 : Nat) (Option.some Jvm.ClassFile.FieldType.int)), (Jvm.Cond.methodLink "BurnedDownModel" (128 : Nat) ({ cls := "BurnedDownModel", name := "reads", desc := "()Z" } : Jvm.MethodName)), (Jvm.Cond.instanceMethod ({ cls := "BurnedDownModel", name := "reads", desc := "()Z" } : Jvm.MethodName)), (Jvm.Cond.code ({ cls := "BurnedDownModel", name := "reads", desc := "()Z" } : Jvm.MethodName) prog_12_method_9_code (5 : Nat) (Option.some Jvm.ClassFile.FieldType.boolean)), (Jvm.Cond.methodLink "BurnedDownModel" (114 : Nat) ({ cls := "BurnedDownModel", name := "sign", desc := "()I" } : Jvm.MethodName)), (Jvm.Cond.instanceMethod ({ cls := "BurnedDownModel", name := "sign", desc := "()I" } : Jvm.MethodName)), (Jvm.Cond.code ({ cls := "BurnedDownModel", name := "sign", desc := "()I" } : Jvm.MethodName) prog_12_method_7_code (1 : Nat) (Option.some Jvm.ClassFile.FieldType.int)), (Jvm.Cond.methodLink "BurnedDownModel" (122 : Nat) ({ cls := "BurnedDownModel", name := "number", desc := "(I)I" } : Jvm.MethodName)), (Jvm.Cond.instanceMethod ({ cls := "BurnedDownModel", name := "number", desc := "(I)I" } : Jvm.MethodName)), (Jvm.Cond.code ({ cls := "BurnedDownModel", name := "number", desc := "(I)I" } : Jvm.MethodName) prog_12_method_8_code (4 : Nat) (Option.some Jvm.ClassFile.FieldType.int)), (Jvm.Cond.methodLink "BurnedDownModel" (118 : Nat) ({ cls := "BurnedDownModel", name := "isIn", desc := "(III)Z" } : Jvm.MethodName)), (Jvm.Cond.static ({ cls := "BurnedDownModel", name := "isIn", desc := "(III)Z" } : Jvm.MethodName)), (Jvm.Cond.code ({ cls := "BurnedDownModel", name := "isIn", desc := "(III)Z" } : Jvm.MethodName) prog_12_method_3_code (3 : Nat) (Option.some Jvm.ClassFile.FieldType.boolean)), (Jvm.Cond.methodLink "BurnedDownLaw" (29 : Nat) ({ cls := "BurnedDownModel", name := "thingOf", desc := "(II)I" } : Jvm.MethodName)), (Jvm.Cond.instanceMethod ({ cls := "BurnedDownModel", name := "thingOf", desc := "(II)I" } : Jvm.MethodName)), (Jvm.Cond.selects "BurnedDownModel" ({ cls := "BurnedDownModel", name := "thingOf", desc := "(II)I" } : Jvm.MethodName) ({ cls := "BurnedDownModel", name := "thingOf", desc := "(II)I" } : Jvm.MethodName)), (Jvm.Cond.code ({ cls := "BurnedDownModel", name := "thingOf", desc := "(II)I" } : Jvm.MethodName) prog_12_method_12_code (3 : Nat) (Option.some Jvm.ClassFile.FieldType.int)), (Jvm.Cond.methodLink "BurnedDownModel" (132 : Nat) ({ cls := "BurnedDownModel", name := "isThing", desc := "(I)Z" } : Jvm.MethodName)), (Jvm.Cond.instanceMethod ({ cls := "BurnedDownModel", name := "isThing", desc := "(I)Z" } : Jvm.MethodName)), (Jvm.Cond.code ({ cls := "BurnedDownModel", name := "isThing", desc := "(I)Z" } : Jvm.MethodName) prog_12_method_11_code (2 : Nat) (Option.some Jvm.ClassFile.FieldType.boolean)), (Jvm.Cond.methodLink "BurnedDownLaw" (34 : Nat) ({ cls := "BurnedDownModel", name := "room", desc := "(I)I" } : Jvm.MethodName))]
def bt_28 : List Cond := [(Jvm.Cond.instanceMethod ({ cls := "BurnedDownModel", name := "room", desc := "(I)I" } : Jvm.MethodName)), (Jvm.Cond.selects "BurnedDownModel" ({ cls := "BurnedDownModel", name := "room", desc := "(I)I" } : Jvm.MethodName) ({ cls := "BurnedDownModel", name := "room", desc := "(I)I" } : Jvm.MethodName)), (Jvm.Cond.code ({ cls := "BurnedDownModel", name := "room", desc := "(I)I" } : Jvm.MethodName) prog_12_method_13_code (4 : Nat) (Option.some Jvm.ClassFile.FieldType.int)), (Jvm.Cond.methodLink "BurnedDownLaw" (38 : Nat) ({ cls := "BurnedDownModel", name := "window", desc := "(II)I" } : Jvm.MethodName)), (Jvm.Cond.instanceMethod ({ cls := "BurnedDownModel", name := "window", desc := "(II)I" } : Jvm.MethodName)), (Jvm.Cond.selects "BurnedDownModel" ({ cls := "BurnedDownModel", name := "window", desc := "(II)I" } : Jvm.MethodName) ({ cls := "BurnedDownModel", name := "window", desc := "(II)I" } : Jvm.MethodName)), (Jvm.Cond.code ({ cls := "BurnedDownModel", name := "window", desc := "(II)I" } : Jvm.MethodName) prog_12_method_14_code (4 : Nat) (Option.some Jvm.ClassFile.FieldType.int)), (Jvm.Cond.methodLink "BurnedDownLaw" (42 : Nat) ({ cls := "BurnedDownModel", name := "candidate", desc := "(II)I" } : Jvm.MethodName)), (Jvm.Cond.instanceMethod ({ cls := "BurnedDownModel", name := "candidate", desc := "(II)I" } : Jvm.MethodName)), (Jvm.Cond.selects "BurnedDownModel" ({ cls := "BurnedDownModel", name := "candidate", desc := "(II)I" } : Jvm.MethodName) ({ cls := "BurnedDownModel", name := "candidate", desc := "(II)I" } : Jvm.MethodName)), (Jvm.Cond.code ({ cls := "BurnedDownModel", name := "candidate", desc := "(II)I" } : Jvm.MethodName) prog_12_method_15_code (4 : Nat) (Option.some Jvm.ClassFile.FieldType.int)), (Jvm.Cond.methodLink "BurnedDownLaw" (47 : Nat) ({ cls := "BurnedDownModel", name := "left", desc := "(III)I" } : Jvm.MethodName)), (Jvm.Cond.instanceMethod ({ cls := "BurnedDownModel", name := "left", desc := "(III)I" } : Jvm.MethodName)), (Jvm.Cond.selects "BurnedDownModel" ({ cls := "BurnedDownModel", name := "left", desc := "(III)I" } : Jvm.MethodName) ({ cls := "BurnedDownModel", name := "left", desc := "(III)I" } : Jvm.MethodName)), (Jvm.Cond.code ({ cls := "BurnedDownModel", name := "left", desc := "(III)I" } : Jvm.MethodName) prog_12_method_19_code (5 : Nat) (Option.some Jvm.ClassFile.FieldType.int)), (Jvm.Cond.methodLink "BurnedDownModel" (146 : Nat) ({ cls := "BurnedDownModel", name := "why", desc := "(II)I" } : Jvm.MethodName)), (Jvm.Cond.static ({ cls := "BurnedDownModel", name := "why", desc := "(II)I" } : Jvm.MethodName)), (Jvm.Cond.code ({ cls := "BurnedDownModel", name := "why", desc := "(II)I" } : Jvm.MethodName) prog_12_method_5_code (2 : Nat) (Option.some Jvm.ClassFile.FieldType.int)), (Jvm.Cond.methodLink "BurnedDownModel" (149 : Nat) ({ cls := "BurnedDownModel", name := "leftOf", desc := "(III)I" } : Jvm.MethodName)), (Jvm.Cond.instanceMethod ({ cls := "BurnedDownModel", name := "leftOf", desc := "(III)I" } : Jvm.MethodName)), (Jvm.Cond.code ({ cls := "BurnedDownModel", name := "leftOf", desc := "(III)I" } : Jvm.MethodName) prog_12_method_18_code (6 : Nat) (Option.some Jvm.ClassFile.FieldType.int)), (Jvm.Cond.methodLink "BurnedDownModel" (139 : Nat) ({ cls := "BurnedDownModel", name := "isOpen", desc := "(I)Z" } : Jvm.MethodName)), (Jvm.Cond.instanceMethod ({ cls := "BurnedDownModel", name := "isOpen", desc := "(I)Z" } : Jvm.MethodName)), (Jvm.Cond.code ({ cls := "BurnedDownModel", name := "isOpen", desc := "(I)Z" } : Jvm.MethodName) prog_12_method_16_code (2 : Nat) (Option.some Jvm.ClassFile.FieldType.boolean))]
def bt_29 : List Cond := [(Jvm.Cond.methodLink "BurnedDownModel" (142 : Nat) ({ cls := "BurnedDownModel", name := "nearer", desc := "(II)I" } : Jvm.MethodName)), (Jvm.Cond.instanceMethod ({ cls := "BurnedDownModel", name := "nearer", desc := "(II)I" } : Jvm.MethodName)), (Jvm.Cond.code ({ cls := "BurnedDownModel", name := "nearer", desc := "(II)I" } : Jvm.MethodName) prog_12_method_17_code (5 : Nat) (Option.some Jvm.ClassFile.FieldType.int)), (Jvm.Cond.methodLink "BurnedDownLaw" (52 : Nat) ({ cls := "BurnedDownModel", name := "look", desc := "(IIII)I" } : Jvm.MethodName)), (Jvm.Cond.instanceMethod ({ cls := "BurnedDownModel", name := "look", desc := "(IIII)I" } : Jvm.MethodName)), (Jvm.Cond.selects "BurnedDownModel" ({ cls := "BurnedDownModel", name := "look", desc := "(IIII)I" } : Jvm.MethodName) ({ cls := "BurnedDownModel", name := "look", desc := "(IIII)I" } : Jvm.MethodName)), (Jvm.Cond.code ({ cls := "BurnedDownModel", name := "look", desc := "(IIII)I" } : Jvm.MethodName) prog_12_method_20_code (6 : Nat) (Option.some Jvm.ClassFile.FieldType.int)), (Jvm.Cond.methodLink "BurnedDownLaw" (57 : Nat) ({ cls := "BurnedDownModel", name := "doubt", desc := "(IZ)I" } : Jvm.MethodName)), (Jvm.Cond.instanceMethod ({ cls := "BurnedDownModel", name := "doubt", desc := "(IZ)I" } : Jvm.MethodName)), (Jvm.Cond.selects "BurnedDownModel" ({ cls := "BurnedDownModel", name := "doubt", desc := "(IZ)I" } : Jvm.MethodName) ({ cls := "BurnedDownModel", name := "doubt", desc := "(IZ)I" } : Jvm.MethodName)), (Jvm.Cond.code ({ cls := "BurnedDownModel", name := "doubt", desc := "(IZ)I" } : Jvm.MethodName) prog_12_method_21_code (3 : Nat) (Option.some Jvm.ClassFile.FieldType.int)), (Jvm.Cond.methodLink "BurnedDownLaw" (61 : Nat) ({ cls := "BurnedDownModel", name := "join", desc := "(IIII)I" } : Jvm.MethodName)), (Jvm.Cond.instanceMethod ({ cls := "BurnedDownModel", name := "join", desc := "(IIII)I" } : Jvm.MethodName)), (Jvm.Cond.selects "BurnedDownModel" ({ cls := "BurnedDownModel", name := "join", desc := "(IIII)I" } : Jvm.MethodName) ({ cls := "BurnedDownModel", name := "join", desc := "(IIII)I" } : Jvm.MethodName)), (Jvm.Cond.code ({ cls := "BurnedDownModel", name := "join", desc := "(IIII)I" } : Jvm.MethodName) prog_12_method_22_code (6 : Nat) (Option.some Jvm.ClassFile.FieldType.int)), (Jvm.Cond.methodLink "BurnedDownLaw" (65 : Nat) ({ cls := "BurnedDownModel", name := "alone", desc := "(I)I" } : Jvm.MethodName)), (Jvm.Cond.instanceMethod ({ cls := "BurnedDownModel", name := "alone", desc := "(I)I" } : Jvm.MethodName)), (Jvm.Cond.selects "BurnedDownModel" ({ cls := "BurnedDownModel", name := "alone", desc := "(I)I" } : Jvm.MethodName) ({ cls := "BurnedDownModel", name := "alone", desc := "(I)I" } : Jvm.MethodName)), (Jvm.Cond.code ({ cls := "BurnedDownModel", name := "alone", desc := "(I)I" } : Jvm.MethodName) prog_12_method_32_code (4 : Nat) (Option.some Jvm.ClassFile.FieldType.int)), (Jvm.Cond.methodLink "BurnedDownModel" (182 : Nat) ({ cls := "BurnedDownModel", name := "finds", desc := "()V" } : Jvm.MethodName)), (Jvm.Cond.instanceMethod ({ cls := "BurnedDownModel", name := "finds", desc := "()V" } : Jvm.MethodName)), (Jvm.Cond.code ({ cls := "BurnedDownModel", name := "finds", desc := "()V" } : Jvm.MethodName) prog_12_method_24_code (3 : Nat) (Option.none : Option Jvm.ClassFile.FieldType)), (Jvm.Cond.methodLink "BurnedDownModel" (155 : Nat) ({ cls := "BurnedDownModel", name := "letsBy", desc := "(II)Z" } : Jvm.MethodName)), (Jvm.Cond.instanceMethod ({ cls := "BurnedDownModel", name := "letsBy", desc := "(II)Z" } : Jvm.MethodName))]
def bt_30 : List Cond := [(Jvm.Cond.code ({ cls := "BurnedDownModel", name := "letsBy", desc := "(II)Z" } : Jvm.MethodName) prog_12_method_23_code (4 : Nat) (Option.some Jvm.ClassFile.FieldType.boolean)), (Jvm.Cond.methodLink "BurnedDownModel" (175 : Nat) ({ cls := "BurnedDownModel", name := "frees", desc := "()V" } : Jvm.MethodName)), (Jvm.Cond.instanceMethod ({ cls := "BurnedDownModel", name := "frees", desc := "()V" } : Jvm.MethodName)), (Jvm.Cond.code ({ cls := "BurnedDownModel", name := "frees", desc := "()V" } : Jvm.MethodName) prog_12_method_27_code (2 : Nat) (Option.none : Option Jvm.ClassFile.FieldType)), (Jvm.Cond.methodLink "BurnedDownModel" (169 : Nat) ({ cls := "BurnedDownModel", name := "canOf", desc := "(II)Z" } : Jvm.MethodName)), (Jvm.Cond.instanceMethod ({ cls := "BurnedDownModel", name := "canOf", desc := "(II)Z" } : Jvm.MethodName)), (Jvm.Cond.code ({ cls := "BurnedDownModel", name := "canOf", desc := "(II)Z" } : Jvm.MethodName) prog_12_method_26_code (4 : Nat) (Option.some Jvm.ClassFile.FieldType.boolean)), (Jvm.Cond.methodLink "BurnedDownModel" (162 : Nat) ({ cls := "BurnedDownModel", name := "counts", desc := "(I)Z" } : Jvm.MethodName)), (Jvm.Cond.instanceMethod ({ cls := "BurnedDownModel", name := "counts", desc := "(I)Z" } : Jvm.MethodName)), (Jvm.Cond.code ({ cls := "BurnedDownModel", name := "counts", desc := "(I)Z" } : Jvm.MethodName) prog_12_method_25_code (2 : Nat) (Option.some Jvm.ClassFile.FieldType.boolean)), (Jvm.Cond.methodLink "BurnedDownLaw" (69 : Nat) ({ cls := "BurnedDownModel", name := "can", desc := "(II)I" } : Jvm.MethodName)), (Jvm.Cond.instanceMethod ({ cls := "BurnedDownModel", name := "can", desc := "(II)I" } : Jvm.MethodName)), (Jvm.Cond.selects "BurnedDownModel" ({ cls := "BurnedDownModel", name := "can", desc := "(II)I" } : Jvm.MethodName) ({ cls := "BurnedDownModel", name := "can", desc := "(II)I" } : Jvm.MethodName)), (Jvm.Cond.code ({ cls := "BurnedDownModel", name := "can", desc := "(II)I" } : Jvm.MethodName) prog_12_method_33_code (4 : Nat) (Option.some Jvm.ClassFile.FieldType.int)), (Jvm.Cond.methodLink "BurnedDownLaw" (74 : Nat) ({ cls := "BurnedDownModel", name := "ways", desc := "()J" } : Jvm.MethodName)), (Jvm.Cond.instanceMethod ({ cls := "BurnedDownModel", name := "ways", desc := "()J" } : Jvm.MethodName)), (Jvm.Cond.selects "BurnedDownModel" ({ cls := "BurnedDownModel", name := "ways", desc := "()J" } : Jvm.MethodName) ({ cls := "BurnedDownModel", name := "ways", desc := "()J" } : Jvm.MethodName)), (Jvm.Cond.code ({ cls := "BurnedDownModel", name := "ways", desc := "()J" } : Jvm.MethodName) prog_12_method_34_code (1 : Nat) (Option.some Jvm.ClassFile.FieldType.long)), (Jvm.Cond.methodLink "BurnedDownModel" (178 : Nat) ({ cls := "BurnedDownModel", name := "waysOf", desc := "()J" } : Jvm.MethodName)), (Jvm.Cond.instanceMethod ({ cls := "BurnedDownModel", name := "waysOf", desc := "()J" } : Jvm.MethodName)), (Jvm.Cond.code ({ cls := "BurnedDownModel", name := "waysOf", desc := "()J" } : Jvm.MethodName) prog_12_method_30_code (5 : Nat) (Option.some Jvm.ClassFile.FieldType.long)), (Jvm.Cond.methodLink "BurnedDownModel" (172 : Nat) ({ cls := "BurnedDownModel", name := "joined", desc := "(II)J" } : Jvm.MethodName)), (Jvm.Cond.instanceMethod ({ cls := "BurnedDownModel", name := "joined", desc := "(II)J" } : Jvm.MethodName)), (Jvm.Cond.code ({ cls := "BurnedDownModel", name := "joined", desc := "(II)J" } : Jvm.MethodName) prog_12_method_29_code (4 : Nat) (Option.some Jvm.ClassFile.FieldType.long))]
def bt_31 : List Cond := [(Jvm.Cond.methodLink "BurnedDownModel" (165 : Nat) ({ cls := "BurnedDownModel", name := "between", desc := "(II)J" } : Jvm.MethodName)), (Jvm.Cond.instanceMethod ({ cls := "BurnedDownModel", name := "between", desc := "(II)J" } : Jvm.MethodName)), (Jvm.Cond.code ({ cls := "BurnedDownModel", name := "between", desc := "(II)J" } : Jvm.MethodName) prog_12_method_28_code (5 : Nat) (Option.some Jvm.ClassFile.FieldType.long)), (Jvm.Cond.methodLink "BurnedDownLaw" (78 : Nat) ({ cls := "BurnedDownModel", name := "may", desc := "(I)I" } : Jvm.MethodName)), (Jvm.Cond.instanceMethod ({ cls := "BurnedDownModel", name := "may", desc := "(I)I" } : Jvm.MethodName)), (Jvm.Cond.selects "BurnedDownModel" ({ cls := "BurnedDownModel", name := "may", desc := "(I)I" } : Jvm.MethodName) ({ cls := "BurnedDownModel", name := "may", desc := "(I)I" } : Jvm.MethodName)), (Jvm.Cond.code ({ cls := "BurnedDownModel", name := "may", desc := "(I)I" } : Jvm.MethodName) prog_12_method_36_code (4 : Nat) (Option.some Jvm.ClassFile.FieldType.int)), (Jvm.Cond.methodLink "BurnedDownModel" (188 : Nat) ({ cls := "BurnedDownModel", name := "findMay", desc := "(I)V" } : Jvm.MethodName)), (Jvm.Cond.instanceMethod ({ cls := "BurnedDownModel", name := "findMay", desc := "(I)V" } : Jvm.MethodName)), (Jvm.Cond.code ({ cls := "BurnedDownModel", name := "findMay", desc := "(I)V" } : Jvm.MethodName) prog_12_method_35_code (3 : Nat) (Option.none : Option Jvm.ClassFile.FieldType)), (Jvm.Cond.methodLink "BurnedDownModel" (185 : Nat) ({ cls := "BurnedDownModel", name := "waysWith", desc := "(II)J" } : Jvm.MethodName)), (Jvm.Cond.instanceMethod ({ cls := "BurnedDownModel", name := "waysWith", desc := "(II)J" } : Jvm.MethodName)), (Jvm.Cond.code ({ cls := "BurnedDownModel", name := "waysWith", desc := "(II)J" } : Jvm.MethodName) prog_12_method_31_code (3 : Nat) (Option.some Jvm.ClassFile.FieldType.long)), (Jvm.Cond.methodLink "BurnedDownLaw" (82 : Nat) ({ cls := "BurnedDownModel", name := "run", desc := "(III)I" } : Jvm.MethodName)), (Jvm.Cond.instanceMethod ({ cls := "BurnedDownModel", name := "run", desc := "(III)I" } : Jvm.MethodName)), (Jvm.Cond.selects "BurnedDownModel" ({ cls := "BurnedDownModel", name := "run", desc := "(III)I" } : Jvm.MethodName) ({ cls := "BurnedDownModel", name := "run", desc := "(III)I" } : Jvm.MethodName)), (Jvm.Cond.code ({ cls := "BurnedDownModel", name := "run", desc := "(III)I" } : Jvm.MethodName) prog_12_method_37_code (6 : Nat) (Option.some Jvm.ClassFile.FieldType.int)), (Jvm.Cond.methodLink "BurnedDownLaw" (87 : Nat) ({ cls := "BurnedDownModel", name := "chance", desc := "(III)J" } : Jvm.MethodName)), (Jvm.Cond.instanceMethod ({ cls := "BurnedDownModel", name := "chance", desc := "(III)J" } : Jvm.MethodName)), (Jvm.Cond.selects "BurnedDownModel" ({ cls := "BurnedDownModel", name := "chance", desc := "(III)J" } : Jvm.MethodName) ({ cls := "BurnedDownModel", name := "chance", desc := "(III)J" } : Jvm.MethodName)), (Jvm.Cond.code ({ cls := "BurnedDownModel", name := "chance", desc := "(III)J" } : Jvm.MethodName) prog_12_method_39_code (9 : Nat) (Option.some Jvm.ClassFile.FieldType.long)), (Jvm.Cond.methodLink "BurnedDownModel" (192 : Nat) ({ cls := "BurnedDownModel", name := "divisor", desc := "(JJ)J" } : Jvm.MethodName)), (Jvm.Cond.static ({ cls := "BurnedDownModel", name := "divisor", desc := "(JJ)J" } : Jvm.MethodName)), (Jvm.Cond.code ({ cls := "BurnedDownModel", name := "divisor", desc := "(JJ)J" } : Jvm.MethodName) prog_12_method_38_code (10 : Nat) (Option.some Jvm.ClassFile.FieldType.long))]
def bt_32 : List Cond := [(Jvm.Cond.methodLink "BurnedDownLaw" (91 : Nat) ({ cls := "BurnedDownModel", name := "put", desc := "(I)I" } : Jvm.MethodName)), (Jvm.Cond.instanceMethod ({ cls := "BurnedDownModel", name := "put", desc := "(I)I" } : Jvm.MethodName)), (Jvm.Cond.selects "BurnedDownModel" ({ cls := "BurnedDownModel", name := "put", desc := "(I)I" } : Jvm.MethodName) ({ cls := "BurnedDownModel", name := "put", desc := "(I)I" } : Jvm.MethodName)), (Jvm.Cond.code ({ cls := "BurnedDownModel", name := "put", desc := "(I)I" } : Jvm.MethodName) prog_12_method_40_code (3 : Nat) (Option.some Jvm.ClassFile.FieldType.int)), (Jvm.Cond.methodLink "BurnedDownLaw" (95 : Nat) ({ cls := "BurnedDownModel", name := "judge", desc := "()I" } : Jvm.MethodName)), (Jvm.Cond.instanceMethod ({ cls := "BurnedDownModel", name := "judge", desc := "()I" } : Jvm.MethodName)), (Jvm.Cond.selects "BurnedDownModel" ({ cls := "BurnedDownModel", name := "judge", desc := "()I" } : Jvm.MethodName) ({ cls := "BurnedDownModel", name := "judge", desc := "()I" } : Jvm.MethodName)), (Jvm.Cond.code ({ cls := "BurnedDownModel", name := "judge", desc := "()I" } : Jvm.MethodName) prog_12_method_42_code (4 : Nat) (Option.some Jvm.ClassFile.FieldType.int)), (Jvm.Cond.methodLink "BurnedDownModel" (199 : Nat) ({ cls := "BurnedDownModel", name := "isJoined", desc := "(I)Z" } : Jvm.MethodName)), (Jvm.Cond.instanceMethod ({ cls := "BurnedDownModel", name := "isJoined", desc := "(I)Z" } : Jvm.MethodName)), (Jvm.Cond.code ({ cls := "BurnedDownModel", name := "isJoined", desc := "(I)Z" } : Jvm.MethodName) prog_12_method_41_code (4 : Nat) (Option.some Jvm.ClassFile.FieldType.boolean)), (Jvm.Cond.methodLink "BurnedDownLaw" (99 : Nat) ({ cls := "BurnedDownModel", name := "doubts", desc := "()I" } : Jvm.MethodName)), (Jvm.Cond.instanceMethod ({ cls := "BurnedDownModel", name := "doubts", desc := "()I" } : Jvm.MethodName)), (Jvm.Cond.selects "BurnedDownModel" ({ cls := "BurnedDownModel", name := "doubts", desc := "()I" } : Jvm.MethodName) ({ cls := "BurnedDownModel", name := "doubts", desc := "()I" } : Jvm.MethodName)), (Jvm.Cond.code ({ cls := "BurnedDownModel", name := "doubts", desc := "()I" } : Jvm.MethodName) prog_12_method_44_code (4 : Nat) (Option.some Jvm.ClassFile.FieldType.int)), (Jvm.Cond.methodLink "BurnedDownModel" (202 : Nat) ({ cls := "BurnedDownModel", name := "bits", desc := "(I)I" } : Jvm.MethodName)), (Jvm.Cond.static ({ cls := "BurnedDownModel", name := "bits", desc := "(I)I" } : Jvm.MethodName)), (Jvm.Cond.code ({ cls := "BurnedDownModel", name := "bits", desc := "(I)I" } : Jvm.MethodName) prog_12_method_43_code (3 : Nat) (Option.some Jvm.ClassFile.FieldType.int)), (Jvm.Cond.methodLink "BurnedDownLaw" (103 : Nat) ({ cls := "BurnedDownModel", name := "opened", desc := "()I" } : Jvm.MethodName)), (Jvm.Cond.instanceMethod ({ cls := "BurnedDownModel", name := "opened", desc := "()I" } : Jvm.MethodName)), (Jvm.Cond.selects "BurnedDownModel" ({ cls := "BurnedDownModel", name := "opened", desc := "()I" } : Jvm.MethodName) ({ cls := "BurnedDownModel", name := "opened", desc := "()I" } : Jvm.MethodName)), (Jvm.Cond.code ({ cls := "BurnedDownModel", name := "opened", desc := "()I" } : Jvm.MethodName) prog_12_method_45_code (5 : Nat) (Option.some Jvm.ClassFile.FieldType.int)), (Jvm.Cond.methodLink "BurnedDownLaw" (107 : Nat) ({ cls := "BurnedDownModel", name := "hangs", desc := "()I" } : Jvm.MethodName)), (Jvm.Cond.instanceMethod ({ cls := "BurnedDownModel", name := "hangs", desc := "()I" } : Jvm.MethodName))]
def bt_33 : List Cond := [(Jvm.Cond.selects "BurnedDownModel" ({ cls := "BurnedDownModel", name := "hangs", desc := "()I" } : Jvm.MethodName) ({ cls := "BurnedDownModel", name := "hangs", desc := "()I" } : Jvm.MethodName)), (Jvm.Cond.code ({ cls := "BurnedDownModel", name := "hangs", desc := "()I" } : Jvm.MethodName) prog_12_method_46_code (7 : Nat) (Option.some Jvm.ClassFile.FieldType.int)), (Jvm.Cond.methodLink "BurnedDownLaw" (111 : Nat) ({ cls := "BurnedDownModel", name := "ahead", desc := "(II)I" } : Jvm.MethodName)), (Jvm.Cond.instanceMethod ({ cls := "BurnedDownModel", name := "ahead", desc := "(II)I" } : Jvm.MethodName)), (Jvm.Cond.selects "BurnedDownModel" ({ cls := "BurnedDownModel", name := "ahead", desc := "(II)I" } : Jvm.MethodName) ({ cls := "BurnedDownModel", name := "ahead", desc := "(II)I" } : Jvm.MethodName)), (Jvm.Cond.code ({ cls := "BurnedDownModel", name := "ahead", desc := "(II)I" } : Jvm.MethodName) prog_12_method_47_code (8 : Nat) (Option.some Jvm.ClassFile.FieldType.int)), (Jvm.Cond.methodLink "BurnedDownLaw" (115 : Nat) ({ cls := "BurnedDownModel", name := "narrow", desc := "(II)I" } : Jvm.MethodName)), (Jvm.Cond.instanceMethod ({ cls := "BurnedDownModel", name := "narrow", desc := "(II)I" } : Jvm.MethodName)), (Jvm.Cond.selects "BurnedDownModel" ({ cls := "BurnedDownModel", name := "narrow", desc := "(II)I" } : Jvm.MethodName) ({ cls := "BurnedDownModel", name := "narrow", desc := "(II)I" } : Jvm.MethodName)), (Jvm.Cond.code ({ cls := "BurnedDownModel", name := "narrow", desc := "(II)I" } : Jvm.MethodName) prog_12_method_49_code (4 : Nat) (Option.some Jvm.ClassFile.FieldType.int)), (Jvm.Cond.methodLink "BurnedDownModel" (205 : Nat) ({ cls := "BurnedDownModel", name := "narrowOf", desc := "(II)I" } : Jvm.MethodName)), (Jvm.Cond.instanceMethod ({ cls := "BurnedDownModel", name := "narrowOf", desc := "(II)I" } : Jvm.MethodName)), (Jvm.Cond.code ({ cls := "BurnedDownModel", name := "narrowOf", desc := "(II)I" } : Jvm.MethodName) prog_12_method_48_code (6 : Nat) (Option.some Jvm.ClassFile.FieldType.int)), (Jvm.Cond.methodLink "BurnedDownLaw" (119 : Nat) ({ cls := "BurnedDownModel", name := "next", desc := "(I)I" } : Jvm.MethodName)), (Jvm.Cond.instanceMethod ({ cls := "BurnedDownModel", name := "next", desc := "(I)I" } : Jvm.MethodName)), (Jvm.Cond.selects "BurnedDownModel" ({ cls := "BurnedDownModel", name := "next", desc := "(I)I" } : Jvm.MethodName) ({ cls := "BurnedDownModel", name := "next", desc := "(I)I" } : Jvm.MethodName)), (Jvm.Cond.code ({ cls := "BurnedDownModel", name := "next", desc := "(I)I" } : Jvm.MethodName) prog_12_method_50_code (7 : Nat) (Option.some Jvm.ClassFile.FieldType.int)), (Jvm.Cond.methodLink "BurnedDownLaw" (123 : Nat) ({ cls := "BurnedDownModel", name := "image", desc := "()I" } : Jvm.MethodName)), (Jvm.Cond.instanceMethod ({ cls := "BurnedDownModel", name := "image", desc := "()I" } : Jvm.MethodName)), (Jvm.Cond.selects "BurnedDownModel" ({ cls := "BurnedDownModel", name := "image", desc := "()I" } : Jvm.MethodName) ({ cls := "BurnedDownModel", name := "image", desc := "()I" } : Jvm.MethodName)), (Jvm.Cond.code ({ cls := "BurnedDownModel", name := "image", desc := "()I" } : Jvm.MethodName) prog_12_method_54_code (1 : Nat) (Option.some Jvm.ClassFile.FieldType.int)), (Jvm.Cond.methodLink "BurnedDownModel" (224 : Nat) ({ cls := "BurnedDownModel", name := "passesAll", desc := "()V" } : Jvm.MethodName)), (Jvm.Cond.instanceMethod ({ cls := "BurnedDownModel", name := "passesAll", desc := "()V" } : Jvm.MethodName)), (Jvm.Cond.code ({ cls := "BurnedDownModel", name := "passesAll", desc := "()V" } : Jvm.MethodName) prog_12_method_53_code (1 : Nat) (Option.none : Option Jvm.ClassFile.FieldType))]
def bt_34 : List Cond := [(Jvm.Cond.methodLink "BurnedDownModel" (214 : Nat) ({ cls := "BurnedDownModel", name := "passes", desc := "([I)V" } : Jvm.MethodName)), (Jvm.Cond.instanceMethod ({ cls := "BurnedDownModel", name := "passes", desc := "([I)V" } : Jvm.MethodName)), (Jvm.Cond.code ({ cls := "BurnedDownModel", name := "passes", desc := "([I)V" } : Jvm.MethodName) prog_12_method_51_code (3 : Nat) (Option.none : Option Jvm.ClassFile.FieldType)), (Jvm.Cond.methodLink "BurnedDownModel" (218 : Nat) ({ cls := "BurnedDownModel", name := "passOne", desc := "(I)I" } : Jvm.MethodName)), (Jvm.Cond.instanceMethod ({ cls := "BurnedDownModel", name := "passOne", desc := "(I)I" } : Jvm.MethodName)), (Jvm.Cond.code ({ cls := "BurnedDownModel", name := "passOne", desc := "(I)I" } : Jvm.MethodName) prog_12_method_52_code (3 : Nat) (Option.some Jvm.ClassFile.FieldType.int)), (Jvm.Cond.methodLink "BurnedDownLaw" (127 : Nat) ({ cls := "BurnedDownModel", name := "on", desc := "()I" } : Jvm.MethodName)), (Jvm.Cond.instanceMethod ({ cls := "BurnedDownModel", name := "on", desc := "()I" } : Jvm.MethodName)), (Jvm.Cond.selects "BurnedDownModel" ({ cls := "BurnedDownModel", name := "on", desc := "()I" } : Jvm.MethodName) ({ cls := "BurnedDownModel", name := "on", desc := "()I" } : Jvm.MethodName)), (Jvm.Cond.code ({ cls := "BurnedDownModel", name := "on", desc := "()I" } : Jvm.MethodName) prog_12_method_55_code (1 : Nat) (Option.some Jvm.ClassFile.FieldType.int)), (Jvm.Cond.methodLink "BurnedDownLaw" (131 : Nat) ({ cls := "BurnedDownModel", name := "count", desc := "(I)I" } : Jvm.MethodName)), (Jvm.Cond.instanceMethod ({ cls := "BurnedDownModel", name := "count", desc := "(I)I" } : Jvm.MethodName)), (Jvm.Cond.selects "BurnedDownModel" ({ cls := "BurnedDownModel", name := "count", desc := "(I)I" } : Jvm.MethodName) ({ cls := "BurnedDownModel", name := "count", desc := "(I)I" } : Jvm.MethodName)), (Jvm.Cond.code ({ cls := "BurnedDownModel", name := "count", desc := "(I)I" } : Jvm.MethodName) prog_12_method_56_code (4 : Nat) (Option.some Jvm.ClassFile.FieldType.int)), (Jvm.Cond.constantLong "BurnedDownLaw" (13 : Nat) (4294967295 : Int64))]
def bd_tbl : List Cond := bt_0 ++ (bt_1 ++ (bt_2 ++ (bt_3 ++ (bt_4 ++ (bt_5 ++ (bt_6 ++ (bt_7 ++ (bt_8 ++ (bt_9 ++ (bt_10 ++ (bt_11 ++ (bt_12 ++ (bt_13 ++ (bt_14 ++ (bt_15 ++ (bt_16 ++ (bt_17 ++ (bt_18 ++ (bt_19 ++ (bt_20 ++ (bt_21 ++ (bt_22 ++ (bt_23 ++ (bt_24 ++ (bt_25 ++ (bt_26 ++ (bt_27 ++ (bt_28 ++ (bt_29 ++ (bt_30 ++ (bt_31 ++ (bt_32 ++ (bt_33 ++ (bt_34))))))))))))))))))))))))))))))))))
set_option maxRecDepth 20000 in
theorem bg_0 : GoodIn lw_tbl bt_0 := goodIn_r _ [0, 1, 2, 3, 4, 5, 6, 7, 8, 9, 10, 11, 12, 13, 14, 15, 16, 17, 18, 19, 20, 21, 22, 23] (by decide +kernel) (by decide +kernel)
set_option maxRecDepth 20000 in
theorem bg_1 : GoodIn lw_tbl bt_1 := goodIn_r _ [24, 25, 26, 27, 28, 29, 30, 31, 32, 33, 34, 35, 36, 37, 38, 39, 40, 41, 42, 43, 44, 45, 46, 47] (by decide +kernel) (by decide +kernel)
set_option maxRecDepth 20000 in
theorem bg_2 : GoodIn lw_tbl bt_2 := goodIn_r _ [48, 49, 50, 51, 52, 53, 54, 55, 56, 57, 58, 59, 60, 61, 62, 63, 64, 65, 66, 67, 68, 69, 70, 71] (by decide +kernel) (by decide +kernel)
set_option maxRecDepth 20000 in
theorem bg_3 : GoodIn lw_tbl bt_3 := goodIn_r _ [72, 73, 74, 75, 76, 77, 78, 79, 80, 81, 82, 83, 84, 85, 86, 87, 88, 89, 90, 91, 92, 93, 94, 96] (by decide +kernel) (by decide +kernel)
set_option maxRecDepth 20000 in
theorem bg_4 : GoodIn lw_tbl bt_4 := goodIn_r _ [97, 98, 99, 100, 102, 103, 104, 105, 108, 111, 114, 117, 120, 121, 122, 124, 126, 128, 130, 132, 134, 137, 138, 139] (by decide +kernel) (by decide +kernel)
set_option maxRecDepth 20000 in
theorem bg_5 : GoodIn lw_tbl bt_5 := goodIn_r _ [141, 142, 143, 144, 147, 150, 152, 154, 156, 158, 160, 162, 164, 166, 168, 171, 173, 176, 178, 180, 182, 184, 186, 188] (by decide +kernel) (by decide +kernel)
set_option maxRecDepth 20000 in
theorem bg_6 : GoodIn lw_tbl bt_6 := goodIn_r _ [191, 193, 195, 197, 199, 201, 203, 205, 207, 210, 211, 213, 214, 215, 216, 217, 219, 220, 222, 225, 226, 228, 230, 232] (by decide +kernel) (by decide +kernel)
set_option maxRecDepth 20000 in
theorem bg_7 : GoodIn lw_tbl bt_7 := goodIn_r _ [234, 236, 239, 240, 242, 243, 244, 245, 246, 247, 249, 252, 253, 255, 256, 257, 258, 259, 260, 261, 263, 265, 268, 269] (by decide +kernel) (by decide +kernel)
set_option maxRecDepth 20000 in
theorem bg_8 : GoodIn lw_tbl bt_8 := goodIn_r _ [270, 272, 273, 275, 276, 277, 278, 279, 282, 283, 285, 286, 288, 289, 292, 293, 294, 295, 296, 297, 298, 299, 300, 301] (by decide +kernel) (by decide +kernel)
set_option maxRecDepth 20000 in
theorem bg_9 : GoodIn lw_tbl bt_9 := goodIn_r _ [302, 303, 305, 307, 309, 311, 313, 315, 317, 319, 321, 323, 326, 327, 328, 329, 330, 332, 333, 334, 335, 336, 337, 338] (by decide +kernel) (by decide +kernel)
set_option maxRecDepth 20000 in
theorem bg_10 : GoodIn lw_tbl bt_10 := goodIn_r _ [339, 342, 343, 345, 346, 347, 348, 351, 352, 353, 355, 356, 358, 359, 360, 361, 363, 364, 367, 368, 370, 372, 373, 374] (by decide +kernel) (by decide +kernel)
set_option maxRecDepth 20000 in
theorem bg_11 : GoodIn lw_tbl bt_11 := goodIn_r _ [375, 376, 377, 378, 380, 381, 382, 383, 384, 385, 388, 389, 390, 391, 392, 393, 396, 397, 398, 400, 401, 403, 404, 405] (by decide +kernel) (by decide +kernel)
set_option maxRecDepth 20000 in
theorem bg_12 : GoodIn lw_tbl bt_12 := goodIn_r _ [406, 409, 410, 412, 413, 414, 415, 418, 419, 421, 422, 423, 424, 426, 427, 428, 429, 430, 431, 433, 434, 435, 437, 438] (by decide +kernel) (by decide +kernel)
set_option maxRecDepth 20000 in
theorem bg_13 : GoodIn lw_tbl bt_13 := goodIn_r _ [439, 441, 442, 443, 444, 445, 446, 449, 450, 452, 453, 454, 455, 458, 459, 460, 461, 462, 463, 465, 466, 467, 468, 469] (by decide +kernel) (by decide +kernel)
set_option maxRecDepth 20000 in
theorem bg_14 : GoodIn lw_tbl bt_14 := goodIn_r _ [470, 471, 474, 475, 476, 478, 479, 483, 484, 485, 487, 488, 489, 493, 494, 495, 496, 497, 498, 499, 500, 501, 502, 503] (by decide +kernel) (by decide +kernel)
set_option maxRecDepth 20000 in
theorem bg_15 : GoodIn lw_tbl bt_15 := goodIn_r _ [505, 506, 507, 509, 510, 513, 514, 516, 517, 520, 521, 522, 524, 525, 528, 530, 531, 532, 534, 535, 536, 538, 539, 540] (by decide +kernel) (by decide +kernel)
set_option maxRecDepth 20000 in
theorem bg_16 : GoodIn lw_tbl bt_16 := goodIn_r _ [541, 543, 544, 546, 547, 548, 551, 552, 553, 556, 557, 561, 562, 563, 564, 565, 566, 567, 568, 569, 570, 571, 573, 574] (by decide +kernel) (by decide +kernel)
set_option maxRecDepth 20000 in
theorem bg_17 : GoodIn lw_tbl bt_17 := goodIn_r _ [575, 576, 577, 578, 579, 580, 581, 583, 584, 585, 586, 587, 588, 589, 590, 591, 592, 593, 594, 596, 597, 599, 601, 602] (by decide +kernel) (by decide +kernel)
set_option maxRecDepth 20000 in
theorem bg_18 : GoodIn lw_tbl bt_18 := goodIn_r _ [603, 604, 605, 606, 607, 608, 609, 611, 612, 613, 615, 616, 617, 619, 620, 621, 622, 623, 625, 626, 628, 629, 630, 631] (by decide +kernel) (by decide +kernel)
set_option maxRecDepth 20000 in
theorem bg_19 : GoodIn lw_tbl bt_19 := goodIn_r _ [632, 634, 635, 636, 638, 639, 640, 641, 642, 643, 644, 645, 646, 647, 648, 649, 650, 651, 652, 653, 654, 655, 657, 658] (by decide +kernel) (by decide +kernel)
set_option maxRecDepth 20000 in
theorem bg_20 : GoodIn lw_tbl bt_20 := goodIn_r _ [659, 660, 661, 664, 665, 666, 667, 668, 669, 670, 671, 672, 673, 674, 675, 676, 677, 678, 679, 680, 681, 682, 683, 684] (by decide +kernel) (by decide +kernel)
set_option maxRecDepth 20000 in
theorem bg_21 : GoodIn lw_tbl bt_21 := goodIn_r _ [685, 686, 687, 688, 689, 690, 691, 693, 694, 695, 697, 698, 699, 700, 702, 703, 704, 705, 706, 707, 708, 710, 711, 713] (by decide +kernel) (by decide +kernel)
set_option maxRecDepth 20000 in
theorem bg_22 : GoodIn lw_tbl bt_22 := goodIn_r _ [714, 715, 716, 717, 718, 719, 720, 721, 724, 725, 728, 729, 731, 732, 735, 736, 739, 740, 741, 742, 743, 744, 745, 746] (by decide +kernel) (by decide +kernel)
set_option maxRecDepth 20000 in
theorem bg_23 : GoodIn lw_tbl bt_23 := goodIn_r _ [749, 750, 751, 752, 753, 754, 755, 756, 757, 758, 759, 760, 761, 762, 763, 764, 765, 766, 767, 768, 769, 770, 771, 772] (by decide +kernel) (by decide +kernel)
set_option maxRecDepth 20000 in
theorem bg_24 : GoodIn lw_tbl bt_24 := goodIn_r _ [773, 774, 775, 776, 777, 778, 779, 780, 781, 782, 783, 784, 785, 786, 787, 788, 789, 790, 791, 792, 793, 794, 795, 797] (by decide +kernel) (by decide +kernel)
set_option maxRecDepth 20000 in
theorem bg_25 : GoodIn lw_tbl bt_25 := goodIn_r _ [799, 801, 803, 805, 807, 809, 811, 813, 815, 817, 819, 821, 823, 825, 827, 829, 831, 833, 835, 837, 839, 841, 843, 845] (by decide +kernel) (by decide +kernel)
set_option maxRecDepth 20000 in
theorem bg_26 : GoodIn lw_tbl bt_26 := goodIn_r _ [847, 849, 851, 853, 855, 857, 859, 861, 863, 865, 867, 869, 872, 873, 874, 875, 876, 877, 878, 879, 880, 882, 883, 884] (by decide +kernel) (by decide +kernel)
set_option maxRecDepth 20000 in
theorem bg_27 : GoodIn lw_tbl bt_27 := goodIn_r _ [885, 886, 887, 888, 889, 891, 892, 893, 895, 896, 897, 899, 900, 901, 902, 903, 904, 905, 906, 907, 908, 910, 911, 912] (by decide +kernel) (by decide +kernel)
set_option maxRecDepth 20000 in
theorem bg_28 : GoodIn lw_tbl bt_28 := goodIn_r _ [913, 914, 915, 916, 917, 918, 919, 920, 921, 922, 923, 924, 925, 926, 927, 928, 929, 930, 931, 933, 934, 935, 937, 938] (by decide +kernel) (by decide +kernel)
set_option maxRecDepth 20000 in
theorem bg_29 : GoodIn lw_tbl bt_29 := goodIn_r _ [939, 941, 942, 943, 944, 945, 946, 947, 948, 949, 950, 951, 952, 953, 954, 955, 956, 957, 958, 959, 961, 962, 963, 965] (by decide +kernel) (by decide +kernel)
set_option maxRecDepth 20000 in
theorem bg_30 : GoodIn lw_tbl bt_30 := goodIn_r _ [966, 967, 969, 970, 971, 973, 974, 975, 977, 978, 979, 980, 981, 982, 983, 984, 985, 986, 987, 989, 990, 991, 993, 994] (by decide +kernel) (by decide +kernel)
set_option maxRecDepth 20000 in
theorem bg_31 : GoodIn lw_tbl bt_31 := goodIn_r _ [995, 997, 998, 999, 1000, 1001, 1002, 1003, 1005, 1006, 1007, 1009, 1010, 1011, 1012, 1013, 1014, 1015, 1016, 1017, 1018, 1019, 1020, 1021] (by decide +kernel) (by decide +kernel)
set_option maxRecDepth 20000 in
theorem bg_32 : GoodIn lw_tbl bt_32 := goodIn_r _ [1022, 1023, 1024, 1025, 1026, 1027, 1028, 1029, 1030, 1032, 1033, 1034, 1035, 1036, 1037, 1038, 1039, 1040, 1041, 1042, 1043, 1044, 1045, 1046] (by decide +kernel) (by decide +kernel)
set_option maxRecDepth 20000 in
theorem bg_33 : GoodIn lw_tbl bt_33 := goodIn_r _ [1047, 1048, 1049, 1050, 1051, 1052, 1053, 1054, 1055, 1056, 1057, 1059, 1060, 1061, 1062, 1063, 1064, 1065, 1066, 1067, 1068, 1069, 1071, 1072] (by decide +kernel) (by decide +kernel)
set_option maxRecDepth 20000 in
theorem bg_34 : GoodIn lw_tbl bt_34 := goodIn_r _ [1073, 1075, 1076, 1077, 1079, 1080, 1081, 1082, 1083, 1084, 1085, 1086, 1087, 1088, 1089] (by decide +kernel) (by decide +kernel)
theorem bd_good0 : GoodIn lw_tbl bd_tbl := goodIn_app bg_0 (goodIn_app bg_1 (goodIn_app bg_2 (goodIn_app bg_3 (goodIn_app bg_4 (goodIn_app bg_5 (goodIn_app bg_6 (goodIn_app bg_7 (goodIn_app bg_8 (goodIn_app bg_9 (goodIn_app bg_10 (goodIn_app bg_11 (goodIn_app bg_12 (goodIn_app bg_13 (goodIn_app bg_14 (goodIn_app bg_15 (goodIn_app bg_16 (goodIn_app bg_17 (goodIn_app bg_18 (goodIn_app bg_19 (goodIn_app bg_20 (goodIn_app bg_21 (goodIn_app bg_22 (goodIn_app bg_23 (goodIn_app bg_24 (goodIn_app bg_25 (goodIn_app bg_26 (goodIn_app bg_27 (goodIn_app bg_28 (goodIn_app bg_29 (goodIn_app bg_30 (goodIn_app bg_31 (goodIn_app bg_32 (goodIn_app bg_33 (bg_34))))))))))))))))))))))))))))))))))
theorem bu_0 {w : Cond} (h : w ∈ bt_0) : w ∈ bd_tbl := List.mem_append_left _ h
theorem bu_1 {w : Cond} (h : w ∈ bt_1) : w ∈ bd_tbl := List.mem_append_right _ (List.mem_append_left _ h)
theorem bu_2 {w : Cond} (h : w ∈ bt_2) : w ∈ bd_tbl := List.mem_append_right _ (List.mem_append_right _ (List.mem_append_left _ h))
theorem bu_3 {w : Cond} (h : w ∈ bt_3) : w ∈ bd_tbl := List.mem_append_right _ (List.mem_append_right _ (List.mem_append_right _ (List.mem_append_left _ h)))
theorem bu_4 {w : Cond} (h : w ∈ bt_4) : w ∈ bd_tbl := List.mem_append_right _ (List.mem_append_right _ (List.mem_append_right _ (List.mem_append_right _ (List.mem_append_left _ h))))
theorem bu_5 {w : Cond} (h : w ∈ bt_5) : w ∈ bd_tbl := List.mem_append_right _ (List.mem_append_right _ (List.mem_append_right _ (List.mem_append_right _ (List.mem_append_right _ (List.mem_append_left _ h)))))
theorem bu_6 {w : Cond} (h : w ∈ bt_6) : w ∈ bd_tbl := List.mem_append_right _ (List.mem_append_right _ (List.mem_append_right _ (List.mem_append_right _ (List.mem_append_right _ (List.mem_append_right _ (List.mem_append_left _ h))))))
theorem bu_7 {w : Cond} (h : w ∈ bt_7) : w ∈ bd_tbl := List.mem_append_right _ (List.mem_append_right _ (List.mem_append_right _ (List.mem_append_right _ (List.mem_append_right _ (List.mem_append_right _ (List.mem_append_right _ (List.mem_append_left _ h)))))))
theorem bu_8 {w : Cond} (h : w ∈ bt_8) : w ∈ bd_tbl := List.mem_append_right _ (List.mem_append_right _ (List.mem_append_right _ (List.mem_append_right _ (List.mem_append_right _ (List.mem_append_right _ (List.mem_append_right _ (List.mem_append_right _ (List.mem_append_left _ h))))))))
theorem bu_9 {w : Cond} (h : w ∈ bt_9) : w ∈ bd_tbl := List.mem_append_right _ (List.mem_append_right _ (List.mem_append_right _ (List.mem_append_right _ (List.mem_append_right _ (List.mem_append_right _ (List.mem_append_right _ (List.mem_append_right _ (List.mem_append_right _ (List.mem_append_left _ h)))))))))
theorem bu_10 {w : Cond} (h : w ∈ bt_10) : w ∈ bd_tbl := List.mem_append_right _ (List.mem_append_right _ (List.mem_append_right _ (List.mem_append_right _ (List.mem_append_right _ (List.mem_append_right _ (List.mem_append_right _ (List.mem_append_right _ (List.mem_append_right _ (List.mem_append_right _ (List.mem_append_left _ h))))))))))
theorem bu_11 {w : Cond} (h : w ∈ bt_11) : w ∈ bd_tbl := List.mem_append_right _ (List.mem_append_right _ (List.mem_append_right _ (List.mem_append_right _ (List.mem_append_right _ (List.mem_append_right _ (List.mem_append_right _ (List.mem_append_right _ (List.mem_append_right _ (List.mem_append_right _ (List.mem_append_right _ (List.mem_append_left _ h)))))))))))
theorem bu_12 {w : Cond} (h : w ∈ bt_12) : w ∈ bd_tbl := List.mem_append_right _ (List.mem_append_right _ (List.mem_append_right _ (List.mem_append_right _ (List.mem_append_right _ (List.mem_append_right _ (List.mem_append_right _ (List.mem_append_right _ (List.mem_append_right _ (List.mem_append_right _ (List.mem_append_right _ (List.mem_append_right _ (List.mem_append_left _ h))))))))))))
theorem bu_13 {w : Cond} (h : w ∈ bt_13) : w ∈ bd_tbl := List.mem_append_right _ (List.mem_append_right _ (List.mem_append_right _ (List.mem_append_right _ (List.mem_append_right _ (List.mem_append_right _ (List.mem_append_right _ (List.mem_append_right _ (List.mem_append_right _ (List.mem_append_right _ (List.mem_append_right _ (List.mem_append_right _ (List.mem_append_right _ (List.mem_append_left _ h)))))))))))))
theorem bu_14 {w : Cond} (h : w ∈ bt_14) : w ∈ bd_tbl := List.mem_append_right _ (List.mem_append_right _ (List.mem_append_right _ (List.mem_append_right _ (List.mem_append_right _ (List.mem_append_right _ (List.mem_append_right _ (List.mem_append_right _ (List.mem_append_right _ (List.mem_append_right _ (List.mem_append_right _ (List.mem_append_right _ (List.mem_append_right _ (List.mem_append_right _ (List.mem_append_left _ h))))))))))))))
theorem bu_15 {w : Cond} (h : w ∈ bt_15) : w ∈ bd_tbl := List.mem_append_right _ (List.mem_append_right _ (List.mem_append_right _ (List.mem_append_right _ (List.mem_append_right _ (List.mem_append_right _ (List.mem_append_right _ (List.mem_append_right _ (List.mem_append_right _ (List.mem_append_right _ (List.mem_append_right _ (List.mem_append_right _ (List.mem_append_right _ (List.mem_append_right _ (List.mem_append_right _ (List.mem_append_left _ h)))))))))))))))
theorem bu_16 {w : Cond} (h : w ∈ bt_16) : w ∈ bd_tbl := List.mem_append_right _ (List.mem_append_right _ (List.mem_append_right _ (List.mem_append_right _ (List.mem_append_right _ (List.mem_append_right _ (List.mem_append_right _ (List.mem_append_right _ (List.mem_append_right _ (List.mem_append_right _ (List.mem_append_right _ (List.mem_append_right _ (List.mem_append_right _ (List.mem_append_right _ (List.mem_append_right _ (List.mem_append_right _ (List.mem_append_left _ h))))))))))))))))
theorem bu_17 {w : Cond} (h : w ∈ bt_17) : w ∈ bd_tbl := List.mem_append_right _ (List.mem_append_right _ (List.mem_append_right _ (List.mem_append_right _ (List.mem_append_right _ (List.mem_append_right _ (List.mem_append_right _ (List.mem_append_right _ (List.mem_append_right _ (List.mem_append_right _ (List.mem_append_right _ (List.mem_append_right _ (List.mem_append_right _ (List.mem_append_right _ (List.mem_append_right _ (List.mem_append_right _ (List.mem_append_right _ (List.mem_append_left _ h)))))))))))))))))
theorem bu_18 {w : Cond} (h : w ∈ bt_18) : w ∈ bd_tbl := List.mem_append_right _ (List.mem_append_right _ (List.mem_append_right _ (List.mem_append_right _ (List.mem_append_right _ (List.mem_append_right _ (List.mem_append_right _ (List.mem_append_right _ (List.mem_append_right _ (List.mem_append_right _ (List.mem_append_right _ (List.mem_append_right _ (List.mem_append_right _ (List.mem_append_right _ (List.mem_append_right _ (List.mem_append_right _ (List.mem_append_right _ (List.mem_append_right _ (List.mem_append_left _ h))))))))))))))))))
theorem bu_19 {w : Cond} (h : w ∈ bt_19) : w ∈ bd_tbl := List.mem_append_right _ (List.mem_append_right _ (List.mem_append_right _ (List.mem_append_right _ (List.mem_append_right _ (List.mem_append_right _ (List.mem_append_right _ (List.mem_append_right _ (List.mem_append_right _ (List.mem_append_right _ (List.mem_append_right _ (List.mem_append_right _ (List.mem_append_right _ (List.mem_append_right _ (List.mem_append_right _ (List.mem_append_right _ (List.mem_append_right _ (List.mem_append_right _ (List.mem_append_right _ (List.mem_append_left _ h)))))))))))))))))))
theorem bu_20 {w : Cond} (h : w ∈ bt_20) : w ∈ bd_tbl := List.mem_append_right _ (List.mem_append_right _ (List.mem_append_right _ (List.mem_append_right _ (List.mem_append_right _ (List.mem_append_right _ (List.mem_append_right _ (List.mem_append_right _ (List.mem_append_right _ (List.mem_append_right _ (List.mem_append_right _ (List.mem_append_right _ (List.mem_append_right _ (List.mem_append_right _ (List.mem_append_right _ (List.mem_append_right _ (List.mem_append_right _ (List.mem_append_right _ (List.mem_append_right _ (List.mem_append_right _ (List.mem_append_left _ h))))))))))))))))))))
theorem bu_21 {w : Cond} (h : w ∈ bt_21) : w ∈ bd_tbl := List.mem_append_right _ (List.mem_append_right _ (List.mem_append_right _ (List.mem_append_right _ (List.mem_append_right _ (List.mem_append_right _ (List.mem_append_right _ (List.mem_append_right _ (List.mem_append_right _ (List.mem_append_right _ (List.mem_append_right _ (List.mem_append_right _ (List.mem_append_right _ (List.mem_append_right _ (List.mem_append_right _ (List.mem_append_right _ (List.mem_append_right _ (List.mem_append_right _ (List.mem_append_right _ (List.mem_append_right _ (List.mem_append_right _ (List.mem_append_left _ h)))))))))))))))))))))
theorem bu_22 {w : Cond} (h : w ∈ bt_22) : w ∈ bd_tbl := List.mem_append_right _ (List.mem_append_right _ (List.mem_append_right _ (List.mem_append_right _ (List.mem_append_right _ (List.mem_append_right _ (List.mem_append_right _ (List.mem_append_right _ (List.mem_append_right _ (List.mem_append_right _ (List.mem_append_right _ (List.mem_append_right _ (List.mem_append_right _ (List.mem_append_right _ (List.mem_append_right _ (List.mem_append_right _ (List.mem_append_right _ (List.mem_append_right _ (List.mem_append_right _ (List.mem_append_right _ (List.mem_append_right _ (List.mem_append_right _ (List.mem_append_left _ h))))))))))))))))))))))
theorem bu_23 {w : Cond} (h : w ∈ bt_23) : w ∈ bd_tbl := List.mem_append_right _ (List.mem_append_right _ (List.mem_append_right _ (List.mem_append_right _ (List.mem_append_right _ (List.mem_append_right _ (List.mem_append_right _ (List.mem_append_right _ (List.mem_append_right _ (List.mem_append_right _ (List.mem_append_right _ (List.mem_append_right _ (List.mem_append_right _ (List.mem_append_right _ (List.mem_append_right _ (List.mem_append_right _ (List.mem_append_right _ (List.mem_append_right _ (List.mem_append_right _ (List.mem_append_right _ (List.mem_append_right _ (List.mem_append_right _ (List.mem_append_right _ (List.mem_append_left _ h)))))))))))))))))))))))
theorem bu_24 {w : Cond} (h : w ∈ bt_24) : w ∈ bd_tbl := List.mem_append_right _ (List.mem_append_right _ (List.mem_append_right _ (List.mem_append_right _ (List.mem_append_right _ (List.mem_append_right _ (List.mem_append_right _ (List.mem_append_right _ (List.mem_append_right _ (List.mem_append_right _ (List.mem_append_right _ (List.mem_append_right _ (List.mem_append_right _ (List.mem_append_right _ (List.mem_append_right _ (List.mem_append_right _ (List.mem_append_right _ (List.mem_append_right _ (List.mem_append_right _ (List.mem_append_right _ (List.mem_append_right _ (List.mem_append_right _ (List.mem_append_right _ (List.mem_append_right _ (List.mem_append_left _ h))))))))))))))))))))))))
theorem bu_25 {w : Cond} (h : w ∈ bt_25) : w ∈ bd_tbl := List.mem_append_right _ (List.mem_append_right _ (List.mem_append_right _ (List.mem_append_right _ (List.mem_append_right _ (List.mem_append_right _ (List.mem_append_right _ (List.mem_append_right _ (List.mem_append_right _ (List.mem_append_right _ (List.mem_append_right _ (List.mem_append_right _ (List.mem_append_right _ (List.mem_append_right _ (List.mem_append_right _ (List.mem_append_right _ (List.mem_append_right _ (List.mem_append_right _ (List.mem_append_right _ (List.mem_append_right _ (List.mem_append_right _ (List.mem_append_right _ (List.mem_append_right _ (List.mem_append_right _ (List.mem_append_right _ (List.mem_append_left _ h)))))))))))))))))))))))))
theorem bu_26 {w : Cond} (h : w ∈ bt_26) : w ∈ bd_tbl := List.mem_append_right _ (List.mem_append_right _ (List.mem_append_right _ (List.mem_append_right _ (List.mem_append_right _ (List.mem_append_right _ (List.mem_append_right _ (List.mem_append_right _ (List.mem_append_right _ (List.mem_append_right _ (List.mem_append_right _ (List.mem_append_right _ (List.mem_append_right _ (List.mem_append_right _ (List.mem_append_right _ (List.mem_append_right _ (List.mem_append_right _ (List.mem_append_right _ (List.mem_append_right _ (List.mem_append_right _ (List.mem_append_right _ (List.mem_append_right _ (List.mem_append_right _ (List.mem_append_right _ (List.mem_append_right _ (List.mem_append_right _ (List.mem_append_left _ h))))))))))))))))))))))))))
theorem bu_27 {w : Cond} (h : w ∈ bt_27) : w ∈ bd_tbl := List.mem_append_right _ (List.mem_append_right _ (List.mem_append_right _ (List.mem_append_right _ (List.mem_append_right _ (List.mem_append_right _ (List.mem_append_right _ (List.mem_append_right _ (List.mem_append_right _ (List.mem_append_right _ (List.mem_append_right _ (List.mem_append_right _ (List.mem_append_right _ (List.mem_append_right _ (List.mem_append_right _ (List.mem_append_right _ (List.mem_append_right _ (List.mem_append_right _ (List.mem_append_right _ (List.mem_append_right _ (List.mem_append_right _ (List.mem_append_right _ (List.mem_append_right _ (List.mem_append_right _ (List.mem_append_right _ (List.mem_append_right _ (List.mem_append_right _ (List.mem_append_left _ h)))))))))))))))))))))))))))
theorem bu_28 {w : Cond} (h : w ∈ bt_28) : w ∈ bd_tbl := List.mem_append_right _ (List.mem_append_right _ (List.mem_append_right _ (List.mem_append_right _ (List.mem_append_right _ (List.mem_append_right _ (List.mem_append_right _ (List.mem_append_right _ (List.mem_append_right _ (List.mem_append_right _ (List.mem_append_right _ (List.mem_append_right _ (List.mem_append_right _ (List.mem_append_right _ (List.mem_append_right _ (List.mem_append_right _ (List.mem_append_right _ (List.mem_append_right _ (List.mem_append_right _ (List.mem_append_right _ (List.mem_append_right _ (List.mem_append_right _ (List.mem_append_right _ (List.mem_append_right _ (List.mem_append_right _ (List.mem_append_right _ (List.mem_append_right _ (List.mem_append_right _ (List.mem_append_left _ h))))))))))))))))))))))))))))
theorem bu_29 {w : Cond} (h : w ∈ bt_29) : w ∈ bd_tbl := List.mem_append_right _ (List.mem_append_right _ (List.mem_append_right _ (List.mem_append_right _ (List.mem_append_right _ (List.mem_append_right _ (List.mem_append_right _ (List.mem_append_right _ (List.mem_append_right _ (List.mem_append_right _ (List.mem_append_right _ (List.mem_append_right _ (List.mem_append_right _ (List.mem_append_right _ (List.mem_append_right _ (List.mem_append_right _ (List.mem_append_right _ (List.mem_append_right _ (List.mem_append_right _ (List.mem_append_right _ (List.mem_append_right _ (List.mem_append_right _ (List.mem_append_right _ (List.mem_append_right _ (List.mem_append_right _ (List.mem_append_right _ (List.mem_append_right _ (List.mem_append_right _ (List.mem_append_right _ (List.mem_append_left _ h)))))))))))))))))))))))))))))
theorem bu_30 {w : Cond} (h : w ∈ bt_30) : w ∈ bd_tbl := List.mem_append_right _ (List.mem_append_right _ (List.mem_append_right _ (List.mem_append_right _ (List.mem_append_right _ (List.mem_append_right _ (List.mem_append_right _ (List.mem_append_right _ (List.mem_append_right _ (List.mem_append_right _ (List.mem_append_right _ (List.mem_append_right _ (List.mem_append_right _ (List.mem_append_right _ (List.mem_append_right _ (List.mem_append_right _ (List.mem_append_right _ (List.mem_append_right _ (List.mem_append_right _ (List.mem_append_right _ (List.mem_append_right _ (List.mem_append_right _ (List.mem_append_right _ (List.mem_append_right _ (List.mem_append_right _ (List.mem_append_right _ (List.mem_append_right _ (List.mem_append_right _ (List.mem_append_right _ (List.mem_append_right _ (List.mem_append_left _ h))))))))))))))))))))))))))))))
theorem bu_31 {w : Cond} (h : w ∈ bt_31) : w ∈ bd_tbl := List.mem_append_right _ (List.mem_append_right _ (List.mem_append_right _ (List.mem_append_right _ (List.mem_append_right _ (List.mem_append_right _ (List.mem_append_right _ (List.mem_append_right _ (List.mem_append_right _ (List.mem_append_right _ (List.mem_append_right _ (List.mem_append_right _ (List.mem_append_right _ (List.mem_append_right _ (List.mem_append_right _ (List.mem_append_right _ (List.mem_append_right _ (List.mem_append_right _ (List.mem_append_right _ (List.mem_append_right _ (List.mem_append_right _ (List.mem_append_right _ (List.mem_append_right _ (List.mem_append_right _ (List.mem_append_right _ (List.mem_append_right _ (List.mem_append_right _ (List.mem_append_right _ (List.mem_append_right _ (List.mem_append_right _ (List.mem_append_right _ (List.mem_append_left _ h)))))))))))))))))))))))))))))))
theorem bu_32 {w : Cond} (h : w ∈ bt_32) : w ∈ bd_tbl := List.mem_append_right _ (List.mem_append_right _ (List.mem_append_right _ (List.mem_append_right _ (List.mem_append_right _ (List.mem_append_right _ (List.mem_append_right _ (List.mem_append_right _ (List.mem_append_right _ (List.mem_append_right _ (List.mem_append_right _ (List.mem_append_right _ (List.mem_append_right _ (List.mem_append_right _ (List.mem_append_right _ (List.mem_append_right _ (List.mem_append_right _ (List.mem_append_right _ (List.mem_append_right _ (List.mem_append_right _ (List.mem_append_right _ (List.mem_append_right _ (List.mem_append_right _ (List.mem_append_right _ (List.mem_append_right _ (List.mem_append_right _ (List.mem_append_right _ (List.mem_append_right _ (List.mem_append_right _ (List.mem_append_right _ (List.mem_append_right _ (List.mem_append_right _ (List.mem_append_left _ h))))))))))))))))))))))))))))))))
theorem bu_33 {w : Cond} (h : w ∈ bt_33) : w ∈ bd_tbl := List.mem_append_right _ (List.mem_append_right _ (List.mem_append_right _ (List.mem_append_right _ (List.mem_append_right _ (List.mem_append_right _ (List.mem_append_right _ (List.mem_append_right _ (List.mem_append_right _ (List.mem_append_right _ (List.mem_append_right _ (List.mem_append_right _ (List.mem_append_right _ (List.mem_append_right _ (List.mem_append_right _ (List.mem_append_right _ (List.mem_append_right _ (List.mem_append_right _ (List.mem_append_right _ (List.mem_append_right _ (List.mem_append_right _ (List.mem_append_right _ (List.mem_append_right _ (List.mem_append_right _ (List.mem_append_right _ (List.mem_append_right _ (List.mem_append_right _ (List.mem_append_right _ (List.mem_append_right _ (List.mem_append_right _ (List.mem_append_right _ (List.mem_append_right _ (List.mem_append_right _ (List.mem_append_left _ h)))))))))))))))))))))))))))))))))
theorem bu_34 {w : Cond} (h : w ∈ bt_34) : w ∈ bd_tbl := List.mem_append_right _ (List.mem_append_right _ (List.mem_append_right _ (List.mem_append_right _ (List.mem_append_right _ (List.mem_append_right _ (List.mem_append_right _ (List.mem_append_right _ (List.mem_append_right _ (List.mem_append_right _ (List.mem_append_right _ (List.mem_append_right _ (List.mem_append_right _ (List.mem_append_right _ (List.mem_append_right _ (List.mem_append_right _ (List.mem_append_right _ (List.mem_append_right _ (List.mem_append_right _ (List.mem_append_right _ (List.mem_append_right _ (List.mem_append_right _ (List.mem_append_right _ (List.mem_append_right _ (List.mem_append_right _ (List.mem_append_right _ (List.mem_append_right _ (List.mem_append_right _ (List.mem_append_right _ (List.mem_append_right _ (List.mem_append_right _ (List.mem_append_right _ (List.mem_append_right _ (List.mem_append_right _ (h))))))))))))))))))))))))))))))))))
theorem mw_0 : (Cond.selects "BurnedDown" ⟨"BurnedDown", "refuse", "(I)I"⟩ ⟨"BurnedDown", "refuse", "(I)I"⟩) ∈ bd_tbl := bu_0 (List.mem_of_getElem? (i := 0) rfl)
theorem mw_1 : (Cond.selects "BurnedDown$Tape" ⟨"BurnedDown$Tape", "take", "(IJ)I"⟩ ⟨"BurnedDown$Tape", "take", "(IJ)I"⟩) ∈ bd_tbl := bu_0 (List.mem_of_getElem? (i := 1) rfl)
theorem mw_2 : (Cond.selects "BurnedDown$Tape" ⟨"BurnedDown$Tape", "read", "()I"⟩ ⟨"BurnedDown$Tape", "read", "()I"⟩) ∈ bd_tbl := bu_0 (List.mem_of_getElem? (i := 2) rfl)
theorem mw_3 : (Cond.selects "BurnedDown$Tape" ⟨"BurnedDown$Tape", "byteHere", "()I"⟩ ⟨"BurnedDown$Tape", "byteHere", "()I"⟩) ∈ bd_tbl := bu_0 (List.mem_of_getElem? (i := 3) rfl)
theorem mw_4 : (Cond.selects "BurnedDown$Tape" ⟨"BurnedDown$Tape", "readNumber", "(I)I"⟩ ⟨"BurnedDown$Tape", "readNumber", "(I)I"⟩) ∈ bd_tbl := bu_0 (List.mem_of_getElem? (i := 4) rfl)
theorem mw_5 : (Cond.selects "BurnedDown$Things" ⟨"BurnedDown$Things", "add", "(III)I"⟩ ⟨"BurnedDown$Things", "add", "(III)I"⟩) ∈ bd_tbl := bu_0 (List.mem_of_getElem? (i := 5) rfl)
theorem mw_6 : (Cond.selects "BurnedDown$Things" ⟨"BurnedDown$Things", "tie", "(IIII)I"⟩ ⟨"BurnedDown$Things", "tie", "(IIII)I"⟩) ∈ bd_tbl := bu_0 (List.mem_of_getElem? (i := 6) rfl)
theorem mw_7 : (Cond.selects "BurnedDown" ⟨"BurnedDown", "isThing", "(I)Z"⟩ ⟨"BurnedDown", "isThing", "(I)Z"⟩) ∈ bd_tbl := bu_0 (List.mem_of_getElem? (i := 7) rfl)
theorem mw_8 : (Cond.selects "BurnedDown$Against" ⟨"BurnedDown$Against", "forget", "()V"⟩ ⟨"BurnedDown$Against", "forget", "()V"⟩) ∈ bd_tbl := bu_0 (List.mem_of_getElem? (i := 8) rfl)
theorem mw_9 : (Cond.selects "BurnedDown$World" ⟨"BurnedDown$World", "shut", "()V"⟩ ⟨"BurnedDown$World", "shut", "()V"⟩) ∈ bd_tbl := bu_0 (List.mem_of_getElem? (i := 9) rfl)
theorem mw_10 : (Cond.selects "BurnedDown$World" ⟨"BurnedDown$World", "open", "(II)V"⟩ ⟨"BurnedDown$World", "open", "(II)V"⟩) ∈ bd_tbl := bu_0 (List.mem_of_getElem? (i := 10) rfl)
theorem mw_11 : (Cond.selects "BurnedDown$World" ⟨"BurnedDown$World", "addCandidate", "(II)I"⟩ ⟨"BurnedDown$World", "addCandidate", "(II)I"⟩) ∈ bd_tbl := bu_0 (List.mem_of_getElem? (i := 11) rfl)
theorem mw_12 : (Cond.selects "BurnedDown$World" ⟨"BurnedDown$World", "leftAfter", "(III)I"⟩ ⟨"BurnedDown$World", "leftAfter", "(III)I"⟩) ∈ bd_tbl := bu_0 (List.mem_of_getElem? (i := 12) rfl)
theorem mw_13 : (Cond.selects "BurnedDown$World" ⟨"BurnedDown$World", "minutesInWindow", "(II)I"⟩ ⟨"BurnedDown$World", "minutesInWindow", "(II)I"⟩) ∈ bd_tbl := bu_0 (List.mem_of_getElem? (i := 13) rfl)
theorem mw_14 : (Cond.selects "BurnedDown$World" ⟨"BurnedDown$World", "nearing", "(IIIII)I"⟩ ⟨"BurnedDown$World", "nearing", "(IIIII)I"⟩) ∈ bd_tbl := bu_0 (List.mem_of_getElem? (i := 14) rfl)
theorem mw_15 : (Cond.selects "BurnedDown$World" ⟨"BurnedDown$World", "nearer", "(II)I"⟩ ⟨"BurnedDown$World", "nearer", "(II)I"⟩) ∈ bd_tbl := bu_0 (List.mem_of_getElem? (i := 15) rfl)
theorem mw_16 : (Cond.selects "BurnedDown$World" ⟨"BurnedDown$World", "inWindow", "(I)Z"⟩ ⟨"BurnedDown$World", "inWindow", "(I)Z"⟩) ∈ bd_tbl := bu_0 (List.mem_of_getElem? (i := 16) rfl)
theorem mw_17 : (Cond.selects "BurnedDown$Looks" ⟨"BurnedDown$Looks", "add", "(IIII)I"⟩ ⟨"BurnedDown$Looks", "add", "(IIII)I"⟩) ∈ bd_tbl := bu_0 (List.mem_of_getElem? (i := 17) rfl)
theorem mw_18 : (Cond.selects "BurnedDown$Looks" ⟨"BurnedDown$Looks", "mark", "(IZ)Z"⟩ ⟨"BurnedDown$Looks", "mark", "(IZ)Z"⟩) ∈ bd_tbl := bu_0 (List.mem_of_getElem? (i := 18) rfl)
theorem mw_19 : (Cond.selects "BurnedDown$Against" ⟨"BurnedDown$Against", "learn", "(LBurnedDown$World;)V"⟩ ⟨"BurnedDown$Against", "learn", "(LBurnedDown$World;)V"⟩) ∈ bd_tbl := bu_0 (List.mem_of_getElem? (i := 19) rfl)
theorem mw_20 : (Cond.selects "BurnedDown$Against" ⟨"BurnedDown$Against", "learnLook", "(LBurnedDown$World;I)V"⟩ ⟨"BurnedDown$Against", "learnLook", "(LBurnedDown$World;I)V"⟩) ∈ bd_tbl := bu_0 (List.mem_of_getElem? (i := 20) rfl)
theorem mw_21 : (Cond.selects "BurnedDown$World" ⟨"BurnedDown$World", "fillLefts", "(II)V"⟩ ⟨"BurnedDown$World", "fillLefts", "(II)V"⟩) ∈ bd_tbl := bu_0 (List.mem_of_getElem? (i := 21) rfl)
theorem mw_22 : (Cond.selects "BurnedDown$World" ⟨"BurnedDown$World", "fillToward", "(II)V"⟩ ⟨"BurnedDown$World", "fillToward", "(II)V"⟩) ∈ bd_tbl := bu_0 (List.mem_of_getElem? (i := 22) rfl)
theorem mw_23 : (Cond.selects "BurnedDown$Against" ⟨"BurnedDown$Against", "speaking", "(LBurnedDown$World;II)I"⟩ ⟨"BurnedDown$Against", "speaking", "(LBurnedDown$World;II)I"⟩) ∈ bd_tbl := bu_0 (List.mem_of_getElem? (i := 23) rfl)
theorem mw_24 : (Cond.selects "BurnedDown" ⟨"BurnedDown", "waysWithout", "(I)J"⟩ ⟨"BurnedDown", "waysWithout", "(I)J"⟩) ∈ bd_tbl := bu_1 (List.mem_of_getElem? (i := 0) rfl)
theorem mw_25 : (Cond.selects "BurnedDown" ⟨"BurnedDown", "setCounts", "(I)V"⟩ ⟨"BurnedDown", "setCounts", "(I)V"⟩) ∈ bd_tbl := bu_1 (List.mem_of_getElem? (i := 1) rfl)
theorem mw_26 : (Cond.selects "BurnedDown$Gathering" ⟨"BurnedDown$Gathering", "set", "(IIJ)V"⟩ ⟨"BurnedDown$Gathering", "set", "(IIJ)V"⟩) ∈ bd_tbl := bu_1 (List.mem_of_getElem? (i := 2) rfl)
theorem mw_27 : (Cond.selects "BurnedDown$Gathering" ⟨"BurnedDown$Gathering", "gather", "(LBurnedDown$Things;ILBurnedDown$Reckoning;)V"⟩ ⟨"BurnedDown$Gathering", "gather", "(LBurnedDown$Things;ILBurnedDown$Reckoning;)V"⟩) ∈ bd_tbl := bu_1 (List.mem_of_getElem? (i := 3) rfl)
theorem mw_28 : (Cond.selects "BurnedDown$Gathering" ⟨"BurnedDown$Gathering", "findPath", "(LBurnedDown$Things;I)V"⟩ ⟨"BurnedDown$Gathering", "findPath", "(LBurnedDown$Things;I)V"⟩) ∈ bd_tbl := bu_1 (List.mem_of_getElem? (i := 4) rfl)
theorem mw_29 : (Cond.selects "BurnedDown$Gathering" ⟨"BurnedDown$Gathering", "onPath", "(I)Z"⟩ ⟨"BurnedDown$Gathering", "onPath", "(I)Z"⟩) ∈ bd_tbl := bu_1 (List.mem_of_getElem? (i := 5) rfl)
theorem mw_30 : (Cond.selects "BurnedDown$Gathering" ⟨"BurnedDown$Gathering", "bring", "(LBurnedDown$Things;IZLBurnedDown$Reckoning;)V"⟩ ⟨"BurnedDown$Gathering", "bring", "(LBurnedDown$Things;IZLBurnedDown$Reckoning;)V"⟩) ∈ bd_tbl := bu_1 (List.mem_of_getElem? (i := 6) rfl)
theorem mw_31 : (Cond.selects "BurnedDown$Things" ⟨"BurnedDown$Things", "lowest", "(IIZ)I"⟩ ⟨"BurnedDown$Things", "lowest", "(IIZ)I"⟩) ∈ bd_tbl := bu_1 (List.mem_of_getElem? (i := 7) rfl)
theorem mw_32 : (Cond.selects "BurnedDown$Things" ⟨"BurnedDown$Things", "highest", "(IIZ)I"⟩ ⟨"BurnedDown$Things", "highest", "(IIZ)I"⟩) ∈ bd_tbl := bu_1 (List.mem_of_getElem? (i := 8) rfl)
theorem mw_33 : (Cond.selects "BurnedDown$Gathering" ⟨"BurnedDown$Gathering", "value", "(II)J"⟩ ⟨"BurnedDown$Gathering", "value", "(II)J"⟩) ∈ bd_tbl := bu_1 (List.mem_of_getElem? (i := 9) rfl)
theorem mw_34 : (Cond.selects "BurnedDown$Gathering" ⟨"BurnedDown$Gathering", "bringAll", "(IILBurnedDown$Reckoning;)V"⟩ ⟨"BurnedDown$Gathering", "bringAll", "(IILBurnedDown$Reckoning;)V"⟩) ∈ bd_tbl := bu_1 (List.mem_of_getElem? (i := 10) rfl)
theorem mw_35 : (Cond.selects "BurnedDown$Gathering" ⟨"BurnedDown$Gathering", "together", "(ILBurnedDown$Reckoning;)J"⟩ ⟨"BurnedDown$Gathering", "together", "(ILBurnedDown$Reckoning;)J"⟩) ∈ bd_tbl := bu_1 (List.mem_of_getElem? (i := 11) rfl)
theorem mw_36 : (Cond.selects "BurnedDown" ⟨"BurnedDown", "countWaysOf", "(I)V"⟩ ⟨"BurnedDown", "countWaysOf", "(I)V"⟩) ∈ bd_tbl := bu_1 (List.mem_of_getElem? (i := 12) rfl)
theorem mw_37 : (Cond.selects "BurnedDown" ⟨"BurnedDown", "runStart", "(II)I"⟩ ⟨"BurnedDown", "runStart", "(II)I"⟩) ∈ bd_tbl := bu_1 (List.mem_of_getElem? (i := 13) rfl)
theorem mw_38 : (Cond.selects "BurnedDown" ⟨"BurnedDown", "runEnd", "(II)I"⟩ ⟨"BurnedDown", "runEnd", "(II)I"⟩) ∈ bd_tbl := bu_1 (List.mem_of_getElem? (i := 14) rfl)
theorem mw_39 : (Cond.selects "BurnedDown" ⟨"BurnedDown", "wrongInRow", "(I)I"⟩ ⟨"BurnedDown", "wrongInRow", "(I)I"⟩) ∈ bd_tbl := bu_1 (List.mem_of_getElem? (i := 15) rfl)
theorem mw_40 : (Cond.selects "BurnedDown" ⟨"BurnedDown", "someWayBefore", "(II)Z"⟩ ⟨"BurnedDown", "someWayBefore", "(II)Z"⟩) ∈ bd_tbl := bu_1 (List.mem_of_getElem? (i := 16) rfl)
theorem mw_41 : (Cond.selects "BurnedDown" ⟨"BurnedDown", "setMinutes", "(IZ)V"⟩ ⟨"BurnedDown", "setMinutes", "(IZ)V"⟩) ∈ bd_tbl := bu_1 (List.mem_of_getElem? (i := 17) rfl)
theorem mw_42 : (Cond.selects "BurnedDown" ⟨"BurnedDown", "someWayNotBefore", "(II)Z"⟩ ⟨"BurnedDown", "someWayNotBefore", "(II)Z"⟩) ∈ bd_tbl := bu_1 (List.mem_of_getElem? (i := 18) rfl)
theorem mw_43 : (Cond.selects "BurnedDown" ⟨"BurnedDown", "mostAlike", "(II)I"⟩ ⟨"BurnedDown", "mostAlike", "(II)I"⟩) ∈ bd_tbl := bu_1 (List.mem_of_getElem? (i := 19) rfl)
theorem mw_44 : (Cond.selects "BurnedDown$World" ⟨"BurnedDown$World", "take", "(LBurnedDown$World;)V"⟩ ⟨"BurnedDown$World", "take", "(LBurnedDown$World;)V"⟩) ∈ bd_tbl := bu_1 (List.mem_of_getElem? (i := 20) rfl)
theorem mw_45 : (Cond.selects "BurnedDown$Things" ⟨"BurnedDown$Things", "take", "(LBurnedDown$Things;)V"⟩ ⟨"BurnedDown$Things", "take", "(LBurnedDown$Things;)V"⟩) ∈ bd_tbl := bu_1 (List.mem_of_getElem? (i := 21) rfl)
theorem mw_46 : (Cond.selects "BurnedDown$Looks" ⟨"BurnedDown$Looks", "take", "(LBurnedDown$Looks;)V"⟩ ⟨"BurnedDown$Looks", "take", "(LBurnedDown$Looks;)V"⟩) ∈ bd_tbl := bu_1 (List.mem_of_getElem? (i := 22) rfl)
theorem mw_47 : (Cond.selects "BurnedDown$Things" ⟨"BurnedDown$Things", "joinings", "()I"⟩ ⟨"BurnedDown$Things", "joinings", "()I"⟩) ∈ bd_tbl := bu_1 (List.mem_of_getElem? (i := 23) rfl)
theorem mw_48 : (Cond.selects "BurnedDownModel" ⟨"BurnedDownModel", "no", "(I)I"⟩ ⟨"BurnedDownModel", "no", "(I)I"⟩) ∈ bd_tbl := bu_2 (List.mem_of_getElem? (i := 0) rfl)
theorem mw_49 : (Cond.selects "BurnedDownModel" ⟨"BurnedDownModel", "reads", "()Z"⟩ ⟨"BurnedDownModel", "reads", "()Z"⟩) ∈ bd_tbl := bu_2 (List.mem_of_getElem? (i := 1) rfl)
theorem mw_50 : (Cond.selects "BurnedDownModel" ⟨"BurnedDownModel", "sign", "()I"⟩ ⟨"BurnedDownModel", "sign", "()I"⟩) ∈ bd_tbl := bu_2 (List.mem_of_getElem? (i := 2) rfl)
theorem mw_51 : (Cond.selects "BurnedDownModel" ⟨"BurnedDownModel", "number", "(I)I"⟩ ⟨"BurnedDownModel", "number", "(I)I"⟩) ∈ bd_tbl := bu_2 (List.mem_of_getElem? (i := 3) rfl)
theorem mw_52 : (Cond.selects "BurnedDownModel" ⟨"BurnedDownModel", "isThing", "(I)Z"⟩ ⟨"BurnedDownModel", "isThing", "(I)Z"⟩) ∈ bd_tbl := bu_2 (List.mem_of_getElem? (i := 4) rfl)
theorem mw_53 : (Cond.selects "BurnedDownModel" ⟨"BurnedDownModel", "leftOf", "(III)I"⟩ ⟨"BurnedDownModel", "leftOf", "(III)I"⟩) ∈ bd_tbl := bu_2 (List.mem_of_getElem? (i := 5) rfl)
theorem mw_54 : (Cond.selects "BurnedDownModel" ⟨"BurnedDownModel", "isOpen", "(I)Z"⟩ ⟨"BurnedDownModel", "isOpen", "(I)Z"⟩) ∈ bd_tbl := bu_2 (List.mem_of_getElem? (i := 6) rfl)
theorem mw_55 : (Cond.selects "BurnedDownModel" ⟨"BurnedDownModel", "nearer", "(II)I"⟩ ⟨"BurnedDownModel", "nearer", "(II)I"⟩) ∈ bd_tbl := bu_2 (List.mem_of_getElem? (i := 7) rfl)
theorem mw_56 : (Cond.selects "BurnedDownModel" ⟨"BurnedDownModel", "finds", "()V"⟩ ⟨"BurnedDownModel", "finds", "()V"⟩) ∈ bd_tbl := bu_2 (List.mem_of_getElem? (i := 8) rfl)
theorem mw_57 : (Cond.selects "BurnedDownModel" ⟨"BurnedDownModel", "letsBy", "(II)Z"⟩ ⟨"BurnedDownModel", "letsBy", "(II)Z"⟩) ∈ bd_tbl := bu_2 (List.mem_of_getElem? (i := 9) rfl)
theorem mw_58 : (Cond.selects "BurnedDownModel" ⟨"BurnedDownModel", "frees", "()V"⟩ ⟨"BurnedDownModel", "frees", "()V"⟩) ∈ bd_tbl := bu_2 (List.mem_of_getElem? (i := 10) rfl)
theorem mw_59 : (Cond.selects "BurnedDownModel" ⟨"BurnedDownModel", "canOf", "(II)Z"⟩ ⟨"BurnedDownModel", "canOf", "(II)Z"⟩) ∈ bd_tbl := bu_2 (List.mem_of_getElem? (i := 11) rfl)
theorem mw_60 : (Cond.selects "BurnedDownModel" ⟨"BurnedDownModel", "counts", "(I)Z"⟩ ⟨"BurnedDownModel", "counts", "(I)Z"⟩) ∈ bd_tbl := bu_2 (List.mem_of_getElem? (i := 12) rfl)
theorem mw_61 : (Cond.selects "BurnedDownModel" ⟨"BurnedDownModel", "waysOf", "()J"⟩ ⟨"BurnedDownModel", "waysOf", "()J"⟩) ∈ bd_tbl := bu_2 (List.mem_of_getElem? (i := 13) rfl)
theorem mw_62 : (Cond.selects "BurnedDownModel" ⟨"BurnedDownModel", "joined", "(II)J"⟩ ⟨"BurnedDownModel", "joined", "(II)J"⟩) ∈ bd_tbl := bu_2 (List.mem_of_getElem? (i := 14) rfl)
theorem mw_63 : (Cond.selects "BurnedDownModel" ⟨"BurnedDownModel", "between", "(II)J"⟩ ⟨"BurnedDownModel", "between", "(II)J"⟩) ∈ bd_tbl := bu_2 (List.mem_of_getElem? (i := 15) rfl)
theorem mw_64 : (Cond.selects "BurnedDownModel" ⟨"BurnedDownModel", "findMay", "(I)V"⟩ ⟨"BurnedDownModel", "findMay", "(I)V"⟩) ∈ bd_tbl := bu_2 (List.mem_of_getElem? (i := 16) rfl)
theorem mw_65 : (Cond.selects "BurnedDownModel" ⟨"BurnedDownModel", "waysWith", "(II)J"⟩ ⟨"BurnedDownModel", "waysWith", "(II)J"⟩) ∈ bd_tbl := bu_2 (List.mem_of_getElem? (i := 17) rfl)
theorem mw_66 : (Cond.selects "BurnedDownModel" ⟨"BurnedDownModel", "isJoined", "(I)Z"⟩ ⟨"BurnedDownModel", "isJoined", "(I)Z"⟩) ∈ bd_tbl := bu_2 (List.mem_of_getElem? (i := 18) rfl)
theorem mw_67 : (Cond.selects "BurnedDownModel" ⟨"BurnedDownModel", "narrowOf", "(II)I"⟩ ⟨"BurnedDownModel", "narrowOf", "(II)I"⟩) ∈ bd_tbl := bu_2 (List.mem_of_getElem? (i := 19) rfl)
theorem mw_68 : (Cond.selects "BurnedDownModel" ⟨"BurnedDownModel", "passesAll", "()V"⟩ ⟨"BurnedDownModel", "passesAll", "()V"⟩) ∈ bd_tbl := bu_2 (List.mem_of_getElem? (i := 20) rfl)
theorem mw_69 : (Cond.selects "BurnedDownModel" ⟨"BurnedDownModel", "passes", "([I)V"⟩ ⟨"BurnedDownModel", "passes", "([I)V"⟩) ∈ bd_tbl := bu_2 (List.mem_of_getElem? (i := 21) rfl)
theorem mw_70 : (Cond.selects "BurnedDownModel" ⟨"BurnedDownModel", "passOne", "(I)I"⟩ ⟨"BurnedDownModel", "passOne", "(I)I"⟩) ∈ bd_tbl := bu_2 (List.mem_of_getElem? (i := 22) rfl)
theorem mw_71 : (Jvm.Cond.initialized "BurnedDownLaw") ∈ bd_tbl := bu_2 (List.mem_of_getElem? (i := 23) rfl)
theorem mw_72 : (Jvm.Cond.initialized "BurnedDown") ∈ bd_tbl := bu_3 (List.mem_of_getElem? (i := 0) rfl)
theorem mw_73 : (Jvm.Cond.initialized "BurnedDown$World") ∈ bd_tbl := bu_3 (List.mem_of_getElem? (i := 1) rfl)
theorem mw_74 : (Jvm.Cond.initialized "BurnedDown$Things") ∈ bd_tbl := bu_3 (List.mem_of_getElem? (i := 2) rfl)
theorem mw_75 : (Jvm.Cond.initialized "BurnedDown$Looks") ∈ bd_tbl := bu_3 (List.mem_of_getElem? (i := 3) rfl)
theorem mw_76 : (Jvm.Cond.initialized "BurnedDown$Tape") ∈ bd_tbl := bu_3 (List.mem_of_getElem? (i := 4) rfl)
theorem mw_77 : (Jvm.Cond.initialized "BurnedDown$Against") ∈ bd_tbl := bu_3 (List.mem_of_getElem? (i := 5) rfl)
theorem mw_78 : (Jvm.Cond.initialized "BurnedDown$Gathering") ∈ bd_tbl := bu_3 (List.mem_of_getElem? (i := 6) rfl)
theorem mw_79 : (Jvm.Cond.initialized "BurnedDown$Reckoning") ∈ bd_tbl := bu_3 (List.mem_of_getElem? (i := 7) rfl)
theorem mw_80 : (Jvm.Cond.initialized "BurnedDown$Counting") ∈ bd_tbl := bu_3 (List.mem_of_getElem? (i := 8) rfl)
theorem mw_81 : (Jvm.Cond.initialized "BurnedDown$Least") ∈ bd_tbl := bu_3 (List.mem_of_getElem? (i := 9) rfl)
theorem mw_82 : (Jvm.Cond.initialized "BurnedDownModel") ∈ bd_tbl := bu_3 (List.mem_of_getElem? (i := 10) rfl)
theorem mw_83 : (Jvm.Cond.initialized "java/lang/Math") ∈ bd_tbl := bu_3 (List.mem_of_getElem? (i := 11) rfl)
theorem mw_84 : (Jvm.Cond.initialized "java/lang/Integer") ∈ bd_tbl := bu_3 (List.mem_of_getElem? (i := 12) rfl)
theorem mw_85 : (Jvm.Cond.classLink "BurnedDownLaw" (7 : Nat) "BurnedDown") ∈ bd_tbl := bu_3 (List.mem_of_getElem? (i := 13) rfl)
theorem mw_86 : (Jvm.Cond.instantiable "BurnedDown" (11 : Nat)) ∈ bd_tbl := bu_3 (List.mem_of_getElem? (i := 14) rfl)
theorem mw_87 : (Jvm.Cond.methodLink "BurnedDownLaw" (9 : Nat) ({ cls := "BurnedDown", name := "<init>", desc := "()V" } : Jvm.MethodName)) ∈ bd_tbl := bu_3 (List.mem_of_getElem? (i := 15) rfl)
theorem mw_88 : (Jvm.Cond.instanceMethod ({ cls := "BurnedDown", name := "<init>", desc := "()V" } : Jvm.MethodName)) ∈ bd_tbl := bu_3 (List.mem_of_getElem? (i := 16) rfl)
theorem mw_89 : (Jvm.Cond.code ({ cls := "BurnedDown", name := "<init>", desc := "()V" } : Jvm.MethodName) prog_1_method_1_code (1 : Nat) (Option.none : Option Jvm.ClassFile.FieldType)) ∈ bd_tbl := bu_3 (List.mem_of_getElem? (i := 17) rfl)
theorem mw_90 : (Jvm.Cond.methodLink "BurnedDown" (3 : Nat) ({ cls := "java/lang/Object", name := "<init>", desc := "()V" } : Jvm.MethodName)) ∈ bd_tbl := bu_3 (List.mem_of_getElem? (i := 18) rfl)
theorem mw_91 : (Jvm.Cond.instanceMethod ({ cls := "java/lang/Object", name := "<init>", desc := "()V" } : Jvm.MethodName)) ∈ bd_tbl := bu_3 (List.mem_of_getElem? (i := 19) rfl)
theorem mw_92 : (Jvm.Cond.code ({ cls := "java/lang/Object", name := "<init>", desc := "()V" } : Jvm.MethodName) object_method_1_code (1 : Nat) (Option.none : Option Jvm.ClassFile.FieldType)) ∈ bd_tbl := bu_3 (List.mem_of_getElem? (i := 20) rfl)
theorem mw_93 : (Jvm.Cond.classLink "BurnedDown" (9 : Nat) "BurnedDown$World") ∈ bd_tbl := bu_3 (List.mem_of_getElem? (i := 21) rfl)
theorem mw_94 : (Jvm.Cond.instantiable "BurnedDown$World" (9 : Nat)) ∈ bd_tbl := bu_3 (List.mem_of_getElem? (i := 22) rfl)
theorem mw_95 : (Jvm.Cond.instanceMethod ({ cls := "BurnedDown$World", name := "<init>", desc := "()V" } : Jvm.MethodName)) ∈ bd_tbl := bu_3 (List.mem_of_getElem? (i := 23) rfl)
theorem mw_96 : (Jvm.Cond.code ({ cls := "BurnedDown$World", name := "<init>", desc := "()V" } : Jvm.MethodName) prog_10_method_1_code (1 : Nat) (Option.none : Option Jvm.ClassFile.FieldType)) ∈ bd_tbl := bu_4 (List.mem_of_getElem? (i := 0) rfl)
theorem mw_97 : (Jvm.Cond.methodLink "BurnedDown$World" (3 : Nat) ({ cls := "java/lang/Object", name := "<init>", desc := "()V" } : Jvm.MethodName)) ∈ bd_tbl := bu_4 (List.mem_of_getElem? (i := 1) rfl)
theorem mw_98 : (Jvm.Cond.classLink "BurnedDown$World" (9 : Nat) "BurnedDown$Things") ∈ bd_tbl := bu_4 (List.mem_of_getElem? (i := 2) rfl)
theorem mw_99 : (Jvm.Cond.instantiable "BurnedDown$Things" (7 : Nat)) ∈ bd_tbl := bu_4 (List.mem_of_getElem? (i := 3) rfl)
theorem mw_100 : (Jvm.Cond.instanceMethod ({ cls := "BurnedDown$Things", name := "<init>", desc := "()V" } : Jvm.MethodName)) ∈ bd_tbl := bu_4 (List.mem_of_getElem? (i := 4) rfl)
theorem mw_101 : (Jvm.Cond.code ({ cls := "BurnedDown$Things", name := "<init>", desc := "()V" } : Jvm.MethodName) prog_9_method_1_code (1 : Nat) (Option.none : Option Jvm.ClassFile.FieldType)) ∈ bd_tbl := bu_4 (List.mem_of_getElem? (i := 5) rfl)
theorem mw_102 : (Jvm.Cond.methodLink "BurnedDown$Things" (3 : Nat) ({ cls := "java/lang/Object", name := "<init>", desc := "()V" } : Jvm.MethodName)) ∈ bd_tbl := bu_4 (List.mem_of_getElem? (i := 6) rfl)
theorem mw_103 : (Jvm.Cond.fieldLink "BurnedDown$Things" (30 : Nat) "BurnedDown$Things" "count" "I") ∈ bd_tbl := bu_4 (List.mem_of_getElem? (i := 7) rfl)
theorem mw_104 : (Jvm.Cond.fieldLink "BurnedDown$Things" (9 : Nat) "BurnedDown$Things" "law" "[I") ∈ bd_tbl := bu_4 (List.mem_of_getElem? (i := 8) rfl)
theorem mw_105 : (Jvm.Cond.fieldLink "BurnedDown$Things" (15 : Nat) "BurnedDown$Things" "beginning" "[I") ∈ bd_tbl := bu_4 (List.mem_of_getElem? (i := 9) rfl)
theorem mw_106 : (Jvm.Cond.fieldLink "BurnedDown$Things" (18 : Nat) "BurnedDown$Things" "pace" "[I") ∈ bd_tbl := bu_4 (List.mem_of_getElem? (i := 10) rfl)
theorem mw_107 : (Jvm.Cond.fieldLink "BurnedDown$Things" (21 : Nat) "BurnedDown$Things" "joined" "[I") ∈ bd_tbl := bu_4 (List.mem_of_getElem? (i := 11) rfl)
theorem mw_108 : (Jvm.Cond.fieldLink "BurnedDown$Things" (24 : Nat) "BurnedDown$Things" "kind" "[I") ∈ bd_tbl := bu_4 (List.mem_of_getElem? (i := 12) rfl)
theorem mw_109 : (Jvm.Cond.fieldLink "BurnedDown$Things" (27 : Nat) "BurnedDown$Things" "distance" "[I") ∈ bd_tbl := bu_4 (List.mem_of_getElem? (i := 13) rfl)
theorem mw_110 : (Jvm.Cond.lays "BurnedDown$Things" "BurnedDown$Things" "count" "I") ∈ bd_tbl := bu_4 (List.mem_of_getElem? (i := 14) rfl)
theorem mw_111 : (Jvm.Cond.laysFinal "BurnedDown$Things" "BurnedDown$Things" "law" "[I") ∈ bd_tbl := bu_4 (List.mem_of_getElem? (i := 15) rfl)
theorem mw_112 : (Jvm.Cond.laysFinal "BurnedDown$Things" "BurnedDown$Things" "beginning" "[I") ∈ bd_tbl := bu_4 (List.mem_of_getElem? (i := 16) rfl)
theorem mw_113 : (Jvm.Cond.laysFinal "BurnedDown$Things" "BurnedDown$Things" "pace" "[I") ∈ bd_tbl := bu_4 (List.mem_of_getElem? (i := 17) rfl)
theorem mw_114 : (Jvm.Cond.laysFinal "BurnedDown$Things" "BurnedDown$Things" "joined" "[I") ∈ bd_tbl := bu_4 (List.mem_of_getElem? (i := 18) rfl)
theorem mw_115 : (Jvm.Cond.laysFinal "BurnedDown$Things" "BurnedDown$Things" "kind" "[I") ∈ bd_tbl := bu_4 (List.mem_of_getElem? (i := 19) rfl)
theorem mw_116 : (Jvm.Cond.laysFinal "BurnedDown$Things" "BurnedDown$Things" "distance" "[I") ∈ bd_tbl := bu_4 (List.mem_of_getElem? (i := 20) rfl)
theorem mw_117 : (Jvm.Cond.arrayClass Jvm.ClassFile.FieldType.int) ∈ bd_tbl := bu_4 (List.mem_of_getElem? (i := 21) rfl)
theorem mw_118 : (Jvm.Cond.classLink "BurnedDown$World" (18 : Nat) "BurnedDown$Looks") ∈ bd_tbl := bu_4 (List.mem_of_getElem? (i := 22) rfl)
theorem mw_119 : (Jvm.Cond.instantiable "BurnedDown$Looks" (6 : Nat)) ∈ bd_tbl := bu_4 (List.mem_of_getElem? (i := 23) rfl)
theorem mw_120 : (Jvm.Cond.instanceMethod ({ cls := "BurnedDown$Looks", name := "<init>", desc := "()V" } : Jvm.MethodName)) ∈ bd_tbl := bu_5 (List.mem_of_getElem? (i := 0) rfl)
theorem mw_121 : (Jvm.Cond.code ({ cls := "BurnedDown$Looks", name := "<init>", desc := "()V" } : Jvm.MethodName) prog_6_method_1_code (1 : Nat) (Option.none : Option Jvm.ClassFile.FieldType)) ∈ bd_tbl := bu_5 (List.mem_of_getElem? (i := 1) rfl)
theorem mw_122 : (Jvm.Cond.methodLink "BurnedDown$Looks" (3 : Nat) ({ cls := "java/lang/Object", name := "<init>", desc := "()V" } : Jvm.MethodName)) ∈ bd_tbl := bu_5 (List.mem_of_getElem? (i := 2) rfl)
theorem mw_123 : (Jvm.Cond.fieldLink "BurnedDown$Looks" (24 : Nat) "BurnedDown$Looks" "count" "I") ∈ bd_tbl := bu_5 (List.mem_of_getElem? (i := 3) rfl)
theorem mw_124 : (Jvm.Cond.fieldLink "BurnedDown$Looks" (32 : Nat) "BurnedDown$Looks" "doubted" "I") ∈ bd_tbl := bu_5 (List.mem_of_getElem? (i := 4) rfl)
theorem mw_125 : (Jvm.Cond.fieldLink "BurnedDown$Looks" (9 : Nat) "BurnedDown$Looks" "thing" "[I") ∈ bd_tbl := bu_5 (List.mem_of_getElem? (i := 5) rfl)
theorem mw_126 : (Jvm.Cond.fieldLink "BurnedDown$Looks" (15 : Nat) "BurnedDown$Looks" "minute" "[I") ∈ bd_tbl := bu_5 (List.mem_of_getElem? (i := 6) rfl)
theorem mw_127 : (Jvm.Cond.fieldLink "BurnedDown$Looks" (18 : Nat) "BurnedDown$Looks" "low" "[I") ∈ bd_tbl := bu_5 (List.mem_of_getElem? (i := 7) rfl)
theorem mw_128 : (Jvm.Cond.fieldLink "BurnedDown$Looks" (21 : Nat) "BurnedDown$Looks" "high" "[I") ∈ bd_tbl := bu_5 (List.mem_of_getElem? (i := 8) rfl)
theorem mw_129 : (Jvm.Cond.lays "BurnedDown$Looks" "BurnedDown$Looks" "count" "I") ∈ bd_tbl := bu_5 (List.mem_of_getElem? (i := 9) rfl)
theorem mw_130 : (Jvm.Cond.lays "BurnedDown$Looks" "BurnedDown$Looks" "doubted" "I") ∈ bd_tbl := bu_5 (List.mem_of_getElem? (i := 10) rfl)
theorem mw_131 : (Jvm.Cond.laysFinal "BurnedDown$Looks" "BurnedDown$Looks" "thing" "[I") ∈ bd_tbl := bu_5 (List.mem_of_getElem? (i := 11) rfl)
theorem mw_132 : (Jvm.Cond.laysFinal "BurnedDown$Looks" "BurnedDown$Looks" "minute" "[I") ∈ bd_tbl := bu_5 (List.mem_of_getElem? (i := 12) rfl)
theorem mw_133 : (Jvm.Cond.laysFinal "BurnedDown$Looks" "BurnedDown$Looks" "low" "[I") ∈ bd_tbl := bu_5 (List.mem_of_getElem? (i := 13) rfl)
theorem mw_134 : (Jvm.Cond.laysFinal "BurnedDown$Looks" "BurnedDown$Looks" "high" "[I") ∈ bd_tbl := bu_5 (List.mem_of_getElem? (i := 14) rfl)
theorem mw_135 : (Jvm.Cond.fieldLink "BurnedDown$World" (12 : Nat) "BurnedDown$World" "things" "LBurnedDown$Things;") ∈ bd_tbl := bu_5 (List.mem_of_getElem? (i := 15) rfl)
theorem mw_136 : (Jvm.Cond.fieldLink "BurnedDown$World" (21 : Nat) "BurnedDown$World" "looks" "LBurnedDown$Looks;") ∈ bd_tbl := bu_5 (List.mem_of_getElem? (i := 16) rfl)
theorem mw_137 : (Jvm.Cond.fieldLink "BurnedDown$World" (25 : Nat) "BurnedDown$World" "room" "I") ∈ bd_tbl := bu_5 (List.mem_of_getElem? (i := 17) rfl)
theorem mw_138 : (Jvm.Cond.fieldLink "BurnedDown$World" (29 : Nat) "BurnedDown$World" "opens" "I") ∈ bd_tbl := bu_5 (List.mem_of_getElem? (i := 18) rfl)
theorem mw_139 : (Jvm.Cond.fieldLink "BurnedDown$World" (32 : Nat) "BurnedDown$World" "closes" "I") ∈ bd_tbl := bu_5 (List.mem_of_getElem? (i := 19) rfl)
theorem mw_140 : (Jvm.Cond.fieldLink "BurnedDown$World" (49 : Nat) "BurnedDown$World" "candidates" "I") ∈ bd_tbl := bu_5 (List.mem_of_getElem? (i := 20) rfl)
theorem mw_141 : (Jvm.Cond.fieldLink "BurnedDown$World" (35 : Nat) "BurnedDown$World" "from" "[I") ∈ bd_tbl := bu_5 (List.mem_of_getElem? (i := 21) rfl)
theorem mw_142 : (Jvm.Cond.fieldLink "BurnedDown$World" (39 : Nat) "BurnedDown$World" "to" "[I") ∈ bd_tbl := bu_5 (List.mem_of_getElem? (i := 22) rfl)
theorem mw_143 : (Jvm.Cond.fieldLink "BurnedDown$World" (42 : Nat) "BurnedDown$World" "lefts" "[I") ∈ bd_tbl := bu_5 (List.mem_of_getElem? (i := 23) rfl)
theorem mw_144 : (Jvm.Cond.laysFinal "BurnedDown$World" "BurnedDown$World" "things" "LBurnedDown$Things;") ∈ bd_tbl := bu_6 (List.mem_of_getElem? (i := 0) rfl)
theorem mw_145 : (Jvm.Cond.laysFinal "BurnedDown$World" "BurnedDown$World" "looks" "LBurnedDown$Looks;") ∈ bd_tbl := bu_6 (List.mem_of_getElem? (i := 1) rfl)
theorem mw_146 : (Jvm.Cond.lays "BurnedDown$World" "BurnedDown$World" "room" "I") ∈ bd_tbl := bu_6 (List.mem_of_getElem? (i := 2) rfl)
theorem mw_147 : (Jvm.Cond.lays "BurnedDown$World" "BurnedDown$World" "opens" "I") ∈ bd_tbl := bu_6 (List.mem_of_getElem? (i := 3) rfl)
theorem mw_148 : (Jvm.Cond.lays "BurnedDown$World" "BurnedDown$World" "closes" "I") ∈ bd_tbl := bu_6 (List.mem_of_getElem? (i := 4) rfl)
theorem mw_149 : (Jvm.Cond.lays "BurnedDown$World" "BurnedDown$World" "candidates" "I") ∈ bd_tbl := bu_6 (List.mem_of_getElem? (i := 5) rfl)
theorem mw_150 : (Jvm.Cond.laysFinal "BurnedDown$World" "BurnedDown$World" "from" "[I") ∈ bd_tbl := bu_6 (List.mem_of_getElem? (i := 6) rfl)
theorem mw_151 : (Jvm.Cond.laysFinal "BurnedDown$World" "BurnedDown$World" "to" "[I") ∈ bd_tbl := bu_6 (List.mem_of_getElem? (i := 7) rfl)
theorem mw_152 : (Jvm.Cond.laysFinal "BurnedDown$World" "BurnedDown$World" "lefts" "[I") ∈ bd_tbl := bu_6 (List.mem_of_getElem? (i := 8) rfl)
theorem mw_153 : (Jvm.Cond.classLink "BurnedDown" (19 : Nat) "BurnedDown$Tape") ∈ bd_tbl := bu_6 (List.mem_of_getElem? (i := 9) rfl)
theorem mw_154 : (Jvm.Cond.instantiable "BurnedDown$Tape" (6 : Nat)) ∈ bd_tbl := bu_6 (List.mem_of_getElem? (i := 10) rfl)
theorem mw_155 : (Jvm.Cond.instanceMethod ({ cls := "BurnedDown$Tape", name := "<init>", desc := "()V" } : Jvm.MethodName)) ∈ bd_tbl := bu_6 (List.mem_of_getElem? (i := 11) rfl)
theorem mw_156 : (Jvm.Cond.code ({ cls := "BurnedDown$Tape", name := "<init>", desc := "()V" } : Jvm.MethodName) prog_8_method_1_code (1 : Nat) (Option.none : Option Jvm.ClassFile.FieldType)) ∈ bd_tbl := bu_6 (List.mem_of_getElem? (i := 12) rfl)
theorem mw_157 : (Jvm.Cond.methodLink "BurnedDown$Tape" (3 : Nat) ({ cls := "java/lang/Object", name := "<init>", desc := "()V" } : Jvm.MethodName)) ∈ bd_tbl := bu_6 (List.mem_of_getElem? (i := 13) rfl)
theorem mw_158 : (Jvm.Cond.fieldLink "BurnedDown$Tape" (9 : Nat) "BurnedDown$Tape" "bytes" "[I") ∈ bd_tbl := bu_6 (List.mem_of_getElem? (i := 14) rfl)
theorem mw_159 : (Jvm.Cond.fieldLink "BurnedDown$Tape" (15 : Nat) "BurnedDown$Tape" "length" "I") ∈ bd_tbl := bu_6 (List.mem_of_getElem? (i := 15) rfl)
theorem mw_160 : (Jvm.Cond.fieldLink "BurnedDown$Tape" (23 : Nat) "BurnedDown$Tape" "place" "I") ∈ bd_tbl := bu_6 (List.mem_of_getElem? (i := 16) rfl)
theorem mw_161 : (Jvm.Cond.fieldLink "BurnedDown$Tape" (34 : Nat) "BurnedDown$Tape" "law" "I") ∈ bd_tbl := bu_6 (List.mem_of_getElem? (i := 17) rfl)
theorem mw_162 : (Jvm.Cond.fieldLink "BurnedDown$Tape" (40 : Nat) "BurnedDown$Tape" "beginning" "I") ∈ bd_tbl := bu_6 (List.mem_of_getElem? (i := 18) rfl)
theorem mw_163 : (Jvm.Cond.fieldLink "BurnedDown$Tape" (43 : Nat) "BurnedDown$Tape" "pace" "I") ∈ bd_tbl := bu_6 (List.mem_of_getElem? (i := 19) rfl)
theorem mw_164 : (Jvm.Cond.laysFinal "BurnedDown$Tape" "BurnedDown$Tape" "bytes" "[I") ∈ bd_tbl := bu_6 (List.mem_of_getElem? (i := 20) rfl)
theorem mw_165 : (Jvm.Cond.lays "BurnedDown$Tape" "BurnedDown$Tape" "length" "I") ∈ bd_tbl := bu_6 (List.mem_of_getElem? (i := 21) rfl)
theorem mw_166 : (Jvm.Cond.lays "BurnedDown$Tape" "BurnedDown$Tape" "place" "I") ∈ bd_tbl := bu_6 (List.mem_of_getElem? (i := 22) rfl)
theorem mw_167 : (Jvm.Cond.lays "BurnedDown$Tape" "BurnedDown$Tape" "law" "I") ∈ bd_tbl := bu_6 (List.mem_of_getElem? (i := 23) rfl)
theorem mw_168 : (Jvm.Cond.lays "BurnedDown$Tape" "BurnedDown$Tape" "beginning" "I") ∈ bd_tbl := bu_7 (List.mem_of_getElem? (i := 0) rfl)
theorem mw_169 : (Jvm.Cond.lays "BurnedDown$Tape" "BurnedDown$Tape" "pace" "I") ∈ bd_tbl := bu_7 (List.mem_of_getElem? (i := 1) rfl)
theorem mw_170 : (Jvm.Cond.classLink "BurnedDown" (33 : Nat) "BurnedDown$Against") ∈ bd_tbl := bu_7 (List.mem_of_getElem? (i := 2) rfl)
theorem mw_171 : (Jvm.Cond.instantiable "BurnedDown$Against" (2 : Nat)) ∈ bd_tbl := bu_7 (List.mem_of_getElem? (i := 3) rfl)
theorem mw_172 : (Jvm.Cond.instanceMethod ({ cls := "BurnedDown$Against", name := "<init>", desc := "()V" } : Jvm.MethodName)) ∈ bd_tbl := bu_7 (List.mem_of_getElem? (i := 4) rfl)
theorem mw_173 : (Jvm.Cond.code ({ cls := "BurnedDown$Against", name := "<init>", desc := "()V" } : Jvm.MethodName) prog_2_method_1_code (1 : Nat) (Option.none : Option Jvm.ClassFile.FieldType)) ∈ bd_tbl := bu_7 (List.mem_of_getElem? (i := 5) rfl)
theorem mw_174 : (Jvm.Cond.methodLink "BurnedDown$Against" (3 : Nat) ({ cls := "java/lang/Object", name := "<init>", desc := "()V" } : Jvm.MethodName)) ∈ bd_tbl := bu_7 (List.mem_of_getElem? (i := 6) rfl)
theorem mw_175 : (Jvm.Cond.fieldLink "BurnedDown$Against" (9 : Nat) "BurnedDown$Against" "bits" "[I") ∈ bd_tbl := bu_7 (List.mem_of_getElem? (i := 7) rfl)
theorem mw_176 : (Jvm.Cond.fieldLink "BurnedDown$Against" (15 : Nat) "BurnedDown$Against" "learned" "I") ∈ bd_tbl := bu_7 (List.mem_of_getElem? (i := 8) rfl)
theorem mw_177 : (Jvm.Cond.laysFinal "BurnedDown$Against" "BurnedDown$Against" "bits" "[I") ∈ bd_tbl := bu_7 (List.mem_of_getElem? (i := 9) rfl)
theorem mw_178 : (Jvm.Cond.lays "BurnedDown$Against" "BurnedDown$Against" "learned" "I") ∈ bd_tbl := bu_7 (List.mem_of_getElem? (i := 10) rfl)
theorem mw_179 : (Jvm.Cond.classLink "BurnedDown" (40 : Nat) "BurnedDown$Gathering") ∈ bd_tbl := bu_7 (List.mem_of_getElem? (i := 11) rfl)
theorem mw_180 : (Jvm.Cond.instantiable "BurnedDown$Gathering" (3 : Nat)) ∈ bd_tbl := bu_7 (List.mem_of_getElem? (i := 12) rfl)
theorem mw_181 : (Jvm.Cond.instanceMethod ({ cls := "BurnedDown$Gathering", name := "<init>", desc := "()V" } : Jvm.MethodName)) ∈ bd_tbl := bu_7 (List.mem_of_getElem? (i := 13) rfl)
theorem mw_182 : (Jvm.Cond.code ({ cls := "BurnedDown$Gathering", name := "<init>", desc := "()V" } : Jvm.MethodName) prog_4_method_1_code (1 : Nat) (Option.none : Option Jvm.ClassFile.FieldType)) ∈ bd_tbl := bu_7 (List.mem_of_getElem? (i := 14) rfl)
theorem mw_183 : (Jvm.Cond.methodLink "BurnedDown$Gathering" (3 : Nat) ({ cls := "java/lang/Object", name := "<init>", desc := "()V" } : Jvm.MethodName)) ∈ bd_tbl := bu_7 (List.mem_of_getElem? (i := 15) rfl)
theorem mw_184 : (Jvm.Cond.fieldLink "BurnedDown$Gathering" (9 : Nat) "BurnedDown$Gathering" "rows" "[J") ∈ bd_tbl := bu_7 (List.mem_of_getElem? (i := 16) rfl)
theorem mw_185 : (Jvm.Cond.fieldLink "BurnedDown$Gathering" (15 : Nat) "BurnedDown$Gathering" "path" "[I") ∈ bd_tbl := bu_7 (List.mem_of_getElem? (i := 17) rfl)
theorem mw_186 : (Jvm.Cond.fieldLink "BurnedDown$Gathering" (61 : Nat) "BurnedDown$Gathering" "pathLength" "I") ∈ bd_tbl := bu_7 (List.mem_of_getElem? (i := 18) rfl)
theorem mw_187 : (Jvm.Cond.laysFinal "BurnedDown$Gathering" "BurnedDown$Gathering" "rows" "[J") ∈ bd_tbl := bu_7 (List.mem_of_getElem? (i := 19) rfl)
theorem mw_188 : (Jvm.Cond.laysFinal "BurnedDown$Gathering" "BurnedDown$Gathering" "path" "[I") ∈ bd_tbl := bu_7 (List.mem_of_getElem? (i := 20) rfl)
theorem mw_189 : (Jvm.Cond.lays "BurnedDown$Gathering" "BurnedDown$Gathering" "pathLength" "I") ∈ bd_tbl := bu_7 (List.mem_of_getElem? (i := 21) rfl)
theorem mw_190 : (Jvm.Cond.arrayClass Jvm.ClassFile.FieldType.long) ∈ bd_tbl := bu_7 (List.mem_of_getElem? (i := 22) rfl)
theorem mw_191 : (Jvm.Cond.classLink "BurnedDown" (47 : Nat) "BurnedDown$Counting") ∈ bd_tbl := bu_7 (List.mem_of_getElem? (i := 23) rfl)
theorem mw_192 : (Jvm.Cond.instantiable "BurnedDown$Counting" (1 : Nat)) ∈ bd_tbl := bu_8 (List.mem_of_getElem? (i := 0) rfl)
theorem mw_193 : (Jvm.Cond.instanceMethod ({ cls := "BurnedDown$Counting", name := "<init>", desc := "()V" } : Jvm.MethodName)) ∈ bd_tbl := bu_8 (List.mem_of_getElem? (i := 1) rfl)
theorem mw_194 : (Jvm.Cond.code ({ cls := "BurnedDown$Counting", name := "<init>", desc := "()V" } : Jvm.MethodName) prog_3_method_1_code (1 : Nat) (Option.none : Option Jvm.ClassFile.FieldType)) ∈ bd_tbl := bu_8 (List.mem_of_getElem? (i := 2) rfl)
theorem mw_195 : (Jvm.Cond.instanceMethod ({ cls := "BurnedDown$Reckoning", name := "<init>", desc := "()V" } : Jvm.MethodName)) ∈ bd_tbl := bu_8 (List.mem_of_getElem? (i := 3) rfl)
theorem mw_196 : (Jvm.Cond.code ({ cls := "BurnedDown$Reckoning", name := "<init>", desc := "()V" } : Jvm.MethodName) prog_7_method_1_code (1 : Nat) (Option.none : Option Jvm.ClassFile.FieldType)) ∈ bd_tbl := bu_8 (List.mem_of_getElem? (i := 4) rfl)
theorem mw_197 : (Jvm.Cond.methodLink "BurnedDown$Reckoning" (3 : Nat) ({ cls := "java/lang/Object", name := "<init>", desc := "()V" } : Jvm.MethodName)) ∈ bd_tbl := bu_8 (List.mem_of_getElem? (i := 5) rfl)
theorem mw_198 : (Jvm.Cond.fieldLink "BurnedDown$Counting" (9 : Nat) "BurnedDown$Counting" "before" "[J") ∈ bd_tbl := bu_8 (List.mem_of_getElem? (i := 6) rfl)
theorem mw_199 : (Jvm.Cond.laysFinal "BurnedDown$Counting" "BurnedDown$Counting" "before" "[J") ∈ bd_tbl := bu_8 (List.mem_of_getElem? (i := 7) rfl)
theorem mw_200 : (Jvm.Cond.classLink "BurnedDown" (54 : Nat) "BurnedDown$Least") ∈ bd_tbl := bu_8 (List.mem_of_getElem? (i := 8) rfl)
theorem mw_201 : (Jvm.Cond.instantiable "BurnedDown$Least" (1 : Nat)) ∈ bd_tbl := bu_8 (List.mem_of_getElem? (i := 9) rfl)
theorem mw_202 : (Jvm.Cond.instanceMethod ({ cls := "BurnedDown$Least", name := "<init>", desc := "()V" } : Jvm.MethodName)) ∈ bd_tbl := bu_8 (List.mem_of_getElem? (i := 10) rfl)
theorem mw_203 : (Jvm.Cond.code ({ cls := "BurnedDown$Least", name := "<init>", desc := "()V" } : Jvm.MethodName) prog_5_method_1_code (1 : Nat) (Option.none : Option Jvm.ClassFile.FieldType)) ∈ bd_tbl := bu_8 (List.mem_of_getElem? (i := 11) rfl)
theorem mw_204 : (Jvm.Cond.fieldLink "BurnedDown$Least" (11 : Nat) "BurnedDown$Least" "kept" "[J") ∈ bd_tbl := bu_8 (List.mem_of_getElem? (i := 12) rfl)
theorem mw_205 : (Jvm.Cond.laysFinal "BurnedDown$Least" "BurnedDown$Least" "kept" "[J") ∈ bd_tbl := bu_8 (List.mem_of_getElem? (i := 13) rfl)
theorem mw_206 : (Jvm.Cond.fieldLink "BurnedDown" (12 : Nat) "BurnedDown" "world" "LBurnedDown$World;") ∈ bd_tbl := bu_8 (List.mem_of_getElem? (i := 14) rfl)
theorem mw_207 : (Jvm.Cond.fieldLink "BurnedDown" (16 : Nat) "BurnedDown" "picture" "LBurnedDown$World;") ∈ bd_tbl := bu_8 (List.mem_of_getElem? (i := 15) rfl)
theorem mw_208 : (Jvm.Cond.fieldLink "BurnedDown" (237 : Nat) "BurnedDown" "pictured" "Z") ∈ bd_tbl := bu_8 (List.mem_of_getElem? (i := 16) rfl)
theorem mw_209 : (Jvm.Cond.fieldLink "BurnedDown" (22 : Nat) "BurnedDown" "tape" "LBurnedDown$Tape;") ∈ bd_tbl := bu_8 (List.mem_of_getElem? (i := 17) rfl)
theorem mw_210 : (Jvm.Cond.fieldLink "BurnedDown" (26 : Nat) "BurnedDown" "row" "[I") ∈ bd_tbl := bu_8 (List.mem_of_getElem? (i := 18) rfl)
theorem mw_211 : (Jvm.Cond.fieldLink "BurnedDown" (190 : Nat) "BurnedDown" "rowLength" "I") ∈ bd_tbl := bu_8 (List.mem_of_getElem? (i := 19) rfl)
theorem mw_212 : (Jvm.Cond.fieldLink "BurnedDown" (30 : Nat) "BurnedDown" "refusals" "[I") ∈ bd_tbl := bu_8 (List.mem_of_getElem? (i := 20) rfl)
theorem mw_213 : (Jvm.Cond.fieldLink "BurnedDown" (36 : Nat) "BurnedDown" "against" "LBurnedDown$Against;") ∈ bd_tbl := bu_8 (List.mem_of_getElem? (i := 21) rfl)
theorem mw_214 : (Jvm.Cond.fieldLink "BurnedDown" (43 : Nat) "BurnedDown" "gathering" "LBurnedDown$Gathering;") ∈ bd_tbl := bu_8 (List.mem_of_getElem? (i := 22) rfl)
theorem mw_215 : (Jvm.Cond.fieldLink "BurnedDown" (50 : Nat) "BurnedDown" "counting" "LBurnedDown$Counting;") ∈ bd_tbl := bu_8 (List.mem_of_getElem? (i := 23) rfl)
theorem mw_216 : (Jvm.Cond.fieldLink "BurnedDown" (57 : Nat) "BurnedDown" "least" "LBurnedDown$Least;") ∈ bd_tbl := bu_9 (List.mem_of_getElem? (i := 0) rfl)
theorem mw_217 : (Jvm.Cond.laysFinal "BurnedDown" "BurnedDown" "world" "LBurnedDown$World;") ∈ bd_tbl := bu_9 (List.mem_of_getElem? (i := 1) rfl)
theorem mw_218 : (Jvm.Cond.laysFinal "BurnedDown" "BurnedDown" "picture" "LBurnedDown$World;") ∈ bd_tbl := bu_9 (List.mem_of_getElem? (i := 2) rfl)
theorem mw_219 : (Jvm.Cond.lays "BurnedDown" "BurnedDown" "pictured" "Z") ∈ bd_tbl := bu_9 (List.mem_of_getElem? (i := 3) rfl)
theorem mw_220 : (Jvm.Cond.laysFinal "BurnedDown" "BurnedDown" "tape" "LBurnedDown$Tape;") ∈ bd_tbl := bu_9 (List.mem_of_getElem? (i := 4) rfl)
theorem mw_221 : (Jvm.Cond.laysFinal "BurnedDown" "BurnedDown" "row" "[I") ∈ bd_tbl := bu_9 (List.mem_of_getElem? (i := 5) rfl)
theorem mw_222 : (Jvm.Cond.lays "BurnedDown" "BurnedDown" "rowLength" "I") ∈ bd_tbl := bu_9 (List.mem_of_getElem? (i := 6) rfl)
theorem mw_223 : (Jvm.Cond.laysFinal "BurnedDown" "BurnedDown" "refusals" "[I") ∈ bd_tbl := bu_9 (List.mem_of_getElem? (i := 7) rfl)
theorem mw_224 : (Jvm.Cond.laysFinal "BurnedDown" "BurnedDown" "against" "LBurnedDown$Against;") ∈ bd_tbl := bu_9 (List.mem_of_getElem? (i := 8) rfl)
theorem mw_225 : (Jvm.Cond.laysFinal "BurnedDown" "BurnedDown" "gathering" "LBurnedDown$Gathering;") ∈ bd_tbl := bu_9 (List.mem_of_getElem? (i := 9) rfl)
theorem mw_226 : (Jvm.Cond.laysFinal "BurnedDown" "BurnedDown" "counting" "LBurnedDown$Counting;") ∈ bd_tbl := bu_9 (List.mem_of_getElem? (i := 10) rfl)
theorem mw_227 : (Jvm.Cond.laysFinal "BurnedDown" "BurnedDown" "least" "LBurnedDown$Least;") ∈ bd_tbl := bu_9 (List.mem_of_getElem? (i := 11) rfl)
theorem mw_228 : (Jvm.Cond.methodLink "BurnedDownLaw" (15 : Nat) ({ cls := "BurnedDown", name := "feed", desc := "(IJ)I" } : Jvm.MethodName)) ∈ bd_tbl := bu_9 (List.mem_of_getElem? (i := 12) rfl)
theorem mw_229 : (Jvm.Cond.instanceMethod ({ cls := "BurnedDown", name := "feed", desc := "(IJ)I" } : Jvm.MethodName)) ∈ bd_tbl := bu_9 (List.mem_of_getElem? (i := 13) rfl)
theorem mw_230 : (Jvm.Cond.selects "BurnedDown" ({ cls := "BurnedDown", name := "feed", desc := "(IJ)I" } : Jvm.MethodName) ({ cls := "BurnedDown", name := "feed", desc := "(IJ)I" } : Jvm.MethodName)) ∈ bd_tbl := bu_9 (List.mem_of_getElem? (i := 14) rfl)
theorem mw_231 : (Jvm.Cond.code ({ cls := "BurnedDown", name := "feed", desc := "(IJ)I" } : Jvm.MethodName) prog_1_method_2_code (4 : Nat) (Option.some Jvm.ClassFile.FieldType.int)) ∈ bd_tbl := bu_9 (List.mem_of_getElem? (i := 15) rfl)
theorem mw_232 : (Jvm.Cond.methodLink "BurnedDown" (61 : Nat) ({ cls := "BurnedDown", name := "refuse", desc := "(I)I" } : Jvm.MethodName)) ∈ bd_tbl := bu_9 (List.mem_of_getElem? (i := 16) rfl)
theorem mw_233 : (Jvm.Cond.instanceMethod ({ cls := "BurnedDown", name := "refuse", desc := "(I)I" } : Jvm.MethodName)) ∈ bd_tbl := bu_9 (List.mem_of_getElem? (i := 17) rfl)
theorem mw_234 : (Jvm.Cond.code ({ cls := "BurnedDown", name := "refuse", desc := "(I)I" } : Jvm.MethodName) prog_1_method_29_code (2 : Nat) (Option.some Jvm.ClassFile.FieldType.int)) ∈ bd_tbl := bu_9 (List.mem_of_getElem? (i := 18) rfl)
theorem mw_235 : (Jvm.Cond.methodLink "BurnedDown" (105 : Nat) ({ cls := "BurnedDown", name := "at", desc := "([II)I" } : Jvm.MethodName)) ∈ bd_tbl := bu_9 (List.mem_of_getElem? (i := 19) rfl)
theorem mw_236 : (Jvm.Cond.static ({ cls := "BurnedDown", name := "at", desc := "([II)I" } : Jvm.MethodName)) ∈ bd_tbl := bu_9 (List.mem_of_getElem? (i := 20) rfl)
theorem mw_237 : (Jvm.Cond.code ({ cls := "BurnedDown", name := "at", desc := "([II)I" } : Jvm.MethodName) prog_1_method_44_code (2 : Nat) (Option.some Jvm.ClassFile.FieldType.int)) ∈ bd_tbl := bu_9 (List.mem_of_getElem? (i := 21) rfl)
theorem mw_238 : (Jvm.Cond.methodLink "BurnedDown" (193 : Nat) ({ cls := "BurnedDown", name := "lay", desc := "([III)V" } : Jvm.MethodName)) ∈ bd_tbl := bu_9 (List.mem_of_getElem? (i := 22) rfl)
theorem mw_239 : (Jvm.Cond.static ({ cls := "BurnedDown", name := "lay", desc := "([III)V" } : Jvm.MethodName)) ∈ bd_tbl := bu_9 (List.mem_of_getElem? (i := 23) rfl)
theorem mw_240 : (Jvm.Cond.code ({ cls := "BurnedDown", name := "lay", desc := "([III)V" } : Jvm.MethodName) prog_1_method_46_code (3 : Nat) (Option.none : Option Jvm.ClassFile.FieldType)) ∈ bd_tbl := bu_10 (List.mem_of_getElem? (i := 0) rfl)
theorem mw_241 : (Jvm.Cond.instanceMethod ({ cls := "BurnedDown$Tape", name := "take", desc := "(IJ)I" } : Jvm.MethodName)) ∈ bd_tbl := bu_10 (List.mem_of_getElem? (i := 1) rfl)
theorem mw_242 : (Jvm.Cond.code ({ cls := "BurnedDown$Tape", name := "take", desc := "(IJ)I" } : Jvm.MethodName) prog_8_method_2_code (5 : Nat) (Option.some Jvm.ClassFile.FieldType.int)) ∈ bd_tbl := bu_10 (List.mem_of_getElem? (i := 2) rfl)
theorem mw_243 : (Jvm.Cond.methodLink "BurnedDownLaw" (20 : Nat) ({ cls := "BurnedDown", name := "thing", desc := "()I" } : Jvm.MethodName)) ∈ bd_tbl := bu_10 (List.mem_of_getElem? (i := 3) rfl)
theorem mw_244 : (Jvm.Cond.instanceMethod ({ cls := "BurnedDown", name := "thing", desc := "()I" } : Jvm.MethodName)) ∈ bd_tbl := bu_10 (List.mem_of_getElem? (i := 4) rfl)
theorem mw_245 : (Jvm.Cond.selects "BurnedDown" ({ cls := "BurnedDown", name := "thing", desc := "()I" } : Jvm.MethodName) ({ cls := "BurnedDown", name := "thing", desc := "()I" } : Jvm.MethodName)) ∈ bd_tbl := bu_10 (List.mem_of_getElem? (i := 5) rfl)
theorem mw_246 : (Jvm.Cond.code ({ cls := "BurnedDown", name := "thing", desc := "()I" } : Jvm.MethodName) prog_1_method_3_code (2 : Nat) (Option.some Jvm.ClassFile.FieldType.int)) ∈ bd_tbl := bu_10 (List.mem_of_getElem? (i := 6) rfl)
theorem mw_247 : (Jvm.Cond.instanceMethod ({ cls := "BurnedDown$Tape", name := "read", desc := "()I" } : Jvm.MethodName)) ∈ bd_tbl := bu_10 (List.mem_of_getElem? (i := 7) rfl)
theorem mw_248 : (Jvm.Cond.code ({ cls := "BurnedDown$Tape", name := "read", desc := "()I" } : Jvm.MethodName) prog_8_method_3_code (1 : Nat) (Option.some Jvm.ClassFile.FieldType.int)) ∈ bd_tbl := bu_10 (List.mem_of_getElem? (i := 8) rfl)
theorem mw_249 : (Jvm.Cond.methodLink "BurnedDown$Tape" (26 : Nat) ({ cls := "BurnedDown$Tape", name := "byteHere", desc := "()I" } : Jvm.MethodName)) ∈ bd_tbl := bu_10 (List.mem_of_getElem? (i := 9) rfl)
theorem mw_250 : (Jvm.Cond.instanceMethod ({ cls := "BurnedDown$Tape", name := "byteHere", desc := "()I" } : Jvm.MethodName)) ∈ bd_tbl := bu_10 (List.mem_of_getElem? (i := 10) rfl)
theorem mw_251 : (Jvm.Cond.code ({ cls := "BurnedDown$Tape", name := "byteHere", desc := "()I" } : Jvm.MethodName) prog_8_method_5_code (1 : Nat) (Option.some Jvm.ClassFile.FieldType.int)) ∈ bd_tbl := bu_10 (List.mem_of_getElem? (i := 11) rfl)
theorem mw_252 : (Jvm.Cond.methodLink "BurnedDown$Tape" (30 : Nat) ({ cls := "BurnedDown$Tape", name := "lawOf", desc := "(I)I" } : Jvm.MethodName)) ∈ bd_tbl := bu_10 (List.mem_of_getElem? (i := 12) rfl)
theorem mw_253 : (Jvm.Cond.static ({ cls := "BurnedDown$Tape", name := "lawOf", desc := "(I)I" } : Jvm.MethodName)) ∈ bd_tbl := bu_10 (List.mem_of_getElem? (i := 13) rfl)
theorem mw_254 : (Jvm.Cond.code ({ cls := "BurnedDown$Tape", name := "lawOf", desc := "(I)I" } : Jvm.MethodName) prog_8_method_6_code (1 : Nat) (Option.some Jvm.ClassFile.FieldType.int)) ∈ bd_tbl := bu_10 (List.mem_of_getElem? (i := 14) rfl)
theorem mw_255 : (Jvm.Cond.methodLink "BurnedDown$Tape" (37 : Nat) ({ cls := "BurnedDown$Tape", name := "readNumber", desc := "(I)I" } : Jvm.MethodName)) ∈ bd_tbl := bu_10 (List.mem_of_getElem? (i := 15) rfl)
theorem mw_256 : (Jvm.Cond.instanceMethod ({ cls := "BurnedDown$Tape", name := "readNumber", desc := "(I)I" } : Jvm.MethodName)) ∈ bd_tbl := bu_10 (List.mem_of_getElem? (i := 16) rfl)
theorem mw_257 : (Jvm.Cond.code ({ cls := "BurnedDown$Tape", name := "readNumber", desc := "(I)I" } : Jvm.MethodName) prog_8_method_4_code (4 : Nat) (Option.some Jvm.ClassFile.FieldType.int)) ∈ bd_tbl := bu_10 (List.mem_of_getElem? (i := 17) rfl)
theorem mw_258 : (Jvm.Cond.instanceMethod ({ cls := "BurnedDown$Things", name := "add", desc := "(III)I" } : Jvm.MethodName)) ∈ bd_tbl := bu_10 (List.mem_of_getElem? (i := 18) rfl)
theorem mw_259 : (Jvm.Cond.code ({ cls := "BurnedDown$Things", name := "add", desc := "(III)I" } : Jvm.MethodName) prog_9_method_2_code (4 : Nat) (Option.some Jvm.ClassFile.FieldType.int)) ∈ bd_tbl := bu_10 (List.mem_of_getElem? (i := 19) rfl)
theorem mw_260 : (Jvm.Cond.methodLink "BurnedDown$Things" (38 : Nat) ({ cls := "BurnedDown$Things", name := "tie", desc := "(IIII)I" } : Jvm.MethodName)) ∈ bd_tbl := bu_10 (List.mem_of_getElem? (i := 20) rfl)
theorem mw_261 : (Jvm.Cond.instanceMethod ({ cls := "BurnedDown$Things", name := "tie", desc := "(IIII)I" } : Jvm.MethodName)) ∈ bd_tbl := bu_10 (List.mem_of_getElem? (i := 21) rfl)
theorem mw_262 : (Jvm.Cond.code ({ cls := "BurnedDown$Things", name := "tie", desc := "(IIII)I" } : Jvm.MethodName) prog_9_method_3_code (5 : Nat) (Option.some Jvm.ClassFile.FieldType.int)) ∈ bd_tbl := bu_10 (List.mem_of_getElem? (i := 22) rfl)
theorem mw_263 : (Jvm.Cond.methodLink "BurnedDownLaw" (25 : Nat) ({ cls := "BurnedDown", name := "thingOf", desc := "(II)I" } : Jvm.MethodName)) ∈ bd_tbl := bu_10 (List.mem_of_getElem? (i := 23) rfl)
theorem mw_264 : (Jvm.Cond.instanceMethod ({ cls := "BurnedDown", name := "thingOf", desc := "(II)I" } : Jvm.MethodName)) ∈ bd_tbl := bu_11 (List.mem_of_getElem? (i := 0) rfl)
theorem mw_265 : (Jvm.Cond.selects "BurnedDown" ({ cls := "BurnedDown", name := "thingOf", desc := "(II)I" } : Jvm.MethodName) ({ cls := "BurnedDown", name := "thingOf", desc := "(II)I" } : Jvm.MethodName)) ∈ bd_tbl := bu_11 (List.mem_of_getElem? (i := 1) rfl)
theorem mw_266 : (Jvm.Cond.code ({ cls := "BurnedDown", name := "thingOf", desc := "(II)I" } : Jvm.MethodName) prog_1_method_4_code (3 : Nat) (Option.some Jvm.ClassFile.FieldType.int)) ∈ bd_tbl := bu_11 (List.mem_of_getElem? (i := 2) rfl)
theorem mw_267 : (Jvm.Cond.methodLink "BurnedDown" (99 : Nat) ({ cls := "BurnedDown", name := "isThing", desc := "(I)Z" } : Jvm.MethodName)) ∈ bd_tbl := bu_11 (List.mem_of_getElem? (i := 3) rfl)
theorem mw_268 : (Jvm.Cond.instanceMethod ({ cls := "BurnedDown", name := "isThing", desc := "(I)Z" } : Jvm.MethodName)) ∈ bd_tbl := bu_11 (List.mem_of_getElem? (i := 4) rfl)
theorem mw_269 : (Jvm.Cond.code ({ cls := "BurnedDown", name := "isThing", desc := "(I)Z" } : Jvm.MethodName) prog_1_method_30_code (2 : Nat) (Option.some Jvm.ClassFile.FieldType.boolean)) ∈ bd_tbl := bu_11 (List.mem_of_getElem? (i := 5) rfl)
theorem mw_270 : (Jvm.Cond.methodLink "BurnedDownLaw" (30 : Nat) ({ cls := "BurnedDown", name := "room", desc := "(I)I" } : Jvm.MethodName)) ∈ bd_tbl := bu_11 (List.mem_of_getElem? (i := 6) rfl)
theorem mw_271 : (Jvm.Cond.instanceMethod ({ cls := "BurnedDown", name := "room", desc := "(I)I" } : Jvm.MethodName)) ∈ bd_tbl := bu_11 (List.mem_of_getElem? (i := 7) rfl)
theorem mw_272 : (Jvm.Cond.selects "BurnedDown" ({ cls := "BurnedDown", name := "room", desc := "(I)I" } : Jvm.MethodName) ({ cls := "BurnedDown", name := "room", desc := "(I)I" } : Jvm.MethodName)) ∈ bd_tbl := bu_11 (List.mem_of_getElem? (i := 8) rfl)
theorem mw_273 : (Jvm.Cond.code ({ cls := "BurnedDown", name := "room", desc := "(I)I" } : Jvm.MethodName) prog_1_method_5_code (3 : Nat) (Option.some Jvm.ClassFile.FieldType.int)) ∈ bd_tbl := bu_11 (List.mem_of_getElem? (i := 9) rfl)
theorem mw_274 : (Jvm.Cond.instanceMethod ({ cls := "BurnedDown$Against", name := "forget", desc := "()V" } : Jvm.MethodName)) ∈ bd_tbl := bu_11 (List.mem_of_getElem? (i := 10) rfl)
theorem mw_275 : (Jvm.Cond.code ({ cls := "BurnedDown$Against", name := "forget", desc := "()V" } : Jvm.MethodName) prog_2_method_2_code (2 : Nat) (Option.none : Option Jvm.ClassFile.FieldType)) ∈ bd_tbl := bu_11 (List.mem_of_getElem? (i := 11) rfl)
theorem mw_276 : (Jvm.Cond.methodLink "BurnedDownLaw" (35 : Nat) ({ cls := "BurnedDown", name := "window", desc := "(II)I" } : Jvm.MethodName)) ∈ bd_tbl := bu_11 (List.mem_of_getElem? (i := 12) rfl)
theorem mw_277 : (Jvm.Cond.instanceMethod ({ cls := "BurnedDown", name := "window", desc := "(II)I" } : Jvm.MethodName)) ∈ bd_tbl := bu_11 (List.mem_of_getElem? (i := 13) rfl)
theorem mw_278 : (Jvm.Cond.selects "BurnedDown" ({ cls := "BurnedDown", name := "window", desc := "(II)I" } : Jvm.MethodName) ({ cls := "BurnedDown", name := "window", desc := "(II)I" } : Jvm.MethodName)) ∈ bd_tbl := bu_11 (List.mem_of_getElem? (i := 14) rfl)
theorem mw_279 : (Jvm.Cond.code ({ cls := "BurnedDown", name := "window", desc := "(II)I" } : Jvm.MethodName) prog_1_method_6_code (3 : Nat) (Option.some Jvm.ClassFile.FieldType.int)) ∈ bd_tbl := bu_11 (List.mem_of_getElem? (i := 15) rfl)
theorem mw_280 : (Jvm.Cond.instanceMethod ({ cls := "BurnedDown$World", name := "shut", desc := "()V" } : Jvm.MethodName)) ∈ bd_tbl := bu_11 (List.mem_of_getElem? (i := 16) rfl)
theorem mw_281 : (Jvm.Cond.code ({ cls := "BurnedDown$World", name := "shut", desc := "()V" } : Jvm.MethodName) prog_10_method_3_code (1 : Nat) (Option.none : Option Jvm.ClassFile.FieldType)) ∈ bd_tbl := bu_11 (List.mem_of_getElem? (i := 17) rfl)
theorem mw_282 : (Jvm.Cond.methodLink "BurnedDown$World" (45 : Nat) ({ cls := "BurnedDown$World", name := "open", desc := "(II)V" } : Jvm.MethodName)) ∈ bd_tbl := bu_11 (List.mem_of_getElem? (i := 18) rfl)
theorem mw_283 : (Jvm.Cond.instanceMethod ({ cls := "BurnedDown$World", name := "open", desc := "(II)V" } : Jvm.MethodName)) ∈ bd_tbl := bu_11 (List.mem_of_getElem? (i := 19) rfl)
theorem mw_284 : (Jvm.Cond.code ({ cls := "BurnedDown$World", name := "open", desc := "(II)V" } : Jvm.MethodName) prog_10_method_2_code (3 : Nat) (Option.none : Option Jvm.ClassFile.FieldType)) ∈ bd_tbl := bu_11 (List.mem_of_getElem? (i := 20) rfl)
theorem mw_285 : (Jvm.Cond.methodLink "BurnedDownLaw" (39 : Nat) ({ cls := "BurnedDown", name := "candidate", desc := "(II)I" } : Jvm.MethodName)) ∈ bd_tbl := bu_11 (List.mem_of_getElem? (i := 21) rfl)
theorem mw_286 : (Jvm.Cond.instanceMethod ({ cls := "BurnedDown", name := "candidate", desc := "(II)I" } : Jvm.MethodName)) ∈ bd_tbl := bu_11 (List.mem_of_getElem? (i := 22) rfl)
theorem mw_287 : (Jvm.Cond.selects "BurnedDown" ({ cls := "BurnedDown", name := "candidate", desc := "(II)I" } : Jvm.MethodName) ({ cls := "BurnedDown", name := "candidate", desc := "(II)I" } : Jvm.MethodName)) ∈ bd_tbl := bu_11 (List.mem_of_getElem? (i := 23) rfl)
theorem mw_288 : (Jvm.Cond.code ({ cls := "BurnedDown", name := "candidate", desc := "(II)I" } : Jvm.MethodName) prog_1_method_7_code (3 : Nat) (Option.some Jvm.ClassFile.FieldType.int)) ∈ bd_tbl := bu_12 (List.mem_of_getElem? (i := 0) rfl)
theorem mw_289 : (Jvm.Cond.instanceMethod ({ cls := "BurnedDown$World", name := "addCandidate", desc := "(II)I" } : Jvm.MethodName)) ∈ bd_tbl := bu_12 (List.mem_of_getElem? (i := 1) rfl)
theorem mw_290 : (Jvm.Cond.code ({ cls := "BurnedDown$World", name := "addCandidate", desc := "(II)I" } : Jvm.MethodName) prog_10_method_4_code (3 : Nat) (Option.some Jvm.ClassFile.FieldType.int)) ∈ bd_tbl := bu_12 (List.mem_of_getElem? (i := 2) rfl)
theorem mw_291 : (Jvm.Cond.methodLink "BurnedDownLaw" (43 : Nat) ({ cls := "BurnedDown", name := "left", desc := "(III)I" } : Jvm.MethodName)) ∈ bd_tbl := bu_12 (List.mem_of_getElem? (i := 3) rfl)
theorem mw_292 : (Jvm.Cond.instanceMethod ({ cls := "BurnedDown", name := "left", desc := "(III)I" } : Jvm.MethodName)) ∈ bd_tbl := bu_12 (List.mem_of_getElem? (i := 4) rfl)
theorem mw_293 : (Jvm.Cond.selects "BurnedDown" ({ cls := "BurnedDown", name := "left", desc := "(III)I" } : Jvm.MethodName) ({ cls := "BurnedDown", name := "left", desc := "(III)I" } : Jvm.MethodName)) ∈ bd_tbl := bu_12 (List.mem_of_getElem? (i := 5) rfl)
theorem mw_294 : (Jvm.Cond.code ({ cls := "BurnedDown", name := "left", desc := "(III)I" } : Jvm.MethodName) prog_1_method_8_code (4 : Nat) (Option.some Jvm.ClassFile.FieldType.int)) ∈ bd_tbl := bu_12 (List.mem_of_getElem? (i := 6) rfl)
theorem mw_295 : (Jvm.Cond.instanceMethod ({ cls := "BurnedDown$World", name := "leftAfter", desc := "(III)I" } : Jvm.MethodName)) ∈ bd_tbl := bu_12 (List.mem_of_getElem? (i := 7) rfl)
theorem mw_296 : (Jvm.Cond.code ({ cls := "BurnedDown$World", name := "leftAfter", desc := "(III)I" } : Jvm.MethodName) prog_10_method_6_code (6 : Nat) (Option.some Jvm.ClassFile.FieldType.int)) ∈ bd_tbl := bu_12 (List.mem_of_getElem? (i := 8) rfl)
theorem mw_297 : (Jvm.Cond.methodLink "BurnedDown$World" (80 : Nat) ({ cls := "java/lang/Math", name := "max", desc := "(II)I" } : Jvm.MethodName)) ∈ bd_tbl := bu_12 (List.mem_of_getElem? (i := 9) rfl)
theorem mw_298 : (Jvm.Cond.static ({ cls := "java/lang/Math", name := "max", desc := "(II)I" } : Jvm.MethodName)) ∈ bd_tbl := bu_12 (List.mem_of_getElem? (i := 10) rfl)
theorem mw_299 : (Jvm.Cond.code ({ cls := "java/lang/Math", name := "max", desc := "(II)I" } : Jvm.MethodName) prog_14_method_65_code (2 : Nat) (Option.some Jvm.ClassFile.FieldType.int)) ∈ bd_tbl := bu_12 (List.mem_of_getElem? (i := 11) rfl)
theorem mw_300 : (Jvm.Cond.methodLink "BurnedDown$World" (86 : Nat) ({ cls := "BurnedDown$World", name := "minutesInWindow", desc := "(II)I" } : Jvm.MethodName)) ∈ bd_tbl := bu_12 (List.mem_of_getElem? (i := 12) rfl)
theorem mw_301 : (Jvm.Cond.instanceMethod ({ cls := "BurnedDown$World", name := "minutesInWindow", desc := "(II)I" } : Jvm.MethodName)) ∈ bd_tbl := bu_12 (List.mem_of_getElem? (i := 13) rfl)
theorem mw_302 : (Jvm.Cond.code ({ cls := "BurnedDown$World", name := "minutesInWindow", desc := "(II)I" } : Jvm.MethodName) prog_10_method_7_code (3 : Nat) (Option.some Jvm.ClassFile.FieldType.int)) ∈ bd_tbl := bu_12 (List.mem_of_getElem? (i := 14) rfl)
theorem mw_303 : (Jvm.Cond.methodLink "BurnedDown$World" (93 : Nat) ({ cls := "java/lang/Math", name := "min", desc := "(II)I" } : Jvm.MethodName)) ∈ bd_tbl := bu_12 (List.mem_of_getElem? (i := 15) rfl)
theorem mw_304 : (Jvm.Cond.static ({ cls := "java/lang/Math", name := "min", desc := "(II)I" } : Jvm.MethodName)) ∈ bd_tbl := bu_12 (List.mem_of_getElem? (i := 16) rfl)
theorem mw_305 : (Jvm.Cond.code ({ cls := "java/lang/Math", name := "min", desc := "(II)I" } : Jvm.MethodName) prog_14_method_69_code (2 : Nat) (Option.some Jvm.ClassFile.FieldType.int)) ∈ bd_tbl := bu_12 (List.mem_of_getElem? (i := 17) rfl)
theorem mw_306 : (Jvm.Cond.methodLink "BurnedDown$World" (89 : Nat) ({ cls := "BurnedDown$World", name := "nearing", desc := "(IIIII)I" } : Jvm.MethodName)) ∈ bd_tbl := bu_12 (List.mem_of_getElem? (i := 18) rfl)
theorem mw_307 : (Jvm.Cond.instanceMethod ({ cls := "BurnedDown$World", name := "nearing", desc := "(IIIII)I" } : Jvm.MethodName)) ∈ bd_tbl := bu_12 (List.mem_of_getElem? (i := 19) rfl)
theorem mw_308 : (Jvm.Cond.code ({ cls := "BurnedDown$World", name := "nearing", desc := "(IIIII)I" } : Jvm.MethodName) prog_10_method_9_code (8 : Nat) (Option.some Jvm.ClassFile.FieldType.int)) ∈ bd_tbl := bu_12 (List.mem_of_getElem? (i := 20) rfl)
theorem mw_309 : (Jvm.Cond.methodLink "BurnedDown$World" (96 : Nat) ({ cls := "BurnedDown$World", name := "nearer", desc := "(II)I" } : Jvm.MethodName)) ∈ bd_tbl := bu_12 (List.mem_of_getElem? (i := 21) rfl)
theorem mw_310 : (Jvm.Cond.instanceMethod ({ cls := "BurnedDown$World", name := "nearer", desc := "(II)I" } : Jvm.MethodName)) ∈ bd_tbl := bu_12 (List.mem_of_getElem? (i := 22) rfl)
theorem mw_311 : (Jvm.Cond.code ({ cls := "BurnedDown$World", name := "nearer", desc := "(II)I" } : Jvm.MethodName) prog_10_method_10_code (3 : Nat) (Option.some Jvm.ClassFile.FieldType.int)) ∈ bd_tbl := bu_12 (List.mem_of_getElem? (i := 23) rfl)
theorem mw_312 : (Jvm.Cond.methodLink "BurnedDown$World" (99 : Nat) ({ cls := "BurnedDown$World", name := "inWindow", desc := "(I)Z" } : Jvm.MethodName)) ∈ bd_tbl := bu_13 (List.mem_of_getElem? (i := 0) rfl)
theorem mw_313 : (Jvm.Cond.instanceMethod ({ cls := "BurnedDown$World", name := "inWindow", desc := "(I)Z" } : Jvm.MethodName)) ∈ bd_tbl := bu_13 (List.mem_of_getElem? (i := 1) rfl)
theorem mw_314 : (Jvm.Cond.code ({ cls := "BurnedDown$World", name := "inWindow", desc := "(I)Z" } : Jvm.MethodName) prog_10_method_8_code (2 : Nat) (Option.some Jvm.ClassFile.FieldType.boolean)) ∈ bd_tbl := bu_13 (List.mem_of_getElem? (i := 2) rfl)
theorem mw_315 : (Jvm.Cond.methodLink "BurnedDownLaw" (48 : Nat) ({ cls := "BurnedDown", name := "look", desc := "(IIII)I" } : Jvm.MethodName)) ∈ bd_tbl := bu_13 (List.mem_of_getElem? (i := 3) rfl)
theorem mw_316 : (Jvm.Cond.instanceMethod ({ cls := "BurnedDown", name := "look", desc := "(IIII)I" } : Jvm.MethodName)) ∈ bd_tbl := bu_13 (List.mem_of_getElem? (i := 4) rfl)
theorem mw_317 : (Jvm.Cond.selects "BurnedDown" ({ cls := "BurnedDown", name := "look", desc := "(IIII)I" } : Jvm.MethodName) ({ cls := "BurnedDown", name := "look", desc := "(IIII)I" } : Jvm.MethodName)) ∈ bd_tbl := bu_13 (List.mem_of_getElem? (i := 5) rfl)
theorem mw_318 : (Jvm.Cond.code ({ cls := "BurnedDown", name := "look", desc := "(IIII)I" } : Jvm.MethodName) prog_1_method_9_code (5 : Nat) (Option.some Jvm.ClassFile.FieldType.int)) ∈ bd_tbl := bu_13 (List.mem_of_getElem? (i := 6) rfl)
theorem mw_319 : (Jvm.Cond.instanceMethod ({ cls := "BurnedDown$Looks", name := "add", desc := "(IIII)I" } : Jvm.MethodName)) ∈ bd_tbl := bu_13 (List.mem_of_getElem? (i := 7) rfl)
theorem mw_320 : (Jvm.Cond.code ({ cls := "BurnedDown$Looks", name := "add", desc := "(IIII)I" } : Jvm.MethodName) prog_6_method_2_code (5 : Nat) (Option.some Jvm.ClassFile.FieldType.int)) ∈ bd_tbl := bu_13 (List.mem_of_getElem? (i := 8) rfl)
theorem mw_321 : (Jvm.Cond.methodLink "BurnedDownLaw" (53 : Nat) ({ cls := "BurnedDown", name := "doubt", desc := "(IZ)I" } : Jvm.MethodName)) ∈ bd_tbl := bu_13 (List.mem_of_getElem? (i := 9) rfl)
theorem mw_322 : (Jvm.Cond.instanceMethod ({ cls := "BurnedDown", name := "doubt", desc := "(IZ)I" } : Jvm.MethodName)) ∈ bd_tbl := bu_13 (List.mem_of_getElem? (i := 10) rfl)
theorem mw_323 : (Jvm.Cond.selects "BurnedDown" ({ cls := "BurnedDown", name := "doubt", desc := "(IZ)I" } : Jvm.MethodName) ({ cls := "BurnedDown", name := "doubt", desc := "(IZ)I" } : Jvm.MethodName)) ∈ bd_tbl := bu_13 (List.mem_of_getElem? (i := 11) rfl)
theorem mw_324 : (Jvm.Cond.code ({ cls := "BurnedDown", name := "doubt", desc := "(IZ)I" } : Jvm.MethodName) prog_1_method_10_code (3 : Nat) (Option.some Jvm.ClassFile.FieldType.int)) ∈ bd_tbl := bu_13 (List.mem_of_getElem? (i := 12) rfl)
theorem mw_325 : (Jvm.Cond.instanceMethod ({ cls := "BurnedDown$Looks", name := "mark", desc := "(IZ)Z" } : Jvm.MethodName)) ∈ bd_tbl := bu_13 (List.mem_of_getElem? (i := 13) rfl)
theorem mw_326 : (Jvm.Cond.code ({ cls := "BurnedDown$Looks", name := "mark", desc := "(IZ)Z" } : Jvm.MethodName) prog_6_method_3_code (5 : Nat) (Option.some Jvm.ClassFile.FieldType.boolean)) ∈ bd_tbl := bu_13 (List.mem_of_getElem? (i := 14) rfl)
theorem mw_327 : (Jvm.Cond.methodLink "BurnedDownLaw" (58 : Nat) ({ cls := "BurnedDown", name := "join", desc := "(IIII)I" } : Jvm.MethodName)) ∈ bd_tbl := bu_13 (List.mem_of_getElem? (i := 15) rfl)
theorem mw_328 : (Jvm.Cond.instanceMethod ({ cls := "BurnedDown", name := "join", desc := "(IIII)I" } : Jvm.MethodName)) ∈ bd_tbl := bu_13 (List.mem_of_getElem? (i := 16) rfl)
theorem mw_329 : (Jvm.Cond.selects "BurnedDown" ({ cls := "BurnedDown", name := "join", desc := "(IIII)I" } : Jvm.MethodName) ({ cls := "BurnedDown", name := "join", desc := "(IIII)I" } : Jvm.MethodName)) ∈ bd_tbl := bu_13 (List.mem_of_getElem? (i := 17) rfl)
theorem mw_330 : (Jvm.Cond.code ({ cls := "BurnedDown", name := "join", desc := "(IIII)I" } : Jvm.MethodName) prog_1_method_11_code (6 : Nat) (Option.some Jvm.ClassFile.FieldType.int)) ∈ bd_tbl := bu_13 (List.mem_of_getElem? (i := 18) rfl)
theorem mw_331 : (Jvm.Cond.methodLink "BurnedDown" (153 : Nat) ({ cls := "BurnedDown", name := "wrongMinute", desc := "(I)I" } : Jvm.MethodName)) ∈ bd_tbl := bu_13 (List.mem_of_getElem? (i := 19) rfl)
theorem mw_332 : (Jvm.Cond.static ({ cls := "BurnedDown", name := "wrongMinute", desc := "(I)I" } : Jvm.MethodName)) ∈ bd_tbl := bu_13 (List.mem_of_getElem? (i := 20) rfl)
theorem mw_333 : (Jvm.Cond.code ({ cls := "BurnedDown", name := "wrongMinute", desc := "(I)I" } : Jvm.MethodName) prog_1_method_31_code (1 : Nat) (Option.some Jvm.ClassFile.FieldType.int)) ∈ bd_tbl := bu_13 (List.mem_of_getElem? (i := 21) rfl)
theorem mw_334 : (Jvm.Cond.methodLink "BurnedDownLaw" (62 : Nat) ({ cls := "BurnedDown", name := "alone", desc := "(I)I" } : Jvm.MethodName)) ∈ bd_tbl := bu_13 (List.mem_of_getElem? (i := 22) rfl)
theorem mw_335 : (Jvm.Cond.instanceMethod ({ cls := "BurnedDown", name := "alone", desc := "(I)I" } : Jvm.MethodName)) ∈ bd_tbl := bu_13 (List.mem_of_getElem? (i := 23) rfl)
theorem mw_336 : (Jvm.Cond.selects "BurnedDown" ({ cls := "BurnedDown", name := "alone", desc := "(I)I" } : Jvm.MethodName) ({ cls := "BurnedDown", name := "alone", desc := "(I)I" } : Jvm.MethodName)) ∈ bd_tbl := bu_14 (List.mem_of_getElem? (i := 0) rfl)
theorem mw_337 : (Jvm.Cond.code ({ cls := "BurnedDown", name := "alone", desc := "(I)I" } : Jvm.MethodName) prog_1_method_12_code (4 : Nat) (Option.some Jvm.ClassFile.FieldType.int)) ∈ bd_tbl := bu_14 (List.mem_of_getElem? (i := 1) rfl)
theorem mw_338 : (Jvm.Cond.instanceMethod ({ cls := "BurnedDown$Against", name := "learn", desc := "(LBurnedDown$World;)V" } : Jvm.MethodName)) ∈ bd_tbl := bu_14 (List.mem_of_getElem? (i := 2) rfl)
theorem mw_339 : (Jvm.Cond.code ({ cls := "BurnedDown$Against", name := "learn", desc := "(LBurnedDown$World;)V" } : Jvm.MethodName) prog_2_method_3_code (3 : Nat) (Option.none : Option Jvm.ClassFile.FieldType)) ∈ bd_tbl := bu_14 (List.mem_of_getElem? (i := 3) rfl)
theorem mw_340 : (Jvm.Cond.methodLink "BurnedDown$Against" (30 : Nat) ({ cls := "BurnedDown$Against", name := "learnLook", desc := "(LBurnedDown$World;I)V" } : Jvm.MethodName)) ∈ bd_tbl := bu_14 (List.mem_of_getElem? (i := 4) rfl)
theorem mw_341 : (Jvm.Cond.instanceMethod ({ cls := "BurnedDown$Against", name := "learnLook", desc := "(LBurnedDown$World;I)V" } : Jvm.MethodName)) ∈ bd_tbl := bu_14 (List.mem_of_getElem? (i := 5) rfl)
theorem mw_342 : (Jvm.Cond.code ({ cls := "BurnedDown$Against", name := "learnLook", desc := "(LBurnedDown$World;I)V" } : Jvm.MethodName) prog_2_method_4_code (10 : Nat) (Option.none : Option Jvm.ClassFile.FieldType)) ∈ bd_tbl := bu_14 (List.mem_of_getElem? (i := 6) rfl)
theorem mw_343 : (Jvm.Cond.instanceMethod ({ cls := "BurnedDown$World", name := "fillLefts", desc := "(II)V" } : Jvm.MethodName)) ∈ bd_tbl := bu_14 (List.mem_of_getElem? (i := 7) rfl)
theorem mw_344 : (Jvm.Cond.code ({ cls := "BurnedDown$World", name := "fillLefts", desc := "(II)V" } : Jvm.MethodName) prog_10_method_11_code (4 : Nat) (Option.none : Option Jvm.ClassFile.FieldType)) ∈ bd_tbl := bu_14 (List.mem_of_getElem? (i := 8) rfl)
theorem mw_345 : (Jvm.Cond.methodLink "BurnedDown$World" (103 : Nat) ({ cls := "BurnedDown$World", name := "fillToward", desc := "(II)V" } : Jvm.MethodName)) ∈ bd_tbl := bu_14 (List.mem_of_getElem? (i := 9) rfl)
theorem mw_346 : (Jvm.Cond.instanceMethod ({ cls := "BurnedDown$World", name := "fillToward", desc := "(II)V" } : Jvm.MethodName)) ∈ bd_tbl := bu_14 (List.mem_of_getElem? (i := 10) rfl)
theorem mw_347 : (Jvm.Cond.code ({ cls := "BurnedDown$World", name := "fillToward", desc := "(II)V" } : Jvm.MethodName) prog_10_method_12_code (5 : Nat) (Option.none : Option Jvm.ClassFile.FieldType)) ∈ bd_tbl := bu_14 (List.mem_of_getElem? (i := 11) rfl)
theorem mw_348 : (Jvm.Cond.methodLink "BurnedDown$World" (106 : Nat) ({ cls := "BurnedDown$World", name := "leftAfter", desc := "(III)I" } : Jvm.MethodName)) ∈ bd_tbl := bu_14 (List.mem_of_getElem? (i := 12) rfl)
theorem mw_349 : (Jvm.Cond.instanceMethod ({ cls := "BurnedDown$Against", name := "speaking", desc := "(LBurnedDown$World;II)I" } : Jvm.MethodName)) ∈ bd_tbl := bu_14 (List.mem_of_getElem? (i := 13) rfl)
theorem mw_350 : (Jvm.Cond.code ({ cls := "BurnedDown$Against", name := "speaking", desc := "(LBurnedDown$World;II)I" } : Jvm.MethodName) prog_2_method_5_code (4 : Nat) (Option.some Jvm.ClassFile.FieldType.int)) ∈ bd_tbl := bu_14 (List.mem_of_getElem? (i := 14) rfl)
theorem mw_351 : (Jvm.Cond.methodLink "BurnedDownLaw" (66 : Nat) ({ cls := "BurnedDown", name := "can", desc := "(II)I" } : Jvm.MethodName)) ∈ bd_tbl := bu_14 (List.mem_of_getElem? (i := 15) rfl)
theorem mw_352 : (Jvm.Cond.instanceMethod ({ cls := "BurnedDown", name := "can", desc := "(II)I" } : Jvm.MethodName)) ∈ bd_tbl := bu_14 (List.mem_of_getElem? (i := 16) rfl)
theorem mw_353 : (Jvm.Cond.selects "BurnedDown" ({ cls := "BurnedDown", name := "can", desc := "(II)I" } : Jvm.MethodName) ({ cls := "BurnedDown", name := "can", desc := "(II)I" } : Jvm.MethodName)) ∈ bd_tbl := bu_14 (List.mem_of_getElem? (i := 17) rfl)
theorem mw_354 : (Jvm.Cond.code ({ cls := "BurnedDown", name := "can", desc := "(II)I" } : Jvm.MethodName) prog_1_method_13_code (4 : Nat) (Option.some Jvm.ClassFile.FieldType.int)) ∈ bd_tbl := bu_14 (List.mem_of_getElem? (i := 18) rfl)
theorem mw_355 : (Jvm.Cond.methodLink "BurnedDownLaw" (70 : Nat) ({ cls := "BurnedDown", name := "ways", desc := "()J" } : Jvm.MethodName)) ∈ bd_tbl := bu_14 (List.mem_of_getElem? (i := 19) rfl)
theorem mw_356 : (Jvm.Cond.instanceMethod ({ cls := "BurnedDown", name := "ways", desc := "()J" } : Jvm.MethodName)) ∈ bd_tbl := bu_14 (List.mem_of_getElem? (i := 20) rfl)
theorem mw_357 : (Jvm.Cond.selects "BurnedDown" ({ cls := "BurnedDown", name := "ways", desc := "()J" } : Jvm.MethodName) ({ cls := "BurnedDown", name := "ways", desc := "()J" } : Jvm.MethodName)) ∈ bd_tbl := bu_14 (List.mem_of_getElem? (i := 21) rfl)
theorem mw_358 : (Jvm.Cond.code ({ cls := "BurnedDown", name := "ways", desc := "()J" } : Jvm.MethodName) prog_1_method_14_code (1 : Nat) (Option.some Jvm.ClassFile.FieldType.long)) ∈ bd_tbl := bu_14 (List.mem_of_getElem? (i := 22) rfl)
theorem mw_359 : (Jvm.Cond.methodLink "BurnedDown" (164 : Nat) ({ cls := "BurnedDown", name := "waysWithout", desc := "(I)J" } : Jvm.MethodName)) ∈ bd_tbl := bu_14 (List.mem_of_getElem? (i := 23) rfl)
theorem mw_360 : (Jvm.Cond.instanceMethod ({ cls := "BurnedDown", name := "waysWithout", desc := "(I)J" } : Jvm.MethodName)) ∈ bd_tbl := bu_15 (List.mem_of_getElem? (i := 0) rfl)
theorem mw_361 : (Jvm.Cond.code ({ cls := "BurnedDown", name := "waysWithout", desc := "(I)J" } : Jvm.MethodName) prog_1_method_32_code (2 : Nat) (Option.some Jvm.ClassFile.FieldType.long)) ∈ bd_tbl := bu_15 (List.mem_of_getElem? (i := 1) rfl)
theorem mw_362 : (Jvm.Cond.methodLink "BurnedDown" (252 : Nat) ({ cls := "BurnedDown", name := "setCounts", desc := "(I)V" } : Jvm.MethodName)) ∈ bd_tbl := bu_15 (List.mem_of_getElem? (i := 2) rfl)
theorem mw_363 : (Jvm.Cond.instanceMethod ({ cls := "BurnedDown", name := "setCounts", desc := "(I)V" } : Jvm.MethodName)) ∈ bd_tbl := bu_15 (List.mem_of_getElem? (i := 3) rfl)
theorem mw_364 : (Jvm.Cond.code ({ cls := "BurnedDown", name := "setCounts", desc := "(I)V" } : Jvm.MethodName) prog_1_method_34_code (5 : Nat) (Option.none : Option Jvm.ClassFile.FieldType)) ∈ bd_tbl := bu_15 (List.mem_of_getElem? (i := 4) rfl)
theorem mw_365 : (Jvm.Cond.instanceMethod ({ cls := "BurnedDown$Gathering", name := "set", desc := "(IIJ)V" } : Jvm.MethodName)) ∈ bd_tbl := bu_15 (List.mem_of_getElem? (i := 5) rfl)
theorem mw_366 : (Jvm.Cond.code ({ cls := "BurnedDown$Gathering", name := "set", desc := "(IIJ)V" } : Jvm.MethodName) prog_4_method_2_code (5 : Nat) (Option.none : Option Jvm.ClassFile.FieldType)) ∈ bd_tbl := bu_15 (List.mem_of_getElem? (i := 6) rfl)
theorem mw_367 : (Jvm.Cond.static ({ cls := "BurnedDown", name := "lay", desc := "([JIJ)V" } : Jvm.MethodName)) ∈ bd_tbl := bu_15 (List.mem_of_getElem? (i := 7) rfl)
theorem mw_368 : (Jvm.Cond.code ({ cls := "BurnedDown", name := "lay", desc := "([JIJ)V" } : Jvm.MethodName) prog_1_method_47_code (4 : Nat) (Option.none : Option Jvm.ClassFile.FieldType)) ∈ bd_tbl := bu_15 (List.mem_of_getElem? (i := 8) rfl)
theorem mw_369 : (Jvm.Cond.instanceMethod ({ cls := "BurnedDown$Gathering", name := "gather", desc := "(LBurnedDown$Things;ILBurnedDown$Reckoning;)V" } : Jvm.MethodName)) ∈ bd_tbl := bu_15 (List.mem_of_getElem? (i := 9) rfl)
theorem mw_370 : (Jvm.Cond.code ({ cls := "BurnedDown$Gathering", name := "gather", desc := "(LBurnedDown$Things;ILBurnedDown$Reckoning;)V" } : Jvm.MethodName) prog_4_method_5_code (6 : Nat) (Option.none : Option Jvm.ClassFile.FieldType)) ∈ bd_tbl := bu_15 (List.mem_of_getElem? (i := 10) rfl)
theorem mw_371 : (Jvm.Cond.methodLink "BurnedDown$Gathering" (37 : Nat) ({ cls := "BurnedDown$Gathering", name := "findPath", desc := "(LBurnedDown$Things;I)V" } : Jvm.MethodName)) ∈ bd_tbl := bu_15 (List.mem_of_getElem? (i := 11) rfl)
theorem mw_372 : (Jvm.Cond.instanceMethod ({ cls := "BurnedDown$Gathering", name := "findPath", desc := "(LBurnedDown$Things;I)V" } : Jvm.MethodName)) ∈ bd_tbl := bu_15 (List.mem_of_getElem? (i := 12) rfl)
theorem mw_373 : (Jvm.Cond.code ({ cls := "BurnedDown$Gathering", name := "findPath", desc := "(LBurnedDown$Things;I)V" } : Jvm.MethodName) prog_4_method_6_code (4 : Nat) (Option.none : Option Jvm.ClassFile.FieldType)) ∈ bd_tbl := bu_15 (List.mem_of_getElem? (i := 13) rfl)
theorem mw_374 : (Jvm.Cond.methodLink "BurnedDown$Gathering" (53 : Nat) ({ cls := "BurnedDown$Gathering", name := "onPath", desc := "(I)Z" } : Jvm.MethodName)) ∈ bd_tbl := bu_15 (List.mem_of_getElem? (i := 14) rfl)
theorem mw_375 : (Jvm.Cond.instanceMethod ({ cls := "BurnedDown$Gathering", name := "onPath", desc := "(I)Z" } : Jvm.MethodName)) ∈ bd_tbl := bu_15 (List.mem_of_getElem? (i := 15) rfl)
theorem mw_376 : (Jvm.Cond.code ({ cls := "BurnedDown$Gathering", name := "onPath", desc := "(I)Z" } : Jvm.MethodName) prog_4_method_7_code (3 : Nat) (Option.some Jvm.ClassFile.FieldType.boolean)) ∈ bd_tbl := bu_15 (List.mem_of_getElem? (i := 16) rfl)
theorem mw_377 : (Jvm.Cond.methodLink "BurnedDown$Gathering" (57 : Nat) ({ cls := "BurnedDown$Gathering", name := "bring", desc := "(LBurnedDown$Things;IZLBurnedDown$Reckoning;)V" } : Jvm.MethodName)) ∈ bd_tbl := bu_15 (List.mem_of_getElem? (i := 17) rfl)
theorem mw_378 : (Jvm.Cond.instanceMethod ({ cls := "BurnedDown$Gathering", name := "bring", desc := "(LBurnedDown$Things;IZLBurnedDown$Reckoning;)V" } : Jvm.MethodName)) ∈ bd_tbl := bu_15 (List.mem_of_getElem? (i := 18) rfl)
theorem mw_379 : (Jvm.Cond.code ({ cls := "BurnedDown$Gathering", name := "bring", desc := "(LBurnedDown$Things;IZLBurnedDown$Reckoning;)V" } : Jvm.MethodName) prog_4_method_8_code (10 : Nat) (Option.none : Option Jvm.ClassFile.FieldType)) ∈ bd_tbl := bu_15 (List.mem_of_getElem? (i := 19) rfl)
theorem mw_380 : (Jvm.Cond.methodLink "BurnedDown$Gathering" (27 : Nat) ({ cls := "BurnedDown$Reckoning", name := "load", desc := "([JI)V" } : Jvm.MethodName)) ∈ bd_tbl := bu_15 (List.mem_of_getElem? (i := 20) rfl)
theorem mw_381 : (Jvm.Cond.sameMethod "BurnedDown$Reckoning" "BurnedDown$Reckoning" "load" "([JI)V") ∈ bd_tbl := bu_15 (List.mem_of_getElem? (i := 21) rfl)
theorem mw_382 : (Jvm.Cond.selects "BurnedDown$Counting" ({ cls := "BurnedDown$Reckoning", name := "load", desc := "([JI)V" } : Jvm.MethodName) ({ cls := "BurnedDown$Counting", name := "load", desc := "([JI)V" } : Jvm.MethodName)) ∈ bd_tbl := bu_15 (List.mem_of_getElem? (i := 22) rfl)
theorem mw_383 : (Jvm.Cond.instanceMethod ({ cls := "BurnedDown$Counting", name := "load", desc := "([JI)V" } : Jvm.MethodName)) ∈ bd_tbl := bu_15 (List.mem_of_getElem? (i := 23) rfl)
theorem mw_384 : (Jvm.Cond.code ({ cls := "BurnedDown$Counting", name := "load", desc := "([JI)V" } : Jvm.MethodName) prog_3_method_4_code (6 : Nat) (Option.none : Option Jvm.ClassFile.FieldType)) ∈ bd_tbl := bu_16 (List.mem_of_getElem? (i := 0) rfl)
theorem mw_385 : (Jvm.Cond.static ({ cls := "BurnedDown", name := "at", desc := "([JI)J" } : Jvm.MethodName)) ∈ bd_tbl := bu_16 (List.mem_of_getElem? (i := 1) rfl)
theorem mw_386 : (Jvm.Cond.code ({ cls := "BurnedDown", name := "at", desc := "([JI)J" } : Jvm.MethodName) prog_1_method_45_code (2 : Nat) (Option.some Jvm.ClassFile.FieldType.long)) ∈ bd_tbl := bu_16 (List.mem_of_getElem? (i := 2) rfl)
theorem mw_387 : (Jvm.Cond.selects "BurnedDown$Least" ({ cls := "BurnedDown$Reckoning", name := "load", desc := "([JI)V" } : Jvm.MethodName) ({ cls := "BurnedDown$Least", name := "load", desc := "([JI)V" } : Jvm.MethodName)) ∈ bd_tbl := bu_16 (List.mem_of_getElem? (i := 3) rfl)
theorem mw_388 : (Jvm.Cond.instanceMethod ({ cls := "BurnedDown$Least", name := "load", desc := "([JI)V" } : Jvm.MethodName)) ∈ bd_tbl := bu_16 (List.mem_of_getElem? (i := 4) rfl)
theorem mw_389 : (Jvm.Cond.code ({ cls := "BurnedDown$Least", name := "load", desc := "([JI)V" } : Jvm.MethodName) prog_5_method_4_code (10 : Nat) (Option.none : Option Jvm.ClassFile.FieldType)) ∈ bd_tbl := bu_16 (List.mem_of_getElem? (i := 5) rfl)
theorem mw_390 : (Jvm.Cond.methodLink "BurnedDown$Least" (17 : Nat) ({ cls := "java/lang/Math", name := "min", desc := "(JJ)J" } : Jvm.MethodName)) ∈ bd_tbl := bu_16 (List.mem_of_getElem? (i := 6) rfl)
theorem mw_391 : (Jvm.Cond.static ({ cls := "java/lang/Math", name := "min", desc := "(JJ)J" } : Jvm.MethodName)) ∈ bd_tbl := bu_16 (List.mem_of_getElem? (i := 7) rfl)
theorem mw_392 : (Jvm.Cond.code ({ cls := "java/lang/Math", name := "min", desc := "(JJ)J" } : Jvm.MethodName) prog_14_method_70_code (4 : Nat) (Option.some Jvm.ClassFile.FieldType.long)) ∈ bd_tbl := bu_16 (List.mem_of_getElem? (i := 8) rfl)
theorem mw_393 : (Jvm.Cond.instanceMethod ({ cls := "BurnedDown$Things", name := "lowest", desc := "(IIZ)I" } : Jvm.MethodName)) ∈ bd_tbl := bu_16 (List.mem_of_getElem? (i := 9) rfl)
theorem mw_394 : (Jvm.Cond.code ({ cls := "BurnedDown$Things", name := "lowest", desc := "(IIZ)I" } : Jvm.MethodName) prog_9_method_5_code (5 : Nat) (Option.some Jvm.ClassFile.FieldType.int)) ∈ bd_tbl := bu_16 (List.mem_of_getElem? (i := 10) rfl)
theorem mw_395 : (Jvm.Cond.instanceMethod ({ cls := "BurnedDown$Things", name := "highest", desc := "(IIZ)I" } : Jvm.MethodName)) ∈ bd_tbl := bu_16 (List.mem_of_getElem? (i := 11) rfl)
theorem mw_396 : (Jvm.Cond.code ({ cls := "BurnedDown$Things", name := "highest", desc := "(IIZ)I" } : Jvm.MethodName) prog_9_method_6_code (5 : Nat) (Option.some Jvm.ClassFile.FieldType.int)) ∈ bd_tbl := bu_16 (List.mem_of_getElem? (i := 12) rfl)
theorem mw_397 : (Jvm.Cond.methodLink "BurnedDown$Gathering" (78 : Nat) ({ cls := "BurnedDown$Reckoning", name := "within", desc := "(II)J" } : Jvm.MethodName)) ∈ bd_tbl := bu_16 (List.mem_of_getElem? (i := 13) rfl)
theorem mw_398 : (Jvm.Cond.instanceMethod ({ cls := "BurnedDown$Reckoning", name := "within", desc := "(II)J" } : Jvm.MethodName)) ∈ bd_tbl := bu_16 (List.mem_of_getElem? (i := 14) rfl)
theorem mw_399 : (Jvm.Cond.sameMethod "BurnedDown$Reckoning" "BurnedDown$Reckoning" "within" "(II)J") ∈ bd_tbl := bu_16 (List.mem_of_getElem? (i := 15) rfl)
theorem mw_400 : (Jvm.Cond.selects "BurnedDown$Counting" ({ cls := "BurnedDown$Reckoning", name := "within", desc := "(II)J" } : Jvm.MethodName) ({ cls := "BurnedDown$Reckoning", name := "within", desc := "(II)J" } : Jvm.MethodName)) ∈ bd_tbl := bu_16 (List.mem_of_getElem? (i := 16) rfl)
theorem mw_401 : (Jvm.Cond.selects "BurnedDown$Least" ({ cls := "BurnedDown$Reckoning", name := "within", desc := "(II)J" } : Jvm.MethodName) ({ cls := "BurnedDown$Reckoning", name := "within", desc := "(II)J" } : Jvm.MethodName)) ∈ bd_tbl := bu_16 (List.mem_of_getElem? (i := 17) rfl)
theorem mw_402 : (Jvm.Cond.code ({ cls := "BurnedDown$Reckoning", name := "within", desc := "(II)J" } : Jvm.MethodName) prog_7_method_6_code (5 : Nat) (Option.some Jvm.ClassFile.FieldType.long)) ∈ bd_tbl := bu_16 (List.mem_of_getElem? (i := 18) rfl)
theorem mw_403 : (Jvm.Cond.methodLink "BurnedDown$Reckoning" (9 : Nat) ({ cls := "java/lang/Math", name := "max", desc := "(II)I" } : Jvm.MethodName)) ∈ bd_tbl := bu_16 (List.mem_of_getElem? (i := 19) rfl)
theorem mw_404 : (Jvm.Cond.methodLink "BurnedDown$Reckoning" (15 : Nat) ({ cls := "java/lang/Math", name := "min", desc := "(II)I" } : Jvm.MethodName)) ∈ bd_tbl := bu_16 (List.mem_of_getElem? (i := 20) rfl)
theorem mw_405 : (Jvm.Cond.methodLink "BurnedDown$Reckoning" (18 : Nat) ({ cls := "BurnedDown$Reckoning", name := "none", desc := "()J" } : Jvm.MethodName)) ∈ bd_tbl := bu_16 (List.mem_of_getElem? (i := 21) rfl)
theorem mw_406 : (Jvm.Cond.sameMethod "BurnedDown$Reckoning" "BurnedDown$Reckoning" "none" "()J") ∈ bd_tbl := bu_16 (List.mem_of_getElem? (i := 22) rfl)
theorem mw_407 : (Jvm.Cond.selects "BurnedDown$Counting" ({ cls := "BurnedDown$Reckoning", name := "none", desc := "()J" } : Jvm.MethodName) ({ cls := "BurnedDown$Counting", name := "none", desc := "()J" } : Jvm.MethodName)) ∈ bd_tbl := bu_16 (List.mem_of_getElem? (i := 23) rfl)
theorem mw_408 : (Jvm.Cond.instanceMethod ({ cls := "BurnedDown$Counting", name := "none", desc := "()J" } : Jvm.MethodName)) ∈ bd_tbl := bu_17 (List.mem_of_getElem? (i := 0) rfl)
theorem mw_409 : (Jvm.Cond.code ({ cls := "BurnedDown$Counting", name := "none", desc := "()J" } : Jvm.MethodName) prog_3_method_2_code (1 : Nat) (Option.some Jvm.ClassFile.FieldType.long)) ∈ bd_tbl := bu_17 (List.mem_of_getElem? (i := 1) rfl)
theorem mw_410 : (Jvm.Cond.selects "BurnedDown$Least" ({ cls := "BurnedDown$Reckoning", name := "none", desc := "()J" } : Jvm.MethodName) ({ cls := "BurnedDown$Least", name := "none", desc := "()J" } : Jvm.MethodName)) ∈ bd_tbl := bu_17 (List.mem_of_getElem? (i := 2) rfl)
theorem mw_411 : (Jvm.Cond.instanceMethod ({ cls := "BurnedDown$Least", name := "none", desc := "()J" } : Jvm.MethodName)) ∈ bd_tbl := bu_17 (List.mem_of_getElem? (i := 3) rfl)
theorem mw_412 : (Jvm.Cond.code ({ cls := "BurnedDown$Least", name := "none", desc := "()J" } : Jvm.MethodName) prog_5_method_2_code (1 : Nat) (Option.some Jvm.ClassFile.FieldType.long)) ∈ bd_tbl := bu_17 (List.mem_of_getElem? (i := 4) rfl)
theorem mw_413 : (Jvm.Cond.constantLong "BurnedDown$Least" (15 : Nat) (1099511627776 : Int64)) ∈ bd_tbl := bu_17 (List.mem_of_getElem? (i := 5) rfl)
theorem mw_414 : (Jvm.Cond.methodLink "BurnedDown$Reckoning" (24 : Nat) ({ cls := "BurnedDown$Reckoning", name := "over", desc := "(II)J" } : Jvm.MethodName)) ∈ bd_tbl := bu_17 (List.mem_of_getElem? (i := 6) rfl)
theorem mw_415 : (Jvm.Cond.sameMethod "BurnedDown$Reckoning" "BurnedDown$Reckoning" "over" "(II)J") ∈ bd_tbl := bu_17 (List.mem_of_getElem? (i := 7) rfl)
theorem mw_416 : (Jvm.Cond.selects "BurnedDown$Counting" ({ cls := "BurnedDown$Reckoning", name := "over", desc := "(II)J" } : Jvm.MethodName) ({ cls := "BurnedDown$Counting", name := "over", desc := "(II)J" } : Jvm.MethodName)) ∈ bd_tbl := bu_17 (List.mem_of_getElem? (i := 8) rfl)
theorem mw_417 : (Jvm.Cond.instanceMethod ({ cls := "BurnedDown$Counting", name := "over", desc := "(II)J" } : Jvm.MethodName)) ∈ bd_tbl := bu_17 (List.mem_of_getElem? (i := 9) rfl)
theorem mw_418 : (Jvm.Cond.code ({ cls := "BurnedDown$Counting", name := "over", desc := "(II)J" } : Jvm.MethodName) prog_3_method_5_code (3 : Nat) (Option.some Jvm.ClassFile.FieldType.long)) ∈ bd_tbl := bu_17 (List.mem_of_getElem? (i := 10) rfl)
theorem mw_419 : (Jvm.Cond.selects "BurnedDown$Least" ({ cls := "BurnedDown$Reckoning", name := "over", desc := "(II)J" } : Jvm.MethodName) ({ cls := "BurnedDown$Least", name := "over", desc := "(II)J" } : Jvm.MethodName)) ∈ bd_tbl := bu_17 (List.mem_of_getElem? (i := 11) rfl)
theorem mw_420 : (Jvm.Cond.instanceMethod ({ cls := "BurnedDown$Least", name := "over", desc := "(II)J" } : Jvm.MethodName)) ∈ bd_tbl := bu_17 (List.mem_of_getElem? (i := 12) rfl)
theorem mw_421 : (Jvm.Cond.code ({ cls := "BurnedDown$Least", name := "over", desc := "(II)J" } : Jvm.MethodName) prog_5_method_5_code (5 : Nat) (Option.some Jvm.ClassFile.FieldType.long)) ∈ bd_tbl := bu_17 (List.mem_of_getElem? (i := 13) rfl)
theorem mw_422 : (Jvm.Cond.methodLink "BurnedDown$Least" (31 : Nat) ({ cls := "java/lang/Integer", name := "numberOfLeadingZeros", desc := "(I)I" } : Jvm.MethodName)) ∈ bd_tbl := bu_17 (List.mem_of_getElem? (i := 14) rfl)
theorem mw_423 : (Jvm.Cond.static ({ cls := "java/lang/Integer", name := "numberOfLeadingZeros", desc := "(I)I" } : Jvm.MethodName)) ∈ bd_tbl := bu_17 (List.mem_of_getElem? (i := 15) rfl)
theorem mw_424 : (Jvm.Cond.code ({ cls := "java/lang/Integer", name := "numberOfLeadingZeros", desc := "(I)I" } : Jvm.MethodName) prog_13_method_47_code (2 : Nat) (Option.some Jvm.ClassFile.FieldType.int)) ∈ bd_tbl := bu_17 (List.mem_of_getElem? (i := 16) rfl)
theorem mw_425 : (Jvm.Cond.constant "java/lang/Integer" (264 : Nat) (65536 : Int32)) ∈ bd_tbl := bu_17 (List.mem_of_getElem? (i := 17) rfl)
theorem mw_426 : (Jvm.Cond.methodLink "BurnedDown$Gathering" (81 : Nat) ({ cls := "BurnedDown$Gathering", name := "value", desc := "(II)J" } : Jvm.MethodName)) ∈ bd_tbl := bu_17 (List.mem_of_getElem? (i := 18) rfl)
theorem mw_427 : (Jvm.Cond.instanceMethod ({ cls := "BurnedDown$Gathering", name := "value", desc := "(II)J" } : Jvm.MethodName)) ∈ bd_tbl := bu_17 (List.mem_of_getElem? (i := 19) rfl)
theorem mw_428 : (Jvm.Cond.code ({ cls := "BurnedDown$Gathering", name := "value", desc := "(II)J" } : Jvm.MethodName) prog_4_method_3_code (3 : Nat) (Option.some Jvm.ClassFile.FieldType.long)) ∈ bd_tbl := bu_17 (List.mem_of_getElem? (i := 20) rfl)
theorem mw_429 : (Jvm.Cond.methodLink "BurnedDown$Gathering" (84 : Nat) ({ cls := "BurnedDown$Reckoning", name := "both", desc := "(JJ)J" } : Jvm.MethodName)) ∈ bd_tbl := bu_17 (List.mem_of_getElem? (i := 21) rfl)
theorem mw_430 : (Jvm.Cond.sameMethod "BurnedDown$Reckoning" "BurnedDown$Reckoning" "both" "(JJ)J") ∈ bd_tbl := bu_17 (List.mem_of_getElem? (i := 22) rfl)
theorem mw_431 : (Jvm.Cond.selects "BurnedDown$Counting" ({ cls := "BurnedDown$Reckoning", name := "both", desc := "(JJ)J" } : Jvm.MethodName) ({ cls := "BurnedDown$Counting", name := "both", desc := "(JJ)J" } : Jvm.MethodName)) ∈ bd_tbl := bu_17 (List.mem_of_getElem? (i := 23) rfl)
theorem mw_432 : (Jvm.Cond.instanceMethod ({ cls := "BurnedDown$Counting", name := "both", desc := "(JJ)J" } : Jvm.MethodName)) ∈ bd_tbl := bu_18 (List.mem_of_getElem? (i := 0) rfl)
theorem mw_433 : (Jvm.Cond.code ({ cls := "BurnedDown$Counting", name := "both", desc := "(JJ)J" } : Jvm.MethodName) prog_3_method_3_code (5 : Nat) (Option.some Jvm.ClassFile.FieldType.long)) ∈ bd_tbl := bu_18 (List.mem_of_getElem? (i := 1) rfl)
theorem mw_434 : (Jvm.Cond.selects "BurnedDown$Least" ({ cls := "BurnedDown$Reckoning", name := "both", desc := "(JJ)J" } : Jvm.MethodName) ({ cls := "BurnedDown$Least", name := "both", desc := "(JJ)J" } : Jvm.MethodName)) ∈ bd_tbl := bu_18 (List.mem_of_getElem? (i := 2) rfl)
theorem mw_435 : (Jvm.Cond.instanceMethod ({ cls := "BurnedDown$Least", name := "both", desc := "(JJ)J" } : Jvm.MethodName)) ∈ bd_tbl := bu_18 (List.mem_of_getElem? (i := 3) rfl)
theorem mw_436 : (Jvm.Cond.code ({ cls := "BurnedDown$Least", name := "both", desc := "(JJ)J" } : Jvm.MethodName) prog_5_method_3_code (5 : Nat) (Option.some Jvm.ClassFile.FieldType.long)) ∈ bd_tbl := bu_18 (List.mem_of_getElem? (i := 4) rfl)
theorem mw_437 : (Jvm.Cond.methodLink "BurnedDown$Gathering" (88 : Nat) ({ cls := "BurnedDown$Gathering", name := "set", desc := "(IIJ)V" } : Jvm.MethodName)) ∈ bd_tbl := bu_18 (List.mem_of_getElem? (i := 5) rfl)
theorem mw_438 : (Jvm.Cond.methodLink "BurnedDown$Gathering" (64 : Nat) ({ cls := "BurnedDown$Gathering", name := "bringAll", desc := "(IILBurnedDown$Reckoning;)V" } : Jvm.MethodName)) ∈ bd_tbl := bu_18 (List.mem_of_getElem? (i := 6) rfl)
theorem mw_439 : (Jvm.Cond.instanceMethod ({ cls := "BurnedDown$Gathering", name := "bringAll", desc := "(IILBurnedDown$Reckoning;)V" } : Jvm.MethodName)) ∈ bd_tbl := bu_18 (List.mem_of_getElem? (i := 7) rfl)
theorem mw_440 : (Jvm.Cond.code ({ cls := "BurnedDown$Gathering", name := "bringAll", desc := "(IILBurnedDown$Reckoning;)V" } : Jvm.MethodName) prog_4_method_9_code (7 : Nat) (Option.none : Option Jvm.ClassFile.FieldType)) ∈ bd_tbl := bu_18 (List.mem_of_getElem? (i := 8) rfl)
theorem mw_441 : (Jvm.Cond.methodLink "BurnedDown$Gathering" (92 : Nat) ({ cls := "BurnedDown$Gathering", name := "together", desc := "(ILBurnedDown$Reckoning;)J" } : Jvm.MethodName)) ∈ bd_tbl := bu_18 (List.mem_of_getElem? (i := 9) rfl)
theorem mw_442 : (Jvm.Cond.instanceMethod ({ cls := "BurnedDown$Gathering", name := "together", desc := "(ILBurnedDown$Reckoning;)J" } : Jvm.MethodName)) ∈ bd_tbl := bu_18 (List.mem_of_getElem? (i := 10) rfl)
theorem mw_443 : (Jvm.Cond.code ({ cls := "BurnedDown$Gathering", name := "together", desc := "(ILBurnedDown$Reckoning;)J" } : Jvm.MethodName) prog_4_method_4_code (3 : Nat) (Option.some Jvm.ClassFile.FieldType.long)) ∈ bd_tbl := bu_18 (List.mem_of_getElem? (i := 11) rfl)
theorem mw_444 : (Jvm.Cond.methodLink "BurnedDown$Gathering" (33 : Nat) ({ cls := "BurnedDown$Reckoning", name := "over", desc := "(II)J" } : Jvm.MethodName)) ∈ bd_tbl := bu_18 (List.mem_of_getElem? (i := 12) rfl)
theorem mw_445 : (Jvm.Cond.methodLink "BurnedDownLaw" (75 : Nat) ({ cls := "BurnedDown", name := "may", desc := "(I)I" } : Jvm.MethodName)) ∈ bd_tbl := bu_18 (List.mem_of_getElem? (i := 13) rfl)
theorem mw_446 : (Jvm.Cond.instanceMethod ({ cls := "BurnedDown", name := "may", desc := "(I)I" } : Jvm.MethodName)) ∈ bd_tbl := bu_18 (List.mem_of_getElem? (i := 14) rfl)
theorem mw_447 : (Jvm.Cond.selects "BurnedDown" ({ cls := "BurnedDown", name := "may", desc := "(I)I" } : Jvm.MethodName) ({ cls := "BurnedDown", name := "may", desc := "(I)I" } : Jvm.MethodName)) ∈ bd_tbl := bu_18 (List.mem_of_getElem? (i := 15) rfl)
theorem mw_448 : (Jvm.Cond.code ({ cls := "BurnedDown", name := "may", desc := "(I)I" } : Jvm.MethodName) prog_1_method_15_code (4 : Nat) (Option.some Jvm.ClassFile.FieldType.int)) ∈ bd_tbl := bu_18 (List.mem_of_getElem? (i := 16) rfl)
theorem mw_449 : (Jvm.Cond.methodLink "BurnedDown" (168 : Nat) ({ cls := "BurnedDown", name := "countWaysOf", desc := "(I)V" } : Jvm.MethodName)) ∈ bd_tbl := bu_18 (List.mem_of_getElem? (i := 17) rfl)
theorem mw_450 : (Jvm.Cond.instanceMethod ({ cls := "BurnedDown", name := "countWaysOf", desc := "(I)V" } : Jvm.MethodName)) ∈ bd_tbl := bu_18 (List.mem_of_getElem? (i := 18) rfl)
theorem mw_451 : (Jvm.Cond.code ({ cls := "BurnedDown", name := "countWaysOf", desc := "(I)V" } : Jvm.MethodName) prog_1_method_33_code (2 : Nat) (Option.none : Option Jvm.ClassFile.FieldType)) ∈ bd_tbl := bu_18 (List.mem_of_getElem? (i := 19) rfl)
theorem mw_452 : (Jvm.Cond.methodLink "BurnedDownLaw" (79 : Nat) ({ cls := "BurnedDown", name := "run", desc := "(III)I" } : Jvm.MethodName)) ∈ bd_tbl := bu_18 (List.mem_of_getElem? (i := 20) rfl)
theorem mw_453 : (Jvm.Cond.instanceMethod ({ cls := "BurnedDown", name := "run", desc := "(III)I" } : Jvm.MethodName)) ∈ bd_tbl := bu_18 (List.mem_of_getElem? (i := 21) rfl)
theorem mw_454 : (Jvm.Cond.selects "BurnedDown" ({ cls := "BurnedDown", name := "run", desc := "(III)I" } : Jvm.MethodName) ({ cls := "BurnedDown", name := "run", desc := "(III)I" } : Jvm.MethodName)) ∈ bd_tbl := bu_18 (List.mem_of_getElem? (i := 22) rfl)
theorem mw_455 : (Jvm.Cond.code ({ cls := "BurnedDown", name := "run", desc := "(III)I" } : Jvm.MethodName) prog_1_method_16_code (5 : Nat) (Option.some Jvm.ClassFile.FieldType.int)) ∈ bd_tbl := bu_18 (List.mem_of_getElem? (i := 23) rfl)
theorem mw_456 : (Jvm.Cond.methodLink "BurnedDown" (176 : Nat) ({ cls := "BurnedDown", name := "runStart", desc := "(II)I" } : Jvm.MethodName)) ∈ bd_tbl := bu_19 (List.mem_of_getElem? (i := 0) rfl)
theorem mw_457 : (Jvm.Cond.instanceMethod ({ cls := "BurnedDown", name := "runStart", desc := "(II)I" } : Jvm.MethodName)) ∈ bd_tbl := bu_19 (List.mem_of_getElem? (i := 1) rfl)
theorem mw_458 : (Jvm.Cond.code ({ cls := "BurnedDown", name := "runStart", desc := "(II)I" } : Jvm.MethodName) prog_1_method_35_code (6 : Nat) (Option.some Jvm.ClassFile.FieldType.int)) ∈ bd_tbl := bu_19 (List.mem_of_getElem? (i := 2) rfl)
theorem mw_459 : (Jvm.Cond.methodLink "BurnedDown" (179 : Nat) ({ cls := "BurnedDown", name := "runEnd", desc := "(II)I" } : Jvm.MethodName)) ∈ bd_tbl := bu_19 (List.mem_of_getElem? (i := 3) rfl)
theorem mw_460 : (Jvm.Cond.instanceMethod ({ cls := "BurnedDown", name := "runEnd", desc := "(II)I" } : Jvm.MethodName)) ∈ bd_tbl := bu_19 (List.mem_of_getElem? (i := 4) rfl)
theorem mw_461 : (Jvm.Cond.code ({ cls := "BurnedDown", name := "runEnd", desc := "(II)I" } : Jvm.MethodName) prog_1_method_36_code (4 : Nat) (Option.some Jvm.ClassFile.FieldType.int)) ∈ bd_tbl := bu_19 (List.mem_of_getElem? (i := 5) rfl)
theorem mw_462 : (Jvm.Cond.methodLink "BurnedDownLaw" (83 : Nat) ({ cls := "BurnedDown", name := "chance", desc := "(III)J" } : Jvm.MethodName)) ∈ bd_tbl := bu_19 (List.mem_of_getElem? (i := 6) rfl)
theorem mw_463 : (Jvm.Cond.instanceMethod ({ cls := "BurnedDown", name := "chance", desc := "(III)J" } : Jvm.MethodName)) ∈ bd_tbl := bu_19 (List.mem_of_getElem? (i := 7) rfl)
theorem mw_464 : (Jvm.Cond.selects "BurnedDown" ({ cls := "BurnedDown", name := "chance", desc := "(III)J" } : Jvm.MethodName) ({ cls := "BurnedDown", name := "chance", desc := "(III)J" } : Jvm.MethodName)) ∈ bd_tbl := bu_19 (List.mem_of_getElem? (i := 8) rfl)
theorem mw_465 : (Jvm.Cond.code ({ cls := "BurnedDown", name := "chance", desc := "(III)J" } : Jvm.MethodName) prog_1_method_17_code (11 : Nat) (Option.some Jvm.ClassFile.FieldType.long)) ∈ bd_tbl := bu_19 (List.mem_of_getElem? (i := 9) rfl)
theorem mw_466 : (Jvm.Cond.methodLink "BurnedDown" (186 : Nat) ({ cls := "BurnedDown", name := "greatestDivisor", desc := "(JJ)J" } : Jvm.MethodName)) ∈ bd_tbl := bu_19 (List.mem_of_getElem? (i := 10) rfl)
theorem mw_467 : (Jvm.Cond.static ({ cls := "BurnedDown", name := "greatestDivisor", desc := "(JJ)J" } : Jvm.MethodName)) ∈ bd_tbl := bu_19 (List.mem_of_getElem? (i := 11) rfl)
theorem mw_468 : (Jvm.Cond.code ({ cls := "BurnedDown", name := "greatestDivisor", desc := "(JJ)J" } : Jvm.MethodName) prog_1_method_37_code (11 : Nat) (Option.some Jvm.ClassFile.FieldType.long)) ∈ bd_tbl := bu_19 (List.mem_of_getElem? (i := 12) rfl)
theorem mw_469 : (Jvm.Cond.methodLink "BurnedDownLaw" (88 : Nat) ({ cls := "BurnedDown", name := "put", desc := "(I)I" } : Jvm.MethodName)) ∈ bd_tbl := bu_19 (List.mem_of_getElem? (i := 13) rfl)
theorem mw_470 : (Jvm.Cond.instanceMethod ({ cls := "BurnedDown", name := "put", desc := "(I)I" } : Jvm.MethodName)) ∈ bd_tbl := bu_19 (List.mem_of_getElem? (i := 14) rfl)
theorem mw_471 : (Jvm.Cond.selects "BurnedDown" ({ cls := "BurnedDown", name := "put", desc := "(I)I" } : Jvm.MethodName) ({ cls := "BurnedDown", name := "put", desc := "(I)I" } : Jvm.MethodName)) ∈ bd_tbl := bu_19 (List.mem_of_getElem? (i := 15) rfl)
theorem mw_472 : (Jvm.Cond.code ({ cls := "BurnedDown", name := "put", desc := "(I)I" } : Jvm.MethodName) prog_1_method_18_code (3 : Nat) (Option.some Jvm.ClassFile.FieldType.int)) ∈ bd_tbl := bu_19 (List.mem_of_getElem? (i := 16) rfl)
theorem mw_473 : (Jvm.Cond.methodLink "BurnedDownLaw" (92 : Nat) ({ cls := "BurnedDown", name := "judge", desc := "()I" } : Jvm.MethodName)) ∈ bd_tbl := bu_19 (List.mem_of_getElem? (i := 17) rfl)
theorem mw_474 : (Jvm.Cond.instanceMethod ({ cls := "BurnedDown", name := "judge", desc := "()I" } : Jvm.MethodName)) ∈ bd_tbl := bu_19 (List.mem_of_getElem? (i := 18) rfl)
theorem mw_475 : (Jvm.Cond.selects "BurnedDown" ({ cls := "BurnedDown", name := "judge", desc := "()I" } : Jvm.MethodName) ({ cls := "BurnedDown", name := "judge", desc := "()I" } : Jvm.MethodName)) ∈ bd_tbl := bu_19 (List.mem_of_getElem? (i := 19) rfl)
theorem mw_476 : (Jvm.Cond.code ({ cls := "BurnedDown", name := "judge", desc := "()I" } : Jvm.MethodName) prog_1_method_19_code (4 : Nat) (Option.some Jvm.ClassFile.FieldType.int)) ∈ bd_tbl := bu_19 (List.mem_of_getElem? (i := 20) rfl)
theorem mw_477 : (Jvm.Cond.methodLink "BurnedDown" (197 : Nat) ({ cls := "BurnedDown", name := "wrongInRow", desc := "(I)I" } : Jvm.MethodName)) ∈ bd_tbl := bu_19 (List.mem_of_getElem? (i := 21) rfl)
theorem mw_478 : (Jvm.Cond.instanceMethod ({ cls := "BurnedDown", name := "wrongInRow", desc := "(I)I" } : Jvm.MethodName)) ∈ bd_tbl := bu_19 (List.mem_of_getElem? (i := 22) rfl)
theorem mw_479 : (Jvm.Cond.code ({ cls := "BurnedDown", name := "wrongInRow", desc := "(I)I" } : Jvm.MethodName) prog_1_method_38_code (7 : Nat) (Option.some Jvm.ClassFile.FieldType.int)) ∈ bd_tbl := bu_19 (List.mem_of_getElem? (i := 23) rfl)
theorem mw_480 : (Jvm.Cond.methodLink "BurnedDown" (255 : Nat) ({ cls := "java/lang/Integer", name := "numberOfTrailingZeros", desc := "(I)I" } : Jvm.MethodName)) ∈ bd_tbl := bu_20 (List.mem_of_getElem? (i := 0) rfl)
theorem mw_481 : (Jvm.Cond.static ({ cls := "java/lang/Integer", name := "numberOfTrailingZeros", desc := "(I)I" } : Jvm.MethodName)) ∈ bd_tbl := bu_20 (List.mem_of_getElem? (i := 1) rfl)
theorem mw_482 : (Jvm.Cond.code ({ cls := "java/lang/Integer", name := "numberOfTrailingZeros", desc := "(I)I" } : Jvm.MethodName) prog_13_method_48_code (2 : Nat) (Option.some Jvm.ClassFile.FieldType.int)) ∈ bd_tbl := bu_20 (List.mem_of_getElem? (i := 2) rfl)
theorem mw_483 : (Jvm.Cond.methodLink "BurnedDownLaw" (96 : Nat) ({ cls := "BurnedDown", name := "doubts", desc := "()I" } : Jvm.MethodName)) ∈ bd_tbl := bu_20 (List.mem_of_getElem? (i := 3) rfl)
theorem mw_484 : (Jvm.Cond.instanceMethod ({ cls := "BurnedDown", name := "doubts", desc := "()I" } : Jvm.MethodName)) ∈ bd_tbl := bu_20 (List.mem_of_getElem? (i := 4) rfl)
theorem mw_485 : (Jvm.Cond.selects "BurnedDown" ({ cls := "BurnedDown", name := "doubts", desc := "()I" } : Jvm.MethodName) ({ cls := "BurnedDown", name := "doubts", desc := "()I" } : Jvm.MethodName)) ∈ bd_tbl := bu_20 (List.mem_of_getElem? (i := 5) rfl)
theorem mw_486 : (Jvm.Cond.code ({ cls := "BurnedDown", name := "doubts", desc := "()I" } : Jvm.MethodName) prog_1_method_20_code (3 : Nat) (Option.some Jvm.ClassFile.FieldType.int)) ∈ bd_tbl := bu_20 (List.mem_of_getElem? (i := 6) rfl)
theorem mw_487 : (Jvm.Cond.methodLink "BurnedDown" (200 : Nat) ({ cls := "BurnedDown", name := "costOf", desc := "(I)J" } : Jvm.MethodName)) ∈ bd_tbl := bu_20 (List.mem_of_getElem? (i := 7) rfl)
theorem mw_488 : (Jvm.Cond.static ({ cls := "BurnedDown", name := "costOf", desc := "(I)J" } : Jvm.MethodName)) ∈ bd_tbl := bu_20 (List.mem_of_getElem? (i := 8) rfl)
theorem mw_489 : (Jvm.Cond.code ({ cls := "BurnedDown", name := "costOf", desc := "(I)J" } : Jvm.MethodName) prog_1_method_39_code (1 : Nat) (Option.some Jvm.ClassFile.FieldType.long)) ∈ bd_tbl := bu_20 (List.mem_of_getElem? (i := 9) rfl)
theorem mw_490 : (Jvm.Cond.methodLink "BurnedDown" (244 : Nat) ({ cls := "java/lang/Integer", name := "bitCount", desc := "(I)I" } : Jvm.MethodName)) ∈ bd_tbl := bu_20 (List.mem_of_getElem? (i := 10) rfl)
theorem mw_491 : (Jvm.Cond.static ({ cls := "java/lang/Integer", name := "bitCount", desc := "(I)I" } : Jvm.MethodName)) ∈ bd_tbl := bu_20 (List.mem_of_getElem? (i := 11) rfl)
theorem mw_492 : (Jvm.Cond.code ({ cls := "java/lang/Integer", name := "bitCount", desc := "(I)I" } : Jvm.MethodName) prog_13_method_49_code (1 : Nat) (Option.some Jvm.ClassFile.FieldType.int)) ∈ bd_tbl := bu_20 (List.mem_of_getElem? (i := 12) rfl)
theorem mw_493 : (Jvm.Cond.constant "java/lang/Integer" (265 : Nat) (1431655765 : Int32)) ∈ bd_tbl := bu_20 (List.mem_of_getElem? (i := 13) rfl)
theorem mw_494 : (Jvm.Cond.constant "java/lang/Integer" (266 : Nat) (858993459 : Int32)) ∈ bd_tbl := bu_20 (List.mem_of_getElem? (i := 14) rfl)
theorem mw_495 : (Jvm.Cond.constant "java/lang/Integer" (267 : Nat) (252645135 : Int32)) ∈ bd_tbl := bu_20 (List.mem_of_getElem? (i := 15) rfl)
theorem mw_496 : (Jvm.Cond.constantLong "BurnedDown" (268 : Nat) (1024 : Int64)) ∈ bd_tbl := bu_20 (List.mem_of_getElem? (i := 16) rfl)
theorem mw_497 : (Jvm.Cond.constantLong "BurnedDown" (211 : Nat) (1099511627776 : Int64)) ∈ bd_tbl := bu_20 (List.mem_of_getElem? (i := 17) rfl)
theorem mw_498 : (Jvm.Cond.methodLink "BurnedDownLaw" (100 : Nat) ({ cls := "BurnedDown", name := "opened", desc := "()I" } : Jvm.MethodName)) ∈ bd_tbl := bu_20 (List.mem_of_getElem? (i := 18) rfl)
theorem mw_499 : (Jvm.Cond.instanceMethod ({ cls := "BurnedDown", name := "opened", desc := "()I" } : Jvm.MethodName)) ∈ bd_tbl := bu_20 (List.mem_of_getElem? (i := 19) rfl)
theorem mw_500 : (Jvm.Cond.selects "BurnedDown" ({ cls := "BurnedDown", name := "opened", desc := "()I" } : Jvm.MethodName) ({ cls := "BurnedDown", name := "opened", desc := "()I" } : Jvm.MethodName)) ∈ bd_tbl := bu_20 (List.mem_of_getElem? (i := 20) rfl)
theorem mw_501 : (Jvm.Cond.code ({ cls := "BurnedDown", name := "opened", desc := "()I" } : Jvm.MethodName) prog_1_method_21_code (5 : Nat) (Option.some Jvm.ClassFile.FieldType.int)) ∈ bd_tbl := bu_20 (List.mem_of_getElem? (i := 21) rfl)
theorem mw_502 : (Jvm.Cond.methodLink "BurnedDownLaw" (104 : Nat) ({ cls := "BurnedDown", name := "hangs", desc := "()I" } : Jvm.MethodName)) ∈ bd_tbl := bu_20 (List.mem_of_getElem? (i := 22) rfl)
theorem mw_503 : (Jvm.Cond.instanceMethod ({ cls := "BurnedDown", name := "hangs", desc := "()I" } : Jvm.MethodName)) ∈ bd_tbl := bu_20 (List.mem_of_getElem? (i := 23) rfl)
theorem mw_504 : (Jvm.Cond.selects "BurnedDown" ({ cls := "BurnedDown", name := "hangs", desc := "()I" } : Jvm.MethodName) ({ cls := "BurnedDown", name := "hangs", desc := "()I" } : Jvm.MethodName)) ∈ bd_tbl := bu_21 (List.mem_of_getElem? (i := 0) rfl)
theorem mw_505 : (Jvm.Cond.code ({ cls := "BurnedDown", name := "hangs", desc := "()I" } : Jvm.MethodName) prog_1_method_22_code (7 : Nat) (Option.some Jvm.ClassFile.FieldType.int)) ∈ bd_tbl := bu_21 (List.mem_of_getElem? (i := 1) rfl)
theorem mw_506 : (Jvm.Cond.methodLink "BurnedDownLaw" (108 : Nat) ({ cls := "BurnedDown", name := "ahead", desc := "(II)I" } : Jvm.MethodName)) ∈ bd_tbl := bu_21 (List.mem_of_getElem? (i := 2) rfl)
theorem mw_507 : (Jvm.Cond.instanceMethod ({ cls := "BurnedDown", name := "ahead", desc := "(II)I" } : Jvm.MethodName)) ∈ bd_tbl := bu_21 (List.mem_of_getElem? (i := 3) rfl)
theorem mw_508 : (Jvm.Cond.selects "BurnedDown" ({ cls := "BurnedDown", name := "ahead", desc := "(II)I" } : Jvm.MethodName) ({ cls := "BurnedDown", name := "ahead", desc := "(II)I" } : Jvm.MethodName)) ∈ bd_tbl := bu_21 (List.mem_of_getElem? (i := 4) rfl)
theorem mw_509 : (Jvm.Cond.code ({ cls := "BurnedDown", name := "ahead", desc := "(II)I" } : Jvm.MethodName) prog_1_method_23_code (5 : Nat) (Option.some Jvm.ClassFile.FieldType.int)) ∈ bd_tbl := bu_21 (List.mem_of_getElem? (i := 5) rfl)
theorem mw_510 : (Jvm.Cond.methodLink "BurnedDown" (225 : Nat) ({ cls := "BurnedDown", name := "someWayBefore", desc := "(II)Z" } : Jvm.MethodName)) ∈ bd_tbl := bu_21 (List.mem_of_getElem? (i := 6) rfl)
theorem mw_511 : (Jvm.Cond.instanceMethod ({ cls := "BurnedDown", name := "someWayBefore", desc := "(II)Z" } : Jvm.MethodName)) ∈ bd_tbl := bu_21 (List.mem_of_getElem? (i := 7) rfl)
theorem mw_512 : (Jvm.Cond.code ({ cls := "BurnedDown", name := "someWayBefore", desc := "(II)Z" } : Jvm.MethodName) prog_1_method_40_code (6 : Nat) (Option.some Jvm.ClassFile.FieldType.boolean)) ∈ bd_tbl := bu_21 (List.mem_of_getElem? (i := 8) rfl)
theorem mw_513 : (Jvm.Cond.methodLink "BurnedDown" (270 : Nat) ({ cls := "BurnedDown", name := "setMinutes", desc := "(IZ)V" } : Jvm.MethodName)) ∈ bd_tbl := bu_21 (List.mem_of_getElem? (i := 9) rfl)
theorem mw_514 : (Jvm.Cond.instanceMethod ({ cls := "BurnedDown", name := "setMinutes", desc := "(IZ)V" } : Jvm.MethodName)) ∈ bd_tbl := bu_21 (List.mem_of_getElem? (i := 10) rfl)
theorem mw_515 : (Jvm.Cond.code ({ cls := "BurnedDown", name := "setMinutes", desc := "(IZ)V" } : Jvm.MethodName) prog_1_method_42_code (7 : Nat) (Option.none : Option Jvm.ClassFile.FieldType)) ∈ bd_tbl := bu_21 (List.mem_of_getElem? (i := 11) rfl)
theorem mw_516 : (Jvm.Cond.constantLong "BurnedDown" (274 : Nat) (299 : Int64)) ∈ bd_tbl := bu_21 (List.mem_of_getElem? (i := 12) rfl)
theorem mw_517 : (Jvm.Cond.methodLink "BurnedDown" (229 : Nat) ({ cls := "BurnedDown", name := "someWayNotBefore", desc := "(II)Z" } : Jvm.MethodName)) ∈ bd_tbl := bu_21 (List.mem_of_getElem? (i := 13) rfl)
theorem mw_518 : (Jvm.Cond.instanceMethod ({ cls := "BurnedDown", name := "someWayNotBefore", desc := "(II)Z" } : Jvm.MethodName)) ∈ bd_tbl := bu_21 (List.mem_of_getElem? (i := 14) rfl)
theorem mw_519 : (Jvm.Cond.code ({ cls := "BurnedDown", name := "someWayNotBefore", desc := "(II)Z" } : Jvm.MethodName) prog_1_method_41_code (4 : Nat) (Option.some Jvm.ClassFile.FieldType.boolean)) ∈ bd_tbl := bu_21 (List.mem_of_getElem? (i := 15) rfl)
theorem mw_520 : (Jvm.Cond.methodLink "BurnedDownLaw" (112 : Nat) ({ cls := "BurnedDown", name := "narrow", desc := "(II)I" } : Jvm.MethodName)) ∈ bd_tbl := bu_21 (List.mem_of_getElem? (i := 16) rfl)
theorem mw_521 : (Jvm.Cond.instanceMethod ({ cls := "BurnedDown", name := "narrow", desc := "(II)I" } : Jvm.MethodName)) ∈ bd_tbl := bu_21 (List.mem_of_getElem? (i := 17) rfl)
theorem mw_522 : (Jvm.Cond.selects "BurnedDown" ({ cls := "BurnedDown", name := "narrow", desc := "(II)I" } : Jvm.MethodName) ({ cls := "BurnedDown", name := "narrow", desc := "(II)I" } : Jvm.MethodName)) ∈ bd_tbl := bu_21 (List.mem_of_getElem? (i := 18) rfl)
theorem mw_523 : (Jvm.Cond.code ({ cls := "BurnedDown", name := "narrow", desc := "(II)I" } : Jvm.MethodName) prog_1_method_24_code (4 : Nat) (Option.some Jvm.ClassFile.FieldType.int)) ∈ bd_tbl := bu_21 (List.mem_of_getElem? (i := 19) rfl)
theorem mw_524 : (Jvm.Cond.methodLink "BurnedDown" (232 : Nat) ({ cls := "BurnedDown", name := "mostAlike", desc := "(II)I" } : Jvm.MethodName)) ∈ bd_tbl := bu_21 (List.mem_of_getElem? (i := 20) rfl)
theorem mw_525 : (Jvm.Cond.instanceMethod ({ cls := "BurnedDown", name := "mostAlike", desc := "(II)I" } : Jvm.MethodName)) ∈ bd_tbl := bu_21 (List.mem_of_getElem? (i := 21) rfl)
theorem mw_526 : (Jvm.Cond.code ({ cls := "BurnedDown", name := "mostAlike", desc := "(II)I" } : Jvm.MethodName) prog_1_method_43_code (8 : Nat) (Option.some Jvm.ClassFile.FieldType.int)) ∈ bd_tbl := bu_21 (List.mem_of_getElem? (i := 22) rfl)
theorem mw_527 : (Jvm.Cond.methodLink "BurnedDown" (282 : Nat) ({ cls := "java/lang/Math", name := "max", desc := "(II)I" } : Jvm.MethodName)) ∈ bd_tbl := bu_21 (List.mem_of_getElem? (i := 23) rfl)
theorem mw_528 : (Jvm.Cond.methodLink "BurnedDownLaw" (116 : Nat) ({ cls := "BurnedDown", name := "next", desc := "(I)I" } : Jvm.MethodName)) ∈ bd_tbl := bu_22 (List.mem_of_getElem? (i := 0) rfl)
theorem mw_529 : (Jvm.Cond.instanceMethod ({ cls := "BurnedDown", name := "next", desc := "(I)I" } : Jvm.MethodName)) ∈ bd_tbl := bu_22 (List.mem_of_getElem? (i := 1) rfl)
theorem mw_530 : (Jvm.Cond.selects "BurnedDown" ({ cls := "BurnedDown", name := "next", desc := "(I)I" } : Jvm.MethodName) ({ cls := "BurnedDown", name := "next", desc := "(I)I" } : Jvm.MethodName)) ∈ bd_tbl := bu_22 (List.mem_of_getElem? (i := 2) rfl)
theorem mw_531 : (Jvm.Cond.code ({ cls := "BurnedDown", name := "next", desc := "(I)I" } : Jvm.MethodName) prog_1_method_25_code (7 : Nat) (Option.some Jvm.ClassFile.FieldType.int)) ∈ bd_tbl := bu_22 (List.mem_of_getElem? (i := 3) rfl)
theorem mw_532 : (Jvm.Cond.methodLink "BurnedDownLaw" (120 : Nat) ({ cls := "BurnedDown", name := "image", desc := "()I" } : Jvm.MethodName)) ∈ bd_tbl := bu_22 (List.mem_of_getElem? (i := 4) rfl)
theorem mw_533 : (Jvm.Cond.instanceMethod ({ cls := "BurnedDown", name := "image", desc := "()I" } : Jvm.MethodName)) ∈ bd_tbl := bu_22 (List.mem_of_getElem? (i := 5) rfl)
theorem mw_534 : (Jvm.Cond.selects "BurnedDown" ({ cls := "BurnedDown", name := "image", desc := "()I" } : Jvm.MethodName) ({ cls := "BurnedDown", name := "image", desc := "()I" } : Jvm.MethodName)) ∈ bd_tbl := bu_22 (List.mem_of_getElem? (i := 6) rfl)
theorem mw_535 : (Jvm.Cond.code ({ cls := "BurnedDown", name := "image", desc := "()I" } : Jvm.MethodName) prog_1_method_26_code (1 : Nat) (Option.some Jvm.ClassFile.FieldType.int)) ∈ bd_tbl := bu_22 (List.mem_of_getElem? (i := 7) rfl)
theorem mw_536 : (Jvm.Cond.instanceMethod ({ cls := "BurnedDown$World", name := "take", desc := "(LBurnedDown$World;)V" } : Jvm.MethodName)) ∈ bd_tbl := bu_22 (List.mem_of_getElem? (i := 8) rfl)
theorem mw_537 : (Jvm.Cond.code ({ cls := "BurnedDown$World", name := "take", desc := "(LBurnedDown$World;)V" } : Jvm.MethodName) prog_10_method_5_code (2 : Nat) (Option.none : Option Jvm.ClassFile.FieldType)) ∈ bd_tbl := bu_22 (List.mem_of_getElem? (i := 9) rfl)
theorem mw_538 : (Jvm.Cond.instanceMethod ({ cls := "BurnedDown$Things", name := "take", desc := "(LBurnedDown$Things;)V" } : Jvm.MethodName)) ∈ bd_tbl := bu_22 (List.mem_of_getElem? (i := 10) rfl)
theorem mw_539 : (Jvm.Cond.code ({ cls := "BurnedDown$Things", name := "take", desc := "(LBurnedDown$Things;)V" } : Jvm.MethodName) prog_9_method_7_code (2 : Nat) (Option.none : Option Jvm.ClassFile.FieldType)) ∈ bd_tbl := bu_22 (List.mem_of_getElem? (i := 11) rfl)
theorem mw_540 : (Jvm.Cond.static ({ cls := "BurnedDown", name := "copyRow", desc := "([I[I)V" } : Jvm.MethodName)) ∈ bd_tbl := bu_22 (List.mem_of_getElem? (i := 12) rfl)
theorem mw_541 : (Jvm.Cond.code ({ cls := "BurnedDown", name := "copyRow", desc := "([I[I)V" } : Jvm.MethodName) prog_1_method_48_code (3 : Nat) (Option.none : Option Jvm.ClassFile.FieldType)) ∈ bd_tbl := bu_22 (List.mem_of_getElem? (i := 13) rfl)
theorem mw_542 : (Jvm.Cond.instanceMethod ({ cls := "BurnedDown$Looks", name := "take", desc := "(LBurnedDown$Looks;)V" } : Jvm.MethodName)) ∈ bd_tbl := bu_22 (List.mem_of_getElem? (i := 14) rfl)
theorem mw_543 : (Jvm.Cond.code ({ cls := "BurnedDown$Looks", name := "take", desc := "(LBurnedDown$Looks;)V" } : Jvm.MethodName) prog_6_method_4_code (2 : Nat) (Option.none : Option Jvm.ClassFile.FieldType)) ∈ bd_tbl := bu_22 (List.mem_of_getElem? (i := 15) rfl)
theorem mw_544 : (Jvm.Cond.methodLink "BurnedDownLaw" (124 : Nat) ({ cls := "BurnedDown", name := "on", desc := "()I" } : Jvm.MethodName)) ∈ bd_tbl := bu_22 (List.mem_of_getElem? (i := 16) rfl)
theorem mw_545 : (Jvm.Cond.instanceMethod ({ cls := "BurnedDown", name := "on", desc := "()I" } : Jvm.MethodName)) ∈ bd_tbl := bu_22 (List.mem_of_getElem? (i := 17) rfl)
theorem mw_546 : (Jvm.Cond.selects "BurnedDown" ({ cls := "BurnedDown", name := "on", desc := "()I" } : Jvm.MethodName) ({ cls := "BurnedDown", name := "on", desc := "()I" } : Jvm.MethodName)) ∈ bd_tbl := bu_22 (List.mem_of_getElem? (i := 18) rfl)
theorem mw_547 : (Jvm.Cond.code ({ cls := "BurnedDown", name := "on", desc := "()I" } : Jvm.MethodName) prog_1_method_27_code (1 : Nat) (Option.some Jvm.ClassFile.FieldType.int)) ∈ bd_tbl := bu_22 (List.mem_of_getElem? (i := 19) rfl)
theorem mw_548 : (Jvm.Cond.methodLink "BurnedDownLaw" (128 : Nat) ({ cls := "BurnedDown", name := "count", desc := "(I)I" } : Jvm.MethodName)) ∈ bd_tbl := bu_22 (List.mem_of_getElem? (i := 20) rfl)
theorem mw_549 : (Jvm.Cond.instanceMethod ({ cls := "BurnedDown", name := "count", desc := "(I)I" } : Jvm.MethodName)) ∈ bd_tbl := bu_22 (List.mem_of_getElem? (i := 21) rfl)
theorem mw_550 : (Jvm.Cond.selects "BurnedDown" ({ cls := "BurnedDown", name := "count", desc := "(I)I" } : Jvm.MethodName) ({ cls := "BurnedDown", name := "count", desc := "(I)I" } : Jvm.MethodName)) ∈ bd_tbl := bu_22 (List.mem_of_getElem? (i := 22) rfl)
theorem mw_551 : (Jvm.Cond.code ({ cls := "BurnedDown", name := "count", desc := "(I)I" } : Jvm.MethodName) prog_1_method_28_code (2 : Nat) (Option.some Jvm.ClassFile.FieldType.int)) ∈ bd_tbl := bu_22 (List.mem_of_getElem? (i := 23) rfl)
theorem mw_552 : (Jvm.Cond.instanceMethod ({ cls := "BurnedDown$Things", name := "joinings", desc := "()I" } : Jvm.MethodName)) ∈ bd_tbl := bu_23 (List.mem_of_getElem? (i := 0) rfl)
theorem mw_553 : (Jvm.Cond.code ({ cls := "BurnedDown$Things", name := "joinings", desc := "()I" } : Jvm.MethodName) prog_9_method_4_code (3 : Nat) (Option.some Jvm.ClassFile.FieldType.int)) ∈ bd_tbl := bu_23 (List.mem_of_getElem? (i := 1) rfl)
theorem mw_554 : (Jvm.Cond.classLink "BurnedDownLaw" (10 : Nat) "BurnedDownModel") ∈ bd_tbl := bu_23 (List.mem_of_getElem? (i := 2) rfl)
theorem mw_555 : (Jvm.Cond.instantiable "BurnedDownModel" (38 : Nat)) ∈ bd_tbl := bu_23 (List.mem_of_getElem? (i := 3) rfl)
theorem mw_556 : (Jvm.Cond.methodLink "BurnedDownLaw" (12 : Nat) ({ cls := "BurnedDownModel", name := "<init>", desc := "()V" } : Jvm.MethodName)) ∈ bd_tbl := bu_23 (List.mem_of_getElem? (i := 4) rfl)
theorem mw_557 : (Jvm.Cond.instanceMethod ({ cls := "BurnedDownModel", name := "<init>", desc := "()V" } : Jvm.MethodName)) ∈ bd_tbl := bu_23 (List.mem_of_getElem? (i := 5) rfl)
theorem mw_558 : (Jvm.Cond.code ({ cls := "BurnedDownModel", name := "<init>", desc := "()V" } : Jvm.MethodName) prog_12_method_1_code (2 : Nat) (Option.none : Option Jvm.ClassFile.FieldType)) ∈ bd_tbl := bu_23 (List.mem_of_getElem? (i := 6) rfl)
theorem mw_559 : (Jvm.Cond.methodLink "BurnedDownModel" (1 : Nat) ({ cls := "java/lang/Object", name := "<init>", desc := "()V" } : Jvm.MethodName)) ∈ bd_tbl := bu_23 (List.mem_of_getElem? (i := 7) rfl)
theorem mw_560 : (Jvm.Cond.fieldLink "BurnedDownModel" (7 : Nat) "BurnedDownModel" "refused" "[I") ∈ bd_tbl := bu_23 (List.mem_of_getElem? (i := 8) rfl)
theorem mw_561 : (Jvm.Cond.fieldLink "BurnedDownModel" (13 : Nat) "BurnedDownModel" "tape" "[I") ∈ bd_tbl := bu_23 (List.mem_of_getElem? (i := 9) rfl)
theorem mw_562 : (Jvm.Cond.fieldLink "BurnedDownModel" (16 : Nat) "BurnedDownModel" "law" "[I") ∈ bd_tbl := bu_23 (List.mem_of_getElem? (i := 10) rfl)
theorem mw_563 : (Jvm.Cond.fieldLink "BurnedDownModel" (19 : Nat) "BurnedDownModel" "beginning" "[I") ∈ bd_tbl := bu_23 (List.mem_of_getElem? (i := 11) rfl)
theorem mw_564 : (Jvm.Cond.fieldLink "BurnedDownModel" (22 : Nat) "BurnedDownModel" "pace" "[I") ∈ bd_tbl := bu_23 (List.mem_of_getElem? (i := 12) rfl)
theorem mw_565 : (Jvm.Cond.fieldLink "BurnedDownModel" (102 : Nat) "BurnedDownModel" "taped" "I") ∈ bd_tbl := bu_23 (List.mem_of_getElem? (i := 13) rfl)
theorem mw_566 : (Jvm.Cond.fieldLink "BurnedDownModel" (111 : Nat) "BurnedDownModel" "at" "I") ∈ bd_tbl := bu_23 (List.mem_of_getElem? (i := 14) rfl)
theorem mw_567 : (Jvm.Cond.fieldLink "BurnedDownModel" (125 : Nat) "BurnedDownModel" "things" "I") ∈ bd_tbl := bu_23 (List.mem_of_getElem? (i := 15) rfl)
theorem mw_568 : (Jvm.Cond.fieldLink "BurnedDownModel" (25 : Nat) "BurnedDownModel" "candidateFrom" "[I") ∈ bd_tbl := bu_23 (List.mem_of_getElem? (i := 16) rfl)
theorem mw_569 : (Jvm.Cond.fieldLink "BurnedDownModel" (28 : Nat) "BurnedDownModel" "candidateTo" "[I") ∈ bd_tbl := bu_23 (List.mem_of_getElem? (i := 17) rfl)
theorem mw_570 : (Jvm.Cond.fieldLink "BurnedDownModel" (31 : Nat) "BurnedDownModel" "room" "I") ∈ bd_tbl := bu_23 (List.mem_of_getElem? (i := 18) rfl)
theorem mw_571 : (Jvm.Cond.fieldLink "BurnedDownModel" (35 : Nat) "BurnedDownModel" "windowFrom" "I") ∈ bd_tbl := bu_23 (List.mem_of_getElem? (i := 19) rfl)
theorem mw_572 : (Jvm.Cond.fieldLink "BurnedDownModel" (38 : Nat) "BurnedDownModel" "windowTo" "I") ∈ bd_tbl := bu_23 (List.mem_of_getElem? (i := 20) rfl)
theorem mw_573 : (Jvm.Cond.fieldLink "BurnedDownModel" (136 : Nat) "BurnedDownModel" "candidates" "I") ∈ bd_tbl := bu_23 (List.mem_of_getElem? (i := 21) rfl)
theorem mw_574 : (Jvm.Cond.fieldLink "BurnedDownModel" (41 : Nat) "BurnedDownModel" "isNew" "Z") ∈ bd_tbl := bu_23 (List.mem_of_getElem? (i := 22) rfl)
theorem mw_575 : (Jvm.Cond.fieldLink "BurnedDownModel" (45 : Nat) "BurnedDownModel" "lookOf" "[I") ∈ bd_tbl := bu_23 (List.mem_of_getElem? (i := 23) rfl)
theorem mw_576 : (Jvm.Cond.fieldLink "BurnedDownModel" (48 : Nat) "BurnedDownModel" "lookAt" "[I") ∈ bd_tbl := bu_24 (List.mem_of_getElem? (i := 0) rfl)
theorem mw_577 : (Jvm.Cond.fieldLink "BurnedDownModel" (51 : Nat) "BurnedDownModel" "low" "[I") ∈ bd_tbl := bu_24 (List.mem_of_getElem? (i := 1) rfl)
theorem mw_578 : (Jvm.Cond.fieldLink "BurnedDownModel" (54 : Nat) "BurnedDownModel" "high" "[I") ∈ bd_tbl := bu_24 (List.mem_of_getElem? (i := 2) rfl)
theorem mw_579 : (Jvm.Cond.fieldLink "BurnedDownModel" (57 : Nat) "BurnedDownModel" "doubted" "[I") ∈ bd_tbl := bu_24 (List.mem_of_getElem? (i := 3) rfl)
theorem mw_580 : (Jvm.Cond.fieldLink "BurnedDownModel" (152 : Nat) "BurnedDownModel" "looks" "I") ∈ bd_tbl := bu_24 (List.mem_of_getElem? (i := 4) rfl)
theorem mw_581 : (Jvm.Cond.fieldLink "BurnedDownModel" (60 : Nat) "BurnedDownModel" "joinedTo" "[I") ∈ bd_tbl := bu_24 (List.mem_of_getElem? (i := 5) rfl)
theorem mw_582 : (Jvm.Cond.fieldLink "BurnedDownModel" (63 : Nat) "BurnedDownModel" "joinKind" "[I") ∈ bd_tbl := bu_24 (List.mem_of_getElem? (i := 6) rfl)
theorem mw_583 : (Jvm.Cond.fieldLink "BurnedDownModel" (66 : Nat) "BurnedDownModel" "joinN" "[I") ∈ bd_tbl := bu_24 (List.mem_of_getElem? (i := 7) rfl)
theorem mw_584 : (Jvm.Cond.fieldLink "BurnedDownModel" (69 : Nat) "BurnedDownModel" "lets" "[Z") ∈ bd_tbl := bu_24 (List.mem_of_getElem? (i := 8) rfl)
theorem mw_585 : (Jvm.Cond.fieldLink "BurnedDownModel" (73 : Nat) "BurnedDownModel" "from" "[I") ∈ bd_tbl := bu_24 (List.mem_of_getElem? (i := 9) rfl)
theorem mw_586 : (Jvm.Cond.fieldLink "BurnedDownModel" (76 : Nat) "BurnedDownModel" "to" "[I") ∈ bd_tbl := bu_24 (List.mem_of_getElem? (i := 10) rfl)
theorem mw_587 : (Jvm.Cond.fieldLink "BurnedDownModel" (79 : Nat) "BurnedDownModel" "many" "[J") ∈ bd_tbl := bu_24 (List.mem_of_getElem? (i := 11) rfl)
theorem mw_588 : (Jvm.Cond.fieldLink "BurnedDownModel" (83 : Nat) "BurnedDownModel" "below" "[J") ∈ bd_tbl := bu_24 (List.mem_of_getElem? (i := 12) rfl)
theorem mw_589 : (Jvm.Cond.fieldLink "BurnedDownModel" (159 : Nat) "BurnedDownModel" "leftOut" "I") ∈ bd_tbl := bu_24 (List.mem_of_getElem? (i := 13) rfl)
theorem mw_590 : (Jvm.Cond.fieldLink "BurnedDownModel" (86 : Nat) "BurnedDownModel" "isMay" "[Z") ∈ bd_tbl := bu_24 (List.mem_of_getElem? (i := 14) rfl)
theorem mw_591 : (Jvm.Cond.fieldLink "BurnedDownModel" (89 : Nat) "BurnedDownModel" "row" "[I") ∈ bd_tbl := bu_24 (List.mem_of_getElem? (i := 15) rfl)
theorem mw_592 : (Jvm.Cond.fieldLink "BurnedDownModel" (196 : Nat) "BurnedDownModel" "rowMany" "I") ∈ bd_tbl := bu_24 (List.mem_of_getElem? (i := 16) rfl)
theorem mw_593 : (Jvm.Cond.fieldLink "BurnedDownModel" (92 : Nat) "BurnedDownModel" "same" "[I") ∈ bd_tbl := bu_24 (List.mem_of_getElem? (i := 17) rfl)
theorem mw_594 : (Jvm.Cond.fieldLink "BurnedDownModel" (95 : Nat) "BurnedDownModel" "kept" "[I") ∈ bd_tbl := bu_24 (List.mem_of_getElem? (i := 18) rfl)
theorem mw_595 : (Jvm.Cond.fieldLink "BurnedDownModel" (221 : Nat) "BurnedDownModel" "hasImage" "Z") ∈ bd_tbl := bu_24 (List.mem_of_getElem? (i := 19) rfl)
theorem mw_596 : (Jvm.Cond.fieldLink "BurnedDownModel" (208 : Nat) "BurnedDownModel" "isKeeping" "Z") ∈ bd_tbl := bu_24 (List.mem_of_getElem? (i := 20) rfl)
theorem mw_597 : (Jvm.Cond.fieldLink "BurnedDownModel" (211 : Nat) "BurnedDownModel" "cursor" "I") ∈ bd_tbl := bu_24 (List.mem_of_getElem? (i := 21) rfl)
theorem mw_598 : (Jvm.Cond.laysFinal "BurnedDownModel" "BurnedDownModel" "refused" "[I") ∈ bd_tbl := bu_24 (List.mem_of_getElem? (i := 22) rfl)
theorem mw_599 : (Jvm.Cond.laysFinal "BurnedDownModel" "BurnedDownModel" "tape" "[I") ∈ bd_tbl := bu_24 (List.mem_of_getElem? (i := 23) rfl)
theorem mw_600 : (Jvm.Cond.laysFinal "BurnedDownModel" "BurnedDownModel" "law" "[I") ∈ bd_tbl := bu_25 (List.mem_of_getElem? (i := 0) rfl)
theorem mw_601 : (Jvm.Cond.laysFinal "BurnedDownModel" "BurnedDownModel" "beginning" "[I") ∈ bd_tbl := bu_25 (List.mem_of_getElem? (i := 1) rfl)
theorem mw_602 : (Jvm.Cond.laysFinal "BurnedDownModel" "BurnedDownModel" "pace" "[I") ∈ bd_tbl := bu_25 (List.mem_of_getElem? (i := 2) rfl)
theorem mw_603 : (Jvm.Cond.lays "BurnedDownModel" "BurnedDownModel" "taped" "I") ∈ bd_tbl := bu_25 (List.mem_of_getElem? (i := 3) rfl)
theorem mw_604 : (Jvm.Cond.lays "BurnedDownModel" "BurnedDownModel" "at" "I") ∈ bd_tbl := bu_25 (List.mem_of_getElem? (i := 4) rfl)
theorem mw_605 : (Jvm.Cond.lays "BurnedDownModel" "BurnedDownModel" "things" "I") ∈ bd_tbl := bu_25 (List.mem_of_getElem? (i := 5) rfl)
theorem mw_606 : (Jvm.Cond.laysFinal "BurnedDownModel" "BurnedDownModel" "candidateFrom" "[I") ∈ bd_tbl := bu_25 (List.mem_of_getElem? (i := 6) rfl)
theorem mw_607 : (Jvm.Cond.laysFinal "BurnedDownModel" "BurnedDownModel" "candidateTo" "[I") ∈ bd_tbl := bu_25 (List.mem_of_getElem? (i := 7) rfl)
theorem mw_608 : (Jvm.Cond.lays "BurnedDownModel" "BurnedDownModel" "room" "I") ∈ bd_tbl := bu_25 (List.mem_of_getElem? (i := 8) rfl)
theorem mw_609 : (Jvm.Cond.lays "BurnedDownModel" "BurnedDownModel" "windowFrom" "I") ∈ bd_tbl := bu_25 (List.mem_of_getElem? (i := 9) rfl)
theorem mw_610 : (Jvm.Cond.lays "BurnedDownModel" "BurnedDownModel" "windowTo" "I") ∈ bd_tbl := bu_25 (List.mem_of_getElem? (i := 10) rfl)
theorem mw_611 : (Jvm.Cond.lays "BurnedDownModel" "BurnedDownModel" "candidates" "I") ∈ bd_tbl := bu_25 (List.mem_of_getElem? (i := 11) rfl)
theorem mw_612 : (Jvm.Cond.lays "BurnedDownModel" "BurnedDownModel" "isNew" "Z") ∈ bd_tbl := bu_25 (List.mem_of_getElem? (i := 12) rfl)
theorem mw_613 : (Jvm.Cond.laysFinal "BurnedDownModel" "BurnedDownModel" "lookOf" "[I") ∈ bd_tbl := bu_25 (List.mem_of_getElem? (i := 13) rfl)
theorem mw_614 : (Jvm.Cond.laysFinal "BurnedDownModel" "BurnedDownModel" "lookAt" "[I") ∈ bd_tbl := bu_25 (List.mem_of_getElem? (i := 14) rfl)
theorem mw_615 : (Jvm.Cond.laysFinal "BurnedDownModel" "BurnedDownModel" "low" "[I") ∈ bd_tbl := bu_25 (List.mem_of_getElem? (i := 15) rfl)
theorem mw_616 : (Jvm.Cond.laysFinal "BurnedDownModel" "BurnedDownModel" "high" "[I") ∈ bd_tbl := bu_25 (List.mem_of_getElem? (i := 16) rfl)
theorem mw_617 : (Jvm.Cond.laysFinal "BurnedDownModel" "BurnedDownModel" "doubted" "[I") ∈ bd_tbl := bu_25 (List.mem_of_getElem? (i := 17) rfl)
theorem mw_618 : (Jvm.Cond.lays "BurnedDownModel" "BurnedDownModel" "looks" "I") ∈ bd_tbl := bu_25 (List.mem_of_getElem? (i := 18) rfl)
theorem mw_619 : (Jvm.Cond.laysFinal "BurnedDownModel" "BurnedDownModel" "joinedTo" "[I") ∈ bd_tbl := bu_25 (List.mem_of_getElem? (i := 19) rfl)
theorem mw_620 : (Jvm.Cond.laysFinal "BurnedDownModel" "BurnedDownModel" "joinKind" "[I") ∈ bd_tbl := bu_25 (List.mem_of_getElem? (i := 20) rfl)
theorem mw_621 : (Jvm.Cond.laysFinal "BurnedDownModel" "BurnedDownModel" "joinN" "[I") ∈ bd_tbl := bu_25 (List.mem_of_getElem? (i := 21) rfl)
theorem mw_622 : (Jvm.Cond.laysFinal "BurnedDownModel" "BurnedDownModel" "lets" "[Z") ∈ bd_tbl := bu_25 (List.mem_of_getElem? (i := 22) rfl)
theorem mw_623 : (Jvm.Cond.laysFinal "BurnedDownModel" "BurnedDownModel" "from" "[I") ∈ bd_tbl := bu_25 (List.mem_of_getElem? (i := 23) rfl)
theorem mw_624 : (Jvm.Cond.laysFinal "BurnedDownModel" "BurnedDownModel" "to" "[I") ∈ bd_tbl := bu_26 (List.mem_of_getElem? (i := 0) rfl)
theorem mw_625 : (Jvm.Cond.laysFinal "BurnedDownModel" "BurnedDownModel" "many" "[J") ∈ bd_tbl := bu_26 (List.mem_of_getElem? (i := 1) rfl)
theorem mw_626 : (Jvm.Cond.laysFinal "BurnedDownModel" "BurnedDownModel" "below" "[J") ∈ bd_tbl := bu_26 (List.mem_of_getElem? (i := 2) rfl)
theorem mw_627 : (Jvm.Cond.lays "BurnedDownModel" "BurnedDownModel" "leftOut" "I") ∈ bd_tbl := bu_26 (List.mem_of_getElem? (i := 3) rfl)
theorem mw_628 : (Jvm.Cond.laysFinal "BurnedDownModel" "BurnedDownModel" "isMay" "[Z") ∈ bd_tbl := bu_26 (List.mem_of_getElem? (i := 4) rfl)
theorem mw_629 : (Jvm.Cond.laysFinal "BurnedDownModel" "BurnedDownModel" "row" "[I") ∈ bd_tbl := bu_26 (List.mem_of_getElem? (i := 5) rfl)
theorem mw_630 : (Jvm.Cond.lays "BurnedDownModel" "BurnedDownModel" "rowMany" "I") ∈ bd_tbl := bu_26 (List.mem_of_getElem? (i := 6) rfl)
theorem mw_631 : (Jvm.Cond.laysFinal "BurnedDownModel" "BurnedDownModel" "same" "[I") ∈ bd_tbl := bu_26 (List.mem_of_getElem? (i := 7) rfl)
theorem mw_632 : (Jvm.Cond.laysFinal "BurnedDownModel" "BurnedDownModel" "kept" "[I") ∈ bd_tbl := bu_26 (List.mem_of_getElem? (i := 8) rfl)
theorem mw_633 : (Jvm.Cond.lays "BurnedDownModel" "BurnedDownModel" "hasImage" "Z") ∈ bd_tbl := bu_26 (List.mem_of_getElem? (i := 9) rfl)
theorem mw_634 : (Jvm.Cond.lays "BurnedDownModel" "BurnedDownModel" "isKeeping" "Z") ∈ bd_tbl := bu_26 (List.mem_of_getElem? (i := 10) rfl)
theorem mw_635 : (Jvm.Cond.lays "BurnedDownModel" "BurnedDownModel" "cursor" "I") ∈ bd_tbl := bu_26 (List.mem_of_getElem? (i := 11) rfl)
theorem mw_636 : (Jvm.Cond.arrayClass Jvm.ClassFile.FieldType.boolean) ∈ bd_tbl := bu_26 (List.mem_of_getElem? (i := 12) rfl)
theorem mw_637 : (Jvm.Cond.methodLink "BurnedDownLaw" (19 : Nat) ({ cls := "BurnedDownModel", name := "feed", desc := "(IJ)I" } : Jvm.MethodName)) ∈ bd_tbl := bu_26 (List.mem_of_getElem? (i := 13) rfl)
theorem mw_638 : (Jvm.Cond.instanceMethod ({ cls := "BurnedDownModel", name := "feed", desc := "(IJ)I" } : Jvm.MethodName)) ∈ bd_tbl := bu_26 (List.mem_of_getElem? (i := 14) rfl)
theorem mw_639 : (Jvm.Cond.selects "BurnedDownModel" ({ cls := "BurnedDownModel", name := "feed", desc := "(IJ)I" } : Jvm.MethodName) ({ cls := "BurnedDownModel", name := "feed", desc := "(IJ)I" } : Jvm.MethodName)) ∈ bd_tbl := bu_26 (List.mem_of_getElem? (i := 15) rfl)
theorem mw_640 : (Jvm.Cond.code ({ cls := "BurnedDownModel", name := "feed", desc := "(IJ)I" } : Jvm.MethodName) prog_12_method_6_code (6 : Nat) (Option.some Jvm.ClassFile.FieldType.int)) ∈ bd_tbl := bu_26 (List.mem_of_getElem? (i := 16) rfl)
theorem mw_641 : (Jvm.Cond.methodLink "BurnedDownModel" (98 : Nat) ({ cls := "BurnedDownModel", name := "out", desc := "(III)I" } : Jvm.MethodName)) ∈ bd_tbl := bu_26 (List.mem_of_getElem? (i := 17) rfl)
theorem mw_642 : (Jvm.Cond.static ({ cls := "BurnedDownModel", name := "out", desc := "(III)I" } : Jvm.MethodName)) ∈ bd_tbl := bu_26 (List.mem_of_getElem? (i := 18) rfl)
theorem mw_643 : (Jvm.Cond.code ({ cls := "BurnedDownModel", name := "out", desc := "(III)I" } : Jvm.MethodName) prog_12_method_4_code (3 : Nat) (Option.some Jvm.ClassFile.FieldType.int)) ∈ bd_tbl := bu_26 (List.mem_of_getElem? (i := 19) rfl)
theorem mw_644 : (Jvm.Cond.methodLink "BurnedDownModel" (105 : Nat) ({ cls := "BurnedDownModel", name := "no", desc := "(I)I" } : Jvm.MethodName)) ∈ bd_tbl := bu_26 (List.mem_of_getElem? (i := 20) rfl)
theorem mw_645 : (Jvm.Cond.instanceMethod ({ cls := "BurnedDownModel", name := "no", desc := "(I)I" } : Jvm.MethodName)) ∈ bd_tbl := bu_26 (List.mem_of_getElem? (i := 21) rfl)
theorem mw_646 : (Jvm.Cond.code ({ cls := "BurnedDownModel", name := "no", desc := "(I)I" } : Jvm.MethodName) prog_12_method_2_code (2 : Nat) (Option.some Jvm.ClassFile.FieldType.int)) ∈ bd_tbl := bu_26 (List.mem_of_getElem? (i := 22) rfl)
theorem mw_647 : (Jvm.Cond.constantLong "BurnedDownModel" (109 : Nat) (255 : Int64)) ∈ bd_tbl := bu_26 (List.mem_of_getElem? (i := 23) rfl)
theorem mw_648 : (Jvm.Cond.methodLink "BurnedDownLaw" (24 : Nat) ({ cls := "BurnedDownModel", name := "thing", desc := "()I" } : Jvm.MethodName)) ∈ bd_tbl := bu_27 (List.mem_of_getElem? (i := 0) rfl)
theorem mw_649 : (Jvm.Cond.instanceMethod ({ cls := "BurnedDownModel", name := "thing", desc := "()I" } : Jvm.MethodName)) ∈ bd_tbl := bu_27 (List.mem_of_getElem? (i := 1) rfl)
theorem mw_650 : (Jvm.Cond.selects "BurnedDownModel" ({ cls := "BurnedDownModel", name := "thing", desc := "()I" } : Jvm.MethodName) ({ cls := "BurnedDownModel", name := "thing", desc := "()I" } : Jvm.MethodName)) ∈ bd_tbl := bu_27 (List.mem_of_getElem? (i := 2) rfl)
theorem mw_651 : (Jvm.Cond.code ({ cls := "BurnedDownModel", name := "thing", desc := "()I" } : Jvm.MethodName) prog_12_method_10_code (2 : Nat) (Option.some Jvm.ClassFile.FieldType.int)) ∈ bd_tbl := bu_27 (List.mem_of_getElem? (i := 3) rfl)
theorem mw_652 : (Jvm.Cond.methodLink "BurnedDownModel" (128 : Nat) ({ cls := "BurnedDownModel", name := "reads", desc := "()Z" } : Jvm.MethodName)) ∈ bd_tbl := bu_27 (List.mem_of_getElem? (i := 4) rfl)
theorem mw_653 : (Jvm.Cond.instanceMethod ({ cls := "BurnedDownModel", name := "reads", desc := "()Z" } : Jvm.MethodName)) ∈ bd_tbl := bu_27 (List.mem_of_getElem? (i := 5) rfl)
theorem mw_654 : (Jvm.Cond.code ({ cls := "BurnedDownModel", name := "reads", desc := "()Z" } : Jvm.MethodName) prog_12_method_9_code (5 : Nat) (Option.some Jvm.ClassFile.FieldType.boolean)) ∈ bd_tbl := bu_27 (List.mem_of_getElem? (i := 6) rfl)
theorem mw_655 : (Jvm.Cond.methodLink "BurnedDownModel" (114 : Nat) ({ cls := "BurnedDownModel", name := "sign", desc := "()I" } : Jvm.MethodName)) ∈ bd_tbl := bu_27 (List.mem_of_getElem? (i := 7) rfl)
theorem mw_656 : (Jvm.Cond.instanceMethod ({ cls := "BurnedDownModel", name := "sign", desc := "()I" } : Jvm.MethodName)) ∈ bd_tbl := bu_27 (List.mem_of_getElem? (i := 8) rfl)
theorem mw_657 : (Jvm.Cond.code ({ cls := "BurnedDownModel", name := "sign", desc := "()I" } : Jvm.MethodName) prog_12_method_7_code (1 : Nat) (Option.some Jvm.ClassFile.FieldType.int)) ∈ bd_tbl := bu_27 (List.mem_of_getElem? (i := 9) rfl)
theorem mw_658 : (Jvm.Cond.methodLink "BurnedDownModel" (122 : Nat) ({ cls := "BurnedDownModel", name := "number", desc := "(I)I" } : Jvm.MethodName)) ∈ bd_tbl := bu_27 (List.mem_of_getElem? (i := 10) rfl)
theorem mw_659 : (Jvm.Cond.instanceMethod ({ cls := "BurnedDownModel", name := "number", desc := "(I)I" } : Jvm.MethodName)) ∈ bd_tbl := bu_27 (List.mem_of_getElem? (i := 11) rfl)
theorem mw_660 : (Jvm.Cond.code ({ cls := "BurnedDownModel", name := "number", desc := "(I)I" } : Jvm.MethodName) prog_12_method_8_code (4 : Nat) (Option.some Jvm.ClassFile.FieldType.int)) ∈ bd_tbl := bu_27 (List.mem_of_getElem? (i := 12) rfl)
theorem mw_661 : (Jvm.Cond.methodLink "BurnedDownModel" (118 : Nat) ({ cls := "BurnedDownModel", name := "isIn", desc := "(III)Z" } : Jvm.MethodName)) ∈ bd_tbl := bu_27 (List.mem_of_getElem? (i := 13) rfl)
theorem mw_662 : (Jvm.Cond.static ({ cls := "BurnedDownModel", name := "isIn", desc := "(III)Z" } : Jvm.MethodName)) ∈ bd_tbl := bu_27 (List.mem_of_getElem? (i := 14) rfl)
theorem mw_663 : (Jvm.Cond.code ({ cls := "BurnedDownModel", name := "isIn", desc := "(III)Z" } : Jvm.MethodName) prog_12_method_3_code (3 : Nat) (Option.some Jvm.ClassFile.FieldType.boolean)) ∈ bd_tbl := bu_27 (List.mem_of_getElem? (i := 15) rfl)
theorem mw_664 : (Jvm.Cond.methodLink "BurnedDownLaw" (29 : Nat) ({ cls := "BurnedDownModel", name := "thingOf", desc := "(II)I" } : Jvm.MethodName)) ∈ bd_tbl := bu_27 (List.mem_of_getElem? (i := 16) rfl)
theorem mw_665 : (Jvm.Cond.instanceMethod ({ cls := "BurnedDownModel", name := "thingOf", desc := "(II)I" } : Jvm.MethodName)) ∈ bd_tbl := bu_27 (List.mem_of_getElem? (i := 17) rfl)
theorem mw_666 : (Jvm.Cond.selects "BurnedDownModel" ({ cls := "BurnedDownModel", name := "thingOf", desc := "(II)I" } : Jvm.MethodName) ({ cls := "BurnedDownModel", name := "thingOf", desc := "(II)I" } : Jvm.MethodName)) ∈ bd_tbl := bu_27 (List.mem_of_getElem? (i := 18) rfl)
theorem mw_667 : (Jvm.Cond.code ({ cls := "BurnedDownModel", name := "thingOf", desc := "(II)I" } : Jvm.MethodName) prog_12_method_12_code (3 : Nat) (Option.some Jvm.ClassFile.FieldType.int)) ∈ bd_tbl := bu_27 (List.mem_of_getElem? (i := 19) rfl)
theorem mw_668 : (Jvm.Cond.methodLink "BurnedDownModel" (132 : Nat) ({ cls := "BurnedDownModel", name := "isThing", desc := "(I)Z" } : Jvm.MethodName)) ∈ bd_tbl := bu_27 (List.mem_of_getElem? (i := 20) rfl)
theorem mw_669 : (Jvm.Cond.instanceMethod ({ cls := "BurnedDownModel", name := "isThing", desc := "(I)Z" } : Jvm.MethodName)) ∈ bd_tbl := bu_27 (List.mem_of_getElem? (i := 21) rfl)
theorem mw_670 : (Jvm.Cond.code ({ cls := "BurnedDownModel", name := "isThing", desc := "(I)Z" } : Jvm.MethodName) prog_12_method_11_code (2 : Nat) (Option.some Jvm.ClassFile.FieldType.boolean)) ∈ bd_tbl := bu_27 (List.mem_of_getElem? (i := 22) rfl)
theorem mw_671 : (Jvm.Cond.methodLink "BurnedDownLaw" (34 : Nat) ({ cls := "BurnedDownModel", name := "room", desc := "(I)I" } : Jvm.MethodName)) ∈ bd_tbl := bu_27 (List.mem_of_getElem? (i := 23) rfl)
theorem mw_672 : (Jvm.Cond.instanceMethod ({ cls := "BurnedDownModel", name := "room", desc := "(I)I" } : Jvm.MethodName)) ∈ bd_tbl := bu_28 (List.mem_of_getElem? (i := 0) rfl)
theorem mw_673 : (Jvm.Cond.selects "BurnedDownModel" ({ cls := "BurnedDownModel", name := "room", desc := "(I)I" } : Jvm.MethodName) ({ cls := "BurnedDownModel", name := "room", desc := "(I)I" } : Jvm.MethodName)) ∈ bd_tbl := bu_28 (List.mem_of_getElem? (i := 1) rfl)
theorem mw_674 : (Jvm.Cond.code ({ cls := "BurnedDownModel", name := "room", desc := "(I)I" } : Jvm.MethodName) prog_12_method_13_code (4 : Nat) (Option.some Jvm.ClassFile.FieldType.int)) ∈ bd_tbl := bu_28 (List.mem_of_getElem? (i := 2) rfl)
theorem mw_675 : (Jvm.Cond.methodLink "BurnedDownLaw" (38 : Nat) ({ cls := "BurnedDownModel", name := "window", desc := "(II)I" } : Jvm.MethodName)) ∈ bd_tbl := bu_28 (List.mem_of_getElem? (i := 3) rfl)
theorem mw_676 : (Jvm.Cond.instanceMethod ({ cls := "BurnedDownModel", name := "window", desc := "(II)I" } : Jvm.MethodName)) ∈ bd_tbl := bu_28 (List.mem_of_getElem? (i := 4) rfl)
theorem mw_677 : (Jvm.Cond.selects "BurnedDownModel" ({ cls := "BurnedDownModel", name := "window", desc := "(II)I" } : Jvm.MethodName) ({ cls := "BurnedDownModel", name := "window", desc := "(II)I" } : Jvm.MethodName)) ∈ bd_tbl := bu_28 (List.mem_of_getElem? (i := 5) rfl)
theorem mw_678 : (Jvm.Cond.code ({ cls := "BurnedDownModel", name := "window", desc := "(II)I" } : Jvm.MethodName) prog_12_method_14_code (4 : Nat) (Option.some Jvm.ClassFile.FieldType.int)) ∈ bd_tbl := bu_28 (List.mem_of_getElem? (i := 6) rfl)
theorem mw_679 : (Jvm.Cond.methodLink "BurnedDownLaw" (42 : Nat) ({ cls := "BurnedDownModel", name := "candidate", desc := "(II)I" } : Jvm.MethodName)) ∈ bd_tbl := bu_28 (List.mem_of_getElem? (i := 7) rfl)
theorem mw_680 : (Jvm.Cond.instanceMethod ({ cls := "BurnedDownModel", name := "candidate", desc := "(II)I" } : Jvm.MethodName)) ∈ bd_tbl := bu_28 (List.mem_of_getElem? (i := 8) rfl)
theorem mw_681 : (Jvm.Cond.selects "BurnedDownModel" ({ cls := "BurnedDownModel", name := "candidate", desc := "(II)I" } : Jvm.MethodName) ({ cls := "BurnedDownModel", name := "candidate", desc := "(II)I" } : Jvm.MethodName)) ∈ bd_tbl := bu_28 (List.mem_of_getElem? (i := 9) rfl)
theorem mw_682 : (Jvm.Cond.code ({ cls := "BurnedDownModel", name := "candidate", desc := "(II)I" } : Jvm.MethodName) prog_12_method_15_code (4 : Nat) (Option.some Jvm.ClassFile.FieldType.int)) ∈ bd_tbl := bu_28 (List.mem_of_getElem? (i := 10) rfl)
theorem mw_683 : (Jvm.Cond.methodLink "BurnedDownLaw" (47 : Nat) ({ cls := "BurnedDownModel", name := "left", desc := "(III)I" } : Jvm.MethodName)) ∈ bd_tbl := bu_28 (List.mem_of_getElem? (i := 11) rfl)
theorem mw_684 : (Jvm.Cond.instanceMethod ({ cls := "BurnedDownModel", name := "left", desc := "(III)I" } : Jvm.MethodName)) ∈ bd_tbl := bu_28 (List.mem_of_getElem? (i := 12) rfl)
theorem mw_685 : (Jvm.Cond.selects "BurnedDownModel" ({ cls := "BurnedDownModel", name := "left", desc := "(III)I" } : Jvm.MethodName) ({ cls := "BurnedDownModel", name := "left", desc := "(III)I" } : Jvm.MethodName)) ∈ bd_tbl := bu_28 (List.mem_of_getElem? (i := 13) rfl)
theorem mw_686 : (Jvm.Cond.code ({ cls := "BurnedDownModel", name := "left", desc := "(III)I" } : Jvm.MethodName) prog_12_method_19_code (5 : Nat) (Option.some Jvm.ClassFile.FieldType.int)) ∈ bd_tbl := bu_28 (List.mem_of_getElem? (i := 14) rfl)
theorem mw_687 : (Jvm.Cond.methodLink "BurnedDownModel" (146 : Nat) ({ cls := "BurnedDownModel", name := "why", desc := "(II)I" } : Jvm.MethodName)) ∈ bd_tbl := bu_28 (List.mem_of_getElem? (i := 15) rfl)
theorem mw_688 : (Jvm.Cond.static ({ cls := "BurnedDownModel", name := "why", desc := "(II)I" } : Jvm.MethodName)) ∈ bd_tbl := bu_28 (List.mem_of_getElem? (i := 16) rfl)
theorem mw_689 : (Jvm.Cond.code ({ cls := "BurnedDownModel", name := "why", desc := "(II)I" } : Jvm.MethodName) prog_12_method_5_code (2 : Nat) (Option.some Jvm.ClassFile.FieldType.int)) ∈ bd_tbl := bu_28 (List.mem_of_getElem? (i := 17) rfl)
theorem mw_690 : (Jvm.Cond.methodLink "BurnedDownModel" (149 : Nat) ({ cls := "BurnedDownModel", name := "leftOf", desc := "(III)I" } : Jvm.MethodName)) ∈ bd_tbl := bu_28 (List.mem_of_getElem? (i := 18) rfl)
theorem mw_691 : (Jvm.Cond.instanceMethod ({ cls := "BurnedDownModel", name := "leftOf", desc := "(III)I" } : Jvm.MethodName)) ∈ bd_tbl := bu_28 (List.mem_of_getElem? (i := 19) rfl)
theorem mw_692 : (Jvm.Cond.code ({ cls := "BurnedDownModel", name := "leftOf", desc := "(III)I" } : Jvm.MethodName) prog_12_method_18_code (6 : Nat) (Option.some Jvm.ClassFile.FieldType.int)) ∈ bd_tbl := bu_28 (List.mem_of_getElem? (i := 20) rfl)
theorem mw_693 : (Jvm.Cond.methodLink "BurnedDownModel" (139 : Nat) ({ cls := "BurnedDownModel", name := "isOpen", desc := "(I)Z" } : Jvm.MethodName)) ∈ bd_tbl := bu_28 (List.mem_of_getElem? (i := 21) rfl)
theorem mw_694 : (Jvm.Cond.instanceMethod ({ cls := "BurnedDownModel", name := "isOpen", desc := "(I)Z" } : Jvm.MethodName)) ∈ bd_tbl := bu_28 (List.mem_of_getElem? (i := 22) rfl)
theorem mw_695 : (Jvm.Cond.code ({ cls := "BurnedDownModel", name := "isOpen", desc := "(I)Z" } : Jvm.MethodName) prog_12_method_16_code (2 : Nat) (Option.some Jvm.ClassFile.FieldType.boolean)) ∈ bd_tbl := bu_28 (List.mem_of_getElem? (i := 23) rfl)
theorem mw_696 : (Jvm.Cond.methodLink "BurnedDownModel" (142 : Nat) ({ cls := "BurnedDownModel", name := "nearer", desc := "(II)I" } : Jvm.MethodName)) ∈ bd_tbl := bu_29 (List.mem_of_getElem? (i := 0) rfl)
theorem mw_697 : (Jvm.Cond.instanceMethod ({ cls := "BurnedDownModel", name := "nearer", desc := "(II)I" } : Jvm.MethodName)) ∈ bd_tbl := bu_29 (List.mem_of_getElem? (i := 1) rfl)
theorem mw_698 : (Jvm.Cond.code ({ cls := "BurnedDownModel", name := "nearer", desc := "(II)I" } : Jvm.MethodName) prog_12_method_17_code (5 : Nat) (Option.some Jvm.ClassFile.FieldType.int)) ∈ bd_tbl := bu_29 (List.mem_of_getElem? (i := 2) rfl)
theorem mw_699 : (Jvm.Cond.methodLink "BurnedDownLaw" (52 : Nat) ({ cls := "BurnedDownModel", name := "look", desc := "(IIII)I" } : Jvm.MethodName)) ∈ bd_tbl := bu_29 (List.mem_of_getElem? (i := 3) rfl)
theorem mw_700 : (Jvm.Cond.instanceMethod ({ cls := "BurnedDownModel", name := "look", desc := "(IIII)I" } : Jvm.MethodName)) ∈ bd_tbl := bu_29 (List.mem_of_getElem? (i := 4) rfl)
theorem mw_701 : (Jvm.Cond.selects "BurnedDownModel" ({ cls := "BurnedDownModel", name := "look", desc := "(IIII)I" } : Jvm.MethodName) ({ cls := "BurnedDownModel", name := "look", desc := "(IIII)I" } : Jvm.MethodName)) ∈ bd_tbl := bu_29 (List.mem_of_getElem? (i := 5) rfl)
theorem mw_702 : (Jvm.Cond.code ({ cls := "BurnedDownModel", name := "look", desc := "(IIII)I" } : Jvm.MethodName) prog_12_method_20_code (6 : Nat) (Option.some Jvm.ClassFile.FieldType.int)) ∈ bd_tbl := bu_29 (List.mem_of_getElem? (i := 6) rfl)
theorem mw_703 : (Jvm.Cond.methodLink "BurnedDownLaw" (57 : Nat) ({ cls := "BurnedDownModel", name := "doubt", desc := "(IZ)I" } : Jvm.MethodName)) ∈ bd_tbl := bu_29 (List.mem_of_getElem? (i := 7) rfl)
theorem mw_704 : (Jvm.Cond.instanceMethod ({ cls := "BurnedDownModel", name := "doubt", desc := "(IZ)I" } : Jvm.MethodName)) ∈ bd_tbl := bu_29 (List.mem_of_getElem? (i := 8) rfl)
theorem mw_705 : (Jvm.Cond.selects "BurnedDownModel" ({ cls := "BurnedDownModel", name := "doubt", desc := "(IZ)I" } : Jvm.MethodName) ({ cls := "BurnedDownModel", name := "doubt", desc := "(IZ)I" } : Jvm.MethodName)) ∈ bd_tbl := bu_29 (List.mem_of_getElem? (i := 9) rfl)
theorem mw_706 : (Jvm.Cond.code ({ cls := "BurnedDownModel", name := "doubt", desc := "(IZ)I" } : Jvm.MethodName) prog_12_method_21_code (3 : Nat) (Option.some Jvm.ClassFile.FieldType.int)) ∈ bd_tbl := bu_29 (List.mem_of_getElem? (i := 10) rfl)
theorem mw_707 : (Jvm.Cond.methodLink "BurnedDownLaw" (61 : Nat) ({ cls := "BurnedDownModel", name := "join", desc := "(IIII)I" } : Jvm.MethodName)) ∈ bd_tbl := bu_29 (List.mem_of_getElem? (i := 11) rfl)
theorem mw_708 : (Jvm.Cond.instanceMethod ({ cls := "BurnedDownModel", name := "join", desc := "(IIII)I" } : Jvm.MethodName)) ∈ bd_tbl := bu_29 (List.mem_of_getElem? (i := 12) rfl)
theorem mw_709 : (Jvm.Cond.selects "BurnedDownModel" ({ cls := "BurnedDownModel", name := "join", desc := "(IIII)I" } : Jvm.MethodName) ({ cls := "BurnedDownModel", name := "join", desc := "(IIII)I" } : Jvm.MethodName)) ∈ bd_tbl := bu_29 (List.mem_of_getElem? (i := 13) rfl)
theorem mw_710 : (Jvm.Cond.code ({ cls := "BurnedDownModel", name := "join", desc := "(IIII)I" } : Jvm.MethodName) prog_12_method_22_code (6 : Nat) (Option.some Jvm.ClassFile.FieldType.int)) ∈ bd_tbl := bu_29 (List.mem_of_getElem? (i := 14) rfl)
theorem mw_711 : (Jvm.Cond.methodLink "BurnedDownLaw" (65 : Nat) ({ cls := "BurnedDownModel", name := "alone", desc := "(I)I" } : Jvm.MethodName)) ∈ bd_tbl := bu_29 (List.mem_of_getElem? (i := 15) rfl)
theorem mw_712 : (Jvm.Cond.instanceMethod ({ cls := "BurnedDownModel", name := "alone", desc := "(I)I" } : Jvm.MethodName)) ∈ bd_tbl := bu_29 (List.mem_of_getElem? (i := 16) rfl)
theorem mw_713 : (Jvm.Cond.selects "BurnedDownModel" ({ cls := "BurnedDownModel", name := "alone", desc := "(I)I" } : Jvm.MethodName) ({ cls := "BurnedDownModel", name := "alone", desc := "(I)I" } : Jvm.MethodName)) ∈ bd_tbl := bu_29 (List.mem_of_getElem? (i := 17) rfl)
theorem mw_714 : (Jvm.Cond.code ({ cls := "BurnedDownModel", name := "alone", desc := "(I)I" } : Jvm.MethodName) prog_12_method_32_code (4 : Nat) (Option.some Jvm.ClassFile.FieldType.int)) ∈ bd_tbl := bu_29 (List.mem_of_getElem? (i := 18) rfl)
theorem mw_715 : (Jvm.Cond.methodLink "BurnedDownModel" (182 : Nat) ({ cls := "BurnedDownModel", name := "finds", desc := "()V" } : Jvm.MethodName)) ∈ bd_tbl := bu_29 (List.mem_of_getElem? (i := 19) rfl)
theorem mw_716 : (Jvm.Cond.instanceMethod ({ cls := "BurnedDownModel", name := "finds", desc := "()V" } : Jvm.MethodName)) ∈ bd_tbl := bu_29 (List.mem_of_getElem? (i := 20) rfl)
theorem mw_717 : (Jvm.Cond.code ({ cls := "BurnedDownModel", name := "finds", desc := "()V" } : Jvm.MethodName) prog_12_method_24_code (3 : Nat) (Option.none : Option Jvm.ClassFile.FieldType)) ∈ bd_tbl := bu_29 (List.mem_of_getElem? (i := 21) rfl)
theorem mw_718 : (Jvm.Cond.methodLink "BurnedDownModel" (155 : Nat) ({ cls := "BurnedDownModel", name := "letsBy", desc := "(II)Z" } : Jvm.MethodName)) ∈ bd_tbl := bu_29 (List.mem_of_getElem? (i := 22) rfl)
theorem mw_719 : (Jvm.Cond.instanceMethod ({ cls := "BurnedDownModel", name := "letsBy", desc := "(II)Z" } : Jvm.MethodName)) ∈ bd_tbl := bu_29 (List.mem_of_getElem? (i := 23) rfl)
theorem mw_720 : (Jvm.Cond.code ({ cls := "BurnedDownModel", name := "letsBy", desc := "(II)Z" } : Jvm.MethodName) prog_12_method_23_code (4 : Nat) (Option.some Jvm.ClassFile.FieldType.boolean)) ∈ bd_tbl := bu_30 (List.mem_of_getElem? (i := 0) rfl)
theorem mw_721 : (Jvm.Cond.methodLink "BurnedDownModel" (175 : Nat) ({ cls := "BurnedDownModel", name := "frees", desc := "()V" } : Jvm.MethodName)) ∈ bd_tbl := bu_30 (List.mem_of_getElem? (i := 1) rfl)
theorem mw_722 : (Jvm.Cond.instanceMethod ({ cls := "BurnedDownModel", name := "frees", desc := "()V" } : Jvm.MethodName)) ∈ bd_tbl := bu_30 (List.mem_of_getElem? (i := 2) rfl)
theorem mw_723 : (Jvm.Cond.code ({ cls := "BurnedDownModel", name := "frees", desc := "()V" } : Jvm.MethodName) prog_12_method_27_code (2 : Nat) (Option.none : Option Jvm.ClassFile.FieldType)) ∈ bd_tbl := bu_30 (List.mem_of_getElem? (i := 3) rfl)
theorem mw_724 : (Jvm.Cond.methodLink "BurnedDownModel" (169 : Nat) ({ cls := "BurnedDownModel", name := "canOf", desc := "(II)Z" } : Jvm.MethodName)) ∈ bd_tbl := bu_30 (List.mem_of_getElem? (i := 4) rfl)
theorem mw_725 : (Jvm.Cond.instanceMethod ({ cls := "BurnedDownModel", name := "canOf", desc := "(II)Z" } : Jvm.MethodName)) ∈ bd_tbl := bu_30 (List.mem_of_getElem? (i := 5) rfl)
theorem mw_726 : (Jvm.Cond.code ({ cls := "BurnedDownModel", name := "canOf", desc := "(II)Z" } : Jvm.MethodName) prog_12_method_26_code (4 : Nat) (Option.some Jvm.ClassFile.FieldType.boolean)) ∈ bd_tbl := bu_30 (List.mem_of_getElem? (i := 6) rfl)
theorem mw_727 : (Jvm.Cond.methodLink "BurnedDownModel" (162 : Nat) ({ cls := "BurnedDownModel", name := "counts", desc := "(I)Z" } : Jvm.MethodName)) ∈ bd_tbl := bu_30 (List.mem_of_getElem? (i := 7) rfl)
theorem mw_728 : (Jvm.Cond.instanceMethod ({ cls := "BurnedDownModel", name := "counts", desc := "(I)Z" } : Jvm.MethodName)) ∈ bd_tbl := bu_30 (List.mem_of_getElem? (i := 8) rfl)
theorem mw_729 : (Jvm.Cond.code ({ cls := "BurnedDownModel", name := "counts", desc := "(I)Z" } : Jvm.MethodName) prog_12_method_25_code (2 : Nat) (Option.some Jvm.ClassFile.FieldType.boolean)) ∈ bd_tbl := bu_30 (List.mem_of_getElem? (i := 9) rfl)
theorem mw_730 : (Jvm.Cond.methodLink "BurnedDownLaw" (69 : Nat) ({ cls := "BurnedDownModel", name := "can", desc := "(II)I" } : Jvm.MethodName)) ∈ bd_tbl := bu_30 (List.mem_of_getElem? (i := 10) rfl)
theorem mw_731 : (Jvm.Cond.instanceMethod ({ cls := "BurnedDownModel", name := "can", desc := "(II)I" } : Jvm.MethodName)) ∈ bd_tbl := bu_30 (List.mem_of_getElem? (i := 11) rfl)
theorem mw_732 : (Jvm.Cond.selects "BurnedDownModel" ({ cls := "BurnedDownModel", name := "can", desc := "(II)I" } : Jvm.MethodName) ({ cls := "BurnedDownModel", name := "can", desc := "(II)I" } : Jvm.MethodName)) ∈ bd_tbl := bu_30 (List.mem_of_getElem? (i := 12) rfl)
theorem mw_733 : (Jvm.Cond.code ({ cls := "BurnedDownModel", name := "can", desc := "(II)I" } : Jvm.MethodName) prog_12_method_33_code (4 : Nat) (Option.some Jvm.ClassFile.FieldType.int)) ∈ bd_tbl := bu_30 (List.mem_of_getElem? (i := 13) rfl)
theorem mw_734 : (Jvm.Cond.methodLink "BurnedDownLaw" (74 : Nat) ({ cls := "BurnedDownModel", name := "ways", desc := "()J" } : Jvm.MethodName)) ∈ bd_tbl := bu_30 (List.mem_of_getElem? (i := 14) rfl)
theorem mw_735 : (Jvm.Cond.instanceMethod ({ cls := "BurnedDownModel", name := "ways", desc := "()J" } : Jvm.MethodName)) ∈ bd_tbl := bu_30 (List.mem_of_getElem? (i := 15) rfl)
theorem mw_736 : (Jvm.Cond.selects "BurnedDownModel" ({ cls := "BurnedDownModel", name := "ways", desc := "()J" } : Jvm.MethodName) ({ cls := "BurnedDownModel", name := "ways", desc := "()J" } : Jvm.MethodName)) ∈ bd_tbl := bu_30 (List.mem_of_getElem? (i := 16) rfl)
theorem mw_737 : (Jvm.Cond.code ({ cls := "BurnedDownModel", name := "ways", desc := "()J" } : Jvm.MethodName) prog_12_method_34_code (1 : Nat) (Option.some Jvm.ClassFile.FieldType.long)) ∈ bd_tbl := bu_30 (List.mem_of_getElem? (i := 17) rfl)
theorem mw_738 : (Jvm.Cond.methodLink "BurnedDownModel" (178 : Nat) ({ cls := "BurnedDownModel", name := "waysOf", desc := "()J" } : Jvm.MethodName)) ∈ bd_tbl := bu_30 (List.mem_of_getElem? (i := 18) rfl)
theorem mw_739 : (Jvm.Cond.instanceMethod ({ cls := "BurnedDownModel", name := "waysOf", desc := "()J" } : Jvm.MethodName)) ∈ bd_tbl := bu_30 (List.mem_of_getElem? (i := 19) rfl)
theorem mw_740 : (Jvm.Cond.code ({ cls := "BurnedDownModel", name := "waysOf", desc := "()J" } : Jvm.MethodName) prog_12_method_30_code (5 : Nat) (Option.some Jvm.ClassFile.FieldType.long)) ∈ bd_tbl := bu_30 (List.mem_of_getElem? (i := 20) rfl)
theorem mw_741 : (Jvm.Cond.methodLink "BurnedDownModel" (172 : Nat) ({ cls := "BurnedDownModel", name := "joined", desc := "(II)J" } : Jvm.MethodName)) ∈ bd_tbl := bu_30 (List.mem_of_getElem? (i := 21) rfl)
theorem mw_742 : (Jvm.Cond.instanceMethod ({ cls := "BurnedDownModel", name := "joined", desc := "(II)J" } : Jvm.MethodName)) ∈ bd_tbl := bu_30 (List.mem_of_getElem? (i := 22) rfl)
theorem mw_743 : (Jvm.Cond.code ({ cls := "BurnedDownModel", name := "joined", desc := "(II)J" } : Jvm.MethodName) prog_12_method_29_code (4 : Nat) (Option.some Jvm.ClassFile.FieldType.long)) ∈ bd_tbl := bu_30 (List.mem_of_getElem? (i := 23) rfl)
theorem mw_744 : (Jvm.Cond.methodLink "BurnedDownModel" (165 : Nat) ({ cls := "BurnedDownModel", name := "between", desc := "(II)J" } : Jvm.MethodName)) ∈ bd_tbl := bu_31 (List.mem_of_getElem? (i := 0) rfl)
theorem mw_745 : (Jvm.Cond.instanceMethod ({ cls := "BurnedDownModel", name := "between", desc := "(II)J" } : Jvm.MethodName)) ∈ bd_tbl := bu_31 (List.mem_of_getElem? (i := 1) rfl)
theorem mw_746 : (Jvm.Cond.code ({ cls := "BurnedDownModel", name := "between", desc := "(II)J" } : Jvm.MethodName) prog_12_method_28_code (5 : Nat) (Option.some Jvm.ClassFile.FieldType.long)) ∈ bd_tbl := bu_31 (List.mem_of_getElem? (i := 2) rfl)
theorem mw_747 : (Jvm.Cond.methodLink "BurnedDownLaw" (78 : Nat) ({ cls := "BurnedDownModel", name := "may", desc := "(I)I" } : Jvm.MethodName)) ∈ bd_tbl := bu_31 (List.mem_of_getElem? (i := 3) rfl)
theorem mw_748 : (Jvm.Cond.instanceMethod ({ cls := "BurnedDownModel", name := "may", desc := "(I)I" } : Jvm.MethodName)) ∈ bd_tbl := bu_31 (List.mem_of_getElem? (i := 4) rfl)
theorem mw_749 : (Jvm.Cond.selects "BurnedDownModel" ({ cls := "BurnedDownModel", name := "may", desc := "(I)I" } : Jvm.MethodName) ({ cls := "BurnedDownModel", name := "may", desc := "(I)I" } : Jvm.MethodName)) ∈ bd_tbl := bu_31 (List.mem_of_getElem? (i := 5) rfl)
theorem mw_750 : (Jvm.Cond.code ({ cls := "BurnedDownModel", name := "may", desc := "(I)I" } : Jvm.MethodName) prog_12_method_36_code (4 : Nat) (Option.some Jvm.ClassFile.FieldType.int)) ∈ bd_tbl := bu_31 (List.mem_of_getElem? (i := 6) rfl)
theorem mw_751 : (Jvm.Cond.methodLink "BurnedDownModel" (188 : Nat) ({ cls := "BurnedDownModel", name := "findMay", desc := "(I)V" } : Jvm.MethodName)) ∈ bd_tbl := bu_31 (List.mem_of_getElem? (i := 7) rfl)
theorem mw_752 : (Jvm.Cond.instanceMethod ({ cls := "BurnedDownModel", name := "findMay", desc := "(I)V" } : Jvm.MethodName)) ∈ bd_tbl := bu_31 (List.mem_of_getElem? (i := 8) rfl)
theorem mw_753 : (Jvm.Cond.code ({ cls := "BurnedDownModel", name := "findMay", desc := "(I)V" } : Jvm.MethodName) prog_12_method_35_code (3 : Nat) (Option.none : Option Jvm.ClassFile.FieldType)) ∈ bd_tbl := bu_31 (List.mem_of_getElem? (i := 9) rfl)
theorem mw_754 : (Jvm.Cond.methodLink "BurnedDownModel" (185 : Nat) ({ cls := "BurnedDownModel", name := "waysWith", desc := "(II)J" } : Jvm.MethodName)) ∈ bd_tbl := bu_31 (List.mem_of_getElem? (i := 10) rfl)
theorem mw_755 : (Jvm.Cond.instanceMethod ({ cls := "BurnedDownModel", name := "waysWith", desc := "(II)J" } : Jvm.MethodName)) ∈ bd_tbl := bu_31 (List.mem_of_getElem? (i := 11) rfl)
theorem mw_756 : (Jvm.Cond.code ({ cls := "BurnedDownModel", name := "waysWith", desc := "(II)J" } : Jvm.MethodName) prog_12_method_31_code (3 : Nat) (Option.some Jvm.ClassFile.FieldType.long)) ∈ bd_tbl := bu_31 (List.mem_of_getElem? (i := 12) rfl)
theorem mw_757 : (Jvm.Cond.methodLink "BurnedDownLaw" (82 : Nat) ({ cls := "BurnedDownModel", name := "run", desc := "(III)I" } : Jvm.MethodName)) ∈ bd_tbl := bu_31 (List.mem_of_getElem? (i := 13) rfl)
theorem mw_758 : (Jvm.Cond.instanceMethod ({ cls := "BurnedDownModel", name := "run", desc := "(III)I" } : Jvm.MethodName)) ∈ bd_tbl := bu_31 (List.mem_of_getElem? (i := 14) rfl)
theorem mw_759 : (Jvm.Cond.selects "BurnedDownModel" ({ cls := "BurnedDownModel", name := "run", desc := "(III)I" } : Jvm.MethodName) ({ cls := "BurnedDownModel", name := "run", desc := "(III)I" } : Jvm.MethodName)) ∈ bd_tbl := bu_31 (List.mem_of_getElem? (i := 15) rfl)
theorem mw_760 : (Jvm.Cond.code ({ cls := "BurnedDownModel", name := "run", desc := "(III)I" } : Jvm.MethodName) prog_12_method_37_code (6 : Nat) (Option.some Jvm.ClassFile.FieldType.int)) ∈ bd_tbl := bu_31 (List.mem_of_getElem? (i := 16) rfl)
theorem mw_761 : (Jvm.Cond.methodLink "BurnedDownLaw" (87 : Nat) ({ cls := "BurnedDownModel", name := "chance", desc := "(III)J" } : Jvm.MethodName)) ∈ bd_tbl := bu_31 (List.mem_of_getElem? (i := 17) rfl)
theorem mw_762 : (Jvm.Cond.instanceMethod ({ cls := "BurnedDownModel", name := "chance", desc := "(III)J" } : Jvm.MethodName)) ∈ bd_tbl := bu_31 (List.mem_of_getElem? (i := 18) rfl)
theorem mw_763 : (Jvm.Cond.selects "BurnedDownModel" ({ cls := "BurnedDownModel", name := "chance", desc := "(III)J" } : Jvm.MethodName) ({ cls := "BurnedDownModel", name := "chance", desc := "(III)J" } : Jvm.MethodName)) ∈ bd_tbl := bu_31 (List.mem_of_getElem? (i := 19) rfl)
theorem mw_764 : (Jvm.Cond.code ({ cls := "BurnedDownModel", name := "chance", desc := "(III)J" } : Jvm.MethodName) prog_12_method_39_code (9 : Nat) (Option.some Jvm.ClassFile.FieldType.long)) ∈ bd_tbl := bu_31 (List.mem_of_getElem? (i := 20) rfl)
theorem mw_765 : (Jvm.Cond.methodLink "BurnedDownModel" (192 : Nat) ({ cls := "BurnedDownModel", name := "divisor", desc := "(JJ)J" } : Jvm.MethodName)) ∈ bd_tbl := bu_31 (List.mem_of_getElem? (i := 21) rfl)
theorem mw_766 : (Jvm.Cond.static ({ cls := "BurnedDownModel", name := "divisor", desc := "(JJ)J" } : Jvm.MethodName)) ∈ bd_tbl := bu_31 (List.mem_of_getElem? (i := 22) rfl)
theorem mw_767 : (Jvm.Cond.code ({ cls := "BurnedDownModel", name := "divisor", desc := "(JJ)J" } : Jvm.MethodName) prog_12_method_38_code (10 : Nat) (Option.some Jvm.ClassFile.FieldType.long)) ∈ bd_tbl := bu_31 (List.mem_of_getElem? (i := 23) rfl)
theorem mw_768 : (Jvm.Cond.methodLink "BurnedDownLaw" (91 : Nat) ({ cls := "BurnedDownModel", name := "put", desc := "(I)I" } : Jvm.MethodName)) ∈ bd_tbl := bu_32 (List.mem_of_getElem? (i := 0) rfl)
theorem mw_769 : (Jvm.Cond.instanceMethod ({ cls := "BurnedDownModel", name := "put", desc := "(I)I" } : Jvm.MethodName)) ∈ bd_tbl := bu_32 (List.mem_of_getElem? (i := 1) rfl)
theorem mw_770 : (Jvm.Cond.selects "BurnedDownModel" ({ cls := "BurnedDownModel", name := "put", desc := "(I)I" } : Jvm.MethodName) ({ cls := "BurnedDownModel", name := "put", desc := "(I)I" } : Jvm.MethodName)) ∈ bd_tbl := bu_32 (List.mem_of_getElem? (i := 2) rfl)
theorem mw_771 : (Jvm.Cond.code ({ cls := "BurnedDownModel", name := "put", desc := "(I)I" } : Jvm.MethodName) prog_12_method_40_code (3 : Nat) (Option.some Jvm.ClassFile.FieldType.int)) ∈ bd_tbl := bu_32 (List.mem_of_getElem? (i := 3) rfl)
theorem mw_772 : (Jvm.Cond.methodLink "BurnedDownLaw" (95 : Nat) ({ cls := "BurnedDownModel", name := "judge", desc := "()I" } : Jvm.MethodName)) ∈ bd_tbl := bu_32 (List.mem_of_getElem? (i := 4) rfl)
theorem mw_773 : (Jvm.Cond.instanceMethod ({ cls := "BurnedDownModel", name := "judge", desc := "()I" } : Jvm.MethodName)) ∈ bd_tbl := bu_32 (List.mem_of_getElem? (i := 5) rfl)
theorem mw_774 : (Jvm.Cond.selects "BurnedDownModel" ({ cls := "BurnedDownModel", name := "judge", desc := "()I" } : Jvm.MethodName) ({ cls := "BurnedDownModel", name := "judge", desc := "()I" } : Jvm.MethodName)) ∈ bd_tbl := bu_32 (List.mem_of_getElem? (i := 6) rfl)
theorem mw_775 : (Jvm.Cond.code ({ cls := "BurnedDownModel", name := "judge", desc := "()I" } : Jvm.MethodName) prog_12_method_42_code (4 : Nat) (Option.some Jvm.ClassFile.FieldType.int)) ∈ bd_tbl := bu_32 (List.mem_of_getElem? (i := 7) rfl)
theorem mw_776 : (Jvm.Cond.methodLink "BurnedDownModel" (199 : Nat) ({ cls := "BurnedDownModel", name := "isJoined", desc := "(I)Z" } : Jvm.MethodName)) ∈ bd_tbl := bu_32 (List.mem_of_getElem? (i := 8) rfl)
theorem mw_777 : (Jvm.Cond.instanceMethod ({ cls := "BurnedDownModel", name := "isJoined", desc := "(I)Z" } : Jvm.MethodName)) ∈ bd_tbl := bu_32 (List.mem_of_getElem? (i := 9) rfl)
theorem mw_778 : (Jvm.Cond.code ({ cls := "BurnedDownModel", name := "isJoined", desc := "(I)Z" } : Jvm.MethodName) prog_12_method_41_code (4 : Nat) (Option.some Jvm.ClassFile.FieldType.boolean)) ∈ bd_tbl := bu_32 (List.mem_of_getElem? (i := 10) rfl)
theorem mw_779 : (Jvm.Cond.methodLink "BurnedDownLaw" (99 : Nat) ({ cls := "BurnedDownModel", name := "doubts", desc := "()I" } : Jvm.MethodName)) ∈ bd_tbl := bu_32 (List.mem_of_getElem? (i := 11) rfl)
theorem mw_780 : (Jvm.Cond.instanceMethod ({ cls := "BurnedDownModel", name := "doubts", desc := "()I" } : Jvm.MethodName)) ∈ bd_tbl := bu_32 (List.mem_of_getElem? (i := 12) rfl)
theorem mw_781 : (Jvm.Cond.selects "BurnedDownModel" ({ cls := "BurnedDownModel", name := "doubts", desc := "()I" } : Jvm.MethodName) ({ cls := "BurnedDownModel", name := "doubts", desc := "()I" } : Jvm.MethodName)) ∈ bd_tbl := bu_32 (List.mem_of_getElem? (i := 13) rfl)
theorem mw_782 : (Jvm.Cond.code ({ cls := "BurnedDownModel", name := "doubts", desc := "()I" } : Jvm.MethodName) prog_12_method_44_code (4 : Nat) (Option.some Jvm.ClassFile.FieldType.int)) ∈ bd_tbl := bu_32 (List.mem_of_getElem? (i := 14) rfl)
theorem mw_783 : (Jvm.Cond.methodLink "BurnedDownModel" (202 : Nat) ({ cls := "BurnedDownModel", name := "bits", desc := "(I)I" } : Jvm.MethodName)) ∈ bd_tbl := bu_32 (List.mem_of_getElem? (i := 15) rfl)
theorem mw_784 : (Jvm.Cond.static ({ cls := "BurnedDownModel", name := "bits", desc := "(I)I" } : Jvm.MethodName)) ∈ bd_tbl := bu_32 (List.mem_of_getElem? (i := 16) rfl)
theorem mw_785 : (Jvm.Cond.code ({ cls := "BurnedDownModel", name := "bits", desc := "(I)I" } : Jvm.MethodName) prog_12_method_43_code (3 : Nat) (Option.some Jvm.ClassFile.FieldType.int)) ∈ bd_tbl := bu_32 (List.mem_of_getElem? (i := 17) rfl)
theorem mw_786 : (Jvm.Cond.methodLink "BurnedDownLaw" (103 : Nat) ({ cls := "BurnedDownModel", name := "opened", desc := "()I" } : Jvm.MethodName)) ∈ bd_tbl := bu_32 (List.mem_of_getElem? (i := 18) rfl)
theorem mw_787 : (Jvm.Cond.instanceMethod ({ cls := "BurnedDownModel", name := "opened", desc := "()I" } : Jvm.MethodName)) ∈ bd_tbl := bu_32 (List.mem_of_getElem? (i := 19) rfl)
theorem mw_788 : (Jvm.Cond.selects "BurnedDownModel" ({ cls := "BurnedDownModel", name := "opened", desc := "()I" } : Jvm.MethodName) ({ cls := "BurnedDownModel", name := "opened", desc := "()I" } : Jvm.MethodName)) ∈ bd_tbl := bu_32 (List.mem_of_getElem? (i := 20) rfl)
theorem mw_789 : (Jvm.Cond.code ({ cls := "BurnedDownModel", name := "opened", desc := "()I" } : Jvm.MethodName) prog_12_method_45_code (5 : Nat) (Option.some Jvm.ClassFile.FieldType.int)) ∈ bd_tbl := bu_32 (List.mem_of_getElem? (i := 21) rfl)
theorem mw_790 : (Jvm.Cond.methodLink "BurnedDownLaw" (107 : Nat) ({ cls := "BurnedDownModel", name := "hangs", desc := "()I" } : Jvm.MethodName)) ∈ bd_tbl := bu_32 (List.mem_of_getElem? (i := 22) rfl)
theorem mw_791 : (Jvm.Cond.instanceMethod ({ cls := "BurnedDownModel", name := "hangs", desc := "()I" } : Jvm.MethodName)) ∈ bd_tbl := bu_32 (List.mem_of_getElem? (i := 23) rfl)
theorem mw_792 : (Jvm.Cond.selects "BurnedDownModel" ({ cls := "BurnedDownModel", name := "hangs", desc := "()I" } : Jvm.MethodName) ({ cls := "BurnedDownModel", name := "hangs", desc := "()I" } : Jvm.MethodName)) ∈ bd_tbl := bu_33 (List.mem_of_getElem? (i := 0) rfl)
theorem mw_793 : (Jvm.Cond.code ({ cls := "BurnedDownModel", name := "hangs", desc := "()I" } : Jvm.MethodName) prog_12_method_46_code (7 : Nat) (Option.some Jvm.ClassFile.FieldType.int)) ∈ bd_tbl := bu_33 (List.mem_of_getElem? (i := 1) rfl)
theorem mw_794 : (Jvm.Cond.methodLink "BurnedDownLaw" (111 : Nat) ({ cls := "BurnedDownModel", name := "ahead", desc := "(II)I" } : Jvm.MethodName)) ∈ bd_tbl := bu_33 (List.mem_of_getElem? (i := 2) rfl)
theorem mw_795 : (Jvm.Cond.instanceMethod ({ cls := "BurnedDownModel", name := "ahead", desc := "(II)I" } : Jvm.MethodName)) ∈ bd_tbl := bu_33 (List.mem_of_getElem? (i := 3) rfl)
theorem mw_796 : (Jvm.Cond.selects "BurnedDownModel" ({ cls := "BurnedDownModel", name := "ahead", desc := "(II)I" } : Jvm.MethodName) ({ cls := "BurnedDownModel", name := "ahead", desc := "(II)I" } : Jvm.MethodName)) ∈ bd_tbl := bu_33 (List.mem_of_getElem? (i := 4) rfl)
theorem mw_797 : (Jvm.Cond.code ({ cls := "BurnedDownModel", name := "ahead", desc := "(II)I" } : Jvm.MethodName) prog_12_method_47_code (8 : Nat) (Option.some Jvm.ClassFile.FieldType.int)) ∈ bd_tbl := bu_33 (List.mem_of_getElem? (i := 5) rfl)
theorem mw_798 : (Jvm.Cond.methodLink "BurnedDownLaw" (115 : Nat) ({ cls := "BurnedDownModel", name := "narrow", desc := "(II)I" } : Jvm.MethodName)) ∈ bd_tbl := bu_33 (List.mem_of_getElem? (i := 6) rfl)
theorem mw_799 : (Jvm.Cond.instanceMethod ({ cls := "BurnedDownModel", name := "narrow", desc := "(II)I" } : Jvm.MethodName)) ∈ bd_tbl := bu_33 (List.mem_of_getElem? (i := 7) rfl)
theorem mw_800 : (Jvm.Cond.selects "BurnedDownModel" ({ cls := "BurnedDownModel", name := "narrow", desc := "(II)I" } : Jvm.MethodName) ({ cls := "BurnedDownModel", name := "narrow", desc := "(II)I" } : Jvm.MethodName)) ∈ bd_tbl := bu_33 (List.mem_of_getElem? (i := 8) rfl)
theorem mw_801 : (Jvm.Cond.code ({ cls := "BurnedDownModel", name := "narrow", desc := "(II)I" } : Jvm.MethodName) prog_12_method_49_code (4 : Nat) (Option.some Jvm.ClassFile.FieldType.int)) ∈ bd_tbl := bu_33 (List.mem_of_getElem? (i := 9) rfl)
theorem mw_802 : (Jvm.Cond.methodLink "BurnedDownModel" (205 : Nat) ({ cls := "BurnedDownModel", name := "narrowOf", desc := "(II)I" } : Jvm.MethodName)) ∈ bd_tbl := bu_33 (List.mem_of_getElem? (i := 10) rfl)
theorem mw_803 : (Jvm.Cond.instanceMethod ({ cls := "BurnedDownModel", name := "narrowOf", desc := "(II)I" } : Jvm.MethodName)) ∈ bd_tbl := bu_33 (List.mem_of_getElem? (i := 11) rfl)
theorem mw_804 : (Jvm.Cond.code ({ cls := "BurnedDownModel", name := "narrowOf", desc := "(II)I" } : Jvm.MethodName) prog_12_method_48_code (6 : Nat) (Option.some Jvm.ClassFile.FieldType.int)) ∈ bd_tbl := bu_33 (List.mem_of_getElem? (i := 12) rfl)
theorem mw_805 : (Jvm.Cond.methodLink "BurnedDownLaw" (119 : Nat) ({ cls := "BurnedDownModel", name := "next", desc := "(I)I" } : Jvm.MethodName)) ∈ bd_tbl := bu_33 (List.mem_of_getElem? (i := 13) rfl)
theorem mw_806 : (Jvm.Cond.instanceMethod ({ cls := "BurnedDownModel", name := "next", desc := "(I)I" } : Jvm.MethodName)) ∈ bd_tbl := bu_33 (List.mem_of_getElem? (i := 14) rfl)
theorem mw_807 : (Jvm.Cond.selects "BurnedDownModel" ({ cls := "BurnedDownModel", name := "next", desc := "(I)I" } : Jvm.MethodName) ({ cls := "BurnedDownModel", name := "next", desc := "(I)I" } : Jvm.MethodName)) ∈ bd_tbl := bu_33 (List.mem_of_getElem? (i := 15) rfl)
theorem mw_808 : (Jvm.Cond.code ({ cls := "BurnedDownModel", name := "next", desc := "(I)I" } : Jvm.MethodName) prog_12_method_50_code (7 : Nat) (Option.some Jvm.ClassFile.FieldType.int)) ∈ bd_tbl := bu_33 (List.mem_of_getElem? (i := 16) rfl)
theorem mw_809 : (Jvm.Cond.methodLink "BurnedDownLaw" (123 : Nat) ({ cls := "BurnedDownModel", name := "image", desc := "()I" } : Jvm.MethodName)) ∈ bd_tbl := bu_33 (List.mem_of_getElem? (i := 17) rfl)
theorem mw_810 : (Jvm.Cond.instanceMethod ({ cls := "BurnedDownModel", name := "image", desc := "()I" } : Jvm.MethodName)) ∈ bd_tbl := bu_33 (List.mem_of_getElem? (i := 18) rfl)
theorem mw_811 : (Jvm.Cond.selects "BurnedDownModel" ({ cls := "BurnedDownModel", name := "image", desc := "()I" } : Jvm.MethodName) ({ cls := "BurnedDownModel", name := "image", desc := "()I" } : Jvm.MethodName)) ∈ bd_tbl := bu_33 (List.mem_of_getElem? (i := 19) rfl)
theorem mw_812 : (Jvm.Cond.code ({ cls := "BurnedDownModel", name := "image", desc := "()I" } : Jvm.MethodName) prog_12_method_54_code (1 : Nat) (Option.some Jvm.ClassFile.FieldType.int)) ∈ bd_tbl := bu_33 (List.mem_of_getElem? (i := 20) rfl)
theorem mw_813 : (Jvm.Cond.methodLink "BurnedDownModel" (224 : Nat) ({ cls := "BurnedDownModel", name := "passesAll", desc := "()V" } : Jvm.MethodName)) ∈ bd_tbl := bu_33 (List.mem_of_getElem? (i := 21) rfl)
theorem mw_814 : (Jvm.Cond.instanceMethod ({ cls := "BurnedDownModel", name := "passesAll", desc := "()V" } : Jvm.MethodName)) ∈ bd_tbl := bu_33 (List.mem_of_getElem? (i := 22) rfl)
theorem mw_815 : (Jvm.Cond.code ({ cls := "BurnedDownModel", name := "passesAll", desc := "()V" } : Jvm.MethodName) prog_12_method_53_code (1 : Nat) (Option.none : Option Jvm.ClassFile.FieldType)) ∈ bd_tbl := bu_33 (List.mem_of_getElem? (i := 23) rfl)
theorem mw_816 : (Jvm.Cond.methodLink "BurnedDownModel" (214 : Nat) ({ cls := "BurnedDownModel", name := "passes", desc := "([I)V" } : Jvm.MethodName)) ∈ bd_tbl := bu_34 (List.mem_of_getElem? (i := 0) rfl)
theorem mw_817 : (Jvm.Cond.instanceMethod ({ cls := "BurnedDownModel", name := "passes", desc := "([I)V" } : Jvm.MethodName)) ∈ bd_tbl := bu_34 (List.mem_of_getElem? (i := 1) rfl)
theorem mw_818 : (Jvm.Cond.code ({ cls := "BurnedDownModel", name := "passes", desc := "([I)V" } : Jvm.MethodName) prog_12_method_51_code (3 : Nat) (Option.none : Option Jvm.ClassFile.FieldType)) ∈ bd_tbl := bu_34 (List.mem_of_getElem? (i := 2) rfl)
theorem mw_819 : (Jvm.Cond.methodLink "BurnedDownModel" (218 : Nat) ({ cls := "BurnedDownModel", name := "passOne", desc := "(I)I" } : Jvm.MethodName)) ∈ bd_tbl := bu_34 (List.mem_of_getElem? (i := 3) rfl)
theorem mw_820 : (Jvm.Cond.instanceMethod ({ cls := "BurnedDownModel", name := "passOne", desc := "(I)I" } : Jvm.MethodName)) ∈ bd_tbl := bu_34 (List.mem_of_getElem? (i := 4) rfl)
theorem mw_821 : (Jvm.Cond.code ({ cls := "BurnedDownModel", name := "passOne", desc := "(I)I" } : Jvm.MethodName) prog_12_method_52_code (3 : Nat) (Option.some Jvm.ClassFile.FieldType.int)) ∈ bd_tbl := bu_34 (List.mem_of_getElem? (i := 5) rfl)
theorem mw_822 : (Jvm.Cond.methodLink "BurnedDownLaw" (127 : Nat) ({ cls := "BurnedDownModel", name := "on", desc := "()I" } : Jvm.MethodName)) ∈ bd_tbl := bu_34 (List.mem_of_getElem? (i := 6) rfl)
theorem mw_823 : (Jvm.Cond.instanceMethod ({ cls := "BurnedDownModel", name := "on", desc := "()I" } : Jvm.MethodName)) ∈ bd_tbl := bu_34 (List.mem_of_getElem? (i := 7) rfl)
theorem mw_824 : (Jvm.Cond.selects "BurnedDownModel" ({ cls := "BurnedDownModel", name := "on", desc := "()I" } : Jvm.MethodName) ({ cls := "BurnedDownModel", name := "on", desc := "()I" } : Jvm.MethodName)) ∈ bd_tbl := bu_34 (List.mem_of_getElem? (i := 8) rfl)
theorem mw_825 : (Jvm.Cond.code ({ cls := "BurnedDownModel", name := "on", desc := "()I" } : Jvm.MethodName) prog_12_method_55_code (1 : Nat) (Option.some Jvm.ClassFile.FieldType.int)) ∈ bd_tbl := bu_34 (List.mem_of_getElem? (i := 9) rfl)
theorem mw_826 : (Jvm.Cond.methodLink "BurnedDownLaw" (131 : Nat) ({ cls := "BurnedDownModel", name := "count", desc := "(I)I" } : Jvm.MethodName)) ∈ bd_tbl := bu_34 (List.mem_of_getElem? (i := 10) rfl)
theorem mw_827 : (Jvm.Cond.instanceMethod ({ cls := "BurnedDownModel", name := "count", desc := "(I)I" } : Jvm.MethodName)) ∈ bd_tbl := bu_34 (List.mem_of_getElem? (i := 11) rfl)
theorem mw_828 : (Jvm.Cond.selects "BurnedDownModel" ({ cls := "BurnedDownModel", name := "count", desc := "(I)I" } : Jvm.MethodName) ({ cls := "BurnedDownModel", name := "count", desc := "(I)I" } : Jvm.MethodName)) ∈ bd_tbl := bu_34 (List.mem_of_getElem? (i := 12) rfl)
theorem mw_829 : (Jvm.Cond.code ({ cls := "BurnedDownModel", name := "count", desc := "(I)I" } : Jvm.MethodName) prog_12_method_56_code (4 : Nat) (Option.some Jvm.ClassFile.FieldType.int)) ∈ bd_tbl := bu_34 (List.mem_of_getElem? (i := 13) rfl)
theorem mw_830 : (Jvm.Cond.constantLong "BurnedDownLaw" (13 : Nat) (4294967295 : Int64)) ∈ bd_tbl := bu_34 (List.mem_of_getElem? (i := 14) rfl)
def bd_nF : List (String × Nat × String × String × String × String) := [("BurnedDown", 77, "BurnedDown$Things", "count", "I", "BurnedDown"), ("BurnedDown$Gathering", 41, "BurnedDown$Things", "count", "I", "BurnedDown"), ("BurnedDown", 103, "BurnedDown$Things", "law", "[I", "BurnedDown"), ("BurnedDown$World", 77, "BurnedDown$Things", "law", "[I", "BurnedDown"), ("BurnedDown", 109, "BurnedDown$Things", "beginning", "[I", "BurnedDown"), ("BurnedDown$World", 67, "BurnedDown$Things", "beginning", "[I", "BurnedDown"), ("BurnedDown", 111, "BurnedDown$Things", "pace", "[I", "BurnedDown"), ("BurnedDown$World", 74, "BurnedDown$Things", "pace", "[I", "BurnedDown"), ("BurnedDown$Gathering", 47, "BurnedDown$Things", "joined", "[I", "BurnedDown"), ("BurnedDown", 258, "BurnedDown$Things", "joined", "[I", "BurnedDown"), ("BurnedDown$Against", 25, "BurnedDown$Looks", "count", "I", "BurnedDown"), ("BurnedDown", 140, "BurnedDown$Looks", "count", "I", "BurnedDown"), ("BurnedDown$Against", 61, "BurnedDown$Looks", "doubted", "I", "BurnedDown"), ("BurnedDown", 241, "BurnedDown$Looks", "doubted", "I", "BurnedDown"), ("BurnedDown$Against", 34, "BurnedDown$Looks", "thing", "[I", "BurnedDown"), ("BurnedDown$Against", 41, "BurnedDown$Looks", "minute", "[I", "BurnedDown"), ("BurnedDown$Against", 44, "BurnedDown$Looks", "low", "[I", "BurnedDown"), ("BurnedDown$Against", 47, "BurnedDown$Looks", "high", "[I", "BurnedDown"), ("BurnedDown", 73, "BurnedDown$World", "things", "LBurnedDown$Things;", "BurnedDown"), ("BurnedDown$Against", 19, "BurnedDown$World", "looks", "LBurnedDown$Looks;", "BurnedDown"), ("BurnedDown", 136, "BurnedDown$World", "looks", "LBurnedDown$Looks;", "BurnedDown"), ("BurnedDown", 113, "BurnedDown$World", "room", "I", "BurnedDown"), ("BurnedDown", 213, "BurnedDown$World", "opens", "I", "BurnedDown"), ("BurnedDown", 216, "BurnedDown$World", "closes", "I", "BurnedDown"), ("BurnedDown", 126, "BurnedDown$World", "candidates", "I", "BurnedDown"), ("BurnedDown", 219, "BurnedDown$World", "from", "[I", "BurnedDown"), ("BurnedDown", 222, "BurnedDown$World", "to", "[I", "BurnedDown"), ("BurnedDown$Against", 54, "BurnedDown$World", "lefts", "[I", "BurnedDown"), ("BurnedDown", 279, "BurnedDown$World", "lefts", "[I", "BurnedDown"), ("BurnedDown", 65, "BurnedDown$Tape", "length", "I", "BurnedDown"), ("BurnedDown", 86, "BurnedDown$Tape", "law", "I", "BurnedDown"), ("BurnedDown", 89, "BurnedDown$Tape", "beginning", "I", "BurnedDown"), ("BurnedDown", 92, "BurnedDown$Tape", "pace", "I", "BurnedDown")]
def bd_nM : List (String × Nat × MethodName × String) := [("BurnedDown", 11, ⟨"BurnedDown$World", "<init>", "()V"⟩, "BurnedDown"), ("BurnedDown$World", 11, ⟨"BurnedDown$Things", "<init>", "()V"⟩, "BurnedDown"), ("BurnedDown$World", 20, ⟨"BurnedDown$Looks", "<init>", "()V"⟩, "BurnedDown"), ("BurnedDown", 21, ⟨"BurnedDown$Tape", "<init>", "()V"⟩, "BurnedDown"), ("BurnedDown", 35, ⟨"BurnedDown$Against", "<init>", "()V"⟩, "BurnedDown"), ("BurnedDown", 42, ⟨"BurnedDown$Gathering", "<init>", "()V"⟩, "BurnedDown"), ("BurnedDown", 49, ⟨"BurnedDown$Counting", "<init>", "()V"⟩, "BurnedDown"), ("BurnedDown$Counting", 3, ⟨"BurnedDown$Reckoning", "<init>", "()V"⟩, "BurnedDown"), ("BurnedDown", 56, ⟨"BurnedDown$Least", "<init>", "()V"⟩, "BurnedDown"), ("BurnedDown$Least", 3, ⟨"BurnedDown$Reckoning", "<init>", "()V"⟩, "BurnedDown"), ("BurnedDown", 69, ⟨"BurnedDown$Tape", "take", "(IJ)I"⟩, "BurnedDown"), ("BurnedDown$Tape", 19, ⟨"BurnedDown", "lay", "([III)V"⟩, "BurnedDown"), ("BurnedDown", 82, ⟨"BurnedDown$Tape", "read", "()I"⟩, "BurnedDown"), ("BurnedDown$Tape", 46, ⟨"BurnedDown", "at", "([II)I"⟩, "BurnedDown"), ("BurnedDown", 95, ⟨"BurnedDown$Things", "add", "(III)I"⟩, "BurnedDown"), ("BurnedDown$Things", 34, ⟨"BurnedDown", "lay", "([III)V"⟩, "BurnedDown"), ("BurnedDown", 116, ⟨"BurnedDown$Against", "forget", "()V"⟩, "BurnedDown"), ("BurnedDown", 119, ⟨"BurnedDown$World", "shut", "()V"⟩, "BurnedDown"), ("BurnedDown", 122, ⟨"BurnedDown$World", "open", "(II)V"⟩, "BurnedDown"), ("BurnedDown", 129, ⟨"BurnedDown$World", "addCandidate", "(II)I"⟩, "BurnedDown"), ("BurnedDown$World", 52, ⟨"BurnedDown", "lay", "([III)V"⟩, "BurnedDown"), ("BurnedDown", 133, ⟨"BurnedDown$World", "leftAfter", "(III)I"⟩, "BurnedDown"), ("BurnedDown$World", 70, ⟨"BurnedDown", "at", "([II)I"⟩, "BurnedDown"), ("BurnedDown", 143, ⟨"BurnedDown$Looks", "add", "(IIII)I"⟩, "BurnedDown"), ("BurnedDown$Looks", 28, ⟨"BurnedDown", "lay", "([III)V"⟩, "BurnedDown"), ("BurnedDown", 146, ⟨"BurnedDown$Looks", "mark", "(IZ)Z"⟩, "BurnedDown"), ("BurnedDown", 150, ⟨"BurnedDown$Things", "tie", "(IIII)I"⟩, "BurnedDown"), ("BurnedDown", 156, ⟨"BurnedDown$Against", "learn", "(LBurnedDown$World;)V"⟩, "BurnedDown"), ("BurnedDown$Against", 37, ⟨"BurnedDown", "at", "([II)I"⟩, "BurnedDown"), ("BurnedDown$Against", 50, ⟨"BurnedDown$World", "fillLefts", "(II)V"⟩, "BurnedDown"), ("BurnedDown$Against", 57, ⟨"BurnedDown", "lay", "([III)V"⟩, "BurnedDown"), ("BurnedDown", 160, ⟨"BurnedDown$Against", "speaking", "(LBurnedDown$World;II)I"⟩, "BurnedDown"), ("BurnedDown", 203, ⟨"BurnedDown$Gathering", "set", "(IIJ)V"⟩, "BurnedDown"), ("BurnedDown$Gathering", 19, ⟨"BurnedDown", "lay", "([JIJ)V"⟩, "BurnedDown"), ("BurnedDown", 207, ⟨"BurnedDown$Gathering", "gather", "(LBurnedDown$Things;ILBurnedDown$Reckoning;)V"⟩, "BurnedDown"), ("BurnedDown$Gathering", 68, ⟨"BurnedDown", "lay", "([III)V"⟩, "BurnedDown"), ("BurnedDown$Gathering", 50, ⟨"BurnedDown", "at", "([II)I"⟩, "BurnedDown"), ("BurnedDown$Counting", 15, ⟨"BurnedDown", "at", "([JI)J"⟩, "BurnedDown"), ("BurnedDown$Counting", 19, ⟨"BurnedDown", "lay", "([JIJ)V"⟩, "BurnedDown"), ("BurnedDown$Least", 23, ⟨"BurnedDown", "at", "([JI)J"⟩, "BurnedDown"), ("BurnedDown$Least", 27, ⟨"BurnedDown", "lay", "([JIJ)V"⟩, "BurnedDown"), ("BurnedDown$Gathering", 71, ⟨"BurnedDown$Things", "lowest", "(IIZ)I"⟩, "BurnedDown"), ("BurnedDown$Things", 42, ⟨"BurnedDown", "at", "([II)I"⟩, "BurnedDown"), ("BurnedDown$Gathering", 75, ⟨"BurnedDown$Things", "highest", "(IIZ)I"⟩, "BurnedDown"), ("BurnedDown$Gathering", 23, ⟨"BurnedDown", "at", "([JI)J"⟩, "BurnedDown"), ("BurnedDown", 182, ⟨"BurnedDown$Gathering", "together", "(ILBurnedDown$Reckoning;)J"⟩, "BurnedDown"), ("BurnedDown", 172, ⟨"BurnedDown$Gathering", "value", "(II)J"⟩, "BurnedDown"), ("BurnedDown", 261, ⟨"BurnedDown$Things", "lowest", "(IIZ)I"⟩, "BurnedDown"), ("BurnedDown", 265, ⟨"BurnedDown$Things", "highest", "(IIZ)I"⟩, "BurnedDown"), ("BurnedDown", 276, ⟨"BurnedDown$World", "fillLefts", "(II)V"⟩, "BurnedDown"), ("BurnedDown", 235, ⟨"BurnedDown$World", "take", "(LBurnedDown$World;)V"⟩, "BurnedDown"), ("BurnedDown$World", 56, ⟨"BurnedDown$Things", "take", "(LBurnedDown$Things;)V"⟩, "BurnedDown"), ("BurnedDown$Things", 46, ⟨"BurnedDown", "copyRow", "([I[I)V"⟩, "BurnedDown"), ("BurnedDown$World", 60, ⟨"BurnedDown$Looks", "take", "(LBurnedDown$Looks;)V"⟩, "BurnedDown"), ("BurnedDown$Looks", 35, ⟨"BurnedDown", "copyRow", "([I[I)V"⟩, "BurnedDown"), ("BurnedDown$World", 63, ⟨"BurnedDown", "copyRow", "([I[I)V"⟩, "BurnedDown"), ("BurnedDown", 249, ⟨"BurnedDown$Things", "joinings", "()I"⟩, "BurnedDown")]
theorem nf_0 : ("BurnedDown", 77, "BurnedDown$Things", "count", "I", "BurnedDown") ∈ bd_nF := List.mem_of_getElem? (i := 0) rfl
theorem nf_1 : ("BurnedDown$Gathering", 41, "BurnedDown$Things", "count", "I", "BurnedDown") ∈ bd_nF := List.mem_of_getElem? (i := 1) rfl
theorem nf_2 : ("BurnedDown", 103, "BurnedDown$Things", "law", "[I", "BurnedDown") ∈ bd_nF := List.mem_of_getElem? (i := 2) rfl
theorem nf_3 : ("BurnedDown$World", 77, "BurnedDown$Things", "law", "[I", "BurnedDown") ∈ bd_nF := List.mem_of_getElem? (i := 3) rfl
theorem nf_4 : ("BurnedDown", 109, "BurnedDown$Things", "beginning", "[I", "BurnedDown") ∈ bd_nF := List.mem_of_getElem? (i := 4) rfl
theorem nf_5 : ("BurnedDown$World", 67, "BurnedDown$Things", "beginning", "[I", "BurnedDown") ∈ bd_nF := List.mem_of_getElem? (i := 5) rfl
theorem nf_6 : ("BurnedDown", 111, "BurnedDown$Things", "pace", "[I", "BurnedDown") ∈ bd_nF := List.mem_of_getElem? (i := 6) rfl
theorem nf_7 : ("BurnedDown$World", 74, "BurnedDown$Things", "pace", "[I", "BurnedDown") ∈ bd_nF := List.mem_of_getElem? (i := 7) rfl
theorem nf_8 : ("BurnedDown$Gathering", 47, "BurnedDown$Things", "joined", "[I", "BurnedDown") ∈ bd_nF := List.mem_of_getElem? (i := 8) rfl
theorem nf_9 : ("BurnedDown", 258, "BurnedDown$Things", "joined", "[I", "BurnedDown") ∈ bd_nF := List.mem_of_getElem? (i := 9) rfl
theorem nf_10 : ("BurnedDown$Against", 25, "BurnedDown$Looks", "count", "I", "BurnedDown") ∈ bd_nF := List.mem_of_getElem? (i := 10) rfl
theorem nf_11 : ("BurnedDown", 140, "BurnedDown$Looks", "count", "I", "BurnedDown") ∈ bd_nF := List.mem_of_getElem? (i := 11) rfl
theorem nf_12 : ("BurnedDown$Against", 61, "BurnedDown$Looks", "doubted", "I", "BurnedDown") ∈ bd_nF := List.mem_of_getElem? (i := 12) rfl
theorem nf_13 : ("BurnedDown", 241, "BurnedDown$Looks", "doubted", "I", "BurnedDown") ∈ bd_nF := List.mem_of_getElem? (i := 13) rfl
theorem nf_14 : ("BurnedDown$Against", 34, "BurnedDown$Looks", "thing", "[I", "BurnedDown") ∈ bd_nF := List.mem_of_getElem? (i := 14) rfl
theorem nf_15 : ("BurnedDown$Against", 41, "BurnedDown$Looks", "minute", "[I", "BurnedDown") ∈ bd_nF := List.mem_of_getElem? (i := 15) rfl
theorem nf_16 : ("BurnedDown$Against", 44, "BurnedDown$Looks", "low", "[I", "BurnedDown") ∈ bd_nF := List.mem_of_getElem? (i := 16) rfl
theorem nf_17 : ("BurnedDown$Against", 47, "BurnedDown$Looks", "high", "[I", "BurnedDown") ∈ bd_nF := List.mem_of_getElem? (i := 17) rfl
theorem nf_18 : ("BurnedDown", 73, "BurnedDown$World", "things", "LBurnedDown$Things;", "BurnedDown") ∈ bd_nF := List.mem_of_getElem? (i := 18) rfl
theorem nf_19 : ("BurnedDown$Against", 19, "BurnedDown$World", "looks", "LBurnedDown$Looks;", "BurnedDown") ∈ bd_nF := List.mem_of_getElem? (i := 19) rfl
theorem nf_20 : ("BurnedDown", 136, "BurnedDown$World", "looks", "LBurnedDown$Looks;", "BurnedDown") ∈ bd_nF := List.mem_of_getElem? (i := 20) rfl
theorem nf_21 : ("BurnedDown", 113, "BurnedDown$World", "room", "I", "BurnedDown") ∈ bd_nF := List.mem_of_getElem? (i := 21) rfl
theorem nf_22 : ("BurnedDown", 213, "BurnedDown$World", "opens", "I", "BurnedDown") ∈ bd_nF := List.mem_of_getElem? (i := 22) rfl
theorem nf_23 : ("BurnedDown", 216, "BurnedDown$World", "closes", "I", "BurnedDown") ∈ bd_nF := List.mem_of_getElem? (i := 23) rfl
theorem nf_24 : ("BurnedDown", 126, "BurnedDown$World", "candidates", "I", "BurnedDown") ∈ bd_nF := List.mem_of_getElem? (i := 24) rfl
theorem nf_25 : ("BurnedDown", 219, "BurnedDown$World", "from", "[I", "BurnedDown") ∈ bd_nF := List.mem_of_getElem? (i := 25) rfl
theorem nf_26 : ("BurnedDown", 222, "BurnedDown$World", "to", "[I", "BurnedDown") ∈ bd_nF := List.mem_of_getElem? (i := 26) rfl
theorem nf_27 : ("BurnedDown$Against", 54, "BurnedDown$World", "lefts", "[I", "BurnedDown") ∈ bd_nF := List.mem_of_getElem? (i := 27) rfl
theorem nf_28 : ("BurnedDown", 279, "BurnedDown$World", "lefts", "[I", "BurnedDown") ∈ bd_nF := List.mem_of_getElem? (i := 28) rfl
theorem nf_29 : ("BurnedDown", 65, "BurnedDown$Tape", "length", "I", "BurnedDown") ∈ bd_nF := List.mem_of_getElem? (i := 29) rfl
theorem nf_30 : ("BurnedDown", 86, "BurnedDown$Tape", "law", "I", "BurnedDown") ∈ bd_nF := List.mem_of_getElem? (i := 30) rfl
theorem nf_31 : ("BurnedDown", 89, "BurnedDown$Tape", "beginning", "I", "BurnedDown") ∈ bd_nF := List.mem_of_getElem? (i := 31) rfl
theorem nf_32 : ("BurnedDown", 92, "BurnedDown$Tape", "pace", "I", "BurnedDown") ∈ bd_nF := List.mem_of_getElem? (i := 32) rfl
theorem nm_0 : (("BurnedDown", 11, ⟨"BurnedDown$World", "<init>", "()V"⟩, "BurnedDown") : String × Nat × MethodName × String) ∈ bd_nM := List.mem_of_getElem? (i := 0) rfl
theorem nm_1 : (("BurnedDown$World", 11, ⟨"BurnedDown$Things", "<init>", "()V"⟩, "BurnedDown") : String × Nat × MethodName × String) ∈ bd_nM := List.mem_of_getElem? (i := 1) rfl
theorem nm_2 : (("BurnedDown$World", 20, ⟨"BurnedDown$Looks", "<init>", "()V"⟩, "BurnedDown") : String × Nat × MethodName × String) ∈ bd_nM := List.mem_of_getElem? (i := 2) rfl
theorem nm_3 : (("BurnedDown", 21, ⟨"BurnedDown$Tape", "<init>", "()V"⟩, "BurnedDown") : String × Nat × MethodName × String) ∈ bd_nM := List.mem_of_getElem? (i := 3) rfl
theorem nm_4 : (("BurnedDown", 35, ⟨"BurnedDown$Against", "<init>", "()V"⟩, "BurnedDown") : String × Nat × MethodName × String) ∈ bd_nM := List.mem_of_getElem? (i := 4) rfl
theorem nm_5 : (("BurnedDown", 42, ⟨"BurnedDown$Gathering", "<init>", "()V"⟩, "BurnedDown") : String × Nat × MethodName × String) ∈ bd_nM := List.mem_of_getElem? (i := 5) rfl
theorem nm_6 : (("BurnedDown", 49, ⟨"BurnedDown$Counting", "<init>", "()V"⟩, "BurnedDown") : String × Nat × MethodName × String) ∈ bd_nM := List.mem_of_getElem? (i := 6) rfl
theorem nm_7 : (("BurnedDown$Counting", 3, ⟨"BurnedDown$Reckoning", "<init>", "()V"⟩, "BurnedDown") : String × Nat × MethodName × String) ∈ bd_nM := List.mem_of_getElem? (i := 7) rfl
theorem nm_8 : (("BurnedDown", 56, ⟨"BurnedDown$Least", "<init>", "()V"⟩, "BurnedDown") : String × Nat × MethodName × String) ∈ bd_nM := List.mem_of_getElem? (i := 8) rfl
theorem nm_9 : (("BurnedDown$Least", 3, ⟨"BurnedDown$Reckoning", "<init>", "()V"⟩, "BurnedDown") : String × Nat × MethodName × String) ∈ bd_nM := List.mem_of_getElem? (i := 9) rfl
theorem nm_10 : (("BurnedDown", 69, ⟨"BurnedDown$Tape", "take", "(IJ)I"⟩, "BurnedDown") : String × Nat × MethodName × String) ∈ bd_nM := List.mem_of_getElem? (i := 10) rfl
theorem nm_11 : (("BurnedDown$Tape", 19, ⟨"BurnedDown", "lay", "([III)V"⟩, "BurnedDown") : String × Nat × MethodName × String) ∈ bd_nM := List.mem_of_getElem? (i := 11) rfl
theorem nm_12 : (("BurnedDown", 82, ⟨"BurnedDown$Tape", "read", "()I"⟩, "BurnedDown") : String × Nat × MethodName × String) ∈ bd_nM := List.mem_of_getElem? (i := 12) rfl
theorem nm_13 : (("BurnedDown$Tape", 46, ⟨"BurnedDown", "at", "([II)I"⟩, "BurnedDown") : String × Nat × MethodName × String) ∈ bd_nM := List.mem_of_getElem? (i := 13) rfl
theorem nm_14 : (("BurnedDown", 95, ⟨"BurnedDown$Things", "add", "(III)I"⟩, "BurnedDown") : String × Nat × MethodName × String) ∈ bd_nM := List.mem_of_getElem? (i := 14) rfl
theorem nm_15 : (("BurnedDown$Things", 34, ⟨"BurnedDown", "lay", "([III)V"⟩, "BurnedDown") : String × Nat × MethodName × String) ∈ bd_nM := List.mem_of_getElem? (i := 15) rfl
theorem nm_16 : (("BurnedDown", 116, ⟨"BurnedDown$Against", "forget", "()V"⟩, "BurnedDown") : String × Nat × MethodName × String) ∈ bd_nM := List.mem_of_getElem? (i := 16) rfl
theorem nm_17 : (("BurnedDown", 119, ⟨"BurnedDown$World", "shut", "()V"⟩, "BurnedDown") : String × Nat × MethodName × String) ∈ bd_nM := List.mem_of_getElem? (i := 17) rfl
theorem nm_18 : (("BurnedDown", 122, ⟨"BurnedDown$World", "open", "(II)V"⟩, "BurnedDown") : String × Nat × MethodName × String) ∈ bd_nM := List.mem_of_getElem? (i := 18) rfl
theorem nm_19 : (("BurnedDown", 129, ⟨"BurnedDown$World", "addCandidate", "(II)I"⟩, "BurnedDown") : String × Nat × MethodName × String) ∈ bd_nM := List.mem_of_getElem? (i := 19) rfl
theorem nm_20 : (("BurnedDown$World", 52, ⟨"BurnedDown", "lay", "([III)V"⟩, "BurnedDown") : String × Nat × MethodName × String) ∈ bd_nM := List.mem_of_getElem? (i := 20) rfl
theorem nm_21 : (("BurnedDown", 133, ⟨"BurnedDown$World", "leftAfter", "(III)I"⟩, "BurnedDown") : String × Nat × MethodName × String) ∈ bd_nM := List.mem_of_getElem? (i := 21) rfl
theorem nm_22 : (("BurnedDown$World", 70, ⟨"BurnedDown", "at", "([II)I"⟩, "BurnedDown") : String × Nat × MethodName × String) ∈ bd_nM := List.mem_of_getElem? (i := 22) rfl
theorem nm_23 : (("BurnedDown", 143, ⟨"BurnedDown$Looks", "add", "(IIII)I"⟩, "BurnedDown") : String × Nat × MethodName × String) ∈ bd_nM := List.mem_of_getElem? (i := 23) rfl
theorem nm_24 : (("BurnedDown$Looks", 28, ⟨"BurnedDown", "lay", "([III)V"⟩, "BurnedDown") : String × Nat × MethodName × String) ∈ bd_nM := List.mem_of_getElem? (i := 24) rfl
theorem nm_25 : (("BurnedDown", 146, ⟨"BurnedDown$Looks", "mark", "(IZ)Z"⟩, "BurnedDown") : String × Nat × MethodName × String) ∈ bd_nM := List.mem_of_getElem? (i := 25) rfl
theorem nm_26 : (("BurnedDown", 150, ⟨"BurnedDown$Things", "tie", "(IIII)I"⟩, "BurnedDown") : String × Nat × MethodName × String) ∈ bd_nM := List.mem_of_getElem? (i := 26) rfl
theorem nm_27 : (("BurnedDown", 156, ⟨"BurnedDown$Against", "learn", "(LBurnedDown$World;)V"⟩, "BurnedDown") : String × Nat × MethodName × String) ∈ bd_nM := List.mem_of_getElem? (i := 27) rfl
theorem nm_28 : (("BurnedDown$Against", 37, ⟨"BurnedDown", "at", "([II)I"⟩, "BurnedDown") : String × Nat × MethodName × String) ∈ bd_nM := List.mem_of_getElem? (i := 28) rfl
theorem nm_29 : (("BurnedDown$Against", 50, ⟨"BurnedDown$World", "fillLefts", "(II)V"⟩, "BurnedDown") : String × Nat × MethodName × String) ∈ bd_nM := List.mem_of_getElem? (i := 29) rfl
theorem nm_30 : (("BurnedDown$Against", 57, ⟨"BurnedDown", "lay", "([III)V"⟩, "BurnedDown") : String × Nat × MethodName × String) ∈ bd_nM := List.mem_of_getElem? (i := 30) rfl
theorem nm_31 : (("BurnedDown", 160, ⟨"BurnedDown$Against", "speaking", "(LBurnedDown$World;II)I"⟩, "BurnedDown") : String × Nat × MethodName × String) ∈ bd_nM := List.mem_of_getElem? (i := 31) rfl
theorem nm_32 : (("BurnedDown", 203, ⟨"BurnedDown$Gathering", "set", "(IIJ)V"⟩, "BurnedDown") : String × Nat × MethodName × String) ∈ bd_nM := List.mem_of_getElem? (i := 32) rfl
theorem nm_33 : (("BurnedDown$Gathering", 19, ⟨"BurnedDown", "lay", "([JIJ)V"⟩, "BurnedDown") : String × Nat × MethodName × String) ∈ bd_nM := List.mem_of_getElem? (i := 33) rfl
theorem nm_34 : (("BurnedDown", 207, ⟨"BurnedDown$Gathering", "gather", "(LBurnedDown$Things;ILBurnedDown$Reckoning;)V"⟩, "BurnedDown") : String × Nat × MethodName × String) ∈ bd_nM := List.mem_of_getElem? (i := 34) rfl
theorem nm_35 : (("BurnedDown$Gathering", 68, ⟨"BurnedDown", "lay", "([III)V"⟩, "BurnedDown") : String × Nat × MethodName × String) ∈ bd_nM := List.mem_of_getElem? (i := 35) rfl
theorem nm_36 : (("BurnedDown$Gathering", 50, ⟨"BurnedDown", "at", "([II)I"⟩, "BurnedDown") : String × Nat × MethodName × String) ∈ bd_nM := List.mem_of_getElem? (i := 36) rfl
theorem nm_37 : (("BurnedDown$Counting", 15, ⟨"BurnedDown", "at", "([JI)J"⟩, "BurnedDown") : String × Nat × MethodName × String) ∈ bd_nM := List.mem_of_getElem? (i := 37) rfl
theorem nm_38 : (("BurnedDown$Counting", 19, ⟨"BurnedDown", "lay", "([JIJ)V"⟩, "BurnedDown") : String × Nat × MethodName × String) ∈ bd_nM := List.mem_of_getElem? (i := 38) rfl
theorem nm_39 : (("BurnedDown$Least", 23, ⟨"BurnedDown", "at", "([JI)J"⟩, "BurnedDown") : String × Nat × MethodName × String) ∈ bd_nM := List.mem_of_getElem? (i := 39) rfl
theorem nm_40 : (("BurnedDown$Least", 27, ⟨"BurnedDown", "lay", "([JIJ)V"⟩, "BurnedDown") : String × Nat × MethodName × String) ∈ bd_nM := List.mem_of_getElem? (i := 40) rfl
theorem nm_41 : (("BurnedDown$Gathering", 71, ⟨"BurnedDown$Things", "lowest", "(IIZ)I"⟩, "BurnedDown") : String × Nat × MethodName × String) ∈ bd_nM := List.mem_of_getElem? (i := 41) rfl
theorem nm_42 : (("BurnedDown$Things", 42, ⟨"BurnedDown", "at", "([II)I"⟩, "BurnedDown") : String × Nat × MethodName × String) ∈ bd_nM := List.mem_of_getElem? (i := 42) rfl
theorem nm_43 : (("BurnedDown$Gathering", 75, ⟨"BurnedDown$Things", "highest", "(IIZ)I"⟩, "BurnedDown") : String × Nat × MethodName × String) ∈ bd_nM := List.mem_of_getElem? (i := 43) rfl
theorem nm_44 : (("BurnedDown$Gathering", 23, ⟨"BurnedDown", "at", "([JI)J"⟩, "BurnedDown") : String × Nat × MethodName × String) ∈ bd_nM := List.mem_of_getElem? (i := 44) rfl
theorem nm_45 : (("BurnedDown", 182, ⟨"BurnedDown$Gathering", "together", "(ILBurnedDown$Reckoning;)J"⟩, "BurnedDown") : String × Nat × MethodName × String) ∈ bd_nM := List.mem_of_getElem? (i := 45) rfl
theorem nm_46 : (("BurnedDown", 172, ⟨"BurnedDown$Gathering", "value", "(II)J"⟩, "BurnedDown") : String × Nat × MethodName × String) ∈ bd_nM := List.mem_of_getElem? (i := 46) rfl
theorem nm_47 : (("BurnedDown", 261, ⟨"BurnedDown$Things", "lowest", "(IIZ)I"⟩, "BurnedDown") : String × Nat × MethodName × String) ∈ bd_nM := List.mem_of_getElem? (i := 47) rfl
theorem nm_48 : (("BurnedDown", 265, ⟨"BurnedDown$Things", "highest", "(IIZ)I"⟩, "BurnedDown") : String × Nat × MethodName × String) ∈ bd_nM := List.mem_of_getElem? (i := 48) rfl
theorem nm_49 : (("BurnedDown", 276, ⟨"BurnedDown$World", "fillLefts", "(II)V"⟩, "BurnedDown") : String × Nat × MethodName × String) ∈ bd_nM := List.mem_of_getElem? (i := 49) rfl
theorem nm_50 : (("BurnedDown", 235, ⟨"BurnedDown$World", "take", "(LBurnedDown$World;)V"⟩, "BurnedDown") : String × Nat × MethodName × String) ∈ bd_nM := List.mem_of_getElem? (i := 50) rfl
theorem nm_51 : (("BurnedDown$World", 56, ⟨"BurnedDown$Things", "take", "(LBurnedDown$Things;)V"⟩, "BurnedDown") : String × Nat × MethodName × String) ∈ bd_nM := List.mem_of_getElem? (i := 51) rfl
theorem nm_52 : (("BurnedDown$Things", 46, ⟨"BurnedDown", "copyRow", "([I[I)V"⟩, "BurnedDown") : String × Nat × MethodName × String) ∈ bd_nM := List.mem_of_getElem? (i := 52) rfl
theorem nm_53 : (("BurnedDown$World", 60, ⟨"BurnedDown$Looks", "take", "(LBurnedDown$Looks;)V"⟩, "BurnedDown") : String × Nat × MethodName × String) ∈ bd_nM := List.mem_of_getElem? (i := 53) rfl
theorem nm_54 : (("BurnedDown$Looks", 35, ⟨"BurnedDown", "copyRow", "([I[I)V"⟩, "BurnedDown") : String × Nat × MethodName × String) ∈ bd_nM := List.mem_of_getElem? (i := 54) rfl
theorem nm_55 : (("BurnedDown$World", 63, ⟨"BurnedDown", "copyRow", "([I[I)V"⟩, "BurnedDown") : String × Nat × MethodName × String) ∈ bd_nM := List.mem_of_getElem? (i := 55) rfl
theorem nm_56 : (("BurnedDown", 249, ⟨"BurnedDown$Things", "joinings", "()I"⟩, "BurnedDown") : String × Nat × MethodName × String) ∈ bd_nM := List.mem_of_getElem? (i := 56) rfl
theorem hin_X0 : ∀ w ∈ u_ws RX0 TX0 2, w ∈ bd_tbl := by decide +kernel
theorem hin_X1 : ∀ w ∈ u_ws RX1 TX1 1, w ∈ bd_tbl := by decide +kernel
theorem hin_X2 : ∀ w ∈ u_ws RX2 TX2 3, w ∈ bd_tbl := by decide +kernel
theorem hin_X3 : ∀ w ∈ u_ws RX3 TX3 1, w ∈ bd_tbl := by decide +kernel
theorem hin_X4 : ∀ w ∈ u_ws RX4 TX4 6, w ∈ bd_tbl := by decide +kernel
theorem hin_X5 : ∀ w ∈ u_ws RX5 TX5 0, w ∈ bd_tbl := by decide +kernel
theorem hin_X6 : ∀ w ∈ u_ws RX6 TX6 6, w ∈ bd_tbl := by decide +kernel
theorem hin_X7 : ∀ w ∈ u_ws RX7 TX7 7, w ∈ bd_tbl := by decide +kernel
theorem hin_X8 : ∀ w ∈ u_ws RX8 TX8 9, w ∈ bd_tbl := by decide +kernel
theorem hin_X9 : ∀ w ∈ u_ws RX9 TX9 11, w ∈ bd_tbl := by decide +kernel
theorem hin_X10 : ∀ w ∈ u_ws RX10 TX10 38, w ∈ bd_tbl := by decide +kernel
theorem bd_good {y : MethodName} {cc : ByteArray} {n : Nat} {r : Option FieldType} (h : Cond.code y cc n r ∈ bd_tbl) : GoodIn bd_tbl (Cond.code y cc n r :: bd_tbl) := by
  intro w hw
  rcases List.mem_cons.mp hw with rfl | hw
  · exact ⟨h, (bd_good0 _ h).2⟩
  · exact ⟨hw, (bd_good0 _ hw).2⟩
end
section
/-! THE FRAME: a state of a system is three functions (whole fields, rows of ints, rows of longs); a walk says: when the method's meaning has a value, the machine comes to it -/
abbrev bd_T : Type := (Nat → Int32) × (Nat → Nat → Int32) × (Nat → Nat → Int64)
def bd_I (S : bd_T) (k : Nat) : Int32 := S.1 k
def bd_A (S : bd_T) (k : Nat) : Nat → Int32 := S.2.1 k
def bd_J (S : bd_T) (k : Nat) : Nat → Int64 := S.2.2 k
def bd_pI (S : bd_T) (k : Nat) (v : Int32) : bd_T := (fun j => if j = k then v else S.1 j, S.2.1, S.2.2)
def bd_pA (S : bd_T) (k i : Nat) (v : Int32) : bd_T := (S.1, fun j => if j = k then upd (S.2.1 j) i v else S.2.1 j, S.2.2)
def bd_pJ (S : bd_T) (k i : Nat) (v : Int64) : bd_T := (S.1, S.2.1, fun j => if j = k then vp_updL (S.2.2 j) i v else S.2.2 j)
def bd_in (i : Int32) (n : Nat) : Bool := decide (¬ (i < 0 ∨ n ≤ i.toNatClampNeg))
def bd_ga (S : bd_T) (k n : Nat) (i : Int32) : Option Int32 := if bd_in i n = true then some (bd_A S k i.toNatClampNeg) else none
def bd_gj (S : bd_T) (k n : Nat) (i : Int32) : Option Int64 := if bd_in i n = true then some (bd_J S k i.toNatClampNeg) else none
def bd_sa (S : bd_T) (k n : Nat) (i v : Int32) : Option bd_T := if bd_in i n = true then some (bd_pA S k i.toNatClampNeg v) else none
def bd_sj (S : bd_T) (k n : Nat) (i : Int32) (v : Int64) : Option bd_T := if bd_in i n = true then some (bd_pJ S k i.toNatClampNeg v) else none
def bd_si (S : bd_T) (k : Nat) (v : Int32) : Option bd_T := some (bd_pI S k v)
def bd_b2 {ρ α : Type} (o : Option (ρ × bd_T)) (f : ρ → bd_T → Option α) : Option α := o.bind (fun q => f q.1 q.2)
def bd_a (ε : ClassId × ClassId × ClassId × (Nat → Nat)) (k : Nat) : Nat := ε.2.2.2 k
def bd_ldiv (x y : Int64) : Option Int64 := if y = 0 then none else some (x / y)
def bd_lrem (x y : Int64) : Option Int64 := if y = 0 then none else some (x - x / y * y)
/-- a loop of at most n rounds -/
def bd_lp {σ τ : Type} : Nat → (σ → Option (σ ⊕ τ)) → σ → Option τ
  | 0, _, _ => none
  | n + 1, F, q => (F q).bind (fun z => Sum.elim (fun q' => bd_lp n F q') (fun r => some r) z)
def bd_K : Nat := 20000
def bd_vi : Int32 → Option Value := fun r => some (.int r)
def bd_vl : Int64 → Option Value := fun r => some (.long r)
def bd_vv : Unit → Option Value := fun _ => none
abbrev bd_E : Type := ClassId × ClassId × ClassId × (Nat → Nat)
def bd_y (ε : bd_E) : List (ClassId × FieldType) := [(ε.1, .int), (ε.2.1, .long), (ε.2.2.1, .boolean)]
def bd_nD : List MethodName := [⟨"BurnedDown$Reckoning", "load", "([JI)V"⟩, ⟨"BurnedDown$Reckoning", "none", "()J"⟩, ⟨"BurnedDown$Reckoning", "over", "(II)J"⟩, ⟨"BurnedDown$Reckoning", "both", "(JJ)J"⟩]
def bd_N (U : State) : Prop := (∀ q ∈ bd_nD, va_Nw (.declares q) U) ∧ (∀ q ∈ bd_nF, va_Nw (.fieldLinkNest q.1 q.2.1 q.2.2.1 q.2.2.2.1 q.2.2.2.2.1 q.2.2.2.2.2) U) ∧ ∀ q ∈ bd_nM, va_Nw (.methodLinkNest q.1 q.2.1 q.2.2.1 q.2.2.2) U
theorem bd_N_warm {s U : State} (hW : s.WarmedH U.vm) (h : bd_N s) : bd_N U := ⟨fun q hq => va_Nw.warmD hW (h.1 q hq), fun q hq => va_Nw.warmF hW (h.2.1 q hq), fun q hq => va_Nw.warmM hW (h.2.2 q hq)⟩
theorem bd_N_same {u U : State} (hv : u.vm = U.vm) (h : bd_N u) : bd_N U := ⟨fun q hq => va_Nw.same rfl hv (h.1 q hq), fun q hq => va_Nw.same rfl hv (h.2.1 q hq), fun q hq => va_Nw.same rfl hv (h.2.2 q hq)⟩
/-- what a method's end says -/
def bd_Q {ρ : Type} (D : va_G) (ε : bd_E) (cells : bd_T → va_W) (vi : ρ → Option Value) (t0 : Option (ρ × bd_T)) (A : Nat → Prop) : Array Value → State → Outcome → State → Prop := fun _ st oc t => (∃ (r : ρ) (S' : bd_T), oc = .returned (vi r) ∧ t0 = some (r, S') ∧ va_P D vwCl (cells S') t.heap ∧ va_K D vwCl (bd_y ε) t ∧ va_D A (cells S')) ∧ va_F A st t
def bd_P0 (D : va_G) (ε : bd_E) (ws : va_W) (sz : Nat) (U : State) : Prop := U.heap.size = sz ∧ va_P D vwCl ws U.heap ∧ va_K D vwCl (bd_y ε) U ∧ bd_N U ∧ va_D (fun _ => True) ws
/-- a method's contract -/
def bd_Con {ρ : Type} (l : Launch) (y : MethodName) (ws : List Cond) (rm : Room) (D : va_G) (ε : bd_E) (cells : bd_T → va_W) (vi : ρ → Option Value) (av : List Value) (S : bd_T) (t0 : Option (ρ × bd_T)) : Prop := ∀ sz : Nat, Met l y ws rm (va_Pc av (bd_P0 D ε (cells S) sz)) (bd_Q D ε cells vi t0 (va_A (cells S) sz)) 0 0 (va_A (cells S) sz)
abbrev bd_G : Type := Program × Launch × Env × Room × State × MethodId × Array Value × List Frame × Method × Code × (Nat → Prop) × (State → Prop) × va_G
def bd_V (Γ : bd_G) (nL : Nat) (ws : va_W) (pc : Nat) (ls : List (Nat × Value)) (st : List Value) : Prop := match Γ with
  | (p, l, e, R, s, m, args, below, meth, c, A, Q, D) => ∀ (H : Heap) (locs : List Loc) (arr : Array Slot), va_P D vwCl ws H → va_D A ws → va_S A s.heap H locs → lv_has arr nL ls → W p l e R s m args below meth c H locs 0 0 Q (F0 m pc arr st)
/-- the walk's judgement: if the meaning x is the method's own, and has a value, the machine comes to the end -/
def bd_S {ρ : Type} (Γ : bd_G) (nL : Nat) (t0 x : Option (ρ × bd_T)) (ws : va_W) (pc : Nat) (ls : List (Nat × Value)) (st : List Value) : Prop := x = t0 → x.isSome = true → bd_V Γ nL ws pc ls st
/-- what stands through a method's walk -/
def bd_C {ρ : Type} (Γ : bd_G) (cc : ByteArray) (nL : Nat) (own : String) (ret : Option FieldType) (R0 : Room) (ε : bd_E) (cells : bd_T → va_W) (vi : ρ → Option Value) (t0 : Option (ρ × bd_T)) : Prop := match Γ with
  | (p, l, e, R, s, m, args, below, meth, c, A, Q, D) => p.tables.exec = Jvm.exec ∧ c.code = cc ∧ c.maxLocals = nL ∧ s.vm.findClass own = some m.cls ∧ (∀ w ∈ bd_tbl, w.before args s = true) ∧ meth.sig.returnType = ret ∧ meth.locks = false ∧ va_K D vwCl (bd_y ε) s ∧ bd_N s ∧ R = R0 ∧ (∀ q : Nat, s.heap.size ≤ q → A q) ∧ Q = MQ below (bd_Q D ε cells vi t0 A) args s 0 0 A
def bd_l (Γ : bd_G) : Launch := match Γ with
  | (p, l, e, R, s, m, args, below, meth, c, A, Q, D) => l
def bd_D (Γ : bd_G) : va_G := match Γ with
  | (p, l, e, R, s, m, args, below, meth, c, A, Q, D) => D
theorem bd_blind (D : va_G) (ε : bd_E) (ws : va_W) (sz : Nat) (av : List Value) : FrameBlind (va_Pc av (bd_P0 D ε ws sz)) := by
  intro a U g mk h
  obtain ⟨h1, h2, h3, h4, h5, h6⟩ := h
  exact ⟨h1, h2, h3, va_K.moved (u := U) (U := U.calling g mk a) (Vm.Alike.refl U.vm) h4, bd_N_same rfl h5, h6⟩
set_option maxHeartbeats 1000000 in
/-- a contract out of a walk -/
theorem bd_con {ρ : Type} {l : Launch} {y : MethodName} {cc : ByteArray} {maxL : Nat} {ret : Option FieldType} {rm : Room} {D : va_G} {ε : bd_E} {cells : bd_T → va_W} {vi : ρ → Option Value} {av : List Value} {S : bd_T} {t0 : Option (ρ × bd_T)} (hy : plainName y.cls = true) (hlen : (lg_sl av).length ≤ maxL) (hrc : rm.cells = 0 ∧ rm.slots = 0) (h0 : t0.isSome = true)
    (body : ∀ Γ : bd_G, bd_l Γ = l → bd_D Γ = D → bd_C Γ cc maxL y.cls ret rm ε cells vi t0 → bd_S Γ maxL t0 t0 (cells S) 0 (lv_args 0 av) []) : bd_Con l y (Cond.code y cc maxL ret :: bd_tbl) rm D ε cells vi av S t0 := by
  intro sz
  refine Met.ofW (cc := cc) (maxL := maxL) (ret := ret) hy rfl ?_
  intro p e s m args below meth c s₁ B hml hv
  obtain ⟨rfl, hsz, hP, hK, hN, hD0⟩ := hv
  have hx := B.exec
  have hb := B.bytes
  have hr := B.returns
  have hts := fun w hw => atoms_spec (ws := Cond.code y cc maxL ret :: bd_tbl) B.pre w (List.mem_cons_of_mem _ hw)
  have hown : s.vm.findClass y.cls = some m.cls := findClass_of_methodNamed B.named
  have hlocks := B.notSynchronized
  subst hsz
  have hD := hD0.self (sz := s.heap.size)
  have hA : ∀ q : Nat, s.heap.size ≤ q → va_A (cells S) s.heap.size q := fun q h => Or.inr h
  have hl := lv_entry av (n := maxL) hlen
  rw [lg_entry_eq]
  refine body (p, l, e, _, s, m, av.toArray, below, meth, c, va_A (cells S) s.heap.size, _, D) rfl rfl ⟨hx, hb, hml, hown, hts, hr, hlocks, hK, hN, ?_, hA, rfl⟩ rfl h0 s.heap [] _ hP hD va_S.rf hl
  obtain ⟨a1, a2⟩ := hrc
  cases rm
  simp only at a1 a2
  subst a1; subst a2
  rfl
section BDR
variable {ρ α β : Type} {Γ : bd_G} {cc : ByteArray} {nL : Nat} {own : String} {ret : Option FieldType} {R0 : Room} {ε : bd_E} {cells : bd_T → va_W} {vi : ρ → Option Value} {t0 x : Option (ρ × bd_T)} {ws : va_W} {pc : Nat} {ls ls' : List (Nat × Value)} {rest : List Value}
theorem bs_iconst (hC : bd_C Γ cc nL own ret R0 ε cells vi t0) {n : Int} (v : Int32) (hd : decode cc pc = .ok (.iconst n, 1)) (hv : Int32.ofInt n = v) (k : bd_S Γ nL t0 x ws (pc + 1) ls (.int v :: rest)) : bd_S Γ nL t0 x ws pc ls rest := by
  obtain ⟨p, l, e, R, s, m, args, below, meth, c, A, Q, D⟩ := Γ
  intro e1 e2 H locs arr hP hD hS hl
  exact lv_iconst hC.1 hC.2.1 hd hv (k e1 e2 H locs arr hP hD hS hl)
theorem bs_bipush (hC : bd_C Γ cc nL own ret R0 ε cells vi t0) {n : Int} (v : Int32) (hd : decode cc pc = .ok (.bipush n, 2)) (hv : (Int8.ofInt n).toInt32 = v) (k : bd_S Γ nL t0 x ws (pc + 2) ls (.int v :: rest)) : bd_S Γ nL t0 x ws pc ls rest := by
  obtain ⟨p, l, e, R, s, m, args, below, meth, c, A, Q, D⟩ := Γ
  intro e1 e2 H locs arr hP hD hS hl
  exact lv_bipush hC.1 hC.2.1 hd hv (k e1 e2 H locs arr hP hD hS hl)
theorem bs_sipush (hC : bd_C Γ cc nL own ret R0 ε cells vi t0) {n : Int} (v : Int32) (hd : decode cc pc = .ok (.sipush n, 3)) (hv : (Int16.ofInt n).toInt32 = v) (k : bd_S Γ nL t0 x ws (pc + 3) ls (.int v :: rest)) : bd_S Γ nL t0 x ws pc ls rest := by
  obtain ⟨p, l, e, R, s, m, args, below, meth, c, A, Q, D⟩ := Γ
  intro e1 e2 H locs arr hP hD hS hl
  exact lv_sipush hC.1 hC.2.1 hd hv (k e1 e2 H locs arr hP hD hS hl)
theorem bs_lconst (hC : bd_C Γ cc nL own ret R0 ε cells vi t0) {n : Fin 2} (v : Int64) (hd : decode cc pc = .ok (.lconst n, 1)) (hv : Int64.ofNat (n : Nat) = v) (k : bd_S Γ nL t0 x ws (pc + 1) ls (.long v :: rest)) : bd_S Γ nL t0 x ws pc ls rest := by
  obtain ⟨p, l, e, R, s, m, args, below, meth, c, A, Q, D⟩ := Γ
  intro e1 e2 H locs arr hP hD hS hl
  exact lv_lconst hC.1 hC.2.1 hd hv (k e1 e2 H locs arr hP hD hS hl)
theorem bs_ldc (hC : bd_C Γ cc nL own ret R0 ε cells vi t0) {index : Nat} (v : Int32) (hm : Cond.constant own index v ∈ bd_tbl) (hd : decode cc pc = .ok (.ldc index, 2)) (k : bd_S Γ nL t0 x ws (pc + 2) ls (.int v :: rest)) : bd_S Γ nL t0 x ws pc ls rest := by
  obtain ⟨p, l, e, R, s, m, args, below, meth, c, A, Q, D⟩ := Γ
  intro e1 e2 H locs arr hP hD hS hl
  exact lv_ldc hC.1 hC.2.1 hC.2.2.2.1 (hC.2.2.2.2.1 _ hm) hd (k e1 e2 H locs arr hP hD hS hl)
theorem bs_ldcw (hC : bd_C Γ cc nL own ret R0 ε cells vi t0) {index : Nat} (v : Int32) (hm : Cond.constant own index v ∈ bd_tbl) (hd : decode cc pc = .ok (.ldc_w index, 3)) (k : bd_S Γ nL t0 x ws (pc + 3) ls (.int v :: rest)) : bd_S Γ nL t0 x ws pc ls rest := by
  obtain ⟨p, l, e, R, s, m, args, below, meth, c, A, Q, D⟩ := Γ
  intro e1 e2 H locs arr hP hD hS hl
  exact lv_ldcw hC.1 hC.2.1 hC.2.2.2.1 (hC.2.2.2.2.1 _ hm) hd (k e1 e2 H locs arr hP hD hS hl)
theorem bs_ldc2 (hC : bd_C Γ cc nL own ret R0 ε cells vi t0) {index : Nat} (v : Int64) (hm : Cond.constantLong own index v ∈ bd_tbl) (hd : decode cc pc = .ok (.ldc2_w index, 3)) (k : bd_S Γ nL t0 x ws (pc + 3) ls (.long v :: rest)) : bd_S Γ nL t0 x ws pc ls rest := by
  obtain ⟨p, l, e, R, s, m, args, below, meth, c, A, Q, D⟩ := Γ
  intro e1 e2 H locs arr hP hD hS hl
  exact lv_ldc2 hC.1 hC.2.1 hC.2.2.2.1 (hC.2.2.2.2.1 _ hm) hd (k e1 e2 H locs arr hP hD hS hl)
theorem bs_iload_n (hC : bd_C Γ cc nL own ret R0 ε cells vi t0) {kf : Fin 4} {i : Nat} {v : Int32} (q : Nat) (hd : decode cc pc = .ok (.iload_n kf, 1)) (hi : (kf : Nat) = i) (hq : ls[q]? = some (i, .int v)) (k : bd_S Γ nL t0 x ws (pc + 1) ls (.int v :: rest)) : bd_S Γ nL t0 x ws pc ls rest := by
  obtain ⟨p, l, e, R, s, m, args, below, meth, c, A, Q, D⟩ := Γ
  intro e1 e2 H locs arr hP hD hS hl
  exact lv_iload_n hC.1 hC.2.1 hd hi (lv_at hl q hq) (k e1 e2 H locs arr hP hD hS hl)
theorem bs_iload (hC : bd_C Γ cc nL own ret R0 ε cells vi t0) {i : Nat} {v : Int32} (q : Nat) (hd : decode cc pc = .ok (.iload i, 2)) (hq : ls[q]? = some (i, .int v)) (k : bd_S Γ nL t0 x ws (pc + 2) ls (.int v :: rest)) : bd_S Γ nL t0 x ws pc ls rest := by
  obtain ⟨p, l, e, R, s, m, args, below, meth, c, A, Q, D⟩ := Γ
  intro e1 e2 H locs arr hP hD hS hl
  exact lv_iload hC.1 hC.2.1 hd (lv_at hl q hq) (k e1 e2 H locs arr hP hD hS hl)
theorem bs_lload_n (hC : bd_C Γ cc nL own ret R0 ε cells vi t0) {kf : Fin 4} {i : Nat} {v : Int64} (q : Nat) (hd : decode cc pc = .ok (.lload_n kf, 1)) (hi : (kf : Nat) = i) (hq : ls[q]? = some (i, .long v)) (k : bd_S Γ nL t0 x ws (pc + 1) ls (.long v :: rest)) : bd_S Γ nL t0 x ws pc ls rest := by
  obtain ⟨p, l, e, R, s, m, args, below, meth, c, A, Q, D⟩ := Γ
  intro e1 e2 H locs arr hP hD hS hl
  exact lv_lload_n hC.1 hC.2.1 hd hi (lv_at hl q hq) (k e1 e2 H locs arr hP hD hS hl)
theorem bs_lload (hC : bd_C Γ cc nL own ret R0 ε cells vi t0) {i : Nat} {v : Int64} (q : Nat) (hd : decode cc pc = .ok (.lload i, 2)) (hq : ls[q]? = some (i, .long v)) (k : bd_S Γ nL t0 x ws (pc + 2) ls (.long v :: rest)) : bd_S Γ nL t0 x ws pc ls rest := by
  obtain ⟨p, l, e, R, s, m, args, below, meth, c, A, Q, D⟩ := Γ
  intro e1 e2 H locs arr hP hD hS hl
  exact lv_lload hC.1 hC.2.1 hd (lv_at hl q hq) (k e1 e2 H locs arr hP hD hS hl)
theorem bs_aload_n (hC : bd_C Γ cc nL own ret R0 ε cells vi t0) {kf : Fin 4} {i : Nat} {v : Nat} (q : Nat) (hd : decode cc pc = .ok (.aload_n kf, 1)) (hi : (kf : Nat) = i) (hq : ls[q]? = some (i, .ref v)) (k : bd_S Γ nL t0 x ws (pc + 1) ls (.ref v :: rest)) : bd_S Γ nL t0 x ws pc ls rest := by
  obtain ⟨p, l, e, R, s, m, args, below, meth, c, A, Q, D⟩ := Γ
  intro e1 e2 H locs arr hP hD hS hl
  exact lv_aload_n hC.1 hC.2.1 hd hi (lv_at hl q hq) (k e1 e2 H locs arr hP hD hS hl)
theorem bs_aload (hC : bd_C Γ cc nL own ret R0 ε cells vi t0) {i : Nat} {v : Nat} (q : Nat) (hd : decode cc pc = .ok (.aload i, 2)) (hq : ls[q]? = some (i, .ref v)) (k : bd_S Γ nL t0 x ws (pc + 2) ls (.ref v :: rest)) : bd_S Γ nL t0 x ws pc ls rest := by
  obtain ⟨p, l, e, R, s, m, args, below, meth, c, A, Q, D⟩ := Γ
  intro e1 e2 H locs arr hP hD hS hl
  exact lv_aload hC.1 hC.2.1 hd (lv_at hl q hq) (k e1 e2 H locs arr hP hD hS hl)
theorem bs_istore_n (hC : bd_C Γ cc nL own ret R0 ε cells vi t0) {kf : Fin 4} {i : Nat} {v : Int32} (ls' : List (Nat × Value)) (hd : decode cc pc = .ok (.istore_n kf, 1)) (hi : (kf : Nat) = i) (hn : i < nL) (hq : (i, Value.int v) :: ls.filter (fun q => !(q.1 == i) && !(q.1 + 1 == i && q.2.category == 2)) = ls') (k : bd_S Γ nL t0 x ws (pc + 1) ls' rest) : bd_S Γ nL t0 x ws pc ls (.int v :: rest) := by
  obtain ⟨p, l, e, R, s, m, args, below, meth, c, A, Q, D⟩ := Γ
  intro e1 e2 H locs arr hP hD hS hl
  exact lv_istore_n hC.1 hC.2.1 hd hi hl hn hq (fun arr hl => k e1 e2 H locs arr hP hD hS hl)
theorem bs_istore (hC : bd_C Γ cc nL own ret R0 ε cells vi t0) {i : Nat} {v : Int32} (ls' : List (Nat × Value)) (hd : decode cc pc = .ok (.istore i, 2)) (hn : i < nL) (hq : (i, Value.int v) :: ls.filter (fun q => !(q.1 == i) && !(q.1 + 1 == i && q.2.category == 2)) = ls') (k : bd_S Γ nL t0 x ws (pc + 2) ls' rest) : bd_S Γ nL t0 x ws pc ls (.int v :: rest) := by
  obtain ⟨p, l, e, R, s, m, args, below, meth, c, A, Q, D⟩ := Γ
  intro e1 e2 H locs arr hP hD hS hl
  exact lv_istore hC.1 hC.2.1 hd hl hn hq (fun arr hl => k e1 e2 H locs arr hP hD hS hl)
theorem bs_lstore_n (hC : bd_C Γ cc nL own ret R0 ε cells vi t0) {kf : Fin 4} {i : Nat} {v : Int64} (ls' : List (Nat × Value)) (hd : decode cc pc = .ok (.lstore_n kf, 1)) (hi : (kf : Nat) = i) (hn : i + 1 < nL) (hq : (i, Value.long v) :: ls.filter (fun q => !(q.1 == i) && (!(q.1 == i + 1) && !(q.1 + 1 == i && q.2.category == 2))) = ls') (k : bd_S Γ nL t0 x ws (pc + 1) ls' rest) : bd_S Γ nL t0 x ws pc ls (.long v :: rest) := by
  obtain ⟨p, l, e, R, s, m, args, below, meth, c, A, Q, D⟩ := Γ
  intro e1 e2 H locs arr hP hD hS hl
  exact lv_lstore_n hC.1 hC.2.1 hd hi hl hn hq (fun arr hl => k e1 e2 H locs arr hP hD hS hl)
theorem bs_lstore (hC : bd_C Γ cc nL own ret R0 ε cells vi t0) {i : Nat} {v : Int64} (ls' : List (Nat × Value)) (hd : decode cc pc = .ok (.lstore i, 2)) (hn : i + 1 < nL) (hq : (i, Value.long v) :: ls.filter (fun q => !(q.1 == i) && (!(q.1 == i + 1) && !(q.1 + 1 == i && q.2.category == 2))) = ls') (k : bd_S Γ nL t0 x ws (pc + 2) ls' rest) : bd_S Γ nL t0 x ws pc ls (.long v :: rest) := by
  obtain ⟨p, l, e, R, s, m, args, below, meth, c, A, Q, D⟩ := Γ
  intro e1 e2 H locs arr hP hD hS hl
  exact lv_lstore hC.1 hC.2.1 hd hl hn hq (fun arr hl => k e1 e2 H locs arr hP hD hS hl)
theorem bs_astore_n (hC : bd_C Γ cc nL own ret R0 ε cells vi t0) {kf : Fin 4} {i : Nat} {v : Nat} (ls' : List (Nat × Value)) (hd : decode cc pc = .ok (.astore_n kf, 1)) (hi : (kf : Nat) = i) (hn : i < nL) (hq : (i, Value.ref v) :: ls.filter (fun q => !(q.1 == i) && !(q.1 + 1 == i && q.2.category == 2)) = ls') (k : bd_S Γ nL t0 x ws (pc + 1) ls' rest) : bd_S Γ nL t0 x ws pc ls (.ref v :: rest) := by
  obtain ⟨p, l, e, R, s, m, args, below, meth, c, A, Q, D⟩ := Γ
  intro e1 e2 H locs arr hP hD hS hl
  exact lv_astore_n hC.1 hC.2.1 hd hi hl hn hq (fun arr hl => k e1 e2 H locs arr hP hD hS hl)
theorem bs_iinc (hC : bd_C Γ cc nL own ret R0 ε cells vi t0) {i : Nat} {n : Int} {v w : Int32} (q : Nat) (ls' : List (Nat × Value)) (hd : decode cc pc = .ok (.iinc i n, 3)) (hk : ls[q]? = some (i, .int v)) (hv : v + Int32.ofInt n = w) (hn : i < nL) (hq : (i, Value.int w) :: ls.filter (fun q => !(q.1 == i) && !(q.1 + 1 == i && q.2.category == 2)) = ls') (k : bd_S Γ nL t0 x ws (pc + 3) ls' rest) : bd_S Γ nL t0 x ws pc ls rest := by
  obtain ⟨p, l, e, R, s, m, args, below, meth, c, A, Q, D⟩ := Γ
  intro e1 e2 H locs arr hP hD hS hl
  exact lv_iinc hC.1 hC.2.1 hd hl hk hv hn hq (fun arr hl => k e1 e2 H locs arr hP hD hS hl)
theorem bs_pick (ks : List Nat) (hq : lv_pick ls ks = ls') (k : bd_S Γ nL t0 x ws pc ls' rest) : bd_S Γ nL t0 x ws pc ls rest := by
  obtain ⟨p, l, e, R, s, m, args, below, meth, c, A, Q, D⟩ := Γ
  intro e1 e2 H locs arr hP hD hS hl
  exact k e1 e2 H locs arr hP hD hS (lv_sub hl ks hq)
theorem bs_iadd (hC : bd_C Γ cc nL own ret R0 ε cells vi t0) {a b : Int32} (hd : decode cc pc = .ok (.iadd, 1)) (k : bd_S Γ nL t0 x ws (pc + 1) ls (.int (a + b) :: rest)) : bd_S Γ nL t0 x ws pc ls (.int b :: .int a :: rest) := by
  obtain ⟨p, l, e, R, s, m, args, below, meth, c, A, Q, D⟩ := Γ
  intro e1 e2 H locs arr hP hD hS hl
  exact lv_iadd hC.1 hC.2.1 hd (k e1 e2 H locs arr hP hD hS hl)
theorem bs_isub (hC : bd_C Γ cc nL own ret R0 ε cells vi t0) {a b : Int32} (hd : decode cc pc = .ok (.isub, 1)) (k : bd_S Γ nL t0 x ws (pc + 1) ls (.int (a - b) :: rest)) : bd_S Γ nL t0 x ws pc ls (.int b :: .int a :: rest) := by
  obtain ⟨p, l, e, R, s, m, args, below, meth, c, A, Q, D⟩ := Γ
  intro e1 e2 H locs arr hP hD hS hl
  exact lv_isub hC.1 hC.2.1 hd (k e1 e2 H locs arr hP hD hS hl)
theorem bs_imul (hC : bd_C Γ cc nL own ret R0 ε cells vi t0) {a b : Int32} (hd : decode cc pc = .ok (.imul, 1)) (k : bd_S Γ nL t0 x ws (pc + 1) ls (.int (a * b) :: rest)) : bd_S Γ nL t0 x ws pc ls (.int b :: .int a :: rest) := by
  obtain ⟨p, l, e, R, s, m, args, below, meth, c, A, Q, D⟩ := Γ
  intro e1 e2 H locs arr hP hD hS hl
  exact lv_imul hC.1 hC.2.1 hd (k e1 e2 H locs arr hP hD hS hl)
theorem bs_iand (hC : bd_C Γ cc nL own ret R0 ε cells vi t0) {a b : Int32} (hd : decode cc pc = .ok (.iand, 1)) (k : bd_S Γ nL t0 x ws (pc + 1) ls (.int (a &&& b) :: rest)) : bd_S Γ nL t0 x ws pc ls (.int b :: .int a :: rest) := by
  obtain ⟨p, l, e, R, s, m, args, below, meth, c, A, Q, D⟩ := Γ
  intro e1 e2 H locs arr hP hD hS hl
  exact lv_iand hC.1 hC.2.1 hd (k e1 e2 H locs arr hP hD hS hl)
theorem bs_ior (hC : bd_C Γ cc nL own ret R0 ε cells vi t0) {a b : Int32} (hd : decode cc pc = .ok (.ior, 1)) (k : bd_S Γ nL t0 x ws (pc + 1) ls (.int (a ||| b) :: rest)) : bd_S Γ nL t0 x ws pc ls (.int b :: .int a :: rest) := by
  obtain ⟨p, l, e, R, s, m, args, below, meth, c, A, Q, D⟩ := Γ
  intro e1 e2 H locs arr hP hD hS hl
  exact lv_ior hC.1 hC.2.1 hd (k e1 e2 H locs arr hP hD hS hl)
theorem bs_ixor (hC : bd_C Γ cc nL own ret R0 ε cells vi t0) {a b : Int32} (hd : decode cc pc = .ok (.ixor, 1)) (k : bd_S Γ nL t0 x ws (pc + 1) ls (.int (a ^^^ b) :: rest)) : bd_S Γ nL t0 x ws pc ls (.int b :: .int a :: rest) := by
  obtain ⟨p, l, e, R, s, m, args, below, meth, c, A, Q, D⟩ := Γ
  intro e1 e2 H locs arr hP hD hS hl
  exact lv_ixor hC.1 hC.2.1 hd (k e1 e2 H locs arr hP hD hS hl)
theorem bs_ishl (hC : bd_C Γ cc nL own ret R0 ε cells vi t0) {a b : Int32} (hd : decode cc pc = .ok (.ishl, 1)) (k : bd_S Γ nL t0 x ws (pc + 1) ls (.int (a <<< (b &&& 31)) :: rest)) : bd_S Γ nL t0 x ws pc ls (.int b :: .int a :: rest) := by
  obtain ⟨p, l, e, R, s, m, args, below, meth, c, A, Q, D⟩ := Γ
  intro e1 e2 H locs arr hP hD hS hl
  exact lv_ishl hC.1 hC.2.1 hd (k e1 e2 H locs arr hP hD hS hl)
theorem bs_ishr (hC : bd_C Γ cc nL own ret R0 ε cells vi t0) {a b : Int32} (hd : decode cc pc = .ok (.ishr, 1)) (k : bd_S Γ nL t0 x ws (pc + 1) ls (.int (a >>> (b &&& 31)) :: rest)) : bd_S Γ nL t0 x ws pc ls (.int b :: .int a :: rest) := by
  obtain ⟨p, l, e, R, s, m, args, below, meth, c, A, Q, D⟩ := Γ
  intro e1 e2 H locs arr hP hD hS hl
  exact lv_ishr hC.1 hC.2.1 hd (k e1 e2 H locs arr hP hD hS hl)
theorem bs_ladd (hC : bd_C Γ cc nL own ret R0 ε cells vi t0) {a b : Int64} (hd : decode cc pc = .ok (.ladd, 1)) (k : bd_S Γ nL t0 x ws (pc + 1) ls (.long (a + b) :: rest)) : bd_S Γ nL t0 x ws pc ls (.long b :: .long a :: rest) := by
  obtain ⟨p, l, e, R, s, m, args, below, meth, c, A, Q, D⟩ := Γ
  intro e1 e2 H locs arr hP hD hS hl
  exact lv_ladd hC.1 hC.2.1 hd (k e1 e2 H locs arr hP hD hS hl)
theorem bs_lsub (hC : bd_C Γ cc nL own ret R0 ε cells vi t0) {a b : Int64} (hd : decode cc pc = .ok (.lsub, 1)) (k : bd_S Γ nL t0 x ws (pc + 1) ls (.long (a - b) :: rest)) : bd_S Γ nL t0 x ws pc ls (.long b :: .long a :: rest) := by
  obtain ⟨p, l, e, R, s, m, args, below, meth, c, A, Q, D⟩ := Γ
  intro e1 e2 H locs arr hP hD hS hl
  exact lv_lsub hC.1 hC.2.1 hd (k e1 e2 H locs arr hP hD hS hl)
theorem bs_lmul (hC : bd_C Γ cc nL own ret R0 ε cells vi t0) {a b : Int64} (hd : decode cc pc = .ok (.lmul, 1)) (k : bd_S Γ nL t0 x ws (pc + 1) ls (.long (a * b) :: rest)) : bd_S Γ nL t0 x ws pc ls (.long b :: .long a :: rest) := by
  obtain ⟨p, l, e, R, s, m, args, below, meth, c, A, Q, D⟩ := Γ
  intro e1 e2 H locs arr hP hD hS hl
  exact lv_lmul hC.1 hC.2.1 hd (k e1 e2 H locs arr hP hD hS hl)
theorem bs_land (hC : bd_C Γ cc nL own ret R0 ε cells vi t0) {a b : Int64} (hd : decode cc pc = .ok (.land, 1)) (k : bd_S Γ nL t0 x ws (pc + 1) ls (.long (a &&& b) :: rest)) : bd_S Γ nL t0 x ws pc ls (.long b :: .long a :: rest) := by
  obtain ⟨p, l, e, R, s, m, args, below, meth, c, A, Q, D⟩ := Γ
  intro e1 e2 H locs arr hP hD hS hl
  exact lv_land hC.1 hC.2.1 hd (k e1 e2 H locs arr hP hD hS hl)
theorem bs_lor (hC : bd_C Γ cc nL own ret R0 ε cells vi t0) {a b : Int64} (hd : decode cc pc = .ok (.lor, 1)) (k : bd_S Γ nL t0 x ws (pc + 1) ls (.long (a ||| b) :: rest)) : bd_S Γ nL t0 x ws pc ls (.long b :: .long a :: rest) := by
  obtain ⟨p, l, e, R, s, m, args, below, meth, c, A, Q, D⟩ := Γ
  intro e1 e2 H locs arr hP hD hS hl
  exact lv_lor hC.1 hC.2.1 hd (k e1 e2 H locs arr hP hD hS hl)
theorem bs_idivc (hC : bd_C Γ cc nL own ret R0 ε cells vi t0) {a b : Int32} (hd : decode cc pc = .ok (.idiv, 1)) (hne : ¬ b = 0) (k : bd_S Γ nL t0 x ws (pc + 1) ls (.int (a / b) :: rest)) : bd_S Γ nL t0 x ws pc ls (.int b :: .int a :: rest) := by
  obtain ⟨p, l, e, R, s, m, args, below, meth, c, A, Q, D⟩ := Γ
  intro e1 e2 H locs arr hP hD hS hl
  exact lv_idiv hC.1 hC.2.1 hd hne (k e1 e2 H locs arr hP hD hS hl)
theorem bs_iremc (hC : bd_C Γ cc nL own ret R0 ε cells vi t0) {a b : Int32} (hd : decode cc pc = .ok (.irem, 1)) (hne : ¬ b = 0) (k : bd_S Γ nL t0 x ws (pc + 1) ls (.int (a - a / b * b) :: rest)) : bd_S Γ nL t0 x ws pc ls (.int b :: .int a :: rest) := by
  obtain ⟨p, l, e, R, s, m, args, below, meth, c, A, Q, D⟩ := Γ
  intro e1 e2 H locs arr hP hD hS hl
  exact lv_irem hC.1 hC.2.1 hd hne (k e1 e2 H locs arr hP hD hS hl)
theorem bs_ineg (hC : bd_C Γ cc nL own ret R0 ε cells vi t0) {a : Int32} (hd : decode cc pc = .ok (.ineg, 1)) (k : bd_S Γ nL t0 x ws (pc + 1) ls (.int (-a) :: rest)) : bd_S Γ nL t0 x ws pc ls (.int a :: rest) := by
  obtain ⟨p, l, e, R, s, m, args, below, meth, c, A, Q, D⟩ := Γ
  intro e1 e2 H locs arr hP hD hS hl
  exact lv_ineg hC.1 hC.2.1 hd (k e1 e2 H locs arr hP hD hS hl)
theorem bs_i2l (hC : bd_C Γ cc nL own ret R0 ε cells vi t0) {a : Int32} (hd : decode cc pc = .ok (.i2l, 1)) (k : bd_S Γ nL t0 x ws (pc + 1) ls (.long (a.toInt64) :: rest)) : bd_S Γ nL t0 x ws pc ls (.int a :: rest) := by
  obtain ⟨p, l, e, R, s, m, args, below, meth, c, A, Q, D⟩ := Γ
  intro e1 e2 H locs arr hP hD hS hl
  exact lv_i2l hC.1 hC.2.1 hd rfl (k e1 e2 H locs arr hP hD hS hl)
theorem bs_l2i (hC : bd_C Γ cc nL own ret R0 ε cells vi t0) {a : Int64} (hd : decode cc pc = .ok (.l2i, 1)) (k : bd_S Γ nL t0 x ws (pc + 1) ls (.int (a.toInt32) :: rest)) : bd_S Γ nL t0 x ws pc ls (.long a :: rest) := by
  obtain ⟨p, l, e, R, s, m, args, below, meth, c, A, Q, D⟩ := Γ
  intro e1 e2 H locs arr hP hD hS hl
  exact lv_l2i hC.1 hC.2.1 hd rfl (k e1 e2 H locs arr hP hD hS hl)
theorem bs_iushr (hC : bd_C Γ cc nL own ret R0 ε cells vi t0) {a b : Int32} (hd : decode cc pc = .ok (.iushr, 1)) (k : bd_S Γ nL t0 x ws (pc + 1) ls (.int ((a.toUInt32 >>> (b.toUInt32 &&& Int32.toUInt32 31)).toInt32) :: rest)) : bd_S Γ nL t0 x ws pc ls (.int b :: .int a :: rest) := by
  obtain ⟨p, l, e, R, s, m, args, below, meth, c, A, Q, D⟩ := Γ
  intro e1 e2 H locs arr hP hD hS hl
  exact lv_iushr hC.1 hC.2.1 hd rfl (k e1 e2 H locs arr hP hD hS hl)
theorem bs_lushr (hC : bd_C Γ cc nL own ret R0 ε cells vi t0) {a : Int64} {b : Int32} (hd : decode cc pc = .ok (.lushr, 1)) (k : bd_S Γ nL t0 x ws (pc + 1) ls (.long ((a.toUInt64 >>> (b.toInt64.toUInt64 &&& Int64.toUInt64 63)).toInt64) :: rest)) : bd_S Γ nL t0 x ws pc ls (.int b :: .long a :: rest) := by
  obtain ⟨p, l, e, R, s, m, args, below, meth, c, A, Q, D⟩ := Γ
  intro e1 e2 H locs arr hP hD hS hl
  exact lv_lushr hC.1 hC.2.1 hd rfl (k e1 e2 H locs arr hP hD hS hl)
theorem bs_lshl (hC : bd_C Γ cc nL own ret R0 ε cells vi t0) {a : Int64} {b : Int32} (hd : decode cc pc = .ok (.lshl, 1)) (k : bd_S Γ nL t0 x ws (pc + 1) ls (.long (a <<< (b.toInt64 &&& 63)) :: rest)) : bd_S Γ nL t0 x ws pc ls (.int b :: .long a :: rest) := by
  obtain ⟨p, l, e, R, s, m, args, below, meth, c, A, Q, D⟩ := Γ
  intro e1 e2 H locs arr hP hD hS hl
  exact lv_lshl hC.1 hC.2.1 hd rfl (k e1 e2 H locs arr hP hD hS hl)
theorem bs_lshr (hC : bd_C Γ cc nL own ret R0 ε cells vi t0) {a : Int64} {b : Int32} (hd : decode cc pc = .ok (.lshr, 1)) (k : bd_S Γ nL t0 x ws (pc + 1) ls (.long (a >>> (b.toInt64 &&& 63)) :: rest)) : bd_S Γ nL t0 x ws pc ls (.int b :: .long a :: rest) := by
  obtain ⟨p, l, e, R, s, m, args, below, meth, c, A, Q, D⟩ := Γ
  intro e1 e2 H locs arr hP hD hS hl
  exact lv_lshr hC.1 hC.2.1 hd rfl (k e1 e2 H locs arr hP hD hS hl)
theorem bs_dup (hC : bd_C Γ cc nL own ret R0 ε cells vi t0) {v : Value} (hd : decode cc pc = .ok (.dup, 1)) (hv : v.category = 1) (k : bd_S Γ nL t0 x ws (pc + 1) ls (v :: v :: rest)) : bd_S Γ nL t0 x ws pc ls (v :: rest) := by
  obtain ⟨p, l, e, R, s, m, args, below, meth, c, A, Q, D⟩ := Γ
  intro e1 e2 H locs arr hP hD hS hl
  exact lv_dup hC.1 hC.2.1 hd hv (k e1 e2 H locs arr hP hD hS hl)
theorem bs_pop (hC : bd_C Γ cc nL own ret R0 ε cells vi t0) {v : Value} (hd : decode cc pc = .ok (.pop, 1)) (hv : v.category = 1) (k : bd_S Γ nL t0 x ws (pc + 1) ls (rest)) : bd_S Γ nL t0 x ws pc ls (v :: rest) := by
  obtain ⟨p, l, e, R, s, m, args, below, meth, c, A, Q, D⟩ := Γ
  intro e1 e2 H locs arr hP hD hS hl
  exact lv_pop hC.1 hC.2.1 hd hv (k e1 e2 H locs arr hP hD hS hl)
theorem bs_dup2 (hC : bd_C Γ cc nL own ret R0 ε cells vi t0) {v w : Value} (hd : decode cc pc = .ok (.dup2, 1)) (hv : v.category = 1) (hw : w.category = 1) (k : bd_S Γ nL t0 x ws (pc + 1) ls (v :: w :: v :: w :: rest)) : bd_S Γ nL t0 x ws pc ls (v :: w :: rest) := by
  obtain ⟨p, l, e, R, s, m, args, below, meth, c, A, Q, D⟩ := Γ
  intro e1 e2 H locs arr hP hD hS hl
  exact lv_dup2_11 hC.1 hC.2.1 hd hv hw (k e1 e2 H locs arr hP hD hS hl)
theorem bs_lcmp (hC : bd_C Γ cc nL own ret R0 ε cells vi t0) {a b : Int64} (hd : decode cc pc = .ok (.lcmp, 1)) (k : bd_S Γ nL t0 x ws (pc + 1) ls (.int (lg_cmp a b) :: rest)) : bd_S Γ nL t0 x ws pc ls (.long b :: .long a :: rest) := by
  obtain ⟨p, l, e, R, s, m, args, below, meth, c, A, Q, D⟩ := Γ
  intro e1 e2 H locs arr hP hD hS hl
  exact W.lcmp hC.1 hC.2.1 hd (k e1 e2 H locs arr hP hD hS hl)
theorem bs_if_eq (hC : bd_C Γ cc nL own ret R0 ε cells vi t0) {v : Int32} {off : Int} (tgt : Nat) {xt xf : Option α} {K : α → Option (ρ × bd_T)} {dc : Decidable (v = 0)} (hd : decode cc pc = .ok (.ifCond .eq off, 3)) (ht : (pc : Int) + off = (tgt : Int)) (h1 : v = 0 → bd_S Γ nL t0 (xt.bind K) ws (tgt) ls rest) (h2 : ¬ v = 0 → bd_S Γ nL t0 (xf.bind K) ws (pc + 3) ls rest) : bd_S Γ nL t0 ((@ite (Option α) (v = 0) dc xt xf).bind K) ws pc ls (.int v :: rest) := by
  obtain ⟨p, l, e, R, s, m, args, below, meth, c, A, Q, D⟩ := Γ
  intro e1 e2 H locs arr hP hD hS hl
  refine lv_if_eq (tgt := tgt) hC.1 hC.2.1 hd ht (fun q => ?_) (fun q => ?_)
  · rw [if_pos q] at e1 e2; exact h1 q e1 e2 H locs arr hP hD hS hl
  · rw [if_neg q] at e1 e2; exact h2 q e1 e2 H locs arr hP hD hS hl
theorem bs_if_eqT (hC : bd_C Γ cc nL own ret R0 ε cells vi t0) {v : Int32} {off : Int} (tgt : Nat) (hd : decode cc pc = .ok (.ifCond .eq off, 3)) (ht : (pc : Int) + off = (tgt : Int)) (hq : v = 0) (k : bd_S Γ nL t0 x ws (tgt) ls rest) : bd_S Γ nL t0 x ws pc ls (.int v :: rest) := by
  obtain ⟨p, l, e, R, s, m, args, below, meth, c, A, Q, D⟩ := Γ
  intro e1 e2 H locs arr hP hD hS hl
  exact lv_if_eq (tgt := tgt) hC.1 hC.2.1 hd ht (fun _ => k e1 e2 H locs arr hP hD hS hl) (fun q => absurd hq q)
theorem bs_if_eqF (hC : bd_C Γ cc nL own ret R0 ε cells vi t0) {v : Int32} {off : Int} (tgt : Nat) (hd : decode cc pc = .ok (.ifCond .eq off, 3)) (ht : (pc : Int) + off = (tgt : Int)) (hq : ¬ v = 0) (k : bd_S Γ nL t0 x ws (pc + 3) ls rest) : bd_S Γ nL t0 x ws pc ls (.int v :: rest) := by
  obtain ⟨p, l, e, R, s, m, args, below, meth, c, A, Q, D⟩ := Γ
  intro e1 e2 H locs arr hP hD hS hl
  exact lv_if_eq (tgt := tgt) hC.1 hC.2.1 hd ht (fun q => absurd q hq) (fun _ => k e1 e2 H locs arr hP hD hS hl)
theorem bs_icmp_eq (hC : bd_C Γ cc nL own ret R0 ε cells vi t0) {v w : Int32} {off : Int} (tgt : Nat) {xt xf : Option α} {K : α → Option (ρ × bd_T)} {dc : Decidable (v = w)} (hd : decode cc pc = .ok (.if_icmp .eq off, 3)) (ht : (pc : Int) + off = (tgt : Int)) (h1 : v = w → bd_S Γ nL t0 (xt.bind K) ws (tgt) ls rest) (h2 : ¬ v = w → bd_S Γ nL t0 (xf.bind K) ws (pc + 3) ls rest) : bd_S Γ nL t0 ((@ite (Option α) (v = w) dc xt xf).bind K) ws pc ls (.int w :: .int v :: rest) := by
  obtain ⟨p, l, e, R, s, m, args, below, meth, c, A, Q, D⟩ := Γ
  intro e1 e2 H locs arr hP hD hS hl
  refine lv_icmp_eq (tgt := tgt) hC.1 hC.2.1 hd ht (fun q => ?_) (fun q => ?_)
  · rw [if_pos q] at e1 e2; exact h1 q e1 e2 H locs arr hP hD hS hl
  · rw [if_neg q] at e1 e2; exact h2 q e1 e2 H locs arr hP hD hS hl
theorem bs_icmp_eqT (hC : bd_C Γ cc nL own ret R0 ε cells vi t0) {v w : Int32} {off : Int} (tgt : Nat) (hd : decode cc pc = .ok (.if_icmp .eq off, 3)) (ht : (pc : Int) + off = (tgt : Int)) (hq : v = w) (k : bd_S Γ nL t0 x ws (tgt) ls rest) : bd_S Γ nL t0 x ws pc ls (.int w :: .int v :: rest) := by
  obtain ⟨p, l, e, R, s, m, args, below, meth, c, A, Q, D⟩ := Γ
  intro e1 e2 H locs arr hP hD hS hl
  exact lv_icmp_eq (tgt := tgt) hC.1 hC.2.1 hd ht (fun _ => k e1 e2 H locs arr hP hD hS hl) (fun q => absurd hq q)
theorem bs_icmp_eqF (hC : bd_C Γ cc nL own ret R0 ε cells vi t0) {v w : Int32} {off : Int} (tgt : Nat) (hd : decode cc pc = .ok (.if_icmp .eq off, 3)) (ht : (pc : Int) + off = (tgt : Int)) (hq : ¬ v = w) (k : bd_S Γ nL t0 x ws (pc + 3) ls rest) : bd_S Γ nL t0 x ws pc ls (.int w :: .int v :: rest) := by
  obtain ⟨p, l, e, R, s, m, args, below, meth, c, A, Q, D⟩ := Γ
  intro e1 e2 H locs arr hP hD hS hl
  exact lv_icmp_eq (tgt := tgt) hC.1 hC.2.1 hd ht (fun q => absurd q hq) (fun _ => k e1 e2 H locs arr hP hD hS hl)
theorem bs_lif_eq (hC : bd_C Γ cc nL own ret R0 ε cells vi t0) {a b : Int64} {off : Int} (tgt : Nat) {xt xf : Option α} {K : α → Option (ρ × bd_T)} {dc : Decidable (a = b)} (hd0 : decode cc pc = .ok (.lcmp, 1)) (hd : decode cc (pc + 1) = .ok (.ifCond .eq off, 3)) (ht : ((pc + 1 : Nat) : Int) + off = (tgt : Int)) (h1 : a = b → bd_S Γ nL t0 (xt.bind K) ws (tgt) ls rest) (h2 : ¬ a = b → bd_S Γ nL t0 (xf.bind K) ws (pc + 1 + 3) ls rest) : bd_S Γ nL t0 ((@ite (Option α) (a = b) dc xt xf).bind K) ws pc ls (.long b :: .long a :: rest) := by
  obtain ⟨p, l, e, R, s, m, args, below, meth, c, A, Q, D⟩ := Γ
  intro e1 e2 H locs arr hP hD hS hl
  refine W.lcmp hC.1 hC.2.1 hd0 ?_
  refine lv_if_eq (tgt := tgt) hC.1 hC.2.1 hd ht (fun q => ?_) (fun q => ?_)
  · rw [if_pos ((lg_cmp_eq a b).mp q)] at e1 e2; exact h1 ((lg_cmp_eq a b).mp q) e1 e2 H locs arr hP hD hS hl
  · rw [if_neg (fun z => q ((lg_cmp_eq a b).mpr z))] at e1 e2; exact h2 (fun z => q ((lg_cmp_eq a b).mpr z)) e1 e2 H locs arr hP hD hS hl
theorem bs_if_ne (hC : bd_C Γ cc nL own ret R0 ε cells vi t0) {v : Int32} {off : Int} (tgt : Nat) {xt xf : Option α} {K : α → Option (ρ × bd_T)} {dc : Decidable (v = 0)} (hd : decode cc pc = .ok (.ifCond .ne off, 3)) (ht : (pc : Int) + off = (tgt : Int)) (h1 : v = 0 → bd_S Γ nL t0 (xt.bind K) ws (pc + 3) ls rest) (h2 : ¬ v = 0 → bd_S Γ nL t0 (xf.bind K) ws (tgt) ls rest) : bd_S Γ nL t0 ((@ite (Option α) (v = 0) dc xt xf).bind K) ws pc ls (.int v :: rest) := by
  obtain ⟨p, l, e, R, s, m, args, below, meth, c, A, Q, D⟩ := Γ
  intro e1 e2 H locs arr hP hD hS hl
  refine lv_if_ne (tgt := tgt) hC.1 hC.2.1 hd ht (fun q => ?_) (fun q => ?_)
  · rw [if_neg q] at e1 e2; exact h2 q e1 e2 H locs arr hP hD hS hl
  · rw [if_pos q] at e1 e2; exact h1 q e1 e2 H locs arr hP hD hS hl
theorem bs_if_neT (hC : bd_C Γ cc nL own ret R0 ε cells vi t0) {v : Int32} {off : Int} (tgt : Nat) (hd : decode cc pc = .ok (.ifCond .ne off, 3)) (ht : (pc : Int) + off = (tgt : Int)) (hq : ¬ v = 0) (k : bd_S Γ nL t0 x ws (tgt) ls rest) : bd_S Γ nL t0 x ws pc ls (.int v :: rest) := by
  obtain ⟨p, l, e, R, s, m, args, below, meth, c, A, Q, D⟩ := Γ
  intro e1 e2 H locs arr hP hD hS hl
  exact lv_if_ne (tgt := tgt) hC.1 hC.2.1 hd ht (fun _ => k e1 e2 H locs arr hP hD hS hl) (fun q => absurd q hq)
theorem bs_if_neF (hC : bd_C Γ cc nL own ret R0 ε cells vi t0) {v : Int32} {off : Int} (tgt : Nat) (hd : decode cc pc = .ok (.ifCond .ne off, 3)) (ht : (pc : Int) + off = (tgt : Int)) (hq : v = 0) (k : bd_S Γ nL t0 x ws (pc + 3) ls rest) : bd_S Γ nL t0 x ws pc ls (.int v :: rest) := by
  obtain ⟨p, l, e, R, s, m, args, below, meth, c, A, Q, D⟩ := Γ
  intro e1 e2 H locs arr hP hD hS hl
  exact lv_if_ne (tgt := tgt) hC.1 hC.2.1 hd ht (fun q => absurd hq q) (fun _ => k e1 e2 H locs arr hP hD hS hl)
theorem bs_icmp_ne (hC : bd_C Γ cc nL own ret R0 ε cells vi t0) {v w : Int32} {off : Int} (tgt : Nat) {xt xf : Option α} {K : α → Option (ρ × bd_T)} {dc : Decidable (v = w)} (hd : decode cc pc = .ok (.if_icmp .ne off, 3)) (ht : (pc : Int) + off = (tgt : Int)) (h1 : v = w → bd_S Γ nL t0 (xt.bind K) ws (pc + 3) ls rest) (h2 : ¬ v = w → bd_S Γ nL t0 (xf.bind K) ws (tgt) ls rest) : bd_S Γ nL t0 ((@ite (Option α) (v = w) dc xt xf).bind K) ws pc ls (.int w :: .int v :: rest) := by
  obtain ⟨p, l, e, R, s, m, args, below, meth, c, A, Q, D⟩ := Γ
  intro e1 e2 H locs arr hP hD hS hl
  refine lv_icmp_ne (tgt := tgt) hC.1 hC.2.1 hd ht (fun q => ?_) (fun q => ?_)
  · rw [if_neg q] at e1 e2; exact h2 q e1 e2 H locs arr hP hD hS hl
  · rw [if_pos q] at e1 e2; exact h1 q e1 e2 H locs arr hP hD hS hl
theorem bs_icmp_neT (hC : bd_C Γ cc nL own ret R0 ε cells vi t0) {v w : Int32} {off : Int} (tgt : Nat) (hd : decode cc pc = .ok (.if_icmp .ne off, 3)) (ht : (pc : Int) + off = (tgt : Int)) (hq : ¬ v = w) (k : bd_S Γ nL t0 x ws (tgt) ls rest) : bd_S Γ nL t0 x ws pc ls (.int w :: .int v :: rest) := by
  obtain ⟨p, l, e, R, s, m, args, below, meth, c, A, Q, D⟩ := Γ
  intro e1 e2 H locs arr hP hD hS hl
  exact lv_icmp_ne (tgt := tgt) hC.1 hC.2.1 hd ht (fun _ => k e1 e2 H locs arr hP hD hS hl) (fun q => absurd q hq)
theorem bs_icmp_neF (hC : bd_C Γ cc nL own ret R0 ε cells vi t0) {v w : Int32} {off : Int} (tgt : Nat) (hd : decode cc pc = .ok (.if_icmp .ne off, 3)) (ht : (pc : Int) + off = (tgt : Int)) (hq : v = w) (k : bd_S Γ nL t0 x ws (pc + 3) ls rest) : bd_S Γ nL t0 x ws pc ls (.int w :: .int v :: rest) := by
  obtain ⟨p, l, e, R, s, m, args, below, meth, c, A, Q, D⟩ := Γ
  intro e1 e2 H locs arr hP hD hS hl
  exact lv_icmp_ne (tgt := tgt) hC.1 hC.2.1 hd ht (fun q => absurd hq q) (fun _ => k e1 e2 H locs arr hP hD hS hl)
theorem bs_lif_ne (hC : bd_C Γ cc nL own ret R0 ε cells vi t0) {a b : Int64} {off : Int} (tgt : Nat) {xt xf : Option α} {K : α → Option (ρ × bd_T)} {dc : Decidable (a = b)} (hd0 : decode cc pc = .ok (.lcmp, 1)) (hd : decode cc (pc + 1) = .ok (.ifCond .ne off, 3)) (ht : ((pc + 1 : Nat) : Int) + off = (tgt : Int)) (h1 : a = b → bd_S Γ nL t0 (xt.bind K) ws (pc + 1 + 3) ls rest) (h2 : ¬ a = b → bd_S Γ nL t0 (xf.bind K) ws (tgt) ls rest) : bd_S Γ nL t0 ((@ite (Option α) (a = b) dc xt xf).bind K) ws pc ls (.long b :: .long a :: rest) := by
  obtain ⟨p, l, e, R, s, m, args, below, meth, c, A, Q, D⟩ := Γ
  intro e1 e2 H locs arr hP hD hS hl
  refine W.lcmp hC.1 hC.2.1 hd0 ?_
  refine lv_if_ne (tgt := tgt) hC.1 hC.2.1 hd ht (fun q => ?_) (fun q => ?_)
  · rw [if_neg (fun z => q ((lg_cmp_eq a b).mpr z))] at e1 e2; exact h2 (fun z => q ((lg_cmp_eq a b).mpr z)) e1 e2 H locs arr hP hD hS hl
  · rw [if_pos ((lg_cmp_eq a b).mp q)] at e1 e2; exact h1 ((lg_cmp_eq a b).mp q) e1 e2 H locs arr hP hD hS hl
theorem bs_if_lt (hC : bd_C Γ cc nL own ret R0 ε cells vi t0) {v : Int32} {off : Int} (tgt : Nat) {xt xf : Option α} {K : α → Option (ρ × bd_T)} {dc : Decidable (v < 0)} (hd : decode cc pc = .ok (.ifCond .lt off, 3)) (ht : (pc : Int) + off = (tgt : Int)) (h1 : v < 0 → bd_S Γ nL t0 (xt.bind K) ws (tgt) ls rest) (h2 : ¬ v < 0 → bd_S Γ nL t0 (xf.bind K) ws (pc + 3) ls rest) : bd_S Γ nL t0 ((@ite (Option α) (v < 0) dc xt xf).bind K) ws pc ls (.int v :: rest) := by
  obtain ⟨p, l, e, R, s, m, args, below, meth, c, A, Q, D⟩ := Γ
  intro e1 e2 H locs arr hP hD hS hl
  refine lv_if_lt (tgt := tgt) hC.1 hC.2.1 hd ht (fun q => ?_) (fun q => ?_)
  · rw [if_pos q] at e1 e2; exact h1 q e1 e2 H locs arr hP hD hS hl
  · rw [if_neg q] at e1 e2; exact h2 q e1 e2 H locs arr hP hD hS hl
theorem bs_if_ltT (hC : bd_C Γ cc nL own ret R0 ε cells vi t0) {v : Int32} {off : Int} (tgt : Nat) (hd : decode cc pc = .ok (.ifCond .lt off, 3)) (ht : (pc : Int) + off = (tgt : Int)) (hq : v < 0) (k : bd_S Γ nL t0 x ws (tgt) ls rest) : bd_S Γ nL t0 x ws pc ls (.int v :: rest) := by
  obtain ⟨p, l, e, R, s, m, args, below, meth, c, A, Q, D⟩ := Γ
  intro e1 e2 H locs arr hP hD hS hl
  exact lv_if_lt (tgt := tgt) hC.1 hC.2.1 hd ht (fun _ => k e1 e2 H locs arr hP hD hS hl) (fun q => absurd hq q)
theorem bs_if_ltF (hC : bd_C Γ cc nL own ret R0 ε cells vi t0) {v : Int32} {off : Int} (tgt : Nat) (hd : decode cc pc = .ok (.ifCond .lt off, 3)) (ht : (pc : Int) + off = (tgt : Int)) (hq : ¬ v < 0) (k : bd_S Γ nL t0 x ws (pc + 3) ls rest) : bd_S Γ nL t0 x ws pc ls (.int v :: rest) := by
  obtain ⟨p, l, e, R, s, m, args, below, meth, c, A, Q, D⟩ := Γ
  intro e1 e2 H locs arr hP hD hS hl
  exact lv_if_lt (tgt := tgt) hC.1 hC.2.1 hd ht (fun q => absurd q hq) (fun _ => k e1 e2 H locs arr hP hD hS hl)
theorem bs_icmp_lt (hC : bd_C Γ cc nL own ret R0 ε cells vi t0) {v w : Int32} {off : Int} (tgt : Nat) {xt xf : Option α} {K : α → Option (ρ × bd_T)} {dc : Decidable (v < w)} (hd : decode cc pc = .ok (.if_icmp .lt off, 3)) (ht : (pc : Int) + off = (tgt : Int)) (h1 : v < w → bd_S Γ nL t0 (xt.bind K) ws (tgt) ls rest) (h2 : ¬ v < w → bd_S Γ nL t0 (xf.bind K) ws (pc + 3) ls rest) : bd_S Γ nL t0 ((@ite (Option α) (v < w) dc xt xf).bind K) ws pc ls (.int w :: .int v :: rest) := by
  obtain ⟨p, l, e, R, s, m, args, below, meth, c, A, Q, D⟩ := Γ
  intro e1 e2 H locs arr hP hD hS hl
  refine lv_icmp_lt (tgt := tgt) hC.1 hC.2.1 hd ht (fun q => ?_) (fun q => ?_)
  · rw [if_pos q] at e1 e2; exact h1 q e1 e2 H locs arr hP hD hS hl
  · rw [if_neg q] at e1 e2; exact h2 q e1 e2 H locs arr hP hD hS hl
theorem bs_icmp_ltT (hC : bd_C Γ cc nL own ret R0 ε cells vi t0) {v w : Int32} {off : Int} (tgt : Nat) (hd : decode cc pc = .ok (.if_icmp .lt off, 3)) (ht : (pc : Int) + off = (tgt : Int)) (hq : v < w) (k : bd_S Γ nL t0 x ws (tgt) ls rest) : bd_S Γ nL t0 x ws pc ls (.int w :: .int v :: rest) := by
  obtain ⟨p, l, e, R, s, m, args, below, meth, c, A, Q, D⟩ := Γ
  intro e1 e2 H locs arr hP hD hS hl
  exact lv_icmp_lt (tgt := tgt) hC.1 hC.2.1 hd ht (fun _ => k e1 e2 H locs arr hP hD hS hl) (fun q => absurd hq q)
theorem bs_icmp_ltF (hC : bd_C Γ cc nL own ret R0 ε cells vi t0) {v w : Int32} {off : Int} (tgt : Nat) (hd : decode cc pc = .ok (.if_icmp .lt off, 3)) (ht : (pc : Int) + off = (tgt : Int)) (hq : ¬ v < w) (k : bd_S Γ nL t0 x ws (pc + 3) ls rest) : bd_S Γ nL t0 x ws pc ls (.int w :: .int v :: rest) := by
  obtain ⟨p, l, e, R, s, m, args, below, meth, c, A, Q, D⟩ := Γ
  intro e1 e2 H locs arr hP hD hS hl
  exact lv_icmp_lt (tgt := tgt) hC.1 hC.2.1 hd ht (fun q => absurd q hq) (fun _ => k e1 e2 H locs arr hP hD hS hl)
theorem bs_lif_lt (hC : bd_C Γ cc nL own ret R0 ε cells vi t0) {a b : Int64} {off : Int} (tgt : Nat) {xt xf : Option α} {K : α → Option (ρ × bd_T)} {dc : Decidable (a < b)} (hd0 : decode cc pc = .ok (.lcmp, 1)) (hd : decode cc (pc + 1) = .ok (.ifCond .lt off, 3)) (ht : ((pc + 1 : Nat) : Int) + off = (tgt : Int)) (h1 : a < b → bd_S Γ nL t0 (xt.bind K) ws (tgt) ls rest) (h2 : ¬ a < b → bd_S Γ nL t0 (xf.bind K) ws (pc + 1 + 3) ls rest) : bd_S Γ nL t0 ((@ite (Option α) (a < b) dc xt xf).bind K) ws pc ls (.long b :: .long a :: rest) := by
  obtain ⟨p, l, e, R, s, m, args, below, meth, c, A, Q, D⟩ := Γ
  intro e1 e2 H locs arr hP hD hS hl
  refine W.lcmp hC.1 hC.2.1 hd0 ?_
  refine lv_if_lt (tgt := tgt) hC.1 hC.2.1 hd ht (fun q => ?_) (fun q => ?_)
  · rw [if_pos ((lg_cmp_lt a b).mp q)] at e1 e2; exact h1 ((lg_cmp_lt a b).mp q) e1 e2 H locs arr hP hD hS hl
  · rw [if_neg (fun z => q ((lg_cmp_lt a b).mpr z))] at e1 e2; exact h2 (fun z => q ((lg_cmp_lt a b).mpr z)) e1 e2 H locs arr hP hD hS hl
theorem bs_if_ge (hC : bd_C Γ cc nL own ret R0 ε cells vi t0) {v : Int32} {off : Int} (tgt : Nat) {xt xf : Option α} {K : α → Option (ρ × bd_T)} {dc : Decidable (0 ≤ v)} (hd : decode cc pc = .ok (.ifCond .ge off, 3)) (ht : (pc : Int) + off = (tgt : Int)) (h1 : 0 ≤ v → bd_S Γ nL t0 (xt.bind K) ws (tgt) ls rest) (h2 : ¬ 0 ≤ v → bd_S Γ nL t0 (xf.bind K) ws (pc + 3) ls rest) : bd_S Γ nL t0 ((@ite (Option α) (0 ≤ v) dc xt xf).bind K) ws pc ls (.int v :: rest) := by
  obtain ⟨p, l, e, R, s, m, args, below, meth, c, A, Q, D⟩ := Γ
  intro e1 e2 H locs arr hP hD hS hl
  refine lv_if_ge (tgt := tgt) hC.1 hC.2.1 hd ht (fun q => ?_) (fun q => ?_)
  · rw [if_pos q] at e1 e2; exact h1 q e1 e2 H locs arr hP hD hS hl
  · rw [if_neg q] at e1 e2; exact h2 q e1 e2 H locs arr hP hD hS hl
theorem bs_if_geT (hC : bd_C Γ cc nL own ret R0 ε cells vi t0) {v : Int32} {off : Int} (tgt : Nat) (hd : decode cc pc = .ok (.ifCond .ge off, 3)) (ht : (pc : Int) + off = (tgt : Int)) (hq : 0 ≤ v) (k : bd_S Γ nL t0 x ws (tgt) ls rest) : bd_S Γ nL t0 x ws pc ls (.int v :: rest) := by
  obtain ⟨p, l, e, R, s, m, args, below, meth, c, A, Q, D⟩ := Γ
  intro e1 e2 H locs arr hP hD hS hl
  exact lv_if_ge (tgt := tgt) hC.1 hC.2.1 hd ht (fun _ => k e1 e2 H locs arr hP hD hS hl) (fun q => absurd hq q)
theorem bs_if_geF (hC : bd_C Γ cc nL own ret R0 ε cells vi t0) {v : Int32} {off : Int} (tgt : Nat) (hd : decode cc pc = .ok (.ifCond .ge off, 3)) (ht : (pc : Int) + off = (tgt : Int)) (hq : ¬ 0 ≤ v) (k : bd_S Γ nL t0 x ws (pc + 3) ls rest) : bd_S Γ nL t0 x ws pc ls (.int v :: rest) := by
  obtain ⟨p, l, e, R, s, m, args, below, meth, c, A, Q, D⟩ := Γ
  intro e1 e2 H locs arr hP hD hS hl
  exact lv_if_ge (tgt := tgt) hC.1 hC.2.1 hd ht (fun q => absurd q hq) (fun _ => k e1 e2 H locs arr hP hD hS hl)
theorem bs_icmp_ge (hC : bd_C Γ cc nL own ret R0 ε cells vi t0) {v w : Int32} {off : Int} (tgt : Nat) {xt xf : Option α} {K : α → Option (ρ × bd_T)} {dc : Decidable (w ≤ v)} (hd : decode cc pc = .ok (.if_icmp .ge off, 3)) (ht : (pc : Int) + off = (tgt : Int)) (h1 : w ≤ v → bd_S Γ nL t0 (xt.bind K) ws (tgt) ls rest) (h2 : ¬ w ≤ v → bd_S Γ nL t0 (xf.bind K) ws (pc + 3) ls rest) : bd_S Γ nL t0 ((@ite (Option α) (w ≤ v) dc xt xf).bind K) ws pc ls (.int w :: .int v :: rest) := by
  obtain ⟨p, l, e, R, s, m, args, below, meth, c, A, Q, D⟩ := Γ
  intro e1 e2 H locs arr hP hD hS hl
  refine lv_icmp_ge (tgt := tgt) hC.1 hC.2.1 hd ht (fun q => ?_) (fun q => ?_)
  · rw [if_pos q] at e1 e2; exact h1 q e1 e2 H locs arr hP hD hS hl
  · rw [if_neg q] at e1 e2; exact h2 q e1 e2 H locs arr hP hD hS hl
theorem bs_icmp_geT (hC : bd_C Γ cc nL own ret R0 ε cells vi t0) {v w : Int32} {off : Int} (tgt : Nat) (hd : decode cc pc = .ok (.if_icmp .ge off, 3)) (ht : (pc : Int) + off = (tgt : Int)) (hq : w ≤ v) (k : bd_S Γ nL t0 x ws (tgt) ls rest) : bd_S Γ nL t0 x ws pc ls (.int w :: .int v :: rest) := by
  obtain ⟨p, l, e, R, s, m, args, below, meth, c, A, Q, D⟩ := Γ
  intro e1 e2 H locs arr hP hD hS hl
  exact lv_icmp_ge (tgt := tgt) hC.1 hC.2.1 hd ht (fun _ => k e1 e2 H locs arr hP hD hS hl) (fun q => absurd hq q)
theorem bs_icmp_geF (hC : bd_C Γ cc nL own ret R0 ε cells vi t0) {v w : Int32} {off : Int} (tgt : Nat) (hd : decode cc pc = .ok (.if_icmp .ge off, 3)) (ht : (pc : Int) + off = (tgt : Int)) (hq : ¬ w ≤ v) (k : bd_S Γ nL t0 x ws (pc + 3) ls rest) : bd_S Γ nL t0 x ws pc ls (.int w :: .int v :: rest) := by
  obtain ⟨p, l, e, R, s, m, args, below, meth, c, A, Q, D⟩ := Γ
  intro e1 e2 H locs arr hP hD hS hl
  exact lv_icmp_ge (tgt := tgt) hC.1 hC.2.1 hd ht (fun q => absurd q hq) (fun _ => k e1 e2 H locs arr hP hD hS hl)
theorem bs_lif_ge (hC : bd_C Γ cc nL own ret R0 ε cells vi t0) {a b : Int64} {off : Int} (tgt : Nat) {xt xf : Option α} {K : α → Option (ρ × bd_T)} {dc : Decidable (b ≤ a)} (hd0 : decode cc pc = .ok (.lcmp, 1)) (hd : decode cc (pc + 1) = .ok (.ifCond .ge off, 3)) (ht : ((pc + 1 : Nat) : Int) + off = (tgt : Int)) (h1 : b ≤ a → bd_S Γ nL t0 (xt.bind K) ws (tgt) ls rest) (h2 : ¬ b ≤ a → bd_S Γ nL t0 (xf.bind K) ws (pc + 1 + 3) ls rest) : bd_S Γ nL t0 ((@ite (Option α) (b ≤ a) dc xt xf).bind K) ws pc ls (.long b :: .long a :: rest) := by
  obtain ⟨p, l, e, R, s, m, args, below, meth, c, A, Q, D⟩ := Γ
  intro e1 e2 H locs arr hP hD hS hl
  refine W.lcmp hC.1 hC.2.1 hd0 ?_
  refine lv_if_ge (tgt := tgt) hC.1 hC.2.1 hd ht (fun q => ?_) (fun q => ?_)
  · rw [if_pos ((lg_cmp_ge a b).mp q)] at e1 e2; exact h1 ((lg_cmp_ge a b).mp q) e1 e2 H locs arr hP hD hS hl
  · rw [if_neg (fun z => q ((lg_cmp_ge a b).mpr z))] at e1 e2; exact h2 (fun z => q ((lg_cmp_ge a b).mpr z)) e1 e2 H locs arr hP hD hS hl
theorem bs_if_gt (hC : bd_C Γ cc nL own ret R0 ε cells vi t0) {v : Int32} {off : Int} (tgt : Nat) {xt xf : Option α} {K : α → Option (ρ × bd_T)} {dc : Decidable (0 < v)} (hd : decode cc pc = .ok (.ifCond .gt off, 3)) (ht : (pc : Int) + off = (tgt : Int)) (h1 : 0 < v → bd_S Γ nL t0 (xt.bind K) ws (tgt) ls rest) (h2 : ¬ 0 < v → bd_S Γ nL t0 (xf.bind K) ws (pc + 3) ls rest) : bd_S Γ nL t0 ((@ite (Option α) (0 < v) dc xt xf).bind K) ws pc ls (.int v :: rest) := by
  obtain ⟨p, l, e, R, s, m, args, below, meth, c, A, Q, D⟩ := Γ
  intro e1 e2 H locs arr hP hD hS hl
  refine lv_if_gt (tgt := tgt) hC.1 hC.2.1 hd ht (fun q => ?_) (fun q => ?_)
  · rw [if_pos q] at e1 e2; exact h1 q e1 e2 H locs arr hP hD hS hl
  · rw [if_neg q] at e1 e2; exact h2 q e1 e2 H locs arr hP hD hS hl
theorem bs_if_gtT (hC : bd_C Γ cc nL own ret R0 ε cells vi t0) {v : Int32} {off : Int} (tgt : Nat) (hd : decode cc pc = .ok (.ifCond .gt off, 3)) (ht : (pc : Int) + off = (tgt : Int)) (hq : 0 < v) (k : bd_S Γ nL t0 x ws (tgt) ls rest) : bd_S Γ nL t0 x ws pc ls (.int v :: rest) := by
  obtain ⟨p, l, e, R, s, m, args, below, meth, c, A, Q, D⟩ := Γ
  intro e1 e2 H locs arr hP hD hS hl
  exact lv_if_gt (tgt := tgt) hC.1 hC.2.1 hd ht (fun _ => k e1 e2 H locs arr hP hD hS hl) (fun q => absurd hq q)
theorem bs_if_gtF (hC : bd_C Γ cc nL own ret R0 ε cells vi t0) {v : Int32} {off : Int} (tgt : Nat) (hd : decode cc pc = .ok (.ifCond .gt off, 3)) (ht : (pc : Int) + off = (tgt : Int)) (hq : ¬ 0 < v) (k : bd_S Γ nL t0 x ws (pc + 3) ls rest) : bd_S Γ nL t0 x ws pc ls (.int v :: rest) := by
  obtain ⟨p, l, e, R, s, m, args, below, meth, c, A, Q, D⟩ := Γ
  intro e1 e2 H locs arr hP hD hS hl
  exact lv_if_gt (tgt := tgt) hC.1 hC.2.1 hd ht (fun q => absurd q hq) (fun _ => k e1 e2 H locs arr hP hD hS hl)
theorem bs_icmp_gt (hC : bd_C Γ cc nL own ret R0 ε cells vi t0) {v w : Int32} {off : Int} (tgt : Nat) {xt xf : Option α} {K : α → Option (ρ × bd_T)} {dc : Decidable (w < v)} (hd : decode cc pc = .ok (.if_icmp .gt off, 3)) (ht : (pc : Int) + off = (tgt : Int)) (h1 : w < v → bd_S Γ nL t0 (xt.bind K) ws (tgt) ls rest) (h2 : ¬ w < v → bd_S Γ nL t0 (xf.bind K) ws (pc + 3) ls rest) : bd_S Γ nL t0 ((@ite (Option α) (w < v) dc xt xf).bind K) ws pc ls (.int w :: .int v :: rest) := by
  obtain ⟨p, l, e, R, s, m, args, below, meth, c, A, Q, D⟩ := Γ
  intro e1 e2 H locs arr hP hD hS hl
  refine lv_icmp_gt (tgt := tgt) hC.1 hC.2.1 hd ht (fun q => ?_) (fun q => ?_)
  · rw [if_pos q] at e1 e2; exact h1 q e1 e2 H locs arr hP hD hS hl
  · rw [if_neg q] at e1 e2; exact h2 q e1 e2 H locs arr hP hD hS hl
theorem bs_icmp_gtT (hC : bd_C Γ cc nL own ret R0 ε cells vi t0) {v w : Int32} {off : Int} (tgt : Nat) (hd : decode cc pc = .ok (.if_icmp .gt off, 3)) (ht : (pc : Int) + off = (tgt : Int)) (hq : w < v) (k : bd_S Γ nL t0 x ws (tgt) ls rest) : bd_S Γ nL t0 x ws pc ls (.int w :: .int v :: rest) := by
  obtain ⟨p, l, e, R, s, m, args, below, meth, c, A, Q, D⟩ := Γ
  intro e1 e2 H locs arr hP hD hS hl
  exact lv_icmp_gt (tgt := tgt) hC.1 hC.2.1 hd ht (fun _ => k e1 e2 H locs arr hP hD hS hl) (fun q => absurd hq q)
theorem bs_icmp_gtF (hC : bd_C Γ cc nL own ret R0 ε cells vi t0) {v w : Int32} {off : Int} (tgt : Nat) (hd : decode cc pc = .ok (.if_icmp .gt off, 3)) (ht : (pc : Int) + off = (tgt : Int)) (hq : ¬ w < v) (k : bd_S Γ nL t0 x ws (pc + 3) ls rest) : bd_S Γ nL t0 x ws pc ls (.int w :: .int v :: rest) := by
  obtain ⟨p, l, e, R, s, m, args, below, meth, c, A, Q, D⟩ := Γ
  intro e1 e2 H locs arr hP hD hS hl
  exact lv_icmp_gt (tgt := tgt) hC.1 hC.2.1 hd ht (fun q => absurd q hq) (fun _ => k e1 e2 H locs arr hP hD hS hl)
theorem bs_lif_gt (hC : bd_C Γ cc nL own ret R0 ε cells vi t0) {a b : Int64} {off : Int} (tgt : Nat) {xt xf : Option α} {K : α → Option (ρ × bd_T)} {dc : Decidable (b < a)} (hd0 : decode cc pc = .ok (.lcmp, 1)) (hd : decode cc (pc + 1) = .ok (.ifCond .gt off, 3)) (ht : ((pc + 1 : Nat) : Int) + off = (tgt : Int)) (h1 : b < a → bd_S Γ nL t0 (xt.bind K) ws (tgt) ls rest) (h2 : ¬ b < a → bd_S Γ nL t0 (xf.bind K) ws (pc + 1 + 3) ls rest) : bd_S Γ nL t0 ((@ite (Option α) (b < a) dc xt xf).bind K) ws pc ls (.long b :: .long a :: rest) := by
  obtain ⟨p, l, e, R, s, m, args, below, meth, c, A, Q, D⟩ := Γ
  intro e1 e2 H locs arr hP hD hS hl
  refine W.lcmp hC.1 hC.2.1 hd0 ?_
  refine lv_if_gt (tgt := tgt) hC.1 hC.2.1 hd ht (fun q => ?_) (fun q => ?_)
  · rw [if_pos ((lg_cmp_gt a b).mp q)] at e1 e2; exact h1 ((lg_cmp_gt a b).mp q) e1 e2 H locs arr hP hD hS hl
  · rw [if_neg (fun z => q ((lg_cmp_gt a b).mpr z))] at e1 e2; exact h2 (fun z => q ((lg_cmp_gt a b).mpr z)) e1 e2 H locs arr hP hD hS hl
theorem bs_if_le (hC : bd_C Γ cc nL own ret R0 ε cells vi t0) {v : Int32} {off : Int} (tgt : Nat) {xt xf : Option α} {K : α → Option (ρ × bd_T)} {dc : Decidable (v ≤ 0)} (hd : decode cc pc = .ok (.ifCond .le off, 3)) (ht : (pc : Int) + off = (tgt : Int)) (h1 : v ≤ 0 → bd_S Γ nL t0 (xt.bind K) ws (tgt) ls rest) (h2 : ¬ v ≤ 0 → bd_S Γ nL t0 (xf.bind K) ws (pc + 3) ls rest) : bd_S Γ nL t0 ((@ite (Option α) (v ≤ 0) dc xt xf).bind K) ws pc ls (.int v :: rest) := by
  obtain ⟨p, l, e, R, s, m, args, below, meth, c, A, Q, D⟩ := Γ
  intro e1 e2 H locs arr hP hD hS hl
  refine lv_if_le (tgt := tgt) hC.1 hC.2.1 hd ht (fun q => ?_) (fun q => ?_)
  · rw [if_pos q] at e1 e2; exact h1 q e1 e2 H locs arr hP hD hS hl
  · rw [if_neg q] at e1 e2; exact h2 q e1 e2 H locs arr hP hD hS hl
theorem bs_if_leT (hC : bd_C Γ cc nL own ret R0 ε cells vi t0) {v : Int32} {off : Int} (tgt : Nat) (hd : decode cc pc = .ok (.ifCond .le off, 3)) (ht : (pc : Int) + off = (tgt : Int)) (hq : v ≤ 0) (k : bd_S Γ nL t0 x ws (tgt) ls rest) : bd_S Γ nL t0 x ws pc ls (.int v :: rest) := by
  obtain ⟨p, l, e, R, s, m, args, below, meth, c, A, Q, D⟩ := Γ
  intro e1 e2 H locs arr hP hD hS hl
  exact lv_if_le (tgt := tgt) hC.1 hC.2.1 hd ht (fun _ => k e1 e2 H locs arr hP hD hS hl) (fun q => absurd hq q)
theorem bs_if_leF (hC : bd_C Γ cc nL own ret R0 ε cells vi t0) {v : Int32} {off : Int} (tgt : Nat) (hd : decode cc pc = .ok (.ifCond .le off, 3)) (ht : (pc : Int) + off = (tgt : Int)) (hq : ¬ v ≤ 0) (k : bd_S Γ nL t0 x ws (pc + 3) ls rest) : bd_S Γ nL t0 x ws pc ls (.int v :: rest) := by
  obtain ⟨p, l, e, R, s, m, args, below, meth, c, A, Q, D⟩ := Γ
  intro e1 e2 H locs arr hP hD hS hl
  exact lv_if_le (tgt := tgt) hC.1 hC.2.1 hd ht (fun q => absurd q hq) (fun _ => k e1 e2 H locs arr hP hD hS hl)
theorem bs_icmp_le (hC : bd_C Γ cc nL own ret R0 ε cells vi t0) {v w : Int32} {off : Int} (tgt : Nat) {xt xf : Option α} {K : α → Option (ρ × bd_T)} {dc : Decidable (v ≤ w)} (hd : decode cc pc = .ok (.if_icmp .le off, 3)) (ht : (pc : Int) + off = (tgt : Int)) (h1 : v ≤ w → bd_S Γ nL t0 (xt.bind K) ws (tgt) ls rest) (h2 : ¬ v ≤ w → bd_S Γ nL t0 (xf.bind K) ws (pc + 3) ls rest) : bd_S Γ nL t0 ((@ite (Option α) (v ≤ w) dc xt xf).bind K) ws pc ls (.int w :: .int v :: rest) := by
  obtain ⟨p, l, e, R, s, m, args, below, meth, c, A, Q, D⟩ := Γ
  intro e1 e2 H locs arr hP hD hS hl
  refine lv_icmp_le (tgt := tgt) hC.1 hC.2.1 hd ht (fun q => ?_) (fun q => ?_)
  · rw [if_pos q] at e1 e2; exact h1 q e1 e2 H locs arr hP hD hS hl
  · rw [if_neg q] at e1 e2; exact h2 q e1 e2 H locs arr hP hD hS hl
theorem bs_icmp_leT (hC : bd_C Γ cc nL own ret R0 ε cells vi t0) {v w : Int32} {off : Int} (tgt : Nat) (hd : decode cc pc = .ok (.if_icmp .le off, 3)) (ht : (pc : Int) + off = (tgt : Int)) (hq : v ≤ w) (k : bd_S Γ nL t0 x ws (tgt) ls rest) : bd_S Γ nL t0 x ws pc ls (.int w :: .int v :: rest) := by
  obtain ⟨p, l, e, R, s, m, args, below, meth, c, A, Q, D⟩ := Γ
  intro e1 e2 H locs arr hP hD hS hl
  exact lv_icmp_le (tgt := tgt) hC.1 hC.2.1 hd ht (fun _ => k e1 e2 H locs arr hP hD hS hl) (fun q => absurd hq q)
theorem bs_icmp_leF (hC : bd_C Γ cc nL own ret R0 ε cells vi t0) {v w : Int32} {off : Int} (tgt : Nat) (hd : decode cc pc = .ok (.if_icmp .le off, 3)) (ht : (pc : Int) + off = (tgt : Int)) (hq : ¬ v ≤ w) (k : bd_S Γ nL t0 x ws (pc + 3) ls rest) : bd_S Γ nL t0 x ws pc ls (.int w :: .int v :: rest) := by
  obtain ⟨p, l, e, R, s, m, args, below, meth, c, A, Q, D⟩ := Γ
  intro e1 e2 H locs arr hP hD hS hl
  exact lv_icmp_le (tgt := tgt) hC.1 hC.2.1 hd ht (fun q => absurd q hq) (fun _ => k e1 e2 H locs arr hP hD hS hl)
theorem bs_lif_le (hC : bd_C Γ cc nL own ret R0 ε cells vi t0) {a b : Int64} {off : Int} (tgt : Nat) {xt xf : Option α} {K : α → Option (ρ × bd_T)} {dc : Decidable (a ≤ b)} (hd0 : decode cc pc = .ok (.lcmp, 1)) (hd : decode cc (pc + 1) = .ok (.ifCond .le off, 3)) (ht : ((pc + 1 : Nat) : Int) + off = (tgt : Int)) (h1 : a ≤ b → bd_S Γ nL t0 (xt.bind K) ws (tgt) ls rest) (h2 : ¬ a ≤ b → bd_S Γ nL t0 (xf.bind K) ws (pc + 1 + 3) ls rest) : bd_S Γ nL t0 ((@ite (Option α) (a ≤ b) dc xt xf).bind K) ws pc ls (.long b :: .long a :: rest) := by
  obtain ⟨p, l, e, R, s, m, args, below, meth, c, A, Q, D⟩ := Γ
  intro e1 e2 H locs arr hP hD hS hl
  refine W.lcmp hC.1 hC.2.1 hd0 ?_
  refine lv_if_le (tgt := tgt) hC.1 hC.2.1 hd ht (fun q => ?_) (fun q => ?_)
  · rw [if_pos ((lg_cmp_le a b).mp q)] at e1 e2; exact h1 ((lg_cmp_le a b).mp q) e1 e2 H locs arr hP hD hS hl
  · rw [if_neg (fun z => q ((lg_cmp_le a b).mpr z))] at e1 e2; exact h2 (fun z => q ((lg_cmp_le a b).mpr z)) e1 e2 H locs arr hP hD hS hl
theorem bs_goto (hC : bd_C Γ cc nL own ret R0 ε cells vi t0) {off : Int} (tgt : Nat) (hd : decode cc pc = .ok (.goto off, 3)) (ht : (pc : Int) + off = (tgt : Int)) (k : bd_S Γ nL t0 x ws tgt ls rest) : bd_S Γ nL t0 x ws pc ls rest := by
  obtain ⟨p, l, e, R, s, m, args, below, meth, c, A, Q, D⟩ := Γ
  intro e1 e2 H locs arr hP hD hS hl
  exact lv_goto (tgt := tgt) hC.1 hC.2.1 hd ht (k e1 e2 H locs arr hP hD hS hl)
theorem bs_tabIn (hC : bd_C Γ cc nL own ret R0 ε cells vi t0) {dflt lo hi : Int} {offs : Array Int} {len : Nat} {v : Int32} (q : Int32) (off : Int) (tgt : Nat) (hd : decode cc pc = .ok (.tableswitch dflt lo hi offs, len)) (hv : v = q) (h1 : ¬ q.toInt < lo) (h2 : ¬ hi < q.toInt) (ho : offs[(q.toInt - lo).toNat]? = some off) (ht : (pc : Int) + off = (tgt : Int)) (k : bd_S Γ nL t0 x ws tgt ls rest) : bd_S Γ nL t0 x ws pc ls (.int v :: rest) := by
  obtain ⟨p, l, e, R, s, m, args, below, meth, c, A, Q, D⟩ := Γ
  intro e1 e2 H locs arr hP hD hS hl
  subst hv
  exact lv_tableIn (tgt := tgt) hC.1 hC.2.1 hd h1 h2 ho ht (k e1 e2 H locs arr hP hD hS hl)
theorem bs_tabOut (hC : bd_C Γ cc nL own ret R0 ε cells vi t0) {dflt lo hi : Int} {offs : Array Int} {len : Nat} {v : Int32} (tgt : Nat) (hd : decode cc pc = .ok (.tableswitch dflt lo hi offs, len)) (h : v.toInt < lo ∨ hi < v.toInt) (ht : (pc : Int) + dflt = (tgt : Int)) (k : bd_S Γ nL t0 x ws tgt ls rest) : bd_S Γ nL t0 x ws pc ls (.int v :: rest) := by
  obtain ⟨p, l, e, R, s, m, args, below, meth, c, A, Q, D⟩ := Γ
  intro e1 e2 H locs arr hP hD hS hl
  exact lv_tableOut (tgt := tgt) hC.1 hC.2.1 hd h ht (k e1 e2 H locs arr hP hD hS hl)
theorem bs_lookup (hC : bd_C Γ cc nL own ret R0 ε cells vi t0) {dflt : Int} {ps : Array (Int × Int)} {len : Nat} {v : Int32} {off : Int} (tgt : Nat) (hd : decode cc pc = .ok (.lookupswitch dflt ps, len)) (hp : (ps.toList.zip (ps.toList.drop 1)).all (fun (a, next) => a.1 < next.1) = true) (ho : Op.lookupswitch.offset ps.toList dflt v.toInt = off) (ht : (pc : Int) + off = (tgt : Int)) (k : bd_S Γ nL t0 x ws tgt ls rest) : bd_S Γ nL t0 x ws pc ls (.int v :: rest) := by
  obtain ⟨p, l, e, R, s, m, args, below, meth, c, A, Q, D⟩ := Γ
  intro e1 e2 H locs arr hP hD hS hl
  exact lv_lookup (tgt := tgt) hC.1 hC.2.1 hd hp ho ht (k e1 e2 H locs arr hP hD hS hl)
/-- a case of the meaning, without a step of the machine -/
theorem bs_case {c : Prop} {dc : Decidable c} {xt xf : Option α} {K : α → Option (ρ × bd_T)} {st : List Value} (h1 : c → bd_S Γ nL t0 (xt.bind K) ws pc ls st) (h2 : ¬ c → bd_S Γ nL t0 (xf.bind K) ws pc ls st) : bd_S Γ nL t0 ((@ite (Option α) c dc xt xf).bind K) ws pc ls st := by
  intro e1 e2
  by_cases q : c
  · rw [if_pos q] at e1 e2; exact h1 q e1 e2
  · rw [if_neg q] at e1 e2; exact h2 q e1 e2
/-- a value of the meaning -/
theorem bs_some {z : α} {K : α → Option (ρ × bd_T)} {st : List Value} (k : bd_S Γ nL t0 (K z) ws pc ls st) : bd_S Γ nL t0 ((some z).bind K) ws pc ls st := k
/-- a step of the meaning that may fail -/
theorem bs_opt {o : Option β} {f : β → Option α} {K : α → Option (ρ × bd_T)} {st : List Value} (k : ∀ z, o = some z → bd_S Γ nL t0 ((f z).bind K) ws pc ls st) : bd_S Γ nL t0 ((o.bind f).bind K) ws pc ls st := by
  intro e1 e2
  cases o with
  | none => cases e2
  | some z => exact k z rfl e1 e2
/-! fields and rows -/
theorem bs_get (hC : bd_C Γ cc nL own ret R0 ε cells vi t0) {C : String} {T : u_T} {N ci index a : Nat} {fs : List Value} {v : Value} (hin : ∀ w ∈ u_ws C T N, w ∈ bd_tbl) (q0 : Nat) (he : ws[q0]? = some (a, .inr (ci, fs))) (hc : vwCl[ci]? = some (C, T, N)) (kf : Nat) (hk : kf < N) (hm : Cond.fieldLink own index (T kf).1 (T kf).2.1 (T kf).2.2.1 ∈ bd_tbl) (hv : fs[kf]? = some v) (hd : decode cc pc = .ok (.getfield index, 3)) (k : bd_S Γ nL t0 x ws (pc + 3) ls (v :: rest)) : bd_S Γ nL t0 x ws pc ls (.ref a :: rest) := by
  obtain ⟨p, l, e, R, s, m, args, below, meth, c, A, Q, D⟩ := Γ
  intro e1 e2 H locs arr hP hD hS hl
  obtain ⟨hx, hb, hml, hown, hts, hr, hlk, hK, hN, hR, hA, hQ⟩ := hC
  exact va_get hx hb hts hin hown hK hP q0 he hc kf hk (hts _ hm) (fun _ h9 => h9) hv hd (k e1 e2 H locs arr hP hD hS hl)
theorem bs_getN (hC : bd_C Γ cc nL own ret R0 ε cells vi t0) {C host : String} {T : u_T} {N ci index a : Nat} {fs : List Value} {v : Value} (hin : ∀ w ∈ u_ws C T N, w ∈ bd_tbl) (q0 : Nat) (he : ws[q0]? = some (a, .inr (ci, fs))) (hc : vwCl[ci]? = some (C, T, N)) (kf : Nat) (hk : kf < N) (hm : ((own, index, (T kf).1, (T kf).2.1, (T kf).2.2.1, host) : String × Nat × String × String × String × String) ∈ bd_nF) (hv : fs[kf]? = some v) (hd : decode cc pc = .ok (.getfield index, 3)) (k : bd_S Γ nL t0 x ws (pc + 3) ls (v :: rest)) : bd_S Γ nL t0 x ws pc ls (.ref a :: rest) := by
  obtain ⟨p, l, e, R, s, m, args, below, meth, c, A, Q, D⟩ := Γ
  intro e1 e2 H locs arr hP hD hS hl
  obtain ⟨hx, hb, hml, hown, hts, hr, hlk, hK, hN, hR, hA, hQ⟩ := hC
  exact va_getN (host := host) hx hb hts hin hown hK hP q0 he hc kf hk (va_Nw.use rfl (hN.2.1 _ hm)) (fun _ h9 => h9) hv hd (k e1 e2 H locs arr hP hD hS hl)
theorem bs_put (hC : bd_C Γ cc nL own ret R0 ε cells vi t0) {C : String} {T : u_T} {N ci index a kk : Nat} {S : bd_T} {fs : List Value} {v : Int32} {f : bd_T → Option α} {K : α → Option (ρ × bd_T)} (hin : ∀ w ∈ u_ws C T N, w ∈ bd_tbl) (ty0 : Nat → FieldType) (hty : ∀ k, k < N → parseFieldDescriptor (T k).2.2.1 = some (ty0 k)) (hnm : ∀ a, a < N → ∀ b, b < N → a ≠ b → (T a).2.1 ≠ (T b).2.1) (q0 : Nat) (he : (cells S)[q0]? = some (a, .inr (ci, fs))) (hc : vwCl[ci]? = some (C, T, N)) (kf : Nat) (hk : kf < N) (hm : Cond.fieldLink own index (T kf).1 (T kf).2.1 (T kf).2.2.1 ∈ bd_tbl) (hfin : (T kf).2.2.2 = false) (hn : narrow (ty0 kf) (.int v) = .int v) (hfit : fits (ty0 kf) (.int v) = true) (hlen : kf < fs.length) (hset : (cells S).set q0 (a, .inr (ci, fs.set kf (.int v))) = cells (bd_pI S kk v)) (hd : decode cc pc = .ok (.putfield index, 3)) (k : ∀ S' : bd_T, bd_si S kk v = some S' → bd_S Γ nL t0 ((f S').bind K) (cells S') (pc + 3) ls rest) : bd_S Γ nL t0 (((bd_si S kk v).bind f).bind K) (cells S) pc ls (.int v :: .ref a :: rest) := by
  obtain ⟨p, l, e, R, s, m, args, below, meth, c, A, Q, D⟩ := Γ
  intro e1 e2 H locs arr hP hD hS hl
  obtain ⟨hx, hb, hml, hown, hts, hr, hlk, hK, hN, hR, hA, hQ⟩ := hC
  refine va_put hx hb hts hin ty0 hty hnm hown hK hP hD hS q0 he hc kf hk (hts _ hm) (fun _ h9 => h9) hfin (hty kf hk) hn hfit hlen hd (fun H1 locs1 hP hD hS => ?_)
  rw [hset] at hP hD
  exact k _ rfl e1 e2 H1 locs1 arr hP hD hS hl
theorem bs_putN (hC : bd_C Γ cc nL own ret R0 ε cells vi t0) {C host : String} {T : u_T} {N ci index a kk : Nat} {S : bd_T} {fs : List Value} {v : Int32} {f : bd_T → Option α} {K : α → Option (ρ × bd_T)} (hin : ∀ w ∈ u_ws C T N, w ∈ bd_tbl) (ty0 : Nat → FieldType) (hty : ∀ k, k < N → parseFieldDescriptor (T k).2.2.1 = some (ty0 k)) (hnm : ∀ a, a < N → ∀ b, b < N → a ≠ b → (T a).2.1 ≠ (T b).2.1) (q0 : Nat) (he : (cells S)[q0]? = some (a, .inr (ci, fs))) (hc : vwCl[ci]? = some (C, T, N)) (kf : Nat) (hk : kf < N) (hm : ((own, index, (T kf).1, (T kf).2.1, (T kf).2.2.1, host) : String × Nat × String × String × String × String) ∈ bd_nF) (hfin : (T kf).2.2.2 = false) (hn : narrow (ty0 kf) (.int v) = .int v) (hfit : fits (ty0 kf) (.int v) = true) (hlen : kf < fs.length) (hset : (cells S).set q0 (a, .inr (ci, fs.set kf (.int v))) = cells (bd_pI S kk v)) (hd : decode cc pc = .ok (.putfield index, 3)) (k : ∀ S' : bd_T, bd_si S kk v = some S' → bd_S Γ nL t0 ((f S').bind K) (cells S') (pc + 3) ls rest) : bd_S Γ nL t0 (((bd_si S kk v).bind f).bind K) (cells S) pc ls (.int v :: .ref a :: rest) := by
  obtain ⟨p, l, e, R, s, m, args, below, meth, c, A, Q, D⟩ := Γ
  intro e1 e2 H locs arr hP hD hS hl
  obtain ⟨hx, hb, hml, hown, hts, hr, hlk, hK, hN, hR, hA, hQ⟩ := hC
  refine va_putN (host := host) hx hb hts hin ty0 hty hnm hown hK hP hD hS q0 he hc kf hk (va_Nw.use rfl (hN.2.1 _ hm)) (fun _ h9 => h9) hfin (hty kf hk) hn hfit hlen hd (fun H1 locs1 hP hD hS => ?_)
  rw [hset] at hP hD
  exact k _ rfl e1 e2 H1 locs1 arr hP hD hS hl
theorem bs_alenI (hC : bd_C Γ cc nL own ret R0 ε cells vi t0) {a n : Nat} {f : Nat → Int32} {v : Int32} (q0 : Nat) (ha : ws[q0]? = some (a, .inl (ε.1, n, .inl f))) (hv : Int32.ofNat n = v) (hd : decode cc pc = .ok (.arraylength, 1)) (k : bd_S Γ nL t0 x ws (pc + 1) ls (.int v :: rest)) : bd_S Γ nL t0 x ws pc ls (.ref a :: rest) := by
  obtain ⟨p, l, e, R, s, m, args, below, meth, c, A, Q, D⟩ := Γ
  intro e1 e2 H locs arr hP hD hS hl
  obtain ⟨hx, hb, hml, hown, hts, hr, hlk, hK, hN, hR, hA, hQ⟩ := hC
  exact va_alen (ty := .int) hx hb hK hP q0 0 ha rfl hv hd (k e1 e2 H locs arr hP hD hS hl)
theorem bs_alenJ (hC : bd_C Γ cc nL own ret R0 ε cells vi t0) {a n : Nat} {f : Nat → Int64} {v : Int32} (q0 : Nat) (ha : ws[q0]? = some (a, .inl (ε.2.1, n, .inr (.inl f)))) (hv : Int32.ofNat n = v) (hd : decode cc pc = .ok (.arraylength, 1)) (k : bd_S Γ nL t0 x ws (pc + 1) ls (.int v :: rest)) : bd_S Γ nL t0 x ws pc ls (.ref a :: rest) := by
  obtain ⟨p, l, e, R, s, m, args, below, meth, c, A, Q, D⟩ := Γ
  intro e1 e2 H locs arr hP hD hS hl
  obtain ⟨hx, hb, hml, hown, hts, hr, hlk, hK, hN, hR, hA, hQ⟩ := hC
  exact va_alen (ty := .long) hx hb hK hP q0 1 ha rfl hv hd (k e1 e2 H locs arr hP hD hS hl)
theorem bd_in_of {i : Int32} {n : Nat} (h : bd_in i n = true) : vp_in i n := by
  simpa only [bd_in, decide_eq_true_eq, vp_in] using h
theorem bs_iald (hC : bd_C Γ cc nL own ret R0 ε cells vi t0) {a n kk : Nat} {S : bd_T} {i : Int32} {f : Int32 → Option α} {K : α → Option (ρ × bd_T)} (q0 : Nat) (ha : ws[q0]? = some (a, .inl (ε.1, n, .inl (bd_A S kk)))) (hd : decode cc pc = .ok (.iaload, 1)) (k : ∀ z : Int32, bd_ga S kk n i = some z → bd_S Γ nL t0 ((f z).bind K) ws (pc + 1) ls (.int z :: rest)) : bd_S Γ nL t0 (((bd_ga S kk n i).bind f).bind K) ws pc ls (.int i :: .ref a :: rest) := by
  obtain ⟨p, l, e, R, s, m, args, below, meth, c, A, Q, D⟩ := Γ
  intro e1 e2 H locs arr hP hD hS hl
  by_cases hi : bd_in i n = true
  · have hz : bd_ga S kk n i = some (bd_A S kk i.toNatClampNeg) := if_pos hi
    rw [hz] at e1 e2
    obtain ⟨hx, hb, hml, hown, hts, hr, hlk, hK, hN, hR, hA, hQ⟩ := hC
    exact va_iald hx hb hK hP q0 0 ha rfl (bd_in_of hi) hd (k _ hz e1 e2 H locs arr hP hD hS hl)
  · have hz : bd_ga S kk n i = none := if_neg hi
    rw [hz] at e2; cases e2
theorem bs_zald (hC : bd_C Γ cc nL own ret R0 ε cells vi t0) {a n kk : Nat} {S : bd_T} {i : Int32} {f : Int32 → Option α} {K : α → Option (ρ × bd_T)} (q0 : Nat) (ha : ws[q0]? = some (a, .inl (ε.2.2.1, n, .inl (bd_A S kk)))) (hd : decode cc pc = .ok (.baload, 1)) (k : ∀ z : Int32, bd_ga S kk n i = some z → bd_S Γ nL t0 ((f z).bind K) ws (pc + 1) ls (.int z :: rest)) : bd_S Γ nL t0 (((bd_ga S kk n i).bind f).bind K) ws pc ls (.int i :: .ref a :: rest) := by
  obtain ⟨p, l, e, R, s, m, args, below, meth, c, A, Q, D⟩ := Γ
  intro e1 e2 H locs arr hP hD hS hl
  by_cases hi : bd_in i n = true
  · have hz : bd_ga S kk n i = some (bd_A S kk i.toNatClampNeg) := if_pos hi
    rw [hz] at e1 e2
    obtain ⟨hx, hb, hml, hown, hts, hr, hlk, hK, hN, hR, hA, hQ⟩ := hC
    exact va_zald hx hb hK hP q0 2 ha rfl (bd_in_of hi) hd (k _ hz e1 e2 H locs arr hP hD hS hl)
  · have hz : bd_ga S kk n i = none := if_neg hi
    rw [hz] at e2; cases e2
theorem bs_lald (hC : bd_C Γ cc nL own ret R0 ε cells vi t0) {a n kk : Nat} {S : bd_T} {i : Int32} {f : Int64 → Option α} {K : α → Option (ρ × bd_T)} (q0 : Nat) (ha : ws[q0]? = some (a, .inl (ε.2.1, n, .inr (.inl (bd_J S kk))))) (hd : decode cc pc = .ok (.laload, 1)) (k : ∀ z : Int64, bd_gj S kk n i = some z → bd_S Γ nL t0 ((f z).bind K) ws (pc + 1) ls (.long z :: rest)) : bd_S Γ nL t0 (((bd_gj S kk n i).bind f).bind K) ws pc ls (.int i :: .ref a :: rest) := by
  obtain ⟨p, l, e, R, s, m, args, below, meth, c, A, Q, D⟩ := Γ
  intro e1 e2 H locs arr hP hD hS hl
  by_cases hi : bd_in i n = true
  · have hz : bd_gj S kk n i = some (bd_J S kk i.toNatClampNeg) := if_pos hi
    rw [hz] at e1 e2
    obtain ⟨hx, hb, hml, hown, hts, hr, hlk, hK, hN, hR, hA, hQ⟩ := hC
    exact va_lald hx hb hK hP q0 1 ha rfl (bd_in_of hi) hd (k _ hz e1 e2 H locs arr hP hD hS hl)
  · have hz : bd_gj S kk n i = none := if_neg hi
    rw [hz] at e2; cases e2
theorem bs_iast (hC : bd_C Γ cc nL own ret R0 ε cells vi t0) {a n kk : Nat} {S : bd_T} {i v : Int32} {f : bd_T → Option α} {K : α → Option (ρ × bd_T)} (q0 : Nat) (ha : (cells S)[q0]? = some (a, .inl (ε.1, n, .inl (bd_A S kk)))) (hset : ∀ j : Nat, (cells S).set q0 (a, .inl (ε.1, n, .inl (upd (bd_A S kk) j v))) = cells (bd_pA S kk j v)) (hd : decode cc pc = .ok (.iastore, 1)) (k : ∀ S' : bd_T, bd_sa S kk n i v = some S' → bd_S Γ nL t0 ((f S').bind K) (cells S') (pc + 1) ls rest) : bd_S Γ nL t0 (((bd_sa S kk n i v).bind f).bind K) (cells S) pc ls (.int v :: .int i :: .ref a :: rest) := by
  obtain ⟨p, l, e, R, s, m, args, below, meth, c, A, Q, D⟩ := Γ
  intro e1 e2 H locs arr hP hD hS hl
  by_cases hi : bd_in i n = true
  · have hz : bd_sa S kk n i v = some (bd_pA S kk i.toNatClampNeg v) := if_pos hi
    rw [hz] at e1 e2
    obtain ⟨hx, hb, hml, hown, hts, hr, hlk, hK, hN, hR, hA, hQ⟩ := hC
    refine va_iast hx hb hK hP hD hS q0 0 ha rfl (bd_in_of hi) hd (fun H1 locs1 hP hD hS => ?_)
    rw [hset] at hP hD
    exact k _ hz e1 e2 H1 locs1 arr hP hD hS hl
  · have hz : bd_sa S kk n i v = none := if_neg hi
    rw [hz] at e2; cases e2
theorem bs_zast (hC : bd_C Γ cc nL own ret R0 ε cells vi t0) {a n kk : Nat} {S : bd_T} {i v : Int32} {f : bd_T → Option α} {K : α → Option (ρ × bd_T)} (q0 : Nat) (ha : (cells S)[q0]? = some (a, .inl (ε.2.2.1, n, .inl (bd_A S kk)))) (hset : ∀ (j : Nat) (v : Int32), (cells S).set q0 (a, .inl (ε.2.2.1, n, .inl (upd (bd_A S kk) j v))) = cells (bd_pA S kk j v)) (hd : decode cc pc = .ok (.bastore, 1)) (k : ∀ S' : bd_T, bd_sa S kk n i (vp_nar .boolean v) = some S' → bd_S Γ nL t0 ((f S').bind K) (cells S') (pc + 1) ls rest) : bd_S Γ nL t0 (((bd_sa S kk n i (vp_nar .boolean v)).bind f).bind K) (cells S) pc ls (.int v :: .int i :: .ref a :: rest) := by
  obtain ⟨p, l, e, R, s, m, args, below, meth, c, A, Q, D⟩ := Γ
  intro e1 e2 H locs arr hP hD hS hl
  by_cases hi : bd_in i n = true
  · have hz : bd_sa S kk n i (vp_nar .boolean v) = some (bd_pA S kk i.toNatClampNeg (vp_nar .boolean v)) := if_pos hi
    rw [hz] at e1 e2
    obtain ⟨hx, hb, hml, hown, hts, hr, hlk, hK, hN, hR, hA, hQ⟩ := hC
    refine va_zast hx hb hK hP hD hS q0 2 ha rfl (bd_in_of hi) hd (fun H1 locs1 hP hD hS => ?_)
    rw [hset] at hP hD
    exact k _ hz e1 e2 H1 locs1 arr hP hD hS hl
  · have hz : bd_sa S kk n i (vp_nar .boolean v) = none := if_neg hi
    rw [hz] at e2; cases e2
theorem bs_last (hC : bd_C Γ cc nL own ret R0 ε cells vi t0) {a n kk : Nat} {S : bd_T} {i : Int32} {v : Int64} {f : bd_T → Option α} {K : α → Option (ρ × bd_T)} (q0 : Nat) (ha : (cells S)[q0]? = some (a, .inl (ε.2.1, n, .inr (.inl (bd_J S kk))))) (hset : ∀ j : Nat, (cells S).set q0 (a, .inl (ε.2.1, n, .inr (.inl (vp_updL (bd_J S kk) j v)))) = cells (bd_pJ S kk j v)) (hd : decode cc pc = .ok (.lastore, 1)) (k : ∀ S' : bd_T, bd_sj S kk n i v = some S' → bd_S Γ nL t0 ((f S').bind K) (cells S') (pc + 1) ls rest) : bd_S Γ nL t0 (((bd_sj S kk n i v).bind f).bind K) (cells S) pc ls (.long v :: .int i :: .ref a :: rest) := by
  obtain ⟨p, l, e, R, s, m, args, below, meth, c, A, Q, D⟩ := Γ
  intro e1 e2 H locs arr hP hD hS hl
  by_cases hi : bd_in i n = true
  · have hz : bd_sj S kk n i v = some (bd_pJ S kk i.toNatClampNeg v) := if_pos hi
    rw [hz] at e1 e2
    obtain ⟨hx, hb, hml, hown, hts, hr, hlk, hK, hN, hR, hA, hQ⟩ := hC
    refine va_last hx hb hK hP hD hS q0 1 ha rfl (bd_in_of hi) hd (fun H1 locs1 hP hD hS => ?_)
    rw [hset] at hP hD
    exact k _ hz e1 e2 H1 locs1 arr hP hD hS hl
  · have hz : bd_sj S kk n i v = none := if_neg hi
    rw [hz] at e2; cases e2
theorem bs_ldiv (hC : bd_C Γ cc nL own ret R0 ε cells vi t0) {a b : Int64} {f : Int64 → Option α} {K : α → Option (ρ × bd_T)} (hd : decode cc pc = .ok (.ldiv, 1)) (k : ∀ z : Int64, bd_ldiv a b = some z → bd_S Γ nL t0 ((f z).bind K) ws (pc + 1) ls (.long z :: rest)) : bd_S Γ nL t0 (((bd_ldiv a b).bind f).bind K) ws pc ls (.long b :: .long a :: rest) := by
  obtain ⟨p, l, e, R, s, m, args, below, meth, c, A, Q, D⟩ := Γ
  intro e1 e2 H locs arr hP hD hS hl
  by_cases hi : b = 0
  · have hz : bd_ldiv a b = none := if_pos hi
    rw [hz] at e2; cases e2
  · have hz : bd_ldiv a b = some (a / b) := if_neg hi
    rw [hz] at e1 e2
    exact lv_ldiv hC.1 hC.2.1 hd hi (k _ hz e1 e2 H locs arr hP hD hS hl)
theorem bs_lrem (hC : bd_C Γ cc nL own ret R0 ε cells vi t0) {a b : Int64} {f : Int64 → Option α} {K : α → Option (ρ × bd_T)} (hd : decode cc pc = .ok (.lrem, 1)) (k : ∀ z : Int64, bd_lrem a b = some z → bd_S Γ nL t0 ((f z).bind K) ws (pc + 1) ls (.long z :: rest)) : bd_S Γ nL t0 (((bd_lrem a b).bind f).bind K) ws pc ls (.long b :: .long a :: rest) := by
  obtain ⟨p, l, e, R, s, m, args, below, meth, c, A, Q, D⟩ := Γ
  intro e1 e2 H locs arr hP hD hS hl
  by_cases hi : b = 0
  · have hz : bd_lrem a b = none := if_pos hi
    rw [hz] at e2; cases e2
  · have hz : bd_lrem a b = some (a - a / b * b) := if_neg hi
    rw [hz] at e1 e2
    exact lv_lrem hC.1 hC.2.1 hd hi (k _ hz e1 e2 H locs arr hP hD hS hl)
/-! returns -/
theorem bs_iret {t0 x : Option (Int32 × bd_T)} {S : bd_T} {v : Int32} (hC : bd_C Γ cc nL own (some .int) R0 ε cells bd_vi t0) (hd : decode cc pc = .ok (.ireturn, 1)) (hx : x = some (v, S)) : bd_S Γ nL t0 x (cells S) pc ls [.int v] := by
  obtain ⟨p, l, e, R, s, m, args, below, meth, c, A, Q, D⟩ := Γ
  intro e1 e2 H locs arr hP hD hS hl
  subst hx
  obtain ⟨hx, hb, hml, hown, hts, hr, hlk, hK, hN, hR, hA, hQ⟩ := hC
  subst hQ
  exact W.iret (v := v) hx hb hr (fun t ht hW => ⟨⟨v, S, rfl, e1.symm, by rw [ht]; exact hP, va_K.moved hW.alike hK, hD⟩, hS.F ht⟩) hS.2.2 hd hlk
theorem bs_zret {t0 x : Option (Int32 × bd_T)} {S : bd_T} {v : Int32} (hC : bd_C Γ cc nL own (some .boolean) R0 ε cells bd_vi t0) (hd : decode cc pc = .ok (.ireturn, 1)) (hn : narrow .boolean (.int v) = .int v) (hx : x = some (v, S)) : bd_S Γ nL t0 x (cells S) pc ls [.int v] := by
  obtain ⟨p, l, e, R, s, m, args, below, meth, c, A, Q, D⟩ := Γ
  intro e1 e2 H locs arr hP hD hS hl
  subst hx
  obtain ⟨hx, hb, hml, hown, hts, hr, hlk, hK, hN, hR, hA, hQ⟩ := hC
  subst hQ
  exact W.zret (v := v) hx hb hr hn (fun t ht hW => ⟨⟨v, S, rfl, e1.symm, by rw [ht]; exact hP, va_K.moved hW.alike hK, hD⟩, hS.F ht⟩) hS.2.2 hd hlk
theorem bs_lret {t0 x : Option (Int64 × bd_T)} {S : bd_T} {v : Int64} (hC : bd_C Γ cc nL own (some .long) R0 ε cells bd_vl t0) (hd : decode cc pc = .ok (.lreturn, 1)) (hx : x = some (v, S)) : bd_S Γ nL t0 x (cells S) pc ls [.long v] := by
  obtain ⟨p, l, e, R, s, m, args, below, meth, c, A, Q, D⟩ := Γ
  intro e1 e2 H locs arr hP hD hS hl
  subst hx
  obtain ⟨hx, hb, hml, hown, hts, hr, hlk, hK, hN, hR, hA, hQ⟩ := hC
  subst hQ
  exact W.lret (v := v) hx hb hr (fun t ht hW => ⟨⟨v, S, rfl, e1.symm, by rw [ht]; exact hP, va_K.moved hW.alike hK, hD⟩, hS.F ht⟩) hS.2.2 hd hlk
theorem bs_vret {t0 x : Option (Unit × bd_T)} {S : bd_T} (hC : bd_C Γ cc nL own none R0 ε cells bd_vv t0) (hd : decode cc pc = .ok (.return_, 1)) (hx : x = some ((), S)) : bd_S Γ nL t0 x (cells S) pc ls [] := by
  obtain ⟨p, l, e, R, s, m, args, below, meth, c, A, Q, D⟩ := Γ
  intro e1 e2 H locs arr hP hD hS hl
  subst hx
  obtain ⟨hx, hb, hml, hown, hts, hr, hlk, hK, hN, hR, hA, hQ⟩ := hC
  subst hQ
  exact W.vret hx hb hr (fun t ht hW => ⟨⟨(), S, rfl, e1.symm, by rw [ht]; exact hP, va_K.moved hW.alike hK, hD⟩, hS.F ht⟩) hS.2.2 hd hlk
/-! calls -/
theorem bd_go {ρ' : Type} {p : Program} {l : Launch} {e : Env} {R : Room} {s : State} {m : MethodId} {args : Array Value} {below : List Frame} {meth : Method} {c : Code} {A : Nat → Prop} {Q : State → Prop} {D : va_G} {H : Heap} {locs : List Loc} {arr : Array Slot} {st0 : List Value} {a : Array Value} {S : bd_T} {vj : ρ' → Option Value} {t1 : Option (ρ' × bd_T)}
    (hr : va_Run p l e R s m args below meth c H locs 0 0 0 0 (F0 m pc arr st0) rest (bd_Q D ε cells vj t1 (va_A (cells S) H.size) a) (va_A (cells S) H.size)) (hD : va_D A (cells S)) (hS : va_S A s.heap H locs) (hA : ∀ q : Nat, s.heap.size ≤ q → A q)
    (kk : ∀ (r : ρ') (S' : bd_T) (H1 : Heap) (locs1 : List Loc), t1 = some (r, S') → va_P D vwCl (cells S') H1 → va_D A (cells S') → va_S A s.heap H1 locs1 → W p l e R s m args below meth c H1 locs1 0 0 Q (F0 m (pc + 3) arr ((vj r).toList ++ rest))) : W p l e R s m args below meth c H locs 0 0 Q (F0 m pc arr st0) := by
  have hF : ∀ q, va_A (cells S) H.size q → A q := fun q h => by
    rcases h with ⟨k, e, h⟩ | h
    · exact hD.2 k _ h
    · exact hA q (Nat.le_trans hS.1 h)
  intro T hT X
  obtain ⟨v, st₀, t, T', L, h0, X', hL, e1, e2, ⟨⟨r, S', hv, hp, hP1, hK1, hD1⟩, hz, hk⟩, st⟩ := hr T hT X
  cases hv
  rw [h0] at hz hk
  obtain ⟨t2, a1, b1⟩ := kk r S' T'.heap (locs ++ L) hp (by rw [e1]; exact hP1) (hD1.weaken (fun _ _ _ h => hF _ h))
    ⟨Nat.le_trans hS.1 (by rw [e1]; exact hz), fun q h1 h2 => by rw [e1, hk q (Nat.lt_of_lt_of_le h1 hS.1) (fun z => h2 (hF q z))]; exact hS.2.1 q h1 h2, fun q hq => by
      rcases List.mem_append.mp hq with h | h
      · exact hS.2.2 q h
      · exact hF _ (hL q h)⟩ T' rfl X'
  exact ⟨t2, st t2 a1, b1⟩
theorem bd_p0 {s U : State} {D : va_G} {ε : bd_E} {A : Nat → Prop} {ws : va_W} {H : Heap} (hP : va_P D vwCl ws H) (hK : va_K D vwCl (bd_y ε) s) (hN : bd_N s) (hD : va_D A ws) (hU : U.heap = H) (hW : s.WarmedH U.vm) : bd_P0 D ε ws H.size U := ⟨by rw [hU], by rw [hU]; exact hP, va_K.moved hW.alike hK, bd_N_warm hW hN, hD.weaken (fun _ _ _ _ => trivial)⟩
/-- what a call asks of callee and room -/
def bd_R (R0 rm : Room) (maxL : Nat) : Prop := rm.cells = 0 ∧ rm.slots = 0 ∧ rm.frames + 1 ≤ R0.frames ∧ 8 + (maxL + 11) + rm.locals ≤ R0.locals
def bd_Y (y : MethodName) (n : Nat) : Prop := y.cls ≠ "java/lang/invoke/MethodHandle" ∧ y.cls ≠ "java/lang/invoke/VarHandle" ∧ (parseMethodDescriptor y.desc).map (fun d => d.parameters.length) = some n
theorem bs_callS {ρ' : Type} (hC : bd_C Γ cc nL own ret R0 ε cells vi t0) {S : bd_T} {y : MethodName} {bytes : ByteArray} {maxL index n : Nat} {ret' : Option FieldType} {rm : Room} {vj : ρ' → Option Value} {t1 : Option (ρ' × bd_T)} {f : ρ' → bd_T → Option α} {K : α → Option (ρ × bd_T)} {st : List Value} (As : List Value) (rest : List Value)
    (hM : t1.isSome = true → bd_Con (bd_l Γ) y (Cond.code y bytes maxL ret' :: bd_tbl) rm (bd_D Γ) ε cells vj As S t1) (m1 : Cond.code y bytes maxL ret' ∈ bd_tbl) (m2 : Cond.methodLink own index y ∈ bd_tbl) (m3 : Cond.static y ∈ bd_tbl) (m4 : Cond.initialized y.cls ∈ bd_tbl) (hY : bd_Y y n) (hR : bd_R R0 rm maxL) (hn : As.length = n) (hst : st = As.reverse ++ rest) (hW : (rest.map fun v => v.category).sum ≤ 8) (hd : decode cc pc = .ok (.invokestatic index, 3))
    (k : ∀ (r : ρ') (S' : bd_T), t1 = some (r, S') → bd_S Γ nL t0 ((f r S').bind K) (cells S') (pc + 3) ls ((vj r).toList ++ rest)) : bd_S Γ nL t0 ((bd_b2 t1 f).bind K) (cells S) pc ls st := by
  obtain ⟨p, l, e, R, s, m, args, below, meth, c, A, Q, D⟩ := Γ
  intro e1 e2 H locs arr hP hD hS hl
  have h1 : t1.isSome = true := by cases h : t1 with
    | none => rw [h] at e2; cases e2
    | some z => rfl
  obtain ⟨hx, hb, hml, hown, hts, hr, hlk, hK, hN, hR', hA, hQ⟩ := hC
  subst hR'
  refine bd_go (a := As.toArray) (va_runS (As := As) (rest := rest) ⟨hx, hb, hml, hown, hts⟩ (hM h1 H.size) ⟨callB_of n hts (bd_good m1) rfl hR.1 hR.2.1 (hts _ m4) (hts _ m2) hY hR.2.2, hts _ m3⟩ ⟨bd_blind D ε _ _ _, fun U hU hW => ⟨rfl, bd_p0 hP hK hN hD hU hW⟩⟩ rfl hn hl.1 hst (lv_room hW) hd ⟨Nat.zero_le _, Nat.zero_le _⟩) hD hS hA (fun r S' H1 locs1 h2 hP hD hS => ?_)
  rw [h2] at e1 e2
  exact k r S' h2 e1 e2 H1 locs1 arr hP hD hS hl
theorem bs_callSN {ρ' : Type} (hC : bd_C Γ cc nL own ret R0 ε cells vi t0) {S : bd_T} {y : MethodName} {host : String} {bytes : ByteArray} {maxL index n : Nat} {ret' : Option FieldType} {rm : Room} {vj : ρ' → Option Value} {t1 : Option (ρ' × bd_T)} {f : ρ' → bd_T → Option α} {K : α → Option (ρ × bd_T)} {st : List Value} (As : List Value) (rest : List Value)
    (hM : t1.isSome = true → bd_Con (bd_l Γ) y (Cond.code y bytes maxL ret' :: bd_tbl) rm (bd_D Γ) ε cells vj As S t1) (m1 : Cond.code y bytes maxL ret' ∈ bd_tbl) (m2 : ((own, index, y, host) : String × Nat × MethodName × String) ∈ bd_nM) (m3 : Cond.static y ∈ bd_tbl) (m4 : Cond.initialized y.cls ∈ bd_tbl) (hY : bd_Y y n) (hR : bd_R R0 rm maxL) (hn : As.length = n) (hst : st = As.reverse ++ rest) (hW : (rest.map fun v => v.category).sum ≤ 8) (hd : decode cc pc = .ok (.invokestatic index, 3))
    (k : ∀ (r : ρ') (S' : bd_T), t1 = some (r, S') → bd_S Γ nL t0 ((f r S').bind K) (cells S') (pc + 3) ls ((vj r).toList ++ rest)) : bd_S Γ nL t0 ((bd_b2 t1 f).bind K) (cells S) pc ls st := by
  obtain ⟨p, l, e, R, s, m, args, below, meth, c, A, Q, D⟩ := Γ
  intro e1 e2 H locs arr hP hD hS hl
  have h1 : t1.isSome = true := by cases h : t1 with
    | none => rw [h] at e2; cases e2
    | some z => rfl
  obtain ⟨hx, hb, hml, hown, hts, hr, hlk, hK, hN, hR', hA, hQ⟩ := hC
  subst hR'
  refine bd_go (a := As.toArray) (va_runSN (host := host) (As := As) (rest := rest) ⟨hx, hb, hml, hown, hts⟩ (hM h1 H.size) ⟨va_cnB n hts (bd_good m1) rfl hR.1 hR.2.1 (hN.2.2 _ m2) (hts _ m4) hY hR.2.2, hts _ m3, trivial⟩ ⟨bd_blind D ε _ _ _, fun U hU hW => ⟨rfl, bd_p0 hP hK hN hD hU hW⟩⟩ rfl hn hl.1 hst (lv_room hW) hd ⟨Nat.zero_le _, Nat.zero_le _⟩) hD hS hA (fun r S' H1 locs1 h2 hP hD hS => ?_)
  rw [h2] at e1 e2
  exact k r S' h2 e1 e2 H1 locs1 arr hP hD hS hl
theorem bs_callV {ρ' : Type} (hC : bd_C Γ cc nL own ret R0 ε cells vi t0) {S : bd_T} {y : MethodName} {bytes : ByteArray} {maxL index n b q0 ci : Nat} {C : vw_C} {fs : List Value} {ret' : Option FieldType} {rm : Room} {vj : ρ' → Option Value} {t1 : Option (ρ' × bd_T)} {f : ρ' → bd_T → Option α} {K : α → Option (ρ × bd_T)} {st : List Value} (As : List Value) (rest : List Value)
    (hM : t1.isSome = true → bd_Con (bd_l Γ) y (Cond.code y bytes maxL ret' :: bd_tbl) rm (bd_D Γ) ε cells vj (.ref b :: As) S t1) (m1 : Cond.code y bytes maxL ret' ∈ bd_tbl) (m2 : Cond.methodLink own index y ∈ bd_tbl) (m3 : Cond.instanceMethod y ∈ bd_tbl) (m4 : Cond.initialized y.cls ∈ bd_tbl) (m5 : Cond.selects C.1 y y ∈ bd_tbl) (he : (cells S)[q0]? = some (b, .inr (ci, fs))) (hc : vwCl[ci]? = some C) (hY : bd_Y y n) (hR : bd_R R0 rm maxL) (hn : As.length = n) (hst : st = As.reverse ++ .ref b :: rest) (hW : (rest.map fun v => v.category).sum ≤ 8) (hd : decode cc pc = .ok (.invokevirtual index, 3))
    (k : ∀ (r : ρ') (S' : bd_T), t1 = some (r, S') → bd_S Γ nL t0 ((f r S').bind K) (cells S') (pc + 3) ls ((vj r).toList ++ rest)) : bd_S Γ nL t0 ((bd_b2 t1 f).bind K) (cells S) pc ls st := by
  obtain ⟨p, l, e, R, s, m, args, below, meth, c, A, Q, D⟩ := Γ
  intro e1 e2 H locs arr hP hD hS hl
  have h1 : t1.isSome = true := by cases h : t1 with
    | none => rw [h] at e2; cases e2
    | some z => rfl
  obtain ⟨hx, hb, hml, hown, hts, hr, hlk, hK, hN, hR', hA, hQ⟩ := hC
  subst hR'
  refine bd_go (a := (Value.ref b :: As).toArray) (va_runV (C := C.1) (As := As) (rest := rest) ⟨hx, hb, hml, hown, hts⟩ (hM h1 H.size) ⟨callB_of n hts (bd_good m1) rfl hR.1 hR.2.1 (hts _ m4) (hts _ m2) hY hR.2.2, hts _ m3, hts _ m5⟩ ⟨bd_blind D ε _ _ _, va_recv hK hP hc he, fun U hU hW => ⟨rfl, bd_p0 hP hK hN hD hU hW⟩⟩ rfl hn hl.1 hst (lv_room hW) hd ⟨Nat.zero_le _, Nat.zero_le _⟩) hD hS hA (fun r S' H1 locs1 h2 hP hD hS => ?_)
  rw [h2] at e1 e2
  exact k r S' h2 e1 e2 H1 locs1 arr hP hD hS hl
theorem bs_callVN {ρ' : Type} (hC : bd_C Γ cc nL own ret R0 ε cells vi t0) {S : bd_T} {y : MethodName} {host : String} {bytes : ByteArray} {maxL index n b q0 ci : Nat} {C : vw_C} {fs : List Value} {ret' : Option FieldType} {rm : Room} {vj : ρ' → Option Value} {t1 : Option (ρ' × bd_T)} {f : ρ' → bd_T → Option α} {K : α → Option (ρ × bd_T)} {st : List Value} (As : List Value) (rest : List Value)
    (hM : t1.isSome = true → bd_Con (bd_l Γ) y (Cond.code y bytes maxL ret' :: bd_tbl) rm (bd_D Γ) ε cells vj (.ref b :: As) S t1) (m1 : Cond.code y bytes maxL ret' ∈ bd_tbl) (m2 : ((own, index, y, host) : String × Nat × MethodName × String) ∈ bd_nM) (m3 : Cond.instanceMethod y ∈ bd_tbl) (m4 : Cond.initialized y.cls ∈ bd_tbl) (m5 : Cond.selects C.1 y y ∈ bd_tbl) (he : (cells S)[q0]? = some (b, .inr (ci, fs))) (hc : vwCl[ci]? = some C) (hY : bd_Y y n) (hR : bd_R R0 rm maxL) (hn : As.length = n) (hst : st = As.reverse ++ .ref b :: rest) (hW : (rest.map fun v => v.category).sum ≤ 8) (hd : decode cc pc = .ok (.invokevirtual index, 3))
    (k : ∀ (r : ρ') (S' : bd_T), t1 = some (r, S') → bd_S Γ nL t0 ((f r S').bind K) (cells S') (pc + 3) ls ((vj r).toList ++ rest)) : bd_S Γ nL t0 ((bd_b2 t1 f).bind K) (cells S) pc ls st := by
  obtain ⟨p, l, e, R, s, m, args, below, meth, c, A, Q, D⟩ := Γ
  intro e1 e2 H locs arr hP hD hS hl
  have h1 : t1.isSome = true := by cases h : t1 with
    | none => rw [h] at e2; cases e2
    | some z => rfl
  obtain ⟨hx, hb, hml, hown, hts, hr, hlk, hK, hN, hR', hA, hQ⟩ := hC
  subst hR'
  refine bd_go (a := (Value.ref b :: As).toArray) (va_runVN (C := C.1) (host := host) (As := As) (rest := rest) ⟨hx, hb, hml, hown, hts⟩ (hM h1 H.size) ⟨va_cnB n hts (bd_good m1) rfl hR.1 hR.2.1 (hN.2.2 _ m2) (hts _ m4) hY hR.2.2, hts _ m3, hts _ m5⟩ ⟨bd_blind D ε _ _ _, va_recv hK hP hc he, fun U hU hW => ⟨rfl, bd_p0 hP hK hN hD hU hW⟩⟩ rfl hn hl.1 hst (lv_room hW) hd ⟨Nat.zero_le _, Nat.zero_le _⟩) hD hS hA (fun r S' H1 locs1 h2 hP hD hS => ?_)
  rw [h2] at e1 e2
  exact k r S' h2 e1 e2 H1 locs1 arr hP hD hS hl
/-- a method of a superclass, found from the class of the receiver: the reference x names it in its owner -/
theorem bs_callU {ρ' : Type} (hC : bd_C Γ cc nL own ret R0 ε cells vi t0) {S : bd_T} {x' y : MethodName} {owner : String} {bytes : ByteArray} {maxL index n b q0 ci : Nat} {C : vw_C} {fs : List Value} {ret' : Option FieldType} {rm : Room} {vj : ρ' → Option Value} {t1 : Option (ρ' × bd_T)} {f : ρ' → bd_T → Option α} {K : α → Option (ρ × bd_T)} {st : List Value} (As : List Value) (rest : List Value)
    (hM : t1.isSome = true → bd_Con (bd_l Γ) y (Cond.code y bytes maxL ret' :: bd_tbl) rm (bd_D Γ) ε cells vj (.ref b :: As) S t1) (m1 : Cond.code y bytes maxL ret' ∈ bd_tbl) (m2 : Cond.methodLink own index x' ∈ bd_tbl) (m3 : Cond.instanceMethod y ∈ bd_tbl) (m4 : Cond.initialized y.cls ∈ bd_tbl) (m5 : Cond.selects C.1 x' y ∈ bd_tbl) (m6 : Cond.sameMethod x'.cls owner x'.name x'.desc ∈ bd_tbl) (m7 : (⟨owner, x'.name, x'.desc⟩ : MethodName) ∈ bd_nD ∨ y = ⟨owner, x'.name, x'.desc⟩) (ho : owner ≠ "java/lang/invoke/MethodHandle" ∧ owner ≠ "java/lang/invoke/VarHandle" ∧ (parseMethodDescriptor x'.desc).map (fun d => d.parameters.length) = some n) (he : (cells S)[q0]? = some (b, .inr (ci, fs))) (hc : vwCl[ci]? = some C) (hR : bd_R R0 rm maxL) (hn : As.length = n) (hst : st = As.reverse ++ .ref b :: rest) (hW : (rest.map fun v => v.category).sum ≤ 8) (hd : decode cc pc = .ok (.invokevirtual index, 3))
    (k : ∀ (r : ρ') (S' : bd_T), t1 = some (r, S') → bd_S Γ nL t0 ((f r S').bind K) (cells S') (pc + 3) ls ((vj r).toList ++ rest)) : bd_S Γ nL t0 ((bd_b2 t1 f).bind K) (cells S) pc ls st := by
  obtain ⟨p, l, e, R, s, m, args, below, meth, c, A, Q, D⟩ := Γ
  intro e1 e2 H locs arr hP hD hS hl
  have h1 : t1.isSome = true := by cases h : t1 with
    | none => rw [h] at e2; cases e2
    | some z => rfl
  obtain ⟨hx, hb, hml, hown, hts, hr, hlk, hK, hN, hR', hA, hQ⟩ := hC
  subst hR'
  have hdecl : va_Decl s ⟨owner, x'.name, x'.desc⟩ := by
    rcases m7 with h | h
    · exact va_Decl.abs (hN.1 _ h)
    · rw [← h]; exact va_Decl.of (hts _ m3) (hts _ m1)
  refine bd_go (a := (Value.ref b :: As).toArray) (va_runU (C := C.1) (owner := owner) (x := x') (As := As) (rest := rest) ⟨hx, hb, hml, hown, hts⟩ (hM h1 H.size) ⟨⟨hR.1, hR.2.1, hR.2.2.1, hR.2.2.2, pay_in hts (bd_good m1), List.mem_cons_self⟩, hts _ m1, hts _ m4, ⟨ho.1, ho.2.1⟩, fun sig h => by have h2 := ho.2.2; rw [h] at h2; exact (Option.some.inj h2).symm, hts _ m2, hts _ m6, hdecl, hts _ m5, hts _ m3⟩ ⟨bd_blind D ε _ _ _, va_recv hK hP hc he, fun U hU hW => ⟨rfl, bd_p0 hP hK hN hD hU hW⟩⟩ rfl hn hl.1 hst (lv_room hW) hd ⟨Nat.zero_le _, Nat.zero_le _⟩) hD hS hA (fun r S' H1 locs1 h2 hP hD hS => ?_)
  rw [h2] at e1 e2
  exact k r S' h2 e1 e2 H1 locs1 arr hP hD hS hl
theorem bs_callS_i (hC : bd_C Γ cc nL own ret R0 ε cells vi t0) {S : bd_T} {y : MethodName} {bytes : ByteArray} {maxL index n : Nat} {ret' : Option FieldType} {rm : Room} {t1 : Option (Int32 × bd_T)} {f : Int32 → bd_T → Option α} {K : α → Option (ρ × bd_T)} {st : List Value} (As : List Value) (rest : List Value)
    (hM : t1.isSome = true → bd_Con (bd_l Γ) y (Cond.code y bytes maxL ret' :: bd_tbl) rm (bd_D Γ) ε cells bd_vi As S t1) (m1 : Cond.code y bytes maxL ret' ∈ bd_tbl) (m2 : Cond.methodLink own index y ∈ bd_tbl) (m3 : Cond.static y ∈ bd_tbl) (m4 : Cond.initialized y.cls ∈ bd_tbl) (hY : bd_Y y n) (hR : bd_R R0 rm maxL) (hn : As.length = n) (hst : st = As.reverse ++ rest) (hW : (rest.map fun v => v.category).sum ≤ 8) (hd : decode cc pc = .ok (.invokestatic index, 3))
    (k : ∀ (r : Int32) (S' : bd_T), t1 = some (r, S') → bd_S Γ nL t0 ((f r S').bind K) (cells S') (pc + 3) ls (.int r :: rest)) : bd_S Γ nL t0 ((bd_b2 t1 f).bind K) (cells S) pc ls st := bs_callS (vj := bd_vi) hC As rest hM m1 m2 m3 m4 hY hR hn hst hW hd k
theorem bs_callS_l (hC : bd_C Γ cc nL own ret R0 ε cells vi t0) {S : bd_T} {y : MethodName} {bytes : ByteArray} {maxL index n : Nat} {ret' : Option FieldType} {rm : Room} {t1 : Option (Int64 × bd_T)} {f : Int64 → bd_T → Option α} {K : α → Option (ρ × bd_T)} {st : List Value} (As : List Value) (rest : List Value)
    (hM : t1.isSome = true → bd_Con (bd_l Γ) y (Cond.code y bytes maxL ret' :: bd_tbl) rm (bd_D Γ) ε cells bd_vl As S t1) (m1 : Cond.code y bytes maxL ret' ∈ bd_tbl) (m2 : Cond.methodLink own index y ∈ bd_tbl) (m3 : Cond.static y ∈ bd_tbl) (m4 : Cond.initialized y.cls ∈ bd_tbl) (hY : bd_Y y n) (hR : bd_R R0 rm maxL) (hn : As.length = n) (hst : st = As.reverse ++ rest) (hW : (rest.map fun v => v.category).sum ≤ 8) (hd : decode cc pc = .ok (.invokestatic index, 3))
    (k : ∀ (r : Int64) (S' : bd_T), t1 = some (r, S') → bd_S Γ nL t0 ((f r S').bind K) (cells S') (pc + 3) ls (.long r :: rest)) : bd_S Γ nL t0 ((bd_b2 t1 f).bind K) (cells S) pc ls st := bs_callS (vj := bd_vl) hC As rest hM m1 m2 m3 m4 hY hR hn hst hW hd k
theorem bs_callS_v (hC : bd_C Γ cc nL own ret R0 ε cells vi t0) {S : bd_T} {y : MethodName} {bytes : ByteArray} {maxL index n : Nat} {ret' : Option FieldType} {rm : Room} {t1 : Option (Unit × bd_T)} {f : Unit → bd_T → Option α} {K : α → Option (ρ × bd_T)} {st : List Value} (As : List Value) (rest : List Value)
    (hM : t1.isSome = true → bd_Con (bd_l Γ) y (Cond.code y bytes maxL ret' :: bd_tbl) rm (bd_D Γ) ε cells bd_vv As S t1) (m1 : Cond.code y bytes maxL ret' ∈ bd_tbl) (m2 : Cond.methodLink own index y ∈ bd_tbl) (m3 : Cond.static y ∈ bd_tbl) (m4 : Cond.initialized y.cls ∈ bd_tbl) (hY : bd_Y y n) (hR : bd_R R0 rm maxL) (hn : As.length = n) (hst : st = As.reverse ++ rest) (hW : (rest.map fun v => v.category).sum ≤ 8) (hd : decode cc pc = .ok (.invokestatic index, 3))
    (k : ∀ (r : Unit) (S' : bd_T), t1 = some (r, S') → bd_S Γ nL t0 ((f r S').bind K) (cells S') (pc + 3) ls (rest)) : bd_S Γ nL t0 ((bd_b2 t1 f).bind K) (cells S) pc ls st := bs_callS (vj := bd_vv) hC As rest hM m1 m2 m3 m4 hY hR hn hst hW hd k
theorem bs_callSN_i (hC : bd_C Γ cc nL own ret R0 ε cells vi t0) {S : bd_T} {y : MethodName} {host : String} {bytes : ByteArray} {maxL index n : Nat} {ret' : Option FieldType} {rm : Room} {t1 : Option (Int32 × bd_T)} {f : Int32 → bd_T → Option α} {K : α → Option (ρ × bd_T)} {st : List Value} (As : List Value) (rest : List Value)
    (hM : t1.isSome = true → bd_Con (bd_l Γ) y (Cond.code y bytes maxL ret' :: bd_tbl) rm (bd_D Γ) ε cells bd_vi As S t1) (m1 : Cond.code y bytes maxL ret' ∈ bd_tbl) (m2 : ((own, index, y, host) : String × Nat × MethodName × String) ∈ bd_nM) (m3 : Cond.static y ∈ bd_tbl) (m4 : Cond.initialized y.cls ∈ bd_tbl) (hY : bd_Y y n) (hR : bd_R R0 rm maxL) (hn : As.length = n) (hst : st = As.reverse ++ rest) (hW : (rest.map fun v => v.category).sum ≤ 8) (hd : decode cc pc = .ok (.invokestatic index, 3))
    (k : ∀ (r : Int32) (S' : bd_T), t1 = some (r, S') → bd_S Γ nL t0 ((f r S').bind K) (cells S') (pc + 3) ls (.int r :: rest)) : bd_S Γ nL t0 ((bd_b2 t1 f).bind K) (cells S) pc ls st := bs_callSN (vj := bd_vi) hC As rest hM m1 m2 m3 m4 hY hR hn hst hW hd k
theorem bs_callSN_l (hC : bd_C Γ cc nL own ret R0 ε cells vi t0) {S : bd_T} {y : MethodName} {host : String} {bytes : ByteArray} {maxL index n : Nat} {ret' : Option FieldType} {rm : Room} {t1 : Option (Int64 × bd_T)} {f : Int64 → bd_T → Option α} {K : α → Option (ρ × bd_T)} {st : List Value} (As : List Value) (rest : List Value)
    (hM : t1.isSome = true → bd_Con (bd_l Γ) y (Cond.code y bytes maxL ret' :: bd_tbl) rm (bd_D Γ) ε cells bd_vl As S t1) (m1 : Cond.code y bytes maxL ret' ∈ bd_tbl) (m2 : ((own, index, y, host) : String × Nat × MethodName × String) ∈ bd_nM) (m3 : Cond.static y ∈ bd_tbl) (m4 : Cond.initialized y.cls ∈ bd_tbl) (hY : bd_Y y n) (hR : bd_R R0 rm maxL) (hn : As.length = n) (hst : st = As.reverse ++ rest) (hW : (rest.map fun v => v.category).sum ≤ 8) (hd : decode cc pc = .ok (.invokestatic index, 3))
    (k : ∀ (r : Int64) (S' : bd_T), t1 = some (r, S') → bd_S Γ nL t0 ((f r S').bind K) (cells S') (pc + 3) ls (.long r :: rest)) : bd_S Γ nL t0 ((bd_b2 t1 f).bind K) (cells S) pc ls st := bs_callSN (vj := bd_vl) hC As rest hM m1 m2 m3 m4 hY hR hn hst hW hd k
theorem bs_callSN_v (hC : bd_C Γ cc nL own ret R0 ε cells vi t0) {S : bd_T} {y : MethodName} {host : String} {bytes : ByteArray} {maxL index n : Nat} {ret' : Option FieldType} {rm : Room} {t1 : Option (Unit × bd_T)} {f : Unit → bd_T → Option α} {K : α → Option (ρ × bd_T)} {st : List Value} (As : List Value) (rest : List Value)
    (hM : t1.isSome = true → bd_Con (bd_l Γ) y (Cond.code y bytes maxL ret' :: bd_tbl) rm (bd_D Γ) ε cells bd_vv As S t1) (m1 : Cond.code y bytes maxL ret' ∈ bd_tbl) (m2 : ((own, index, y, host) : String × Nat × MethodName × String) ∈ bd_nM) (m3 : Cond.static y ∈ bd_tbl) (m4 : Cond.initialized y.cls ∈ bd_tbl) (hY : bd_Y y n) (hR : bd_R R0 rm maxL) (hn : As.length = n) (hst : st = As.reverse ++ rest) (hW : (rest.map fun v => v.category).sum ≤ 8) (hd : decode cc pc = .ok (.invokestatic index, 3))
    (k : ∀ (r : Unit) (S' : bd_T), t1 = some (r, S') → bd_S Γ nL t0 ((f r S').bind K) (cells S') (pc + 3) ls (rest)) : bd_S Γ nL t0 ((bd_b2 t1 f).bind K) (cells S) pc ls st := bs_callSN (vj := bd_vv) hC As rest hM m1 m2 m3 m4 hY hR hn hst hW hd k
theorem bs_callV_i (hC : bd_C Γ cc nL own ret R0 ε cells vi t0) {S : bd_T} {y : MethodName} {bytes : ByteArray} {maxL index n b q0 ci : Nat} {C : vw_C} {fs : List Value} {ret' : Option FieldType} {rm : Room} {t1 : Option (Int32 × bd_T)} {f : Int32 → bd_T → Option α} {K : α → Option (ρ × bd_T)} {st : List Value} (As : List Value) (rest : List Value)
    (hM : t1.isSome = true → bd_Con (bd_l Γ) y (Cond.code y bytes maxL ret' :: bd_tbl) rm (bd_D Γ) ε cells bd_vi (.ref b :: As) S t1) (m1 : Cond.code y bytes maxL ret' ∈ bd_tbl) (m2 : Cond.methodLink own index y ∈ bd_tbl) (m3 : Cond.instanceMethod y ∈ bd_tbl) (m4 : Cond.initialized y.cls ∈ bd_tbl) (m5 : Cond.selects C.1 y y ∈ bd_tbl) (he : (cells S)[q0]? = some (b, .inr (ci, fs))) (hc : vwCl[ci]? = some C) (hY : bd_Y y n) (hR : bd_R R0 rm maxL) (hn : As.length = n) (hst : st = As.reverse ++ .ref b :: rest) (hW : (rest.map fun v => v.category).sum ≤ 8) (hd : decode cc pc = .ok (.invokevirtual index, 3))
    (k : ∀ (r : Int32) (S' : bd_T), t1 = some (r, S') → bd_S Γ nL t0 ((f r S').bind K) (cells S') (pc + 3) ls (.int r :: rest)) : bd_S Γ nL t0 ((bd_b2 t1 f).bind K) (cells S) pc ls st := bs_callV (vj := bd_vi) hC As rest hM m1 m2 m3 m4 m5 he hc hY hR hn hst hW hd k
theorem bs_callV_l (hC : bd_C Γ cc nL own ret R0 ε cells vi t0) {S : bd_T} {y : MethodName} {bytes : ByteArray} {maxL index n b q0 ci : Nat} {C : vw_C} {fs : List Value} {ret' : Option FieldType} {rm : Room} {t1 : Option (Int64 × bd_T)} {f : Int64 → bd_T → Option α} {K : α → Option (ρ × bd_T)} {st : List Value} (As : List Value) (rest : List Value)
    (hM : t1.isSome = true → bd_Con (bd_l Γ) y (Cond.code y bytes maxL ret' :: bd_tbl) rm (bd_D Γ) ε cells bd_vl (.ref b :: As) S t1) (m1 : Cond.code y bytes maxL ret' ∈ bd_tbl) (m2 : Cond.methodLink own index y ∈ bd_tbl) (m3 : Cond.instanceMethod y ∈ bd_tbl) (m4 : Cond.initialized y.cls ∈ bd_tbl) (m5 : Cond.selects C.1 y y ∈ bd_tbl) (he : (cells S)[q0]? = some (b, .inr (ci, fs))) (hc : vwCl[ci]? = some C) (hY : bd_Y y n) (hR : bd_R R0 rm maxL) (hn : As.length = n) (hst : st = As.reverse ++ .ref b :: rest) (hW : (rest.map fun v => v.category).sum ≤ 8) (hd : decode cc pc = .ok (.invokevirtual index, 3))
    (k : ∀ (r : Int64) (S' : bd_T), t1 = some (r, S') → bd_S Γ nL t0 ((f r S').bind K) (cells S') (pc + 3) ls (.long r :: rest)) : bd_S Γ nL t0 ((bd_b2 t1 f).bind K) (cells S) pc ls st := bs_callV (vj := bd_vl) hC As rest hM m1 m2 m3 m4 m5 he hc hY hR hn hst hW hd k
theorem bs_callV_v (hC : bd_C Γ cc nL own ret R0 ε cells vi t0) {S : bd_T} {y : MethodName} {bytes : ByteArray} {maxL index n b q0 ci : Nat} {C : vw_C} {fs : List Value} {ret' : Option FieldType} {rm : Room} {t1 : Option (Unit × bd_T)} {f : Unit → bd_T → Option α} {K : α → Option (ρ × bd_T)} {st : List Value} (As : List Value) (rest : List Value)
    (hM : t1.isSome = true → bd_Con (bd_l Γ) y (Cond.code y bytes maxL ret' :: bd_tbl) rm (bd_D Γ) ε cells bd_vv (.ref b :: As) S t1) (m1 : Cond.code y bytes maxL ret' ∈ bd_tbl) (m2 : Cond.methodLink own index y ∈ bd_tbl) (m3 : Cond.instanceMethod y ∈ bd_tbl) (m4 : Cond.initialized y.cls ∈ bd_tbl) (m5 : Cond.selects C.1 y y ∈ bd_tbl) (he : (cells S)[q0]? = some (b, .inr (ci, fs))) (hc : vwCl[ci]? = some C) (hY : bd_Y y n) (hR : bd_R R0 rm maxL) (hn : As.length = n) (hst : st = As.reverse ++ .ref b :: rest) (hW : (rest.map fun v => v.category).sum ≤ 8) (hd : decode cc pc = .ok (.invokevirtual index, 3))
    (k : ∀ (r : Unit) (S' : bd_T), t1 = some (r, S') → bd_S Γ nL t0 ((f r S').bind K) (cells S') (pc + 3) ls (rest)) : bd_S Γ nL t0 ((bd_b2 t1 f).bind K) (cells S) pc ls st := bs_callV (vj := bd_vv) hC As rest hM m1 m2 m3 m4 m5 he hc hY hR hn hst hW hd k
theorem bs_callVN_i (hC : bd_C Γ cc nL own ret R0 ε cells vi t0) {S : bd_T} {y : MethodName} {host : String} {bytes : ByteArray} {maxL index n b q0 ci : Nat} {C : vw_C} {fs : List Value} {ret' : Option FieldType} {rm : Room} {t1 : Option (Int32 × bd_T)} {f : Int32 → bd_T → Option α} {K : α → Option (ρ × bd_T)} {st : List Value} (As : List Value) (rest : List Value)
    (hM : t1.isSome = true → bd_Con (bd_l Γ) y (Cond.code y bytes maxL ret' :: bd_tbl) rm (bd_D Γ) ε cells bd_vi (.ref b :: As) S t1) (m1 : Cond.code y bytes maxL ret' ∈ bd_tbl) (m2 : ((own, index, y, host) : String × Nat × MethodName × String) ∈ bd_nM) (m3 : Cond.instanceMethod y ∈ bd_tbl) (m4 : Cond.initialized y.cls ∈ bd_tbl) (m5 : Cond.selects C.1 y y ∈ bd_tbl) (he : (cells S)[q0]? = some (b, .inr (ci, fs))) (hc : vwCl[ci]? = some C) (hY : bd_Y y n) (hR : bd_R R0 rm maxL) (hn : As.length = n) (hst : st = As.reverse ++ .ref b :: rest) (hW : (rest.map fun v => v.category).sum ≤ 8) (hd : decode cc pc = .ok (.invokevirtual index, 3))
    (k : ∀ (r : Int32) (S' : bd_T), t1 = some (r, S') → bd_S Γ nL t0 ((f r S').bind K) (cells S') (pc + 3) ls (.int r :: rest)) : bd_S Γ nL t0 ((bd_b2 t1 f).bind K) (cells S) pc ls st := bs_callVN (vj := bd_vi) hC As rest hM m1 m2 m3 m4 m5 he hc hY hR hn hst hW hd k
theorem bs_callVN_l (hC : bd_C Γ cc nL own ret R0 ε cells vi t0) {S : bd_T} {y : MethodName} {host : String} {bytes : ByteArray} {maxL index n b q0 ci : Nat} {C : vw_C} {fs : List Value} {ret' : Option FieldType} {rm : Room} {t1 : Option (Int64 × bd_T)} {f : Int64 → bd_T → Option α} {K : α → Option (ρ × bd_T)} {st : List Value} (As : List Value) (rest : List Value)
    (hM : t1.isSome = true → bd_Con (bd_l Γ) y (Cond.code y bytes maxL ret' :: bd_tbl) rm (bd_D Γ) ε cells bd_vl (.ref b :: As) S t1) (m1 : Cond.code y bytes maxL ret' ∈ bd_tbl) (m2 : ((own, index, y, host) : String × Nat × MethodName × String) ∈ bd_nM) (m3 : Cond.instanceMethod y ∈ bd_tbl) (m4 : Cond.initialized y.cls ∈ bd_tbl) (m5 : Cond.selects C.1 y y ∈ bd_tbl) (he : (cells S)[q0]? = some (b, .inr (ci, fs))) (hc : vwCl[ci]? = some C) (hY : bd_Y y n) (hR : bd_R R0 rm maxL) (hn : As.length = n) (hst : st = As.reverse ++ .ref b :: rest) (hW : (rest.map fun v => v.category).sum ≤ 8) (hd : decode cc pc = .ok (.invokevirtual index, 3))
    (k : ∀ (r : Int64) (S' : bd_T), t1 = some (r, S') → bd_S Γ nL t0 ((f r S').bind K) (cells S') (pc + 3) ls (.long r :: rest)) : bd_S Γ nL t0 ((bd_b2 t1 f).bind K) (cells S) pc ls st := bs_callVN (vj := bd_vl) hC As rest hM m1 m2 m3 m4 m5 he hc hY hR hn hst hW hd k
theorem bs_callVN_v (hC : bd_C Γ cc nL own ret R0 ε cells vi t0) {S : bd_T} {y : MethodName} {host : String} {bytes : ByteArray} {maxL index n b q0 ci : Nat} {C : vw_C} {fs : List Value} {ret' : Option FieldType} {rm : Room} {t1 : Option (Unit × bd_T)} {f : Unit → bd_T → Option α} {K : α → Option (ρ × bd_T)} {st : List Value} (As : List Value) (rest : List Value)
    (hM : t1.isSome = true → bd_Con (bd_l Γ) y (Cond.code y bytes maxL ret' :: bd_tbl) rm (bd_D Γ) ε cells bd_vv (.ref b :: As) S t1) (m1 : Cond.code y bytes maxL ret' ∈ bd_tbl) (m2 : ((own, index, y, host) : String × Nat × MethodName × String) ∈ bd_nM) (m3 : Cond.instanceMethod y ∈ bd_tbl) (m4 : Cond.initialized y.cls ∈ bd_tbl) (m5 : Cond.selects C.1 y y ∈ bd_tbl) (he : (cells S)[q0]? = some (b, .inr (ci, fs))) (hc : vwCl[ci]? = some C) (hY : bd_Y y n) (hR : bd_R R0 rm maxL) (hn : As.length = n) (hst : st = As.reverse ++ .ref b :: rest) (hW : (rest.map fun v => v.category).sum ≤ 8) (hd : decode cc pc = .ok (.invokevirtual index, 3))
    (k : ∀ (r : Unit) (S' : bd_T), t1 = some (r, S') → bd_S Γ nL t0 ((f r S').bind K) (cells S') (pc + 3) ls (rest)) : bd_S Γ nL t0 ((bd_b2 t1 f).bind K) (cells S) pc ls st := bs_callVN (vj := bd_vv) hC As rest hM m1 m2 m3 m4 m5 he hc hY hR hn hst hW hd k
theorem bs_callU_i (hC : bd_C Γ cc nL own ret R0 ε cells vi t0) {S : bd_T} {x' y : MethodName} {owner : String} {bytes : ByteArray} {maxL index n b q0 ci : Nat} {C : vw_C} {fs : List Value} {ret' : Option FieldType} {rm : Room} {t1 : Option (Int32 × bd_T)} {f : Int32 → bd_T → Option α} {K : α → Option (ρ × bd_T)} {st : List Value} (As : List Value) (rest : List Value)
    (hM : t1.isSome = true → bd_Con (bd_l Γ) y (Cond.code y bytes maxL ret' :: bd_tbl) rm (bd_D Γ) ε cells bd_vi (.ref b :: As) S t1) (m1 : Cond.code y bytes maxL ret' ∈ bd_tbl) (m2 : Cond.methodLink own index x' ∈ bd_tbl) (m3 : Cond.instanceMethod y ∈ bd_tbl) (m4 : Cond.initialized y.cls ∈ bd_tbl) (m5 : Cond.selects C.1 x' y ∈ bd_tbl) (m6 : Cond.sameMethod x'.cls owner x'.name x'.desc ∈ bd_tbl) (m7 : (⟨owner, x'.name, x'.desc⟩ : MethodName) ∈ bd_nD ∨ y = ⟨owner, x'.name, x'.desc⟩) (ho : owner ≠ "java/lang/invoke/MethodHandle" ∧ owner ≠ "java/lang/invoke/VarHandle" ∧ (parseMethodDescriptor x'.desc).map (fun d => d.parameters.length) = some n) (he : (cells S)[q0]? = some (b, .inr (ci, fs))) (hc : vwCl[ci]? = some C) (hR : bd_R R0 rm maxL) (hn : As.length = n) (hst : st = As.reverse ++ .ref b :: rest) (hW : (rest.map fun v => v.category).sum ≤ 8) (hd : decode cc pc = .ok (.invokevirtual index, 3))
    (k : ∀ (r : Int32) (S' : bd_T), t1 = some (r, S') → bd_S Γ nL t0 ((f r S').bind K) (cells S') (pc + 3) ls (.int r :: rest)) : bd_S Γ nL t0 ((bd_b2 t1 f).bind K) (cells S) pc ls st := bs_callU (vj := bd_vi) hC As rest hM m1 m2 m3 m4 m5 m6 m7 ho he hc hR hn hst hW hd k
theorem bs_callU_l (hC : bd_C Γ cc nL own ret R0 ε cells vi t0) {S : bd_T} {x' y : MethodName} {owner : String} {bytes : ByteArray} {maxL index n b q0 ci : Nat} {C : vw_C} {fs : List Value} {ret' : Option FieldType} {rm : Room} {t1 : Option (Int64 × bd_T)} {f : Int64 → bd_T → Option α} {K : α → Option (ρ × bd_T)} {st : List Value} (As : List Value) (rest : List Value)
    (hM : t1.isSome = true → bd_Con (bd_l Γ) y (Cond.code y bytes maxL ret' :: bd_tbl) rm (bd_D Γ) ε cells bd_vl (.ref b :: As) S t1) (m1 : Cond.code y bytes maxL ret' ∈ bd_tbl) (m2 : Cond.methodLink own index x' ∈ bd_tbl) (m3 : Cond.instanceMethod y ∈ bd_tbl) (m4 : Cond.initialized y.cls ∈ bd_tbl) (m5 : Cond.selects C.1 x' y ∈ bd_tbl) (m6 : Cond.sameMethod x'.cls owner x'.name x'.desc ∈ bd_tbl) (m7 : (⟨owner, x'.name, x'.desc⟩ : MethodName) ∈ bd_nD ∨ y = ⟨owner, x'.name, x'.desc⟩) (ho : owner ≠ "java/lang/invoke/MethodHandle" ∧ owner ≠ "java/lang/invoke/VarHandle" ∧ (parseMethodDescriptor x'.desc).map (fun d => d.parameters.length) = some n) (he : (cells S)[q0]? = some (b, .inr (ci, fs))) (hc : vwCl[ci]? = some C) (hR : bd_R R0 rm maxL) (hn : As.length = n) (hst : st = As.reverse ++ .ref b :: rest) (hW : (rest.map fun v => v.category).sum ≤ 8) (hd : decode cc pc = .ok (.invokevirtual index, 3))
    (k : ∀ (r : Int64) (S' : bd_T), t1 = some (r, S') → bd_S Γ nL t0 ((f r S').bind K) (cells S') (pc + 3) ls (.long r :: rest)) : bd_S Γ nL t0 ((bd_b2 t1 f).bind K) (cells S) pc ls st := bs_callU (vj := bd_vl) hC As rest hM m1 m2 m3 m4 m5 m6 m7 ho he hc hR hn hst hW hd k
theorem bs_callU_v (hC : bd_C Γ cc nL own ret R0 ε cells vi t0) {S : bd_T} {x' y : MethodName} {owner : String} {bytes : ByteArray} {maxL index n b q0 ci : Nat} {C : vw_C} {fs : List Value} {ret' : Option FieldType} {rm : Room} {t1 : Option (Unit × bd_T)} {f : Unit → bd_T → Option α} {K : α → Option (ρ × bd_T)} {st : List Value} (As : List Value) (rest : List Value)
    (hM : t1.isSome = true → bd_Con (bd_l Γ) y (Cond.code y bytes maxL ret' :: bd_tbl) rm (bd_D Γ) ε cells bd_vv (.ref b :: As) S t1) (m1 : Cond.code y bytes maxL ret' ∈ bd_tbl) (m2 : Cond.methodLink own index x' ∈ bd_tbl) (m3 : Cond.instanceMethod y ∈ bd_tbl) (m4 : Cond.initialized y.cls ∈ bd_tbl) (m5 : Cond.selects C.1 x' y ∈ bd_tbl) (m6 : Cond.sameMethod x'.cls owner x'.name x'.desc ∈ bd_tbl) (m7 : (⟨owner, x'.name, x'.desc⟩ : MethodName) ∈ bd_nD ∨ y = ⟨owner, x'.name, x'.desc⟩) (ho : owner ≠ "java/lang/invoke/MethodHandle" ∧ owner ≠ "java/lang/invoke/VarHandle" ∧ (parseMethodDescriptor x'.desc).map (fun d => d.parameters.length) = some n) (he : (cells S)[q0]? = some (b, .inr (ci, fs))) (hc : vwCl[ci]? = some C) (hR : bd_R R0 rm maxL) (hn : As.length = n) (hst : st = As.reverse ++ .ref b :: rest) (hW : (rest.map fun v => v.category).sum ≤ 8) (hd : decode cc pc = .ok (.invokevirtual index, 3))
    (k : ∀ (r : Unit) (S' : bd_T), t1 = some (r, S') → bd_S Γ nL t0 ((f r S').bind K) (cells S') (pc + 3) ls (rest)) : bd_S Γ nL t0 ((bd_b2 t1 f).bind K) (cells S) pc ls st := bs_callU (vj := bd_vv) hC As rest hM m1 m2 m3 m4 m5 m6 m7 ho he hc hR hn hst hW hd k
/-! Math.max, Math.min -/
theorem bs_mmax (hC : bd_C Γ cc nL own ret R0 ε cells vi t0) {index : Nat} {a b : Int32} (hm : Cond.methodLink own index Lib.Math.max.name ∈ bd_tbl) (hst : Cond.static Lib.Math.max.name ∈ bd_tbl) (hini : Cond.initialized "java/lang/Math" ∈ bd_tbl) (hcode : Cond.code Lib.Math.max.name Lib.Math.max.code 2 (some .int) ∈ bd_tbl) (hf : 1 ≤ R0.frames) (hlo : (rest.map fun v => v.category).sum + 13 ≤ R0.locals) (hd : decode cc pc = .ok (.invokestatic index, 3)) (k : bd_S Γ nL t0 x ws (pc + 3) ls (.int (if a < b then b else a) :: rest)) : bd_S Γ nL t0 x ws pc ls (.int b :: .int a :: rest) := by
  obtain ⟨p, l, e, R, s, m, args, below, meth, c, A, Q, D⟩ := Γ
  intro e1 e2 H locs arr hP hD hS hl
  obtain ⟨hx, hb, hml, hown, hts, hr, hlk, hK, hN, hR, hA, hQ⟩ := hC
  subst hR
  exact va_mmax hx hb (hml.trans hl.1.symm) hown (hts _ hm) (hts _ hst) (hts _ hini) (hts _ hcode) hf hlo (Nat.zero_le _) (Nat.zero_le _) hd (k e1 e2 H locs arr hP hD hS hl)
theorem bs_mmin (hC : bd_C Γ cc nL own ret R0 ε cells vi t0) {index : Nat} {a b : Int32} (hm : Cond.methodLink own index Lib.Math.min.name ∈ bd_tbl) (hst : Cond.static Lib.Math.min.name ∈ bd_tbl) (hini : Cond.initialized "java/lang/Math" ∈ bd_tbl) (hcode : Cond.code Lib.Math.min.name Lib.Math.min.code 2 (some .int) ∈ bd_tbl) (hf : 1 ≤ R0.frames) (hlo : (rest.map fun v => v.category).sum + 13 ≤ R0.locals) (hd : decode cc pc = .ok (.invokestatic index, 3)) (k : bd_S Γ nL t0 x ws (pc + 3) ls (.int (if b < a then b else a) :: rest)) : bd_S Γ nL t0 x ws pc ls (.int b :: .int a :: rest) := by
  obtain ⟨p, l, e, R, s, m, args, below, meth, c, A, Q, D⟩ := Γ
  intro e1 e2 H locs arr hP hD hS hl
  obtain ⟨hx, hb, hml, hown, hts, hr, hlk, hK, hN, hR, hA, hQ⟩ := hC
  subst hR
  exact va_mmin hx hb (hml.trans hl.1.symm) hown (hts _ hm) (hts _ hst) (hts _ hini) (hts _ hcode) hf hlo (Nat.zero_le _) (Nat.zero_le _) hd (k e1 e2 H locs arr hP hD hS hl)
theorem bs_mminL (hC : bd_C Γ cc nL own ret R0 ε cells vi t0) {index : Nat} {a b : Int64} (hm : Cond.methodLink own index Lib.MathLoose.min_long.x ∈ bd_tbl) (hst : Cond.static Lib.MathLoose.min_long.x ∈ bd_tbl) (hini : Cond.initialized "java/lang/Math" ∈ bd_tbl) (hcode : Cond.code Lib.MathLoose.min_long.x Lib.MathLoose.min_long.code 4 (some .long) ∈ bd_tbl) (hf : 1 ≤ R0.frames) (hlo : (rest.map fun v => v.category).sum + 15 ≤ R0.locals) (hd : decode cc pc = .ok (.invokestatic index, 3)) (k : bd_S Γ nL t0 x ws (pc + 3) ls (.long (if b < a then b else a) :: rest)) : bd_S Γ nL t0 x ws pc ls (.long b :: .long a :: rest) := by
  obtain ⟨p, l, e, R, s, m, args, below, meth, c, A, Q, D⟩ := Γ
  intro e1 e2 H locs arr hP hD hS hl
  obtain ⟨hx, hb, hml, hown, hts, hr, hlk, hK, hN, hR, hA, hQ⟩ := hC
  subst hR
  exact va_mmin_long hx hb (hml.trans hl.1.symm) hown (hts _ hm) (hts _ hst) (hts _ hini) (hts _ hcode) hf hlo (Nat.zero_le _) (Nat.zero_le _) hd (k e1 e2 H locs arr hP hD hS hl)
end BDR
/-- a loop: P at its head, X behind it -/
theorem bs_loop {σ τ ρ : Type} {k : τ → Option ρ} (P : σ → Option ρ → Prop) (X : τ → Option ρ → Prop) (F : σ → Option (σ ⊕ τ)) (h0 : ∀ q, P q none) (hb : ∀ K : σ ⊕ τ → Option ρ, (∀ q, P q (K (.inl q))) → (∀ r, X r (K (.inr r))) → ∀ q, P q ((F q).bind K)) (hx : ∀ r, X r (k r)) : ∀ (n : Nat) (q : σ), P q ((bd_lp n F q).bind k) := by
  intro n
  induction n with
  | zero => exact fun q => h0 q
  | succ n ih =>
    intro q
    have e : ((bd_lp (n + 1) F q).bind k) = (F q).bind (fun z => Sum.elim (fun q' => (bd_lp n F q').bind k) k z) := by
      show ((F q).bind _).bind k = _
      cases F q with
      | none => rfl
      | some z => cases z <;> rfl
    rw [e]
    exact hb _ (fun q' => ih q') (fun r => hx r) q
theorem bs_loopK {σ τ ρ α : Type} {k : τ → Option α} {K : α → Option ρ} (P : σ → Option ρ → Prop) (X : τ → Option ρ → Prop) (F : σ → Option (σ ⊕ τ)) (h0 : ∀ q, P q none) (hb : ∀ K : σ ⊕ τ → Option ρ, (∀ q, P q (K (.inl q))) → (∀ r, X r (K (.inr r))) → ∀ q, P q ((F q).bind K)) (hx : ∀ r, X r ((k r).bind K)) (n : Nat) (q : σ) : P q (((bd_lp n F q).bind k).bind K) := by
  have h := bs_loop (k := fun r => (k r).bind K) P X F h0 hb hx n q
  have e : ((bd_lp n F q).bind k).bind K = (bd_lp n F q).bind (fun r => (k r).bind K) := by
    cases bd_lp n F q <;> rfl
  rw [e]
  exact h
theorem bs_none {ρ : Type} {Γ : bd_G} {nL : Nat} {t0 : Option (ρ × bd_T)} {ws : va_W} {pc : Nat} {ls : List (Nat × Value)} {st : List Value} : bd_S Γ nL t0 none ws pc ls st := fun _ e2 => by cases e2
theorem bs_eq {ρ : Type} {Γ : bd_G} {nL : Nat} {t0 x y : Option (ρ × bd_T)} {ws : va_W} {pc : Nat} {ls : List (Nat × Value)} {st : List Value} (h : x = y) (k : bd_S Γ nL t0 x ws pc ls st) : bd_S Γ nL t0 y ws pc ls st := h ▸ k
end
