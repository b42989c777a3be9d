section
-- ===== PART A: goes FIRST, ahead of the names: the tables' words, and 'selects' of the private methods out of them =====
/-- a private method of a class that the tables say can be made, by its rows of tables_1 -/
def lw_okq (q : MethodName × Nat) : Prop := (q.1.cls ≠ "java/lang/invoke/MethodHandle" ∧ q.1.cls ≠ "java/lang/invoke/VarHandle") ∧ Cond.instantiable q.1.cls q.2 ∈ tables_1 ∧ Cond.privateMethod q.1 ∈ tables_1 ∧ Cond.instanceMethod q.1 ∈ tables_1
theorem lw_p0 : lw_okq (⟨"HoursByPost", "find", "(I)I"⟩, 13) := ⟨⟨by decide +kernel, by decide +kernel⟩, List.mem_of_getElem? (i := 13) (by decide +kernel), List.mem_of_getElem? (i := 259) (by decide +kernel), List.mem_of_getElem? (i := 260) (by decide +kernel)⟩
theorem lw_p1 : lw_okq (⟨"HoursByPost", "refusalOfPlace", "(LHoursByPost$Rows;II)I"⟩, 13) := ⟨⟨by decide +kernel, by decide +kernel⟩, List.mem_of_getElem? (i := 13) (by decide +kernel), List.mem_of_getElem? (i := 271) (by decide +kernel), List.mem_of_getElem? (i := 272) (by decide +kernel)⟩
theorem lw_p2 : lw_okq (⟨"HoursByPost", "refusalOf", "(LHoursByPost$Rows;I)I"⟩, 13) := ⟨⟨by decide +kernel, by decide +kernel⟩, List.mem_of_getElem? (i := 13) (by decide +kernel), List.mem_of_getElem? (i := 275) (by decide +kernel), List.mem_of_getElem? (i := 276) (by decide +kernel)⟩
theorem lw_p3 : lw_okq (⟨"HoursByPost", "tell", "(I)I"⟩, 13) := ⟨⟨by decide +kernel, by decide +kernel⟩, List.mem_of_getElem? (i := 13) (by decide +kernel), List.mem_of_getElem? (i := 291) (by decide +kernel), List.mem_of_getElem? (i := 292) (by decide +kernel)⟩
theorem lw_p4 : lw_okq (⟨"HoursByPost$Reading", "skipBlanks", "()V"⟩, 4) := ⟨⟨by decide +kernel, by decide +kernel⟩, List.mem_of_getElem? (i := 42) (by decide +kernel), List.mem_of_getElem? (i := 339) (by decide +kernel), List.mem_of_getElem? (i := 340) (by decide +kernel)⟩
theorem lw_p5 : lw_okq (⟨"HoursByPost$Reading", "readItem", "()Z"⟩, 4) := ⟨⟨by decide +kernel, by decide +kernel⟩, List.mem_of_getElem? (i := 42) (by decide +kernel), List.mem_of_getElem? (i := 343) (by decide +kernel), List.mem_of_getElem? (i := 344) (by decide +kernel)⟩
theorem lw_p6 : lw_okq (⟨"HoursByPost$Reading", "nextBetween", "(II)I"⟩, 4) := ⟨⟨by decide +kernel, by decide +kernel⟩, List.mem_of_getElem? (i := 42) (by decide +kernel), List.mem_of_getElem? (i := 347) (by decide +kernel), List.mem_of_getElem? (i := 348) (by decide +kernel)⟩
theorem lw_p7 : lw_okq (⟨"HoursByPost$Reading", "readHour", "()Z"⟩, 4) := ⟨⟨by decide +kernel, by decide +kernel⟩, List.mem_of_getElem? (i := 42) (by decide +kernel), List.mem_of_getElem? (i := 351) (by decide +kernel), List.mem_of_getElem? (i := 352) (by decide +kernel)⟩
theorem lw_p8 : lw_okq (⟨"HoursByPost$Reading", "take", "(I)I"⟩, 4) := ⟨⟨by decide +kernel, by decide +kernel⟩, List.mem_of_getElem? (i := 42) (by decide +kernel), List.mem_of_getElem? (i := 355) (by decide +kernel), List.mem_of_getElem? (i := 356) (by decide +kernel)⟩
theorem lw_p9 : lw_okq (⟨"HoursByPost$Reading", "readDeed", "()Z"⟩, 4) := ⟨⟨by decide +kernel, by decide +kernel⟩, List.mem_of_getElem? (i := 42) (by decide +kernel), List.mem_of_getElem? (i := 363) (by decide +kernel), List.mem_of_getElem? (i := 364) (by decide +kernel)⟩
theorem lw_p10 : lw_okq (⟨"HoursByPost$Reading", "nextAmong", "([I)I"⟩, 4) := ⟨⟨by decide +kernel, by decide +kernel⟩, List.mem_of_getElem? (i := 42) (by decide +kernel), List.mem_of_getElem? (i := 369) (by decide +kernel), List.mem_of_getElem? (i := 370) (by decide +kernel)⟩
theorem lw_p11 : lw_okq (⟨"HoursByPost$Plan", "setsReadyFor", "(I)J"⟩, 11) := ⟨⟨by decide +kernel, by decide +kernel⟩, List.mem_of_getElem? (i := 48) (by decide +kernel), List.mem_of_getElem? (i := 398) (by decide +kernel), List.mem_of_getElem? (i := 399) (by decide +kernel)⟩
theorem lw_p12 : lw_okq (⟨"HoursByPost$Plan", "hoursSuiting", "(I)I"⟩, 11) := ⟨⟨by decide +kernel, by decide +kernel⟩, List.mem_of_getElem? (i := 48) (by decide +kernel), List.mem_of_getElem? (i := 416) (by decide +kernel), List.mem_of_getElem? (i := 417) (by decide +kernel)⟩
theorem lw_p13 : lw_okq (⟨"HoursByPost$Course", "rewind", "()V"⟩, 12) := ⟨⟨by decide +kernel, by decide +kernel⟩, List.mem_of_getElem? (i := 122) (by decide +kernel), List.mem_of_getElem? (i := 436) (by decide +kernel), List.mem_of_getElem? (i := 437) (by decide +kernel)⟩
theorem lw_p14 : lw_okq (⟨"HoursByPost", "deedFact", "(II)I"⟩, 13) := ⟨⟨by decide +kernel, by decide +kernel⟩, List.mem_of_getElem? (i := 13) (by decide +kernel), List.mem_of_getElem? (i := 445) (by decide +kernel), List.mem_of_getElem? (i := 446) (by decide +kernel)⟩
theorem lw_p15 : lw_okq (⟨"HoursByPost", "hourFact", "(II)I"⟩, 13) := ⟨⟨by decide +kernel, by decide +kernel⟩, List.mem_of_getElem? (i := 13) (by decide +kernel), List.mem_of_getElem? (i := 458) (by decide +kernel), List.mem_of_getElem? (i := 459) (by decide +kernel)⟩
def lw_privs_1 : List (MethodName × Nat) := [(⟨"HoursByPost", "find", "(I)I"⟩, 13), (⟨"HoursByPost", "refusalOfPlace", "(LHoursByPost$Rows;II)I"⟩, 13), (⟨"HoursByPost", "refusalOf", "(LHoursByPost$Rows;I)I"⟩, 13), (⟨"HoursByPost", "tell", "(I)I"⟩, 13), (⟨"HoursByPost$Reading", "skipBlanks", "()V"⟩, 4), (⟨"HoursByPost$Reading", "readItem", "()Z"⟩, 4), (⟨"HoursByPost$Reading", "nextBetween", "(II)I"⟩, 4), (⟨"HoursByPost$Reading", "readHour", "()Z"⟩, 4), (⟨"HoursByPost$Reading", "take", "(I)I"⟩, 4), (⟨"HoursByPost$Reading", "readDeed", "()Z"⟩, 4), (⟨"HoursByPost$Reading", "nextAmong", "([I)I"⟩, 4), (⟨"HoursByPost$Plan", "setsReadyFor", "(I)J"⟩, 11), (⟨"HoursByPost$Plan", "hoursSuiting", "(I)I"⟩, 11), (⟨"HoursByPost$Course", "rewind", "()V"⟩, 12), (⟨"HoursByPost", "deedFact", "(II)I"⟩, 13), (⟨"HoursByPost", "hourFact", "(II)I"⟩, 13)]
theorem lw_r1 : ∀ q ∈ lw_privs_1, lw_okq q := List.forall_mem_cons.mpr ⟨lw_p0, List.forall_mem_cons.mpr ⟨lw_p1, List.forall_mem_cons.mpr ⟨lw_p2, List.forall_mem_cons.mpr ⟨lw_p3, List.forall_mem_cons.mpr ⟨lw_p4, List.forall_mem_cons.mpr ⟨lw_p5, List.forall_mem_cons.mpr ⟨lw_p6, List.forall_mem_cons.mpr ⟨lw_p7, List.forall_mem_cons.mpr ⟨lw_p8, List.forall_mem_cons.mpr ⟨lw_p9, List.forall_mem_cons.mpr ⟨lw_p10, List.forall_mem_cons.mpr ⟨lw_p11, List.forall_mem_cons.mpr ⟨lw_p12, List.forall_mem_cons.mpr ⟨lw_p13, List.forall_mem_cons.mpr ⟨lw_p14, List.forall_mem_cons.mpr ⟨lw_p15, fun _ h => absurd h List.not_mem_nil⟩⟩⟩⟩⟩⟩⟩⟩⟩⟩⟩⟩⟩⟩⟩⟩
theorem lw_p16 : lw_okq (⟨"HoursByPost", "hoursFor", "(I)I"⟩, 13) := ⟨⟨by decide +kernel, by decide +kernel⟩, List.mem_of_getElem? (i := 13) (by decide +kernel), List.mem_of_getElem? (i := 481) (by decide +kernel), List.mem_of_getElem? (i := 482) (by decide +kernel)⟩
theorem lw_p17 : lw_okq (⟨"HoursByPost$Course", "live", "(II)V"⟩, 12) := ⟨⟨by decide +kernel, by decide +kernel⟩, List.mem_of_getElem? (i := 122) (by decide +kernel), List.mem_of_getElem? (i := 537) (by decide +kernel), List.mem_of_getElem? (i := 538) (by decide +kernel)⟩
theorem lw_p18 : lw_okq (⟨"HoursByPost", "refusalInHouse", "(I)I"⟩, 13) := ⟨⟨by decide +kernel, by decide +kernel⟩, List.mem_of_getElem? (i := 13) (by decide +kernel), List.mem_of_getElem? (i := 608) (by decide +kernel), List.mem_of_getElem? (i := 609) (by decide +kernel)⟩
theorem lw_p19 : lw_okq (⟨"HoursByPost", "areAllPairs", "([II)Z"⟩, 13) := ⟨⟨by decide +kernel, by decide +kernel⟩, List.mem_of_getElem? (i := 13) (by decide +kernel), List.mem_of_getElem? (i := 612) (by decide +kernel), List.mem_of_getElem? (i := 613) (by decide +kernel)⟩
theorem lw_p20 : lw_okq (⟨"HoursByPost$Orders", "fits", "(II)Z"⟩, 7) := ⟨⟨by decide +kernel, by decide +kernel⟩, List.mem_of_getElem? (i := 181) (by decide +kernel), List.mem_of_getElem? (i := 625) (by decide +kernel), List.mem_of_getElem? (i := 626) (by decide +kernel)⟩
theorem lw_p21 : lw_okq (⟨"HoursByPost$Orders", "live", "(II)V"⟩, 7) := ⟨⟨by decide +kernel, by decide +kernel⟩, List.mem_of_getElem? (i := 181) (by decide +kernel), List.mem_of_getElem? (i := 631) (by decide +kernel), List.mem_of_getElem? (i := 632) (by decide +kernel)⟩
theorem lw_p22 : lw_okq (⟨"HoursByPost$Orders", "gapBehind", "(II)I"⟩, 7) := ⟨⟨by decide +kernel, by decide +kernel⟩, List.mem_of_getElem? (i := 181) (by decide +kernel), List.mem_of_getElem? (i := 635) (by decide +kernel), List.mem_of_getElem? (i := 636) (by decide +kernel)⟩
theorem lw_p23 : lw_okq (⟨"HoursByPost$Orders", "spread", "(II)V"⟩, 7) := ⟨⟨by decide +kernel, by decide +kernel⟩, List.mem_of_getElem? (i := 181) (by decide +kernel), List.mem_of_getElem? (i := 655) (by decide +kernel), List.mem_of_getElem? (i := 656) (by decide +kernel)⟩
theorem lw_p24 : lw_okq (⟨"HoursByPost$Orders", "pass", "(JIII)V"⟩, 7) := ⟨⟨by decide +kernel, by decide +kernel⟩, List.mem_of_getElem? (i := 181) (by decide +kernel), List.mem_of_getElem? (i := 659) (by decide +kernel), List.mem_of_getElem? (i := 660) (by decide +kernel)⟩
theorem lw_p25 : lw_okq (⟨"HoursByPost$Orders", "doneBy", "(I)J"⟩, 7) := ⟨⟨by decide +kernel, by decide +kernel⟩, List.mem_of_getElem? (i := 181) (by decide +kernel), List.mem_of_getElem? (i := 668) (by decide +kernel), List.mem_of_getElem? (i := 669) (by decide +kernel)⟩
theorem lw_p26 : lw_okq (⟨"HoursByPost$Orders", "findWinning", "(II)V"⟩, 7) := ⟨⟨by decide +kernel, by decide +kernel⟩, List.mem_of_getElem? (i := 181) (by decide +kernel), List.mem_of_getElem? (i := 704) (by decide +kernel), List.mem_of_getElem? (i := 705) (by decide +kernel)⟩
theorem lw_p27 : lw_okq (⟨"HoursByPost$Orders", "winningAhead", "(II)J"⟩, 7) := ⟨⟨by decide +kernel, by decide +kernel⟩, List.mem_of_getElem? (i := 181) (by decide +kernel), List.mem_of_getElem? (i := 708) (by decide +kernel), List.mem_of_getElem? (i := 709) (by decide +kernel)⟩
theorem lw_p28 : lw_okq (⟨"HoursByPost$Orders", "winningBy", "(III)J"⟩, 7) := ⟨⟨by decide +kernel, by decide +kernel⟩, List.mem_of_getElem? (i := 181) (by decide +kernel), List.mem_of_getElem? (i := 712) (by decide +kernel), List.mem_of_getElem? (i := 713) (by decide +kernel)⟩
theorem lw_p29 : lw_okq (⟨"HoursByPost$Orders", "writeFirstPair", "(I[I)V"⟩, 7) := ⟨⟨by decide +kernel, by decide +kernel⟩, List.mem_of_getElem? (i := 181) (by decide +kernel), List.mem_of_getElem? (i := 716) (by decide +kernel), List.mem_of_getElem? (i := 717) (by decide +kernel)⟩
theorem lw_p30 : lw_okq (⟨"HoursByPost$Orders", "isWinning", "(II)Z"⟩, 7) := ⟨⟨by decide +kernel, by decide +kernel⟩, List.mem_of_getElem? (i := 181) (by decide +kernel), List.mem_of_getElem? (i := 720) (by decide +kernel), List.mem_of_getElem? (i := 721) (by decide +kernel)⟩
theorem lw_p31 : lw_okq (⟨"HoursByPost", "diaryRefusal", "(I)I"⟩, 13) := ⟨⟨by decide +kernel, by decide +kernel⟩, List.mem_of_getElem? (i := 13) (by decide +kernel), List.mem_of_getElem? (i := 744) (by decide +kernel), List.mem_of_getElem? (i := 745) (by decide +kernel)⟩
def lw_privs_2 : List (MethodName × Nat) := [(⟨"HoursByPost", "hoursFor", "(I)I"⟩, 13), (⟨"HoursByPost$Course", "live", "(II)V"⟩, 12), (⟨"HoursByPost", "refusalInHouse", "(I)I"⟩, 13), (⟨"HoursByPost", "areAllPairs", "([II)Z"⟩, 13), (⟨"HoursByPost$Orders", "fits", "(II)Z"⟩, 7), (⟨"HoursByPost$Orders", "live", "(II)V"⟩, 7), (⟨"HoursByPost$Orders", "gapBehind", "(II)I"⟩, 7), (⟨"HoursByPost$Orders", "spread", "(II)V"⟩, 7), (⟨"HoursByPost$Orders", "pass", "(JIII)V"⟩, 7), (⟨"HoursByPost$Orders", "doneBy", "(I)J"⟩, 7), (⟨"HoursByPost$Orders", "findWinning", "(II)V"⟩, 7), (⟨"HoursByPost$Orders", "winningAhead", "(II)J"⟩, 7), (⟨"HoursByPost$Orders", "winningBy", "(III)J"⟩, 7), (⟨"HoursByPost$Orders", "writeFirstPair", "(I[I)V"⟩, 7), (⟨"HoursByPost$Orders", "isWinning", "(II)Z"⟩, 7), (⟨"HoursByPost", "diaryRefusal", "(I)I"⟩, 13)]
theorem lw_r2 : ∀ q ∈ lw_privs_2, lw_okq q := List.forall_mem_cons.mpr ⟨lw_p16, List.forall_mem_cons.mpr ⟨lw_p17, List.forall_mem_cons.mpr ⟨lw_p18, List.forall_mem_cons.mpr ⟨lw_p19, List.forall_mem_cons.mpr ⟨lw_p20, List.forall_mem_cons.mpr ⟨lw_p21, List.forall_mem_cons.mpr ⟨lw_p22, List.forall_mem_cons.mpr ⟨lw_p23, List.forall_mem_cons.mpr ⟨lw_p24, List.forall_mem_cons.mpr ⟨lw_p25, List.forall_mem_cons.mpr ⟨lw_p26, List.forall_mem_cons.mpr ⟨lw_p27, List.forall_mem_cons.mpr ⟨lw_p28, List.forall_mem_cons.mpr ⟨lw_p29, List.forall_mem_cons.mpr ⟨lw_p30, List.forall_mem_cons.mpr ⟨lw_p31, fun _ h => absurd h List.not_mem_nil⟩⟩⟩⟩⟩⟩⟩⟩⟩⟩⟩⟩⟩⟩⟩⟩
theorem lw_p32 : lw_okq (⟨"HoursByPost", "hoursLeftFor", "([II)I"⟩, 13) := ⟨⟨by decide +kernel, by decide +kernel⟩, List.mem_of_getElem? (i := 13) (by decide +kernel), List.mem_of_getElem? (i := 748) (by decide +kernel), List.mem_of_getElem? (i := 749) (by decide +kernel)⟩
theorem lw_p33 : lw_okq (⟨"HoursByPost", "liveByLot", "(I)V"⟩, 13) := ⟨⟨by decide +kernel, by decide +kernel⟩, List.mem_of_getElem? (i := 13) (by decide +kernel), List.mem_of_getElem? (i := 781) (by decide +kernel), List.mem_of_getElem? (i := 782) (by decide +kernel)⟩
theorem lw_p34 : lw_okq (⟨"HoursByPost", "countOf", "(I)I"⟩, 13) := ⟨⟨by decide +kernel, by decide +kernel⟩, List.mem_of_getElem? (i := 13) (by decide +kernel), List.mem_of_getElem? (i := 804) (by decide +kernel), List.mem_of_getElem? (i := 805) (by decide +kernel)⟩
theorem lw_p35 : lw_okq (⟨"HoursByPost", "keptHouses", "()I"⟩, 13) := ⟨⟨by decide +kernel, by decide +kernel⟩, List.mem_of_getElem? (i := 13) (by decide +kernel), List.mem_of_getElem? (i := 817) (by decide +kernel), List.mem_of_getElem? (i := 818) (by decide +kernel)⟩
theorem lw_p36 : lw_okq (⟨"HoursByPostModel", "newRoutes", "()V"⟩, 33) := ⟨⟨by decide +kernel, by decide +kernel⟩, List.mem_of_getElem? (i := 840) (by decide +kernel), List.mem_of_getElem? (i := 846) (by decide +kernel), List.mem_of_getElem? (i := 847) (by decide +kernel)⟩
theorem lw_p37 : lw_okq (⟨"HoursByPostModel", "find", "(I)I"⟩, 33) := ⟨⟨by decide +kernel, by decide +kernel⟩, List.mem_of_getElem? (i := 840) (by decide +kernel), List.mem_of_getElem? (i := 961) (by decide +kernel), List.mem_of_getElem? (i := 962) (by decide +kernel)⟩
theorem lw_p38 : lw_okq (⟨"HoursByPostModel", "lacksPlace", "(II)I"⟩, 33) := ⟨⟨by decide +kernel, by decide +kernel⟩, List.mem_of_getElem? (i := 840) (by decide +kernel), List.mem_of_getElem? (i := 969) (by decide +kernel), List.mem_of_getElem? (i := 970) (by decide +kernel)⟩
theorem lw_p39 : lw_okq (⟨"HoursByPostModel", "answer", "(II)I"⟩, 33) := ⟨⟨by decide +kernel, by decide +kernel⟩, List.mem_of_getElem? (i := 840) (by decide +kernel), List.mem_of_getElem? (i := 973) (by decide +kernel), List.mem_of_getElem? (i := 974) (by decide +kernel)⟩
theorem lw_p40 : lw_okq (⟨"HoursByPostModel", "readHouse", "(I)Z"⟩, 33) := ⟨⟨by decide +kernel, by decide +kernel⟩, List.mem_of_getElem? (i := 840) (by decide +kernel), List.mem_of_getElem? (i := 1009) (by decide +kernel), List.mem_of_getElem? (i := 1010) (by decide +kernel)⟩
theorem lw_p41 : lw_okq (⟨"HoursByPostModel", "skipBlanks", "(I)V"⟩, 33) := ⟨⟨by decide +kernel, by decide +kernel⟩, List.mem_of_getElem? (i := 840) (by decide +kernel), List.mem_of_getElem? (i := 1013) (by decide +kernel), List.mem_of_getElem? (i := 1014) (by decide +kernel)⟩
theorem lw_p42 : lw_okq (⟨"HoursByPostModel", "isEnd", "(I)Z"⟩, 33) := ⟨⟨by decide +kernel, by decide +kernel⟩, List.mem_of_getElem? (i := 840) (by decide +kernel), List.mem_of_getElem? (i := 1017) (by decide +kernel), List.mem_of_getElem? (i := 1018) (by decide +kernel)⟩
theorem lw_p43 : lw_okq (⟨"HoursByPostModel", "byteAt", "(I)I"⟩, 33) := ⟨⟨by decide +kernel, by decide +kernel⟩, List.mem_of_getElem? (i := 840) (by decide +kernel), List.mem_of_getElem? (i := 1021) (by decide +kernel), List.mem_of_getElem? (i := 1022) (by decide +kernel)⟩
theorem lw_p44 : lw_okq (⟨"HoursByPostModel", "readDeed", "(II)Z"⟩, 33) := ⟨⟨by decide +kernel, by decide +kernel⟩, List.mem_of_getElem? (i := 840) (by decide +kernel), List.mem_of_getElem? (i := 1028) (by decide +kernel), List.mem_of_getElem? (i := 1029) (by decide +kernel)⟩
theorem lw_p45 : lw_okq (⟨"HoursByPostModel", "sign", "(III)I"⟩, 33) := ⟨⟨by decide +kernel, by decide +kernel⟩, List.mem_of_getElem? (i := 840) (by decide +kernel), List.mem_of_getElem? (i := 1032) (by decide +kernel), List.mem_of_getElem? (i := 1033) (by decide +kernel)⟩
theorem lw_p46 : lw_okq (⟨"HoursByPostModel", "readHour", "(I)Z"⟩, 33) := ⟨⟨by decide +kernel, by decide +kernel⟩, List.mem_of_getElem? (i := 840) (by decide +kernel), List.mem_of_getElem? (i := 1039) (by decide +kernel), List.mem_of_getElem? (i := 1040) (by decide +kernel)⟩
theorem lw_p47 : lw_okq (⟨"HoursByPostModel", "isDeed", "(I)Z"⟩, 33) := ⟨⟨by decide +kernel, by decide +kernel⟩, List.mem_of_getElem? (i := 840) (by decide +kernel), List.mem_of_getElem? (i := 1051) (by decide +kernel), List.mem_of_getElem? (i := 1052) (by decide +kernel)⟩
def lw_privs_3 : List (MethodName × Nat) := [(⟨"HoursByPost", "hoursLeftFor", "([II)I"⟩, 13), (⟨"HoursByPost", "liveByLot", "(I)V"⟩, 13), (⟨"HoursByPost", "countOf", "(I)I"⟩, 13), (⟨"HoursByPost", "keptHouses", "()I"⟩, 13), (⟨"HoursByPostModel", "newRoutes", "()V"⟩, 33), (⟨"HoursByPostModel", "find", "(I)I"⟩, 33), (⟨"HoursByPostModel", "lacksPlace", "(II)I"⟩, 33), (⟨"HoursByPostModel", "answer", "(II)I"⟩, 33), (⟨"HoursByPostModel", "readHouse", "(I)Z"⟩, 33), (⟨"HoursByPostModel", "skipBlanks", "(I)V"⟩, 33), (⟨"HoursByPostModel", "isEnd", "(I)Z"⟩, 33), (⟨"HoursByPostModel", "byteAt", "(I)I"⟩, 33), (⟨"HoursByPostModel", "readDeed", "(II)Z"⟩, 33), (⟨"HoursByPostModel", "sign", "(III)I"⟩, 33), (⟨"HoursByPostModel", "readHour", "(I)Z"⟩, 33), (⟨"HoursByPostModel", "isDeed", "(I)Z"⟩, 33)]
theorem lw_r3 : ∀ q ∈ lw_privs_3, lw_okq q := List.forall_mem_cons.mpr ⟨lw_p32, List.forall_mem_cons.mpr ⟨lw_p33, List.forall_mem_cons.mpr ⟨lw_p34, List.forall_mem_cons.mpr ⟨lw_p35, List.forall_mem_cons.mpr ⟨lw_p36, List.forall_mem_cons.mpr ⟨lw_p37, List.forall_mem_cons.mpr ⟨lw_p38, List.forall_mem_cons.mpr ⟨lw_p39, List.forall_mem_cons.mpr ⟨lw_p40, List.forall_mem_cons.mpr ⟨lw_p41, List.forall_mem_cons.mpr ⟨lw_p42, List.forall_mem_cons.mpr ⟨lw_p43, List.forall_mem_cons.mpr ⟨lw_p44, List.forall_mem_cons.mpr ⟨lw_p45, List.forall_mem_cons.mpr ⟨lw_p46, List.forall_mem_cons.mpr ⟨lw_p47, fun _ h => absurd h List.not_mem_nil⟩⟩⟩⟩⟩⟩⟩⟩⟩⟩⟩⟩⟩⟩⟩⟩
theorem lw_p48 : lw_okq (⟨"HoursByPostModel", "deedOf", "(II)I"⟩, 33) := ⟨⟨by decide +kernel, by decide +kernel⟩, List.mem_of_getElem? (i := 840) (by decide +kernel), List.mem_of_getElem? (i := 1056) (by decide +kernel), List.mem_of_getElem? (i := 1057) (by decide +kernel)⟩
theorem lw_p49 : lw_okq (⟨"HoursByPostModel", "allNeeds", "(I)I"⟩, 33) := ⟨⟨by decide +kernel, by decide +kernel⟩, List.mem_of_getElem? (i := 840) (by decide +kernel), List.mem_of_getElem? (i := 1060) (by decide +kernel), List.mem_of_getElem? (i := 1061) (by decide +kernel)⟩
theorem lw_p50 : lw_okq (⟨"HoursByPostModel", "isHour", "(I)Z"⟩, 33) := ⟨⟨by decide +kernel, by decide +kernel⟩, List.mem_of_getElem? (i := 840) (by decide +kernel), List.mem_of_getElem? (i := 1068) (by decide +kernel), List.mem_of_getElem? (i := 1069) (by decide +kernel)⟩
theorem lw_p51 : lw_okq (⟨"HoursByPostModel", "hourOf", "(II)I"⟩, 33) := ⟨⟨by decide +kernel, by decide +kernel⟩, List.mem_of_getElem? (i := 840) (by decide +kernel), List.mem_of_getElem? (i := 1072) (by decide +kernel), List.mem_of_getElem? (i := 1073) (by decide +kernel)⟩
theorem lw_p52 : lw_okq (⟨"HoursByPostModel", "isNight", "(I)Z"⟩, 33) := ⟨⟨by decide +kernel, by decide +kernel⟩, List.mem_of_getElem? (i := 840) (by decide +kernel), List.mem_of_getElem? (i := 1076) (by decide +kernel), List.mem_of_getElem? (i := 1077) (by decide +kernel)⟩
theorem lw_p53 : lw_okq (⟨"HoursByPostModel", "comes", "(I)I"⟩, 33) := ⟨⟨by decide +kernel, by decide +kernel⟩, List.mem_of_getElem? (i := 840) (by decide +kernel), List.mem_of_getElem? (i := 1082) (by decide +kernel), List.mem_of_getElem? (i := 1083) (by decide +kernel)⟩
theorem lw_p54 : lw_okq (⟨"HoursByPostModel", "whereIs", "(I)I"⟩, 33) := ⟨⟨by decide +kernel, by decide +kernel⟩, List.mem_of_getElem? (i := 840) (by decide +kernel), List.mem_of_getElem? (i := 1086) (by decide +kernel), List.mem_of_getElem? (i := 1087) (by decide +kernel)⟩
theorem lw_p55 : lw_okq (⟨"HoursByPostModel", "shelfOn", "(I)I"⟩, 33) := ⟨⟨by decide +kernel, by decide +kernel⟩, List.mem_of_getElem? (i := 840) (by decide +kernel), List.mem_of_getElem? (i := 1097) (by decide +kernel), List.mem_of_getElem? (i := 1098) (by decide +kernel)⟩
theorem lw_p56 : lw_okq (⟨"HoursByPostModel", "canNow", "(II)Z"⟩, 33) := ⟨⟨by decide +kernel, by decide +kernel⟩, List.mem_of_getElem? (i := 840) (by decide +kernel), List.mem_of_getElem? (i := 1101) (by decide +kernel), List.mem_of_getElem? (i := 1102) (by decide +kernel)⟩
theorem lw_p57 : lw_okq (⟨"HoursByPostModel", "canBe", "(IIII)Z"⟩, 33) := ⟨⟨by decide +kernel, by decide +kernel⟩, List.mem_of_getElem? (i := 840) (by decide +kernel), List.mem_of_getElem? (i := 1105) (by decide +kernel), List.mem_of_getElem? (i := 1106) (by decide +kernel)⟩
theorem lw_p58 : lw_okq (⟨"HoursByPostModel", "isLight", "(II)Z"⟩, 33) := ⟨⟨by decide +kernel, by decide +kernel⟩, List.mem_of_getElem? (i := 840) (by decide +kernel), List.mem_of_getElem? (i := 1109) (by decide +kernel), List.mem_of_getElem? (i := 1110) (by decide +kernel)⟩
theorem lw_p59 : lw_okq (⟨"HoursByPostModel", "isAsKind", "(IIII)Z"⟩, 33) := ⟨⟨by decide +kernel, by decide +kernel⟩, List.mem_of_getElem? (i := 840) (by decide +kernel), List.mem_of_getElem? (i := 1113) (by decide +kernel), List.mem_of_getElem? (i := 1114) (by decide +kernel)⟩
theorem lw_p60 : lw_okq (⟨"HoursByPostModel", "note", "()V"⟩, 33) := ⟨⟨by decide +kernel, by decide +kernel⟩, List.mem_of_getElem? (i := 840) (by decide +kernel), List.mem_of_getElem? (i := 1131) (by decide +kernel), List.mem_of_getElem? (i := 1132) (by decide +kernel)⟩
theorem lw_p61 : lw_okq (⟨"HoursByPostModel", "isOnShelf", "(I)Z"⟩, 33) := ⟨⟨by decide +kernel, by decide +kernel⟩, List.mem_of_getElem? (i := 840) (by decide +kernel), List.mem_of_getElem? (i := 1139) (by decide +kernel), List.mem_of_getElem? (i := 1140) (by decide +kernel)⟩
theorem lw_p62 : lw_okq (⟨"HoursByPostModel", "openNow", "(II)V"⟩, 33) := ⟨⟨by decide +kernel, by decide +kernel⟩, List.mem_of_getElem? (i := 840) (by decide +kernel), List.mem_of_getElem? (i := 1143) (by decide +kernel), List.mem_of_getElem? (i := 1144) (by decide +kernel)⟩
theorem lw_p63 : lw_okq (⟨"HoursByPostModel", "carry", "([II[III)V"⟩, 33) := ⟨⟨by decide +kernel, by decide +kernel⟩, List.mem_of_getElem? (i := 840) (by decide +kernel), List.mem_of_getElem? (i := 1163) (by decide +kernel), List.mem_of_getElem? (i := 1164) (by decide +kernel)⟩
def lw_privs_4 : List (MethodName × Nat) := [(⟨"HoursByPostModel", "deedOf", "(II)I"⟩, 33), (⟨"HoursByPostModel", "allNeeds", "(I)I"⟩, 33), (⟨"HoursByPostModel", "isHour", "(I)Z"⟩, 33), (⟨"HoursByPostModel", "hourOf", "(II)I"⟩, 33), (⟨"HoursByPostModel", "isNight", "(I)Z"⟩, 33), (⟨"HoursByPostModel", "comes", "(I)I"⟩, 33), (⟨"HoursByPostModel", "whereIs", "(I)I"⟩, 33), (⟨"HoursByPostModel", "shelfOn", "(I)I"⟩, 33), (⟨"HoursByPostModel", "canNow", "(II)Z"⟩, 33), (⟨"HoursByPostModel", "canBe", "(IIII)Z"⟩, 33), (⟨"HoursByPostModel", "isLight", "(II)Z"⟩, 33), (⟨"HoursByPostModel", "isAsKind", "(IIII)Z"⟩, 33), (⟨"HoursByPostModel", "note", "()V"⟩, 33), (⟨"HoursByPostModel", "isOnShelf", "(I)Z"⟩, 33), (⟨"HoursByPostModel", "openNow", "(II)V"⟩, 33), (⟨"HoursByPostModel", "carry", "([II[III)V"⟩, 33)]
theorem lw_r4 : ∀ q ∈ lw_privs_4, lw_okq q := List.forall_mem_cons.mpr ⟨lw_p48, List.forall_mem_cons.mpr ⟨lw_p49, List.forall_mem_cons.mpr ⟨lw_p50, List.forall_mem_cons.mpr ⟨lw_p51, List.forall_mem_cons.mpr ⟨lw_p52, List.forall_mem_cons.mpr ⟨lw_p53, List.forall_mem_cons.mpr ⟨lw_p54, List.forall_mem_cons.mpr ⟨lw_p55, List.forall_mem_cons.mpr ⟨lw_p56, List.forall_mem_cons.mpr ⟨lw_p57, List.forall_mem_cons.mpr ⟨lw_p58, List.forall_mem_cons.mpr ⟨lw_p59, List.forall_mem_cons.mpr ⟨lw_p60, List.forall_mem_cons.mpr ⟨lw_p61, List.forall_mem_cons.mpr ⟨lw_p62, List.forall_mem_cons.mpr ⟨lw_p63, fun _ h => absurd h List.not_mem_nil⟩⟩⟩⟩⟩⟩⟩⟩⟩⟩⟩⟩⟩⟩⟩⟩
theorem lw_p64 : lw_okq (⟨"HoursByPostModel", "lacksRow", "(I)I"⟩, 33) := ⟨⟨by decide +kernel, by decide +kernel⟩, List.mem_of_getElem? (i := 840) (by decide +kernel), List.mem_of_getElem? (i := 1191) (by decide +kernel), List.mem_of_getElem? (i := 1192) (by decide +kernel)⟩
theorem lw_p65 : lw_okq (⟨"HoursByPostModel", "reach", "(I)V"⟩, 33) := ⟨⟨by decide +kernel, by decide +kernel⟩, List.mem_of_getElem? (i := 840) (by decide +kernel), List.mem_of_getElem? (i := 1199) (by decide +kernel), List.mem_of_getElem? (i := 1200) (by decide +kernel)⟩
theorem lw_p66 : lw_okq (⟨"HoursByPostModel", "begin", "()I"⟩, 33) := ⟨⟨by decide +kernel, by decide +kernel⟩, List.mem_of_getElem? (i := 840) (by decide +kernel), List.mem_of_getElem? (i := 1203) (by decide +kernel), List.mem_of_getElem? (i := 1204) (by decide +kernel)⟩
theorem lw_p67 : lw_okq (⟨"HoursByPostModel", "leads", "(IIII)Z"⟩, 33) := ⟨⟨by decide +kernel, by decide +kernel⟩, List.mem_of_getElem? (i := 840) (by decide +kernel), List.mem_of_getElem? (i := 1210) (by decide +kernel), List.mem_of_getElem? (i := 1211) (by decide +kernel)⟩
theorem lw_p68 : lw_okq (⟨"HoursByPostModel", "behind", "(III)I"⟩, 33) := ⟨⟨by decide +kernel, by decide +kernel⟩, List.mem_of_getElem? (i := 840) (by decide +kernel), List.mem_of_getElem? (i := 1214) (by decide +kernel), List.mem_of_getElem? (i := 1215) (by decide +kernel)⟩
theorem lw_p69 : lw_okq (⟨"HoursByPostModel", "findMosts", "(I)V"⟩, 33) := ⟨⟨by decide +kernel, by decide +kernel⟩, List.mem_of_getElem? (i := 840) (by decide +kernel), List.mem_of_getElem? (i := 1218) (by decide +kernel), List.mem_of_getElem? (i := 1219) (by decide +kernel)⟩
theorem lw_p70 : lw_okq (⟨"HoursByPostModel", "mostOf", "(I)I"⟩, 33) := ⟨⟨by decide +kernel, by decide +kernel⟩, List.mem_of_getElem? (i := 840) (by decide +kernel), List.mem_of_getElem? (i := 1222) (by decide +kernel), List.mem_of_getElem? (i := 1223) (by decide +kernel)⟩
theorem lw_p71 : lw_okq (⟨"HoursByPostModel", "findNeed", "(II)V"⟩, 33) := ⟨⟨by decide +kernel, by decide +kernel⟩, List.mem_of_getElem? (i := 840) (by decide +kernel), List.mem_of_getElem? (i := 1234) (by decide +kernel), List.mem_of_getElem? (i := 1235) (by decide +kernel)⟩
theorem lw_p72 : lw_okq (⟨"HoursByPostModel", "lacksDiary", "(I)I"⟩, 33) := ⟨⟨by decide +kernel, by decide +kernel⟩, List.mem_of_getElem? (i := 840) (by decide +kernel), List.mem_of_getElem? (i := 1251) (by decide +kernel), List.mem_of_getElem? (i := 1252) (by decide +kernel)⟩
theorem lw_p73 : lw_okq (⟨"HoursByPostModel", "leftFor", "(II)I"⟩, 33) := ⟨⟨by decide +kernel, by decide +kernel⟩, List.mem_of_getElem? (i := 840) (by decide +kernel), List.mem_of_getElem? (i := 1256) (by decide +kernel), List.mem_of_getElem? (i := 1257) (by decide +kernel)⟩
theorem lw_p74 : lw_okq (⟨"HoursByPostModel", "hoursOf", "(I)I"⟩, 33) := ⟨⟨by decide +kernel, by decide +kernel⟩, List.mem_of_getElem? (i := 840) (by decide +kernel), List.mem_of_getElem? (i := 1260) (by decide +kernel), List.mem_of_getElem? (i := 1261) (by decide +kernel)⟩
theorem lw_p75 : lw_okq (⟨"HoursByPostModel", "mix", "(J)V"⟩, 33) := ⟨⟨by decide +kernel, by decide +kernel⟩, List.mem_of_getElem? (i := 840) (by decide +kernel), List.mem_of_getElem? (i := 1323) (by decide +kernel), List.mem_of_getElem? (i := 1324) (by decide +kernel)⟩
def lw_privs_5 : List (MethodName × Nat) := [(⟨"HoursByPostModel", "lacksRow", "(I)I"⟩, 33), (⟨"HoursByPostModel", "reach", "(I)V"⟩, 33), (⟨"HoursByPostModel", "begin", "()I"⟩, 33), (⟨"HoursByPostModel", "leads", "(IIII)Z"⟩, 33), (⟨"HoursByPostModel", "behind", "(III)I"⟩, 33), (⟨"HoursByPostModel", "findMosts", "(I)V"⟩, 33), (⟨"HoursByPostModel", "mostOf", "(I)I"⟩, 33), (⟨"HoursByPostModel", "findNeed", "(II)V"⟩, 33), (⟨"HoursByPostModel", "lacksDiary", "(I)I"⟩, 33), (⟨"HoursByPostModel", "leftFor", "(II)I"⟩, 33), (⟨"HoursByPostModel", "hoursOf", "(I)I"⟩, 33), (⟨"HoursByPostModel", "mix", "(J)V"⟩, 33)]
theorem lw_r5 : ∀ q ∈ lw_privs_5, lw_okq q := List.forall_mem_cons.mpr ⟨lw_p64, List.forall_mem_cons.mpr ⟨lw_p65, List.forall_mem_cons.mpr ⟨lw_p66, List.forall_mem_cons.mpr ⟨lw_p67, List.forall_mem_cons.mpr ⟨lw_p68, List.forall_mem_cons.mpr ⟨lw_p69, List.forall_mem_cons.mpr ⟨lw_p70, List.forall_mem_cons.mpr ⟨lw_p71, List.forall_mem_cons.mpr ⟨lw_p72, List.forall_mem_cons.mpr ⟨lw_p73, List.forall_mem_cons.mpr ⟨lw_p74, List.forall_mem_cons.mpr ⟨lw_p75, fun _ h => absurd h List.not_mem_nil⟩⟩⟩⟩⟩⟩⟩⟩⟩⟩⟩⟩
def lw_privs : List (MethodName × Nat) := lw_privs_1 ++ (lw_privs_2 ++ (lw_privs_3 ++ (lw_privs_4 ++ (lw_privs_5))))
def lw_tbl : List Cond := k2_sels lw_privs ++ tables_1
theorem lw_privs_ok : ∀ q ∈ lw_privs, lw_okq q := by
  show ∀ q ∈ lw_privs_1 ++ (lw_privs_2 ++ (lw_privs_3 ++ (lw_privs_4 ++ (lw_privs_5)))), lw_okq q
  exact List.forall_mem_append.mpr ⟨lw_r1, List.forall_mem_append.mpr ⟨lw_r2, List.forall_mem_append.mpr ⟨lw_r3, List.forall_mem_append.mpr ⟨lw_r4, lw_r5⟩⟩⟩⟩
end
section
def RX0 : String := "HoursByPost$Course"
def TX0 : u_T := fun k => match k with
  | 0 => ("HoursByPost$Course", "plan", "LHoursByPost$Plan;", true)
  | 1 => ("HoursByPost$Course", "routeDays", "[I", true)
  | 2 => ("HoursByPost$Course", "stepKinds", "[I", true)
  | 3 => ("HoursByPost$Course", "stepHours", "[I", true)
  | 4 => ("HoursByPost$Course", "stepDeeds", "[I", true)
  | 5 => ("HoursByPost$Course", "deedIn", "[I", true)
  | 6 => ("HoursByPost$Course", "steps", "I", false)
  | 7 => ("HoursByPost$Course", "today", "I", false)
  | 8 => ("HoursByPost$Course", "opened", "I", false)
  | 9 => ("HoursByPost$Course", "sentBack", "I", false)
  | 10 => ("HoursByPost$Course", "done", "I", false)
  | _ => ("HoursByPost$Course", "sinceMeal", "I", false)
def tyX0 : Nat → FieldType := fun k => match k with
  | 0 => .object "HoursByPost$Plan"
  | 1 => .array .int
  | 2 => .array .int
  | 3 => .array .int
  | 4 => .array .int
  | 5 => .array .int
  | 6 => .int
  | 7 => .int
  | 8 => .int
  | 9 => .int
  | 10 => .int
  | _ => .int
abbrev wsX00 : List Cond := u_ws RX0 TX0 12
theorem nmX0 : ∀ a, a < 12 → ∀ b, b < 12 → a ≠ b → (TX0 a).2.1 ≠ (TX0 b).2.1 := by decide +kernel
theorem tyX0_ok : ∀ k, k < 12 → parseFieldDescriptor (TX0 k).2.2.1 = some (tyX0 k) := by decide +kernel
abbrev cX0_init : ByteArray := prog_2_method_1_code
def yX0_init : MethodName := ⟨RX0, "<init>", "(LHoursByPost$Plan;)V"⟩
abbrev cX0_begin : ByteArray := prog_2_method_2_code
def yX0_begin : MethodName := ⟨RX0, "begin", "()V"⟩
abbrev cX0_rewind : ByteArray := prog_2_method_3_code
def yX0_rewind : MethodName := ⟨RX0, "rewind", "()V"⟩
abbrev cX0_become : ByteArray := prog_2_method_4_code
def yX0_become : MethodName := ⟨RX0, "become", "(LHoursByPost$Course;)V"⟩
abbrev cX0_isFull : ByteArray := prog_2_method_5_code
def yX0_isFull : MethodName := ⟨RX0, "isFull", "()Z"⟩
abbrev cX0_take : ByteArray := prog_2_method_6_code
def yX0_take : MethodName := ⟨RX0, "take", "(III)V"⟩
abbrev cX0_live : ByteArray := prog_2_method_7_code
def yX0_live : MethodName := ⟨RX0, "live", "(II)V"⟩
abbrev cX0_goBackTo : ByteArray := prog_2_method_8_code
def yX0_goBackTo : MethodName := ⟨RX0, "goBackTo", "(I)I"⟩
abbrev cX0_comingDay : ByteArray := prog_2_method_9_code
def yX0_comingDay : MethodName := ⟨RX0, "comingDay", "(I)I"⟩
abbrev cX0_comeBits : ByteArray := prog_2_method_10_code
def yX0_comeBits : MethodName := ⟨RX0, "comeBits", "(I)I"⟩
abbrev cX0_shelfBits : ByteArray := prog_2_method_11_code
def yX0_shelfBits : MethodName := ⟨RX0, "shelfBits", "()I"⟩
abbrev cX0_unopenedBits : ByteArray := prog_2_method_12_code
def yX0_unopenedBits : MethodName := ⟨RX0, "unopenedBits", "()I"⟩
abbrev cX0_dayOfAll : ByteArray := prog_2_method_13_code
def yX0_dayOfAll : MethodName := ⟨RX0, "dayOfAll", "(I)I"⟩
abbrev cX0_whereIs : ByteArray := prog_2_method_14_code
def yX0_whereIs : MethodName := ⟨RX0, "whereIs", "(I)I"⟩
abbrev cX0_hindrance : ByteArray := prog_2_method_15_code
def yX0_hindrance : MethodName := ⟨RX0, "hindrance", "(II)I"⟩
abbrev cX0_deedsFor : ByteArray := prog_2_method_16_code
def yX0_deedsFor : MethodName := ⟨RX0, "deedsFor", "(I)I"⟩
def RX1 : String := "HoursByPost$Orders"
def TX1 : u_T := fun k => match k with
  | 0 => ("HoursByPost$Orders", "plan", "LHoursByPost$Plan;", true)
  | 1 => ("HoursByPost$Orders", "reached", "[J", true)
  | 2 => ("HoursByPost$Orders", "winning", "[J", true)
  | 3 => ("HoursByPost$Orders", "pool", "I", false)
  | 4 => ("HoursByPost$Orders", "hoursOpened", "I", false)
  | 5 => ("HoursByPost$Orders", "gap", "I", false)
  | _ => ("HoursByPost$Orders", "done", "I", false)
def tyX1 : Nat → FieldType := fun k => match k with
  | 0 => .object "HoursByPost$Plan"
  | 1 => .array .long
  | 2 => .array .long
  | 3 => .int
  | 4 => .int
  | 5 => .int
  | _ => .int
abbrev wsX10 : List Cond := u_ws RX1 TX1 7
theorem nmX1 : ∀ a, a < 7 → ∀ b, b < 7 → a ≠ b → (TX1 a).2.1 ≠ (TX1 b).2.1 := by decide +kernel
theorem tyX1_ok : ∀ k, k < 7 → parseFieldDescriptor (TX1 k).2.2.1 = some (tyX1 k) := by decide +kernel
abbrev cX1_init : ByteArray := prog_3_method_1_code
def yX1_init : MethodName := ⟨RX1, "<init>", "(LHoursByPost$Plan;)V"⟩
abbrev cX1_start : ByteArray := prog_3_method_2_code
def yX1_start : MethodName := ⟨RX1, "start", "(LHoursByPost$Course;I)V"⟩
abbrev cX1_follow : ByteArray := prog_3_method_3_code
def yX1_follow : MethodName := ⟨RX1, "follow", "([II)I"⟩
abbrev cX1_fits : ByteArray := prog_3_method_4_code
def yX1_fits : MethodName := ⟨RX1, "fits", "(II)Z"⟩
abbrev cX1_live : ByteArray := prog_3_method_5_code
def yX1_live : MethodName := ⟨RX1, "live", "(II)V"⟩
abbrev cX1_gapBehind : ByteArray := prog_3_method_6_code
def yX1_gapBehind : MethodName := ⟨RX1, "gapBehind", "(II)I"⟩
abbrev cX1_deedBit : ByteArray := prog_3_method_7_code
def yX1_deedBit : MethodName := ⟨RX1, "deedBit", "(I)I"⟩
abbrev cX1_explore : ByteArray := prog_3_method_8_code
def yX1_explore : MethodName := ⟨RX1, "explore", "(LHoursByPost$Course;I)V"⟩
abbrev cX1_spread : ByteArray := prog_3_method_9_code
def yX1_spread : MethodName := ⟨RX1, "spread", "(II)V"⟩
abbrev cX1_pass : ByteArray := prog_3_method_10_code
def yX1_pass : MethodName := ⟨RX1, "pass", "(JIII)V"⟩
abbrev cX1_doneBy : ByteArray := prog_3_method_11_code
def yX1_doneBy : MethodName := ⟨RX1, "doneBy", "(I)J"⟩
abbrev cX1_does : ByteArray := prog_3_method_12_code
def yX1_does : MethodName := ⟨RX1, "does", "(II)Z"⟩
abbrev cX1_largestOf : ByteArray := prog_3_method_13_code
def yX1_largestOf : MethodName := ⟨RX1, "largestOf", "(J)I"⟩
abbrev cX1_mostDone : ByteArray := prog_3_method_14_code
def yX1_mostDone : MethodName := ⟨RX1, "mostDone", "(I)I"⟩
abbrev cX1_fewestHoursFor : ByteArray := prog_3_method_15_code
def yX1_fewestHoursFor : MethodName := ⟨RX1, "fewestHoursFor", "(I)I"⟩
abbrev cX1_fewestHoursTo : ByteArray := prog_3_method_16_code
def yX1_fewestHoursTo : MethodName := ⟨RX1, "fewestHoursTo", "(I)I"⟩
abbrev cX1_setsEnoughFor : ByteArray := prog_3_method_17_code
def yX1_setsEnoughFor : MethodName := ⟨RX1, "setsEnoughFor", "(I)I"⟩
abbrev cX1_writeFirst : ByteArray := prog_3_method_18_code
def yX1_writeFirst : MethodName := ⟨RX1, "writeFirst", "(II[I)V"⟩
abbrev cX1_writeFirstPair : ByteArray := prog_3_method_19_code
def yX1_writeFirstPair : MethodName := ⟨RX1, "writeFirstPair", "(I[I)V"⟩
abbrev cX1_isWinning : ByteArray := prog_3_method_20_code
def yX1_isWinning : MethodName := ⟨RX1, "isWinning", "(II)Z"⟩
abbrev cX1_findWinning : ByteArray := prog_3_method_21_code
def yX1_findWinning : MethodName := ⟨RX1, "findWinning", "(II)V"⟩
abbrev cX1_winningAhead : ByteArray := prog_3_method_22_code
def yX1_winningAhead : MethodName := ⟨RX1, "winningAhead", "(II)J"⟩
abbrev cX1_winningBy : ByteArray := prog_3_method_23_code
def yX1_winningBy : MethodName := ⟨RX1, "winningBy", "(III)J"⟩
def RX2 : String := "HoursByPost$Plan"
def TX2 : u_T := fun k => match k with
  | 0 => ("HoursByPost$Plan", "deeds", "I", false)
  | 1 => ("HoursByPost$Plan", "hours", "I", false)
  | 2 => ("HoursByPost$Plan", "kinds", "[I", true)
  | 3 => ("HoursByPost$Plan", "lights", "[I", true)
  | 4 => ("HoursByPost$Plan", "needs", "[I", true)
  | 5 => ("HoursByPost$Plan", "needsInTheEnd", "[I", true)
  | 6 => ("HoursByPost$Plan", "times", "[I", true)
  | 7 => ("HoursByPost$Plan", "sendingDays", "[I", true)
  | 8 => ("HoursByPost$Plan", "routes", "[I", true)
  | 9 => ("HoursByPost$Plan", "readyBehind", "[J", true)
  | _ => ("HoursByPost$Plan", "suitedHours", "[I", true)
def tyX2 : Nat → FieldType := fun k => match k with
  | 0 => .int
  | 1 => .int
  | 2 => .array .int
  | 3 => .array .int
  | 4 => .array .int
  | 5 => .array .int
  | 6 => .array .int
  | 7 => .array .int
  | 8 => .array .int
  | 9 => .array .long
  | _ => .array .int
abbrev wsX20 : List Cond := u_ws RX2 TX2 11
theorem nmX2 : ∀ a, a < 11 → ∀ b, b < 11 → a ≠ b → (TX2 a).2.1 ≠ (TX2 b).2.1 := by decide +kernel
theorem tyX2_ok : ∀ k, k < 11 → parseFieldDescriptor (TX2 k).2.2.1 = some (tyX2 k) := by decide +kernel
abbrev cX2_init : ByteArray := prog_4_method_1_code
def yX2_init : MethodName := ⟨RX2, "<init>", "()V"⟩
abbrev cX2_clear : ByteArray := prog_4_method_2_code
def yX2_clear : MethodName := ⟨RX2, "clear", "()V"⟩
abbrev cX2_become : ByteArray := prog_4_method_3_code
def yX2_become : MethodName := ⟨RX2, "become", "(LHoursByPost$Plan;)V"⟩
abbrev cX2_addDeed : ByteArray := prog_4_method_4_code
def yX2_addDeed : MethodName := ⟨RX2, "addDeed", "(III)V"⟩
abbrev cX2_addHour : ByteArray := prog_4_method_5_code
def yX2_addHour : MethodName := ⟨RX2, "addHour", "(III)V"⟩
abbrev cX2_setsReadyFor : ByteArray := prog_4_method_6_code
def yX2_setsReadyFor : MethodName := ⟨RX2, "setsReadyFor", "(I)J"⟩
abbrev cX2_hoursSuiting : ByteArray := prog_4_method_7_code
def yX2_hoursSuiting : MethodName := ⟨RX2, "hoursSuiting", "(I)I"⟩
abbrev cX2_hasDeed : ByteArray := prog_4_method_8_code
def yX2_hasDeed : MethodName := ⟨RX2, "hasDeed", "(I)Z"⟩
abbrev cX2_hasHour : ByteArray := prog_4_method_9_code
def yX2_hasHour : MethodName := ⟨RX2, "hasHour", "(I)Z"⟩
abbrev cX2_isNight : ByteArray := prog_4_method_10_code
def yX2_isNight : MethodName := ⟨RX2, "isNight", "(I)Z"⟩
abbrev cX2_isOfKind : ByteArray := prog_4_method_11_code
def yX2_isOfKind : MethodName := ⟨RX2, "isOfKind", "(II)Z"⟩
abbrev cX2_hasLight : ByteArray := prog_4_method_12_code
def yX2_hasLight : MethodName := ⟨RX2, "hasLight", "(II)Z"⟩
abbrev cX2_isTimeOf : ByteArray := prog_4_method_13_code
def yX2_isTimeOf : MethodName := ⟨RX2, "isTimeOf", "(II)Z"⟩
abbrev cX2_isHungry : ByteArray := prog_4_method_14_code
def yX2_isHungry : MethodName := ⟨RX2, "isHungry", "(II)Z"⟩
abbrev cX2_hasCompany : ByteArray := prog_4_method_15_code
def yX2_hasCompany : MethodName := ⟨RX2, "hasCompany", "(II)Z"⟩
abbrev cX2_company : ByteArray := prog_4_method_16_code
def yX2_company : MethodName := ⟨RX2, "company", "(II)I"⟩
abbrev cX2_hindrance : ByteArray := prog_4_method_17_code
def yX2_hindrance : MethodName := ⟨RX2, "hindrance", "(IIII)I"⟩
abbrev cX2_neededBy : ByteArray := prog_4_method_18_code
def yX2_neededBy : MethodName := ⟨RX2, "neededBy", "(I[I)I"⟩
abbrev cX2_hoursOfLightFor : ByteArray := prog_4_method_19_code
def yX2_hoursOfLightFor : MethodName := ⟨RX2, "hoursOfLightFor", "(I)I"⟩
abbrev cX2_hoursAt : ByteArray := prog_4_method_20_code
def yX2_hoursAt : MethodName := ⟨RX2, "hoursAt", "(I)I"⟩
abbrev cX2_meals : ByteArray := prog_4_method_21_code
def yX2_meals : MethodName := ⟨RX2, "meals", "()I"⟩
def RX3 : String := "HoursByPost$Reading"
def TX3 : u_T := fun k => match k with
  | 0 => ("HoursByPost$Reading", "draft", "LHoursByPost$Plan;", true)
  | 1 => ("HoursByPost$Reading", "signs", "[I", false)
  | 2 => ("HoursByPost$Reading", "end", "I", false)
  | _ => ("HoursByPost$Reading", "place", "I", false)
def tyX3 : Nat → FieldType := fun k => match k with
  | 0 => .object "HoursByPost$Plan"
  | 1 => .array .int
  | 2 => .int
  | _ => .int
abbrev wsX30 : List Cond := u_ws RX3 TX3 4
theorem nmX3 : ∀ a, a < 4 → ∀ b, b < 4 → a ≠ b → (TX3 a).2.1 ≠ (TX3 b).2.1 := by decide +kernel
theorem tyX3_ok : ∀ k, k < 4 → parseFieldDescriptor (TX3 k).2.2.1 = some (tyX3 k) := by decide +kernel
abbrev cX3_init : ByteArray := prog_5_method_1_code
def yX3_init : MethodName := ⟨RX3, "<init>", "()V"⟩
abbrev cX3_firstFault : ByteArray := prog_5_method_2_code
def yX3_firstFault : MethodName := ⟨RX3, "firstFault", "([II)I"⟩
abbrev cX3_skipBlanks : ByteArray := prog_5_method_3_code
def yX3_skipBlanks : MethodName := ⟨RX3, "skipBlanks", "()V"⟩
abbrev cX3_readItem : ByteArray := prog_5_method_4_code
def yX3_readItem : MethodName := ⟨RX3, "readItem", "()Z"⟩
abbrev cX3_readDeed : ByteArray := prog_5_method_5_code
def yX3_readDeed : MethodName := ⟨RX3, "readDeed", "()Z"⟩
abbrev cX3_readHour : ByteArray := prog_5_method_6_code
def yX3_readHour : MethodName := ⟨RX3, "readHour", "()Z"⟩
abbrev cX3_take : ByteArray := prog_5_method_7_code
def yX3_take : MethodName := ⟨RX3, "take", "(I)I"⟩
abbrev cX3_nextBetween : ByteArray := prog_5_method_8_code
def yX3_nextBetween : MethodName := ⟨RX3, "nextBetween", "(II)I"⟩
abbrev cX3_nextAmong : ByteArray := prog_5_method_9_code
def yX3_nextAmong : MethodName := ⟨RX3, "nextAmong", "([I)I"⟩
def RX4 : String := "HoursByPost$Rows"
def TX4 : u_T := fun k => match k with
  | 0 => ("HoursByPost$Rows", "sizes", "[I", true)
  | _ => ("HoursByPost$Rows", "cells", "[[I", true)
def tyX4 : Nat → FieldType := fun k => match k with
  | 0 => .array .int
  | _ => .array (.array .int)
abbrev wsX40 : List Cond := u_ws RX4 TX4 2
theorem nmX4 : ∀ a, a < 2 → ∀ b, b < 2 → a ≠ b → (TX4 a).2.1 ≠ (TX4 b).2.1 := by decide +kernel
theorem tyX4_ok : ∀ k, k < 2 → parseFieldDescriptor (TX4 k).2.2.1 = some (tyX4 k) := by decide +kernel
abbrev cX4_init : ByteArray := prog_6_method_1_code
def yX4_init : MethodName := ⟨RX4, "<init>", "(II)V"⟩
abbrev cX4_knows : ByteArray := prog_6_method_2_code
def yX4_knows : MethodName := ⟨RX4, "knows", "(I)Z"⟩
abbrev cX4_isThere : ByteArray := prog_6_method_3_code
def yX4_isThere : MethodName := ⟨RX4, "isThere", "(I)Z"⟩
abbrev cX4_reaches : ByteArray := prog_6_method_4_code
def yX4_reaches : MethodName := ⟨RX4, "reaches", "(III)Z"⟩
abbrev cX4_begin : ByteArray := prog_6_method_5_code
def yX4_begin : MethodName := ⟨RX4, "begin", "(III)V"⟩
abbrev cX4_exchange : ByteArray := prog_6_method_6_code
def yX4_exchange : MethodName := ⟨RX4, "exchange", "(III)I"⟩
abbrev cX4_sum : ByteArray := prog_6_method_7_code
def yX4_sum : MethodName := ⟨RX4, "sum", "(I)J"⟩
abbrev cX4_present : ByteArray := prog_6_method_8_code
def yX4_present : MethodName := ⟨RX4, "present", "()I"⟩
abbrev cX4_digestOnFrom : ByteArray := prog_6_method_9_code
def yX4_digestOnFrom : MethodName := ⟨RX4, "digestOnFrom", "(J)J"⟩
def RX5 : String := "HoursByPost"
def TX5 : u_T := fun k => match k with
  | 0 => ("HoursByPost", "rows", "LHoursByPost$Rows;", true)
  | 1 => ("HoursByPost", "texts", "LHoursByPost$Rows;", true)
  | 2 => ("HoursByPost", "reading", "LHoursByPost$Reading;", true)
  | 3 => ("HoursByPost", "plan", "LHoursByPost$Plan;", true)
  | 4 => ("HoursByPost", "course", "LHoursByPost$Course;", true)
  | 5 => ("HoursByPost", "kept", "[LHoursByPost$Course;", true)
  | 6 => ("HoursByPost", "isKept", "[Z", true)
  | 7 => ("HoursByPost", "orders", "LHoursByPost$Orders;", true)
  | 8 => ("HoursByPost", "findingCounts", "[I", true)
  | 9 => ("HoursByPost", "latestFinding", "I", false)
  | 10 => ("HoursByPost", "told", "I", false)
  | 11 => ("HoursByPost", "upperTold", "J", false)
  | _ => ("HoursByPost", "lowerTold", "J", false)
def tyX5 : Nat → FieldType := fun k => match k with
  | 0 => .object "HoursByPost$Rows"
  | 1 => .object "HoursByPost$Rows"
  | 2 => .object "HoursByPost$Reading"
  | 3 => .object "HoursByPost$Plan"
  | 4 => .object "HoursByPost$Course"
  | 5 => .array (.object "HoursByPost$Course")
  | 6 => .array .boolean
  | 7 => .object "HoursByPost$Orders"
  | 8 => .array .int
  | 9 => .int
  | 10 => .int
  | 11 => .long
  | _ => .long
abbrev wsX50 : List Cond := u_ws RX5 TX5 13
theorem nmX5 : ∀ a, a < 13 → ∀ b, b < 13 → a ≠ b → (TX5 a).2.1 ≠ (TX5 b).2.1 := by decide +kernel
theorem tyX5_ok : ∀ k, k < 13 → parseFieldDescriptor (TX5 k).2.2.1 = some (tyX5 k) := by decide +kernel
abbrev cX5_init : ByteArray := prog_1_method_1_code
def yX5_init : MethodName := ⟨RX5, "<init>", "()V"⟩
abbrev cX5_row : ByteArray := prog_1_method_2_code
def yX5_row : MethodName := ⟨RX5, "row", "(II)I"⟩
abbrev cX5_lay : ByteArray := prog_1_method_3_code
def yX5_lay : MethodName := ⟨RX5, "lay", "(III)I"⟩
abbrev cX5_at : ByteArray := prog_1_method_4_code
def yX5_at : MethodName := ⟨RX5, "at", "(II)I"⟩
abbrev cX5_tear : ByteArray := prog_1_method_5_code
def yX5_tear : MethodName := ⟨RX5, "tear", "(I)I"⟩
abbrev cX5_copy : ByteArray := prog_1_method_6_code
def yX5_copy : MethodName := ⟨RX5, "copy", "(IIIII)I"⟩
abbrev cX5_mean : ByteArray := prog_1_method_7_code
def yX5_mean : MethodName := ⟨RX5, "mean", "(I)I"⟩
abbrev cX5_text : ByteArray := prog_1_method_8_code
def yX5_text : MethodName := ⟨RX5, "text", "(II)I"⟩
abbrev cX5_put : ByteArray := prog_1_method_9_code
def yX5_put : MethodName := ⟨RX5, "put", "(III)I"⟩
abbrev cX5_fault : ByteArray := prog_1_method_10_code
def yX5_fault : MethodName := ⟨RX5, "fault", "(I)I"⟩
abbrev cX5_house : ByteArray := prog_1_method_11_code
def yX5_house : MethodName := ⟨RX5, "house", "(I)I"⟩
abbrev cX5_deed : ByteArray := prog_1_method_12_code
def yX5_deed : MethodName := ⟨RX5, "deed", "(II)I"⟩
abbrev cX5_hour : ByteArray := prog_1_method_13_code
def yX5_hour : MethodName := ⟨RX5, "hour", "(II)I"⟩
abbrev cX5_mark : ByteArray := prog_1_method_14_code
def yX5_mark : MethodName := ⟨RX5, "mark", "(II)I"⟩
abbrev cX5_route : ByteArray := prog_1_method_15_code
def yX5_route : MethodName := ⟨RX5, "route", "(II)I"⟩
abbrev cX5_day : ByteArray := prog_1_method_16_code
def yX5_day : MethodName := ⟨RX5, "day", "()I"⟩
abbrev cX5_open : ByteArray := prog_1_method_17_code
def yX5_open : MethodName := ⟨RX5, "open", "(II)I"⟩
abbrev cX5_send : ByteArray := prog_1_method_18_code
def yX5_send : MethodName := ⟨RX5, "send", "(I)I"⟩
abbrev cX5_undo : ByteArray := prog_1_method_19_code
def yX5_undo : MethodName := ⟨RX5, "undo", "(I)I"⟩
abbrev cX5_shelf : ByteArray := prog_1_method_20_code
def yX5_shelf : MethodName := ⟨RX5, "shelf", "()I"⟩
abbrev cX5_keep : ByteArray := prog_1_method_21_code
def yX5_keep : MethodName := ⟨RX5, "keep", "(I)I"⟩
abbrev cX5_on : ByteArray := prog_1_method_22_code
def yX5_on : MethodName := ⟨RX5, "on", "(I)I"⟩
abbrev cX5_can : ByteArray := prog_1_method_23_code
def yX5_can : MethodName := ⟨RX5, "can", "(I)I"⟩
abbrev cX5_why : ByteArray := prog_1_method_24_code
def yX5_why : MethodName := ⟨RX5, "why", "(II)I"⟩
abbrev cX5_opens : ByteArray := prog_1_method_25_code
def yX5_opens : MethodName := ⟨RX5, "opens", "(I)I"⟩
abbrev cX5_late : ByteArray := prog_1_method_26_code
def yX5_late : MethodName := ⟨RX5, "late", "()I"⟩
abbrev cX5_run : ByteArray := prog_1_method_27_code
def yX5_run : MethodName := ⟨RX5, "run", "(I)I"⟩
abbrev cX5_most : ByteArray := prog_1_method_28_code
def yX5_most : MethodName := ⟨RX5, "most", "()I"⟩
abbrev cX5_fewest : ByteArray := prog_1_method_29_code
def yX5_fewest : MethodName := ⟨RX5, "fewest", "(I)I"⟩
abbrev cX5_order : ByteArray := prog_1_method_30_code
def yX5_order : MethodName := ⟨RX5, "order", "(II)I"⟩
abbrev cX5_shut : ByteArray := prog_1_method_31_code
def yX5_shut : MethodName := ⟨RX5, "shut", "()I"⟩
abbrev cX5_waits : ByteArray := prog_1_method_32_code
def yX5_waits : MethodName := ⟨RX5, "waits", "(I)I"⟩
abbrev cX5_diary : ByteArray := prog_1_method_33_code
def yX5_diary : MethodName := ⟨RX5, "diary", "(I)I"⟩
abbrev cX5_forged : ByteArray := prog_1_method_34_code
def yX5_forged : MethodName := ⟨RX5, "forged", "(I)I"⟩
abbrev cX5_stolen : ByteArray := prog_1_method_35_code
def yX5_stolen : MethodName := ⟨RX5, "stolen", "(II)I"⟩
abbrev cX5_odds : ByteArray := prog_1_method_36_code
def yX5_odds : MethodName := ⟨RX5, "odds", "(I)I"⟩
abbrev cX5_lots : ByteArray := prog_1_method_37_code
def yX5_lots : MethodName := ⟨RX5, "lots", "(II)I"⟩
abbrev cX5_asked : ByteArray := prog_1_method_38_code
def yX5_asked : MethodName := ⟨RX5, "asked", "()I"⟩
abbrev cX5_upper : ByteArray := prog_1_method_39_code
def yX5_upper : MethodName := ⟨RX5, "upper", "()J"⟩
abbrev cX5_lower : ByteArray := prog_1_method_40_code
def yX5_lower : MethodName := ⟨RX5, "lower", "()J"⟩
abbrev cX5_count : ByteArray := prog_1_method_41_code
def yX5_count : MethodName := ⟨RX5, "count", "(I)I"⟩
abbrev cX5_finding : ByteArray := prog_1_method_42_code
def yX5_finding : MethodName := ⟨RX5, "finding", "()I"⟩
abbrev cX5_findings : ByteArray := prog_1_method_43_code
def yX5_findings : MethodName := ⟨RX5, "findings", "(I)I"⟩
abbrev cX5_digest : ByteArray := prog_1_method_44_code
def yX5_digest : MethodName := ⟨RX5, "digest", "()J"⟩
abbrev cX5_find : ByteArray := prog_1_method_45_code
def yX5_find : MethodName := ⟨RX5, "find", "(I)I"⟩
abbrev cX5_refusalOf : ByteArray := prog_1_method_46_code
def yX5_refusalOf : MethodName := ⟨RX5, "refusalOf", "(LHoursByPost$Rows;I)I"⟩
abbrev cX5_refusalInHouse : ByteArray := prog_1_method_47_code
def yX5_refusalInHouse : MethodName := ⟨RX5, "refusalInHouse", "(I)I"⟩
abbrev cX5_refusalOfPlace : ByteArray := prog_1_method_48_code
def yX5_refusalOfPlace : MethodName := ⟨RX5, "refusalOfPlace", "(LHoursByPost$Rows;II)I"⟩
abbrev cX5_tell : ByteArray := prog_1_method_49_code
def yX5_tell : MethodName := ⟨RX5, "tell", "(I)I"⟩
abbrev cX5_isIn : ByteArray := prog_1_method_50_code
def yX5_isIn : MethodName := ⟨RX5, "isIn", "(II)Z"⟩
abbrev cX5_firstOf : ByteArray := prog_1_method_51_code
def yX5_firstOf : MethodName := ⟨RX5, "firstOf", "(I)I"⟩
abbrev cX5_nthOf : ByteArray := prog_1_method_52_code
def yX5_nthOf : MethodName := ⟨RX5, "nthOf", "(II)I"⟩
abbrev cX5_deedFact : ByteArray := prog_1_method_53_code
def yX5_deedFact : MethodName := ⟨RX5, "deedFact", "(II)I"⟩
abbrev cX5_hourFact : ByteArray := prog_1_method_54_code
def yX5_hourFact : MethodName := ⟨RX5, "hourFact", "(II)I"⟩
abbrev cX5_hoursFor : ByteArray := prog_1_method_55_code
def yX5_hoursFor : MethodName := ⟨RX5, "hoursFor", "(I)I"⟩
abbrev cX5_areAllPairs : ByteArray := prog_1_method_56_code
def yX5_areAllPairs : MethodName := ⟨RX5, "areAllPairs", "([II)Z"⟩
abbrev cX5_diaryRefusal : ByteArray := prog_1_method_57_code
def yX5_diaryRefusal : MethodName := ⟨RX5, "diaryRefusal", "(I)I"⟩
abbrev cX5_hoursLeftFor : ByteArray := prog_1_method_58_code
def yX5_hoursLeftFor : MethodName := ⟨RX5, "hoursLeftFor", "([II)I"⟩
abbrev cX5_liveByLot : ByteArray := prog_1_method_59_code
def yX5_liveByLot : MethodName := ⟨RX5, "liveByLot", "(I)V"⟩
abbrev cX5_countOf : ByteArray := prog_1_method_60_code
def yX5_countOf : MethodName := ⟨RX5, "countOf", "(I)I"⟩
abbrev cX5_keptHouses : ByteArray := prog_1_method_61_code
def yX5_keptHouses : MethodName := ⟨RX5, "keptHouses", "()I"⟩
def RX6 : String := "HoursByPostModel"
def TX6 : u_T := fun k => match k with
  | 0 => ("HoursByPostModel", "rowSizes", "[I", true)
  | 1 => ("HoursByPostModel", "rows", "[I", true)
  | 2 => ("HoursByPostModel", "textSizes", "[I", true)
  | 3 => ("HoursByPostModel", "texts", "[I", true)
  | 4 => ("HoursByPostModel", "kinds", "[I", true)
  | 5 => ("HoursByPostModel", "lights", "[I", true)
  | 6 => ("HoursByPostModel", "needs", "[I", true)
  | 7 => ("HoursByPostModel", "deeds", "I", false)
  | 8 => ("HoursByPostModel", "clocks", "[I", true)
  | 9 => ("HoursByPostModel", "sents", "[I", true)
  | 10 => ("HoursByPostModel", "ways", "[I", true)
  | 11 => ("HoursByPostModel", "hours", "I", false)
  | 12 => ("HoursByPostModel", "routes", "[I", true)
  | 13 => ("HoursByPostModel", "st", "[I", true)
  | 14 => ("HoursByPostModel", "ahead", "[I", true)
  | 15 => ("HoursByPostModel", "steps", "I", false)
  | 16 => ("HoursByPostModel", "askedLast", "I", false)
  | 17 => ("HoursByPostModel", "above", "J", false)
  | 18 => ("HoursByPostModel", "below", "J", false)
  | 19 => ("HoursByPostModel", "found", "I", false)
  | 20 => ("HoursByPostModel", "finds", "[I", true)
  | 21 => ("HoursByPostModel", "moved", "[I", true)
  | 22 => ("HoursByPostModel", "place", "I", false)
  | 23 => ("HoursByPostModel", "readDeeds", "[I", true)
  | 24 => ("HoursByPostModel", "readMany", "I", false)
  | 25 => ("HoursByPostModel", "readHours", "[I", true)
  | 26 => ("HoursByPostModel", "readPost", "I", false)
  | 27 => ("HoursByPostModel", "isKept", "[Z", true)
  | 28 => ("HoursByPostModel", "kept", "[I", true)
  | 29 => ("HoursByPostModel", "reached", "[Z", true)
  | 30 => ("HoursByPostModel", "need", "[I", true)
  | 31 => ("HoursByPostModel", "mosts", "[I", true)
  | _ => ("HoursByPostModel", "sum", "J", false)
def tyX6 : Nat → FieldType := fun k => match k with
  | 0 => .array .int
  | 1 => .array .int
  | 2 => .array .int
  | 3 => .array .int
  | 4 => .array .int
  | 5 => .array .int
  | 6 => .array .int
  | 7 => .int
  | 8 => .array .int
  | 9 => .array .int
  | 10 => .array .int
  | 11 => .int
  | 12 => .array .int
  | 13 => .array .int
  | 14 => .array .int
  | 15 => .int
  | 16 => .int
  | 17 => .long
  | 18 => .long
  | 19 => .int
  | 20 => .array .int
  | 21 => .array .int
  | 22 => .int
  | 23 => .array .int
  | 24 => .int
  | 25 => .array .int
  | 26 => .int
  | 27 => .array .boolean
  | 28 => .array .int
  | 29 => .array .boolean
  | 30 => .array .int
  | 31 => .array .int
  | _ => .long
abbrev wsX60 : List Cond := u_ws RX6 TX6 33
theorem nmX6 : ∀ a, a < 33 → ∀ b, b < 33 → a ≠ b → (TX6 a).2.1 ≠ (TX6 b).2.1 := by decide +kernel
theorem tyX6_ok : ∀ k, k < 33 → parseFieldDescriptor (TX6 k).2.2.1 = some (tyX6 k) := by decide +kernel
abbrev cX6_init : ByteArray := prog_8_method_1_code
def yX6_init : MethodName := ⟨RX6, "<init>", "()V"⟩
abbrev cX6_newRoutes : ByteArray := prog_8_method_2_code
def yX6_newRoutes : MethodName := ⟨RX6, "newRoutes", "()V"⟩
abbrev cX6_in : ByteArray := prog_8_method_3_code
def yX6_in : MethodName := ⟨RX6, "in", "(JJJ)Z"⟩
abbrev cX6_has : ByteArray := prog_8_method_4_code
def yX6_has : MethodName := ⟨RX6, "has", "(II)Z"⟩
abbrev cX6_ones : ByteArray := prog_8_method_5_code
def yX6_ones : MethodName := ⟨RX6, "ones", "(I)I"⟩
abbrev cX6_find : ByteArray := prog_8_method_6_code
def yX6_find : MethodName := ⟨RX6, "find", "(I)I"⟩
abbrev cX6_answer : ByteArray := prog_8_method_7_code
def yX6_answer : MethodName := ⟨RX6, "answer", "(II)I"⟩
abbrev cX6_isRow : ByteArray := prog_8_method_8_code
def yX6_isRow : MethodName := ⟨RX6, "isRow", "(I)Z"⟩
abbrev cX6_isText : ByteArray := prog_8_method_9_code
def yX6_isText : MethodName := ⟨RX6, "isText", "(I)Z"⟩
abbrev cX6_row : ByteArray := prog_8_method_10_code
def yX6_row : MethodName := ⟨RX6, "row", "(II)I"⟩
abbrev cX6_lacksPlace : ByteArray := prog_8_method_11_code
def yX6_lacksPlace : MethodName := ⟨RX6, "lacksPlace", "(II)I"⟩
abbrev cX6_lay : ByteArray := prog_8_method_12_code
def yX6_lay : MethodName := ⟨RX6, "lay", "(III)I"⟩
abbrev cX6_at : ByteArray := prog_8_method_13_code
def yX6_at : MethodName := ⟨RX6, "at", "(II)I"⟩
abbrev cX6_tear : ByteArray := prog_8_method_14_code
def yX6_tear : MethodName := ⟨RX6, "tear", "(I)I"⟩
abbrev cX6_copy : ByteArray := prog_8_method_15_code
def yX6_copy : MethodName := ⟨RX6, "copy", "(IIIII)I"⟩
abbrev cX6_mean : ByteArray := prog_8_method_16_code
def yX6_mean : MethodName := ⟨RX6, "mean", "(I)I"⟩
abbrev cX6_text : ByteArray := prog_8_method_17_code
def yX6_text : MethodName := ⟨RX6, "text", "(II)I"⟩
abbrev cX6_put : ByteArray := prog_8_method_18_code
def yX6_put : MethodName := ⟨RX6, "put", "(III)I"⟩
abbrev cX6_isEnd : ByteArray := prog_8_method_19_code
def yX6_isEnd : MethodName := ⟨RX6, "isEnd", "(I)Z"⟩
abbrev cX6_byteAt : ByteArray := prog_8_method_20_code
def yX6_byteAt : MethodName := ⟨RX6, "byteAt", "(I)I"⟩
abbrev cX6_skipBlanks : ByteArray := prog_8_method_21_code
def yX6_skipBlanks : MethodName := ⟨RX6, "skipBlanks", "(I)V"⟩
abbrev cX6_kindBy : ByteArray := prog_8_method_22_code
def yX6_kindBy : MethodName := ⟨RX6, "kindBy", "(I)I"⟩
abbrev cX6_sign : ByteArray := prog_8_method_23_code
def yX6_sign : MethodName := ⟨RX6, "sign", "(III)I"⟩
abbrev cX6_readDeed : ByteArray := prog_8_method_24_code
def yX6_readDeed : MethodName := ⟨RX6, "readDeed", "(II)Z"⟩
abbrev cX6_readHour : ByteArray := prog_8_method_25_code
def yX6_readHour : MethodName := ⟨RX6, "readHour", "(I)Z"⟩
abbrev cX6_readHouse : ByteArray := prog_8_method_26_code
def yX6_readHouse : MethodName := ⟨RX6, "readHouse", "(I)Z"⟩
abbrev cX6_fault : ByteArray := prog_8_method_27_code
def yX6_fault : MethodName := ⟨RX6, "fault", "(I)I"⟩
abbrev cX6_house : ByteArray := prog_8_method_28_code
def yX6_house : MethodName := ⟨RX6, "house", "(I)I"⟩
abbrev cX6_isDeed : ByteArray := prog_8_method_29_code
def yX6_isDeed : MethodName := ⟨RX6, "isDeed", "(I)Z"⟩
abbrev cX6_isHour : ByteArray := prog_8_method_30_code
def yX6_isHour : MethodName := ⟨RX6, "isHour", "(I)Z"⟩
abbrev cX6_allNeeds : ByteArray := prog_8_method_31_code
def yX6_allNeeds : MethodName := ⟨RX6, "allNeeds", "(I)I"⟩
abbrev cX6_deedOf : ByteArray := prog_8_method_32_code
def yX6_deedOf : MethodName := ⟨RX6, "deedOf", "(II)I"⟩
abbrev cX6_deed : ByteArray := prog_8_method_33_code
def yX6_deed : MethodName := ⟨RX6, "deed", "(II)I"⟩
abbrev cX6_isNight : ByteArray := prog_8_method_34_code
def yX6_isNight : MethodName := ⟨RX6, "isNight", "(I)Z"⟩
abbrev cX6_comes : ByteArray := prog_8_method_35_code
def yX6_comes : MethodName := ⟨RX6, "comes", "(I)I"⟩
abbrev cX6_whereIs : ByteArray := prog_8_method_36_code
def yX6_whereIs : MethodName := ⟨RX6, "whereIs", "(I)I"⟩
abbrev cX6_hourOf : ByteArray := prog_8_method_37_code
def yX6_hourOf : MethodName := ⟨RX6, "hourOf", "(II)I"⟩
abbrev cX6_hour : ByteArray := prog_8_method_38_code
def yX6_hour : MethodName := ⟨RX6, "hour", "(II)I"⟩
abbrev cX6_isKind : ByteArray := prog_8_method_39_code
def yX6_isKind : MethodName := ⟨RX6, "isKind", "(II)Z"⟩
abbrev cX6_shelfOn : ByteArray := prog_8_method_40_code
def yX6_shelfOn : MethodName := ⟨RX6, "shelfOn", "(I)I"⟩
abbrev cX6_isLight : ByteArray := prog_8_method_41_code
def yX6_isLight : MethodName := ⟨RX6, "isLight", "(II)Z"⟩
abbrev cX6_isAsKind : ByteArray := prog_8_method_42_code
def yX6_isAsKind : MethodName := ⟨RX6, "isAsKind", "(IIII)Z"⟩
abbrev cX6_canBe : ByteArray := prog_8_method_43_code
def yX6_canBe : MethodName := ⟨RX6, "canBe", "(IIII)Z"⟩
abbrev cX6_canNow : ByteArray := prog_8_method_44_code
def yX6_canNow : MethodName := ⟨RX6, "canNow", "(II)Z"⟩
abbrev cX6_mark : ByteArray := prog_8_method_45_code
def yX6_mark : MethodName := ⟨RX6, "mark", "(II)I"⟩
abbrev cX6_route : ByteArray := prog_8_method_46_code
def yX6_route : MethodName := ⟨RX6, "route", "(II)I"⟩
abbrev cX6_note : ByteArray := prog_8_method_47_code
def yX6_note : MethodName := ⟨RX6, "note", "()V"⟩
abbrev cX6_day : ByteArray := prog_8_method_48_code
def yX6_day : MethodName := ⟨RX6, "day", "()I"⟩
abbrev cX6_isOnShelf : ByteArray := prog_8_method_49_code
def yX6_isOnShelf : MethodName := ⟨RX6, "isOnShelf", "(I)Z"⟩
abbrev cX6_openNow : ByteArray := prog_8_method_50_code
def yX6_openNow : MethodName := ⟨RX6, "openNow", "(II)V"⟩
abbrev cX6_open : ByteArray := prog_8_method_51_code
def yX6_open : MethodName := ⟨RX6, "open", "(II)I"⟩
abbrev cX6_send : ByteArray := prog_8_method_52_code
def yX6_send : MethodName := ⟨RX6, "send", "(I)I"⟩
abbrev cX6_undo : ByteArray := prog_8_method_53_code
def yX6_undo : MethodName := ⟨RX6, "undo", "(I)I"⟩
abbrev cX6_shelf : ByteArray := prog_8_method_54_code
def yX6_shelf : MethodName := ⟨RX6, "shelf", "()I"⟩
abbrev cX6_carry : ByteArray := prog_8_method_55_code
def yX6_carry : MethodName := ⟨RX6, "carry", "([II[III)V"⟩
abbrev cX6_keep : ByteArray := prog_8_method_56_code
def yX6_keep : MethodName := ⟨RX6, "keep", "(I)I"⟩
abbrev cX6_on : ByteArray := prog_8_method_57_code
def yX6_on : MethodName := ⟨RX6, "on", "(I)I"⟩
abbrev cX6_can : ByteArray := prog_8_method_58_code
def yX6_can : MethodName := ⟨RX6, "can", "(I)I"⟩
abbrev cX6_why : ByteArray := prog_8_method_59_code
def yX6_why : MethodName := ⟨RX6, "why", "(II)I"⟩
abbrev cX6_opens : ByteArray := prog_8_method_60_code
def yX6_opens : MethodName := ⟨RX6, "opens", "(I)I"⟩
abbrev cX6_late : ByteArray := prog_8_method_61_code
def yX6_late : MethodName := ⟨RX6, "late", "()I"⟩
abbrev cX6_lacksRow : ByteArray := prog_8_method_62_code
def yX6_lacksRow : MethodName := ⟨RX6, "lacksRow", "(I)I"⟩
abbrev cX6_run : ByteArray := prog_8_method_63_code
def yX6_run : MethodName := ⟨RX6, "run", "(I)I"⟩
abbrev cX6_caseOf : ByteArray := prog_8_method_64_code
def yX6_caseOf : MethodName := ⟨RX6, "caseOf", "(III)I"⟩
abbrev cX6_behind : ByteArray := prog_8_method_65_code
def yX6_behind : MethodName := ⟨RX6, "behind", "(III)I"⟩
abbrev cX6_leads : ByteArray := prog_8_method_66_code
def yX6_leads : MethodName := ⟨RX6, "leads", "(IIII)Z"⟩
abbrev cX6_begin : ByteArray := prog_8_method_67_code
def yX6_begin : MethodName := ⟨RX6, "begin", "()I"⟩
abbrev cX6_reach : ByteArray := prog_8_method_68_code
def yX6_reach : MethodName := ⟨RX6, "reach", "(I)V"⟩
abbrev cX6_findMosts : ByteArray := prog_8_method_69_code
def yX6_findMosts : MethodName := ⟨RX6, "findMosts", "(I)V"⟩
abbrev cX6_mostOf : ByteArray := prog_8_method_70_code
def yX6_mostOf : MethodName := ⟨RX6, "mostOf", "(I)I"⟩
abbrev cX6_most : ByteArray := prog_8_method_71_code
def yX6_most : MethodName := ⟨RX6, "most", "()I"⟩
abbrev cX6_fewest : ByteArray := prog_8_method_72_code
def yX6_fewest : MethodName := ⟨RX6, "fewest", "(I)I"⟩
abbrev cX6_findNeed : ByteArray := prog_8_method_73_code
def yX6_findNeed : MethodName := ⟨RX6, "findNeed", "(II)V"⟩
abbrev cX6_order : ByteArray := prog_8_method_74_code
def yX6_order : MethodName := ⟨RX6, "order", "(II)I"⟩
abbrev cX6_shut : ByteArray := prog_8_method_75_code
def yX6_shut : MethodName := ⟨RX6, "shut", "()I"⟩
abbrev cX6_waits : ByteArray := prog_8_method_76_code
def yX6_waits : MethodName := ⟨RX6, "waits", "(I)I"⟩
abbrev cX6_hoursOf : ByteArray := prog_8_method_77_code
def yX6_hoursOf : MethodName := ⟨RX6, "hoursOf", "(I)I"⟩
abbrev cX6_lacksDiary : ByteArray := prog_8_method_78_code
def yX6_lacksDiary : MethodName := ⟨RX6, "lacksDiary", "(I)I"⟩
abbrev cX6_leftFor : ByteArray := prog_8_method_79_code
def yX6_leftFor : MethodName := ⟨RX6, "leftFor", "(II)I"⟩
abbrev cX6_diary : ByteArray := prog_8_method_80_code
def yX6_diary : MethodName := ⟨RX6, "diary", "(I)I"⟩
abbrev cX6_forged : ByteArray := prog_8_method_81_code
def yX6_forged : MethodName := ⟨RX6, "forged", "(I)I"⟩
abbrev cX6_stolen : ByteArray := prog_8_method_82_code
def yX6_stolen : MethodName := ⟨RX6, "stolen", "(II)I"⟩
abbrev cX6_odds : ByteArray := prog_8_method_83_code
def yX6_odds : MethodName := ⟨RX6, "odds", "(I)I"⟩
abbrev cX6_oneOf : ByteArray := prog_8_method_84_code
def yX6_oneOf : MethodName := ⟨RX6, "oneOf", "(II)I"⟩
abbrev cX6_lots : ByteArray := prog_8_method_85_code
def yX6_lots : MethodName := ⟨RX6, "lots", "(II)I"⟩
abbrev cX6_asked : ByteArray := prog_8_method_86_code
def yX6_asked : MethodName := ⟨RX6, "asked", "()I"⟩
abbrev cX6_upper : ByteArray := prog_8_method_87_code
def yX6_upper : MethodName := ⟨RX6, "upper", "()J"⟩
abbrev cX6_lower : ByteArray := prog_8_method_88_code
def yX6_lower : MethodName := ⟨RX6, "lower", "()J"⟩
abbrev cX6_there : ByteArray := prog_8_method_89_code
def yX6_there : MethodName := ⟨RX6, "there", "([I)I"⟩
abbrev cX6_count : ByteArray := prog_8_method_90_code
def yX6_count : MethodName := ⟨RX6, "count", "(I)I"⟩
abbrev cX6_finding : ByteArray := prog_8_method_91_code
def yX6_finding : MethodName := ⟨RX6, "finding", "()I"⟩
abbrev cX6_findings : ByteArray := prog_8_method_92_code
def yX6_findings : MethodName := ⟨RX6, "findings", "(I)I"⟩
abbrev cX6_mix : ByteArray := prog_8_method_93_code
def yX6_mix : MethodName := ⟨RX6, "mix", "(J)V"⟩
abbrev cX6_digest : ByteArray := prog_8_method_94_code
def yX6_digest : MethodName := ⟨RX6, "digest", "()J"⟩
def RJ6 : String := "java/lang/Integer"
def TJ6 : u_T := fun k => match k with
  | _ => ("", "", "", false)
def tyJ6 : Nat → FieldType := fun k => match k with
  | _ => .int
abbrev wsJ60 : List Cond := u_ws RJ6 TJ6 0
theorem nmJ6 : ∀ a, a < 0 → ∀ b, b < 0 → a ≠ b → (TJ6 a).2.1 ≠ (TJ6 b).2.1 := by decide +kernel
theorem tyJ6_ok : ∀ k, k < 0 → parseFieldDescriptor (TJ6 k).2.2.1 = some (tyJ6 k) := by decide +kernel
abbrev cJ6_bitCount_0f7a4 : ByteArray := prog_9_method_49_code
def yJ6_bitCount_0f7a4 : MethodName := ⟨RJ6, "bitCount", "(I)I"⟩
def RJ9 : String := "java/lang/Math"
def TJ9 : u_T := fun k => match k with
  | _ => ("", "", "", false)
def tyJ9 : Nat → FieldType := fun k => match k with
  | _ => .int
abbrev wsJ90 : List Cond := u_ws RJ9 TJ9 0
theorem nmJ9 : ∀ a, a < 0 → ∀ b, b < 0 → a ≠ b → (TJ9 a).2.1 ≠ (TJ9 b).2.1 := by decide +kernel
theorem tyJ9_ok : ∀ k, k < 0 → parseFieldDescriptor (TJ9 k).2.2.1 = some (tyJ9 k) := by decide +kernel
abbrev cJ9_max_7cf53 : ByteArray := prog_10_method_65_code
def yJ9_max_7cf53 : MethodName := ⟨RJ9, "max", "(II)I"⟩
abbrev cJ9_min_7cf53 : ByteArray := prog_10_method_69_code
def yJ9_min_7cf53 : MethodName := ⟨RJ9, "min", "(II)I"⟩
def RJ10 : String := "java/lang/System"
def TJ10 : u_T := fun k => match k with
  | _ => ("", "", "", false)
def tyJ10 : Nat → FieldType := fun k => match k with
  | _ => .int
abbrev wsJ100 : List Cond := u_ws RJ10 TJ10 0
theorem nmJ10 : ∀ a, a < 0 → ∀ b, b < 0 → a ≠ b → (TJ10 a).2.1 ≠ (TJ10 b).2.1 := by decide +kernel
theorem tyJ10_ok : ∀ k, k < 0 → parseFieldDescriptor (TJ10 k).2.2.1 = some (tyJ10 k) := by decide +kernel
def RJ7 : String := "java/util/Arrays"
def TJ7 : u_T := fun k => match k with
  | _ => ("", "", "", false)
def tyJ7 : Nat → FieldType := fun k => match k with
  | _ => .int
abbrev wsJ70 : List Cond := u_ws RJ7 TJ7 0
theorem nmJ7 : ∀ a, a < 0 → ∀ b, b < 0 → a ≠ b → (TJ7 a).2.1 ≠ (TJ7 b).2.1 := by decide +kernel
theorem tyJ7_ok : ∀ k, k < 0 → parseFieldDescriptor (TJ7 k).2.2.1 = some (tyJ7 k) := by decide +kernel
abbrev cJ7_fill_d0a16 : ByteArray := prog_12_method_101_code
def yJ7_fill_d0a16 : MethodName := ⟨RJ7, "fill", "([JJ)V"⟩
abbrev cJ7_fill_53178 : ByteArray := prog_12_method_103_code
def yJ7_fill_53178 : MethodName := ⟨RJ7, "fill", "([II)V"⟩
def RL : String := "HoursByPostLaw"
abbrev cL_law : ByteArray := code
def yL_law : MethodName := ⟨RL, "law", "([I)Z"⟩
theorem inX0 : ∀ w ∈ wsX00, w ∈ lw_tbl := by decide +kernel
theorem inX1 : ∀ w ∈ wsX10, w ∈ lw_tbl := by decide +kernel
theorem inX2 : ∀ w ∈ wsX20, w ∈ lw_tbl := by decide +kernel
theorem inX3 : ∀ w ∈ wsX30, w ∈ lw_tbl := by decide +kernel
theorem inX4 : ∀ w ∈ wsX40, w ∈ lw_tbl := by decide +kernel
theorem inX5 : ∀ w ∈ wsX50, w ∈ lw_tbl := by decide +kernel
theorem inX6 : ∀ w ∈ wsX60, w ∈ lw_tbl := by decide +kernel
theorem inJ6 : ∀ w ∈ wsJ60, w ∈ lw_tbl := by decide +kernel
theorem inJ9 : ∀ w ∈ wsJ90, w ∈ lw_tbl := by decide +kernel
theorem inJ10 : ∀ w ∈ wsJ100, w ∈ lw_tbl := by decide +kernel
theorem inJ7 : ∀ w ∈ wsJ70, w ∈ lw_tbl := by decide +kernel
abbrev vwCl : List vw_C := [(RX0, TX0, 12), (RX1, TX1, 7), (RX2, TX2, 11), (RX3, TX3, 4), (RX4, TX4, 2), (RX5, TX5, 13), (RX6, TX6, 33)]

/-- the words that a call carries on -/
def jtb : List Cond := lw_tbl.filter goodWord
theorem jtb_at {w : Cond} (i : Nat) (h : lw_tbl[i]? = some w) (g : goodWord w = true) : w ∈ jtb := List.mem_filter.mpr ⟨List.mem_of_getElem? h, g⟩
theorem jtb_in {w : Cond} (h : w ∈ lw_tbl) (g : goodWord w = true) : w ∈ jtb := List.mem_filter.mpr ⟨h, g⟩
theorem jtb_good {w : Cond} (h : w ∈ jtb) : (w.onTables && w.keeps) = true ∨ ∃ ty, w = .arrayClass ty := good_of_word (List.mem_filter.mp h).2
end
section
theorem dX0_init_0 : decode cX0_init 0 = .ok (.aload_n 0, 1) := by decide +kernel
theorem dX0_init_1 : decode cX0_init 1 = .ok (.invokespecial 3, 3) := by decide +kernel
theorem dX0_init_4 : decode cX0_init 4 = .ok (.aload_n 0, 1) := by decide +kernel
theorem dX0_init_5 : decode cX0_init 5 = .ok (.iconst 3, 1) := by decide +kernel
theorem dX0_init_6 : decode cX0_init 6 = .ok (.newarray .int, 2) := by decide +kernel
theorem dX0_init_8 : decode cX0_init 8 = .ok (.putfield 9, 3) := by decide +kernel
theorem dX0_init_11 : decode cX0_init 11 = .ok (.aload_n 0, 1) := by decide +kernel
theorem dX0_init_12 : decode cX0_init 12 = .ok (.bipush 40, 2) := by decide +kernel
theorem dX0_init_14 : decode cX0_init 14 = .ok (.newarray .int, 2) := by decide +kernel
theorem dX0_init_16 : decode cX0_init 16 = .ok (.putfield 15, 3) := by decide +kernel
theorem dX0_init_19 : decode cX0_init 19 = .ok (.aload_n 0, 1) := by decide +kernel
theorem dX0_init_20 : decode cX0_init 20 = .ok (.bipush 40, 2) := by decide +kernel
theorem dX0_init_22 : decode cX0_init 22 = .ok (.newarray .int, 2) := by decide +kernel
theorem dX0_init_24 : decode cX0_init 24 = .ok (.putfield 18, 3) := by decide +kernel
theorem dX0_init_27 : decode cX0_init 27 = .ok (.aload_n 0, 1) := by decide +kernel
theorem dX0_init_28 : decode cX0_init 28 = .ok (.bipush 40, 2) := by decide +kernel
theorem dX0_init_30 : decode cX0_init 30 = .ok (.newarray .int, 2) := by decide +kernel
theorem dX0_init_32 : decode cX0_init 32 = .ok (.putfield 21, 3) := by decide +kernel
theorem dX0_init_35 : decode cX0_init 35 = .ok (.aload_n 0, 1) := by decide +kernel
theorem dX0_init_36 : decode cX0_init 36 = .ok (.bipush 7, 2) := by decide +kernel
theorem dX0_init_38 : decode cX0_init 38 = .ok (.newarray .int, 2) := by decide +kernel
theorem dX0_init_40 : decode cX0_init 40 = .ok (.putfield 24, 3) := by decide +kernel
theorem dX0_init_43 : decode cX0_init 43 = .ok (.aload_n 0, 1) := by decide +kernel
theorem dX0_init_44 : decode cX0_init 44 = .ok (.iconst 0, 1) := by decide +kernel
theorem dX0_init_45 : decode cX0_init 45 = .ok (.putfield 27, 3) := by decide +kernel
theorem dX0_init_48 : decode cX0_init 48 = .ok (.aload_n 0, 1) := by decide +kernel
theorem dX0_init_49 : decode cX0_init 49 = .ok (.iconst 0, 1) := by decide +kernel
theorem dX0_init_50 : decode cX0_init 50 = .ok (.putfield 31, 3) := by decide +kernel
theorem dX0_init_53 : decode cX0_init 53 = .ok (.aload_n 0, 1) := by decide +kernel
theorem dX0_init_54 : decode cX0_init 54 = .ok (.iconst 0, 1) := by decide +kernel
theorem dX0_init_55 : decode cX0_init 55 = .ok (.putfield 34, 3) := by decide +kernel
theorem dX0_init_58 : decode cX0_init 58 = .ok (.aload_n 0, 1) := by decide +kernel
theorem dX0_init_59 : decode cX0_init 59 = .ok (.iconst 0, 1) := by decide +kernel
theorem dX0_init_60 : decode cX0_init 60 = .ok (.putfield 37, 3) := by decide +kernel
theorem dX0_init_63 : decode cX0_init 63 = .ok (.aload_n 0, 1) := by decide +kernel
theorem dX0_init_64 : decode cX0_init 64 = .ok (.iconst 0, 1) := by decide +kernel
theorem dX0_init_65 : decode cX0_init 65 = .ok (.putfield 40, 3) := by decide +kernel
theorem dX0_init_68 : decode cX0_init 68 = .ok (.aload_n 0, 1) := by decide +kernel
theorem dX0_init_69 : decode cX0_init 69 = .ok (.iconst 0, 1) := by decide +kernel
theorem dX0_init_70 : decode cX0_init 70 = .ok (.putfield 43, 3) := by decide +kernel
theorem dX0_init_73 : decode cX0_init 73 = .ok (.aload_n 0, 1) := by decide +kernel
theorem dX0_init_74 : decode cX0_init 74 = .ok (.aload_n 1, 1) := by decide +kernel
theorem dX0_init_75 : decode cX0_init 75 = .ok (.putfield 46, 3) := by decide +kernel
theorem dX0_init_78 : decode cX0_init 78 = .ok (.getstatic 50, 3) := by decide +kernel
theorem dX0_init_81 : decode cX0_init 81 = .ok (.iconst 0, 1) := by decide +kernel
theorem dX0_init_82 : decode cX0_init 82 = .ok (.aload_n 0, 1) := by decide +kernel
theorem dX0_init_83 : decode cX0_init 83 = .ok (.getfield 9, 3) := by decide +kernel
theorem dX0_init_86 : decode cX0_init 86 = .ok (.iconst 0, 1) := by decide +kernel
theorem dX0_init_87 : decode cX0_init 87 = .ok (.iconst 3, 1) := by decide +kernel
theorem dX0_init_88 : decode cX0_init 88 = .ok (.invokestatic 53, 3) := by decide +kernel
theorem dX0_init_91 : decode cX0_init 91 = .ok (.aload_n 0, 1) := by decide +kernel
theorem dX0_init_92 : decode cX0_init 92 = .ok (.getfield 24, 3) := by decide +kernel
theorem dX0_init_95 : decode cX0_init 95 = .ok (.bipush (-9), 2) := by decide +kernel
theorem dX0_init_97 : decode cX0_init 97 = .ok (.invokestatic 59, 3) := by decide +kernel
theorem dX0_init_100 : decode cX0_init 100 = .ok (.return_, 1) := by decide +kernel
theorem dX0_begin_0 : decode cX0_begin 0 = .ok (.getstatic 50, 3) := by decide +kernel
theorem dX0_begin_3 : decode cX0_begin 3 = .ok (.iconst 0, 1) := by decide +kernel
theorem dX0_begin_4 : decode cX0_begin 4 = .ok (.aload_n 0, 1) := by decide +kernel
theorem dX0_begin_5 : decode cX0_begin 5 = .ok (.getfield 9, 3) := by decide +kernel
theorem dX0_begin_8 : decode cX0_begin 8 = .ok (.iconst 0, 1) := by decide +kernel
theorem dX0_begin_9 : decode cX0_begin 9 = .ok (.iconst 3, 1) := by decide +kernel
theorem dX0_begin_10 : decode cX0_begin 10 = .ok (.invokestatic 53, 3) := by decide +kernel
theorem dX0_begin_13 : decode cX0_begin 13 = .ok (.aload_n 0, 1) := by decide +kernel
theorem dX0_begin_14 : decode cX0_begin 14 = .ok (.invokevirtual 65, 3) := by decide +kernel
theorem dX0_begin_17 : decode cX0_begin 17 = .ok (.return_, 1) := by decide +kernel
theorem dX0_rewind_0 : decode cX0_rewind 0 = .ok (.aload_n 0, 1) := by decide +kernel
theorem dX0_rewind_1 : decode cX0_rewind 1 = .ok (.getfield 24, 3) := by decide +kernel
theorem dX0_rewind_4 : decode cX0_rewind 4 = .ok (.bipush (-9), 2) := by decide +kernel
theorem dX0_rewind_6 : decode cX0_rewind 6 = .ok (.invokestatic 59, 3) := by decide +kernel
theorem dX0_rewind_9 : decode cX0_rewind 9 = .ok (.aload_n 0, 1) := by decide +kernel
theorem dX0_rewind_10 : decode cX0_rewind 10 = .ok (.iconst 0, 1) := by decide +kernel
theorem dX0_rewind_11 : decode cX0_rewind 11 = .ok (.putfield 27, 3) := by decide +kernel
theorem dX0_rewind_14 : decode cX0_rewind 14 = .ok (.aload_n 0, 1) := by decide +kernel
theorem dX0_rewind_15 : decode cX0_rewind 15 = .ok (.iconst 0, 1) := by decide +kernel
theorem dX0_rewind_16 : decode cX0_rewind 16 = .ok (.putfield 31, 3) := by decide +kernel
theorem dX0_rewind_19 : decode cX0_rewind 19 = .ok (.aload_n 0, 1) := by decide +kernel
theorem dX0_rewind_20 : decode cX0_rewind 20 = .ok (.iconst 0, 1) := by decide +kernel
theorem dX0_rewind_21 : decode cX0_rewind 21 = .ok (.putfield 34, 3) := by decide +kernel
theorem dX0_rewind_24 : decode cX0_rewind 24 = .ok (.aload_n 0, 1) := by decide +kernel
theorem dX0_rewind_25 : decode cX0_rewind 25 = .ok (.iconst 0, 1) := by decide +kernel
theorem dX0_rewind_26 : decode cX0_rewind 26 = .ok (.putfield 37, 3) := by decide +kernel
theorem dX0_rewind_29 : decode cX0_rewind 29 = .ok (.aload_n 0, 1) := by decide +kernel
theorem dX0_rewind_30 : decode cX0_rewind 30 = .ok (.iconst 0, 1) := by decide +kernel
theorem dX0_rewind_31 : decode cX0_rewind 31 = .ok (.putfield 40, 3) := by decide +kernel
theorem dX0_rewind_34 : decode cX0_rewind 34 = .ok (.aload_n 0, 1) := by decide +kernel
theorem dX0_rewind_35 : decode cX0_rewind 35 = .ok (.iconst 0, 1) := by decide +kernel
theorem dX0_rewind_36 : decode cX0_rewind 36 = .ok (.putfield 43, 3) := by decide +kernel
theorem dX0_rewind_39 : decode cX0_rewind 39 = .ok (.return_, 1) := by decide +kernel
theorem dX0_become_0 : decode cX0_become 0 = .ok (.aload_n 1, 1) := by decide +kernel
theorem dX0_become_1 : decode cX0_become 1 = .ok (.getfield 9, 3) := by decide +kernel
theorem dX0_become_4 : decode cX0_become 4 = .ok (.iconst 0, 1) := by decide +kernel
theorem dX0_become_5 : decode cX0_become 5 = .ok (.aload_n 0, 1) := by decide +kernel
theorem dX0_become_6 : decode cX0_become 6 = .ok (.getfield 9, 3) := by decide +kernel
theorem dX0_become_9 : decode cX0_become 9 = .ok (.iconst 0, 1) := by decide +kernel
theorem dX0_become_10 : decode cX0_become 10 = .ok (.iconst 3, 1) := by decide +kernel
theorem dX0_become_11 : decode cX0_become 11 = .ok (.invokestatic 53, 3) := by decide +kernel
theorem dX0_become_14 : decode cX0_become 14 = .ok (.aload_n 1, 1) := by decide +kernel
theorem dX0_become_15 : decode cX0_become 15 = .ok (.getfield 15, 3) := by decide +kernel
theorem dX0_become_18 : decode cX0_become 18 = .ok (.iconst 0, 1) := by decide +kernel
theorem dX0_become_19 : decode cX0_become 19 = .ok (.aload_n 0, 1) := by decide +kernel
theorem dX0_become_20 : decode cX0_become 20 = .ok (.getfield 15, 3) := by decide +kernel
theorem dX0_become_23 : decode cX0_become 23 = .ok (.iconst 0, 1) := by decide +kernel
theorem dX0_become_24 : decode cX0_become 24 = .ok (.bipush 40, 2) := by decide +kernel
theorem dX0_become_26 : decode cX0_become 26 = .ok (.invokestatic 53, 3) := by decide +kernel
theorem dX0_become_29 : decode cX0_become 29 = .ok (.aload_n 1, 1) := by decide +kernel
theorem dX0_become_30 : decode cX0_become 30 = .ok (.getfield 18, 3) := by decide +kernel
theorem dX0_become_33 : decode cX0_become 33 = .ok (.iconst 0, 1) := by decide +kernel
theorem dX0_become_34 : decode cX0_become 34 = .ok (.aload_n 0, 1) := by decide +kernel
theorem dX0_become_35 : decode cX0_become 35 = .ok (.getfield 18, 3) := by decide +kernel
theorem dX0_become_38 : decode cX0_become 38 = .ok (.iconst 0, 1) := by decide +kernel
theorem dX0_become_39 : decode cX0_become 39 = .ok (.bipush 40, 2) := by decide +kernel
theorem dX0_become_41 : decode cX0_become 41 = .ok (.invokestatic 53, 3) := by decide +kernel
theorem dX0_become_44 : decode cX0_become 44 = .ok (.aload_n 1, 1) := by decide +kernel
theorem dX0_become_45 : decode cX0_become 45 = .ok (.getfield 21, 3) := by decide +kernel
theorem dX0_become_48 : decode cX0_become 48 = .ok (.iconst 0, 1) := by decide +kernel
theorem dX0_become_49 : decode cX0_become 49 = .ok (.aload_n 0, 1) := by decide +kernel
theorem dX0_become_50 : decode cX0_become 50 = .ok (.getfield 21, 3) := by decide +kernel
theorem dX0_become_53 : decode cX0_become 53 = .ok (.iconst 0, 1) := by decide +kernel
theorem dX0_become_54 : decode cX0_become 54 = .ok (.bipush 40, 2) := by decide +kernel
theorem dX0_become_56 : decode cX0_become 56 = .ok (.invokestatic 53, 3) := by decide +kernel
theorem dX0_become_59 : decode cX0_become 59 = .ok (.aload_n 1, 1) := by decide +kernel
theorem dX0_become_60 : decode cX0_become 60 = .ok (.getfield 24, 3) := by decide +kernel
theorem dX0_become_63 : decode cX0_become 63 = .ok (.iconst 0, 1) := by decide +kernel
theorem dX0_become_64 : decode cX0_become 64 = .ok (.aload_n 0, 1) := by decide +kernel
theorem dX0_become_65 : decode cX0_become 65 = .ok (.getfield 24, 3) := by decide +kernel
theorem dX0_become_68 : decode cX0_become 68 = .ok (.iconst 0, 1) := by decide +kernel
theorem dX0_become_69 : decode cX0_become 69 = .ok (.bipush 7, 2) := by decide +kernel
theorem dX0_become_71 : decode cX0_become 71 = .ok (.invokestatic 53, 3) := by decide +kernel
theorem dX0_become_74 : decode cX0_become 74 = .ok (.aload_n 0, 1) := by decide +kernel
theorem dX0_become_75 : decode cX0_become 75 = .ok (.aload_n 1, 1) := by decide +kernel
theorem dX0_become_76 : decode cX0_become 76 = .ok (.getfield 27, 3) := by decide +kernel
theorem dX0_become_79 : decode cX0_become 79 = .ok (.putfield 27, 3) := by decide +kernel
theorem dX0_become_82 : decode cX0_become 82 = .ok (.aload_n 0, 1) := by decide +kernel
theorem dX0_become_83 : decode cX0_become 83 = .ok (.aload_n 1, 1) := by decide +kernel
theorem dX0_become_84 : decode cX0_become 84 = .ok (.getfield 31, 3) := by decide +kernel
theorem dX0_become_87 : decode cX0_become 87 = .ok (.putfield 31, 3) := by decide +kernel
theorem dX0_become_90 : decode cX0_become 90 = .ok (.aload_n 0, 1) := by decide +kernel
theorem dX0_become_91 : decode cX0_become 91 = .ok (.aload_n 1, 1) := by decide +kernel
theorem dX0_become_92 : decode cX0_become 92 = .ok (.getfield 34, 3) := by decide +kernel
theorem dX0_become_95 : decode cX0_become 95 = .ok (.putfield 34, 3) := by decide +kernel
theorem dX0_become_98 : decode cX0_become 98 = .ok (.aload_n 0, 1) := by decide +kernel
theorem dX0_become_99 : decode cX0_become 99 = .ok (.aload_n 1, 1) := by decide +kernel
theorem dX0_become_100 : decode cX0_become 100 = .ok (.getfield 37, 3) := by decide +kernel
theorem dX0_become_103 : decode cX0_become 103 = .ok (.putfield 37, 3) := by decide +kernel
theorem dX0_become_106 : decode cX0_become 106 = .ok (.aload_n 0, 1) := by decide +kernel
theorem dX0_become_107 : decode cX0_become 107 = .ok (.aload_n 1, 1) := by decide +kernel
theorem dX0_become_108 : decode cX0_become 108 = .ok (.getfield 40, 3) := by decide +kernel
theorem dX0_become_111 : decode cX0_become 111 = .ok (.putfield 40, 3) := by decide +kernel
theorem dX0_become_114 : decode cX0_become 114 = .ok (.aload_n 0, 1) := by decide +kernel
theorem dX0_become_115 : decode cX0_become 115 = .ok (.aload_n 1, 1) := by decide +kernel
theorem dX0_become_116 : decode cX0_become 116 = .ok (.getfield 43, 3) := by decide +kernel
theorem dX0_become_119 : decode cX0_become 119 = .ok (.putfield 43, 3) := by decide +kernel
theorem dX0_become_122 : decode cX0_become 122 = .ok (.return_, 1) := by decide +kernel
theorem dX0_isFull_0 : decode cX0_isFull 0 = .ok (.aload_n 0, 1) := by decide +kernel
theorem dX0_isFull_1 : decode cX0_isFull 1 = .ok (.getfield 27, 3) := by decide +kernel
theorem dX0_isFull_4 : decode cX0_isFull 4 = .ok (.bipush 40, 2) := by decide +kernel
theorem dX0_isFull_6 : decode cX0_isFull 6 = .ok (.if_icmp .lt 7, 3) := by decide +kernel
theorem dX0_isFull_9 : decode cX0_isFull 9 = .ok (.iconst 1, 1) := by decide +kernel
theorem dX0_isFull_10 : decode cX0_isFull 10 = .ok (.goto 4, 3) := by decide +kernel
theorem dX0_isFull_13 : decode cX0_isFull 13 = .ok (.iconst 0, 1) := by decide +kernel
theorem dX0_isFull_14 : decode cX0_isFull 14 = .ok (.ireturn, 1) := by decide +kernel
theorem dX0_take_0 : decode cX0_take 0 = .ok (.aload_n 0, 1) := by decide +kernel
theorem dX0_take_1 : decode cX0_take 1 = .ok (.invokevirtual 68, 3) := by decide +kernel
theorem dX0_take_4 : decode cX0_take 4 = .ok (.ifCond .eq 4, 3) := by decide +kernel
theorem dX0_take_7 : decode cX0_take 7 = .ok (.return_, 1) := by decide +kernel
theorem dX0_take_8 : decode cX0_take 8 = .ok (.aload_n 0, 1) := by decide +kernel
theorem dX0_take_9 : decode cX0_take 9 = .ok (.getfield 15, 3) := by decide +kernel
theorem dX0_take_12 : decode cX0_take 12 = .ok (.aload_n 0, 1) := by decide +kernel
theorem dX0_take_13 : decode cX0_take 13 = .ok (.getfield 27, 3) := by decide +kernel
theorem dX0_take_16 : decode cX0_take 16 = .ok (.iload_n 1, 1) := by decide +kernel
theorem dX0_take_17 : decode cX0_take 17 = .ok (.iastore, 1) := by decide +kernel
theorem dX0_take_18 : decode cX0_take 18 = .ok (.aload_n 0, 1) := by decide +kernel
theorem dX0_take_19 : decode cX0_take 19 = .ok (.getfield 18, 3) := by decide +kernel
theorem dX0_take_22 : decode cX0_take 22 = .ok (.aload_n 0, 1) := by decide +kernel
theorem dX0_take_23 : decode cX0_take 23 = .ok (.getfield 27, 3) := by decide +kernel
theorem dX0_take_26 : decode cX0_take 26 = .ok (.iload_n 2, 1) := by decide +kernel
theorem dX0_take_27 : decode cX0_take 27 = .ok (.iastore, 1) := by decide +kernel
theorem dX0_take_28 : decode cX0_take 28 = .ok (.aload_n 0, 1) := by decide +kernel
theorem dX0_take_29 : decode cX0_take 29 = .ok (.getfield 21, 3) := by decide +kernel
theorem dX0_take_32 : decode cX0_take 32 = .ok (.aload_n 0, 1) := by decide +kernel
theorem dX0_take_33 : decode cX0_take 33 = .ok (.getfield 27, 3) := by decide +kernel
theorem dX0_take_36 : decode cX0_take 36 = .ok (.iload_n 3, 1) := by decide +kernel
theorem dX0_take_37 : decode cX0_take 37 = .ok (.iastore, 1) := by decide +kernel
theorem dX0_take_38 : decode cX0_take 38 = .ok (.aload_n 0, 1) := by decide +kernel
theorem dX0_take_39 : decode cX0_take 39 = .ok (.dup, 1) := by decide +kernel
theorem dX0_take_40 : decode cX0_take 40 = .ok (.getfield 27, 3) := by decide +kernel
theorem dX0_take_43 : decode cX0_take 43 = .ok (.iconst 1, 1) := by decide +kernel
theorem dX0_take_44 : decode cX0_take 44 = .ok (.iadd, 1) := by decide +kernel
theorem dX0_take_45 : decode cX0_take 45 = .ok (.putfield 27, 3) := by decide +kernel
theorem dX0_take_48 : decode cX0_take 48 = .ok (.iload_n 1, 1) := by decide +kernel
theorem dX0_take_49 : decode cX0_take 49 = .ok (.ifCond .ne 16, 3) := by decide +kernel
theorem dX0_take_52 : decode cX0_take 52 = .ok (.aload_n 0, 1) := by decide +kernel
theorem dX0_take_53 : decode cX0_take 53 = .ok (.dup, 1) := by decide +kernel
theorem dX0_take_54 : decode cX0_take 54 = .ok (.getfield 31, 3) := by decide +kernel
theorem dX0_take_57 : decode cX0_take 57 = .ok (.iconst 1, 1) := by decide +kernel
theorem dX0_take_58 : decode cX0_take 58 = .ok (.iadd, 1) := by decide +kernel
theorem dX0_take_59 : decode cX0_take 59 = .ok (.putfield 31, 3) := by decide +kernel
theorem dX0_take_62 : decode cX0_take 62 = .ok (.goto 29, 3) := by decide +kernel
theorem dX0_take_65 : decode cX0_take 65 = .ok (.iload_n 1, 1) := by decide +kernel
theorem dX0_take_66 : decode cX0_take 66 = .ok (.iconst 2, 1) := by decide +kernel
theorem dX0_take_67 : decode cX0_take 67 = .ok (.if_icmp .ne 18, 3) := by decide +kernel
theorem dX0_take_70 : decode cX0_take 70 = .ok (.aload_n 0, 1) := by decide +kernel
theorem dX0_take_71 : decode cX0_take 71 = .ok (.dup, 1) := by decide +kernel
theorem dX0_take_72 : decode cX0_take 72 = .ok (.getfield 37, 3) := by decide +kernel
theorem dX0_take_75 : decode cX0_take 75 = .ok (.iconst 1, 1) := by decide +kernel
theorem dX0_take_76 : decode cX0_take 76 = .ok (.iload_n 2, 1) := by decide +kernel
theorem dX0_take_77 : decode cX0_take 77 = .ok (.ishl, 1) := by decide +kernel
theorem dX0_take_78 : decode cX0_take 78 = .ok (.ior, 1) := by decide +kernel
theorem dX0_take_79 : decode cX0_take 79 = .ok (.putfield 37, 3) := by decide +kernel
theorem dX0_take_82 : decode cX0_take 82 = .ok (.goto 9, 3) := by decide +kernel
theorem dX0_take_85 : decode cX0_take 85 = .ok (.aload_n 0, 1) := by decide +kernel
theorem dX0_take_86 : decode cX0_take 86 = .ok (.iload_n 2, 1) := by decide +kernel
theorem dX0_take_87 : decode cX0_take 87 = .ok (.iload_n 3, 1) := by decide +kernel
theorem dX0_take_88 : decode cX0_take 88 = .ok (.invokevirtual 72, 3) := by decide +kernel
theorem dX0_take_91 : decode cX0_take 91 = .ok (.return_, 1) := by decide +kernel
theorem dX0_live_0 : decode cX0_live 0 = .ok (.aload_n 0, 1) := by decide +kernel
theorem dX0_live_1 : decode cX0_live 1 = .ok (.dup, 1) := by decide +kernel
theorem dX0_live_2 : decode cX0_live 2 = .ok (.getfield 34, 3) := by decide +kernel
theorem dX0_live_5 : decode cX0_live 5 = .ok (.iconst 1, 1) := by decide +kernel
theorem dX0_live_6 : decode cX0_live 6 = .ok (.iload_n 1, 1) := by decide +kernel
theorem dX0_live_7 : decode cX0_live 7 = .ok (.ishl, 1) := by decide +kernel
theorem dX0_live_8 : decode cX0_live 8 = .ok (.ior, 1) := by decide +kernel
theorem dX0_live_9 : decode cX0_live 9 = .ok (.putfield 34, 3) := by decide +kernel
theorem dX0_live_12 : decode cX0_live 12 = .ok (.aload_n 0, 1) := by decide +kernel
theorem dX0_live_13 : decode cX0_live 13 = .ok (.dup, 1) := by decide +kernel
theorem dX0_live_14 : decode cX0_live 14 = .ok (.getfield 43, 3) := by decide +kernel
theorem dX0_live_17 : decode cX0_live 17 = .ok (.iconst 1, 1) := by decide +kernel
theorem dX0_live_18 : decode cX0_live 18 = .ok (.iadd, 1) := by decide +kernel
theorem dX0_live_19 : decode cX0_live 19 = .ok (.putfield 43, 3) := by decide +kernel
theorem dX0_live_22 : decode cX0_live 22 = .ok (.aload_n 0, 1) := by decide +kernel
theorem dX0_live_23 : decode cX0_live 23 = .ok (.getfield 46, 3) := by decide +kernel
theorem dX0_live_26 : decode cX0_live 26 = .ok (.iload_n 2, 1) := by decide +kernel
theorem dX0_live_27 : decode cX0_live 27 = .ok (.invokevirtual 76, 3) := by decide +kernel
theorem dX0_live_30 : decode cX0_live 30 = .ok (.ifCond .eq 14, 3) := by decide +kernel
theorem dX0_live_33 : decode cX0_live 33 = .ok (.aload_n 0, 1) := by decide +kernel
theorem dX0_live_34 : decode cX0_live 34 = .ok (.getfield 46, 3) := by decide +kernel
theorem dX0_live_37 : decode cX0_live 37 = .ok (.iload_n 1, 1) := by decide +kernel
theorem dX0_live_38 : decode cX0_live 38 = .ok (.invokevirtual 82, 3) := by decide +kernel
theorem dX0_live_41 : decode cX0_live 41 = .ok (.ifCond .ne 4, 3) := by decide +kernel
theorem dX0_live_44 : decode cX0_live 44 = .ok (.return_, 1) := by decide +kernel
theorem dX0_live_45 : decode cX0_live 45 = .ok (.aload_n 0, 1) := by decide +kernel
theorem dX0_live_46 : decode cX0_live 46 = .ok (.getfield 24, 3) := by decide +kernel
theorem dX0_live_49 : decode cX0_live 49 = .ok (.iload_n 1, 1) := by decide +kernel
theorem dX0_live_50 : decode cX0_live 50 = .ok (.iload_n 2, 1) := by decide +kernel
theorem dX0_live_51 : decode cX0_live 51 = .ok (.iastore, 1) := by decide +kernel
theorem dX0_live_52 : decode cX0_live 52 = .ok (.aload_n 0, 1) := by decide +kernel
theorem dX0_live_53 : decode cX0_live 53 = .ok (.dup, 1) := by decide +kernel
theorem dX0_live_54 : decode cX0_live 54 = .ok (.getfield 40, 3) := by decide +kernel
theorem dX0_live_57 : decode cX0_live 57 = .ok (.iconst 1, 1) := by decide +kernel
theorem dX0_live_58 : decode cX0_live 58 = .ok (.iload_n 2, 1) := by decide +kernel
theorem dX0_live_59 : decode cX0_live 59 = .ok (.ishl, 1) := by decide +kernel
theorem dX0_live_60 : decode cX0_live 60 = .ok (.ior, 1) := by decide +kernel
theorem dX0_live_61 : decode cX0_live 61 = .ok (.putfield 40, 3) := by decide +kernel
theorem dX0_live_64 : decode cX0_live 64 = .ok (.aload_n 0, 1) := by decide +kernel
theorem dX0_live_65 : decode cX0_live 65 = .ok (.getfield 46, 3) := by decide +kernel
theorem dX0_live_68 : decode cX0_live 68 = .ok (.iload_n 2, 1) := by decide +kernel
theorem dX0_live_69 : decode cX0_live 69 = .ok (.iconst 1, 1) := by decide +kernel
theorem dX0_live_70 : decode cX0_live 70 = .ok (.invokevirtual 85, 3) := by decide +kernel
theorem dX0_live_73 : decode cX0_live 73 = .ok (.ifCond .eq 8, 3) := by decide +kernel
theorem dX0_live_76 : decode cX0_live 76 = .ok (.aload_n 0, 1) := by decide +kernel
theorem dX0_live_77 : decode cX0_live 77 = .ok (.iconst 0, 1) := by decide +kernel
theorem dX0_live_78 : decode cX0_live 78 = .ok (.putfield 43, 3) := by decide +kernel
theorem dX0_live_81 : decode cX0_live 81 = .ok (.return_, 1) := by decide +kernel
theorem dX0_goBackTo_0 : decode cX0_goBackTo 0 = .ok (.aload_n 0, 1) := by decide +kernel
theorem dX0_goBackTo_1 : decode cX0_goBackTo 1 = .ok (.getfield 27, 3) := by decide +kernel
theorem dX0_goBackTo_4 : decode cX0_goBackTo 4 = .ok (.iload_n 1, 1) := by decide +kernel
theorem dX0_goBackTo_5 : decode cX0_goBackTo 5 = .ok (.isub, 1) := by decide +kernel
theorem dX0_goBackTo_6 : decode cX0_goBackTo 6 = .ok (.istore_n 2, 1) := by decide +kernel
theorem dX0_goBackTo_7 : decode cX0_goBackTo 7 = .ok (.aload_n 0, 1) := by decide +kernel
theorem dX0_goBackTo_8 : decode cX0_goBackTo 8 = .ok (.invokevirtual 65, 3) := by decide +kernel
theorem dX0_goBackTo_11 : decode cX0_goBackTo 11 = .ok (.iconst 0, 1) := by decide +kernel
theorem dX0_goBackTo_12 : decode cX0_goBackTo 12 = .ok (.istore_n 3, 1) := by decide +kernel
theorem dX0_goBackTo_13 : decode cX0_goBackTo 13 = .ok (.iload_n 3, 1) := by decide +kernel
theorem dX0_goBackTo_14 : decode cX0_goBackTo 14 = .ok (.iload_n 1, 1) := by decide +kernel
theorem dX0_goBackTo_15 : decode cX0_goBackTo 15 = .ok (.if_icmp .ge 37, 3) := by decide +kernel
theorem dX0_goBackTo_18 : decode cX0_goBackTo 18 = .ok (.iload_n 3, 1) := by decide +kernel
theorem dX0_goBackTo_19 : decode cX0_goBackTo 19 = .ok (.bipush 40, 2) := by decide +kernel
theorem dX0_goBackTo_21 : decode cX0_goBackTo 21 = .ok (.if_icmp .ge 31, 3) := by decide +kernel
theorem dX0_goBackTo_24 : decode cX0_goBackTo 24 = .ok (.aload_n 0, 1) := by decide +kernel
theorem dX0_goBackTo_25 : decode cX0_goBackTo 25 = .ok (.aload_n 0, 1) := by decide +kernel
theorem dX0_goBackTo_26 : decode cX0_goBackTo 26 = .ok (.getfield 15, 3) := by decide +kernel
theorem dX0_goBackTo_29 : decode cX0_goBackTo 29 = .ok (.iload_n 3, 1) := by decide +kernel
theorem dX0_goBackTo_30 : decode cX0_goBackTo 30 = .ok (.iaload, 1) := by decide +kernel
theorem dX0_goBackTo_31 : decode cX0_goBackTo 31 = .ok (.aload_n 0, 1) := by decide +kernel
theorem dX0_goBackTo_32 : decode cX0_goBackTo 32 = .ok (.getfield 18, 3) := by decide +kernel
theorem dX0_goBackTo_35 : decode cX0_goBackTo 35 = .ok (.iload_n 3, 1) := by decide +kernel
theorem dX0_goBackTo_36 : decode cX0_goBackTo 36 = .ok (.iaload, 1) := by decide +kernel
theorem dX0_goBackTo_37 : decode cX0_goBackTo 37 = .ok (.aload_n 0, 1) := by decide +kernel
theorem dX0_goBackTo_38 : decode cX0_goBackTo 38 = .ok (.getfield 21, 3) := by decide +kernel
theorem dX0_goBackTo_41 : decode cX0_goBackTo 41 = .ok (.iload_n 3, 1) := by decide +kernel
theorem dX0_goBackTo_42 : decode cX0_goBackTo 42 = .ok (.iaload, 1) := by decide +kernel
theorem dX0_goBackTo_43 : decode cX0_goBackTo 43 = .ok (.invokevirtual 89, 3) := by decide +kernel
theorem dX0_goBackTo_46 : decode cX0_goBackTo 46 = .ok (.iinc 3 1, 3) := by decide +kernel
theorem dX0_goBackTo_49 : decode cX0_goBackTo 49 = .ok (.goto (-36), 3) := by decide +kernel
theorem dX0_goBackTo_52 : decode cX0_goBackTo 52 = .ok (.iload_n 2, 1) := by decide +kernel
theorem dX0_goBackTo_53 : decode cX0_goBackTo 53 = .ok (.ireturn, 1) := by decide +kernel
theorem dX0_comingDay_0 : decode cX0_comingDay 0 = .ok (.aload_n 0, 1) := by decide +kernel
theorem dX0_comingDay_1 : decode cX0_comingDay 1 = .ok (.getfield 46, 3) := by decide +kernel
theorem dX0_comingDay_4 : decode cX0_comingDay 4 = .ok (.getfield 93, 3) := by decide +kernel
theorem dX0_comingDay_7 : decode cX0_comingDay 7 = .ok (.iload_n 1, 1) := by decide +kernel
theorem dX0_comingDay_8 : decode cX0_comingDay 8 = .ok (.iaload, 1) := by decide +kernel
theorem dX0_comingDay_9 : decode cX0_comingDay 9 = .ok (.aload_n 0, 1) := by decide +kernel
theorem dX0_comingDay_10 : decode cX0_comingDay 10 = .ok (.getfield 9, 3) := by decide +kernel
theorem dX0_comingDay_13 : decode cX0_comingDay 13 = .ok (.aload_n 0, 1) := by decide +kernel
theorem dX0_comingDay_14 : decode cX0_comingDay 14 = .ok (.getfield 46, 3) := by decide +kernel
theorem dX0_comingDay_17 : decode cX0_comingDay 17 = .ok (.getfield 96, 3) := by decide +kernel
theorem dX0_comingDay_20 : decode cX0_comingDay 20 = .ok (.iload_n 1, 1) := by decide +kernel
theorem dX0_comingDay_21 : decode cX0_comingDay 21 = .ok (.iaload, 1) := by decide +kernel
theorem dX0_comingDay_22 : decode cX0_comingDay 22 = .ok (.iaload, 1) := by decide +kernel
theorem dX0_comingDay_23 : decode cX0_comingDay 23 = .ok (.iadd, 1) := by decide +kernel
theorem dX0_comingDay_24 : decode cX0_comingDay 24 = .ok (.ireturn, 1) := by decide +kernel
theorem dX0_comeBits_0 : decode cX0_comeBits 0 = .ok (.iconst 0, 1) := by decide +kernel
theorem dX0_comeBits_1 : decode cX0_comeBits 1 = .ok (.istore_n 2, 1) := by decide +kernel
theorem dX0_comeBits_2 : decode cX0_comeBits 2 = .ok (.iconst 0, 1) := by decide +kernel
theorem dX0_comeBits_3 : decode cX0_comeBits 3 = .ok (.istore_n 3, 1) := by decide +kernel
theorem dX0_comeBits_4 : decode cX0_comeBits 4 = .ok (.iload_n 3, 1) := by decide +kernel
theorem dX0_comeBits_5 : decode cX0_comeBits 5 = .ok (.aload_n 0, 1) := by decide +kernel
theorem dX0_comeBits_6 : decode cX0_comeBits 6 = .ok (.getfield 46, 3) := by decide +kernel
theorem dX0_comeBits_9 : decode cX0_comeBits 9 = .ok (.getfield 99, 3) := by decide +kernel
theorem dX0_comeBits_12 : decode cX0_comeBits 12 = .ok (.if_icmp .ge 28, 3) := by decide +kernel
theorem dX0_comeBits_15 : decode cX0_comeBits 15 = .ok (.iload_n 2, 1) := by decide +kernel
theorem dX0_comeBits_16 : decode cX0_comeBits 16 = .ok (.aload_n 0, 1) := by decide +kernel
theorem dX0_comeBits_17 : decode cX0_comeBits 17 = .ok (.iload_n 3, 1) := by decide +kernel
theorem dX0_comeBits_18 : decode cX0_comeBits 18 = .ok (.invokevirtual 102, 3) := by decide +kernel
theorem dX0_comeBits_21 : decode cX0_comeBits 21 = .ok (.iload_n 1, 1) := by decide +kernel
theorem dX0_comeBits_22 : decode cX0_comeBits 22 = .ok (.if_icmp .gt 9, 3) := by decide +kernel
theorem dX0_comeBits_25 : decode cX0_comeBits 25 = .ok (.iconst 1, 1) := by decide +kernel
theorem dX0_comeBits_26 : decode cX0_comeBits 26 = .ok (.iload_n 3, 1) := by decide +kernel
theorem dX0_comeBits_27 : decode cX0_comeBits 27 = .ok (.ishl, 1) := by decide +kernel
theorem dX0_comeBits_28 : decode cX0_comeBits 28 = .ok (.goto 4, 3) := by decide +kernel
theorem dX0_comeBits_31 : decode cX0_comeBits 31 = .ok (.iconst 0, 1) := by decide +kernel
theorem dX0_comeBits_32 : decode cX0_comeBits 32 = .ok (.ior, 1) := by decide +kernel
theorem dX0_comeBits_33 : decode cX0_comeBits 33 = .ok (.istore_n 2, 1) := by decide +kernel
theorem dX0_comeBits_34 : decode cX0_comeBits 34 = .ok (.iinc 3 1, 3) := by decide +kernel
theorem dX0_comeBits_37 : decode cX0_comeBits 37 = .ok (.goto (-33), 3) := by decide +kernel
theorem dX0_comeBits_40 : decode cX0_comeBits 40 = .ok (.iload_n 2, 1) := by decide +kernel
theorem dX0_comeBits_41 : decode cX0_comeBits 41 = .ok (.ireturn, 1) := by decide +kernel
theorem dX0_shelfBits_0 : decode cX0_shelfBits 0 = .ok (.aload_n 0, 1) := by decide +kernel
theorem dX0_shelfBits_1 : decode cX0_shelfBits 1 = .ok (.aload_n 0, 1) := by decide +kernel
theorem dX0_shelfBits_2 : decode cX0_shelfBits 2 = .ok (.getfield 31, 3) := by decide +kernel
theorem dX0_shelfBits_5 : decode cX0_shelfBits 5 = .ok (.invokevirtual 106, 3) := by decide +kernel
theorem dX0_shelfBits_8 : decode cX0_shelfBits 8 = .ok (.aload_n 0, 1) := by decide +kernel
theorem dX0_shelfBits_9 : decode cX0_shelfBits 9 = .ok (.invokevirtual 109, 3) := by decide +kernel
theorem dX0_shelfBits_12 : decode cX0_shelfBits 12 = .ok (.iand, 1) := by decide +kernel
theorem dX0_shelfBits_13 : decode cX0_shelfBits 13 = .ok (.ireturn, 1) := by decide +kernel
theorem dX0_unopenedBits_0 : decode cX0_unopenedBits 0 = .ok (.iconst 1, 1) := by decide +kernel
theorem dX0_unopenedBits_1 : decode cX0_unopenedBits 1 = .ok (.aload_n 0, 1) := by decide +kernel
theorem dX0_unopenedBits_2 : decode cX0_unopenedBits 2 = .ok (.getfield 46, 3) := by decide +kernel
theorem dX0_unopenedBits_5 : decode cX0_unopenedBits 5 = .ok (.getfield 99, 3) := by decide +kernel
theorem dX0_unopenedBits_8 : decode cX0_unopenedBits 8 = .ok (.ishl, 1) := by decide +kernel
theorem dX0_unopenedBits_9 : decode cX0_unopenedBits 9 = .ok (.iconst 1, 1) := by decide +kernel
theorem dX0_unopenedBits_10 : decode cX0_unopenedBits 10 = .ok (.isub, 1) := by decide +kernel
theorem dX0_unopenedBits_11 : decode cX0_unopenedBits 11 = .ok (.aload_n 0, 1) := by decide +kernel
theorem dX0_unopenedBits_12 : decode cX0_unopenedBits 12 = .ok (.getfield 34, 3) := by decide +kernel
theorem dX0_unopenedBits_15 : decode cX0_unopenedBits 15 = .ok (.aload_n 0, 1) := by decide +kernel
theorem dX0_unopenedBits_16 : decode cX0_unopenedBits 16 = .ok (.getfield 37, 3) := by decide +kernel
theorem dX0_unopenedBits_19 : decode cX0_unopenedBits 19 = .ok (.ior, 1) := by decide +kernel
theorem dX0_unopenedBits_20 : decode cX0_unopenedBits 20 = .ok (.iconst (-1), 1) := by decide +kernel
theorem dX0_unopenedBits_21 : decode cX0_unopenedBits 21 = .ok (.ixor, 1) := by decide +kernel
theorem dX0_unopenedBits_22 : decode cX0_unopenedBits 22 = .ok (.iand, 1) := by decide +kernel
theorem dX0_unopenedBits_23 : decode cX0_unopenedBits 23 = .ok (.ireturn, 1) := by decide +kernel
theorem dX0_dayOfAll_0 : decode cX0_dayOfAll 0 = .ok (.aload_n 0, 1) := by decide +kernel
theorem dX0_dayOfAll_1 : decode cX0_dayOfAll 1 = .ok (.getfield 31, 3) := by decide +kernel
theorem dX0_dayOfAll_4 : decode cX0_dayOfAll 4 = .ok (.istore_n 2, 1) := by decide +kernel
theorem dX0_dayOfAll_5 : decode cX0_dayOfAll 5 = .ok (.iconst 0, 1) := by decide +kernel
theorem dX0_dayOfAll_6 : decode cX0_dayOfAll 6 = .ok (.istore_n 3, 1) := by decide +kernel
theorem dX0_dayOfAll_7 : decode cX0_dayOfAll 7 = .ok (.iload_n 3, 1) := by decide +kernel
theorem dX0_dayOfAll_8 : decode cX0_dayOfAll 8 = .ok (.aload_n 0, 1) := by decide +kernel
theorem dX0_dayOfAll_9 : decode cX0_dayOfAll 9 = .ok (.getfield 46, 3) := by decide +kernel
theorem dX0_dayOfAll_12 : decode cX0_dayOfAll 12 = .ok (.getfield 99, 3) := by decide +kernel
theorem dX0_dayOfAll_15 : decode cX0_dayOfAll 15 = .ok (.if_icmp .ge 31, 3) := by decide +kernel
theorem dX0_dayOfAll_18 : decode cX0_dayOfAll 18 = .ok (.iload_n 1, 1) := by decide +kernel
theorem dX0_dayOfAll_19 : decode cX0_dayOfAll 19 = .ok (.iload_n 3, 1) := by decide +kernel
theorem dX0_dayOfAll_20 : decode cX0_dayOfAll 20 = .ok (.invokestatic 113, 3) := by decide +kernel
theorem dX0_dayOfAll_23 : decode cX0_dayOfAll 23 = .ok (.ifCond .eq 15, 3) := by decide +kernel
theorem dX0_dayOfAll_26 : decode cX0_dayOfAll 26 = .ok (.iload_n 2, 1) := by decide +kernel
theorem dX0_dayOfAll_27 : decode cX0_dayOfAll 27 = .ok (.aload_n 0, 1) := by decide +kernel
theorem dX0_dayOfAll_28 : decode cX0_dayOfAll 28 = .ok (.iload_n 3, 1) := by decide +kernel
theorem dX0_dayOfAll_29 : decode cX0_dayOfAll 29 = .ok (.invokevirtual 102, 3) := by decide +kernel
theorem dX0_dayOfAll_32 : decode cX0_dayOfAll 32 = .ok (.invokestatic 116, 3) := by decide +kernel
theorem dX0_dayOfAll_35 : decode cX0_dayOfAll 35 = .ok (.goto 4, 3) := by decide +kernel
theorem dX0_dayOfAll_38 : decode cX0_dayOfAll 38 = .ok (.iload_n 2, 1) := by decide +kernel
theorem dX0_dayOfAll_39 : decode cX0_dayOfAll 39 = .ok (.istore_n 2, 1) := by decide +kernel
theorem dX0_dayOfAll_40 : decode cX0_dayOfAll 40 = .ok (.iinc 3 1, 3) := by decide +kernel
theorem dX0_dayOfAll_43 : decode cX0_dayOfAll 43 = .ok (.goto (-36), 3) := by decide +kernel
theorem dX0_dayOfAll_46 : decode cX0_dayOfAll 46 = .ok (.iload_n 2, 1) := by decide +kernel
theorem dX0_dayOfAll_47 : decode cX0_dayOfAll 47 = .ok (.ireturn, 1) := by decide +kernel
theorem dX0_whereIs_0 : decode cX0_whereIs 0 = .ok (.aload_n 0, 1) := by decide +kernel
theorem dX0_whereIs_1 : decode cX0_whereIs 1 = .ok (.getfield 34, 3) := by decide +kernel
theorem dX0_whereIs_4 : decode cX0_whereIs 4 = .ok (.iload_n 1, 1) := by decide +kernel
theorem dX0_whereIs_5 : decode cX0_whereIs 5 = .ok (.invokestatic 113, 3) := by decide +kernel
theorem dX0_whereIs_8 : decode cX0_whereIs 8 = .ok (.ifCond .eq 5, 3) := by decide +kernel
theorem dX0_whereIs_11 : decode cX0_whereIs 11 = .ok (.iconst 2, 1) := by decide +kernel
theorem dX0_whereIs_12 : decode cX0_whereIs 12 = .ok (.ireturn, 1) := by decide +kernel
theorem dX0_whereIs_13 : decode cX0_whereIs 13 = .ok (.aload_n 0, 1) := by decide +kernel
theorem dX0_whereIs_14 : decode cX0_whereIs 14 = .ok (.getfield 37, 3) := by decide +kernel
theorem dX0_whereIs_17 : decode cX0_whereIs 17 = .ok (.iload_n 1, 1) := by decide +kernel
theorem dX0_whereIs_18 : decode cX0_whereIs 18 = .ok (.invokestatic 113, 3) := by decide +kernel
theorem dX0_whereIs_21 : decode cX0_whereIs 21 = .ok (.ifCond .eq 5, 3) := by decide +kernel
theorem dX0_whereIs_24 : decode cX0_whereIs 24 = .ok (.iconst 3, 1) := by decide +kernel
theorem dX0_whereIs_25 : decode cX0_whereIs 25 = .ok (.ireturn, 1) := by decide +kernel
theorem dX0_whereIs_26 : decode cX0_whereIs 26 = .ok (.aload_n 0, 1) := by decide +kernel
theorem dX0_whereIs_27 : decode cX0_whereIs 27 = .ok (.iload_n 1, 1) := by decide +kernel
theorem dX0_whereIs_28 : decode cX0_whereIs 28 = .ok (.invokevirtual 102, 3) := by decide +kernel
theorem dX0_whereIs_31 : decode cX0_whereIs 31 = .ok (.aload_n 0, 1) := by decide +kernel
theorem dX0_whereIs_32 : decode cX0_whereIs 32 = .ok (.getfield 31, 3) := by decide +kernel
theorem dX0_whereIs_35 : decode cX0_whereIs 35 = .ok (.if_icmp .gt 7, 3) := by decide +kernel
theorem dX0_whereIs_38 : decode cX0_whereIs 38 = .ok (.iconst 1, 1) := by decide +kernel
theorem dX0_whereIs_39 : decode cX0_whereIs 39 = .ok (.goto 4, 3) := by decide +kernel
theorem dX0_whereIs_42 : decode cX0_whereIs 42 = .ok (.iconst 0, 1) := by decide +kernel
theorem dX0_whereIs_43 : decode cX0_whereIs 43 = .ok (.ireturn, 1) := by decide +kernel
theorem dX0_hindrance_0 : decode cX0_hindrance 0 = .ok (.aload_n 0, 1) := by decide +kernel
theorem dX0_hindrance_1 : decode cX0_hindrance 1 = .ok (.getfield 46, 3) := by decide +kernel
theorem dX0_hindrance_4 : decode cX0_hindrance 4 = .ok (.iload_n 1, 1) := by decide +kernel
theorem dX0_hindrance_5 : decode cX0_hindrance 5 = .ok (.iload_n 2, 1) := by decide +kernel
theorem dX0_hindrance_6 : decode cX0_hindrance 6 = .ok (.aload_n 0, 1) := by decide +kernel
theorem dX0_hindrance_7 : decode cX0_hindrance 7 = .ok (.getfield 40, 3) := by decide +kernel
theorem dX0_hindrance_10 : decode cX0_hindrance 10 = .ok (.aload_n 0, 1) := by decide +kernel
theorem dX0_hindrance_11 : decode cX0_hindrance 11 = .ok (.getfield 43, 3) := by decide +kernel
theorem dX0_hindrance_14 : decode cX0_hindrance 14 = .ok (.invokevirtual 122, 3) := by decide +kernel
theorem dX0_hindrance_17 : decode cX0_hindrance 17 = .ok (.ireturn, 1) := by decide +kernel
theorem dX0_deedsFor_0 : decode cX0_deedsFor 0 = .ok (.iconst 0, 1) := by decide +kernel
theorem dX0_deedsFor_1 : decode cX0_deedsFor 1 = .ok (.istore_n 2, 1) := by decide +kernel
theorem dX0_deedsFor_2 : decode cX0_deedsFor 2 = .ok (.iconst 0, 1) := by decide +kernel
theorem dX0_deedsFor_3 : decode cX0_deedsFor 3 = .ok (.istore_n 3, 1) := by decide +kernel
theorem dX0_deedsFor_4 : decode cX0_deedsFor 4 = .ok (.iload_n 3, 1) := by decide +kernel
theorem dX0_deedsFor_5 : decode cX0_deedsFor 5 = .ok (.aload_n 0, 1) := by decide +kernel
theorem dX0_deedsFor_6 : decode cX0_deedsFor 6 = .ok (.getfield 46, 3) := by decide +kernel
theorem dX0_deedsFor_9 : decode cX0_deedsFor 9 = .ok (.getfield 126, 3) := by decide +kernel
theorem dX0_deedsFor_12 : decode cX0_deedsFor 12 = .ok (.if_icmp .ge 28, 3) := by decide +kernel
theorem dX0_deedsFor_15 : decode cX0_deedsFor 15 = .ok (.iload_n 2, 1) := by decide +kernel
theorem dX0_deedsFor_16 : decode cX0_deedsFor 16 = .ok (.aload_n 0, 1) := by decide +kernel
theorem dX0_deedsFor_17 : decode cX0_deedsFor 17 = .ok (.iload_n 3, 1) := by decide +kernel
theorem dX0_deedsFor_18 : decode cX0_deedsFor 18 = .ok (.iload_n 1, 1) := by decide +kernel
theorem dX0_deedsFor_19 : decode cX0_deedsFor 19 = .ok (.invokevirtual 129, 3) := by decide +kernel
theorem dX0_deedsFor_22 : decode cX0_deedsFor 22 = .ok (.ifCond .ne 9, 3) := by decide +kernel
theorem dX0_deedsFor_25 : decode cX0_deedsFor 25 = .ok (.iconst 1, 1) := by decide +kernel
theorem dX0_deedsFor_26 : decode cX0_deedsFor 26 = .ok (.iload_n 3, 1) := by decide +kernel
theorem dX0_deedsFor_27 : decode cX0_deedsFor 27 = .ok (.ishl, 1) := by decide +kernel
theorem dX0_deedsFor_28 : decode cX0_deedsFor 28 = .ok (.goto 4, 3) := by decide +kernel
theorem dX0_deedsFor_31 : decode cX0_deedsFor 31 = .ok (.iconst 0, 1) := by decide +kernel
theorem dX0_deedsFor_32 : decode cX0_deedsFor 32 = .ok (.ior, 1) := by decide +kernel
theorem dX0_deedsFor_33 : decode cX0_deedsFor 33 = .ok (.istore_n 2, 1) := by decide +kernel
theorem dX0_deedsFor_34 : decode cX0_deedsFor 34 = .ok (.iinc 3 1, 3) := by decide +kernel
theorem dX0_deedsFor_37 : decode cX0_deedsFor 37 = .ok (.goto (-33), 3) := by decide +kernel
theorem dX0_deedsFor_40 : decode cX0_deedsFor 40 = .ok (.iload_n 2, 1) := by decide +kernel
theorem dX0_deedsFor_41 : decode cX0_deedsFor 41 = .ok (.ireturn, 1) := by decide +kernel
theorem dX1_init_0 : decode cX1_init 0 = .ok (.aload_n 0, 1) := by decide +kernel
theorem dX1_init_1 : decode cX1_init 1 = .ok (.invokespecial 3, 3) := by decide +kernel
theorem dX1_init_4 : decode cX1_init 4 = .ok (.aload_n 0, 1) := by decide +kernel
theorem dX1_init_5 : decode cX1_init 5 = .ok (.sipush 384, 3) := by decide +kernel
theorem dX1_init_8 : decode cX1_init 8 = .ok (.newarray .long, 2) := by decide +kernel
theorem dX1_init_10 : decode cX1_init 10 = .ok (.putfield 9, 3) := by decide +kernel
theorem dX1_init_13 : decode cX1_init 13 = .ok (.aload_n 0, 1) := by decide +kernel
theorem dX1_init_14 : decode cX1_init 14 = .ok (.sipush 384, 3) := by decide +kernel
theorem dX1_init_17 : decode cX1_init 17 = .ok (.newarray .long, 2) := by decide +kernel
theorem dX1_init_19 : decode cX1_init 19 = .ok (.putfield 15, 3) := by decide +kernel
theorem dX1_init_22 : decode cX1_init 22 = .ok (.aload_n 0, 1) := by decide +kernel
theorem dX1_init_23 : decode cX1_init 23 = .ok (.iconst 0, 1) := by decide +kernel
theorem dX1_init_24 : decode cX1_init 24 = .ok (.putfield 18, 3) := by decide +kernel
theorem dX1_init_27 : decode cX1_init 27 = .ok (.aload_n 0, 1) := by decide +kernel
theorem dX1_init_28 : decode cX1_init 28 = .ok (.iconst 0, 1) := by decide +kernel
theorem dX1_init_29 : decode cX1_init 29 = .ok (.putfield 22, 3) := by decide +kernel
theorem dX1_init_32 : decode cX1_init 32 = .ok (.aload_n 0, 1) := by decide +kernel
theorem dX1_init_33 : decode cX1_init 33 = .ok (.iconst 0, 1) := by decide +kernel
theorem dX1_init_34 : decode cX1_init 34 = .ok (.putfield 25, 3) := by decide +kernel
theorem dX1_init_37 : decode cX1_init 37 = .ok (.aload_n 0, 1) := by decide +kernel
theorem dX1_init_38 : decode cX1_init 38 = .ok (.iconst 0, 1) := by decide +kernel
theorem dX1_init_39 : decode cX1_init 39 = .ok (.putfield 28, 3) := by decide +kernel
theorem dX1_init_42 : decode cX1_init 42 = .ok (.aload_n 0, 1) := by decide +kernel
theorem dX1_init_43 : decode cX1_init 43 = .ok (.aload_n 1, 1) := by decide +kernel
theorem dX1_init_44 : decode cX1_init 44 = .ok (.putfield 31, 3) := by decide +kernel
theorem dX1_init_47 : decode cX1_init 47 = .ok (.return_, 1) := by decide +kernel
theorem dX1_start_0 : decode cX1_start 0 = .ok (.aload_n 0, 1) := by decide +kernel
theorem dX1_start_1 : decode cX1_start 1 = .ok (.iload_n 2, 1) := by decide +kernel
theorem dX1_start_2 : decode cX1_start 2 = .ok (.putfield 18, 3) := by decide +kernel
theorem dX1_start_5 : decode cX1_start 5 = .ok (.aload_n 0, 1) := by decide +kernel
theorem dX1_start_6 : decode cX1_start 6 = .ok (.iconst 0, 1) := by decide +kernel
theorem dX1_start_7 : decode cX1_start 7 = .ok (.putfield 22, 3) := by decide +kernel
theorem dX1_start_10 : decode cX1_start 10 = .ok (.aload_n 0, 1) := by decide +kernel
theorem dX1_start_11 : decode cX1_start 11 = .ok (.aload_n 1, 1) := by decide +kernel
theorem dX1_start_12 : decode cX1_start 12 = .ok (.getfield 35, 3) := by decide +kernel
theorem dX1_start_15 : decode cX1_start 15 = .ok (.iconst 2, 1) := by decide +kernel
theorem dX1_start_16 : decode cX1_start 16 = .ok (.invokestatic 40, 3) := by decide +kernel
theorem dX1_start_19 : decode cX1_start 19 = .ok (.putfield 25, 3) := by decide +kernel
theorem dX1_start_22 : decode cX1_start 22 = .ok (.aload_n 0, 1) := by decide +kernel
theorem dX1_start_23 : decode cX1_start 23 = .ok (.aload_n 1, 1) := by decide +kernel
theorem dX1_start_24 : decode cX1_start 24 = .ok (.getfield 46, 3) := by decide +kernel
theorem dX1_start_27 : decode cX1_start 27 = .ok (.putfield 28, 3) := by decide +kernel
theorem dX1_start_30 : decode cX1_start 30 = .ok (.return_, 1) := by decide +kernel
theorem dX1_follow_0 : decode cX1_follow 0 = .ok (.iconst 0, 1) := by decide +kernel
theorem dX1_follow_1 : decode cX1_follow 1 = .ok (.istore_n 3, 1) := by decide +kernel
theorem dX1_follow_2 : decode cX1_follow 2 = .ok (.iload_n 3, 1) := by decide +kernel
theorem dX1_follow_3 : decode cX1_follow 3 = .ok (.iload_n 2, 1) := by decide +kernel
theorem dX1_follow_4 : decode cX1_follow 4 = .ok (.if_icmp .ge 44, 3) := by decide +kernel
theorem dX1_follow_7 : decode cX1_follow 7 = .ok (.aload_n 0, 1) := by decide +kernel
theorem dX1_follow_8 : decode cX1_follow 8 = .ok (.aload_n 1, 1) := by decide +kernel
theorem dX1_follow_9 : decode cX1_follow 9 = .ok (.iconst 2, 1) := by decide +kernel
theorem dX1_follow_10 : decode cX1_follow 10 = .ok (.iload_n 3, 1) := by decide +kernel
theorem dX1_follow_11 : decode cX1_follow 11 = .ok (.imul, 1) := by decide +kernel
theorem dX1_follow_12 : decode cX1_follow 12 = .ok (.iaload, 1) := by decide +kernel
theorem dX1_follow_13 : decode cX1_follow 13 = .ok (.aload_n 1, 1) := by decide +kernel
theorem dX1_follow_14 : decode cX1_follow 14 = .ok (.iconst 2, 1) := by decide +kernel
theorem dX1_follow_15 : decode cX1_follow 15 = .ok (.iload_n 3, 1) := by decide +kernel
theorem dX1_follow_16 : decode cX1_follow 16 = .ok (.imul, 1) := by decide +kernel
theorem dX1_follow_17 : decode cX1_follow 17 = .ok (.iconst 1, 1) := by decide +kernel
theorem dX1_follow_18 : decode cX1_follow 18 = .ok (.iadd, 1) := by decide +kernel
theorem dX1_follow_19 : decode cX1_follow 19 = .ok (.iaload, 1) := by decide +kernel
theorem dX1_follow_20 : decode cX1_follow 20 = .ok (.invokevirtual 47, 3) := by decide +kernel
theorem dX1_follow_23 : decode cX1_follow 23 = .ok (.ifCond .eq 25, 3) := by decide +kernel
theorem dX1_follow_26 : decode cX1_follow 26 = .ok (.aload_n 0, 1) := by decide +kernel
theorem dX1_follow_27 : decode cX1_follow 27 = .ok (.aload_n 1, 1) := by decide +kernel
theorem dX1_follow_28 : decode cX1_follow 28 = .ok (.iconst 2, 1) := by decide +kernel
theorem dX1_follow_29 : decode cX1_follow 29 = .ok (.iload_n 3, 1) := by decide +kernel
theorem dX1_follow_30 : decode cX1_follow 30 = .ok (.imul, 1) := by decide +kernel
theorem dX1_follow_31 : decode cX1_follow 31 = .ok (.iaload, 1) := by decide +kernel
theorem dX1_follow_32 : decode cX1_follow 32 = .ok (.aload_n 1, 1) := by decide +kernel
theorem dX1_follow_33 : decode cX1_follow 33 = .ok (.iconst 2, 1) := by decide +kernel
theorem dX1_follow_34 : decode cX1_follow 34 = .ok (.iload_n 3, 1) := by decide +kernel
theorem dX1_follow_35 : decode cX1_follow 35 = .ok (.imul, 1) := by decide +kernel
theorem dX1_follow_36 : decode cX1_follow 36 = .ok (.iconst 1, 1) := by decide +kernel
theorem dX1_follow_37 : decode cX1_follow 37 = .ok (.iadd, 1) := by decide +kernel
theorem dX1_follow_38 : decode cX1_follow 38 = .ok (.iaload, 1) := by decide +kernel
theorem dX1_follow_39 : decode cX1_follow 39 = .ok (.invokevirtual 51, 3) := by decide +kernel
theorem dX1_follow_42 : decode cX1_follow 42 = .ok (.iinc 3 1, 3) := by decide +kernel
theorem dX1_follow_45 : decode cX1_follow 45 = .ok (.goto (-43), 3) := by decide +kernel
theorem dX1_follow_48 : decode cX1_follow 48 = .ok (.iload_n 3, 1) := by decide +kernel
theorem dX1_follow_49 : decode cX1_follow 49 = .ok (.ireturn, 1) := by decide +kernel
theorem dX1_fits_0 : decode cX1_fits 0 = .ok (.aload_n 0, 1) := by decide +kernel
theorem dX1_fits_1 : decode cX1_fits 1 = .ok (.getfield 18, 3) := by decide +kernel
theorem dX1_fits_4 : decode cX1_fits 4 = .ok (.aload_n 0, 1) := by decide +kernel
theorem dX1_fits_5 : decode cX1_fits 5 = .ok (.getfield 22, 3) := by decide +kernel
theorem dX1_fits_8 : decode cX1_fits 8 = .ok (.iconst (-1), 1) := by decide +kernel
theorem dX1_fits_9 : decode cX1_fits 9 = .ok (.ixor, 1) := by decide +kernel
theorem dX1_fits_10 : decode cX1_fits 10 = .ok (.iand, 1) := by decide +kernel
theorem dX1_fits_11 : decode cX1_fits 11 = .ok (.iload_n 1, 1) := by decide +kernel
theorem dX1_fits_12 : decode cX1_fits 12 = .ok (.invokestatic 55, 3) := by decide +kernel
theorem dX1_fits_15 : decode cX1_fits 15 = .ok (.ifCond .eq 33, 3) := by decide +kernel
theorem dX1_fits_18 : decode cX1_fits 18 = .ok (.iload_n 2, 1) := by decide +kernel
theorem dX1_fits_19 : decode cX1_fits 19 = .ok (.bipush (-9), 2) := by decide +kernel
theorem dX1_fits_21 : decode cX1_fits 21 = .ok (.if_icmp .eq 23, 3) := by decide +kernel
theorem dX1_fits_24 : decode cX1_fits 24 = .ok (.aload_n 0, 1) := by decide +kernel
theorem dX1_fits_25 : decode cX1_fits 25 = .ok (.getfield 31, 3) := by decide +kernel
theorem dX1_fits_28 : decode cX1_fits 28 = .ok (.iload_n 2, 1) := by decide +kernel
theorem dX1_fits_29 : decode cX1_fits 29 = .ok (.iload_n 1, 1) := by decide +kernel
theorem dX1_fits_30 : decode cX1_fits 30 = .ok (.aload_n 0, 1) := by decide +kernel
theorem dX1_fits_31 : decode cX1_fits 31 = .ok (.getfield 28, 3) := by decide +kernel
theorem dX1_fits_34 : decode cX1_fits 34 = .ok (.aload_n 0, 1) := by decide +kernel
theorem dX1_fits_35 : decode cX1_fits 35 = .ok (.getfield 25, 3) := by decide +kernel
theorem dX1_fits_38 : decode cX1_fits 38 = .ok (.invokevirtual 58, 3) := by decide +kernel
theorem dX1_fits_41 : decode cX1_fits 41 = .ok (.ifCond .ne 7, 3) := by decide +kernel
theorem dX1_fits_44 : decode cX1_fits 44 = .ok (.iconst 1, 1) := by decide +kernel
theorem dX1_fits_45 : decode cX1_fits 45 = .ok (.goto 4, 3) := by decide +kernel
theorem dX1_fits_48 : decode cX1_fits 48 = .ok (.iconst 0, 1) := by decide +kernel
theorem dX1_fits_49 : decode cX1_fits 49 = .ok (.ireturn, 1) := by decide +kernel
theorem dX1_live_0 : decode cX1_live 0 = .ok (.aload_n 0, 1) := by decide +kernel
theorem dX1_live_1 : decode cX1_live 1 = .ok (.dup, 1) := by decide +kernel
theorem dX1_live_2 : decode cX1_live 2 = .ok (.getfield 22, 3) := by decide +kernel
theorem dX1_live_5 : decode cX1_live 5 = .ok (.iconst 1, 1) := by decide +kernel
theorem dX1_live_6 : decode cX1_live 6 = .ok (.iload_n 1, 1) := by decide +kernel
theorem dX1_live_7 : decode cX1_live 7 = .ok (.ishl, 1) := by decide +kernel
theorem dX1_live_8 : decode cX1_live 8 = .ok (.ior, 1) := by decide +kernel
theorem dX1_live_9 : decode cX1_live 9 = .ok (.putfield 22, 3) := by decide +kernel
theorem dX1_live_12 : decode cX1_live 12 = .ok (.aload_n 0, 1) := by decide +kernel
theorem dX1_live_13 : decode cX1_live 13 = .ok (.aload_n 0, 1) := by decide +kernel
theorem dX1_live_14 : decode cX1_live 14 = .ok (.aload_n 0, 1) := by decide +kernel
theorem dX1_live_15 : decode cX1_live 15 = .ok (.getfield 25, 3) := by decide +kernel
theorem dX1_live_18 : decode cX1_live 18 = .ok (.iload_n 2, 1) := by decide +kernel
theorem dX1_live_19 : decode cX1_live 19 = .ok (.invokevirtual 64, 3) := by decide +kernel
theorem dX1_live_22 : decode cX1_live 22 = .ok (.putfield 25, 3) := by decide +kernel
theorem dX1_live_25 : decode cX1_live 25 = .ok (.aload_n 0, 1) := by decide +kernel
theorem dX1_live_26 : decode cX1_live 26 = .ok (.dup, 1) := by decide +kernel
theorem dX1_live_27 : decode cX1_live 27 = .ok (.getfield 28, 3) := by decide +kernel
theorem dX1_live_30 : decode cX1_live 30 = .ok (.iload_n 2, 1) := by decide +kernel
theorem dX1_live_31 : decode cX1_live 31 = .ok (.invokestatic 67, 3) := by decide +kernel
theorem dX1_live_34 : decode cX1_live 34 = .ok (.ior, 1) := by decide +kernel
theorem dX1_live_35 : decode cX1_live 35 = .ok (.putfield 28, 3) := by decide +kernel
theorem dX1_live_38 : decode cX1_live 38 = .ok (.return_, 1) := by decide +kernel
theorem dX1_gapBehind_0 : decode cX1_gapBehind 0 = .ok (.iload_n 2, 1) := by decide +kernel
theorem dX1_gapBehind_1 : decode cX1_gapBehind 1 = .ok (.bipush (-9), 2) := by decide +kernel
theorem dX1_gapBehind_3 : decode cX1_gapBehind 3 = .ok (.if_icmp .eq 19, 3) := by decide +kernel
theorem dX1_gapBehind_6 : decode cX1_gapBehind 6 = .ok (.aload_n 0, 1) := by decide +kernel
theorem dX1_gapBehind_7 : decode cX1_gapBehind 7 = .ok (.getfield 31, 3) := by decide +kernel
theorem dX1_gapBehind_10 : decode cX1_gapBehind 10 = .ok (.iload_n 2, 1) := by decide +kernel
theorem dX1_gapBehind_11 : decode cX1_gapBehind 11 = .ok (.iconst 1, 1) := by decide +kernel
theorem dX1_gapBehind_12 : decode cX1_gapBehind 12 = .ok (.invokevirtual 71, 3) := by decide +kernel
theorem dX1_gapBehind_15 : decode cX1_gapBehind 15 = .ok (.ifCond .eq 7, 3) := by decide +kernel
theorem dX1_gapBehind_18 : decode cX1_gapBehind 18 = .ok (.iconst 1, 1) := by decide +kernel
theorem dX1_gapBehind_19 : decode cX1_gapBehind 19 = .ok (.goto 4, 3) := by decide +kernel
theorem dX1_gapBehind_22 : decode cX1_gapBehind 22 = .ok (.iconst 0, 1) := by decide +kernel
theorem dX1_gapBehind_23 : decode cX1_gapBehind 23 = .ok (.istore_n 3, 1) := by decide +kernel
theorem dX1_gapBehind_24 : decode cX1_gapBehind 24 = .ok (.iload_n 3, 1) := by decide +kernel
theorem dX1_gapBehind_25 : decode cX1_gapBehind 25 = .ok (.ifCond .eq 7, 3) := by decide +kernel
theorem dX1_gapBehind_28 : decode cX1_gapBehind 28 = .ok (.iconst 0, 1) := by decide +kernel
theorem dX1_gapBehind_29 : decode cX1_gapBehind 29 = .ok (.goto 10, 3) := by decide +kernel
theorem dX1_gapBehind_32 : decode cX1_gapBehind 32 = .ok (.iload_n 1, 1) := by decide +kernel
theorem dX1_gapBehind_33 : decode cX1_gapBehind 33 = .ok (.iconst 1, 1) := by decide +kernel
theorem dX1_gapBehind_34 : decode cX1_gapBehind 34 = .ok (.iadd, 1) := by decide +kernel
theorem dX1_gapBehind_35 : decode cX1_gapBehind 35 = .ok (.iconst 2, 1) := by decide +kernel
theorem dX1_gapBehind_36 : decode cX1_gapBehind 36 = .ok (.invokestatic 40, 3) := by decide +kernel
theorem dX1_gapBehind_39 : decode cX1_gapBehind 39 = .ok (.ireturn, 1) := by decide +kernel
theorem dX1_deedBit_0 : decode cX1_deedBit 0 = .ok (.iload_n 0, 1) := by decide +kernel
theorem dX1_deedBit_1 : decode cX1_deedBit 1 = .ok (.bipush (-9), 2) := by decide +kernel
theorem dX1_deedBit_3 : decode cX1_deedBit 3 = .ok (.if_icmp .ne 7, 3) := by decide +kernel
theorem dX1_deedBit_6 : decode cX1_deedBit 6 = .ok (.iconst 0, 1) := by decide +kernel
theorem dX1_deedBit_7 : decode cX1_deedBit 7 = .ok (.goto 6, 3) := by decide +kernel
theorem dX1_deedBit_10 : decode cX1_deedBit 10 = .ok (.iconst 1, 1) := by decide +kernel
theorem dX1_deedBit_11 : decode cX1_deedBit 11 = .ok (.iload_n 0, 1) := by decide +kernel
theorem dX1_deedBit_12 : decode cX1_deedBit 12 = .ok (.ishl, 1) := by decide +kernel
theorem dX1_deedBit_13 : decode cX1_deedBit 13 = .ok (.ireturn, 1) := by decide +kernel
theorem dX1_explore_0 : decode cX1_explore 0 = .ok (.aload_n 0, 1) := by decide +kernel
theorem dX1_explore_1 : decode cX1_explore 1 = .ok (.aload_n 1, 1) := by decide +kernel
theorem dX1_explore_2 : decode cX1_explore 2 = .ok (.iload_n 2, 1) := by decide +kernel
theorem dX1_explore_3 : decode cX1_explore 3 = .ok (.invokevirtual 74, 3) := by decide +kernel
theorem dX1_explore_6 : decode cX1_explore 6 = .ok (.aload_n 0, 1) := by decide +kernel
theorem dX1_explore_7 : decode cX1_explore 7 = .ok (.getfield 9, 3) := by decide +kernel
theorem dX1_explore_10 : decode cX1_explore 10 = .ok (.lconst 0, 1) := by decide +kernel
theorem dX1_explore_11 : decode cX1_explore 11 = .ok (.invokestatic 78, 3) := by decide +kernel
theorem dX1_explore_14 : decode cX1_explore 14 = .ok (.aload_n 0, 1) := by decide +kernel
theorem dX1_explore_15 : decode cX1_explore 15 = .ok (.getfield 9, 3) := by decide +kernel
theorem dX1_explore_18 : decode cX1_explore 18 = .ok (.aload_n 0, 1) := by decide +kernel
theorem dX1_explore_19 : decode cX1_explore 19 = .ok (.getfield 25, 3) := by decide +kernel
theorem dX1_explore_22 : decode cX1_explore 22 = .ok (.lconst 1, 1) := by decide +kernel
theorem dX1_explore_23 : decode cX1_explore 23 = .ok (.aload_n 0, 1) := by decide +kernel
theorem dX1_explore_24 : decode cX1_explore 24 = .ok (.getfield 28, 3) := by decide +kernel
theorem dX1_explore_27 : decode cX1_explore 27 = .ok (.lshl, 1) := by decide +kernel
theorem dX1_explore_28 : decode cX1_explore 28 = .ok (.lastore, 1) := by decide +kernel
theorem dX1_explore_29 : decode cX1_explore 29 = .ok (.iconst 0, 1) := by decide +kernel
theorem dX1_explore_30 : decode cX1_explore 30 = .ok (.istore_n 3, 1) := by decide +kernel
theorem dX1_explore_31 : decode cX1_explore 31 = .ok (.iload_n 3, 1) := by decide +kernel
theorem dX1_explore_32 : decode cX1_explore 32 = .ok (.sipush 128, 3) := by decide +kernel
theorem dX1_explore_35 : decode cX1_explore 35 = .ok (.if_icmp .ge 47, 3) := by decide +kernel
theorem dX1_explore_38 : decode cX1_explore 38 = .ok (.iconst 0, 1) := by decide +kernel
theorem dX1_explore_39 : decode cX1_explore 39 = .ok (.istore 4, 2) := by decide +kernel
theorem dX1_explore_41 : decode cX1_explore 41 = .ok (.iload 4, 2) := by decide +kernel
theorem dX1_explore_43 : decode cX1_explore 43 = .ok (.iconst 3, 1) := by decide +kernel
theorem dX1_explore_44 : decode cX1_explore 44 = .ok (.if_icmp .ge 32, 3) := by decide +kernel
theorem dX1_explore_47 : decode cX1_explore 47 = .ok (.aload_n 0, 1) := by decide +kernel
theorem dX1_explore_48 : decode cX1_explore 48 = .ok (.getfield 9, 3) := by decide +kernel
theorem dX1_explore_51 : decode cX1_explore 51 = .ok (.iload_n 3, 1) := by decide +kernel
theorem dX1_explore_52 : decode cX1_explore 52 = .ok (.iconst 3, 1) := by decide +kernel
theorem dX1_explore_53 : decode cX1_explore 53 = .ok (.imul, 1) := by decide +kernel
theorem dX1_explore_54 : decode cX1_explore 54 = .ok (.iload 4, 2) := by decide +kernel
theorem dX1_explore_56 : decode cX1_explore 56 = .ok (.iadd, 1) := by decide +kernel
theorem dX1_explore_57 : decode cX1_explore 57 = .ok (.laload, 1) := by decide +kernel
theorem dX1_explore_58 : decode cX1_explore 58 = .ok (.lconst 0, 1) := by decide +kernel
theorem dX1_explore_59 : decode cX1_explore 59 = .ok (.lcmp, 1) := by decide +kernel
theorem dX1_explore_60 : decode cX1_explore 60 = .ok (.ifCond .eq 10, 3) := by decide +kernel
theorem dX1_explore_63 : decode cX1_explore 63 = .ok (.aload_n 0, 1) := by decide +kernel
theorem dX1_explore_64 : decode cX1_explore 64 = .ok (.iload_n 3, 1) := by decide +kernel
theorem dX1_explore_65 : decode cX1_explore 65 = .ok (.iload 4, 2) := by decide +kernel
theorem dX1_explore_67 : decode cX1_explore 67 = .ok (.invokevirtual 84, 3) := by decide +kernel
theorem dX1_explore_70 : decode cX1_explore 70 = .ok (.iinc 4 1, 3) := by decide +kernel
theorem dX1_explore_73 : decode cX1_explore 73 = .ok (.goto (-32), 3) := by decide +kernel
theorem dX1_explore_76 : decode cX1_explore 76 = .ok (.iinc 3 1, 3) := by decide +kernel
theorem dX1_explore_79 : decode cX1_explore 79 = .ok (.goto (-48), 3) := by decide +kernel
theorem dX1_explore_82 : decode cX1_explore 82 = .ok (.return_, 1) := by decide +kernel
theorem dX1_spread_0 : decode cX1_spread 0 = .ok (.aload_n 0, 1) := by decide +kernel
theorem dX1_spread_1 : decode cX1_spread 1 = .ok (.getfield 9, 3) := by decide +kernel
theorem dX1_spread_4 : decode cX1_spread 4 = .ok (.iload_n 1, 1) := by decide +kernel
theorem dX1_spread_5 : decode cX1_spread 5 = .ok (.iconst 3, 1) := by decide +kernel
theorem dX1_spread_6 : decode cX1_spread 6 = .ok (.imul, 1) := by decide +kernel
theorem dX1_spread_7 : decode cX1_spread 7 = .ok (.iload_n 2, 1) := by decide +kernel
theorem dX1_spread_8 : decode cX1_spread 8 = .ok (.iadd, 1) := by decide +kernel
theorem dX1_spread_9 : decode cX1_spread 9 = .ok (.laload, 1) := by decide +kernel
theorem dX1_spread_10 : decode cX1_spread 10 = .ok (.lstore_n 3, 1) := by decide +kernel
theorem dX1_spread_11 : decode cX1_spread 11 = .ok (.aload_n 0, 1) := by decide +kernel
theorem dX1_spread_12 : decode cX1_spread 12 = .ok (.lload_n 3, 1) := by decide +kernel
theorem dX1_spread_13 : decode cX1_spread 13 = .ok (.iload_n 1, 1) := by decide +kernel
theorem dX1_spread_14 : decode cX1_spread 14 = .ok (.aload_n 0, 1) := by decide +kernel
theorem dX1_spread_15 : decode cX1_spread 15 = .ok (.iload_n 2, 1) := by decide +kernel
theorem dX1_spread_16 : decode cX1_spread 16 = .ok (.bipush (-9), 2) := by decide +kernel
theorem dX1_spread_18 : decode cX1_spread 18 = .ok (.invokevirtual 64, 3) := by decide +kernel
theorem dX1_spread_21 : decode cX1_spread 21 = .ok (.aload_n 0, 1) := by decide +kernel
theorem dX1_spread_22 : decode cX1_spread 22 = .ok (.getfield 18, 3) := by decide +kernel
theorem dX1_spread_25 : decode cX1_spread 25 = .ok (.invokevirtual 87, 3) := by decide +kernel
theorem dX1_spread_28 : decode cX1_spread 28 = .ok (.iconst 0, 1) := by decide +kernel
theorem dX1_spread_29 : decode cX1_spread 29 = .ok (.istore 5, 2) := by decide +kernel
theorem dX1_spread_31 : decode cX1_spread 31 = .ok (.iload 5, 2) := by decide +kernel
theorem dX1_spread_33 : decode cX1_spread 33 = .ok (.aload_n 0, 1) := by decide +kernel
theorem dX1_spread_34 : decode cX1_spread 34 = .ok (.getfield 31, 3) := by decide +kernel
theorem dX1_spread_37 : decode cX1_spread 37 = .ok (.getfield 91, 3) := by decide +kernel
theorem dX1_spread_40 : decode cX1_spread 40 = .ok (.if_icmp .ge 78, 3) := by decide +kernel
theorem dX1_spread_43 : decode cX1_spread 43 = .ok (.lload_n 3, 1) := by decide +kernel
theorem dX1_spread_44 : decode cX1_spread 44 = .ok (.aload_n 0, 1) := by decide +kernel
theorem dX1_spread_45 : decode cX1_spread 45 = .ok (.getfield 31, 3) := by decide +kernel
theorem dX1_spread_48 : decode cX1_spread 48 = .ok (.getfield 94, 3) := by decide +kernel
theorem dX1_spread_51 : decode cX1_spread 51 = .ok (.iload 5, 2) := by decide +kernel
theorem dX1_spread_53 : decode cX1_spread 53 = .ok (.laload, 1) := by decide +kernel
theorem dX1_spread_54 : decode cX1_spread 54 = .ok (.land, 1) := by decide +kernel
theorem dX1_spread_55 : decode cX1_spread 55 = .ok (.lstore 6, 2) := by decide +kernel
theorem dX1_spread_57 : decode cX1_spread 57 = .ok (.lload 6, 2) := by decide +kernel
theorem dX1_spread_59 : decode cX1_spread 59 = .ok (.lconst 0, 1) := by decide +kernel
theorem dX1_spread_60 : decode cX1_spread 60 = .ok (.lcmp, 1) := by decide +kernel
theorem dX1_spread_61 : decode cX1_spread 61 = .ok (.ifCond .eq 51, 3) := by decide +kernel
theorem dX1_spread_64 : decode cX1_spread 64 = .ok (.aload_n 0, 1) := by decide +kernel
theorem dX1_spread_65 : decode cX1_spread 65 = .ok (.getfield 31, 3) := by decide +kernel
theorem dX1_spread_68 : decode cX1_spread 68 = .ok (.iload 5, 2) := by decide +kernel
theorem dX1_spread_70 : decode cX1_spread 70 = .ok (.iload_n 2, 1) := by decide +kernel
theorem dX1_spread_71 : decode cX1_spread 71 = .ok (.invokevirtual 97, 3) := by decide +kernel
theorem dX1_spread_74 : decode cX1_spread 74 = .ok (.ifCond .eq 38, 3) := by decide +kernel
theorem dX1_spread_77 : decode cX1_spread 77 = .ok (.aload_n 0, 1) := by decide +kernel
theorem dX1_spread_78 : decode cX1_spread 78 = .ok (.lload 6, 2) := by decide +kernel
theorem dX1_spread_80 : decode cX1_spread 80 = .ok (.iload 5, 2) := by decide +kernel
theorem dX1_spread_82 : decode cX1_spread 82 = .ok (.invokestatic 67, 3) := by decide +kernel
theorem dX1_spread_85 : decode cX1_spread 85 = .ok (.lshl, 1) := by decide +kernel
theorem dX1_spread_86 : decode cX1_spread 86 = .ok (.iload_n 1, 1) := by decide +kernel
theorem dX1_spread_87 : decode cX1_spread 87 = .ok (.aload_n 0, 1) := by decide +kernel
theorem dX1_spread_88 : decode cX1_spread 88 = .ok (.iload_n 2, 1) := by decide +kernel
theorem dX1_spread_89 : decode cX1_spread 89 = .ok (.iload 5, 2) := by decide +kernel
theorem dX1_spread_91 : decode cX1_spread 91 = .ok (.invokevirtual 64, 3) := by decide +kernel
theorem dX1_spread_94 : decode cX1_spread 94 = .ok (.aload_n 0, 1) := by decide +kernel
theorem dX1_spread_95 : decode cX1_spread 95 = .ok (.getfield 18, 3) := by decide +kernel
theorem dX1_spread_98 : decode cX1_spread 98 = .ok (.aload_n 0, 1) := by decide +kernel
theorem dX1_spread_99 : decode cX1_spread 99 = .ok (.getfield 31, 3) := by decide +kernel
theorem dX1_spread_102 : decode cX1_spread 102 = .ok (.getfield 100, 3) := by decide +kernel
theorem dX1_spread_105 : decode cX1_spread 105 = .ok (.iload 5, 2) := by decide +kernel
theorem dX1_spread_107 : decode cX1_spread 107 = .ok (.iaload, 1) := by decide +kernel
theorem dX1_spread_108 : decode cX1_spread 108 = .ok (.iand, 1) := by decide +kernel
theorem dX1_spread_109 : decode cX1_spread 109 = .ok (.invokevirtual 87, 3) := by decide +kernel
theorem dX1_spread_112 : decode cX1_spread 112 = .ok (.iinc 5 1, 3) := by decide +kernel
theorem dX1_spread_115 : decode cX1_spread 115 = .ok (.goto (-84), 3) := by decide +kernel
theorem dX1_spread_118 : decode cX1_spread 118 = .ok (.return_, 1) := by decide +kernel
theorem dX1_pass_0 : decode cX1_pass 0 = .ok (.iload 5, 2) := by decide +kernel
theorem dX1_pass_2 : decode cX1_pass 2 = .ok (.iload_n 3, 1) := by decide +kernel
theorem dX1_pass_3 : decode cX1_pass 3 = .ok (.iconst (-1), 1) := by decide +kernel
theorem dX1_pass_4 : decode cX1_pass 4 = .ok (.ixor, 1) := by decide +kernel
theorem dX1_pass_5 : decode cX1_pass 5 = .ok (.iand, 1) := by decide +kernel
theorem dX1_pass_6 : decode cX1_pass 6 = .ok (.istore 6, 2) := by decide +kernel
theorem dX1_pass_8 : decode cX1_pass 8 = .ok (.iconst 0, 1) := by decide +kernel
theorem dX1_pass_9 : decode cX1_pass 9 = .ok (.istore 7, 2) := by decide +kernel
theorem dX1_pass_11 : decode cX1_pass 11 = .ok (.iload 7, 2) := by decide +kernel
theorem dX1_pass_13 : decode cX1_pass 13 = .ok (.bipush 7, 2) := by decide +kernel
theorem dX1_pass_15 : decode cX1_pass 15 = .ok (.if_icmp .ge 47, 3) := by decide +kernel
theorem dX1_pass_18 : decode cX1_pass 18 = .ok (.iload 6, 2) := by decide +kernel
theorem dX1_pass_20 : decode cX1_pass 20 = .ok (.ifCond .eq 42, 3) := by decide +kernel
theorem dX1_pass_23 : decode cX1_pass 23 = .ok (.iload 6, 2) := by decide +kernel
theorem dX1_pass_25 : decode cX1_pass 25 = .ok (.iload 6, 2) := by decide +kernel
theorem dX1_pass_27 : decode cX1_pass 27 = .ok (.ineg, 1) := by decide +kernel
theorem dX1_pass_28 : decode cX1_pass 28 = .ok (.iand, 1) := by decide +kernel
theorem dX1_pass_29 : decode cX1_pass 29 = .ok (.istore 8, 2) := by decide +kernel
theorem dX1_pass_31 : decode cX1_pass 31 = .ok (.iload 6, 2) := by decide +kernel
theorem dX1_pass_33 : decode cX1_pass 33 = .ok (.iload 8, 2) := by decide +kernel
theorem dX1_pass_35 : decode cX1_pass 35 = .ok (.isub, 1) := by decide +kernel
theorem dX1_pass_36 : decode cX1_pass 36 = .ok (.istore 6, 2) := by decide +kernel
theorem dX1_pass_38 : decode cX1_pass 38 = .ok (.aload_n 0, 1) := by decide +kernel
theorem dX1_pass_39 : decode cX1_pass 39 = .ok (.getfield 9, 3) := by decide +kernel
theorem dX1_pass_42 : decode cX1_pass 42 = .ok (.iload_n 3, 1) := by decide +kernel
theorem dX1_pass_43 : decode cX1_pass 43 = .ok (.iload 8, 2) := by decide +kernel
theorem dX1_pass_45 : decode cX1_pass 45 = .ok (.ior, 1) := by decide +kernel
theorem dX1_pass_46 : decode cX1_pass 46 = .ok (.iconst 3, 1) := by decide +kernel
theorem dX1_pass_47 : decode cX1_pass 47 = .ok (.imul, 1) := by decide +kernel
theorem dX1_pass_48 : decode cX1_pass 48 = .ok (.iload 4, 2) := by decide +kernel
theorem dX1_pass_50 : decode cX1_pass 50 = .ok (.iadd, 1) := by decide +kernel
theorem dX1_pass_51 : decode cX1_pass 51 = .ok (.dup2, 1) := by decide +kernel
theorem dX1_pass_52 : decode cX1_pass 52 = .ok (.laload, 1) := by decide +kernel
theorem dX1_pass_53 : decode cX1_pass 53 = .ok (.lload_n 1, 1) := by decide +kernel
theorem dX1_pass_54 : decode cX1_pass 54 = .ok (.lor, 1) := by decide +kernel
theorem dX1_pass_55 : decode cX1_pass 55 = .ok (.lastore, 1) := by decide +kernel
theorem dX1_pass_56 : decode cX1_pass 56 = .ok (.iinc 7 1, 3) := by decide +kernel
theorem dX1_pass_59 : decode cX1_pass 59 = .ok (.goto (-48), 3) := by decide +kernel
theorem dX1_pass_62 : decode cX1_pass 62 = .ok (.return_, 1) := by decide +kernel
theorem dX1_doneBy_0 : decode cX1_doneBy 0 = .ok (.lconst 0, 1) := by decide +kernel
theorem dX1_doneBy_1 : decode cX1_doneBy 1 = .ok (.lstore_n 2, 1) := by decide +kernel
theorem dX1_doneBy_2 : decode cX1_doneBy 2 = .ok (.iconst 0, 1) := by decide +kernel
theorem dX1_doneBy_3 : decode cX1_doneBy 3 = .ok (.istore 4, 2) := by decide +kernel
theorem dX1_doneBy_5 : decode cX1_doneBy 5 = .ok (.iload 4, 2) := by decide +kernel
theorem dX1_doneBy_7 : decode cX1_doneBy 7 = .ok (.iconst 3, 1) := by decide +kernel
theorem dX1_doneBy_8 : decode cX1_doneBy 8 = .ok (.if_icmp .ge 23, 3) := by decide +kernel
theorem dX1_doneBy_11 : decode cX1_doneBy 11 = .ok (.lload_n 2, 1) := by decide +kernel
theorem dX1_doneBy_12 : decode cX1_doneBy 12 = .ok (.aload_n 0, 1) := by decide +kernel
theorem dX1_doneBy_13 : decode cX1_doneBy 13 = .ok (.getfield 9, 3) := by decide +kernel
theorem dX1_doneBy_16 : decode cX1_doneBy 16 = .ok (.iload_n 1, 1) := by decide +kernel
theorem dX1_doneBy_17 : decode cX1_doneBy 17 = .ok (.iconst 3, 1) := by decide +kernel
theorem dX1_doneBy_18 : decode cX1_doneBy 18 = .ok (.imul, 1) := by decide +kernel
theorem dX1_doneBy_19 : decode cX1_doneBy 19 = .ok (.iload 4, 2) := by decide +kernel
theorem dX1_doneBy_21 : decode cX1_doneBy 21 = .ok (.iadd, 1) := by decide +kernel
theorem dX1_doneBy_22 : decode cX1_doneBy 22 = .ok (.laload, 1) := by decide +kernel
theorem dX1_doneBy_23 : decode cX1_doneBy 23 = .ok (.lor, 1) := by decide +kernel
theorem dX1_doneBy_24 : decode cX1_doneBy 24 = .ok (.lstore_n 2, 1) := by decide +kernel
theorem dX1_doneBy_25 : decode cX1_doneBy 25 = .ok (.iinc 4 1, 3) := by decide +kernel
theorem dX1_doneBy_28 : decode cX1_doneBy 28 = .ok (.goto (-23), 3) := by decide +kernel
theorem dX1_doneBy_31 : decode cX1_doneBy 31 = .ok (.lload_n 2, 1) := by decide +kernel
theorem dX1_doneBy_32 : decode cX1_doneBy 32 = .ok (.lreturn, 1) := by decide +kernel
theorem dX1_does_0 : decode cX1_does 0 = .ok (.aload_n 0, 1) := by decide +kernel
theorem dX1_does_1 : decode cX1_does 1 = .ok (.iload_n 2, 1) := by decide +kernel
theorem dX1_does_2 : decode cX1_does 2 = .ok (.invokevirtual 104, 3) := by decide +kernel
theorem dX1_does_5 : decode cX1_does 5 = .ok (.getstatic 108, 3) := by decide +kernel
theorem dX1_does_8 : decode cX1_does 8 = .ok (.iload_n 1, 1) := by decide +kernel
theorem dX1_does_9 : decode cX1_does 9 = .ok (.laload, 1) := by decide +kernel
theorem dX1_does_10 : decode cX1_does 10 = .ok (.land, 1) := by decide +kernel
theorem dX1_does_11 : decode cX1_does 11 = .ok (.lconst 0, 1) := by decide +kernel
theorem dX1_does_12 : decode cX1_does 12 = .ok (.lcmp, 1) := by decide +kernel
theorem dX1_does_13 : decode cX1_does 13 = .ok (.ifCond .eq 7, 3) := by decide +kernel
theorem dX1_does_16 : decode cX1_does 16 = .ok (.iconst 1, 1) := by decide +kernel
theorem dX1_does_17 : decode cX1_does 17 = .ok (.goto 4, 3) := by decide +kernel
theorem dX1_does_20 : decode cX1_does 20 = .ok (.iconst 0, 1) := by decide +kernel
theorem dX1_does_21 : decode cX1_does 21 = .ok (.ireturn, 1) := by decide +kernel
theorem dX1_largestOf_0 : decode cX1_largestOf 0 = .ok (.bipush 6, 2) := by decide +kernel
theorem dX1_largestOf_2 : decode cX1_largestOf 2 = .ok (.istore_n 2, 1) := by decide +kernel
theorem dX1_largestOf_3 : decode cX1_largestOf 3 = .ok (.iload_n 2, 1) := by decide +kernel
theorem dX1_largestOf_4 : decode cX1_largestOf 4 = .ok (.ifCond .le 21, 3) := by decide +kernel
theorem dX1_largestOf_7 : decode cX1_largestOf 7 = .ok (.lload_n 0, 1) := by decide +kernel
theorem dX1_largestOf_8 : decode cX1_largestOf 8 = .ok (.getstatic 111, 3) := by decide +kernel
theorem dX1_largestOf_11 : decode cX1_largestOf 11 = .ok (.iload_n 2, 1) := by decide +kernel
theorem dX1_largestOf_12 : decode cX1_largestOf 12 = .ok (.laload, 1) := by decide +kernel
theorem dX1_largestOf_13 : decode cX1_largestOf 13 = .ok (.land, 1) := by decide +kernel
theorem dX1_largestOf_14 : decode cX1_largestOf 14 = .ok (.lconst 0, 1) := by decide +kernel
theorem dX1_largestOf_15 : decode cX1_largestOf 15 = .ok (.lcmp, 1) := by decide +kernel
theorem dX1_largestOf_16 : decode cX1_largestOf 16 = .ok (.ifCond .ne 9, 3) := by decide +kernel
theorem dX1_largestOf_19 : decode cX1_largestOf 19 = .ok (.iinc 2 (-1), 3) := by decide +kernel
theorem dX1_largestOf_22 : decode cX1_largestOf 22 = .ok (.goto (-19), 3) := by decide +kernel
theorem dX1_largestOf_25 : decode cX1_largestOf 25 = .ok (.iload_n 2, 1) := by decide +kernel
theorem dX1_largestOf_26 : decode cX1_largestOf 26 = .ok (.ireturn, 1) := by decide +kernel
theorem dX1_mostDone_0 : decode cX1_mostDone 0 = .ok (.lconst 0, 1) := by decide +kernel
theorem dX1_mostDone_1 : decode cX1_mostDone 1 = .ok (.lstore_n 2, 1) := by decide +kernel
theorem dX1_mostDone_2 : decode cX1_mostDone 2 = .ok (.iconst 0, 1) := by decide +kernel
theorem dX1_mostDone_3 : decode cX1_mostDone 3 = .ok (.istore 4, 2) := by decide +kernel
theorem dX1_mostDone_5 : decode cX1_mostDone 5 = .ok (.iload 4, 2) := by decide +kernel
theorem dX1_mostDone_7 : decode cX1_mostDone 7 = .ok (.sipush 128, 3) := by decide +kernel
theorem dX1_mostDone_10 : decode cX1_mostDone 10 = .ok (.if_icmp .ge 29, 3) := by decide +kernel
theorem dX1_mostDone_13 : decode cX1_mostDone 13 = .ok (.lload_n 2, 1) := by decide +kernel
theorem dX1_mostDone_14 : decode cX1_mostDone 14 = .ok (.iload 4, 2) := by decide +kernel
theorem dX1_mostDone_16 : decode cX1_mostDone 16 = .ok (.iload_n 1, 1) := by decide +kernel
theorem dX1_mostDone_17 : decode cX1_mostDone 17 = .ok (.iand, 1) := by decide +kernel
theorem dX1_mostDone_18 : decode cX1_mostDone 18 = .ok (.ifCond .ne 12, 3) := by decide +kernel
theorem dX1_mostDone_21 : decode cX1_mostDone 21 = .ok (.aload_n 0, 1) := by decide +kernel
theorem dX1_mostDone_22 : decode cX1_mostDone 22 = .ok (.iload 4, 2) := by decide +kernel
theorem dX1_mostDone_24 : decode cX1_mostDone 24 = .ok (.invokevirtual 104, 3) := by decide +kernel
theorem dX1_mostDone_27 : decode cX1_mostDone 27 = .ok (.goto 4, 3) := by decide +kernel
theorem dX1_mostDone_30 : decode cX1_mostDone 30 = .ok (.lconst 0, 1) := by decide +kernel
theorem dX1_mostDone_31 : decode cX1_mostDone 31 = .ok (.lor, 1) := by decide +kernel
theorem dX1_mostDone_32 : decode cX1_mostDone 32 = .ok (.lstore_n 2, 1) := by decide +kernel
theorem dX1_mostDone_33 : decode cX1_mostDone 33 = .ok (.iinc 4 1, 3) := by decide +kernel
theorem dX1_mostDone_36 : decode cX1_mostDone 36 = .ok (.goto (-31), 3) := by decide +kernel
theorem dX1_mostDone_39 : decode cX1_mostDone 39 = .ok (.lload_n 2, 1) := by decide +kernel
theorem dX1_mostDone_40 : decode cX1_mostDone 40 = .ok (.invokestatic 114, 3) := by decide +kernel
theorem dX1_mostDone_43 : decode cX1_mostDone 43 = .ok (.ireturn, 1) := by decide +kernel
theorem dX1_fewestHoursFor_0 : decode cX1_fewestHoursFor 0 = .ok (.bipush 7, 2) := by decide +kernel
theorem dX1_fewestHoursFor_2 : decode cX1_fewestHoursFor 2 = .ok (.istore_n 2, 1) := by decide +kernel
theorem dX1_fewestHoursFor_3 : decode cX1_fewestHoursFor 3 = .ok (.iconst 0, 1) := by decide +kernel
theorem dX1_fewestHoursFor_4 : decode cX1_fewestHoursFor 4 = .ok (.istore_n 3, 1) := by decide +kernel
theorem dX1_fewestHoursFor_5 : decode cX1_fewestHoursFor 5 = .ok (.iload_n 3, 1) := by decide +kernel
theorem dX1_fewestHoursFor_6 : decode cX1_fewestHoursFor 6 = .ok (.sipush 128, 3) := by decide +kernel
theorem dX1_fewestHoursFor_9 : decode cX1_fewestHoursFor 9 = .ok (.if_icmp .ge 40, 3) := by decide +kernel
theorem dX1_fewestHoursFor_12 : decode cX1_fewestHoursFor 12 = .ok (.iload_n 3, 1) := by decide +kernel
theorem dX1_fewestHoursFor_13 : decode cX1_fewestHoursFor 13 = .ok (.invokestatic 118, 3) := by decide +kernel
theorem dX1_fewestHoursFor_16 : decode cX1_fewestHoursFor 16 = .ok (.istore 4, 2) := by decide +kernel
theorem dX1_fewestHoursFor_18 : decode cX1_fewestHoursFor 18 = .ok (.iload 4, 2) := by decide +kernel
theorem dX1_fewestHoursFor_20 : decode cX1_fewestHoursFor 20 = .ok (.iload_n 2, 1) := by decide +kernel
theorem dX1_fewestHoursFor_21 : decode cX1_fewestHoursFor 21 = .ok (.if_icmp .ge 22, 3) := by decide +kernel
theorem dX1_fewestHoursFor_24 : decode cX1_fewestHoursFor 24 = .ok (.aload_n 0, 1) := by decide +kernel
theorem dX1_fewestHoursFor_25 : decode cX1_fewestHoursFor 25 = .ok (.iload_n 3, 1) := by decide +kernel
theorem dX1_fewestHoursFor_26 : decode cX1_fewestHoursFor 26 = .ok (.invokevirtual 104, 3) := by decide +kernel
theorem dX1_fewestHoursFor_29 : decode cX1_fewestHoursFor 29 = .ok (.getstatic 111, 3) := by decide +kernel
theorem dX1_fewestHoursFor_32 : decode cX1_fewestHoursFor 32 = .ok (.iload_n 1, 1) := by decide +kernel
theorem dX1_fewestHoursFor_33 : decode cX1_fewestHoursFor 33 = .ok (.laload, 1) := by decide +kernel
theorem dX1_fewestHoursFor_34 : decode cX1_fewestHoursFor 34 = .ok (.land, 1) := by decide +kernel
theorem dX1_fewestHoursFor_35 : decode cX1_fewestHoursFor 35 = .ok (.lconst 0, 1) := by decide +kernel
theorem dX1_fewestHoursFor_36 : decode cX1_fewestHoursFor 36 = .ok (.lcmp, 1) := by decide +kernel
theorem dX1_fewestHoursFor_37 : decode cX1_fewestHoursFor 37 = .ok (.ifCond .eq 6, 3) := by decide +kernel
theorem dX1_fewestHoursFor_40 : decode cX1_fewestHoursFor 40 = .ok (.iload 4, 2) := by decide +kernel
theorem dX1_fewestHoursFor_42 : decode cX1_fewestHoursFor 42 = .ok (.istore_n 2, 1) := by decide +kernel
theorem dX1_fewestHoursFor_43 : decode cX1_fewestHoursFor 43 = .ok (.iinc 3 1, 3) := by decide +kernel
theorem dX1_fewestHoursFor_46 : decode cX1_fewestHoursFor 46 = .ok (.goto (-41), 3) := by decide +kernel
theorem dX1_fewestHoursFor_49 : decode cX1_fewestHoursFor 49 = .ok (.iload_n 2, 1) := by decide +kernel
theorem dX1_fewestHoursFor_50 : decode cX1_fewestHoursFor 50 = .ok (.ireturn, 1) := by decide +kernel
theorem dX1_fewestHoursTo_0 : decode cX1_fewestHoursTo 0 = .ok (.bipush (-9), 2) := by decide +kernel
theorem dX1_fewestHoursTo_2 : decode cX1_fewestHoursTo 2 = .ok (.istore_n 2, 1) := by decide +kernel
theorem dX1_fewestHoursTo_3 : decode cX1_fewestHoursTo 3 = .ok (.iconst 0, 1) := by decide +kernel
theorem dX1_fewestHoursTo_4 : decode cX1_fewestHoursTo 4 = .ok (.istore_n 3, 1) := by decide +kernel
theorem dX1_fewestHoursTo_5 : decode cX1_fewestHoursTo 5 = .ok (.iload_n 3, 1) := by decide +kernel
theorem dX1_fewestHoursTo_6 : decode cX1_fewestHoursTo 6 = .ok (.sipush 128, 3) := by decide +kernel
theorem dX1_fewestHoursTo_9 : decode cX1_fewestHoursTo 9 = .ok (.if_icmp .ge 42, 3) := by decide +kernel
theorem dX1_fewestHoursTo_12 : decode cX1_fewestHoursTo 12 = .ok (.aload_n 0, 1) := by decide +kernel
theorem dX1_fewestHoursTo_13 : decode cX1_fewestHoursTo 13 = .ok (.iload_n 1, 1) := by decide +kernel
theorem dX1_fewestHoursTo_14 : decode cX1_fewestHoursTo 14 = .ok (.iload_n 3, 1) := by decide +kernel
theorem dX1_fewestHoursTo_15 : decode cX1_fewestHoursTo 15 = .ok (.invokevirtual 123, 3) := by decide +kernel
theorem dX1_fewestHoursTo_18 : decode cX1_fewestHoursTo 18 = .ok (.ifCond .eq 27, 3) := by decide +kernel
theorem dX1_fewestHoursTo_21 : decode cX1_fewestHoursTo 21 = .ok (.iload_n 3, 1) := by decide +kernel
theorem dX1_fewestHoursTo_22 : decode cX1_fewestHoursTo 22 = .ok (.invokestatic 118, 3) := by decide +kernel
theorem dX1_fewestHoursTo_25 : decode cX1_fewestHoursTo 25 = .ok (.istore 4, 2) := by decide +kernel
theorem dX1_fewestHoursTo_27 : decode cX1_fewestHoursTo 27 = .ok (.iload_n 2, 1) := by decide +kernel
theorem dX1_fewestHoursTo_28 : decode cX1_fewestHoursTo 28 = .ok (.bipush (-9), 2) := by decide +kernel
theorem dX1_fewestHoursTo_30 : decode cX1_fewestHoursTo 30 = .ok (.if_icmp .ne 8, 3) := by decide +kernel
theorem dX1_fewestHoursTo_33 : decode cX1_fewestHoursTo 33 = .ok (.iload 4, 2) := by decide +kernel
theorem dX1_fewestHoursTo_35 : decode cX1_fewestHoursTo 35 = .ok (.goto 9, 3) := by decide +kernel
theorem dX1_fewestHoursTo_38 : decode cX1_fewestHoursTo 38 = .ok (.iload_n 2, 1) := by decide +kernel
theorem dX1_fewestHoursTo_39 : decode cX1_fewestHoursTo 39 = .ok (.iload 4, 2) := by decide +kernel
theorem dX1_fewestHoursTo_41 : decode cX1_fewestHoursTo 41 = .ok (.invokestatic 40, 3) := by decide +kernel
theorem dX1_fewestHoursTo_44 : decode cX1_fewestHoursTo 44 = .ok (.istore_n 2, 1) := by decide +kernel
theorem dX1_fewestHoursTo_45 : decode cX1_fewestHoursTo 45 = .ok (.iinc 3 1, 3) := by decide +kernel
theorem dX1_fewestHoursTo_48 : decode cX1_fewestHoursTo 48 = .ok (.goto (-43), 3) := by decide +kernel
theorem dX1_fewestHoursTo_51 : decode cX1_fewestHoursTo 51 = .ok (.iload_n 2, 1) := by decide +kernel
theorem dX1_fewestHoursTo_52 : decode cX1_fewestHoursTo 52 = .ok (.ireturn, 1) := by decide +kernel
theorem dX1_setsEnoughFor_0 : decode cX1_setsEnoughFor 0 = .ok (.iconst 0, 1) := by decide +kernel
theorem dX1_setsEnoughFor_1 : decode cX1_setsEnoughFor 1 = .ok (.istore_n 2, 1) := by decide +kernel
theorem dX1_setsEnoughFor_2 : decode cX1_setsEnoughFor 2 = .ok (.iconst 0, 1) := by decide +kernel
theorem dX1_setsEnoughFor_3 : decode cX1_setsEnoughFor 3 = .ok (.istore_n 3, 1) := by decide +kernel
theorem dX1_setsEnoughFor_4 : decode cX1_setsEnoughFor 4 = .ok (.iload_n 3, 1) := by decide +kernel
theorem dX1_setsEnoughFor_5 : decode cX1_setsEnoughFor 5 = .ok (.sipush 128, 3) := by decide +kernel
theorem dX1_setsEnoughFor_8 : decode cX1_setsEnoughFor 8 = .ok (.if_icmp .ge 26, 3) := by decide +kernel
theorem dX1_setsEnoughFor_11 : decode cX1_setsEnoughFor 11 = .ok (.iload_n 2, 1) := by decide +kernel
theorem dX1_setsEnoughFor_12 : decode cX1_setsEnoughFor 12 = .ok (.aload_n 0, 1) := by decide +kernel
theorem dX1_setsEnoughFor_13 : decode cX1_setsEnoughFor 13 = .ok (.iload_n 1, 1) := by decide +kernel
theorem dX1_setsEnoughFor_14 : decode cX1_setsEnoughFor 14 = .ok (.iload_n 3, 1) := by decide +kernel
theorem dX1_setsEnoughFor_15 : decode cX1_setsEnoughFor 15 = .ok (.invokevirtual 123, 3) := by decide +kernel
theorem dX1_setsEnoughFor_18 : decode cX1_setsEnoughFor 18 = .ok (.ifCond .eq 7, 3) := by decide +kernel
theorem dX1_setsEnoughFor_21 : decode cX1_setsEnoughFor 21 = .ok (.iconst 1, 1) := by decide +kernel
theorem dX1_setsEnoughFor_22 : decode cX1_setsEnoughFor 22 = .ok (.goto 4, 3) := by decide +kernel
theorem dX1_setsEnoughFor_25 : decode cX1_setsEnoughFor 25 = .ok (.iconst 0, 1) := by decide +kernel
theorem dX1_setsEnoughFor_26 : decode cX1_setsEnoughFor 26 = .ok (.iadd, 1) := by decide +kernel
theorem dX1_setsEnoughFor_27 : decode cX1_setsEnoughFor 27 = .ok (.istore_n 2, 1) := by decide +kernel
theorem dX1_setsEnoughFor_28 : decode cX1_setsEnoughFor 28 = .ok (.iinc 3 1, 3) := by decide +kernel
theorem dX1_setsEnoughFor_31 : decode cX1_setsEnoughFor 31 = .ok (.goto (-27), 3) := by decide +kernel
theorem dX1_setsEnoughFor_34 : decode cX1_setsEnoughFor 34 = .ok (.iload_n 2, 1) := by decide +kernel
theorem dX1_setsEnoughFor_35 : decode cX1_setsEnoughFor 35 = .ok (.ireturn, 1) := by decide +kernel
theorem dX1_writeFirst_0 : decode cX1_writeFirst 0 = .ok (.aload_n 0, 1) := by decide +kernel
theorem dX1_writeFirst_1 : decode cX1_writeFirst 1 = .ok (.iload_n 1, 1) := by decide +kernel
theorem dX1_writeFirst_2 : decode cX1_writeFirst 2 = .ok (.iload_n 2, 1) := by decide +kernel
theorem dX1_writeFirst_3 : decode cX1_writeFirst 3 = .ok (.invokevirtual 126, 3) := by decide +kernel
theorem dX1_writeFirst_6 : decode cX1_writeFirst 6 = .ok (.iconst 0, 1) := by decide +kernel
theorem dX1_writeFirst_7 : decode cX1_writeFirst 7 = .ok (.istore 4, 2) := by decide +kernel
theorem dX1_writeFirst_9 : decode cX1_writeFirst 9 = .ok (.iload 4, 2) := by decide +kernel
theorem dX1_writeFirst_11 : decode cX1_writeFirst 11 = .ok (.iload_n 2, 1) := by decide +kernel
theorem dX1_writeFirst_12 : decode cX1_writeFirst 12 = .ok (.if_icmp .ge 29, 3) := by decide +kernel
theorem dX1_writeFirst_15 : decode cX1_writeFirst 15 = .ok (.iconst 2, 1) := by decide +kernel
theorem dX1_writeFirst_16 : decode cX1_writeFirst 16 = .ok (.iload 4, 2) := by decide +kernel
theorem dX1_writeFirst_18 : decode cX1_writeFirst 18 = .ok (.imul, 1) := by decide +kernel
theorem dX1_writeFirst_19 : decode cX1_writeFirst 19 = .ok (.iconst 1, 1) := by decide +kernel
theorem dX1_writeFirst_20 : decode cX1_writeFirst 20 = .ok (.iadd, 1) := by decide +kernel
theorem dX1_writeFirst_21 : decode cX1_writeFirst 21 = .ok (.aload_n 3, 1) := by decide +kernel
theorem dX1_writeFirst_22 : decode cX1_writeFirst 22 = .ok (.arraylength, 1) := by decide +kernel
theorem dX1_writeFirst_23 : decode cX1_writeFirst 23 = .ok (.if_icmp .ge 18, 3) := by decide +kernel
theorem dX1_writeFirst_26 : decode cX1_writeFirst 26 = .ok (.aload_n 0, 1) := by decide +kernel
theorem dX1_writeFirst_27 : decode cX1_writeFirst 27 = .ok (.iconst 2, 1) := by decide +kernel
theorem dX1_writeFirst_28 : decode cX1_writeFirst 28 = .ok (.iload 4, 2) := by decide +kernel
theorem dX1_writeFirst_30 : decode cX1_writeFirst 30 = .ok (.imul, 1) := by decide +kernel
theorem dX1_writeFirst_31 : decode cX1_writeFirst 31 = .ok (.aload_n 3, 1) := by decide +kernel
theorem dX1_writeFirst_32 : decode cX1_writeFirst 32 = .ok (.invokevirtual 129, 3) := by decide +kernel
theorem dX1_writeFirst_35 : decode cX1_writeFirst 35 = .ok (.iinc 4 1, 3) := by decide +kernel
theorem dX1_writeFirst_38 : decode cX1_writeFirst 38 = .ok (.goto (-29), 3) := by decide +kernel
theorem dX1_writeFirst_41 : decode cX1_writeFirst 41 = .ok (.return_, 1) := by decide +kernel
theorem dX1_writeFirstPair_0 : decode cX1_writeFirstPair 0 = .ok (.iconst 0, 1) := by decide +kernel
theorem dX1_writeFirstPair_1 : decode cX1_writeFirstPair 1 = .ok (.istore_n 3, 1) := by decide +kernel
theorem dX1_writeFirstPair_2 : decode cX1_writeFirstPair 2 = .ok (.iload_n 3, 1) := by decide +kernel
theorem dX1_writeFirstPair_3 : decode cX1_writeFirstPair 3 = .ok (.aload_n 0, 1) := by decide +kernel
theorem dX1_writeFirstPair_4 : decode cX1_writeFirstPair 4 = .ok (.getfield 31, 3) := by decide +kernel
theorem dX1_writeFirstPair_7 : decode cX1_writeFirstPair 7 = .ok (.getfield 133, 3) := by decide +kernel
theorem dX1_writeFirstPair_10 : decode cX1_writeFirstPair 10 = .ok (.if_icmp .ge 83, 3) := by decide +kernel
theorem dX1_writeFirstPair_13 : decode cX1_writeFirstPair 13 = .ok (.iconst (-1), 1) := by decide +kernel
theorem dX1_writeFirstPair_14 : decode cX1_writeFirstPair 14 = .ok (.istore 4, 2) := by decide +kernel
theorem dX1_writeFirstPair_16 : decode cX1_writeFirstPair 16 = .ok (.iload 4, 2) := by decide +kernel
theorem dX1_writeFirstPair_18 : decode cX1_writeFirstPair 18 = .ok (.aload_n 0, 1) := by decide +kernel
theorem dX1_writeFirstPair_19 : decode cX1_writeFirstPair 19 = .ok (.getfield 31, 3) := by decide +kernel
theorem dX1_writeFirstPair_22 : decode cX1_writeFirstPair 22 = .ok (.getfield 91, 3) := by decide +kernel
theorem dX1_writeFirstPair_25 : decode cX1_writeFirstPair 25 = .ok (.if_icmp .ge 62, 3) := by decide +kernel
theorem dX1_writeFirstPair_28 : decode cX1_writeFirstPair 28 = .ok (.iload 4, 2) := by decide +kernel
theorem dX1_writeFirstPair_30 : decode cX1_writeFirstPair 30 = .ok (.ifCond .ge 8, 3) := by decide +kernel
theorem dX1_writeFirstPair_33 : decode cX1_writeFirstPair 33 = .ok (.bipush (-9), 2) := by decide +kernel
theorem dX1_writeFirstPair_35 : decode cX1_writeFirstPair 35 = .ok (.goto 5, 3) := by decide +kernel
theorem dX1_writeFirstPair_38 : decode cX1_writeFirstPair 38 = .ok (.iload 4, 2) := by decide +kernel
theorem dX1_writeFirstPair_40 : decode cX1_writeFirstPair 40 = .ok (.istore 5, 2) := by decide +kernel
theorem dX1_writeFirstPair_42 : decode cX1_writeFirstPair 42 = .ok (.aload_n 0, 1) := by decide +kernel
theorem dX1_writeFirstPair_43 : decode cX1_writeFirstPair 43 = .ok (.iload_n 3, 1) := by decide +kernel
theorem dX1_writeFirstPair_44 : decode cX1_writeFirstPair 44 = .ok (.iload 5, 2) := by decide +kernel
theorem dX1_writeFirstPair_46 : decode cX1_writeFirstPair 46 = .ok (.invokevirtual 47, 3) := by decide +kernel
theorem dX1_writeFirstPair_49 : decode cX1_writeFirstPair 49 = .ok (.ifCond .eq 32, 3) := by decide +kernel
theorem dX1_writeFirstPair_52 : decode cX1_writeFirstPair 52 = .ok (.aload_n 0, 1) := by decide +kernel
theorem dX1_writeFirstPair_53 : decode cX1_writeFirstPair 53 = .ok (.iload_n 3, 1) := by decide +kernel
theorem dX1_writeFirstPair_54 : decode cX1_writeFirstPair 54 = .ok (.iload 5, 2) := by decide +kernel
theorem dX1_writeFirstPair_56 : decode cX1_writeFirstPair 56 = .ok (.invokevirtual 136, 3) := by decide +kernel
theorem dX1_writeFirstPair_59 : decode cX1_writeFirstPair 59 = .ok (.ifCond .eq 22, 3) := by decide +kernel
theorem dX1_writeFirstPair_62 : decode cX1_writeFirstPair 62 = .ok (.aload_n 2, 1) := by decide +kernel
theorem dX1_writeFirstPair_63 : decode cX1_writeFirstPair 63 = .ok (.iload_n 1, 1) := by decide +kernel
theorem dX1_writeFirstPair_64 : decode cX1_writeFirstPair 64 = .ok (.iload_n 3, 1) := by decide +kernel
theorem dX1_writeFirstPair_65 : decode cX1_writeFirstPair 65 = .ok (.iastore, 1) := by decide +kernel
theorem dX1_writeFirstPair_66 : decode cX1_writeFirstPair 66 = .ok (.aload_n 2, 1) := by decide +kernel
theorem dX1_writeFirstPair_67 : decode cX1_writeFirstPair 67 = .ok (.iload_n 1, 1) := by decide +kernel
theorem dX1_writeFirstPair_68 : decode cX1_writeFirstPair 68 = .ok (.iconst 1, 1) := by decide +kernel
theorem dX1_writeFirstPair_69 : decode cX1_writeFirstPair 69 = .ok (.iadd, 1) := by decide +kernel
theorem dX1_writeFirstPair_70 : decode cX1_writeFirstPair 70 = .ok (.iload 5, 2) := by decide +kernel
theorem dX1_writeFirstPair_72 : decode cX1_writeFirstPair 72 = .ok (.iastore, 1) := by decide +kernel
theorem dX1_writeFirstPair_73 : decode cX1_writeFirstPair 73 = .ok (.aload_n 0, 1) := by decide +kernel
theorem dX1_writeFirstPair_74 : decode cX1_writeFirstPair 74 = .ok (.iload_n 3, 1) := by decide +kernel
theorem dX1_writeFirstPair_75 : decode cX1_writeFirstPair 75 = .ok (.iload 5, 2) := by decide +kernel
theorem dX1_writeFirstPair_77 : decode cX1_writeFirstPair 77 = .ok (.invokevirtual 51, 3) := by decide +kernel
theorem dX1_writeFirstPair_80 : decode cX1_writeFirstPair 80 = .ok (.return_, 1) := by decide +kernel
theorem dX1_writeFirstPair_81 : decode cX1_writeFirstPair 81 = .ok (.iinc 4 1, 3) := by decide +kernel
theorem dX1_writeFirstPair_84 : decode cX1_writeFirstPair 84 = .ok (.goto (-68), 3) := by decide +kernel
theorem dX1_writeFirstPair_87 : decode cX1_writeFirstPair 87 = .ok (.iinc 3 1, 3) := by decide +kernel
theorem dX1_writeFirstPair_90 : decode cX1_writeFirstPair 90 = .ok (.goto (-88), 3) := by decide +kernel
theorem dX1_writeFirstPair_93 : decode cX1_writeFirstPair 93 = .ok (.return_, 1) := by decide +kernel
theorem dX1_isWinning_0 : decode cX1_isWinning 0 = .ok (.aload_n 0, 1) := by decide +kernel
theorem dX1_isWinning_1 : decode cX1_isWinning 1 = .ok (.getfield 22, 3) := by decide +kernel
theorem dX1_isWinning_4 : decode cX1_isWinning 4 = .ok (.iconst 1, 1) := by decide +kernel
theorem dX1_isWinning_5 : decode cX1_isWinning 5 = .ok (.iload_n 1, 1) := by decide +kernel
theorem dX1_isWinning_6 : decode cX1_isWinning 6 = .ok (.ishl, 1) := by decide +kernel
theorem dX1_isWinning_7 : decode cX1_isWinning 7 = .ok (.ior, 1) := by decide +kernel
theorem dX1_isWinning_8 : decode cX1_isWinning 8 = .ok (.iconst 3, 1) := by decide +kernel
theorem dX1_isWinning_9 : decode cX1_isWinning 9 = .ok (.imul, 1) := by decide +kernel
theorem dX1_isWinning_10 : decode cX1_isWinning 10 = .ok (.aload_n 0, 1) := by decide +kernel
theorem dX1_isWinning_11 : decode cX1_isWinning 11 = .ok (.aload_n 0, 1) := by decide +kernel
theorem dX1_isWinning_12 : decode cX1_isWinning 12 = .ok (.getfield 25, 3) := by decide +kernel
theorem dX1_isWinning_15 : decode cX1_isWinning 15 = .ok (.iload_n 2, 1) := by decide +kernel
theorem dX1_isWinning_16 : decode cX1_isWinning 16 = .ok (.invokevirtual 64, 3) := by decide +kernel
theorem dX1_isWinning_19 : decode cX1_isWinning 19 = .ok (.iadd, 1) := by decide +kernel
theorem dX1_isWinning_20 : decode cX1_isWinning 20 = .ok (.istore_n 3, 1) := by decide +kernel
theorem dX1_isWinning_21 : decode cX1_isWinning 21 = .ok (.aload_n 0, 1) := by decide +kernel
theorem dX1_isWinning_22 : decode cX1_isWinning 22 = .ok (.getfield 15, 3) := by decide +kernel
theorem dX1_isWinning_25 : decode cX1_isWinning 25 = .ok (.iload_n 3, 1) := by decide +kernel
theorem dX1_isWinning_26 : decode cX1_isWinning 26 = .ok (.laload, 1) := by decide +kernel
theorem dX1_isWinning_27 : decode cX1_isWinning 27 = .ok (.aload_n 0, 1) := by decide +kernel
theorem dX1_isWinning_28 : decode cX1_isWinning 28 = .ok (.getfield 28, 3) := by decide +kernel
theorem dX1_isWinning_31 : decode cX1_isWinning 31 = .ok (.iload_n 2, 1) := by decide +kernel
theorem dX1_isWinning_32 : decode cX1_isWinning 32 = .ok (.invokestatic 67, 3) := by decide +kernel
theorem dX1_isWinning_35 : decode cX1_isWinning 35 = .ok (.ior, 1) := by decide +kernel
theorem dX1_isWinning_36 : decode cX1_isWinning 36 = .ok (.lushr, 1) := by decide +kernel
theorem dX1_isWinning_37 : decode cX1_isWinning 37 = .ok (.lconst 1, 1) := by decide +kernel
theorem dX1_isWinning_38 : decode cX1_isWinning 38 = .ok (.land, 1) := by decide +kernel
theorem dX1_isWinning_39 : decode cX1_isWinning 39 = .ok (.lconst 1, 1) := by decide +kernel
theorem dX1_isWinning_40 : decode cX1_isWinning 40 = .ok (.lcmp, 1) := by decide +kernel
theorem dX1_isWinning_41 : decode cX1_isWinning 41 = .ok (.ifCond .ne 7, 3) := by decide +kernel
theorem dX1_isWinning_44 : decode cX1_isWinning 44 = .ok (.iconst 1, 1) := by decide +kernel
theorem dX1_isWinning_45 : decode cX1_isWinning 45 = .ok (.goto 4, 3) := by decide +kernel
theorem dX1_isWinning_48 : decode cX1_isWinning 48 = .ok (.iconst 0, 1) := by decide +kernel
theorem dX1_isWinning_49 : decode cX1_isWinning 49 = .ok (.ireturn, 1) := by decide +kernel
theorem dX1_findWinning_0 : decode cX1_findWinning 0 = .ok (.bipush 127, 2) := by decide +kernel
theorem dX1_findWinning_2 : decode cX1_findWinning 2 = .ok (.istore_n 3, 1) := by decide +kernel
theorem dX1_findWinning_3 : decode cX1_findWinning 3 = .ok (.iload_n 3, 1) := by decide +kernel
theorem dX1_findWinning_4 : decode cX1_findWinning 4 = .ok (.ifCond .lt 95, 3) := by decide +kernel
theorem dX1_findWinning_7 : decode cX1_findWinning 7 = .ok (.iload_n 3, 1) := by decide +kernel
theorem dX1_findWinning_8 : decode cX1_findWinning 8 = .ok (.invokestatic 118, 3) := by decide +kernel
theorem dX1_findWinning_11 : decode cX1_findWinning 11 = .ok (.istore 4, 2) := by decide +kernel
theorem dX1_findWinning_13 : decode cX1_findWinning 13 = .ok (.iconst 0, 1) := by decide +kernel
theorem dX1_findWinning_14 : decode cX1_findWinning 14 = .ok (.istore 5, 2) := by decide +kernel
theorem dX1_findWinning_16 : decode cX1_findWinning 16 = .ok (.iload 5, 2) := by decide +kernel
theorem dX1_findWinning_18 : decode cX1_findWinning 18 = .ok (.iconst 3, 1) := by decide +kernel
theorem dX1_findWinning_19 : decode cX1_findWinning 19 = .ok (.if_icmp .ge 74, 3) := by decide +kernel
theorem dX1_findWinning_22 : decode cX1_findWinning 22 = .ok (.iload_n 3, 1) := by decide +kernel
theorem dX1_findWinning_23 : decode cX1_findWinning 23 = .ok (.iconst 3, 1) := by decide +kernel
theorem dX1_findWinning_24 : decode cX1_findWinning 24 = .ok (.imul, 1) := by decide +kernel
theorem dX1_findWinning_25 : decode cX1_findWinning 25 = .ok (.iload 5, 2) := by decide +kernel
theorem dX1_findWinning_27 : decode cX1_findWinning 27 = .ok (.iadd, 1) := by decide +kernel
theorem dX1_findWinning_28 : decode cX1_findWinning 28 = .ok (.istore 6, 2) := by decide +kernel
theorem dX1_findWinning_30 : decode cX1_findWinning 30 = .ok (.iload 4, 2) := by decide +kernel
theorem dX1_findWinning_32 : decode cX1_findWinning 32 = .ok (.iload_n 2, 1) := by decide +kernel
theorem dX1_findWinning_33 : decode cX1_findWinning 33 = .ok (.if_icmp .gt 15, 3) := by decide +kernel
theorem dX1_findWinning_36 : decode cX1_findWinning 36 = .ok (.aload_n 0, 1) := by decide +kernel
theorem dX1_findWinning_37 : decode cX1_findWinning 37 = .ok (.getfield 9, 3) := by decide +kernel
theorem dX1_findWinning_40 : decode cX1_findWinning 40 = .ok (.iload 6, 2) := by decide +kernel
theorem dX1_findWinning_42 : decode cX1_findWinning 42 = .ok (.laload, 1) := by decide +kernel
theorem dX1_findWinning_43 : decode cX1_findWinning 43 = .ok (.lconst 0, 1) := by decide +kernel
theorem dX1_findWinning_44 : decode cX1_findWinning 44 = .ok (.lcmp, 1) := by decide +kernel
theorem dX1_findWinning_45 : decode cX1_findWinning 45 = .ok (.ifCond .ne 14, 3) := by decide +kernel
theorem dX1_findWinning_48 : decode cX1_findWinning 48 = .ok (.aload_n 0, 1) := by decide +kernel
theorem dX1_findWinning_49 : decode cX1_findWinning 49 = .ok (.getfield 15, 3) := by decide +kernel
theorem dX1_findWinning_52 : decode cX1_findWinning 52 = .ok (.iload 6, 2) := by decide +kernel
theorem dX1_findWinning_54 : decode cX1_findWinning 54 = .ok (.lconst 0, 1) := by decide +kernel
theorem dX1_findWinning_55 : decode cX1_findWinning 55 = .ok (.lastore, 1) := by decide +kernel
theorem dX1_findWinning_56 : decode cX1_findWinning 56 = .ok (.goto 31, 3) := by decide +kernel
theorem dX1_findWinning_59 : decode cX1_findWinning 59 = .ok (.aload_n 0, 1) := by decide +kernel
theorem dX1_findWinning_60 : decode cX1_findWinning 60 = .ok (.getfield 15, 3) := by decide +kernel
theorem dX1_findWinning_63 : decode cX1_findWinning 63 = .ok (.iload 6, 2) := by decide +kernel
theorem dX1_findWinning_65 : decode cX1_findWinning 65 = .ok (.iload 4, 2) := by decide +kernel
theorem dX1_findWinning_67 : decode cX1_findWinning 67 = .ok (.iload_n 2, 1) := by decide +kernel
theorem dX1_findWinning_68 : decode cX1_findWinning 68 = .ok (.if_icmp .ne 11, 3) := by decide +kernel
theorem dX1_findWinning_71 : decode cX1_findWinning 71 = .ok (.getstatic 108, 3) := by decide +kernel
theorem dX1_findWinning_74 : decode cX1_findWinning 74 = .ok (.iload_n 1, 1) := by decide +kernel
theorem dX1_findWinning_75 : decode cX1_findWinning 75 = .ok (.laload, 1) := by decide +kernel
theorem dX1_findWinning_76 : decode cX1_findWinning 76 = .ok (.goto 10, 3) := by decide +kernel
theorem dX1_findWinning_79 : decode cX1_findWinning 79 = .ok (.aload_n 0, 1) := by decide +kernel
theorem dX1_findWinning_80 : decode cX1_findWinning 80 = .ok (.iload_n 3, 1) := by decide +kernel
theorem dX1_findWinning_81 : decode cX1_findWinning 81 = .ok (.iload 5, 2) := by decide +kernel
theorem dX1_findWinning_83 : decode cX1_findWinning 83 = .ok (.invokevirtual 139, 3) := by decide +kernel
theorem dX1_findWinning_86 : decode cX1_findWinning 86 = .ok (.lastore, 1) := by decide +kernel
theorem dX1_findWinning_87 : decode cX1_findWinning 87 = .ok (.iinc 5 1, 3) := by decide +kernel
theorem dX1_findWinning_90 : decode cX1_findWinning 90 = .ok (.goto (-74), 3) := by decide +kernel
theorem dX1_findWinning_93 : decode cX1_findWinning 93 = .ok (.iinc 3 (-1), 3) := by decide +kernel
theorem dX1_findWinning_96 : decode cX1_findWinning 96 = .ok (.goto (-93), 3) := by decide +kernel
theorem dX1_findWinning_99 : decode cX1_findWinning 99 = .ok (.return_, 1) := by decide +kernel
theorem dX1_winningAhead_0 : decode cX1_winningAhead 0 = .ok (.aload_n 0, 1) := by decide +kernel
theorem dX1_winningAhead_1 : decode cX1_winningAhead 1 = .ok (.iload_n 1, 1) := by decide +kernel
theorem dX1_winningAhead_2 : decode cX1_winningAhead 2 = .ok (.aload_n 0, 1) := by decide +kernel
theorem dX1_winningAhead_3 : decode cX1_winningAhead 3 = .ok (.iload_n 2, 1) := by decide +kernel
theorem dX1_winningAhead_4 : decode cX1_winningAhead 4 = .ok (.bipush (-9), 2) := by decide +kernel
theorem dX1_winningAhead_6 : decode cX1_winningAhead 6 = .ok (.invokevirtual 64, 3) := by decide +kernel
theorem dX1_winningAhead_9 : decode cX1_winningAhead 9 = .ok (.aload_n 0, 1) := by decide +kernel
theorem dX1_winningAhead_10 : decode cX1_winningAhead 10 = .ok (.getfield 18, 3) := by decide +kernel
theorem dX1_winningAhead_13 : decode cX1_winningAhead 13 = .ok (.invokevirtual 143, 3) := by decide +kernel
theorem dX1_winningAhead_16 : decode cX1_winningAhead 16 = .ok (.lstore_n 3, 1) := by decide +kernel
theorem dX1_winningAhead_17 : decode cX1_winningAhead 17 = .ok (.iconst 0, 1) := by decide +kernel
theorem dX1_winningAhead_18 : decode cX1_winningAhead 18 = .ok (.istore 5, 2) := by decide +kernel
theorem dX1_winningAhead_20 : decode cX1_winningAhead 20 = .ok (.iload 5, 2) := by decide +kernel
theorem dX1_winningAhead_22 : decode cX1_winningAhead 22 = .ok (.aload_n 0, 1) := by decide +kernel
theorem dX1_winningAhead_23 : decode cX1_winningAhead 23 = .ok (.getfield 31, 3) := by decide +kernel
theorem dX1_winningAhead_26 : decode cX1_winningAhead 26 = .ok (.getfield 91, 3) := by decide +kernel
theorem dX1_winningAhead_29 : decode cX1_winningAhead 29 = .ok (.if_icmp .ge 73, 3) := by decide +kernel
theorem dX1_winningAhead_32 : decode cX1_winningAhead 32 = .ok (.aload_n 0, 1) := by decide +kernel
theorem dX1_winningAhead_33 : decode cX1_winningAhead 33 = .ok (.getfield 31, 3) := by decide +kernel
theorem dX1_winningAhead_36 : decode cX1_winningAhead 36 = .ok (.iload 5, 2) := by decide +kernel
theorem dX1_winningAhead_38 : decode cX1_winningAhead 38 = .ok (.iload_n 2, 1) := by decide +kernel
theorem dX1_winningAhead_39 : decode cX1_winningAhead 39 = .ok (.invokevirtual 97, 3) := by decide +kernel
theorem dX1_winningAhead_42 : decode cX1_winningAhead 42 = .ok (.ifCond .eq 54, 3) := by decide +kernel
theorem dX1_winningAhead_45 : decode cX1_winningAhead 45 = .ok (.aload_n 0, 1) := by decide +kernel
theorem dX1_winningAhead_46 : decode cX1_winningAhead 46 = .ok (.iload_n 1, 1) := by decide +kernel
theorem dX1_winningAhead_47 : decode cX1_winningAhead 47 = .ok (.aload_n 0, 1) := by decide +kernel
theorem dX1_winningAhead_48 : decode cX1_winningAhead 48 = .ok (.iload_n 2, 1) := by decide +kernel
theorem dX1_winningAhead_49 : decode cX1_winningAhead 49 = .ok (.iload 5, 2) := by decide +kernel
theorem dX1_winningAhead_51 : decode cX1_winningAhead 51 = .ok (.invokevirtual 64, 3) := by decide +kernel
theorem dX1_winningAhead_54 : decode cX1_winningAhead 54 = .ok (.aload_n 0, 1) := by decide +kernel
theorem dX1_winningAhead_55 : decode cX1_winningAhead 55 = .ok (.getfield 18, 3) := by decide +kernel
theorem dX1_winningAhead_58 : decode cX1_winningAhead 58 = .ok (.aload_n 0, 1) := by decide +kernel
theorem dX1_winningAhead_59 : decode cX1_winningAhead 59 = .ok (.getfield 31, 3) := by decide +kernel
theorem dX1_winningAhead_62 : decode cX1_winningAhead 62 = .ok (.getfield 100, 3) := by decide +kernel
theorem dX1_winningAhead_65 : decode cX1_winningAhead 65 = .ok (.iload 5, 2) := by decide +kernel
theorem dX1_winningAhead_67 : decode cX1_winningAhead 67 = .ok (.iaload, 1) := by decide +kernel
theorem dX1_winningAhead_68 : decode cX1_winningAhead 68 = .ok (.iand, 1) := by decide +kernel
theorem dX1_winningAhead_69 : decode cX1_winningAhead 69 = .ok (.invokevirtual 143, 3) := by decide +kernel
theorem dX1_winningAhead_72 : decode cX1_winningAhead 72 = .ok (.lstore 6, 2) := by decide +kernel
theorem dX1_winningAhead_74 : decode cX1_winningAhead 74 = .ok (.lload_n 3, 1) := by decide +kernel
theorem dX1_winningAhead_75 : decode cX1_winningAhead 75 = .ok (.lload 6, 2) := by decide +kernel
theorem dX1_winningAhead_77 : decode cX1_winningAhead 77 = .ok (.iload 5, 2) := by decide +kernel
theorem dX1_winningAhead_79 : decode cX1_winningAhead 79 = .ok (.invokestatic 67, 3) := by decide +kernel
theorem dX1_winningAhead_82 : decode cX1_winningAhead 82 = .ok (.lushr, 1) := by decide +kernel
theorem dX1_winningAhead_83 : decode cX1_winningAhead 83 = .ok (.aload_n 0, 1) := by decide +kernel
theorem dX1_winningAhead_84 : decode cX1_winningAhead 84 = .ok (.getfield 31, 3) := by decide +kernel
theorem dX1_winningAhead_87 : decode cX1_winningAhead 87 = .ok (.getfield 94, 3) := by decide +kernel
theorem dX1_winningAhead_90 : decode cX1_winningAhead 90 = .ok (.iload 5, 2) := by decide +kernel
theorem dX1_winningAhead_92 : decode cX1_winningAhead 92 = .ok (.laload, 1) := by decide +kernel
theorem dX1_winningAhead_93 : decode cX1_winningAhead 93 = .ok (.land, 1) := by decide +kernel
theorem dX1_winningAhead_94 : decode cX1_winningAhead 94 = .ok (.lor, 1) := by decide +kernel
theorem dX1_winningAhead_95 : decode cX1_winningAhead 95 = .ok (.lstore_n 3, 1) := by decide +kernel
theorem dX1_winningAhead_96 : decode cX1_winningAhead 96 = .ok (.iinc 5 1, 3) := by decide +kernel
theorem dX1_winningAhead_99 : decode cX1_winningAhead 99 = .ok (.goto (-79), 3) := by decide +kernel
theorem dX1_winningAhead_102 : decode cX1_winningAhead 102 = .ok (.lload_n 3, 1) := by decide +kernel
theorem dX1_winningAhead_103 : decode cX1_winningAhead 103 = .ok (.lreturn, 1) := by decide +kernel
theorem dX1_winningBy_0 : decode cX1_winningBy 0 = .ok (.lconst 0, 1) := by decide +kernel
theorem dX1_winningBy_1 : decode cX1_winningBy 1 = .ok (.lstore 4, 2) := by decide +kernel
theorem dX1_winningBy_3 : decode cX1_winningBy 3 = .ok (.iload_n 3, 1) := by decide +kernel
theorem dX1_winningBy_4 : decode cX1_winningBy 4 = .ok (.iload_n 1, 1) := by decide +kernel
theorem dX1_winningBy_5 : decode cX1_winningBy 5 = .ok (.iconst (-1), 1) := by decide +kernel
theorem dX1_winningBy_6 : decode cX1_winningBy 6 = .ok (.ixor, 1) := by decide +kernel
theorem dX1_winningBy_7 : decode cX1_winningBy 7 = .ok (.iand, 1) := by decide +kernel
theorem dX1_winningBy_8 : decode cX1_winningBy 8 = .ok (.istore 6, 2) := by decide +kernel
theorem dX1_winningBy_10 : decode cX1_winningBy 10 = .ok (.iconst 0, 1) := by decide +kernel
theorem dX1_winningBy_11 : decode cX1_winningBy 11 = .ok (.istore 7, 2) := by decide +kernel
theorem dX1_winningBy_13 : decode cX1_winningBy 13 = .ok (.iload 7, 2) := by decide +kernel
theorem dX1_winningBy_15 : decode cX1_winningBy 15 = .ok (.bipush 7, 2) := by decide +kernel
theorem dX1_winningBy_17 : decode cX1_winningBy 17 = .ok (.if_icmp .ge 47, 3) := by decide +kernel
theorem dX1_winningBy_20 : decode cX1_winningBy 20 = .ok (.iload 6, 2) := by decide +kernel
theorem dX1_winningBy_22 : decode cX1_winningBy 22 = .ok (.ifCond .eq 42, 3) := by decide +kernel
theorem dX1_winningBy_25 : decode cX1_winningBy 25 = .ok (.iload 6, 2) := by decide +kernel
theorem dX1_winningBy_27 : decode cX1_winningBy 27 = .ok (.iload 6, 2) := by decide +kernel
theorem dX1_winningBy_29 : decode cX1_winningBy 29 = .ok (.ineg, 1) := by decide +kernel
theorem dX1_winningBy_30 : decode cX1_winningBy 30 = .ok (.iand, 1) := by decide +kernel
theorem dX1_winningBy_31 : decode cX1_winningBy 31 = .ok (.istore 8, 2) := by decide +kernel
theorem dX1_winningBy_33 : decode cX1_winningBy 33 = .ok (.iload 6, 2) := by decide +kernel
theorem dX1_winningBy_35 : decode cX1_winningBy 35 = .ok (.iload 8, 2) := by decide +kernel
theorem dX1_winningBy_37 : decode cX1_winningBy 37 = .ok (.isub, 1) := by decide +kernel
theorem dX1_winningBy_38 : decode cX1_winningBy 38 = .ok (.istore 6, 2) := by decide +kernel
theorem dX1_winningBy_40 : decode cX1_winningBy 40 = .ok (.lload 4, 2) := by decide +kernel
theorem dX1_winningBy_42 : decode cX1_winningBy 42 = .ok (.aload_n 0, 1) := by decide +kernel
theorem dX1_winningBy_43 : decode cX1_winningBy 43 = .ok (.getfield 15, 3) := by decide +kernel
theorem dX1_winningBy_46 : decode cX1_winningBy 46 = .ok (.iload_n 1, 1) := by decide +kernel
theorem dX1_winningBy_47 : decode cX1_winningBy 47 = .ok (.iload 8, 2) := by decide +kernel
theorem dX1_winningBy_49 : decode cX1_winningBy 49 = .ok (.ior, 1) := by decide +kernel
theorem dX1_winningBy_50 : decode cX1_winningBy 50 = .ok (.iconst 3, 1) := by decide +kernel
theorem dX1_winningBy_51 : decode cX1_winningBy 51 = .ok (.imul, 1) := by decide +kernel
theorem dX1_winningBy_52 : decode cX1_winningBy 52 = .ok (.iload_n 2, 1) := by decide +kernel
theorem dX1_winningBy_53 : decode cX1_winningBy 53 = .ok (.iadd, 1) := by decide +kernel
theorem dX1_winningBy_54 : decode cX1_winningBy 54 = .ok (.laload, 1) := by decide +kernel
theorem dX1_winningBy_55 : decode cX1_winningBy 55 = .ok (.lor, 1) := by decide +kernel
theorem dX1_winningBy_56 : decode cX1_winningBy 56 = .ok (.lstore 4, 2) := by decide +kernel
theorem dX1_winningBy_58 : decode cX1_winningBy 58 = .ok (.iinc 7 1, 3) := by decide +kernel
theorem dX1_winningBy_61 : decode cX1_winningBy 61 = .ok (.goto (-48), 3) := by decide +kernel
theorem dX1_winningBy_64 : decode cX1_winningBy 64 = .ok (.lload 4, 2) := by decide +kernel
theorem dX1_winningBy_66 : decode cX1_winningBy 66 = .ok (.lreturn, 1) := by decide +kernel
theorem dX2_init_0 : decode cX2_init 0 = .ok (.aload_n 0, 1) := by decide +kernel
theorem dX2_init_1 : decode cX2_init 1 = .ok (.invokespecial 3, 3) := by decide +kernel
theorem dX2_init_4 : decode cX2_init 4 = .ok (.aload_n 0, 1) := by decide +kernel
theorem dX2_init_5 : decode cX2_init 5 = .ok (.iconst 0, 1) := by decide +kernel
theorem dX2_init_6 : decode cX2_init 6 = .ok (.putfield 9, 3) := by decide +kernel
theorem dX2_init_9 : decode cX2_init 9 = .ok (.aload_n 0, 1) := by decide +kernel
theorem dX2_init_10 : decode cX2_init 10 = .ok (.iconst 0, 1) := by decide +kernel
theorem dX2_init_11 : decode cX2_init 11 = .ok (.putfield 15, 3) := by decide +kernel
theorem dX2_init_14 : decode cX2_init 14 = .ok (.aload_n 0, 1) := by decide +kernel
theorem dX2_init_15 : decode cX2_init 15 = .ok (.bipush 6, 2) := by decide +kernel
theorem dX2_init_17 : decode cX2_init 17 = .ok (.newarray .int, 2) := by decide +kernel
theorem dX2_init_19 : decode cX2_init 19 = .ok (.putfield 18, 3) := by decide +kernel
theorem dX2_init_22 : decode cX2_init 22 = .ok (.aload_n 0, 1) := by decide +kernel
theorem dX2_init_23 : decode cX2_init 23 = .ok (.bipush 6, 2) := by decide +kernel
theorem dX2_init_25 : decode cX2_init 25 = .ok (.newarray .int, 2) := by decide +kernel
theorem dX2_init_27 : decode cX2_init 27 = .ok (.putfield 22, 3) := by decide +kernel
theorem dX2_init_30 : decode cX2_init 30 = .ok (.aload_n 0, 1) := by decide +kernel
theorem dX2_init_31 : decode cX2_init 31 = .ok (.bipush 6, 2) := by decide +kernel
theorem dX2_init_33 : decode cX2_init 33 = .ok (.newarray .int, 2) := by decide +kernel
theorem dX2_init_35 : decode cX2_init 35 = .ok (.putfield 25, 3) := by decide +kernel
theorem dX2_init_38 : decode cX2_init 38 = .ok (.aload_n 0, 1) := by decide +kernel
theorem dX2_init_39 : decode cX2_init 39 = .ok (.bipush 6, 2) := by decide +kernel
theorem dX2_init_41 : decode cX2_init 41 = .ok (.newarray .int, 2) := by decide +kernel
theorem dX2_init_43 : decode cX2_init 43 = .ok (.putfield 28, 3) := by decide +kernel
theorem dX2_init_46 : decode cX2_init 46 = .ok (.aload_n 0, 1) := by decide +kernel
theorem dX2_init_47 : decode cX2_init 47 = .ok (.bipush 7, 2) := by decide +kernel
theorem dX2_init_49 : decode cX2_init 49 = .ok (.newarray .int, 2) := by decide +kernel
theorem dX2_init_51 : decode cX2_init 51 = .ok (.putfield 31, 3) := by decide +kernel
theorem dX2_init_54 : decode cX2_init 54 = .ok (.aload_n 0, 1) := by decide +kernel
theorem dX2_init_55 : decode cX2_init 55 = .ok (.bipush 7, 2) := by decide +kernel
theorem dX2_init_57 : decode cX2_init 57 = .ok (.newarray .int, 2) := by decide +kernel
theorem dX2_init_59 : decode cX2_init 59 = .ok (.putfield 34, 3) := by decide +kernel
theorem dX2_init_62 : decode cX2_init 62 = .ok (.aload_n 0, 1) := by decide +kernel
theorem dX2_init_63 : decode cX2_init 63 = .ok (.bipush 7, 2) := by decide +kernel
theorem dX2_init_65 : decode cX2_init 65 = .ok (.newarray .int, 2) := by decide +kernel
theorem dX2_init_67 : decode cX2_init 67 = .ok (.putfield 37, 3) := by decide +kernel
theorem dX2_init_70 : decode cX2_init 70 = .ok (.aload_n 0, 1) := by decide +kernel
theorem dX2_init_71 : decode cX2_init 71 = .ok (.bipush 6, 2) := by decide +kernel
theorem dX2_init_73 : decode cX2_init 73 = .ok (.newarray .long, 2) := by decide +kernel
theorem dX2_init_75 : decode cX2_init 75 = .ok (.putfield 40, 3) := by decide +kernel
theorem dX2_init_78 : decode cX2_init 78 = .ok (.aload_n 0, 1) := by decide +kernel
theorem dX2_init_79 : decode cX2_init 79 = .ok (.bipush 6, 2) := by decide +kernel
theorem dX2_init_81 : decode cX2_init 81 = .ok (.newarray .int, 2) := by decide +kernel
theorem dX2_init_83 : decode cX2_init 83 = .ok (.putfield 44, 3) := by decide +kernel
theorem dX2_init_86 : decode cX2_init 86 = .ok (.return_, 1) := by decide +kernel
theorem dX2_clear_0 : decode cX2_clear 0 = .ok (.aload_n 0, 1) := by decide +kernel
theorem dX2_clear_1 : decode cX2_clear 1 = .ok (.iconst 0, 1) := by decide +kernel
theorem dX2_clear_2 : decode cX2_clear 2 = .ok (.putfield 9, 3) := by decide +kernel
theorem dX2_clear_5 : decode cX2_clear 5 = .ok (.aload_n 0, 1) := by decide +kernel
theorem dX2_clear_6 : decode cX2_clear 6 = .ok (.iconst 0, 1) := by decide +kernel
theorem dX2_clear_7 : decode cX2_clear 7 = .ok (.putfield 15, 3) := by decide +kernel
theorem dX2_clear_10 : decode cX2_clear 10 = .ok (.return_, 1) := by decide +kernel
theorem dX2_become_0 : decode cX2_become 0 = .ok (.aload_n 0, 1) := by decide +kernel
theorem dX2_become_1 : decode cX2_become 1 = .ok (.invokevirtual 47, 3) := by decide +kernel
theorem dX2_become_4 : decode cX2_become 4 = .ok (.iconst 0, 1) := by decide +kernel
theorem dX2_become_5 : decode cX2_become 5 = .ok (.istore_n 2, 1) := by decide +kernel
theorem dX2_become_6 : decode cX2_become 6 = .ok (.iload_n 2, 1) := by decide +kernel
theorem dX2_become_7 : decode cX2_become 7 = .ok (.aload_n 1, 1) := by decide +kernel
theorem dX2_become_8 : decode cX2_become 8 = .ok (.getfield 9, 3) := by decide +kernel
theorem dX2_become_11 : decode cX2_become 11 = .ok (.if_icmp .ge 31, 3) := by decide +kernel
theorem dX2_become_14 : decode cX2_become 14 = .ok (.aload_n 0, 1) := by decide +kernel
theorem dX2_become_15 : decode cX2_become 15 = .ok (.aload_n 1, 1) := by decide +kernel
theorem dX2_become_16 : decode cX2_become 16 = .ok (.getfield 18, 3) := by decide +kernel
theorem dX2_become_19 : decode cX2_become 19 = .ok (.iload_n 2, 1) := by decide +kernel
theorem dX2_become_20 : decode cX2_become 20 = .ok (.iaload, 1) := by decide +kernel
theorem dX2_become_21 : decode cX2_become 21 = .ok (.aload_n 1, 1) := by decide +kernel
theorem dX2_become_22 : decode cX2_become 22 = .ok (.getfield 22, 3) := by decide +kernel
theorem dX2_become_25 : decode cX2_become 25 = .ok (.iload_n 2, 1) := by decide +kernel
theorem dX2_become_26 : decode cX2_become 26 = .ok (.iaload, 1) := by decide +kernel
theorem dX2_become_27 : decode cX2_become 27 = .ok (.aload_n 1, 1) := by decide +kernel
theorem dX2_become_28 : decode cX2_become 28 = .ok (.getfield 25, 3) := by decide +kernel
theorem dX2_become_31 : decode cX2_become 31 = .ok (.iload_n 2, 1) := by decide +kernel
theorem dX2_become_32 : decode cX2_become 32 = .ok (.iaload, 1) := by decide +kernel
theorem dX2_become_33 : decode cX2_become 33 = .ok (.invokevirtual 50, 3) := by decide +kernel
theorem dX2_become_36 : decode cX2_become 36 = .ok (.iinc 2 1, 3) := by decide +kernel
theorem dX2_become_39 : decode cX2_become 39 = .ok (.goto (-33), 3) := by decide +kernel
theorem dX2_become_42 : decode cX2_become 42 = .ok (.iconst 0, 1) := by decide +kernel
theorem dX2_become_43 : decode cX2_become 43 = .ok (.istore_n 2, 1) := by decide +kernel
theorem dX2_become_44 : decode cX2_become 44 = .ok (.iload_n 2, 1) := by decide +kernel
theorem dX2_become_45 : decode cX2_become 45 = .ok (.aload_n 1, 1) := by decide +kernel
theorem dX2_become_46 : decode cX2_become 46 = .ok (.getfield 15, 3) := by decide +kernel
theorem dX2_become_49 : decode cX2_become 49 = .ok (.if_icmp .ge 31, 3) := by decide +kernel
theorem dX2_become_52 : decode cX2_become 52 = .ok (.aload_n 0, 1) := by decide +kernel
theorem dX2_become_53 : decode cX2_become 53 = .ok (.aload_n 1, 1) := by decide +kernel
theorem dX2_become_54 : decode cX2_become 54 = .ok (.getfield 31, 3) := by decide +kernel
theorem dX2_become_57 : decode cX2_become 57 = .ok (.iload_n 2, 1) := by decide +kernel
theorem dX2_become_58 : decode cX2_become 58 = .ok (.iaload, 1) := by decide +kernel
theorem dX2_become_59 : decode cX2_become 59 = .ok (.aload_n 1, 1) := by decide +kernel
theorem dX2_become_60 : decode cX2_become 60 = .ok (.getfield 34, 3) := by decide +kernel
theorem dX2_become_63 : decode cX2_become 63 = .ok (.iload_n 2, 1) := by decide +kernel
theorem dX2_become_64 : decode cX2_become 64 = .ok (.iaload, 1) := by decide +kernel
theorem dX2_become_65 : decode cX2_become 65 = .ok (.aload_n 1, 1) := by decide +kernel
theorem dX2_become_66 : decode cX2_become 66 = .ok (.getfield 37, 3) := by decide +kernel
theorem dX2_become_69 : decode cX2_become 69 = .ok (.iload_n 2, 1) := by decide +kernel
theorem dX2_become_70 : decode cX2_become 70 = .ok (.iaload, 1) := by decide +kernel
theorem dX2_become_71 : decode cX2_become 71 = .ok (.invokevirtual 54, 3) := by decide +kernel
theorem dX2_become_74 : decode cX2_become 74 = .ok (.iinc 2 1, 3) := by decide +kernel
theorem dX2_become_77 : decode cX2_become 77 = .ok (.goto (-33), 3) := by decide +kernel
theorem dX2_become_80 : decode cX2_become 80 = .ok (.iconst 0, 1) := by decide +kernel
theorem dX2_become_81 : decode cX2_become 81 = .ok (.istore_n 2, 1) := by decide +kernel
theorem dX2_become_82 : decode cX2_become 82 = .ok (.iload_n 2, 1) := by decide +kernel
theorem dX2_become_83 : decode cX2_become 83 = .ok (.aload_n 0, 1) := by decide +kernel
theorem dX2_become_84 : decode cX2_become 84 = .ok (.getfield 9, 3) := by decide +kernel
theorem dX2_become_87 : decode cX2_become 87 = .ok (.if_icmp .ge 31, 3) := by decide +kernel
theorem dX2_become_90 : decode cX2_become 90 = .ok (.aload_n 0, 1) := by decide +kernel
theorem dX2_become_91 : decode cX2_become 91 = .ok (.getfield 40, 3) := by decide +kernel
theorem dX2_become_94 : decode cX2_become 94 = .ok (.iload_n 2, 1) := by decide +kernel
theorem dX2_become_95 : decode cX2_become 95 = .ok (.aload_n 0, 1) := by decide +kernel
theorem dX2_become_96 : decode cX2_become 96 = .ok (.iload_n 2, 1) := by decide +kernel
theorem dX2_become_97 : decode cX2_become 97 = .ok (.invokevirtual 57, 3) := by decide +kernel
theorem dX2_become_100 : decode cX2_become 100 = .ok (.lastore, 1) := by decide +kernel
theorem dX2_become_101 : decode cX2_become 101 = .ok (.aload_n 0, 1) := by decide +kernel
theorem dX2_become_102 : decode cX2_become 102 = .ok (.getfield 44, 3) := by decide +kernel
theorem dX2_become_105 : decode cX2_become 105 = .ok (.iload_n 2, 1) := by decide +kernel
theorem dX2_become_106 : decode cX2_become 106 = .ok (.aload_n 0, 1) := by decide +kernel
theorem dX2_become_107 : decode cX2_become 107 = .ok (.iload_n 2, 1) := by decide +kernel
theorem dX2_become_108 : decode cX2_become 108 = .ok (.invokevirtual 61, 3) := by decide +kernel
theorem dX2_become_111 : decode cX2_become 111 = .ok (.iastore, 1) := by decide +kernel
theorem dX2_become_112 : decode cX2_become 112 = .ok (.iinc 2 1, 3) := by decide +kernel
theorem dX2_become_115 : decode cX2_become 115 = .ok (.goto (-33), 3) := by decide +kernel
theorem dX2_become_118 : decode cX2_become 118 = .ok (.return_, 1) := by decide +kernel
theorem dX2_addDeed_0 : decode cX2_addDeed 0 = .ok (.aload_n 0, 1) := by decide +kernel
theorem dX2_addDeed_1 : decode cX2_addDeed 1 = .ok (.getfield 9, 3) := by decide +kernel
theorem dX2_addDeed_4 : decode cX2_addDeed 4 = .ok (.bipush 6, 2) := by decide +kernel
theorem dX2_addDeed_6 : decode cX2_addDeed 6 = .ok (.if_icmp .lt 4, 3) := by decide +kernel
theorem dX2_addDeed_9 : decode cX2_addDeed 9 = .ok (.return_, 1) := by decide +kernel
theorem dX2_addDeed_10 : decode cX2_addDeed 10 = .ok (.aload_n 0, 1) := by decide +kernel
theorem dX2_addDeed_11 : decode cX2_addDeed 11 = .ok (.getfield 9, 3) := by decide +kernel
theorem dX2_addDeed_14 : decode cX2_addDeed 14 = .ok (.istore 4, 2) := by decide +kernel
theorem dX2_addDeed_16 : decode cX2_addDeed 16 = .ok (.aload_n 0, 1) := by decide +kernel
theorem dX2_addDeed_17 : decode cX2_addDeed 17 = .ok (.dup, 1) := by decide +kernel
theorem dX2_addDeed_18 : decode cX2_addDeed 18 = .ok (.getfield 9, 3) := by decide +kernel
theorem dX2_addDeed_21 : decode cX2_addDeed 21 = .ok (.iconst 1, 1) := by decide +kernel
theorem dX2_addDeed_22 : decode cX2_addDeed 22 = .ok (.iadd, 1) := by decide +kernel
theorem dX2_addDeed_23 : decode cX2_addDeed 23 = .ok (.putfield 9, 3) := by decide +kernel
theorem dX2_addDeed_26 : decode cX2_addDeed 26 = .ok (.aload_n 0, 1) := by decide +kernel
theorem dX2_addDeed_27 : decode cX2_addDeed 27 = .ok (.getfield 18, 3) := by decide +kernel
theorem dX2_addDeed_30 : decode cX2_addDeed 30 = .ok (.iload 4, 2) := by decide +kernel
theorem dX2_addDeed_32 : decode cX2_addDeed 32 = .ok (.iload_n 1, 1) := by decide +kernel
theorem dX2_addDeed_33 : decode cX2_addDeed 33 = .ok (.iastore, 1) := by decide +kernel
theorem dX2_addDeed_34 : decode cX2_addDeed 34 = .ok (.aload_n 0, 1) := by decide +kernel
theorem dX2_addDeed_35 : decode cX2_addDeed 35 = .ok (.getfield 22, 3) := by decide +kernel
theorem dX2_addDeed_38 : decode cX2_addDeed 38 = .ok (.iload 4, 2) := by decide +kernel
theorem dX2_addDeed_40 : decode cX2_addDeed 40 = .ok (.iload_n 2, 1) := by decide +kernel
theorem dX2_addDeed_41 : decode cX2_addDeed 41 = .ok (.iastore, 1) := by decide +kernel
theorem dX2_addDeed_42 : decode cX2_addDeed 42 = .ok (.aload_n 0, 1) := by decide +kernel
theorem dX2_addDeed_43 : decode cX2_addDeed 43 = .ok (.getfield 25, 3) := by decide +kernel
theorem dX2_addDeed_46 : decode cX2_addDeed 46 = .ok (.iload 4, 2) := by decide +kernel
theorem dX2_addDeed_48 : decode cX2_addDeed 48 = .ok (.iload_n 3, 1) := by decide +kernel
theorem dX2_addDeed_49 : decode cX2_addDeed 49 = .ok (.iastore, 1) := by decide +kernel
theorem dX2_addDeed_50 : decode cX2_addDeed 50 = .ok (.aload_n 0, 1) := by decide +kernel
theorem dX2_addDeed_51 : decode cX2_addDeed 51 = .ok (.getfield 28, 3) := by decide +kernel
theorem dX2_addDeed_54 : decode cX2_addDeed 54 = .ok (.iload 4, 2) := by decide +kernel
theorem dX2_addDeed_56 : decode cX2_addDeed 56 = .ok (.iload_n 3, 1) := by decide +kernel
theorem dX2_addDeed_57 : decode cX2_addDeed 57 = .ok (.iastore, 1) := by decide +kernel
theorem dX2_addDeed_58 : decode cX2_addDeed 58 = .ok (.iconst 0, 1) := by decide +kernel
theorem dX2_addDeed_59 : decode cX2_addDeed 59 = .ok (.istore 5, 2) := by decide +kernel
theorem dX2_addDeed_61 : decode cX2_addDeed 61 = .ok (.iload 5, 2) := by decide +kernel
theorem dX2_addDeed_63 : decode cX2_addDeed 63 = .ok (.iload 4, 2) := by decide +kernel
theorem dX2_addDeed_65 : decode cX2_addDeed 65 = .ok (.if_icmp .ge 39, 3) := by decide +kernel
theorem dX2_addDeed_68 : decode cX2_addDeed 68 = .ok (.aload_n 0, 1) := by decide +kernel
theorem dX2_addDeed_69 : decode cX2_addDeed 69 = .ok (.getfield 28, 3) := by decide +kernel
theorem dX2_addDeed_72 : decode cX2_addDeed 72 = .ok (.iload 4, 2) := by decide +kernel
theorem dX2_addDeed_74 : decode cX2_addDeed 74 = .ok (.dup2, 1) := by decide +kernel
theorem dX2_addDeed_75 : decode cX2_addDeed 75 = .ok (.iaload, 1) := by decide +kernel
theorem dX2_addDeed_76 : decode cX2_addDeed 76 = .ok (.iload_n 3, 1) := by decide +kernel
theorem dX2_addDeed_77 : decode cX2_addDeed 77 = .ok (.iload 5, 2) := by decide +kernel
theorem dX2_addDeed_79 : decode cX2_addDeed 79 = .ok (.invokestatic 65, 3) := by decide +kernel
theorem dX2_addDeed_82 : decode cX2_addDeed 82 = .ok (.ifCond .eq 13, 3) := by decide +kernel
theorem dX2_addDeed_85 : decode cX2_addDeed 85 = .ok (.aload_n 0, 1) := by decide +kernel
theorem dX2_addDeed_86 : decode cX2_addDeed 86 = .ok (.getfield 28, 3) := by decide +kernel
theorem dX2_addDeed_89 : decode cX2_addDeed 89 = .ok (.iload 5, 2) := by decide +kernel
theorem dX2_addDeed_91 : decode cX2_addDeed 91 = .ok (.iaload, 1) := by decide +kernel
theorem dX2_addDeed_92 : decode cX2_addDeed 92 = .ok (.goto 4, 3) := by decide +kernel
theorem dX2_addDeed_95 : decode cX2_addDeed 95 = .ok (.iconst 0, 1) := by decide +kernel
theorem dX2_addDeed_96 : decode cX2_addDeed 96 = .ok (.ior, 1) := by decide +kernel
theorem dX2_addDeed_97 : decode cX2_addDeed 97 = .ok (.iastore, 1) := by decide +kernel
theorem dX2_addDeed_98 : decode cX2_addDeed 98 = .ok (.iinc 5 1, 3) := by decide +kernel
theorem dX2_addDeed_101 : decode cX2_addDeed 101 = .ok (.goto (-40), 3) := by decide +kernel
theorem dX2_addDeed_104 : decode cX2_addDeed 104 = .ok (.return_, 1) := by decide +kernel
theorem dX2_addHour_0 : decode cX2_addHour 0 = .ok (.aload_n 0, 1) := by decide +kernel
theorem dX2_addHour_1 : decode cX2_addHour 1 = .ok (.getfield 15, 3) := by decide +kernel
theorem dX2_addHour_4 : decode cX2_addHour 4 = .ok (.bipush 7, 2) := by decide +kernel
theorem dX2_addHour_6 : decode cX2_addHour 6 = .ok (.if_icmp .lt 4, 3) := by decide +kernel
theorem dX2_addHour_9 : decode cX2_addHour 9 = .ok (.return_, 1) := by decide +kernel
theorem dX2_addHour_10 : decode cX2_addHour 10 = .ok (.aload_n 0, 1) := by decide +kernel
theorem dX2_addHour_11 : decode cX2_addHour 11 = .ok (.getfield 31, 3) := by decide +kernel
theorem dX2_addHour_14 : decode cX2_addHour 14 = .ok (.aload_n 0, 1) := by decide +kernel
theorem dX2_addHour_15 : decode cX2_addHour 15 = .ok (.getfield 15, 3) := by decide +kernel
theorem dX2_addHour_18 : decode cX2_addHour 18 = .ok (.iload_n 1, 1) := by decide +kernel
theorem dX2_addHour_19 : decode cX2_addHour 19 = .ok (.iastore, 1) := by decide +kernel
theorem dX2_addHour_20 : decode cX2_addHour 20 = .ok (.aload_n 0, 1) := by decide +kernel
theorem dX2_addHour_21 : decode cX2_addHour 21 = .ok (.getfield 34, 3) := by decide +kernel
theorem dX2_addHour_24 : decode cX2_addHour 24 = .ok (.aload_n 0, 1) := by decide +kernel
theorem dX2_addHour_25 : decode cX2_addHour 25 = .ok (.getfield 15, 3) := by decide +kernel
theorem dX2_addHour_28 : decode cX2_addHour 28 = .ok (.iload_n 2, 1) := by decide +kernel
theorem dX2_addHour_29 : decode cX2_addHour 29 = .ok (.iastore, 1) := by decide +kernel
theorem dX2_addHour_30 : decode cX2_addHour 30 = .ok (.aload_n 0, 1) := by decide +kernel
theorem dX2_addHour_31 : decode cX2_addHour 31 = .ok (.getfield 37, 3) := by decide +kernel
theorem dX2_addHour_34 : decode cX2_addHour 34 = .ok (.aload_n 0, 1) := by decide +kernel
theorem dX2_addHour_35 : decode cX2_addHour 35 = .ok (.getfield 15, 3) := by decide +kernel
theorem dX2_addHour_38 : decode cX2_addHour 38 = .ok (.iload_n 3, 1) := by decide +kernel
theorem dX2_addHour_39 : decode cX2_addHour 39 = .ok (.iastore, 1) := by decide +kernel
theorem dX2_addHour_40 : decode cX2_addHour 40 = .ok (.aload_n 0, 1) := by decide +kernel
theorem dX2_addHour_41 : decode cX2_addHour 41 = .ok (.dup, 1) := by decide +kernel
theorem dX2_addHour_42 : decode cX2_addHour 42 = .ok (.getfield 15, 3) := by decide +kernel
theorem dX2_addHour_45 : decode cX2_addHour 45 = .ok (.iconst 1, 1) := by decide +kernel
theorem dX2_addHour_46 : decode cX2_addHour 46 = .ok (.iadd, 1) := by decide +kernel
theorem dX2_addHour_47 : decode cX2_addHour 47 = .ok (.putfield 15, 3) := by decide +kernel
theorem dX2_addHour_50 : decode cX2_addHour 50 = .ok (.return_, 1) := by decide +kernel
theorem dX2_setsReadyFor_0 : decode cX2_setsReadyFor 0 = .ok (.lconst 0, 1) := by decide +kernel
theorem dX2_setsReadyFor_1 : decode cX2_setsReadyFor 1 = .ok (.lstore_n 2, 1) := by decide +kernel
theorem dX2_setsReadyFor_2 : decode cX2_setsReadyFor 2 = .ok (.iconst 0, 1) := by decide +kernel
theorem dX2_setsReadyFor_3 : decode cX2_setsReadyFor 3 = .ok (.istore 4, 2) := by decide +kernel
theorem dX2_setsReadyFor_5 : decode cX2_setsReadyFor 5 = .ok (.iload 4, 2) := by decide +kernel
theorem dX2_setsReadyFor_7 : decode cX2_setsReadyFor 7 = .ok (.bipush 64, 2) := by decide +kernel
theorem dX2_setsReadyFor_9 : decode cX2_setsReadyFor 9 = .ok (.if_icmp .ge 65, 3) := by decide +kernel
theorem dX2_setsReadyFor_12 : decode cX2_setsReadyFor 12 = .ok (.iload 4, 2) := by decide +kernel
theorem dX2_setsReadyFor_14 : decode cX2_setsReadyFor 14 = .ok (.iload_n 1, 1) := by decide +kernel
theorem dX2_setsReadyFor_15 : decode cX2_setsReadyFor 15 = .ok (.invokestatic 65, 3) := by decide +kernel
theorem dX2_setsReadyFor_18 : decode cX2_setsReadyFor 18 = .ok (.ifCond .ne 31, 3) := by decide +kernel
theorem dX2_setsReadyFor_21 : decode cX2_setsReadyFor 21 = .ok (.aload_n 0, 1) := by decide +kernel
theorem dX2_setsReadyFor_22 : decode cX2_setsReadyFor 22 = .ok (.getfield 25, 3) := by decide +kernel
theorem dX2_setsReadyFor_25 : decode cX2_setsReadyFor 25 = .ok (.iload_n 1, 1) := by decide +kernel
theorem dX2_setsReadyFor_26 : decode cX2_setsReadyFor 26 = .ok (.iaload, 1) := by decide +kernel
theorem dX2_setsReadyFor_27 : decode cX2_setsReadyFor 27 = .ok (.iload 4, 2) := by decide +kernel
theorem dX2_setsReadyFor_29 : decode cX2_setsReadyFor 29 = .ok (.iconst (-1), 1) := by decide +kernel
theorem dX2_setsReadyFor_30 : decode cX2_setsReadyFor 30 = .ok (.ixor, 1) := by decide +kernel
theorem dX2_setsReadyFor_31 : decode cX2_setsReadyFor 31 = .ok (.iand, 1) := by decide +kernel
theorem dX2_setsReadyFor_32 : decode cX2_setsReadyFor 32 = .ok (.ifCond .ne 17, 3) := by decide +kernel
theorem dX2_setsReadyFor_35 : decode cX2_setsReadyFor 35 = .ok (.aload_n 0, 1) := by decide +kernel
theorem dX2_setsReadyFor_36 : decode cX2_setsReadyFor 36 = .ok (.iload_n 1, 1) := by decide +kernel
theorem dX2_setsReadyFor_37 : decode cX2_setsReadyFor 37 = .ok (.iload 4, 2) := by decide +kernel
theorem dX2_setsReadyFor_39 : decode cX2_setsReadyFor 39 = .ok (.invokevirtual 69, 3) := by decide +kernel
theorem dX2_setsReadyFor_42 : decode cX2_setsReadyFor 42 = .ok (.ifCond .eq 7, 3) := by decide +kernel
theorem dX2_setsReadyFor_45 : decode cX2_setsReadyFor 45 = .ok (.iconst 1, 1) := by decide +kernel
theorem dX2_setsReadyFor_46 : decode cX2_setsReadyFor 46 = .ok (.goto 4, 3) := by decide +kernel
theorem dX2_setsReadyFor_49 : decode cX2_setsReadyFor 49 = .ok (.iconst 0, 1) := by decide +kernel
theorem dX2_setsReadyFor_50 : decode cX2_setsReadyFor 50 = .ok (.istore 5, 2) := by decide +kernel
theorem dX2_setsReadyFor_52 : decode cX2_setsReadyFor 52 = .ok (.lload_n 2, 1) := by decide +kernel
theorem dX2_setsReadyFor_53 : decode cX2_setsReadyFor 53 = .ok (.iload 5, 2) := by decide +kernel
theorem dX2_setsReadyFor_55 : decode cX2_setsReadyFor 55 = .ok (.ifCond .eq 10, 3) := by decide +kernel
theorem dX2_setsReadyFor_58 : decode cX2_setsReadyFor 58 = .ok (.lconst 1, 1) := by decide +kernel
theorem dX2_setsReadyFor_59 : decode cX2_setsReadyFor 59 = .ok (.iload 4, 2) := by decide +kernel
theorem dX2_setsReadyFor_61 : decode cX2_setsReadyFor 61 = .ok (.lshl, 1) := by decide +kernel
theorem dX2_setsReadyFor_62 : decode cX2_setsReadyFor 62 = .ok (.goto 4, 3) := by decide +kernel
theorem dX2_setsReadyFor_65 : decode cX2_setsReadyFor 65 = .ok (.lconst 0, 1) := by decide +kernel
theorem dX2_setsReadyFor_66 : decode cX2_setsReadyFor 66 = .ok (.lor, 1) := by decide +kernel
theorem dX2_setsReadyFor_67 : decode cX2_setsReadyFor 67 = .ok (.lstore_n 2, 1) := by decide +kernel
theorem dX2_setsReadyFor_68 : decode cX2_setsReadyFor 68 = .ok (.iinc 4 1, 3) := by decide +kernel
theorem dX2_setsReadyFor_71 : decode cX2_setsReadyFor 71 = .ok (.goto (-66), 3) := by decide +kernel
theorem dX2_setsReadyFor_74 : decode cX2_setsReadyFor 74 = .ok (.lload_n 2, 1) := by decide +kernel
theorem dX2_setsReadyFor_75 : decode cX2_setsReadyFor 75 = .ok (.lreturn, 1) := by decide +kernel
theorem dX2_hoursSuiting_0 : decode cX2_hoursSuiting 0 = .ok (.iconst 0, 1) := by decide +kernel
theorem dX2_hoursSuiting_1 : decode cX2_hoursSuiting 1 = .ok (.istore_n 2, 1) := by decide +kernel
theorem dX2_hoursSuiting_2 : decode cX2_hoursSuiting 2 = .ok (.iconst 0, 1) := by decide +kernel
theorem dX2_hoursSuiting_3 : decode cX2_hoursSuiting 3 = .ok (.istore_n 3, 1) := by decide +kernel
theorem dX2_hoursSuiting_4 : decode cX2_hoursSuiting 4 = .ok (.iload_n 3, 1) := by decide +kernel
theorem dX2_hoursSuiting_5 : decode cX2_hoursSuiting 5 = .ok (.aload_n 0, 1) := by decide +kernel
theorem dX2_hoursSuiting_6 : decode cX2_hoursSuiting 6 = .ok (.getfield 15, 3) := by decide +kernel
theorem dX2_hoursSuiting_9 : decode cX2_hoursSuiting 9 = .ok (.if_icmp .ge 37, 3) := by decide +kernel
theorem dX2_hoursSuiting_12 : decode cX2_hoursSuiting 12 = .ok (.iload_n 2, 1) := by decide +kernel
theorem dX2_hoursSuiting_13 : decode cX2_hoursSuiting 13 = .ok (.aload_n 0, 1) := by decide +kernel
theorem dX2_hoursSuiting_14 : decode cX2_hoursSuiting 14 = .ok (.iload_n 1, 1) := by decide +kernel
theorem dX2_hoursSuiting_15 : decode cX2_hoursSuiting 15 = .ok (.iload_n 3, 1) := by decide +kernel
theorem dX2_hoursSuiting_16 : decode cX2_hoursSuiting 16 = .ok (.invokevirtual 72, 3) := by decide +kernel
theorem dX2_hoursSuiting_19 : decode cX2_hoursSuiting 19 = .ok (.ifCond .eq 18, 3) := by decide +kernel
theorem dX2_hoursSuiting_22 : decode cX2_hoursSuiting 22 = .ok (.aload_n 0, 1) := by decide +kernel
theorem dX2_hoursSuiting_23 : decode cX2_hoursSuiting 23 = .ok (.iload_n 1, 1) := by decide +kernel
theorem dX2_hoursSuiting_24 : decode cX2_hoursSuiting 24 = .ok (.iload_n 3, 1) := by decide +kernel
theorem dX2_hoursSuiting_25 : decode cX2_hoursSuiting 25 = .ok (.invokevirtual 75, 3) := by decide +kernel
theorem dX2_hoursSuiting_28 : decode cX2_hoursSuiting 28 = .ok (.ifCond .eq 9, 3) := by decide +kernel
theorem dX2_hoursSuiting_31 : decode cX2_hoursSuiting 31 = .ok (.iconst 1, 1) := by decide +kernel
theorem dX2_hoursSuiting_32 : decode cX2_hoursSuiting 32 = .ok (.iload_n 3, 1) := by decide +kernel
theorem dX2_hoursSuiting_33 : decode cX2_hoursSuiting 33 = .ok (.ishl, 1) := by decide +kernel
theorem dX2_hoursSuiting_34 : decode cX2_hoursSuiting 34 = .ok (.goto 4, 3) := by decide +kernel
theorem dX2_hoursSuiting_37 : decode cX2_hoursSuiting 37 = .ok (.iconst 0, 1) := by decide +kernel
theorem dX2_hoursSuiting_38 : decode cX2_hoursSuiting 38 = .ok (.ior, 1) := by decide +kernel
theorem dX2_hoursSuiting_39 : decode cX2_hoursSuiting 39 = .ok (.istore_n 2, 1) := by decide +kernel
theorem dX2_hoursSuiting_40 : decode cX2_hoursSuiting 40 = .ok (.iinc 3 1, 3) := by decide +kernel
theorem dX2_hoursSuiting_43 : decode cX2_hoursSuiting 43 = .ok (.goto (-39), 3) := by decide +kernel
theorem dX2_hoursSuiting_46 : decode cX2_hoursSuiting 46 = .ok (.iload_n 2, 1) := by decide +kernel
theorem dX2_hoursSuiting_47 : decode cX2_hoursSuiting 47 = .ok (.ireturn, 1) := by decide +kernel
theorem dX2_hasDeed_0 : decode cX2_hasDeed 0 = .ok (.iload_n 1, 1) := by decide +kernel
theorem dX2_hasDeed_1 : decode cX2_hasDeed 1 = .ok (.ifCond .lt 15, 3) := by decide +kernel
theorem dX2_hasDeed_4 : decode cX2_hasDeed 4 = .ok (.iload_n 1, 1) := by decide +kernel
theorem dX2_hasDeed_5 : decode cX2_hasDeed 5 = .ok (.aload_n 0, 1) := by decide +kernel
theorem dX2_hasDeed_6 : decode cX2_hasDeed 6 = .ok (.getfield 9, 3) := by decide +kernel
theorem dX2_hasDeed_9 : decode cX2_hasDeed 9 = .ok (.if_icmp .ge 7, 3) := by decide +kernel
theorem dX2_hasDeed_12 : decode cX2_hasDeed 12 = .ok (.iconst 1, 1) := by decide +kernel
theorem dX2_hasDeed_13 : decode cX2_hasDeed 13 = .ok (.goto 4, 3) := by decide +kernel
theorem dX2_hasDeed_16 : decode cX2_hasDeed 16 = .ok (.iconst 0, 1) := by decide +kernel
theorem dX2_hasDeed_17 : decode cX2_hasDeed 17 = .ok (.ireturn, 1) := by decide +kernel
theorem dX2_hasHour_0 : decode cX2_hasHour 0 = .ok (.iload_n 1, 1) := by decide +kernel
theorem dX2_hasHour_1 : decode cX2_hasHour 1 = .ok (.ifCond .lt 15, 3) := by decide +kernel
theorem dX2_hasHour_4 : decode cX2_hasHour 4 = .ok (.iload_n 1, 1) := by decide +kernel
theorem dX2_hasHour_5 : decode cX2_hasHour 5 = .ok (.aload_n 0, 1) := by decide +kernel
theorem dX2_hasHour_6 : decode cX2_hasHour 6 = .ok (.getfield 15, 3) := by decide +kernel
theorem dX2_hasHour_9 : decode cX2_hasHour 9 = .ok (.if_icmp .ge 7, 3) := by decide +kernel
theorem dX2_hasHour_12 : decode cX2_hasHour 12 = .ok (.iconst 1, 1) := by decide +kernel
theorem dX2_hasHour_13 : decode cX2_hasHour 13 = .ok (.goto 4, 3) := by decide +kernel
theorem dX2_hasHour_16 : decode cX2_hasHour 16 = .ok (.iconst 0, 1) := by decide +kernel
theorem dX2_hasHour_17 : decode cX2_hasHour 17 = .ok (.ireturn, 1) := by decide +kernel
theorem dX2_isNight_0 : decode cX2_isNight 0 = .ok (.aload_n 0, 1) := by decide +kernel
theorem dX2_isNight_1 : decode cX2_isNight 1 = .ok (.getfield 31, 3) := by decide +kernel
theorem dX2_isNight_4 : decode cX2_isNight 4 = .ok (.iload_n 1, 1) := by decide +kernel
theorem dX2_isNight_5 : decode cX2_isNight 5 = .ok (.iaload, 1) := by decide +kernel
theorem dX2_isNight_6 : decode cX2_isNight 6 = .ok (.bipush 6, 2) := by decide +kernel
theorem dX2_isNight_8 : decode cX2_isNight 8 = .ok (.if_icmp .lt 14, 3) := by decide +kernel
theorem dX2_isNight_11 : decode cX2_isNight 11 = .ok (.aload_n 0, 1) := by decide +kernel
theorem dX2_isNight_12 : decode cX2_isNight 12 = .ok (.getfield 31, 3) := by decide +kernel
theorem dX2_isNight_15 : decode cX2_isNight 15 = .ok (.iload_n 1, 1) := by decide +kernel
theorem dX2_isNight_16 : decode cX2_isNight 16 = .ok (.iaload, 1) := by decide +kernel
theorem dX2_isNight_17 : decode cX2_isNight 17 = .ok (.bipush 17, 2) := by decide +kernel
theorem dX2_isNight_19 : decode cX2_isNight 19 = .ok (.if_icmp .le 7, 3) := by decide +kernel
theorem dX2_isNight_22 : decode cX2_isNight 22 = .ok (.iconst 1, 1) := by decide +kernel
theorem dX2_isNight_23 : decode cX2_isNight 23 = .ok (.goto 4, 3) := by decide +kernel
theorem dX2_isNight_26 : decode cX2_isNight 26 = .ok (.iconst 0, 1) := by decide +kernel
theorem dX2_isNight_27 : decode cX2_isNight 27 = .ok (.ireturn, 1) := by decide +kernel
theorem dX2_isOfKind_0 : decode cX2_isOfKind 0 = .ok (.aload_n 0, 1) := by decide +kernel
theorem dX2_isOfKind_1 : decode cX2_isOfKind 1 = .ok (.getfield 18, 3) := by decide +kernel
theorem dX2_isOfKind_4 : decode cX2_isOfKind 4 = .ok (.iload_n 1, 1) := by decide +kernel
theorem dX2_isOfKind_5 : decode cX2_isOfKind 5 = .ok (.iaload, 1) := by decide +kernel
theorem dX2_isOfKind_6 : decode cX2_isOfKind 6 = .ok (.istore_n 3, 1) := by decide +kernel
theorem dX2_isOfKind_7 : decode cX2_isOfKind 7 = .ok (.iload_n 3, 1) := by decide +kernel
theorem dX2_isOfKind_8 : decode cX2_isOfKind 8 = .ok (.iload_n 2, 1) := by decide +kernel
theorem dX2_isOfKind_9 : decode cX2_isOfKind 9 = .ok (.if_icmp .eq 23, 3) := by decide +kernel
theorem dX2_isOfKind_12 : decode cX2_isOfKind 12 = .ok (.iload_n 3, 1) := by decide +kernel
theorem dX2_isOfKind_13 : decode cX2_isOfKind 13 = .ok (.iconst 4, 1) := by decide +kernel
theorem dX2_isOfKind_14 : decode cX2_isOfKind 14 = .ok (.if_icmp .ne 8, 3) := by decide +kernel
theorem dX2_isOfKind_17 : decode cX2_isOfKind 17 = .ok (.iload_n 2, 1) := by decide +kernel
theorem dX2_isOfKind_18 : decode cX2_isOfKind 18 = .ok (.iconst 1, 1) := by decide +kernel
theorem dX2_isOfKind_19 : decode cX2_isOfKind 19 = .ok (.if_icmp .eq 13, 3) := by decide +kernel
theorem dX2_isOfKind_22 : decode cX2_isOfKind 22 = .ok (.iload_n 3, 1) := by decide +kernel
theorem dX2_isOfKind_23 : decode cX2_isOfKind 23 = .ok (.iconst 5, 1) := by decide +kernel
theorem dX2_isOfKind_24 : decode cX2_isOfKind 24 = .ok (.if_icmp .ne 12, 3) := by decide +kernel
theorem dX2_isOfKind_27 : decode cX2_isOfKind 27 = .ok (.iload_n 2, 1) := by decide +kernel
theorem dX2_isOfKind_28 : decode cX2_isOfKind 28 = .ok (.iconst 2, 1) := by decide +kernel
theorem dX2_isOfKind_29 : decode cX2_isOfKind 29 = .ok (.if_icmp .ne 7, 3) := by decide +kernel
theorem dX2_isOfKind_32 : decode cX2_isOfKind 32 = .ok (.iconst 1, 1) := by decide +kernel
theorem dX2_isOfKind_33 : decode cX2_isOfKind 33 = .ok (.goto 4, 3) := by decide +kernel
theorem dX2_isOfKind_36 : decode cX2_isOfKind 36 = .ok (.iconst 0, 1) := by decide +kernel
theorem dX2_isOfKind_37 : decode cX2_isOfKind 37 = .ok (.ireturn, 1) := by decide +kernel
theorem dX2_hasLight_0 : decode cX2_hasLight 0 = .ok (.aload_n 0, 1) := by decide +kernel
theorem dX2_hasLight_1 : decode cX2_hasLight 1 = .ok (.getfield 22, 3) := by decide +kernel
theorem dX2_hasLight_4 : decode cX2_hasLight 4 = .ok (.iload_n 1, 1) := by decide +kernel
theorem dX2_hasLight_5 : decode cX2_hasLight 5 = .ok (.iaload, 1) := by decide +kernel
theorem dX2_hasLight_6 : decode cX2_hasLight 6 = .ok (.iconst 2, 1) := by decide +kernel
theorem dX2_hasLight_7 : decode cX2_hasLight 7 = .ok (.if_icmp .eq 25, 3) := by decide +kernel
theorem dX2_hasLight_10 : decode cX2_hasLight 10 = .ok (.aload_n 0, 1) := by decide +kernel
theorem dX2_hasLight_11 : decode cX2_hasLight 11 = .ok (.iload_n 2, 1) := by decide +kernel
theorem dX2_hasLight_12 : decode cX2_hasLight 12 = .ok (.invokevirtual 78, 3) := by decide +kernel
theorem dX2_hasLight_15 : decode cX2_hasLight 15 = .ok (.aload_n 0, 1) := by decide +kernel
theorem dX2_hasLight_16 : decode cX2_hasLight 16 = .ok (.getfield 22, 3) := by decide +kernel
theorem dX2_hasLight_19 : decode cX2_hasLight 19 = .ok (.iload_n 1, 1) := by decide +kernel
theorem dX2_hasLight_20 : decode cX2_hasLight 20 = .ok (.iaload, 1) := by decide +kernel
theorem dX2_hasLight_21 : decode cX2_hasLight 21 = .ok (.ifCond .eq 7, 3) := by decide +kernel
theorem dX2_hasLight_24 : decode cX2_hasLight 24 = .ok (.iconst 1, 1) := by decide +kernel
theorem dX2_hasLight_25 : decode cX2_hasLight 25 = .ok (.goto 4, 3) := by decide +kernel
theorem dX2_hasLight_28 : decode cX2_hasLight 28 = .ok (.iconst 0, 1) := by decide +kernel
theorem dX2_hasLight_29 : decode cX2_hasLight 29 = .ok (.if_icmp .ne 7, 3) := by decide +kernel
theorem dX2_hasLight_32 : decode cX2_hasLight 32 = .ok (.iconst 1, 1) := by decide +kernel
theorem dX2_hasLight_33 : decode cX2_hasLight 33 = .ok (.goto 4, 3) := by decide +kernel
theorem dX2_hasLight_36 : decode cX2_hasLight 36 = .ok (.iconst 0, 1) := by decide +kernel
theorem dX2_hasLight_37 : decode cX2_hasLight 37 = .ok (.ireturn, 1) := by decide +kernel
theorem dX2_isTimeOf_0 : decode cX2_isTimeOf 0 = .ok (.aload_n 0, 1) := by decide +kernel
theorem dX2_isTimeOf_1 : decode cX2_isTimeOf 1 = .ok (.getfield 18, 3) := by decide +kernel
theorem dX2_isTimeOf_4 : decode cX2_isTimeOf 4 = .ok (.iload_n 1, 1) := by decide +kernel
theorem dX2_isTimeOf_5 : decode cX2_isTimeOf 5 = .ok (.iaload, 1) := by decide +kernel
theorem dX2_isTimeOf_6 : decode cX2_isTimeOf 6 = .ok (.iconst 2, 1) := by decide +kernel
theorem dX2_isTimeOf_7 : decode cX2_isTimeOf 7 = .ok (.if_icmp .ne 24, 3) := by decide +kernel
theorem dX2_isTimeOf_10 : decode cX2_isTimeOf 10 = .ok (.aload_n 0, 1) := by decide +kernel
theorem dX2_isTimeOf_11 : decode cX2_isTimeOf 11 = .ok (.getfield 31, 3) := by decide +kernel
theorem dX2_isTimeOf_14 : decode cX2_isTimeOf 14 = .ok (.iload_n 2, 1) := by decide +kernel
theorem dX2_isTimeOf_15 : decode cX2_isTimeOf 15 = .ok (.iaload, 1) := by decide +kernel
theorem dX2_isTimeOf_16 : decode cX2_isTimeOf 16 = .ok (.bipush 20, 2) := by decide +kernel
theorem dX2_isTimeOf_18 : decode cX2_isTimeOf 18 = .ok (.if_icmp .ge 13, 3) := by decide +kernel
theorem dX2_isTimeOf_21 : decode cX2_isTimeOf 21 = .ok (.aload_n 0, 1) := by decide +kernel
theorem dX2_isTimeOf_22 : decode cX2_isTimeOf 22 = .ok (.getfield 31, 3) := by decide +kernel
theorem dX2_isTimeOf_25 : decode cX2_isTimeOf 25 = .ok (.iload_n 2, 1) := by decide +kernel
theorem dX2_isTimeOf_26 : decode cX2_isTimeOf 26 = .ok (.iaload, 1) := by decide +kernel
theorem dX2_isTimeOf_27 : decode cX2_isTimeOf 27 = .ok (.iconst 5, 1) := by decide +kernel
theorem dX2_isTimeOf_28 : decode cX2_isTimeOf 28 = .ok (.if_icmp .gt 7, 3) := by decide +kernel
theorem dX2_isTimeOf_31 : decode cX2_isTimeOf 31 = .ok (.iconst 1, 1) := by decide +kernel
theorem dX2_isTimeOf_32 : decode cX2_isTimeOf 32 = .ok (.goto 4, 3) := by decide +kernel
theorem dX2_isTimeOf_35 : decode cX2_isTimeOf 35 = .ok (.iconst 0, 1) := by decide +kernel
theorem dX2_isTimeOf_36 : decode cX2_isTimeOf 36 = .ok (.ireturn, 1) := by decide +kernel
theorem dX2_isHungry_0 : decode cX2_isHungry 0 = .ok (.aload_n 0, 1) := by decide +kernel
theorem dX2_isHungry_1 : decode cX2_isHungry 1 = .ok (.iload_n 1, 1) := by decide +kernel
theorem dX2_isHungry_2 : decode cX2_isHungry 2 = .ok (.iconst 1, 1) := by decide +kernel
theorem dX2_isHungry_3 : decode cX2_isHungry 3 = .ok (.invokevirtual 82, 3) := by decide +kernel
theorem dX2_isHungry_6 : decode cX2_isHungry 6 = .ok (.ifCond .eq 8, 3) := by decide +kernel
theorem dX2_isHungry_9 : decode cX2_isHungry 9 = .ok (.iload_n 2, 1) := by decide +kernel
theorem dX2_isHungry_10 : decode cX2_isHungry 10 = .ok (.iconst 2, 1) := by decide +kernel
theorem dX2_isHungry_11 : decode cX2_isHungry 11 = .ok (.if_icmp .lt 7, 3) := by decide +kernel
theorem dX2_isHungry_14 : decode cX2_isHungry 14 = .ok (.iconst 1, 1) := by decide +kernel
theorem dX2_isHungry_15 : decode cX2_isHungry 15 = .ok (.goto 4, 3) := by decide +kernel
theorem dX2_isHungry_18 : decode cX2_isHungry 18 = .ok (.iconst 0, 1) := by decide +kernel
theorem dX2_isHungry_19 : decode cX2_isHungry 19 = .ok (.ireturn, 1) := by decide +kernel
theorem dX2_hasCompany_0 : decode cX2_hasCompany 0 = .ok (.aload_n 0, 1) := by decide +kernel
theorem dX2_hasCompany_1 : decode cX2_hasCompany 1 = .ok (.getfield 18, 3) := by decide +kernel
theorem dX2_hasCompany_4 : decode cX2_hasCompany 4 = .ok (.iload_n 1, 1) := by decide +kernel
theorem dX2_hasCompany_5 : decode cX2_hasCompany 5 = .ok (.iaload, 1) := by decide +kernel
theorem dX2_hasCompany_6 : decode cX2_hasCompany 6 = .ok (.iconst 4, 1) := by decide +kernel
theorem dX2_hasCompany_7 : decode cX2_hasCompany 7 = .ok (.if_icmp .ne 13, 3) := by decide +kernel
theorem dX2_hasCompany_10 : decode cX2_hasCompany 10 = .ok (.aload_n 0, 1) := by decide +kernel
theorem dX2_hasCompany_11 : decode cX2_hasCompany 11 = .ok (.iload_n 1, 1) := by decide +kernel
theorem dX2_hasCompany_12 : decode cX2_hasCompany 12 = .ok (.iload_n 2, 1) := by decide +kernel
theorem dX2_hasCompany_13 : decode cX2_hasCompany 13 = .ok (.invokevirtual 85, 3) := by decide +kernel
theorem dX2_hasCompany_16 : decode cX2_hasCompany 16 = .ok (.iconst 2, 1) := by decide +kernel
theorem dX2_hasCompany_17 : decode cX2_hasCompany 17 = .ok (.if_icmp .lt 7, 3) := by decide +kernel
theorem dX2_hasCompany_20 : decode cX2_hasCompany 20 = .ok (.iconst 1, 1) := by decide +kernel
theorem dX2_hasCompany_21 : decode cX2_hasCompany 21 = .ok (.goto 4, 3) := by decide +kernel
theorem dX2_hasCompany_24 : decode cX2_hasCompany 24 = .ok (.iconst 0, 1) := by decide +kernel
theorem dX2_hasCompany_25 : decode cX2_hasCompany 25 = .ok (.ireturn, 1) := by decide +kernel
theorem dX2_company_0 : decode cX2_company 0 = .ok (.iload_n 2, 1) := by decide +kernel
theorem dX2_company_1 : decode cX2_company 1 = .ok (.aload_n 0, 1) := by decide +kernel
theorem dX2_company_2 : decode cX2_company 2 = .ok (.getfield 25, 3) := by decide +kernel
theorem dX2_company_5 : decode cX2_company 5 = .ok (.iload_n 1, 1) := by decide +kernel
theorem dX2_company_6 : decode cX2_company 6 = .ok (.iaload, 1) := by decide +kernel
theorem dX2_company_7 : decode cX2_company 7 = .ok (.iconst (-1), 1) := by decide +kernel
theorem dX2_company_8 : decode cX2_company 8 = .ok (.ixor, 1) := by decide +kernel
theorem dX2_company_9 : decode cX2_company 9 = .ok (.iand, 1) := by decide +kernel
theorem dX2_company_10 : decode cX2_company 10 = .ok (.invokestatic 89, 3) := by decide +kernel
theorem dX2_company_13 : decode cX2_company 13 = .ok (.ireturn, 1) := by decide +kernel
theorem dX2_hindrance_0 : decode cX2_hindrance 0 = .ok (.iload_n 3, 1) := by decide +kernel
theorem dX2_hindrance_1 : decode cX2_hindrance 1 = .ok (.iload_n 1, 1) := by decide +kernel
theorem dX2_hindrance_2 : decode cX2_hindrance 2 = .ok (.invokestatic 65, 3) := by decide +kernel
theorem dX2_hindrance_5 : decode cX2_hindrance 5 = .ok (.ifCond .eq 5, 3) := by decide +kernel
theorem dX2_hindrance_8 : decode cX2_hindrance 8 = .ok (.iconst 1, 1) := by decide +kernel
theorem dX2_hindrance_9 : decode cX2_hindrance 9 = .ok (.ireturn, 1) := by decide +kernel
theorem dX2_hindrance_10 : decode cX2_hindrance 10 = .ok (.aload_n 0, 1) := by decide +kernel
theorem dX2_hindrance_11 : decode cX2_hindrance 11 = .ok (.getfield 25, 3) := by decide +kernel
theorem dX2_hindrance_14 : decode cX2_hindrance 14 = .ok (.iload_n 1, 1) := by decide +kernel
theorem dX2_hindrance_15 : decode cX2_hindrance 15 = .ok (.iaload, 1) := by decide +kernel
theorem dX2_hindrance_16 : decode cX2_hindrance 16 = .ok (.iload_n 3, 1) := by decide +kernel
theorem dX2_hindrance_17 : decode cX2_hindrance 17 = .ok (.iconst (-1), 1) := by decide +kernel
theorem dX2_hindrance_18 : decode cX2_hindrance 18 = .ok (.ixor, 1) := by decide +kernel
theorem dX2_hindrance_19 : decode cX2_hindrance 19 = .ok (.iand, 1) := by decide +kernel
theorem dX2_hindrance_20 : decode cX2_hindrance 20 = .ok (.ifCond .eq 5, 3) := by decide +kernel
theorem dX2_hindrance_23 : decode cX2_hindrance 23 = .ok (.iconst 2, 1) := by decide +kernel
theorem dX2_hindrance_24 : decode cX2_hindrance 24 = .ok (.ireturn, 1) := by decide +kernel
theorem dX2_hindrance_25 : decode cX2_hindrance 25 = .ok (.aload_n 0, 1) := by decide +kernel
theorem dX2_hindrance_26 : decode cX2_hindrance 26 = .ok (.iload_n 1, 1) := by decide +kernel
theorem dX2_hindrance_27 : decode cX2_hindrance 27 = .ok (.iload_n 2, 1) := by decide +kernel
theorem dX2_hindrance_28 : decode cX2_hindrance 28 = .ok (.invokevirtual 72, 3) := by decide +kernel
theorem dX2_hindrance_31 : decode cX2_hindrance 31 = .ok (.ifCond .ne 5, 3) := by decide +kernel
theorem dX2_hindrance_34 : decode cX2_hindrance 34 = .ok (.iconst 3, 1) := by decide +kernel
theorem dX2_hindrance_35 : decode cX2_hindrance 35 = .ok (.ireturn, 1) := by decide +kernel
theorem dX2_hindrance_36 : decode cX2_hindrance 36 = .ok (.aload_n 0, 1) := by decide +kernel
theorem dX2_hindrance_37 : decode cX2_hindrance 37 = .ok (.iload_n 1, 1) := by decide +kernel
theorem dX2_hindrance_38 : decode cX2_hindrance 38 = .ok (.iload_n 2, 1) := by decide +kernel
theorem dX2_hindrance_39 : decode cX2_hindrance 39 = .ok (.invokevirtual 75, 3) := by decide +kernel
theorem dX2_hindrance_42 : decode cX2_hindrance 42 = .ok (.ifCond .eq 26, 3) := by decide +kernel
theorem dX2_hindrance_45 : decode cX2_hindrance 45 = .ok (.aload_n 0, 1) := by decide +kernel
theorem dX2_hindrance_46 : decode cX2_hindrance 46 = .ok (.iload_n 1, 1) := by decide +kernel
theorem dX2_hindrance_47 : decode cX2_hindrance 47 = .ok (.iload 4, 2) := by decide +kernel
theorem dX2_hindrance_49 : decode cX2_hindrance 49 = .ok (.invokevirtual 94, 3) := by decide +kernel
theorem dX2_hindrance_52 : decode cX2_hindrance 52 = .ok (.ifCond .eq 16, 3) := by decide +kernel
theorem dX2_hindrance_55 : decode cX2_hindrance 55 = .ok (.aload_n 0, 1) := by decide +kernel
theorem dX2_hindrance_56 : decode cX2_hindrance 56 = .ok (.iload_n 1, 1) := by decide +kernel
theorem dX2_hindrance_57 : decode cX2_hindrance 57 = .ok (.iload_n 3, 1) := by decide +kernel
theorem dX2_hindrance_58 : decode cX2_hindrance 58 = .ok (.invokevirtual 69, 3) := by decide +kernel
theorem dX2_hindrance_61 : decode cX2_hindrance 61 = .ok (.ifCond .eq 7, 3) := by decide +kernel
theorem dX2_hindrance_64 : decode cX2_hindrance 64 = .ok (.iconst 1, 1) := by decide +kernel
theorem dX2_hindrance_65 : decode cX2_hindrance 65 = .ok (.goto 4, 3) := by decide +kernel
theorem dX2_hindrance_68 : decode cX2_hindrance 68 = .ok (.iconst 0, 1) := by decide +kernel
theorem dX2_hindrance_69 : decode cX2_hindrance 69 = .ok (.istore 5, 2) := by decide +kernel
theorem dX2_hindrance_71 : decode cX2_hindrance 71 = .ok (.iload 5, 2) := by decide +kernel
theorem dX2_hindrance_73 : decode cX2_hindrance 73 = .ok (.ifCond .eq 7, 3) := by decide +kernel
theorem dX2_hindrance_76 : decode cX2_hindrance 76 = .ok (.iconst 0, 1) := by decide +kernel
theorem dX2_hindrance_77 : decode cX2_hindrance 77 = .ok (.goto 4, 3) := by decide +kernel
theorem dX2_hindrance_80 : decode cX2_hindrance 80 = .ok (.iconst 4, 1) := by decide +kernel
theorem dX2_hindrance_81 : decode cX2_hindrance 81 = .ok (.ireturn, 1) := by decide +kernel
theorem dX2_neededBy_0 : decode cX2_neededBy 0 = .ok (.iconst 0, 1) := by decide +kernel
theorem dX2_neededBy_1 : decode cX2_neededBy 1 = .ok (.istore_n 3, 1) := by decide +kernel
theorem dX2_neededBy_2 : decode cX2_neededBy 2 = .ok (.iconst 0, 1) := by decide +kernel
theorem dX2_neededBy_3 : decode cX2_neededBy 3 = .ok (.istore 4, 2) := by decide +kernel
theorem dX2_neededBy_5 : decode cX2_neededBy 5 = .ok (.iload 4, 2) := by decide +kernel
theorem dX2_neededBy_7 : decode cX2_neededBy 7 = .ok (.aload_n 0, 1) := by decide +kernel
theorem dX2_neededBy_8 : decode cX2_neededBy 8 = .ok (.getfield 9, 3) := by decide +kernel
theorem dX2_neededBy_11 : decode cX2_neededBy 11 = .ok (.if_icmp .ge 38, 3) := by decide +kernel
theorem dX2_neededBy_14 : decode cX2_neededBy 14 = .ok (.iload 4, 2) := by decide +kernel
theorem dX2_neededBy_16 : decode cX2_neededBy 16 = .ok (.aload_n 2, 1) := by decide +kernel
theorem dX2_neededBy_17 : decode cX2_neededBy 17 = .ok (.arraylength, 1) := by decide +kernel
theorem dX2_neededBy_18 : decode cX2_neededBy 18 = .ok (.if_icmp .ge 31, 3) := by decide +kernel
theorem dX2_neededBy_21 : decode cX2_neededBy 21 = .ok (.iload_n 3, 1) := by decide +kernel
theorem dX2_neededBy_22 : decode cX2_neededBy 22 = .ok (.aload_n 2, 1) := by decide +kernel
theorem dX2_neededBy_23 : decode cX2_neededBy 23 = .ok (.iload 4, 2) := by decide +kernel
theorem dX2_neededBy_25 : decode cX2_neededBy 25 = .ok (.iaload, 1) := by decide +kernel
theorem dX2_neededBy_26 : decode cX2_neededBy 26 = .ok (.iload_n 1, 1) := by decide +kernel
theorem dX2_neededBy_27 : decode cX2_neededBy 27 = .ok (.invokestatic 65, 3) := by decide +kernel
theorem dX2_neededBy_30 : decode cX2_neededBy 30 = .ok (.ifCond .eq 10, 3) := by decide +kernel
theorem dX2_neededBy_33 : decode cX2_neededBy 33 = .ok (.iconst 1, 1) := by decide +kernel
theorem dX2_neededBy_34 : decode cX2_neededBy 34 = .ok (.iload 4, 2) := by decide +kernel
theorem dX2_neededBy_36 : decode cX2_neededBy 36 = .ok (.ishl, 1) := by decide +kernel
theorem dX2_neededBy_37 : decode cX2_neededBy 37 = .ok (.goto 4, 3) := by decide +kernel
theorem dX2_neededBy_40 : decode cX2_neededBy 40 = .ok (.iconst 0, 1) := by decide +kernel
theorem dX2_neededBy_41 : decode cX2_neededBy 41 = .ok (.ior, 1) := by decide +kernel
theorem dX2_neededBy_42 : decode cX2_neededBy 42 = .ok (.istore_n 3, 1) := by decide +kernel
theorem dX2_neededBy_43 : decode cX2_neededBy 43 = .ok (.iinc 4 1, 3) := by decide +kernel
theorem dX2_neededBy_46 : decode cX2_neededBy 46 = .ok (.goto (-41), 3) := by decide +kernel
theorem dX2_neededBy_49 : decode cX2_neededBy 49 = .ok (.iload_n 3, 1) := by decide +kernel
theorem dX2_neededBy_50 : decode cX2_neededBy 50 = .ok (.ireturn, 1) := by decide +kernel
theorem dX2_hoursOfLightFor_0 : decode cX2_hoursOfLightFor 0 = .ok (.iconst 0, 1) := by decide +kernel
theorem dX2_hoursOfLightFor_1 : decode cX2_hoursOfLightFor 1 = .ok (.istore_n 2, 1) := by decide +kernel
theorem dX2_hoursOfLightFor_2 : decode cX2_hoursOfLightFor 2 = .ok (.iconst 0, 1) := by decide +kernel
theorem dX2_hoursOfLightFor_3 : decode cX2_hoursOfLightFor 3 = .ok (.istore_n 3, 1) := by decide +kernel
theorem dX2_hoursOfLightFor_4 : decode cX2_hoursOfLightFor 4 = .ok (.iload_n 3, 1) := by decide +kernel
theorem dX2_hoursOfLightFor_5 : decode cX2_hoursOfLightFor 5 = .ok (.aload_n 0, 1) := by decide +kernel
theorem dX2_hoursOfLightFor_6 : decode cX2_hoursOfLightFor 6 = .ok (.getfield 15, 3) := by decide +kernel
theorem dX2_hoursOfLightFor_9 : decode cX2_hoursOfLightFor 9 = .ok (.if_icmp .ge 26, 3) := by decide +kernel
theorem dX2_hoursOfLightFor_12 : decode cX2_hoursOfLightFor 12 = .ok (.iload_n 2, 1) := by decide +kernel
theorem dX2_hoursOfLightFor_13 : decode cX2_hoursOfLightFor 13 = .ok (.aload_n 0, 1) := by decide +kernel
theorem dX2_hoursOfLightFor_14 : decode cX2_hoursOfLightFor 14 = .ok (.iload_n 1, 1) := by decide +kernel
theorem dX2_hoursOfLightFor_15 : decode cX2_hoursOfLightFor 15 = .ok (.iload_n 3, 1) := by decide +kernel
theorem dX2_hoursOfLightFor_16 : decode cX2_hoursOfLightFor 16 = .ok (.invokevirtual 72, 3) := by decide +kernel
theorem dX2_hoursOfLightFor_19 : decode cX2_hoursOfLightFor 19 = .ok (.ifCond .eq 7, 3) := by decide +kernel
theorem dX2_hoursOfLightFor_22 : decode cX2_hoursOfLightFor 22 = .ok (.iconst 1, 1) := by decide +kernel
theorem dX2_hoursOfLightFor_23 : decode cX2_hoursOfLightFor 23 = .ok (.goto 4, 3) := by decide +kernel
theorem dX2_hoursOfLightFor_26 : decode cX2_hoursOfLightFor 26 = .ok (.iconst 0, 1) := by decide +kernel
theorem dX2_hoursOfLightFor_27 : decode cX2_hoursOfLightFor 27 = .ok (.iadd, 1) := by decide +kernel
theorem dX2_hoursOfLightFor_28 : decode cX2_hoursOfLightFor 28 = .ok (.istore_n 2, 1) := by decide +kernel
theorem dX2_hoursOfLightFor_29 : decode cX2_hoursOfLightFor 29 = .ok (.iinc 3 1, 3) := by decide +kernel
theorem dX2_hoursOfLightFor_32 : decode cX2_hoursOfLightFor 32 = .ok (.goto (-28), 3) := by decide +kernel
theorem dX2_hoursOfLightFor_35 : decode cX2_hoursOfLightFor 35 = .ok (.iload_n 2, 1) := by decide +kernel
theorem dX2_hoursOfLightFor_36 : decode cX2_hoursOfLightFor 36 = .ok (.ireturn, 1) := by decide +kernel
theorem dX2_hoursAt_0 : decode cX2_hoursAt 0 = .ok (.iconst 0, 1) := by decide +kernel
theorem dX2_hoursAt_1 : decode cX2_hoursAt 1 = .ok (.istore_n 2, 1) := by decide +kernel
theorem dX2_hoursAt_2 : decode cX2_hoursAt 2 = .ok (.iconst 0, 1) := by decide +kernel
theorem dX2_hoursAt_3 : decode cX2_hoursAt 3 = .ok (.istore_n 3, 1) := by decide +kernel
theorem dX2_hoursAt_4 : decode cX2_hoursAt 4 = .ok (.iload_n 3, 1) := by decide +kernel
theorem dX2_hoursAt_5 : decode cX2_hoursAt 5 = .ok (.aload_n 0, 1) := by decide +kernel
theorem dX2_hoursAt_6 : decode cX2_hoursAt 6 = .ok (.getfield 15, 3) := by decide +kernel
theorem dX2_hoursAt_9 : decode cX2_hoursAt 9 = .ok (.if_icmp .ge 29, 3) := by decide +kernel
theorem dX2_hoursAt_12 : decode cX2_hoursAt 12 = .ok (.iload_n 2, 1) := by decide +kernel
theorem dX2_hoursAt_13 : decode cX2_hoursAt 13 = .ok (.aload_n 0, 1) := by decide +kernel
theorem dX2_hoursAt_14 : decode cX2_hoursAt 14 = .ok (.getfield 31, 3) := by decide +kernel
theorem dX2_hoursAt_17 : decode cX2_hoursAt 17 = .ok (.iload_n 3, 1) := by decide +kernel
theorem dX2_hoursAt_18 : decode cX2_hoursAt 18 = .ok (.iaload, 1) := by decide +kernel
theorem dX2_hoursAt_19 : decode cX2_hoursAt 19 = .ok (.iload_n 1, 1) := by decide +kernel
theorem dX2_hoursAt_20 : decode cX2_hoursAt 20 = .ok (.if_icmp .ne 9, 3) := by decide +kernel
theorem dX2_hoursAt_23 : decode cX2_hoursAt 23 = .ok (.iconst 1, 1) := by decide +kernel
theorem dX2_hoursAt_24 : decode cX2_hoursAt 24 = .ok (.iload_n 3, 1) := by decide +kernel
theorem dX2_hoursAt_25 : decode cX2_hoursAt 25 = .ok (.ishl, 1) := by decide +kernel
theorem dX2_hoursAt_26 : decode cX2_hoursAt 26 = .ok (.goto 4, 3) := by decide +kernel
theorem dX2_hoursAt_29 : decode cX2_hoursAt 29 = .ok (.iconst 0, 1) := by decide +kernel
theorem dX2_hoursAt_30 : decode cX2_hoursAt 30 = .ok (.ior, 1) := by decide +kernel
theorem dX2_hoursAt_31 : decode cX2_hoursAt 31 = .ok (.istore_n 2, 1) := by decide +kernel
theorem dX2_hoursAt_32 : decode cX2_hoursAt 32 = .ok (.iinc 3 1, 3) := by decide +kernel
theorem dX2_hoursAt_35 : decode cX2_hoursAt 35 = .ok (.goto (-31), 3) := by decide +kernel
theorem dX2_hoursAt_38 : decode cX2_hoursAt 38 = .ok (.iload_n 2, 1) := by decide +kernel
theorem dX2_hoursAt_39 : decode cX2_hoursAt 39 = .ok (.ireturn, 1) := by decide +kernel
theorem dX2_meals_0 : decode cX2_meals 0 = .ok (.iconst 0, 1) := by decide +kernel
theorem dX2_meals_1 : decode cX2_meals 1 = .ok (.istore_n 1, 1) := by decide +kernel
theorem dX2_meals_2 : decode cX2_meals 2 = .ok (.iconst 0, 1) := by decide +kernel
theorem dX2_meals_3 : decode cX2_meals 3 = .ok (.istore_n 2, 1) := by decide +kernel
theorem dX2_meals_4 : decode cX2_meals 4 = .ok (.iload_n 2, 1) := by decide +kernel
theorem dX2_meals_5 : decode cX2_meals 5 = .ok (.aload_n 0, 1) := by decide +kernel
theorem dX2_meals_6 : decode cX2_meals 6 = .ok (.getfield 9, 3) := by decide +kernel
theorem dX2_meals_9 : decode cX2_meals 9 = .ok (.if_icmp .ge 26, 3) := by decide +kernel
theorem dX2_meals_12 : decode cX2_meals 12 = .ok (.iload_n 1, 1) := by decide +kernel
theorem dX2_meals_13 : decode cX2_meals 13 = .ok (.aload_n 0, 1) := by decide +kernel
theorem dX2_meals_14 : decode cX2_meals 14 = .ok (.iload_n 2, 1) := by decide +kernel
theorem dX2_meals_15 : decode cX2_meals 15 = .ok (.iconst 1, 1) := by decide +kernel
theorem dX2_meals_16 : decode cX2_meals 16 = .ok (.invokevirtual 82, 3) := by decide +kernel
theorem dX2_meals_19 : decode cX2_meals 19 = .ok (.ifCond .eq 7, 3) := by decide +kernel
theorem dX2_meals_22 : decode cX2_meals 22 = .ok (.iconst 1, 1) := by decide +kernel
theorem dX2_meals_23 : decode cX2_meals 23 = .ok (.goto 4, 3) := by decide +kernel
theorem dX2_meals_26 : decode cX2_meals 26 = .ok (.iconst 0, 1) := by decide +kernel
theorem dX2_meals_27 : decode cX2_meals 27 = .ok (.iadd, 1) := by decide +kernel
theorem dX2_meals_28 : decode cX2_meals 28 = .ok (.istore_n 1, 1) := by decide +kernel
theorem dX2_meals_29 : decode cX2_meals 29 = .ok (.iinc 2 1, 3) := by decide +kernel
theorem dX2_meals_32 : decode cX2_meals 32 = .ok (.goto (-28), 3) := by decide +kernel
theorem dX2_meals_35 : decode cX2_meals 35 = .ok (.iload_n 1, 1) := by decide +kernel
theorem dX2_meals_36 : decode cX2_meals 36 = .ok (.ireturn, 1) := by decide +kernel
theorem dX3_init_0 : decode cX3_init 0 = .ok (.aload_n 0, 1) := by decide +kernel
theorem dX3_init_1 : decode cX3_init 1 = .ok (.invokespecial 3, 3) := by decide +kernel
theorem dX3_init_4 : decode cX3_init 4 = .ok (.aload_n 0, 1) := by decide +kernel
theorem dX3_init_5 : decode cX3_init 5 = .ok (.new 9, 3) := by decide +kernel
theorem dX3_init_8 : decode cX3_init 8 = .ok (.dup, 1) := by decide +kernel
theorem dX3_init_9 : decode cX3_init 9 = .ok (.invokespecial 11, 3) := by decide +kernel
theorem dX3_init_12 : decode cX3_init 12 = .ok (.putfield 12, 3) := by decide +kernel
theorem dX3_init_15 : decode cX3_init 15 = .ok (.aload_n 0, 1) := by decide +kernel
theorem dX3_init_16 : decode cX3_init 16 = .ok (.iconst 0, 1) := by decide +kernel
theorem dX3_init_17 : decode cX3_init 17 = .ok (.newarray .int, 2) := by decide +kernel
theorem dX3_init_19 : decode cX3_init 19 = .ok (.putfield 18, 3) := by decide +kernel
theorem dX3_init_22 : decode cX3_init 22 = .ok (.aload_n 0, 1) := by decide +kernel
theorem dX3_init_23 : decode cX3_init 23 = .ok (.iconst 0, 1) := by decide +kernel
theorem dX3_init_24 : decode cX3_init 24 = .ok (.putfield 22, 3) := by decide +kernel
theorem dX3_init_27 : decode cX3_init 27 = .ok (.aload_n 0, 1) := by decide +kernel
theorem dX3_init_28 : decode cX3_init 28 = .ok (.iconst 0, 1) := by decide +kernel
theorem dX3_init_29 : decode cX3_init 29 = .ok (.putfield 26, 3) := by decide +kernel
theorem dX3_init_32 : decode cX3_init 32 = .ok (.return_, 1) := by decide +kernel
theorem dX3_firstFault_0 : decode cX3_firstFault 0 = .ok (.aload_n 0, 1) := by decide +kernel
theorem dX3_firstFault_1 : decode cX3_firstFault 1 = .ok (.aload_n 1, 1) := by decide +kernel
theorem dX3_firstFault_2 : decode cX3_firstFault 2 = .ok (.putfield 18, 3) := by decide +kernel
theorem dX3_firstFault_5 : decode cX3_firstFault 5 = .ok (.aload_n 0, 1) := by decide +kernel
theorem dX3_firstFault_6 : decode cX3_firstFault 6 = .ok (.iload_n 2, 1) := by decide +kernel
theorem dX3_firstFault_7 : decode cX3_firstFault 7 = .ok (.aload_n 1, 1) := by decide +kernel
theorem dX3_firstFault_8 : decode cX3_firstFault 8 = .ok (.arraylength, 1) := by decide +kernel
theorem dX3_firstFault_9 : decode cX3_firstFault 9 = .ok (.invokestatic 29, 3) := by decide +kernel
theorem dX3_firstFault_12 : decode cX3_firstFault 12 = .ok (.putfield 22, 3) := by decide +kernel
theorem dX3_firstFault_15 : decode cX3_firstFault 15 = .ok (.aload_n 0, 1) := by decide +kernel
theorem dX3_firstFault_16 : decode cX3_firstFault 16 = .ok (.iconst 0, 1) := by decide +kernel
theorem dX3_firstFault_17 : decode cX3_firstFault 17 = .ok (.putfield 26, 3) := by decide +kernel
theorem dX3_firstFault_20 : decode cX3_firstFault 20 = .ok (.aload_n 0, 1) := by decide +kernel
theorem dX3_firstFault_21 : decode cX3_firstFault 21 = .ok (.getfield 12, 3) := by decide +kernel
theorem dX3_firstFault_24 : decode cX3_firstFault 24 = .ok (.invokevirtual 35, 3) := by decide +kernel
theorem dX3_firstFault_27 : decode cX3_firstFault 27 = .ok (.aload_n 0, 1) := by decide +kernel
theorem dX3_firstFault_28 : decode cX3_firstFault 28 = .ok (.invokevirtual 38, 3) := by decide +kernel
theorem dX3_firstFault_31 : decode cX3_firstFault 31 = .ok (.iconst 0, 1) := by decide +kernel
theorem dX3_firstFault_32 : decode cX3_firstFault 32 = .ok (.istore_n 3, 1) := by decide +kernel
theorem dX3_firstFault_33 : decode cX3_firstFault 33 = .ok (.iload_n 3, 1) := by decide +kernel
theorem dX3_firstFault_34 : decode cX3_firstFault 34 = .ok (.bipush 80, 2) := by decide +kernel
theorem dX3_firstFault_36 : decode cX3_firstFault 36 = .ok (.if_icmp .ge 36, 3) := by decide +kernel
theorem dX3_firstFault_39 : decode cX3_firstFault 39 = .ok (.aload_n 0, 1) := by decide +kernel
theorem dX3_firstFault_40 : decode cX3_firstFault 40 = .ok (.getfield 26, 3) := by decide +kernel
theorem dX3_firstFault_43 : decode cX3_firstFault 43 = .ok (.aload_n 0, 1) := by decide +kernel
theorem dX3_firstFault_44 : decode cX3_firstFault 44 = .ok (.getfield 22, 3) := by decide +kernel
theorem dX3_firstFault_47 : decode cX3_firstFault 47 = .ok (.if_icmp .ge 25, 3) := by decide +kernel
theorem dX3_firstFault_50 : decode cX3_firstFault 50 = .ok (.aload_n 0, 1) := by decide +kernel
theorem dX3_firstFault_51 : decode cX3_firstFault 51 = .ok (.invokevirtual 41, 3) := by decide +kernel
theorem dX3_firstFault_54 : decode cX3_firstFault 54 = .ok (.ifCond .ne 8, 3) := by decide +kernel
theorem dX3_firstFault_57 : decode cX3_firstFault 57 = .ok (.aload_n 0, 1) := by decide +kernel
theorem dX3_firstFault_58 : decode cX3_firstFault 58 = .ok (.getfield 26, 3) := by decide +kernel
theorem dX3_firstFault_61 : decode cX3_firstFault 61 = .ok (.ireturn, 1) := by decide +kernel
theorem dX3_firstFault_62 : decode cX3_firstFault 62 = .ok (.aload_n 0, 1) := by decide +kernel
theorem dX3_firstFault_63 : decode cX3_firstFault 63 = .ok (.invokevirtual 38, 3) := by decide +kernel
theorem dX3_firstFault_66 : decode cX3_firstFault 66 = .ok (.iinc 3 1, 3) := by decide +kernel
theorem dX3_firstFault_69 : decode cX3_firstFault 69 = .ok (.goto (-36), 3) := by decide +kernel
theorem dX3_firstFault_72 : decode cX3_firstFault 72 = .ok (.aload_n 0, 1) := by decide +kernel
theorem dX3_firstFault_73 : decode cX3_firstFault 73 = .ok (.getfield 12, 3) := by decide +kernel
theorem dX3_firstFault_76 : decode cX3_firstFault 76 = .ok (.getfield 45, 3) := by decide +kernel
theorem dX3_firstFault_79 : decode cX3_firstFault 79 = .ok (.ifCond .ne 10, 3) := by decide +kernel
theorem dX3_firstFault_82 : decode cX3_firstFault 82 = .ok (.aload_n 0, 1) := by decide +kernel
theorem dX3_firstFault_83 : decode cX3_firstFault 83 = .ok (.getfield 26, 3) := by decide +kernel
theorem dX3_firstFault_86 : decode cX3_firstFault 86 = .ok (.goto 5, 3) := by decide +kernel
theorem dX3_firstFault_89 : decode cX3_firstFault 89 = .ok (.bipush (-9), 2) := by decide +kernel
theorem dX3_firstFault_91 : decode cX3_firstFault 91 = .ok (.ireturn, 1) := by decide +kernel
theorem dX3_skipBlanks_0 : decode cX3_skipBlanks 0 = .ok (.aload_n 0, 1) := by decide +kernel
theorem dX3_skipBlanks_1 : decode cX3_skipBlanks 1 = .ok (.getfield 26, 3) := by decide +kernel
theorem dX3_skipBlanks_4 : decode cX3_skipBlanks 4 = .ok (.aload_n 0, 1) := by decide +kernel
theorem dX3_skipBlanks_5 : decode cX3_skipBlanks 5 = .ok (.getfield 22, 3) := by decide +kernel
theorem dX3_skipBlanks_8 : decode cX3_skipBlanks 8 = .ok (.if_icmp .ge 30, 3) := by decide +kernel
theorem dX3_skipBlanks_11 : decode cX3_skipBlanks 11 = .ok (.aload_n 0, 1) := by decide +kernel
theorem dX3_skipBlanks_12 : decode cX3_skipBlanks 12 = .ok (.getfield 18, 3) := by decide +kernel
theorem dX3_skipBlanks_15 : decode cX3_skipBlanks 15 = .ok (.aload_n 0, 1) := by decide +kernel
theorem dX3_skipBlanks_16 : decode cX3_skipBlanks 16 = .ok (.getfield 26, 3) := by decide +kernel
theorem dX3_skipBlanks_19 : decode cX3_skipBlanks 19 = .ok (.iaload, 1) := by decide +kernel
theorem dX3_skipBlanks_20 : decode cX3_skipBlanks 20 = .ok (.bipush 32, 2) := by decide +kernel
theorem dX3_skipBlanks_22 : decode cX3_skipBlanks 22 = .ok (.if_icmp .ne 16, 3) := by decide +kernel
theorem dX3_skipBlanks_25 : decode cX3_skipBlanks 25 = .ok (.aload_n 0, 1) := by decide +kernel
theorem dX3_skipBlanks_26 : decode cX3_skipBlanks 26 = .ok (.dup, 1) := by decide +kernel
theorem dX3_skipBlanks_27 : decode cX3_skipBlanks 27 = .ok (.getfield 26, 3) := by decide +kernel
theorem dX3_skipBlanks_30 : decode cX3_skipBlanks 30 = .ok (.iconst 1, 1) := by decide +kernel
theorem dX3_skipBlanks_31 : decode cX3_skipBlanks 31 = .ok (.iadd, 1) := by decide +kernel
theorem dX3_skipBlanks_32 : decode cX3_skipBlanks 32 = .ok (.putfield 26, 3) := by decide +kernel
theorem dX3_skipBlanks_35 : decode cX3_skipBlanks 35 = .ok (.goto (-35), 3) := by decide +kernel
theorem dX3_skipBlanks_38 : decode cX3_skipBlanks 38 = .ok (.return_, 1) := by decide +kernel
theorem dX3_readItem_0 : decode cX3_readItem 0 = .ok (.aload_n 0, 1) := by decide +kernel
theorem dX3_readItem_1 : decode cX3_readItem 1 = .ok (.bipush 104, 2) := by decide +kernel
theorem dX3_readItem_3 : decode cX3_readItem 3 = .ok (.bipush 104, 2) := by decide +kernel
theorem dX3_readItem_5 : decode cX3_readItem 5 = .ok (.invokevirtual 48, 3) := by decide +kernel
theorem dX3_readItem_8 : decode cX3_readItem 8 = .ok (.ifCond .ne 38, 3) := by decide +kernel
theorem dX3_readItem_11 : decode cX3_readItem 11 = .ok (.aload_n 0, 1) := by decide +kernel
theorem dX3_readItem_12 : decode cX3_readItem 12 = .ok (.getfield 12, 3) := by decide +kernel
theorem dX3_readItem_15 : decode cX3_readItem 15 = .ok (.getfield 45, 3) := by decide +kernel
theorem dX3_readItem_18 : decode cX3_readItem 18 = .ok (.ifCond .le 26, 3) := by decide +kernel
theorem dX3_readItem_21 : decode cX3_readItem 21 = .ok (.aload_n 0, 1) := by decide +kernel
theorem dX3_readItem_22 : decode cX3_readItem 22 = .ok (.getfield 12, 3) := by decide +kernel
theorem dX3_readItem_25 : decode cX3_readItem 25 = .ok (.getfield 51, 3) := by decide +kernel
theorem dX3_readItem_28 : decode cX3_readItem 28 = .ok (.bipush 7, 2) := by decide +kernel
theorem dX3_readItem_30 : decode cX3_readItem 30 = .ok (.if_icmp .ge 14, 3) := by decide +kernel
theorem dX3_readItem_33 : decode cX3_readItem 33 = .ok (.aload_n 0, 1) := by decide +kernel
theorem dX3_readItem_34 : decode cX3_readItem 34 = .ok (.invokevirtual 54, 3) := by decide +kernel
theorem dX3_readItem_37 : decode cX3_readItem 37 = .ok (.ifCond .eq 7, 3) := by decide +kernel
theorem dX3_readItem_40 : decode cX3_readItem 40 = .ok (.iconst 1, 1) := by decide +kernel
theorem dX3_readItem_41 : decode cX3_readItem 41 = .ok (.goto 4, 3) := by decide +kernel
theorem dX3_readItem_44 : decode cX3_readItem 44 = .ok (.iconst 0, 1) := by decide +kernel
theorem dX3_readItem_45 : decode cX3_readItem 45 = .ok (.ireturn, 1) := by decide +kernel
theorem dX3_readItem_46 : decode cX3_readItem 46 = .ok (.aload_n 0, 1) := by decide +kernel
theorem dX3_readItem_47 : decode cX3_readItem 47 = .ok (.getfield 12, 3) := by decide +kernel
theorem dX3_readItem_50 : decode cX3_readItem 50 = .ok (.getfield 51, 3) := by decide +kernel
theorem dX3_readItem_53 : decode cX3_readItem 53 = .ok (.ifCond .ne 26, 3) := by decide +kernel
theorem dX3_readItem_56 : decode cX3_readItem 56 = .ok (.aload_n 0, 1) := by decide +kernel
theorem dX3_readItem_57 : decode cX3_readItem 57 = .ok (.getfield 12, 3) := by decide +kernel
theorem dX3_readItem_60 : decode cX3_readItem 60 = .ok (.getfield 45, 3) := by decide +kernel
theorem dX3_readItem_63 : decode cX3_readItem 63 = .ok (.bipush 6, 2) := by decide +kernel
theorem dX3_readItem_65 : decode cX3_readItem 65 = .ok (.if_icmp .ge 14, 3) := by decide +kernel
theorem dX3_readItem_68 : decode cX3_readItem 68 = .ok (.aload_n 0, 1) := by decide +kernel
theorem dX3_readItem_69 : decode cX3_readItem 69 = .ok (.invokevirtual 57, 3) := by decide +kernel
theorem dX3_readItem_72 : decode cX3_readItem 72 = .ok (.ifCond .eq 7, 3) := by decide +kernel
theorem dX3_readItem_75 : decode cX3_readItem 75 = .ok (.iconst 1, 1) := by decide +kernel
theorem dX3_readItem_76 : decode cX3_readItem 76 = .ok (.goto 4, 3) := by decide +kernel
theorem dX3_readItem_79 : decode cX3_readItem 79 = .ok (.iconst 0, 1) := by decide +kernel
theorem dX3_readItem_80 : decode cX3_readItem 80 = .ok (.ireturn, 1) := by decide +kernel
theorem dX3_readDeed_0 : decode cX3_readDeed 0 = .ok (.aload_n 0, 1) := by decide +kernel
theorem dX3_readDeed_1 : decode cX3_readDeed 1 = .ok (.aload_n 0, 1) := by decide +kernel
theorem dX3_readDeed_2 : decode cX3_readDeed 2 = .ok (.getstatic 60, 3) := by decide +kernel
theorem dX3_readDeed_5 : decode cX3_readDeed 5 = .ok (.invokevirtual 63, 3) := by decide +kernel
theorem dX3_readDeed_8 : decode cX3_readDeed 8 = .ok (.invokevirtual 67, 3) := by decide +kernel
theorem dX3_readDeed_11 : decode cX3_readDeed 11 = .ok (.istore_n 1, 1) := by decide +kernel
theorem dX3_readDeed_12 : decode cX3_readDeed 12 = .ok (.iload_n 1, 1) := by decide +kernel
theorem dX3_readDeed_13 : decode cX3_readDeed 13 = .ok (.ifCond .ge 8, 3) := by decide +kernel
theorem dX3_readDeed_16 : decode cX3_readDeed 16 = .ok (.bipush (-9), 2) := by decide +kernel
theorem dX3_readDeed_18 : decode cX3_readDeed 18 = .ok (.goto 14, 3) := by decide +kernel
theorem dX3_readDeed_21 : decode cX3_readDeed 21 = .ok (.aload_n 0, 1) := by decide +kernel
theorem dX3_readDeed_22 : decode cX3_readDeed 22 = .ok (.aload_n 0, 1) := by decide +kernel
theorem dX3_readDeed_23 : decode cX3_readDeed 23 = .ok (.getstatic 71, 3) := by decide +kernel
theorem dX3_readDeed_26 : decode cX3_readDeed 26 = .ok (.invokevirtual 63, 3) := by decide +kernel
theorem dX3_readDeed_29 : decode cX3_readDeed 29 = .ok (.invokevirtual 67, 3) := by decide +kernel
theorem dX3_readDeed_32 : decode cX3_readDeed 32 = .ok (.istore_n 2, 1) := by decide +kernel
theorem dX3_readDeed_33 : decode cX3_readDeed 33 = .ok (.iload_n 2, 1) := by decide +kernel
theorem dX3_readDeed_34 : decode cX3_readDeed 34 = .ok (.ifCond .ge 8, 3) := by decide +kernel
theorem dX3_readDeed_37 : decode cX3_readDeed 37 = .ok (.bipush (-9), 2) := by decide +kernel
theorem dX3_readDeed_39 : decode cX3_readDeed 39 = .ok (.goto 15, 3) := by decide +kernel
theorem dX3_readDeed_42 : decode cX3_readDeed 42 = .ok (.aload_n 0, 1) := by decide +kernel
theorem dX3_readDeed_43 : decode cX3_readDeed 43 = .ok (.aload_n 0, 1) := by decide +kernel
theorem dX3_readDeed_44 : decode cX3_readDeed 44 = .ok (.bipush 48, 2) := by decide +kernel
theorem dX3_readDeed_46 : decode cX3_readDeed 46 = .ok (.bipush 51, 2) := by decide +kernel
theorem dX3_readDeed_48 : decode cX3_readDeed 48 = .ok (.invokevirtual 48, 3) := by decide +kernel
theorem dX3_readDeed_51 : decode cX3_readDeed 51 = .ok (.invokevirtual 67, 3) := by decide +kernel
theorem dX3_readDeed_54 : decode cX3_readDeed 54 = .ok (.istore_n 3, 1) := by decide +kernel
theorem dX3_readDeed_55 : decode cX3_readDeed 55 = .ok (.iload_n 3, 1) := by decide +kernel
theorem dX3_readDeed_56 : decode cX3_readDeed 56 = .ok (.ifCond .ge 5, 3) := by decide +kernel
theorem dX3_readDeed_59 : decode cX3_readDeed 59 = .ok (.iconst 0, 1) := by decide +kernel
theorem dX3_readDeed_60 : decode cX3_readDeed 60 = .ok (.ireturn, 1) := by decide +kernel
theorem dX3_readDeed_61 : decode cX3_readDeed 61 = .ok (.iconst 0, 1) := by decide +kernel
theorem dX3_readDeed_62 : decode cX3_readDeed 62 = .ok (.istore 4, 2) := by decide +kernel
theorem dX3_readDeed_64 : decode cX3_readDeed 64 = .ok (.iconst 0, 1) := by decide +kernel
theorem dX3_readDeed_65 : decode cX3_readDeed 65 = .ok (.istore 5, 2) := by decide +kernel
theorem dX3_readDeed_67 : decode cX3_readDeed 67 = .ok (.iload 5, 2) := by decide +kernel
theorem dX3_readDeed_69 : decode cX3_readDeed 69 = .ok (.iload_n 3, 1) := by decide +kernel
theorem dX3_readDeed_70 : decode cX3_readDeed 70 = .ok (.if_icmp .ge 56, 3) := by decide +kernel
theorem dX3_readDeed_73 : decode cX3_readDeed 73 = .ok (.aload_n 0, 1) := by decide +kernel
theorem dX3_readDeed_74 : decode cX3_readDeed 74 = .ok (.bipush 48, 2) := by decide +kernel
theorem dX3_readDeed_76 : decode cX3_readDeed 76 = .ok (.bipush 57, 2) := by decide +kernel
theorem dX3_readDeed_78 : decode cX3_readDeed 78 = .ok (.invokevirtual 48, 3) := by decide +kernel
theorem dX3_readDeed_81 : decode cX3_readDeed 81 = .ok (.istore 6, 2) := by decide +kernel
theorem dX3_readDeed_83 : decode cX3_readDeed 83 = .ok (.aload_n 0, 1) := by decide +kernel
theorem dX3_readDeed_84 : decode cX3_readDeed 84 = .ok (.getfield 12, 3) := by decide +kernel
theorem dX3_readDeed_87 : decode cX3_readDeed 87 = .ok (.iload 6, 2) := by decide +kernel
theorem dX3_readDeed_89 : decode cX3_readDeed 89 = .ok (.invokevirtual 74, 3) := by decide +kernel
theorem dX3_readDeed_92 : decode cX3_readDeed 92 = .ok (.ifCond .eq 13, 3) := by decide +kernel
theorem dX3_readDeed_95 : decode cX3_readDeed 95 = .ok (.iload 4, 2) := by decide +kernel
theorem dX3_readDeed_97 : decode cX3_readDeed 97 = .ok (.iload 6, 2) := by decide +kernel
theorem dX3_readDeed_99 : decode cX3_readDeed 99 = .ok (.invokestatic 78, 3) := by decide +kernel
theorem dX3_readDeed_102 : decode cX3_readDeed 102 = .ok (.ifCond .eq 5, 3) := by decide +kernel
theorem dX3_readDeed_105 : decode cX3_readDeed 105 = .ok (.iconst 0, 1) := by decide +kernel
theorem dX3_readDeed_106 : decode cX3_readDeed 106 = .ok (.ireturn, 1) := by decide +kernel
theorem dX3_readDeed_107 : decode cX3_readDeed 107 = .ok (.iload 4, 2) := by decide +kernel
theorem dX3_readDeed_109 : decode cX3_readDeed 109 = .ok (.iconst 1, 1) := by decide +kernel
theorem dX3_readDeed_110 : decode cX3_readDeed 110 = .ok (.aload_n 0, 1) := by decide +kernel
theorem dX3_readDeed_111 : decode cX3_readDeed 111 = .ok (.iload 6, 2) := by decide +kernel
theorem dX3_readDeed_113 : decode cX3_readDeed 113 = .ok (.invokevirtual 67, 3) := by decide +kernel
theorem dX3_readDeed_116 : decode cX3_readDeed 116 = .ok (.ishl, 1) := by decide +kernel
theorem dX3_readDeed_117 : decode cX3_readDeed 117 = .ok (.ior, 1) := by decide +kernel
theorem dX3_readDeed_118 : decode cX3_readDeed 118 = .ok (.istore 4, 2) := by decide +kernel
theorem dX3_readDeed_120 : decode cX3_readDeed 120 = .ok (.iinc 5 1, 3) := by decide +kernel
theorem dX3_readDeed_123 : decode cX3_readDeed 123 = .ok (.goto (-56), 3) := by decide +kernel
theorem dX3_readDeed_126 : decode cX3_readDeed 126 = .ok (.aload_n 0, 1) := by decide +kernel
theorem dX3_readDeed_127 : decode cX3_readDeed 127 = .ok (.getfield 12, 3) := by decide +kernel
theorem dX3_readDeed_130 : decode cX3_readDeed 130 = .ok (.iload_n 1, 1) := by decide +kernel
theorem dX3_readDeed_131 : decode cX3_readDeed 131 = .ok (.iload_n 2, 1) := by decide +kernel
theorem dX3_readDeed_132 : decode cX3_readDeed 132 = .ok (.iload 4, 2) := by decide +kernel
theorem dX3_readDeed_134 : decode cX3_readDeed 134 = .ok (.invokevirtual 82, 3) := by decide +kernel
theorem dX3_readDeed_137 : decode cX3_readDeed 137 = .ok (.iconst 1, 1) := by decide +kernel
theorem dX3_readDeed_138 : decode cX3_readDeed 138 = .ok (.ireturn, 1) := by decide +kernel
theorem dX3_readHour_0 : decode cX3_readHour 0 = .ok (.aload_n 0, 1) := by decide +kernel
theorem dX3_readHour_1 : decode cX3_readHour 1 = .ok (.iconst 0, 1) := by decide +kernel
theorem dX3_readHour_2 : decode cX3_readHour 2 = .ok (.invokevirtual 67, 3) := by decide +kernel
theorem dX3_readHour_5 : decode cX3_readHour 5 = .ok (.pop, 1) := by decide +kernel
theorem dX3_readHour_6 : decode cX3_readHour 6 = .ok (.aload_n 0, 1) := by decide +kernel
theorem dX3_readHour_7 : decode cX3_readHour 7 = .ok (.aload_n 0, 1) := by decide +kernel
theorem dX3_readHour_8 : decode cX3_readHour 8 = .ok (.bipush 65, 2) := by decide +kernel
theorem dX3_readHour_10 : decode cX3_readHour 10 = .ok (.bipush 88, 2) := by decide +kernel
theorem dX3_readHour_12 : decode cX3_readHour 12 = .ok (.invokevirtual 48, 3) := by decide +kernel
theorem dX3_readHour_15 : decode cX3_readHour 15 = .ok (.invokevirtual 67, 3) := by decide +kernel
theorem dX3_readHour_18 : decode cX3_readHour 18 = .ok (.istore_n 1, 1) := by decide +kernel
theorem dX3_readHour_19 : decode cX3_readHour 19 = .ok (.iload_n 1, 1) := by decide +kernel
theorem dX3_readHour_20 : decode cX3_readHour 20 = .ok (.ifCond .ge 8, 3) := by decide +kernel
theorem dX3_readHour_23 : decode cX3_readHour 23 = .ok (.bipush (-9), 2) := by decide +kernel
theorem dX3_readHour_25 : decode cX3_readHour 25 = .ok (.goto 15, 3) := by decide +kernel
theorem dX3_readHour_28 : decode cX3_readHour 28 = .ok (.aload_n 0, 1) := by decide +kernel
theorem dX3_readHour_29 : decode cX3_readHour 29 = .ok (.aload_n 0, 1) := by decide +kernel
theorem dX3_readHour_30 : decode cX3_readHour 30 = .ok (.bipush 48, 2) := by decide +kernel
theorem dX3_readHour_32 : decode cX3_readHour 32 = .ok (.bipush 57, 2) := by decide +kernel
theorem dX3_readHour_34 : decode cX3_readHour 34 = .ok (.invokevirtual 48, 3) := by decide +kernel
theorem dX3_readHour_37 : decode cX3_readHour 37 = .ok (.invokevirtual 67, 3) := by decide +kernel
theorem dX3_readHour_40 : decode cX3_readHour 40 = .ok (.istore_n 2, 1) := by decide +kernel
theorem dX3_readHour_41 : decode cX3_readHour 41 = .ok (.iload_n 2, 1) := by decide +kernel
theorem dX3_readHour_42 : decode cX3_readHour 42 = .ok (.ifCond .ge 8, 3) := by decide +kernel
theorem dX3_readHour_45 : decode cX3_readHour 45 = .ok (.bipush (-9), 2) := by decide +kernel
theorem dX3_readHour_47 : decode cX3_readHour 47 = .ok (.goto 15, 3) := by decide +kernel
theorem dX3_readHour_50 : decode cX3_readHour 50 = .ok (.aload_n 0, 1) := by decide +kernel
theorem dX3_readHour_51 : decode cX3_readHour 51 = .ok (.aload_n 0, 1) := by decide +kernel
theorem dX3_readHour_52 : decode cX3_readHour 52 = .ok (.bipush 48, 2) := by decide +kernel
theorem dX3_readHour_54 : decode cX3_readHour 54 = .ok (.bipush 50, 2) := by decide +kernel
theorem dX3_readHour_56 : decode cX3_readHour 56 = .ok (.invokevirtual 48, 3) := by decide +kernel
theorem dX3_readHour_59 : decode cX3_readHour 59 = .ok (.invokevirtual 67, 3) := by decide +kernel
theorem dX3_readHour_62 : decode cX3_readHour 62 = .ok (.istore_n 3, 1) := by decide +kernel
theorem dX3_readHour_63 : decode cX3_readHour 63 = .ok (.iload_n 3, 1) := by decide +kernel
theorem dX3_readHour_64 : decode cX3_readHour 64 = .ok (.ifCond .ge 5, 3) := by decide +kernel
theorem dX3_readHour_67 : decode cX3_readHour 67 = .ok (.iconst 0, 1) := by decide +kernel
theorem dX3_readHour_68 : decode cX3_readHour 68 = .ok (.ireturn, 1) := by decide +kernel
theorem dX3_readHour_69 : decode cX3_readHour 69 = .ok (.aload_n 0, 1) := by decide +kernel
theorem dX3_readHour_70 : decode cX3_readHour 70 = .ok (.getfield 12, 3) := by decide +kernel
theorem dX3_readHour_73 : decode cX3_readHour 73 = .ok (.iload_n 1, 1) := by decide +kernel
theorem dX3_readHour_74 : decode cX3_readHour 74 = .ok (.iload_n 2, 1) := by decide +kernel
theorem dX3_readHour_75 : decode cX3_readHour 75 = .ok (.iload_n 3, 1) := by decide +kernel
theorem dX3_readHour_76 : decode cX3_readHour 76 = .ok (.invokevirtual 86, 3) := by decide +kernel
theorem dX3_readHour_79 : decode cX3_readHour 79 = .ok (.iconst 1, 1) := by decide +kernel
theorem dX3_readHour_80 : decode cX3_readHour 80 = .ok (.ireturn, 1) := by decide +kernel
theorem dX3_take_0 : decode cX3_take 0 = .ok (.aload_n 0, 1) := by decide +kernel
theorem dX3_take_1 : decode cX3_take 1 = .ok (.dup, 1) := by decide +kernel
theorem dX3_take_2 : decode cX3_take 2 = .ok (.getfield 26, 3) := by decide +kernel
theorem dX3_take_5 : decode cX3_take 5 = .ok (.iload_n 1, 1) := by decide +kernel
theorem dX3_take_6 : decode cX3_take 6 = .ok (.ifCond .ge 7, 3) := by decide +kernel
theorem dX3_take_9 : decode cX3_take 9 = .ok (.iconst 0, 1) := by decide +kernel
theorem dX3_take_10 : decode cX3_take 10 = .ok (.goto 4, 3) := by decide +kernel
theorem dX3_take_13 : decode cX3_take 13 = .ok (.iconst 1, 1) := by decide +kernel
theorem dX3_take_14 : decode cX3_take 14 = .ok (.iadd, 1) := by decide +kernel
theorem dX3_take_15 : decode cX3_take 15 = .ok (.putfield 26, 3) := by decide +kernel
theorem dX3_take_18 : decode cX3_take 18 = .ok (.iload_n 1, 1) := by decide +kernel
theorem dX3_take_19 : decode cX3_take 19 = .ok (.ireturn, 1) := by decide +kernel
theorem dX3_nextBetween_0 : decode cX3_nextBetween 0 = .ok (.aload_n 0, 1) := by decide +kernel
theorem dX3_nextBetween_1 : decode cX3_nextBetween 1 = .ok (.getfield 26, 3) := by decide +kernel
theorem dX3_nextBetween_4 : decode cX3_nextBetween 4 = .ok (.aload_n 0, 1) := by decide +kernel
theorem dX3_nextBetween_5 : decode cX3_nextBetween 5 = .ok (.getfield 22, 3) := by decide +kernel
theorem dX3_nextBetween_8 : decode cX3_nextBetween 8 = .ok (.if_icmp .ge 29, 3) := by decide +kernel
theorem dX3_nextBetween_11 : decode cX3_nextBetween 11 = .ok (.aload_n 0, 1) := by decide +kernel
theorem dX3_nextBetween_12 : decode cX3_nextBetween 12 = .ok (.getfield 18, 3) := by decide +kernel
theorem dX3_nextBetween_15 : decode cX3_nextBetween 15 = .ok (.aload_n 0, 1) := by decide +kernel
theorem dX3_nextBetween_16 : decode cX3_nextBetween 16 = .ok (.getfield 26, 3) := by decide +kernel
theorem dX3_nextBetween_19 : decode cX3_nextBetween 19 = .ok (.iaload, 1) := by decide +kernel
theorem dX3_nextBetween_20 : decode cX3_nextBetween 20 = .ok (.iload_n 1, 1) := by decide +kernel
theorem dX3_nextBetween_21 : decode cX3_nextBetween 21 = .ok (.if_icmp .lt 16, 3) := by decide +kernel
theorem dX3_nextBetween_24 : decode cX3_nextBetween 24 = .ok (.aload_n 0, 1) := by decide +kernel
theorem dX3_nextBetween_25 : decode cX3_nextBetween 25 = .ok (.getfield 18, 3) := by decide +kernel
theorem dX3_nextBetween_28 : decode cX3_nextBetween 28 = .ok (.aload_n 0, 1) := by decide +kernel
theorem dX3_nextBetween_29 : decode cX3_nextBetween 29 = .ok (.getfield 26, 3) := by decide +kernel
theorem dX3_nextBetween_32 : decode cX3_nextBetween 32 = .ok (.iaload, 1) := by decide +kernel
theorem dX3_nextBetween_33 : decode cX3_nextBetween 33 = .ok (.iload_n 2, 1) := by decide +kernel
theorem dX3_nextBetween_34 : decode cX3_nextBetween 34 = .ok (.if_icmp .le 6, 3) := by decide +kernel
theorem dX3_nextBetween_37 : decode cX3_nextBetween 37 = .ok (.bipush (-9), 2) := by decide +kernel
theorem dX3_nextBetween_39 : decode cX3_nextBetween 39 = .ok (.ireturn, 1) := by decide +kernel
theorem dX3_nextBetween_40 : decode cX3_nextBetween 40 = .ok (.aload_n 0, 1) := by decide +kernel
theorem dX3_nextBetween_41 : decode cX3_nextBetween 41 = .ok (.getfield 18, 3) := by decide +kernel
theorem dX3_nextBetween_44 : decode cX3_nextBetween 44 = .ok (.aload_n 0, 1) := by decide +kernel
theorem dX3_nextBetween_45 : decode cX3_nextBetween 45 = .ok (.getfield 26, 3) := by decide +kernel
theorem dX3_nextBetween_48 : decode cX3_nextBetween 48 = .ok (.iaload, 1) := by decide +kernel
theorem dX3_nextBetween_49 : decode cX3_nextBetween 49 = .ok (.iload_n 1, 1) := by decide +kernel
theorem dX3_nextBetween_50 : decode cX3_nextBetween 50 = .ok (.isub, 1) := by decide +kernel
theorem dX3_nextBetween_51 : decode cX3_nextBetween 51 = .ok (.ireturn, 1) := by decide +kernel
theorem dX3_nextAmong_0 : decode cX3_nextAmong 0 = .ok (.iconst 0, 1) := by decide +kernel
theorem dX3_nextAmong_1 : decode cX3_nextAmong 1 = .ok (.istore_n 2, 1) := by decide +kernel
theorem dX3_nextAmong_2 : decode cX3_nextAmong 2 = .ok (.iload_n 2, 1) := by decide +kernel
theorem dX3_nextAmong_3 : decode cX3_nextAmong 3 = .ok (.aload_n 1, 1) := by decide +kernel
theorem dX3_nextAmong_4 : decode cX3_nextAmong 4 = .ok (.arraylength, 1) := by decide +kernel
theorem dX3_nextAmong_5 : decode cX3_nextAmong 5 = .ok (.if_icmp .ge 37, 3) := by decide +kernel
theorem dX3_nextAmong_8 : decode cX3_nextAmong 8 = .ok (.aload_n 0, 1) := by decide +kernel
theorem dX3_nextAmong_9 : decode cX3_nextAmong 9 = .ok (.getfield 26, 3) := by decide +kernel
theorem dX3_nextAmong_12 : decode cX3_nextAmong 12 = .ok (.aload_n 0, 1) := by decide +kernel
theorem dX3_nextAmong_13 : decode cX3_nextAmong 13 = .ok (.getfield 22, 3) := by decide +kernel
theorem dX3_nextAmong_16 : decode cX3_nextAmong 16 = .ok (.if_icmp .ge 26, 3) := by decide +kernel
theorem dX3_nextAmong_19 : decode cX3_nextAmong 19 = .ok (.aload_n 0, 1) := by decide +kernel
theorem dX3_nextAmong_20 : decode cX3_nextAmong 20 = .ok (.getfield 18, 3) := by decide +kernel
theorem dX3_nextAmong_23 : decode cX3_nextAmong 23 = .ok (.aload_n 0, 1) := by decide +kernel
theorem dX3_nextAmong_24 : decode cX3_nextAmong 24 = .ok (.getfield 26, 3) := by decide +kernel
theorem dX3_nextAmong_27 : decode cX3_nextAmong 27 = .ok (.iaload, 1) := by decide +kernel
theorem dX3_nextAmong_28 : decode cX3_nextAmong 28 = .ok (.aload_n 1, 1) := by decide +kernel
theorem dX3_nextAmong_29 : decode cX3_nextAmong 29 = .ok (.iload_n 2, 1) := by decide +kernel
theorem dX3_nextAmong_30 : decode cX3_nextAmong 30 = .ok (.iaload, 1) := by decide +kernel
theorem dX3_nextAmong_31 : decode cX3_nextAmong 31 = .ok (.if_icmp .ne 5, 3) := by decide +kernel
theorem dX3_nextAmong_34 : decode cX3_nextAmong 34 = .ok (.iload_n 2, 1) := by decide +kernel
theorem dX3_nextAmong_35 : decode cX3_nextAmong 35 = .ok (.ireturn, 1) := by decide +kernel
theorem dX3_nextAmong_36 : decode cX3_nextAmong 36 = .ok (.iinc 2 1, 3) := by decide +kernel
theorem dX3_nextAmong_39 : decode cX3_nextAmong 39 = .ok (.goto (-37), 3) := by decide +kernel
theorem dX3_nextAmong_42 : decode cX3_nextAmong 42 = .ok (.bipush (-9), 2) := by decide +kernel
theorem dX3_nextAmong_44 : decode cX3_nextAmong 44 = .ok (.ireturn, 1) := by decide +kernel
theorem dX4_init_0 : decode cX4_init 0 = .ok (.aload_n 0, 1) := by decide +kernel
theorem dX4_init_1 : decode cX4_init 1 = .ok (.invokespecial 3, 3) := by decide +kernel
theorem dX4_init_4 : decode cX4_init 4 = .ok (.aload_n 0, 1) := by decide +kernel
theorem dX4_init_5 : decode cX4_init 5 = .ok (.iload_n 1, 1) := by decide +kernel
theorem dX4_init_6 : decode cX4_init 6 = .ok (.newarray .int, 2) := by decide +kernel
theorem dX4_init_8 : decode cX4_init 8 = .ok (.putfield 9, 3) := by decide +kernel
theorem dX4_init_11 : decode cX4_init 11 = .ok (.aload_n 0, 1) := by decide +kernel
theorem dX4_init_12 : decode cX4_init 12 = .ok (.iload_n 1, 1) := by decide +kernel
theorem dX4_init_13 : decode cX4_init 13 = .ok (.iload_n 2, 1) := by decide +kernel
theorem dX4_init_14 : decode cX4_init 14 = .ok (.multianewarray 15 2, 4) := by decide +kernel
theorem dX4_init_18 : decode cX4_init 18 = .ok (.putfield 17, 3) := by decide +kernel
theorem dX4_init_21 : decode cX4_init 21 = .ok (.aload_n 0, 1) := by decide +kernel
theorem dX4_init_22 : decode cX4_init 22 = .ok (.getfield 9, 3) := by decide +kernel
theorem dX4_init_25 : decode cX4_init 25 = .ok (.iconst (-1), 1) := by decide +kernel
theorem dX4_init_26 : decode cX4_init 26 = .ok (.invokestatic 20, 3) := by decide +kernel
theorem dX4_init_29 : decode cX4_init 29 = .ok (.return_, 1) := by decide +kernel
theorem dX4_knows_0 : decode cX4_knows 0 = .ok (.iload_n 1, 1) := by decide +kernel
theorem dX4_knows_1 : decode cX4_knows 1 = .ok (.ifCond .lt 16, 3) := by decide +kernel
theorem dX4_knows_4 : decode cX4_knows 4 = .ok (.iload_n 1, 1) := by decide +kernel
theorem dX4_knows_5 : decode cX4_knows 5 = .ok (.aload_n 0, 1) := by decide +kernel
theorem dX4_knows_6 : decode cX4_knows 6 = .ok (.getfield 9, 3) := by decide +kernel
theorem dX4_knows_9 : decode cX4_knows 9 = .ok (.arraylength, 1) := by decide +kernel
theorem dX4_knows_10 : decode cX4_knows 10 = .ok (.if_icmp .ge 7, 3) := by decide +kernel
theorem dX4_knows_13 : decode cX4_knows 13 = .ok (.iconst 1, 1) := by decide +kernel
theorem dX4_knows_14 : decode cX4_knows 14 = .ok (.goto 4, 3) := by decide +kernel
theorem dX4_knows_17 : decode cX4_knows 17 = .ok (.iconst 0, 1) := by decide +kernel
theorem dX4_knows_18 : decode cX4_knows 18 = .ok (.ireturn, 1) := by decide +kernel
theorem dX4_isThere_0 : decode cX4_isThere 0 = .ok (.aload_n 0, 1) := by decide +kernel
theorem dX4_isThere_1 : decode cX4_isThere 1 = .ok (.getfield 9, 3) := by decide +kernel
theorem dX4_isThere_4 : decode cX4_isThere 4 = .ok (.iload_n 1, 1) := by decide +kernel
theorem dX4_isThere_5 : decode cX4_isThere 5 = .ok (.iaload, 1) := by decide +kernel
theorem dX4_isThere_6 : decode cX4_isThere 6 = .ok (.iconst (-1), 1) := by decide +kernel
theorem dX4_isThere_7 : decode cX4_isThere 7 = .ok (.if_icmp .eq 7, 3) := by decide +kernel
theorem dX4_isThere_10 : decode cX4_isThere 10 = .ok (.iconst 1, 1) := by decide +kernel
theorem dX4_isThere_11 : decode cX4_isThere 11 = .ok (.goto 4, 3) := by decide +kernel
theorem dX4_isThere_14 : decode cX4_isThere 14 = .ok (.iconst 0, 1) := by decide +kernel
theorem dX4_isThere_15 : decode cX4_isThere 15 = .ok (.ireturn, 1) := by decide +kernel
theorem dX4_reaches_0 : decode cX4_reaches 0 = .ok (.iload_n 2, 1) := by decide +kernel
theorem dX4_reaches_1 : decode cX4_reaches 1 = .ok (.ifCond .lt 23, 3) := by decide +kernel
theorem dX4_reaches_4 : decode cX4_reaches 4 = .ok (.iload_n 2, 1) := by decide +kernel
theorem dX4_reaches_5 : decode cX4_reaches 5 = .ok (.i2l, 1) := by decide +kernel
theorem dX4_reaches_6 : decode cX4_reaches 6 = .ok (.iload_n 3, 1) := by decide +kernel
theorem dX4_reaches_7 : decode cX4_reaches 7 = .ok (.i2l, 1) := by decide +kernel
theorem dX4_reaches_8 : decode cX4_reaches 8 = .ok (.ladd, 1) := by decide +kernel
theorem dX4_reaches_9 : decode cX4_reaches 9 = .ok (.aload_n 0, 1) := by decide +kernel
theorem dX4_reaches_10 : decode cX4_reaches 10 = .ok (.getfield 9, 3) := by decide +kernel
theorem dX4_reaches_13 : decode cX4_reaches 13 = .ok (.iload_n 1, 1) := by decide +kernel
theorem dX4_reaches_14 : decode cX4_reaches 14 = .ok (.iaload, 1) := by decide +kernel
theorem dX4_reaches_15 : decode cX4_reaches 15 = .ok (.i2l, 1) := by decide +kernel
theorem dX4_reaches_16 : decode cX4_reaches 16 = .ok (.lcmp, 1) := by decide +kernel
theorem dX4_reaches_17 : decode cX4_reaches 17 = .ok (.ifCond .gt 7, 3) := by decide +kernel
theorem dX4_reaches_20 : decode cX4_reaches 20 = .ok (.iconst 1, 1) := by decide +kernel
theorem dX4_reaches_21 : decode cX4_reaches 21 = .ok (.goto 4, 3) := by decide +kernel
theorem dX4_reaches_24 : decode cX4_reaches 24 = .ok (.iconst 0, 1) := by decide +kernel
theorem dX4_reaches_25 : decode cX4_reaches 25 = .ok (.ireturn, 1) := by decide +kernel
theorem dX4_begin_0 : decode cX4_begin 0 = .ok (.aload_n 0, 1) := by decide +kernel
theorem dX4_begin_1 : decode cX4_begin 1 = .ok (.getfield 9, 3) := by decide +kernel
theorem dX4_begin_4 : decode cX4_begin 4 = .ok (.iload_n 1, 1) := by decide +kernel
theorem dX4_begin_5 : decode cX4_begin 5 = .ok (.iload_n 2, 1) := by decide +kernel
theorem dX4_begin_6 : decode cX4_begin 6 = .ok (.iastore, 1) := by decide +kernel
theorem dX4_begin_7 : decode cX4_begin 7 = .ok (.aload_n 0, 1) := by decide +kernel
theorem dX4_begin_8 : decode cX4_begin 8 = .ok (.getfield 17, 3) := by decide +kernel
theorem dX4_begin_11 : decode cX4_begin 11 = .ok (.iload_n 1, 1) := by decide +kernel
theorem dX4_begin_12 : decode cX4_begin 12 = .ok (.aaload, 1) := by decide +kernel
theorem dX4_begin_13 : decode cX4_begin 13 = .ok (.iload_n 3, 1) := by decide +kernel
theorem dX4_begin_14 : decode cX4_begin 14 = .ok (.invokestatic 20, 3) := by decide +kernel
theorem dX4_begin_17 : decode cX4_begin 17 = .ok (.return_, 1) := by decide +kernel
theorem dX4_exchange_0 : decode cX4_exchange 0 = .ok (.aload_n 0, 1) := by decide +kernel
theorem dX4_exchange_1 : decode cX4_exchange 1 = .ok (.getfield 17, 3) := by decide +kernel
theorem dX4_exchange_4 : decode cX4_exchange 4 = .ok (.iload_n 1, 1) := by decide +kernel
theorem dX4_exchange_5 : decode cX4_exchange 5 = .ok (.aaload, 1) := by decide +kernel
theorem dX4_exchange_6 : decode cX4_exchange 6 = .ok (.iload_n 2, 1) := by decide +kernel
theorem dX4_exchange_7 : decode cX4_exchange 7 = .ok (.iaload, 1) := by decide +kernel
theorem dX4_exchange_8 : decode cX4_exchange 8 = .ok (.istore 4, 2) := by decide +kernel
theorem dX4_exchange_10 : decode cX4_exchange 10 = .ok (.aload_n 0, 1) := by decide +kernel
theorem dX4_exchange_11 : decode cX4_exchange 11 = .ok (.getfield 17, 3) := by decide +kernel
theorem dX4_exchange_14 : decode cX4_exchange 14 = .ok (.iload_n 1, 1) := by decide +kernel
theorem dX4_exchange_15 : decode cX4_exchange 15 = .ok (.aaload, 1) := by decide +kernel
theorem dX4_exchange_16 : decode cX4_exchange 16 = .ok (.iload_n 2, 1) := by decide +kernel
theorem dX4_exchange_17 : decode cX4_exchange 17 = .ok (.iload_n 3, 1) := by decide +kernel
theorem dX4_exchange_18 : decode cX4_exchange 18 = .ok (.iastore, 1) := by decide +kernel
theorem dX4_exchange_19 : decode cX4_exchange 19 = .ok (.iload 4, 2) := by decide +kernel
theorem dX4_exchange_21 : decode cX4_exchange 21 = .ok (.ireturn, 1) := by decide +kernel
theorem dX4_sum_0 : decode cX4_sum 0 = .ok (.lconst 0, 1) := by decide +kernel
theorem dX4_sum_1 : decode cX4_sum 1 = .ok (.lstore_n 2, 1) := by decide +kernel
theorem dX4_sum_2 : decode cX4_sum 2 = .ok (.iconst 0, 1) := by decide +kernel
theorem dX4_sum_3 : decode cX4_sum 3 = .ok (.istore 4, 2) := by decide +kernel
theorem dX4_sum_5 : decode cX4_sum 5 = .ok (.iload 4, 2) := by decide +kernel
theorem dX4_sum_7 : decode cX4_sum 7 = .ok (.aload_n 0, 1) := by decide +kernel
theorem dX4_sum_8 : decode cX4_sum 8 = .ok (.getfield 9, 3) := by decide +kernel
theorem dX4_sum_11 : decode cX4_sum 11 = .ok (.iload_n 1, 1) := by decide +kernel
theorem dX4_sum_12 : decode cX4_sum 12 = .ok (.iaload, 1) := by decide +kernel
theorem dX4_sum_13 : decode cX4_sum 13 = .ok (.if_icmp .ge 22, 3) := by decide +kernel
theorem dX4_sum_16 : decode cX4_sum 16 = .ok (.lload_n 2, 1) := by decide +kernel
theorem dX4_sum_17 : decode cX4_sum 17 = .ok (.aload_n 0, 1) := by decide +kernel
theorem dX4_sum_18 : decode cX4_sum 18 = .ok (.getfield 17, 3) := by decide +kernel
theorem dX4_sum_21 : decode cX4_sum 21 = .ok (.iload_n 1, 1) := by decide +kernel
theorem dX4_sum_22 : decode cX4_sum 22 = .ok (.aaload, 1) := by decide +kernel
theorem dX4_sum_23 : decode cX4_sum 23 = .ok (.iload 4, 2) := by decide +kernel
theorem dX4_sum_25 : decode cX4_sum 25 = .ok (.iaload, 1) := by decide +kernel
theorem dX4_sum_26 : decode cX4_sum 26 = .ok (.i2l, 1) := by decide +kernel
theorem dX4_sum_27 : decode cX4_sum 27 = .ok (.ladd, 1) := by decide +kernel
theorem dX4_sum_28 : decode cX4_sum 28 = .ok (.lstore_n 2, 1) := by decide +kernel
theorem dX4_sum_29 : decode cX4_sum 29 = .ok (.iinc 4 1, 3) := by decide +kernel
theorem dX4_sum_32 : decode cX4_sum 32 = .ok (.goto (-27), 3) := by decide +kernel
theorem dX4_sum_35 : decode cX4_sum 35 = .ok (.lload_n 2, 1) := by decide +kernel
theorem dX4_sum_36 : decode cX4_sum 36 = .ok (.lreturn, 1) := by decide +kernel
theorem dX4_present_0 : decode cX4_present 0 = .ok (.iconst 0, 1) := by decide +kernel
theorem dX4_present_1 : decode cX4_present 1 = .ok (.istore_n 1, 1) := by decide +kernel
theorem dX4_present_2 : decode cX4_present 2 = .ok (.iconst 0, 1) := by decide +kernel
theorem dX4_present_3 : decode cX4_present 3 = .ok (.istore_n 2, 1) := by decide +kernel
theorem dX4_present_4 : decode cX4_present 4 = .ok (.iload_n 2, 1) := by decide +kernel
theorem dX4_present_5 : decode cX4_present 5 = .ok (.aload_n 0, 1) := by decide +kernel
theorem dX4_present_6 : decode cX4_present 6 = .ok (.getfield 9, 3) := by decide +kernel
theorem dX4_present_9 : decode cX4_present 9 = .ok (.arraylength, 1) := by decide +kernel
theorem dX4_present_10 : decode cX4_present 10 = .ok (.if_icmp .ge 25, 3) := by decide +kernel
theorem dX4_present_13 : decode cX4_present 13 = .ok (.iload_n 1, 1) := by decide +kernel
theorem dX4_present_14 : decode cX4_present 14 = .ok (.aload_n 0, 1) := by decide +kernel
theorem dX4_present_15 : decode cX4_present 15 = .ok (.iload_n 2, 1) := by decide +kernel
theorem dX4_present_16 : decode cX4_present 16 = .ok (.invokevirtual 26, 3) := by decide +kernel
theorem dX4_present_19 : decode cX4_present 19 = .ok (.ifCond .eq 7, 3) := by decide +kernel
theorem dX4_present_22 : decode cX4_present 22 = .ok (.iconst 1, 1) := by decide +kernel
theorem dX4_present_23 : decode cX4_present 23 = .ok (.goto 4, 3) := by decide +kernel
theorem dX4_present_26 : decode cX4_present 26 = .ok (.iconst 0, 1) := by decide +kernel
theorem dX4_present_27 : decode cX4_present 27 = .ok (.iadd, 1) := by decide +kernel
theorem dX4_present_28 : decode cX4_present 28 = .ok (.istore_n 1, 1) := by decide +kernel
theorem dX4_present_29 : decode cX4_present 29 = .ok (.iinc 2 1, 3) := by decide +kernel
theorem dX4_present_32 : decode cX4_present 32 = .ok (.goto (-28), 3) := by decide +kernel
theorem dX4_present_35 : decode cX4_present 35 = .ok (.iload_n 1, 1) := by decide +kernel
theorem dX4_present_36 : decode cX4_present 36 = .ok (.ireturn, 1) := by decide +kernel
theorem dX4_digestOnFrom_0 : decode cX4_digestOnFrom 0 = .ok (.lload_n 1, 1) := by decide +kernel
theorem dX4_digestOnFrom_1 : decode cX4_digestOnFrom 1 = .ok (.lstore_n 3, 1) := by decide +kernel
theorem dX4_digestOnFrom_2 : decode cX4_digestOnFrom 2 = .ok (.iconst 0, 1) := by decide +kernel
theorem dX4_digestOnFrom_3 : decode cX4_digestOnFrom 3 = .ok (.istore 5, 2) := by decide +kernel
theorem dX4_digestOnFrom_5 : decode cX4_digestOnFrom 5 = .ok (.iload 5, 2) := by decide +kernel
theorem dX4_digestOnFrom_7 : decode cX4_digestOnFrom 7 = .ok (.aload_n 0, 1) := by decide +kernel
theorem dX4_digestOnFrom_8 : decode cX4_digestOnFrom 8 = .ok (.getfield 9, 3) := by decide +kernel
theorem dX4_digestOnFrom_11 : decode cX4_digestOnFrom 11 = .ok (.arraylength, 1) := by decide +kernel
theorem dX4_digestOnFrom_12 : decode cX4_digestOnFrom 12 = .ok (.if_icmp .ge 63, 3) := by decide +kernel
theorem dX4_digestOnFrom_15 : decode cX4_digestOnFrom 15 = .ok (.ldc2_w 30, 3) := by decide +kernel
theorem dX4_digestOnFrom_18 : decode cX4_digestOnFrom 18 = .ok (.lload_n 3, 1) := by decide +kernel
theorem dX4_digestOnFrom_19 : decode cX4_digestOnFrom 19 = .ok (.lmul, 1) := by decide +kernel
theorem dX4_digestOnFrom_20 : decode cX4_digestOnFrom 20 = .ok (.aload_n 0, 1) := by decide +kernel
theorem dX4_digestOnFrom_21 : decode cX4_digestOnFrom 21 = .ok (.getfield 9, 3) := by decide +kernel
theorem dX4_digestOnFrom_24 : decode cX4_digestOnFrom 24 = .ok (.iload 5, 2) := by decide +kernel
theorem dX4_digestOnFrom_26 : decode cX4_digestOnFrom 26 = .ok (.iaload, 1) := by decide +kernel
theorem dX4_digestOnFrom_27 : decode cX4_digestOnFrom 27 = .ok (.i2l, 1) := by decide +kernel
theorem dX4_digestOnFrom_28 : decode cX4_digestOnFrom 28 = .ok (.ladd, 1) := by decide +kernel
theorem dX4_digestOnFrom_29 : decode cX4_digestOnFrom 29 = .ok (.lstore_n 3, 1) := by decide +kernel
theorem dX4_digestOnFrom_30 : decode cX4_digestOnFrom 30 = .ok (.iconst 0, 1) := by decide +kernel
theorem dX4_digestOnFrom_31 : decode cX4_digestOnFrom 31 = .ok (.istore 6, 2) := by decide +kernel
theorem dX4_digestOnFrom_33 : decode cX4_digestOnFrom 33 = .ok (.iload 6, 2) := by decide +kernel
theorem dX4_digestOnFrom_35 : decode cX4_digestOnFrom 35 = .ok (.aload_n 0, 1) := by decide +kernel
theorem dX4_digestOnFrom_36 : decode cX4_digestOnFrom 36 = .ok (.getfield 9, 3) := by decide +kernel
theorem dX4_digestOnFrom_39 : decode cX4_digestOnFrom 39 = .ok (.iload 5, 2) := by decide +kernel
theorem dX4_digestOnFrom_41 : decode cX4_digestOnFrom 41 = .ok (.iaload, 1) := by decide +kernel
theorem dX4_digestOnFrom_42 : decode cX4_digestOnFrom 42 = .ok (.if_icmp .ge 27, 3) := by decide +kernel
theorem dX4_digestOnFrom_45 : decode cX4_digestOnFrom 45 = .ok (.ldc2_w 30, 3) := by decide +kernel
theorem dX4_digestOnFrom_48 : decode cX4_digestOnFrom 48 = .ok (.lload_n 3, 1) := by decide +kernel
theorem dX4_digestOnFrom_49 : decode cX4_digestOnFrom 49 = .ok (.lmul, 1) := by decide +kernel
theorem dX4_digestOnFrom_50 : decode cX4_digestOnFrom 50 = .ok (.aload_n 0, 1) := by decide +kernel
theorem dX4_digestOnFrom_51 : decode cX4_digestOnFrom 51 = .ok (.getfield 17, 3) := by decide +kernel
theorem dX4_digestOnFrom_54 : decode cX4_digestOnFrom 54 = .ok (.iload 5, 2) := by decide +kernel
theorem dX4_digestOnFrom_56 : decode cX4_digestOnFrom 56 = .ok (.aaload, 1) := by decide +kernel
theorem dX4_digestOnFrom_57 : decode cX4_digestOnFrom 57 = .ok (.iload 6, 2) := by decide +kernel
theorem dX4_digestOnFrom_59 : decode cX4_digestOnFrom 59 = .ok (.iaload, 1) := by decide +kernel
theorem dX4_digestOnFrom_60 : decode cX4_digestOnFrom 60 = .ok (.i2l, 1) := by decide +kernel
theorem dX4_digestOnFrom_61 : decode cX4_digestOnFrom 61 = .ok (.ladd, 1) := by decide +kernel
theorem dX4_digestOnFrom_62 : decode cX4_digestOnFrom 62 = .ok (.lstore_n 3, 1) := by decide +kernel
theorem dX4_digestOnFrom_63 : decode cX4_digestOnFrom 63 = .ok (.iinc 6 1, 3) := by decide +kernel
theorem dX4_digestOnFrom_66 : decode cX4_digestOnFrom 66 = .ok (.goto (-33), 3) := by decide +kernel
theorem dX4_digestOnFrom_69 : decode cX4_digestOnFrom 69 = .ok (.iinc 5 1, 3) := by decide +kernel
theorem dX4_digestOnFrom_72 : decode cX4_digestOnFrom 72 = .ok (.goto (-67), 3) := by decide +kernel
theorem dX4_digestOnFrom_75 : decode cX4_digestOnFrom 75 = .ok (.lload_n 3, 1) := by decide +kernel
theorem dX4_digestOnFrom_76 : decode cX4_digestOnFrom 76 = .ok (.lreturn, 1) := by decide +kernel
theorem dX5_init_0 : decode cX5_init 0 = .ok (.aload_n 0, 1) := by decide +kernel
theorem dX5_init_1 : decode cX5_init 1 = .ok (.invokespecial 3, 3) := by decide +kernel
theorem dX5_init_4 : decode cX5_init 4 = .ok (.aload_n 0, 1) := by decide +kernel
theorem dX5_init_5 : decode cX5_init 5 = .ok (.new 9, 3) := by decide +kernel
theorem dX5_init_8 : decode cX5_init 8 = .ok (.dup, 1) := by decide +kernel
theorem dX5_init_9 : decode cX5_init 9 = .ok (.bipush 6, 2) := by decide +kernel
theorem dX5_init_11 : decode cX5_init 11 = .ok (.bipush 40, 2) := by decide +kernel
theorem dX5_init_13 : decode cX5_init 13 = .ok (.invokespecial 11, 3) := by decide +kernel
theorem dX5_init_16 : decode cX5_init 16 = .ok (.putfield 14, 3) := by decide +kernel
theorem dX5_init_19 : decode cX5_init 19 = .ok (.aload_n 0, 1) := by decide +kernel
theorem dX5_init_20 : decode cX5_init 20 = .ok (.new 9, 3) := by decide +kernel
theorem dX5_init_23 : decode cX5_init 23 = .ok (.dup, 1) := by decide +kernel
theorem dX5_init_24 : decode cX5_init 24 = .ok (.iconst 4, 1) := by decide +kernel
theorem dX5_init_25 : decode cX5_init 25 = .ok (.bipush 80, 2) := by decide +kernel
theorem dX5_init_27 : decode cX5_init 27 = .ok (.invokespecial 11, 3) := by decide +kernel
theorem dX5_init_30 : decode cX5_init 30 = .ok (.putfield 18, 3) := by decide +kernel
theorem dX5_init_33 : decode cX5_init 33 = .ok (.aload_n 0, 1) := by decide +kernel
theorem dX5_init_34 : decode cX5_init 34 = .ok (.new 21, 3) := by decide +kernel
theorem dX5_init_37 : decode cX5_init 37 = .ok (.dup, 1) := by decide +kernel
theorem dX5_init_38 : decode cX5_init 38 = .ok (.invokespecial 23, 3) := by decide +kernel
theorem dX5_init_41 : decode cX5_init 41 = .ok (.putfield 24, 3) := by decide +kernel
theorem dX5_init_44 : decode cX5_init 44 = .ok (.aload_n 0, 1) := by decide +kernel
theorem dX5_init_45 : decode cX5_init 45 = .ok (.new 28, 3) := by decide +kernel
theorem dX5_init_48 : decode cX5_init 48 = .ok (.dup, 1) := by decide +kernel
theorem dX5_init_49 : decode cX5_init 49 = .ok (.invokespecial 30, 3) := by decide +kernel
theorem dX5_init_52 : decode cX5_init 52 = .ok (.putfield 31, 3) := by decide +kernel
theorem dX5_init_55 : decode cX5_init 55 = .ok (.aload_n 0, 1) := by decide +kernel
theorem dX5_init_56 : decode cX5_init 56 = .ok (.new 35, 3) := by decide +kernel
theorem dX5_init_59 : decode cX5_init 59 = .ok (.dup, 1) := by decide +kernel
theorem dX5_init_60 : decode cX5_init 60 = .ok (.aload_n 0, 1) := by decide +kernel
theorem dX5_init_61 : decode cX5_init 61 = .ok (.getfield 31, 3) := by decide +kernel
theorem dX5_init_64 : decode cX5_init 64 = .ok (.invokespecial 37, 3) := by decide +kernel
theorem dX5_init_67 : decode cX5_init 67 = .ok (.putfield 40, 3) := by decide +kernel
theorem dX5_init_70 : decode cX5_init 70 = .ok (.aload_n 0, 1) := by decide +kernel
theorem dX5_init_71 : decode cX5_init 71 = .ok (.iconst 3, 1) := by decide +kernel
theorem dX5_init_72 : decode cX5_init 72 = .ok (.anewarray 35, 3) := by decide +kernel
theorem dX5_init_75 : decode cX5_init 75 = .ok (.dup, 1) := by decide +kernel
theorem dX5_init_76 : decode cX5_init 76 = .ok (.iconst 0, 1) := by decide +kernel
theorem dX5_init_77 : decode cX5_init 77 = .ok (.new 35, 3) := by decide +kernel
theorem dX5_init_80 : decode cX5_init 80 = .ok (.dup, 1) := by decide +kernel
theorem dX5_init_81 : decode cX5_init 81 = .ok (.aload_n 0, 1) := by decide +kernel
theorem dX5_init_82 : decode cX5_init 82 = .ok (.getfield 31, 3) := by decide +kernel
theorem dX5_init_85 : decode cX5_init 85 = .ok (.invokespecial 37, 3) := by decide +kernel
theorem dX5_init_88 : decode cX5_init 88 = .ok (.aastore, 1) := by decide +kernel
theorem dX5_init_89 : decode cX5_init 89 = .ok (.dup, 1) := by decide +kernel
theorem dX5_init_90 : decode cX5_init 90 = .ok (.iconst 1, 1) := by decide +kernel
theorem dX5_init_91 : decode cX5_init 91 = .ok (.new 35, 3) := by decide +kernel
theorem dX5_init_94 : decode cX5_init 94 = .ok (.dup, 1) := by decide +kernel
theorem dX5_init_95 : decode cX5_init 95 = .ok (.aload_n 0, 1) := by decide +kernel
theorem dX5_init_96 : decode cX5_init 96 = .ok (.getfield 31, 3) := by decide +kernel
theorem dX5_init_99 : decode cX5_init 99 = .ok (.invokespecial 37, 3) := by decide +kernel
theorem dX5_init_102 : decode cX5_init 102 = .ok (.aastore, 1) := by decide +kernel
theorem dX5_init_103 : decode cX5_init 103 = .ok (.dup, 1) := by decide +kernel
theorem dX5_init_104 : decode cX5_init 104 = .ok (.iconst 2, 1) := by decide +kernel
theorem dX5_init_105 : decode cX5_init 105 = .ok (.new 35, 3) := by decide +kernel
theorem dX5_init_108 : decode cX5_init 108 = .ok (.dup, 1) := by decide +kernel
theorem dX5_init_109 : decode cX5_init 109 = .ok (.aload_n 0, 1) := by decide +kernel
theorem dX5_init_110 : decode cX5_init 110 = .ok (.getfield 31, 3) := by decide +kernel
theorem dX5_init_113 : decode cX5_init 113 = .ok (.invokespecial 37, 3) := by decide +kernel
theorem dX5_init_116 : decode cX5_init 116 = .ok (.aastore, 1) := by decide +kernel
theorem dX5_init_117 : decode cX5_init 117 = .ok (.putfield 44, 3) := by decide +kernel
theorem dX5_init_120 : decode cX5_init 120 = .ok (.aload_n 0, 1) := by decide +kernel
theorem dX5_init_121 : decode cX5_init 121 = .ok (.iconst 3, 1) := by decide +kernel
theorem dX5_init_122 : decode cX5_init 122 = .ok (.newarray .boolean, 2) := by decide +kernel
theorem dX5_init_124 : decode cX5_init 124 = .ok (.putfield 48, 3) := by decide +kernel
theorem dX5_init_127 : decode cX5_init 127 = .ok (.aload_n 0, 1) := by decide +kernel
theorem dX5_init_128 : decode cX5_init 128 = .ok (.new 52, 3) := by decide +kernel
theorem dX5_init_131 : decode cX5_init 131 = .ok (.dup, 1) := by decide +kernel
theorem dX5_init_132 : decode cX5_init 132 = .ok (.aload_n 0, 1) := by decide +kernel
theorem dX5_init_133 : decode cX5_init 133 = .ok (.getfield 31, 3) := by decide +kernel
theorem dX5_init_136 : decode cX5_init 136 = .ok (.invokespecial 54, 3) := by decide +kernel
theorem dX5_init_139 : decode cX5_init 139 = .ok (.putfield 55, 3) := by decide +kernel
theorem dX5_init_142 : decode cX5_init 142 = .ok (.aload_n 0, 1) := by decide +kernel
theorem dX5_init_143 : decode cX5_init 143 = .ok (.bipush 6, 2) := by decide +kernel
theorem dX5_init_145 : decode cX5_init 145 = .ok (.newarray .int, 2) := by decide +kernel
theorem dX5_init_147 : decode cX5_init 147 = .ok (.putfield 59, 3) := by decide +kernel
theorem dX5_init_150 : decode cX5_init 150 = .ok (.aload_n 0, 1) := by decide +kernel
theorem dX5_init_151 : decode cX5_init 151 = .ok (.iconst 0, 1) := by decide +kernel
theorem dX5_init_152 : decode cX5_init 152 = .ok (.putfield 63, 3) := by decide +kernel
theorem dX5_init_155 : decode cX5_init 155 = .ok (.aload_n 0, 1) := by decide +kernel
theorem dX5_init_156 : decode cX5_init 156 = .ok (.iconst 0, 1) := by decide +kernel
theorem dX5_init_157 : decode cX5_init 157 = .ok (.putfield 67, 3) := by decide +kernel
theorem dX5_init_160 : decode cX5_init 160 = .ok (.aload_n 0, 1) := by decide +kernel
theorem dX5_init_161 : decode cX5_init 161 = .ok (.lconst 0, 1) := by decide +kernel
theorem dX5_init_162 : decode cX5_init 162 = .ok (.putfield 70, 3) := by decide +kernel
theorem dX5_init_165 : decode cX5_init 165 = .ok (.aload_n 0, 1) := by decide +kernel
theorem dX5_init_166 : decode cX5_init 166 = .ok (.lconst 1, 1) := by decide +kernel
theorem dX5_init_167 : decode cX5_init 167 = .ok (.putfield 74, 3) := by decide +kernel
theorem dX5_init_170 : decode cX5_init 170 = .ok (.return_, 1) := by decide +kernel
theorem dX5_row_0 : decode cX5_row 0 = .ok (.aload_n 0, 1) := by decide +kernel
theorem dX5_row_1 : decode cX5_row 1 = .ok (.getfield 14, 3) := by decide +kernel
theorem dX5_row_4 : decode cX5_row 4 = .ok (.iload_n 1, 1) := by decide +kernel
theorem dX5_row_5 : decode cX5_row 5 = .ok (.invokevirtual 77, 3) := by decide +kernel
theorem dX5_row_8 : decode cX5_row 8 = .ok (.ifCond .eq 9, 3) := by decide +kernel
theorem dX5_row_11 : decode cX5_row 11 = .ok (.iload_n 2, 1) := by decide +kernel
theorem dX5_row_12 : decode cX5_row 12 = .ok (.bipush 40, 2) := by decide +kernel
theorem dX5_row_14 : decode cX5_row 14 = .ok (.if_icmp .le 5, 3) := by decide +kernel
theorem dX5_row_17 : decode cX5_row 17 = .ok (.iconst (-1), 1) := by decide +kernel
theorem dX5_row_18 : decode cX5_row 18 = .ok (.ireturn, 1) := by decide +kernel
theorem dX5_row_19 : decode cX5_row 19 = .ok (.iload_n 2, 1) := by decide +kernel
theorem dX5_row_20 : decode cX5_row 20 = .ok (.ifCond .ge 9, 3) := by decide +kernel
theorem dX5_row_23 : decode cX5_row 23 = .ok (.aload_n 0, 1) := by decide +kernel
theorem dX5_row_24 : decode cX5_row 24 = .ok (.iconst 5, 1) := by decide +kernel
theorem dX5_row_25 : decode cX5_row 25 = .ok (.invokevirtual 81, 3) := by decide +kernel
theorem dX5_row_28 : decode cX5_row 28 = .ok (.ireturn, 1) := by decide +kernel
theorem dX5_row_29 : decode cX5_row 29 = .ok (.aload_n 0, 1) := by decide +kernel
theorem dX5_row_30 : decode cX5_row 30 = .ok (.getfield 14, 3) := by decide +kernel
theorem dX5_row_33 : decode cX5_row 33 = .ok (.iload_n 1, 1) := by decide +kernel
theorem dX5_row_34 : decode cX5_row 34 = .ok (.iload_n 2, 1) := by decide +kernel
theorem dX5_row_35 : decode cX5_row 35 = .ok (.iconst 0, 1) := by decide +kernel
theorem dX5_row_36 : decode cX5_row 36 = .ok (.invokevirtual 85, 3) := by decide +kernel
theorem dX5_row_39 : decode cX5_row 39 = .ok (.iload_n 2, 1) := by decide +kernel
theorem dX5_row_40 : decode cX5_row 40 = .ok (.ireturn, 1) := by decide +kernel
theorem dX5_lay_0 : decode cX5_lay 0 = .ok (.aload_n 0, 1) := by decide +kernel
theorem dX5_lay_1 : decode cX5_lay 1 = .ok (.aload_n 0, 1) := by decide +kernel
theorem dX5_lay_2 : decode cX5_lay 2 = .ok (.getfield 14, 3) := by decide +kernel
theorem dX5_lay_5 : decode cX5_lay 5 = .ok (.iload_n 1, 1) := by decide +kernel
theorem dX5_lay_6 : decode cX5_lay 6 = .ok (.iload_n 2, 1) := by decide +kernel
theorem dX5_lay_7 : decode cX5_lay 7 = .ok (.invokevirtual 89, 3) := by decide +kernel
theorem dX5_lay_10 : decode cX5_lay 10 = .ok (.istore 4, 2) := by decide +kernel
theorem dX5_lay_12 : decode cX5_lay 12 = .ok (.iload 4, 2) := by decide +kernel
theorem dX5_lay_14 : decode cX5_lay 14 = .ok (.ifCond .eq 8, 3) := by decide +kernel
theorem dX5_lay_17 : decode cX5_lay 17 = .ok (.iload 4, 2) := by decide +kernel
theorem dX5_lay_19 : decode cX5_lay 19 = .ok (.goto 17, 3) := by decide +kernel
theorem dX5_lay_22 : decode cX5_lay 22 = .ok (.aload_n 0, 1) := by decide +kernel
theorem dX5_lay_23 : decode cX5_lay 23 = .ok (.aload_n 0, 1) := by decide +kernel
theorem dX5_lay_24 : decode cX5_lay 24 = .ok (.getfield 14, 3) := by decide +kernel
theorem dX5_lay_27 : decode cX5_lay 27 = .ok (.iload_n 1, 1) := by decide +kernel
theorem dX5_lay_28 : decode cX5_lay 28 = .ok (.iload_n 2, 1) := by decide +kernel
theorem dX5_lay_29 : decode cX5_lay 29 = .ok (.iload_n 3, 1) := by decide +kernel
theorem dX5_lay_30 : decode cX5_lay 30 = .ok (.invokevirtual 93, 3) := by decide +kernel
theorem dX5_lay_33 : decode cX5_lay 33 = .ok (.invokevirtual 97, 3) := by decide +kernel
theorem dX5_lay_36 : decode cX5_lay 36 = .ok (.ireturn, 1) := by decide +kernel
theorem dX5_at_0 : decode cX5_at 0 = .ok (.aload_n 0, 1) := by decide +kernel
theorem dX5_at_1 : decode cX5_at 1 = .ok (.aload_n 0, 1) := by decide +kernel
theorem dX5_at_2 : decode cX5_at 2 = .ok (.getfield 14, 3) := by decide +kernel
theorem dX5_at_5 : decode cX5_at 5 = .ok (.iload_n 1, 1) := by decide +kernel
theorem dX5_at_6 : decode cX5_at 6 = .ok (.iload_n 2, 1) := by decide +kernel
theorem dX5_at_7 : decode cX5_at 7 = .ok (.invokevirtual 89, 3) := by decide +kernel
theorem dX5_at_10 : decode cX5_at 10 = .ok (.istore_n 3, 1) := by decide +kernel
theorem dX5_at_11 : decode cX5_at 11 = .ok (.iload_n 3, 1) := by decide +kernel
theorem dX5_at_12 : decode cX5_at 12 = .ok (.ifCond .eq 7, 3) := by decide +kernel
theorem dX5_at_15 : decode cX5_at 15 = .ok (.iload_n 3, 1) := by decide +kernel
theorem dX5_at_16 : decode cX5_at 16 = .ok (.goto 18, 3) := by decide +kernel
theorem dX5_at_19 : decode cX5_at 19 = .ok (.aload_n 0, 1) := by decide +kernel
theorem dX5_at_20 : decode cX5_at 20 = .ok (.aload_n 0, 1) := by decide +kernel
theorem dX5_at_21 : decode cX5_at 21 = .ok (.getfield 14, 3) := by decide +kernel
theorem dX5_at_24 : decode cX5_at 24 = .ok (.getfield 100, 3) := by decide +kernel
theorem dX5_at_27 : decode cX5_at 27 = .ok (.iload_n 1, 1) := by decide +kernel
theorem dX5_at_28 : decode cX5_at 28 = .ok (.aaload, 1) := by decide +kernel
theorem dX5_at_29 : decode cX5_at 29 = .ok (.iload_n 2, 1) := by decide +kernel
theorem dX5_at_30 : decode cX5_at 30 = .ok (.iaload, 1) := by decide +kernel
theorem dX5_at_31 : decode cX5_at 31 = .ok (.invokevirtual 97, 3) := by decide +kernel
theorem dX5_at_34 : decode cX5_at 34 = .ok (.ireturn, 1) := by decide +kernel
theorem dX5_tear_0 : decode cX5_tear 0 = .ok (.aload_n 0, 1) := by decide +kernel
theorem dX5_tear_1 : decode cX5_tear 1 = .ok (.aload_n 0, 1) := by decide +kernel
theorem dX5_tear_2 : decode cX5_tear 2 = .ok (.getfield 14, 3) := by decide +kernel
theorem dX5_tear_5 : decode cX5_tear 5 = .ok (.iload_n 1, 1) := by decide +kernel
theorem dX5_tear_6 : decode cX5_tear 6 = .ok (.invokevirtual 104, 3) := by decide +kernel
theorem dX5_tear_9 : decode cX5_tear 9 = .ok (.istore_n 2, 1) := by decide +kernel
theorem dX5_tear_10 : decode cX5_tear 10 = .ok (.iload_n 2, 1) := by decide +kernel
theorem dX5_tear_11 : decode cX5_tear 11 = .ok (.ifCond .eq 5, 3) := by decide +kernel
theorem dX5_tear_14 : decode cX5_tear 14 = .ok (.iload_n 2, 1) := by decide +kernel
theorem dX5_tear_15 : decode cX5_tear 15 = .ok (.ireturn, 1) := by decide +kernel
theorem dX5_tear_16 : decode cX5_tear 16 = .ok (.aload_n 0, 1) := by decide +kernel
theorem dX5_tear_17 : decode cX5_tear 17 = .ok (.getfield 14, 3) := by decide +kernel
theorem dX5_tear_20 : decode cX5_tear 20 = .ok (.getfield 108, 3) := by decide +kernel
theorem dX5_tear_23 : decode cX5_tear 23 = .ok (.iload_n 1, 1) := by decide +kernel
theorem dX5_tear_24 : decode cX5_tear 24 = .ok (.iconst (-1), 1) := by decide +kernel
theorem dX5_tear_25 : decode cX5_tear 25 = .ok (.iastore, 1) := by decide +kernel
theorem dX5_tear_26 : decode cX5_tear 26 = .ok (.iconst 1, 1) := by decide +kernel
theorem dX5_tear_27 : decode cX5_tear 27 = .ok (.ireturn, 1) := by decide +kernel
theorem dX5_copy_0 : decode cX5_copy 0 = .ok (.aload_n 0, 1) := by decide +kernel
theorem dX5_copy_1 : decode cX5_copy 1 = .ok (.getfield 14, 3) := by decide +kernel
theorem dX5_copy_4 : decode cX5_copy 4 = .ok (.iload_n 1, 1) := by decide +kernel
theorem dX5_copy_5 : decode cX5_copy 5 = .ok (.invokevirtual 77, 3) := by decide +kernel
theorem dX5_copy_8 : decode cX5_copy 8 = .ok (.ifCond .eq 14, 3) := by decide +kernel
theorem dX5_copy_11 : decode cX5_copy 11 = .ok (.aload_n 0, 1) := by decide +kernel
theorem dX5_copy_12 : decode cX5_copy 12 = .ok (.getfield 14, 3) := by decide +kernel
theorem dX5_copy_15 : decode cX5_copy 15 = .ok (.iload_n 3, 1) := by decide +kernel
theorem dX5_copy_16 : decode cX5_copy 16 = .ok (.invokevirtual 77, 3) := by decide +kernel
theorem dX5_copy_19 : decode cX5_copy 19 = .ok (.ifCond .ne 5, 3) := by decide +kernel
theorem dX5_copy_22 : decode cX5_copy 22 = .ok (.iconst (-1), 1) := by decide +kernel
theorem dX5_copy_23 : decode cX5_copy 23 = .ok (.ireturn, 1) := by decide +kernel
theorem dX5_copy_24 : decode cX5_copy 24 = .ok (.iload 5, 2) := by decide +kernel
theorem dX5_copy_26 : decode cX5_copy 26 = .ok (.ifCond .ge 9, 3) := by decide +kernel
theorem dX5_copy_29 : decode cX5_copy 29 = .ok (.aload_n 0, 1) := by decide +kernel
theorem dX5_copy_30 : decode cX5_copy 30 = .ok (.iconst 5, 1) := by decide +kernel
theorem dX5_copy_31 : decode cX5_copy 31 = .ok (.invokevirtual 81, 3) := by decide +kernel
theorem dX5_copy_34 : decode cX5_copy 34 = .ok (.ireturn, 1) := by decide +kernel
theorem dX5_copy_35 : decode cX5_copy 35 = .ok (.aload_n 0, 1) := by decide +kernel
theorem dX5_copy_36 : decode cX5_copy 36 = .ok (.getfield 14, 3) := by decide +kernel
theorem dX5_copy_39 : decode cX5_copy 39 = .ok (.iload_n 1, 1) := by decide +kernel
theorem dX5_copy_40 : decode cX5_copy 40 = .ok (.invokevirtual 111, 3) := by decide +kernel
theorem dX5_copy_43 : decode cX5_copy 43 = .ok (.ifCond .eq 14, 3) := by decide +kernel
theorem dX5_copy_46 : decode cX5_copy 46 = .ok (.aload_n 0, 1) := by decide +kernel
theorem dX5_copy_47 : decode cX5_copy 47 = .ok (.getfield 14, 3) := by decide +kernel
theorem dX5_copy_50 : decode cX5_copy 50 = .ok (.iload_n 3, 1) := by decide +kernel
theorem dX5_copy_51 : decode cX5_copy 51 = .ok (.invokevirtual 111, 3) := by decide +kernel
theorem dX5_copy_54 : decode cX5_copy 54 = .ok (.ifCond .ne 9, 3) := by decide +kernel
theorem dX5_copy_57 : decode cX5_copy 57 = .ok (.aload_n 0, 1) := by decide +kernel
theorem dX5_copy_58 : decode cX5_copy 58 = .ok (.iconst 1, 1) := by decide +kernel
theorem dX5_copy_59 : decode cX5_copy 59 = .ok (.invokevirtual 81, 3) := by decide +kernel
theorem dX5_copy_62 : decode cX5_copy 62 = .ok (.ireturn, 1) := by decide +kernel
theorem dX5_copy_63 : decode cX5_copy 63 = .ok (.aload_n 0, 1) := by decide +kernel
theorem dX5_copy_64 : decode cX5_copy 64 = .ok (.getfield 14, 3) := by decide +kernel
theorem dX5_copy_67 : decode cX5_copy 67 = .ok (.iload_n 1, 1) := by decide +kernel
theorem dX5_copy_68 : decode cX5_copy 68 = .ok (.iload_n 2, 1) := by decide +kernel
theorem dX5_copy_69 : decode cX5_copy 69 = .ok (.iload 5, 2) := by decide +kernel
theorem dX5_copy_71 : decode cX5_copy 71 = .ok (.invokevirtual 114, 3) := by decide +kernel
theorem dX5_copy_74 : decode cX5_copy 74 = .ok (.ifCond .eq 18, 3) := by decide +kernel
theorem dX5_copy_77 : decode cX5_copy 77 = .ok (.aload_n 0, 1) := by decide +kernel
theorem dX5_copy_78 : decode cX5_copy 78 = .ok (.getfield 14, 3) := by decide +kernel
theorem dX5_copy_81 : decode cX5_copy 81 = .ok (.iload_n 3, 1) := by decide +kernel
theorem dX5_copy_82 : decode cX5_copy 82 = .ok (.iload 4, 2) := by decide +kernel
theorem dX5_copy_84 : decode cX5_copy 84 = .ok (.iload 5, 2) := by decide +kernel
theorem dX5_copy_86 : decode cX5_copy 86 = .ok (.invokevirtual 114, 3) := by decide +kernel
theorem dX5_copy_89 : decode cX5_copy 89 = .ok (.ifCond .ne 9, 3) := by decide +kernel
theorem dX5_copy_92 : decode cX5_copy 92 = .ok (.aload_n 0, 1) := by decide +kernel
theorem dX5_copy_93 : decode cX5_copy 93 = .ok (.iconst 2, 1) := by decide +kernel
theorem dX5_copy_94 : decode cX5_copy 94 = .ok (.invokevirtual 81, 3) := by decide +kernel
theorem dX5_copy_97 : decode cX5_copy 97 = .ok (.ireturn, 1) := by decide +kernel
theorem dX5_copy_98 : decode cX5_copy 98 = .ok (.aload_n 0, 1) := by decide +kernel
theorem dX5_copy_99 : decode cX5_copy 99 = .ok (.getfield 14, 3) := by decide +kernel
theorem dX5_copy_102 : decode cX5_copy 102 = .ok (.getfield 100, 3) := by decide +kernel
theorem dX5_copy_105 : decode cX5_copy 105 = .ok (.iload_n 1, 1) := by decide +kernel
theorem dX5_copy_106 : decode cX5_copy 106 = .ok (.aaload, 1) := by decide +kernel
theorem dX5_copy_107 : decode cX5_copy 107 = .ok (.iload_n 2, 1) := by decide +kernel
theorem dX5_copy_108 : decode cX5_copy 108 = .ok (.aload_n 0, 1) := by decide +kernel
theorem dX5_copy_109 : decode cX5_copy 109 = .ok (.getfield 14, 3) := by decide +kernel
theorem dX5_copy_112 : decode cX5_copy 112 = .ok (.getfield 100, 3) := by decide +kernel
theorem dX5_copy_115 : decode cX5_copy 115 = .ok (.iload_n 3, 1) := by decide +kernel
theorem dX5_copy_116 : decode cX5_copy 116 = .ok (.aaload, 1) := by decide +kernel
theorem dX5_copy_117 : decode cX5_copy 117 = .ok (.iload 4, 2) := by decide +kernel
theorem dX5_copy_119 : decode cX5_copy 119 = .ok (.iload 5, 2) := by decide +kernel
theorem dX5_copy_121 : decode cX5_copy 121 = .ok (.invokestatic 118, 3) := by decide +kernel
theorem dX5_copy_124 : decode cX5_copy 124 = .ok (.iconst 1, 1) := by decide +kernel
theorem dX5_copy_125 : decode cX5_copy 125 = .ok (.ireturn, 1) := by decide +kernel
theorem dX5_mean_0 : decode cX5_mean 0 = .ok (.aload_n 0, 1) := by decide +kernel
theorem dX5_mean_1 : decode cX5_mean 1 = .ok (.aload_n 0, 1) := by decide +kernel
theorem dX5_mean_2 : decode cX5_mean 2 = .ok (.getfield 14, 3) := by decide +kernel
theorem dX5_mean_5 : decode cX5_mean 5 = .ok (.iload_n 1, 1) := by decide +kernel
theorem dX5_mean_6 : decode cX5_mean 6 = .ok (.invokevirtual 104, 3) := by decide +kernel
theorem dX5_mean_9 : decode cX5_mean 9 = .ok (.istore_n 2, 1) := by decide +kernel
theorem dX5_mean_10 : decode cX5_mean 10 = .ok (.iload_n 2, 1) := by decide +kernel
theorem dX5_mean_11 : decode cX5_mean 11 = .ok (.ifCond .eq 5, 3) := by decide +kernel
theorem dX5_mean_14 : decode cX5_mean 14 = .ok (.iload_n 2, 1) := by decide +kernel
theorem dX5_mean_15 : decode cX5_mean 15 = .ok (.ireturn, 1) := by decide +kernel
theorem dX5_mean_16 : decode cX5_mean 16 = .ok (.aload_n 0, 1) := by decide +kernel
theorem dX5_mean_17 : decode cX5_mean 17 = .ok (.getfield 14, 3) := by decide +kernel
theorem dX5_mean_20 : decode cX5_mean 20 = .ok (.getfield 108, 3) := by decide +kernel
theorem dX5_mean_23 : decode cX5_mean 23 = .ok (.iload_n 1, 1) := by decide +kernel
theorem dX5_mean_24 : decode cX5_mean 24 = .ok (.iaload, 1) := by decide +kernel
theorem dX5_mean_25 : decode cX5_mean 25 = .ok (.ifCond .ne 9, 3) := by decide +kernel
theorem dX5_mean_28 : decode cX5_mean 28 = .ok (.aload_n 0, 1) := by decide +kernel
theorem dX5_mean_29 : decode cX5_mean 29 = .ok (.iconst 4, 1) := by decide +kernel
theorem dX5_mean_30 : decode cX5_mean 30 = .ok (.invokevirtual 81, 3) := by decide +kernel
theorem dX5_mean_33 : decode cX5_mean 33 = .ok (.ireturn, 1) := by decide +kernel
theorem dX5_mean_34 : decode cX5_mean 34 = .ok (.aload_n 0, 1) := by decide +kernel
theorem dX5_mean_35 : decode cX5_mean 35 = .ok (.aload_n 0, 1) := by decide +kernel
theorem dX5_mean_36 : decode cX5_mean 36 = .ok (.getfield 14, 3) := by decide +kernel
theorem dX5_mean_39 : decode cX5_mean 39 = .ok (.iload_n 1, 1) := by decide +kernel
theorem dX5_mean_40 : decode cX5_mean 40 = .ok (.invokevirtual 124, 3) := by decide +kernel
theorem dX5_mean_43 : decode cX5_mean 43 = .ok (.aload_n 0, 1) := by decide +kernel
theorem dX5_mean_44 : decode cX5_mean 44 = .ok (.getfield 14, 3) := by decide +kernel
theorem dX5_mean_47 : decode cX5_mean 47 = .ok (.getfield 108, 3) := by decide +kernel
theorem dX5_mean_50 : decode cX5_mean 50 = .ok (.iload_n 1, 1) := by decide +kernel
theorem dX5_mean_51 : decode cX5_mean 51 = .ok (.iaload, 1) := by decide +kernel
theorem dX5_mean_52 : decode cX5_mean 52 = .ok (.i2l, 1) := by decide +kernel
theorem dX5_mean_53 : decode cX5_mean 53 = .ok (.ldiv, 1) := by decide +kernel
theorem dX5_mean_54 : decode cX5_mean 54 = .ok (.l2i, 1) := by decide +kernel
theorem dX5_mean_55 : decode cX5_mean 55 = .ok (.invokevirtual 97, 3) := by decide +kernel
theorem dX5_mean_58 : decode cX5_mean 58 = .ok (.ireturn, 1) := by decide +kernel
theorem dX5_text_0 : decode cX5_text 0 = .ok (.aload_n 0, 1) := by decide +kernel
theorem dX5_text_1 : decode cX5_text 1 = .ok (.getfield 18, 3) := by decide +kernel
theorem dX5_text_4 : decode cX5_text 4 = .ok (.iload_n 1, 1) := by decide +kernel
theorem dX5_text_5 : decode cX5_text 5 = .ok (.invokevirtual 77, 3) := by decide +kernel
theorem dX5_text_8 : decode cX5_text 8 = .ok (.ifCond .eq 9, 3) := by decide +kernel
theorem dX5_text_11 : decode cX5_text 11 = .ok (.iload_n 2, 1) := by decide +kernel
theorem dX5_text_12 : decode cX5_text 12 = .ok (.bipush 80, 2) := by decide +kernel
theorem dX5_text_14 : decode cX5_text 14 = .ok (.if_icmp .le 5, 3) := by decide +kernel
theorem dX5_text_17 : decode cX5_text 17 = .ok (.iconst (-1), 1) := by decide +kernel
theorem dX5_text_18 : decode cX5_text 18 = .ok (.ireturn, 1) := by decide +kernel
theorem dX5_text_19 : decode cX5_text 19 = .ok (.iload_n 2, 1) := by decide +kernel
theorem dX5_text_20 : decode cX5_text 20 = .ok (.ifCond .ge 9, 3) := by decide +kernel
theorem dX5_text_23 : decode cX5_text 23 = .ok (.aload_n 0, 1) := by decide +kernel
theorem dX5_text_24 : decode cX5_text 24 = .ok (.iconst 5, 1) := by decide +kernel
theorem dX5_text_25 : decode cX5_text 25 = .ok (.invokevirtual 81, 3) := by decide +kernel
theorem dX5_text_28 : decode cX5_text 28 = .ok (.ireturn, 1) := by decide +kernel
theorem dX5_text_29 : decode cX5_text 29 = .ok (.aload_n 0, 1) := by decide +kernel
theorem dX5_text_30 : decode cX5_text 30 = .ok (.getfield 18, 3) := by decide +kernel
theorem dX5_text_33 : decode cX5_text 33 = .ok (.iload_n 1, 1) := by decide +kernel
theorem dX5_text_34 : decode cX5_text 34 = .ok (.iload_n 2, 1) := by decide +kernel
theorem dX5_text_35 : decode cX5_text 35 = .ok (.bipush 32, 2) := by decide +kernel
theorem dX5_text_37 : decode cX5_text 37 = .ok (.invokevirtual 85, 3) := by decide +kernel
theorem dX5_text_40 : decode cX5_text 40 = .ok (.iload_n 2, 1) := by decide +kernel
theorem dX5_text_41 : decode cX5_text 41 = .ok (.ireturn, 1) := by decide +kernel
theorem dX5_put_0 : decode cX5_put 0 = .ok (.aload_n 0, 1) := by decide +kernel
theorem dX5_put_1 : decode cX5_put 1 = .ok (.aload_n 0, 1) := by decide +kernel
theorem dX5_put_2 : decode cX5_put 2 = .ok (.getfield 18, 3) := by decide +kernel
theorem dX5_put_5 : decode cX5_put 5 = .ok (.iload_n 1, 1) := by decide +kernel
theorem dX5_put_6 : decode cX5_put 6 = .ok (.iload_n 2, 1) := by decide +kernel
theorem dX5_put_7 : decode cX5_put 7 = .ok (.invokevirtual 89, 3) := by decide +kernel
theorem dX5_put_10 : decode cX5_put 10 = .ok (.istore 4, 2) := by decide +kernel
theorem dX5_put_12 : decode cX5_put 12 = .ok (.iload 4, 2) := by decide +kernel
theorem dX5_put_14 : decode cX5_put 14 = .ok (.ifCond .eq 8, 3) := by decide +kernel
theorem dX5_put_17 : decode cX5_put 17 = .ok (.iload 4, 2) := by decide +kernel
theorem dX5_put_19 : decode cX5_put 19 = .ok (.goto 18, 3) := by decide +kernel
theorem dX5_put_22 : decode cX5_put 22 = .ok (.aload_n 0, 1) := by decide +kernel
theorem dX5_put_23 : decode cX5_put 23 = .ok (.getfield 18, 3) := by decide +kernel
theorem dX5_put_26 : decode cX5_put 26 = .ok (.iload_n 1, 1) := by decide +kernel
theorem dX5_put_27 : decode cX5_put 27 = .ok (.iload_n 2, 1) := by decide +kernel
theorem dX5_put_28 : decode cX5_put 28 = .ok (.iload_n 3, 1) := by decide +kernel
theorem dX5_put_29 : decode cX5_put 29 = .ok (.i2b, 1) := by decide +kernel
theorem dX5_put_30 : decode cX5_put 30 = .ok (.invokevirtual 93, 3) := by decide +kernel
theorem dX5_put_33 : decode cX5_put 33 = .ok (.sipush 1000, 3) := by decide +kernel
theorem dX5_put_36 : decode cX5_put 36 = .ok (.iadd, 1) := by decide +kernel
theorem dX5_put_37 : decode cX5_put 37 = .ok (.ireturn, 1) := by decide +kernel
theorem dX5_fault_0 : decode cX5_fault 0 = .ok (.aload_n 0, 1) := by decide +kernel
theorem dX5_fault_1 : decode cX5_fault 1 = .ok (.aload_n 0, 1) := by decide +kernel
theorem dX5_fault_2 : decode cX5_fault 2 = .ok (.getfield 18, 3) := by decide +kernel
theorem dX5_fault_5 : decode cX5_fault 5 = .ok (.iload_n 1, 1) := by decide +kernel
theorem dX5_fault_6 : decode cX5_fault 6 = .ok (.invokevirtual 104, 3) := by decide +kernel
theorem dX5_fault_9 : decode cX5_fault 9 = .ok (.istore_n 2, 1) := by decide +kernel
theorem dX5_fault_10 : decode cX5_fault 10 = .ok (.iload_n 2, 1) := by decide +kernel
theorem dX5_fault_11 : decode cX5_fault 11 = .ok (.ifCond .eq 7, 3) := by decide +kernel
theorem dX5_fault_14 : decode cX5_fault 14 = .ok (.iload_n 2, 1) := by decide +kernel
theorem dX5_fault_15 : decode cX5_fault 15 = .ok (.goto 28, 3) := by decide +kernel
theorem dX5_fault_18 : decode cX5_fault 18 = .ok (.aload_n 0, 1) := by decide +kernel
theorem dX5_fault_19 : decode cX5_fault 19 = .ok (.getfield 24, 3) := by decide +kernel
theorem dX5_fault_22 : decode cX5_fault 22 = .ok (.aload_n 0, 1) := by decide +kernel
theorem dX5_fault_23 : decode cX5_fault 23 = .ok (.getfield 18, 3) := by decide +kernel
theorem dX5_fault_26 : decode cX5_fault 26 = .ok (.getfield 100, 3) := by decide +kernel
theorem dX5_fault_29 : decode cX5_fault 29 = .ok (.iload_n 1, 1) := by decide +kernel
theorem dX5_fault_30 : decode cX5_fault 30 = .ok (.aaload, 1) := by decide +kernel
theorem dX5_fault_31 : decode cX5_fault 31 = .ok (.aload_n 0, 1) := by decide +kernel
theorem dX5_fault_32 : decode cX5_fault 32 = .ok (.getfield 18, 3) := by decide +kernel
theorem dX5_fault_35 : decode cX5_fault 35 = .ok (.getfield 108, 3) := by decide +kernel
theorem dX5_fault_38 : decode cX5_fault 38 = .ok (.iload_n 1, 1) := by decide +kernel
theorem dX5_fault_39 : decode cX5_fault 39 = .ok (.iaload, 1) := by decide +kernel
theorem dX5_fault_40 : decode cX5_fault 40 = .ok (.invokevirtual 128, 3) := by decide +kernel
theorem dX5_fault_43 : decode cX5_fault 43 = .ok (.ireturn, 1) := by decide +kernel
theorem dX5_house_0 : decode cX5_house 0 = .ok (.aload_n 0, 1) := by decide +kernel
theorem dX5_house_1 : decode cX5_house 1 = .ok (.aload_n 0, 1) := by decide +kernel
theorem dX5_house_2 : decode cX5_house 2 = .ok (.getfield 18, 3) := by decide +kernel
theorem dX5_house_5 : decode cX5_house 5 = .ok (.iload_n 1, 1) := by decide +kernel
theorem dX5_house_6 : decode cX5_house 6 = .ok (.invokevirtual 104, 3) := by decide +kernel
theorem dX5_house_9 : decode cX5_house 9 = .ok (.istore_n 2, 1) := by decide +kernel
theorem dX5_house_10 : decode cX5_house 10 = .ok (.iload_n 2, 1) := by decide +kernel
theorem dX5_house_11 : decode cX5_house 11 = .ok (.ifCond .eq 5, 3) := by decide +kernel
theorem dX5_house_14 : decode cX5_house 14 = .ok (.iload_n 2, 1) := by decide +kernel
theorem dX5_house_15 : decode cX5_house 15 = .ok (.ireturn, 1) := by decide +kernel
theorem dX5_house_16 : decode cX5_house 16 = .ok (.aload_n 0, 1) := by decide +kernel
theorem dX5_house_17 : decode cX5_house 17 = .ok (.getfield 24, 3) := by decide +kernel
theorem dX5_house_20 : decode cX5_house 20 = .ok (.aload_n 0, 1) := by decide +kernel
theorem dX5_house_21 : decode cX5_house 21 = .ok (.getfield 18, 3) := by decide +kernel
theorem dX5_house_24 : decode cX5_house 24 = .ok (.getfield 100, 3) := by decide +kernel
theorem dX5_house_27 : decode cX5_house 27 = .ok (.iload_n 1, 1) := by decide +kernel
theorem dX5_house_28 : decode cX5_house 28 = .ok (.aaload, 1) := by decide +kernel
theorem dX5_house_29 : decode cX5_house 29 = .ok (.aload_n 0, 1) := by decide +kernel
theorem dX5_house_30 : decode cX5_house 30 = .ok (.getfield 18, 3) := by decide +kernel
theorem dX5_house_33 : decode cX5_house 33 = .ok (.getfield 108, 3) := by decide +kernel
theorem dX5_house_36 : decode cX5_house 36 = .ok (.iload_n 1, 1) := by decide +kernel
theorem dX5_house_37 : decode cX5_house 37 = .ok (.iaload, 1) := by decide +kernel
theorem dX5_house_38 : decode cX5_house 38 = .ok (.invokevirtual 128, 3) := by decide +kernel
theorem dX5_house_41 : decode cX5_house 41 = .ok (.bipush (-9), 2) := by decide +kernel
theorem dX5_house_43 : decode cX5_house 43 = .ok (.if_icmp .eq 6, 3) := by decide +kernel
theorem dX5_house_46 : decode cX5_house 46 = .ok (.bipush (-4), 2) := by decide +kernel
theorem dX5_house_48 : decode cX5_house 48 = .ok (.ireturn, 1) := by decide +kernel
theorem dX5_house_49 : decode cX5_house 49 = .ok (.aload_n 0, 1) := by decide +kernel
theorem dX5_house_50 : decode cX5_house 50 = .ok (.getfield 31, 3) := by decide +kernel
theorem dX5_house_53 : decode cX5_house 53 = .ok (.aload_n 0, 1) := by decide +kernel
theorem dX5_house_54 : decode cX5_house 54 = .ok (.getfield 24, 3) := by decide +kernel
theorem dX5_house_57 : decode cX5_house 57 = .ok (.getfield 132, 3) := by decide +kernel
theorem dX5_house_60 : decode cX5_house 60 = .ok (.invokevirtual 135, 3) := by decide +kernel
theorem dX5_house_63 : decode cX5_house 63 = .ok (.aload_n 0, 1) := by decide +kernel
theorem dX5_house_64 : decode cX5_house 64 = .ok (.getfield 40, 3) := by decide +kernel
theorem dX5_house_67 : decode cX5_house 67 = .ok (.invokevirtual 138, 3) := by decide +kernel
theorem dX5_house_70 : decode cX5_house 70 = .ok (.iconst 0, 1) := by decide +kernel
theorem dX5_house_71 : decode cX5_house 71 = .ok (.istore_n 3, 1) := by decide +kernel
theorem dX5_house_72 : decode cX5_house 72 = .ok (.iload_n 3, 1) := by decide +kernel
theorem dX5_house_73 : decode cX5_house 73 = .ok (.iconst 3, 1) := by decide +kernel
theorem dX5_house_74 : decode cX5_house 74 = .ok (.if_icmp .ge 16, 3) := by decide +kernel
theorem dX5_house_77 : decode cX5_house 77 = .ok (.aload_n 0, 1) := by decide +kernel
theorem dX5_house_78 : decode cX5_house 78 = .ok (.getfield 48, 3) := by decide +kernel
theorem dX5_house_81 : decode cX5_house 81 = .ok (.iload_n 3, 1) := by decide +kernel
theorem dX5_house_82 : decode cX5_house 82 = .ok (.iconst 0, 1) := by decide +kernel
theorem dX5_house_83 : decode cX5_house 83 = .ok (.bastore, 1) := by decide +kernel
theorem dX5_house_84 : decode cX5_house 84 = .ok (.iinc 3 1, 3) := by decide +kernel
theorem dX5_house_87 : decode cX5_house 87 = .ok (.goto (-15), 3) := by decide +kernel
theorem dX5_house_90 : decode cX5_house 90 = .ok (.aload_n 0, 1) := by decide +kernel
theorem dX5_house_91 : decode cX5_house 91 = .ok (.getfield 31, 3) := by decide +kernel
theorem dX5_house_94 : decode cX5_house 94 = .ok (.getfield 140, 3) := by decide +kernel
theorem dX5_house_97 : decode cX5_house 97 = .ok (.ireturn, 1) := by decide +kernel
theorem dX5_deed_0 : decode cX5_deed 0 = .ok (.aload_n 0, 1) := by decide +kernel
theorem dX5_deed_1 : decode cX5_deed 1 = .ok (.getfield 31, 3) := by decide +kernel
theorem dX5_deed_4 : decode cX5_deed 4 = .ok (.iload_n 1, 1) := by decide +kernel
theorem dX5_deed_5 : decode cX5_deed 5 = .ok (.invokevirtual 143, 3) := by decide +kernel
theorem dX5_deed_8 : decode cX5_deed 8 = .ok (.ifCond .eq 12, 3) := by decide +kernel
theorem dX5_deed_11 : decode cX5_deed 11 = .ok (.iload_n 2, 1) := by decide +kernel
theorem dX5_deed_12 : decode cX5_deed 12 = .ok (.ifCond .lt 8, 3) := by decide +kernel
theorem dX5_deed_15 : decode cX5_deed 15 = .ok (.iload_n 2, 1) := by decide +kernel
theorem dX5_deed_16 : decode cX5_deed 16 = .ok (.iconst 5, 1) := by decide +kernel
theorem dX5_deed_17 : decode cX5_deed 17 = .ok (.if_icmp .lt 5, 3) := by decide +kernel
theorem dX5_deed_20 : decode cX5_deed 20 = .ok (.iconst (-1), 1) := by decide +kernel
theorem dX5_deed_21 : decode cX5_deed 21 = .ok (.ireturn, 1) := by decide +kernel
theorem dX5_deed_22 : decode cX5_deed 22 = .ok (.aload_n 0, 1) := by decide +kernel
theorem dX5_deed_23 : decode cX5_deed 23 = .ok (.aload_n 0, 1) := by decide +kernel
theorem dX5_deed_24 : decode cX5_deed 24 = .ok (.iload_n 1, 1) := by decide +kernel
theorem dX5_deed_25 : decode cX5_deed 25 = .ok (.iload_n 2, 1) := by decide +kernel
theorem dX5_deed_26 : decode cX5_deed 26 = .ok (.invokevirtual 146, 3) := by decide +kernel
theorem dX5_deed_29 : decode cX5_deed 29 = .ok (.invokevirtual 97, 3) := by decide +kernel
theorem dX5_deed_32 : decode cX5_deed 32 = .ok (.ireturn, 1) := by decide +kernel
theorem dX5_hour_0 : decode cX5_hour 0 = .ok (.aload_n 0, 1) := by decide +kernel
theorem dX5_hour_1 : decode cX5_hour 1 = .ok (.getfield 31, 3) := by decide +kernel
theorem dX5_hour_4 : decode cX5_hour 4 = .ok (.iload_n 1, 1) := by decide +kernel
theorem dX5_hour_5 : decode cX5_hour 5 = .ok (.invokevirtual 150, 3) := by decide +kernel
theorem dX5_hour_8 : decode cX5_hour 8 = .ok (.ifCond .eq 12, 3) := by decide +kernel
theorem dX5_hour_11 : decode cX5_hour 11 = .ok (.iload_n 2, 1) := by decide +kernel
theorem dX5_hour_12 : decode cX5_hour 12 = .ok (.ifCond .lt 8, 3) := by decide +kernel
theorem dX5_hour_15 : decode cX5_hour 15 = .ok (.iload_n 2, 1) := by decide +kernel
theorem dX5_hour_16 : decode cX5_hour 16 = .ok (.iconst 5, 1) := by decide +kernel
theorem dX5_hour_17 : decode cX5_hour 17 = .ok (.if_icmp .lt 5, 3) := by decide +kernel
theorem dX5_hour_20 : decode cX5_hour 20 = .ok (.iconst (-1), 1) := by decide +kernel
theorem dX5_hour_21 : decode cX5_hour 21 = .ok (.ireturn, 1) := by decide +kernel
theorem dX5_hour_22 : decode cX5_hour 22 = .ok (.aload_n 0, 1) := by decide +kernel
theorem dX5_hour_23 : decode cX5_hour 23 = .ok (.aload_n 0, 1) := by decide +kernel
theorem dX5_hour_24 : decode cX5_hour 24 = .ok (.iload_n 1, 1) := by decide +kernel
theorem dX5_hour_25 : decode cX5_hour 25 = .ok (.iload_n 2, 1) := by decide +kernel
theorem dX5_hour_26 : decode cX5_hour 26 = .ok (.invokevirtual 153, 3) := by decide +kernel
theorem dX5_hour_29 : decode cX5_hour 29 = .ok (.invokevirtual 97, 3) := by decide +kernel
theorem dX5_hour_32 : decode cX5_hour 32 = .ok (.ireturn, 1) := by decide +kernel
theorem dX5_mark_0 : decode cX5_mark 0 = .ok (.aload_n 0, 1) := by decide +kernel
theorem dX5_mark_1 : decode cX5_mark 1 = .ok (.getfield 31, 3) := by decide +kernel
theorem dX5_mark_4 : decode cX5_mark 4 = .ok (.iload_n 1, 1) := by decide +kernel
theorem dX5_mark_5 : decode cX5_mark 5 = .ok (.invokevirtual 143, 3) := by decide +kernel
theorem dX5_mark_8 : decode cX5_mark 8 = .ok (.ifCond .eq 13, 3) := by decide +kernel
theorem dX5_mark_11 : decode cX5_mark 11 = .ok (.iload_n 2, 1) := by decide +kernel
theorem dX5_mark_12 : decode cX5_mark 12 = .ok (.iconst 1, 1) := by decide +kernel
theorem dX5_mark_13 : decode cX5_mark 13 = .ok (.if_icmp .lt 8, 3) := by decide +kernel
theorem dX5_mark_16 : decode cX5_mark 16 = .ok (.iload_n 2, 1) := by decide +kernel
theorem dX5_mark_17 : decode cX5_mark 17 = .ok (.iconst 5, 1) := by decide +kernel
theorem dX5_mark_18 : decode cX5_mark 18 = .ok (.if_icmp .le 5, 3) := by decide +kernel
theorem dX5_mark_21 : decode cX5_mark 21 = .ok (.iconst (-1), 1) := by decide +kernel
theorem dX5_mark_22 : decode cX5_mark 22 = .ok (.ireturn, 1) := by decide +kernel
theorem dX5_mark_23 : decode cX5_mark 23 = .ok (.aload_n 0, 1) := by decide +kernel
theorem dX5_mark_24 : decode cX5_mark 24 = .ok (.getfield 31, 3) := by decide +kernel
theorem dX5_mark_27 : decode cX5_mark 27 = .ok (.iload_n 1, 1) := by decide +kernel
theorem dX5_mark_28 : decode cX5_mark 28 = .ok (.iload_n 2, 1) := by decide +kernel
theorem dX5_mark_29 : decode cX5_mark 29 = .ok (.invokevirtual 156, 3) := by decide +kernel
theorem dX5_mark_32 : decode cX5_mark 32 = .ok (.ifCond .ne 9, 3) := by decide +kernel
theorem dX5_mark_35 : decode cX5_mark 35 = .ok (.aload_n 0, 1) := by decide +kernel
theorem dX5_mark_36 : decode cX5_mark 36 = .ok (.iconst 3, 1) := by decide +kernel
theorem dX5_mark_37 : decode cX5_mark 37 = .ok (.invokevirtual 81, 3) := by decide +kernel
theorem dX5_mark_40 : decode cX5_mark 40 = .ok (.ireturn, 1) := by decide +kernel
theorem dX5_mark_41 : decode cX5_mark 41 = .ok (.iload_n 2, 1) := by decide +kernel
theorem dX5_mark_42 : decode cX5_mark 42 = .ok (.tableswitch 79 1 4 #[30, 38, 44, 63], 30) := by decide +kernel
theorem dX5_mark_72 : decode cX5_mark 72 = .ok (.aload_n 0, 1) := by decide +kernel
theorem dX5_mark_73 : decode cX5_mark 73 = .ok (.getfield 40, 3) := by decide +kernel
theorem dX5_mark_76 : decode cX5_mark 76 = .ok (.getfield 160, 3) := by decide +kernel
theorem dX5_mark_79 : decode cX5_mark 79 = .ok (.ireturn, 1) := by decide +kernel
theorem dX5_mark_80 : decode cX5_mark 80 = .ok (.aload_n 0, 1) := by decide +kernel
theorem dX5_mark_81 : decode cX5_mark 81 = .ok (.iload_n 1, 1) := by decide +kernel
theorem dX5_mark_82 : decode cX5_mark 82 = .ok (.invokevirtual 163, 3) := by decide +kernel
theorem dX5_mark_85 : decode cX5_mark 85 = .ok (.ireturn, 1) := by decide +kernel
theorem dX5_mark_86 : decode cX5_mark 86 = .ok (.aload_n 0, 1) := by decide +kernel
theorem dX5_mark_87 : decode cX5_mark 87 = .ok (.getfield 31, 3) := by decide +kernel
theorem dX5_mark_90 : decode cX5_mark 90 = .ok (.iload_n 1, 1) := by decide +kernel
theorem dX5_mark_91 : decode cX5_mark 91 = .ok (.aload_n 0, 1) := by decide +kernel
theorem dX5_mark_92 : decode cX5_mark 92 = .ok (.getfield 31, 3) := by decide +kernel
theorem dX5_mark_95 : decode cX5_mark 95 = .ok (.getfield 166, 3) := by decide +kernel
theorem dX5_mark_98 : decode cX5_mark 98 = .ok (.invokevirtual 169, 3) := by decide +kernel
theorem dX5_mark_101 : decode cX5_mark 101 = .ok (.invokestatic 173, 3) := by decide +kernel
theorem dX5_mark_104 : decode cX5_mark 104 = .ok (.ireturn, 1) := by decide +kernel
theorem dX5_mark_105 : decode cX5_mark 105 = .ok (.aload_n 0, 1) := by decide +kernel
theorem dX5_mark_106 : decode cX5_mark 106 = .ok (.getfield 31, 3) := by decide +kernel
theorem dX5_mark_109 : decode cX5_mark 109 = .ok (.iload_n 1, 1) := by decide +kernel
theorem dX5_mark_110 : decode cX5_mark 110 = .ok (.aload_n 0, 1) := by decide +kernel
theorem dX5_mark_111 : decode cX5_mark 111 = .ok (.getfield 40, 3) := by decide +kernel
theorem dX5_mark_114 : decode cX5_mark 114 = .ok (.getfield 178, 3) := by decide +kernel
theorem dX5_mark_117 : decode cX5_mark 117 = .ok (.invokevirtual 181, 3) := by decide +kernel
theorem dX5_mark_120 : decode cX5_mark 120 = .ok (.ireturn, 1) := by decide +kernel
theorem dX5_mark_121 : decode cX5_mark 121 = .ok (.aload_n 0, 1) := by decide +kernel
theorem dX5_mark_122 : decode cX5_mark 122 = .ok (.getfield 31, 3) := by decide +kernel
theorem dX5_mark_125 : decode cX5_mark 125 = .ok (.iload_n 1, 1) := by decide +kernel
theorem dX5_mark_126 : decode cX5_mark 126 = .ok (.invokevirtual 184, 3) := by decide +kernel
theorem dX5_mark_129 : decode cX5_mark 129 = .ok (.ireturn, 1) := by decide +kernel
theorem dX5_route_0 : decode cX5_route 0 = .ok (.iload_n 1, 1) := by decide +kernel
theorem dX5_route_1 : decode cX5_route 1 = .ok (.ifCond .lt 18, 3) := by decide +kernel
theorem dX5_route_4 : decode cX5_route 4 = .ok (.iload_n 1, 1) := by decide +kernel
theorem dX5_route_5 : decode cX5_route 5 = .ok (.iconst 3, 1) := by decide +kernel
theorem dX5_route_6 : decode cX5_route 6 = .ok (.if_icmp .ge 13, 3) := by decide +kernel
theorem dX5_route_9 : decode cX5_route 9 = .ok (.iload_n 2, 1) := by decide +kernel
theorem dX5_route_10 : decode cX5_route 10 = .ok (.ifCond .lt 9, 3) := by decide +kernel
theorem dX5_route_13 : decode cX5_route 13 = .ok (.iload_n 2, 1) := by decide +kernel
theorem dX5_route_14 : decode cX5_route 14 = .ok (.bipush 9, 2) := by decide +kernel
theorem dX5_route_16 : decode cX5_route 16 = .ok (.if_icmp .le 5, 3) := by decide +kernel
theorem dX5_route_19 : decode cX5_route 19 = .ok (.iconst (-1), 1) := by decide +kernel
theorem dX5_route_20 : decode cX5_route 20 = .ok (.ireturn, 1) := by decide +kernel
theorem dX5_route_21 : decode cX5_route 21 = .ok (.aload_n 0, 1) := by decide +kernel
theorem dX5_route_22 : decode cX5_route 22 = .ok (.getfield 40, 3) := by decide +kernel
theorem dX5_route_25 : decode cX5_route 25 = .ok (.getfield 187, 3) := by decide +kernel
theorem dX5_route_28 : decode cX5_route 28 = .ok (.ifCond .le 6, 3) := by decide +kernel
theorem dX5_route_31 : decode cX5_route 31 = .ok (.bipush (-4), 2) := by decide +kernel
theorem dX5_route_33 : decode cX5_route 33 = .ok (.ireturn, 1) := by decide +kernel
theorem dX5_route_34 : decode cX5_route 34 = .ok (.aload_n 0, 1) := by decide +kernel
theorem dX5_route_35 : decode cX5_route 35 = .ok (.getfield 40, 3) := by decide +kernel
theorem dX5_route_38 : decode cX5_route 38 = .ok (.getfield 190, 3) := by decide +kernel
theorem dX5_route_41 : decode cX5_route 41 = .ok (.iload_n 1, 1) := by decide +kernel
theorem dX5_route_42 : decode cX5_route 42 = .ok (.iaload, 1) := by decide +kernel
theorem dX5_route_43 : decode cX5_route 43 = .ok (.istore_n 3, 1) := by decide +kernel
theorem dX5_route_44 : decode cX5_route 44 = .ok (.aload_n 0, 1) := by decide +kernel
theorem dX5_route_45 : decode cX5_route 45 = .ok (.getfield 40, 3) := by decide +kernel
theorem dX5_route_48 : decode cX5_route 48 = .ok (.getfield 190, 3) := by decide +kernel
theorem dX5_route_51 : decode cX5_route 51 = .ok (.iload_n 1, 1) := by decide +kernel
theorem dX5_route_52 : decode cX5_route 52 = .ok (.iload_n 2, 1) := by decide +kernel
theorem dX5_route_53 : decode cX5_route 53 = .ok (.iastore, 1) := by decide +kernel
theorem dX5_route_54 : decode cX5_route 54 = .ok (.iload_n 3, 1) := by decide +kernel
theorem dX5_route_55 : decode cX5_route 55 = .ok (.ireturn, 1) := by decide +kernel
theorem dX5_day_0 : decode cX5_day 0 = .ok (.aload_n 0, 1) := by decide +kernel
theorem dX5_day_1 : decode cX5_day 1 = .ok (.getfield 31, 3) := by decide +kernel
theorem dX5_day_4 : decode cX5_day 4 = .ok (.getfield 140, 3) := by decide +kernel
theorem dX5_day_7 : decode cX5_day 7 = .ok (.ifCond .ne 6, 3) := by decide +kernel
theorem dX5_day_10 : decode cX5_day 10 = .ok (.bipush (-4), 2) := by decide +kernel
theorem dX5_day_12 : decode cX5_day 12 = .ok (.ireturn, 1) := by decide +kernel
theorem dX5_day_13 : decode cX5_day 13 = .ok (.aload_n 0, 1) := by decide +kernel
theorem dX5_day_14 : decode cX5_day 14 = .ok (.getfield 40, 3) := by decide +kernel
theorem dX5_day_17 : decode cX5_day 17 = .ok (.invokevirtual 193, 3) := by decide +kernel
theorem dX5_day_20 : decode cX5_day 20 = .ok (.ifCond .eq 6, 3) := by decide +kernel
theorem dX5_day_23 : decode cX5_day 23 = .ok (.bipush (-2), 2) := by decide +kernel
theorem dX5_day_25 : decode cX5_day 25 = .ok (.ireturn, 1) := by decide +kernel
theorem dX5_day_26 : decode cX5_day 26 = .ok (.aload_n 0, 1) := by decide +kernel
theorem dX5_day_27 : decode cX5_day 27 = .ok (.getfield 40, 3) := by decide +kernel
theorem dX5_day_30 : decode cX5_day 30 = .ok (.iconst 0, 1) := by decide +kernel
theorem dX5_day_31 : decode cX5_day 31 = .ok (.bipush (-9), 2) := by decide +kernel
theorem dX5_day_33 : decode cX5_day 33 = .ok (.bipush (-9), 2) := by decide +kernel
theorem dX5_day_35 : decode cX5_day 35 = .ok (.invokevirtual 197, 3) := by decide +kernel
theorem dX5_day_38 : decode cX5_day 38 = .ok (.aload_n 0, 1) := by decide +kernel
theorem dX5_day_39 : decode cX5_day 39 = .ok (.getfield 40, 3) := by decide +kernel
theorem dX5_day_42 : decode cX5_day 42 = .ok (.getfield 200, 3) := by decide +kernel
theorem dX5_day_45 : decode cX5_day 45 = .ok (.ireturn, 1) := by decide +kernel
theorem dX5_open_0 : decode cX5_open 0 = .ok (.aload_n 0, 1) := by decide +kernel
theorem dX5_open_1 : decode cX5_open 1 = .ok (.getfield 31, 3) := by decide +kernel
theorem dX5_open_4 : decode cX5_open 4 = .ok (.iload_n 1, 1) := by decide +kernel
theorem dX5_open_5 : decode cX5_open 5 = .ok (.invokevirtual 150, 3) := by decide +kernel
theorem dX5_open_8 : decode cX5_open 8 = .ok (.ifCond .eq 20, 3) := by decide +kernel
theorem dX5_open_11 : decode cX5_open 11 = .ok (.iload_n 2, 1) := by decide +kernel
theorem dX5_open_12 : decode cX5_open 12 = .ok (.bipush (-9), 2) := by decide +kernel
theorem dX5_open_14 : decode cX5_open 14 = .ok (.if_icmp .eq 16, 3) := by decide +kernel
theorem dX5_open_17 : decode cX5_open 17 = .ok (.aload_n 0, 1) := by decide +kernel
theorem dX5_open_18 : decode cX5_open 18 = .ok (.getfield 31, 3) := by decide +kernel
theorem dX5_open_21 : decode cX5_open 21 = .ok (.iload_n 2, 1) := by decide +kernel
theorem dX5_open_22 : decode cX5_open 22 = .ok (.invokevirtual 143, 3) := by decide +kernel
theorem dX5_open_25 : decode cX5_open 25 = .ok (.ifCond .ne 5, 3) := by decide +kernel
theorem dX5_open_28 : decode cX5_open 28 = .ok (.iconst (-1), 1) := by decide +kernel
theorem dX5_open_29 : decode cX5_open 29 = .ok (.ireturn, 1) := by decide +kernel
theorem dX5_open_30 : decode cX5_open 30 = .ok (.aload_n 0, 1) := by decide +kernel
theorem dX5_open_31 : decode cX5_open 31 = .ok (.getfield 40, 3) := by decide +kernel
theorem dX5_open_34 : decode cX5_open 34 = .ok (.iload_n 1, 1) := by decide +kernel
theorem dX5_open_35 : decode cX5_open 35 = .ok (.invokevirtual 203, 3) := by decide +kernel
theorem dX5_open_38 : decode cX5_open 38 = .ok (.iconst 1, 1) := by decide +kernel
theorem dX5_open_39 : decode cX5_open 39 = .ok (.if_icmp .ne 21, 3) := by decide +kernel
theorem dX5_open_42 : decode cX5_open 42 = .ok (.iload_n 2, 1) := by decide +kernel
theorem dX5_open_43 : decode cX5_open 43 = .ok (.bipush (-9), 2) := by decide +kernel
theorem dX5_open_45 : decode cX5_open 45 = .ok (.if_icmp .eq 18, 3) := by decide +kernel
theorem dX5_open_48 : decode cX5_open 48 = .ok (.aload_n 0, 1) := by decide +kernel
theorem dX5_open_49 : decode cX5_open 49 = .ok (.getfield 40, 3) := by decide +kernel
theorem dX5_open_52 : decode cX5_open 52 = .ok (.iload_n 2, 1) := by decide +kernel
theorem dX5_open_53 : decode cX5_open 53 = .ok (.iload_n 1, 1) := by decide +kernel
theorem dX5_open_54 : decode cX5_open 54 = .ok (.invokevirtual 206, 3) := by decide +kernel
theorem dX5_open_57 : decode cX5_open 57 = .ok (.ifCond .eq 6, 3) := by decide +kernel
theorem dX5_open_60 : decode cX5_open 60 = .ok (.bipush (-4), 2) := by decide +kernel
theorem dX5_open_62 : decode cX5_open 62 = .ok (.ireturn, 1) := by decide +kernel
theorem dX5_open_63 : decode cX5_open 63 = .ok (.aload_n 0, 1) := by decide +kernel
theorem dX5_open_64 : decode cX5_open 64 = .ok (.getfield 40, 3) := by decide +kernel
theorem dX5_open_67 : decode cX5_open 67 = .ok (.invokevirtual 193, 3) := by decide +kernel
theorem dX5_open_70 : decode cX5_open 70 = .ok (.ifCond .eq 6, 3) := by decide +kernel
theorem dX5_open_73 : decode cX5_open 73 = .ok (.bipush (-2), 2) := by decide +kernel
theorem dX5_open_75 : decode cX5_open 75 = .ok (.ireturn, 1) := by decide +kernel
theorem dX5_open_76 : decode cX5_open 76 = .ok (.aload_n 0, 1) := by decide +kernel
theorem dX5_open_77 : decode cX5_open 77 = .ok (.getfield 40, 3) := by decide +kernel
theorem dX5_open_80 : decode cX5_open 80 = .ok (.iconst 1, 1) := by decide +kernel
theorem dX5_open_81 : decode cX5_open 81 = .ok (.iload_n 1, 1) := by decide +kernel
theorem dX5_open_82 : decode cX5_open 82 = .ok (.iload_n 2, 1) := by decide +kernel
theorem dX5_open_83 : decode cX5_open 83 = .ok (.invokevirtual 197, 3) := by decide +kernel
theorem dX5_open_86 : decode cX5_open 86 = .ok (.aload_n 0, 1) := by decide +kernel
theorem dX5_open_87 : decode cX5_open 87 = .ok (.getfield 40, 3) := by decide +kernel
theorem dX5_open_90 : decode cX5_open 90 = .ok (.getfield 178, 3) := by decide +kernel
theorem dX5_open_93 : decode cX5_open 93 = .ok (.ireturn, 1) := by decide +kernel
theorem dX5_send_0 : decode cX5_send 0 = .ok (.aload_n 0, 1) := by decide +kernel
theorem dX5_send_1 : decode cX5_send 1 = .ok (.getfield 31, 3) := by decide +kernel
theorem dX5_send_4 : decode cX5_send 4 = .ok (.iload_n 1, 1) := by decide +kernel
theorem dX5_send_5 : decode cX5_send 5 = .ok (.invokevirtual 150, 3) := by decide +kernel
theorem dX5_send_8 : decode cX5_send 8 = .ok (.ifCond .ne 5, 3) := by decide +kernel
theorem dX5_send_11 : decode cX5_send 11 = .ok (.iconst (-1), 1) := by decide +kernel
theorem dX5_send_12 : decode cX5_send 12 = .ok (.ireturn, 1) := by decide +kernel
theorem dX5_send_13 : decode cX5_send 13 = .ok (.aload_n 0, 1) := by decide +kernel
theorem dX5_send_14 : decode cX5_send 14 = .ok (.getfield 40, 3) := by decide +kernel
theorem dX5_send_17 : decode cX5_send 17 = .ok (.iload_n 1, 1) := by decide +kernel
theorem dX5_send_18 : decode cX5_send 18 = .ok (.invokevirtual 203, 3) := by decide +kernel
theorem dX5_send_21 : decode cX5_send 21 = .ok (.iconst 1, 1) := by decide +kernel
theorem dX5_send_22 : decode cX5_send 22 = .ok (.if_icmp .eq 6, 3) := by decide +kernel
theorem dX5_send_25 : decode cX5_send 25 = .ok (.bipush (-4), 2) := by decide +kernel
theorem dX5_send_27 : decode cX5_send 27 = .ok (.ireturn, 1) := by decide +kernel
theorem dX5_send_28 : decode cX5_send 28 = .ok (.aload_n 0, 1) := by decide +kernel
theorem dX5_send_29 : decode cX5_send 29 = .ok (.getfield 40, 3) := by decide +kernel
theorem dX5_send_32 : decode cX5_send 32 = .ok (.invokevirtual 193, 3) := by decide +kernel
theorem dX5_send_35 : decode cX5_send 35 = .ok (.ifCond .eq 6, 3) := by decide +kernel
theorem dX5_send_38 : decode cX5_send 38 = .ok (.bipush (-2), 2) := by decide +kernel
theorem dX5_send_40 : decode cX5_send 40 = .ok (.ireturn, 1) := by decide +kernel
theorem dX5_send_41 : decode cX5_send 41 = .ok (.aload_n 0, 1) := by decide +kernel
theorem dX5_send_42 : decode cX5_send 42 = .ok (.getfield 40, 3) := by decide +kernel
theorem dX5_send_45 : decode cX5_send 45 = .ok (.iconst 2, 1) := by decide +kernel
theorem dX5_send_46 : decode cX5_send 46 = .ok (.iload_n 1, 1) := by decide +kernel
theorem dX5_send_47 : decode cX5_send 47 = .ok (.bipush (-9), 2) := by decide +kernel
theorem dX5_send_49 : decode cX5_send 49 = .ok (.invokevirtual 197, 3) := by decide +kernel
theorem dX5_send_52 : decode cX5_send 52 = .ok (.aload_n 0, 1) := by decide +kernel
theorem dX5_send_53 : decode cX5_send 53 = .ok (.getfield 40, 3) := by decide +kernel
theorem dX5_send_56 : decode cX5_send 56 = .ok (.invokevirtual 209, 3) := by decide +kernel
theorem dX5_send_59 : decode cX5_send 59 = .ok (.invokestatic 173, 3) := by decide +kernel
theorem dX5_send_62 : decode cX5_send 62 = .ok (.ireturn, 1) := by decide +kernel
theorem dX5_undo_0 : decode cX5_undo 0 = .ok (.iload_n 1, 1) := by decide +kernel
theorem dX5_undo_1 : decode cX5_undo 1 = .ok (.ifCond .lt 14, 3) := by decide +kernel
theorem dX5_undo_4 : decode cX5_undo 4 = .ok (.iload_n 1, 1) := by decide +kernel
theorem dX5_undo_5 : decode cX5_undo 5 = .ok (.aload_n 0, 1) := by decide +kernel
theorem dX5_undo_6 : decode cX5_undo 6 = .ok (.getfield 40, 3) := by decide +kernel
theorem dX5_undo_9 : decode cX5_undo 9 = .ok (.getfield 187, 3) := by decide +kernel
theorem dX5_undo_12 : decode cX5_undo 12 = .ok (.if_icmp .le 5, 3) := by decide +kernel
theorem dX5_undo_15 : decode cX5_undo 15 = .ok (.iconst (-1), 1) := by decide +kernel
theorem dX5_undo_16 : decode cX5_undo 16 = .ok (.ireturn, 1) := by decide +kernel
theorem dX5_undo_17 : decode cX5_undo 17 = .ok (.aload_n 0, 1) := by decide +kernel
theorem dX5_undo_18 : decode cX5_undo 18 = .ok (.getfield 40, 3) := by decide +kernel
theorem dX5_undo_21 : decode cX5_undo 21 = .ok (.iload_n 1, 1) := by decide +kernel
theorem dX5_undo_22 : decode cX5_undo 22 = .ok (.invokevirtual 213, 3) := by decide +kernel
theorem dX5_undo_25 : decode cX5_undo 25 = .ok (.ireturn, 1) := by decide +kernel
theorem dX5_shelf_0 : decode cX5_shelf 0 = .ok (.aload_n 0, 1) := by decide +kernel
theorem dX5_shelf_1 : decode cX5_shelf 1 = .ok (.getfield 31, 3) := by decide +kernel
theorem dX5_shelf_4 : decode cX5_shelf 4 = .ok (.getfield 140, 3) := by decide +kernel
theorem dX5_shelf_7 : decode cX5_shelf 7 = .ok (.ifCond .ne 6, 3) := by decide +kernel
theorem dX5_shelf_10 : decode cX5_shelf 10 = .ok (.bipush (-4), 2) := by decide +kernel
theorem dX5_shelf_12 : decode cX5_shelf 12 = .ok (.ireturn, 1) := by decide +kernel
theorem dX5_shelf_13 : decode cX5_shelf 13 = .ok (.aload_n 0, 1) := by decide +kernel
theorem dX5_shelf_14 : decode cX5_shelf 14 = .ok (.aload_n 0, 1) := by decide +kernel
theorem dX5_shelf_15 : decode cX5_shelf 15 = .ok (.getfield 40, 3) := by decide +kernel
theorem dX5_shelf_18 : decode cX5_shelf 18 = .ok (.getfield 200, 3) := by decide +kernel
theorem dX5_shelf_21 : decode cX5_shelf 21 = .ok (.putfield 67, 3) := by decide +kernel
theorem dX5_shelf_24 : decode cX5_shelf 24 = .ok (.aload_n 0, 1) := by decide +kernel
theorem dX5_shelf_25 : decode cX5_shelf 25 = .ok (.getfield 40, 3) := by decide +kernel
theorem dX5_shelf_28 : decode cX5_shelf 28 = .ok (.invokevirtual 209, 3) := by decide +kernel
theorem dX5_shelf_31 : decode cX5_shelf 31 = .ok (.ireturn, 1) := by decide +kernel
theorem dX5_keep_0 : decode cX5_keep 0 = .ok (.iload_n 1, 1) := by decide +kernel
theorem dX5_keep_1 : decode cX5_keep 1 = .ok (.ifCond .lt 8, 3) := by decide +kernel
theorem dX5_keep_4 : decode cX5_keep 4 = .ok (.iload_n 1, 1) := by decide +kernel
theorem dX5_keep_5 : decode cX5_keep 5 = .ok (.iconst 3, 1) := by decide +kernel
theorem dX5_keep_6 : decode cX5_keep 6 = .ok (.if_icmp .lt 5, 3) := by decide +kernel
theorem dX5_keep_9 : decode cX5_keep 9 = .ok (.iconst (-1), 1) := by decide +kernel
theorem dX5_keep_10 : decode cX5_keep 10 = .ok (.ireturn, 1) := by decide +kernel
theorem dX5_keep_11 : decode cX5_keep 11 = .ok (.aload_n 0, 1) := by decide +kernel
theorem dX5_keep_12 : decode cX5_keep 12 = .ok (.getfield 31, 3) := by decide +kernel
theorem dX5_keep_15 : decode cX5_keep 15 = .ok (.getfield 140, 3) := by decide +kernel
theorem dX5_keep_18 : decode cX5_keep 18 = .ok (.ifCond .ne 6, 3) := by decide +kernel
theorem dX5_keep_21 : decode cX5_keep 21 = .ok (.bipush (-4), 2) := by decide +kernel
theorem dX5_keep_23 : decode cX5_keep 23 = .ok (.ireturn, 1) := by decide +kernel
theorem dX5_keep_24 : decode cX5_keep 24 = .ok (.aload_n 0, 1) := by decide +kernel
theorem dX5_keep_25 : decode cX5_keep 25 = .ok (.getfield 44, 3) := by decide +kernel
theorem dX5_keep_28 : decode cX5_keep 28 = .ok (.iload_n 1, 1) := by decide +kernel
theorem dX5_keep_29 : decode cX5_keep 29 = .ok (.aaload, 1) := by decide +kernel
theorem dX5_keep_30 : decode cX5_keep 30 = .ok (.aload_n 0, 1) := by decide +kernel
theorem dX5_keep_31 : decode cX5_keep 31 = .ok (.getfield 40, 3) := by decide +kernel
theorem dX5_keep_34 : decode cX5_keep 34 = .ok (.invokevirtual 216, 3) := by decide +kernel
theorem dX5_keep_37 : decode cX5_keep 37 = .ok (.aload_n 0, 1) := by decide +kernel
theorem dX5_keep_38 : decode cX5_keep 38 = .ok (.getfield 48, 3) := by decide +kernel
theorem dX5_keep_41 : decode cX5_keep 41 = .ok (.iload_n 1, 1) := by decide +kernel
theorem dX5_keep_42 : decode cX5_keep 42 = .ok (.iconst 1, 1) := by decide +kernel
theorem dX5_keep_43 : decode cX5_keep 43 = .ok (.bastore, 1) := by decide +kernel
theorem dX5_keep_44 : decode cX5_keep 44 = .ok (.aload_n 0, 1) := by decide +kernel
theorem dX5_keep_45 : decode cX5_keep 45 = .ok (.getfield 40, 3) := by decide +kernel
theorem dX5_keep_48 : decode cX5_keep 48 = .ok (.getfield 187, 3) := by decide +kernel
theorem dX5_keep_51 : decode cX5_keep 51 = .ok (.ireturn, 1) := by decide +kernel
theorem dX5_on_0 : decode cX5_on 0 = .ok (.iload_n 1, 1) := by decide +kernel
theorem dX5_on_1 : decode cX5_on 1 = .ok (.ifCond .lt 8, 3) := by decide +kernel
theorem dX5_on_4 : decode cX5_on 4 = .ok (.iload_n 1, 1) := by decide +kernel
theorem dX5_on_5 : decode cX5_on 5 = .ok (.iconst 3, 1) := by decide +kernel
theorem dX5_on_6 : decode cX5_on 6 = .ok (.if_icmp .lt 5, 3) := by decide +kernel
theorem dX5_on_9 : decode cX5_on 9 = .ok (.iconst (-1), 1) := by decide +kernel
theorem dX5_on_10 : decode cX5_on 10 = .ok (.ireturn, 1) := by decide +kernel
theorem dX5_on_11 : decode cX5_on 11 = .ok (.aload_n 0, 1) := by decide +kernel
theorem dX5_on_12 : decode cX5_on 12 = .ok (.getfield 48, 3) := by decide +kernel
theorem dX5_on_15 : decode cX5_on 15 = .ok (.iload_n 1, 1) := by decide +kernel
theorem dX5_on_16 : decode cX5_on 16 = .ok (.baload, 1) := by decide +kernel
theorem dX5_on_17 : decode cX5_on 17 = .ok (.ifCond .ne 9, 3) := by decide +kernel
theorem dX5_on_20 : decode cX5_on 20 = .ok (.aload_n 0, 1) := by decide +kernel
theorem dX5_on_21 : decode cX5_on 21 = .ok (.iconst 1, 1) := by decide +kernel
theorem dX5_on_22 : decode cX5_on 22 = .ok (.invokevirtual 81, 3) := by decide +kernel
theorem dX5_on_25 : decode cX5_on 25 = .ok (.ireturn, 1) := by decide +kernel
theorem dX5_on_26 : decode cX5_on 26 = .ok (.aload_n 0, 1) := by decide +kernel
theorem dX5_on_27 : decode cX5_on 27 = .ok (.getfield 40, 3) := by decide +kernel
theorem dX5_on_30 : decode cX5_on 30 = .ok (.aload_n 0, 1) := by decide +kernel
theorem dX5_on_31 : decode cX5_on 31 = .ok (.getfield 44, 3) := by decide +kernel
theorem dX5_on_34 : decode cX5_on 34 = .ok (.iload_n 1, 1) := by decide +kernel
theorem dX5_on_35 : decode cX5_on 35 = .ok (.aaload, 1) := by decide +kernel
theorem dX5_on_36 : decode cX5_on 36 = .ok (.invokevirtual 216, 3) := by decide +kernel
theorem dX5_on_39 : decode cX5_on 39 = .ok (.aload_n 0, 1) := by decide +kernel
theorem dX5_on_40 : decode cX5_on 40 = .ok (.getfield 40, 3) := by decide +kernel
theorem dX5_on_43 : decode cX5_on 43 = .ok (.getfield 187, 3) := by decide +kernel
theorem dX5_on_46 : decode cX5_on 46 = .ok (.ireturn, 1) := by decide +kernel
theorem dX5_can_0 : decode cX5_can 0 = .ok (.aload_n 0, 1) := by decide +kernel
theorem dX5_can_1 : decode cX5_can 1 = .ok (.getfield 31, 3) := by decide +kernel
theorem dX5_can_4 : decode cX5_can 4 = .ok (.iload_n 1, 1) := by decide +kernel
theorem dX5_can_5 : decode cX5_can 5 = .ok (.invokevirtual 150, 3) := by decide +kernel
theorem dX5_can_8 : decode cX5_can 8 = .ok (.ifCond .eq 14, 3) := by decide +kernel
theorem dX5_can_11 : decode cX5_can 11 = .ok (.aload_n 0, 1) := by decide +kernel
theorem dX5_can_12 : decode cX5_can 12 = .ok (.getfield 40, 3) := by decide +kernel
theorem dX5_can_15 : decode cX5_can 15 = .ok (.iload_n 1, 1) := by decide +kernel
theorem dX5_can_16 : decode cX5_can 16 = .ok (.invokevirtual 219, 3) := by decide +kernel
theorem dX5_can_19 : decode cX5_can 19 = .ok (.goto 4, 3) := by decide +kernel
theorem dX5_can_22 : decode cX5_can 22 = .ok (.iconst (-1), 1) := by decide +kernel
theorem dX5_can_23 : decode cX5_can 23 = .ok (.ireturn, 1) := by decide +kernel
theorem dX5_why_0 : decode cX5_why 0 = .ok (.aload_n 0, 1) := by decide +kernel
theorem dX5_why_1 : decode cX5_why 1 = .ok (.getfield 31, 3) := by decide +kernel
theorem dX5_why_4 : decode cX5_why 4 = .ok (.iload_n 1, 1) := by decide +kernel
theorem dX5_why_5 : decode cX5_why 5 = .ok (.invokevirtual 143, 3) := by decide +kernel
theorem dX5_why_8 : decode cX5_why 8 = .ok (.ifCond .eq 14, 3) := by decide +kernel
theorem dX5_why_11 : decode cX5_why 11 = .ok (.aload_n 0, 1) := by decide +kernel
theorem dX5_why_12 : decode cX5_why 12 = .ok (.getfield 31, 3) := by decide +kernel
theorem dX5_why_15 : decode cX5_why 15 = .ok (.iload_n 2, 1) := by decide +kernel
theorem dX5_why_16 : decode cX5_why 16 = .ok (.invokevirtual 150, 3) := by decide +kernel
theorem dX5_why_19 : decode cX5_why 19 = .ok (.ifCond .ne 5, 3) := by decide +kernel
theorem dX5_why_22 : decode cX5_why 22 = .ok (.iconst (-1), 1) := by decide +kernel
theorem dX5_why_23 : decode cX5_why 23 = .ok (.ireturn, 1) := by decide +kernel
theorem dX5_why_24 : decode cX5_why 24 = .ok (.aload_n 0, 1) := by decide +kernel
theorem dX5_why_25 : decode cX5_why 25 = .ok (.getfield 40, 3) := by decide +kernel
theorem dX5_why_28 : decode cX5_why 28 = .ok (.iload_n 1, 1) := by decide +kernel
theorem dX5_why_29 : decode cX5_why 29 = .ok (.iload_n 2, 1) := by decide +kernel
theorem dX5_why_30 : decode cX5_why 30 = .ok (.invokevirtual 206, 3) := by decide +kernel
theorem dX5_why_33 : decode cX5_why 33 = .ok (.istore_n 3, 1) := by decide +kernel
theorem dX5_why_34 : decode cX5_why 34 = .ok (.aload_n 0, 1) := by decide +kernel
theorem dX5_why_35 : decode cX5_why 35 = .ok (.iload_n 3, 1) := by decide +kernel
theorem dX5_why_36 : decode cX5_why 36 = .ok (.iconst 2, 1) := by decide +kernel
theorem dX5_why_37 : decode cX5_why 37 = .ok (.if_icmp .ne 28, 3) := by decide +kernel
theorem dX5_why_40 : decode cX5_why 40 = .ok (.aload_n 0, 1) := by decide +kernel
theorem dX5_why_41 : decode cX5_why 41 = .ok (.getfield 31, 3) := by decide +kernel
theorem dX5_why_44 : decode cX5_why 44 = .ok (.getfield 166, 3) := by decide +kernel
theorem dX5_why_47 : decode cX5_why 47 = .ok (.iload_n 1, 1) := by decide +kernel
theorem dX5_why_48 : decode cX5_why 48 = .ok (.iaload, 1) := by decide +kernel
theorem dX5_why_49 : decode cX5_why 49 = .ok (.aload_n 0, 1) := by decide +kernel
theorem dX5_why_50 : decode cX5_why 50 = .ok (.getfield 40, 3) := by decide +kernel
theorem dX5_why_53 : decode cX5_why 53 = .ok (.getfield 178, 3) := by decide +kernel
theorem dX5_why_56 : decode cX5_why 56 = .ok (.iconst (-1), 1) := by decide +kernel
theorem dX5_why_57 : decode cX5_why 57 = .ok (.ixor, 1) := by decide +kernel
theorem dX5_why_58 : decode cX5_why 58 = .ok (.iand, 1) := by decide +kernel
theorem dX5_why_59 : decode cX5_why 59 = .ok (.invokestatic 222, 3) := by decide +kernel
theorem dX5_why_62 : decode cX5_why 62 = .ok (.goto 5, 3) := by decide +kernel
theorem dX5_why_65 : decode cX5_why 65 = .ok (.bipush (-9), 2) := by decide +kernel
theorem dX5_why_67 : decode cX5_why 67 = .ok (.putfield 67, 3) := by decide +kernel
theorem dX5_why_70 : decode cX5_why 70 = .ok (.iload_n 3, 1) := by decide +kernel
theorem dX5_why_71 : decode cX5_why 71 = .ok (.ireturn, 1) := by decide +kernel
theorem dX5_opens_0 : decode cX5_opens 0 = .ok (.aload_n 0, 1) := by decide +kernel
theorem dX5_opens_1 : decode cX5_opens 1 = .ok (.getfield 31, 3) := by decide +kernel
theorem dX5_opens_4 : decode cX5_opens 4 = .ok (.iload_n 1, 1) := by decide +kernel
theorem dX5_opens_5 : decode cX5_opens 5 = .ok (.invokevirtual 143, 3) := by decide +kernel
theorem dX5_opens_8 : decode cX5_opens 8 = .ok (.ifCond .ne 5, 3) := by decide +kernel
theorem dX5_opens_11 : decode cX5_opens 11 = .ok (.iconst (-1), 1) := by decide +kernel
theorem dX5_opens_12 : decode cX5_opens 12 = .ok (.ireturn, 1) := by decide +kernel
theorem dX5_opens_13 : decode cX5_opens 13 = .ok (.aload_n 0, 1) := by decide +kernel
theorem dX5_opens_14 : decode cX5_opens 14 = .ok (.aload_n 0, 1) := by decide +kernel
theorem dX5_opens_15 : decode cX5_opens 15 = .ok (.getfield 31, 3) := by decide +kernel
theorem dX5_opens_18 : decode cX5_opens 18 = .ok (.iload_n 1, 1) := by decide +kernel
theorem dX5_opens_19 : decode cX5_opens 19 = .ok (.aload_n 0, 1) := by decide +kernel
theorem dX5_opens_20 : decode cX5_opens 20 = .ok (.getfield 31, 3) := by decide +kernel
theorem dX5_opens_23 : decode cX5_opens 23 = .ok (.getfield 225, 3) := by decide +kernel
theorem dX5_opens_26 : decode cX5_opens 26 = .ok (.invokevirtual 169, 3) := by decide +kernel
theorem dX5_opens_29 : decode cX5_opens 29 = .ok (.putfield 67, 3) := by decide +kernel
theorem dX5_opens_32 : decode cX5_opens 32 = .ok (.aload_n 0, 1) := by decide +kernel
theorem dX5_opens_33 : decode cX5_opens 33 = .ok (.getfield 67, 3) := by decide +kernel
theorem dX5_opens_36 : decode cX5_opens 36 = .ok (.invokestatic 173, 3) := by decide +kernel
theorem dX5_opens_39 : decode cX5_opens 39 = .ok (.ireturn, 1) := by decide +kernel
theorem dX5_late_0 : decode cX5_late 0 = .ok (.aload_n 0, 1) := by decide +kernel
theorem dX5_late_1 : decode cX5_late 1 = .ok (.getfield 31, 3) := by decide +kernel
theorem dX5_late_4 : decode cX5_late 4 = .ok (.getfield 140, 3) := by decide +kernel
theorem dX5_late_7 : decode cX5_late 7 = .ok (.ifCond .ne 6, 3) := by decide +kernel
theorem dX5_late_10 : decode cX5_late 10 = .ok (.bipush (-4), 2) := by decide +kernel
end
section
theorem dX5_late_12 : decode cX5_late 12 = .ok (.ireturn, 1) := by decide +kernel
theorem dX5_late_13 : decode cX5_late 13 = .ok (.iconst 0, 1) := by decide +kernel
theorem dX5_late_14 : decode cX5_late 14 = .ok (.istore_n 1, 1) := by decide +kernel
theorem dX5_late_15 : decode cX5_late 15 = .ok (.iconst 0, 1) := by decide +kernel
theorem dX5_late_16 : decode cX5_late 16 = .ok (.istore_n 2, 1) := by decide +kernel
theorem dX5_late_17 : decode cX5_late 17 = .ok (.iconst 0, 1) := by decide +kernel
theorem dX5_late_18 : decode cX5_late 18 = .ok (.istore_n 3, 1) := by decide +kernel
theorem dX5_late_19 : decode cX5_late 19 = .ok (.iload_n 3, 1) := by decide +kernel
theorem dX5_late_20 : decode cX5_late 20 = .ok (.aload_n 0, 1) := by decide +kernel
theorem dX5_late_21 : decode cX5_late 21 = .ok (.getfield 31, 3) := by decide +kernel
theorem dX5_late_24 : decode cX5_late 24 = .ok (.getfield 228, 3) := by decide +kernel
theorem dX5_late_27 : decode cX5_late 27 = .ok (.if_icmp .ge 41, 3) := by decide +kernel
theorem dX5_late_30 : decode cX5_late 30 = .ok (.iload_n 1, 1) := by decide +kernel
theorem dX5_late_31 : decode cX5_late 31 = .ok (.aload_n 0, 1) := by decide +kernel
theorem dX5_late_32 : decode cX5_late 32 = .ok (.getfield 40, 3) := by decide +kernel
theorem dX5_late_35 : decode cX5_late 35 = .ok (.iload_n 3, 1) := by decide +kernel
theorem dX5_late_36 : decode cX5_late 36 = .ok (.invokevirtual 231, 3) := by decide +kernel
theorem dX5_late_39 : decode cX5_late 39 = .ok (.invokestatic 234, 3) := by decide +kernel
theorem dX5_late_42 : decode cX5_late 42 = .ok (.istore_n 1, 1) := by decide +kernel
theorem dX5_late_43 : decode cX5_late 43 = .ok (.iload_n 2, 1) := by decide +kernel
theorem dX5_late_44 : decode cX5_late 44 = .ok (.aload_n 0, 1) := by decide +kernel
theorem dX5_late_45 : decode cX5_late 45 = .ok (.getfield 40, 3) := by decide +kernel
theorem dX5_late_48 : decode cX5_late 48 = .ok (.iload_n 3, 1) := by decide +kernel
theorem dX5_late_49 : decode cX5_late 49 = .ok (.invokevirtual 203, 3) := by decide +kernel
theorem dX5_late_52 : decode cX5_late 52 = .ok (.ifCond .ne 7, 3) := by decide +kernel
theorem dX5_late_55 : decode cX5_late 55 = .ok (.iconst 1, 1) := by decide +kernel
theorem dX5_late_56 : decode cX5_late 56 = .ok (.goto 4, 3) := by decide +kernel
theorem dX5_late_59 : decode cX5_late 59 = .ok (.iconst 0, 1) := by decide +kernel
theorem dX5_late_60 : decode cX5_late 60 = .ok (.iadd, 1) := by decide +kernel
theorem dX5_late_61 : decode cX5_late 61 = .ok (.istore_n 2, 1) := by decide +kernel
theorem dX5_late_62 : decode cX5_late 62 = .ok (.iinc 3 1, 3) := by decide +kernel
theorem dX5_late_65 : decode cX5_late 65 = .ok (.goto (-46), 3) := by decide +kernel
theorem dX5_late_68 : decode cX5_late 68 = .ok (.aload_n 0, 1) := by decide +kernel
theorem dX5_late_69 : decode cX5_late 69 = .ok (.iload_n 2, 1) := by decide +kernel
theorem dX5_late_70 : decode cX5_late 70 = .ok (.putfield 67, 3) := by decide +kernel
theorem dX5_late_73 : decode cX5_late 73 = .ok (.iload_n 1, 1) := by decide +kernel
theorem dX5_late_74 : decode cX5_late 74 = .ok (.ireturn, 1) := by decide +kernel
theorem dX5_run_0 : decode cX5_run 0 = .ok (.aload_n 0, 1) := by decide +kernel
theorem dX5_run_1 : decode cX5_run 1 = .ok (.iload_n 1, 1) := by decide +kernel
theorem dX5_run_2 : decode cX5_run 2 = .ok (.invokevirtual 239, 3) := by decide +kernel
theorem dX5_run_5 : decode cX5_run 5 = .ok (.istore_n 2, 1) := by decide +kernel
theorem dX5_run_6 : decode cX5_run 6 = .ok (.iload_n 2, 1) := by decide +kernel
theorem dX5_run_7 : decode cX5_run 7 = .ok (.ifCond .eq 5, 3) := by decide +kernel
theorem dX5_run_10 : decode cX5_run 10 = .ok (.iload_n 2, 1) := by decide +kernel
theorem dX5_run_11 : decode cX5_run 11 = .ok (.ireturn, 1) := by decide +kernel
theorem dX5_run_12 : decode cX5_run 12 = .ok (.aload_n 0, 1) := by decide +kernel
theorem dX5_run_13 : decode cX5_run 13 = .ok (.getfield 14, 3) := by decide +kernel
theorem dX5_run_16 : decode cX5_run 16 = .ok (.getfield 108, 3) := by decide +kernel
theorem dX5_run_19 : decode cX5_run 19 = .ok (.iload_n 1, 1) := by decide +kernel
theorem dX5_run_20 : decode cX5_run 20 = .ok (.iaload, 1) := by decide +kernel
theorem dX5_run_21 : decode cX5_run 21 = .ok (.istore_n 3, 1) := by decide +kernel
theorem dX5_run_22 : decode cX5_run 22 = .ok (.iload_n 3, 1) := by decide +kernel
theorem dX5_run_23 : decode cX5_run 23 = .ok (.iconst 2, 1) := by decide +kernel
theorem dX5_run_24 : decode cX5_run 24 = .ok (.irem, 1) := by decide +kernel
theorem dX5_run_25 : decode cX5_run 25 = .ok (.ifCond .ne 9, 3) := by decide +kernel
theorem dX5_run_28 : decode cX5_run 28 = .ok (.iload_n 3, 1) := by decide +kernel
theorem dX5_run_29 : decode cX5_run 29 = .ok (.bipush 14, 2) := by decide +kernel
theorem dX5_run_31 : decode cX5_run 31 = .ok (.if_icmp .le 9, 3) := by decide +kernel
theorem dX5_run_34 : decode cX5_run 34 = .ok (.aload_n 0, 1) := by decide +kernel
theorem dX5_run_35 : decode cX5_run 35 = .ok (.iconst 5, 1) := by decide +kernel
theorem dX5_run_36 : decode cX5_run 36 = .ok (.invokevirtual 81, 3) := by decide +kernel
theorem dX5_run_39 : decode cX5_run 39 = .ok (.ireturn, 1) := by decide +kernel
theorem dX5_run_40 : decode cX5_run 40 = .ok (.aload_n 0, 1) := by decide +kernel
theorem dX5_run_41 : decode cX5_run 41 = .ok (.aload_n 0, 1) := by decide +kernel
theorem dX5_run_42 : decode cX5_run 42 = .ok (.getfield 14, 3) := by decide +kernel
theorem dX5_run_45 : decode cX5_run 45 = .ok (.getfield 100, 3) := by decide +kernel
theorem dX5_run_48 : decode cX5_run 48 = .ok (.iload_n 1, 1) := by decide +kernel
theorem dX5_run_49 : decode cX5_run 49 = .ok (.aaload, 1) := by decide +kernel
theorem dX5_run_50 : decode cX5_run 50 = .ok (.iload_n 3, 1) := by decide +kernel
theorem dX5_run_51 : decode cX5_run 51 = .ok (.invokevirtual 242, 3) := by decide +kernel
theorem dX5_run_54 : decode cX5_run 54 = .ok (.ifCond .ne 9, 3) := by decide +kernel
theorem dX5_run_57 : decode cX5_run 57 = .ok (.aload_n 0, 1) := by decide +kernel
theorem dX5_run_58 : decode cX5_run 58 = .ok (.iconst 3, 1) := by decide +kernel
theorem dX5_run_59 : decode cX5_run 59 = .ok (.invokevirtual 81, 3) := by decide +kernel
theorem dX5_run_62 : decode cX5_run 62 = .ok (.ireturn, 1) := by decide +kernel
theorem dX5_run_63 : decode cX5_run 63 = .ok (.aload_n 0, 1) := by decide +kernel
theorem dX5_run_64 : decode cX5_run 64 = .ok (.getfield 55, 3) := by decide +kernel
theorem dX5_run_67 : decode cX5_run 67 = .ok (.aload_n 0, 1) := by decide +kernel
theorem dX5_run_68 : decode cX5_run 68 = .ok (.getfield 40, 3) := by decide +kernel
theorem dX5_run_71 : decode cX5_run 71 = .ok (.aload_n 0, 1) := by decide +kernel
theorem dX5_run_72 : decode cX5_run 72 = .ok (.getfield 40, 3) := by decide +kernel
theorem dX5_run_75 : decode cX5_run 75 = .ok (.invokevirtual 209, 3) := by decide +kernel
theorem dX5_run_78 : decode cX5_run 78 = .ok (.invokevirtual 246, 3) := by decide +kernel
theorem dX5_run_81 : decode cX5_run 81 = .ok (.aload_n 0, 1) := by decide +kernel
theorem dX5_run_82 : decode cX5_run 82 = .ok (.getfield 55, 3) := by decide +kernel
theorem dX5_run_85 : decode cX5_run 85 = .ok (.aload_n 0, 1) := by decide +kernel
theorem dX5_run_86 : decode cX5_run 86 = .ok (.getfield 14, 3) := by decide +kernel
theorem dX5_run_89 : decode cX5_run 89 = .ok (.getfield 100, 3) := by decide +kernel
theorem dX5_run_92 : decode cX5_run 92 = .ok (.iload_n 1, 1) := by decide +kernel
theorem dX5_run_93 : decode cX5_run 93 = .ok (.aaload, 1) := by decide +kernel
theorem dX5_run_94 : decode cX5_run 94 = .ok (.iload_n 3, 1) := by decide +kernel
theorem dX5_run_95 : decode cX5_run 95 = .ok (.iconst 2, 1) := by decide +kernel
theorem dX5_run_96 : decode cX5_run 96 = .ok (.idiv, 1) := by decide +kernel
theorem dX5_run_97 : decode cX5_run 97 = .ok (.invokevirtual 250, 3) := by decide +kernel
theorem dX5_run_100 : decode cX5_run 100 = .ok (.istore 4, 2) := by decide +kernel
theorem dX5_run_102 : decode cX5_run 102 = .ok (.aload_n 0, 1) := by decide +kernel
theorem dX5_run_103 : decode cX5_run 103 = .ok (.aload_n 0, 1) := by decide +kernel
theorem dX5_run_104 : decode cX5_run 104 = .ok (.getfield 55, 3) := by decide +kernel
theorem dX5_run_107 : decode cX5_run 107 = .ok (.getfield 253, 3) := by decide +kernel
theorem dX5_run_110 : decode cX5_run 110 = .ok (.putfield 67, 3) := by decide +kernel
theorem dX5_run_113 : decode cX5_run 113 = .ok (.iload 4, 2) := by decide +kernel
theorem dX5_run_115 : decode cX5_run 115 = .ok (.ireturn, 1) := by decide +kernel
theorem dX5_most_0 : decode cX5_most 0 = .ok (.aload_n 0, 1) := by decide +kernel
theorem dX5_most_1 : decode cX5_most 1 = .ok (.getfield 31, 3) := by decide +kernel
theorem dX5_most_4 : decode cX5_most 4 = .ok (.getfield 140, 3) := by decide +kernel
theorem dX5_most_7 : decode cX5_most 7 = .ok (.ifCond .ne 6, 3) := by decide +kernel
theorem dX5_most_10 : decode cX5_most 10 = .ok (.bipush (-4), 2) := by decide +kernel
theorem dX5_most_12 : decode cX5_most 12 = .ok (.ireturn, 1) := by decide +kernel
theorem dX5_most_13 : decode cX5_most 13 = .ok (.aload_n 0, 1) := by decide +kernel
theorem dX5_most_14 : decode cX5_most 14 = .ok (.getfield 55, 3) := by decide +kernel
theorem dX5_most_17 : decode cX5_most 17 = .ok (.aload_n 0, 1) := by decide +kernel
theorem dX5_most_18 : decode cX5_most 18 = .ok (.getfield 40, 3) := by decide +kernel
theorem dX5_most_21 : decode cX5_most 21 = .ok (.aload_n 0, 1) := by decide +kernel
theorem dX5_most_22 : decode cX5_most 22 = .ok (.getfield 40, 3) := by decide +kernel
theorem dX5_most_25 : decode cX5_most 25 = .ok (.invokevirtual 209, 3) := by decide +kernel
theorem dX5_most_28 : decode cX5_most 28 = .ok (.invokevirtual 254, 3) := by decide +kernel
theorem dX5_most_31 : decode cX5_most 31 = .ok (.aload_n 0, 1) := by decide +kernel
theorem dX5_most_32 : decode cX5_most 32 = .ok (.getfield 55, 3) := by decide +kernel
theorem dX5_most_35 : decode cX5_most 35 = .ok (.iconst 0, 1) := by decide +kernel
theorem dX5_most_36 : decode cX5_most 36 = .ok (.invokevirtual 257, 3) := by decide +kernel
theorem dX5_most_39 : decode cX5_most 39 = .ok (.istore_n 1, 1) := by decide +kernel
theorem dX5_most_40 : decode cX5_most 40 = .ok (.aload_n 0, 1) := by decide +kernel
theorem dX5_most_41 : decode cX5_most 41 = .ok (.aload_n 0, 1) := by decide +kernel
theorem dX5_most_42 : decode cX5_most 42 = .ok (.getfield 55, 3) := by decide +kernel
theorem dX5_most_45 : decode cX5_most 45 = .ok (.iload_n 1, 1) := by decide +kernel
theorem dX5_most_46 : decode cX5_most 46 = .ok (.invokevirtual 260, 3) := by decide +kernel
theorem dX5_most_49 : decode cX5_most 49 = .ok (.putfield 67, 3) := by decide +kernel
theorem dX5_most_52 : decode cX5_most 52 = .ok (.iload_n 1, 1) := by decide +kernel
theorem dX5_most_53 : decode cX5_most 53 = .ok (.ireturn, 1) := by decide +kernel
theorem dX5_fewest_0 : decode cX5_fewest 0 = .ok (.aload_n 0, 1) := by decide +kernel
theorem dX5_fewest_1 : decode cX5_fewest 1 = .ok (.getfield 31, 3) := by decide +kernel
theorem dX5_fewest_4 : decode cX5_fewest 4 = .ok (.iload_n 1, 1) := by decide +kernel
theorem dX5_fewest_5 : decode cX5_fewest 5 = .ok (.invokevirtual 143, 3) := by decide +kernel
theorem dX5_fewest_8 : decode cX5_fewest 8 = .ok (.ifCond .ne 5, 3) := by decide +kernel
theorem dX5_fewest_11 : decode cX5_fewest 11 = .ok (.iconst (-1), 1) := by decide +kernel
theorem dX5_fewest_12 : decode cX5_fewest 12 = .ok (.ireturn, 1) := by decide +kernel
theorem dX5_fewest_13 : decode cX5_fewest 13 = .ok (.aload_n 0, 1) := by decide +kernel
theorem dX5_fewest_14 : decode cX5_fewest 14 = .ok (.getfield 55, 3) := by decide +kernel
theorem dX5_fewest_17 : decode cX5_fewest 17 = .ok (.aload_n 0, 1) := by decide +kernel
theorem dX5_fewest_18 : decode cX5_fewest 18 = .ok (.getfield 40, 3) := by decide +kernel
theorem dX5_fewest_21 : decode cX5_fewest 21 = .ok (.aload_n 0, 1) := by decide +kernel
theorem dX5_fewest_22 : decode cX5_fewest 22 = .ok (.getfield 40, 3) := by decide +kernel
theorem dX5_fewest_25 : decode cX5_fewest 25 = .ok (.invokevirtual 209, 3) := by decide +kernel
theorem dX5_fewest_28 : decode cX5_fewest 28 = .ok (.invokevirtual 254, 3) := by decide +kernel
theorem dX5_fewest_31 : decode cX5_fewest 31 = .ok (.aload_n 0, 1) := by decide +kernel
theorem dX5_fewest_32 : decode cX5_fewest 32 = .ok (.getfield 55, 3) := by decide +kernel
theorem dX5_fewest_35 : decode cX5_fewest 35 = .ok (.iload_n 1, 1) := by decide +kernel
theorem dX5_fewest_36 : decode cX5_fewest 36 = .ok (.invokevirtual 263, 3) := by decide +kernel
theorem dX5_fewest_39 : decode cX5_fewest 39 = .ok (.ireturn, 1) := by decide +kernel
theorem dX5_order_0 : decode cX5_order 0 = .ok (.aload_n 0, 1) := by decide +kernel
theorem dX5_order_1 : decode cX5_order 1 = .ok (.getfield 31, 3) := by decide +kernel
theorem dX5_order_4 : decode cX5_order 4 = .ok (.iload_n 1, 1) := by decide +kernel
theorem dX5_order_5 : decode cX5_order 5 = .ok (.invokevirtual 143, 3) := by decide +kernel
theorem dX5_order_8 : decode cX5_order 8 = .ok (.ifCond .eq 14, 3) := by decide +kernel
theorem dX5_order_11 : decode cX5_order 11 = .ok (.aload_n 0, 1) := by decide +kernel
theorem dX5_order_12 : decode cX5_order 12 = .ok (.getfield 14, 3) := by decide +kernel
theorem dX5_order_15 : decode cX5_order 15 = .ok (.iload_n 2, 1) := by decide +kernel
theorem dX5_order_16 : decode cX5_order 16 = .ok (.invokevirtual 77, 3) := by decide +kernel
theorem dX5_order_19 : decode cX5_order 19 = .ok (.ifCond .ne 5, 3) := by decide +kernel
theorem dX5_order_22 : decode cX5_order 22 = .ok (.iconst (-1), 1) := by decide +kernel
theorem dX5_order_23 : decode cX5_order 23 = .ok (.ireturn, 1) := by decide +kernel
theorem dX5_order_24 : decode cX5_order 24 = .ok (.aload_n 0, 1) := by decide +kernel
theorem dX5_order_25 : decode cX5_order 25 = .ok (.getfield 55, 3) := by decide +kernel
theorem dX5_order_28 : decode cX5_order 28 = .ok (.aload_n 0, 1) := by decide +kernel
theorem dX5_order_29 : decode cX5_order 29 = .ok (.getfield 40, 3) := by decide +kernel
theorem dX5_order_32 : decode cX5_order 32 = .ok (.aload_n 0, 1) := by decide +kernel
theorem dX5_order_33 : decode cX5_order 33 = .ok (.getfield 40, 3) := by decide +kernel
theorem dX5_order_36 : decode cX5_order 36 = .ok (.invokevirtual 209, 3) := by decide +kernel
theorem dX5_order_39 : decode cX5_order 39 = .ok (.invokevirtual 254, 3) := by decide +kernel
theorem dX5_order_42 : decode cX5_order 42 = .ok (.aload_n 0, 1) := by decide +kernel
theorem dX5_order_43 : decode cX5_order 43 = .ok (.getfield 55, 3) := by decide +kernel
theorem dX5_order_46 : decode cX5_order 46 = .ok (.iload_n 1, 1) := by decide +kernel
theorem dX5_order_47 : decode cX5_order 47 = .ok (.invokevirtual 263, 3) := by decide +kernel
theorem dX5_order_50 : decode cX5_order 50 = .ok (.istore_n 3, 1) := by decide +kernel
theorem dX5_order_51 : decode cX5_order 51 = .ok (.iload_n 3, 1) := by decide +kernel
theorem dX5_order_52 : decode cX5_order 52 = .ok (.bipush (-9), 2) := by decide +kernel
theorem dX5_order_54 : decode cX5_order 54 = .ok (.if_icmp .ne 6, 3) := by decide +kernel
theorem dX5_order_57 : decode cX5_order 57 = .ok (.bipush (-9), 2) := by decide +kernel
theorem dX5_order_59 : decode cX5_order 59 = .ok (.ireturn, 1) := by decide +kernel
theorem dX5_order_60 : decode cX5_order 60 = .ok (.aload_n 0, 1) := by decide +kernel
theorem dX5_order_61 : decode cX5_order 61 = .ok (.getfield 14, 3) := by decide +kernel
theorem dX5_order_64 : decode cX5_order 64 = .ok (.iload_n 2, 1) := by decide +kernel
theorem dX5_order_65 : decode cX5_order 65 = .ok (.iconst 2, 1) := by decide +kernel
theorem dX5_order_66 : decode cX5_order 66 = .ok (.iload_n 3, 1) := by decide +kernel
theorem dX5_order_67 : decode cX5_order 67 = .ok (.imul, 1) := by decide +kernel
theorem dX5_order_68 : decode cX5_order 68 = .ok (.iconst 0, 1) := by decide +kernel
theorem dX5_order_69 : decode cX5_order 69 = .ok (.invokevirtual 85, 3) := by decide +kernel
theorem dX5_order_72 : decode cX5_order 72 = .ok (.aload_n 0, 1) := by decide +kernel
theorem dX5_order_73 : decode cX5_order 73 = .ok (.getfield 55, 3) := by decide +kernel
theorem dX5_order_76 : decode cX5_order 76 = .ok (.iload_n 1, 1) := by decide +kernel
theorem dX5_order_77 : decode cX5_order 77 = .ok (.iload_n 3, 1) := by decide +kernel
theorem dX5_order_78 : decode cX5_order 78 = .ok (.aload_n 0, 1) := by decide +kernel
theorem dX5_order_79 : decode cX5_order 79 = .ok (.getfield 14, 3) := by decide +kernel
theorem dX5_order_82 : decode cX5_order 82 = .ok (.getfield 100, 3) := by decide +kernel
theorem dX5_order_85 : decode cX5_order 85 = .ok (.iload_n 2, 1) := by decide +kernel
theorem dX5_order_86 : decode cX5_order 86 = .ok (.aaload, 1) := by decide +kernel
theorem dX5_order_87 : decode cX5_order 87 = .ok (.invokevirtual 266, 3) := by decide +kernel
theorem dX5_order_90 : decode cX5_order 90 = .ok (.iload_n 3, 1) := by decide +kernel
theorem dX5_order_91 : decode cX5_order 91 = .ok (.ireturn, 1) := by decide +kernel
theorem dX5_shut_0 : decode cX5_shut 0 = .ok (.aload_n 0, 1) := by decide +kernel
theorem dX5_shut_1 : decode cX5_shut 1 = .ok (.getfield 31, 3) := by decide +kernel
theorem dX5_shut_4 : decode cX5_shut 4 = .ok (.getfield 140, 3) := by decide +kernel
theorem dX5_shut_7 : decode cX5_shut 7 = .ok (.ifCond .ne 6, 3) := by decide +kernel
theorem dX5_shut_10 : decode cX5_shut 10 = .ok (.bipush (-4), 2) := by decide +kernel
theorem dX5_shut_12 : decode cX5_shut 12 = .ok (.ireturn, 1) := by decide +kernel
theorem dX5_shut_13 : decode cX5_shut 13 = .ok (.aload_n 0, 1) := by decide +kernel
theorem dX5_shut_14 : decode cX5_shut 14 = .ok (.getfield 40, 3) := by decide +kernel
theorem dX5_shut_17 : decode cX5_shut 17 = .ok (.invokevirtual 209, 3) := by decide +kernel
theorem dX5_shut_20 : decode cX5_shut 20 = .ok (.istore_n 1, 1) := by decide +kernel
theorem dX5_shut_21 : decode cX5_shut 21 = .ok (.aload_n 0, 1) := by decide +kernel
theorem dX5_shut_22 : decode cX5_shut 22 = .ok (.getfield 55, 3) := by decide +kernel
theorem dX5_shut_25 : decode cX5_shut 25 = .ok (.aload_n 0, 1) := by decide +kernel
theorem dX5_shut_26 : decode cX5_shut 26 = .ok (.getfield 40, 3) := by decide +kernel
theorem dX5_shut_29 : decode cX5_shut 29 = .ok (.iload_n 1, 1) := by decide +kernel
theorem dX5_shut_30 : decode cX5_shut 30 = .ok (.invokevirtual 254, 3) := by decide +kernel
theorem dX5_shut_33 : decode cX5_shut 33 = .ok (.aload_n 0, 1) := by decide +kernel
theorem dX5_shut_34 : decode cX5_shut 34 = .ok (.getfield 55, 3) := by decide +kernel
theorem dX5_shut_37 : decode cX5_shut 37 = .ok (.iconst 0, 1) := by decide +kernel
theorem dX5_shut_38 : decode cX5_shut 38 = .ok (.invokevirtual 257, 3) := by decide +kernel
theorem dX5_shut_41 : decode cX5_shut 41 = .ok (.istore_n 2, 1) := by decide +kernel
theorem dX5_shut_42 : decode cX5_shut 42 = .ok (.iconst 0, 1) := by decide +kernel
theorem dX5_shut_43 : decode cX5_shut 43 = .ok (.istore_n 3, 1) := by decide +kernel
theorem dX5_shut_44 : decode cX5_shut 44 = .ok (.iconst 0, 1) := by decide +kernel
theorem dX5_shut_45 : decode cX5_shut 45 = .ok (.istore 4, 2) := by decide +kernel
theorem dX5_shut_47 : decode cX5_shut 47 = .ok (.iload 4, 2) := by decide +kernel
theorem dX5_shut_49 : decode cX5_shut 49 = .ok (.aload_n 0, 1) := by decide +kernel
theorem dX5_shut_50 : decode cX5_shut 50 = .ok (.getfield 31, 3) := by decide +kernel
theorem dX5_shut_53 : decode cX5_shut 53 = .ok (.getfield 228, 3) := by decide +kernel
theorem dX5_shut_56 : decode cX5_shut 56 = .ok (.if_icmp .ge 40, 3) := by decide +kernel
theorem dX5_shut_59 : decode cX5_shut 59 = .ok (.iload_n 1, 1) := by decide +kernel
theorem dX5_shut_60 : decode cX5_shut 60 = .ok (.iload 4, 2) := by decide +kernel
theorem dX5_shut_62 : decode cX5_shut 62 = .ok (.invokestatic 270, 3) := by decide +kernel
theorem dX5_shut_65 : decode cX5_shut 65 = .ok (.ifCond .eq 25, 3) := by decide +kernel
theorem dX5_shut_68 : decode cX5_shut 68 = .ok (.aload_n 0, 1) := by decide +kernel
theorem dX5_shut_69 : decode cX5_shut 69 = .ok (.getfield 55, 3) := by decide +kernel
theorem dX5_shut_72 : decode cX5_shut 72 = .ok (.iconst 1, 1) := by decide +kernel
theorem dX5_shut_73 : decode cX5_shut 73 = .ok (.iload 4, 2) := by decide +kernel
theorem dX5_shut_75 : decode cX5_shut 75 = .ok (.ishl, 1) := by decide +kernel
theorem dX5_shut_76 : decode cX5_shut 76 = .ok (.invokevirtual 257, 3) := by decide +kernel
theorem dX5_shut_79 : decode cX5_shut 79 = .ok (.iload_n 2, 1) := by decide +kernel
theorem dX5_shut_80 : decode cX5_shut 80 = .ok (.if_icmp .ne 10, 3) := by decide +kernel
theorem dX5_shut_83 : decode cX5_shut 83 = .ok (.iload_n 3, 1) := by decide +kernel
theorem dX5_shut_84 : decode cX5_shut 84 = .ok (.iconst 1, 1) := by decide +kernel
theorem dX5_shut_85 : decode cX5_shut 85 = .ok (.iload 4, 2) := by decide +kernel
theorem dX5_shut_87 : decode cX5_shut 87 = .ok (.ishl, 1) := by decide +kernel
theorem dX5_shut_88 : decode cX5_shut 88 = .ok (.ior, 1) := by decide +kernel
theorem dX5_shut_89 : decode cX5_shut 89 = .ok (.istore_n 3, 1) := by decide +kernel
theorem dX5_shut_90 : decode cX5_shut 90 = .ok (.iinc 4 1, 3) := by decide +kernel
theorem dX5_shut_93 : decode cX5_shut 93 = .ok (.goto (-46), 3) := by decide +kernel
theorem dX5_shut_96 : decode cX5_shut 96 = .ok (.iload_n 3, 1) := by decide +kernel
theorem dX5_shut_97 : decode cX5_shut 97 = .ok (.ireturn, 1) := by decide +kernel
theorem dX5_waits_0 : decode cX5_waits 0 = .ok (.aload_n 0, 1) := by decide +kernel
theorem dX5_waits_1 : decode cX5_waits 1 = .ok (.getfield 31, 3) := by decide +kernel
theorem dX5_waits_4 : decode cX5_waits 4 = .ok (.iload_n 1, 1) := by decide +kernel
theorem dX5_waits_5 : decode cX5_waits 5 = .ok (.invokevirtual 143, 3) := by decide +kernel
theorem dX5_waits_8 : decode cX5_waits 8 = .ok (.ifCond .ne 5, 3) := by decide +kernel
theorem dX5_waits_11 : decode cX5_waits 11 = .ok (.iconst (-1), 1) := by decide +kernel
theorem dX5_waits_12 : decode cX5_waits 12 = .ok (.ireturn, 1) := by decide +kernel
theorem dX5_waits_13 : decode cX5_waits 13 = .ok (.aload_n 0, 1) := by decide +kernel
theorem dX5_waits_14 : decode cX5_waits 14 = .ok (.getfield 55, 3) := by decide +kernel
theorem dX5_waits_17 : decode cX5_waits 17 = .ok (.aload_n 0, 1) := by decide +kernel
theorem dX5_waits_18 : decode cX5_waits 18 = .ok (.getfield 40, 3) := by decide +kernel
theorem dX5_waits_21 : decode cX5_waits 21 = .ok (.aload_n 0, 1) := by decide +kernel
theorem dX5_waits_22 : decode cX5_waits 22 = .ok (.getfield 40, 3) := by decide +kernel
theorem dX5_waits_25 : decode cX5_waits 25 = .ok (.invokevirtual 273, 3) := by decide +kernel
theorem dX5_waits_28 : decode cX5_waits 28 = .ok (.invokevirtual 254, 3) := by decide +kernel
theorem dX5_waits_31 : decode cX5_waits 31 = .ok (.bipush (-9), 2) := by decide +kernel
theorem dX5_waits_33 : decode cX5_waits 33 = .ok (.istore_n 2, 1) := by decide +kernel
theorem dX5_waits_34 : decode cX5_waits 34 = .ok (.iconst 0, 1) := by decide +kernel
theorem dX5_waits_35 : decode cX5_waits 35 = .ok (.istore_n 3, 1) := by decide +kernel
theorem dX5_waits_36 : decode cX5_waits 36 = .ok (.iload_n 3, 1) := by decide +kernel
theorem dX5_waits_37 : decode cX5_waits 37 = .ok (.sipush 128, 3) := by decide +kernel
theorem dX5_waits_40 : decode cX5_waits 40 = .ok (.if_icmp .ge 49, 3) := by decide +kernel
theorem dX5_waits_43 : decode cX5_waits 43 = .ok (.aload_n 0, 1) := by decide +kernel
theorem dX5_waits_44 : decode cX5_waits 44 = .ok (.getfield 55, 3) := by decide +kernel
theorem dX5_waits_47 : decode cX5_waits 47 = .ok (.iload_n 1, 1) := by decide +kernel
theorem dX5_waits_48 : decode cX5_waits 48 = .ok (.iload_n 3, 1) := by decide +kernel
theorem dX5_waits_49 : decode cX5_waits 49 = .ok (.invokevirtual 276, 3) := by decide +kernel
theorem dX5_waits_52 : decode cX5_waits 52 = .ok (.ifCond .eq 31, 3) := by decide +kernel
theorem dX5_waits_55 : decode cX5_waits 55 = .ok (.aload_n 0, 1) := by decide +kernel
theorem dX5_waits_56 : decode cX5_waits 56 = .ok (.getfield 40, 3) := by decide +kernel
theorem dX5_waits_59 : decode cX5_waits 59 = .ok (.iload_n 3, 1) := by decide +kernel
theorem dX5_waits_60 : decode cX5_waits 60 = .ok (.invokevirtual 279, 3) := by decide +kernel
theorem dX5_waits_63 : decode cX5_waits 63 = .ok (.istore 4, 2) := by decide +kernel
theorem dX5_waits_65 : decode cX5_waits 65 = .ok (.iload_n 2, 1) := by decide +kernel
theorem dX5_waits_66 : decode cX5_waits 66 = .ok (.bipush (-9), 2) := by decide +kernel
theorem dX5_waits_68 : decode cX5_waits 68 = .ok (.if_icmp .ne 8, 3) := by decide +kernel
theorem dX5_waits_71 : decode cX5_waits 71 = .ok (.iload 4, 2) := by decide +kernel
theorem dX5_waits_73 : decode cX5_waits 73 = .ok (.goto 9, 3) := by decide +kernel
theorem dX5_waits_76 : decode cX5_waits 76 = .ok (.iload_n 2, 1) := by decide +kernel
theorem dX5_waits_77 : decode cX5_waits 77 = .ok (.iload 4, 2) := by decide +kernel
theorem dX5_waits_79 : decode cX5_waits 79 = .ok (.invokestatic 282, 3) := by decide +kernel
theorem dX5_waits_82 : decode cX5_waits 82 = .ok (.istore_n 2, 1) := by decide +kernel
theorem dX5_waits_83 : decode cX5_waits 83 = .ok (.iinc 3 1, 3) := by decide +kernel
theorem dX5_waits_86 : decode cX5_waits 86 = .ok (.goto (-50), 3) := by decide +kernel
theorem dX5_waits_89 : decode cX5_waits 89 = .ok (.iload_n 2, 1) := by decide +kernel
theorem dX5_waits_90 : decode cX5_waits 90 = .ok (.bipush 20, 2) := by decide +kernel
theorem dX5_waits_92 : decode cX5_waits 92 = .ok (.if_icmp .le 8, 3) := by decide +kernel
theorem dX5_waits_95 : decode cX5_waits 95 = .ok (.bipush (-9), 2) := by decide +kernel
theorem dX5_waits_97 : decode cX5_waits 97 = .ok (.goto 4, 3) := by decide +kernel
theorem dX5_waits_100 : decode cX5_waits 100 = .ok (.iload_n 2, 1) := by decide +kernel
theorem dX5_waits_101 : decode cX5_waits 101 = .ok (.ireturn, 1) := by decide +kernel
theorem dX5_diary_0 : decode cX5_diary 0 = .ok (.aload_n 0, 1) := by decide +kernel
theorem dX5_diary_1 : decode cX5_diary 1 = .ok (.iload_n 1, 1) := by decide +kernel
theorem dX5_diary_2 : decode cX5_diary 2 = .ok (.invokevirtual 285, 3) := by decide +kernel
theorem dX5_diary_5 : decode cX5_diary 5 = .ok (.istore_n 2, 1) := by decide +kernel
theorem dX5_diary_6 : decode cX5_diary 6 = .ok (.iload_n 2, 1) := by decide +kernel
theorem dX5_diary_7 : decode cX5_diary 7 = .ok (.ifCond .eq 5, 3) := by decide +kernel
theorem dX5_diary_10 : decode cX5_diary 10 = .ok (.iload_n 2, 1) := by decide +kernel
theorem dX5_diary_11 : decode cX5_diary 11 = .ok (.ireturn, 1) := by decide +kernel
theorem dX5_diary_12 : decode cX5_diary 12 = .ok (.iconst 1, 1) := by decide +kernel
theorem dX5_diary_13 : decode cX5_diary 13 = .ok (.istore_n 3, 1) := by decide +kernel
theorem dX5_diary_14 : decode cX5_diary 14 = .ok (.iconst 0, 1) := by decide +kernel
theorem dX5_diary_15 : decode cX5_diary 15 = .ok (.istore 4, 2) := by decide +kernel
theorem dX5_diary_17 : decode cX5_diary 17 = .ok (.iload 4, 2) := by decide +kernel
theorem dX5_diary_19 : decode cX5_diary 19 = .ok (.aload_n 0, 1) := by decide +kernel
theorem dX5_diary_20 : decode cX5_diary 20 = .ok (.getfield 14, 3) := by decide +kernel
theorem dX5_diary_23 : decode cX5_diary 23 = .ok (.getfield 108, 3) := by decide +kernel
theorem dX5_diary_26 : decode cX5_diary 26 = .ok (.iload_n 1, 1) := by decide +kernel
theorem dX5_diary_27 : decode cX5_diary 27 = .ok (.iaload, 1) := by decide +kernel
theorem dX5_diary_28 : decode cX5_diary 28 = .ok (.if_icmp .ge 27, 3) := by decide +kernel
theorem dX5_diary_31 : decode cX5_diary 31 = .ok (.iload_n 3, 1) := by decide +kernel
theorem dX5_diary_32 : decode cX5_diary 32 = .ok (.aload_n 0, 1) := by decide +kernel
theorem dX5_diary_33 : decode cX5_diary 33 = .ok (.aload_n 0, 1) := by decide +kernel
theorem dX5_diary_34 : decode cX5_diary 34 = .ok (.getfield 14, 3) := by decide +kernel
theorem dX5_diary_37 : decode cX5_diary 37 = .ok (.getfield 100, 3) := by decide +kernel
theorem dX5_diary_40 : decode cX5_diary 40 = .ok (.iload_n 1, 1) := by decide +kernel
theorem dX5_diary_41 : decode cX5_diary 41 = .ok (.aaload, 1) := by decide +kernel
theorem dX5_diary_42 : decode cX5_diary 42 = .ok (.iload 4, 2) := by decide +kernel
theorem dX5_diary_44 : decode cX5_diary 44 = .ok (.invokevirtual 288, 3) := by decide +kernel
theorem dX5_diary_47 : decode cX5_diary 47 = .ok (.imul, 1) := by decide +kernel
theorem dX5_diary_48 : decode cX5_diary 48 = .ok (.istore_n 3, 1) := by decide +kernel
theorem dX5_diary_49 : decode cX5_diary 49 = .ok (.iinc 4 1, 3) := by decide +kernel
theorem dX5_diary_52 : decode cX5_diary 52 = .ok (.goto (-35), 3) := by decide +kernel
theorem dX5_diary_55 : decode cX5_diary 55 = .ok (.aload_n 0, 1) := by decide +kernel
theorem dX5_diary_56 : decode cX5_diary 56 = .ok (.getfield 14, 3) := by decide +kernel
theorem dX5_diary_59 : decode cX5_diary 59 = .ok (.getfield 108, 3) := by decide +kernel
theorem dX5_diary_62 : decode cX5_diary 62 = .ok (.iload_n 1, 1) := by decide +kernel
theorem dX5_diary_63 : decode cX5_diary 63 = .ok (.iaload, 1) := by decide +kernel
theorem dX5_diary_64 : decode cX5_diary 64 = .ok (.ifCond .le 11, 3) := by decide +kernel
theorem dX5_diary_67 : decode cX5_diary 67 = .ok (.iload_n 3, 1) := by decide +kernel
theorem dX5_diary_68 : decode cX5_diary 68 = .ok (.ifCond .le 7, 3) := by decide +kernel
theorem dX5_diary_71 : decode cX5_diary 71 = .ok (.iconst 1, 1) := by decide +kernel
theorem dX5_diary_72 : decode cX5_diary 72 = .ok (.goto 4, 3) := by decide +kernel
theorem dX5_diary_75 : decode cX5_diary 75 = .ok (.iconst 0, 1) := by decide +kernel
theorem dX5_diary_76 : decode cX5_diary 76 = .ok (.istore 4, 2) := by decide +kernel
theorem dX5_diary_78 : decode cX5_diary 78 = .ok (.aload_n 0, 1) := by decide +kernel
theorem dX5_diary_79 : decode cX5_diary 79 = .ok (.iload 4, 2) := by decide +kernel
theorem dX5_diary_81 : decode cX5_diary 81 = .ok (.ifCond .eq 27, 3) := by decide +kernel
theorem dX5_diary_84 : decode cX5_diary 84 = .ok (.aload_n 0, 1) := by decide +kernel
theorem dX5_diary_85 : decode cX5_diary 85 = .ok (.getfield 31, 3) := by decide +kernel
theorem dX5_diary_88 : decode cX5_diary 88 = .ok (.aload_n 0, 1) := by decide +kernel
theorem dX5_diary_89 : decode cX5_diary 89 = .ok (.getfield 14, 3) := by decide +kernel
theorem dX5_diary_92 : decode cX5_diary 92 = .ok (.getfield 100, 3) := by decide +kernel
theorem dX5_diary_95 : decode cX5_diary 95 = .ok (.iload_n 1, 1) := by decide +kernel
theorem dX5_diary_96 : decode cX5_diary 96 = .ok (.aaload, 1) := by decide +kernel
theorem dX5_diary_97 : decode cX5_diary 97 = .ok (.iconst 0, 1) := by decide +kernel
theorem dX5_diary_98 : decode cX5_diary 98 = .ok (.iaload, 1) := by decide +kernel
theorem dX5_diary_99 : decode cX5_diary 99 = .ok (.invokevirtual 291, 3) := by decide +kernel
theorem dX5_diary_102 : decode cX5_diary 102 = .ok (.invokestatic 222, 3) := by decide +kernel
theorem dX5_diary_105 : decode cX5_diary 105 = .ok (.goto 5, 3) := by decide +kernel
theorem dX5_diary_108 : decode cX5_diary 108 = .ok (.bipush (-9), 2) := by decide +kernel
theorem dX5_diary_110 : decode cX5_diary 110 = .ok (.putfield 67, 3) := by decide +kernel
theorem dX5_diary_113 : decode cX5_diary 113 = .ok (.iload_n 3, 1) := by decide +kernel
theorem dX5_diary_114 : decode cX5_diary 114 = .ok (.ireturn, 1) := by decide +kernel
theorem dX5_forged_0 : decode cX5_forged 0 = .ok (.aload_n 0, 1) := by decide +kernel
theorem dX5_forged_1 : decode cX5_forged 1 = .ok (.iload_n 1, 1) := by decide +kernel
theorem dX5_forged_2 : decode cX5_forged 2 = .ok (.invokevirtual 285, 3) := by decide +kernel
theorem dX5_forged_5 : decode cX5_forged 5 = .ok (.istore_n 2, 1) := by decide +kernel
theorem dX5_forged_6 : decode cX5_forged 6 = .ok (.iload_n 2, 1) := by decide +kernel
theorem dX5_forged_7 : decode cX5_forged 7 = .ok (.ifCond .eq 5, 3) := by decide +kernel
theorem dX5_forged_10 : decode cX5_forged 10 = .ok (.iload_n 2, 1) := by decide +kernel
theorem dX5_forged_11 : decode cX5_forged 11 = .ok (.ireturn, 1) := by decide +kernel
theorem dX5_forged_12 : decode cX5_forged 12 = .ok (.iconst 0, 1) := by decide +kernel
theorem dX5_forged_13 : decode cX5_forged 13 = .ok (.istore_n 3, 1) := by decide +kernel
theorem dX5_forged_14 : decode cX5_forged 14 = .ok (.iload_n 3, 1) := by decide +kernel
theorem dX5_forged_15 : decode cX5_forged 15 = .ok (.aload_n 0, 1) := by decide +kernel
theorem dX5_forged_16 : decode cX5_forged 16 = .ok (.getfield 14, 3) := by decide +kernel
theorem dX5_forged_19 : decode cX5_forged 19 = .ok (.getfield 108, 3) := by decide +kernel
theorem dX5_forged_22 : decode cX5_forged 22 = .ok (.iload_n 1, 1) := by decide +kernel
theorem dX5_forged_23 : decode cX5_forged 23 = .ok (.iaload, 1) := by decide +kernel
theorem dX5_forged_24 : decode cX5_forged 24 = .ok (.if_icmp .ge 28, 3) := by decide +kernel
theorem dX5_forged_27 : decode cX5_forged 27 = .ok (.aload_n 0, 1) := by decide +kernel
theorem dX5_forged_28 : decode cX5_forged 28 = .ok (.aload_n 0, 1) := by decide +kernel
theorem dX5_forged_29 : decode cX5_forged 29 = .ok (.getfield 14, 3) := by decide +kernel
theorem dX5_forged_32 : decode cX5_forged 32 = .ok (.getfield 100, 3) := by decide +kernel
theorem dX5_forged_35 : decode cX5_forged 35 = .ok (.iload_n 1, 1) := by decide +kernel
theorem dX5_forged_36 : decode cX5_forged 36 = .ok (.aaload, 1) := by decide +kernel
theorem dX5_forged_37 : decode cX5_forged 37 = .ok (.iload_n 3, 1) := by decide +kernel
theorem dX5_forged_38 : decode cX5_forged 38 = .ok (.invokevirtual 288, 3) := by decide +kernel
theorem dX5_forged_41 : decode cX5_forged 41 = .ok (.ifCond .ne 5, 3) := by decide +kernel
theorem dX5_forged_44 : decode cX5_forged 44 = .ok (.iload_n 3, 1) := by decide +kernel
theorem dX5_forged_45 : decode cX5_forged 45 = .ok (.ireturn, 1) := by decide +kernel
theorem dX5_forged_46 : decode cX5_forged 46 = .ok (.iinc 3 1, 3) := by decide +kernel
theorem dX5_forged_49 : decode cX5_forged 49 = .ok (.goto (-35), 3) := by decide +kernel
theorem dX5_forged_52 : decode cX5_forged 52 = .ok (.bipush (-9), 2) := by decide +kernel
theorem dX5_forged_54 : decode cX5_forged 54 = .ok (.ireturn, 1) := by decide +kernel
theorem dX5_stolen_0 : decode cX5_stolen 0 = .ok (.iload_n 1, 1) := by decide +kernel
theorem dX5_stolen_1 : decode cX5_stolen 1 = .ok (.ifCond .lt 19, 3) := by decide +kernel
theorem dX5_stolen_4 : decode cX5_stolen 4 = .ok (.iload_n 1, 1) := by decide +kernel
theorem dX5_stolen_5 : decode cX5_stolen 5 = .ok (.bipush 7, 2) := by decide +kernel
theorem dX5_stolen_7 : decode cX5_stolen 7 = .ok (.if_icmp .gt 13, 3) := by decide +kernel
theorem dX5_stolen_10 : decode cX5_stolen 10 = .ok (.iload_n 2, 1) := by decide +kernel
theorem dX5_stolen_11 : decode cX5_stolen 11 = .ok (.ifCond .lt 9, 3) := by decide +kernel
theorem dX5_stolen_14 : decode cX5_stolen 14 = .ok (.iload_n 2, 1) := by decide +kernel
theorem dX5_stolen_15 : decode cX5_stolen 15 = .ok (.bipush 20, 2) := by decide +kernel
theorem dX5_stolen_17 : decode cX5_stolen 17 = .ok (.if_icmp .le 5, 3) := by decide +kernel
theorem dX5_stolen_20 : decode cX5_stolen 20 = .ok (.iconst (-1), 1) := by decide +kernel
theorem dX5_stolen_21 : decode cX5_stolen 21 = .ok (.ireturn, 1) := by decide +kernel
theorem dX5_stolen_22 : decode cX5_stolen 22 = .ok (.aload_n 0, 1) := by decide +kernel
theorem dX5_stolen_23 : decode cX5_stolen 23 = .ok (.getfield 40, 3) := by decide +kernel
theorem dX5_stolen_26 : decode cX5_stolen 26 = .ok (.iload_n 2, 1) := by decide +kernel
theorem dX5_stolen_27 : decode cX5_stolen 27 = .ok (.invokevirtual 294, 3) := by decide +kernel
theorem dX5_stolen_30 : decode cX5_stolen 30 = .ok (.istore_n 3, 1) := by decide +kernel
theorem dX5_stolen_31 : decode cX5_stolen 31 = .ok (.iload_n 3, 1) := by decide +kernel
theorem dX5_stolen_32 : decode cX5_stolen 32 = .ok (.invokestatic 173, 3) := by decide +kernel
theorem dX5_stolen_35 : decode cX5_stolen 35 = .ok (.iload_n 1, 1) := by decide +kernel
theorem dX5_stolen_36 : decode cX5_stolen 36 = .ok (.iconst 1, 1) := by decide +kernel
theorem dX5_stolen_37 : decode cX5_stolen 37 = .ok (.iadd, 1) := by decide +kernel
theorem dX5_stolen_38 : decode cX5_stolen 38 = .ok (.if_icmp .ne 7, 3) := by decide +kernel
theorem dX5_stolen_41 : decode cX5_stolen 41 = .ok (.iload_n 3, 1) := by decide +kernel
theorem dX5_stolen_42 : decode cX5_stolen 42 = .ok (.goto 4, 3) := by decide +kernel
theorem dX5_stolen_45 : decode cX5_stolen 45 = .ok (.iconst 0, 1) := by decide +kernel
theorem dX5_stolen_46 : decode cX5_stolen 46 = .ok (.ireturn, 1) := by decide +kernel
theorem dX5_odds_0 : decode cX5_odds 0 = .ok (.aload_n 0, 1) := by decide +kernel
theorem dX5_odds_1 : decode cX5_odds 1 = .ok (.getfield 31, 3) := by decide +kernel
theorem dX5_odds_4 : decode cX5_odds 4 = .ok (.iload_n 1, 1) := by decide +kernel
theorem dX5_odds_5 : decode cX5_odds 5 = .ok (.invokevirtual 143, 3) := by decide +kernel
theorem dX5_odds_8 : decode cX5_odds 8 = .ok (.ifCond .ne 5, 3) := by decide +kernel
theorem dX5_odds_11 : decode cX5_odds 11 = .ok (.iconst (-1), 1) := by decide +kernel
theorem dX5_odds_12 : decode cX5_odds 12 = .ok (.ireturn, 1) := by decide +kernel
theorem dX5_odds_13 : decode cX5_odds 13 = .ok (.aload_n 0, 1) := by decide +kernel
theorem dX5_odds_14 : decode cX5_odds 14 = .ok (.getfield 40, 3) := by decide +kernel
theorem dX5_odds_17 : decode cX5_odds 17 = .ok (.invokevirtual 209, 3) := by decide +kernel
theorem dX5_odds_20 : decode cX5_odds 20 = .ok (.istore_n 2, 1) := by decide +kernel
theorem dX5_odds_21 : decode cX5_odds 21 = .ok (.aload_n 0, 1) := by decide +kernel
theorem dX5_odds_22 : decode cX5_odds 22 = .ok (.getfield 55, 3) := by decide +kernel
theorem dX5_odds_25 : decode cX5_odds 25 = .ok (.aload_n 0, 1) := by decide +kernel
theorem dX5_odds_26 : decode cX5_odds 26 = .ok (.getfield 40, 3) := by decide +kernel
theorem dX5_odds_29 : decode cX5_odds 29 = .ok (.iload_n 2, 1) := by decide +kernel
theorem dX5_odds_30 : decode cX5_odds 30 = .ok (.invokevirtual 254, 3) := by decide +kernel
theorem dX5_odds_33 : decode cX5_odds 33 = .ok (.aload_n 0, 1) := by decide +kernel
theorem dX5_odds_34 : decode cX5_odds 34 = .ok (.getfield 55, 3) := by decide +kernel
theorem dX5_odds_37 : decode cX5_odds 37 = .ok (.iload_n 1, 1) := by decide +kernel
theorem dX5_odds_38 : decode cX5_odds 38 = .ok (.invokevirtual 297, 3) := by decide +kernel
theorem dX5_odds_41 : decode cX5_odds 41 = .ok (.i2l, 1) := by decide +kernel
theorem dX5_odds_42 : decode cX5_odds 42 = .ok (.lstore_n 3, 1) := by decide +kernel
theorem dX5_odds_43 : decode cX5_odds 43 = .ok (.lconst 1, 1) := by decide +kernel
theorem dX5_odds_44 : decode cX5_odds 44 = .ok (.iload_n 2, 1) := by decide +kernel
theorem dX5_odds_45 : decode cX5_odds 45 = .ok (.invokestatic 173, 3) := by decide +kernel
theorem dX5_odds_48 : decode cX5_odds 48 = .ok (.lshl, 1) := by decide +kernel
theorem dX5_odds_49 : decode cX5_odds 49 = .ok (.lstore 5, 2) := by decide +kernel
theorem dX5_odds_51 : decode cX5_odds 51 = .ok (.iconst 0, 1) := by decide +kernel
theorem dX5_odds_52 : decode cX5_odds 52 = .ok (.istore 7, 2) := by decide +kernel
theorem dX5_odds_54 : decode cX5_odds 54 = .ok (.iload 7, 2) := by decide +kernel
theorem dX5_odds_56 : decode cX5_odds 56 = .ok (.bipush 7, 2) := by decide +kernel
theorem dX5_odds_58 : decode cX5_odds 58 = .ok (.if_icmp .ge 44, 3) := by decide +kernel
theorem dX5_odds_61 : decode cX5_odds 61 = .ok (.lload_n 3, 1) := by decide +kernel
theorem dX5_odds_62 : decode cX5_odds 62 = .ok (.ldc2_w 300, 3) := by decide +kernel
theorem dX5_odds_65 : decode cX5_odds 65 = .ok (.lrem, 1) := by decide +kernel
theorem dX5_odds_66 : decode cX5_odds 66 = .ok (.lconst 0, 1) := by decide +kernel
theorem dX5_odds_67 : decode cX5_odds 67 = .ok (.lcmp, 1) := by decide +kernel
theorem dX5_odds_68 : decode cX5_odds 68 = .ok (.ifCond .ne 34, 3) := by decide +kernel
theorem dX5_odds_71 : decode cX5_odds 71 = .ok (.lload 5, 2) := by decide +kernel
theorem dX5_odds_73 : decode cX5_odds 73 = .ok (.ldc2_w 300, 3) := by decide +kernel
theorem dX5_odds_76 : decode cX5_odds 76 = .ok (.lrem, 1) := by decide +kernel
theorem dX5_odds_77 : decode cX5_odds 77 = .ok (.lconst 0, 1) := by decide +kernel
theorem dX5_odds_78 : decode cX5_odds 78 = .ok (.lcmp, 1) := by decide +kernel
theorem dX5_odds_79 : decode cX5_odds 79 = .ok (.ifCond .ne 23, 3) := by decide +kernel
theorem dX5_odds_82 : decode cX5_odds 82 = .ok (.lload_n 3, 1) := by decide +kernel
theorem dX5_odds_83 : decode cX5_odds 83 = .ok (.ldc2_w 300, 3) := by decide +kernel
theorem dX5_odds_86 : decode cX5_odds 86 = .ok (.ldiv, 1) := by decide +kernel
theorem dX5_odds_87 : decode cX5_odds 87 = .ok (.lstore_n 3, 1) := by decide +kernel
theorem dX5_odds_88 : decode cX5_odds 88 = .ok (.lload 5, 2) := by decide +kernel
theorem dX5_odds_90 : decode cX5_odds 90 = .ok (.ldc2_w 300, 3) := by decide +kernel
theorem dX5_odds_93 : decode cX5_odds 93 = .ok (.ldiv, 1) := by decide +kernel
theorem dX5_odds_94 : decode cX5_odds 94 = .ok (.lstore 5, 2) := by decide +kernel
theorem dX5_odds_96 : decode cX5_odds 96 = .ok (.iinc 7 1, 3) := by decide +kernel
theorem dX5_odds_99 : decode cX5_odds 99 = .ok (.goto (-45), 3) := by decide +kernel
theorem dX5_odds_102 : decode cX5_odds 102 = .ok (.aload_n 0, 1) := by decide +kernel
theorem dX5_odds_103 : decode cX5_odds 103 = .ok (.lload_n 3, 1) := by decide +kernel
theorem dX5_odds_104 : decode cX5_odds 104 = .ok (.putfield 70, 3) := by decide +kernel
theorem dX5_odds_107 : decode cX5_odds 107 = .ok (.aload_n 0, 1) := by decide +kernel
theorem dX5_odds_108 : decode cX5_odds 108 = .ok (.lload 5, 2) := by decide +kernel
theorem dX5_odds_110 : decode cX5_odds 110 = .ok (.putfield 74, 3) := by decide +kernel
theorem dX5_odds_113 : decode cX5_odds 113 = .ok (.iconst 1, 1) := by decide +kernel
theorem dX5_odds_114 : decode cX5_odds 114 = .ok (.ireturn, 1) := by decide +kernel
theorem dX5_lots_0 : decode cX5_lots 0 = .ok (.iload_n 1, 1) := by decide +kernel
theorem dX5_lots_1 : decode cX5_lots 1 = .ok (.iconst 1, 1) := by decide +kernel
theorem dX5_lots_2 : decode cX5_lots 2 = .ok (.if_icmp .lt 21, 3) := by decide +kernel
theorem dX5_lots_5 : decode cX5_lots 5 = .ok (.iload_n 1, 1) := by decide +kernel
theorem dX5_lots_6 : decode cX5_lots 6 = .ok (.bipush 20, 2) := by decide +kernel
theorem dX5_lots_8 : decode cX5_lots 8 = .ok (.if_icmp .gt 15, 3) := by decide +kernel
theorem dX5_lots_11 : decode cX5_lots 11 = .ok (.iload_n 2, 1) := by decide +kernel
theorem dX5_lots_12 : decode cX5_lots 12 = .ok (.iconst 1, 1) := by decide +kernel
theorem dX5_lots_13 : decode cX5_lots 13 = .ok (.if_icmp .lt 10, 3) := by decide +kernel
theorem dX5_lots_16 : decode cX5_lots 16 = .ok (.iload_n 2, 1) := by decide +kernel
theorem dX5_lots_17 : decode cX5_lots 17 = .ok (.ldc_w 302, 3) := by decide +kernel
theorem dX5_lots_20 : decode cX5_lots 20 = .ok (.if_icmp .le 5, 3) := by decide +kernel
theorem dX5_lots_23 : decode cX5_lots 23 = .ok (.iconst (-1), 1) := by decide +kernel
theorem dX5_lots_24 : decode cX5_lots 24 = .ok (.ireturn, 1) := by decide +kernel
theorem dX5_lots_25 : decode cX5_lots 25 = .ok (.aload_n 0, 1) := by decide +kernel
theorem dX5_lots_26 : decode cX5_lots 26 = .ok (.getfield 31, 3) := by decide +kernel
theorem dX5_lots_29 : decode cX5_lots 29 = .ok (.getfield 140, 3) := by decide +kernel
theorem dX5_lots_32 : decode cX5_lots 32 = .ok (.ifCond .ne 6, 3) := by decide +kernel
theorem dX5_lots_35 : decode cX5_lots 35 = .ok (.bipush (-4), 2) := by decide +kernel
theorem dX5_lots_37 : decode cX5_lots 37 = .ok (.ireturn, 1) := by decide +kernel
theorem dX5_lots_38 : decode cX5_lots 38 = .ok (.aload_n 0, 1) := by decide +kernel
theorem dX5_lots_39 : decode cX5_lots 39 = .ok (.getfield 40, 3) := by decide +kernel
theorem dX5_lots_42 : decode cX5_lots 42 = .ok (.getfield 178, 3) := by decide +kernel
theorem dX5_lots_45 : decode cX5_lots 45 = .ok (.invokestatic 173, 3) := by decide +kernel
theorem dX5_lots_48 : decode cX5_lots 48 = .ok (.istore_n 3, 1) := by decide +kernel
theorem dX5_lots_49 : decode cX5_lots 49 = .ok (.iload_n 2, 1) := by decide +kernel
theorem dX5_lots_50 : decode cX5_lots 50 = .ok (.i2l, 1) := by decide +kernel
theorem dX5_lots_51 : decode cX5_lots 51 = .ok (.lstore 4, 2) := by decide +kernel
theorem dX5_lots_53 : decode cX5_lots 53 = .ok (.iconst 0, 1) := by decide +kernel
theorem dX5_lots_54 : decode cX5_lots 54 = .ok (.istore 6, 2) := by decide +kernel
theorem dX5_lots_56 : decode cX5_lots 56 = .ok (.iload 6, 2) := by decide +kernel
theorem dX5_lots_58 : decode cX5_lots 58 = .ok (.iload_n 1, 1) := by decide +kernel
theorem dX5_lots_59 : decode cX5_lots 59 = .ok (.if_icmp .ge 38, 3) := by decide +kernel
theorem dX5_lots_62 : decode cX5_lots 62 = .ok (.aload_n 0, 1) := by decide +kernel
theorem dX5_lots_63 : decode cX5_lots 63 = .ok (.getfield 40, 3) := by decide +kernel
theorem dX5_lots_66 : decode cX5_lots 66 = .ok (.invokevirtual 193, 3) := by decide +kernel
theorem dX5_lots_69 : decode cX5_lots 69 = .ok (.ifCond .ne 28, 3) := by decide +kernel
theorem dX5_lots_72 : decode cX5_lots 72 = .ok (.lload 4, 2) := by decide +kernel
theorem dX5_lots_74 : decode cX5_lots 74 = .ok (.ldc2_w 303, 3) := by decide +kernel
theorem dX5_lots_77 : decode cX5_lots 77 = .ok (.lmul, 1) := by decide +kernel
theorem dX5_lots_78 : decode cX5_lots 78 = .ok (.ldc2_w 305, 3) := by decide +kernel
theorem dX5_lots_81 : decode cX5_lots 81 = .ok (.lrem, 1) := by decide +kernel
theorem dX5_lots_82 : decode cX5_lots 82 = .ok (.lstore 4, 2) := by decide +kernel
theorem dX5_lots_84 : decode cX5_lots 84 = .ok (.aload_n 0, 1) := by decide +kernel
theorem dX5_lots_85 : decode cX5_lots 85 = .ok (.lload 4, 2) := by decide +kernel
theorem dX5_lots_87 : decode cX5_lots 87 = .ok (.l2i, 1) := by decide +kernel
theorem dX5_lots_88 : decode cX5_lots 88 = .ok (.invokevirtual 307, 3) := by decide +kernel
theorem dX5_lots_91 : decode cX5_lots 91 = .ok (.iinc 6 1, 3) := by decide +kernel
theorem dX5_lots_94 : decode cX5_lots 94 = .ok (.goto (-38), 3) := by decide +kernel
theorem dX5_lots_97 : decode cX5_lots 97 = .ok (.aload_n 0, 1) := by decide +kernel
theorem dX5_lots_98 : decode cX5_lots 98 = .ok (.getfield 40, 3) := by decide +kernel
theorem dX5_lots_101 : decode cX5_lots 101 = .ok (.getfield 178, 3) := by decide +kernel
theorem dX5_lots_104 : decode cX5_lots 104 = .ok (.invokestatic 173, 3) := by decide +kernel
theorem dX5_lots_107 : decode cX5_lots 107 = .ok (.iload_n 3, 1) := by decide +kernel
theorem dX5_lots_108 : decode cX5_lots 108 = .ok (.isub, 1) := by decide +kernel
theorem dX5_lots_109 : decode cX5_lots 109 = .ok (.ireturn, 1) := by decide +kernel
theorem dX5_asked_0 : decode cX5_asked 0 = .ok (.aload_n 0, 1) := by decide +kernel
theorem dX5_asked_1 : decode cX5_asked 1 = .ok (.getfield 67, 3) := by decide +kernel
theorem dX5_asked_4 : decode cX5_asked 4 = .ok (.ireturn, 1) := by decide +kernel
theorem dX5_upper_0 : decode cX5_upper 0 = .ok (.aload_n 0, 1) := by decide +kernel
theorem dX5_upper_1 : decode cX5_upper 1 = .ok (.getfield 70, 3) := by decide +kernel
theorem dX5_upper_4 : decode cX5_upper 4 = .ok (.lreturn, 1) := by decide +kernel
theorem dX5_lower_0 : decode cX5_lower 0 = .ok (.aload_n 0, 1) := by decide +kernel
theorem dX5_lower_1 : decode cX5_lower 1 = .ok (.getfield 74, 3) := by decide +kernel
theorem dX5_lower_4 : decode cX5_lower 4 = .ok (.lreturn, 1) := by decide +kernel
theorem dX5_count_0 : decode cX5_count 0 = .ok (.iload_n 1, 1) := by decide +kernel
theorem dX5_count_1 : decode cX5_count 1 = .ok (.ifCond .lt 9, 3) := by decide +kernel
theorem dX5_count_4 : decode cX5_count 4 = .ok (.iload_n 1, 1) := by decide +kernel
theorem dX5_count_5 : decode cX5_count 5 = .ok (.bipush 9, 2) := by decide +kernel
theorem dX5_count_7 : decode cX5_count 7 = .ok (.if_icmp .lt 7, 3) := by decide +kernel
theorem dX5_count_10 : decode cX5_count 10 = .ok (.iconst (-1), 1) := by decide +kernel
theorem dX5_count_11 : decode cX5_count 11 = .ok (.goto 8, 3) := by decide +kernel
theorem dX5_count_14 : decode cX5_count 14 = .ok (.aload_n 0, 1) := by decide +kernel
theorem dX5_count_15 : decode cX5_count 15 = .ok (.iload_n 1, 1) := by decide +kernel
theorem dX5_count_16 : decode cX5_count 16 = .ok (.invokevirtual 311, 3) := by decide +kernel
theorem dX5_count_19 : decode cX5_count 19 = .ok (.ireturn, 1) := by decide +kernel
theorem dX5_finding_0 : decode cX5_finding 0 = .ok (.aload_n 0, 1) := by decide +kernel
theorem dX5_finding_1 : decode cX5_finding 1 = .ok (.getfield 63, 3) := by decide +kernel
theorem dX5_finding_4 : decode cX5_finding 4 = .ok (.ireturn, 1) := by decide +kernel
theorem dX5_findings_0 : decode cX5_findings 0 = .ok (.iload_n 1, 1) := by decide +kernel
theorem dX5_findings_1 : decode cX5_findings 1 = .ok (.iconst 1, 1) := by decide +kernel
theorem dX5_findings_2 : decode cX5_findings 2 = .ok (.if_icmp .lt 8, 3) := by decide +kernel
theorem dX5_findings_5 : decode cX5_findings 5 = .ok (.iload_n 1, 1) := by decide +kernel
theorem dX5_findings_6 : decode cX5_findings 6 = .ok (.iconst 5, 1) := by decide +kernel
theorem dX5_findings_7 : decode cX5_findings 7 = .ok (.if_icmp .le 7, 3) := by decide +kernel
theorem dX5_findings_10 : decode cX5_findings 10 = .ok (.iconst (-1), 1) := by decide +kernel
theorem dX5_findings_11 : decode cX5_findings 11 = .ok (.goto 9, 3) := by decide +kernel
theorem dX5_findings_14 : decode cX5_findings 14 = .ok (.aload_n 0, 1) := by decide +kernel
theorem dX5_findings_15 : decode cX5_findings 15 = .ok (.getfield 59, 3) := by decide +kernel
theorem dX5_findings_18 : decode cX5_findings 18 = .ok (.iload_n 1, 1) := by decide +kernel
theorem dX5_findings_19 : decode cX5_findings 19 = .ok (.iaload, 1) := by decide +kernel
theorem dX5_findings_20 : decode cX5_findings 20 = .ok (.ireturn, 1) := by decide +kernel
theorem dX5_digest_0 : decode cX5_digest 0 = .ok (.ldc2_w 314, 3) := by decide +kernel
theorem dX5_digest_3 : decode cX5_digest 3 = .ok (.lstore_n 1, 1) := by decide +kernel
theorem dX5_digest_4 : decode cX5_digest 4 = .ok (.iconst 0, 1) := by decide +kernel
theorem dX5_digest_5 : decode cX5_digest 5 = .ok (.istore_n 3, 1) := by decide +kernel
theorem dX5_digest_6 : decode cX5_digest 6 = .ok (.iload_n 3, 1) := by decide +kernel
theorem dX5_digest_7 : decode cX5_digest 7 = .ok (.bipush 9, 2) := by decide +kernel
theorem dX5_digest_9 : decode cX5_digest 9 = .ok (.if_icmp .ge 22, 3) := by decide +kernel
theorem dX5_digest_12 : decode cX5_digest 12 = .ok (.ldc2_w 316, 3) := by decide +kernel
theorem dX5_digest_15 : decode cX5_digest 15 = .ok (.lload_n 1, 1) := by decide +kernel
theorem dX5_digest_16 : decode cX5_digest 16 = .ok (.lmul, 1) := by decide +kernel
theorem dX5_digest_17 : decode cX5_digest 17 = .ok (.aload_n 0, 1) := by decide +kernel
theorem dX5_digest_18 : decode cX5_digest 18 = .ok (.iload_n 3, 1) := by decide +kernel
theorem dX5_digest_19 : decode cX5_digest 19 = .ok (.invokevirtual 311, 3) := by decide +kernel
theorem dX5_digest_22 : decode cX5_digest 22 = .ok (.i2l, 1) := by decide +kernel
theorem dX5_digest_23 : decode cX5_digest 23 = .ok (.ladd, 1) := by decide +kernel
theorem dX5_digest_24 : decode cX5_digest 24 = .ok (.lstore_n 1, 1) := by decide +kernel
theorem dX5_digest_25 : decode cX5_digest 25 = .ok (.iinc 3 1, 3) := by decide +kernel
theorem dX5_digest_28 : decode cX5_digest 28 = .ok (.goto (-22), 3) := by decide +kernel
theorem dX5_digest_31 : decode cX5_digest 31 = .ok (.ldc2_w 316, 3) := by decide +kernel
theorem dX5_digest_34 : decode cX5_digest 34 = .ok (.lload_n 1, 1) := by decide +kernel
theorem dX5_digest_35 : decode cX5_digest 35 = .ok (.lmul, 1) := by decide +kernel
theorem dX5_digest_36 : decode cX5_digest 36 = .ok (.aload_n 0, 1) := by decide +kernel
theorem dX5_digest_37 : decode cX5_digest 37 = .ok (.getfield 40, 3) := by decide +kernel
theorem dX5_digest_40 : decode cX5_digest 40 = .ok (.getfield 200, 3) := by decide +kernel
theorem dX5_digest_43 : decode cX5_digest 43 = .ok (.i2l, 1) := by decide +kernel
theorem dX5_digest_44 : decode cX5_digest 44 = .ok (.ladd, 1) := by decide +kernel
theorem dX5_digest_45 : decode cX5_digest 45 = .ok (.lstore_n 1, 1) := by decide +kernel
theorem dX5_digest_46 : decode cX5_digest 46 = .ok (.iconst 0, 1) := by decide +kernel
theorem dX5_digest_47 : decode cX5_digest 47 = .ok (.istore_n 3, 1) := by decide +kernel
theorem dX5_digest_48 : decode cX5_digest 48 = .ok (.iload_n 3, 1) := by decide +kernel
theorem dX5_digest_49 : decode cX5_digest 49 = .ok (.iconst 3, 1) := by decide +kernel
theorem dX5_digest_50 : decode cX5_digest 50 = .ok (.if_icmp .ge 26, 3) := by decide +kernel
theorem dX5_digest_53 : decode cX5_digest 53 = .ok (.ldc2_w 316, 3) := by decide +kernel
theorem dX5_digest_56 : decode cX5_digest 56 = .ok (.lload_n 1, 1) := by decide +kernel
theorem dX5_digest_57 : decode cX5_digest 57 = .ok (.lmul, 1) := by decide +kernel
theorem dX5_digest_58 : decode cX5_digest 58 = .ok (.aload_n 0, 1) := by decide +kernel
theorem dX5_digest_59 : decode cX5_digest 59 = .ok (.getfield 40, 3) := by decide +kernel
theorem dX5_digest_62 : decode cX5_digest 62 = .ok (.getfield 190, 3) := by decide +kernel
theorem dX5_digest_65 : decode cX5_digest 65 = .ok (.iload_n 3, 1) := by decide +kernel
theorem dX5_digest_66 : decode cX5_digest 66 = .ok (.iaload, 1) := by decide +kernel
theorem dX5_digest_67 : decode cX5_digest 67 = .ok (.i2l, 1) := by decide +kernel
theorem dX5_digest_68 : decode cX5_digest 68 = .ok (.ladd, 1) := by decide +kernel
theorem dX5_digest_69 : decode cX5_digest 69 = .ok (.lstore_n 1, 1) := by decide +kernel
theorem dX5_digest_70 : decode cX5_digest 70 = .ok (.iinc 3 1, 3) := by decide +kernel
theorem dX5_digest_73 : decode cX5_digest 73 = .ok (.goto (-25), 3) := by decide +kernel
theorem dX5_digest_76 : decode cX5_digest 76 = .ok (.iconst 0, 1) := by decide +kernel
theorem dX5_digest_77 : decode cX5_digest 77 = .ok (.istore_n 3, 1) := by decide +kernel
theorem dX5_digest_78 : decode cX5_digest 78 = .ok (.iload_n 3, 1) := by decide +kernel
theorem dX5_digest_79 : decode cX5_digest 79 = .ok (.aload_n 0, 1) := by decide +kernel
theorem dX5_digest_80 : decode cX5_digest 80 = .ok (.getfield 31, 3) := by decide +kernel
theorem dX5_digest_83 : decode cX5_digest 83 = .ok (.getfield 140, 3) := by decide +kernel
theorem dX5_digest_86 : decode cX5_digest 86 = .ok (.if_icmp .ge 39, 3) := by decide +kernel
theorem dX5_digest_89 : decode cX5_digest 89 = .ok (.iconst 0, 1) := by decide +kernel
theorem dX5_digest_90 : decode cX5_digest 90 = .ok (.istore 4, 2) := by decide +kernel
theorem dX5_digest_92 : decode cX5_digest 92 = .ok (.iload 4, 2) := by decide +kernel
theorem dX5_digest_94 : decode cX5_digest 94 = .ok (.iconst 5, 1) := by decide +kernel
theorem dX5_digest_95 : decode cX5_digest 95 = .ok (.if_icmp .ge 24, 3) := by decide +kernel
theorem dX5_digest_98 : decode cX5_digest 98 = .ok (.ldc2_w 316, 3) := by decide +kernel
theorem dX5_digest_101 : decode cX5_digest 101 = .ok (.lload_n 1, 1) := by decide +kernel
theorem dX5_digest_102 : decode cX5_digest 102 = .ok (.lmul, 1) := by decide +kernel
theorem dX5_digest_103 : decode cX5_digest 103 = .ok (.aload_n 0, 1) := by decide +kernel
theorem dX5_digest_104 : decode cX5_digest 104 = .ok (.iload_n 3, 1) := by decide +kernel
theorem dX5_digest_105 : decode cX5_digest 105 = .ok (.iload 4, 2) := by decide +kernel
theorem dX5_digest_107 : decode cX5_digest 107 = .ok (.invokevirtual 146, 3) := by decide +kernel
theorem dX5_digest_110 : decode cX5_digest 110 = .ok (.i2l, 1) := by decide +kernel
theorem dX5_digest_111 : decode cX5_digest 111 = .ok (.ladd, 1) := by decide +kernel
theorem dX5_digest_112 : decode cX5_digest 112 = .ok (.lstore_n 1, 1) := by decide +kernel
theorem dX5_digest_113 : decode cX5_digest 113 = .ok (.iinc 4 1, 3) := by decide +kernel
theorem dX5_digest_116 : decode cX5_digest 116 = .ok (.goto (-24), 3) := by decide +kernel
theorem dX5_digest_119 : decode cX5_digest 119 = .ok (.iinc 3 1, 3) := by decide +kernel
theorem dX5_digest_122 : decode cX5_digest 122 = .ok (.goto (-44), 3) := by decide +kernel
theorem dX5_digest_125 : decode cX5_digest 125 = .ok (.iconst 0, 1) := by decide +kernel
theorem dX5_digest_126 : decode cX5_digest 126 = .ok (.istore_n 3, 1) := by decide +kernel
theorem dX5_digest_127 : decode cX5_digest 127 = .ok (.iload_n 3, 1) := by decide +kernel
theorem dX5_digest_128 : decode cX5_digest 128 = .ok (.aload_n 0, 1) := by decide +kernel
theorem dX5_digest_129 : decode cX5_digest 129 = .ok (.getfield 31, 3) := by decide +kernel
theorem dX5_digest_132 : decode cX5_digest 132 = .ok (.getfield 228, 3) := by decide +kernel
theorem dX5_digest_135 : decode cX5_digest 135 = .ok (.if_icmp .ge 39, 3) := by decide +kernel
theorem dX5_digest_138 : decode cX5_digest 138 = .ok (.iconst 0, 1) := by decide +kernel
theorem dX5_digest_139 : decode cX5_digest 139 = .ok (.istore 4, 2) := by decide +kernel
theorem dX5_digest_141 : decode cX5_digest 141 = .ok (.iload 4, 2) := by decide +kernel
theorem dX5_digest_143 : decode cX5_digest 143 = .ok (.iconst 5, 1) := by decide +kernel
theorem dX5_digest_144 : decode cX5_digest 144 = .ok (.if_icmp .ge 24, 3) := by decide +kernel
theorem dX5_digest_147 : decode cX5_digest 147 = .ok (.ldc2_w 316, 3) := by decide +kernel
theorem dX5_digest_150 : decode cX5_digest 150 = .ok (.lload_n 1, 1) := by decide +kernel
theorem dX5_digest_151 : decode cX5_digest 151 = .ok (.lmul, 1) := by decide +kernel
theorem dX5_digest_152 : decode cX5_digest 152 = .ok (.aload_n 0, 1) := by decide +kernel
theorem dX5_digest_153 : decode cX5_digest 153 = .ok (.iload_n 3, 1) := by decide +kernel
theorem dX5_digest_154 : decode cX5_digest 154 = .ok (.iload 4, 2) := by decide +kernel
theorem dX5_digest_156 : decode cX5_digest 156 = .ok (.invokevirtual 153, 3) := by decide +kernel
theorem dX5_digest_159 : decode cX5_digest 159 = .ok (.i2l, 1) := by decide +kernel
theorem dX5_digest_160 : decode cX5_digest 160 = .ok (.ladd, 1) := by decide +kernel
theorem dX5_digest_161 : decode cX5_digest 161 = .ok (.lstore_n 1, 1) := by decide +kernel
theorem dX5_digest_162 : decode cX5_digest 162 = .ok (.iinc 4 1, 3) := by decide +kernel
theorem dX5_digest_165 : decode cX5_digest 165 = .ok (.goto (-24), 3) := by decide +kernel
theorem dX5_digest_168 : decode cX5_digest 168 = .ok (.iinc 3 1, 3) := by decide +kernel
theorem dX5_digest_171 : decode cX5_digest 171 = .ok (.goto (-44), 3) := by decide +kernel
theorem dX5_digest_174 : decode cX5_digest 174 = .ok (.iconst 0, 1) := by decide +kernel
theorem dX5_digest_175 : decode cX5_digest 175 = .ok (.istore_n 3, 1) := by decide +kernel
theorem dX5_digest_176 : decode cX5_digest 176 = .ok (.iload_n 3, 1) := by decide +kernel
theorem dX5_digest_177 : decode cX5_digest 177 = .ok (.iconst 3, 1) := by decide +kernel
theorem dX5_digest_178 : decode cX5_digest 178 = .ok (.if_icmp .ge 39, 3) := by decide +kernel
theorem dX5_digest_181 : decode cX5_digest 181 = .ok (.ldc2_w 316, 3) := by decide +kernel
theorem dX5_digest_184 : decode cX5_digest 184 = .ok (.lload_n 1, 1) := by decide +kernel
theorem dX5_digest_185 : decode cX5_digest 185 = .ok (.lmul, 1) := by decide +kernel
theorem dX5_digest_186 : decode cX5_digest 186 = .ok (.aload_n 0, 1) := by decide +kernel
theorem dX5_digest_187 : decode cX5_digest 187 = .ok (.getfield 48, 3) := by decide +kernel
theorem dX5_digest_190 : decode cX5_digest 190 = .ok (.iload_n 3, 1) := by decide +kernel
theorem dX5_digest_191 : decode cX5_digest 191 = .ok (.baload, 1) := by decide +kernel
theorem dX5_digest_192 : decode cX5_digest 192 = .ok (.ifCond .eq 15, 3) := by decide +kernel
theorem dX5_digest_195 : decode cX5_digest 195 = .ok (.aload_n 0, 1) := by decide +kernel
theorem dX5_digest_196 : decode cX5_digest 196 = .ok (.getfield 44, 3) := by decide +kernel
theorem dX5_digest_199 : decode cX5_digest 199 = .ok (.iload_n 3, 1) := by decide +kernel
theorem dX5_digest_200 : decode cX5_digest 200 = .ok (.aaload, 1) := by decide +kernel
theorem dX5_digest_201 : decode cX5_digest 201 = .ok (.getfield 187, 3) := by decide +kernel
theorem dX5_digest_204 : decode cX5_digest 204 = .ok (.goto 4, 3) := by decide +kernel
theorem dX5_digest_207 : decode cX5_digest 207 = .ok (.iconst (-1), 1) := by decide +kernel
theorem dX5_digest_208 : decode cX5_digest 208 = .ok (.i2l, 1) := by decide +kernel
theorem dX5_digest_209 : decode cX5_digest 209 = .ok (.ladd, 1) := by decide +kernel
theorem dX5_digest_210 : decode cX5_digest 210 = .ok (.lstore_n 1, 1) := by decide +kernel
theorem dX5_digest_211 : decode cX5_digest 211 = .ok (.iinc 3 1, 3) := by decide +kernel
theorem dX5_digest_214 : decode cX5_digest 214 = .ok (.goto (-38), 3) := by decide +kernel
theorem dX5_digest_217 : decode cX5_digest 217 = .ok (.aload_n 0, 1) := by decide +kernel
theorem dX5_digest_218 : decode cX5_digest 218 = .ok (.getfield 18, 3) := by decide +kernel
theorem dX5_digest_221 : decode cX5_digest 221 = .ok (.aload_n 0, 1) := by decide +kernel
theorem dX5_digest_222 : decode cX5_digest 222 = .ok (.getfield 14, 3) := by decide +kernel
theorem dX5_digest_225 : decode cX5_digest 225 = .ok (.lload_n 1, 1) := by decide +kernel
theorem dX5_digest_226 : decode cX5_digest 226 = .ok (.invokevirtual 318, 3) := by decide +kernel
theorem dX5_digest_229 : decode cX5_digest 229 = .ok (.invokevirtual 318, 3) := by decide +kernel
theorem dX5_digest_232 : decode cX5_digest 232 = .ok (.lreturn, 1) := by decide +kernel
theorem dX5_find_0 : decode cX5_find 0 = .ok (.aload_n 0, 1) := by decide +kernel
theorem dX5_find_1 : decode cX5_find 1 = .ok (.iload_n 1, 1) := by decide +kernel
theorem dX5_find_2 : decode cX5_find 2 = .ok (.putfield 63, 3) := by decide +kernel
theorem dX5_find_5 : decode cX5_find 5 = .ok (.aload_n 0, 1) := by decide +kernel
theorem dX5_find_6 : decode cX5_find 6 = .ok (.getfield 59, 3) := by decide +kernel
theorem dX5_find_9 : decode cX5_find 9 = .ok (.iload_n 1, 1) := by decide +kernel
theorem dX5_find_10 : decode cX5_find 10 = .ok (.dup2, 1) := by decide +kernel
theorem dX5_find_11 : decode cX5_find 11 = .ok (.iaload, 1) := by decide +kernel
theorem dX5_find_12 : decode cX5_find 12 = .ok (.iconst 1, 1) := by decide +kernel
theorem dX5_find_13 : decode cX5_find 13 = .ok (.iadd, 1) := by decide +kernel
theorem dX5_find_14 : decode cX5_find 14 = .ok (.iastore, 1) := by decide +kernel
theorem dX5_find_15 : decode cX5_find 15 = .ok (.bipush (-3), 2) := by decide +kernel
theorem dX5_find_17 : decode cX5_find 17 = .ok (.ireturn, 1) := by decide +kernel
theorem dX5_refusalOf_0 : decode cX5_refusalOf 0 = .ok (.aload_n 1, 1) := by decide +kernel
theorem dX5_refusalOf_1 : decode cX5_refusalOf 1 = .ok (.iload_n 2, 1) := by decide +kernel
theorem dX5_refusalOf_2 : decode cX5_refusalOf 2 = .ok (.invokevirtual 77, 3) := by decide +kernel
theorem dX5_refusalOf_5 : decode cX5_refusalOf 5 = .ok (.ifCond .ne 5, 3) := by decide +kernel
theorem dX5_refusalOf_8 : decode cX5_refusalOf 8 = .ok (.iconst (-1), 1) := by decide +kernel
theorem dX5_refusalOf_9 : decode cX5_refusalOf 9 = .ok (.ireturn, 1) := by decide +kernel
theorem dX5_refusalOf_10 : decode cX5_refusalOf 10 = .ok (.aload_n 1, 1) := by decide +kernel
theorem dX5_refusalOf_11 : decode cX5_refusalOf 11 = .ok (.iload_n 2, 1) := by decide +kernel
theorem dX5_refusalOf_12 : decode cX5_refusalOf 12 = .ok (.invokevirtual 111, 3) := by decide +kernel
theorem dX5_refusalOf_15 : decode cX5_refusalOf 15 = .ok (.ifCond .eq 7, 3) := by decide +kernel
theorem dX5_refusalOf_18 : decode cX5_refusalOf 18 = .ok (.iconst 0, 1) := by decide +kernel
theorem dX5_refusalOf_19 : decode cX5_refusalOf 19 = .ok (.goto 8, 3) := by decide +kernel
theorem dX5_refusalOf_22 : decode cX5_refusalOf 22 = .ok (.aload_n 0, 1) := by decide +kernel
theorem dX5_refusalOf_23 : decode cX5_refusalOf 23 = .ok (.iconst 1, 1) := by decide +kernel
theorem dX5_refusalOf_24 : decode cX5_refusalOf 24 = .ok (.invokevirtual 81, 3) := by decide +kernel
theorem dX5_refusalOf_27 : decode cX5_refusalOf 27 = .ok (.ireturn, 1) := by decide +kernel
theorem dX5_refusalInHouse_0 : decode cX5_refusalInHouse 0 = .ok (.aload_n 0, 1) := by decide +kernel
theorem dX5_refusalInHouse_1 : decode cX5_refusalInHouse 1 = .ok (.getfield 14, 3) := by decide +kernel
theorem dX5_refusalInHouse_4 : decode cX5_refusalInHouse 4 = .ok (.iload_n 1, 1) := by decide +kernel
theorem dX5_refusalInHouse_5 : decode cX5_refusalInHouse 5 = .ok (.invokevirtual 77, 3) := by decide +kernel
theorem dX5_refusalInHouse_8 : decode cX5_refusalInHouse 8 = .ok (.ifCond .eq 16, 3) := by decide +kernel
theorem dX5_refusalInHouse_11 : decode cX5_refusalInHouse 11 = .ok (.aload_n 0, 1) := by decide +kernel
theorem dX5_refusalInHouse_12 : decode cX5_refusalInHouse 12 = .ok (.getfield 31, 3) := by decide +kernel
theorem dX5_refusalInHouse_15 : decode cX5_refusalInHouse 15 = .ok (.getfield 140, 3) := by decide +kernel
theorem dX5_refusalInHouse_18 : decode cX5_refusalInHouse 18 = .ok (.ifCond .ne 6, 3) := by decide +kernel
theorem dX5_refusalInHouse_21 : decode cX5_refusalInHouse 21 = .ok (.bipush (-4), 2) := by decide +kernel
theorem dX5_refusalInHouse_23 : decode cX5_refusalInHouse 23 = .ok (.ireturn, 1) := by decide +kernel
theorem dX5_refusalInHouse_24 : decode cX5_refusalInHouse 24 = .ok (.aload_n 0, 1) := by decide +kernel
theorem dX5_refusalInHouse_25 : decode cX5_refusalInHouse 25 = .ok (.aload_n 0, 1) := by decide +kernel
theorem dX5_refusalInHouse_26 : decode cX5_refusalInHouse 26 = .ok (.getfield 14, 3) := by decide +kernel
theorem dX5_refusalInHouse_29 : decode cX5_refusalInHouse 29 = .ok (.iload_n 1, 1) := by decide +kernel
theorem dX5_refusalInHouse_30 : decode cX5_refusalInHouse 30 = .ok (.invokevirtual 104, 3) := by decide +kernel
theorem dX5_refusalInHouse_33 : decode cX5_refusalInHouse 33 = .ok (.ireturn, 1) := by decide +kernel
theorem dX5_refusalOfPlace_0 : decode cX5_refusalOfPlace 0 = .ok (.aload_n 0, 1) := by decide +kernel
theorem dX5_refusalOfPlace_1 : decode cX5_refusalOfPlace 1 = .ok (.aload_n 1, 1) := by decide +kernel
theorem dX5_refusalOfPlace_2 : decode cX5_refusalOfPlace 2 = .ok (.iload_n 2, 1) := by decide +kernel
theorem dX5_refusalOfPlace_3 : decode cX5_refusalOfPlace 3 = .ok (.invokevirtual 104, 3) := by decide +kernel
theorem dX5_refusalOfPlace_6 : decode cX5_refusalOfPlace 6 = .ok (.istore 4, 2) := by decide +kernel
theorem dX5_refusalOfPlace_8 : decode cX5_refusalOfPlace 8 = .ok (.iload 4, 2) := by decide +kernel
theorem dX5_refusalOfPlace_10 : decode cX5_refusalOfPlace 10 = .ok (.ifCond .eq 6, 3) := by decide +kernel
theorem dX5_refusalOfPlace_13 : decode cX5_refusalOfPlace 13 = .ok (.iload 4, 2) := by decide +kernel
theorem dX5_refusalOfPlace_15 : decode cX5_refusalOfPlace 15 = .ok (.ireturn, 1) := by decide +kernel
theorem dX5_refusalOfPlace_16 : decode cX5_refusalOfPlace 16 = .ok (.aload_n 1, 1) := by decide +kernel
theorem dX5_refusalOfPlace_17 : decode cX5_refusalOfPlace 17 = .ok (.iload_n 2, 1) := by decide +kernel
theorem dX5_refusalOfPlace_18 : decode cX5_refusalOfPlace 18 = .ok (.iload_n 3, 1) := by decide +kernel
theorem dX5_refusalOfPlace_19 : decode cX5_refusalOfPlace 19 = .ok (.iconst 1, 1) := by decide +kernel
theorem dX5_refusalOfPlace_20 : decode cX5_refusalOfPlace 20 = .ok (.invokevirtual 114, 3) := by decide +kernel
theorem dX5_refusalOfPlace_23 : decode cX5_refusalOfPlace 23 = .ok (.ifCond .eq 7, 3) := by decide +kernel
theorem dX5_refusalOfPlace_26 : decode cX5_refusalOfPlace 26 = .ok (.iconst 0, 1) := by decide +kernel
theorem dX5_refusalOfPlace_27 : decode cX5_refusalOfPlace 27 = .ok (.goto 8, 3) := by decide +kernel
theorem dX5_refusalOfPlace_30 : decode cX5_refusalOfPlace 30 = .ok (.aload_n 0, 1) := by decide +kernel
theorem dX5_refusalOfPlace_31 : decode cX5_refusalOfPlace 31 = .ok (.iconst 2, 1) := by decide +kernel
theorem dX5_refusalOfPlace_32 : decode cX5_refusalOfPlace 32 = .ok (.invokevirtual 81, 3) := by decide +kernel
theorem dX5_refusalOfPlace_35 : decode cX5_refusalOfPlace 35 = .ok (.ireturn, 1) := by decide +kernel
theorem dX5_tell_0 : decode cX5_tell 0 = .ok (.aload_n 0, 1) := by decide +kernel
theorem dX5_tell_1 : decode cX5_tell 1 = .ok (.iload_n 1, 1) := by decide +kernel
theorem dX5_tell_2 : decode cX5_tell 2 = .ok (.putfield 67, 3) := by decide +kernel
theorem dX5_tell_5 : decode cX5_tell 5 = .ok (.iconst 1, 1) := by decide +kernel
theorem dX5_tell_6 : decode cX5_tell 6 = .ok (.ireturn, 1) := by decide +kernel
theorem dX5_isIn_0 : decode cX5_isIn 0 = .ok (.iload_n 0, 1) := by decide +kernel
theorem dX5_isIn_1 : decode cX5_isIn 1 = .ok (.iload_n 1, 1) := by decide +kernel
theorem dX5_isIn_2 : decode cX5_isIn 2 = .ok (.ishr, 1) := by decide +kernel
theorem dX5_isIn_3 : decode cX5_isIn 3 = .ok (.iconst 1, 1) := by decide +kernel
theorem dX5_isIn_4 : decode cX5_isIn 4 = .ok (.iand, 1) := by decide +kernel
theorem dX5_isIn_5 : decode cX5_isIn 5 = .ok (.iconst 1, 1) := by decide +kernel
theorem dX5_isIn_6 : decode cX5_isIn 6 = .ok (.if_icmp .ne 7, 3) := by decide +kernel
theorem dX5_isIn_9 : decode cX5_isIn 9 = .ok (.iconst 1, 1) := by decide +kernel
theorem dX5_isIn_10 : decode cX5_isIn 10 = .ok (.goto 4, 3) := by decide +kernel
theorem dX5_isIn_13 : decode cX5_isIn 13 = .ok (.iconst 0, 1) := by decide +kernel
theorem dX5_isIn_14 : decode cX5_isIn 14 = .ok (.ireturn, 1) := by decide +kernel
theorem dX5_firstOf_0 : decode cX5_firstOf 0 = .ok (.iload_n 0, 1) := by decide +kernel
theorem dX5_firstOf_1 : decode cX5_firstOf 1 = .ok (.ifCond .ne 8, 3) := by decide +kernel
theorem dX5_firstOf_4 : decode cX5_firstOf 4 = .ok (.bipush (-9), 2) := by decide +kernel
theorem dX5_firstOf_6 : decode cX5_firstOf 6 = .ok (.goto 12, 3) := by decide +kernel
theorem dX5_firstOf_9 : decode cX5_firstOf 9 = .ok (.iload_n 0, 1) := by decide +kernel
theorem dX5_firstOf_10 : decode cX5_firstOf 10 = .ok (.iload_n 0, 1) := by decide +kernel
theorem dX5_firstOf_11 : decode cX5_firstOf 11 = .ok (.ineg, 1) := by decide +kernel
theorem dX5_firstOf_12 : decode cX5_firstOf 12 = .ok (.iand, 1) := by decide +kernel
theorem dX5_firstOf_13 : decode cX5_firstOf 13 = .ok (.iconst 1, 1) := by decide +kernel
theorem dX5_firstOf_14 : decode cX5_firstOf 14 = .ok (.isub, 1) := by decide +kernel
theorem dX5_firstOf_15 : decode cX5_firstOf 15 = .ok (.invokestatic 173, 3) := by decide +kernel
theorem dX5_firstOf_18 : decode cX5_firstOf 18 = .ok (.ireturn, 1) := by decide +kernel
theorem dX5_nthOf_0 : decode cX5_nthOf 0 = .ok (.iload_n 0, 1) := by decide +kernel
theorem dX5_nthOf_1 : decode cX5_nthOf 1 = .ok (.istore_n 2, 1) := by decide +kernel
theorem dX5_nthOf_2 : decode cX5_nthOf 2 = .ok (.iconst 0, 1) := by decide +kernel
theorem dX5_nthOf_3 : decode cX5_nthOf 3 = .ok (.istore_n 3, 1) := by decide +kernel
theorem dX5_nthOf_4 : decode cX5_nthOf 4 = .ok (.iload_n 3, 1) := by decide +kernel
theorem dX5_nthOf_5 : decode cX5_nthOf 5 = .ok (.iload_n 1, 1) := by decide +kernel
theorem dX5_nthOf_6 : decode cX5_nthOf 6 = .ok (.if_icmp .ge 19, 3) := by decide +kernel
theorem dX5_nthOf_9 : decode cX5_nthOf 9 = .ok (.iload_n 2, 1) := by decide +kernel
theorem dX5_nthOf_10 : decode cX5_nthOf 10 = .ok (.ifCond .eq 15, 3) := by decide +kernel
theorem dX5_nthOf_13 : decode cX5_nthOf 13 = .ok (.iload_n 2, 1) := by decide +kernel
theorem dX5_nthOf_14 : decode cX5_nthOf 14 = .ok (.iload_n 2, 1) := by decide +kernel
theorem dX5_nthOf_15 : decode cX5_nthOf 15 = .ok (.iconst 1, 1) := by decide +kernel
theorem dX5_nthOf_16 : decode cX5_nthOf 16 = .ok (.isub, 1) := by decide +kernel
theorem dX5_nthOf_17 : decode cX5_nthOf 17 = .ok (.iand, 1) := by decide +kernel
theorem dX5_nthOf_18 : decode cX5_nthOf 18 = .ok (.istore_n 2, 1) := by decide +kernel
theorem dX5_nthOf_19 : decode cX5_nthOf 19 = .ok (.iinc 3 1, 3) := by decide +kernel
theorem dX5_nthOf_22 : decode cX5_nthOf 22 = .ok (.goto (-18), 3) := by decide +kernel
theorem dX5_nthOf_25 : decode cX5_nthOf 25 = .ok (.iload_n 2, 1) := by decide +kernel
theorem dX5_nthOf_26 : decode cX5_nthOf 26 = .ok (.invokestatic 222, 3) := by decide +kernel
theorem dX5_nthOf_29 : decode cX5_nthOf 29 = .ok (.ireturn, 1) := by decide +kernel
theorem dX5_deedFact_0 : decode cX5_deedFact 0 = .ok (.iload_n 2, 1) := by decide +kernel
theorem dX5_deedFact_1 : decode cX5_deedFact 1 = .ok (.tableswitch 81 0 3 #[31, 41, 51, 61], 31) := by decide +kernel
theorem dX5_deedFact_32 : decode cX5_deedFact 32 = .ok (.aload_n 0, 1) := by decide +kernel
theorem dX5_deedFact_33 : decode cX5_deedFact 33 = .ok (.getfield 31, 3) := by decide +kernel
theorem dX5_deedFact_36 : decode cX5_deedFact 36 = .ok (.getfield 322, 3) := by decide +kernel
theorem dX5_deedFact_39 : decode cX5_deedFact 39 = .ok (.iload_n 1, 1) := by decide +kernel
theorem dX5_deedFact_40 : decode cX5_deedFact 40 = .ok (.iaload, 1) := by decide +kernel
theorem dX5_deedFact_41 : decode cX5_deedFact 41 = .ok (.ireturn, 1) := by decide +kernel
theorem dX5_deedFact_42 : decode cX5_deedFact 42 = .ok (.aload_n 0, 1) := by decide +kernel
theorem dX5_deedFact_43 : decode cX5_deedFact 43 = .ok (.getfield 31, 3) := by decide +kernel
theorem dX5_deedFact_46 : decode cX5_deedFact 46 = .ok (.getfield 325, 3) := by decide +kernel
theorem dX5_deedFact_49 : decode cX5_deedFact 49 = .ok (.iload_n 1, 1) := by decide +kernel
theorem dX5_deedFact_50 : decode cX5_deedFact 50 = .ok (.iaload, 1) := by decide +kernel
theorem dX5_deedFact_51 : decode cX5_deedFact 51 = .ok (.ireturn, 1) := by decide +kernel
theorem dX5_deedFact_52 : decode cX5_deedFact 52 = .ok (.aload_n 0, 1) := by decide +kernel
theorem dX5_deedFact_53 : decode cX5_deedFact 53 = .ok (.getfield 31, 3) := by decide +kernel
theorem dX5_deedFact_56 : decode cX5_deedFact 56 = .ok (.getfield 166, 3) := by decide +kernel
theorem dX5_deedFact_59 : decode cX5_deedFact 59 = .ok (.iload_n 1, 1) := by decide +kernel
theorem dX5_deedFact_60 : decode cX5_deedFact 60 = .ok (.iaload, 1) := by decide +kernel
theorem dX5_deedFact_61 : decode cX5_deedFact 61 = .ok (.ireturn, 1) := by decide +kernel
theorem dX5_deedFact_62 : decode cX5_deedFact 62 = .ok (.aload_n 0, 1) := by decide +kernel
theorem dX5_deedFact_63 : decode cX5_deedFact 63 = .ok (.getfield 40, 3) := by decide +kernel
theorem dX5_deedFact_66 : decode cX5_deedFact 66 = .ok (.getfield 178, 3) := by decide +kernel
theorem dX5_deedFact_69 : decode cX5_deedFact 69 = .ok (.iload_n 1, 1) := by decide +kernel
theorem dX5_deedFact_70 : decode cX5_deedFact 70 = .ok (.invokestatic 270, 3) := by decide +kernel
theorem dX5_deedFact_73 : decode cX5_deedFact 73 = .ok (.ifCond .eq 7, 3) := by decide +kernel
theorem dX5_deedFact_76 : decode cX5_deedFact 76 = .ok (.iconst 1, 1) := by decide +kernel
theorem dX5_deedFact_77 : decode cX5_deedFact 77 = .ok (.goto 4, 3) := by decide +kernel
theorem dX5_deedFact_80 : decode cX5_deedFact 80 = .ok (.iconst 0, 1) := by decide +kernel
theorem dX5_deedFact_81 : decode cX5_deedFact 81 = .ok (.ireturn, 1) := by decide +kernel
theorem dX5_deedFact_82 : decode cX5_deedFact 82 = .ok (.aload_n 0, 1) := by decide +kernel
theorem dX5_deedFact_83 : decode cX5_deedFact 83 = .ok (.getfield 31, 3) := by decide +kernel
theorem dX5_deedFact_86 : decode cX5_deedFact 86 = .ok (.getfield 225, 3) := by decide +kernel
theorem dX5_deedFact_89 : decode cX5_deedFact 89 = .ok (.iload_n 1, 1) := by decide +kernel
theorem dX5_deedFact_90 : decode cX5_deedFact 90 = .ok (.iaload, 1) := by decide +kernel
theorem dX5_deedFact_91 : decode cX5_deedFact 91 = .ok (.ireturn, 1) := by decide +kernel
theorem dX5_hourFact_0 : decode cX5_hourFact 0 = .ok (.iload_n 2, 1) := by decide +kernel
theorem dX5_hourFact_1 : decode cX5_hourFact 1 = .ok (.tableswitch 76 0 3 #[31, 41, 58, 67], 31) := by decide +kernel
theorem dX5_hourFact_32 : decode cX5_hourFact 32 = .ok (.aload_n 0, 1) := by decide +kernel
theorem dX5_hourFact_33 : decode cX5_hourFact 33 = .ok (.getfield 31, 3) := by decide +kernel
theorem dX5_hourFact_36 : decode cX5_hourFact 36 = .ok (.getfield 328, 3) := by decide +kernel
theorem dX5_hourFact_39 : decode cX5_hourFact 39 = .ok (.iload_n 1, 1) := by decide +kernel
theorem dX5_hourFact_40 : decode cX5_hourFact 40 = .ok (.iaload, 1) := by decide +kernel
theorem dX5_hourFact_41 : decode cX5_hourFact 41 = .ok (.ireturn, 1) := by decide +kernel
theorem dX5_hourFact_42 : decode cX5_hourFact 42 = .ok (.aload_n 0, 1) := by decide +kernel
theorem dX5_hourFact_43 : decode cX5_hourFact 43 = .ok (.getfield 31, 3) := by decide +kernel
theorem dX5_hourFact_46 : decode cX5_hourFact 46 = .ok (.iload_n 1, 1) := by decide +kernel
theorem dX5_hourFact_47 : decode cX5_hourFact 47 = .ok (.invokevirtual 331, 3) := by decide +kernel
theorem dX5_hourFact_50 : decode cX5_hourFact 50 = .ok (.ifCond .eq 7, 3) := by decide +kernel
theorem dX5_hourFact_53 : decode cX5_hourFact 53 = .ok (.iconst 1, 1) := by decide +kernel
theorem dX5_hourFact_54 : decode cX5_hourFact 54 = .ok (.goto 4, 3) := by decide +kernel
theorem dX5_hourFact_57 : decode cX5_hourFact 57 = .ok (.iconst 0, 1) := by decide +kernel
theorem dX5_hourFact_58 : decode cX5_hourFact 58 = .ok (.ireturn, 1) := by decide +kernel
theorem dX5_hourFact_59 : decode cX5_hourFact 59 = .ok (.aload_n 0, 1) := by decide +kernel
theorem dX5_hourFact_60 : decode cX5_hourFact 60 = .ok (.getfield 40, 3) := by decide +kernel
theorem dX5_hourFact_63 : decode cX5_hourFact 63 = .ok (.iload_n 1, 1) := by decide +kernel
theorem dX5_hourFact_64 : decode cX5_hourFact 64 = .ok (.invokevirtual 231, 3) := by decide +kernel
theorem dX5_hourFact_67 : decode cX5_hourFact 67 = .ok (.ireturn, 1) := by decide +kernel
theorem dX5_hourFact_68 : decode cX5_hourFact 68 = .ok (.aload_n 0, 1) := by decide +kernel
theorem dX5_hourFact_69 : decode cX5_hourFact 69 = .ok (.getfield 40, 3) := by decide +kernel
theorem dX5_hourFact_72 : decode cX5_hourFact 72 = .ok (.iload_n 1, 1) := by decide +kernel
theorem dX5_hourFact_73 : decode cX5_hourFact 73 = .ok (.invokevirtual 203, 3) := by decide +kernel
theorem dX5_hourFact_76 : decode cX5_hourFact 76 = .ok (.ireturn, 1) := by decide +kernel
theorem dX5_hourFact_77 : decode cX5_hourFact 77 = .ok (.aload_n 0, 1) := by decide +kernel
theorem dX5_hourFact_78 : decode cX5_hourFact 78 = .ok (.getfield 40, 3) := by decide +kernel
theorem dX5_hourFact_81 : decode cX5_hourFact 81 = .ok (.getfield 334, 3) := by decide +kernel
theorem dX5_hourFact_84 : decode cX5_hourFact 84 = .ok (.iload_n 1, 1) := by decide +kernel
theorem dX5_hourFact_85 : decode cX5_hourFact 85 = .ok (.iaload, 1) := by decide +kernel
theorem dX5_hourFact_86 : decode cX5_hourFact 86 = .ok (.ireturn, 1) := by decide +kernel
theorem dX5_hoursFor_0 : decode cX5_hoursFor 0 = .ok (.aload_n 0, 1) := by decide +kernel
theorem dX5_hoursFor_1 : decode cX5_hoursFor 1 = .ok (.getfield 40, 3) := by decide +kernel
theorem dX5_hoursFor_4 : decode cX5_hoursFor 4 = .ok (.invokevirtual 209, 3) := by decide +kernel
theorem dX5_hoursFor_7 : decode cX5_hoursFor 7 = .ok (.istore_n 2, 1) := by decide +kernel
theorem dX5_hoursFor_8 : decode cX5_hoursFor 8 = .ok (.iconst 0, 1) := by decide +kernel
theorem dX5_hoursFor_9 : decode cX5_hoursFor 9 = .ok (.istore_n 3, 1) := by decide +kernel
theorem dX5_hoursFor_10 : decode cX5_hoursFor 10 = .ok (.iconst 0, 1) := by decide +kernel
theorem dX5_hoursFor_11 : decode cX5_hoursFor 11 = .ok (.istore 4, 2) := by decide +kernel
theorem dX5_hoursFor_13 : decode cX5_hoursFor 13 = .ok (.iload 4, 2) := by decide +kernel
theorem dX5_hoursFor_15 : decode cX5_hoursFor 15 = .ok (.aload_n 0, 1) := by decide +kernel
theorem dX5_hoursFor_16 : decode cX5_hoursFor 16 = .ok (.getfield 31, 3) := by decide +kernel
theorem dX5_hoursFor_19 : decode cX5_hoursFor 19 = .ok (.getfield 228, 3) := by decide +kernel
theorem dX5_hoursFor_22 : decode cX5_hoursFor 22 = .ok (.if_icmp .ge 39, 3) := by decide +kernel
theorem dX5_hoursFor_25 : decode cX5_hoursFor 25 = .ok (.iload_n 3, 1) := by decide +kernel
theorem dX5_hoursFor_26 : decode cX5_hoursFor 26 = .ok (.iload_n 2, 1) := by decide +kernel
theorem dX5_hoursFor_27 : decode cX5_hoursFor 27 = .ok (.iload 4, 2) := by decide +kernel
theorem dX5_hoursFor_29 : decode cX5_hoursFor 29 = .ok (.invokestatic 270, 3) := by decide +kernel
theorem dX5_hoursFor_32 : decode cX5_hoursFor 32 = .ok (.ifCond .eq 20, 3) := by decide +kernel
theorem dX5_hoursFor_35 : decode cX5_hoursFor 35 = .ok (.aload_n 0, 1) := by decide +kernel
theorem dX5_hoursFor_36 : decode cX5_hoursFor 36 = .ok (.getfield 40, 3) := by decide +kernel
theorem dX5_hoursFor_39 : decode cX5_hoursFor 39 = .ok (.iload_n 1, 1) := by decide +kernel
theorem dX5_hoursFor_40 : decode cX5_hoursFor 40 = .ok (.iload 4, 2) := by decide +kernel
theorem dX5_hoursFor_42 : decode cX5_hoursFor 42 = .ok (.invokevirtual 206, 3) := by decide +kernel
theorem dX5_hoursFor_45 : decode cX5_hoursFor 45 = .ok (.ifCond .ne 7, 3) := by decide +kernel
theorem dX5_hoursFor_48 : decode cX5_hoursFor 48 = .ok (.iconst 1, 1) := by decide +kernel
theorem dX5_hoursFor_49 : decode cX5_hoursFor 49 = .ok (.goto 4, 3) := by decide +kernel
theorem dX5_hoursFor_52 : decode cX5_hoursFor 52 = .ok (.iconst 0, 1) := by decide +kernel
theorem dX5_hoursFor_53 : decode cX5_hoursFor 53 = .ok (.iadd, 1) := by decide +kernel
theorem dX5_hoursFor_54 : decode cX5_hoursFor 54 = .ok (.istore_n 3, 1) := by decide +kernel
theorem dX5_hoursFor_55 : decode cX5_hoursFor 55 = .ok (.iinc 4 1, 3) := by decide +kernel
theorem dX5_hoursFor_58 : decode cX5_hoursFor 58 = .ok (.goto (-45), 3) := by decide +kernel
theorem dX5_hoursFor_61 : decode cX5_hoursFor 61 = .ok (.iload_n 3, 1) := by decide +kernel
theorem dX5_hoursFor_62 : decode cX5_hoursFor 62 = .ok (.ireturn, 1) := by decide +kernel
theorem dX5_areAllPairs_0 : decode cX5_areAllPairs 0 = .ok (.iconst 0, 1) := by decide +kernel
theorem dX5_areAllPairs_1 : decode cX5_areAllPairs 1 = .ok (.istore_n 3, 1) := by decide +kernel
theorem dX5_areAllPairs_2 : decode cX5_areAllPairs 2 = .ok (.iload_n 3, 1) := by decide +kernel
theorem dX5_areAllPairs_3 : decode cX5_areAllPairs 3 = .ok (.iconst 1, 1) := by decide +kernel
theorem dX5_areAllPairs_4 : decode cX5_areAllPairs 4 = .ok (.iadd, 1) := by decide +kernel
theorem dX5_areAllPairs_5 : decode cX5_areAllPairs 5 = .ok (.iload_n 2, 1) := by decide +kernel
theorem dX5_areAllPairs_6 : decode cX5_areAllPairs 6 = .ok (.if_icmp .ge 50, 3) := by decide +kernel
theorem dX5_areAllPairs_9 : decode cX5_areAllPairs 9 = .ok (.aload_n 1, 1) := by decide +kernel
theorem dX5_areAllPairs_10 : decode cX5_areAllPairs 10 = .ok (.iload_n 3, 1) := by decide +kernel
theorem dX5_areAllPairs_11 : decode cX5_areAllPairs 11 = .ok (.iconst 1, 1) := by decide +kernel
theorem dX5_areAllPairs_12 : decode cX5_areAllPairs 12 = .ok (.iadd, 1) := by decide +kernel
theorem dX5_areAllPairs_13 : decode cX5_areAllPairs 13 = .ok (.iaload, 1) := by decide +kernel
theorem dX5_areAllPairs_14 : decode cX5_areAllPairs 14 = .ok (.istore 4, 2) := by decide +kernel
theorem dX5_areAllPairs_16 : decode cX5_areAllPairs 16 = .ok (.aload_n 0, 1) := by decide +kernel
theorem dX5_areAllPairs_17 : decode cX5_areAllPairs 17 = .ok (.getfield 31, 3) := by decide +kernel
theorem dX5_areAllPairs_20 : decode cX5_areAllPairs 20 = .ok (.aload_n 1, 1) := by decide +kernel
theorem dX5_areAllPairs_21 : decode cX5_areAllPairs 21 = .ok (.iload_n 3, 1) := by decide +kernel
theorem dX5_areAllPairs_22 : decode cX5_areAllPairs 22 = .ok (.iaload, 1) := by decide +kernel
theorem dX5_areAllPairs_23 : decode cX5_areAllPairs 23 = .ok (.invokevirtual 150, 3) := by decide +kernel
theorem dX5_areAllPairs_26 : decode cX5_areAllPairs 26 = .ok (.ifCond .eq 22, 3) := by decide +kernel
theorem dX5_areAllPairs_29 : decode cX5_areAllPairs 29 = .ok (.iload 4, 2) := by decide +kernel
theorem dX5_areAllPairs_31 : decode cX5_areAllPairs 31 = .ok (.bipush (-9), 2) := by decide +kernel
theorem dX5_areAllPairs_33 : decode cX5_areAllPairs 33 = .ok (.if_icmp .eq 17, 3) := by decide +kernel
theorem dX5_areAllPairs_36 : decode cX5_areAllPairs 36 = .ok (.aload_n 0, 1) := by decide +kernel
theorem dX5_areAllPairs_37 : decode cX5_areAllPairs 37 = .ok (.getfield 31, 3) := by decide +kernel
theorem dX5_areAllPairs_40 : decode cX5_areAllPairs 40 = .ok (.iload 4, 2) := by decide +kernel
theorem dX5_areAllPairs_42 : decode cX5_areAllPairs 42 = .ok (.invokevirtual 143, 3) := by decide +kernel
theorem dX5_areAllPairs_45 : decode cX5_areAllPairs 45 = .ok (.ifCond .ne 5, 3) := by decide +kernel
theorem dX5_areAllPairs_48 : decode cX5_areAllPairs 48 = .ok (.iconst 0, 1) := by decide +kernel
theorem dX5_areAllPairs_49 : decode cX5_areAllPairs 49 = .ok (.ireturn, 1) := by decide +kernel
theorem dX5_areAllPairs_50 : decode cX5_areAllPairs 50 = .ok (.iinc 3 2, 3) := by decide +kernel
theorem dX5_areAllPairs_53 : decode cX5_areAllPairs 53 = .ok (.goto (-51), 3) := by decide +kernel
theorem dX5_areAllPairs_56 : decode cX5_areAllPairs 56 = .ok (.iconst 1, 1) := by decide +kernel
theorem dX5_areAllPairs_57 : decode cX5_areAllPairs 57 = .ok (.ireturn, 1) := by decide +kernel
theorem dX5_diaryRefusal_0 : decode cX5_diaryRefusal 0 = .ok (.aload_n 0, 1) := by decide +kernel
theorem dX5_diaryRefusal_1 : decode cX5_diaryRefusal 1 = .ok (.iload_n 1, 1) := by decide +kernel
theorem dX5_diaryRefusal_2 : decode cX5_diaryRefusal 2 = .ok (.invokevirtual 239, 3) := by decide +kernel
theorem dX5_diaryRefusal_5 : decode cX5_diaryRefusal 5 = .ok (.istore_n 2, 1) := by decide +kernel
theorem dX5_diaryRefusal_6 : decode cX5_diaryRefusal 6 = .ok (.iload_n 2, 1) := by decide +kernel
theorem dX5_diaryRefusal_7 : decode cX5_diaryRefusal 7 = .ok (.ifCond .eq 5, 3) := by decide +kernel
theorem dX5_diaryRefusal_10 : decode cX5_diaryRefusal 10 = .ok (.iload_n 2, 1) := by decide +kernel
theorem dX5_diaryRefusal_11 : decode cX5_diaryRefusal 11 = .ok (.ireturn, 1) := by decide +kernel
theorem dX5_diaryRefusal_12 : decode cX5_diaryRefusal 12 = .ok (.aload_n 0, 1) := by decide +kernel
theorem dX5_diaryRefusal_13 : decode cX5_diaryRefusal 13 = .ok (.getfield 14, 3) := by decide +kernel
theorem dX5_diaryRefusal_16 : decode cX5_diaryRefusal 16 = .ok (.getfield 108, 3) := by decide +kernel
theorem dX5_diaryRefusal_19 : decode cX5_diaryRefusal 19 = .ok (.iload_n 1, 1) := by decide +kernel
theorem dX5_diaryRefusal_20 : decode cX5_diaryRefusal 20 = .ok (.iaload, 1) := by decide +kernel
theorem dX5_diaryRefusal_21 : decode cX5_diaryRefusal 21 = .ok (.bipush 7, 2) := by decide +kernel
theorem dX5_diaryRefusal_23 : decode cX5_diaryRefusal 23 = .ok (.if_icmp .le 9, 3) := by decide +kernel
theorem dX5_diaryRefusal_26 : decode cX5_diaryRefusal 26 = .ok (.aload_n 0, 1) := by decide +kernel
theorem dX5_diaryRefusal_27 : decode cX5_diaryRefusal 27 = .ok (.iconst 5, 1) := by decide +kernel
theorem dX5_diaryRefusal_28 : decode cX5_diaryRefusal 28 = .ok (.invokevirtual 81, 3) := by decide +kernel
theorem dX5_diaryRefusal_31 : decode cX5_diaryRefusal 31 = .ok (.ireturn, 1) := by decide +kernel
theorem dX5_diaryRefusal_32 : decode cX5_diaryRefusal 32 = .ok (.iconst 0, 1) := by decide +kernel
theorem dX5_diaryRefusal_33 : decode cX5_diaryRefusal 33 = .ok (.istore_n 3, 1) := by decide +kernel
theorem dX5_diaryRefusal_34 : decode cX5_diaryRefusal 34 = .ok (.iload_n 3, 1) := by decide +kernel
theorem dX5_diaryRefusal_35 : decode cX5_diaryRefusal 35 = .ok (.aload_n 0, 1) := by decide +kernel
theorem dX5_diaryRefusal_36 : decode cX5_diaryRefusal 36 = .ok (.getfield 14, 3) := by decide +kernel
theorem dX5_diaryRefusal_39 : decode cX5_diaryRefusal 39 = .ok (.getfield 108, 3) := by decide +kernel
theorem dX5_diaryRefusal_42 : decode cX5_diaryRefusal 42 = .ok (.iload_n 1, 1) := by decide +kernel
theorem dX5_diaryRefusal_43 : decode cX5_diaryRefusal 43 = .ok (.iaload, 1) := by decide +kernel
theorem dX5_diaryRefusal_44 : decode cX5_diaryRefusal 44 = .ok (.if_icmp .ge 40, 3) := by decide +kernel
theorem dX5_diaryRefusal_47 : decode cX5_diaryRefusal 47 = .ok (.aload_n 0, 1) := by decide +kernel
theorem dX5_diaryRefusal_48 : decode cX5_diaryRefusal 48 = .ok (.getfield 14, 3) := by decide +kernel
theorem dX5_diaryRefusal_51 : decode cX5_diaryRefusal 51 = .ok (.getfield 100, 3) := by decide +kernel
theorem dX5_diaryRefusal_54 : decode cX5_diaryRefusal 54 = .ok (.iload_n 1, 1) := by decide +kernel
theorem dX5_diaryRefusal_55 : decode cX5_diaryRefusal 55 = .ok (.aaload, 1) := by decide +kernel
theorem dX5_diaryRefusal_56 : decode cX5_diaryRefusal 56 = .ok (.iload_n 3, 1) := by decide +kernel
theorem dX5_diaryRefusal_57 : decode cX5_diaryRefusal 57 = .ok (.iaload, 1) := by decide +kernel
theorem dX5_diaryRefusal_58 : decode cX5_diaryRefusal 58 = .ok (.istore 4, 2) := by decide +kernel
theorem dX5_diaryRefusal_60 : decode cX5_diaryRefusal 60 = .ok (.iload 4, 2) := by decide +kernel
theorem dX5_diaryRefusal_62 : decode cX5_diaryRefusal 62 = .ok (.ifCond .lt 10, 3) := by decide +kernel
theorem dX5_diaryRefusal_65 : decode cX5_diaryRefusal 65 = .ok (.iload 4, 2) := by decide +kernel
theorem dX5_diaryRefusal_67 : decode cX5_diaryRefusal 67 = .ok (.bipush 24, 2) := by decide +kernel
theorem dX5_diaryRefusal_69 : decode cX5_diaryRefusal 69 = .ok (.if_icmp .lt 9, 3) := by decide +kernel
theorem dX5_diaryRefusal_72 : decode cX5_diaryRefusal 72 = .ok (.aload_n 0, 1) := by decide +kernel
theorem dX5_diaryRefusal_73 : decode cX5_diaryRefusal 73 = .ok (.iconst 3, 1) := by decide +kernel
theorem dX5_diaryRefusal_74 : decode cX5_diaryRefusal 74 = .ok (.invokevirtual 81, 3) := by decide +kernel
theorem dX5_diaryRefusal_77 : decode cX5_diaryRefusal 77 = .ok (.ireturn, 1) := by decide +kernel
theorem dX5_diaryRefusal_78 : decode cX5_diaryRefusal 78 = .ok (.iinc 3 1, 3) := by decide +kernel
theorem dX5_diaryRefusal_81 : decode cX5_diaryRefusal 81 = .ok (.goto (-47), 3) := by decide +kernel
theorem dX5_diaryRefusal_84 : decode cX5_diaryRefusal 84 = .ok (.iconst 0, 1) := by decide +kernel
theorem dX5_diaryRefusal_85 : decode cX5_diaryRefusal 85 = .ok (.ireturn, 1) := by decide +kernel
theorem dX5_hoursLeftFor_0 : decode cX5_hoursLeftFor 0 = .ok (.aload_n 0, 1) := by decide +kernel
theorem dX5_hoursLeftFor_1 : decode cX5_hoursLeftFor 1 = .ok (.getfield 31, 3) := by decide +kernel
theorem dX5_hoursLeftFor_4 : decode cX5_hoursLeftFor 4 = .ok (.aload_n 1, 1) := by decide +kernel
theorem dX5_hoursLeftFor_5 : decode cX5_hoursLeftFor 5 = .ok (.iload_n 2, 1) := by decide +kernel
theorem dX5_hoursLeftFor_6 : decode cX5_hoursLeftFor 6 = .ok (.iaload, 1) := by decide +kernel
theorem dX5_hoursLeftFor_7 : decode cX5_hoursLeftFor 7 = .ok (.invokevirtual 291, 3) := by decide +kernel
theorem dX5_hoursLeftFor_10 : decode cX5_hoursLeftFor 10 = .ok (.invokestatic 173, 3) := by decide +kernel
theorem dX5_hoursLeftFor_13 : decode cX5_hoursLeftFor 13 = .ok (.istore_n 3, 1) := by decide +kernel
theorem dX5_hoursLeftFor_14 : decode cX5_hoursLeftFor 14 = .ok (.iconst 0, 1) := by decide +kernel
theorem dX5_hoursLeftFor_15 : decode cX5_hoursLeftFor 15 = .ok (.istore 4, 2) := by decide +kernel
theorem dX5_hoursLeftFor_17 : decode cX5_hoursLeftFor 17 = .ok (.iload 4, 2) := by decide +kernel
theorem dX5_hoursLeftFor_19 : decode cX5_hoursLeftFor 19 = .ok (.iload_n 2, 1) := by decide +kernel
theorem dX5_hoursLeftFor_20 : decode cX5_hoursLeftFor 20 = .ok (.if_icmp .ge 27, 3) := by decide +kernel
theorem dX5_hoursLeftFor_23 : decode cX5_hoursLeftFor 23 = .ok (.iload_n 3, 1) := by decide +kernel
theorem dX5_hoursLeftFor_24 : decode cX5_hoursLeftFor 24 = .ok (.aload_n 1, 1) := by decide +kernel
theorem dX5_hoursLeftFor_25 : decode cX5_hoursLeftFor 25 = .ok (.iload 4, 2) := by decide +kernel
theorem dX5_hoursLeftFor_27 : decode cX5_hoursLeftFor 27 = .ok (.iaload, 1) := by decide +kernel
theorem dX5_hoursLeftFor_28 : decode cX5_hoursLeftFor 28 = .ok (.aload_n 1, 1) := by decide +kernel
theorem dX5_hoursLeftFor_29 : decode cX5_hoursLeftFor 29 = .ok (.iload_n 2, 1) := by decide +kernel
theorem dX5_hoursLeftFor_30 : decode cX5_hoursLeftFor 30 = .ok (.iaload, 1) := by decide +kernel
theorem dX5_hoursLeftFor_31 : decode cX5_hoursLeftFor 31 = .ok (.if_icmp .ne 7, 3) := by decide +kernel
theorem dX5_hoursLeftFor_34 : decode cX5_hoursLeftFor 34 = .ok (.iconst 1, 1) := by decide +kernel
theorem dX5_hoursLeftFor_35 : decode cX5_hoursLeftFor 35 = .ok (.goto 4, 3) := by decide +kernel
theorem dX5_hoursLeftFor_38 : decode cX5_hoursLeftFor 38 = .ok (.iconst 0, 1) := by decide +kernel
theorem dX5_hoursLeftFor_39 : decode cX5_hoursLeftFor 39 = .ok (.isub, 1) := by decide +kernel
theorem dX5_hoursLeftFor_40 : decode cX5_hoursLeftFor 40 = .ok (.istore_n 3, 1) := by decide +kernel
theorem dX5_hoursLeftFor_41 : decode cX5_hoursLeftFor 41 = .ok (.iinc 4 1, 3) := by decide +kernel
theorem dX5_hoursLeftFor_44 : decode cX5_hoursLeftFor 44 = .ok (.goto (-27), 3) := by decide +kernel
theorem dX5_hoursLeftFor_47 : decode cX5_hoursLeftFor 47 = .ok (.iconst 0, 1) := by decide +kernel
theorem dX5_hoursLeftFor_48 : decode cX5_hoursLeftFor 48 = .ok (.iload_n 3, 1) := by decide +kernel
theorem dX5_hoursLeftFor_49 : decode cX5_hoursLeftFor 49 = .ok (.invokestatic 234, 3) := by decide +kernel
theorem dX5_hoursLeftFor_52 : decode cX5_hoursLeftFor 52 = .ok (.ireturn, 1) := by decide +kernel
theorem dX5_liveByLot_0 : decode cX5_liveByLot 0 = .ok (.aload_n 0, 1) := by decide +kernel
theorem dX5_liveByLot_1 : decode cX5_liveByLot 1 = .ok (.getfield 40, 3) := by decide +kernel
theorem dX5_liveByLot_4 : decode cX5_liveByLot 4 = .ok (.invokevirtual 209, 3) := by decide +kernel
theorem dX5_liveByLot_7 : decode cX5_liveByLot 7 = .ok (.istore_n 2, 1) := by decide +kernel
theorem dX5_liveByLot_8 : decode cX5_liveByLot 8 = .ok (.iload_n 2, 1) := by decide +kernel
theorem dX5_liveByLot_9 : decode cX5_liveByLot 9 = .ok (.invokestatic 173, 3) := by decide +kernel
theorem dX5_liveByLot_12 : decode cX5_liveByLot 12 = .ok (.istore_n 3, 1) := by decide +kernel
theorem dX5_liveByLot_13 : decode cX5_liveByLot 13 = .ok (.iload_n 3, 1) := by decide +kernel
theorem dX5_liveByLot_14 : decode cX5_liveByLot 14 = .ok (.ifCond .ne 16, 3) := by decide +kernel
theorem dX5_liveByLot_17 : decode cX5_liveByLot 17 = .ok (.aload_n 0, 1) := by decide +kernel
theorem dX5_liveByLot_18 : decode cX5_liveByLot 18 = .ok (.getfield 40, 3) := by decide +kernel
theorem dX5_liveByLot_21 : decode cX5_liveByLot 21 = .ok (.iconst 0, 1) := by decide +kernel
theorem dX5_liveByLot_22 : decode cX5_liveByLot 22 = .ok (.bipush (-9), 2) := by decide +kernel
theorem dX5_liveByLot_24 : decode cX5_liveByLot 24 = .ok (.bipush (-9), 2) := by decide +kernel
theorem dX5_liveByLot_26 : decode cX5_liveByLot 26 = .ok (.invokevirtual 197, 3) := by decide +kernel
theorem dX5_liveByLot_29 : decode cX5_liveByLot 29 = .ok (.return_, 1) := by decide +kernel
theorem dX5_liveByLot_30 : decode cX5_liveByLot 30 = .ok (.iload_n 2, 1) := by decide +kernel
theorem dX5_liveByLot_31 : decode cX5_liveByLot 31 = .ok (.iload_n 1, 1) := by decide +kernel
theorem dX5_liveByLot_32 : decode cX5_liveByLot 32 = .ok (.iload_n 3, 1) := by decide +kernel
theorem dX5_liveByLot_33 : decode cX5_liveByLot 33 = .ok (.irem, 1) := by decide +kernel
theorem dX5_liveByLot_34 : decode cX5_liveByLot 34 = .ok (.invokestatic 337, 3) := by decide +kernel
theorem dX5_liveByLot_37 : decode cX5_liveByLot 37 = .ok (.istore 4, 2) := by decide +kernel
theorem dX5_liveByLot_39 : decode cX5_liveByLot 39 = .ok (.aload_n 0, 1) := by decide +kernel
theorem dX5_liveByLot_40 : decode cX5_liveByLot 40 = .ok (.getfield 40, 3) := by decide +kernel
theorem dX5_liveByLot_43 : decode cX5_liveByLot 43 = .ok (.iload 4, 2) := by decide +kernel
theorem dX5_liveByLot_45 : decode cX5_liveByLot 45 = .ok (.invokevirtual 219, 3) := by decide +kernel
theorem dX5_liveByLot_48 : decode cX5_liveByLot 48 = .ok (.istore 5, 2) := by decide +kernel
theorem dX5_liveByLot_50 : decode cX5_liveByLot 50 = .ok (.iload 5, 2) := by decide +kernel
theorem dX5_liveByLot_52 : decode cX5_liveByLot 52 = .ok (.invokestatic 173, 3) := by decide +kernel
theorem dX5_liveByLot_55 : decode cX5_liveByLot 55 = .ok (.iconst 1, 1) := by decide +kernel
theorem dX5_liveByLot_56 : decode cX5_liveByLot 56 = .ok (.iadd, 1) := by decide +kernel
theorem dX5_liveByLot_57 : decode cX5_liveByLot 57 = .ok (.istore 6, 2) := by decide +kernel
theorem dX5_liveByLot_59 : decode cX5_liveByLot 59 = .ok (.aload_n 0, 1) := by decide +kernel
theorem dX5_liveByLot_60 : decode cX5_liveByLot 60 = .ok (.getfield 40, 3) := by decide +kernel
theorem dX5_liveByLot_63 : decode cX5_liveByLot 63 = .ok (.iconst 1, 1) := by decide +kernel
theorem dX5_liveByLot_64 : decode cX5_liveByLot 64 = .ok (.iload 4, 2) := by decide +kernel
theorem dX5_liveByLot_66 : decode cX5_liveByLot 66 = .ok (.iload 5, 2) := by decide +kernel
theorem dX5_liveByLot_68 : decode cX5_liveByLot 68 = .ok (.iload_n 1, 1) := by decide +kernel
theorem dX5_liveByLot_69 : decode cX5_liveByLot 69 = .ok (.bipush 64, 2) := by decide +kernel
theorem dX5_liveByLot_71 : decode cX5_liveByLot 71 = .ok (.idiv, 1) := by decide +kernel
theorem dX5_liveByLot_72 : decode cX5_liveByLot 72 = .ok (.iload 6, 2) := by decide +kernel
theorem dX5_liveByLot_74 : decode cX5_liveByLot 74 = .ok (.irem, 1) := by decide +kernel
theorem dX5_liveByLot_75 : decode cX5_liveByLot 75 = .ok (.invokestatic 337, 3) := by decide +kernel
theorem dX5_liveByLot_78 : decode cX5_liveByLot 78 = .ok (.invokevirtual 197, 3) := by decide +kernel
theorem dX5_liveByLot_81 : decode cX5_liveByLot 81 = .ok (.return_, 1) := by decide +kernel
theorem dX5_countOf_0 : decode cX5_countOf 0 = .ok (.iload_n 1, 1) := by decide +kernel
theorem dX5_countOf_1 : decode cX5_countOf 1 = .ok (.tableswitch 117 0 7 #[47, 55, 63, 71, 82, 93, 101, 109], 47) := by decide +kernel
theorem dX5_countOf_48 : decode cX5_countOf 48 = .ok (.aload_n 0, 1) := by decide +kernel
theorem dX5_countOf_49 : decode cX5_countOf 49 = .ok (.getfield 31, 3) := by decide +kernel
theorem dX5_countOf_52 : decode cX5_countOf 52 = .ok (.getfield 140, 3) := by decide +kernel
theorem dX5_countOf_55 : decode cX5_countOf 55 = .ok (.ireturn, 1) := by decide +kernel
theorem dX5_countOf_56 : decode cX5_countOf 56 = .ok (.aload_n 0, 1) := by decide +kernel
theorem dX5_countOf_57 : decode cX5_countOf 57 = .ok (.getfield 31, 3) := by decide +kernel
theorem dX5_countOf_60 : decode cX5_countOf 60 = .ok (.getfield 228, 3) := by decide +kernel
theorem dX5_countOf_63 : decode cX5_countOf 63 = .ok (.ireturn, 1) := by decide +kernel
theorem dX5_countOf_64 : decode cX5_countOf 64 = .ok (.aload_n 0, 1) := by decide +kernel
theorem dX5_countOf_65 : decode cX5_countOf 65 = .ok (.getfield 40, 3) := by decide +kernel
theorem dX5_countOf_68 : decode cX5_countOf 68 = .ok (.getfield 187, 3) := by decide +kernel
theorem dX5_countOf_71 : decode cX5_countOf 71 = .ok (.ireturn, 1) := by decide +kernel
theorem dX5_countOf_72 : decode cX5_countOf 72 = .ok (.aload_n 0, 1) := by decide +kernel
theorem dX5_countOf_73 : decode cX5_countOf 73 = .ok (.getfield 40, 3) := by decide +kernel
theorem dX5_countOf_76 : decode cX5_countOf 76 = .ok (.getfield 178, 3) := by decide +kernel
theorem dX5_countOf_79 : decode cX5_countOf 79 = .ok (.invokestatic 173, 3) := by decide +kernel
theorem dX5_countOf_82 : decode cX5_countOf 82 = .ok (.ireturn, 1) := by decide +kernel
theorem dX5_countOf_83 : decode cX5_countOf 83 = .ok (.aload_n 0, 1) := by decide +kernel
theorem dX5_countOf_84 : decode cX5_countOf 84 = .ok (.getfield 40, 3) := by decide +kernel
theorem dX5_countOf_87 : decode cX5_countOf 87 = .ok (.getfield 340, 3) := by decide +kernel
theorem dX5_countOf_90 : decode cX5_countOf 90 = .ok (.invokestatic 173, 3) := by decide +kernel
theorem dX5_countOf_93 : decode cX5_countOf 93 = .ok (.ireturn, 1) := by decide +kernel
theorem dX5_countOf_94 : decode cX5_countOf 94 = .ok (.aload_n 0, 1) := by decide +kernel
theorem dX5_countOf_95 : decode cX5_countOf 95 = .ok (.getfield 31, 3) := by decide +kernel
theorem dX5_countOf_98 : decode cX5_countOf 98 = .ok (.invokevirtual 343, 3) := by decide +kernel
theorem dX5_countOf_101 : decode cX5_countOf 101 = .ok (.ireturn, 1) := by decide +kernel
theorem dX5_countOf_102 : decode cX5_countOf 102 = .ok (.aload_n 0, 1) := by decide +kernel
theorem dX5_countOf_103 : decode cX5_countOf 103 = .ok (.getfield 14, 3) := by decide +kernel
theorem dX5_countOf_106 : decode cX5_countOf 106 = .ok (.invokevirtual 346, 3) := by decide +kernel
theorem dX5_countOf_109 : decode cX5_countOf 109 = .ok (.ireturn, 1) := by decide +kernel
theorem dX5_countOf_110 : decode cX5_countOf 110 = .ok (.aload_n 0, 1) := by decide +kernel
theorem dX5_countOf_111 : decode cX5_countOf 111 = .ok (.getfield 18, 3) := by decide +kernel
theorem dX5_countOf_114 : decode cX5_countOf 114 = .ok (.invokevirtual 346, 3) := by decide +kernel
theorem dX5_countOf_117 : decode cX5_countOf 117 = .ok (.ireturn, 1) := by decide +kernel
theorem dX5_countOf_118 : decode cX5_countOf 118 = .ok (.aload_n 0, 1) := by decide +kernel
theorem dX5_countOf_119 : decode cX5_countOf 119 = .ok (.invokevirtual 349, 3) := by decide +kernel
theorem dX5_countOf_122 : decode cX5_countOf 122 = .ok (.ireturn, 1) := by decide +kernel
theorem dX5_keptHouses_0 : decode cX5_keptHouses 0 = .ok (.iconst 0, 1) := by decide +kernel
theorem dX5_keptHouses_1 : decode cX5_keptHouses 1 = .ok (.istore_n 1, 1) := by decide +kernel
theorem dX5_keptHouses_2 : decode cX5_keptHouses 2 = .ok (.iconst 0, 1) := by decide +kernel
theorem dX5_keptHouses_3 : decode cX5_keptHouses 3 = .ok (.istore_n 2, 1) := by decide +kernel
theorem dX5_keptHouses_4 : decode cX5_keptHouses 4 = .ok (.iload_n 2, 1) := by decide +kernel
theorem dX5_keptHouses_5 : decode cX5_keptHouses 5 = .ok (.iconst 3, 1) := by decide +kernel
theorem dX5_keptHouses_6 : decode cX5_keptHouses 6 = .ok (.if_icmp .ge 26, 3) := by decide +kernel
theorem dX5_keptHouses_9 : decode cX5_keptHouses 9 = .ok (.iload_n 1, 1) := by decide +kernel
theorem dX5_keptHouses_10 : decode cX5_keptHouses 10 = .ok (.aload_n 0, 1) := by decide +kernel
theorem dX5_keptHouses_11 : decode cX5_keptHouses 11 = .ok (.getfield 48, 3) := by decide +kernel
theorem dX5_keptHouses_14 : decode cX5_keptHouses 14 = .ok (.iload_n 2, 1) := by decide +kernel
theorem dX5_keptHouses_15 : decode cX5_keptHouses 15 = .ok (.baload, 1) := by decide +kernel
theorem dX5_keptHouses_16 : decode cX5_keptHouses 16 = .ok (.ifCond .eq 7, 3) := by decide +kernel
theorem dX5_keptHouses_19 : decode cX5_keptHouses 19 = .ok (.iconst 1, 1) := by decide +kernel
theorem dX5_keptHouses_20 : decode cX5_keptHouses 20 = .ok (.goto 4, 3) := by decide +kernel
theorem dX5_keptHouses_23 : decode cX5_keptHouses 23 = .ok (.iconst 0, 1) := by decide +kernel
theorem dX5_keptHouses_24 : decode cX5_keptHouses 24 = .ok (.iadd, 1) := by decide +kernel
theorem dX5_keptHouses_25 : decode cX5_keptHouses 25 = .ok (.istore_n 1, 1) := by decide +kernel
theorem dX5_keptHouses_26 : decode cX5_keptHouses 26 = .ok (.iinc 2 1, 3) := by decide +kernel
theorem dX5_keptHouses_29 : decode cX5_keptHouses 29 = .ok (.goto (-25), 3) := by decide +kernel
theorem dX5_keptHouses_32 : decode cX5_keptHouses 32 = .ok (.iload_n 1, 1) := by decide +kernel
theorem dX5_keptHouses_33 : decode cX5_keptHouses 33 = .ok (.ireturn, 1) := by decide +kernel
theorem dX6_init_0 : decode cX6_init 0 = .ok (.aload_n 0, 1) := by decide +kernel
theorem dX6_init_1 : decode cX6_init 1 = .ok (.invokespecial 1, 3) := by decide +kernel
theorem dX6_init_4 : decode cX6_init 4 = .ok (.aload_n 0, 1) := by decide +kernel
theorem dX6_init_5 : decode cX6_init 5 = .ok (.bipush 6, 2) := by decide +kernel
theorem dX6_init_7 : decode cX6_init 7 = .ok (.newarray .int, 2) := by decide +kernel
theorem dX6_init_9 : decode cX6_init 9 = .ok (.putfield 7, 3) := by decide +kernel
theorem dX6_init_12 : decode cX6_init 12 = .ok (.aload_n 0, 1) := by decide +kernel
theorem dX6_init_13 : decode cX6_init 13 = .ok (.sipush 240, 3) := by decide +kernel
theorem dX6_init_16 : decode cX6_init 16 = .ok (.newarray .int, 2) := by decide +kernel
theorem dX6_init_18 : decode cX6_init 18 = .ok (.putfield 13, 3) := by decide +kernel
theorem dX6_init_21 : decode cX6_init 21 = .ok (.aload_n 0, 1) := by decide +kernel
theorem dX6_init_22 : decode cX6_init 22 = .ok (.iconst 4, 1) := by decide +kernel
theorem dX6_init_23 : decode cX6_init 23 = .ok (.newarray .int, 2) := by decide +kernel
theorem dX6_init_25 : decode cX6_init 25 = .ok (.putfield 16, 3) := by decide +kernel
theorem dX6_init_28 : decode cX6_init 28 = .ok (.aload_n 0, 1) := by decide +kernel
theorem dX6_init_29 : decode cX6_init 29 = .ok (.sipush 320, 3) := by decide +kernel
theorem dX6_init_32 : decode cX6_init 32 = .ok (.newarray .int, 2) := by decide +kernel
theorem dX6_init_34 : decode cX6_init 34 = .ok (.putfield 19, 3) := by decide +kernel
theorem dX6_init_37 : decode cX6_init 37 = .ok (.aload_n 0, 1) := by decide +kernel
theorem dX6_init_38 : decode cX6_init 38 = .ok (.bipush 6, 2) := by decide +kernel
theorem dX6_init_40 : decode cX6_init 40 = .ok (.newarray .int, 2) := by decide +kernel
theorem dX6_init_42 : decode cX6_init 42 = .ok (.putfield 22, 3) := by decide +kernel
theorem dX6_init_45 : decode cX6_init 45 = .ok (.aload_n 0, 1) := by decide +kernel
theorem dX6_init_46 : decode cX6_init 46 = .ok (.bipush 6, 2) := by decide +kernel
theorem dX6_init_48 : decode cX6_init 48 = .ok (.newarray .int, 2) := by decide +kernel
theorem dX6_init_50 : decode cX6_init 50 = .ok (.putfield 25, 3) := by decide +kernel
theorem dX6_init_53 : decode cX6_init 53 = .ok (.aload_n 0, 1) := by decide +kernel
theorem dX6_init_54 : decode cX6_init 54 = .ok (.bipush 6, 2) := by decide +kernel
theorem dX6_init_56 : decode cX6_init 56 = .ok (.newarray .int, 2) := by decide +kernel
theorem dX6_init_58 : decode cX6_init 58 = .ok (.putfield 28, 3) := by decide +kernel
theorem dX6_init_61 : decode cX6_init 61 = .ok (.aload_n 0, 1) := by decide +kernel
theorem dX6_init_62 : decode cX6_init 62 = .ok (.bipush 7, 2) := by decide +kernel
theorem dX6_init_64 : decode cX6_init 64 = .ok (.newarray .int, 2) := by decide +kernel
theorem dX6_init_66 : decode cX6_init 66 = .ok (.putfield 31, 3) := by decide +kernel
theorem dX6_init_69 : decode cX6_init 69 = .ok (.aload_n 0, 1) := by decide +kernel
theorem dX6_init_70 : decode cX6_init 70 = .ok (.bipush 7, 2) := by decide +kernel
theorem dX6_init_72 : decode cX6_init 72 = .ok (.newarray .int, 2) := by decide +kernel
theorem dX6_init_74 : decode cX6_init 74 = .ok (.putfield 34, 3) := by decide +kernel
theorem dX6_init_77 : decode cX6_init 77 = .ok (.aload_n 0, 1) := by decide +kernel
theorem dX6_init_78 : decode cX6_init 78 = .ok (.bipush 7, 2) := by decide +kernel
theorem dX6_init_80 : decode cX6_init 80 = .ok (.newarray .int, 2) := by decide +kernel
theorem dX6_init_82 : decode cX6_init 82 = .ok (.putfield 37, 3) := by decide +kernel
theorem dX6_init_85 : decode cX6_init 85 = .ok (.aload_n 0, 1) := by decide +kernel
theorem dX6_init_86 : decode cX6_init 86 = .ok (.iconst 3, 1) := by decide +kernel
theorem dX6_init_87 : decode cX6_init 87 = .ok (.newarray .int, 2) := by decide +kernel
theorem dX6_init_89 : decode cX6_init 89 = .ok (.putfield 40, 3) := by decide +kernel
theorem dX6_init_92 : decode cX6_init 92 = .ok (.aload_n 0, 1) := by decide +kernel
theorem dX6_init_93 : decode cX6_init 93 = .ok (.bipush 12, 2) := by decide +kernel
theorem dX6_init_95 : decode cX6_init 95 = .ok (.newarray .int, 2) := by decide +kernel
theorem dX6_init_97 : decode cX6_init 97 = .ok (.putfield 43, 3) := by decide +kernel
theorem dX6_init_100 : decode cX6_init 100 = .ok (.aload_n 0, 1) := by decide +kernel
theorem dX6_init_101 : decode cX6_init 101 = .ok (.sipush 480, 3) := by decide +kernel
theorem dX6_init_104 : decode cX6_init 104 = .ok (.newarray .int, 2) := by decide +kernel
theorem dX6_init_106 : decode cX6_init 106 = .ok (.putfield 46, 3) := by decide +kernel
theorem dX6_init_109 : decode cX6_init 109 = .ok (.aload_n 0, 1) := by decide +kernel
theorem dX6_init_110 : decode cX6_init 110 = .ok (.lconst 1, 1) := by decide +kernel
theorem dX6_init_111 : decode cX6_init 111 = .ok (.putfield 49, 3) := by decide +kernel
theorem dX6_init_114 : decode cX6_init 114 = .ok (.aload_n 0, 1) := by decide +kernel
theorem dX6_init_115 : decode cX6_init 115 = .ok (.bipush 6, 2) := by decide +kernel
theorem dX6_init_117 : decode cX6_init 117 = .ok (.newarray .int, 2) := by decide +kernel
theorem dX6_init_119 : decode cX6_init 119 = .ok (.putfield 53, 3) := by decide +kernel
theorem dX6_init_122 : decode cX6_init 122 = .ok (.aload_n 0, 1) := by decide +kernel
theorem dX6_init_123 : decode cX6_init 123 = .ok (.bipush 40, 2) := by decide +kernel
theorem dX6_init_125 : decode cX6_init 125 = .ok (.newarray .int, 2) := by decide +kernel
theorem dX6_init_127 : decode cX6_init 127 = .ok (.putfield 56, 3) := by decide +kernel
theorem dX6_init_130 : decode cX6_init 130 = .ok (.aload_n 0, 1) := by decide +kernel
theorem dX6_init_131 : decode cX6_init 131 = .ok (.bipush 18, 2) := by decide +kernel
theorem dX6_init_133 : decode cX6_init 133 = .ok (.newarray .int, 2) := by decide +kernel
theorem dX6_init_135 : decode cX6_init 135 = .ok (.putfield 59, 3) := by decide +kernel
theorem dX6_init_138 : decode cX6_init 138 = .ok (.aload_n 0, 1) := by decide +kernel
theorem dX6_init_139 : decode cX6_init 139 = .ok (.bipush 21, 2) := by decide +kernel
theorem dX6_init_141 : decode cX6_init 141 = .ok (.newarray .int, 2) := by decide +kernel
theorem dX6_init_143 : decode cX6_init 143 = .ok (.putfield 62, 3) := by decide +kernel
theorem dX6_init_146 : decode cX6_init 146 = .ok (.aload_n 0, 1) := by decide +kernel
theorem dX6_init_147 : decode cX6_init 147 = .ok (.iconst 3, 1) := by decide +kernel
theorem dX6_init_148 : decode cX6_init 148 = .ok (.newarray .boolean, 2) := by decide +kernel
theorem dX6_init_150 : decode cX6_init 150 = .ok (.putfield 65, 3) := by decide +kernel
theorem dX6_init_153 : decode cX6_init 153 = .ok (.aload_n 0, 1) := by decide +kernel
theorem dX6_init_154 : decode cX6_init 154 = .ok (.sipush 1488, 3) := by decide +kernel
theorem dX6_init_157 : decode cX6_init 157 = .ok (.newarray .int, 2) := by decide +kernel
theorem dX6_init_159 : decode cX6_init 159 = .ok (.putfield 69, 3) := by decide +kernel
theorem dX6_init_162 : decode cX6_init 162 = .ok (.aload_n 0, 1) := by decide +kernel
theorem dX6_init_163 : decode cX6_init 163 = .ok (.sipush 24576, 3) := by decide +kernel
theorem dX6_init_166 : decode cX6_init 166 = .ok (.newarray .boolean, 2) := by decide +kernel
theorem dX6_init_168 : decode cX6_init 168 = .ok (.putfield 72, 3) := by decide +kernel
theorem dX6_init_171 : decode cX6_init 171 = .ok (.aload_n 0, 1) := by decide +kernel
theorem dX6_init_172 : decode cX6_init 172 = .ok (.sipush 24576, 3) := by decide +kernel
theorem dX6_init_175 : decode cX6_init 175 = .ok (.newarray .int, 2) := by decide +kernel
theorem dX6_init_177 : decode cX6_init 177 = .ok (.putfield 75, 3) := by decide +kernel
theorem dX6_init_180 : decode cX6_init 180 = .ok (.aload_n 0, 1) := by decide +kernel
theorem dX6_init_181 : decode cX6_init 181 = .ok (.sipush 128, 3) := by decide +kernel
theorem dX6_init_184 : decode cX6_init 184 = .ok (.newarray .int, 2) := by decide +kernel
theorem dX6_init_186 : decode cX6_init 186 = .ok (.putfield 78, 3) := by decide +kernel
theorem dX6_init_189 : decode cX6_init 189 = .ok (.iconst 0, 1) := by decide +kernel
theorem dX6_init_190 : decode cX6_init 190 = .ok (.istore_n 1, 1) := by decide +kernel
theorem dX6_init_191 : decode cX6_init 191 = .ok (.iload_n 1, 1) := by decide +kernel
theorem dX6_init_192 : decode cX6_init 192 = .ok (.bipush 6, 2) := by decide +kernel
theorem dX6_init_194 : decode cX6_init 194 = .ok (.if_icmp .ge 16, 3) := by decide +kernel
theorem dX6_init_197 : decode cX6_init 197 = .ok (.aload_n 0, 1) := by decide +kernel
theorem dX6_init_198 : decode cX6_init 198 = .ok (.getfield 7, 3) := by decide +kernel
theorem dX6_init_201 : decode cX6_init 201 = .ok (.iload_n 1, 1) := by decide +kernel
theorem dX6_init_202 : decode cX6_init 202 = .ok (.iconst (-1), 1) := by decide +kernel
theorem dX6_init_203 : decode cX6_init 203 = .ok (.iastore, 1) := by decide +kernel
theorem dX6_init_204 : decode cX6_init 204 = .ok (.iinc 1 1, 3) := by decide +kernel
theorem dX6_init_207 : decode cX6_init 207 = .ok (.goto (-16), 3) := by decide +kernel
theorem dX6_init_210 : decode cX6_init 210 = .ok (.iconst 0, 1) := by decide +kernel
theorem dX6_init_211 : decode cX6_init 211 = .ok (.istore_n 1, 1) := by decide +kernel
theorem dX6_init_212 : decode cX6_init 212 = .ok (.iload_n 1, 1) := by decide +kernel
theorem dX6_init_213 : decode cX6_init 213 = .ok (.iconst 4, 1) := by decide +kernel
theorem dX6_init_214 : decode cX6_init 214 = .ok (.if_icmp .ge 16, 3) := by decide +kernel
theorem dX6_init_217 : decode cX6_init 217 = .ok (.aload_n 0, 1) := by decide +kernel
theorem dX6_init_218 : decode cX6_init 218 = .ok (.getfield 16, 3) := by decide +kernel
theorem dX6_init_221 : decode cX6_init 221 = .ok (.iload_n 1, 1) := by decide +kernel
theorem dX6_init_222 : decode cX6_init 222 = .ok (.iconst (-1), 1) := by decide +kernel
theorem dX6_init_223 : decode cX6_init 223 = .ok (.iastore, 1) := by decide +kernel
theorem dX6_init_224 : decode cX6_init 224 = .ok (.iinc 1 1, 3) := by decide +kernel
theorem dX6_init_227 : decode cX6_init 227 = .ok (.goto (-15), 3) := by decide +kernel
theorem dX6_init_230 : decode cX6_init 230 = .ok (.aload_n 0, 1) := by decide +kernel
theorem dX6_init_231 : decode cX6_init 231 = .ok (.invokevirtual 81, 3) := by decide +kernel
theorem dX6_init_234 : decode cX6_init 234 = .ok (.return_, 1) := by decide +kernel
theorem dX6_newRoutes_0 : decode cX6_newRoutes 0 = .ok (.aload_n 0, 1) := by decide +kernel
theorem dX6_newRoutes_1 : decode cX6_newRoutes 1 = .ok (.getfield 40, 3) := by decide +kernel
theorem dX6_newRoutes_4 : decode cX6_newRoutes 4 = .ok (.iconst 0, 1) := by decide +kernel
theorem dX6_newRoutes_5 : decode cX6_newRoutes 5 = .ok (.iconst 1, 1) := by decide +kernel
theorem dX6_newRoutes_6 : decode cX6_newRoutes 6 = .ok (.iastore, 1) := by decide +kernel
theorem dX6_newRoutes_7 : decode cX6_newRoutes 7 = .ok (.aload_n 0, 1) := by decide +kernel
theorem dX6_newRoutes_8 : decode cX6_newRoutes 8 = .ok (.getfield 40, 3) := by decide +kernel
theorem dX6_newRoutes_11 : decode cX6_newRoutes 11 = .ok (.iconst 1, 1) := by decide +kernel
theorem dX6_newRoutes_12 : decode cX6_newRoutes 12 = .ok (.iconst 2, 1) := by decide +kernel
theorem dX6_newRoutes_13 : decode cX6_newRoutes 13 = .ok (.iastore, 1) := by decide +kernel
theorem dX6_newRoutes_14 : decode cX6_newRoutes 14 = .ok (.aload_n 0, 1) := by decide +kernel
theorem dX6_newRoutes_15 : decode cX6_newRoutes 15 = .ok (.getfield 40, 3) := by decide +kernel
theorem dX6_newRoutes_18 : decode cX6_newRoutes 18 = .ok (.iconst 2, 1) := by decide +kernel
theorem dX6_newRoutes_19 : decode cX6_newRoutes 19 = .ok (.iconst 4, 1) := by decide +kernel
theorem dX6_newRoutes_20 : decode cX6_newRoutes 20 = .ok (.iastore, 1) := by decide +kernel
theorem dX6_newRoutes_21 : decode cX6_newRoutes 21 = .ok (.return_, 1) := by decide +kernel
theorem dX6_in_0 : decode cX6_in 0 = .ok (.lload_n 0, 1) := by decide +kernel
theorem dX6_in_1 : decode cX6_in 1 = .ok (.lload_n 2, 1) := by decide +kernel
theorem dX6_in_2 : decode cX6_in 2 = .ok (.lcmp, 1) := by decide +kernel
theorem dX6_in_3 : decode cX6_in 3 = .ok (.ifCond .lt 14, 3) := by decide +kernel
theorem dX6_in_6 : decode cX6_in 6 = .ok (.lload_n 0, 1) := by decide +kernel
theorem dX6_in_7 : decode cX6_in 7 = .ok (.lload 4, 2) := by decide +kernel
theorem dX6_in_9 : decode cX6_in 9 = .ok (.lcmp, 1) := by decide +kernel
theorem dX6_in_10 : decode cX6_in 10 = .ok (.ifCond .gt 7, 3) := by decide +kernel
theorem dX6_in_13 : decode cX6_in 13 = .ok (.iconst 1, 1) := by decide +kernel
theorem dX6_in_14 : decode cX6_in 14 = .ok (.goto 4, 3) := by decide +kernel
theorem dX6_in_17 : decode cX6_in 17 = .ok (.iconst 0, 1) := by decide +kernel
theorem dX6_in_18 : decode cX6_in 18 = .ok (.ireturn, 1) := by decide +kernel
theorem dX6_has_0 : decode cX6_has 0 = .ok (.iload_n 0, 1) := by decide +kernel
theorem dX6_has_1 : decode cX6_has 1 = .ok (.iload_n 1, 1) := by decide +kernel
theorem dX6_has_2 : decode cX6_has 2 = .ok (.ishr, 1) := by decide +kernel
theorem dX6_has_3 : decode cX6_has 3 = .ok (.iconst 1, 1) := by decide +kernel
theorem dX6_has_4 : decode cX6_has 4 = .ok (.iand, 1) := by decide +kernel
theorem dX6_has_5 : decode cX6_has 5 = .ok (.iconst 1, 1) := by decide +kernel
theorem dX6_has_6 : decode cX6_has 6 = .ok (.if_icmp .ne 7, 3) := by decide +kernel
theorem dX6_has_9 : decode cX6_has 9 = .ok (.iconst 1, 1) := by decide +kernel
theorem dX6_has_10 : decode cX6_has 10 = .ok (.goto 4, 3) := by decide +kernel
theorem dX6_has_13 : decode cX6_has 13 = .ok (.iconst 0, 1) := by decide +kernel
theorem dX6_has_14 : decode cX6_has 14 = .ok (.ireturn, 1) := by decide +kernel
theorem dX6_ones_0 : decode cX6_ones 0 = .ok (.iconst 0, 1) := by decide +kernel
theorem dX6_ones_1 : decode cX6_ones 1 = .ok (.istore_n 1, 1) := by decide +kernel
theorem dX6_ones_2 : decode cX6_ones 2 = .ok (.iload_n 0, 1) := by decide +kernel
theorem dX6_ones_3 : decode cX6_ones 3 = .ok (.istore_n 2, 1) := by decide +kernel
theorem dX6_ones_4 : decode cX6_ones 4 = .ok (.iload_n 2, 1) := by decide +kernel
theorem dX6_ones_5 : decode cX6_ones 5 = .ok (.ifCond .eq 15, 3) := by decide +kernel
theorem dX6_ones_8 : decode cX6_ones 8 = .ok (.iinc 1 1, 3) := by decide +kernel
theorem dX6_ones_11 : decode cX6_ones 11 = .ok (.iload_n 2, 1) := by decide +kernel
theorem dX6_ones_12 : decode cX6_ones 12 = .ok (.iload_n 2, 1) := by decide +kernel
theorem dX6_ones_13 : decode cX6_ones 13 = .ok (.iconst 1, 1) := by decide +kernel
theorem dX6_ones_14 : decode cX6_ones 14 = .ok (.isub, 1) := by decide +kernel
theorem dX6_ones_15 : decode cX6_ones 15 = .ok (.iand, 1) := by decide +kernel
theorem dX6_ones_16 : decode cX6_ones 16 = .ok (.istore_n 2, 1) := by decide +kernel
theorem dX6_ones_17 : decode cX6_ones 17 = .ok (.goto (-13), 3) := by decide +kernel
theorem dX6_ones_20 : decode cX6_ones 20 = .ok (.iload_n 1, 1) := by decide +kernel
theorem dX6_ones_21 : decode cX6_ones 21 = .ok (.ireturn, 1) := by decide +kernel
theorem dX6_find_0 : decode cX6_find 0 = .ok (.aload_n 0, 1) := by decide +kernel
theorem dX6_find_1 : decode cX6_find 1 = .ok (.iload_n 1, 1) := by decide +kernel
theorem dX6_find_2 : decode cX6_find 2 = .ok (.putfield 84, 3) := by decide +kernel
theorem dX6_find_5 : decode cX6_find 5 = .ok (.aload_n 0, 1) := by decide +kernel
theorem dX6_find_6 : decode cX6_find 6 = .ok (.getfield 53, 3) := by decide +kernel
theorem dX6_find_9 : decode cX6_find 9 = .ok (.iload_n 1, 1) := by decide +kernel
theorem dX6_find_10 : decode cX6_find 10 = .ok (.dup2, 1) := by decide +kernel
theorem dX6_find_11 : decode cX6_find 11 = .ok (.iaload, 1) := by decide +kernel
theorem dX6_find_12 : decode cX6_find 12 = .ok (.iconst 1, 1) := by decide +kernel
theorem dX6_find_13 : decode cX6_find 13 = .ok (.iadd, 1) := by decide +kernel
theorem dX6_find_14 : decode cX6_find 14 = .ok (.iastore, 1) := by decide +kernel
theorem dX6_find_15 : decode cX6_find 15 = .ok (.bipush (-3), 2) := by decide +kernel
theorem dX6_find_17 : decode cX6_find 17 = .ok (.ireturn, 1) := by decide +kernel
theorem dX6_answer_0 : decode cX6_answer 0 = .ok (.aload_n 0, 1) := by decide +kernel
theorem dX6_answer_1 : decode cX6_answer 1 = .ok (.iload_n 2, 1) := by decide +kernel
theorem dX6_answer_2 : decode cX6_answer 2 = .ok (.putfield 88, 3) := by decide +kernel
theorem dX6_answer_5 : decode cX6_answer 5 = .ok (.iload_n 1, 1) := by decide +kernel
theorem dX6_answer_6 : decode cX6_answer 6 = .ok (.ireturn, 1) := by decide +kernel
theorem dX6_isRow_0 : decode cX6_isRow 0 = .ok (.iload_n 0, 1) := by decide +kernel
theorem dX6_isRow_1 : decode cX6_isRow 1 = .ok (.i2l, 1) := by decide +kernel
theorem dX6_isRow_2 : decode cX6_isRow 2 = .ok (.lconst 0, 1) := by decide +kernel
theorem dX6_isRow_3 : decode cX6_isRow 3 = .ok (.ldc2_w 91, 3) := by decide +kernel
theorem dX6_isRow_6 : decode cX6_isRow 6 = .ok (.invokestatic 93, 3) := by decide +kernel
theorem dX6_isRow_9 : decode cX6_isRow 9 = .ok (.ireturn, 1) := by decide +kernel
theorem dX6_isText_0 : decode cX6_isText 0 = .ok (.iload_n 0, 1) := by decide +kernel
theorem dX6_isText_1 : decode cX6_isText 1 = .ok (.i2l, 1) := by decide +kernel
theorem dX6_isText_2 : decode cX6_isText 2 = .ok (.lconst 0, 1) := by decide +kernel
theorem dX6_isText_3 : decode cX6_isText 3 = .ok (.ldc2_w 97, 3) := by decide +kernel
theorem dX6_isText_6 : decode cX6_isText 6 = .ok (.invokestatic 93, 3) := by decide +kernel
theorem dX6_isText_9 : decode cX6_isText 9 = .ok (.ireturn, 1) := by decide +kernel
theorem dX6_row_0 : decode cX6_row 0 = .ok (.iload_n 1, 1) := by decide +kernel
theorem dX6_row_1 : decode cX6_row 1 = .ok (.invokestatic 99, 3) := by decide +kernel
theorem dX6_row_4 : decode cX6_row 4 = .ok (.ifCond .eq 9, 3) := by decide +kernel
theorem dX6_row_7 : decode cX6_row 7 = .ok (.iload_n 2, 1) := by decide +kernel
theorem dX6_row_8 : decode cX6_row 8 = .ok (.bipush 40, 2) := by decide +kernel
theorem dX6_row_10 : decode cX6_row 10 = .ok (.if_icmp .le 5, 3) := by decide +kernel
theorem dX6_row_13 : decode cX6_row 13 = .ok (.iconst (-1), 1) := by decide +kernel
theorem dX6_row_14 : decode cX6_row 14 = .ok (.ireturn, 1) := by decide +kernel
theorem dX6_row_15 : decode cX6_row 15 = .ok (.iload_n 2, 1) := by decide +kernel
theorem dX6_row_16 : decode cX6_row 16 = .ok (.ifCond .ge 9, 3) := by decide +kernel
theorem dX6_row_19 : decode cX6_row 19 = .ok (.aload_n 0, 1) := by decide +kernel
theorem dX6_row_20 : decode cX6_row 20 = .ok (.iconst 5, 1) := by decide +kernel
theorem dX6_row_21 : decode cX6_row 21 = .ok (.invokevirtual 103, 3) := by decide +kernel
theorem dX6_row_24 : decode cX6_row 24 = .ok (.ireturn, 1) := by decide +kernel
theorem dX6_row_25 : decode cX6_row 25 = .ok (.aload_n 0, 1) := by decide +kernel
theorem dX6_row_26 : decode cX6_row 26 = .ok (.getfield 7, 3) := by decide +kernel
theorem dX6_row_29 : decode cX6_row 29 = .ok (.iload_n 1, 1) := by decide +kernel
theorem dX6_row_30 : decode cX6_row 30 = .ok (.iload_n 2, 1) := by decide +kernel
theorem dX6_row_31 : decode cX6_row 31 = .ok (.iastore, 1) := by decide +kernel
theorem dX6_row_32 : decode cX6_row 32 = .ok (.iconst 0, 1) := by decide +kernel
theorem dX6_row_33 : decode cX6_row 33 = .ok (.istore_n 3, 1) := by decide +kernel
theorem dX6_row_34 : decode cX6_row 34 = .ok (.iload_n 3, 1) := by decide +kernel
theorem dX6_row_35 : decode cX6_row 35 = .ok (.bipush 40, 2) := by decide +kernel
theorem dX6_row_37 : decode cX6_row 37 = .ok (.if_icmp .ge 21, 3) := by decide +kernel
theorem dX6_row_40 : decode cX6_row 40 = .ok (.aload_n 0, 1) := by decide +kernel
theorem dX6_row_41 : decode cX6_row 41 = .ok (.getfield 13, 3) := by decide +kernel
theorem dX6_row_44 : decode cX6_row 44 = .ok (.bipush 40, 2) := by decide +kernel
theorem dX6_row_46 : decode cX6_row 46 = .ok (.iload_n 1, 1) := by decide +kernel
theorem dX6_row_47 : decode cX6_row 47 = .ok (.imul, 1) := by decide +kernel
theorem dX6_row_48 : decode cX6_row 48 = .ok (.iload_n 3, 1) := by decide +kernel
theorem dX6_row_49 : decode cX6_row 49 = .ok (.iadd, 1) := by decide +kernel
theorem dX6_row_50 : decode cX6_row 50 = .ok (.iconst 0, 1) := by decide +kernel
theorem dX6_row_51 : decode cX6_row 51 = .ok (.iastore, 1) := by decide +kernel
theorem dX6_row_52 : decode cX6_row 52 = .ok (.iinc 3 1, 3) := by decide +kernel
theorem dX6_row_55 : decode cX6_row 55 = .ok (.goto (-21), 3) := by decide +kernel
theorem dX6_row_58 : decode cX6_row 58 = .ok (.iload_n 2, 1) := by decide +kernel
theorem dX6_row_59 : decode cX6_row 59 = .ok (.ireturn, 1) := by decide +kernel
theorem dX6_lacksPlace_0 : decode cX6_lacksPlace 0 = .ok (.iload_n 1, 1) := by decide +kernel
theorem dX6_lacksPlace_1 : decode cX6_lacksPlace 1 = .ok (.invokestatic 99, 3) := by decide +kernel
theorem dX6_lacksPlace_4 : decode cX6_lacksPlace 4 = .ok (.ifCond .ne 5, 3) := by decide +kernel
theorem dX6_lacksPlace_7 : decode cX6_lacksPlace 7 = .ok (.iconst (-1), 1) := by decide +kernel
theorem dX6_lacksPlace_8 : decode cX6_lacksPlace 8 = .ok (.ireturn, 1) := by decide +kernel
theorem dX6_lacksPlace_9 : decode cX6_lacksPlace 9 = .ok (.aload_n 0, 1) := by decide +kernel
theorem dX6_lacksPlace_10 : decode cX6_lacksPlace 10 = .ok (.getfield 7, 3) := by decide +kernel
theorem dX6_lacksPlace_13 : decode cX6_lacksPlace 13 = .ok (.iload_n 1, 1) := by decide +kernel
theorem dX6_lacksPlace_14 : decode cX6_lacksPlace 14 = .ok (.iaload, 1) := by decide +kernel
theorem dX6_lacksPlace_15 : decode cX6_lacksPlace 15 = .ok (.ifCond .ge 9, 3) := by decide +kernel
theorem dX6_lacksPlace_18 : decode cX6_lacksPlace 18 = .ok (.aload_n 0, 1) := by decide +kernel
theorem dX6_lacksPlace_19 : decode cX6_lacksPlace 19 = .ok (.iconst 1, 1) := by decide +kernel
theorem dX6_lacksPlace_20 : decode cX6_lacksPlace 20 = .ok (.invokevirtual 103, 3) := by decide +kernel
theorem dX6_lacksPlace_23 : decode cX6_lacksPlace 23 = .ok (.ireturn, 1) := by decide +kernel
theorem dX6_lacksPlace_24 : decode cX6_lacksPlace 24 = .ok (.iload_n 2, 1) := by decide +kernel
theorem dX6_lacksPlace_25 : decode cX6_lacksPlace 25 = .ok (.i2l, 1) := by decide +kernel
theorem dX6_lacksPlace_26 : decode cX6_lacksPlace 26 = .ok (.lconst 0, 1) := by decide +kernel
theorem dX6_lacksPlace_27 : decode cX6_lacksPlace 27 = .ok (.aload_n 0, 1) := by decide +kernel
theorem dX6_lacksPlace_28 : decode cX6_lacksPlace 28 = .ok (.getfield 7, 3) := by decide +kernel
theorem dX6_lacksPlace_31 : decode cX6_lacksPlace 31 = .ok (.iload_n 1, 1) := by decide +kernel
theorem dX6_lacksPlace_32 : decode cX6_lacksPlace 32 = .ok (.iaload, 1) := by decide +kernel
theorem dX6_lacksPlace_33 : decode cX6_lacksPlace 33 = .ok (.iconst 1, 1) := by decide +kernel
theorem dX6_lacksPlace_34 : decode cX6_lacksPlace 34 = .ok (.isub, 1) := by decide +kernel
theorem dX6_lacksPlace_35 : decode cX6_lacksPlace 35 = .ok (.i2l, 1) := by decide +kernel
theorem dX6_lacksPlace_36 : decode cX6_lacksPlace 36 = .ok (.invokestatic 93, 3) := by decide +kernel
theorem dX6_lacksPlace_39 : decode cX6_lacksPlace 39 = .ok (.ifCond .eq 7, 3) := by decide +kernel
theorem dX6_lacksPlace_42 : decode cX6_lacksPlace 42 = .ok (.iconst 0, 1) := by decide +kernel
theorem dX6_lacksPlace_43 : decode cX6_lacksPlace 43 = .ok (.goto 8, 3) := by decide +kernel
theorem dX6_lacksPlace_46 : decode cX6_lacksPlace 46 = .ok (.aload_n 0, 1) := by decide +kernel
theorem dX6_lacksPlace_47 : decode cX6_lacksPlace 47 = .ok (.iconst 2, 1) := by decide +kernel
theorem dX6_lacksPlace_48 : decode cX6_lacksPlace 48 = .ok (.invokevirtual 103, 3) := by decide +kernel
theorem dX6_lacksPlace_51 : decode cX6_lacksPlace 51 = .ok (.ireturn, 1) := by decide +kernel
theorem dX6_lay_0 : decode cX6_lay 0 = .ok (.aload_n 0, 1) := by decide +kernel
theorem dX6_lay_1 : decode cX6_lay 1 = .ok (.iload_n 1, 1) := by decide +kernel
theorem dX6_lay_2 : decode cX6_lay 2 = .ok (.iload_n 2, 1) := by decide +kernel
theorem dX6_lay_3 : decode cX6_lay 3 = .ok (.invokevirtual 107, 3) := by decide +kernel
theorem dX6_lay_6 : decode cX6_lay 6 = .ok (.istore 4, 2) := by decide +kernel
theorem dX6_lay_8 : decode cX6_lay 8 = .ok (.iload 4, 2) := by decide +kernel
theorem dX6_lay_10 : decode cX6_lay 10 = .ok (.ifCond .ge 6, 3) := by decide +kernel
theorem dX6_lay_13 : decode cX6_lay 13 = .ok (.iload 4, 2) := by decide +kernel
theorem dX6_lay_15 : decode cX6_lay 15 = .ok (.ireturn, 1) := by decide +kernel
theorem dX6_lay_16 : decode cX6_lay 16 = .ok (.aload_n 0, 1) := by decide +kernel
theorem dX6_lay_17 : decode cX6_lay 17 = .ok (.getfield 13, 3) := by decide +kernel
theorem dX6_lay_20 : decode cX6_lay 20 = .ok (.bipush 40, 2) := by decide +kernel
theorem dX6_lay_22 : decode cX6_lay 22 = .ok (.iload_n 1, 1) := by decide +kernel
theorem dX6_lay_23 : decode cX6_lay 23 = .ok (.imul, 1) := by decide +kernel
theorem dX6_lay_24 : decode cX6_lay 24 = .ok (.iload_n 2, 1) := by decide +kernel
theorem dX6_lay_25 : decode cX6_lay 25 = .ok (.iadd, 1) := by decide +kernel
theorem dX6_lay_26 : decode cX6_lay 26 = .ok (.iaload, 1) := by decide +kernel
theorem dX6_lay_27 : decode cX6_lay 27 = .ok (.istore 5, 2) := by decide +kernel
theorem dX6_lay_29 : decode cX6_lay 29 = .ok (.aload_n 0, 1) := by decide +kernel
theorem dX6_lay_30 : decode cX6_lay 30 = .ok (.getfield 13, 3) := by decide +kernel
theorem dX6_lay_33 : decode cX6_lay 33 = .ok (.bipush 40, 2) := by decide +kernel
theorem dX6_lay_35 : decode cX6_lay 35 = .ok (.iload_n 1, 1) := by decide +kernel
theorem dX6_lay_36 : decode cX6_lay 36 = .ok (.imul, 1) := by decide +kernel
theorem dX6_lay_37 : decode cX6_lay 37 = .ok (.iload_n 2, 1) := by decide +kernel
theorem dX6_lay_38 : decode cX6_lay 38 = .ok (.iadd, 1) := by decide +kernel
theorem dX6_lay_39 : decode cX6_lay 39 = .ok (.iload_n 3, 1) := by decide +kernel
theorem dX6_lay_40 : decode cX6_lay 40 = .ok (.iastore, 1) := by decide +kernel
theorem dX6_lay_41 : decode cX6_lay 41 = .ok (.aload_n 0, 1) := by decide +kernel
theorem dX6_lay_42 : decode cX6_lay 42 = .ok (.iconst 1, 1) := by decide +kernel
theorem dX6_lay_43 : decode cX6_lay 43 = .ok (.iload 5, 2) := by decide +kernel
theorem dX6_lay_45 : decode cX6_lay 45 = .ok (.invokevirtual 111, 3) := by decide +kernel
theorem dX6_lay_48 : decode cX6_lay 48 = .ok (.ireturn, 1) := by decide +kernel
theorem dX6_at_0 : decode cX6_at 0 = .ok (.aload_n 0, 1) := by decide +kernel
theorem dX6_at_1 : decode cX6_at 1 = .ok (.iload_n 1, 1) := by decide +kernel
theorem dX6_at_2 : decode cX6_at 2 = .ok (.iload_n 2, 1) := by decide +kernel
theorem dX6_at_3 : decode cX6_at 3 = .ok (.invokevirtual 107, 3) := by decide +kernel
theorem dX6_at_6 : decode cX6_at 6 = .ok (.istore_n 3, 1) := by decide +kernel
theorem dX6_at_7 : decode cX6_at 7 = .ok (.iload_n 3, 1) := by decide +kernel
theorem dX6_at_8 : decode cX6_at 8 = .ok (.ifCond .ge 7, 3) := by decide +kernel
theorem dX6_at_11 : decode cX6_at 11 = .ok (.iload_n 3, 1) := by decide +kernel
theorem dX6_at_12 : decode cX6_at 12 = .ok (.goto 19, 3) := by decide +kernel
theorem dX6_at_15 : decode cX6_at 15 = .ok (.aload_n 0, 1) := by decide +kernel
theorem dX6_at_16 : decode cX6_at 16 = .ok (.iconst 1, 1) := by decide +kernel
theorem dX6_at_17 : decode cX6_at 17 = .ok (.aload_n 0, 1) := by decide +kernel
theorem dX6_at_18 : decode cX6_at 18 = .ok (.getfield 13, 3) := by decide +kernel
theorem dX6_at_21 : decode cX6_at 21 = .ok (.bipush 40, 2) := by decide +kernel
theorem dX6_at_23 : decode cX6_at 23 = .ok (.iload_n 1, 1) := by decide +kernel
theorem dX6_at_24 : decode cX6_at 24 = .ok (.imul, 1) := by decide +kernel
theorem dX6_at_25 : decode cX6_at 25 = .ok (.iload_n 2, 1) := by decide +kernel
theorem dX6_at_26 : decode cX6_at 26 = .ok (.iadd, 1) := by decide +kernel
theorem dX6_at_27 : decode cX6_at 27 = .ok (.iaload, 1) := by decide +kernel
theorem dX6_at_28 : decode cX6_at 28 = .ok (.invokevirtual 111, 3) := by decide +kernel
theorem dX6_at_31 : decode cX6_at 31 = .ok (.ireturn, 1) := by decide +kernel
theorem dX6_tear_0 : decode cX6_tear 0 = .ok (.iload_n 1, 1) := by decide +kernel
theorem dX6_tear_1 : decode cX6_tear 1 = .ok (.invokestatic 99, 3) := by decide +kernel
theorem dX6_tear_4 : decode cX6_tear 4 = .ok (.ifCond .ne 5, 3) := by decide +kernel
theorem dX6_tear_7 : decode cX6_tear 7 = .ok (.iconst (-1), 1) := by decide +kernel
theorem dX6_tear_8 : decode cX6_tear 8 = .ok (.ireturn, 1) := by decide +kernel
theorem dX6_tear_9 : decode cX6_tear 9 = .ok (.aload_n 0, 1) := by decide +kernel
theorem dX6_tear_10 : decode cX6_tear 10 = .ok (.getfield 7, 3) := by decide +kernel
theorem dX6_tear_13 : decode cX6_tear 13 = .ok (.iload_n 1, 1) := by decide +kernel
theorem dX6_tear_14 : decode cX6_tear 14 = .ok (.iaload, 1) := by decide +kernel
theorem dX6_tear_15 : decode cX6_tear 15 = .ok (.ifCond .ge 9, 3) := by decide +kernel
theorem dX6_tear_18 : decode cX6_tear 18 = .ok (.aload_n 0, 1) := by decide +kernel
theorem dX6_tear_19 : decode cX6_tear 19 = .ok (.iconst 1, 1) := by decide +kernel
theorem dX6_tear_20 : decode cX6_tear 20 = .ok (.invokevirtual 103, 3) := by decide +kernel
theorem dX6_tear_23 : decode cX6_tear 23 = .ok (.ireturn, 1) := by decide +kernel
theorem dX6_tear_24 : decode cX6_tear 24 = .ok (.aload_n 0, 1) := by decide +kernel
theorem dX6_tear_25 : decode cX6_tear 25 = .ok (.getfield 7, 3) := by decide +kernel
theorem dX6_tear_28 : decode cX6_tear 28 = .ok (.iload_n 1, 1) := by decide +kernel
theorem dX6_tear_29 : decode cX6_tear 29 = .ok (.iconst (-1), 1) := by decide +kernel
theorem dX6_tear_30 : decode cX6_tear 30 = .ok (.iastore, 1) := by decide +kernel
theorem dX6_tear_31 : decode cX6_tear 31 = .ok (.iconst 1, 1) := by decide +kernel
theorem dX6_tear_32 : decode cX6_tear 32 = .ok (.ireturn, 1) := by decide +kernel
theorem dX6_copy_0 : decode cX6_copy 0 = .ok (.iload_n 1, 1) := by decide +kernel
theorem dX6_copy_1 : decode cX6_copy 1 = .ok (.invokestatic 99, 3) := by decide +kernel
theorem dX6_copy_4 : decode cX6_copy 4 = .ok (.ifCond .eq 10, 3) := by decide +kernel
theorem dX6_copy_7 : decode cX6_copy 7 = .ok (.iload_n 3, 1) := by decide +kernel
theorem dX6_copy_8 : decode cX6_copy 8 = .ok (.invokestatic 99, 3) := by decide +kernel
theorem dX6_copy_11 : decode cX6_copy 11 = .ok (.ifCond .ne 5, 3) := by decide +kernel
theorem dX6_copy_14 : decode cX6_copy 14 = .ok (.iconst (-1), 1) := by decide +kernel
theorem dX6_copy_15 : decode cX6_copy 15 = .ok (.ireturn, 1) := by decide +kernel
theorem dX6_copy_16 : decode cX6_copy 16 = .ok (.iload 5, 2) := by decide +kernel
theorem dX6_copy_18 : decode cX6_copy 18 = .ok (.ifCond .ge 9, 3) := by decide +kernel
theorem dX6_copy_21 : decode cX6_copy 21 = .ok (.aload_n 0, 1) := by decide +kernel
theorem dX6_copy_22 : decode cX6_copy 22 = .ok (.iconst 5, 1) := by decide +kernel
theorem dX6_copy_23 : decode cX6_copy 23 = .ok (.invokevirtual 103, 3) := by decide +kernel
theorem dX6_copy_26 : decode cX6_copy 26 = .ok (.ireturn, 1) := by decide +kernel
theorem dX6_copy_27 : decode cX6_copy 27 = .ok (.aload_n 0, 1) := by decide +kernel
theorem dX6_copy_28 : decode cX6_copy 28 = .ok (.getfield 7, 3) := by decide +kernel
theorem dX6_copy_31 : decode cX6_copy 31 = .ok (.iload_n 1, 1) := by decide +kernel
theorem dX6_copy_32 : decode cX6_copy 32 = .ok (.iaload, 1) := by decide +kernel
theorem dX6_copy_33 : decode cX6_copy 33 = .ok (.ifCond .lt 12, 3) := by decide +kernel
theorem dX6_copy_36 : decode cX6_copy 36 = .ok (.aload_n 0, 1) := by decide +kernel
theorem dX6_copy_37 : decode cX6_copy 37 = .ok (.getfield 7, 3) := by decide +kernel
theorem dX6_copy_40 : decode cX6_copy 40 = .ok (.iload_n 3, 1) := by decide +kernel
theorem dX6_copy_41 : decode cX6_copy 41 = .ok (.iaload, 1) := by decide +kernel
theorem dX6_copy_42 : decode cX6_copy 42 = .ok (.ifCond .ge 9, 3) := by decide +kernel
theorem dX6_copy_45 : decode cX6_copy 45 = .ok (.aload_n 0, 1) := by decide +kernel
theorem dX6_copy_46 : decode cX6_copy 46 = .ok (.iconst 1, 1) := by decide +kernel
theorem dX6_copy_47 : decode cX6_copy 47 = .ok (.invokevirtual 103, 3) := by decide +kernel
theorem dX6_copy_50 : decode cX6_copy 50 = .ok (.ireturn, 1) := by decide +kernel
theorem dX6_copy_51 : decode cX6_copy 51 = .ok (.iload_n 2, 1) := by decide +kernel
theorem dX6_copy_52 : decode cX6_copy 52 = .ok (.i2l, 1) := by decide +kernel
theorem dX6_copy_53 : decode cX6_copy 53 = .ok (.lconst 0, 1) := by decide +kernel
theorem dX6_copy_54 : decode cX6_copy 54 = .ok (.aload_n 0, 1) := by decide +kernel
theorem dX6_copy_55 : decode cX6_copy 55 = .ok (.getfield 7, 3) := by decide +kernel
theorem dX6_copy_58 : decode cX6_copy 58 = .ok (.iload_n 1, 1) := by decide +kernel
theorem dX6_copy_59 : decode cX6_copy 59 = .ok (.iaload, 1) := by decide +kernel
theorem dX6_copy_60 : decode cX6_copy 60 = .ok (.i2l, 1) := by decide +kernel
theorem dX6_copy_61 : decode cX6_copy 61 = .ok (.iload 5, 2) := by decide +kernel
theorem dX6_copy_63 : decode cX6_copy 63 = .ok (.i2l, 1) := by decide +kernel
theorem dX6_copy_64 : decode cX6_copy 64 = .ok (.lsub, 1) := by decide +kernel
theorem dX6_copy_65 : decode cX6_copy 65 = .ok (.invokestatic 93, 3) := by decide +kernel
theorem dX6_copy_68 : decode cX6_copy 68 = .ok (.ifCond .eq 24, 3) := by decide +kernel
theorem dX6_copy_71 : decode cX6_copy 71 = .ok (.iload 4, 2) := by decide +kernel
theorem dX6_copy_73 : decode cX6_copy 73 = .ok (.i2l, 1) := by decide +kernel
theorem dX6_copy_74 : decode cX6_copy 74 = .ok (.lconst 0, 1) := by decide +kernel
theorem dX6_copy_75 : decode cX6_copy 75 = .ok (.aload_n 0, 1) := by decide +kernel
theorem dX6_copy_76 : decode cX6_copy 76 = .ok (.getfield 7, 3) := by decide +kernel
theorem dX6_copy_79 : decode cX6_copy 79 = .ok (.iload_n 3, 1) := by decide +kernel
theorem dX6_copy_80 : decode cX6_copy 80 = .ok (.iaload, 1) := by decide +kernel
theorem dX6_copy_81 : decode cX6_copy 81 = .ok (.i2l, 1) := by decide +kernel
theorem dX6_copy_82 : decode cX6_copy 82 = .ok (.iload 5, 2) := by decide +kernel
theorem dX6_copy_84 : decode cX6_copy 84 = .ok (.i2l, 1) := by decide +kernel
theorem dX6_copy_85 : decode cX6_copy 85 = .ok (.lsub, 1) := by decide +kernel
theorem dX6_copy_86 : decode cX6_copy 86 = .ok (.invokestatic 93, 3) := by decide +kernel
theorem dX6_copy_89 : decode cX6_copy 89 = .ok (.ifCond .ne 9, 3) := by decide +kernel
theorem dX6_copy_92 : decode cX6_copy 92 = .ok (.aload_n 0, 1) := by decide +kernel
theorem dX6_copy_93 : decode cX6_copy 93 = .ok (.iconst 2, 1) := by decide +kernel
theorem dX6_copy_94 : decode cX6_copy 94 = .ok (.invokevirtual 103, 3) := by decide +kernel
theorem dX6_copy_97 : decode cX6_copy 97 = .ok (.ireturn, 1) := by decide +kernel
theorem dX6_copy_98 : decode cX6_copy 98 = .ok (.iconst 0, 1) := by decide +kernel
theorem dX6_copy_99 : decode cX6_copy 99 = .ok (.istore 6, 2) := by decide +kernel
theorem dX6_copy_101 : decode cX6_copy 101 = .ok (.iload 6, 2) := by decide +kernel
theorem dX6_copy_103 : decode cX6_copy 103 = .ok (.iload 5, 2) := by decide +kernel
theorem dX6_copy_105 : decode cX6_copy 105 = .ok (.if_icmp .ge 30, 3) := by decide +kernel
theorem dX6_copy_108 : decode cX6_copy 108 = .ok (.aload_n 0, 1) := by decide +kernel
theorem dX6_copy_109 : decode cX6_copy 109 = .ok (.getfield 56, 3) := by decide +kernel
theorem dX6_copy_112 : decode cX6_copy 112 = .ok (.iload 6, 2) := by decide +kernel
theorem dX6_copy_114 : decode cX6_copy 114 = .ok (.aload_n 0, 1) := by decide +kernel
theorem dX6_copy_115 : decode cX6_copy 115 = .ok (.getfield 13, 3) := by decide +kernel
theorem dX6_copy_118 : decode cX6_copy 118 = .ok (.bipush 40, 2) := by decide +kernel
theorem dX6_copy_120 : decode cX6_copy 120 = .ok (.iload_n 1, 1) := by decide +kernel
theorem dX6_copy_121 : decode cX6_copy 121 = .ok (.imul, 1) := by decide +kernel
theorem dX6_copy_122 : decode cX6_copy 122 = .ok (.iload_n 2, 1) := by decide +kernel
theorem dX6_copy_123 : decode cX6_copy 123 = .ok (.iadd, 1) := by decide +kernel
theorem dX6_copy_124 : decode cX6_copy 124 = .ok (.iload 6, 2) := by decide +kernel
theorem dX6_copy_126 : decode cX6_copy 126 = .ok (.iadd, 1) := by decide +kernel
theorem dX6_copy_127 : decode cX6_copy 127 = .ok (.iaload, 1) := by decide +kernel
theorem dX6_copy_128 : decode cX6_copy 128 = .ok (.iastore, 1) := by decide +kernel
theorem dX6_copy_129 : decode cX6_copy 129 = .ok (.iinc 6 1, 3) := by decide +kernel
theorem dX6_copy_132 : decode cX6_copy 132 = .ok (.goto (-31), 3) := by decide +kernel
theorem dX6_copy_135 : decode cX6_copy 135 = .ok (.iconst 0, 1) := by decide +kernel
theorem dX6_copy_136 : decode cX6_copy 136 = .ok (.istore 6, 2) := by decide +kernel
theorem dX6_copy_138 : decode cX6_copy 138 = .ok (.iload 6, 2) := by decide +kernel
theorem dX6_copy_140 : decode cX6_copy 140 = .ok (.iload 5, 2) := by decide +kernel
theorem dX6_copy_142 : decode cX6_copy 142 = .ok (.if_icmp .ge 31, 3) := by decide +kernel
theorem dX6_copy_145 : decode cX6_copy 145 = .ok (.aload_n 0, 1) := by decide +kernel
theorem dX6_copy_146 : decode cX6_copy 146 = .ok (.getfield 13, 3) := by decide +kernel
theorem dX6_copy_149 : decode cX6_copy 149 = .ok (.bipush 40, 2) := by decide +kernel
theorem dX6_copy_151 : decode cX6_copy 151 = .ok (.iload_n 3, 1) := by decide +kernel
theorem dX6_copy_152 : decode cX6_copy 152 = .ok (.imul, 1) := by decide +kernel
theorem dX6_copy_153 : decode cX6_copy 153 = .ok (.iload 4, 2) := by decide +kernel
theorem dX6_copy_155 : decode cX6_copy 155 = .ok (.iadd, 1) := by decide +kernel
theorem dX6_copy_156 : decode cX6_copy 156 = .ok (.iload 6, 2) := by decide +kernel
theorem dX6_copy_158 : decode cX6_copy 158 = .ok (.iadd, 1) := by decide +kernel
theorem dX6_copy_159 : decode cX6_copy 159 = .ok (.aload_n 0, 1) := by decide +kernel
theorem dX6_copy_160 : decode cX6_copy 160 = .ok (.getfield 56, 3) := by decide +kernel
theorem dX6_copy_163 : decode cX6_copy 163 = .ok (.iload 6, 2) := by decide +kernel
theorem dX6_copy_165 : decode cX6_copy 165 = .ok (.iaload, 1) := by decide +kernel
theorem dX6_copy_166 : decode cX6_copy 166 = .ok (.iastore, 1) := by decide +kernel
theorem dX6_copy_167 : decode cX6_copy 167 = .ok (.iinc 6 1, 3) := by decide +kernel
theorem dX6_copy_170 : decode cX6_copy 170 = .ok (.goto (-32), 3) := by decide +kernel
theorem dX6_copy_173 : decode cX6_copy 173 = .ok (.iconst 1, 1) := by decide +kernel
theorem dX6_copy_174 : decode cX6_copy 174 = .ok (.ireturn, 1) := by decide +kernel
theorem dX6_mean_0 : decode cX6_mean 0 = .ok (.iload_n 1, 1) := by decide +kernel
theorem dX6_mean_1 : decode cX6_mean 1 = .ok (.invokestatic 99, 3) := by decide +kernel
theorem dX6_mean_4 : decode cX6_mean 4 = .ok (.ifCond .ne 5, 3) := by decide +kernel
theorem dX6_mean_7 : decode cX6_mean 7 = .ok (.iconst (-1), 1) := by decide +kernel
theorem dX6_mean_8 : decode cX6_mean 8 = .ok (.ireturn, 1) := by decide +kernel
theorem dX6_mean_9 : decode cX6_mean 9 = .ok (.aload_n 0, 1) := by decide +kernel
theorem dX6_mean_10 : decode cX6_mean 10 = .ok (.getfield 7, 3) := by decide +kernel
theorem dX6_mean_13 : decode cX6_mean 13 = .ok (.iload_n 1, 1) := by decide +kernel
theorem dX6_mean_14 : decode cX6_mean 14 = .ok (.iaload, 1) := by decide +kernel
theorem dX6_mean_15 : decode cX6_mean 15 = .ok (.ifCond .ge 9, 3) := by decide +kernel
theorem dX6_mean_18 : decode cX6_mean 18 = .ok (.aload_n 0, 1) := by decide +kernel
theorem dX6_mean_19 : decode cX6_mean 19 = .ok (.iconst 1, 1) := by decide +kernel
theorem dX6_mean_20 : decode cX6_mean 20 = .ok (.invokevirtual 103, 3) := by decide +kernel
theorem dX6_mean_23 : decode cX6_mean 23 = .ok (.ireturn, 1) := by decide +kernel
theorem dX6_mean_24 : decode cX6_mean 24 = .ok (.aload_n 0, 1) := by decide +kernel
theorem dX6_mean_25 : decode cX6_mean 25 = .ok (.getfield 7, 3) := by decide +kernel
theorem dX6_mean_28 : decode cX6_mean 28 = .ok (.iload_n 1, 1) := by decide +kernel
theorem dX6_mean_29 : decode cX6_mean 29 = .ok (.iaload, 1) := by decide +kernel
theorem dX6_mean_30 : decode cX6_mean 30 = .ok (.ifCond .ne 9, 3) := by decide +kernel
theorem dX6_mean_33 : decode cX6_mean 33 = .ok (.aload_n 0, 1) := by decide +kernel
theorem dX6_mean_34 : decode cX6_mean 34 = .ok (.iconst 4, 1) := by decide +kernel
theorem dX6_mean_35 : decode cX6_mean 35 = .ok (.invokevirtual 103, 3) := by decide +kernel
theorem dX6_mean_38 : decode cX6_mean 38 = .ok (.ireturn, 1) := by decide +kernel
theorem dX6_mean_39 : decode cX6_mean 39 = .ok (.lconst 0, 1) := by decide +kernel
theorem dX6_mean_40 : decode cX6_mean 40 = .ok (.lstore_n 2, 1) := by decide +kernel
theorem dX6_mean_41 : decode cX6_mean 41 = .ok (.iconst 0, 1) := by decide +kernel
theorem dX6_mean_42 : decode cX6_mean 42 = .ok (.istore 4, 2) := by decide +kernel
theorem dX6_mean_44 : decode cX6_mean 44 = .ok (.iload 4, 2) := by decide +kernel
theorem dX6_mean_46 : decode cX6_mean 46 = .ok (.aload_n 0, 1) := by decide +kernel
theorem dX6_mean_47 : decode cX6_mean 47 = .ok (.getfield 7, 3) := by decide +kernel
theorem dX6_mean_50 : decode cX6_mean 50 = .ok (.iload_n 1, 1) := by decide +kernel
theorem dX6_mean_51 : decode cX6_mean 51 = .ok (.iaload, 1) := by decide +kernel
theorem dX6_mean_52 : decode cX6_mean 52 = .ok (.if_icmp .ge 25, 3) := by decide +kernel
theorem dX6_mean_55 : decode cX6_mean 55 = .ok (.lload_n 2, 1) := by decide +kernel
theorem dX6_mean_56 : decode cX6_mean 56 = .ok (.aload_n 0, 1) := by decide +kernel
theorem dX6_mean_57 : decode cX6_mean 57 = .ok (.getfield 13, 3) := by decide +kernel
theorem dX6_mean_60 : decode cX6_mean 60 = .ok (.bipush 40, 2) := by decide +kernel
theorem dX6_mean_62 : decode cX6_mean 62 = .ok (.iload_n 1, 1) := by decide +kernel
theorem dX6_mean_63 : decode cX6_mean 63 = .ok (.imul, 1) := by decide +kernel
theorem dX6_mean_64 : decode cX6_mean 64 = .ok (.iload 4, 2) := by decide +kernel
theorem dX6_mean_66 : decode cX6_mean 66 = .ok (.iadd, 1) := by decide +kernel
theorem dX6_mean_67 : decode cX6_mean 67 = .ok (.iaload, 1) := by decide +kernel
theorem dX6_mean_68 : decode cX6_mean 68 = .ok (.i2l, 1) := by decide +kernel
theorem dX6_mean_69 : decode cX6_mean 69 = .ok (.ladd, 1) := by decide +kernel
theorem dX6_mean_70 : decode cX6_mean 70 = .ok (.lstore_n 2, 1) := by decide +kernel
theorem dX6_mean_71 : decode cX6_mean 71 = .ok (.iinc 4 1, 3) := by decide +kernel
theorem dX6_mean_74 : decode cX6_mean 74 = .ok (.goto (-30), 3) := by decide +kernel
theorem dX6_mean_77 : decode cX6_mean 77 = .ok (.aload_n 0, 1) := by decide +kernel
theorem dX6_mean_78 : decode cX6_mean 78 = .ok (.iconst 1, 1) := by decide +kernel
theorem dX6_mean_79 : decode cX6_mean 79 = .ok (.lload_n 2, 1) := by decide +kernel
theorem dX6_mean_80 : decode cX6_mean 80 = .ok (.aload_n 0, 1) := by decide +kernel
theorem dX6_mean_81 : decode cX6_mean 81 = .ok (.getfield 7, 3) := by decide +kernel
theorem dX6_mean_84 : decode cX6_mean 84 = .ok (.iload_n 1, 1) := by decide +kernel
theorem dX6_mean_85 : decode cX6_mean 85 = .ok (.iaload, 1) := by decide +kernel
theorem dX6_mean_86 : decode cX6_mean 86 = .ok (.i2l, 1) := by decide +kernel
theorem dX6_mean_87 : decode cX6_mean 87 = .ok (.ldiv, 1) := by decide +kernel
theorem dX6_mean_88 : decode cX6_mean 88 = .ok (.l2i, 1) := by decide +kernel
theorem dX6_mean_89 : decode cX6_mean 89 = .ok (.invokevirtual 111, 3) := by decide +kernel
theorem dX6_mean_92 : decode cX6_mean 92 = .ok (.ireturn, 1) := by decide +kernel
theorem dX6_text_0 : decode cX6_text 0 = .ok (.iload_n 1, 1) := by decide +kernel
theorem dX6_text_1 : decode cX6_text 1 = .ok (.invokestatic 114, 3) := by decide +kernel
theorem dX6_text_4 : decode cX6_text 4 = .ok (.ifCond .eq 9, 3) := by decide +kernel
theorem dX6_text_7 : decode cX6_text 7 = .ok (.iload_n 2, 1) := by decide +kernel
theorem dX6_text_8 : decode cX6_text 8 = .ok (.bipush 80, 2) := by decide +kernel
theorem dX6_text_10 : decode cX6_text 10 = .ok (.if_icmp .le 5, 3) := by decide +kernel
theorem dX6_text_13 : decode cX6_text 13 = .ok (.iconst (-1), 1) := by decide +kernel
theorem dX6_text_14 : decode cX6_text 14 = .ok (.ireturn, 1) := by decide +kernel
theorem dX6_text_15 : decode cX6_text 15 = .ok (.iload_n 2, 1) := by decide +kernel
theorem dX6_text_16 : decode cX6_text 16 = .ok (.ifCond .ge 9, 3) := by decide +kernel
theorem dX6_text_19 : decode cX6_text 19 = .ok (.aload_n 0, 1) := by decide +kernel
theorem dX6_text_20 : decode cX6_text 20 = .ok (.iconst 5, 1) := by decide +kernel
theorem dX6_text_21 : decode cX6_text 21 = .ok (.invokevirtual 103, 3) := by decide +kernel
theorem dX6_text_24 : decode cX6_text 24 = .ok (.ireturn, 1) := by decide +kernel
theorem dX6_text_25 : decode cX6_text 25 = .ok (.aload_n 0, 1) := by decide +kernel
theorem dX6_text_26 : decode cX6_text 26 = .ok (.getfield 16, 3) := by decide +kernel
theorem dX6_text_29 : decode cX6_text 29 = .ok (.iload_n 1, 1) := by decide +kernel
theorem dX6_text_30 : decode cX6_text 30 = .ok (.iload_n 2, 1) := by decide +kernel
theorem dX6_text_31 : decode cX6_text 31 = .ok (.iastore, 1) := by decide +kernel
theorem dX6_text_32 : decode cX6_text 32 = .ok (.iconst 0, 1) := by decide +kernel
theorem dX6_text_33 : decode cX6_text 33 = .ok (.istore_n 3, 1) := by decide +kernel
theorem dX6_text_34 : decode cX6_text 34 = .ok (.iload_n 3, 1) := by decide +kernel
theorem dX6_text_35 : decode cX6_text 35 = .ok (.bipush 80, 2) := by decide +kernel
theorem dX6_text_37 : decode cX6_text 37 = .ok (.if_icmp .ge 22, 3) := by decide +kernel
theorem dX6_text_40 : decode cX6_text 40 = .ok (.aload_n 0, 1) := by decide +kernel
theorem dX6_text_41 : decode cX6_text 41 = .ok (.getfield 19, 3) := by decide +kernel
theorem dX6_text_44 : decode cX6_text 44 = .ok (.bipush 80, 2) := by decide +kernel
theorem dX6_text_46 : decode cX6_text 46 = .ok (.iload_n 1, 1) := by decide +kernel
theorem dX6_text_47 : decode cX6_text 47 = .ok (.imul, 1) := by decide +kernel
theorem dX6_text_48 : decode cX6_text 48 = .ok (.iload_n 3, 1) := by decide +kernel
theorem dX6_text_49 : decode cX6_text 49 = .ok (.iadd, 1) := by decide +kernel
theorem dX6_text_50 : decode cX6_text 50 = .ok (.bipush 32, 2) := by decide +kernel
theorem dX6_text_52 : decode cX6_text 52 = .ok (.iastore, 1) := by decide +kernel
theorem dX6_text_53 : decode cX6_text 53 = .ok (.iinc 3 1, 3) := by decide +kernel
theorem dX6_text_56 : decode cX6_text 56 = .ok (.goto (-22), 3) := by decide +kernel
theorem dX6_text_59 : decode cX6_text 59 = .ok (.iload_n 2, 1) := by decide +kernel
theorem dX6_text_60 : decode cX6_text 60 = .ok (.ireturn, 1) := by decide +kernel
theorem dX6_put_0 : decode cX6_put 0 = .ok (.iload_n 1, 1) := by decide +kernel
theorem dX6_put_1 : decode cX6_put 1 = .ok (.invokestatic 114, 3) := by decide +kernel
theorem dX6_put_4 : decode cX6_put 4 = .ok (.ifCond .ne 5, 3) := by decide +kernel
theorem dX6_put_7 : decode cX6_put 7 = .ok (.iconst (-1), 1) := by decide +kernel
theorem dX6_put_8 : decode cX6_put 8 = .ok (.ireturn, 1) := by decide +kernel
theorem dX6_put_9 : decode cX6_put 9 = .ok (.aload_n 0, 1) := by decide +kernel
theorem dX6_put_10 : decode cX6_put 10 = .ok (.getfield 16, 3) := by decide +kernel
theorem dX6_put_13 : decode cX6_put 13 = .ok (.iload_n 1, 1) := by decide +kernel
theorem dX6_put_14 : decode cX6_put 14 = .ok (.iaload, 1) := by decide +kernel
theorem dX6_put_15 : decode cX6_put 15 = .ok (.ifCond .ge 9, 3) := by decide +kernel
theorem dX6_put_18 : decode cX6_put 18 = .ok (.aload_n 0, 1) := by decide +kernel
theorem dX6_put_19 : decode cX6_put 19 = .ok (.iconst 1, 1) := by decide +kernel
theorem dX6_put_20 : decode cX6_put 20 = .ok (.invokevirtual 103, 3) := by decide +kernel
theorem dX6_put_23 : decode cX6_put 23 = .ok (.ireturn, 1) := by decide +kernel
theorem dX6_put_24 : decode cX6_put 24 = .ok (.iload_n 2, 1) := by decide +kernel
theorem dX6_put_25 : decode cX6_put 25 = .ok (.i2l, 1) := by decide +kernel
theorem dX6_put_26 : decode cX6_put 26 = .ok (.lconst 0, 1) := by decide +kernel
theorem dX6_put_27 : decode cX6_put 27 = .ok (.aload_n 0, 1) := by decide +kernel
theorem dX6_put_28 : decode cX6_put 28 = .ok (.getfield 16, 3) := by decide +kernel
theorem dX6_put_31 : decode cX6_put 31 = .ok (.iload_n 1, 1) := by decide +kernel
theorem dX6_put_32 : decode cX6_put 32 = .ok (.iaload, 1) := by decide +kernel
theorem dX6_put_33 : decode cX6_put 33 = .ok (.iconst 1, 1) := by decide +kernel
theorem dX6_put_34 : decode cX6_put 34 = .ok (.isub, 1) := by decide +kernel
theorem dX6_put_35 : decode cX6_put 35 = .ok (.i2l, 1) := by decide +kernel
theorem dX6_put_36 : decode cX6_put 36 = .ok (.invokestatic 93, 3) := by decide +kernel
theorem dX6_put_39 : decode cX6_put 39 = .ok (.ifCond .ne 9, 3) := by decide +kernel
theorem dX6_put_42 : decode cX6_put 42 = .ok (.aload_n 0, 1) := by decide +kernel
theorem dX6_put_43 : decode cX6_put 43 = .ok (.iconst 2, 1) := by decide +kernel
theorem dX6_put_44 : decode cX6_put 44 = .ok (.invokevirtual 103, 3) := by decide +kernel
theorem dX6_put_47 : decode cX6_put 47 = .ok (.ireturn, 1) := by decide +kernel
theorem dX6_put_48 : decode cX6_put 48 = .ok (.aload_n 0, 1) := by decide +kernel
theorem dX6_put_49 : decode cX6_put 49 = .ok (.getfield 19, 3) := by decide +kernel
theorem dX6_put_52 : decode cX6_put 52 = .ok (.bipush 80, 2) := by decide +kernel
theorem dX6_put_54 : decode cX6_put 54 = .ok (.iload_n 1, 1) := by decide +kernel
theorem dX6_put_55 : decode cX6_put 55 = .ok (.imul, 1) := by decide +kernel
theorem dX6_put_56 : decode cX6_put 56 = .ok (.iload_n 2, 1) := by decide +kernel
theorem dX6_put_57 : decode cX6_put 57 = .ok (.iadd, 1) := by decide +kernel
theorem dX6_put_58 : decode cX6_put 58 = .ok (.iaload, 1) := by decide +kernel
theorem dX6_put_59 : decode cX6_put 59 = .ok (.istore 4, 2) := by decide +kernel
theorem dX6_put_61 : decode cX6_put 61 = .ok (.aload_n 0, 1) := by decide +kernel
theorem dX6_put_62 : decode cX6_put 62 = .ok (.getfield 19, 3) := by decide +kernel
theorem dX6_put_65 : decode cX6_put 65 = .ok (.bipush 80, 2) := by decide +kernel
theorem dX6_put_67 : decode cX6_put 67 = .ok (.iload_n 1, 1) := by decide +kernel
theorem dX6_put_68 : decode cX6_put 68 = .ok (.imul, 1) := by decide +kernel
theorem dX6_put_69 : decode cX6_put 69 = .ok (.iload_n 2, 1) := by decide +kernel
theorem dX6_put_70 : decode cX6_put 70 = .ok (.iadd, 1) := by decide +kernel
theorem dX6_put_71 : decode cX6_put 71 = .ok (.iload_n 3, 1) := by decide +kernel
theorem dX6_put_72 : decode cX6_put 72 = .ok (.bipush 24, 2) := by decide +kernel
theorem dX6_put_74 : decode cX6_put 74 = .ok (.ishl, 1) := by decide +kernel
theorem dX6_put_75 : decode cX6_put 75 = .ok (.bipush 24, 2) := by decide +kernel
theorem dX6_put_77 : decode cX6_put 77 = .ok (.ishr, 1) := by decide +kernel
theorem dX6_put_78 : decode cX6_put 78 = .ok (.iastore, 1) := by decide +kernel
theorem dX6_put_79 : decode cX6_put 79 = .ok (.iload 4, 2) := by decide +kernel
theorem dX6_put_81 : decode cX6_put 81 = .ok (.sipush 1000, 3) := by decide +kernel
theorem dX6_put_84 : decode cX6_put 84 = .ok (.iadd, 1) := by decide +kernel
theorem dX6_put_85 : decode cX6_put 85 = .ok (.ireturn, 1) := by decide +kernel
theorem dX6_isEnd_0 : decode cX6_isEnd 0 = .ok (.aload_n 0, 1) := by decide +kernel
theorem dX6_isEnd_1 : decode cX6_isEnd 1 = .ok (.getfield 117, 3) := by decide +kernel
theorem dX6_isEnd_4 : decode cX6_isEnd 4 = .ok (.aload_n 0, 1) := by decide +kernel
theorem dX6_isEnd_5 : decode cX6_isEnd 5 = .ok (.getfield 16, 3) := by decide +kernel
theorem dX6_isEnd_8 : decode cX6_isEnd 8 = .ok (.iload_n 1, 1) := by decide +kernel
theorem dX6_isEnd_9 : decode cX6_isEnd 9 = .ok (.iaload, 1) := by decide +kernel
theorem dX6_isEnd_10 : decode cX6_isEnd 10 = .ok (.if_icmp .lt 7, 3) := by decide +kernel
theorem dX6_isEnd_13 : decode cX6_isEnd 13 = .ok (.iconst 1, 1) := by decide +kernel
theorem dX6_isEnd_14 : decode cX6_isEnd 14 = .ok (.goto 4, 3) := by decide +kernel
theorem dX6_isEnd_17 : decode cX6_isEnd 17 = .ok (.iconst 0, 1) := by decide +kernel
theorem dX6_isEnd_18 : decode cX6_isEnd 18 = .ok (.ireturn, 1) := by decide +kernel
theorem dX6_byteAt_0 : decode cX6_byteAt 0 = .ok (.aload_n 0, 1) := by decide +kernel
theorem dX6_byteAt_1 : decode cX6_byteAt 1 = .ok (.iload_n 1, 1) := by decide +kernel
theorem dX6_byteAt_2 : decode cX6_byteAt 2 = .ok (.invokevirtual 120, 3) := by decide +kernel
theorem dX6_byteAt_5 : decode cX6_byteAt 5 = .ok (.ifCond .eq 7, 3) := by decide +kernel
theorem dX6_byteAt_8 : decode cX6_byteAt 8 = .ok (.iconst 0, 1) := by decide +kernel
theorem dX6_byteAt_9 : decode cX6_byteAt 9 = .ok (.goto 17, 3) := by decide +kernel
theorem dX6_byteAt_12 : decode cX6_byteAt 12 = .ok (.aload_n 0, 1) := by decide +kernel
theorem dX6_byteAt_13 : decode cX6_byteAt 13 = .ok (.getfield 19, 3) := by decide +kernel
theorem dX6_byteAt_16 : decode cX6_byteAt 16 = .ok (.bipush 80, 2) := by decide +kernel
theorem dX6_byteAt_18 : decode cX6_byteAt 18 = .ok (.iload_n 1, 1) := by decide +kernel
theorem dX6_byteAt_19 : decode cX6_byteAt 19 = .ok (.imul, 1) := by decide +kernel
theorem dX6_byteAt_20 : decode cX6_byteAt 20 = .ok (.aload_n 0, 1) := by decide +kernel
theorem dX6_byteAt_21 : decode cX6_byteAt 21 = .ok (.getfield 117, 3) := by decide +kernel
theorem dX6_byteAt_24 : decode cX6_byteAt 24 = .ok (.iadd, 1) := by decide +kernel
theorem dX6_byteAt_25 : decode cX6_byteAt 25 = .ok (.iaload, 1) := by decide +kernel
theorem dX6_byteAt_26 : decode cX6_byteAt 26 = .ok (.ireturn, 1) := by decide +kernel
theorem dX6_skipBlanks_0 : decode cX6_skipBlanks 0 = .ok (.aload_n 0, 1) := by decide +kernel
theorem dX6_skipBlanks_1 : decode cX6_skipBlanks 1 = .ok (.iload_n 1, 1) := by decide +kernel
theorem dX6_skipBlanks_2 : decode cX6_skipBlanks 2 = .ok (.invokevirtual 120, 3) := by decide +kernel
theorem dX6_skipBlanks_5 : decode cX6_skipBlanks 5 = .ok (.ifCond .ne 26, 3) := by decide +kernel
theorem dX6_skipBlanks_8 : decode cX6_skipBlanks 8 = .ok (.aload_n 0, 1) := by decide +kernel
theorem dX6_skipBlanks_9 : decode cX6_skipBlanks 9 = .ok (.iload_n 1, 1) := by decide +kernel
theorem dX6_skipBlanks_10 : decode cX6_skipBlanks 10 = .ok (.invokevirtual 123, 3) := by decide +kernel
theorem dX6_skipBlanks_13 : decode cX6_skipBlanks 13 = .ok (.bipush 32, 2) := by decide +kernel
theorem dX6_skipBlanks_15 : decode cX6_skipBlanks 15 = .ok (.if_icmp .ne 16, 3) := by decide +kernel
theorem dX6_skipBlanks_18 : decode cX6_skipBlanks 18 = .ok (.aload_n 0, 1) := by decide +kernel
theorem dX6_skipBlanks_19 : decode cX6_skipBlanks 19 = .ok (.dup, 1) := by decide +kernel
theorem dX6_skipBlanks_20 : decode cX6_skipBlanks 20 = .ok (.getfield 117, 3) := by decide +kernel
theorem dX6_skipBlanks_23 : decode cX6_skipBlanks 23 = .ok (.iconst 1, 1) := by decide +kernel
theorem dX6_skipBlanks_24 : decode cX6_skipBlanks 24 = .ok (.iadd, 1) := by decide +kernel
theorem dX6_skipBlanks_25 : decode cX6_skipBlanks 25 = .ok (.putfield 117, 3) := by decide +kernel
theorem dX6_skipBlanks_28 : decode cX6_skipBlanks 28 = .ok (.goto (-28), 3) := by decide +kernel
theorem dX6_skipBlanks_31 : decode cX6_skipBlanks 31 = .ok (.return_, 1) := by decide +kernel
theorem dX6_kindBy_0 : decode cX6_kindBy 0 = .ok (.iload_n 0, 1) := by decide +kernel
theorem dX6_kindBy_1 : decode cX6_kindBy 1 = .ok (.bipush 100, 2) := by decide +kernel
theorem dX6_kindBy_3 : decode cX6_kindBy 3 = .ok (.if_icmp .ne 7, 3) := by decide +kernel
theorem dX6_kindBy_6 : decode cX6_kindBy 6 = .ok (.iconst 0, 1) := by decide +kernel
theorem dX6_kindBy_7 : decode cX6_kindBy 7 = .ok (.goto 54, 3) := by decide +kernel
theorem dX6_kindBy_10 : decode cX6_kindBy 10 = .ok (.iload_n 0, 1) := by decide +kernel
theorem dX6_kindBy_11 : decode cX6_kindBy 11 = .ok (.bipush 109, 2) := by decide +kernel
theorem dX6_kindBy_13 : decode cX6_kindBy 13 = .ok (.if_icmp .ne 7, 3) := by decide +kernel
theorem dX6_kindBy_16 : decode cX6_kindBy 16 = .ok (.iconst 1, 1) := by decide +kernel
theorem dX6_kindBy_17 : decode cX6_kindBy 17 = .ok (.goto 44, 3) := by decide +kernel
theorem dX6_kindBy_20 : decode cX6_kindBy 20 = .ok (.iload_n 0, 1) := by decide +kernel
theorem dX6_kindBy_21 : decode cX6_kindBy 21 = .ok (.bipush 115, 2) := by decide +kernel
theorem dX6_kindBy_23 : decode cX6_kindBy 23 = .ok (.if_icmp .ne 7, 3) := by decide +kernel
theorem dX6_kindBy_26 : decode cX6_kindBy 26 = .ok (.iconst 2, 1) := by decide +kernel
theorem dX6_kindBy_27 : decode cX6_kindBy 27 = .ok (.goto 34, 3) := by decide +kernel
theorem dX6_kindBy_30 : decode cX6_kindBy 30 = .ok (.iload_n 0, 1) := by decide +kernel
theorem dX6_kindBy_31 : decode cX6_kindBy 31 = .ok (.bipush 108, 2) := by decide +kernel
theorem dX6_kindBy_33 : decode cX6_kindBy 33 = .ok (.if_icmp .ne 7, 3) := by decide +kernel
theorem dX6_kindBy_36 : decode cX6_kindBy 36 = .ok (.iconst 3, 1) := by decide +kernel
theorem dX6_kindBy_37 : decode cX6_kindBy 37 = .ok (.goto 24, 3) := by decide +kernel
theorem dX6_kindBy_40 : decode cX6_kindBy 40 = .ok (.iload_n 0, 1) := by decide +kernel
theorem dX6_kindBy_41 : decode cX6_kindBy 41 = .ok (.bipush 102, 2) := by decide +kernel
theorem dX6_kindBy_43 : decode cX6_kindBy 43 = .ok (.if_icmp .ne 7, 3) := by decide +kernel
theorem dX6_kindBy_46 : decode cX6_kindBy 46 = .ok (.iconst 4, 1) := by decide +kernel
theorem dX6_kindBy_47 : decode cX6_kindBy 47 = .ok (.goto 14, 3) := by decide +kernel
theorem dX6_kindBy_50 : decode cX6_kindBy 50 = .ok (.iload_n 0, 1) := by decide +kernel
theorem dX6_kindBy_51 : decode cX6_kindBy 51 = .ok (.bipush 112, 2) := by decide +kernel
theorem dX6_kindBy_53 : decode cX6_kindBy 53 = .ok (.if_icmp .ne 7, 3) := by decide +kernel
theorem dX6_kindBy_56 : decode cX6_kindBy 56 = .ok (.iconst 5, 1) := by decide +kernel
theorem dX6_kindBy_57 : decode cX6_kindBy 57 = .ok (.goto 4, 3) := by decide +kernel
theorem dX6_kindBy_60 : decode cX6_kindBy 60 = .ok (.iconst (-1), 1) := by decide +kernel
theorem dX6_kindBy_61 : decode cX6_kindBy 61 = .ok (.ireturn, 1) := by decide +kernel
theorem dX6_sign_0 : decode cX6_sign 0 = .ok (.aload_n 0, 1) := by decide +kernel
theorem dX6_sign_1 : decode cX6_sign 1 = .ok (.iload_n 1, 1) := by decide +kernel
theorem dX6_sign_2 : decode cX6_sign 2 = .ok (.invokevirtual 123, 3) := by decide +kernel
theorem dX6_sign_5 : decode cX6_sign 5 = .ok (.iload_n 2, 1) := by decide +kernel
theorem dX6_sign_6 : decode cX6_sign 6 = .ok (.isub, 1) := by decide +kernel
theorem dX6_sign_7 : decode cX6_sign 7 = .ok (.istore 4, 2) := by decide +kernel
theorem dX6_sign_9 : decode cX6_sign 9 = .ok (.aload_n 0, 1) := by decide +kernel
theorem dX6_sign_10 : decode cX6_sign 10 = .ok (.iload_n 1, 1) := by decide +kernel
theorem dX6_sign_11 : decode cX6_sign 11 = .ok (.invokevirtual 120, 3) := by decide +kernel
theorem dX6_sign_14 : decode cX6_sign 14 = .ok (.ifCond .ne 17, 3) := by decide +kernel
theorem dX6_sign_17 : decode cX6_sign 17 = .ok (.iload 4, 2) := by decide +kernel
theorem dX6_sign_19 : decode cX6_sign 19 = .ok (.i2l, 1) := by decide +kernel
theorem dX6_sign_20 : decode cX6_sign 20 = .ok (.lconst 0, 1) := by decide +kernel
theorem dX6_sign_21 : decode cX6_sign 21 = .ok (.iload_n 3, 1) := by decide +kernel
theorem dX6_sign_22 : decode cX6_sign 22 = .ok (.iconst 1, 1) := by decide +kernel
theorem dX6_sign_23 : decode cX6_sign 23 = .ok (.isub, 1) := by decide +kernel
theorem dX6_sign_24 : decode cX6_sign 24 = .ok (.i2l, 1) := by decide +kernel
theorem dX6_sign_25 : decode cX6_sign 25 = .ok (.invokestatic 93, 3) := by decide +kernel
theorem dX6_sign_28 : decode cX6_sign 28 = .ok (.ifCond .ne 5, 3) := by decide +kernel
theorem dX6_sign_31 : decode cX6_sign 31 = .ok (.iconst (-1), 1) := by decide +kernel
theorem dX6_sign_32 : decode cX6_sign 32 = .ok (.ireturn, 1) := by decide +kernel
theorem dX6_sign_33 : decode cX6_sign 33 = .ok (.aload_n 0, 1) := by decide +kernel
theorem dX6_sign_34 : decode cX6_sign 34 = .ok (.dup, 1) := by decide +kernel
theorem dX6_sign_35 : decode cX6_sign 35 = .ok (.getfield 117, 3) := by decide +kernel
theorem dX6_sign_38 : decode cX6_sign 38 = .ok (.iconst 1, 1) := by decide +kernel
theorem dX6_sign_39 : decode cX6_sign 39 = .ok (.iadd, 1) := by decide +kernel
theorem dX6_sign_40 : decode cX6_sign 40 = .ok (.putfield 117, 3) := by decide +kernel
theorem dX6_sign_43 : decode cX6_sign 43 = .ok (.iload 4, 2) := by decide +kernel
theorem dX6_sign_45 : decode cX6_sign 45 = .ok (.ireturn, 1) := by decide +kernel
theorem dX6_readDeed_0 : decode cX6_readDeed 0 = .ok (.aload_n 0, 1) := by decide +kernel
theorem dX6_readDeed_1 : decode cX6_readDeed 1 = .ok (.getfield 126, 3) := by decide +kernel
theorem dX6_readDeed_4 : decode cX6_readDeed 4 = .ok (.bipush 6, 2) := by decide +kernel
theorem dX6_readDeed_6 : decode cX6_readDeed 6 = .ok (.if_icmp .eq 10, 3) := by decide +kernel
theorem dX6_readDeed_9 : decode cX6_readDeed 9 = .ok (.aload_n 0, 1) := by decide +kernel
theorem dX6_readDeed_10 : decode cX6_readDeed 10 = .ok (.getfield 129, 3) := by decide +kernel
theorem dX6_readDeed_13 : decode cX6_readDeed 13 = .ok (.ifCond .le 5, 3) := by decide +kernel
theorem dX6_readDeed_16 : decode cX6_readDeed 16 = .ok (.iconst 0, 1) := by decide +kernel
theorem dX6_readDeed_17 : decode cX6_readDeed 17 = .ok (.ireturn, 1) := by decide +kernel
theorem dX6_readDeed_18 : decode cX6_readDeed 18 = .ok (.aload_n 0, 1) := by decide +kernel
theorem dX6_readDeed_19 : decode cX6_readDeed 19 = .ok (.dup, 1) := by decide +kernel
theorem dX6_readDeed_20 : decode cX6_readDeed 20 = .ok (.getfield 117, 3) := by decide +kernel
theorem dX6_readDeed_23 : decode cX6_readDeed 23 = .ok (.iconst 1, 1) := by decide +kernel
theorem dX6_readDeed_24 : decode cX6_readDeed 24 = .ok (.iadd, 1) := by decide +kernel
theorem dX6_readDeed_25 : decode cX6_readDeed 25 = .ok (.putfield 117, 3) := by decide +kernel
theorem dX6_readDeed_28 : decode cX6_readDeed 28 = .ok (.aload_n 0, 1) := by decide +kernel
theorem dX6_readDeed_29 : decode cX6_readDeed 29 = .ok (.iload_n 1, 1) := by decide +kernel
theorem dX6_readDeed_30 : decode cX6_readDeed 30 = .ok (.invokevirtual 123, 3) := by decide +kernel
theorem dX6_readDeed_33 : decode cX6_readDeed 33 = .ok (.istore_n 3, 1) := by decide +kernel
theorem dX6_readDeed_34 : decode cX6_readDeed 34 = .ok (.iload_n 3, 1) := by decide +kernel
theorem dX6_readDeed_35 : decode cX6_readDeed 35 = .ok (.bipush 100, 2) := by decide +kernel
theorem dX6_readDeed_37 : decode cX6_readDeed 37 = .ok (.if_icmp .ne 7, 3) := by decide +kernel
theorem dX6_readDeed_40 : decode cX6_readDeed 40 = .ok (.iconst 0, 1) := by decide +kernel
theorem dX6_readDeed_41 : decode cX6_readDeed 41 = .ok (.goto 24, 3) := by decide +kernel
theorem dX6_readDeed_44 : decode cX6_readDeed 44 = .ok (.iload_n 3, 1) := by decide +kernel
theorem dX6_readDeed_45 : decode cX6_readDeed 45 = .ok (.bipush 110, 2) := by decide +kernel
theorem dX6_readDeed_47 : decode cX6_readDeed 47 = .ok (.if_icmp .ne 7, 3) := by decide +kernel
theorem dX6_readDeed_50 : decode cX6_readDeed 50 = .ok (.iconst 1, 1) := by decide +kernel
theorem dX6_readDeed_51 : decode cX6_readDeed 51 = .ok (.goto 14, 3) := by decide +kernel
theorem dX6_readDeed_54 : decode cX6_readDeed 54 = .ok (.iload_n 3, 1) := by decide +kernel
theorem dX6_readDeed_55 : decode cX6_readDeed 55 = .ok (.bipush 101, 2) := by decide +kernel
theorem dX6_readDeed_57 : decode cX6_readDeed 57 = .ok (.if_icmp .ne 7, 3) := by decide +kernel
theorem dX6_readDeed_60 : decode cX6_readDeed 60 = .ok (.iconst 2, 1) := by decide +kernel
theorem dX6_readDeed_61 : decode cX6_readDeed 61 = .ok (.goto 4, 3) := by decide +kernel
theorem dX6_readDeed_64 : decode cX6_readDeed 64 = .ok (.iconst (-1), 1) := by decide +kernel
theorem dX6_readDeed_65 : decode cX6_readDeed 65 = .ok (.istore 4, 2) := by decide +kernel
theorem dX6_readDeed_67 : decode cX6_readDeed 67 = .ok (.iload 4, 2) := by decide +kernel
theorem dX6_readDeed_69 : decode cX6_readDeed 69 = .ok (.ifCond .ge 5, 3) := by decide +kernel
theorem dX6_readDeed_72 : decode cX6_readDeed 72 = .ok (.iconst 0, 1) := by decide +kernel
theorem dX6_readDeed_73 : decode cX6_readDeed 73 = .ok (.ireturn, 1) := by decide +kernel
theorem dX6_readDeed_74 : decode cX6_readDeed 74 = .ok (.aload_n 0, 1) := by decide +kernel
theorem dX6_readDeed_75 : decode cX6_readDeed 75 = .ok (.dup, 1) := by decide +kernel
theorem dX6_readDeed_76 : decode cX6_readDeed 76 = .ok (.getfield 117, 3) := by decide +kernel
theorem dX6_readDeed_79 : decode cX6_readDeed 79 = .ok (.iconst 1, 1) := by decide +kernel
theorem dX6_readDeed_80 : decode cX6_readDeed 80 = .ok (.iadd, 1) := by decide +kernel
theorem dX6_readDeed_81 : decode cX6_readDeed 81 = .ok (.putfield 117, 3) := by decide +kernel
theorem dX6_readDeed_84 : decode cX6_readDeed 84 = .ok (.aload_n 0, 1) := by decide +kernel
theorem dX6_readDeed_85 : decode cX6_readDeed 85 = .ok (.iload_n 1, 1) := by decide +kernel
theorem dX6_readDeed_86 : decode cX6_readDeed 86 = .ok (.bipush 48, 2) := by decide +kernel
theorem dX6_readDeed_88 : decode cX6_readDeed 88 = .ok (.iconst 4, 1) := by decide +kernel
theorem dX6_readDeed_89 : decode cX6_readDeed 89 = .ok (.invokevirtual 132, 3) := by decide +kernel
theorem dX6_readDeed_92 : decode cX6_readDeed 92 = .ok (.istore 5, 2) := by decide +kernel
theorem dX6_readDeed_94 : decode cX6_readDeed 94 = .ok (.iconst 0, 1) := by decide +kernel
theorem dX6_readDeed_95 : decode cX6_readDeed 95 = .ok (.istore 6, 2) := by decide +kernel
theorem dX6_readDeed_97 : decode cX6_readDeed 97 = .ok (.iconst 0, 1) := by decide +kernel
theorem dX6_readDeed_98 : decode cX6_readDeed 98 = .ok (.istore 7, 2) := by decide +kernel
theorem dX6_readDeed_100 : decode cX6_readDeed 100 = .ok (.iload 7, 2) := by decide +kernel
theorem dX6_readDeed_102 : decode cX6_readDeed 102 = .ok (.iload 5, 2) := by decide +kernel
theorem dX6_readDeed_104 : decode cX6_readDeed 104 = .ok (.if_icmp .ge 75, 3) := by decide +kernel
theorem dX6_readDeed_107 : decode cX6_readDeed 107 = .ok (.aload_n 0, 1) := by decide +kernel
theorem dX6_readDeed_108 : decode cX6_readDeed 108 = .ok (.iload_n 1, 1) := by decide +kernel
theorem dX6_readDeed_109 : decode cX6_readDeed 109 = .ok (.invokevirtual 123, 3) := by decide +kernel
theorem dX6_readDeed_112 : decode cX6_readDeed 112 = .ok (.bipush 48, 2) := by decide +kernel
theorem dX6_readDeed_114 : decode cX6_readDeed 114 = .ok (.isub, 1) := by decide +kernel
theorem dX6_readDeed_115 : decode cX6_readDeed 115 = .ok (.istore 8, 2) := by decide +kernel
theorem dX6_readDeed_117 : decode cX6_readDeed 117 = .ok (.aload_n 0, 1) := by decide +kernel
theorem dX6_readDeed_118 : decode cX6_readDeed 118 = .ok (.iload_n 1, 1) := by decide +kernel
theorem dX6_readDeed_119 : decode cX6_readDeed 119 = .ok (.invokevirtual 120, 3) := by decide +kernel
theorem dX6_readDeed_122 : decode cX6_readDeed 122 = .ok (.ifCond .ne 30, 3) := by decide +kernel
theorem dX6_readDeed_125 : decode cX6_readDeed 125 = .ok (.iload 8, 2) := by decide +kernel
theorem dX6_readDeed_127 : decode cX6_readDeed 127 = .ok (.i2l, 1) := by decide +kernel
theorem dX6_readDeed_128 : decode cX6_readDeed 128 = .ok (.lconst 0, 1) := by decide +kernel
theorem dX6_readDeed_129 : decode cX6_readDeed 129 = .ok (.aload_n 0, 1) := by decide +kernel
theorem dX6_readDeed_130 : decode cX6_readDeed 130 = .ok (.getfield 126, 3) := by decide +kernel
theorem dX6_readDeed_133 : decode cX6_readDeed 133 = .ok (.iconst 1, 1) := by decide +kernel
theorem dX6_readDeed_134 : decode cX6_readDeed 134 = .ok (.isub, 1) := by decide +kernel
theorem dX6_readDeed_135 : decode cX6_readDeed 135 = .ok (.i2l, 1) := by decide +kernel
theorem dX6_readDeed_136 : decode cX6_readDeed 136 = .ok (.invokestatic 93, 3) := by decide +kernel
theorem dX6_readDeed_139 : decode cX6_readDeed 139 = .ok (.ifCond .eq 13, 3) := by decide +kernel
theorem dX6_readDeed_142 : decode cX6_readDeed 142 = .ok (.iload 6, 2) := by decide +kernel
theorem dX6_readDeed_144 : decode cX6_readDeed 144 = .ok (.iload 8, 2) := by decide +kernel
theorem dX6_readDeed_146 : decode cX6_readDeed 146 = .ok (.invokestatic 136, 3) := by decide +kernel
theorem dX6_readDeed_149 : decode cX6_readDeed 149 = .ok (.ifCond .eq 5, 3) := by decide +kernel
theorem dX6_readDeed_152 : decode cX6_readDeed 152 = .ok (.iconst 0, 1) := by decide +kernel
theorem dX6_readDeed_153 : decode cX6_readDeed 153 = .ok (.ireturn, 1) := by decide +kernel
theorem dX6_readDeed_154 : decode cX6_readDeed 154 = .ok (.iload 6, 2) := by decide +kernel
theorem dX6_readDeed_156 : decode cX6_readDeed 156 = .ok (.iconst 1, 1) := by decide +kernel
theorem dX6_readDeed_157 : decode cX6_readDeed 157 = .ok (.iload 8, 2) := by decide +kernel
theorem dX6_readDeed_159 : decode cX6_readDeed 159 = .ok (.ishl, 1) := by decide +kernel
theorem dX6_readDeed_160 : decode cX6_readDeed 160 = .ok (.ior, 1) := by decide +kernel
theorem dX6_readDeed_161 : decode cX6_readDeed 161 = .ok (.istore 6, 2) := by decide +kernel
theorem dX6_readDeed_163 : decode cX6_readDeed 163 = .ok (.aload_n 0, 1) := by decide +kernel
theorem dX6_readDeed_164 : decode cX6_readDeed 164 = .ok (.dup, 1) := by decide +kernel
theorem dX6_readDeed_165 : decode cX6_readDeed 165 = .ok (.getfield 117, 3) := by decide +kernel
theorem dX6_readDeed_168 : decode cX6_readDeed 168 = .ok (.iconst 1, 1) := by decide +kernel
theorem dX6_readDeed_169 : decode cX6_readDeed 169 = .ok (.iadd, 1) := by decide +kernel
theorem dX6_readDeed_170 : decode cX6_readDeed 170 = .ok (.putfield 117, 3) := by decide +kernel
theorem dX6_readDeed_173 : decode cX6_readDeed 173 = .ok (.iinc 7 1, 3) := by decide +kernel
theorem dX6_readDeed_176 : decode cX6_readDeed 176 = .ok (.goto (-76), 3) := by decide +kernel
theorem dX6_readDeed_179 : decode cX6_readDeed 179 = .ok (.iload 5, 2) := by decide +kernel
theorem dX6_readDeed_181 : decode cX6_readDeed 181 = .ok (.ifCond .ge 5, 3) := by decide +kernel
theorem dX6_readDeed_184 : decode cX6_readDeed 184 = .ok (.iconst 0, 1) := by decide +kernel
theorem dX6_readDeed_185 : decode cX6_readDeed 185 = .ok (.ireturn, 1) := by decide +kernel
theorem dX6_readDeed_186 : decode cX6_readDeed 186 = .ok (.aload_n 0, 1) := by decide +kernel
theorem dX6_readDeed_187 : decode cX6_readDeed 187 = .ok (.getfield 59, 3) := by decide +kernel
theorem dX6_readDeed_190 : decode cX6_readDeed 190 = .ok (.iconst 3, 1) := by decide +kernel
theorem dX6_readDeed_191 : decode cX6_readDeed 191 = .ok (.aload_n 0, 1) := by decide +kernel
theorem dX6_readDeed_192 : decode cX6_readDeed 192 = .ok (.getfield 126, 3) := by decide +kernel
theorem dX6_readDeed_195 : decode cX6_readDeed 195 = .ok (.imul, 1) := by decide +kernel
theorem dX6_readDeed_196 : decode cX6_readDeed 196 = .ok (.iload_n 2, 1) := by decide +kernel
theorem dX6_readDeed_197 : decode cX6_readDeed 197 = .ok (.iastore, 1) := by decide +kernel
theorem dX6_readDeed_198 : decode cX6_readDeed 198 = .ok (.aload_n 0, 1) := by decide +kernel
theorem dX6_readDeed_199 : decode cX6_readDeed 199 = .ok (.getfield 59, 3) := by decide +kernel
theorem dX6_readDeed_202 : decode cX6_readDeed 202 = .ok (.iconst 3, 1) := by decide +kernel
theorem dX6_readDeed_203 : decode cX6_readDeed 203 = .ok (.aload_n 0, 1) := by decide +kernel
theorem dX6_readDeed_204 : decode cX6_readDeed 204 = .ok (.getfield 126, 3) := by decide +kernel
theorem dX6_readDeed_207 : decode cX6_readDeed 207 = .ok (.imul, 1) := by decide +kernel
theorem dX6_readDeed_208 : decode cX6_readDeed 208 = .ok (.iconst 1, 1) := by decide +kernel
theorem dX6_readDeed_209 : decode cX6_readDeed 209 = .ok (.iadd, 1) := by decide +kernel
theorem dX6_readDeed_210 : decode cX6_readDeed 210 = .ok (.iload 4, 2) := by decide +kernel
theorem dX6_readDeed_212 : decode cX6_readDeed 212 = .ok (.iastore, 1) := by decide +kernel
theorem dX6_readDeed_213 : decode cX6_readDeed 213 = .ok (.aload_n 0, 1) := by decide +kernel
theorem dX6_readDeed_214 : decode cX6_readDeed 214 = .ok (.getfield 59, 3) := by decide +kernel
theorem dX6_readDeed_217 : decode cX6_readDeed 217 = .ok (.iconst 3, 1) := by decide +kernel
theorem dX6_readDeed_218 : decode cX6_readDeed 218 = .ok (.aload_n 0, 1) := by decide +kernel
theorem dX6_readDeed_219 : decode cX6_readDeed 219 = .ok (.getfield 126, 3) := by decide +kernel
theorem dX6_readDeed_222 : decode cX6_readDeed 222 = .ok (.imul, 1) := by decide +kernel
theorem dX6_readDeed_223 : decode cX6_readDeed 223 = .ok (.iconst 2, 1) := by decide +kernel
theorem dX6_readDeed_224 : decode cX6_readDeed 224 = .ok (.iadd, 1) := by decide +kernel
theorem dX6_readDeed_225 : decode cX6_readDeed 225 = .ok (.iload 6, 2) := by decide +kernel
theorem dX6_readDeed_227 : decode cX6_readDeed 227 = .ok (.iastore, 1) := by decide +kernel
theorem dX6_readDeed_228 : decode cX6_readDeed 228 = .ok (.aload_n 0, 1) := by decide +kernel
theorem dX6_readDeed_229 : decode cX6_readDeed 229 = .ok (.dup, 1) := by decide +kernel
theorem dX6_readDeed_230 : decode cX6_readDeed 230 = .ok (.getfield 126, 3) := by decide +kernel
theorem dX6_readDeed_233 : decode cX6_readDeed 233 = .ok (.iconst 1, 1) := by decide +kernel
theorem dX6_readDeed_234 : decode cX6_readDeed 234 = .ok (.iadd, 1) := by decide +kernel
theorem dX6_readDeed_235 : decode cX6_readDeed 235 = .ok (.putfield 126, 3) := by decide +kernel
theorem dX6_readDeed_238 : decode cX6_readDeed 238 = .ok (.iconst 1, 1) := by decide +kernel
theorem dX6_readDeed_239 : decode cX6_readDeed 239 = .ok (.ireturn, 1) := by decide +kernel
theorem dX6_readHour_0 : decode cX6_readHour 0 = .ok (.aload_n 0, 1) := by decide +kernel
theorem dX6_readHour_1 : decode cX6_readHour 1 = .ok (.getfield 129, 3) := by decide +kernel
theorem dX6_readHour_4 : decode cX6_readHour 4 = .ok (.bipush 7, 2) := by decide +kernel
theorem dX6_readHour_6 : decode cX6_readHour 6 = .ok (.if_icmp .eq 10, 3) := by decide +kernel
theorem dX6_readHour_9 : decode cX6_readHour 9 = .ok (.aload_n 0, 1) := by decide +kernel
theorem dX6_readHour_10 : decode cX6_readHour 10 = .ok (.getfield 126, 3) := by decide +kernel
theorem dX6_readHour_13 : decode cX6_readHour 13 = .ok (.ifCond .ne 5, 3) := by decide +kernel
theorem dX6_readHour_16 : decode cX6_readHour 16 = .ok (.iconst 0, 1) := by decide +kernel
theorem dX6_readHour_17 : decode cX6_readHour 17 = .ok (.ireturn, 1) := by decide +kernel
theorem dX6_readHour_18 : decode cX6_readHour 18 = .ok (.aload_n 0, 1) := by decide +kernel
theorem dX6_readHour_19 : decode cX6_readHour 19 = .ok (.dup, 1) := by decide +kernel
theorem dX6_readHour_20 : decode cX6_readHour 20 = .ok (.getfield 117, 3) := by decide +kernel
theorem dX6_readHour_23 : decode cX6_readHour 23 = .ok (.iconst 1, 1) := by decide +kernel
theorem dX6_readHour_24 : decode cX6_readHour 24 = .ok (.iadd, 1) := by decide +kernel
theorem dX6_readHour_25 : decode cX6_readHour 25 = .ok (.putfield 117, 3) := by decide +kernel
theorem dX6_readHour_28 : decode cX6_readHour 28 = .ok (.aload_n 0, 1) := by decide +kernel
theorem dX6_readHour_29 : decode cX6_readHour 29 = .ok (.iload_n 1, 1) := by decide +kernel
theorem dX6_readHour_30 : decode cX6_readHour 30 = .ok (.bipush 65, 2) := by decide +kernel
theorem dX6_readHour_32 : decode cX6_readHour 32 = .ok (.bipush 24, 2) := by decide +kernel
theorem dX6_readHour_34 : decode cX6_readHour 34 = .ok (.invokevirtual 132, 3) := by decide +kernel
theorem dX6_readHour_37 : decode cX6_readHour 37 = .ok (.istore_n 2, 1) := by decide +kernel
theorem dX6_readHour_38 : decode cX6_readHour 38 = .ok (.iload_n 2, 1) := by decide +kernel
theorem dX6_readHour_39 : decode cX6_readHour 39 = .ok (.ifCond .ge 7, 3) := by decide +kernel
theorem dX6_readHour_42 : decode cX6_readHour 42 = .ok (.iconst (-1), 1) := by decide +kernel
theorem dX6_readHour_43 : decode cX6_readHour 43 = .ok (.goto 12, 3) := by decide +kernel
theorem dX6_readHour_46 : decode cX6_readHour 46 = .ok (.aload_n 0, 1) := by decide +kernel
theorem dX6_readHour_47 : decode cX6_readHour 47 = .ok (.iload_n 1, 1) := by decide +kernel
theorem dX6_readHour_48 : decode cX6_readHour 48 = .ok (.bipush 48, 2) := by decide +kernel
theorem dX6_readHour_50 : decode cX6_readHour 50 = .ok (.bipush 10, 2) := by decide +kernel
theorem dX6_readHour_52 : decode cX6_readHour 52 = .ok (.invokevirtual 132, 3) := by decide +kernel
theorem dX6_readHour_55 : decode cX6_readHour 55 = .ok (.istore_n 3, 1) := by decide +kernel
theorem dX6_readHour_56 : decode cX6_readHour 56 = .ok (.iload_n 3, 1) := by decide +kernel
theorem dX6_readHour_57 : decode cX6_readHour 57 = .ok (.ifCond .ge 7, 3) := by decide +kernel
theorem dX6_readHour_60 : decode cX6_readHour 60 = .ok (.iconst (-1), 1) := by decide +kernel
theorem dX6_readHour_61 : decode cX6_readHour 61 = .ok (.goto 11, 3) := by decide +kernel
theorem dX6_readHour_64 : decode cX6_readHour 64 = .ok (.aload_n 0, 1) := by decide +kernel
theorem dX6_readHour_65 : decode cX6_readHour 65 = .ok (.iload_n 1, 1) := by decide +kernel
theorem dX6_readHour_66 : decode cX6_readHour 66 = .ok (.bipush 48, 2) := by decide +kernel
theorem dX6_readHour_68 : decode cX6_readHour 68 = .ok (.iconst 3, 1) := by decide +kernel
theorem dX6_readHour_69 : decode cX6_readHour 69 = .ok (.invokevirtual 132, 3) := by decide +kernel
theorem dX6_readHour_72 : decode cX6_readHour 72 = .ok (.istore 4, 2) := by decide +kernel
theorem dX6_readHour_74 : decode cX6_readHour 74 = .ok (.iload 4, 2) := by decide +kernel
theorem dX6_readHour_76 : decode cX6_readHour 76 = .ok (.ifCond .ge 5, 3) := by decide +kernel
theorem dX6_readHour_79 : decode cX6_readHour 79 = .ok (.iconst 0, 1) := by decide +kernel
theorem dX6_readHour_80 : decode cX6_readHour 80 = .ok (.ireturn, 1) := by decide +kernel
theorem dX6_readHour_81 : decode cX6_readHour 81 = .ok (.aload_n 0, 1) := by decide +kernel
theorem dX6_readHour_82 : decode cX6_readHour 82 = .ok (.getfield 62, 3) := by decide +kernel
theorem dX6_readHour_85 : decode cX6_readHour 85 = .ok (.iconst 3, 1) := by decide +kernel
theorem dX6_readHour_86 : decode cX6_readHour 86 = .ok (.aload_n 0, 1) := by decide +kernel
theorem dX6_readHour_87 : decode cX6_readHour 87 = .ok (.getfield 129, 3) := by decide +kernel
theorem dX6_readHour_90 : decode cX6_readHour 90 = .ok (.imul, 1) := by decide +kernel
theorem dX6_readHour_91 : decode cX6_readHour 91 = .ok (.iload_n 2, 1) := by decide +kernel
theorem dX6_readHour_92 : decode cX6_readHour 92 = .ok (.iastore, 1) := by decide +kernel
theorem dX6_readHour_93 : decode cX6_readHour 93 = .ok (.aload_n 0, 1) := by decide +kernel
theorem dX6_readHour_94 : decode cX6_readHour 94 = .ok (.getfield 62, 3) := by decide +kernel
theorem dX6_readHour_97 : decode cX6_readHour 97 = .ok (.iconst 3, 1) := by decide +kernel
theorem dX6_readHour_98 : decode cX6_readHour 98 = .ok (.aload_n 0, 1) := by decide +kernel
theorem dX6_readHour_99 : decode cX6_readHour 99 = .ok (.getfield 129, 3) := by decide +kernel
theorem dX6_readHour_102 : decode cX6_readHour 102 = .ok (.imul, 1) := by decide +kernel
theorem dX6_readHour_103 : decode cX6_readHour 103 = .ok (.iconst 1, 1) := by decide +kernel
theorem dX6_readHour_104 : decode cX6_readHour 104 = .ok (.iadd, 1) := by decide +kernel
theorem dX6_readHour_105 : decode cX6_readHour 105 = .ok (.iload_n 3, 1) := by decide +kernel
theorem dX6_readHour_106 : decode cX6_readHour 106 = .ok (.iastore, 1) := by decide +kernel
theorem dX6_readHour_107 : decode cX6_readHour 107 = .ok (.aload_n 0, 1) := by decide +kernel
theorem dX6_readHour_108 : decode cX6_readHour 108 = .ok (.getfield 62, 3) := by decide +kernel
theorem dX6_readHour_111 : decode cX6_readHour 111 = .ok (.iconst 3, 1) := by decide +kernel
theorem dX6_readHour_112 : decode cX6_readHour 112 = .ok (.aload_n 0, 1) := by decide +kernel
theorem dX6_readHour_113 : decode cX6_readHour 113 = .ok (.getfield 129, 3) := by decide +kernel
theorem dX6_readHour_116 : decode cX6_readHour 116 = .ok (.imul, 1) := by decide +kernel
theorem dX6_readHour_117 : decode cX6_readHour 117 = .ok (.iconst 2, 1) := by decide +kernel
theorem dX6_readHour_118 : decode cX6_readHour 118 = .ok (.iadd, 1) := by decide +kernel
theorem dX6_readHour_119 : decode cX6_readHour 119 = .ok (.iload 4, 2) := by decide +kernel
theorem dX6_readHour_121 : decode cX6_readHour 121 = .ok (.iastore, 1) := by decide +kernel
theorem dX6_readHour_122 : decode cX6_readHour 122 = .ok (.aload_n 0, 1) := by decide +kernel
theorem dX6_readHour_123 : decode cX6_readHour 123 = .ok (.dup, 1) := by decide +kernel
theorem dX6_readHour_124 : decode cX6_readHour 124 = .ok (.getfield 129, 3) := by decide +kernel
theorem dX6_readHour_127 : decode cX6_readHour 127 = .ok (.iconst 1, 1) := by decide +kernel
theorem dX6_readHour_128 : decode cX6_readHour 128 = .ok (.iadd, 1) := by decide +kernel
theorem dX6_readHour_129 : decode cX6_readHour 129 = .ok (.putfield 129, 3) := by decide +kernel
theorem dX6_readHour_132 : decode cX6_readHour 132 = .ok (.iconst 1, 1) := by decide +kernel
theorem dX6_readHour_133 : decode cX6_readHour 133 = .ok (.ireturn, 1) := by decide +kernel
theorem dX6_readHouse_0 : decode cX6_readHouse 0 = .ok (.aload_n 0, 1) := by decide +kernel
theorem dX6_readHouse_1 : decode cX6_readHouse 1 = .ok (.iconst 0, 1) := by decide +kernel
theorem dX6_readHouse_2 : decode cX6_readHouse 2 = .ok (.putfield 117, 3) := by decide +kernel
theorem dX6_readHouse_5 : decode cX6_readHouse 5 = .ok (.aload_n 0, 1) := by decide +kernel
theorem dX6_readHouse_6 : decode cX6_readHouse 6 = .ok (.iconst 0, 1) := by decide +kernel
theorem dX6_readHouse_7 : decode cX6_readHouse 7 = .ok (.putfield 126, 3) := by decide +kernel
theorem dX6_readHouse_10 : decode cX6_readHouse 10 = .ok (.aload_n 0, 1) := by decide +kernel
theorem dX6_readHouse_11 : decode cX6_readHouse 11 = .ok (.iconst 0, 1) := by decide +kernel
theorem dX6_readHouse_12 : decode cX6_readHouse 12 = .ok (.putfield 129, 3) := by decide +kernel
theorem dX6_readHouse_15 : decode cX6_readHouse 15 = .ok (.aload_n 0, 1) := by decide +kernel
theorem dX6_readHouse_16 : decode cX6_readHouse 16 = .ok (.iload_n 1, 1) := by decide +kernel
theorem dX6_readHouse_17 : decode cX6_readHouse 17 = .ok (.invokevirtual 140, 3) := by decide +kernel
theorem dX6_readHouse_20 : decode cX6_readHouse 20 = .ok (.aload_n 0, 1) := by decide +kernel
theorem dX6_readHouse_21 : decode cX6_readHouse 21 = .ok (.iload_n 1, 1) := by decide +kernel
theorem dX6_readHouse_22 : decode cX6_readHouse 22 = .ok (.invokevirtual 120, 3) := by decide +kernel
theorem dX6_readHouse_25 : decode cX6_readHouse 25 = .ok (.ifCond .ne 63, 3) := by decide +kernel
theorem dX6_readHouse_28 : decode cX6_readHouse 28 = .ok (.aload_n 0, 1) := by decide +kernel
theorem dX6_readHouse_29 : decode cX6_readHouse 29 = .ok (.iload_n 1, 1) := by decide +kernel
theorem dX6_readHouse_30 : decode cX6_readHouse 30 = .ok (.invokevirtual 123, 3) := by decide +kernel
theorem dX6_readHouse_33 : decode cX6_readHouse 33 = .ok (.istore_n 2, 1) := by decide +kernel
theorem dX6_readHouse_34 : decode cX6_readHouse 34 = .ok (.iload_n 2, 1) := by decide +kernel
theorem dX6_readHouse_35 : decode cX6_readHouse 35 = .ok (.invokestatic 144, 3) := by decide +kernel
theorem dX6_readHouse_38 : decode cX6_readHouse 38 = .ok (.istore_n 3, 1) := by decide +kernel
theorem dX6_readHouse_39 : decode cX6_readHouse 39 = .ok (.iload_n 3, 1) := by decide +kernel
theorem dX6_readHouse_40 : decode cX6_readHouse 40 = .ok (.ifCond .lt 12, 3) := by decide +kernel
theorem dX6_readHouse_43 : decode cX6_readHouse 43 = .ok (.aload_n 0, 1) := by decide +kernel
theorem dX6_readHouse_44 : decode cX6_readHouse 44 = .ok (.iload_n 1, 1) := by decide +kernel
theorem dX6_readHouse_45 : decode cX6_readHouse 45 = .ok (.iload_n 3, 1) := by decide +kernel
theorem dX6_readHouse_46 : decode cX6_readHouse 46 = .ok (.invokevirtual 147, 3) := by decide +kernel
theorem dX6_readHouse_49 : decode cX6_readHouse 49 = .ok (.goto 22, 3) := by decide +kernel
theorem dX6_readHouse_52 : decode cX6_readHouse 52 = .ok (.iload_n 2, 1) := by decide +kernel
theorem dX6_readHouse_53 : decode cX6_readHouse 53 = .ok (.bipush 104, 2) := by decide +kernel
theorem dX6_readHouse_55 : decode cX6_readHouse 55 = .ok (.if_icmp .ne 15, 3) := by decide +kernel
theorem dX6_readHouse_58 : decode cX6_readHouse 58 = .ok (.aload_n 0, 1) := by decide +kernel
theorem dX6_readHouse_59 : decode cX6_readHouse 59 = .ok (.iload_n 1, 1) := by decide +kernel
theorem dX6_readHouse_60 : decode cX6_readHouse 60 = .ok (.invokevirtual 150, 3) := by decide +kernel
theorem dX6_readHouse_63 : decode cX6_readHouse 63 = .ok (.ifCond .eq 7, 3) := by decide +kernel
theorem dX6_readHouse_66 : decode cX6_readHouse 66 = .ok (.iconst 1, 1) := by decide +kernel
theorem dX6_readHouse_67 : decode cX6_readHouse 67 = .ok (.goto 4, 3) := by decide +kernel
theorem dX6_readHouse_70 : decode cX6_readHouse 70 = .ok (.iconst 0, 1) := by decide +kernel
theorem dX6_readHouse_71 : decode cX6_readHouse 71 = .ok (.istore 4, 2) := by decide +kernel
theorem dX6_readHouse_73 : decode cX6_readHouse 73 = .ok (.iload 4, 2) := by decide +kernel
theorem dX6_readHouse_75 : decode cX6_readHouse 75 = .ok (.ifCond .ne 5, 3) := by decide +kernel
theorem dX6_readHouse_78 : decode cX6_readHouse 78 = .ok (.iconst 0, 1) := by decide +kernel
theorem dX6_readHouse_79 : decode cX6_readHouse 79 = .ok (.ireturn, 1) := by decide +kernel
theorem dX6_readHouse_80 : decode cX6_readHouse 80 = .ok (.aload_n 0, 1) := by decide +kernel
theorem dX6_readHouse_81 : decode cX6_readHouse 81 = .ok (.iload_n 1, 1) := by decide +kernel
theorem dX6_readHouse_82 : decode cX6_readHouse 82 = .ok (.invokevirtual 140, 3) := by decide +kernel
theorem dX6_readHouse_85 : decode cX6_readHouse 85 = .ok (.goto (-65), 3) := by decide +kernel
theorem dX6_readHouse_88 : decode cX6_readHouse 88 = .ok (.aload_n 0, 1) := by decide +kernel
theorem dX6_readHouse_89 : decode cX6_readHouse 89 = .ok (.getfield 126, 3) := by decide +kernel
theorem dX6_readHouse_92 : decode cX6_readHouse 92 = .ok (.ifCond .le 7, 3) := by decide +kernel
theorem dX6_readHouse_95 : decode cX6_readHouse 95 = .ok (.iconst 1, 1) := by decide +kernel
theorem dX6_readHouse_96 : decode cX6_readHouse 96 = .ok (.goto 4, 3) := by decide +kernel
theorem dX6_readHouse_99 : decode cX6_readHouse 99 = .ok (.iconst 0, 1) := by decide +kernel
theorem dX6_readHouse_100 : decode cX6_readHouse 100 = .ok (.ireturn, 1) := by decide +kernel
theorem dX6_fault_0 : decode cX6_fault 0 = .ok (.iload_n 1, 1) := by decide +kernel
theorem dX6_fault_1 : decode cX6_fault 1 = .ok (.invokestatic 114, 3) := by decide +kernel
theorem dX6_fault_4 : decode cX6_fault 4 = .ok (.ifCond .ne 5, 3) := by decide +kernel
theorem dX6_fault_7 : decode cX6_fault 7 = .ok (.iconst (-1), 1) := by decide +kernel
theorem dX6_fault_8 : decode cX6_fault 8 = .ok (.ireturn, 1) := by decide +kernel
theorem dX6_fault_9 : decode cX6_fault 9 = .ok (.aload_n 0, 1) := by decide +kernel
theorem dX6_fault_10 : decode cX6_fault 10 = .ok (.getfield 16, 3) := by decide +kernel
theorem dX6_fault_13 : decode cX6_fault 13 = .ok (.iload_n 1, 1) := by decide +kernel
theorem dX6_fault_14 : decode cX6_fault 14 = .ok (.iaload, 1) := by decide +kernel
theorem dX6_fault_15 : decode cX6_fault 15 = .ok (.ifCond .ge 9, 3) := by decide +kernel
theorem dX6_fault_18 : decode cX6_fault 18 = .ok (.aload_n 0, 1) := by decide +kernel
theorem dX6_fault_19 : decode cX6_fault 19 = .ok (.iconst 1, 1) := by decide +kernel
theorem dX6_fault_20 : decode cX6_fault 20 = .ok (.invokevirtual 103, 3) := by decide +kernel
theorem dX6_fault_23 : decode cX6_fault 23 = .ok (.ireturn, 1) := by decide +kernel
theorem dX6_fault_24 : decode cX6_fault 24 = .ok (.aload_n 0, 1) := by decide +kernel
theorem dX6_fault_25 : decode cX6_fault 25 = .ok (.iload_n 1, 1) := by decide +kernel
theorem dX6_fault_26 : decode cX6_fault 26 = .ok (.invokevirtual 153, 3) := by decide +kernel
theorem dX6_fault_29 : decode cX6_fault 29 = .ok (.ifCond .eq 8, 3) := by decide +kernel
theorem dX6_fault_32 : decode cX6_fault 32 = .ok (.bipush (-9), 2) := by decide +kernel
theorem dX6_fault_34 : decode cX6_fault 34 = .ok (.goto 7, 3) := by decide +kernel
theorem dX6_fault_37 : decode cX6_fault 37 = .ok (.aload_n 0, 1) := by decide +kernel
theorem dX6_fault_38 : decode cX6_fault 38 = .ok (.getfield 117, 3) := by decide +kernel
theorem dX6_fault_41 : decode cX6_fault 41 = .ok (.ireturn, 1) := by decide +kernel
theorem dX6_house_0 : decode cX6_house 0 = .ok (.iload_n 1, 1) := by decide +kernel
theorem dX6_house_1 : decode cX6_house 1 = .ok (.invokestatic 114, 3) := by decide +kernel
theorem dX6_house_4 : decode cX6_house 4 = .ok (.ifCond .ne 5, 3) := by decide +kernel
theorem dX6_house_7 : decode cX6_house 7 = .ok (.iconst (-1), 1) := by decide +kernel
theorem dX6_house_8 : decode cX6_house 8 = .ok (.ireturn, 1) := by decide +kernel
theorem dX6_house_9 : decode cX6_house 9 = .ok (.aload_n 0, 1) := by decide +kernel
theorem dX6_house_10 : decode cX6_house 10 = .ok (.getfield 16, 3) := by decide +kernel
theorem dX6_house_13 : decode cX6_house 13 = .ok (.iload_n 1, 1) := by decide +kernel
theorem dX6_house_14 : decode cX6_house 14 = .ok (.iaload, 1) := by decide +kernel
theorem dX6_house_15 : decode cX6_house 15 = .ok (.ifCond .ge 9, 3) := by decide +kernel
theorem dX6_house_18 : decode cX6_house 18 = .ok (.aload_n 0, 1) := by decide +kernel
theorem dX6_house_19 : decode cX6_house 19 = .ok (.iconst 1, 1) := by decide +kernel
theorem dX6_house_20 : decode cX6_house 20 = .ok (.invokevirtual 103, 3) := by decide +kernel
theorem dX6_house_23 : decode cX6_house 23 = .ok (.ireturn, 1) := by decide +kernel
theorem dX6_house_24 : decode cX6_house 24 = .ok (.aload_n 0, 1) := by decide +kernel
theorem dX6_house_25 : decode cX6_house 25 = .ok (.iload_n 1, 1) := by decide +kernel
theorem dX6_house_26 : decode cX6_house 26 = .ok (.invokevirtual 153, 3) := by decide +kernel
theorem dX6_house_29 : decode cX6_house 29 = .ok (.ifCond .ne 6, 3) := by decide +kernel
theorem dX6_house_32 : decode cX6_house 32 = .ok (.bipush (-4), 2) := by decide +kernel
theorem dX6_house_34 : decode cX6_house 34 = .ok (.ireturn, 1) := by decide +kernel
theorem dX6_house_35 : decode cX6_house 35 = .ok (.aload_n 0, 1) := by decide +kernel
theorem dX6_house_36 : decode cX6_house 36 = .ok (.aload_n 0, 1) := by decide +kernel
theorem dX6_house_37 : decode cX6_house 37 = .ok (.getfield 126, 3) := by decide +kernel
theorem dX6_house_40 : decode cX6_house 40 = .ok (.putfield 156, 3) := by decide +kernel
theorem dX6_house_43 : decode cX6_house 43 = .ok (.aload_n 0, 1) := by decide +kernel
theorem dX6_house_44 : decode cX6_house 44 = .ok (.aload_n 0, 1) := by decide +kernel
theorem dX6_house_45 : decode cX6_house 45 = .ok (.getfield 129, 3) := by decide +kernel
theorem dX6_house_48 : decode cX6_house 48 = .ok (.putfield 159, 3) := by decide +kernel
theorem dX6_house_51 : decode cX6_house 51 = .ok (.iconst 0, 1) := by decide +kernel
theorem dX6_house_52 : decode cX6_house 52 = .ok (.istore_n 2, 1) := by decide +kernel
theorem dX6_house_53 : decode cX6_house 53 = .ok (.iload_n 2, 1) := by decide +kernel
theorem dX6_house_54 : decode cX6_house 54 = .ok (.aload_n 0, 1) := by decide +kernel
theorem dX6_house_55 : decode cX6_house 55 = .ok (.getfield 156, 3) := by decide +kernel
theorem dX6_house_58 : decode cX6_house 58 = .ok (.if_icmp .ge 55, 3) := by decide +kernel
theorem dX6_house_61 : decode cX6_house 61 = .ok (.aload_n 0, 1) := by decide +kernel
theorem dX6_house_62 : decode cX6_house 62 = .ok (.getfield 22, 3) := by decide +kernel
theorem dX6_house_65 : decode cX6_house 65 = .ok (.iload_n 2, 1) := by decide +kernel
theorem dX6_house_66 : decode cX6_house 66 = .ok (.aload_n 0, 1) := by decide +kernel
theorem dX6_house_67 : decode cX6_house 67 = .ok (.getfield 59, 3) := by decide +kernel
theorem dX6_house_70 : decode cX6_house 70 = .ok (.iconst 3, 1) := by decide +kernel
theorem dX6_house_71 : decode cX6_house 71 = .ok (.iload_n 2, 1) := by decide +kernel
theorem dX6_house_72 : decode cX6_house 72 = .ok (.imul, 1) := by decide +kernel
theorem dX6_house_73 : decode cX6_house 73 = .ok (.iaload, 1) := by decide +kernel
theorem dX6_house_74 : decode cX6_house 74 = .ok (.iastore, 1) := by decide +kernel
theorem dX6_house_75 : decode cX6_house 75 = .ok (.aload_n 0, 1) := by decide +kernel
theorem dX6_house_76 : decode cX6_house 76 = .ok (.getfield 25, 3) := by decide +kernel
theorem dX6_house_79 : decode cX6_house 79 = .ok (.iload_n 2, 1) := by decide +kernel
theorem dX6_house_80 : decode cX6_house 80 = .ok (.aload_n 0, 1) := by decide +kernel
theorem dX6_house_81 : decode cX6_house 81 = .ok (.getfield 59, 3) := by decide +kernel
theorem dX6_house_84 : decode cX6_house 84 = .ok (.iconst 3, 1) := by decide +kernel
theorem dX6_house_85 : decode cX6_house 85 = .ok (.iload_n 2, 1) := by decide +kernel
theorem dX6_house_86 : decode cX6_house 86 = .ok (.imul, 1) := by decide +kernel
theorem dX6_house_87 : decode cX6_house 87 = .ok (.iconst 1, 1) := by decide +kernel
theorem dX6_house_88 : decode cX6_house 88 = .ok (.iadd, 1) := by decide +kernel
theorem dX6_house_89 : decode cX6_house 89 = .ok (.iaload, 1) := by decide +kernel
theorem dX6_house_90 : decode cX6_house 90 = .ok (.iastore, 1) := by decide +kernel
theorem dX6_house_91 : decode cX6_house 91 = .ok (.aload_n 0, 1) := by decide +kernel
theorem dX6_house_92 : decode cX6_house 92 = .ok (.getfield 28, 3) := by decide +kernel
theorem dX6_house_95 : decode cX6_house 95 = .ok (.iload_n 2, 1) := by decide +kernel
theorem dX6_house_96 : decode cX6_house 96 = .ok (.aload_n 0, 1) := by decide +kernel
theorem dX6_house_97 : decode cX6_house 97 = .ok (.getfield 59, 3) := by decide +kernel
theorem dX6_house_100 : decode cX6_house 100 = .ok (.iconst 3, 1) := by decide +kernel
theorem dX6_house_101 : decode cX6_house 101 = .ok (.iload_n 2, 1) := by decide +kernel
theorem dX6_house_102 : decode cX6_house 102 = .ok (.imul, 1) := by decide +kernel
theorem dX6_house_103 : decode cX6_house 103 = .ok (.iconst 2, 1) := by decide +kernel
theorem dX6_house_104 : decode cX6_house 104 = .ok (.iadd, 1) := by decide +kernel
theorem dX6_house_105 : decode cX6_house 105 = .ok (.iaload, 1) := by decide +kernel
theorem dX6_house_106 : decode cX6_house 106 = .ok (.iastore, 1) := by decide +kernel
theorem dX6_house_107 : decode cX6_house 107 = .ok (.iinc 2 1, 3) := by decide +kernel
theorem dX6_house_110 : decode cX6_house 110 = .ok (.goto (-57), 3) := by decide +kernel
theorem dX6_house_113 : decode cX6_house 113 = .ok (.iconst 0, 1) := by decide +kernel
theorem dX6_house_114 : decode cX6_house 114 = .ok (.istore_n 2, 1) := by decide +kernel
theorem dX6_house_115 : decode cX6_house 115 = .ok (.iload_n 2, 1) := by decide +kernel
theorem dX6_house_116 : decode cX6_house 116 = .ok (.aload_n 0, 1) := by decide +kernel
theorem dX6_house_117 : decode cX6_house 117 = .ok (.getfield 159, 3) := by decide +kernel
theorem dX6_house_120 : decode cX6_house 120 = .ok (.if_icmp .ge 55, 3) := by decide +kernel
theorem dX6_house_123 : decode cX6_house 123 = .ok (.aload_n 0, 1) := by decide +kernel
theorem dX6_house_124 : decode cX6_house 124 = .ok (.getfield 31, 3) := by decide +kernel
theorem dX6_house_127 : decode cX6_house 127 = .ok (.iload_n 2, 1) := by decide +kernel
theorem dX6_house_128 : decode cX6_house 128 = .ok (.aload_n 0, 1) := by decide +kernel
theorem dX6_house_129 : decode cX6_house 129 = .ok (.getfield 62, 3) := by decide +kernel
theorem dX6_house_132 : decode cX6_house 132 = .ok (.iconst 3, 1) := by decide +kernel
theorem dX6_house_133 : decode cX6_house 133 = .ok (.iload_n 2, 1) := by decide +kernel
theorem dX6_house_134 : decode cX6_house 134 = .ok (.imul, 1) := by decide +kernel
theorem dX6_house_135 : decode cX6_house 135 = .ok (.iaload, 1) := by decide +kernel
theorem dX6_house_136 : decode cX6_house 136 = .ok (.iastore, 1) := by decide +kernel
theorem dX6_house_137 : decode cX6_house 137 = .ok (.aload_n 0, 1) := by decide +kernel
theorem dX6_house_138 : decode cX6_house 138 = .ok (.getfield 34, 3) := by decide +kernel
theorem dX6_house_141 : decode cX6_house 141 = .ok (.iload_n 2, 1) := by decide +kernel
theorem dX6_house_142 : decode cX6_house 142 = .ok (.aload_n 0, 1) := by decide +kernel
theorem dX6_house_143 : decode cX6_house 143 = .ok (.getfield 62, 3) := by decide +kernel
theorem dX6_house_146 : decode cX6_house 146 = .ok (.iconst 3, 1) := by decide +kernel
theorem dX6_house_147 : decode cX6_house 147 = .ok (.iload_n 2, 1) := by decide +kernel
theorem dX6_house_148 : decode cX6_house 148 = .ok (.imul, 1) := by decide +kernel
theorem dX6_house_149 : decode cX6_house 149 = .ok (.iconst 1, 1) := by decide +kernel
theorem dX6_house_150 : decode cX6_house 150 = .ok (.iadd, 1) := by decide +kernel
theorem dX6_house_151 : decode cX6_house 151 = .ok (.iaload, 1) := by decide +kernel
theorem dX6_house_152 : decode cX6_house 152 = .ok (.iastore, 1) := by decide +kernel
theorem dX6_house_153 : decode cX6_house 153 = .ok (.aload_n 0, 1) := by decide +kernel
theorem dX6_house_154 : decode cX6_house 154 = .ok (.getfield 37, 3) := by decide +kernel
theorem dX6_house_157 : decode cX6_house 157 = .ok (.iload_n 2, 1) := by decide +kernel
theorem dX6_house_158 : decode cX6_house 158 = .ok (.aload_n 0, 1) := by decide +kernel
theorem dX6_house_159 : decode cX6_house 159 = .ok (.getfield 62, 3) := by decide +kernel
theorem dX6_house_162 : decode cX6_house 162 = .ok (.iconst 3, 1) := by decide +kernel
theorem dX6_house_163 : decode cX6_house 163 = .ok (.iload_n 2, 1) := by decide +kernel
theorem dX6_house_164 : decode cX6_house 164 = .ok (.imul, 1) := by decide +kernel
theorem dX6_house_165 : decode cX6_house 165 = .ok (.iconst 2, 1) := by decide +kernel
theorem dX6_house_166 : decode cX6_house 166 = .ok (.iadd, 1) := by decide +kernel
theorem dX6_house_167 : decode cX6_house 167 = .ok (.iaload, 1) := by decide +kernel
theorem dX6_house_168 : decode cX6_house 168 = .ok (.iastore, 1) := by decide +kernel
theorem dX6_house_169 : decode cX6_house 169 = .ok (.iinc 2 1, 3) := by decide +kernel
theorem dX6_house_172 : decode cX6_house 172 = .ok (.goto (-57), 3) := by decide +kernel
theorem dX6_house_175 : decode cX6_house 175 = .ok (.aload_n 0, 1) := by decide +kernel
theorem dX6_house_176 : decode cX6_house 176 = .ok (.invokevirtual 81, 3) := by decide +kernel
theorem dX6_house_179 : decode cX6_house 179 = .ok (.iconst 0, 1) := by decide +kernel
theorem dX6_house_180 : decode cX6_house 180 = .ok (.istore_n 2, 1) := by decide +kernel
theorem dX6_house_181 : decode cX6_house 181 = .ok (.iload_n 2, 1) := by decide +kernel
theorem dX6_house_182 : decode cX6_house 182 = .ok (.bipush 12, 2) := by decide +kernel
theorem dX6_house_184 : decode cX6_house 184 = .ok (.if_icmp .ge 26, 3) := by decide +kernel
theorem dX6_house_187 : decode cX6_house 187 = .ok (.aload_n 0, 1) := by decide +kernel
theorem dX6_house_188 : decode cX6_house 188 = .ok (.getfield 43, 3) := by decide +kernel
theorem dX6_house_191 : decode cX6_house 191 = .ok (.iload_n 2, 1) := by decide +kernel
theorem dX6_house_192 : decode cX6_house 192 = .ok (.iload_n 2, 1) := by decide +kernel
theorem dX6_house_193 : decode cX6_house 193 = .ok (.iconst 5, 1) := by decide +kernel
theorem dX6_house_194 : decode cX6_house 194 = .ok (.if_icmp .ge 7, 3) := by decide +kernel
theorem dX6_house_197 : decode cX6_house 197 = .ok (.iconst 0, 1) := by decide +kernel
theorem dX6_house_198 : decode cX6_house 198 = .ok (.goto 5, 3) := by decide +kernel
theorem dX6_house_201 : decode cX6_house 201 = .ok (.bipush (-9), 2) := by decide +kernel
theorem dX6_house_203 : decode cX6_house 203 = .ok (.iastore, 1) := by decide +kernel
theorem dX6_house_204 : decode cX6_house 204 = .ok (.iinc 2 1, 3) := by decide +kernel
theorem dX6_house_207 : decode cX6_house 207 = .ok (.goto (-26), 3) := by decide +kernel
theorem dX6_house_210 : decode cX6_house 210 = .ok (.aload_n 0, 1) := by decide +kernel
theorem dX6_house_211 : decode cX6_house 211 = .ok (.iconst 0, 1) := by decide +kernel
theorem dX6_house_212 : decode cX6_house 212 = .ok (.putfield 162, 3) := by decide +kernel
theorem dX6_house_215 : decode cX6_house 215 = .ok (.iconst 0, 1) := by decide +kernel
theorem dX6_house_216 : decode cX6_house 216 = .ok (.istore_n 2, 1) := by decide +kernel
theorem dX6_house_217 : decode cX6_house 217 = .ok (.iload_n 2, 1) := by decide +kernel
theorem dX6_house_218 : decode cX6_house 218 = .ok (.iconst 3, 1) := by decide +kernel
theorem dX6_house_219 : decode cX6_house 219 = .ok (.if_icmp .ge 16, 3) := by decide +kernel
theorem dX6_house_222 : decode cX6_house 222 = .ok (.aload_n 0, 1) := by decide +kernel
theorem dX6_house_223 : decode cX6_house 223 = .ok (.getfield 65, 3) := by decide +kernel
theorem dX6_house_226 : decode cX6_house 226 = .ok (.iload_n 2, 1) := by decide +kernel
theorem dX6_house_227 : decode cX6_house 227 = .ok (.iconst 0, 1) := by decide +kernel
theorem dX6_house_228 : decode cX6_house 228 = .ok (.bastore, 1) := by decide +kernel
theorem dX6_house_229 : decode cX6_house 229 = .ok (.iinc 2 1, 3) := by decide +kernel
theorem dX6_house_232 : decode cX6_house 232 = .ok (.goto (-15), 3) := by decide +kernel
theorem dX6_house_235 : decode cX6_house 235 = .ok (.aload_n 0, 1) := by decide +kernel
theorem dX6_house_236 : decode cX6_house 236 = .ok (.getfield 156, 3) := by decide +kernel
theorem dX6_house_239 : decode cX6_house 239 = .ok (.ireturn, 1) := by decide +kernel
theorem dX6_isDeed_0 : decode cX6_isDeed 0 = .ok (.iload_n 1, 1) := by decide +kernel
theorem dX6_isDeed_1 : decode cX6_isDeed 1 = .ok (.i2l, 1) := by decide +kernel
theorem dX6_isDeed_2 : decode cX6_isDeed 2 = .ok (.lconst 0, 1) := by decide +kernel
theorem dX6_isDeed_3 : decode cX6_isDeed 3 = .ok (.aload_n 0, 1) := by decide +kernel
theorem dX6_isDeed_4 : decode cX6_isDeed 4 = .ok (.getfield 156, 3) := by decide +kernel
theorem dX6_isDeed_7 : decode cX6_isDeed 7 = .ok (.iconst 1, 1) := by decide +kernel
theorem dX6_isDeed_8 : decode cX6_isDeed 8 = .ok (.isub, 1) := by decide +kernel
theorem dX6_isDeed_9 : decode cX6_isDeed 9 = .ok (.i2l, 1) := by decide +kernel
theorem dX6_isDeed_10 : decode cX6_isDeed 10 = .ok (.invokestatic 93, 3) := by decide +kernel
theorem dX6_isDeed_13 : decode cX6_isDeed 13 = .ok (.ireturn, 1) := by decide +kernel
theorem dX6_isHour_0 : decode cX6_isHour 0 = .ok (.iload_n 1, 1) := by decide +kernel
theorem dX6_isHour_1 : decode cX6_isHour 1 = .ok (.i2l, 1) := by decide +kernel
theorem dX6_isHour_2 : decode cX6_isHour 2 = .ok (.lconst 0, 1) := by decide +kernel
theorem dX6_isHour_3 : decode cX6_isHour 3 = .ok (.aload_n 0, 1) := by decide +kernel
theorem dX6_isHour_4 : decode cX6_isHour 4 = .ok (.getfield 159, 3) := by decide +kernel
theorem dX6_isHour_7 : decode cX6_isHour 7 = .ok (.iconst 1, 1) := by decide +kernel
theorem dX6_isHour_8 : decode cX6_isHour 8 = .ok (.isub, 1) := by decide +kernel
theorem dX6_isHour_9 : decode cX6_isHour 9 = .ok (.i2l, 1) := by decide +kernel
theorem dX6_isHour_10 : decode cX6_isHour 10 = .ok (.invokestatic 93, 3) := by decide +kernel
theorem dX6_isHour_13 : decode cX6_isHour 13 = .ok (.ireturn, 1) := by decide +kernel
theorem dX6_allNeeds_0 : decode cX6_allNeeds 0 = .ok (.aload_n 0, 1) := by decide +kernel
theorem dX6_allNeeds_1 : decode cX6_allNeeds 1 = .ok (.getfield 28, 3) := by decide +kernel
theorem dX6_allNeeds_4 : decode cX6_allNeeds 4 = .ok (.iload_n 1, 1) := by decide +kernel
theorem dX6_allNeeds_5 : decode cX6_allNeeds 5 = .ok (.iaload, 1) := by decide +kernel
theorem dX6_allNeeds_6 : decode cX6_allNeeds 6 = .ok (.istore_n 2, 1) := by decide +kernel
theorem dX6_allNeeds_7 : decode cX6_allNeeds 7 = .ok (.iload_n 1, 1) := by decide +kernel
theorem dX6_allNeeds_8 : decode cX6_allNeeds 8 = .ok (.iconst 1, 1) := by decide +kernel
theorem dX6_allNeeds_9 : decode cX6_allNeeds 9 = .ok (.isub, 1) := by decide +kernel
theorem dX6_allNeeds_10 : decode cX6_allNeeds 10 = .ok (.istore_n 3, 1) := by decide +kernel
theorem dX6_allNeeds_11 : decode cX6_allNeeds 11 = .ok (.iload_n 3, 1) := by decide +kernel
theorem dX6_allNeeds_12 : decode cX6_allNeeds 12 = .ok (.ifCond .lt 30, 3) := by decide +kernel
theorem dX6_allNeeds_15 : decode cX6_allNeeds 15 = .ok (.iload_n 2, 1) := by decide +kernel
theorem dX6_allNeeds_16 : decode cX6_allNeeds 16 = .ok (.iload_n 2, 1) := by decide +kernel
theorem dX6_allNeeds_17 : decode cX6_allNeeds 17 = .ok (.iload_n 3, 1) := by decide +kernel
theorem dX6_allNeeds_18 : decode cX6_allNeeds 18 = .ok (.invokestatic 136, 3) := by decide +kernel
theorem dX6_allNeeds_21 : decode cX6_allNeeds 21 = .ok (.ifCond .eq 12, 3) := by decide +kernel
theorem dX6_allNeeds_24 : decode cX6_allNeeds 24 = .ok (.aload_n 0, 1) := by decide +kernel
theorem dX6_allNeeds_25 : decode cX6_allNeeds 25 = .ok (.getfield 28, 3) := by decide +kernel
theorem dX6_allNeeds_28 : decode cX6_allNeeds 28 = .ok (.iload_n 3, 1) := by decide +kernel
theorem dX6_allNeeds_29 : decode cX6_allNeeds 29 = .ok (.iaload, 1) := by decide +kernel
theorem dX6_allNeeds_30 : decode cX6_allNeeds 30 = .ok (.goto 4, 3) := by decide +kernel
theorem dX6_allNeeds_33 : decode cX6_allNeeds 33 = .ok (.iconst 0, 1) := by decide +kernel
theorem dX6_allNeeds_34 : decode cX6_allNeeds 34 = .ok (.ior, 1) := by decide +kernel
theorem dX6_allNeeds_35 : decode cX6_allNeeds 35 = .ok (.istore_n 2, 1) := by decide +kernel
theorem dX6_allNeeds_36 : decode cX6_allNeeds 36 = .ok (.iinc 3 (-1), 3) := by decide +kernel
theorem dX6_allNeeds_39 : decode cX6_allNeeds 39 = .ok (.goto (-28), 3) := by decide +kernel
theorem dX6_allNeeds_42 : decode cX6_allNeeds 42 = .ok (.iload_n 2, 1) := by decide +kernel
theorem dX6_allNeeds_43 : decode cX6_allNeeds 43 = .ok (.ireturn, 1) := by decide +kernel
theorem dX6_deedOf_0 : decode cX6_deedOf 0 = .ok (.iload_n 2, 1) := by decide +kernel
theorem dX6_deedOf_1 : decode cX6_deedOf 1 = .ok (.ifCond .ne 12, 3) := by decide +kernel
theorem dX6_deedOf_4 : decode cX6_deedOf 4 = .ok (.aload_n 0, 1) := by decide +kernel
theorem dX6_deedOf_5 : decode cX6_deedOf 5 = .ok (.getfield 22, 3) := by decide +kernel
theorem dX6_deedOf_8 : decode cX6_deedOf 8 = .ok (.iload_n 1, 1) := by decide +kernel
theorem dX6_deedOf_9 : decode cX6_deedOf 9 = .ok (.iaload, 1) := by decide +kernel
theorem dX6_deedOf_10 : decode cX6_deedOf 10 = .ok (.goto 54, 3) := by decide +kernel
theorem dX6_deedOf_13 : decode cX6_deedOf 13 = .ok (.iload_n 2, 1) := by decide +kernel
theorem dX6_deedOf_14 : decode cX6_deedOf 14 = .ok (.iconst 1, 1) := by decide +kernel
theorem dX6_deedOf_15 : decode cX6_deedOf 15 = .ok (.if_icmp .ne 12, 3) := by decide +kernel
theorem dX6_deedOf_18 : decode cX6_deedOf 18 = .ok (.aload_n 0, 1) := by decide +kernel
theorem dX6_deedOf_19 : decode cX6_deedOf 19 = .ok (.getfield 25, 3) := by decide +kernel
theorem dX6_deedOf_22 : decode cX6_deedOf 22 = .ok (.iload_n 1, 1) := by decide +kernel
theorem dX6_deedOf_23 : decode cX6_deedOf 23 = .ok (.iaload, 1) := by decide +kernel
theorem dX6_deedOf_24 : decode cX6_deedOf 24 = .ok (.goto 40, 3) := by decide +kernel
theorem dX6_deedOf_27 : decode cX6_deedOf 27 = .ok (.iload_n 2, 1) := by decide +kernel
theorem dX6_deedOf_28 : decode cX6_deedOf 28 = .ok (.iconst 2, 1) := by decide +kernel
theorem dX6_deedOf_29 : decode cX6_deedOf 29 = .ok (.if_icmp .ne 12, 3) := by decide +kernel
theorem dX6_deedOf_32 : decode cX6_deedOf 32 = .ok (.aload_n 0, 1) := by decide +kernel
theorem dX6_deedOf_33 : decode cX6_deedOf 33 = .ok (.getfield 28, 3) := by decide +kernel
theorem dX6_deedOf_36 : decode cX6_deedOf 36 = .ok (.iload_n 1, 1) := by decide +kernel
theorem dX6_deedOf_37 : decode cX6_deedOf 37 = .ok (.iaload, 1) := by decide +kernel
theorem dX6_deedOf_38 : decode cX6_deedOf 38 = .ok (.goto 26, 3) := by decide +kernel
theorem dX6_deedOf_41 : decode cX6_deedOf 41 = .ok (.iload_n 2, 1) := by decide +kernel
theorem dX6_deedOf_42 : decode cX6_deedOf 42 = .ok (.iconst 3, 1) := by decide +kernel
theorem dX6_deedOf_43 : decode cX6_deedOf 43 = .ok (.if_icmp .ne 16, 3) := by decide +kernel
theorem dX6_deedOf_46 : decode cX6_deedOf 46 = .ok (.aload_n 0, 1) := by decide +kernel
theorem dX6_deedOf_47 : decode cX6_deedOf 47 = .ok (.getfield 43, 3) := by decide +kernel
theorem dX6_deedOf_50 : decode cX6_deedOf 50 = .ok (.iconst 3, 1) := by decide +kernel
theorem dX6_deedOf_51 : decode cX6_deedOf 51 = .ok (.iaload, 1) := by decide +kernel
theorem dX6_deedOf_52 : decode cX6_deedOf 52 = .ok (.iload_n 1, 1) := by decide +kernel
theorem dX6_deedOf_53 : decode cX6_deedOf 53 = .ok (.ishr, 1) := by decide +kernel
theorem dX6_deedOf_54 : decode cX6_deedOf 54 = .ok (.iconst 1, 1) := by decide +kernel
theorem dX6_deedOf_55 : decode cX6_deedOf 55 = .ok (.iand, 1) := by decide +kernel
theorem dX6_deedOf_56 : decode cX6_deedOf 56 = .ok (.goto 8, 3) := by decide +kernel
theorem dX6_deedOf_59 : decode cX6_deedOf 59 = .ok (.aload_n 0, 1) := by decide +kernel
theorem dX6_deedOf_60 : decode cX6_deedOf 60 = .ok (.iload_n 1, 1) := by decide +kernel
theorem dX6_deedOf_61 : decode cX6_deedOf 61 = .ok (.invokevirtual 165, 3) := by decide +kernel
theorem dX6_deedOf_64 : decode cX6_deedOf 64 = .ok (.ireturn, 1) := by decide +kernel
theorem dX6_deed_0 : decode cX6_deed 0 = .ok (.aload_n 0, 1) := by decide +kernel
theorem dX6_deed_1 : decode cX6_deed 1 = .ok (.iload_n 1, 1) := by decide +kernel
theorem dX6_deed_2 : decode cX6_deed 2 = .ok (.invokevirtual 168, 3) := by decide +kernel
theorem dX6_deed_5 : decode cX6_deed 5 = .ok (.ifCond .eq 15, 3) := by decide +kernel
theorem dX6_deed_8 : decode cX6_deed 8 = .ok (.iload_n 2, 1) := by decide +kernel
theorem dX6_deed_9 : decode cX6_deed 9 = .ok (.i2l, 1) := by decide +kernel
theorem dX6_deed_10 : decode cX6_deed 10 = .ok (.lconst 0, 1) := by decide +kernel
theorem dX6_deed_11 : decode cX6_deed 11 = .ok (.ldc2_w 171, 3) := by decide +kernel
theorem dX6_deed_14 : decode cX6_deed 14 = .ok (.invokestatic 93, 3) := by decide +kernel
theorem dX6_deed_17 : decode cX6_deed 17 = .ok (.ifCond .ne 5, 3) := by decide +kernel
theorem dX6_deed_20 : decode cX6_deed 20 = .ok (.iconst (-1), 1) := by decide +kernel
theorem dX6_deed_21 : decode cX6_deed 21 = .ok (.ireturn, 1) := by decide +kernel
theorem dX6_deed_22 : decode cX6_deed 22 = .ok (.aload_n 0, 1) := by decide +kernel
theorem dX6_deed_23 : decode cX6_deed 23 = .ok (.iconst 1, 1) := by decide +kernel
theorem dX6_deed_24 : decode cX6_deed 24 = .ok (.aload_n 0, 1) := by decide +kernel
theorem dX6_deed_25 : decode cX6_deed 25 = .ok (.iload_n 1, 1) := by decide +kernel
theorem dX6_deed_26 : decode cX6_deed 26 = .ok (.iload_n 2, 1) := by decide +kernel
theorem dX6_deed_27 : decode cX6_deed 27 = .ok (.invokevirtual 173, 3) := by decide +kernel
theorem dX6_deed_30 : decode cX6_deed 30 = .ok (.invokevirtual 111, 3) := by decide +kernel
theorem dX6_deed_33 : decode cX6_deed 33 = .ok (.ireturn, 1) := by decide +kernel
theorem dX6_isNight_0 : decode cX6_isNight 0 = .ok (.aload_n 0, 1) := by decide +kernel
theorem dX6_isNight_1 : decode cX6_isNight 1 = .ok (.getfield 31, 3) := by decide +kernel
theorem dX6_isNight_4 : decode cX6_isNight 4 = .ok (.iload_n 1, 1) := by decide +kernel
theorem dX6_isNight_5 : decode cX6_isNight 5 = .ok (.iaload, 1) := by decide +kernel
theorem dX6_isNight_6 : decode cX6_isNight 6 = .ok (.i2l, 1) := by decide +kernel
theorem dX6_isNight_7 : decode cX6_isNight 7 = .ok (.ldc2_w 176, 3) := by decide +kernel
theorem dX6_isNight_10 : decode cX6_isNight 10 = .ok (.ldc2_w 178, 3) := by decide +kernel
theorem dX6_isNight_13 : decode cX6_isNight 13 = .ok (.invokestatic 93, 3) := by decide +kernel
theorem dX6_isNight_16 : decode cX6_isNight 16 = .ok (.ifCond .ne 7, 3) := by decide +kernel
theorem dX6_isNight_19 : decode cX6_isNight 19 = .ok (.iconst 1, 1) := by decide +kernel
theorem dX6_isNight_20 : decode cX6_isNight 20 = .ok (.goto 4, 3) := by decide +kernel
theorem dX6_isNight_23 : decode cX6_isNight 23 = .ok (.iconst 0, 1) := by decide +kernel
theorem dX6_isNight_24 : decode cX6_isNight 24 = .ok (.ireturn, 1) := by decide +kernel
theorem dX6_comes_0 : decode cX6_comes 0 = .ok (.aload_n 0, 1) := by decide +kernel
theorem dX6_comes_1 : decode cX6_comes 1 = .ok (.getfield 34, 3) := by decide +kernel
theorem dX6_comes_4 : decode cX6_comes 4 = .ok (.iload_n 1, 1) := by decide +kernel
theorem dX6_comes_5 : decode cX6_comes 5 = .ok (.iaload, 1) := by decide +kernel
theorem dX6_comes_6 : decode cX6_comes 6 = .ok (.aload_n 0, 1) := by decide +kernel
theorem dX6_comes_7 : decode cX6_comes 7 = .ok (.getfield 40, 3) := by decide +kernel
theorem dX6_comes_10 : decode cX6_comes 10 = .ok (.aload_n 0, 1) := by decide +kernel
theorem dX6_comes_11 : decode cX6_comes 11 = .ok (.getfield 37, 3) := by decide +kernel
theorem dX6_comes_14 : decode cX6_comes 14 = .ok (.iload_n 1, 1) := by decide +kernel
theorem dX6_comes_15 : decode cX6_comes 15 = .ok (.iaload, 1) := by decide +kernel
theorem dX6_comes_16 : decode cX6_comes 16 = .ok (.iaload, 1) := by decide +kernel
theorem dX6_comes_17 : decode cX6_comes 17 = .ok (.iadd, 1) := by decide +kernel
theorem dX6_comes_18 : decode cX6_comes 18 = .ok (.ireturn, 1) := by decide +kernel
theorem dX6_whereIs_0 : decode cX6_whereIs 0 = .ok (.aload_n 0, 1) := by decide +kernel
theorem dX6_whereIs_1 : decode cX6_whereIs 1 = .ok (.getfield 43, 3) := by decide +kernel
theorem dX6_whereIs_4 : decode cX6_whereIs 4 = .ok (.iconst 1, 1) := by decide +kernel
theorem dX6_whereIs_5 : decode cX6_whereIs 5 = .ok (.iaload, 1) := by decide +kernel
theorem dX6_whereIs_6 : decode cX6_whereIs 6 = .ok (.iload_n 1, 1) := by decide +kernel
theorem dX6_whereIs_7 : decode cX6_whereIs 7 = .ok (.invokestatic 136, 3) := by decide +kernel
theorem dX6_whereIs_10 : decode cX6_whereIs 10 = .ok (.ifCond .eq 7, 3) := by decide +kernel
theorem dX6_whereIs_13 : decode cX6_whereIs 13 = .ok (.iconst 2, 1) := by decide +kernel
theorem dX6_whereIs_14 : decode cX6_whereIs 14 = .ok (.goto 39, 3) := by decide +kernel
theorem dX6_whereIs_17 : decode cX6_whereIs 17 = .ok (.aload_n 0, 1) := by decide +kernel
theorem dX6_whereIs_18 : decode cX6_whereIs 18 = .ok (.getfield 43, 3) := by decide +kernel
theorem dX6_whereIs_21 : decode cX6_whereIs 21 = .ok (.iconst 2, 1) := by decide +kernel
theorem dX6_whereIs_22 : decode cX6_whereIs 22 = .ok (.iaload, 1) := by decide +kernel
theorem dX6_whereIs_23 : decode cX6_whereIs 23 = .ok (.iload_n 1, 1) := by decide +kernel
theorem dX6_whereIs_24 : decode cX6_whereIs 24 = .ok (.invokestatic 136, 3) := by decide +kernel
theorem dX6_whereIs_27 : decode cX6_whereIs 27 = .ok (.ifCond .eq 7, 3) := by decide +kernel
theorem dX6_whereIs_30 : decode cX6_whereIs 30 = .ok (.iconst 3, 1) := by decide +kernel
theorem dX6_whereIs_31 : decode cX6_whereIs 31 = .ok (.goto 22, 3) := by decide +kernel
theorem dX6_whereIs_34 : decode cX6_whereIs 34 = .ok (.aload_n 0, 1) := by decide +kernel
theorem dX6_whereIs_35 : decode cX6_whereIs 35 = .ok (.iload_n 1, 1) := by decide +kernel
theorem dX6_whereIs_36 : decode cX6_whereIs 36 = .ok (.invokevirtual 180, 3) := by decide +kernel
theorem dX6_whereIs_39 : decode cX6_whereIs 39 = .ok (.aload_n 0, 1) := by decide +kernel
theorem dX6_whereIs_40 : decode cX6_whereIs 40 = .ok (.getfield 43, 3) := by decide +kernel
theorem dX6_whereIs_43 : decode cX6_whereIs 43 = .ok (.iconst 0, 1) := by decide +kernel
theorem dX6_whereIs_44 : decode cX6_whereIs 44 = .ok (.iaload, 1) := by decide +kernel
theorem dX6_whereIs_45 : decode cX6_whereIs 45 = .ok (.if_icmp .gt 7, 3) := by decide +kernel
theorem dX6_whereIs_48 : decode cX6_whereIs 48 = .ok (.iconst 1, 1) := by decide +kernel
theorem dX6_whereIs_49 : decode cX6_whereIs 49 = .ok (.goto 4, 3) := by decide +kernel
theorem dX6_whereIs_52 : decode cX6_whereIs 52 = .ok (.iconst 0, 1) := by decide +kernel
theorem dX6_whereIs_53 : decode cX6_whereIs 53 = .ok (.ireturn, 1) := by decide +kernel
theorem dX6_hourOf_0 : decode cX6_hourOf 0 = .ok (.iload_n 2, 1) := by decide +kernel
theorem dX6_hourOf_1 : decode cX6_hourOf 1 = .ok (.ifCond .ne 12, 3) := by decide +kernel
theorem dX6_hourOf_4 : decode cX6_hourOf 4 = .ok (.aload_n 0, 1) := by decide +kernel
theorem dX6_hourOf_5 : decode cX6_hourOf 5 = .ok (.getfield 31, 3) := by decide +kernel
theorem dX6_hourOf_8 : decode cX6_hourOf 8 = .ok (.iload_n 1, 1) := by decide +kernel
theorem dX6_hourOf_9 : decode cX6_hourOf 9 = .ok (.iaload, 1) := by decide +kernel
theorem dX6_hourOf_10 : decode cX6_hourOf 10 = .ok (.goto 58, 3) := by decide +kernel
theorem dX6_hourOf_13 : decode cX6_hourOf 13 = .ok (.iload_n 2, 1) := by decide +kernel
theorem dX6_hourOf_14 : decode cX6_hourOf 14 = .ok (.iconst 1, 1) := by decide +kernel
theorem dX6_hourOf_15 : decode cX6_hourOf 15 = .ok (.if_icmp .ne 19, 3) := by decide +kernel
theorem dX6_hourOf_18 : decode cX6_hourOf 18 = .ok (.aload_n 0, 1) := by decide +kernel
theorem dX6_hourOf_19 : decode cX6_hourOf 19 = .ok (.iload_n 1, 1) := by decide +kernel
theorem dX6_hourOf_20 : decode cX6_hourOf 20 = .ok (.invokevirtual 183, 3) := by decide +kernel
theorem dX6_hourOf_23 : decode cX6_hourOf 23 = .ok (.ifCond .eq 7, 3) := by decide +kernel
theorem dX6_hourOf_26 : decode cX6_hourOf 26 = .ok (.iconst 1, 1) := by decide +kernel
theorem dX6_hourOf_27 : decode cX6_hourOf 27 = .ok (.goto 41, 3) := by decide +kernel
theorem dX6_hourOf_30 : decode cX6_hourOf 30 = .ok (.iconst 0, 1) := by decide +kernel
theorem dX6_hourOf_31 : decode cX6_hourOf 31 = .ok (.goto 37, 3) := by decide +kernel
theorem dX6_hourOf_34 : decode cX6_hourOf 34 = .ok (.iload_n 2, 1) := by decide +kernel
theorem dX6_hourOf_35 : decode cX6_hourOf 35 = .ok (.iconst 2, 1) := by decide +kernel
theorem dX6_hourOf_36 : decode cX6_hourOf 36 = .ok (.if_icmp .ne 11, 3) := by decide +kernel
theorem dX6_hourOf_39 : decode cX6_hourOf 39 = .ok (.aload_n 0, 1) := by decide +kernel
theorem dX6_hourOf_40 : decode cX6_hourOf 40 = .ok (.iload_n 1, 1) := by decide +kernel
theorem dX6_hourOf_41 : decode cX6_hourOf 41 = .ok (.invokevirtual 180, 3) := by decide +kernel
theorem dX6_hourOf_44 : decode cX6_hourOf 44 = .ok (.goto 24, 3) := by decide +kernel
theorem dX6_hourOf_47 : decode cX6_hourOf 47 = .ok (.iload_n 2, 1) := by decide +kernel
theorem dX6_hourOf_48 : decode cX6_hourOf 48 = .ok (.iconst 3, 1) := by decide +kernel
theorem dX6_hourOf_49 : decode cX6_hourOf 49 = .ok (.if_icmp .ne 11, 3) := by decide +kernel
theorem dX6_hourOf_52 : decode cX6_hourOf 52 = .ok (.aload_n 0, 1) := by decide +kernel
theorem dX6_hourOf_53 : decode cX6_hourOf 53 = .ok (.iload_n 1, 1) := by decide +kernel
theorem dX6_hourOf_54 : decode cX6_hourOf 54 = .ok (.invokevirtual 186, 3) := by decide +kernel
theorem dX6_hourOf_57 : decode cX6_hourOf 57 = .ok (.goto 11, 3) := by decide +kernel
theorem dX6_hourOf_60 : decode cX6_hourOf 60 = .ok (.aload_n 0, 1) := by decide +kernel
theorem dX6_hourOf_61 : decode cX6_hourOf 61 = .ok (.getfield 43, 3) := by decide +kernel
theorem dX6_hourOf_64 : decode cX6_hourOf 64 = .ok (.iconst 5, 1) := by decide +kernel
theorem dX6_hourOf_65 : decode cX6_hourOf 65 = .ok (.iload_n 1, 1) := by decide +kernel
theorem dX6_hourOf_66 : decode cX6_hourOf 66 = .ok (.iadd, 1) := by decide +kernel
theorem dX6_hourOf_67 : decode cX6_hourOf 67 = .ok (.iaload, 1) := by decide +kernel
theorem dX6_hourOf_68 : decode cX6_hourOf 68 = .ok (.ireturn, 1) := by decide +kernel
theorem dX6_hour_0 : decode cX6_hour 0 = .ok (.aload_n 0, 1) := by decide +kernel
theorem dX6_hour_1 : decode cX6_hour 1 = .ok (.iload_n 1, 1) := by decide +kernel
theorem dX6_hour_2 : decode cX6_hour 2 = .ok (.invokevirtual 189, 3) := by decide +kernel
theorem dX6_hour_5 : decode cX6_hour 5 = .ok (.ifCond .eq 15, 3) := by decide +kernel
theorem dX6_hour_8 : decode cX6_hour 8 = .ok (.iload_n 2, 1) := by decide +kernel
theorem dX6_hour_9 : decode cX6_hour 9 = .ok (.i2l, 1) := by decide +kernel
theorem dX6_hour_10 : decode cX6_hour 10 = .ok (.lconst 0, 1) := by decide +kernel
theorem dX6_hour_11 : decode cX6_hour 11 = .ok (.ldc2_w 171, 3) := by decide +kernel
theorem dX6_hour_14 : decode cX6_hour 14 = .ok (.invokestatic 93, 3) := by decide +kernel
theorem dX6_hour_17 : decode cX6_hour 17 = .ok (.ifCond .ne 5, 3) := by decide +kernel
theorem dX6_hour_20 : decode cX6_hour 20 = .ok (.iconst (-1), 1) := by decide +kernel
theorem dX6_hour_21 : decode cX6_hour 21 = .ok (.ireturn, 1) := by decide +kernel
theorem dX6_hour_22 : decode cX6_hour 22 = .ok (.aload_n 0, 1) := by decide +kernel
theorem dX6_hour_23 : decode cX6_hour 23 = .ok (.iconst 1, 1) := by decide +kernel
theorem dX6_hour_24 : decode cX6_hour 24 = .ok (.aload_n 0, 1) := by decide +kernel
theorem dX6_hour_25 : decode cX6_hour 25 = .ok (.iload_n 1, 1) := by decide +kernel
theorem dX6_hour_26 : decode cX6_hour 26 = .ok (.iload_n 2, 1) := by decide +kernel
theorem dX6_hour_27 : decode cX6_hour 27 = .ok (.invokevirtual 192, 3) := by decide +kernel
theorem dX6_hour_30 : decode cX6_hour 30 = .ok (.invokevirtual 111, 3) := by decide +kernel
theorem dX6_hour_33 : decode cX6_hour 33 = .ok (.ireturn, 1) := by decide +kernel
theorem dX6_isKind_0 : decode cX6_isKind 0 = .ok (.iload_n 0, 1) := by decide +kernel
theorem dX6_isKind_1 : decode cX6_isKind 1 = .ok (.iload_n 1, 1) := by decide +kernel
theorem dX6_isKind_2 : decode cX6_isKind 2 = .ok (.if_icmp .eq 23, 3) := by decide +kernel
theorem dX6_isKind_5 : decode cX6_isKind 5 = .ok (.iload_n 0, 1) := by decide +kernel
theorem dX6_isKind_6 : decode cX6_isKind 6 = .ok (.iconst 4, 1) := by decide +kernel
theorem dX6_isKind_7 : decode cX6_isKind 7 = .ok (.if_icmp .ne 8, 3) := by decide +kernel
theorem dX6_isKind_10 : decode cX6_isKind 10 = .ok (.iload_n 1, 1) := by decide +kernel
theorem dX6_isKind_11 : decode cX6_isKind 11 = .ok (.iconst 1, 1) := by decide +kernel
theorem dX6_isKind_12 : decode cX6_isKind 12 = .ok (.if_icmp .eq 13, 3) := by decide +kernel
theorem dX6_isKind_15 : decode cX6_isKind 15 = .ok (.iload_n 0, 1) := by decide +kernel
theorem dX6_isKind_16 : decode cX6_isKind 16 = .ok (.iconst 5, 1) := by decide +kernel
theorem dX6_isKind_17 : decode cX6_isKind 17 = .ok (.if_icmp .ne 12, 3) := by decide +kernel
theorem dX6_isKind_20 : decode cX6_isKind 20 = .ok (.iload_n 1, 1) := by decide +kernel
theorem dX6_isKind_21 : decode cX6_isKind 21 = .ok (.iconst 2, 1) := by decide +kernel
theorem dX6_isKind_22 : decode cX6_isKind 22 = .ok (.if_icmp .ne 7, 3) := by decide +kernel
theorem dX6_isKind_25 : decode cX6_isKind 25 = .ok (.iconst 1, 1) := by decide +kernel
theorem dX6_isKind_26 : decode cX6_isKind 26 = .ok (.goto 4, 3) := by decide +kernel
theorem dX6_isKind_29 : decode cX6_isKind 29 = .ok (.iconst 0, 1) := by decide +kernel
theorem dX6_isKind_30 : decode cX6_isKind 30 = .ok (.ireturn, 1) := by decide +kernel
theorem dX6_shelfOn_0 : decode cX6_shelfOn 0 = .ok (.iconst 0, 1) := by decide +kernel
theorem dX6_shelfOn_1 : decode cX6_shelfOn 1 = .ok (.istore_n 2, 1) := by decide +kernel
theorem dX6_shelfOn_2 : decode cX6_shelfOn 2 = .ok (.iconst 0, 1) := by decide +kernel
theorem dX6_shelfOn_3 : decode cX6_shelfOn 3 = .ok (.istore_n 3, 1) := by decide +kernel
theorem dX6_shelfOn_4 : decode cX6_shelfOn 4 = .ok (.iload_n 3, 1) := by decide +kernel
theorem dX6_shelfOn_5 : decode cX6_shelfOn 5 = .ok (.aload_n 0, 1) := by decide +kernel
theorem dX6_shelfOn_6 : decode cX6_shelfOn 6 = .ok (.getfield 159, 3) := by decide +kernel
theorem dX6_shelfOn_9 : decode cX6_shelfOn 9 = .ok (.if_icmp .ge 48, 3) := by decide +kernel
theorem dX6_shelfOn_12 : decode cX6_shelfOn 12 = .ok (.iload_n 2, 1) := by decide +kernel
theorem dX6_shelfOn_13 : decode cX6_shelfOn 13 = .ok (.aload_n 0, 1) := by decide +kernel
theorem dX6_shelfOn_14 : decode cX6_shelfOn 14 = .ok (.iload_n 3, 1) := by decide +kernel
theorem dX6_shelfOn_15 : decode cX6_shelfOn 15 = .ok (.invokevirtual 180, 3) := by decide +kernel
theorem dX6_shelfOn_18 : decode cX6_shelfOn 18 = .ok (.iload_n 1, 1) := by decide +kernel
theorem dX6_shelfOn_19 : decode cX6_shelfOn 19 = .ok (.if_icmp .gt 29, 3) := by decide +kernel
theorem dX6_shelfOn_22 : decode cX6_shelfOn 22 = .ok (.aload_n 0, 1) := by decide +kernel
theorem dX6_shelfOn_23 : decode cX6_shelfOn 23 = .ok (.getfield 43, 3) := by decide +kernel
theorem dX6_shelfOn_26 : decode cX6_shelfOn 26 = .ok (.iconst 1, 1) := by decide +kernel
theorem dX6_shelfOn_27 : decode cX6_shelfOn 27 = .ok (.iaload, 1) := by decide +kernel
theorem dX6_shelfOn_28 : decode cX6_shelfOn 28 = .ok (.aload_n 0, 1) := by decide +kernel
theorem dX6_shelfOn_29 : decode cX6_shelfOn 29 = .ok (.getfield 43, 3) := by decide +kernel
theorem dX6_shelfOn_32 : decode cX6_shelfOn 32 = .ok (.iconst 2, 1) := by decide +kernel
theorem dX6_shelfOn_33 : decode cX6_shelfOn 33 = .ok (.iaload, 1) := by decide +kernel
theorem dX6_shelfOn_34 : decode cX6_shelfOn 34 = .ok (.ior, 1) := by decide +kernel
theorem dX6_shelfOn_35 : decode cX6_shelfOn 35 = .ok (.iload_n 3, 1) := by decide +kernel
theorem dX6_shelfOn_36 : decode cX6_shelfOn 36 = .ok (.invokestatic 136, 3) := by decide +kernel
theorem dX6_shelfOn_39 : decode cX6_shelfOn 39 = .ok (.ifCond .ne 9, 3) := by decide +kernel
theorem dX6_shelfOn_42 : decode cX6_shelfOn 42 = .ok (.iconst 1, 1) := by decide +kernel
theorem dX6_shelfOn_43 : decode cX6_shelfOn 43 = .ok (.iload_n 3, 1) := by decide +kernel
theorem dX6_shelfOn_44 : decode cX6_shelfOn 44 = .ok (.ishl, 1) := by decide +kernel
theorem dX6_shelfOn_45 : decode cX6_shelfOn 45 = .ok (.goto 4, 3) := by decide +kernel
theorem dX6_shelfOn_48 : decode cX6_shelfOn 48 = .ok (.iconst 0, 1) := by decide +kernel
theorem dX6_shelfOn_49 : decode cX6_shelfOn 49 = .ok (.ior, 1) := by decide +kernel
theorem dX6_shelfOn_50 : decode cX6_shelfOn 50 = .ok (.istore_n 2, 1) := by decide +kernel
theorem dX6_shelfOn_51 : decode cX6_shelfOn 51 = .ok (.iinc 3 1, 3) := by decide +kernel
theorem dX6_shelfOn_54 : decode cX6_shelfOn 54 = .ok (.goto (-50), 3) := by decide +kernel
theorem dX6_shelfOn_57 : decode cX6_shelfOn 57 = .ok (.iload_n 2, 1) := by decide +kernel
theorem dX6_shelfOn_58 : decode cX6_shelfOn 58 = .ok (.ireturn, 1) := by decide +kernel
theorem dX6_isLight_0 : decode cX6_isLight 0 = .ok (.aload_n 0, 1) := by decide +kernel
theorem dX6_isLight_1 : decode cX6_isLight 1 = .ok (.getfield 25, 3) := by decide +kernel
theorem dX6_isLight_4 : decode cX6_isLight 4 = .ok (.iload_n 1, 1) := by decide +kernel
theorem dX6_isLight_5 : decode cX6_isLight 5 = .ok (.iaload, 1) := by decide +kernel
theorem dX6_isLight_6 : decode cX6_isLight 6 = .ok (.iconst 2, 1) := by decide +kernel
theorem dX6_isLight_7 : decode cX6_isLight 7 = .ok (.if_icmp .eq 26, 3) := by decide +kernel
theorem dX6_isLight_10 : decode cX6_isLight 10 = .ok (.aload_n 0, 1) := by decide +kernel
theorem dX6_isLight_11 : decode cX6_isLight 11 = .ok (.iload_n 2, 1) := by decide +kernel
theorem dX6_isLight_12 : decode cX6_isLight 12 = .ok (.invokevirtual 183, 3) := by decide +kernel
theorem dX6_isLight_15 : decode cX6_isLight 15 = .ok (.aload_n 0, 1) := by decide +kernel
theorem dX6_isLight_16 : decode cX6_isLight 16 = .ok (.getfield 25, 3) := by decide +kernel
theorem dX6_isLight_19 : decode cX6_isLight 19 = .ok (.iload_n 1, 1) := by decide +kernel
theorem dX6_isLight_20 : decode cX6_isLight 20 = .ok (.iaload, 1) := by decide +kernel
theorem dX6_isLight_21 : decode cX6_isLight 21 = .ok (.iconst 1, 1) := by decide +kernel
theorem dX6_isLight_22 : decode cX6_isLight 22 = .ok (.if_icmp .ne 7, 3) := by decide +kernel
theorem dX6_isLight_25 : decode cX6_isLight 25 = .ok (.iconst 1, 1) := by decide +kernel
theorem dX6_isLight_26 : decode cX6_isLight 26 = .ok (.goto 4, 3) := by decide +kernel
theorem dX6_isLight_29 : decode cX6_isLight 29 = .ok (.iconst 0, 1) := by decide +kernel
theorem dX6_isLight_30 : decode cX6_isLight 30 = .ok (.if_icmp .ne 7, 3) := by decide +kernel
theorem dX6_isLight_33 : decode cX6_isLight 33 = .ok (.iconst 1, 1) := by decide +kernel
theorem dX6_isLight_34 : decode cX6_isLight 34 = .ok (.goto 4, 3) := by decide +kernel
theorem dX6_isLight_37 : decode cX6_isLight 37 = .ok (.iconst 0, 1) := by decide +kernel
theorem dX6_isLight_38 : decode cX6_isLight 38 = .ok (.ireturn, 1) := by decide +kernel
theorem dX6_isAsKind_0 : decode cX6_isAsKind 0 = .ok (.aload_n 0, 1) := by decide +kernel
theorem dX6_isAsKind_1 : decode cX6_isAsKind 1 = .ok (.getfield 22, 3) := by decide +kernel
theorem dX6_isAsKind_4 : decode cX6_isAsKind 4 = .ok (.iload_n 1, 1) := by decide +kernel
theorem dX6_isAsKind_5 : decode cX6_isAsKind 5 = .ok (.iaload, 1) := by decide +kernel
theorem dX6_isAsKind_6 : decode cX6_isAsKind 6 = .ok (.istore 5, 2) := by decide +kernel
theorem dX6_isAsKind_8 : decode cX6_isAsKind 8 = .ok (.iload 5, 2) := by decide +kernel
theorem dX6_isAsKind_10 : decode cX6_isAsKind 10 = .ok (.iconst 1, 1) := by decide +kernel
theorem dX6_isAsKind_11 : decode cX6_isAsKind 11 = .ok (.invokestatic 195, 3) := by decide +kernel
theorem dX6_isAsKind_14 : decode cX6_isAsKind 14 = .ok (.ifCond .eq 11, 3) := by decide +kernel
theorem dX6_isAsKind_17 : decode cX6_isAsKind 17 = .ok (.iload 4, 2) := by decide +kernel
theorem dX6_isAsKind_19 : decode cX6_isAsKind 19 = .ok (.iconst 2, 1) := by decide +kernel
theorem dX6_isAsKind_20 : decode cX6_isAsKind 20 = .ok (.if_icmp .ge 5, 3) := by decide +kernel
theorem dX6_isAsKind_23 : decode cX6_isAsKind 23 = .ok (.iconst 0, 1) := by decide +kernel
theorem dX6_isAsKind_24 : decode cX6_isAsKind 24 = .ok (.ireturn, 1) := by decide +kernel
theorem dX6_isAsKind_25 : decode cX6_isAsKind 25 = .ok (.iload 5, 2) := by decide +kernel
theorem dX6_isAsKind_27 : decode cX6_isAsKind 27 = .ok (.iconst 2, 1) := by decide +kernel
theorem dX6_isAsKind_28 : decode cX6_isAsKind 28 = .ok (.if_icmp .ne 24, 3) := by decide +kernel
theorem dX6_isAsKind_31 : decode cX6_isAsKind 31 = .ok (.aload_n 0, 1) := by decide +kernel
theorem dX6_isAsKind_32 : decode cX6_isAsKind 32 = .ok (.getfield 31, 3) := by decide +kernel
theorem dX6_isAsKind_35 : decode cX6_isAsKind 35 = .ok (.iload_n 2, 1) := by decide +kernel
theorem dX6_isAsKind_36 : decode cX6_isAsKind 36 = .ok (.iaload, 1) := by decide +kernel
theorem dX6_isAsKind_37 : decode cX6_isAsKind 37 = .ok (.i2l, 1) := by decide +kernel
theorem dX6_isAsKind_38 : decode cX6_isAsKind 38 = .ok (.ldc2_w 176, 3) := by decide +kernel
theorem dX6_isAsKind_41 : decode cX6_isAsKind 41 = .ok (.ldc2_w 198, 3) := by decide +kernel
theorem dX6_isAsKind_44 : decode cX6_isAsKind 44 = .ok (.invokestatic 93, 3) := by decide +kernel
theorem dX6_isAsKind_47 : decode cX6_isAsKind 47 = .ok (.ifCond .eq 5, 3) := by decide +kernel
theorem dX6_isAsKind_50 : decode cX6_isAsKind 50 = .ok (.iconst 0, 1) := by decide +kernel
theorem dX6_isAsKind_51 : decode cX6_isAsKind 51 = .ok (.ireturn, 1) := by decide +kernel
theorem dX6_isAsKind_52 : decode cX6_isAsKind 52 = .ok (.iload 5, 2) := by decide +kernel
theorem dX6_isAsKind_54 : decode cX6_isAsKind 54 = .ok (.iconst 4, 1) := by decide +kernel
theorem dX6_isAsKind_55 : decode cX6_isAsKind 55 = .ok (.if_icmp .ne 20, 3) := by decide +kernel
theorem dX6_isAsKind_58 : decode cX6_isAsKind 58 = .ok (.iload_n 3, 1) := by decide +kernel
theorem dX6_isAsKind_59 : decode cX6_isAsKind 59 = .ok (.aload_n 0, 1) := by decide +kernel
theorem dX6_isAsKind_60 : decode cX6_isAsKind 60 = .ok (.getfield 28, 3) := by decide +kernel
theorem dX6_isAsKind_63 : decode cX6_isAsKind 63 = .ok (.iload_n 1, 1) := by decide +kernel
theorem dX6_isAsKind_64 : decode cX6_isAsKind 64 = .ok (.iaload, 1) := by decide +kernel
theorem dX6_isAsKind_65 : decode cX6_isAsKind 65 = .ok (.iconst (-1), 1) := by decide +kernel
theorem dX6_isAsKind_66 : decode cX6_isAsKind 66 = .ok (.ixor, 1) := by decide +kernel
theorem dX6_isAsKind_67 : decode cX6_isAsKind 67 = .ok (.iand, 1) := by decide +kernel
theorem dX6_isAsKind_68 : decode cX6_isAsKind 68 = .ok (.invokestatic 200, 3) := by decide +kernel
theorem dX6_isAsKind_71 : decode cX6_isAsKind 71 = .ok (.iconst 2, 1) := by decide +kernel
theorem dX6_isAsKind_72 : decode cX6_isAsKind 72 = .ok (.if_icmp .lt 7, 3) := by decide +kernel
theorem dX6_isAsKind_75 : decode cX6_isAsKind 75 = .ok (.iconst 1, 1) := by decide +kernel
theorem dX6_isAsKind_76 : decode cX6_isAsKind 76 = .ok (.goto 4, 3) := by decide +kernel
theorem dX6_isAsKind_79 : decode cX6_isAsKind 79 = .ok (.iconst 0, 1) := by decide +kernel
theorem dX6_isAsKind_80 : decode cX6_isAsKind 80 = .ok (.ireturn, 1) := by decide +kernel
theorem dX6_canBe_0 : decode cX6_canBe 0 = .ok (.iload_n 3, 1) := by decide +kernel
theorem dX6_canBe_1 : decode cX6_canBe 1 = .ok (.iload_n 1, 1) := by decide +kernel
theorem dX6_canBe_2 : decode cX6_canBe 2 = .ok (.invokestatic 136, 3) := by decide +kernel
theorem dX6_canBe_5 : decode cX6_canBe 5 = .ok (.ifCond .ne 41, 3) := by decide +kernel
theorem dX6_canBe_8 : decode cX6_canBe 8 = .ok (.aload_n 0, 1) := by decide +kernel
theorem dX6_canBe_9 : decode cX6_canBe 9 = .ok (.getfield 28, 3) := by decide +kernel
theorem dX6_canBe_12 : decode cX6_canBe 12 = .ok (.iload_n 1, 1) := by decide +kernel
theorem dX6_canBe_13 : decode cX6_canBe 13 = .ok (.iaload, 1) := by decide +kernel
theorem dX6_canBe_14 : decode cX6_canBe 14 = .ok (.iload_n 3, 1) := by decide +kernel
theorem dX6_canBe_15 : decode cX6_canBe 15 = .ok (.iconst (-1), 1) := by decide +kernel
theorem dX6_canBe_16 : decode cX6_canBe 16 = .ok (.ixor, 1) := by decide +kernel
theorem dX6_canBe_17 : decode cX6_canBe 17 = .ok (.iand, 1) := by decide +kernel
theorem dX6_canBe_18 : decode cX6_canBe 18 = .ok (.ifCond .ne 28, 3) := by decide +kernel
theorem dX6_canBe_21 : decode cX6_canBe 21 = .ok (.aload_n 0, 1) := by decide +kernel
theorem dX6_canBe_22 : decode cX6_canBe 22 = .ok (.iload_n 1, 1) := by decide +kernel
theorem dX6_canBe_23 : decode cX6_canBe 23 = .ok (.iload_n 2, 1) := by decide +kernel
theorem dX6_canBe_24 : decode cX6_canBe 24 = .ok (.invokevirtual 203, 3) := by decide +kernel
theorem dX6_canBe_27 : decode cX6_canBe 27 = .ok (.ifCond .eq 19, 3) := by decide +kernel
theorem dX6_canBe_30 : decode cX6_canBe 30 = .ok (.aload_n 0, 1) := by decide +kernel
theorem dX6_canBe_31 : decode cX6_canBe 31 = .ok (.iload_n 1, 1) := by decide +kernel
theorem dX6_canBe_32 : decode cX6_canBe 32 = .ok (.iload_n 2, 1) := by decide +kernel
theorem dX6_canBe_33 : decode cX6_canBe 33 = .ok (.iload_n 3, 1) := by decide +kernel
theorem dX6_canBe_34 : decode cX6_canBe 34 = .ok (.iload 4, 2) := by decide +kernel
theorem dX6_canBe_36 : decode cX6_canBe 36 = .ok (.invokevirtual 206, 3) := by decide +kernel
theorem dX6_canBe_39 : decode cX6_canBe 39 = .ok (.ifCond .eq 7, 3) := by decide +kernel
theorem dX6_canBe_42 : decode cX6_canBe 42 = .ok (.iconst 1, 1) := by decide +kernel
theorem dX6_canBe_43 : decode cX6_canBe 43 = .ok (.goto 4, 3) := by decide +kernel
theorem dX6_canBe_46 : decode cX6_canBe 46 = .ok (.iconst 0, 1) := by decide +kernel
theorem dX6_canBe_47 : decode cX6_canBe 47 = .ok (.ireturn, 1) := by decide +kernel
theorem dX6_canNow_0 : decode cX6_canNow 0 = .ok (.aload_n 0, 1) := by decide +kernel
theorem dX6_canNow_1 : decode cX6_canNow 1 = .ok (.iload_n 1, 1) := by decide +kernel
theorem dX6_canNow_2 : decode cX6_canNow 2 = .ok (.iload_n 2, 1) := by decide +kernel
theorem dX6_canNow_3 : decode cX6_canNow 3 = .ok (.aload_n 0, 1) := by decide +kernel
theorem dX6_canNow_4 : decode cX6_canNow 4 = .ok (.getfield 43, 3) := by decide +kernel
theorem dX6_canNow_7 : decode cX6_canNow 7 = .ok (.iconst 3, 1) := by decide +kernel
theorem dX6_canNow_8 : decode cX6_canNow 8 = .ok (.iaload, 1) := by decide +kernel
theorem dX6_canNow_9 : decode cX6_canNow 9 = .ok (.aload_n 0, 1) := by decide +kernel
theorem dX6_canNow_10 : decode cX6_canNow 10 = .ok (.getfield 43, 3) := by decide +kernel
theorem dX6_canNow_13 : decode cX6_canNow 13 = .ok (.iconst 4, 1) := by decide +kernel
theorem dX6_canNow_14 : decode cX6_canNow 14 = .ok (.iaload, 1) := by decide +kernel
theorem dX6_canNow_15 : decode cX6_canNow 15 = .ok (.invokevirtual 210, 3) := by decide +kernel
theorem dX6_canNow_18 : decode cX6_canNow 18 = .ok (.ireturn, 1) := by decide +kernel
theorem dX6_mark_0 : decode cX6_mark 0 = .ok (.aload_n 0, 1) := by decide +kernel
theorem dX6_mark_1 : decode cX6_mark 1 = .ok (.iload_n 1, 1) := by decide +kernel
theorem dX6_mark_2 : decode cX6_mark 2 = .ok (.invokevirtual 168, 3) := by decide +kernel
theorem dX6_mark_5 : decode cX6_mark 5 = .ok (.ifCond .eq 15, 3) := by decide +kernel
theorem dX6_mark_8 : decode cX6_mark 8 = .ok (.iload_n 2, 1) := by decide +kernel
theorem dX6_mark_9 : decode cX6_mark 9 = .ok (.i2l, 1) := by decide +kernel
theorem dX6_mark_10 : decode cX6_mark 10 = .ok (.lconst 1, 1) := by decide +kernel
theorem dX6_mark_11 : decode cX6_mark 11 = .ok (.ldc2_w 91, 3) := by decide +kernel
theorem dX6_mark_14 : decode cX6_mark 14 = .ok (.invokestatic 93, 3) := by decide +kernel
theorem dX6_mark_17 : decode cX6_mark 17 = .ok (.ifCond .ne 5, 3) := by decide +kernel
theorem dX6_mark_20 : decode cX6_mark 20 = .ok (.iconst (-1), 1) := by decide +kernel
theorem dX6_mark_21 : decode cX6_mark 21 = .ok (.ireturn, 1) := by decide +kernel
theorem dX6_mark_22 : decode cX6_mark 22 = .ok (.aload_n 0, 1) := by decide +kernel
theorem dX6_mark_23 : decode cX6_mark 23 = .ok (.getfield 22, 3) := by decide +kernel
theorem dX6_mark_26 : decode cX6_mark 26 = .ok (.iload_n 1, 1) := by decide +kernel
theorem dX6_mark_27 : decode cX6_mark 27 = .ok (.iaload, 1) := by decide +kernel
theorem dX6_mark_28 : decode cX6_mark 28 = .ok (.iload_n 2, 1) := by decide +kernel
theorem dX6_mark_29 : decode cX6_mark 29 = .ok (.invokestatic 195, 3) := by decide +kernel
theorem dX6_mark_32 : decode cX6_mark 32 = .ok (.ifCond .ne 9, 3) := by decide +kernel
theorem dX6_mark_35 : decode cX6_mark 35 = .ok (.aload_n 0, 1) := by decide +kernel
theorem dX6_mark_36 : decode cX6_mark 36 = .ok (.iconst 3, 1) := by decide +kernel
theorem dX6_mark_37 : decode cX6_mark 37 = .ok (.invokevirtual 103, 3) := by decide +kernel
theorem dX6_mark_40 : decode cX6_mark 40 = .ok (.ireturn, 1) := by decide +kernel
theorem dX6_mark_41 : decode cX6_mark 41 = .ok (.aload_n 0, 1) := by decide +kernel
theorem dX6_mark_42 : decode cX6_mark 42 = .ok (.aload_n 0, 1) := by decide +kernel
theorem dX6_mark_43 : decode cX6_mark 43 = .ok (.getfield 43, 3) := by decide +kernel
theorem dX6_mark_46 : decode cX6_mark 46 = .ok (.iconst 0, 1) := by decide +kernel
theorem dX6_mark_47 : decode cX6_mark 47 = .ok (.iaload, 1) := by decide +kernel
theorem dX6_mark_48 : decode cX6_mark 48 = .ok (.invokevirtual 213, 3) := by decide +kernel
theorem dX6_mark_51 : decode cX6_mark 51 = .ok (.istore_n 3, 1) := by decide +kernel
theorem dX6_mark_52 : decode cX6_mark 52 = .ok (.iconst 0, 1) := by decide +kernel
theorem dX6_mark_53 : decode cX6_mark 53 = .ok (.istore 4, 2) := by decide +kernel
theorem dX6_mark_55 : decode cX6_mark 55 = .ok (.iconst 0, 1) := by decide +kernel
theorem dX6_mark_56 : decode cX6_mark 56 = .ok (.istore 5, 2) := by decide +kernel
theorem dX6_mark_58 : decode cX6_mark 58 = .ok (.iload 5, 2) := by decide +kernel
theorem dX6_mark_60 : decode cX6_mark 60 = .ok (.aload_n 0, 1) := by decide +kernel
theorem dX6_mark_61 : decode cX6_mark 61 = .ok (.getfield 159, 3) := by decide +kernel
theorem dX6_mark_64 : decode cX6_mark 64 = .ok (.if_icmp .ge 58, 3) := by decide +kernel
theorem dX6_mark_67 : decode cX6_mark 67 = .ok (.iload 4, 2) := by decide +kernel
theorem dX6_mark_69 : decode cX6_mark 69 = .ok (.iload_n 2, 1) := by decide +kernel
theorem dX6_mark_70 : decode cX6_mark 70 = .ok (.iconst 2, 1) := by decide +kernel
theorem dX6_mark_71 : decode cX6_mark 71 = .ok (.if_icmp .ne 22, 3) := by decide +kernel
theorem dX6_mark_74 : decode cX6_mark 74 = .ok (.iload_n 3, 1) := by decide +kernel
theorem dX6_mark_75 : decode cX6_mark 75 = .ok (.iload 5, 2) := by decide +kernel
theorem dX6_mark_77 : decode cX6_mark 77 = .ok (.invokestatic 136, 3) := by decide +kernel
theorem dX6_mark_80 : decode cX6_mark 80 = .ok (.ifCond .eq 13, 3) := by decide +kernel
theorem dX6_mark_83 : decode cX6_mark 83 = .ok (.aload_n 0, 1) := by decide +kernel
theorem dX6_mark_84 : decode cX6_mark 84 = .ok (.iload_n 1, 1) := by decide +kernel
theorem dX6_mark_85 : decode cX6_mark 85 = .ok (.iload 5, 2) := by decide +kernel
theorem dX6_mark_87 : decode cX6_mark 87 = .ok (.invokevirtual 216, 3) := by decide +kernel
theorem dX6_mark_90 : decode cX6_mark 90 = .ok (.ifCond .ne 18, 3) := by decide +kernel
theorem dX6_mark_93 : decode cX6_mark 93 = .ok (.iload_n 2, 1) := by decide +kernel
theorem dX6_mark_94 : decode cX6_mark 94 = .ok (.iconst 5, 1) := by decide +kernel
theorem dX6_mark_95 : decode cX6_mark 95 = .ok (.if_icmp .ne 17, 3) := by decide +kernel
theorem dX6_mark_98 : decode cX6_mark 98 = .ok (.aload_n 0, 1) := by decide +kernel
theorem dX6_mark_99 : decode cX6_mark 99 = .ok (.iload_n 1, 1) := by decide +kernel
theorem dX6_mark_100 : decode cX6_mark 100 = .ok (.iload 5, 2) := by decide +kernel
theorem dX6_mark_102 : decode cX6_mark 102 = .ok (.invokevirtual 203, 3) := by decide +kernel
theorem dX6_mark_105 : decode cX6_mark 105 = .ok (.ifCond .eq 7, 3) := by decide +kernel
theorem dX6_mark_108 : decode cX6_mark 108 = .ok (.iconst 1, 1) := by decide +kernel
theorem dX6_mark_109 : decode cX6_mark 109 = .ok (.goto 4, 3) := by decide +kernel
theorem dX6_mark_112 : decode cX6_mark 112 = .ok (.iconst 0, 1) := by decide +kernel
theorem dX6_mark_113 : decode cX6_mark 113 = .ok (.iadd, 1) := by decide +kernel
theorem dX6_mark_114 : decode cX6_mark 114 = .ok (.istore 4, 2) := by decide +kernel
theorem dX6_mark_116 : decode cX6_mark 116 = .ok (.iinc 5 1, 3) := by decide +kernel
theorem dX6_mark_119 : decode cX6_mark 119 = .ok (.goto (-61), 3) := by decide +kernel
theorem dX6_mark_122 : decode cX6_mark 122 = .ok (.iconst 0, 1) := by decide +kernel
theorem dX6_mark_123 : decode cX6_mark 123 = .ok (.istore 5, 2) := by decide +kernel
theorem dX6_mark_125 : decode cX6_mark 125 = .ok (.iload 5, 2) := by decide +kernel
theorem dX6_mark_127 : decode cX6_mark 127 = .ok (.aload_n 0, 1) := by decide +kernel
theorem dX6_mark_128 : decode cX6_mark 128 = .ok (.getfield 156, 3) := by decide +kernel
theorem dX6_mark_131 : decode cX6_mark 131 = .ok (.if_icmp .ge 38, 3) := by decide +kernel
theorem dX6_mark_134 : decode cX6_mark 134 = .ok (.iload_n 2, 1) := by decide +kernel
theorem dX6_mark_135 : decode cX6_mark 135 = .ok (.iconst 3, 1) := by decide +kernel
theorem dX6_mark_136 : decode cX6_mark 136 = .ok (.if_icmp .ne 33, 3) := by decide +kernel
theorem dX6_mark_139 : decode cX6_mark 139 = .ok (.iload 4, 2) := by decide +kernel
theorem dX6_mark_141 : decode cX6_mark 141 = .ok (.aload_n 0, 1) := by decide +kernel
theorem dX6_mark_142 : decode cX6_mark 142 = .ok (.getfield 28, 3) := by decide +kernel
theorem dX6_mark_145 : decode cX6_mark 145 = .ok (.iload 5, 2) := by decide +kernel
theorem dX6_mark_147 : decode cX6_mark 147 = .ok (.iaload, 1) := by decide +kernel
theorem dX6_mark_148 : decode cX6_mark 148 = .ok (.iload_n 1, 1) := by decide +kernel
theorem dX6_mark_149 : decode cX6_mark 149 = .ok (.invokestatic 136, 3) := by decide +kernel
theorem dX6_mark_152 : decode cX6_mark 152 = .ok (.ifCond .eq 7, 3) := by decide +kernel
theorem dX6_mark_155 : decode cX6_mark 155 = .ok (.iconst 1, 1) := by decide +kernel
theorem dX6_mark_156 : decode cX6_mark 156 = .ok (.goto 4, 3) := by decide +kernel
theorem dX6_mark_159 : decode cX6_mark 159 = .ok (.iconst 0, 1) := by decide +kernel
theorem dX6_mark_160 : decode cX6_mark 160 = .ok (.iadd, 1) := by decide +kernel
theorem dX6_mark_161 : decode cX6_mark 161 = .ok (.istore 4, 2) := by decide +kernel
theorem dX6_mark_163 : decode cX6_mark 163 = .ok (.iinc 5 1, 3) := by decide +kernel
theorem dX6_mark_166 : decode cX6_mark 166 = .ok (.goto (-41), 3) := by decide +kernel
theorem dX6_mark_169 : decode cX6_mark 169 = .ok (.iload_n 2, 1) := by decide +kernel
theorem dX6_mark_170 : decode cX6_mark 170 = .ok (.iconst 1, 1) := by decide +kernel
theorem dX6_mark_171 : decode cX6_mark 171 = .ok (.if_icmp .ne 12, 3) := by decide +kernel
theorem dX6_mark_174 : decode cX6_mark 174 = .ok (.aload_n 0, 1) := by decide +kernel
theorem dX6_mark_175 : decode cX6_mark 175 = .ok (.getfield 43, 3) := by decide +kernel
theorem dX6_mark_178 : decode cX6_mark 178 = .ok (.iconst 4, 1) := by decide +kernel
theorem dX6_mark_179 : decode cX6_mark 179 = .ok (.iaload, 1) := by decide +kernel
theorem dX6_mark_180 : decode cX6_mark 180 = .ok (.goto 31, 3) := by decide +kernel
theorem dX6_mark_183 : decode cX6_mark 183 = .ok (.iload_n 2, 1) := by decide +kernel
theorem dX6_mark_184 : decode cX6_mark 184 = .ok (.iconst 4, 1) := by decide +kernel
theorem dX6_mark_185 : decode cX6_mark 185 = .ok (.if_icmp .ne 24, 3) := by decide +kernel
theorem dX6_mark_188 : decode cX6_mark 188 = .ok (.aload_n 0, 1) := by decide +kernel
theorem dX6_mark_189 : decode cX6_mark 189 = .ok (.getfield 43, 3) := by decide +kernel
theorem dX6_mark_192 : decode cX6_mark 192 = .ok (.iconst 3, 1) := by decide +kernel
theorem dX6_mark_193 : decode cX6_mark 193 = .ok (.iaload, 1) := by decide +kernel
theorem dX6_mark_194 : decode cX6_mark 194 = .ok (.aload_n 0, 1) := by decide +kernel
theorem dX6_mark_195 : decode cX6_mark 195 = .ok (.getfield 28, 3) := by decide +kernel
theorem dX6_mark_198 : decode cX6_mark 198 = .ok (.iload_n 1, 1) := by decide +kernel
theorem dX6_mark_199 : decode cX6_mark 199 = .ok (.iaload, 1) := by decide +kernel
theorem dX6_mark_200 : decode cX6_mark 200 = .ok (.iconst (-1), 1) := by decide +kernel
theorem dX6_mark_201 : decode cX6_mark 201 = .ok (.ixor, 1) := by decide +kernel
theorem dX6_mark_202 : decode cX6_mark 202 = .ok (.iand, 1) := by decide +kernel
theorem dX6_mark_203 : decode cX6_mark 203 = .ok (.invokestatic 200, 3) := by decide +kernel
theorem dX6_mark_206 : decode cX6_mark 206 = .ok (.goto 5, 3) := by decide +kernel
theorem dX6_mark_209 : decode cX6_mark 209 = .ok (.iload 4, 2) := by decide +kernel
theorem dX6_mark_211 : decode cX6_mark 211 = .ok (.ireturn, 1) := by decide +kernel
theorem dX6_route_0 : decode cX6_route 0 = .ok (.iload_n 1, 1) := by decide +kernel
theorem dX6_route_1 : decode cX6_route 1 = .ok (.i2l, 1) := by decide +kernel
theorem dX6_route_2 : decode cX6_route 2 = .ok (.lconst 0, 1) := by decide +kernel
theorem dX6_route_3 : decode cX6_route 3 = .ok (.ldc2_w 219, 3) := by decide +kernel
theorem dX6_route_6 : decode cX6_route 6 = .ok (.invokestatic 93, 3) := by decide +kernel
theorem dX6_route_9 : decode cX6_route 9 = .ok (.ifCond .eq 15, 3) := by decide +kernel
theorem dX6_route_12 : decode cX6_route 12 = .ok (.iload_n 2, 1) := by decide +kernel
theorem dX6_route_13 : decode cX6_route 13 = .ok (.i2l, 1) := by decide +kernel
theorem dX6_route_14 : decode cX6_route 14 = .ok (.lconst 0, 1) := by decide +kernel
theorem dX6_route_15 : decode cX6_route 15 = .ok (.ldc2_w 221, 3) := by decide +kernel
theorem dX6_route_18 : decode cX6_route 18 = .ok (.invokestatic 93, 3) := by decide +kernel
theorem dX6_route_21 : decode cX6_route 21 = .ok (.ifCond .ne 5, 3) := by decide +kernel
theorem dX6_route_24 : decode cX6_route 24 = .ok (.iconst (-1), 1) := by decide +kernel
theorem dX6_route_25 : decode cX6_route 25 = .ok (.ireturn, 1) := by decide +kernel
theorem dX6_route_26 : decode cX6_route 26 = .ok (.aload_n 0, 1) := by decide +kernel
theorem dX6_route_27 : decode cX6_route 27 = .ok (.getfield 162, 3) := by decide +kernel
theorem dX6_route_30 : decode cX6_route 30 = .ok (.ifCond .le 6, 3) := by decide +kernel
theorem dX6_route_33 : decode cX6_route 33 = .ok (.bipush (-4), 2) := by decide +kernel
theorem dX6_route_35 : decode cX6_route 35 = .ok (.ireturn, 1) := by decide +kernel
theorem dX6_route_36 : decode cX6_route 36 = .ok (.aload_n 0, 1) := by decide +kernel
theorem dX6_route_37 : decode cX6_route 37 = .ok (.getfield 40, 3) := by decide +kernel
theorem dX6_route_40 : decode cX6_route 40 = .ok (.iload_n 1, 1) := by decide +kernel
theorem dX6_route_41 : decode cX6_route 41 = .ok (.iaload, 1) := by decide +kernel
theorem dX6_route_42 : decode cX6_route 42 = .ok (.istore_n 3, 1) := by decide +kernel
theorem dX6_route_43 : decode cX6_route 43 = .ok (.aload_n 0, 1) := by decide +kernel
theorem dX6_route_44 : decode cX6_route 44 = .ok (.getfield 40, 3) := by decide +kernel
theorem dX6_route_47 : decode cX6_route 47 = .ok (.iload_n 1, 1) := by decide +kernel
theorem dX6_route_48 : decode cX6_route 48 = .ok (.iload_n 2, 1) := by decide +kernel
theorem dX6_route_49 : decode cX6_route 49 = .ok (.iastore, 1) := by decide +kernel
theorem dX6_route_50 : decode cX6_route 50 = .ok (.iload_n 3, 1) := by decide +kernel
theorem dX6_route_51 : decode cX6_route 51 = .ok (.ireturn, 1) := by decide +kernel
theorem dX6_note_0 : decode cX6_note 0 = .ok (.iconst 0, 1) := by decide +kernel
theorem dX6_note_1 : decode cX6_note 1 = .ok (.istore_n 1, 1) := by decide +kernel
theorem dX6_note_2 : decode cX6_note 2 = .ok (.iload_n 1, 1) := by decide +kernel
theorem dX6_note_3 : decode cX6_note 3 = .ok (.bipush 12, 2) := by decide +kernel
theorem dX6_note_5 : decode cX6_note 5 = .ok (.if_icmp .ge 29, 3) := by decide +kernel
theorem dX6_note_8 : decode cX6_note 8 = .ok (.aload_n 0, 1) := by decide +kernel
theorem dX6_note_9 : decode cX6_note 9 = .ok (.getfield 46, 3) := by decide +kernel
theorem dX6_note_12 : decode cX6_note 12 = .ok (.bipush 12, 2) := by decide +kernel
theorem dX6_note_14 : decode cX6_note 14 = .ok (.aload_n 0, 1) := by decide +kernel
theorem dX6_note_15 : decode cX6_note 15 = .ok (.getfield 162, 3) := by decide +kernel
theorem dX6_note_18 : decode cX6_note 18 = .ok (.imul, 1) := by decide +kernel
theorem dX6_note_19 : decode cX6_note 19 = .ok (.iload_n 1, 1) := by decide +kernel
theorem dX6_note_20 : decode cX6_note 20 = .ok (.iadd, 1) := by decide +kernel
theorem dX6_note_21 : decode cX6_note 21 = .ok (.aload_n 0, 1) := by decide +kernel
theorem dX6_note_22 : decode cX6_note 22 = .ok (.getfield 43, 3) := by decide +kernel
theorem dX6_note_25 : decode cX6_note 25 = .ok (.iload_n 1, 1) := by decide +kernel
theorem dX6_note_26 : decode cX6_note 26 = .ok (.iaload, 1) := by decide +kernel
theorem dX6_note_27 : decode cX6_note 27 = .ok (.iastore, 1) := by decide +kernel
theorem dX6_note_28 : decode cX6_note 28 = .ok (.iinc 1 1, 3) := by decide +kernel
theorem dX6_note_31 : decode cX6_note 31 = .ok (.goto (-29), 3) := by decide +kernel
theorem dX6_note_34 : decode cX6_note 34 = .ok (.aload_n 0, 1) := by decide +kernel
theorem dX6_note_35 : decode cX6_note 35 = .ok (.dup, 1) := by decide +kernel
theorem dX6_note_36 : decode cX6_note 36 = .ok (.getfield 162, 3) := by decide +kernel
theorem dX6_note_39 : decode cX6_note 39 = .ok (.iconst 1, 1) := by decide +kernel
theorem dX6_note_40 : decode cX6_note 40 = .ok (.iadd, 1) := by decide +kernel
theorem dX6_note_41 : decode cX6_note 41 = .ok (.putfield 162, 3) := by decide +kernel
theorem dX6_note_44 : decode cX6_note 44 = .ok (.return_, 1) := by decide +kernel
theorem dX6_day_0 : decode cX6_day 0 = .ok (.aload_n 0, 1) := by decide +kernel
theorem dX6_day_1 : decode cX6_day 1 = .ok (.getfield 156, 3) := by decide +kernel
theorem dX6_day_4 : decode cX6_day 4 = .ok (.ifCond .ne 6, 3) := by decide +kernel
theorem dX6_day_7 : decode cX6_day 7 = .ok (.bipush (-4), 2) := by decide +kernel
theorem dX6_day_9 : decode cX6_day 9 = .ok (.ireturn, 1) := by decide +kernel
theorem dX6_day_10 : decode cX6_day 10 = .ok (.aload_n 0, 1) := by decide +kernel
theorem dX6_day_11 : decode cX6_day 11 = .ok (.getfield 162, 3) := by decide +kernel
theorem dX6_day_14 : decode cX6_day 14 = .ok (.bipush 40, 2) := by decide +kernel
theorem dX6_day_16 : decode cX6_day 16 = .ok (.if_icmp .ne 6, 3) := by decide +kernel
theorem dX6_day_19 : decode cX6_day 19 = .ok (.bipush (-2), 2) := by decide +kernel
theorem dX6_day_21 : decode cX6_day 21 = .ok (.ireturn, 1) := by decide +kernel
theorem dX6_day_22 : decode cX6_day 22 = .ok (.aload_n 0, 1) := by decide +kernel
theorem dX6_day_23 : decode cX6_day 23 = .ok (.invokevirtual 223, 3) := by decide +kernel
theorem dX6_day_26 : decode cX6_day 26 = .ok (.aload_n 0, 1) := by decide +kernel
theorem dX6_day_27 : decode cX6_day 27 = .ok (.getfield 43, 3) := by decide +kernel
theorem dX6_day_30 : decode cX6_day 30 = .ok (.iconst 0, 1) := by decide +kernel
theorem dX6_day_31 : decode cX6_day 31 = .ok (.dup2, 1) := by decide +kernel
theorem dX6_day_32 : decode cX6_day 32 = .ok (.iaload, 1) := by decide +kernel
theorem dX6_day_33 : decode cX6_day 33 = .ok (.iconst 1, 1) := by decide +kernel
theorem dX6_day_34 : decode cX6_day 34 = .ok (.iadd, 1) := by decide +kernel
theorem dX6_day_35 : decode cX6_day 35 = .ok (.iastore, 1) := by decide +kernel
theorem dX6_day_36 : decode cX6_day 36 = .ok (.aload_n 0, 1) := by decide +kernel
theorem dX6_day_37 : decode cX6_day 37 = .ok (.getfield 43, 3) := by decide +kernel
theorem dX6_day_40 : decode cX6_day 40 = .ok (.iconst 0, 1) := by decide +kernel
theorem dX6_day_41 : decode cX6_day 41 = .ok (.iaload, 1) := by decide +kernel
theorem dX6_day_42 : decode cX6_day 42 = .ok (.ireturn, 1) := by decide +kernel
theorem dX6_isOnShelf_0 : decode cX6_isOnShelf 0 = .ok (.aload_n 0, 1) := by decide +kernel
theorem dX6_isOnShelf_1 : decode cX6_isOnShelf 1 = .ok (.aload_n 0, 1) := by decide +kernel
theorem dX6_isOnShelf_2 : decode cX6_isOnShelf 2 = .ok (.getfield 43, 3) := by decide +kernel
theorem dX6_isOnShelf_5 : decode cX6_isOnShelf 5 = .ok (.iconst 0, 1) := by decide +kernel
theorem dX6_isOnShelf_6 : decode cX6_isOnShelf 6 = .ok (.iaload, 1) := by decide +kernel
theorem dX6_isOnShelf_7 : decode cX6_isOnShelf 7 = .ok (.invokevirtual 213, 3) := by decide +kernel
theorem dX6_isOnShelf_10 : decode cX6_isOnShelf 10 = .ok (.iload_n 1, 1) := by decide +kernel
theorem dX6_isOnShelf_11 : decode cX6_isOnShelf 11 = .ok (.invokestatic 136, 3) := by decide +kernel
theorem dX6_isOnShelf_14 : decode cX6_isOnShelf 14 = .ok (.ireturn, 1) := by decide +kernel
theorem dX6_openNow_0 : decode cX6_openNow 0 = .ok (.aload_n 0, 1) := by decide +kernel
theorem dX6_openNow_1 : decode cX6_openNow 1 = .ok (.invokevirtual 223, 3) := by decide +kernel
theorem dX6_openNow_4 : decode cX6_openNow 4 = .ok (.aload_n 0, 1) := by decide +kernel
theorem dX6_openNow_5 : decode cX6_openNow 5 = .ok (.getfield 43, 3) := by decide +kernel
theorem dX6_openNow_8 : decode cX6_openNow 8 = .ok (.iconst 1, 1) := by decide +kernel
theorem dX6_openNow_9 : decode cX6_openNow 9 = .ok (.dup2, 1) := by decide +kernel
theorem dX6_openNow_10 : decode cX6_openNow 10 = .ok (.iaload, 1) := by decide +kernel
theorem dX6_openNow_11 : decode cX6_openNow 11 = .ok (.iconst 1, 1) := by decide +kernel
theorem dX6_openNow_12 : decode cX6_openNow 12 = .ok (.iload_n 1, 1) := by decide +kernel
theorem dX6_openNow_13 : decode cX6_openNow 13 = .ok (.ishl, 1) := by decide +kernel
theorem dX6_openNow_14 : decode cX6_openNow 14 = .ok (.ior, 1) := by decide +kernel
theorem dX6_openNow_15 : decode cX6_openNow 15 = .ok (.iastore, 1) := by decide +kernel
theorem dX6_openNow_16 : decode cX6_openNow 16 = .ok (.aload_n 0, 1) := by decide +kernel
theorem dX6_openNow_17 : decode cX6_openNow 17 = .ok (.getfield 43, 3) := by decide +kernel
theorem dX6_openNow_20 : decode cX6_openNow 20 = .ok (.iconst 5, 1) := by decide +kernel
theorem dX6_openNow_21 : decode cX6_openNow 21 = .ok (.iload_n 1, 1) := by decide +kernel
theorem dX6_openNow_22 : decode cX6_openNow 22 = .ok (.iadd, 1) := by decide +kernel
theorem dX6_openNow_23 : decode cX6_openNow 23 = .ok (.iload_n 2, 1) := by decide +kernel
theorem dX6_openNow_24 : decode cX6_openNow 24 = .ok (.iastore, 1) := by decide +kernel
theorem dX6_openNow_25 : decode cX6_openNow 25 = .ok (.aload_n 0, 1) := by decide +kernel
theorem dX6_openNow_26 : decode cX6_openNow 26 = .ok (.getfield 43, 3) := by decide +kernel
theorem dX6_openNow_29 : decode cX6_openNow 29 = .ok (.iconst 3, 1) := by decide +kernel
theorem dX6_openNow_30 : decode cX6_openNow 30 = .ok (.dup2, 1) := by decide +kernel
theorem dX6_openNow_31 : decode cX6_openNow 31 = .ok (.iaload, 1) := by decide +kernel
theorem dX6_openNow_32 : decode cX6_openNow 32 = .ok (.iload_n 2, 1) := by decide +kernel
theorem dX6_openNow_33 : decode cX6_openNow 33 = .ok (.ifCond .ge 7, 3) := by decide +kernel
theorem dX6_openNow_36 : decode cX6_openNow 36 = .ok (.iconst 0, 1) := by decide +kernel
theorem dX6_openNow_37 : decode cX6_openNow 37 = .ok (.goto 6, 3) := by decide +kernel
theorem dX6_openNow_40 : decode cX6_openNow 40 = .ok (.iconst 1, 1) := by decide +kernel
theorem dX6_openNow_41 : decode cX6_openNow 41 = .ok (.iload_n 2, 1) := by decide +kernel
theorem dX6_openNow_42 : decode cX6_openNow 42 = .ok (.ishl, 1) := by decide +kernel
theorem dX6_openNow_43 : decode cX6_openNow 43 = .ok (.ior, 1) := by decide +kernel
theorem dX6_openNow_44 : decode cX6_openNow 44 = .ok (.iastore, 1) := by decide +kernel
theorem dX6_openNow_45 : decode cX6_openNow 45 = .ok (.aload_n 0, 1) := by decide +kernel
theorem dX6_openNow_46 : decode cX6_openNow 46 = .ok (.getfield 43, 3) := by decide +kernel
theorem dX6_openNow_49 : decode cX6_openNow 49 = .ok (.iconst 4, 1) := by decide +kernel
theorem dX6_openNow_50 : decode cX6_openNow 50 = .ok (.iload_n 2, 1) := by decide +kernel
theorem dX6_openNow_51 : decode cX6_openNow 51 = .ok (.ifCond .lt 20, 3) := by decide +kernel
theorem dX6_openNow_54 : decode cX6_openNow 54 = .ok (.aload_n 0, 1) := by decide +kernel
theorem dX6_openNow_55 : decode cX6_openNow 55 = .ok (.getfield 22, 3) := by decide +kernel
theorem dX6_openNow_58 : decode cX6_openNow 58 = .ok (.iload_n 2, 1) := by decide +kernel
theorem dX6_openNow_59 : decode cX6_openNow 59 = .ok (.iaload, 1) := by decide +kernel
theorem dX6_openNow_60 : decode cX6_openNow 60 = .ok (.iconst 1, 1) := by decide +kernel
theorem dX6_openNow_61 : decode cX6_openNow 61 = .ok (.invokestatic 195, 3) := by decide +kernel
theorem dX6_openNow_64 : decode cX6_openNow 64 = .ok (.ifCond .eq 7, 3) := by decide +kernel
theorem dX6_openNow_67 : decode cX6_openNow 67 = .ok (.iconst 0, 1) := by decide +kernel
theorem dX6_openNow_68 : decode cX6_openNow 68 = .ok (.goto 11, 3) := by decide +kernel
theorem dX6_openNow_71 : decode cX6_openNow 71 = .ok (.aload_n 0, 1) := by decide +kernel
theorem dX6_openNow_72 : decode cX6_openNow 72 = .ok (.getfield 43, 3) := by decide +kernel
theorem dX6_openNow_75 : decode cX6_openNow 75 = .ok (.iconst 4, 1) := by decide +kernel
theorem dX6_openNow_76 : decode cX6_openNow 76 = .ok (.iaload, 1) := by decide +kernel
theorem dX6_openNow_77 : decode cX6_openNow 77 = .ok (.iconst 1, 1) := by decide +kernel
theorem dX6_openNow_78 : decode cX6_openNow 78 = .ok (.iadd, 1) := by decide +kernel
theorem dX6_openNow_79 : decode cX6_openNow 79 = .ok (.iastore, 1) := by decide +kernel
theorem dX6_openNow_80 : decode cX6_openNow 80 = .ok (.return_, 1) := by decide +kernel
theorem dX6_open_0 : decode cX6_open 0 = .ok (.aload_n 0, 1) := by decide +kernel
theorem dX6_open_1 : decode cX6_open 1 = .ok (.iload_n 1, 1) := by decide +kernel
theorem dX6_open_2 : decode cX6_open 2 = .ok (.invokevirtual 189, 3) := by decide +kernel
theorem dX6_open_5 : decode cX6_open 5 = .ok (.ifCond .eq 17, 3) := by decide +kernel
theorem dX6_open_8 : decode cX6_open 8 = .ok (.iload_n 2, 1) := by decide +kernel
theorem dX6_open_9 : decode cX6_open 9 = .ok (.bipush (-9), 2) := by decide +kernel
theorem dX6_open_11 : decode cX6_open 11 = .ok (.if_icmp .eq 13, 3) := by decide +kernel
theorem dX6_open_14 : decode cX6_open 14 = .ok (.aload_n 0, 1) := by decide +kernel
theorem dX6_open_15 : decode cX6_open 15 = .ok (.iload_n 2, 1) := by decide +kernel
theorem dX6_open_16 : decode cX6_open 16 = .ok (.invokevirtual 168, 3) := by decide +kernel
theorem dX6_open_19 : decode cX6_open 19 = .ok (.ifCond .ne 5, 3) := by decide +kernel
theorem dX6_open_22 : decode cX6_open 22 = .ok (.iconst (-1), 1) := by decide +kernel
theorem dX6_open_23 : decode cX6_open 23 = .ok (.ireturn, 1) := by decide +kernel
theorem dX6_open_24 : decode cX6_open 24 = .ok (.aload_n 0, 1) := by decide +kernel
theorem dX6_open_25 : decode cX6_open 25 = .ok (.iload_n 1, 1) := by decide +kernel
theorem dX6_open_26 : decode cX6_open 26 = .ok (.invokevirtual 226, 3) := by decide +kernel
theorem dX6_open_29 : decode cX6_open 29 = .ok (.ifCond .eq 16, 3) := by decide +kernel
theorem dX6_open_32 : decode cX6_open 32 = .ok (.iload_n 2, 1) := by decide +kernel
theorem dX6_open_33 : decode cX6_open 33 = .ok (.ifCond .lt 15, 3) := by decide +kernel
theorem dX6_open_36 : decode cX6_open 36 = .ok (.aload_n 0, 1) := by decide +kernel
theorem dX6_open_37 : decode cX6_open 37 = .ok (.iload_n 2, 1) := by decide +kernel
theorem dX6_open_38 : decode cX6_open 38 = .ok (.iload_n 1, 1) := by decide +kernel
theorem dX6_open_39 : decode cX6_open 39 = .ok (.invokevirtual 216, 3) := by decide +kernel
theorem dX6_open_42 : decode cX6_open 42 = .ok (.ifCond .ne 6, 3) := by decide +kernel
theorem dX6_open_45 : decode cX6_open 45 = .ok (.bipush (-4), 2) := by decide +kernel
theorem dX6_open_47 : decode cX6_open 47 = .ok (.ireturn, 1) := by decide +kernel
theorem dX6_open_48 : decode cX6_open 48 = .ok (.aload_n 0, 1) := by decide +kernel
theorem dX6_open_49 : decode cX6_open 49 = .ok (.getfield 162, 3) := by decide +kernel
theorem dX6_open_52 : decode cX6_open 52 = .ok (.bipush 40, 2) := by decide +kernel
theorem dX6_open_54 : decode cX6_open 54 = .ok (.if_icmp .ne 6, 3) := by decide +kernel
theorem dX6_open_57 : decode cX6_open 57 = .ok (.bipush (-2), 2) := by decide +kernel
theorem dX6_open_59 : decode cX6_open 59 = .ok (.ireturn, 1) := by decide +kernel
theorem dX6_open_60 : decode cX6_open 60 = .ok (.aload_n 0, 1) := by decide +kernel
theorem dX6_open_61 : decode cX6_open 61 = .ok (.iload_n 1, 1) := by decide +kernel
theorem dX6_open_62 : decode cX6_open 62 = .ok (.iload_n 2, 1) := by decide +kernel
theorem dX6_open_63 : decode cX6_open 63 = .ok (.invokevirtual 229, 3) := by decide +kernel
theorem dX6_open_66 : decode cX6_open 66 = .ok (.aload_n 0, 1) := by decide +kernel
theorem dX6_open_67 : decode cX6_open 67 = .ok (.getfield 43, 3) := by decide +kernel
theorem dX6_open_70 : decode cX6_open 70 = .ok (.iconst 3, 1) := by decide +kernel
theorem dX6_open_71 : decode cX6_open 71 = .ok (.iaload, 1) := by decide +kernel
theorem dX6_open_72 : decode cX6_open 72 = .ok (.ireturn, 1) := by decide +kernel
theorem dX6_send_0 : decode cX6_send 0 = .ok (.aload_n 0, 1) := by decide +kernel
theorem dX6_send_1 : decode cX6_send 1 = .ok (.iload_n 1, 1) := by decide +kernel
theorem dX6_send_2 : decode cX6_send 2 = .ok (.invokevirtual 189, 3) := by decide +kernel
theorem dX6_send_5 : decode cX6_send 5 = .ok (.ifCond .ne 5, 3) := by decide +kernel
theorem dX6_send_8 : decode cX6_send 8 = .ok (.iconst (-1), 1) := by decide +kernel
theorem dX6_send_9 : decode cX6_send 9 = .ok (.ireturn, 1) := by decide +kernel
theorem dX6_send_10 : decode cX6_send 10 = .ok (.aload_n 0, 1) := by decide +kernel
theorem dX6_send_11 : decode cX6_send 11 = .ok (.iload_n 1, 1) := by decide +kernel
theorem dX6_send_12 : decode cX6_send 12 = .ok (.invokevirtual 226, 3) := by decide +kernel
theorem dX6_send_15 : decode cX6_send 15 = .ok (.ifCond .ne 6, 3) := by decide +kernel
theorem dX6_send_18 : decode cX6_send 18 = .ok (.bipush (-4), 2) := by decide +kernel
theorem dX6_send_20 : decode cX6_send 20 = .ok (.ireturn, 1) := by decide +kernel
theorem dX6_send_21 : decode cX6_send 21 = .ok (.aload_n 0, 1) := by decide +kernel
theorem dX6_send_22 : decode cX6_send 22 = .ok (.getfield 162, 3) := by decide +kernel
theorem dX6_send_25 : decode cX6_send 25 = .ok (.bipush 40, 2) := by decide +kernel
theorem dX6_send_27 : decode cX6_send 27 = .ok (.if_icmp .ne 6, 3) := by decide +kernel
theorem dX6_send_30 : decode cX6_send 30 = .ok (.bipush (-2), 2) := by decide +kernel
theorem dX6_send_32 : decode cX6_send 32 = .ok (.ireturn, 1) := by decide +kernel
theorem dX6_send_33 : decode cX6_send 33 = .ok (.aload_n 0, 1) := by decide +kernel
theorem dX6_send_34 : decode cX6_send 34 = .ok (.invokevirtual 223, 3) := by decide +kernel
end
section
theorem dX6_send_37 : decode cX6_send 37 = .ok (.aload_n 0, 1) := by decide +kernel
theorem dX6_send_38 : decode cX6_send 38 = .ok (.getfield 43, 3) := by decide +kernel
theorem dX6_send_41 : decode cX6_send 41 = .ok (.iconst 2, 1) := by decide +kernel
theorem dX6_send_42 : decode cX6_send 42 = .ok (.dup2, 1) := by decide +kernel
theorem dX6_send_43 : decode cX6_send 43 = .ok (.iaload, 1) := by decide +kernel
theorem dX6_send_44 : decode cX6_send 44 = .ok (.iconst 1, 1) := by decide +kernel
theorem dX6_send_45 : decode cX6_send 45 = .ok (.iload_n 1, 1) := by decide +kernel
theorem dX6_send_46 : decode cX6_send 46 = .ok (.ishl, 1) := by decide +kernel
theorem dX6_send_47 : decode cX6_send 47 = .ok (.ior, 1) := by decide +kernel
theorem dX6_send_48 : decode cX6_send 48 = .ok (.iastore, 1) := by decide +kernel
theorem dX6_send_49 : decode cX6_send 49 = .ok (.aload_n 0, 1) := by decide +kernel
theorem dX6_send_50 : decode cX6_send 50 = .ok (.aload_n 0, 1) := by decide +kernel
theorem dX6_send_51 : decode cX6_send 51 = .ok (.getfield 43, 3) := by decide +kernel
theorem dX6_send_54 : decode cX6_send 54 = .ok (.iconst 0, 1) := by decide +kernel
theorem dX6_send_55 : decode cX6_send 55 = .ok (.iaload, 1) := by decide +kernel
theorem dX6_send_56 : decode cX6_send 56 = .ok (.invokevirtual 213, 3) := by decide +kernel
theorem dX6_send_59 : decode cX6_send 59 = .ok (.invokestatic 200, 3) := by decide +kernel
theorem dX6_send_62 : decode cX6_send 62 = .ok (.ireturn, 1) := by decide +kernel
theorem dX6_undo_0 : decode cX6_undo 0 = .ok (.iload_n 1, 1) := by decide +kernel
theorem dX6_undo_1 : decode cX6_undo 1 = .ok (.i2l, 1) := by decide +kernel
theorem dX6_undo_2 : decode cX6_undo 2 = .ok (.lconst 0, 1) := by decide +kernel
theorem dX6_undo_3 : decode cX6_undo 3 = .ok (.aload_n 0, 1) := by decide +kernel
theorem dX6_undo_4 : decode cX6_undo 4 = .ok (.getfield 162, 3) := by decide +kernel
theorem dX6_undo_7 : decode cX6_undo 7 = .ok (.i2l, 1) := by decide +kernel
theorem dX6_undo_8 : decode cX6_undo 8 = .ok (.invokestatic 93, 3) := by decide +kernel
theorem dX6_undo_11 : decode cX6_undo 11 = .ok (.ifCond .ne 5, 3) := by decide +kernel
theorem dX6_undo_14 : decode cX6_undo 14 = .ok (.iconst (-1), 1) := by decide +kernel
theorem dX6_undo_15 : decode cX6_undo 15 = .ok (.ireturn, 1) := by decide +kernel
theorem dX6_undo_16 : decode cX6_undo 16 = .ok (.aload_n 0, 1) := by decide +kernel
theorem dX6_undo_17 : decode cX6_undo 17 = .ok (.getfield 162, 3) := by decide +kernel
theorem dX6_undo_20 : decode cX6_undo 20 = .ok (.iload_n 1, 1) := by decide +kernel
theorem dX6_undo_21 : decode cX6_undo 21 = .ok (.isub, 1) := by decide +kernel
theorem dX6_undo_22 : decode cX6_undo 22 = .ok (.istore_n 2, 1) := by decide +kernel
theorem dX6_undo_23 : decode cX6_undo 23 = .ok (.iconst 0, 1) := by decide +kernel
theorem dX6_undo_24 : decode cX6_undo 24 = .ok (.istore_n 3, 1) := by decide +kernel
theorem dX6_undo_25 : decode cX6_undo 25 = .ok (.iload_n 3, 1) := by decide +kernel
theorem dX6_undo_26 : decode cX6_undo 26 = .ok (.bipush 12, 2) := by decide +kernel
theorem dX6_undo_28 : decode cX6_undo 28 = .ok (.if_icmp .ge 30, 3) := by decide +kernel
theorem dX6_undo_31 : decode cX6_undo 31 = .ok (.iload_n 2, 1) := by decide +kernel
theorem dX6_undo_32 : decode cX6_undo 32 = .ok (.ifCond .le 26, 3) := by decide +kernel
theorem dX6_undo_35 : decode cX6_undo 35 = .ok (.aload_n 0, 1) := by decide +kernel
theorem dX6_undo_36 : decode cX6_undo 36 = .ok (.getfield 43, 3) := by decide +kernel
theorem dX6_undo_39 : decode cX6_undo 39 = .ok (.iload_n 3, 1) := by decide +kernel
theorem dX6_undo_40 : decode cX6_undo 40 = .ok (.aload_n 0, 1) := by decide +kernel
theorem dX6_undo_41 : decode cX6_undo 41 = .ok (.getfield 46, 3) := by decide +kernel
theorem dX6_undo_44 : decode cX6_undo 44 = .ok (.bipush 12, 2) := by decide +kernel
theorem dX6_undo_46 : decode cX6_undo 46 = .ok (.iload_n 1, 1) := by decide +kernel
theorem dX6_undo_47 : decode cX6_undo 47 = .ok (.imul, 1) := by decide +kernel
theorem dX6_undo_48 : decode cX6_undo 48 = .ok (.iload_n 3, 1) := by decide +kernel
theorem dX6_undo_49 : decode cX6_undo 49 = .ok (.iadd, 1) := by decide +kernel
theorem dX6_undo_50 : decode cX6_undo 50 = .ok (.iaload, 1) := by decide +kernel
theorem dX6_undo_51 : decode cX6_undo 51 = .ok (.iastore, 1) := by decide +kernel
theorem dX6_undo_52 : decode cX6_undo 52 = .ok (.iinc 3 1, 3) := by decide +kernel
theorem dX6_undo_55 : decode cX6_undo 55 = .ok (.goto (-30), 3) := by decide +kernel
theorem dX6_undo_58 : decode cX6_undo 58 = .ok (.aload_n 0, 1) := by decide +kernel
theorem dX6_undo_59 : decode cX6_undo 59 = .ok (.iload_n 1, 1) := by decide +kernel
theorem dX6_undo_60 : decode cX6_undo 60 = .ok (.putfield 162, 3) := by decide +kernel
theorem dX6_undo_63 : decode cX6_undo 63 = .ok (.iload_n 2, 1) := by decide +kernel
theorem dX6_undo_64 : decode cX6_undo 64 = .ok (.ireturn, 1) := by decide +kernel
theorem dX6_shelf_0 : decode cX6_shelf 0 = .ok (.aload_n 0, 1) := by decide +kernel
theorem dX6_shelf_1 : decode cX6_shelf 1 = .ok (.getfield 156, 3) := by decide +kernel
theorem dX6_shelf_4 : decode cX6_shelf 4 = .ok (.ifCond .ne 8, 3) := by decide +kernel
theorem dX6_shelf_7 : decode cX6_shelf 7 = .ok (.bipush (-4), 2) := by decide +kernel
theorem dX6_shelf_9 : decode cX6_shelf 9 = .ok (.goto 23, 3) := by decide +kernel
theorem dX6_shelf_12 : decode cX6_shelf 12 = .ok (.aload_n 0, 1) := by decide +kernel
theorem dX6_shelf_13 : decode cX6_shelf 13 = .ok (.aload_n 0, 1) := by decide +kernel
theorem dX6_shelf_14 : decode cX6_shelf 14 = .ok (.aload_n 0, 1) := by decide +kernel
theorem dX6_shelf_15 : decode cX6_shelf 15 = .ok (.getfield 43, 3) := by decide +kernel
theorem dX6_shelf_18 : decode cX6_shelf 18 = .ok (.iconst 0, 1) := by decide +kernel
theorem dX6_shelf_19 : decode cX6_shelf 19 = .ok (.iaload, 1) := by decide +kernel
theorem dX6_shelf_20 : decode cX6_shelf 20 = .ok (.invokevirtual 213, 3) := by decide +kernel
theorem dX6_shelf_23 : decode cX6_shelf 23 = .ok (.aload_n 0, 1) := by decide +kernel
theorem dX6_shelf_24 : decode cX6_shelf 24 = .ok (.getfield 43, 3) := by decide +kernel
theorem dX6_shelf_27 : decode cX6_shelf 27 = .ok (.iconst 0, 1) := by decide +kernel
theorem dX6_shelf_28 : decode cX6_shelf 28 = .ok (.iaload, 1) := by decide +kernel
theorem dX6_shelf_29 : decode cX6_shelf 29 = .ok (.invokevirtual 111, 3) := by decide +kernel
theorem dX6_shelf_32 : decode cX6_shelf 32 = .ok (.ireturn, 1) := by decide +kernel
theorem dX6_carry_0 : decode cX6_carry 0 = .ok (.iconst 0, 1) := by decide +kernel
theorem dX6_carry_1 : decode cX6_carry 1 = .ok (.istore 6, 2) := by decide +kernel
theorem dX6_carry_3 : decode cX6_carry 3 = .ok (.iload 6, 2) := by decide +kernel
theorem dX6_carry_5 : decode cX6_carry 5 = .ok (.iload 5, 2) := by decide +kernel
theorem dX6_carry_7 : decode cX6_carry 7 = .ok (.if_icmp .ge 22, 3) := by decide +kernel
theorem dX6_carry_10 : decode cX6_carry 10 = .ok (.aload_n 1, 1) := by decide +kernel
theorem dX6_carry_11 : decode cX6_carry 11 = .ok (.iload_n 2, 1) := by decide +kernel
theorem dX6_carry_12 : decode cX6_carry 12 = .ok (.iload 6, 2) := by decide +kernel
theorem dX6_carry_14 : decode cX6_carry 14 = .ok (.iadd, 1) := by decide +kernel
theorem dX6_carry_15 : decode cX6_carry 15 = .ok (.aload_n 3, 1) := by decide +kernel
theorem dX6_carry_16 : decode cX6_carry 16 = .ok (.iload 4, 2) := by decide +kernel
theorem dX6_carry_18 : decode cX6_carry 18 = .ok (.iload 6, 2) := by decide +kernel
theorem dX6_carry_20 : decode cX6_carry 20 = .ok (.iadd, 1) := by decide +kernel
theorem dX6_carry_21 : decode cX6_carry 21 = .ok (.iaload, 1) := by decide +kernel
theorem dX6_carry_22 : decode cX6_carry 22 = .ok (.iastore, 1) := by decide +kernel
theorem dX6_carry_23 : decode cX6_carry 23 = .ok (.iinc 6 1, 3) := by decide +kernel
theorem dX6_carry_26 : decode cX6_carry 26 = .ok (.goto (-23), 3) := by decide +kernel
theorem dX6_carry_29 : decode cX6_carry 29 = .ok (.return_, 1) := by decide +kernel
theorem dX6_keep_0 : decode cX6_keep 0 = .ok (.iload_n 1, 1) := by decide +kernel
theorem dX6_keep_1 : decode cX6_keep 1 = .ok (.i2l, 1) := by decide +kernel
theorem dX6_keep_2 : decode cX6_keep 2 = .ok (.lconst 0, 1) := by decide +kernel
theorem dX6_keep_3 : decode cX6_keep 3 = .ok (.ldc2_w 219, 3) := by decide +kernel
theorem dX6_keep_6 : decode cX6_keep 6 = .ok (.invokestatic 93, 3) := by decide +kernel
theorem dX6_keep_9 : decode cX6_keep 9 = .ok (.ifCond .ne 5, 3) := by decide +kernel
theorem dX6_keep_12 : decode cX6_keep 12 = .ok (.iconst (-1), 1) := by decide +kernel
theorem dX6_keep_13 : decode cX6_keep 13 = .ok (.ireturn, 1) := by decide +kernel
theorem dX6_keep_14 : decode cX6_keep 14 = .ok (.aload_n 0, 1) := by decide +kernel
theorem dX6_keep_15 : decode cX6_keep 15 = .ok (.getfield 156, 3) := by decide +kernel
theorem dX6_keep_18 : decode cX6_keep 18 = .ok (.ifCond .ne 6, 3) := by decide +kernel
theorem dX6_keep_21 : decode cX6_keep 21 = .ok (.bipush (-4), 2) := by decide +kernel
theorem dX6_keep_23 : decode cX6_keep 23 = .ok (.ireturn, 1) := by decide +kernel
theorem dX6_keep_24 : decode cX6_keep 24 = .ok (.aload_n 0, 1) := by decide +kernel
theorem dX6_keep_25 : decode cX6_keep 25 = .ok (.aload_n 0, 1) := by decide +kernel
theorem dX6_keep_26 : decode cX6_keep 26 = .ok (.getfield 69, 3) := by decide +kernel
theorem dX6_keep_29 : decode cX6_keep 29 = .ok (.sipush 496, 3) := by decide +kernel
theorem dX6_keep_32 : decode cX6_keep 32 = .ok (.iload_n 1, 1) := by decide +kernel
theorem dX6_keep_33 : decode cX6_keep 33 = .ok (.imul, 1) := by decide +kernel
theorem dX6_keep_34 : decode cX6_keep 34 = .ok (.aload_n 0, 1) := by decide +kernel
theorem dX6_keep_35 : decode cX6_keep 35 = .ok (.getfield 46, 3) := by decide +kernel
theorem dX6_keep_38 : decode cX6_keep 38 = .ok (.iconst 0, 1) := by decide +kernel
theorem dX6_keep_39 : decode cX6_keep 39 = .ok (.sipush 480, 3) := by decide +kernel
theorem dX6_keep_42 : decode cX6_keep 42 = .ok (.invokevirtual 233, 3) := by decide +kernel
theorem dX6_keep_45 : decode cX6_keep 45 = .ok (.aload_n 0, 1) := by decide +kernel
theorem dX6_keep_46 : decode cX6_keep 46 = .ok (.aload_n 0, 1) := by decide +kernel
theorem dX6_keep_47 : decode cX6_keep 47 = .ok (.getfield 69, 3) := by decide +kernel
theorem dX6_keep_50 : decode cX6_keep 50 = .ok (.sipush 496, 3) := by decide +kernel
theorem dX6_keep_53 : decode cX6_keep 53 = .ok (.iload_n 1, 1) := by decide +kernel
theorem dX6_keep_54 : decode cX6_keep 54 = .ok (.imul, 1) := by decide +kernel
theorem dX6_keep_55 : decode cX6_keep 55 = .ok (.sipush 480, 3) := by decide +kernel
theorem dX6_keep_58 : decode cX6_keep 58 = .ok (.iadd, 1) := by decide +kernel
theorem dX6_keep_59 : decode cX6_keep 59 = .ok (.aload_n 0, 1) := by decide +kernel
theorem dX6_keep_60 : decode cX6_keep 60 = .ok (.getfield 43, 3) := by decide +kernel
theorem dX6_keep_63 : decode cX6_keep 63 = .ok (.iconst 0, 1) := by decide +kernel
theorem dX6_keep_64 : decode cX6_keep 64 = .ok (.bipush 12, 2) := by decide +kernel
theorem dX6_keep_66 : decode cX6_keep 66 = .ok (.invokevirtual 233, 3) := by decide +kernel
theorem dX6_keep_69 : decode cX6_keep 69 = .ok (.aload_n 0, 1) := by decide +kernel
theorem dX6_keep_70 : decode cX6_keep 70 = .ok (.aload_n 0, 1) := by decide +kernel
theorem dX6_keep_71 : decode cX6_keep 71 = .ok (.getfield 69, 3) := by decide +kernel
theorem dX6_keep_74 : decode cX6_keep 74 = .ok (.sipush 496, 3) := by decide +kernel
theorem dX6_keep_77 : decode cX6_keep 77 = .ok (.iload_n 1, 1) := by decide +kernel
theorem dX6_keep_78 : decode cX6_keep 78 = .ok (.imul, 1) := by decide +kernel
theorem dX6_keep_79 : decode cX6_keep 79 = .ok (.sipush 492, 3) := by decide +kernel
theorem dX6_keep_82 : decode cX6_keep 82 = .ok (.iadd, 1) := by decide +kernel
theorem dX6_keep_83 : decode cX6_keep 83 = .ok (.aload_n 0, 1) := by decide +kernel
theorem dX6_keep_84 : decode cX6_keep 84 = .ok (.getfield 40, 3) := by decide +kernel
theorem dX6_keep_87 : decode cX6_keep 87 = .ok (.iconst 0, 1) := by decide +kernel
theorem dX6_keep_88 : decode cX6_keep 88 = .ok (.iconst 3, 1) := by decide +kernel
theorem dX6_keep_89 : decode cX6_keep 89 = .ok (.invokevirtual 233, 3) := by decide +kernel
theorem dX6_keep_92 : decode cX6_keep 92 = .ok (.aload_n 0, 1) := by decide +kernel
theorem dX6_keep_93 : decode cX6_keep 93 = .ok (.getfield 69, 3) := by decide +kernel
theorem dX6_keep_96 : decode cX6_keep 96 = .ok (.sipush 496, 3) := by decide +kernel
theorem dX6_keep_99 : decode cX6_keep 99 = .ok (.iload_n 1, 1) := by decide +kernel
theorem dX6_keep_100 : decode cX6_keep 100 = .ok (.imul, 1) := by decide +kernel
theorem dX6_keep_101 : decode cX6_keep 101 = .ok (.sipush 495, 3) := by decide +kernel
theorem dX6_keep_104 : decode cX6_keep 104 = .ok (.iadd, 1) := by decide +kernel
theorem dX6_keep_105 : decode cX6_keep 105 = .ok (.aload_n 0, 1) := by decide +kernel
theorem dX6_keep_106 : decode cX6_keep 106 = .ok (.getfield 162, 3) := by decide +kernel
theorem dX6_keep_109 : decode cX6_keep 109 = .ok (.iastore, 1) := by decide +kernel
theorem dX6_keep_110 : decode cX6_keep 110 = .ok (.aload_n 0, 1) := by decide +kernel
theorem dX6_keep_111 : decode cX6_keep 111 = .ok (.getfield 65, 3) := by decide +kernel
theorem dX6_keep_114 : decode cX6_keep 114 = .ok (.iload_n 1, 1) := by decide +kernel
theorem dX6_keep_115 : decode cX6_keep 115 = .ok (.iconst 1, 1) := by decide +kernel
theorem dX6_keep_116 : decode cX6_keep 116 = .ok (.bastore, 1) := by decide +kernel
theorem dX6_keep_117 : decode cX6_keep 117 = .ok (.aload_n 0, 1) := by decide +kernel
theorem dX6_keep_118 : decode cX6_keep 118 = .ok (.getfield 162, 3) := by decide +kernel
theorem dX6_keep_121 : decode cX6_keep 121 = .ok (.ireturn, 1) := by decide +kernel
theorem dX6_on_0 : decode cX6_on 0 = .ok (.iload_n 1, 1) := by decide +kernel
theorem dX6_on_1 : decode cX6_on 1 = .ok (.i2l, 1) := by decide +kernel
theorem dX6_on_2 : decode cX6_on 2 = .ok (.lconst 0, 1) := by decide +kernel
theorem dX6_on_3 : decode cX6_on 3 = .ok (.ldc2_w 219, 3) := by decide +kernel
theorem dX6_on_6 : decode cX6_on 6 = .ok (.invokestatic 93, 3) := by decide +kernel
theorem dX6_on_9 : decode cX6_on 9 = .ok (.ifCond .ne 5, 3) := by decide +kernel
theorem dX6_on_12 : decode cX6_on 12 = .ok (.iconst (-1), 1) := by decide +kernel
theorem dX6_on_13 : decode cX6_on 13 = .ok (.ireturn, 1) := by decide +kernel
theorem dX6_on_14 : decode cX6_on 14 = .ok (.aload_n 0, 1) := by decide +kernel
theorem dX6_on_15 : decode cX6_on 15 = .ok (.getfield 65, 3) := by decide +kernel
theorem dX6_on_18 : decode cX6_on 18 = .ok (.iload_n 1, 1) := by decide +kernel
theorem dX6_on_19 : decode cX6_on 19 = .ok (.baload, 1) := by decide +kernel
theorem dX6_on_20 : decode cX6_on 20 = .ok (.ifCond .ne 9, 3) := by decide +kernel
theorem dX6_on_23 : decode cX6_on 23 = .ok (.aload_n 0, 1) := by decide +kernel
theorem dX6_on_24 : decode cX6_on 24 = .ok (.iconst 1, 1) := by decide +kernel
theorem dX6_on_25 : decode cX6_on 25 = .ok (.invokevirtual 103, 3) := by decide +kernel
theorem dX6_on_28 : decode cX6_on 28 = .ok (.ireturn, 1) := by decide +kernel
theorem dX6_on_29 : decode cX6_on 29 = .ok (.aload_n 0, 1) := by decide +kernel
theorem dX6_on_30 : decode cX6_on 30 = .ok (.aload_n 0, 1) := by decide +kernel
theorem dX6_on_31 : decode cX6_on 31 = .ok (.getfield 46, 3) := by decide +kernel
theorem dX6_on_34 : decode cX6_on 34 = .ok (.iconst 0, 1) := by decide +kernel
theorem dX6_on_35 : decode cX6_on 35 = .ok (.aload_n 0, 1) := by decide +kernel
theorem dX6_on_36 : decode cX6_on 36 = .ok (.getfield 69, 3) := by decide +kernel
theorem dX6_on_39 : decode cX6_on 39 = .ok (.sipush 496, 3) := by decide +kernel
theorem dX6_on_42 : decode cX6_on 42 = .ok (.iload_n 1, 1) := by decide +kernel
theorem dX6_on_43 : decode cX6_on 43 = .ok (.imul, 1) := by decide +kernel
theorem dX6_on_44 : decode cX6_on 44 = .ok (.sipush 480, 3) := by decide +kernel
theorem dX6_on_47 : decode cX6_on 47 = .ok (.invokevirtual 233, 3) := by decide +kernel
theorem dX6_on_50 : decode cX6_on 50 = .ok (.aload_n 0, 1) := by decide +kernel
theorem dX6_on_51 : decode cX6_on 51 = .ok (.aload_n 0, 1) := by decide +kernel
theorem dX6_on_52 : decode cX6_on 52 = .ok (.getfield 43, 3) := by decide +kernel
theorem dX6_on_55 : decode cX6_on 55 = .ok (.iconst 0, 1) := by decide +kernel
theorem dX6_on_56 : decode cX6_on 56 = .ok (.aload_n 0, 1) := by decide +kernel
theorem dX6_on_57 : decode cX6_on 57 = .ok (.getfield 69, 3) := by decide +kernel
theorem dX6_on_60 : decode cX6_on 60 = .ok (.sipush 496, 3) := by decide +kernel
theorem dX6_on_63 : decode cX6_on 63 = .ok (.iload_n 1, 1) := by decide +kernel
theorem dX6_on_64 : decode cX6_on 64 = .ok (.imul, 1) := by decide +kernel
theorem dX6_on_65 : decode cX6_on 65 = .ok (.sipush 480, 3) := by decide +kernel
theorem dX6_on_68 : decode cX6_on 68 = .ok (.iadd, 1) := by decide +kernel
theorem dX6_on_69 : decode cX6_on 69 = .ok (.bipush 12, 2) := by decide +kernel
theorem dX6_on_71 : decode cX6_on 71 = .ok (.invokevirtual 233, 3) := by decide +kernel
theorem dX6_on_74 : decode cX6_on 74 = .ok (.aload_n 0, 1) := by decide +kernel
theorem dX6_on_75 : decode cX6_on 75 = .ok (.aload_n 0, 1) := by decide +kernel
theorem dX6_on_76 : decode cX6_on 76 = .ok (.getfield 40, 3) := by decide +kernel
theorem dX6_on_79 : decode cX6_on 79 = .ok (.iconst 0, 1) := by decide +kernel
theorem dX6_on_80 : decode cX6_on 80 = .ok (.aload_n 0, 1) := by decide +kernel
theorem dX6_on_81 : decode cX6_on 81 = .ok (.getfield 69, 3) := by decide +kernel
theorem dX6_on_84 : decode cX6_on 84 = .ok (.sipush 496, 3) := by decide +kernel
theorem dX6_on_87 : decode cX6_on 87 = .ok (.iload_n 1, 1) := by decide +kernel
theorem dX6_on_88 : decode cX6_on 88 = .ok (.imul, 1) := by decide +kernel
theorem dX6_on_89 : decode cX6_on 89 = .ok (.sipush 492, 3) := by decide +kernel
theorem dX6_on_92 : decode cX6_on 92 = .ok (.iadd, 1) := by decide +kernel
theorem dX6_on_93 : decode cX6_on 93 = .ok (.iconst 3, 1) := by decide +kernel
theorem dX6_on_94 : decode cX6_on 94 = .ok (.invokevirtual 233, 3) := by decide +kernel
theorem dX6_on_97 : decode cX6_on 97 = .ok (.aload_n 0, 1) := by decide +kernel
theorem dX6_on_98 : decode cX6_on 98 = .ok (.aload_n 0, 1) := by decide +kernel
theorem dX6_on_99 : decode cX6_on 99 = .ok (.getfield 69, 3) := by decide +kernel
theorem dX6_on_102 : decode cX6_on 102 = .ok (.sipush 496, 3) := by decide +kernel
theorem dX6_on_105 : decode cX6_on 105 = .ok (.iload_n 1, 1) := by decide +kernel
theorem dX6_on_106 : decode cX6_on 106 = .ok (.imul, 1) := by decide +kernel
theorem dX6_on_107 : decode cX6_on 107 = .ok (.sipush 495, 3) := by decide +kernel
theorem dX6_on_110 : decode cX6_on 110 = .ok (.iadd, 1) := by decide +kernel
theorem dX6_on_111 : decode cX6_on 111 = .ok (.iaload, 1) := by decide +kernel
theorem dX6_on_112 : decode cX6_on 112 = .ok (.putfield 162, 3) := by decide +kernel
theorem dX6_on_115 : decode cX6_on 115 = .ok (.aload_n 0, 1) := by decide +kernel
theorem dX6_on_116 : decode cX6_on 116 = .ok (.getfield 162, 3) := by decide +kernel
theorem dX6_on_119 : decode cX6_on 119 = .ok (.ireturn, 1) := by decide +kernel
theorem dX6_can_0 : decode cX6_can 0 = .ok (.aload_n 0, 1) := by decide +kernel
theorem dX6_can_1 : decode cX6_can 1 = .ok (.iload_n 1, 1) := by decide +kernel
theorem dX6_can_2 : decode cX6_can 2 = .ok (.invokevirtual 189, 3) := by decide +kernel
theorem dX6_can_5 : decode cX6_can 5 = .ok (.ifCond .ne 5, 3) := by decide +kernel
theorem dX6_can_8 : decode cX6_can 8 = .ok (.iconst (-1), 1) := by decide +kernel
theorem dX6_can_9 : decode cX6_can 9 = .ok (.ireturn, 1) := by decide +kernel
theorem dX6_can_10 : decode cX6_can 10 = .ok (.iconst 0, 1) := by decide +kernel
theorem dX6_can_11 : decode cX6_can 11 = .ok (.istore_n 2, 1) := by decide +kernel
theorem dX6_can_12 : decode cX6_can 12 = .ok (.iconst 0, 1) := by decide +kernel
theorem dX6_can_13 : decode cX6_can 13 = .ok (.istore_n 3, 1) := by decide +kernel
theorem dX6_can_14 : decode cX6_can 14 = .ok (.iload_n 3, 1) := by decide +kernel
theorem dX6_can_15 : decode cX6_can 15 = .ok (.aload_n 0, 1) := by decide +kernel
theorem dX6_can_16 : decode cX6_can 16 = .ok (.getfield 156, 3) := by decide +kernel
theorem dX6_can_19 : decode cX6_can 19 = .ok (.if_icmp .ge 28, 3) := by decide +kernel
theorem dX6_can_22 : decode cX6_can 22 = .ok (.iload_n 2, 1) := by decide +kernel
theorem dX6_can_23 : decode cX6_can 23 = .ok (.aload_n 0, 1) := by decide +kernel
theorem dX6_can_24 : decode cX6_can 24 = .ok (.iload_n 3, 1) := by decide +kernel
theorem dX6_can_25 : decode cX6_can 25 = .ok (.iload_n 1, 1) := by decide +kernel
theorem dX6_can_26 : decode cX6_can 26 = .ok (.invokevirtual 216, 3) := by decide +kernel
theorem dX6_can_29 : decode cX6_can 29 = .ok (.ifCond .eq 9, 3) := by decide +kernel
theorem dX6_can_32 : decode cX6_can 32 = .ok (.iconst 1, 1) := by decide +kernel
theorem dX6_can_33 : decode cX6_can 33 = .ok (.iload_n 3, 1) := by decide +kernel
theorem dX6_can_34 : decode cX6_can 34 = .ok (.ishl, 1) := by decide +kernel
theorem dX6_can_35 : decode cX6_can 35 = .ok (.goto 4, 3) := by decide +kernel
theorem dX6_can_38 : decode cX6_can 38 = .ok (.iconst 0, 1) := by decide +kernel
theorem dX6_can_39 : decode cX6_can 39 = .ok (.ior, 1) := by decide +kernel
theorem dX6_can_40 : decode cX6_can 40 = .ok (.istore_n 2, 1) := by decide +kernel
theorem dX6_can_41 : decode cX6_can 41 = .ok (.iinc 3 1, 3) := by decide +kernel
theorem dX6_can_44 : decode cX6_can 44 = .ok (.goto (-30), 3) := by decide +kernel
theorem dX6_can_47 : decode cX6_can 47 = .ok (.iload_n 2, 1) := by decide +kernel
theorem dX6_can_48 : decode cX6_can 48 = .ok (.ireturn, 1) := by decide +kernel
theorem dX6_why_0 : decode cX6_why 0 = .ok (.aload_n 0, 1) := by decide +kernel
theorem dX6_why_1 : decode cX6_why 1 = .ok (.iload_n 1, 1) := by decide +kernel
theorem dX6_why_2 : decode cX6_why 2 = .ok (.invokevirtual 168, 3) := by decide +kernel
theorem dX6_why_5 : decode cX6_why 5 = .ok (.ifCond .eq 11, 3) := by decide +kernel
theorem dX6_why_8 : decode cX6_why 8 = .ok (.aload_n 0, 1) := by decide +kernel
theorem dX6_why_9 : decode cX6_why 9 = .ok (.iload_n 2, 1) := by decide +kernel
theorem dX6_why_10 : decode cX6_why 10 = .ok (.invokevirtual 189, 3) := by decide +kernel
theorem dX6_why_13 : decode cX6_why 13 = .ok (.ifCond .ne 5, 3) := by decide +kernel
theorem dX6_why_16 : decode cX6_why 16 = .ok (.iconst (-1), 1) := by decide +kernel
theorem dX6_why_17 : decode cX6_why 17 = .ok (.ireturn, 1) := by decide +kernel
theorem dX6_why_18 : decode cX6_why 18 = .ok (.aload_n 0, 1) := by decide +kernel
theorem dX6_why_19 : decode cX6_why 19 = .ok (.getfield 43, 3) := by decide +kernel
theorem dX6_why_22 : decode cX6_why 22 = .ok (.iconst 3, 1) := by decide +kernel
theorem dX6_why_23 : decode cX6_why 23 = .ok (.iaload, 1) := by decide +kernel
theorem dX6_why_24 : decode cX6_why 24 = .ok (.iload_n 1, 1) := by decide +kernel
theorem dX6_why_25 : decode cX6_why 25 = .ok (.invokestatic 136, 3) := by decide +kernel
theorem dX6_why_28 : decode cX6_why 28 = .ok (.ifCond .eq 11, 3) := by decide +kernel
theorem dX6_why_31 : decode cX6_why 31 = .ok (.aload_n 0, 1) := by decide +kernel
theorem dX6_why_32 : decode cX6_why 32 = .ok (.iconst 1, 1) := by decide +kernel
theorem dX6_why_33 : decode cX6_why 33 = .ok (.bipush (-9), 2) := by decide +kernel
theorem dX6_why_35 : decode cX6_why 35 = .ok (.invokevirtual 111, 3) := by decide +kernel
theorem dX6_why_38 : decode cX6_why 38 = .ok (.ireturn, 1) := by decide +kernel
theorem dX6_why_39 : decode cX6_why 39 = .ok (.aload_n 0, 1) := by decide +kernel
theorem dX6_why_40 : decode cX6_why 40 = .ok (.getfield 28, 3) := by decide +kernel
theorem dX6_why_43 : decode cX6_why 43 = .ok (.iload_n 1, 1) := by decide +kernel
theorem dX6_why_44 : decode cX6_why 44 = .ok (.iaload, 1) := by decide +kernel
theorem dX6_why_45 : decode cX6_why 45 = .ok (.aload_n 0, 1) := by decide +kernel
theorem dX6_why_46 : decode cX6_why 46 = .ok (.getfield 43, 3) := by decide +kernel
theorem dX6_why_49 : decode cX6_why 49 = .ok (.iconst 3, 1) := by decide +kernel
theorem dX6_why_50 : decode cX6_why 50 = .ok (.iaload, 1) := by decide +kernel
theorem dX6_why_51 : decode cX6_why 51 = .ok (.iconst (-1), 1) := by decide +kernel
theorem dX6_why_52 : decode cX6_why 52 = .ok (.ixor, 1) := by decide +kernel
theorem dX6_why_53 : decode cX6_why 53 = .ok (.iand, 1) := by decide +kernel
theorem dX6_why_54 : decode cX6_why 54 = .ok (.istore_n 3, 1) := by decide +kernel
theorem dX6_why_55 : decode cX6_why 55 = .ok (.iload_n 3, 1) := by decide +kernel
theorem dX6_why_56 : decode cX6_why 56 = .ok (.ifCond .eq 29, 3) := by decide +kernel
theorem dX6_why_59 : decode cX6_why 59 = .ok (.iconst 0, 1) := by decide +kernel
theorem dX6_why_60 : decode cX6_why 60 = .ok (.istore 4, 2) := by decide +kernel
theorem dX6_why_62 : decode cX6_why 62 = .ok (.iload_n 3, 1) := by decide +kernel
theorem dX6_why_63 : decode cX6_why 63 = .ok (.iload 4, 2) := by decide +kernel
theorem dX6_why_65 : decode cX6_why 65 = .ok (.invokestatic 136, 3) := by decide +kernel
theorem dX6_why_68 : decode cX6_why 68 = .ok (.ifCond .ne 9, 3) := by decide +kernel
theorem dX6_why_71 : decode cX6_why 71 = .ok (.iinc 4 1, 3) := by decide +kernel
theorem dX6_why_74 : decode cX6_why 74 = .ok (.goto (-12), 3) := by decide +kernel
theorem dX6_why_77 : decode cX6_why 77 = .ok (.aload_n 0, 1) := by decide +kernel
theorem dX6_why_78 : decode cX6_why 78 = .ok (.iconst 2, 1) := by decide +kernel
theorem dX6_why_79 : decode cX6_why 79 = .ok (.iload 4, 2) := by decide +kernel
theorem dX6_why_81 : decode cX6_why 81 = .ok (.invokevirtual 111, 3) := by decide +kernel
theorem dX6_why_84 : decode cX6_why 84 = .ok (.ireturn, 1) := by decide +kernel
theorem dX6_why_85 : decode cX6_why 85 = .ok (.aload_n 0, 1) := by decide +kernel
theorem dX6_why_86 : decode cX6_why 86 = .ok (.aload_n 0, 1) := by decide +kernel
theorem dX6_why_87 : decode cX6_why 87 = .ok (.iload_n 1, 1) := by decide +kernel
theorem dX6_why_88 : decode cX6_why 88 = .ok (.iload_n 2, 1) := by decide +kernel
theorem dX6_why_89 : decode cX6_why 89 = .ok (.invokevirtual 203, 3) := by decide +kernel
theorem dX6_why_92 : decode cX6_why 92 = .ok (.ifCond .ne 7, 3) := by decide +kernel
theorem dX6_why_95 : decode cX6_why 95 = .ok (.iconst 3, 1) := by decide +kernel
theorem dX6_why_96 : decode cX6_why 96 = .ok (.goto 29, 3) := by decide +kernel
theorem dX6_why_99 : decode cX6_why 99 = .ok (.aload_n 0, 1) := by decide +kernel
theorem dX6_why_100 : decode cX6_why 100 = .ok (.iload_n 1, 1) := by decide +kernel
theorem dX6_why_101 : decode cX6_why 101 = .ok (.iload_n 2, 1) := by decide +kernel
theorem dX6_why_102 : decode cX6_why 102 = .ok (.aload_n 0, 1) := by decide +kernel
theorem dX6_why_103 : decode cX6_why 103 = .ok (.getfield 43, 3) := by decide +kernel
theorem dX6_why_106 : decode cX6_why 106 = .ok (.iconst 3, 1) := by decide +kernel
theorem dX6_why_107 : decode cX6_why 107 = .ok (.iaload, 1) := by decide +kernel
theorem dX6_why_108 : decode cX6_why 108 = .ok (.aload_n 0, 1) := by decide +kernel
theorem dX6_why_109 : decode cX6_why 109 = .ok (.getfield 43, 3) := by decide +kernel
theorem dX6_why_112 : decode cX6_why 112 = .ok (.iconst 4, 1) := by decide +kernel
theorem dX6_why_113 : decode cX6_why 113 = .ok (.iaload, 1) := by decide +kernel
theorem dX6_why_114 : decode cX6_why 114 = .ok (.invokevirtual 206, 3) := by decide +kernel
theorem dX6_why_117 : decode cX6_why 117 = .ok (.ifCond .eq 7, 3) := by decide +kernel
theorem dX6_why_120 : decode cX6_why 120 = .ok (.iconst 0, 1) := by decide +kernel
theorem dX6_why_121 : decode cX6_why 121 = .ok (.goto 4, 3) := by decide +kernel
theorem dX6_why_124 : decode cX6_why 124 = .ok (.iconst 4, 1) := by decide +kernel
theorem dX6_why_125 : decode cX6_why 125 = .ok (.bipush (-9), 2) := by decide +kernel
theorem dX6_why_127 : decode cX6_why 127 = .ok (.invokevirtual 111, 3) := by decide +kernel
theorem dX6_why_130 : decode cX6_why 130 = .ok (.ireturn, 1) := by decide +kernel
theorem dX6_opens_0 : decode cX6_opens 0 = .ok (.aload_n 0, 1) := by decide +kernel
theorem dX6_opens_1 : decode cX6_opens 1 = .ok (.iload_n 1, 1) := by decide +kernel
theorem dX6_opens_2 : decode cX6_opens 2 = .ok (.invokevirtual 168, 3) := by decide +kernel
theorem dX6_opens_5 : decode cX6_opens 5 = .ok (.ifCond .ne 5, 3) := by decide +kernel
theorem dX6_opens_8 : decode cX6_opens 8 = .ok (.iconst (-1), 1) := by decide +kernel
theorem dX6_opens_9 : decode cX6_opens 9 = .ok (.ireturn, 1) := by decide +kernel
theorem dX6_opens_10 : decode cX6_opens 10 = .ok (.iconst 0, 1) := by decide +kernel
theorem dX6_opens_11 : decode cX6_opens 11 = .ok (.istore_n 2, 1) := by decide +kernel
theorem dX6_opens_12 : decode cX6_opens 12 = .ok (.iconst 0, 1) := by decide +kernel
theorem dX6_opens_13 : decode cX6_opens 13 = .ok (.istore_n 3, 1) := by decide +kernel
theorem dX6_opens_14 : decode cX6_opens 14 = .ok (.iload_n 3, 1) := by decide +kernel
theorem dX6_opens_15 : decode cX6_opens 15 = .ok (.aload_n 0, 1) := by decide +kernel
theorem dX6_opens_16 : decode cX6_opens 16 = .ok (.getfield 156, 3) := by decide +kernel
theorem dX6_opens_19 : decode cX6_opens 19 = .ok (.if_icmp .ge 31, 3) := by decide +kernel
theorem dX6_opens_22 : decode cX6_opens 22 = .ok (.iload_n 2, 1) := by decide +kernel
theorem dX6_opens_23 : decode cX6_opens 23 = .ok (.aload_n 0, 1) := by decide +kernel
theorem dX6_opens_24 : decode cX6_opens 24 = .ok (.iload_n 3, 1) := by decide +kernel
theorem dX6_opens_25 : decode cX6_opens 25 = .ok (.invokevirtual 165, 3) := by decide +kernel
theorem dX6_opens_28 : decode cX6_opens 28 = .ok (.iload_n 1, 1) := by decide +kernel
theorem dX6_opens_29 : decode cX6_opens 29 = .ok (.invokestatic 136, 3) := by decide +kernel
theorem dX6_opens_32 : decode cX6_opens 32 = .ok (.ifCond .eq 9, 3) := by decide +kernel
theorem dX6_opens_35 : decode cX6_opens 35 = .ok (.iconst 1, 1) := by decide +kernel
theorem dX6_opens_36 : decode cX6_opens 36 = .ok (.iload_n 3, 1) := by decide +kernel
theorem dX6_opens_37 : decode cX6_opens 37 = .ok (.ishl, 1) := by decide +kernel
theorem dX6_opens_38 : decode cX6_opens 38 = .ok (.goto 4, 3) := by decide +kernel
theorem dX6_opens_41 : decode cX6_opens 41 = .ok (.iconst 0, 1) := by decide +kernel
theorem dX6_opens_42 : decode cX6_opens 42 = .ok (.ior, 1) := by decide +kernel
theorem dX6_opens_43 : decode cX6_opens 43 = .ok (.istore_n 2, 1) := by decide +kernel
theorem dX6_opens_44 : decode cX6_opens 44 = .ok (.iinc 3 1, 3) := by decide +kernel
theorem dX6_opens_47 : decode cX6_opens 47 = .ok (.goto (-33), 3) := by decide +kernel
theorem dX6_opens_50 : decode cX6_opens 50 = .ok (.aload_n 0, 1) := by decide +kernel
theorem dX6_opens_51 : decode cX6_opens 51 = .ok (.iload_n 2, 1) := by decide +kernel
theorem dX6_opens_52 : decode cX6_opens 52 = .ok (.invokestatic 200, 3) := by decide +kernel
theorem dX6_opens_55 : decode cX6_opens 55 = .ok (.iload_n 2, 1) := by decide +kernel
theorem dX6_opens_56 : decode cX6_opens 56 = .ok (.invokevirtual 111, 3) := by decide +kernel
theorem dX6_opens_59 : decode cX6_opens 59 = .ok (.ireturn, 1) := by decide +kernel
theorem dX6_late_0 : decode cX6_late 0 = .ok (.aload_n 0, 1) := by decide +kernel
theorem dX6_late_1 : decode cX6_late 1 = .ok (.getfield 156, 3) := by decide +kernel
theorem dX6_late_4 : decode cX6_late 4 = .ok (.ifCond .ne 6, 3) := by decide +kernel
theorem dX6_late_7 : decode cX6_late 7 = .ok (.bipush (-4), 2) := by decide +kernel
theorem dX6_late_9 : decode cX6_late 9 = .ok (.ireturn, 1) := by decide +kernel
theorem dX6_late_10 : decode cX6_late 10 = .ok (.iconst 0, 1) := by decide +kernel
theorem dX6_late_11 : decode cX6_late 11 = .ok (.istore_n 1, 1) := by decide +kernel
theorem dX6_late_12 : decode cX6_late 12 = .ok (.iconst 0, 1) := by decide +kernel
theorem dX6_late_13 : decode cX6_late 13 = .ok (.istore_n 2, 1) := by decide +kernel
theorem dX6_late_14 : decode cX6_late 14 = .ok (.iconst 0, 1) := by decide +kernel
theorem dX6_late_15 : decode cX6_late 15 = .ok (.istore_n 3, 1) := by decide +kernel
theorem dX6_late_16 : decode cX6_late 16 = .ok (.iload_n 3, 1) := by decide +kernel
theorem dX6_late_17 : decode cX6_late 17 = .ok (.aload_n 0, 1) := by decide +kernel
theorem dX6_late_18 : decode cX6_late 18 = .ok (.getfield 159, 3) := by decide +kernel
theorem dX6_late_21 : decode cX6_late 21 = .ok (.if_icmp .ge 50, 3) := by decide +kernel
theorem dX6_late_24 : decode cX6_late 24 = .ok (.aload_n 0, 1) := by decide +kernel
theorem dX6_late_25 : decode cX6_late 25 = .ok (.iload_n 3, 1) := by decide +kernel
theorem dX6_late_26 : decode cX6_late 26 = .ok (.invokevirtual 180, 3) := by decide +kernel
theorem dX6_late_29 : decode cX6_late 29 = .ok (.iload_n 1, 1) := by decide +kernel
theorem dX6_late_30 : decode cX6_late 30 = .ok (.if_icmp .le 11, 3) := by decide +kernel
theorem dX6_late_33 : decode cX6_late 33 = .ok (.aload_n 0, 1) := by decide +kernel
theorem dX6_late_34 : decode cX6_late 34 = .ok (.iload_n 3, 1) := by decide +kernel
theorem dX6_late_35 : decode cX6_late 35 = .ok (.invokevirtual 180, 3) := by decide +kernel
theorem dX6_late_38 : decode cX6_late 38 = .ok (.goto 4, 3) := by decide +kernel
theorem dX6_late_41 : decode cX6_late 41 = .ok (.iload_n 1, 1) := by decide +kernel
theorem dX6_late_42 : decode cX6_late 42 = .ok (.istore_n 1, 1) := by decide +kernel
theorem dX6_late_43 : decode cX6_late 43 = .ok (.iload_n 2, 1) := by decide +kernel
theorem dX6_late_44 : decode cX6_late 44 = .ok (.aload_n 0, 1) := by decide +kernel
theorem dX6_late_45 : decode cX6_late 45 = .ok (.iload_n 3, 1) := by decide +kernel
theorem dX6_late_46 : decode cX6_late 46 = .ok (.invokevirtual 180, 3) := by decide +kernel
theorem dX6_late_49 : decode cX6_late 49 = .ok (.aload_n 0, 1) := by decide +kernel
theorem dX6_late_50 : decode cX6_late 50 = .ok (.getfield 43, 3) := by decide +kernel
theorem dX6_late_53 : decode cX6_late 53 = .ok (.iconst 0, 1) := by decide +kernel
theorem dX6_late_54 : decode cX6_late 54 = .ok (.iaload, 1) := by decide +kernel
theorem dX6_late_55 : decode cX6_late 55 = .ok (.if_icmp .le 7, 3) := by decide +kernel
theorem dX6_late_58 : decode cX6_late 58 = .ok (.iconst 1, 1) := by decide +kernel
theorem dX6_late_59 : decode cX6_late 59 = .ok (.goto 4, 3) := by decide +kernel
theorem dX6_late_62 : decode cX6_late 62 = .ok (.iconst 0, 1) := by decide +kernel
theorem dX6_late_63 : decode cX6_late 63 = .ok (.iadd, 1) := by decide +kernel
theorem dX6_late_64 : decode cX6_late 64 = .ok (.istore_n 2, 1) := by decide +kernel
theorem dX6_late_65 : decode cX6_late 65 = .ok (.iinc 3 1, 3) := by decide +kernel
theorem dX6_late_68 : decode cX6_late 68 = .ok (.goto (-52), 3) := by decide +kernel
theorem dX6_late_71 : decode cX6_late 71 = .ok (.aload_n 0, 1) := by decide +kernel
theorem dX6_late_72 : decode cX6_late 72 = .ok (.iload_n 1, 1) := by decide +kernel
theorem dX6_late_73 : decode cX6_late 73 = .ok (.iload_n 2, 1) := by decide +kernel
theorem dX6_late_74 : decode cX6_late 74 = .ok (.invokevirtual 111, 3) := by decide +kernel
theorem dX6_late_77 : decode cX6_late 77 = .ok (.ireturn, 1) := by decide +kernel
theorem dX6_lacksRow_0 : decode cX6_lacksRow 0 = .ok (.aload_n 0, 1) := by decide +kernel
theorem dX6_lacksRow_1 : decode cX6_lacksRow 1 = .ok (.getfield 156, 3) := by decide +kernel
theorem dX6_lacksRow_4 : decode cX6_lacksRow 4 = .ok (.ifCond .ne 6, 3) := by decide +kernel
theorem dX6_lacksRow_7 : decode cX6_lacksRow 7 = .ok (.bipush (-4), 2) := by decide +kernel
theorem dX6_lacksRow_9 : decode cX6_lacksRow 9 = .ok (.ireturn, 1) := by decide +kernel
theorem dX6_lacksRow_10 : decode cX6_lacksRow 10 = .ok (.aload_n 0, 1) := by decide +kernel
theorem dX6_lacksRow_11 : decode cX6_lacksRow 11 = .ok (.getfield 7, 3) := by decide +kernel
theorem dX6_lacksRow_14 : decode cX6_lacksRow 14 = .ok (.iload_n 1, 1) := by decide +kernel
theorem dX6_lacksRow_15 : decode cX6_lacksRow 15 = .ok (.iaload, 1) := by decide +kernel
theorem dX6_lacksRow_16 : decode cX6_lacksRow 16 = .ok (.ifCond .ge 11, 3) := by decide +kernel
theorem dX6_lacksRow_19 : decode cX6_lacksRow 19 = .ok (.aload_n 0, 1) := by decide +kernel
theorem dX6_lacksRow_20 : decode cX6_lacksRow 20 = .ok (.iconst 1, 1) := by decide +kernel
theorem dX6_lacksRow_21 : decode cX6_lacksRow 21 = .ok (.invokevirtual 103, 3) := by decide +kernel
theorem dX6_lacksRow_24 : decode cX6_lacksRow 24 = .ok (.goto 4, 3) := by decide +kernel
theorem dX6_lacksRow_27 : decode cX6_lacksRow 27 = .ok (.iconst 0, 1) := by decide +kernel
theorem dX6_lacksRow_28 : decode cX6_lacksRow 28 = .ok (.ireturn, 1) := by decide +kernel
theorem dX6_run_0 : decode cX6_run 0 = .ok (.iload_n 1, 1) := by decide +kernel
theorem dX6_run_1 : decode cX6_run 1 = .ok (.invokestatic 99, 3) := by decide +kernel
theorem dX6_run_4 : decode cX6_run 4 = .ok (.ifCond .ne 5, 3) := by decide +kernel
theorem dX6_run_7 : decode cX6_run 7 = .ok (.iconst (-1), 1) := by decide +kernel
theorem dX6_run_8 : decode cX6_run 8 = .ok (.ireturn, 1) := by decide +kernel
theorem dX6_run_9 : decode cX6_run 9 = .ok (.aload_n 0, 1) := by decide +kernel
theorem dX6_run_10 : decode cX6_run 10 = .ok (.iload_n 1, 1) := by decide +kernel
theorem dX6_run_11 : decode cX6_run 11 = .ok (.invokevirtual 237, 3) := by decide +kernel
theorem dX6_run_14 : decode cX6_run 14 = .ok (.istore_n 2, 1) := by decide +kernel
theorem dX6_run_15 : decode cX6_run 15 = .ok (.iload_n 2, 1) := by decide +kernel
theorem dX6_run_16 : decode cX6_run 16 = .ok (.ifCond .ge 5, 3) := by decide +kernel
theorem dX6_run_19 : decode cX6_run 19 = .ok (.iload_n 2, 1) := by decide +kernel
theorem dX6_run_20 : decode cX6_run 20 = .ok (.ireturn, 1) := by decide +kernel
theorem dX6_run_21 : decode cX6_run 21 = .ok (.aload_n 0, 1) := by decide +kernel
theorem dX6_run_22 : decode cX6_run 22 = .ok (.getfield 7, 3) := by decide +kernel
theorem dX6_run_25 : decode cX6_run 25 = .ok (.iload_n 1, 1) := by decide +kernel
theorem dX6_run_26 : decode cX6_run 26 = .ok (.iaload, 1) := by decide +kernel
theorem dX6_run_27 : decode cX6_run 27 = .ok (.iconst 2, 1) := by decide +kernel
theorem dX6_run_28 : decode cX6_run 28 = .ok (.irem, 1) := by decide +kernel
theorem dX6_run_29 : decode cX6_run 29 = .ok (.iconst 1, 1) := by decide +kernel
theorem dX6_run_30 : decode cX6_run 30 = .ok (.if_icmp .eq 14, 3) := by decide +kernel
theorem dX6_run_33 : decode cX6_run 33 = .ok (.aload_n 0, 1) := by decide +kernel
theorem dX6_run_34 : decode cX6_run 34 = .ok (.getfield 7, 3) := by decide +kernel
theorem dX6_run_37 : decode cX6_run 37 = .ok (.iload_n 1, 1) := by decide +kernel
theorem dX6_run_38 : decode cX6_run 38 = .ok (.iaload, 1) := by decide +kernel
theorem dX6_run_39 : decode cX6_run 39 = .ok (.bipush 14, 2) := by decide +kernel
theorem dX6_run_41 : decode cX6_run 41 = .ok (.if_icmp .le 9, 3) := by decide +kernel
theorem dX6_run_44 : decode cX6_run 44 = .ok (.aload_n 0, 1) := by decide +kernel
theorem dX6_run_45 : decode cX6_run 45 = .ok (.iconst 5, 1) := by decide +kernel
theorem dX6_run_46 : decode cX6_run 46 = .ok (.invokevirtual 103, 3) := by decide +kernel
theorem dX6_run_49 : decode cX6_run 49 = .ok (.ireturn, 1) := by decide +kernel
theorem dX6_run_50 : decode cX6_run 50 = .ok (.aload_n 0, 1) := by decide +kernel
theorem dX6_run_51 : decode cX6_run 51 = .ok (.getfield 7, 3) := by decide +kernel
theorem dX6_run_54 : decode cX6_run 54 = .ok (.iload_n 1, 1) := by decide +kernel
theorem dX6_run_55 : decode cX6_run 55 = .ok (.iaload, 1) := by decide +kernel
theorem dX6_run_56 : decode cX6_run 56 = .ok (.iconst 2, 1) := by decide +kernel
theorem dX6_run_57 : decode cX6_run 57 = .ok (.idiv, 1) := by decide +kernel
theorem dX6_run_58 : decode cX6_run 58 = .ok (.istore_n 3, 1) := by decide +kernel
theorem dX6_run_59 : decode cX6_run 59 = .ok (.iconst 0, 1) := by decide +kernel
theorem dX6_run_60 : decode cX6_run 60 = .ok (.istore 4, 2) := by decide +kernel
theorem dX6_run_62 : decode cX6_run 62 = .ok (.iload 4, 2) := by decide +kernel
theorem dX6_run_64 : decode cX6_run 64 = .ok (.iload_n 3, 1) := by decide +kernel
theorem dX6_run_65 : decode cX6_run 65 = .ok (.if_icmp .ge 70, 3) := by decide +kernel
theorem dX6_run_68 : decode cX6_run 68 = .ok (.aload_n 0, 1) := by decide +kernel
theorem dX6_run_69 : decode cX6_run 69 = .ok (.getfield 13, 3) := by decide +kernel
theorem dX6_run_72 : decode cX6_run 72 = .ok (.bipush 40, 2) := by decide +kernel
theorem dX6_run_74 : decode cX6_run 74 = .ok (.iload_n 1, 1) := by decide +kernel
theorem dX6_run_75 : decode cX6_run 75 = .ok (.imul, 1) := by decide +kernel
theorem dX6_run_76 : decode cX6_run 76 = .ok (.iconst 2, 1) := by decide +kernel
theorem dX6_run_77 : decode cX6_run 77 = .ok (.iload 4, 2) := by decide +kernel
theorem dX6_run_79 : decode cX6_run 79 = .ok (.imul, 1) := by decide +kernel
theorem dX6_run_80 : decode cX6_run 80 = .ok (.iadd, 1) := by decide +kernel
theorem dX6_run_81 : decode cX6_run 81 = .ok (.iconst 1, 1) := by decide +kernel
theorem dX6_run_82 : decode cX6_run 82 = .ok (.iadd, 1) := by decide +kernel
theorem dX6_run_83 : decode cX6_run 83 = .ok (.iaload, 1) := by decide +kernel
theorem dX6_run_84 : decode cX6_run 84 = .ok (.istore 5, 2) := by decide +kernel
theorem dX6_run_86 : decode cX6_run 86 = .ok (.aload_n 0, 1) := by decide +kernel
theorem dX6_run_87 : decode cX6_run 87 = .ok (.aload_n 0, 1) := by decide +kernel
theorem dX6_run_88 : decode cX6_run 88 = .ok (.getfield 13, 3) := by decide +kernel
theorem dX6_run_91 : decode cX6_run 91 = .ok (.bipush 40, 2) := by decide +kernel
theorem dX6_run_93 : decode cX6_run 93 = .ok (.iload_n 1, 1) := by decide +kernel
theorem dX6_run_94 : decode cX6_run 94 = .ok (.imul, 1) := by decide +kernel
theorem dX6_run_95 : decode cX6_run 95 = .ok (.iconst 2, 1) := by decide +kernel
theorem dX6_run_96 : decode cX6_run 96 = .ok (.iload 4, 2) := by decide +kernel
theorem dX6_run_98 : decode cX6_run 98 = .ok (.imul, 1) := by decide +kernel
theorem dX6_run_99 : decode cX6_run 99 = .ok (.iadd, 1) := by decide +kernel
theorem dX6_run_100 : decode cX6_run 100 = .ok (.iaload, 1) := by decide +kernel
theorem dX6_run_101 : decode cX6_run 101 = .ok (.invokevirtual 189, 3) := by decide +kernel
theorem dX6_run_104 : decode cX6_run 104 = .ok (.ifCond .eq 19, 3) := by decide +kernel
theorem dX6_run_107 : decode cX6_run 107 = .ok (.iload 5, 2) := by decide +kernel
theorem dX6_run_109 : decode cX6_run 109 = .ok (.bipush (-9), 2) := by decide +kernel
theorem dX6_run_111 : decode cX6_run 111 = .ok (.if_icmp .eq 18, 3) := by decide +kernel
theorem dX6_run_114 : decode cX6_run 114 = .ok (.aload_n 0, 1) := by decide +kernel
theorem dX6_run_115 : decode cX6_run 115 = .ok (.iload 5, 2) := by decide +kernel
theorem dX6_run_117 : decode cX6_run 117 = .ok (.invokevirtual 168, 3) := by decide +kernel
theorem dX6_run_120 : decode cX6_run 120 = .ok (.ifCond .ne 9, 3) := by decide +kernel
theorem dX6_run_123 : decode cX6_run 123 = .ok (.aload_n 0, 1) := by decide +kernel
theorem dX6_run_124 : decode cX6_run 124 = .ok (.iconst 3, 1) := by decide +kernel
theorem dX6_run_125 : decode cX6_run 125 = .ok (.invokevirtual 103, 3) := by decide +kernel
theorem dX6_run_128 : decode cX6_run 128 = .ok (.ireturn, 1) := by decide +kernel
theorem dX6_run_129 : decode cX6_run 129 = .ok (.iinc 4 1, 3) := by decide +kernel
theorem dX6_run_132 : decode cX6_run 132 = .ok (.goto (-70), 3) := by decide +kernel
theorem dX6_run_135 : decode cX6_run 135 = .ok (.aload_n 0, 1) := by decide +kernel
theorem dX6_run_136 : decode cX6_run 136 = .ok (.aload_n 0, 1) := by decide +kernel
theorem dX6_run_137 : decode cX6_run 137 = .ok (.getfield 43, 3) := by decide +kernel
theorem dX6_run_140 : decode cX6_run 140 = .ok (.iconst 0, 1) := by decide +kernel
theorem dX6_run_141 : decode cX6_run 141 = .ok (.iaload, 1) := by decide +kernel
theorem dX6_run_142 : decode cX6_run 142 = .ok (.invokevirtual 213, 3) := by decide +kernel
theorem dX6_run_145 : decode cX6_run 145 = .ok (.istore 4, 2) := by decide +kernel
theorem dX6_run_147 : decode cX6_run 147 = .ok (.aload_n 0, 1) := by decide +kernel
theorem dX6_run_148 : decode cX6_run 148 = .ok (.getfield 43, 3) := by decide +kernel
theorem dX6_run_151 : decode cX6_run 151 = .ok (.iconst 3, 1) := by decide +kernel
theorem dX6_run_152 : decode cX6_run 152 = .ok (.iaload, 1) := by decide +kernel
theorem dX6_run_153 : decode cX6_run 153 = .ok (.istore 5, 2) := by decide +kernel
theorem dX6_run_155 : decode cX6_run 155 = .ok (.aload_n 0, 1) := by decide +kernel
theorem dX6_run_156 : decode cX6_run 156 = .ok (.getfield 43, 3) := by decide +kernel
theorem dX6_run_159 : decode cX6_run 159 = .ok (.iconst 4, 1) := by decide +kernel
theorem dX6_run_160 : decode cX6_run 160 = .ok (.iaload, 1) := by decide +kernel
theorem dX6_run_161 : decode cX6_run 161 = .ok (.istore 6, 2) := by decide +kernel
theorem dX6_run_163 : decode cX6_run 163 = .ok (.iconst 0, 1) := by decide +kernel
theorem dX6_run_164 : decode cX6_run 164 = .ok (.istore 7, 2) := by decide +kernel
theorem dX6_run_166 : decode cX6_run 166 = .ok (.iconst 1, 1) := by decide +kernel
theorem dX6_run_167 : decode cX6_run 167 = .ok (.istore 8, 2) := by decide +kernel
theorem dX6_run_169 : decode cX6_run 169 = .ok (.iload 7, 2) := by decide +kernel
theorem dX6_run_171 : decode cX6_run 171 = .ok (.iload_n 3, 1) := by decide +kernel
theorem dX6_run_172 : decode cX6_run 172 = .ok (.if_icmp .ge 148, 3) := by decide +kernel
theorem dX6_run_175 : decode cX6_run 175 = .ok (.iload 8, 2) := by decide +kernel
theorem dX6_run_177 : decode cX6_run 177 = .ok (.ifCond .eq 143, 3) := by decide +kernel
theorem dX6_run_180 : decode cX6_run 180 = .ok (.aload_n 0, 1) := by decide +kernel
theorem dX6_run_181 : decode cX6_run 181 = .ok (.getfield 13, 3) := by decide +kernel
theorem dX6_run_184 : decode cX6_run 184 = .ok (.bipush 40, 2) := by decide +kernel
theorem dX6_run_186 : decode cX6_run 186 = .ok (.iload_n 1, 1) := by decide +kernel
theorem dX6_run_187 : decode cX6_run 187 = .ok (.imul, 1) := by decide +kernel
theorem dX6_run_188 : decode cX6_run 188 = .ok (.iconst 2, 1) := by decide +kernel
theorem dX6_run_189 : decode cX6_run 189 = .ok (.iload 7, 2) := by decide +kernel
theorem dX6_run_191 : decode cX6_run 191 = .ok (.imul, 1) := by decide +kernel
theorem dX6_run_192 : decode cX6_run 192 = .ok (.iadd, 1) := by decide +kernel
theorem dX6_run_193 : decode cX6_run 193 = .ok (.iaload, 1) := by decide +kernel
theorem dX6_run_194 : decode cX6_run 194 = .ok (.istore 9, 2) := by decide +kernel
theorem dX6_run_196 : decode cX6_run 196 = .ok (.aload_n 0, 1) := by decide +kernel
theorem dX6_run_197 : decode cX6_run 197 = .ok (.getfield 13, 3) := by decide +kernel
theorem dX6_run_200 : decode cX6_run 200 = .ok (.bipush 40, 2) := by decide +kernel
theorem dX6_run_202 : decode cX6_run 202 = .ok (.iload_n 1, 1) := by decide +kernel
theorem dX6_run_203 : decode cX6_run 203 = .ok (.imul, 1) := by decide +kernel
theorem dX6_run_204 : decode cX6_run 204 = .ok (.iconst 2, 1) := by decide +kernel
theorem dX6_run_205 : decode cX6_run 205 = .ok (.iload 7, 2) := by decide +kernel
theorem dX6_run_207 : decode cX6_run 207 = .ok (.imul, 1) := by decide +kernel
theorem dX6_run_208 : decode cX6_run 208 = .ok (.iadd, 1) := by decide +kernel
theorem dX6_run_209 : decode cX6_run 209 = .ok (.iconst 1, 1) := by decide +kernel
theorem dX6_run_210 : decode cX6_run 210 = .ok (.iadd, 1) := by decide +kernel
theorem dX6_run_211 : decode cX6_run 211 = .ok (.iaload, 1) := by decide +kernel
theorem dX6_run_212 : decode cX6_run 212 = .ok (.istore 10, 2) := by decide +kernel
theorem dX6_run_214 : decode cX6_run 214 = .ok (.iload 4, 2) := by decide +kernel
theorem dX6_run_216 : decode cX6_run 216 = .ok (.iload 9, 2) := by decide +kernel
theorem dX6_run_218 : decode cX6_run 218 = .ok (.invokestatic 136, 3) := by decide +kernel
theorem dX6_run_221 : decode cX6_run 221 = .ok (.ifCond .eq 27, 3) := by decide +kernel
theorem dX6_run_224 : decode cX6_run 224 = .ok (.iload 10, 2) := by decide +kernel
theorem dX6_run_226 : decode cX6_run 226 = .ok (.ifCond .lt 18, 3) := by decide +kernel
theorem dX6_run_229 : decode cX6_run 229 = .ok (.aload_n 0, 1) := by decide +kernel
theorem dX6_run_230 : decode cX6_run 230 = .ok (.iload 10, 2) := by decide +kernel
theorem dX6_run_232 : decode cX6_run 232 = .ok (.iload 9, 2) := by decide +kernel
theorem dX6_run_234 : decode cX6_run 234 = .ok (.iload 5, 2) := by decide +kernel
theorem dX6_run_236 : decode cX6_run 236 = .ok (.iload 6, 2) := by decide +kernel
theorem dX6_run_238 : decode cX6_run 238 = .ok (.invokevirtual 210, 3) := by decide +kernel
theorem dX6_run_241 : decode cX6_run 241 = .ok (.ifCond .eq 7, 3) := by decide +kernel
theorem dX6_run_244 : decode cX6_run 244 = .ok (.iconst 1, 1) := by decide +kernel
theorem dX6_run_245 : decode cX6_run 245 = .ok (.goto 4, 3) := by decide +kernel
theorem dX6_run_248 : decode cX6_run 248 = .ok (.iconst 0, 1) := by decide +kernel
theorem dX6_run_249 : decode cX6_run 249 = .ok (.istore 8, 2) := by decide +kernel
theorem dX6_run_251 : decode cX6_run 251 = .ok (.iload 8, 2) := by decide +kernel
theorem dX6_run_253 : decode cX6_run 253 = .ok (.ifCond .eq 64, 3) := by decide +kernel
theorem dX6_run_256 : decode cX6_run 256 = .ok (.iload 4, 2) := by decide +kernel
theorem dX6_run_258 : decode cX6_run 258 = .ok (.iconst 1, 1) := by decide +kernel
theorem dX6_run_259 : decode cX6_run 259 = .ok (.iload 9, 2) := by decide +kernel
theorem dX6_run_261 : decode cX6_run 261 = .ok (.ishl, 1) := by decide +kernel
theorem dX6_run_262 : decode cX6_run 262 = .ok (.iconst (-1), 1) := by decide +kernel
theorem dX6_run_263 : decode cX6_run 263 = .ok (.ixor, 1) := by decide +kernel
theorem dX6_run_264 : decode cX6_run 264 = .ok (.iand, 1) := by decide +kernel
theorem dX6_run_265 : decode cX6_run 265 = .ok (.istore 4, 2) := by decide +kernel
theorem dX6_run_267 : decode cX6_run 267 = .ok (.iload 5, 2) := by decide +kernel
theorem dX6_run_269 : decode cX6_run 269 = .ok (.iload 10, 2) := by decide +kernel
theorem dX6_run_271 : decode cX6_run 271 = .ok (.ifCond .ge 7, 3) := by decide +kernel
theorem dX6_run_274 : decode cX6_run 274 = .ok (.iconst 0, 1) := by decide +kernel
theorem dX6_run_275 : decode cX6_run 275 = .ok (.goto 7, 3) := by decide +kernel
theorem dX6_run_278 : decode cX6_run 278 = .ok (.iconst 1, 1) := by decide +kernel
theorem dX6_run_279 : decode cX6_run 279 = .ok (.iload 10, 2) := by decide +kernel
theorem dX6_run_281 : decode cX6_run 281 = .ok (.ishl, 1) := by decide +kernel
theorem dX6_run_282 : decode cX6_run 282 = .ok (.ior, 1) := by decide +kernel
theorem dX6_run_283 : decode cX6_run 283 = .ok (.istore 5, 2) := by decide +kernel
theorem dX6_run_285 : decode cX6_run 285 = .ok (.iload 10, 2) := by decide +kernel
theorem dX6_run_287 : decode cX6_run 287 = .ok (.ifCond .lt 21, 3) := by decide +kernel
theorem dX6_run_290 : decode cX6_run 290 = .ok (.aload_n 0, 1) := by decide +kernel
theorem dX6_run_291 : decode cX6_run 291 = .ok (.getfield 22, 3) := by decide +kernel
theorem dX6_run_294 : decode cX6_run 294 = .ok (.iload 10, 2) := by decide +kernel
theorem dX6_run_296 : decode cX6_run 296 = .ok (.iaload, 1) := by decide +kernel
theorem dX6_run_297 : decode cX6_run 297 = .ok (.iconst 1, 1) := by decide +kernel
theorem dX6_run_298 : decode cX6_run 298 = .ok (.invokestatic 195, 3) := by decide +kernel
theorem dX6_run_301 : decode cX6_run 301 = .ok (.ifCond .eq 7, 3) := by decide +kernel
theorem dX6_run_304 : decode cX6_run 304 = .ok (.iconst 0, 1) := by decide +kernel
theorem dX6_run_305 : decode cX6_run 305 = .ok (.goto 7, 3) := by decide +kernel
theorem dX6_run_308 : decode cX6_run 308 = .ok (.iload 6, 2) := by decide +kernel
theorem dX6_run_310 : decode cX6_run 310 = .ok (.iconst 1, 1) := by decide +kernel
theorem dX6_run_311 : decode cX6_run 311 = .ok (.iadd, 1) := by decide +kernel
theorem dX6_run_312 : decode cX6_run 312 = .ok (.istore 6, 2) := by decide +kernel
theorem dX6_run_314 : decode cX6_run 314 = .ok (.iinc 7 1, 3) := by decide +kernel
theorem dX6_run_317 : decode cX6_run 317 = .ok (.goto (-148), 3) := by decide +kernel
theorem dX6_run_320 : decode cX6_run 320 = .ok (.aload_n 0, 1) := by decide +kernel
theorem dX6_run_321 : decode cX6_run 321 = .ok (.iload 7, 2) := by decide +kernel
theorem dX6_run_323 : decode cX6_run 323 = .ok (.iload 5, 2) := by decide +kernel
theorem dX6_run_325 : decode cX6_run 325 = .ok (.invokevirtual 111, 3) := by decide +kernel
theorem dX6_run_328 : decode cX6_run 328 = .ok (.ireturn, 1) := by decide +kernel
theorem dX6_caseOf_0 : decode cX6_caseOf 0 = .ok (.sipush 192, 3) := by decide +kernel
theorem dX6_caseOf_3 : decode cX6_caseOf 3 = .ok (.iload_n 0, 1) := by decide +kernel
theorem dX6_caseOf_4 : decode cX6_caseOf 4 = .ok (.imul, 1) := by decide +kernel
theorem dX6_caseOf_5 : decode cX6_caseOf 5 = .ok (.iconst 3, 1) := by decide +kernel
theorem dX6_caseOf_6 : decode cX6_caseOf 6 = .ok (.iload_n 1, 1) := by decide +kernel
theorem dX6_caseOf_7 : decode cX6_caseOf 7 = .ok (.imul, 1) := by decide +kernel
theorem dX6_caseOf_8 : decode cX6_caseOf 8 = .ok (.iadd, 1) := by decide +kernel
theorem dX6_caseOf_9 : decode cX6_caseOf 9 = .ok (.iload_n 2, 1) := by decide +kernel
theorem dX6_caseOf_10 : decode cX6_caseOf 10 = .ok (.iconst 2, 1) := by decide +kernel
theorem dX6_caseOf_11 : decode cX6_caseOf 11 = .ok (.if_icmp .le 7, 3) := by decide +kernel
theorem dX6_caseOf_14 : decode cX6_caseOf 14 = .ok (.iconst 2, 1) := by decide +kernel
theorem dX6_caseOf_15 : decode cX6_caseOf 15 = .ok (.goto 4, 3) := by decide +kernel
theorem dX6_caseOf_18 : decode cX6_caseOf 18 = .ok (.iload_n 2, 1) := by decide +kernel
theorem dX6_caseOf_19 : decode cX6_caseOf 19 = .ok (.iadd, 1) := by decide +kernel
theorem dX6_caseOf_20 : decode cX6_caseOf 20 = .ok (.ireturn, 1) := by decide +kernel
theorem dX6_behind_0 : decode cX6_behind 0 = .ok (.iload_n 1, 1) := by decide +kernel
theorem dX6_behind_1 : decode cX6_behind 1 = .ok (.iconst 3, 1) := by decide +kernel
theorem dX6_behind_2 : decode cX6_behind 2 = .ok (.idiv, 1) := by decide +kernel
theorem dX6_behind_3 : decode cX6_behind 3 = .ok (.bipush 64, 2) := by decide +kernel
theorem dX6_behind_5 : decode cX6_behind 5 = .ok (.irem, 1) := by decide +kernel
theorem dX6_behind_6 : decode cX6_behind 6 = .ok (.iload_n 3, 1) := by decide +kernel
theorem dX6_behind_7 : decode cX6_behind 7 = .ok (.ifCond .ge 7, 3) := by decide +kernel
theorem dX6_behind_10 : decode cX6_behind 10 = .ok (.iconst 0, 1) := by decide +kernel
theorem dX6_behind_11 : decode cX6_behind 11 = .ok (.goto 6, 3) := by decide +kernel
theorem dX6_behind_14 : decode cX6_behind 14 = .ok (.iconst 1, 1) := by decide +kernel
theorem dX6_behind_15 : decode cX6_behind 15 = .ok (.iload_n 3, 1) := by decide +kernel
theorem dX6_behind_16 : decode cX6_behind 16 = .ok (.ishl, 1) := by decide +kernel
theorem dX6_behind_17 : decode cX6_behind 17 = .ok (.ior, 1) := by decide +kernel
theorem dX6_behind_18 : decode cX6_behind 18 = .ok (.istore 4, 2) := by decide +kernel
theorem dX6_behind_20 : decode cX6_behind 20 = .ok (.iload_n 3, 1) := by decide +kernel
theorem dX6_behind_21 : decode cX6_behind 21 = .ok (.ifCond .lt 20, 3) := by decide +kernel
theorem dX6_behind_24 : decode cX6_behind 24 = .ok (.aload_n 0, 1) := by decide +kernel
theorem dX6_behind_25 : decode cX6_behind 25 = .ok (.getfield 22, 3) := by decide +kernel
theorem dX6_behind_28 : decode cX6_behind 28 = .ok (.iload_n 3, 1) := by decide +kernel
theorem dX6_behind_29 : decode cX6_behind 29 = .ok (.iaload, 1) := by decide +kernel
theorem dX6_behind_30 : decode cX6_behind 30 = .ok (.iconst 1, 1) := by decide +kernel
theorem dX6_behind_31 : decode cX6_behind 31 = .ok (.invokestatic 195, 3) := by decide +kernel
theorem dX6_behind_34 : decode cX6_behind 34 = .ok (.ifCond .eq 7, 3) := by decide +kernel
theorem dX6_behind_37 : decode cX6_behind 37 = .ok (.iconst 0, 1) := by decide +kernel
theorem dX6_behind_38 : decode cX6_behind 38 = .ok (.goto 8, 3) := by decide +kernel
theorem dX6_behind_41 : decode cX6_behind 41 = .ok (.iload_n 1, 1) := by decide +kernel
theorem dX6_behind_42 : decode cX6_behind 42 = .ok (.iconst 3, 1) := by decide +kernel
theorem dX6_behind_43 : decode cX6_behind 43 = .ok (.irem, 1) := by decide +kernel
theorem dX6_behind_44 : decode cX6_behind 44 = .ok (.iconst 1, 1) := by decide +kernel
theorem dX6_behind_45 : decode cX6_behind 45 = .ok (.iadd, 1) := by decide +kernel
theorem dX6_behind_46 : decode cX6_behind 46 = .ok (.istore 5, 2) := by decide +kernel
theorem dX6_behind_48 : decode cX6_behind 48 = .ok (.iload_n 1, 1) := by decide +kernel
theorem dX6_behind_49 : decode cX6_behind 49 = .ok (.sipush 192, 3) := by decide +kernel
theorem dX6_behind_52 : decode cX6_behind 52 = .ok (.idiv, 1) := by decide +kernel
theorem dX6_behind_53 : decode cX6_behind 53 = .ok (.iconst 1, 1) := by decide +kernel
theorem dX6_behind_54 : decode cX6_behind 54 = .ok (.iload_n 2, 1) := by decide +kernel
theorem dX6_behind_55 : decode cX6_behind 55 = .ok (.ishl, 1) := by decide +kernel
theorem dX6_behind_56 : decode cX6_behind 56 = .ok (.ior, 1) := by decide +kernel
theorem dX6_behind_57 : decode cX6_behind 57 = .ok (.iload 4, 2) := by decide +kernel
theorem dX6_behind_59 : decode cX6_behind 59 = .ok (.iload 5, 2) := by decide +kernel
theorem dX6_behind_61 : decode cX6_behind 61 = .ok (.invokestatic 240, 3) := by decide +kernel
theorem dX6_behind_64 : decode cX6_behind 64 = .ok (.ireturn, 1) := by decide +kernel
theorem dX6_leads_0 : decode cX6_leads 0 = .ok (.iload 4, 2) := by decide +kernel
theorem dX6_leads_2 : decode cX6_leads 2 = .ok (.iload_n 2, 1) := by decide +kernel
theorem dX6_leads_3 : decode cX6_leads 3 = .ok (.invokestatic 136, 3) := by decide +kernel
theorem dX6_leads_6 : decode cX6_leads 6 = .ok (.ifCond .eq 41, 3) := by decide +kernel
theorem dX6_leads_9 : decode cX6_leads 9 = .ok (.iload_n 1, 1) := by decide +kernel
theorem dX6_leads_10 : decode cX6_leads 10 = .ok (.sipush 192, 3) := by decide +kernel
theorem dX6_leads_13 : decode cX6_leads 13 = .ok (.idiv, 1) := by decide +kernel
theorem dX6_leads_14 : decode cX6_leads 14 = .ok (.iload_n 2, 1) := by decide +kernel
theorem dX6_leads_15 : decode cX6_leads 15 = .ok (.invokestatic 136, 3) := by decide +kernel
theorem dX6_leads_18 : decode cX6_leads 18 = .ok (.ifCond .ne 29, 3) := by decide +kernel
theorem dX6_leads_21 : decode cX6_leads 21 = .ok (.iload_n 3, 1) := by decide +kernel
theorem dX6_leads_22 : decode cX6_leads 22 = .ok (.ifCond .lt 21, 3) := by decide +kernel
theorem dX6_leads_25 : decode cX6_leads 25 = .ok (.aload_n 0, 1) := by decide +kernel
theorem dX6_leads_26 : decode cX6_leads 26 = .ok (.iload_n 3, 1) := by decide +kernel
theorem dX6_leads_27 : decode cX6_leads 27 = .ok (.iload_n 2, 1) := by decide +kernel
theorem dX6_leads_28 : decode cX6_leads 28 = .ok (.iload_n 1, 1) := by decide +kernel
theorem dX6_leads_29 : decode cX6_leads 29 = .ok (.iconst 3, 1) := by decide +kernel
theorem dX6_leads_30 : decode cX6_leads 30 = .ok (.idiv, 1) := by decide +kernel
theorem dX6_leads_31 : decode cX6_leads 31 = .ok (.bipush 64, 2) := by decide +kernel
theorem dX6_leads_33 : decode cX6_leads 33 = .ok (.irem, 1) := by decide +kernel
theorem dX6_leads_34 : decode cX6_leads 34 = .ok (.iload_n 1, 1) := by decide +kernel
theorem dX6_leads_35 : decode cX6_leads 35 = .ok (.iconst 3, 1) := by decide +kernel
theorem dX6_leads_36 : decode cX6_leads 36 = .ok (.irem, 1) := by decide +kernel
theorem dX6_leads_37 : decode cX6_leads 37 = .ok (.invokevirtual 210, 3) := by decide +kernel
theorem dX6_leads_40 : decode cX6_leads 40 = .ok (.ifCond .eq 7, 3) := by decide +kernel
theorem dX6_leads_43 : decode cX6_leads 43 = .ok (.iconst 1, 1) := by decide +kernel
theorem dX6_leads_44 : decode cX6_leads 44 = .ok (.goto 4, 3) := by decide +kernel
theorem dX6_leads_47 : decode cX6_leads 47 = .ok (.iconst 0, 1) := by decide +kernel
theorem dX6_leads_48 : decode cX6_leads 48 = .ok (.ireturn, 1) := by decide +kernel
theorem dX6_begin_0 : decode cX6_begin 0 = .ok (.iconst 0, 1) := by decide +kernel
theorem dX6_begin_1 : decode cX6_begin 1 = .ok (.aload_n 0, 1) := by decide +kernel
theorem dX6_begin_2 : decode cX6_begin 2 = .ok (.getfield 43, 3) := by decide +kernel
theorem dX6_begin_5 : decode cX6_begin 5 = .ok (.iconst 3, 1) := by decide +kernel
theorem dX6_begin_6 : decode cX6_begin 6 = .ok (.iaload, 1) := by decide +kernel
theorem dX6_begin_7 : decode cX6_begin 7 = .ok (.aload_n 0, 1) := by decide +kernel
theorem dX6_begin_8 : decode cX6_begin 8 = .ok (.getfield 43, 3) := by decide +kernel
theorem dX6_begin_11 : decode cX6_begin 11 = .ok (.iconst 4, 1) := by decide +kernel
theorem dX6_begin_12 : decode cX6_begin 12 = .ok (.iaload, 1) := by decide +kernel
theorem dX6_begin_13 : decode cX6_begin 13 = .ok (.invokestatic 240, 3) := by decide +kernel
theorem dX6_begin_16 : decode cX6_begin 16 = .ok (.ireturn, 1) := by decide +kernel
theorem dX6_reach_0 : decode cX6_reach 0 = .ok (.iconst 0, 1) := by decide +kernel
theorem dX6_reach_1 : decode cX6_reach 1 = .ok (.istore_n 2, 1) := by decide +kernel
theorem dX6_reach_2 : decode cX6_reach 2 = .ok (.iload_n 2, 1) := by decide +kernel
theorem dX6_reach_3 : decode cX6_reach 3 = .ok (.sipush 24576, 3) := by decide +kernel
theorem dX6_reach_6 : decode cX6_reach 6 = .ok (.if_icmp .ge 16, 3) := by decide +kernel
theorem dX6_reach_9 : decode cX6_reach 9 = .ok (.aload_n 0, 1) := by decide +kernel
theorem dX6_reach_10 : decode cX6_reach 10 = .ok (.getfield 72, 3) := by decide +kernel
theorem dX6_reach_13 : decode cX6_reach 13 = .ok (.iload_n 2, 1) := by decide +kernel
theorem dX6_reach_14 : decode cX6_reach 14 = .ok (.iconst 0, 1) := by decide +kernel
theorem dX6_reach_15 : decode cX6_reach 15 = .ok (.bastore, 1) := by decide +kernel
theorem dX6_reach_16 : decode cX6_reach 16 = .ok (.iinc 2 1, 3) := by decide +kernel
theorem dX6_reach_19 : decode cX6_reach 19 = .ok (.goto (-17), 3) := by decide +kernel
theorem dX6_reach_22 : decode cX6_reach 22 = .ok (.aload_n 0, 1) := by decide +kernel
theorem dX6_reach_23 : decode cX6_reach 23 = .ok (.getfield 72, 3) := by decide +kernel
theorem dX6_reach_26 : decode cX6_reach 26 = .ok (.aload_n 0, 1) := by decide +kernel
theorem dX6_reach_27 : decode cX6_reach 27 = .ok (.invokevirtual 243, 3) := by decide +kernel
theorem dX6_reach_30 : decode cX6_reach 30 = .ok (.iconst 1, 1) := by decide +kernel
theorem dX6_reach_31 : decode cX6_reach 31 = .ok (.bastore, 1) := by decide +kernel
theorem dX6_reach_32 : decode cX6_reach 32 = .ok (.iconst 0, 1) := by decide +kernel
theorem dX6_reach_33 : decode cX6_reach 33 = .ok (.istore_n 2, 1) := by decide +kernel
theorem dX6_reach_34 : decode cX6_reach 34 = .ok (.iload_n 2, 1) := by decide +kernel
theorem dX6_reach_35 : decode cX6_reach 35 = .ok (.sipush 24576, 3) := by decide +kernel
theorem dX6_reach_38 : decode cX6_reach 38 = .ok (.if_icmp .ge 78, 3) := by decide +kernel
theorem dX6_reach_41 : decode cX6_reach 41 = .ok (.aload_n 0, 1) := by decide +kernel
theorem dX6_reach_42 : decode cX6_reach 42 = .ok (.getfield 72, 3) := by decide +kernel
theorem dX6_reach_45 : decode cX6_reach 45 = .ok (.iload_n 2, 1) := by decide +kernel
theorem dX6_reach_46 : decode cX6_reach 46 = .ok (.baload, 1) := by decide +kernel
theorem dX6_reach_47 : decode cX6_reach 47 = .ok (.ifCond .eq 63, 3) := by decide +kernel
theorem dX6_reach_50 : decode cX6_reach 50 = .ok (.iconst 0, 1) := by decide +kernel
theorem dX6_reach_51 : decode cX6_reach 51 = .ok (.istore_n 3, 1) := by decide +kernel
theorem dX6_reach_52 : decode cX6_reach 52 = .ok (.iload_n 3, 1) := by decide +kernel
theorem dX6_reach_53 : decode cX6_reach 53 = .ok (.aload_n 0, 1) := by decide +kernel
theorem dX6_reach_54 : decode cX6_reach 54 = .ok (.getfield 159, 3) := by decide +kernel
theorem dX6_reach_57 : decode cX6_reach 57 = .ok (.if_icmp .ge 53, 3) := by decide +kernel
theorem dX6_reach_60 : decode cX6_reach 60 = .ok (.iconst (-1), 1) := by decide +kernel
theorem dX6_reach_61 : decode cX6_reach 61 = .ok (.istore 4, 2) := by decide +kernel
theorem dX6_reach_63 : decode cX6_reach 63 = .ok (.iload 4, 2) := by decide +kernel
theorem dX6_reach_65 : decode cX6_reach 65 = .ok (.aload_n 0, 1) := by decide +kernel
theorem dX6_reach_66 : decode cX6_reach 66 = .ok (.getfield 156, 3) := by decide +kernel
theorem dX6_reach_69 : decode cX6_reach 69 = .ok (.if_icmp .ge 35, 3) := by decide +kernel
theorem dX6_reach_72 : decode cX6_reach 72 = .ok (.aload_n 0, 1) := by decide +kernel
theorem dX6_reach_73 : decode cX6_reach 73 = .ok (.iload_n 2, 1) := by decide +kernel
theorem dX6_reach_74 : decode cX6_reach 74 = .ok (.iload_n 3, 1) := by decide +kernel
theorem dX6_reach_75 : decode cX6_reach 75 = .ok (.iload 4, 2) := by decide +kernel
theorem dX6_reach_77 : decode cX6_reach 77 = .ok (.iload_n 1, 1) := by decide +kernel
theorem dX6_reach_78 : decode cX6_reach 78 = .ok (.invokevirtual 247, 3) := by decide +kernel
theorem dX6_reach_81 : decode cX6_reach 81 = .ok (.ifCond .eq 17, 3) := by decide +kernel
theorem dX6_reach_84 : decode cX6_reach 84 = .ok (.aload_n 0, 1) := by decide +kernel
theorem dX6_reach_85 : decode cX6_reach 85 = .ok (.getfield 72, 3) := by decide +kernel
theorem dX6_reach_88 : decode cX6_reach 88 = .ok (.aload_n 0, 1) := by decide +kernel
theorem dX6_reach_89 : decode cX6_reach 89 = .ok (.iload_n 2, 1) := by decide +kernel
theorem dX6_reach_90 : decode cX6_reach 90 = .ok (.iload_n 3, 1) := by decide +kernel
theorem dX6_reach_91 : decode cX6_reach 91 = .ok (.iload 4, 2) := by decide +kernel
theorem dX6_reach_93 : decode cX6_reach 93 = .ok (.invokevirtual 250, 3) := by decide +kernel
theorem dX6_reach_96 : decode cX6_reach 96 = .ok (.iconst 1, 1) := by decide +kernel
theorem dX6_reach_97 : decode cX6_reach 97 = .ok (.bastore, 1) := by decide +kernel
theorem dX6_reach_98 : decode cX6_reach 98 = .ok (.iinc 4 1, 3) := by decide +kernel
theorem dX6_reach_101 : decode cX6_reach 101 = .ok (.goto (-38), 3) := by decide +kernel
theorem dX6_reach_104 : decode cX6_reach 104 = .ok (.iinc 3 1, 3) := by decide +kernel
theorem dX6_reach_107 : decode cX6_reach 107 = .ok (.goto (-55), 3) := by decide +kernel
theorem dX6_reach_110 : decode cX6_reach 110 = .ok (.iinc 2 1, 3) := by decide +kernel
theorem dX6_reach_113 : decode cX6_reach 113 = .ok (.goto (-79), 3) := by decide +kernel
theorem dX6_reach_116 : decode cX6_reach 116 = .ok (.return_, 1) := by decide +kernel
theorem dX6_findMosts_0 : decode cX6_findMosts 0 = .ok (.iconst 0, 1) := by decide +kernel
theorem dX6_findMosts_1 : decode cX6_findMosts 1 = .ok (.istore_n 2, 1) := by decide +kernel
theorem dX6_findMosts_2 : decode cX6_findMosts 2 = .ok (.iload_n 2, 1) := by decide +kernel
theorem dX6_findMosts_3 : decode cX6_findMosts 3 = .ok (.sipush 128, 3) := by decide +kernel
theorem dX6_findMosts_6 : decode cX6_findMosts 6 = .ok (.if_icmp .ge 117, 3) := by decide +kernel
theorem dX6_findMosts_9 : decode cX6_findMosts 9 = .ok (.aload_n 0, 1) := by decide +kernel
theorem dX6_findMosts_10 : decode cX6_findMosts 10 = .ok (.getfield 78, 3) := by decide +kernel
theorem dX6_findMosts_13 : decode cX6_findMosts 13 = .ok (.iload_n 2, 1) := by decide +kernel
theorem dX6_findMosts_14 : decode cX6_findMosts 14 = .ok (.iconst (-1), 1) := by decide +kernel
theorem dX6_findMosts_15 : decode cX6_findMosts 15 = .ok (.iastore, 1) := by decide +kernel
theorem dX6_findMosts_16 : decode cX6_findMosts 16 = .ok (.sipush 192, 3) := by decide +kernel
theorem dX6_findMosts_19 : decode cX6_findMosts 19 = .ok (.iload_n 2, 1) := by decide +kernel
theorem dX6_findMosts_20 : decode cX6_findMosts 20 = .ok (.imul, 1) := by decide +kernel
theorem dX6_findMosts_21 : decode cX6_findMosts 21 = .ok (.istore_n 3, 1) := by decide +kernel
theorem dX6_findMosts_22 : decode cX6_findMosts 22 = .ok (.iload_n 3, 1) := by decide +kernel
theorem dX6_findMosts_23 : decode cX6_findMosts 23 = .ok (.sipush 192, 3) := by decide +kernel
theorem dX6_findMosts_26 : decode cX6_findMosts 26 = .ok (.iload_n 2, 1) := by decide +kernel
theorem dX6_findMosts_27 : decode cX6_findMosts 27 = .ok (.imul, 1) := by decide +kernel
theorem dX6_findMosts_28 : decode cX6_findMosts 28 = .ok (.sipush 192, 3) := by decide +kernel
theorem dX6_findMosts_31 : decode cX6_findMosts 31 = .ok (.iadd, 1) := by decide +kernel
theorem dX6_findMosts_32 : decode cX6_findMosts 32 = .ok (.if_icmp .ge 85, 3) := by decide +kernel
theorem dX6_findMosts_35 : decode cX6_findMosts 35 = .ok (.iload_n 3, 1) := by decide +kernel
theorem dX6_findMosts_36 : decode cX6_findMosts 36 = .ok (.iconst 3, 1) := by decide +kernel
theorem dX6_findMosts_37 : decode cX6_findMosts 37 = .ok (.idiv, 1) := by decide +kernel
theorem dX6_findMosts_38 : decode cX6_findMosts 38 = .ok (.bipush 64, 2) := by decide +kernel
theorem dX6_findMosts_40 : decode cX6_findMosts 40 = .ok (.irem, 1) := by decide +kernel
theorem dX6_findMosts_41 : decode cX6_findMosts 41 = .ok (.istore 4, 2) := by decide +kernel
theorem dX6_findMosts_43 : decode cX6_findMosts 43 = .ok (.aload_n 0, 1) := by decide +kernel
theorem dX6_findMosts_44 : decode cX6_findMosts 44 = .ok (.getfield 72, 3) := by decide +kernel
theorem dX6_findMosts_47 : decode cX6_findMosts 47 = .ok (.iload_n 3, 1) := by decide +kernel
theorem dX6_findMosts_48 : decode cX6_findMosts 48 = .ok (.baload, 1) := by decide +kernel
theorem dX6_findMosts_49 : decode cX6_findMosts 49 = .ok (.ifCond .eq 20, 3) := by decide +kernel
theorem dX6_findMosts_52 : decode cX6_findMosts 52 = .ok (.iload_n 1, 1) := by decide +kernel
theorem dX6_findMosts_53 : decode cX6_findMosts 53 = .ok (.ifCond .lt 12, 3) := by decide +kernel
theorem dX6_findMosts_56 : decode cX6_findMosts 56 = .ok (.iload 4, 2) := by decide +kernel
theorem dX6_findMosts_58 : decode cX6_findMosts 58 = .ok (.iload_n 1, 1) := by decide +kernel
theorem dX6_findMosts_59 : decode cX6_findMosts 59 = .ok (.invokestatic 136, 3) := by decide +kernel
theorem dX6_findMosts_62 : decode cX6_findMosts 62 = .ok (.ifCond .eq 7, 3) := by decide +kernel
theorem dX6_findMosts_65 : decode cX6_findMosts 65 = .ok (.iconst 1, 1) := by decide +kernel
theorem dX6_findMosts_66 : decode cX6_findMosts 66 = .ok (.goto 4, 3) := by decide +kernel
theorem dX6_findMosts_69 : decode cX6_findMosts 69 = .ok (.iconst 0, 1) := by decide +kernel
theorem dX6_findMosts_70 : decode cX6_findMosts 70 = .ok (.istore 5, 2) := by decide +kernel
theorem dX6_findMosts_72 : decode cX6_findMosts 72 = .ok (.aload_n 0, 1) := by decide +kernel
theorem dX6_findMosts_73 : decode cX6_findMosts 73 = .ok (.getfield 78, 3) := by decide +kernel
theorem dX6_findMosts_76 : decode cX6_findMosts 76 = .ok (.iload_n 2, 1) := by decide +kernel
theorem dX6_findMosts_77 : decode cX6_findMosts 77 = .ok (.iload 5, 2) := by decide +kernel
theorem dX6_findMosts_79 : decode cX6_findMosts 79 = .ok (.ifCond .eq 25, 3) := by decide +kernel
theorem dX6_findMosts_82 : decode cX6_findMosts 82 = .ok (.iload 4, 2) := by decide +kernel
theorem dX6_findMosts_84 : decode cX6_findMosts 84 = .ok (.invokestatic 200, 3) := by decide +kernel
theorem dX6_findMosts_87 : decode cX6_findMosts 87 = .ok (.aload_n 0, 1) := by decide +kernel
theorem dX6_findMosts_88 : decode cX6_findMosts 88 = .ok (.getfield 78, 3) := by decide +kernel
theorem dX6_findMosts_91 : decode cX6_findMosts 91 = .ok (.iload_n 2, 1) := by decide +kernel
theorem dX6_findMosts_92 : decode cX6_findMosts 92 = .ok (.iaload, 1) := by decide +kernel
theorem dX6_findMosts_93 : decode cX6_findMosts 93 = .ok (.if_icmp .le 11, 3) := by decide +kernel
theorem dX6_findMosts_96 : decode cX6_findMosts 96 = .ok (.iload 4, 2) := by decide +kernel
theorem dX6_findMosts_98 : decode cX6_findMosts 98 = .ok (.invokestatic 200, 3) := by decide +kernel
theorem dX6_findMosts_101 : decode cX6_findMosts 101 = .ok (.goto 9, 3) := by decide +kernel
theorem dX6_findMosts_104 : decode cX6_findMosts 104 = .ok (.aload_n 0, 1) := by decide +kernel
theorem dX6_findMosts_105 : decode cX6_findMosts 105 = .ok (.getfield 78, 3) := by decide +kernel
theorem dX6_findMosts_108 : decode cX6_findMosts 108 = .ok (.iload_n 2, 1) := by decide +kernel
theorem dX6_findMosts_109 : decode cX6_findMosts 109 = .ok (.iaload, 1) := by decide +kernel
theorem dX6_findMosts_110 : decode cX6_findMosts 110 = .ok (.iastore, 1) := by decide +kernel
theorem dX6_findMosts_111 : decode cX6_findMosts 111 = .ok (.iinc 3 1, 3) := by decide +kernel
theorem dX6_findMosts_114 : decode cX6_findMosts 114 = .ok (.goto (-92), 3) := by decide +kernel
theorem dX6_findMosts_117 : decode cX6_findMosts 117 = .ok (.iinc 2 1, 3) := by decide +kernel
theorem dX6_findMosts_120 : decode cX6_findMosts 120 = .ok (.goto (-118), 3) := by decide +kernel
theorem dX6_findMosts_123 : decode cX6_findMosts 123 = .ok (.return_, 1) := by decide +kernel
theorem dX6_mostOf_0 : decode cX6_mostOf 0 = .ok (.iconst (-1), 1) := by decide +kernel
theorem dX6_mostOf_1 : decode cX6_mostOf 1 = .ok (.istore_n 2, 1) := by decide +kernel
theorem dX6_mostOf_2 : decode cX6_mostOf 2 = .ok (.iconst 0, 1) := by decide +kernel
theorem dX6_mostOf_3 : decode cX6_mostOf 3 = .ok (.istore_n 3, 1) := by decide +kernel
theorem dX6_mostOf_4 : decode cX6_mostOf 4 = .ok (.iload_n 3, 1) := by decide +kernel
theorem dX6_mostOf_5 : decode cX6_mostOf 5 = .ok (.sipush 128, 3) := by decide +kernel
theorem dX6_mostOf_8 : decode cX6_mostOf 8 = .ok (.if_icmp .ge 38, 3) := by decide +kernel
theorem dX6_mostOf_11 : decode cX6_mostOf 11 = .ok (.iload_n 3, 1) := by decide +kernel
theorem dX6_mostOf_12 : decode cX6_mostOf 12 = .ok (.iload_n 1, 1) := by decide +kernel
theorem dX6_mostOf_13 : decode cX6_mostOf 13 = .ok (.iconst (-1), 1) := by decide +kernel
theorem dX6_mostOf_14 : decode cX6_mostOf 14 = .ok (.ixor, 1) := by decide +kernel
theorem dX6_mostOf_15 : decode cX6_mostOf 15 = .ok (.iand, 1) := by decide +kernel
theorem dX6_mostOf_16 : decode cX6_mostOf 16 = .ok (.ifCond .ne 22, 3) := by decide +kernel
theorem dX6_mostOf_19 : decode cX6_mostOf 19 = .ok (.aload_n 0, 1) := by decide +kernel
theorem dX6_mostOf_20 : decode cX6_mostOf 20 = .ok (.getfield 78, 3) := by decide +kernel
theorem dX6_mostOf_23 : decode cX6_mostOf 23 = .ok (.iload_n 3, 1) := by decide +kernel
theorem dX6_mostOf_24 : decode cX6_mostOf 24 = .ok (.iaload, 1) := by decide +kernel
theorem dX6_mostOf_25 : decode cX6_mostOf 25 = .ok (.iload_n 2, 1) := by decide +kernel
theorem dX6_mostOf_26 : decode cX6_mostOf 26 = .ok (.if_icmp .le 12, 3) := by decide +kernel
theorem dX6_mostOf_29 : decode cX6_mostOf 29 = .ok (.aload_n 0, 1) := by decide +kernel
theorem dX6_mostOf_30 : decode cX6_mostOf 30 = .ok (.getfield 78, 3) := by decide +kernel
theorem dX6_mostOf_33 : decode cX6_mostOf 33 = .ok (.iload_n 3, 1) := by decide +kernel
theorem dX6_mostOf_34 : decode cX6_mostOf 34 = .ok (.iaload, 1) := by decide +kernel
theorem dX6_mostOf_35 : decode cX6_mostOf 35 = .ok (.goto 4, 3) := by decide +kernel
theorem dX6_mostOf_38 : decode cX6_mostOf 38 = .ok (.iload_n 2, 1) := by decide +kernel
theorem dX6_mostOf_39 : decode cX6_mostOf 39 = .ok (.istore_n 2, 1) := by decide +kernel
theorem dX6_mostOf_40 : decode cX6_mostOf 40 = .ok (.iinc 3 1, 3) := by decide +kernel
theorem dX6_mostOf_43 : decode cX6_mostOf 43 = .ok (.goto (-39), 3) := by decide +kernel
theorem dX6_mostOf_46 : decode cX6_mostOf 46 = .ok (.iload_n 2, 1) := by decide +kernel
theorem dX6_mostOf_47 : decode cX6_mostOf 47 = .ok (.ireturn, 1) := by decide +kernel
theorem dX6_most_0 : decode cX6_most 0 = .ok (.aload_n 0, 1) := by decide +kernel
theorem dX6_most_1 : decode cX6_most 1 = .ok (.getfield 156, 3) := by decide +kernel
theorem dX6_most_4 : decode cX6_most 4 = .ok (.ifCond .ne 6, 3) := by decide +kernel
theorem dX6_most_7 : decode cX6_most 7 = .ok (.bipush (-4), 2) := by decide +kernel
theorem dX6_most_9 : decode cX6_most 9 = .ok (.ireturn, 1) := by decide +kernel
theorem dX6_most_10 : decode cX6_most 10 = .ok (.aload_n 0, 1) := by decide +kernel
theorem dX6_most_11 : decode cX6_most 11 = .ok (.aload_n 0, 1) := by decide +kernel
theorem dX6_most_12 : decode cX6_most 12 = .ok (.getfield 43, 3) := by decide +kernel
theorem dX6_most_15 : decode cX6_most 15 = .ok (.iconst 0, 1) := by decide +kernel
theorem dX6_most_16 : decode cX6_most 16 = .ok (.iaload, 1) := by decide +kernel
theorem dX6_most_17 : decode cX6_most 17 = .ok (.invokevirtual 213, 3) := by decide +kernel
theorem dX6_most_20 : decode cX6_most 20 = .ok (.istore_n 1, 1) := by decide +kernel
theorem dX6_most_21 : decode cX6_most 21 = .ok (.aload_n 0, 1) := by decide +kernel
theorem dX6_most_22 : decode cX6_most 22 = .ok (.iload_n 1, 1) := by decide +kernel
theorem dX6_most_23 : decode cX6_most 23 = .ok (.invokevirtual 253, 3) := by decide +kernel
theorem dX6_most_26 : decode cX6_most 26 = .ok (.aload_n 0, 1) := by decide +kernel
theorem dX6_most_27 : decode cX6_most 27 = .ok (.bipush (-9), 2) := by decide +kernel
theorem dX6_most_29 : decode cX6_most 29 = .ok (.invokevirtual 256, 3) := by decide +kernel
theorem dX6_most_32 : decode cX6_most 32 = .ok (.aload_n 0, 1) := by decide +kernel
theorem dX6_most_33 : decode cX6_most 33 = .ok (.iload_n 1, 1) := by decide +kernel
theorem dX6_most_34 : decode cX6_most 34 = .ok (.invokevirtual 259, 3) := by decide +kernel
theorem dX6_most_37 : decode cX6_most 37 = .ok (.istore_n 2, 1) := by decide +kernel
theorem dX6_most_38 : decode cX6_most 38 = .ok (.bipush 7, 2) := by decide +kernel
theorem dX6_most_40 : decode cX6_most 40 = .ok (.istore_n 3, 1) := by decide +kernel
theorem dX6_most_41 : decode cX6_most 41 = .ok (.iconst 0, 1) := by decide +kernel
theorem dX6_most_42 : decode cX6_most 42 = .ok (.istore 4, 2) := by decide +kernel
theorem dX6_most_44 : decode cX6_most 44 = .ok (.iload 4, 2) := by decide +kernel
theorem dX6_most_46 : decode cX6_most 46 = .ok (.sipush 128, 3) := by decide +kernel
theorem dX6_most_49 : decode cX6_most 49 = .ok (.if_icmp .ge 39, 3) := by decide +kernel
theorem dX6_most_52 : decode cX6_most 52 = .ok (.aload_n 0, 1) := by decide +kernel
theorem dX6_most_53 : decode cX6_most 53 = .ok (.getfield 78, 3) := by decide +kernel
theorem dX6_most_56 : decode cX6_most 56 = .ok (.iload 4, 2) := by decide +kernel
theorem dX6_most_58 : decode cX6_most 58 = .ok (.iaload, 1) := by decide +kernel
theorem dX6_most_59 : decode cX6_most 59 = .ok (.iload_n 2, 1) := by decide +kernel
theorem dX6_most_60 : decode cX6_most 60 = .ok (.if_icmp .ne 20, 3) := by decide +kernel
theorem dX6_most_63 : decode cX6_most 63 = .ok (.iload 4, 2) := by decide +kernel
theorem dX6_most_65 : decode cX6_most 65 = .ok (.invokestatic 200, 3) := by decide +kernel
theorem dX6_most_68 : decode cX6_most 68 = .ok (.iload_n 3, 1) := by decide +kernel
theorem dX6_most_69 : decode cX6_most 69 = .ok (.if_icmp .ge 11, 3) := by decide +kernel
theorem dX6_most_72 : decode cX6_most 72 = .ok (.iload 4, 2) := by decide +kernel
theorem dX6_most_74 : decode cX6_most 74 = .ok (.invokestatic 200, 3) := by decide +kernel
theorem dX6_most_77 : decode cX6_most 77 = .ok (.goto 4, 3) := by decide +kernel
theorem dX6_most_80 : decode cX6_most 80 = .ok (.iload_n 3, 1) := by decide +kernel
theorem dX6_most_81 : decode cX6_most 81 = .ok (.istore_n 3, 1) := by decide +kernel
theorem dX6_most_82 : decode cX6_most 82 = .ok (.iinc 4 1, 3) := by decide +kernel
theorem dX6_most_85 : decode cX6_most 85 = .ok (.goto (-41), 3) := by decide +kernel
theorem dX6_most_88 : decode cX6_most 88 = .ok (.aload_n 0, 1) := by decide +kernel
theorem dX6_most_89 : decode cX6_most 89 = .ok (.iload_n 2, 1) := by decide +kernel
theorem dX6_most_90 : decode cX6_most 90 = .ok (.iload_n 3, 1) := by decide +kernel
theorem dX6_most_91 : decode cX6_most 91 = .ok (.invokevirtual 111, 3) := by decide +kernel
theorem dX6_most_94 : decode cX6_most 94 = .ok (.ireturn, 1) := by decide +kernel
theorem dX6_fewest_0 : decode cX6_fewest 0 = .ok (.aload_n 0, 1) := by decide +kernel
theorem dX6_fewest_1 : decode cX6_fewest 1 = .ok (.iload_n 1, 1) := by decide +kernel
theorem dX6_fewest_2 : decode cX6_fewest 2 = .ok (.invokevirtual 168, 3) := by decide +kernel
theorem dX6_fewest_5 : decode cX6_fewest 5 = .ok (.ifCond .ne 5, 3) := by decide +kernel
theorem dX6_fewest_8 : decode cX6_fewest 8 = .ok (.iconst (-1), 1) := by decide +kernel
theorem dX6_fewest_9 : decode cX6_fewest 9 = .ok (.ireturn, 1) := by decide +kernel
theorem dX6_fewest_10 : decode cX6_fewest 10 = .ok (.aload_n 0, 1) := by decide +kernel
theorem dX6_fewest_11 : decode cX6_fewest 11 = .ok (.aload_n 0, 1) := by decide +kernel
theorem dX6_fewest_12 : decode cX6_fewest 12 = .ok (.aload_n 0, 1) := by decide +kernel
theorem dX6_fewest_13 : decode cX6_fewest 13 = .ok (.getfield 43, 3) := by decide +kernel
theorem dX6_fewest_16 : decode cX6_fewest 16 = .ok (.iconst 0, 1) := by decide +kernel
theorem dX6_fewest_17 : decode cX6_fewest 17 = .ok (.iaload, 1) := by decide +kernel
theorem dX6_fewest_18 : decode cX6_fewest 18 = .ok (.invokevirtual 213, 3) := by decide +kernel
theorem dX6_fewest_21 : decode cX6_fewest 21 = .ok (.invokevirtual 253, 3) := by decide +kernel
theorem dX6_fewest_24 : decode cX6_fewest 24 = .ok (.aload_n 0, 1) := by decide +kernel
theorem dX6_fewest_25 : decode cX6_fewest 25 = .ok (.iload_n 1, 1) := by decide +kernel
theorem dX6_fewest_26 : decode cX6_fewest 26 = .ok (.invokevirtual 256, 3) := by decide +kernel
theorem dX6_fewest_29 : decode cX6_fewest 29 = .ok (.bipush 99, 2) := by decide +kernel
theorem dX6_fewest_31 : decode cX6_fewest 31 = .ok (.istore_n 2, 1) := by decide +kernel
theorem dX6_fewest_32 : decode cX6_fewest 32 = .ok (.iconst 0, 1) := by decide +kernel
theorem dX6_fewest_33 : decode cX6_fewest 33 = .ok (.istore_n 3, 1) := by decide +kernel
theorem dX6_fewest_34 : decode cX6_fewest 34 = .ok (.iload_n 3, 1) := by decide +kernel
theorem dX6_fewest_35 : decode cX6_fewest 35 = .ok (.sipush 128, 3) := by decide +kernel
theorem dX6_fewest_38 : decode cX6_fewest 38 = .ok (.if_icmp .ge 35, 3) := by decide +kernel
theorem dX6_fewest_41 : decode cX6_fewest 41 = .ok (.aload_n 0, 1) := by decide +kernel
theorem dX6_fewest_42 : decode cX6_fewest 42 = .ok (.getfield 78, 3) := by decide +kernel
theorem dX6_fewest_45 : decode cX6_fewest 45 = .ok (.iload_n 3, 1) := by decide +kernel
theorem dX6_fewest_46 : decode cX6_fewest 46 = .ok (.iaload, 1) := by decide +kernel
theorem dX6_fewest_47 : decode cX6_fewest 47 = .ok (.ifCond .lt 18, 3) := by decide +kernel
theorem dX6_fewest_50 : decode cX6_fewest 50 = .ok (.iload_n 3, 1) := by decide +kernel
theorem dX6_fewest_51 : decode cX6_fewest 51 = .ok (.invokestatic 200, 3) := by decide +kernel
theorem dX6_fewest_54 : decode cX6_fewest 54 = .ok (.iload_n 2, 1) := by decide +kernel
theorem dX6_fewest_55 : decode cX6_fewest 55 = .ok (.if_icmp .ge 10, 3) := by decide +kernel
theorem dX6_fewest_58 : decode cX6_fewest 58 = .ok (.iload_n 3, 1) := by decide +kernel
theorem dX6_fewest_59 : decode cX6_fewest 59 = .ok (.invokestatic 200, 3) := by decide +kernel
theorem dX6_fewest_62 : decode cX6_fewest 62 = .ok (.goto 4, 3) := by decide +kernel
theorem dX6_fewest_65 : decode cX6_fewest 65 = .ok (.iload_n 2, 1) := by decide +kernel
theorem dX6_fewest_66 : decode cX6_fewest 66 = .ok (.istore_n 2, 1) := by decide +kernel
theorem dX6_fewest_67 : decode cX6_fewest 67 = .ok (.iinc 3 1, 3) := by decide +kernel
theorem dX6_fewest_70 : decode cX6_fewest 70 = .ok (.goto (-36), 3) := by decide +kernel
theorem dX6_fewest_73 : decode cX6_fewest 73 = .ok (.iload_n 2, 1) := by decide +kernel
theorem dX6_fewest_74 : decode cX6_fewest 74 = .ok (.bipush 99, 2) := by decide +kernel
theorem dX6_fewest_76 : decode cX6_fewest 76 = .ok (.if_icmp .ne 8, 3) := by decide +kernel
theorem dX6_fewest_79 : decode cX6_fewest 79 = .ok (.bipush (-9), 2) := by decide +kernel
theorem dX6_fewest_81 : decode cX6_fewest 81 = .ok (.goto 4, 3) := by decide +kernel
theorem dX6_fewest_84 : decode cX6_fewest 84 = .ok (.iload_n 2, 1) := by decide +kernel
theorem dX6_fewest_85 : decode cX6_fewest 85 = .ok (.ireturn, 1) := by decide +kernel
theorem dX6_findNeed_0 : decode cX6_findNeed 0 = .ok (.sipush 24575, 3) := by decide +kernel
theorem dX6_findNeed_3 : decode cX6_findNeed 3 = .ok (.istore_n 3, 1) := by decide +kernel
theorem dX6_findNeed_4 : decode cX6_findNeed 4 = .ok (.iload_n 3, 1) := by decide +kernel
theorem dX6_findNeed_5 : decode cX6_findNeed 5 = .ok (.ifCond .lt 143, 3) := by decide +kernel
theorem dX6_findNeed_8 : decode cX6_findNeed 8 = .ok (.aload_n 0, 1) := by decide +kernel
theorem dX6_findNeed_9 : decode cX6_findNeed 9 = .ok (.getfield 75, 3) := by decide +kernel
theorem dX6_findNeed_12 : decode cX6_findNeed 12 = .ok (.iload_n 3, 1) := by decide +kernel
theorem dX6_findNeed_13 : decode cX6_findNeed 13 = .ok (.iload_n 3, 1) := by decide +kernel
theorem dX6_findNeed_14 : decode cX6_findNeed 14 = .ok (.iconst 3, 1) := by decide +kernel
theorem dX6_findNeed_15 : decode cX6_findNeed 15 = .ok (.idiv, 1) := by decide +kernel
theorem dX6_findNeed_16 : decode cX6_findNeed 16 = .ok (.bipush 64, 2) := by decide +kernel
theorem dX6_findNeed_18 : decode cX6_findNeed 18 = .ok (.irem, 1) := by decide +kernel
theorem dX6_findNeed_19 : decode cX6_findNeed 19 = .ok (.iload_n 1, 1) := by decide +kernel
theorem dX6_findNeed_20 : decode cX6_findNeed 20 = .ok (.invokestatic 136, 3) := by decide +kernel
theorem dX6_findNeed_23 : decode cX6_findNeed 23 = .ok (.ifCond .eq 7, 3) := by decide +kernel
theorem dX6_findNeed_26 : decode cX6_findNeed 26 = .ok (.iconst 0, 1) := by decide +kernel
theorem dX6_findNeed_27 : decode cX6_findNeed 27 = .ok (.goto 5, 3) := by decide +kernel
theorem dX6_findNeed_30 : decode cX6_findNeed 30 = .ok (.bipush 99, 2) := by decide +kernel
theorem dX6_findNeed_32 : decode cX6_findNeed 32 = .ok (.iastore, 1) := by decide +kernel
theorem dX6_findNeed_33 : decode cX6_findNeed 33 = .ok (.iconst 0, 1) := by decide +kernel
theorem dX6_findNeed_34 : decode cX6_findNeed 34 = .ok (.istore 4, 2) := by decide +kernel
theorem dX6_findNeed_36 : decode cX6_findNeed 36 = .ok (.iload 4, 2) := by decide +kernel
theorem dX6_findNeed_38 : decode cX6_findNeed 38 = .ok (.aload_n 0, 1) := by decide +kernel
theorem dX6_findNeed_39 : decode cX6_findNeed 39 = .ok (.getfield 159, 3) := by decide +kernel
theorem dX6_findNeed_42 : decode cX6_findNeed 42 = .ok (.if_icmp .ge 100, 3) := by decide +kernel
theorem dX6_findNeed_45 : decode cX6_findNeed 45 = .ok (.aload_n 0, 1) := by decide +kernel
theorem dX6_findNeed_46 : decode cX6_findNeed 46 = .ok (.getfield 75, 3) := by decide +kernel
theorem dX6_findNeed_49 : decode cX6_findNeed 49 = .ok (.iload_n 3, 1) := by decide +kernel
theorem dX6_findNeed_50 : decode cX6_findNeed 50 = .ok (.iaload, 1) := by decide +kernel
theorem dX6_findNeed_51 : decode cX6_findNeed 51 = .ok (.ifCond .le 91, 3) := by decide +kernel
theorem dX6_findNeed_54 : decode cX6_findNeed 54 = .ok (.iconst (-1), 1) := by decide +kernel
theorem dX6_findNeed_55 : decode cX6_findNeed 55 = .ok (.istore 5, 2) := by decide +kernel
theorem dX6_findNeed_57 : decode cX6_findNeed 57 = .ok (.iload 5, 2) := by decide +kernel
theorem dX6_findNeed_59 : decode cX6_findNeed 59 = .ok (.aload_n 0, 1) := by decide +kernel
theorem dX6_findNeed_60 : decode cX6_findNeed 60 = .ok (.getfield 156, 3) := by decide +kernel
theorem dX6_findNeed_63 : decode cX6_findNeed 63 = .ok (.if_icmp .ge 73, 3) := by decide +kernel
theorem dX6_findNeed_66 : decode cX6_findNeed 66 = .ok (.aload_n 0, 1) := by decide +kernel
theorem dX6_findNeed_67 : decode cX6_findNeed 67 = .ok (.iload_n 3, 1) := by decide +kernel
theorem dX6_findNeed_68 : decode cX6_findNeed 68 = .ok (.iload 4, 2) := by decide +kernel
theorem dX6_findNeed_70 : decode cX6_findNeed 70 = .ok (.iload 5, 2) := by decide +kernel
theorem dX6_findNeed_72 : decode cX6_findNeed 72 = .ok (.iload_n 2, 1) := by decide +kernel
theorem dX6_findNeed_73 : decode cX6_findNeed 73 = .ok (.invokevirtual 247, 3) := by decide +kernel
theorem dX6_findNeed_76 : decode cX6_findNeed 76 = .ok (.ifCond .eq 22, 3) := by decide +kernel
theorem dX6_findNeed_79 : decode cX6_findNeed 79 = .ok (.aload_n 0, 1) := by decide +kernel
theorem dX6_findNeed_80 : decode cX6_findNeed 80 = .ok (.getfield 75, 3) := by decide +kernel
theorem dX6_findNeed_83 : decode cX6_findNeed 83 = .ok (.aload_n 0, 1) := by decide +kernel
theorem dX6_findNeed_84 : decode cX6_findNeed 84 = .ok (.iload_n 3, 1) := by decide +kernel
theorem dX6_findNeed_85 : decode cX6_findNeed 85 = .ok (.iload 4, 2) := by decide +kernel
theorem dX6_findNeed_87 : decode cX6_findNeed 87 = .ok (.iload 5, 2) := by decide +kernel
theorem dX6_findNeed_89 : decode cX6_findNeed 89 = .ok (.invokevirtual 250, 3) := by decide +kernel
theorem dX6_findNeed_92 : decode cX6_findNeed 92 = .ok (.iaload, 1) := by decide +kernel
theorem dX6_findNeed_93 : decode cX6_findNeed 93 = .ok (.iconst 1, 1) := by decide +kernel
theorem dX6_findNeed_94 : decode cX6_findNeed 94 = .ok (.iadd, 1) := by decide +kernel
theorem dX6_findNeed_95 : decode cX6_findNeed 95 = .ok (.goto 5, 3) := by decide +kernel
theorem dX6_findNeed_98 : decode cX6_findNeed 98 = .ok (.bipush 99, 2) := by decide +kernel
theorem dX6_findNeed_100 : decode cX6_findNeed 100 = .ok (.istore 6, 2) := by decide +kernel
theorem dX6_findNeed_102 : decode cX6_findNeed 102 = .ok (.aload_n 0, 1) := by decide +kernel
theorem dX6_findNeed_103 : decode cX6_findNeed 103 = .ok (.getfield 75, 3) := by decide +kernel
theorem dX6_findNeed_106 : decode cX6_findNeed 106 = .ok (.iload_n 3, 1) := by decide +kernel
theorem dX6_findNeed_107 : decode cX6_findNeed 107 = .ok (.iload 6, 2) := by decide +kernel
theorem dX6_findNeed_109 : decode cX6_findNeed 109 = .ok (.aload_n 0, 1) := by decide +kernel
theorem dX6_findNeed_110 : decode cX6_findNeed 110 = .ok (.getfield 75, 3) := by decide +kernel
theorem dX6_findNeed_113 : decode cX6_findNeed 113 = .ok (.iload_n 3, 1) := by decide +kernel
theorem dX6_findNeed_114 : decode cX6_findNeed 114 = .ok (.iaload, 1) := by decide +kernel
theorem dX6_findNeed_115 : decode cX6_findNeed 115 = .ok (.if_icmp .ge 8, 3) := by decide +kernel
theorem dX6_findNeed_118 : decode cX6_findNeed 118 = .ok (.iload 6, 2) := by decide +kernel
theorem dX6_findNeed_120 : decode cX6_findNeed 120 = .ok (.goto 9, 3) := by decide +kernel
theorem dX6_findNeed_123 : decode cX6_findNeed 123 = .ok (.aload_n 0, 1) := by decide +kernel
theorem dX6_findNeed_124 : decode cX6_findNeed 124 = .ok (.getfield 75, 3) := by decide +kernel
theorem dX6_findNeed_127 : decode cX6_findNeed 127 = .ok (.iload_n 3, 1) := by decide +kernel
theorem dX6_findNeed_128 : decode cX6_findNeed 128 = .ok (.iaload, 1) := by decide +kernel
theorem dX6_findNeed_129 : decode cX6_findNeed 129 = .ok (.iastore, 1) := by decide +kernel
theorem dX6_findNeed_130 : decode cX6_findNeed 130 = .ok (.iinc 5 1, 3) := by decide +kernel
theorem dX6_findNeed_133 : decode cX6_findNeed 133 = .ok (.goto (-76), 3) := by decide +kernel
theorem dX6_findNeed_136 : decode cX6_findNeed 136 = .ok (.iinc 4 1, 3) := by decide +kernel
theorem dX6_findNeed_139 : decode cX6_findNeed 139 = .ok (.goto (-103), 3) := by decide +kernel
theorem dX6_findNeed_142 : decode cX6_findNeed 142 = .ok (.iinc 3 (-1), 3) := by decide +kernel
theorem dX6_findNeed_145 : decode cX6_findNeed 145 = .ok (.goto (-141), 3) := by decide +kernel
theorem dX6_findNeed_148 : decode cX6_findNeed 148 = .ok (.return_, 1) := by decide +kernel
theorem dX6_order_0 : decode cX6_order 0 = .ok (.aload_n 0, 1) := by decide +kernel
theorem dX6_order_1 : decode cX6_order 1 = .ok (.iload_n 1, 1) := by decide +kernel
theorem dX6_order_2 : decode cX6_order 2 = .ok (.invokevirtual 168, 3) := by decide +kernel
theorem dX6_order_5 : decode cX6_order 5 = .ok (.ifCond .eq 10, 3) := by decide +kernel
theorem dX6_order_8 : decode cX6_order 8 = .ok (.iload_n 2, 1) := by decide +kernel
theorem dX6_order_9 : decode cX6_order 9 = .ok (.invokestatic 99, 3) := by decide +kernel
theorem dX6_order_12 : decode cX6_order 12 = .ok (.ifCond .ne 5, 3) := by decide +kernel
theorem dX6_order_15 : decode cX6_order 15 = .ok (.iconst (-1), 1) := by decide +kernel
theorem dX6_order_16 : decode cX6_order 16 = .ok (.ireturn, 1) := by decide +kernel
theorem dX6_order_17 : decode cX6_order 17 = .ok (.aload_n 0, 1) := by decide +kernel
theorem dX6_order_18 : decode cX6_order 18 = .ok (.aload_n 0, 1) := by decide +kernel
theorem dX6_order_19 : decode cX6_order 19 = .ok (.getfield 43, 3) := by decide +kernel
theorem dX6_order_22 : decode cX6_order 22 = .ok (.iconst 0, 1) := by decide +kernel
theorem dX6_order_23 : decode cX6_order 23 = .ok (.iaload, 1) := by decide +kernel
theorem dX6_order_24 : decode cX6_order 24 = .ok (.invokevirtual 213, 3) := by decide +kernel
theorem dX6_order_27 : decode cX6_order 27 = .ok (.istore_n 3, 1) := by decide +kernel
theorem dX6_order_28 : decode cX6_order 28 = .ok (.aload_n 0, 1) := by decide +kernel
theorem dX6_order_29 : decode cX6_order 29 = .ok (.iload_n 1, 1) := by decide +kernel
theorem dX6_order_30 : decode cX6_order 30 = .ok (.iload_n 3, 1) := by decide +kernel
theorem dX6_order_31 : decode cX6_order 31 = .ok (.invokevirtual 262, 3) := by decide +kernel
theorem dX6_order_34 : decode cX6_order 34 = .ok (.aload_n 0, 1) := by decide +kernel
theorem dX6_order_35 : decode cX6_order 35 = .ok (.invokevirtual 243, 3) := by decide +kernel
theorem dX6_order_38 : decode cX6_order 38 = .ok (.istore 4, 2) := by decide +kernel
theorem dX6_order_40 : decode cX6_order 40 = .ok (.aload_n 0, 1) := by decide +kernel
theorem dX6_order_41 : decode cX6_order 41 = .ok (.getfield 75, 3) := by decide +kernel
theorem dX6_order_44 : decode cX6_order 44 = .ok (.iload 4, 2) := by decide +kernel
theorem dX6_order_46 : decode cX6_order 46 = .ok (.iaload, 1) := by decide +kernel
theorem dX6_order_47 : decode cX6_order 47 = .ok (.istore 5, 2) := by decide +kernel
theorem dX6_order_49 : decode cX6_order 49 = .ok (.iload 5, 2) := by decide +kernel
theorem dX6_order_51 : decode cX6_order 51 = .ok (.bipush 99, 2) := by decide +kernel
theorem dX6_order_53 : decode cX6_order 53 = .ok (.if_icmp .lt 6, 3) := by decide +kernel
theorem dX6_order_56 : decode cX6_order 56 = .ok (.bipush (-9), 2) := by decide +kernel
theorem dX6_order_58 : decode cX6_order 58 = .ok (.ireturn, 1) := by decide +kernel
theorem dX6_order_59 : decode cX6_order 59 = .ok (.aload_n 0, 1) := by decide +kernel
theorem dX6_order_60 : decode cX6_order 60 = .ok (.iload_n 2, 1) := by decide +kernel
theorem dX6_order_61 : decode cX6_order 61 = .ok (.iconst 2, 1) := by decide +kernel
theorem dX6_order_62 : decode cX6_order 62 = .ok (.iload 5, 2) := by decide +kernel
theorem dX6_order_64 : decode cX6_order 64 = .ok (.imul, 1) := by decide +kernel
theorem dX6_order_65 : decode cX6_order 65 = .ok (.invokevirtual 265, 3) := by decide +kernel
theorem dX6_order_68 : decode cX6_order 68 = .ok (.pop, 1) := by decide +kernel
theorem dX6_order_69 : decode cX6_order 69 = .ok (.iconst 0, 1) := by decide +kernel
theorem dX6_order_70 : decode cX6_order 70 = .ok (.istore 6, 2) := by decide +kernel
theorem dX6_order_72 : decode cX6_order 72 = .ok (.iload 6, 2) := by decide +kernel
theorem dX6_order_74 : decode cX6_order 74 = .ok (.iload 5, 2) := by decide +kernel
theorem dX6_order_76 : decode cX6_order 76 = .ok (.if_icmp .ge 162, 3) := by decide +kernel
theorem dX6_order_79 : decode cX6_order 79 = .ok (.iconst 1, 1) := by decide +kernel
theorem dX6_order_80 : decode cX6_order 80 = .ok (.istore 7, 2) := by decide +kernel
theorem dX6_order_82 : decode cX6_order 82 = .ok (.iload 4, 2) := by decide +kernel
theorem dX6_order_84 : decode cX6_order 84 = .ok (.istore 8, 2) := by decide +kernel
theorem dX6_order_86 : decode cX6_order 86 = .ok (.iconst 0, 1) := by decide +kernel
theorem dX6_order_87 : decode cX6_order 87 = .ok (.istore 9, 2) := by decide +kernel
theorem dX6_order_89 : decode cX6_order 89 = .ok (.iload 9, 2) := by decide +kernel
theorem dX6_order_91 : decode cX6_order 91 = .ok (.aload_n 0, 1) := by decide +kernel
theorem dX6_order_92 : decode cX6_order 92 = .ok (.getfield 159, 3) := by decide +kernel
theorem dX6_order_95 : decode cX6_order 95 = .ok (.if_icmp .ge 137, 3) := by decide +kernel
theorem dX6_order_98 : decode cX6_order 98 = .ok (.iload 7, 2) := by decide +kernel
theorem dX6_order_100 : decode cX6_order 100 = .ok (.ifCond .eq 132, 3) := by decide +kernel
theorem dX6_order_103 : decode cX6_order 103 = .ok (.iconst (-1), 1) := by decide +kernel
theorem dX6_order_104 : decode cX6_order 104 = .ok (.istore 10, 2) := by decide +kernel
theorem dX6_order_106 : decode cX6_order 106 = .ok (.iload 10, 2) := by decide +kernel
theorem dX6_order_108 : decode cX6_order 108 = .ok (.aload_n 0, 1) := by decide +kernel
theorem dX6_order_109 : decode cX6_order 109 = .ok (.getfield 156, 3) := by decide +kernel
theorem dX6_order_112 : decode cX6_order 112 = .ok (.if_icmp .ge 114, 3) := by decide +kernel
theorem dX6_order_115 : decode cX6_order 115 = .ok (.iload 7, 2) := by decide +kernel
theorem dX6_order_117 : decode cX6_order 117 = .ok (.ifCond .eq 109, 3) := by decide +kernel
theorem dX6_order_120 : decode cX6_order 120 = .ok (.aload_n 0, 1) := by decide +kernel
theorem dX6_order_121 : decode cX6_order 121 = .ok (.iload 8, 2) := by decide +kernel
theorem dX6_order_123 : decode cX6_order 123 = .ok (.iload 9, 2) := by decide +kernel
theorem dX6_order_125 : decode cX6_order 125 = .ok (.iload 10, 2) := by decide +kernel
theorem dX6_order_127 : decode cX6_order 127 = .ok (.iload_n 3, 1) := by decide +kernel
theorem dX6_order_128 : decode cX6_order 128 = .ok (.invokevirtual 247, 3) := by decide +kernel
theorem dX6_order_131 : decode cX6_order 131 = .ok (.ifCond .eq 89, 3) := by decide +kernel
theorem dX6_order_134 : decode cX6_order 134 = .ok (.aload_n 0, 1) := by decide +kernel
theorem dX6_order_135 : decode cX6_order 135 = .ok (.getfield 75, 3) := by decide +kernel
theorem dX6_order_138 : decode cX6_order 138 = .ok (.aload_n 0, 1) := by decide +kernel
theorem dX6_order_139 : decode cX6_order 139 = .ok (.iload 8, 2) := by decide +kernel
theorem dX6_order_141 : decode cX6_order 141 = .ok (.iload 9, 2) := by decide +kernel
theorem dX6_order_143 : decode cX6_order 143 = .ok (.iload 10, 2) := by decide +kernel
theorem dX6_order_145 : decode cX6_order 145 = .ok (.invokevirtual 250, 3) := by decide +kernel
theorem dX6_order_148 : decode cX6_order 148 = .ok (.iaload, 1) := by decide +kernel
theorem dX6_order_149 : decode cX6_order 149 = .ok (.aload_n 0, 1) := by decide +kernel
theorem dX6_order_150 : decode cX6_order 150 = .ok (.getfield 75, 3) := by decide +kernel
theorem dX6_order_153 : decode cX6_order 153 = .ok (.iload 8, 2) := by decide +kernel
theorem dX6_order_155 : decode cX6_order 155 = .ok (.iaload, 1) := by decide +kernel
theorem dX6_order_156 : decode cX6_order 156 = .ok (.iconst 1, 1) := by decide +kernel
theorem dX6_order_157 : decode cX6_order 157 = .ok (.isub, 1) := by decide +kernel
theorem dX6_order_158 : decode cX6_order 158 = .ok (.if_icmp .ne 62, 3) := by decide +kernel
theorem dX6_order_161 : decode cX6_order 161 = .ok (.aload_n 0, 1) := by decide +kernel
theorem dX6_order_162 : decode cX6_order 162 = .ok (.getfield 13, 3) := by decide +kernel
theorem dX6_order_165 : decode cX6_order 165 = .ok (.bipush 40, 2) := by decide +kernel
theorem dX6_order_167 : decode cX6_order 167 = .ok (.iload_n 2, 1) := by decide +kernel
theorem dX6_order_168 : decode cX6_order 168 = .ok (.imul, 1) := by decide +kernel
theorem dX6_order_169 : decode cX6_order 169 = .ok (.iconst 2, 1) := by decide +kernel
theorem dX6_order_170 : decode cX6_order 170 = .ok (.iload 6, 2) := by decide +kernel
theorem dX6_order_172 : decode cX6_order 172 = .ok (.imul, 1) := by decide +kernel
theorem dX6_order_173 : decode cX6_order 173 = .ok (.iadd, 1) := by decide +kernel
theorem dX6_order_174 : decode cX6_order 174 = .ok (.iload 9, 2) := by decide +kernel
theorem dX6_order_176 : decode cX6_order 176 = .ok (.iastore, 1) := by decide +kernel
theorem dX6_order_177 : decode cX6_order 177 = .ok (.aload_n 0, 1) := by decide +kernel
theorem dX6_order_178 : decode cX6_order 178 = .ok (.getfield 13, 3) := by decide +kernel
theorem dX6_order_181 : decode cX6_order 181 = .ok (.bipush 40, 2) := by decide +kernel
theorem dX6_order_183 : decode cX6_order 183 = .ok (.iload_n 2, 1) := by decide +kernel
theorem dX6_order_184 : decode cX6_order 184 = .ok (.imul, 1) := by decide +kernel
theorem dX6_order_185 : decode cX6_order 185 = .ok (.iconst 2, 1) := by decide +kernel
theorem dX6_order_186 : decode cX6_order 186 = .ok (.iload 6, 2) := by decide +kernel
theorem dX6_order_188 : decode cX6_order 188 = .ok (.imul, 1) := by decide +kernel
theorem dX6_order_189 : decode cX6_order 189 = .ok (.iadd, 1) := by decide +kernel
theorem dX6_order_190 : decode cX6_order 190 = .ok (.iconst 1, 1) := by decide +kernel
theorem dX6_order_191 : decode cX6_order 191 = .ok (.iadd, 1) := by decide +kernel
theorem dX6_order_192 : decode cX6_order 192 = .ok (.iload 10, 2) := by decide +kernel
theorem dX6_order_194 : decode cX6_order 194 = .ok (.ifCond .ge 8, 3) := by decide +kernel
theorem dX6_order_197 : decode cX6_order 197 = .ok (.bipush (-9), 2) := by decide +kernel
theorem dX6_order_199 : decode cX6_order 199 = .ok (.goto 5, 3) := by decide +kernel
theorem dX6_order_202 : decode cX6_order 202 = .ok (.iload 10, 2) := by decide +kernel
theorem dX6_order_204 : decode cX6_order 204 = .ok (.iastore, 1) := by decide +kernel
theorem dX6_order_205 : decode cX6_order 205 = .ok (.aload_n 0, 1) := by decide +kernel
theorem dX6_order_206 : decode cX6_order 206 = .ok (.iload 8, 2) := by decide +kernel
theorem dX6_order_208 : decode cX6_order 208 = .ok (.iload 9, 2) := by decide +kernel
theorem dX6_order_210 : decode cX6_order 210 = .ok (.iload 10, 2) := by decide +kernel
theorem dX6_order_212 : decode cX6_order 212 = .ok (.invokevirtual 250, 3) := by decide +kernel
theorem dX6_order_215 : decode cX6_order 215 = .ok (.istore 4, 2) := by decide +kernel
theorem dX6_order_217 : decode cX6_order 217 = .ok (.iconst 0, 1) := by decide +kernel
theorem dX6_order_218 : decode cX6_order 218 = .ok (.istore 7, 2) := by decide +kernel
theorem dX6_order_220 : decode cX6_order 220 = .ok (.iinc 10 1, 3) := by decide +kernel
theorem dX6_order_223 : decode cX6_order 223 = .ok (.goto (-117), 3) := by decide +kernel
theorem dX6_order_226 : decode cX6_order 226 = .ok (.iinc 9 1, 3) := by decide +kernel
theorem dX6_order_229 : decode cX6_order 229 = .ok (.goto (-140), 3) := by decide +kernel
theorem dX6_order_232 : decode cX6_order 232 = .ok (.iinc 6 1, 3) := by decide +kernel
theorem dX6_order_235 : decode cX6_order 235 = .ok (.goto (-163), 3) := by decide +kernel
theorem dX6_order_238 : decode cX6_order 238 = .ok (.iload 5, 2) := by decide +kernel
theorem dX6_order_240 : decode cX6_order 240 = .ok (.ireturn, 1) := by decide +kernel
theorem dX6_shut_0 : decode cX6_shut 0 = .ok (.aload_n 0, 1) := by decide +kernel
theorem dX6_shut_1 : decode cX6_shut 1 = .ok (.getfield 156, 3) := by decide +kernel
theorem dX6_shut_4 : decode cX6_shut 4 = .ok (.ifCond .ne 6, 3) := by decide +kernel
theorem dX6_shut_7 : decode cX6_shut 7 = .ok (.bipush (-4), 2) := by decide +kernel
theorem dX6_shut_9 : decode cX6_shut 9 = .ok (.ireturn, 1) := by decide +kernel
theorem dX6_shut_10 : decode cX6_shut 10 = .ok (.aload_n 0, 1) := by decide +kernel
theorem dX6_shut_11 : decode cX6_shut 11 = .ok (.aload_n 0, 1) := by decide +kernel
theorem dX6_shut_12 : decode cX6_shut 12 = .ok (.getfield 43, 3) := by decide +kernel
theorem dX6_shut_15 : decode cX6_shut 15 = .ok (.iconst 0, 1) := by decide +kernel
theorem dX6_shut_16 : decode cX6_shut 16 = .ok (.iaload, 1) := by decide +kernel
theorem dX6_shut_17 : decode cX6_shut 17 = .ok (.invokevirtual 213, 3) := by decide +kernel
theorem dX6_shut_20 : decode cX6_shut 20 = .ok (.istore_n 1, 1) := by decide +kernel
theorem dX6_shut_21 : decode cX6_shut 21 = .ok (.aload_n 0, 1) := by decide +kernel
theorem dX6_shut_22 : decode cX6_shut 22 = .ok (.iload_n 1, 1) := by decide +kernel
theorem dX6_shut_23 : decode cX6_shut 23 = .ok (.invokevirtual 253, 3) := by decide +kernel
theorem dX6_shut_26 : decode cX6_shut 26 = .ok (.aload_n 0, 1) := by decide +kernel
theorem dX6_shut_27 : decode cX6_shut 27 = .ok (.bipush (-9), 2) := by decide +kernel
theorem dX6_shut_29 : decode cX6_shut 29 = .ok (.invokevirtual 256, 3) := by decide +kernel
theorem dX6_shut_32 : decode cX6_shut 32 = .ok (.iconst 0, 1) := by decide +kernel
theorem dX6_shut_33 : decode cX6_shut 33 = .ok (.istore_n 2, 1) := by decide +kernel
theorem dX6_shut_34 : decode cX6_shut 34 = .ok (.iconst 0, 1) := by decide +kernel
theorem dX6_shut_35 : decode cX6_shut 35 = .ok (.istore_n 3, 1) := by decide +kernel
theorem dX6_shut_36 : decode cX6_shut 36 = .ok (.iload_n 3, 1) := by decide +kernel
theorem dX6_shut_37 : decode cX6_shut 37 = .ok (.aload_n 0, 1) := by decide +kernel
theorem dX6_shut_38 : decode cX6_shut 38 = .ok (.getfield 159, 3) := by decide +kernel
theorem dX6_shut_41 : decode cX6_shut 41 = .ok (.if_icmp .ge 46, 3) := by decide +kernel
theorem dX6_shut_44 : decode cX6_shut 44 = .ok (.iload_n 2, 1) := by decide +kernel
theorem dX6_shut_45 : decode cX6_shut 45 = .ok (.iload_n 1, 1) := by decide +kernel
theorem dX6_shut_46 : decode cX6_shut 46 = .ok (.iload_n 3, 1) := by decide +kernel
theorem dX6_shut_47 : decode cX6_shut 47 = .ok (.invokestatic 136, 3) := by decide +kernel
theorem dX6_shut_50 : decode cX6_shut 50 = .ok (.ifCond .eq 28, 3) := by decide +kernel
theorem dX6_shut_53 : decode cX6_shut 53 = .ok (.aload_n 0, 1) := by decide +kernel
theorem dX6_shut_54 : decode cX6_shut 54 = .ok (.iload_n 1, 1) := by decide +kernel
theorem dX6_shut_55 : decode cX6_shut 55 = .ok (.iconst 1, 1) := by decide +kernel
theorem dX6_shut_56 : decode cX6_shut 56 = .ok (.iload_n 3, 1) := by decide +kernel
theorem dX6_shut_57 : decode cX6_shut 57 = .ok (.ishl, 1) := by decide +kernel
theorem dX6_shut_58 : decode cX6_shut 58 = .ok (.iconst (-1), 1) := by decide +kernel
theorem dX6_shut_59 : decode cX6_shut 59 = .ok (.ixor, 1) := by decide +kernel
theorem dX6_shut_60 : decode cX6_shut 60 = .ok (.iand, 1) := by decide +kernel
theorem dX6_shut_61 : decode cX6_shut 61 = .ok (.invokevirtual 259, 3) := by decide +kernel
theorem dX6_shut_64 : decode cX6_shut 64 = .ok (.aload_n 0, 1) := by decide +kernel
theorem dX6_shut_65 : decode cX6_shut 65 = .ok (.iload_n 1, 1) := by decide +kernel
theorem dX6_shut_66 : decode cX6_shut 66 = .ok (.invokevirtual 259, 3) := by decide +kernel
theorem dX6_shut_69 : decode cX6_shut 69 = .ok (.if_icmp .ne 9, 3) := by decide +kernel
theorem dX6_shut_72 : decode cX6_shut 72 = .ok (.iconst 1, 1) := by decide +kernel
theorem dX6_shut_73 : decode cX6_shut 73 = .ok (.iload_n 3, 1) := by decide +kernel
theorem dX6_shut_74 : decode cX6_shut 74 = .ok (.ishl, 1) := by decide +kernel
theorem dX6_shut_75 : decode cX6_shut 75 = .ok (.goto 4, 3) := by decide +kernel
theorem dX6_shut_78 : decode cX6_shut 78 = .ok (.iconst 0, 1) := by decide +kernel
theorem dX6_shut_79 : decode cX6_shut 79 = .ok (.ior, 1) := by decide +kernel
theorem dX6_shut_80 : decode cX6_shut 80 = .ok (.istore_n 2, 1) := by decide +kernel
theorem dX6_shut_81 : decode cX6_shut 81 = .ok (.iinc 3 1, 3) := by decide +kernel
theorem dX6_shut_84 : decode cX6_shut 84 = .ok (.goto (-48), 3) := by decide +kernel
theorem dX6_shut_87 : decode cX6_shut 87 = .ok (.iload_n 2, 1) := by decide +kernel
theorem dX6_shut_88 : decode cX6_shut 88 = .ok (.ireturn, 1) := by decide +kernel
theorem dX6_waits_0 : decode cX6_waits 0 = .ok (.aload_n 0, 1) := by decide +kernel
theorem dX6_waits_1 : decode cX6_waits 1 = .ok (.iload_n 1, 1) := by decide +kernel
theorem dX6_waits_2 : decode cX6_waits 2 = .ok (.invokevirtual 168, 3) := by decide +kernel
theorem dX6_waits_5 : decode cX6_waits 5 = .ok (.ifCond .ne 5, 3) := by decide +kernel
theorem dX6_waits_8 : decode cX6_waits 8 = .ok (.iconst (-1), 1) := by decide +kernel
theorem dX6_waits_9 : decode cX6_waits 9 = .ok (.ireturn, 1) := by decide +kernel
theorem dX6_waits_10 : decode cX6_waits 10 = .ok (.aload_n 0, 1) := by decide +kernel
theorem dX6_waits_11 : decode cX6_waits 11 = .ok (.aload_n 0, 1) := by decide +kernel
theorem dX6_waits_12 : decode cX6_waits 12 = .ok (.bipush 20, 2) := by decide +kernel
theorem dX6_waits_14 : decode cX6_waits 14 = .ok (.invokevirtual 213, 3) := by decide +kernel
theorem dX6_waits_17 : decode cX6_waits 17 = .ok (.invokevirtual 253, 3) := by decide +kernel
theorem dX6_waits_20 : decode cX6_waits 20 = .ok (.aload_n 0, 1) := by decide +kernel
theorem dX6_waits_21 : decode cX6_waits 21 = .ok (.iload_n 1, 1) := by decide +kernel
theorem dX6_waits_22 : decode cX6_waits 22 = .ok (.invokevirtual 256, 3) := by decide +kernel
theorem dX6_waits_25 : decode cX6_waits 25 = .ok (.aload_n 0, 1) := by decide +kernel
theorem dX6_waits_26 : decode cX6_waits 26 = .ok (.getfield 43, 3) := by decide +kernel
theorem dX6_waits_29 : decode cX6_waits 29 = .ok (.iconst 0, 1) := by decide +kernel
theorem dX6_waits_30 : decode cX6_waits 30 = .ok (.iaload, 1) := by decide +kernel
theorem dX6_waits_31 : decode cX6_waits 31 = .ok (.istore_n 2, 1) := by decide +kernel
theorem dX6_waits_32 : decode cX6_waits 32 = .ok (.iload_n 2, 1) := by decide +kernel
theorem dX6_waits_33 : decode cX6_waits 33 = .ok (.bipush 20, 2) := by decide +kernel
theorem dX6_waits_35 : decode cX6_waits 35 = .ok (.if_icmp .gt 23, 3) := by decide +kernel
theorem dX6_waits_38 : decode cX6_waits 38 = .ok (.aload_n 0, 1) := by decide +kernel
theorem dX6_waits_39 : decode cX6_waits 39 = .ok (.aload_n 0, 1) := by decide +kernel
theorem dX6_waits_40 : decode cX6_waits 40 = .ok (.iload_n 2, 1) := by decide +kernel
theorem dX6_waits_41 : decode cX6_waits 41 = .ok (.invokevirtual 213, 3) := by decide +kernel
theorem dX6_waits_44 : decode cX6_waits 44 = .ok (.invokevirtual 259, 3) := by decide +kernel
theorem dX6_waits_47 : decode cX6_waits 47 = .ok (.ifCond .lt 5, 3) := by decide +kernel
theorem dX6_waits_50 : decode cX6_waits 50 = .ok (.iload_n 2, 1) := by decide +kernel
theorem dX6_waits_51 : decode cX6_waits 51 = .ok (.ireturn, 1) := by decide +kernel
theorem dX6_waits_52 : decode cX6_waits 52 = .ok (.iinc 2 1, 3) := by decide +kernel
theorem dX6_waits_55 : decode cX6_waits 55 = .ok (.goto (-23), 3) := by decide +kernel
theorem dX6_waits_58 : decode cX6_waits 58 = .ok (.bipush (-9), 2) := by decide +kernel
theorem dX6_waits_60 : decode cX6_waits 60 = .ok (.ireturn, 1) := by decide +kernel
theorem dX6_hoursOf_0 : decode cX6_hoursOf 0 = .ok (.iconst 0, 1) := by decide +kernel
theorem dX6_hoursOf_1 : decode cX6_hoursOf 1 = .ok (.istore_n 2, 1) := by decide +kernel
theorem dX6_hoursOf_2 : decode cX6_hoursOf 2 = .ok (.iconst 0, 1) := by decide +kernel
theorem dX6_hoursOf_3 : decode cX6_hoursOf 3 = .ok (.istore_n 3, 1) := by decide +kernel
theorem dX6_hoursOf_4 : decode cX6_hoursOf 4 = .ok (.iload_n 3, 1) := by decide +kernel
theorem dX6_hoursOf_5 : decode cX6_hoursOf 5 = .ok (.aload_n 0, 1) := by decide +kernel
theorem dX6_hoursOf_6 : decode cX6_hoursOf 6 = .ok (.getfield 159, 3) := by decide +kernel
theorem dX6_hoursOf_9 : decode cX6_hoursOf 9 = .ok (.if_icmp .ge 27, 3) := by decide +kernel
theorem dX6_hoursOf_12 : decode cX6_hoursOf 12 = .ok (.iload_n 2, 1) := by decide +kernel
theorem dX6_hoursOf_13 : decode cX6_hoursOf 13 = .ok (.aload_n 0, 1) := by decide +kernel
theorem dX6_hoursOf_14 : decode cX6_hoursOf 14 = .ok (.getfield 31, 3) := by decide +kernel
theorem dX6_hoursOf_17 : decode cX6_hoursOf 17 = .ok (.iload_n 3, 1) := by decide +kernel
theorem dX6_hoursOf_18 : decode cX6_hoursOf 18 = .ok (.iaload, 1) := by decide +kernel
theorem dX6_hoursOf_19 : decode cX6_hoursOf 19 = .ok (.iload_n 1, 1) := by decide +kernel
theorem dX6_hoursOf_20 : decode cX6_hoursOf 20 = .ok (.if_icmp .ne 7, 3) := by decide +kernel
theorem dX6_hoursOf_23 : decode cX6_hoursOf 23 = .ok (.iconst 1, 1) := by decide +kernel
theorem dX6_hoursOf_24 : decode cX6_hoursOf 24 = .ok (.goto 4, 3) := by decide +kernel
theorem dX6_hoursOf_27 : decode cX6_hoursOf 27 = .ok (.iconst 0, 1) := by decide +kernel
theorem dX6_hoursOf_28 : decode cX6_hoursOf 28 = .ok (.iadd, 1) := by decide +kernel
theorem dX6_hoursOf_29 : decode cX6_hoursOf 29 = .ok (.istore_n 2, 1) := by decide +kernel
theorem dX6_hoursOf_30 : decode cX6_hoursOf 30 = .ok (.iinc 3 1, 3) := by decide +kernel
theorem dX6_hoursOf_33 : decode cX6_hoursOf 33 = .ok (.goto (-29), 3) := by decide +kernel
theorem dX6_hoursOf_36 : decode cX6_hoursOf 36 = .ok (.iload_n 2, 1) := by decide +kernel
theorem dX6_hoursOf_37 : decode cX6_hoursOf 37 = .ok (.ireturn, 1) := by decide +kernel
theorem dX6_lacksDiary_0 : decode cX6_lacksDiary 0 = .ok (.aload_n 0, 1) := by decide +kernel
theorem dX6_lacksDiary_1 : decode cX6_lacksDiary 1 = .ok (.iload_n 1, 1) := by decide +kernel
theorem dX6_lacksDiary_2 : decode cX6_lacksDiary 2 = .ok (.invokevirtual 237, 3) := by decide +kernel
theorem dX6_lacksDiary_5 : decode cX6_lacksDiary 5 = .ok (.istore_n 2, 1) := by decide +kernel
theorem dX6_lacksDiary_6 : decode cX6_lacksDiary 6 = .ok (.iload_n 2, 1) := by decide +kernel
theorem dX6_lacksDiary_7 : decode cX6_lacksDiary 7 = .ok (.ifCond .ge 5, 3) := by decide +kernel
theorem dX6_lacksDiary_10 : decode cX6_lacksDiary 10 = .ok (.iload_n 2, 1) := by decide +kernel
theorem dX6_lacksDiary_11 : decode cX6_lacksDiary 11 = .ok (.ireturn, 1) := by decide +kernel
theorem dX6_lacksDiary_12 : decode cX6_lacksDiary 12 = .ok (.aload_n 0, 1) := by decide +kernel
theorem dX6_lacksDiary_13 : decode cX6_lacksDiary 13 = .ok (.getfield 7, 3) := by decide +kernel
theorem dX6_lacksDiary_16 : decode cX6_lacksDiary 16 = .ok (.iload_n 1, 1) := by decide +kernel
theorem dX6_lacksDiary_17 : decode cX6_lacksDiary 17 = .ok (.iaload, 1) := by decide +kernel
theorem dX6_lacksDiary_18 : decode cX6_lacksDiary 18 = .ok (.bipush 7, 2) := by decide +kernel
theorem dX6_lacksDiary_20 : decode cX6_lacksDiary 20 = .ok (.if_icmp .le 9, 3) := by decide +kernel
theorem dX6_lacksDiary_23 : decode cX6_lacksDiary 23 = .ok (.aload_n 0, 1) := by decide +kernel
theorem dX6_lacksDiary_24 : decode cX6_lacksDiary 24 = .ok (.iconst 5, 1) := by decide +kernel
theorem dX6_lacksDiary_25 : decode cX6_lacksDiary 25 = .ok (.invokevirtual 103, 3) := by decide +kernel
theorem dX6_lacksDiary_28 : decode cX6_lacksDiary 28 = .ok (.ireturn, 1) := by decide +kernel
theorem dX6_lacksDiary_29 : decode cX6_lacksDiary 29 = .ok (.iconst 0, 1) := by decide +kernel
theorem dX6_lacksDiary_30 : decode cX6_lacksDiary 30 = .ok (.istore_n 3, 1) := by decide +kernel
theorem dX6_lacksDiary_31 : decode cX6_lacksDiary 31 = .ok (.iload_n 3, 1) := by decide +kernel
theorem dX6_lacksDiary_32 : decode cX6_lacksDiary 32 = .ok (.aload_n 0, 1) := by decide +kernel
theorem dX6_lacksDiary_33 : decode cX6_lacksDiary 33 = .ok (.getfield 7, 3) := by decide +kernel
theorem dX6_lacksDiary_36 : decode cX6_lacksDiary 36 = .ok (.iload_n 1, 1) := by decide +kernel
theorem dX6_lacksDiary_37 : decode cX6_lacksDiary 37 = .ok (.iaload, 1) := by decide +kernel
theorem dX6_lacksDiary_38 : decode cX6_lacksDiary 38 = .ok (.if_icmp .ge 37, 3) := by decide +kernel
theorem dX6_lacksDiary_41 : decode cX6_lacksDiary 41 = .ok (.aload_n 0, 1) := by decide +kernel
theorem dX6_lacksDiary_42 : decode cX6_lacksDiary 42 = .ok (.getfield 13, 3) := by decide +kernel
theorem dX6_lacksDiary_45 : decode cX6_lacksDiary 45 = .ok (.bipush 40, 2) := by decide +kernel
theorem dX6_lacksDiary_47 : decode cX6_lacksDiary 47 = .ok (.iload_n 1, 1) := by decide +kernel
theorem dX6_lacksDiary_48 : decode cX6_lacksDiary 48 = .ok (.imul, 1) := by decide +kernel
theorem dX6_lacksDiary_49 : decode cX6_lacksDiary 49 = .ok (.iload_n 3, 1) := by decide +kernel
theorem dX6_lacksDiary_50 : decode cX6_lacksDiary 50 = .ok (.iadd, 1) := by decide +kernel
theorem dX6_lacksDiary_51 : decode cX6_lacksDiary 51 = .ok (.iaload, 1) := by decide +kernel
theorem dX6_lacksDiary_52 : decode cX6_lacksDiary 52 = .ok (.i2l, 1) := by decide +kernel
theorem dX6_lacksDiary_53 : decode cX6_lacksDiary 53 = .ok (.lconst 0, 1) := by decide +kernel
theorem dX6_lacksDiary_54 : decode cX6_lacksDiary 54 = .ok (.ldc2_w 268, 3) := by decide +kernel
theorem dX6_lacksDiary_57 : decode cX6_lacksDiary 57 = .ok (.invokestatic 93, 3) := by decide +kernel
theorem dX6_lacksDiary_60 : decode cX6_lacksDiary 60 = .ok (.ifCond .ne 9, 3) := by decide +kernel
theorem dX6_lacksDiary_63 : decode cX6_lacksDiary 63 = .ok (.aload_n 0, 1) := by decide +kernel
theorem dX6_lacksDiary_64 : decode cX6_lacksDiary 64 = .ok (.iconst 3, 1) := by decide +kernel
theorem dX6_lacksDiary_65 : decode cX6_lacksDiary 65 = .ok (.invokevirtual 103, 3) := by decide +kernel
theorem dX6_lacksDiary_68 : decode cX6_lacksDiary 68 = .ok (.ireturn, 1) := by decide +kernel
theorem dX6_lacksDiary_69 : decode cX6_lacksDiary 69 = .ok (.iinc 3 1, 3) := by decide +kernel
theorem dX6_lacksDiary_72 : decode cX6_lacksDiary 72 = .ok (.goto (-41), 3) := by decide +kernel
theorem dX6_lacksDiary_75 : decode cX6_lacksDiary 75 = .ok (.iconst 0, 1) := by decide +kernel
theorem dX6_lacksDiary_76 : decode cX6_lacksDiary 76 = .ok (.ireturn, 1) := by decide +kernel
theorem dX6_leftFor_0 : decode cX6_leftFor 0 = .ok (.aload_n 0, 1) := by decide +kernel
theorem dX6_leftFor_1 : decode cX6_leftFor 1 = .ok (.aload_n 0, 1) := by decide +kernel
theorem dX6_leftFor_2 : decode cX6_leftFor 2 = .ok (.getfield 13, 3) := by decide +kernel
theorem dX6_leftFor_5 : decode cX6_leftFor 5 = .ok (.bipush 40, 2) := by decide +kernel
theorem dX6_leftFor_7 : decode cX6_leftFor 7 = .ok (.iload_n 1, 1) := by decide +kernel
theorem dX6_leftFor_8 : decode cX6_leftFor 8 = .ok (.imul, 1) := by decide +kernel
theorem dX6_leftFor_9 : decode cX6_leftFor 9 = .ok (.iload_n 2, 1) := by decide +kernel
theorem dX6_leftFor_10 : decode cX6_leftFor 10 = .ok (.iadd, 1) := by decide +kernel
theorem dX6_leftFor_11 : decode cX6_leftFor 11 = .ok (.iaload, 1) := by decide +kernel
theorem dX6_leftFor_12 : decode cX6_leftFor 12 = .ok (.invokevirtual 270, 3) := by decide +kernel
theorem dX6_leftFor_15 : decode cX6_leftFor 15 = .ok (.istore_n 3, 1) := by decide +kernel
theorem dX6_leftFor_16 : decode cX6_leftFor 16 = .ok (.iconst 0, 1) := by decide +kernel
theorem dX6_leftFor_17 : decode cX6_leftFor 17 = .ok (.istore 4, 2) := by decide +kernel
theorem dX6_leftFor_19 : decode cX6_leftFor 19 = .ok (.iload 4, 2) := by decide +kernel
theorem dX6_leftFor_21 : decode cX6_leftFor 21 = .ok (.iload_n 2, 1) := by decide +kernel
theorem dX6_leftFor_22 : decode cX6_leftFor 22 = .ok (.if_icmp .ge 43, 3) := by decide +kernel
theorem dX6_leftFor_25 : decode cX6_leftFor 25 = .ok (.iload_n 3, 1) := by decide +kernel
theorem dX6_leftFor_26 : decode cX6_leftFor 26 = .ok (.aload_n 0, 1) := by decide +kernel
theorem dX6_leftFor_27 : decode cX6_leftFor 27 = .ok (.getfield 13, 3) := by decide +kernel
theorem dX6_leftFor_30 : decode cX6_leftFor 30 = .ok (.bipush 40, 2) := by decide +kernel
theorem dX6_leftFor_32 : decode cX6_leftFor 32 = .ok (.iload_n 1, 1) := by decide +kernel
theorem dX6_leftFor_33 : decode cX6_leftFor 33 = .ok (.imul, 1) := by decide +kernel
theorem dX6_leftFor_34 : decode cX6_leftFor 34 = .ok (.iload 4, 2) := by decide +kernel
theorem dX6_leftFor_36 : decode cX6_leftFor 36 = .ok (.iadd, 1) := by decide +kernel
theorem dX6_leftFor_37 : decode cX6_leftFor 37 = .ok (.iaload, 1) := by decide +kernel
theorem dX6_leftFor_38 : decode cX6_leftFor 38 = .ok (.aload_n 0, 1) := by decide +kernel
theorem dX6_leftFor_39 : decode cX6_leftFor 39 = .ok (.getfield 13, 3) := by decide +kernel
theorem dX6_leftFor_42 : decode cX6_leftFor 42 = .ok (.bipush 40, 2) := by decide +kernel
theorem dX6_leftFor_44 : decode cX6_leftFor 44 = .ok (.iload_n 1, 1) := by decide +kernel
theorem dX6_leftFor_45 : decode cX6_leftFor 45 = .ok (.imul, 1) := by decide +kernel
theorem dX6_leftFor_46 : decode cX6_leftFor 46 = .ok (.iload_n 2, 1) := by decide +kernel
theorem dX6_leftFor_47 : decode cX6_leftFor 47 = .ok (.iadd, 1) := by decide +kernel
theorem dX6_leftFor_48 : decode cX6_leftFor 48 = .ok (.iaload, 1) := by decide +kernel
theorem dX6_leftFor_49 : decode cX6_leftFor 49 = .ok (.if_icmp .ne 7, 3) := by decide +kernel
theorem dX6_leftFor_52 : decode cX6_leftFor 52 = .ok (.iconst 1, 1) := by decide +kernel
theorem dX6_leftFor_53 : decode cX6_leftFor 53 = .ok (.goto 4, 3) := by decide +kernel
theorem dX6_leftFor_56 : decode cX6_leftFor 56 = .ok (.iconst 0, 1) := by decide +kernel
theorem dX6_leftFor_57 : decode cX6_leftFor 57 = .ok (.isub, 1) := by decide +kernel
theorem dX6_leftFor_58 : decode cX6_leftFor 58 = .ok (.istore_n 3, 1) := by decide +kernel
theorem dX6_leftFor_59 : decode cX6_leftFor 59 = .ok (.iinc 4 1, 3) := by decide +kernel
theorem dX6_leftFor_62 : decode cX6_leftFor 62 = .ok (.goto (-43), 3) := by decide +kernel
theorem dX6_leftFor_65 : decode cX6_leftFor 65 = .ok (.iload_n 3, 1) := by decide +kernel
theorem dX6_leftFor_66 : decode cX6_leftFor 66 = .ok (.ireturn, 1) := by decide +kernel
theorem dX6_diary_0 : decode cX6_diary 0 = .ok (.iload_n 1, 1) := by decide +kernel
theorem dX6_diary_1 : decode cX6_diary 1 = .ok (.invokestatic 99, 3) := by decide +kernel
theorem dX6_diary_4 : decode cX6_diary 4 = .ok (.ifCond .ne 5, 3) := by decide +kernel
theorem dX6_diary_7 : decode cX6_diary 7 = .ok (.iconst (-1), 1) := by decide +kernel
theorem dX6_diary_8 : decode cX6_diary 8 = .ok (.ireturn, 1) := by decide +kernel
theorem dX6_diary_9 : decode cX6_diary 9 = .ok (.aload_n 0, 1) := by decide +kernel
theorem dX6_diary_10 : decode cX6_diary 10 = .ok (.iload_n 1, 1) := by decide +kernel
theorem dX6_diary_11 : decode cX6_diary 11 = .ok (.invokevirtual 273, 3) := by decide +kernel
theorem dX6_diary_14 : decode cX6_diary 14 = .ok (.istore_n 2, 1) := by decide +kernel
theorem dX6_diary_15 : decode cX6_diary 15 = .ok (.iload_n 2, 1) := by decide +kernel
theorem dX6_diary_16 : decode cX6_diary 16 = .ok (.ifCond .ge 5, 3) := by decide +kernel
theorem dX6_diary_19 : decode cX6_diary 19 = .ok (.iload_n 2, 1) := by decide +kernel
theorem dX6_diary_20 : decode cX6_diary 20 = .ok (.ireturn, 1) := by decide +kernel
theorem dX6_diary_21 : decode cX6_diary 21 = .ok (.iconst 1, 1) := by decide +kernel
theorem dX6_diary_22 : decode cX6_diary 22 = .ok (.istore_n 3, 1) := by decide +kernel
theorem dX6_diary_23 : decode cX6_diary 23 = .ok (.iconst 0, 1) := by decide +kernel
theorem dX6_diary_24 : decode cX6_diary 24 = .ok (.istore 4, 2) := by decide +kernel
theorem dX6_diary_26 : decode cX6_diary 26 = .ok (.iload 4, 2) := by decide +kernel
theorem dX6_diary_28 : decode cX6_diary 28 = .ok (.aload_n 0, 1) := by decide +kernel
theorem dX6_diary_29 : decode cX6_diary 29 = .ok (.getfield 7, 3) := by decide +kernel
theorem dX6_diary_32 : decode cX6_diary 32 = .ok (.iload_n 1, 1) := by decide +kernel
theorem dX6_diary_33 : decode cX6_diary 33 = .ok (.iaload, 1) := by decide +kernel
theorem dX6_diary_34 : decode cX6_diary 34 = .ok (.if_icmp .ge 33, 3) := by decide +kernel
theorem dX6_diary_37 : decode cX6_diary 37 = .ok (.iload_n 3, 1) := by decide +kernel
theorem dX6_diary_38 : decode cX6_diary 38 = .ok (.aload_n 0, 1) := by decide +kernel
theorem dX6_diary_39 : decode cX6_diary 39 = .ok (.iload_n 1, 1) := by decide +kernel
theorem dX6_diary_40 : decode cX6_diary 40 = .ok (.iload 4, 2) := by decide +kernel
theorem dX6_diary_42 : decode cX6_diary 42 = .ok (.invokevirtual 276, 3) := by decide +kernel
theorem dX6_diary_45 : decode cX6_diary 45 = .ok (.ifCond .ge 7, 3) := by decide +kernel
theorem dX6_diary_48 : decode cX6_diary 48 = .ok (.iconst 0, 1) := by decide +kernel
theorem dX6_diary_49 : decode cX6_diary 49 = .ok (.goto 10, 3) := by decide +kernel
theorem dX6_diary_52 : decode cX6_diary 52 = .ok (.aload_n 0, 1) := by decide +kernel
theorem dX6_diary_53 : decode cX6_diary 53 = .ok (.iload_n 1, 1) := by decide +kernel
theorem dX6_diary_54 : decode cX6_diary 54 = .ok (.iload 4, 2) := by decide +kernel
theorem dX6_diary_56 : decode cX6_diary 56 = .ok (.invokevirtual 276, 3) := by decide +kernel
theorem dX6_diary_59 : decode cX6_diary 59 = .ok (.imul, 1) := by decide +kernel
theorem dX6_diary_60 : decode cX6_diary 60 = .ok (.istore_n 3, 1) := by decide +kernel
theorem dX6_diary_61 : decode cX6_diary 61 = .ok (.iinc 4 1, 3) := by decide +kernel
theorem dX6_diary_64 : decode cX6_diary 64 = .ok (.goto (-38), 3) := by decide +kernel
theorem dX6_diary_67 : decode cX6_diary 67 = .ok (.bipush (-9), 2) := by decide +kernel
theorem dX6_diary_69 : decode cX6_diary 69 = .ok (.istore 4, 2) := by decide +kernel
theorem dX6_diary_71 : decode cX6_diary 71 = .ok (.aload_n 0, 1) := by decide +kernel
theorem dX6_diary_72 : decode cX6_diary 72 = .ok (.getfield 159, 3) := by decide +kernel
theorem dX6_diary_75 : decode cX6_diary 75 = .ok (.iconst 1, 1) := by decide +kernel
theorem dX6_diary_76 : decode cX6_diary 76 = .ok (.isub, 1) := by decide +kernel
theorem dX6_diary_77 : decode cX6_diary 77 = .ok (.istore 5, 2) := by decide +kernel
theorem dX6_diary_79 : decode cX6_diary 79 = .ok (.iload 5, 2) := by decide +kernel
theorem dX6_diary_81 : decode cX6_diary 81 = .ok (.ifCond .lt 50, 3) := by decide +kernel
theorem dX6_diary_84 : decode cX6_diary 84 = .ok (.iload_n 3, 1) := by decide +kernel
theorem dX6_diary_85 : decode cX6_diary 85 = .ok (.ifCond .le 36, 3) := by decide +kernel
theorem dX6_diary_88 : decode cX6_diary 88 = .ok (.aload_n 0, 1) := by decide +kernel
theorem dX6_diary_89 : decode cX6_diary 89 = .ok (.getfield 7, 3) := by decide +kernel
theorem dX6_diary_92 : decode cX6_diary 92 = .ok (.iload_n 1, 1) := by decide +kernel
theorem dX6_diary_93 : decode cX6_diary 93 = .ok (.iaload, 1) := by decide +kernel
theorem dX6_diary_94 : decode cX6_diary 94 = .ok (.ifCond .le 27, 3) := by decide +kernel
theorem dX6_diary_97 : decode cX6_diary 97 = .ok (.aload_n 0, 1) := by decide +kernel
theorem dX6_diary_98 : decode cX6_diary 98 = .ok (.getfield 31, 3) := by decide +kernel
theorem dX6_diary_101 : decode cX6_diary 101 = .ok (.iload 5, 2) := by decide +kernel
theorem dX6_diary_103 : decode cX6_diary 103 = .ok (.iaload, 1) := by decide +kernel
theorem dX6_diary_104 : decode cX6_diary 104 = .ok (.aload_n 0, 1) := by decide +kernel
theorem dX6_diary_105 : decode cX6_diary 105 = .ok (.getfield 13, 3) := by decide +kernel
theorem dX6_diary_108 : decode cX6_diary 108 = .ok (.bipush 40, 2) := by decide +kernel
theorem dX6_diary_110 : decode cX6_diary 110 = .ok (.iload_n 1, 1) := by decide +kernel
theorem dX6_diary_111 : decode cX6_diary 111 = .ok (.imul, 1) := by decide +kernel
theorem dX6_diary_112 : decode cX6_diary 112 = .ok (.iaload, 1) := by decide +kernel
theorem dX6_diary_113 : decode cX6_diary 113 = .ok (.if_icmp .ne 8, 3) := by decide +kernel
theorem dX6_diary_116 : decode cX6_diary 116 = .ok (.iload 5, 2) := by decide +kernel
theorem dX6_diary_118 : decode cX6_diary 118 = .ok (.goto 5, 3) := by decide +kernel
theorem dX6_diary_121 : decode cX6_diary 121 = .ok (.iload 4, 2) := by decide +kernel
theorem dX6_diary_123 : decode cX6_diary 123 = .ok (.istore 4, 2) := by decide +kernel
theorem dX6_diary_125 : decode cX6_diary 125 = .ok (.iinc 5 (-1), 3) := by decide +kernel
theorem dX6_diary_128 : decode cX6_diary 128 = .ok (.goto (-49), 3) := by decide +kernel
theorem dX6_diary_131 : decode cX6_diary 131 = .ok (.aload_n 0, 1) := by decide +kernel
theorem dX6_diary_132 : decode cX6_diary 132 = .ok (.iload_n 3, 1) := by decide +kernel
theorem dX6_diary_133 : decode cX6_diary 133 = .ok (.iload 4, 2) := by decide +kernel
theorem dX6_diary_135 : decode cX6_diary 135 = .ok (.invokevirtual 111, 3) := by decide +kernel
theorem dX6_diary_138 : decode cX6_diary 138 = .ok (.ireturn, 1) := by decide +kernel
theorem dX6_forged_0 : decode cX6_forged 0 = .ok (.iload_n 1, 1) := by decide +kernel
theorem dX6_forged_1 : decode cX6_forged 1 = .ok (.invokestatic 99, 3) := by decide +kernel
theorem dX6_forged_4 : decode cX6_forged 4 = .ok (.ifCond .ne 5, 3) := by decide +kernel
theorem dX6_forged_7 : decode cX6_forged 7 = .ok (.iconst (-1), 1) := by decide +kernel
theorem dX6_forged_8 : decode cX6_forged 8 = .ok (.ireturn, 1) := by decide +kernel
theorem dX6_forged_9 : decode cX6_forged 9 = .ok (.aload_n 0, 1) := by decide +kernel
theorem dX6_forged_10 : decode cX6_forged 10 = .ok (.iload_n 1, 1) := by decide +kernel
theorem dX6_forged_11 : decode cX6_forged 11 = .ok (.invokevirtual 273, 3) := by decide +kernel
theorem dX6_forged_14 : decode cX6_forged 14 = .ok (.istore_n 2, 1) := by decide +kernel
theorem dX6_forged_15 : decode cX6_forged 15 = .ok (.iload_n 2, 1) := by decide +kernel
theorem dX6_forged_16 : decode cX6_forged 16 = .ok (.ifCond .ge 5, 3) := by decide +kernel
theorem dX6_forged_19 : decode cX6_forged 19 = .ok (.iload_n 2, 1) := by decide +kernel
theorem dX6_forged_20 : decode cX6_forged 20 = .ok (.ireturn, 1) := by decide +kernel
theorem dX6_forged_21 : decode cX6_forged 21 = .ok (.iconst 0, 1) := by decide +kernel
theorem dX6_forged_22 : decode cX6_forged 22 = .ok (.istore_n 3, 1) := by decide +kernel
theorem dX6_forged_23 : decode cX6_forged 23 = .ok (.iload_n 3, 1) := by decide +kernel
theorem dX6_forged_24 : decode cX6_forged 24 = .ok (.aload_n 0, 1) := by decide +kernel
theorem dX6_forged_25 : decode cX6_forged 25 = .ok (.getfield 7, 3) := by decide +kernel
theorem dX6_forged_28 : decode cX6_forged 28 = .ok (.iload_n 1, 1) := by decide +kernel
theorem dX6_forged_29 : decode cX6_forged 29 = .ok (.iaload, 1) := by decide +kernel
theorem dX6_forged_30 : decode cX6_forged 30 = .ok (.if_icmp .ge 21, 3) := by decide +kernel
theorem dX6_forged_33 : decode cX6_forged 33 = .ok (.aload_n 0, 1) := by decide +kernel
theorem dX6_forged_34 : decode cX6_forged 34 = .ok (.iload_n 1, 1) := by decide +kernel
theorem dX6_forged_35 : decode cX6_forged 35 = .ok (.iload_n 3, 1) := by decide +kernel
theorem dX6_forged_36 : decode cX6_forged 36 = .ok (.invokevirtual 276, 3) := by decide +kernel
theorem dX6_forged_39 : decode cX6_forged 39 = .ok (.iconst 1, 1) := by decide +kernel
theorem dX6_forged_40 : decode cX6_forged 40 = .ok (.if_icmp .ge 5, 3) := by decide +kernel
theorem dX6_forged_43 : decode cX6_forged 43 = .ok (.iload_n 3, 1) := by decide +kernel
theorem dX6_forged_44 : decode cX6_forged 44 = .ok (.ireturn, 1) := by decide +kernel
theorem dX6_forged_45 : decode cX6_forged 45 = .ok (.iinc 3 1, 3) := by decide +kernel
theorem dX6_forged_48 : decode cX6_forged 48 = .ok (.goto (-25), 3) := by decide +kernel
theorem dX6_forged_51 : decode cX6_forged 51 = .ok (.bipush (-9), 2) := by decide +kernel
theorem dX6_forged_53 : decode cX6_forged 53 = .ok (.ireturn, 1) := by decide +kernel
theorem dX6_stolen_0 : decode cX6_stolen 0 = .ok (.iload_n 1, 1) := by decide +kernel
theorem dX6_stolen_1 : decode cX6_stolen 1 = .ok (.i2l, 1) := by decide +kernel
theorem dX6_stolen_2 : decode cX6_stolen 2 = .ok (.lconst 0, 1) := by decide +kernel
theorem dX6_stolen_3 : decode cX6_stolen 3 = .ok (.ldc2_w 279, 3) := by decide +kernel
theorem dX6_stolen_6 : decode cX6_stolen 6 = .ok (.invokestatic 93, 3) := by decide +kernel
theorem dX6_stolen_9 : decode cX6_stolen 9 = .ok (.ifCond .eq 15, 3) := by decide +kernel
theorem dX6_stolen_12 : decode cX6_stolen 12 = .ok (.iload_n 2, 1) := by decide +kernel
theorem dX6_stolen_13 : decode cX6_stolen 13 = .ok (.i2l, 1) := by decide +kernel
theorem dX6_stolen_14 : decode cX6_stolen 14 = .ok (.lconst 0, 1) := by decide +kernel
theorem dX6_stolen_15 : decode cX6_stolen 15 = .ok (.ldc2_w 281, 3) := by decide +kernel
theorem dX6_stolen_18 : decode cX6_stolen 18 = .ok (.invokestatic 93, 3) := by decide +kernel
theorem dX6_stolen_21 : decode cX6_stolen 21 = .ok (.ifCond .ne 5, 3) := by decide +kernel
theorem dX6_stolen_24 : decode cX6_stolen 24 = .ok (.iconst (-1), 1) := by decide +kernel
theorem dX6_stolen_25 : decode cX6_stolen 25 = .ok (.ireturn, 1) := by decide +kernel
theorem dX6_stolen_26 : decode cX6_stolen 26 = .ok (.iconst 0, 1) := by decide +kernel
theorem dX6_stolen_27 : decode cX6_stolen 27 = .ok (.istore_n 3, 1) := by decide +kernel
theorem dX6_stolen_28 : decode cX6_stolen 28 = .ok (.iconst 0, 1) := by decide +kernel
theorem dX6_stolen_29 : decode cX6_stolen 29 = .ok (.istore 4, 2) := by decide +kernel
theorem dX6_stolen_31 : decode cX6_stolen 31 = .ok (.iload 4, 2) := by decide +kernel
theorem dX6_stolen_33 : decode cX6_stolen 33 = .ok (.aload_n 0, 1) := by decide +kernel
theorem dX6_stolen_34 : decode cX6_stolen 34 = .ok (.getfield 159, 3) := by decide +kernel
theorem dX6_stolen_37 : decode cX6_stolen 37 = .ok (.if_icmp .ge 30, 3) := by decide +kernel
theorem dX6_stolen_40 : decode cX6_stolen 40 = .ok (.iload_n 3, 1) := by decide +kernel
theorem dX6_stolen_41 : decode cX6_stolen 41 = .ok (.aload_n 0, 1) := by decide +kernel
theorem dX6_stolen_42 : decode cX6_stolen 42 = .ok (.iload 4, 2) := by decide +kernel
theorem dX6_stolen_44 : decode cX6_stolen 44 = .ok (.invokevirtual 180, 3) := by decide +kernel
theorem dX6_stolen_47 : decode cX6_stolen 47 = .ok (.iload_n 2, 1) := by decide +kernel
theorem dX6_stolen_48 : decode cX6_stolen 48 = .ok (.if_icmp .gt 10, 3) := by decide +kernel
theorem dX6_stolen_51 : decode cX6_stolen 51 = .ok (.iconst 1, 1) := by decide +kernel
theorem dX6_stolen_52 : decode cX6_stolen 52 = .ok (.iload 4, 2) := by decide +kernel
theorem dX6_stolen_54 : decode cX6_stolen 54 = .ok (.ishl, 1) := by decide +kernel
theorem dX6_stolen_55 : decode cX6_stolen 55 = .ok (.goto 4, 3) := by decide +kernel
theorem dX6_stolen_58 : decode cX6_stolen 58 = .ok (.iconst 0, 1) := by decide +kernel
theorem dX6_stolen_59 : decode cX6_stolen 59 = .ok (.ior, 1) := by decide +kernel
theorem dX6_stolen_60 : decode cX6_stolen 60 = .ok (.istore_n 3, 1) := by decide +kernel
theorem dX6_stolen_61 : decode cX6_stolen 61 = .ok (.iinc 4 1, 3) := by decide +kernel
theorem dX6_stolen_64 : decode cX6_stolen 64 = .ok (.goto (-33), 3) := by decide +kernel
theorem dX6_stolen_67 : decode cX6_stolen 67 = .ok (.iload_n 3, 1) := by decide +kernel
theorem dX6_stolen_68 : decode cX6_stolen 68 = .ok (.invokestatic 200, 3) := by decide +kernel
theorem dX6_stolen_71 : decode cX6_stolen 71 = .ok (.iload_n 1, 1) := by decide +kernel
theorem dX6_stolen_72 : decode cX6_stolen 72 = .ok (.iconst 1, 1) := by decide +kernel
theorem dX6_stolen_73 : decode cX6_stolen 73 = .ok (.iadd, 1) := by decide +kernel
theorem dX6_stolen_74 : decode cX6_stolen 74 = .ok (.if_icmp .ne 7, 3) := by decide +kernel
theorem dX6_stolen_77 : decode cX6_stolen 77 = .ok (.iload_n 3, 1) := by decide +kernel
theorem dX6_stolen_78 : decode cX6_stolen 78 = .ok (.goto 4, 3) := by decide +kernel
theorem dX6_stolen_81 : decode cX6_stolen 81 = .ok (.iconst 0, 1) := by decide +kernel
theorem dX6_stolen_82 : decode cX6_stolen 82 = .ok (.ireturn, 1) := by decide +kernel
theorem dX6_odds_0 : decode cX6_odds 0 = .ok (.aload_n 0, 1) := by decide +kernel
theorem dX6_odds_1 : decode cX6_odds 1 = .ok (.iload_n 1, 1) := by decide +kernel
theorem dX6_odds_2 : decode cX6_odds 2 = .ok (.invokevirtual 168, 3) := by decide +kernel
theorem dX6_odds_5 : decode cX6_odds 5 = .ok (.ifCond .ne 5, 3) := by decide +kernel
theorem dX6_odds_8 : decode cX6_odds 8 = .ok (.iconst (-1), 1) := by decide +kernel
theorem dX6_odds_9 : decode cX6_odds 9 = .ok (.ireturn, 1) := by decide +kernel
theorem dX6_odds_10 : decode cX6_odds 10 = .ok (.aload_n 0, 1) := by decide +kernel
theorem dX6_odds_11 : decode cX6_odds 11 = .ok (.aload_n 0, 1) := by decide +kernel
theorem dX6_odds_12 : decode cX6_odds 12 = .ok (.getfield 43, 3) := by decide +kernel
theorem dX6_odds_15 : decode cX6_odds 15 = .ok (.iconst 0, 1) := by decide +kernel
theorem dX6_odds_16 : decode cX6_odds 16 = .ok (.iaload, 1) := by decide +kernel
theorem dX6_odds_17 : decode cX6_odds 17 = .ok (.invokevirtual 213, 3) := by decide +kernel
theorem dX6_odds_20 : decode cX6_odds 20 = .ok (.istore_n 2, 1) := by decide +kernel
theorem dX6_odds_21 : decode cX6_odds 21 = .ok (.aload_n 0, 1) := by decide +kernel
theorem dX6_odds_22 : decode cX6_odds 22 = .ok (.iload_n 2, 1) := by decide +kernel
theorem dX6_odds_23 : decode cX6_odds 23 = .ok (.invokevirtual 253, 3) := by decide +kernel
theorem dX6_odds_26 : decode cX6_odds 26 = .ok (.aload_n 0, 1) := by decide +kernel
theorem dX6_odds_27 : decode cX6_odds 27 = .ok (.iload_n 1, 1) := by decide +kernel
theorem dX6_odds_28 : decode cX6_odds 28 = .ok (.invokevirtual 256, 3) := by decide +kernel
theorem dX6_odds_31 : decode cX6_odds 31 = .ok (.iconst 0, 1) := by decide +kernel
theorem dX6_odds_32 : decode cX6_odds 32 = .ok (.istore_n 3, 1) := by decide +kernel
theorem dX6_odds_33 : decode cX6_odds 33 = .ok (.iconst 0, 1) := by decide +kernel
theorem dX6_odds_34 : decode cX6_odds 34 = .ok (.istore 4, 2) := by decide +kernel
theorem dX6_odds_36 : decode cX6_odds 36 = .ok (.iload 4, 2) := by decide +kernel
theorem dX6_odds_38 : decode cX6_odds 38 = .ok (.sipush 128, 3) := by decide +kernel
theorem dX6_odds_41 : decode cX6_odds 41 = .ok (.if_icmp .ge 35, 3) := by decide +kernel
theorem dX6_odds_44 : decode cX6_odds 44 = .ok (.iload_n 3, 1) := by decide +kernel
theorem dX6_odds_45 : decode cX6_odds 45 = .ok (.iload 4, 2) := by decide +kernel
theorem dX6_odds_47 : decode cX6_odds 47 = .ok (.iload_n 2, 1) := by decide +kernel
theorem dX6_odds_48 : decode cX6_odds 48 = .ok (.iconst (-1), 1) := by decide +kernel
theorem dX6_odds_49 : decode cX6_odds 49 = .ok (.ixor, 1) := by decide +kernel
theorem dX6_odds_50 : decode cX6_odds 50 = .ok (.iand, 1) := by decide +kernel
theorem dX6_odds_51 : decode cX6_odds 51 = .ok (.ifCond .ne 16, 3) := by decide +kernel
theorem dX6_odds_54 : decode cX6_odds 54 = .ok (.aload_n 0, 1) := by decide +kernel
theorem dX6_odds_55 : decode cX6_odds 55 = .ok (.iload 4, 2) := by decide +kernel
theorem dX6_odds_57 : decode cX6_odds 57 = .ok (.invokevirtual 259, 3) := by decide +kernel
theorem dX6_odds_60 : decode cX6_odds 60 = .ok (.ifCond .lt 7, 3) := by decide +kernel
theorem dX6_odds_63 : decode cX6_odds 63 = .ok (.iconst 1, 1) := by decide +kernel
theorem dX6_odds_64 : decode cX6_odds 64 = .ok (.goto 4, 3) := by decide +kernel
theorem dX6_odds_67 : decode cX6_odds 67 = .ok (.iconst 0, 1) := by decide +kernel
theorem dX6_odds_68 : decode cX6_odds 68 = .ok (.iadd, 1) := by decide +kernel
theorem dX6_odds_69 : decode cX6_odds 69 = .ok (.istore_n 3, 1) := by decide +kernel
theorem dX6_odds_70 : decode cX6_odds 70 = .ok (.iinc 4 1, 3) := by decide +kernel
theorem dX6_odds_73 : decode cX6_odds 73 = .ok (.goto (-37), 3) := by decide +kernel
theorem dX6_odds_76 : decode cX6_odds 76 = .ok (.iconst 1, 1) := by decide +kernel
theorem dX6_odds_77 : decode cX6_odds 77 = .ok (.iload_n 2, 1) := by decide +kernel
theorem dX6_odds_78 : decode cX6_odds 78 = .ok (.invokestatic 200, 3) := by decide +kernel
theorem dX6_odds_81 : decode cX6_odds 81 = .ok (.ishl, 1) := by decide +kernel
theorem dX6_odds_82 : decode cX6_odds 82 = .ok (.istore 4, 2) := by decide +kernel
theorem dX6_odds_84 : decode cX6_odds 84 = .ok (.iload_n 3, 1) := by decide +kernel
theorem dX6_odds_85 : decode cX6_odds 85 = .ok (.iconst 2, 1) := by decide +kernel
theorem dX6_odds_86 : decode cX6_odds 86 = .ok (.irem, 1) := by decide +kernel
theorem dX6_odds_87 : decode cX6_odds 87 = .ok (.ifCond .ne 22, 3) := by decide +kernel
theorem dX6_odds_90 : decode cX6_odds 90 = .ok (.iload 4, 2) := by decide +kernel
theorem dX6_odds_92 : decode cX6_odds 92 = .ok (.iconst 1, 1) := by decide +kernel
theorem dX6_odds_93 : decode cX6_odds 93 = .ok (.if_icmp .le 16, 3) := by decide +kernel
theorem dX6_odds_96 : decode cX6_odds 96 = .ok (.iload_n 3, 1) := by decide +kernel
theorem dX6_odds_97 : decode cX6_odds 97 = .ok (.iconst 2, 1) := by decide +kernel
theorem dX6_odds_98 : decode cX6_odds 98 = .ok (.idiv, 1) := by decide +kernel
theorem dX6_odds_99 : decode cX6_odds 99 = .ok (.istore_n 3, 1) := by decide +kernel
theorem dX6_odds_100 : decode cX6_odds 100 = .ok (.iload 4, 2) := by decide +kernel
theorem dX6_odds_102 : decode cX6_odds 102 = .ok (.iconst 2, 1) := by decide +kernel
theorem dX6_odds_103 : decode cX6_odds 103 = .ok (.idiv, 1) := by decide +kernel
theorem dX6_odds_104 : decode cX6_odds 104 = .ok (.istore 4, 2) := by decide +kernel
theorem dX6_odds_106 : decode cX6_odds 106 = .ok (.goto (-22), 3) := by decide +kernel
theorem dX6_odds_109 : decode cX6_odds 109 = .ok (.aload_n 0, 1) := by decide +kernel
theorem dX6_odds_110 : decode cX6_odds 110 = .ok (.iload_n 3, 1) := by decide +kernel
theorem dX6_odds_111 : decode cX6_odds 111 = .ok (.i2l, 1) := by decide +kernel
theorem dX6_odds_112 : decode cX6_odds 112 = .ok (.putfield 283, 3) := by decide +kernel
theorem dX6_odds_115 : decode cX6_odds 115 = .ok (.aload_n 0, 1) := by decide +kernel
theorem dX6_odds_116 : decode cX6_odds 116 = .ok (.iload 4, 2) := by decide +kernel
theorem dX6_odds_118 : decode cX6_odds 118 = .ok (.i2l, 1) := by decide +kernel
theorem dX6_odds_119 : decode cX6_odds 119 = .ok (.putfield 49, 3) := by decide +kernel
theorem dX6_odds_122 : decode cX6_odds 122 = .ok (.iconst 1, 1) := by decide +kernel
theorem dX6_odds_123 : decode cX6_odds 123 = .ok (.ireturn, 1) := by decide +kernel
theorem dX6_oneOf_0 : decode cX6_oneOf 0 = .ok (.iload_n 1, 1) := by decide +kernel
theorem dX6_oneOf_1 : decode cX6_oneOf 1 = .ok (.istore_n 2, 1) := by decide +kernel
theorem dX6_oneOf_2 : decode cX6_oneOf 2 = .ok (.iconst 0, 1) := by decide +kernel
theorem dX6_oneOf_3 : decode cX6_oneOf 3 = .ok (.istore_n 3, 1) := by decide +kernel
theorem dX6_oneOf_4 : decode cX6_oneOf 4 = .ok (.iload_n 0, 1) := by decide +kernel
theorem dX6_oneOf_5 : decode cX6_oneOf 5 = .ok (.iload_n 3, 1) := by decide +kernel
theorem dX6_oneOf_6 : decode cX6_oneOf 6 = .ok (.invokestatic 136, 3) := by decide +kernel
theorem dX6_oneOf_9 : decode cX6_oneOf 9 = .ok (.ifCond .eq 7, 3) := by decide +kernel
theorem dX6_oneOf_12 : decode cX6_oneOf 12 = .ok (.iload_n 2, 1) := by decide +kernel
theorem dX6_oneOf_13 : decode cX6_oneOf 13 = .ok (.ifCond .le 25, 3) := by decide +kernel
theorem dX6_oneOf_16 : decode cX6_oneOf 16 = .ok (.iload_n 2, 1) := by decide +kernel
theorem dX6_oneOf_17 : decode cX6_oneOf 17 = .ok (.iload_n 0, 1) := by decide +kernel
theorem dX6_oneOf_18 : decode cX6_oneOf 18 = .ok (.iload_n 3, 1) := by decide +kernel
theorem dX6_oneOf_19 : decode cX6_oneOf 19 = .ok (.invokestatic 136, 3) := by decide +kernel
theorem dX6_oneOf_22 : decode cX6_oneOf 22 = .ok (.ifCond .eq 7, 3) := by decide +kernel
theorem dX6_oneOf_25 : decode cX6_oneOf 25 = .ok (.iconst 1, 1) := by decide +kernel
theorem dX6_oneOf_26 : decode cX6_oneOf 26 = .ok (.goto 4, 3) := by decide +kernel
theorem dX6_oneOf_29 : decode cX6_oneOf 29 = .ok (.iconst 0, 1) := by decide +kernel
theorem dX6_oneOf_30 : decode cX6_oneOf 30 = .ok (.isub, 1) := by decide +kernel
theorem dX6_oneOf_31 : decode cX6_oneOf 31 = .ok (.istore_n 2, 1) := by decide +kernel
theorem dX6_oneOf_32 : decode cX6_oneOf 32 = .ok (.iinc 3 1, 3) := by decide +kernel
theorem dX6_oneOf_35 : decode cX6_oneOf 35 = .ok (.goto (-31), 3) := by decide +kernel
theorem dX6_oneOf_38 : decode cX6_oneOf 38 = .ok (.iload_n 3, 1) := by decide +kernel
theorem dX6_oneOf_39 : decode cX6_oneOf 39 = .ok (.ireturn, 1) := by decide +kernel
theorem dX6_lots_0 : decode cX6_lots 0 = .ok (.iload_n 1, 1) := by decide +kernel
theorem dX6_lots_1 : decode cX6_lots 1 = .ok (.i2l, 1) := by decide +kernel
theorem dX6_lots_2 : decode cX6_lots 2 = .ok (.lconst 1, 1) := by decide +kernel
theorem dX6_lots_3 : decode cX6_lots 3 = .ok (.ldc2_w 281, 3) := by decide +kernel
theorem dX6_lots_6 : decode cX6_lots 6 = .ok (.invokestatic 93, 3) := by decide +kernel
theorem dX6_lots_9 : decode cX6_lots 9 = .ok (.ifCond .eq 15, 3) := by decide +kernel
theorem dX6_lots_12 : decode cX6_lots 12 = .ok (.iload_n 2, 1) := by decide +kernel
theorem dX6_lots_13 : decode cX6_lots 13 = .ok (.i2l, 1) := by decide +kernel
theorem dX6_lots_14 : decode cX6_lots 14 = .ok (.lconst 1, 1) := by decide +kernel
theorem dX6_lots_15 : decode cX6_lots 15 = .ok (.ldc2_w 286, 3) := by decide +kernel
theorem dX6_lots_18 : decode cX6_lots 18 = .ok (.invokestatic 93, 3) := by decide +kernel
theorem dX6_lots_21 : decode cX6_lots 21 = .ok (.ifCond .ne 5, 3) := by decide +kernel
theorem dX6_lots_24 : decode cX6_lots 24 = .ok (.iconst (-1), 1) := by decide +kernel
theorem dX6_lots_25 : decode cX6_lots 25 = .ok (.ireturn, 1) := by decide +kernel
theorem dX6_lots_26 : decode cX6_lots 26 = .ok (.aload_n 0, 1) := by decide +kernel
theorem dX6_lots_27 : decode cX6_lots 27 = .ok (.getfield 156, 3) := by decide +kernel
theorem dX6_lots_30 : decode cX6_lots 30 = .ok (.ifCond .ne 6, 3) := by decide +kernel
theorem dX6_lots_33 : decode cX6_lots 33 = .ok (.bipush (-4), 2) := by decide +kernel
theorem dX6_lots_35 : decode cX6_lots 35 = .ok (.ireturn, 1) := by decide +kernel
theorem dX6_lots_36 : decode cX6_lots 36 = .ok (.iload_n 2, 1) := by decide +kernel
theorem dX6_lots_37 : decode cX6_lots 37 = .ok (.i2l, 1) := by decide +kernel
theorem dX6_lots_38 : decode cX6_lots 38 = .ok (.lstore_n 3, 1) := by decide +kernel
theorem dX6_lots_39 : decode cX6_lots 39 = .ok (.iconst 0, 1) := by decide +kernel
theorem dX6_lots_40 : decode cX6_lots 40 = .ok (.istore 5, 2) := by decide +kernel
theorem dX6_lots_42 : decode cX6_lots 42 = .ok (.iconst 0, 1) := by decide +kernel
theorem dX6_lots_43 : decode cX6_lots 43 = .ok (.istore 6, 2) := by decide +kernel
theorem dX6_lots_45 : decode cX6_lots 45 = .ok (.iload 6, 2) := by decide +kernel
theorem dX6_lots_47 : decode cX6_lots 47 = .ok (.iload_n 1, 1) := by decide +kernel
theorem dX6_lots_48 : decode cX6_lots 48 = .ok (.if_icmp .ge 141, 3) := by decide +kernel
theorem dX6_lots_51 : decode cX6_lots 51 = .ok (.aload_n 0, 1) := by decide +kernel
theorem dX6_lots_52 : decode cX6_lots 52 = .ok (.getfield 162, 3) := by decide +kernel
theorem dX6_lots_55 : decode cX6_lots 55 = .ok (.bipush 40, 2) := by decide +kernel
theorem dX6_lots_57 : decode cX6_lots 57 = .ok (.if_icmp .ge 132, 3) := by decide +kernel
theorem dX6_lots_60 : decode cX6_lots 60 = .ok (.lload_n 3, 1) := by decide +kernel
theorem dX6_lots_61 : decode cX6_lots 61 = .ok (.ldc2_w 288, 3) := by decide +kernel
theorem dX6_lots_64 : decode cX6_lots 64 = .ok (.lmul, 1) := by decide +kernel
theorem dX6_lots_65 : decode cX6_lots 65 = .ok (.ldc2_w 290, 3) := by decide +kernel
theorem dX6_lots_68 : decode cX6_lots 68 = .ok (.lrem, 1) := by decide +kernel
theorem dX6_lots_69 : decode cX6_lots 69 = .ok (.lstore_n 3, 1) := by decide +kernel
theorem dX6_lots_70 : decode cX6_lots 70 = .ok (.aload_n 0, 1) := by decide +kernel
theorem dX6_lots_71 : decode cX6_lots 71 = .ok (.aload_n 0, 1) := by decide +kernel
theorem dX6_lots_72 : decode cX6_lots 72 = .ok (.getfield 43, 3) := by decide +kernel
theorem dX6_lots_75 : decode cX6_lots 75 = .ok (.iconst 0, 1) := by decide +kernel
theorem dX6_lots_76 : decode cX6_lots 76 = .ok (.iaload, 1) := by decide +kernel
theorem dX6_lots_77 : decode cX6_lots 77 = .ok (.invokevirtual 213, 3) := by decide +kernel
theorem dX6_lots_80 : decode cX6_lots 80 = .ok (.istore 7, 2) := by decide +kernel
theorem dX6_lots_82 : decode cX6_lots 82 = .ok (.iload 7, 2) := by decide +kernel
theorem dX6_lots_84 : decode cX6_lots 84 = .ok (.ifCond .ne 11, 3) := by decide +kernel
theorem dX6_lots_87 : decode cX6_lots 87 = .ok (.aload_n 0, 1) := by decide +kernel
theorem dX6_lots_88 : decode cX6_lots 88 = .ok (.invokevirtual 292, 3) := by decide +kernel
theorem dX6_lots_91 : decode cX6_lots 91 = .ok (.pop, 1) := by decide +kernel
theorem dX6_lots_92 : decode cX6_lots 92 = .ok (.goto 91, 3) := by decide +kernel
theorem dX6_lots_95 : decode cX6_lots 95 = .ok (.iload 7, 2) := by decide +kernel
theorem dX6_lots_97 : decode cX6_lots 97 = .ok (.lload_n 3, 1) := by decide +kernel
theorem dX6_lots_98 : decode cX6_lots 98 = .ok (.iload 7, 2) := by decide +kernel
theorem dX6_lots_100 : decode cX6_lots 100 = .ok (.invokestatic 200, 3) := by decide +kernel
theorem dX6_lots_103 : decode cX6_lots 103 = .ok (.i2l, 1) := by decide +kernel
theorem dX6_lots_104 : decode cX6_lots 104 = .ok (.lrem, 1) := by decide +kernel
theorem dX6_lots_105 : decode cX6_lots 105 = .ok (.l2i, 1) := by decide +kernel
theorem dX6_lots_106 : decode cX6_lots 106 = .ok (.invokestatic 295, 3) := by decide +kernel
theorem dX6_lots_109 : decode cX6_lots 109 = .ok (.istore 8, 2) := by decide +kernel
theorem dX6_lots_111 : decode cX6_lots 111 = .ok (.aload_n 0, 1) := by decide +kernel
theorem dX6_lots_112 : decode cX6_lots 112 = .ok (.iload 8, 2) := by decide +kernel
theorem dX6_lots_114 : decode cX6_lots 114 = .ok (.invokevirtual 298, 3) := by decide +kernel
theorem dX6_lots_117 : decode cX6_lots 117 = .ok (.istore 9, 2) := by decide +kernel
theorem dX6_lots_119 : decode cX6_lots 119 = .ok (.lload_n 3, 1) := by decide +kernel
theorem dX6_lots_120 : decode cX6_lots 120 = .ok (.ldc2_w 301, 3) := by decide +kernel
theorem dX6_lots_123 : decode cX6_lots 123 = .ok (.ldiv, 1) := by decide +kernel
theorem dX6_lots_124 : decode cX6_lots 124 = .ok (.iload 9, 2) := by decide +kernel
theorem dX6_lots_126 : decode cX6_lots 126 = .ok (.invokestatic 200, 3) := by decide +kernel
theorem dX6_lots_129 : decode cX6_lots 129 = .ok (.iconst 1, 1) := by decide +kernel
theorem dX6_lots_130 : decode cX6_lots 130 = .ok (.iadd, 1) := by decide +kernel
theorem dX6_lots_131 : decode cX6_lots 131 = .ok (.i2l, 1) := by decide +kernel
theorem dX6_lots_132 : decode cX6_lots 132 = .ok (.lrem, 1) := by decide +kernel
theorem dX6_lots_133 : decode cX6_lots 133 = .ok (.l2i, 1) := by decide +kernel
theorem dX6_lots_134 : decode cX6_lots 134 = .ok (.istore 10, 2) := by decide +kernel
theorem dX6_lots_136 : decode cX6_lots 136 = .ok (.iload 10, 2) := by decide +kernel
theorem dX6_lots_138 : decode cX6_lots 138 = .ok (.iload 9, 2) := by decide +kernel
theorem dX6_lots_140 : decode cX6_lots 140 = .ok (.invokestatic 200, 3) := by decide +kernel
theorem dX6_lots_143 : decode cX6_lots 143 = .ok (.if_icmp .ne 8, 3) := by decide +kernel
theorem dX6_lots_146 : decode cX6_lots 146 = .ok (.bipush (-9), 2) := by decide +kernel
theorem dX6_lots_148 : decode cX6_lots 148 = .ok (.goto 10, 3) := by decide +kernel
theorem dX6_lots_151 : decode cX6_lots 151 = .ok (.iload 9, 2) := by decide +kernel
theorem dX6_lots_153 : decode cX6_lots 153 = .ok (.iload 10, 2) := by decide +kernel
theorem dX6_lots_155 : decode cX6_lots 155 = .ok (.invokestatic 295, 3) := by decide +kernel
theorem dX6_lots_158 : decode cX6_lots 158 = .ok (.istore 11, 2) := by decide +kernel
theorem dX6_lots_160 : decode cX6_lots 160 = .ok (.aload_n 0, 1) := by decide +kernel
theorem dX6_lots_161 : decode cX6_lots 161 = .ok (.iload 8, 2) := by decide +kernel
theorem dX6_lots_163 : decode cX6_lots 163 = .ok (.iload 11, 2) := by decide +kernel
theorem dX6_lots_165 : decode cX6_lots 165 = .ok (.invokevirtual 229, 3) := by decide +kernel
theorem dX6_lots_168 : decode cX6_lots 168 = .ok (.iload 5, 2) := by decide +kernel
theorem dX6_lots_170 : decode cX6_lots 170 = .ok (.iload 11, 2) := by decide +kernel
theorem dX6_lots_172 : decode cX6_lots 172 = .ok (.ifCond .ge 7, 3) := by decide +kernel
theorem dX6_lots_175 : decode cX6_lots 175 = .ok (.iconst 0, 1) := by decide +kernel
theorem dX6_lots_176 : decode cX6_lots 176 = .ok (.goto 4, 3) := by decide +kernel
theorem dX6_lots_179 : decode cX6_lots 179 = .ok (.iconst 1, 1) := by decide +kernel
theorem dX6_lots_180 : decode cX6_lots 180 = .ok (.iadd, 1) := by decide +kernel
theorem dX6_lots_181 : decode cX6_lots 181 = .ok (.istore 5, 2) := by decide +kernel
theorem dX6_lots_183 : decode cX6_lots 183 = .ok (.iinc 6 1, 3) := by decide +kernel
theorem dX6_lots_186 : decode cX6_lots 186 = .ok (.goto (-141), 3) := by decide +kernel
theorem dX6_lots_189 : decode cX6_lots 189 = .ok (.iload 5, 2) := by decide +kernel
theorem dX6_lots_191 : decode cX6_lots 191 = .ok (.ireturn, 1) := by decide +kernel
theorem dX6_asked_0 : decode cX6_asked 0 = .ok (.aload_n 0, 1) := by decide +kernel
theorem dX6_asked_1 : decode cX6_asked 1 = .ok (.getfield 88, 3) := by decide +kernel
theorem dX6_asked_4 : decode cX6_asked 4 = .ok (.ireturn, 1) := by decide +kernel
theorem dX6_upper_0 : decode cX6_upper 0 = .ok (.aload_n 0, 1) := by decide +kernel
theorem dX6_upper_1 : decode cX6_upper 1 = .ok (.getfield 283, 3) := by decide +kernel
theorem dX6_upper_4 : decode cX6_upper 4 = .ok (.lreturn, 1) := by decide +kernel
theorem dX6_lower_0 : decode cX6_lower 0 = .ok (.aload_n 0, 1) := by decide +kernel
theorem dX6_lower_1 : decode cX6_lower 1 = .ok (.getfield 49, 3) := by decide +kernel
theorem dX6_lower_4 : decode cX6_lower 4 = .ok (.lreturn, 1) := by decide +kernel
theorem dX6_there_0 : decode cX6_there 0 = .ok (.iconst 0, 1) := by decide +kernel
theorem dX6_there_1 : decode cX6_there 1 = .ok (.istore_n 1, 1) := by decide +kernel
theorem dX6_there_2 : decode cX6_there 2 = .ok (.iconst 0, 1) := by decide +kernel
theorem dX6_there_3 : decode cX6_there 3 = .ok (.istore_n 2, 1) := by decide +kernel
theorem dX6_there_4 : decode cX6_there 4 = .ok (.iload_n 2, 1) := by decide +kernel
theorem dX6_there_5 : decode cX6_there 5 = .ok (.aload_n 0, 1) := by decide +kernel
theorem dX6_there_6 : decode cX6_there 6 = .ok (.arraylength, 1) := by decide +kernel
theorem dX6_there_7 : decode cX6_there 7 = .ok (.if_icmp .ge 23, 3) := by decide +kernel
theorem dX6_there_10 : decode cX6_there 10 = .ok (.iload_n 1, 1) := by decide +kernel
theorem dX6_there_11 : decode cX6_there 11 = .ok (.aload_n 0, 1) := by decide +kernel
theorem dX6_there_12 : decode cX6_there 12 = .ok (.iload_n 2, 1) := by decide +kernel
theorem dX6_there_13 : decode cX6_there 13 = .ok (.iaload, 1) := by decide +kernel
theorem dX6_there_14 : decode cX6_there 14 = .ok (.ifCond .lt 7, 3) := by decide +kernel
theorem dX6_there_17 : decode cX6_there 17 = .ok (.iconst 1, 1) := by decide +kernel
theorem dX6_there_18 : decode cX6_there 18 = .ok (.goto 4, 3) := by decide +kernel
theorem dX6_there_21 : decode cX6_there 21 = .ok (.iconst 0, 1) := by decide +kernel
theorem dX6_there_22 : decode cX6_there 22 = .ok (.iadd, 1) := by decide +kernel
theorem dX6_there_23 : decode cX6_there 23 = .ok (.istore_n 1, 1) := by decide +kernel
theorem dX6_there_24 : decode cX6_there 24 = .ok (.iinc 2 1, 3) := by decide +kernel
theorem dX6_there_27 : decode cX6_there 27 = .ok (.goto (-23), 3) := by decide +kernel
theorem dX6_there_30 : decode cX6_there 30 = .ok (.iload_n 1, 1) := by decide +kernel
theorem dX6_there_31 : decode cX6_there 31 = .ok (.ireturn, 1) := by decide +kernel
theorem dX6_count_0 : decode cX6_count 0 = .ok (.iconst 0, 1) := by decide +kernel
theorem dX6_count_1 : decode cX6_count 1 = .ok (.istore_n 2, 1) := by decide +kernel
theorem dX6_count_2 : decode cX6_count 2 = .ok (.iconst 0, 1) := by decide +kernel
theorem dX6_count_3 : decode cX6_count 3 = .ok (.istore_n 3, 1) := by decide +kernel
theorem dX6_count_4 : decode cX6_count 4 = .ok (.iload_n 3, 1) := by decide +kernel
theorem dX6_count_5 : decode cX6_count 5 = .ok (.aload_n 0, 1) := by decide +kernel
theorem dX6_count_6 : decode cX6_count 6 = .ok (.getfield 156, 3) := by decide +kernel
theorem dX6_count_9 : decode cX6_count 9 = .ok (.if_icmp .ge 30, 3) := by decide +kernel
theorem dX6_count_12 : decode cX6_count 12 = .ok (.iload_n 2, 1) := by decide +kernel
theorem dX6_count_13 : decode cX6_count 13 = .ok (.aload_n 0, 1) := by decide +kernel
theorem dX6_count_14 : decode cX6_count 14 = .ok (.getfield 22, 3) := by decide +kernel
theorem dX6_count_17 : decode cX6_count 17 = .ok (.iload_n 3, 1) := by decide +kernel
theorem dX6_count_18 : decode cX6_count 18 = .ok (.iaload, 1) := by decide +kernel
theorem dX6_count_19 : decode cX6_count 19 = .ok (.iconst 1, 1) := by decide +kernel
theorem dX6_count_20 : decode cX6_count 20 = .ok (.invokestatic 195, 3) := by decide +kernel
theorem dX6_count_23 : decode cX6_count 23 = .ok (.ifCond .eq 7, 3) := by decide +kernel
theorem dX6_count_26 : decode cX6_count 26 = .ok (.iconst 1, 1) := by decide +kernel
theorem dX6_count_27 : decode cX6_count 27 = .ok (.goto 4, 3) := by decide +kernel
theorem dX6_count_30 : decode cX6_count 30 = .ok (.iconst 0, 1) := by decide +kernel
theorem dX6_count_31 : decode cX6_count 31 = .ok (.iadd, 1) := by decide +kernel
theorem dX6_count_32 : decode cX6_count 32 = .ok (.istore_n 2, 1) := by decide +kernel
theorem dX6_count_33 : decode cX6_count 33 = .ok (.iinc 3 1, 3) := by decide +kernel
theorem dX6_count_36 : decode cX6_count 36 = .ok (.goto (-32), 3) := by decide +kernel
theorem dX6_count_39 : decode cX6_count 39 = .ok (.iload_n 1, 1) := by decide +kernel
theorem dX6_count_40 : decode cX6_count 40 = .ok (.tableswitch 150 0 8 #[52, 57, 62, 67, 77, 87, 89, 97, 105], 52) := by decide +kernel
theorem dX6_count_92 : decode cX6_count 92 = .ok (.aload_n 0, 1) := by decide +kernel
theorem dX6_count_93 : decode cX6_count 93 = .ok (.getfield 156, 3) := by decide +kernel
theorem dX6_count_96 : decode cX6_count 96 = .ok (.ireturn, 1) := by decide +kernel
theorem dX6_count_97 : decode cX6_count 97 = .ok (.aload_n 0, 1) := by decide +kernel
theorem dX6_count_98 : decode cX6_count 98 = .ok (.getfield 159, 3) := by decide +kernel
theorem dX6_count_101 : decode cX6_count 101 = .ok (.ireturn, 1) := by decide +kernel
theorem dX6_count_102 : decode cX6_count 102 = .ok (.aload_n 0, 1) := by decide +kernel
theorem dX6_count_103 : decode cX6_count 103 = .ok (.getfield 162, 3) := by decide +kernel
theorem dX6_count_106 : decode cX6_count 106 = .ok (.ireturn, 1) := by decide +kernel
theorem dX6_count_107 : decode cX6_count 107 = .ok (.aload_n 0, 1) := by decide +kernel
theorem dX6_count_108 : decode cX6_count 108 = .ok (.getfield 43, 3) := by decide +kernel
theorem dX6_count_111 : decode cX6_count 111 = .ok (.iconst 3, 1) := by decide +kernel
theorem dX6_count_112 : decode cX6_count 112 = .ok (.iaload, 1) := by decide +kernel
theorem dX6_count_113 : decode cX6_count 113 = .ok (.invokestatic 200, 3) := by decide +kernel
theorem dX6_count_116 : decode cX6_count 116 = .ok (.ireturn, 1) := by decide +kernel
theorem dX6_count_117 : decode cX6_count 117 = .ok (.aload_n 0, 1) := by decide +kernel
theorem dX6_count_118 : decode cX6_count 118 = .ok (.getfield 43, 3) := by decide +kernel
theorem dX6_count_121 : decode cX6_count 121 = .ok (.iconst 1, 1) := by decide +kernel
theorem dX6_count_122 : decode cX6_count 122 = .ok (.iaload, 1) := by decide +kernel
theorem dX6_count_123 : decode cX6_count 123 = .ok (.invokestatic 200, 3) := by decide +kernel
theorem dX6_count_126 : decode cX6_count 126 = .ok (.ireturn, 1) := by decide +kernel
theorem dX6_count_127 : decode cX6_count 127 = .ok (.iload_n 2, 1) := by decide +kernel
theorem dX6_count_128 : decode cX6_count 128 = .ok (.ireturn, 1) := by decide +kernel
theorem dX6_count_129 : decode cX6_count 129 = .ok (.aload_n 0, 1) := by decide +kernel
theorem dX6_count_130 : decode cX6_count 130 = .ok (.getfield 7, 3) := by decide +kernel
theorem dX6_count_133 : decode cX6_count 133 = .ok (.invokestatic 303, 3) := by decide +kernel
theorem dX6_count_136 : decode cX6_count 136 = .ok (.ireturn, 1) := by decide +kernel
theorem dX6_count_137 : decode cX6_count 137 = .ok (.aload_n 0, 1) := by decide +kernel
theorem dX6_count_138 : decode cX6_count 138 = .ok (.getfield 16, 3) := by decide +kernel
theorem dX6_count_141 : decode cX6_count 141 = .ok (.invokestatic 303, 3) := by decide +kernel
theorem dX6_count_144 : decode cX6_count 144 = .ok (.ireturn, 1) := by decide +kernel
theorem dX6_count_145 : decode cX6_count 145 = .ok (.aload_n 0, 1) := by decide +kernel
theorem dX6_count_146 : decode cX6_count 146 = .ok (.getfield 65, 3) := by decide +kernel
theorem dX6_count_149 : decode cX6_count 149 = .ok (.iconst 0, 1) := by decide +kernel
theorem dX6_count_150 : decode cX6_count 150 = .ok (.baload, 1) := by decide +kernel
theorem dX6_count_151 : decode cX6_count 151 = .ok (.ifCond .eq 7, 3) := by decide +kernel
theorem dX6_count_154 : decode cX6_count 154 = .ok (.iconst 1, 1) := by decide +kernel
theorem dX6_count_155 : decode cX6_count 155 = .ok (.goto 4, 3) := by decide +kernel
theorem dX6_count_158 : decode cX6_count 158 = .ok (.iconst 0, 1) := by decide +kernel
theorem dX6_count_159 : decode cX6_count 159 = .ok (.aload_n 0, 1) := by decide +kernel
theorem dX6_count_160 : decode cX6_count 160 = .ok (.getfield 65, 3) := by decide +kernel
theorem dX6_count_163 : decode cX6_count 163 = .ok (.iconst 1, 1) := by decide +kernel
theorem dX6_count_164 : decode cX6_count 164 = .ok (.baload, 1) := by decide +kernel
theorem dX6_count_165 : decode cX6_count 165 = .ok (.ifCond .eq 7, 3) := by decide +kernel
theorem dX6_count_168 : decode cX6_count 168 = .ok (.iconst 1, 1) := by decide +kernel
theorem dX6_count_169 : decode cX6_count 169 = .ok (.goto 4, 3) := by decide +kernel
theorem dX6_count_172 : decode cX6_count 172 = .ok (.iconst 0, 1) := by decide +kernel
theorem dX6_count_173 : decode cX6_count 173 = .ok (.iadd, 1) := by decide +kernel
theorem dX6_count_174 : decode cX6_count 174 = .ok (.aload_n 0, 1) := by decide +kernel
theorem dX6_count_175 : decode cX6_count 175 = .ok (.getfield 65, 3) := by decide +kernel
theorem dX6_count_178 : decode cX6_count 178 = .ok (.iconst 2, 1) := by decide +kernel
theorem dX6_count_179 : decode cX6_count 179 = .ok (.baload, 1) := by decide +kernel
theorem dX6_count_180 : decode cX6_count 180 = .ok (.ifCond .eq 7, 3) := by decide +kernel
theorem dX6_count_183 : decode cX6_count 183 = .ok (.iconst 1, 1) := by decide +kernel
theorem dX6_count_184 : decode cX6_count 184 = .ok (.goto 4, 3) := by decide +kernel
theorem dX6_count_187 : decode cX6_count 187 = .ok (.iconst 0, 1) := by decide +kernel
theorem dX6_count_188 : decode cX6_count 188 = .ok (.iadd, 1) := by decide +kernel
theorem dX6_count_189 : decode cX6_count 189 = .ok (.ireturn, 1) := by decide +kernel
theorem dX6_count_190 : decode cX6_count 190 = .ok (.iconst (-1), 1) := by decide +kernel
theorem dX6_count_191 : decode cX6_count 191 = .ok (.ireturn, 1) := by decide +kernel
theorem dX6_finding_0 : decode cX6_finding 0 = .ok (.aload_n 0, 1) := by decide +kernel
theorem dX6_finding_1 : decode cX6_finding 1 = .ok (.getfield 84, 3) := by decide +kernel
theorem dX6_finding_4 : decode cX6_finding 4 = .ok (.ireturn, 1) := by decide +kernel
theorem dX6_findings_0 : decode cX6_findings 0 = .ok (.iload_n 1, 1) := by decide +kernel
theorem dX6_findings_1 : decode cX6_findings 1 = .ok (.i2l, 1) := by decide +kernel
theorem dX6_findings_2 : decode cX6_findings 2 = .ok (.lconst 1, 1) := by decide +kernel
theorem dX6_findings_3 : decode cX6_findings 3 = .ok (.ldc2_w 91, 3) := by decide +kernel
theorem dX6_findings_6 : decode cX6_findings 6 = .ok (.invokestatic 93, 3) := by decide +kernel
theorem dX6_findings_9 : decode cX6_findings 9 = .ok (.ifCond .eq 12, 3) := by decide +kernel
theorem dX6_findings_12 : decode cX6_findings 12 = .ok (.aload_n 0, 1) := by decide +kernel
theorem dX6_findings_13 : decode cX6_findings 13 = .ok (.getfield 53, 3) := by decide +kernel
theorem dX6_findings_16 : decode cX6_findings 16 = .ok (.iload_n 1, 1) := by decide +kernel
theorem dX6_findings_17 : decode cX6_findings 17 = .ok (.iaload, 1) := by decide +kernel
theorem dX6_findings_18 : decode cX6_findings 18 = .ok (.goto 4, 3) := by decide +kernel
theorem dX6_findings_21 : decode cX6_findings 21 = .ok (.iconst (-1), 1) := by decide +kernel
theorem dX6_findings_22 : decode cX6_findings 22 = .ok (.ireturn, 1) := by decide +kernel
theorem dX6_mix_0 : decode cX6_mix 0 = .ok (.aload_n 0, 1) := by decide +kernel
theorem dX6_mix_1 : decode cX6_mix 1 = .ok (.ldc2_w 307, 3) := by decide +kernel
theorem dX6_mix_4 : decode cX6_mix 4 = .ok (.aload_n 0, 1) := by decide +kernel
theorem dX6_mix_5 : decode cX6_mix 5 = .ok (.getfield 309, 3) := by decide +kernel
theorem dX6_mix_8 : decode cX6_mix 8 = .ok (.lmul, 1) := by decide +kernel
theorem dX6_mix_9 : decode cX6_mix 9 = .ok (.lload_n 1, 1) := by decide +kernel
theorem dX6_mix_10 : decode cX6_mix 10 = .ok (.ladd, 1) := by decide +kernel
theorem dX6_mix_11 : decode cX6_mix 11 = .ok (.putfield 309, 3) := by decide +kernel
theorem dX6_mix_14 : decode cX6_mix 14 = .ok (.return_, 1) := by decide +kernel
theorem dX6_digest_0 : decode cX6_digest 0 = .ok (.aload_n 0, 1) := by decide +kernel
theorem dX6_digest_1 : decode cX6_digest 1 = .ok (.ldc2_w 178, 3) := by decide +kernel
theorem dX6_digest_4 : decode cX6_digest 4 = .ok (.putfield 309, 3) := by decide +kernel
theorem dX6_digest_7 : decode cX6_digest 7 = .ok (.iconst 0, 1) := by decide +kernel
theorem dX6_digest_8 : decode cX6_digest 8 = .ok (.istore_n 1, 1) := by decide +kernel
theorem dX6_digest_9 : decode cX6_digest 9 = .ok (.iload_n 1, 1) := by decide +kernel
theorem dX6_digest_10 : decode cX6_digest 10 = .ok (.bipush 9, 2) := by decide +kernel
theorem dX6_digest_12 : decode cX6_digest 12 = .ok (.if_icmp .ge 19, 3) := by decide +kernel
theorem dX6_digest_15 : decode cX6_digest 15 = .ok (.aload_n 0, 1) := by decide +kernel
theorem dX6_digest_16 : decode cX6_digest 16 = .ok (.aload_n 0, 1) := by decide +kernel
theorem dX6_digest_17 : decode cX6_digest 17 = .ok (.iload_n 1, 1) := by decide +kernel
theorem dX6_digest_18 : decode cX6_digest 18 = .ok (.invokevirtual 312, 3) := by decide +kernel
theorem dX6_digest_21 : decode cX6_digest 21 = .ok (.i2l, 1) := by decide +kernel
theorem dX6_digest_22 : decode cX6_digest 22 = .ok (.invokevirtual 315, 3) := by decide +kernel
theorem dX6_digest_25 : decode cX6_digest 25 = .ok (.iinc 1 1, 3) := by decide +kernel
theorem dX6_digest_28 : decode cX6_digest 28 = .ok (.goto (-19), 3) := by decide +kernel
theorem dX6_digest_31 : decode cX6_digest 31 = .ok (.aload_n 0, 1) := by decide +kernel
theorem dX6_digest_32 : decode cX6_digest 32 = .ok (.aload_n 0, 1) := by decide +kernel
theorem dX6_digest_33 : decode cX6_digest 33 = .ok (.getfield 43, 3) := by decide +kernel
theorem dX6_digest_36 : decode cX6_digest 36 = .ok (.iconst 0, 1) := by decide +kernel
theorem dX6_digest_37 : decode cX6_digest 37 = .ok (.iaload, 1) := by decide +kernel
theorem dX6_digest_38 : decode cX6_digest 38 = .ok (.i2l, 1) := by decide +kernel
theorem dX6_digest_39 : decode cX6_digest 39 = .ok (.invokevirtual 315, 3) := by decide +kernel
theorem dX6_digest_42 : decode cX6_digest 42 = .ok (.iconst 0, 1) := by decide +kernel
theorem dX6_digest_43 : decode cX6_digest 43 = .ok (.istore_n 1, 1) := by decide +kernel
theorem dX6_digest_44 : decode cX6_digest 44 = .ok (.iload_n 1, 1) := by decide +kernel
theorem dX6_digest_45 : decode cX6_digest 45 = .ok (.iconst 3, 1) := by decide +kernel
theorem dX6_digest_46 : decode cX6_digest 46 = .ok (.if_icmp .ge 20, 3) := by decide +kernel
theorem dX6_digest_49 : decode cX6_digest 49 = .ok (.aload_n 0, 1) := by decide +kernel
theorem dX6_digest_50 : decode cX6_digest 50 = .ok (.aload_n 0, 1) := by decide +kernel
theorem dX6_digest_51 : decode cX6_digest 51 = .ok (.getfield 40, 3) := by decide +kernel
theorem dX6_digest_54 : decode cX6_digest 54 = .ok (.iload_n 1, 1) := by decide +kernel
theorem dX6_digest_55 : decode cX6_digest 55 = .ok (.iaload, 1) := by decide +kernel
theorem dX6_digest_56 : decode cX6_digest 56 = .ok (.i2l, 1) := by decide +kernel
theorem dX6_digest_57 : decode cX6_digest 57 = .ok (.invokevirtual 315, 3) := by decide +kernel
theorem dX6_digest_60 : decode cX6_digest 60 = .ok (.iinc 1 1, 3) := by decide +kernel
theorem dX6_digest_63 : decode cX6_digest 63 = .ok (.goto (-19), 3) := by decide +kernel
theorem dX6_digest_66 : decode cX6_digest 66 = .ok (.iconst 0, 1) := by decide +kernel
theorem dX6_digest_67 : decode cX6_digest 67 = .ok (.istore_n 1, 1) := by decide +kernel
theorem dX6_digest_68 : decode cX6_digest 68 = .ok (.iload_n 1, 1) := by decide +kernel
theorem dX6_digest_69 : decode cX6_digest 69 = .ok (.iconst 5, 1) := by decide +kernel
theorem dX6_digest_70 : decode cX6_digest 70 = .ok (.aload_n 0, 1) := by decide +kernel
theorem dX6_digest_71 : decode cX6_digest 71 = .ok (.getfield 156, 3) := by decide +kernel
theorem dX6_digest_74 : decode cX6_digest 74 = .ok (.imul, 1) := by decide +kernel
theorem dX6_digest_75 : decode cX6_digest 75 = .ok (.if_icmp .ge 24, 3) := by decide +kernel
theorem dX6_digest_78 : decode cX6_digest 78 = .ok (.aload_n 0, 1) := by decide +kernel
theorem dX6_digest_79 : decode cX6_digest 79 = .ok (.aload_n 0, 1) := by decide +kernel
theorem dX6_digest_80 : decode cX6_digest 80 = .ok (.iload_n 1, 1) := by decide +kernel
theorem dX6_digest_81 : decode cX6_digest 81 = .ok (.iconst 5, 1) := by decide +kernel
theorem dX6_digest_82 : decode cX6_digest 82 = .ok (.idiv, 1) := by decide +kernel
theorem dX6_digest_83 : decode cX6_digest 83 = .ok (.iload_n 1, 1) := by decide +kernel
theorem dX6_digest_84 : decode cX6_digest 84 = .ok (.iconst 5, 1) := by decide +kernel
theorem dX6_digest_85 : decode cX6_digest 85 = .ok (.irem, 1) := by decide +kernel
theorem dX6_digest_86 : decode cX6_digest 86 = .ok (.invokevirtual 173, 3) := by decide +kernel
theorem dX6_digest_89 : decode cX6_digest 89 = .ok (.i2l, 1) := by decide +kernel
theorem dX6_digest_90 : decode cX6_digest 90 = .ok (.invokevirtual 315, 3) := by decide +kernel
theorem dX6_digest_93 : decode cX6_digest 93 = .ok (.iinc 1 1, 3) := by decide +kernel
theorem dX6_digest_96 : decode cX6_digest 96 = .ok (.goto (-28), 3) := by decide +kernel
theorem dX6_digest_99 : decode cX6_digest 99 = .ok (.iconst 0, 1) := by decide +kernel
theorem dX6_digest_100 : decode cX6_digest 100 = .ok (.istore_n 1, 1) := by decide +kernel
theorem dX6_digest_101 : decode cX6_digest 101 = .ok (.iload_n 1, 1) := by decide +kernel
theorem dX6_digest_102 : decode cX6_digest 102 = .ok (.iconst 5, 1) := by decide +kernel
theorem dX6_digest_103 : decode cX6_digest 103 = .ok (.aload_n 0, 1) := by decide +kernel
theorem dX6_digest_104 : decode cX6_digest 104 = .ok (.getfield 159, 3) := by decide +kernel
theorem dX6_digest_107 : decode cX6_digest 107 = .ok (.imul, 1) := by decide +kernel
theorem dX6_digest_108 : decode cX6_digest 108 = .ok (.if_icmp .ge 24, 3) := by decide +kernel
theorem dX6_digest_111 : decode cX6_digest 111 = .ok (.aload_n 0, 1) := by decide +kernel
theorem dX6_digest_112 : decode cX6_digest 112 = .ok (.aload_n 0, 1) := by decide +kernel
theorem dX6_digest_113 : decode cX6_digest 113 = .ok (.iload_n 1, 1) := by decide +kernel
theorem dX6_digest_114 : decode cX6_digest 114 = .ok (.iconst 5, 1) := by decide +kernel
theorem dX6_digest_115 : decode cX6_digest 115 = .ok (.idiv, 1) := by decide +kernel
theorem dX6_digest_116 : decode cX6_digest 116 = .ok (.iload_n 1, 1) := by decide +kernel
theorem dX6_digest_117 : decode cX6_digest 117 = .ok (.iconst 5, 1) := by decide +kernel
theorem dX6_digest_118 : decode cX6_digest 118 = .ok (.irem, 1) := by decide +kernel
theorem dX6_digest_119 : decode cX6_digest 119 = .ok (.invokevirtual 192, 3) := by decide +kernel
theorem dX6_digest_122 : decode cX6_digest 122 = .ok (.i2l, 1) := by decide +kernel
theorem dX6_digest_123 : decode cX6_digest 123 = .ok (.invokevirtual 315, 3) := by decide +kernel
theorem dX6_digest_126 : decode cX6_digest 126 = .ok (.iinc 1 1, 3) := by decide +kernel
theorem dX6_digest_129 : decode cX6_digest 129 = .ok (.goto (-28), 3) := by decide +kernel
theorem dX6_digest_132 : decode cX6_digest 132 = .ok (.iconst 0, 1) := by decide +kernel
theorem dX6_digest_133 : decode cX6_digest 133 = .ok (.istore_n 1, 1) := by decide +kernel
theorem dX6_digest_134 : decode cX6_digest 134 = .ok (.iload_n 1, 1) := by decide +kernel
theorem dX6_digest_135 : decode cX6_digest 135 = .ok (.iconst 3, 1) := by decide +kernel
theorem dX6_digest_136 : decode cX6_digest 136 = .ok (.if_icmp .ge 43, 3) := by decide +kernel
theorem dX6_digest_139 : decode cX6_digest 139 = .ok (.aload_n 0, 1) := by decide +kernel
theorem dX6_digest_140 : decode cX6_digest 140 = .ok (.aload_n 0, 1) := by decide +kernel
theorem dX6_digest_141 : decode cX6_digest 141 = .ok (.getfield 65, 3) := by decide +kernel
theorem dX6_digest_144 : decode cX6_digest 144 = .ok (.iload_n 1, 1) := by decide +kernel
theorem dX6_digest_145 : decode cX6_digest 145 = .ok (.baload, 1) := by decide +kernel
theorem dX6_digest_146 : decode cX6_digest 146 = .ok (.ifCond .eq 21, 3) := by decide +kernel
theorem dX6_digest_149 : decode cX6_digest 149 = .ok (.aload_n 0, 1) := by decide +kernel
theorem dX6_digest_150 : decode cX6_digest 150 = .ok (.getfield 69, 3) := by decide +kernel
theorem dX6_digest_153 : decode cX6_digest 153 = .ok (.sipush 496, 3) := by decide +kernel
theorem dX6_digest_156 : decode cX6_digest 156 = .ok (.iload_n 1, 1) := by decide +kernel
theorem dX6_digest_157 : decode cX6_digest 157 = .ok (.imul, 1) := by decide +kernel
theorem dX6_digest_158 : decode cX6_digest 158 = .ok (.sipush 495, 3) := by decide +kernel
theorem dX6_digest_161 : decode cX6_digest 161 = .ok (.iadd, 1) := by decide +kernel
theorem dX6_digest_162 : decode cX6_digest 162 = .ok (.iaload, 1) := by decide +kernel
theorem dX6_digest_163 : decode cX6_digest 163 = .ok (.i2l, 1) := by decide +kernel
theorem dX6_digest_164 : decode cX6_digest 164 = .ok (.goto 6, 3) := by decide +kernel
theorem dX6_digest_167 : decode cX6_digest 167 = .ok (.ldc2_w 319, 3) := by decide +kernel
theorem dX6_digest_170 : decode cX6_digest 170 = .ok (.invokevirtual 315, 3) := by decide +kernel
theorem dX6_digest_173 : decode cX6_digest 173 = .ok (.iinc 1 1, 3) := by decide +kernel
theorem dX6_digest_176 : decode cX6_digest 176 = .ok (.goto (-42), 3) := by decide +kernel
theorem dX6_digest_179 : decode cX6_digest 179 = .ok (.iconst 0, 1) := by decide +kernel
theorem dX6_digest_180 : decode cX6_digest 180 = .ok (.istore_n 1, 1) := by decide +kernel
theorem dX6_digest_181 : decode cX6_digest 181 = .ok (.iload_n 1, 1) := by decide +kernel
theorem dX6_digest_182 : decode cX6_digest 182 = .ok (.bipush 6, 2) := by decide +kernel
theorem dX6_digest_184 : decode cX6_digest 184 = .ok (.if_icmp .ge 54, 3) := by decide +kernel
theorem dX6_digest_187 : decode cX6_digest 187 = .ok (.aload_n 0, 1) := by decide +kernel
theorem dX6_digest_188 : decode cX6_digest 188 = .ok (.aload_n 0, 1) := by decide +kernel
theorem dX6_digest_189 : decode cX6_digest 189 = .ok (.getfield 7, 3) := by decide +kernel
theorem dX6_digest_192 : decode cX6_digest 192 = .ok (.iload_n 1, 1) := by decide +kernel
theorem dX6_digest_193 : decode cX6_digest 193 = .ok (.iaload, 1) := by decide +kernel
theorem dX6_digest_194 : decode cX6_digest 194 = .ok (.i2l, 1) := by decide +kernel
theorem dX6_digest_195 : decode cX6_digest 195 = .ok (.invokevirtual 315, 3) := by decide +kernel
theorem dX6_digest_198 : decode cX6_digest 198 = .ok (.iconst 0, 1) := by decide +kernel
theorem dX6_digest_199 : decode cX6_digest 199 = .ok (.istore_n 2, 1) := by decide +kernel
theorem dX6_digest_200 : decode cX6_digest 200 = .ok (.iload_n 2, 1) := by decide +kernel
theorem dX6_digest_201 : decode cX6_digest 201 = .ok (.aload_n 0, 1) := by decide +kernel
theorem dX6_digest_202 : decode cX6_digest 202 = .ok (.getfield 7, 3) := by decide +kernel
theorem dX6_digest_205 : decode cX6_digest 205 = .ok (.iload_n 1, 1) := by decide +kernel
theorem dX6_digest_206 : decode cX6_digest 206 = .ok (.iaload, 1) := by decide +kernel
theorem dX6_digest_207 : decode cX6_digest 207 = .ok (.if_icmp .ge 25, 3) := by decide +kernel
theorem dX6_digest_210 : decode cX6_digest 210 = .ok (.aload_n 0, 1) := by decide +kernel
theorem dX6_digest_211 : decode cX6_digest 211 = .ok (.aload_n 0, 1) := by decide +kernel
theorem dX6_digest_212 : decode cX6_digest 212 = .ok (.getfield 13, 3) := by decide +kernel
theorem dX6_digest_215 : decode cX6_digest 215 = .ok (.bipush 40, 2) := by decide +kernel
theorem dX6_digest_217 : decode cX6_digest 217 = .ok (.iload_n 1, 1) := by decide +kernel
theorem dX6_digest_218 : decode cX6_digest 218 = .ok (.imul, 1) := by decide +kernel
theorem dX6_digest_219 : decode cX6_digest 219 = .ok (.iload_n 2, 1) := by decide +kernel
theorem dX6_digest_220 : decode cX6_digest 220 = .ok (.iadd, 1) := by decide +kernel
theorem dX6_digest_221 : decode cX6_digest 221 = .ok (.iaload, 1) := by decide +kernel
theorem dX6_digest_222 : decode cX6_digest 222 = .ok (.i2l, 1) := by decide +kernel
theorem dX6_digest_223 : decode cX6_digest 223 = .ok (.invokevirtual 315, 3) := by decide +kernel
theorem dX6_digest_226 : decode cX6_digest 226 = .ok (.iinc 2 1, 3) := by decide +kernel
theorem dX6_digest_229 : decode cX6_digest 229 = .ok (.goto (-29), 3) := by decide +kernel
theorem dX6_digest_232 : decode cX6_digest 232 = .ok (.iinc 1 1, 3) := by decide +kernel
theorem dX6_digest_235 : decode cX6_digest 235 = .ok (.goto (-54), 3) := by decide +kernel
theorem dX6_digest_238 : decode cX6_digest 238 = .ok (.iconst 0, 1) := by decide +kernel
theorem dX6_digest_239 : decode cX6_digest 239 = .ok (.istore_n 1, 1) := by decide +kernel
theorem dX6_digest_240 : decode cX6_digest 240 = .ok (.iload_n 1, 1) := by decide +kernel
theorem dX6_digest_241 : decode cX6_digest 241 = .ok (.iconst 4, 1) := by decide +kernel
theorem dX6_digest_242 : decode cX6_digest 242 = .ok (.if_icmp .ge 54, 3) := by decide +kernel
theorem dX6_digest_245 : decode cX6_digest 245 = .ok (.aload_n 0, 1) := by decide +kernel
theorem dX6_digest_246 : decode cX6_digest 246 = .ok (.aload_n 0, 1) := by decide +kernel
theorem dX6_digest_247 : decode cX6_digest 247 = .ok (.getfield 16, 3) := by decide +kernel
theorem dX6_digest_250 : decode cX6_digest 250 = .ok (.iload_n 1, 1) := by decide +kernel
theorem dX6_digest_251 : decode cX6_digest 251 = .ok (.iaload, 1) := by decide +kernel
theorem dX6_digest_252 : decode cX6_digest 252 = .ok (.i2l, 1) := by decide +kernel
theorem dX6_digest_253 : decode cX6_digest 253 = .ok (.invokevirtual 315, 3) := by decide +kernel
theorem dX6_digest_256 : decode cX6_digest 256 = .ok (.iconst 0, 1) := by decide +kernel
theorem dX6_digest_257 : decode cX6_digest 257 = .ok (.istore_n 2, 1) := by decide +kernel
theorem dX6_digest_258 : decode cX6_digest 258 = .ok (.iload_n 2, 1) := by decide +kernel
theorem dX6_digest_259 : decode cX6_digest 259 = .ok (.aload_n 0, 1) := by decide +kernel
theorem dX6_digest_260 : decode cX6_digest 260 = .ok (.getfield 16, 3) := by decide +kernel
theorem dX6_digest_263 : decode cX6_digest 263 = .ok (.iload_n 1, 1) := by decide +kernel
theorem dX6_digest_264 : decode cX6_digest 264 = .ok (.iaload, 1) := by decide +kernel
theorem dX6_digest_265 : decode cX6_digest 265 = .ok (.if_icmp .ge 25, 3) := by decide +kernel
theorem dX6_digest_268 : decode cX6_digest 268 = .ok (.aload_n 0, 1) := by decide +kernel
theorem dX6_digest_269 : decode cX6_digest 269 = .ok (.aload_n 0, 1) := by decide +kernel
theorem dX6_digest_270 : decode cX6_digest 270 = .ok (.getfield 19, 3) := by decide +kernel
theorem dX6_digest_273 : decode cX6_digest 273 = .ok (.bipush 80, 2) := by decide +kernel
theorem dX6_digest_275 : decode cX6_digest 275 = .ok (.iload_n 1, 1) := by decide +kernel
theorem dX6_digest_276 : decode cX6_digest 276 = .ok (.imul, 1) := by decide +kernel
theorem dX6_digest_277 : decode cX6_digest 277 = .ok (.iload_n 2, 1) := by decide +kernel
theorem dX6_digest_278 : decode cX6_digest 278 = .ok (.iadd, 1) := by decide +kernel
theorem dX6_digest_279 : decode cX6_digest 279 = .ok (.iaload, 1) := by decide +kernel
theorem dX6_digest_280 : decode cX6_digest 280 = .ok (.i2l, 1) := by decide +kernel
theorem dX6_digest_281 : decode cX6_digest 281 = .ok (.invokevirtual 315, 3) := by decide +kernel
theorem dX6_digest_284 : decode cX6_digest 284 = .ok (.iinc 2 1, 3) := by decide +kernel
theorem dX6_digest_287 : decode cX6_digest 287 = .ok (.goto (-29), 3) := by decide +kernel
theorem dX6_digest_290 : decode cX6_digest 290 = .ok (.iinc 1 1, 3) := by decide +kernel
theorem dX6_digest_293 : decode cX6_digest 293 = .ok (.goto (-53), 3) := by decide +kernel
theorem dX6_digest_296 : decode cX6_digest 296 = .ok (.aload_n 0, 1) := by decide +kernel
theorem dX6_digest_297 : decode cX6_digest 297 = .ok (.getfield 309, 3) := by decide +kernel
theorem dX6_digest_300 : decode cX6_digest 300 = .ok (.lreturn, 1) := by decide +kernel
theorem dJ6_bitCount_0f7a4_0 : decode cJ6_bitCount_0f7a4 0 = .ok (.iload_n 0, 1) := by decide +kernel
theorem dJ6_bitCount_0f7a4_1 : decode cJ6_bitCount_0f7a4 1 = .ok (.iload_n 0, 1) := by decide +kernel
theorem dJ6_bitCount_0f7a4_2 : decode cJ6_bitCount_0f7a4 2 = .ok (.iconst 1, 1) := by decide +kernel
theorem dJ6_bitCount_0f7a4_3 : decode cJ6_bitCount_0f7a4 3 = .ok (.iushr, 1) := by decide +kernel
theorem dJ6_bitCount_0f7a4_4 : decode cJ6_bitCount_0f7a4 4 = .ok (.ldc_w 265, 3) := by decide +kernel
theorem dJ6_bitCount_0f7a4_7 : decode cJ6_bitCount_0f7a4 7 = .ok (.iand, 1) := by decide +kernel
theorem dJ6_bitCount_0f7a4_8 : decode cJ6_bitCount_0f7a4 8 = .ok (.isub, 1) := by decide +kernel
theorem dJ6_bitCount_0f7a4_9 : decode cJ6_bitCount_0f7a4 9 = .ok (.istore_n 0, 1) := by decide +kernel
theorem dJ6_bitCount_0f7a4_10 : decode cJ6_bitCount_0f7a4 10 = .ok (.iload_n 0, 1) := by decide +kernel
theorem dJ6_bitCount_0f7a4_11 : decode cJ6_bitCount_0f7a4 11 = .ok (.ldc_w 266, 3) := by decide +kernel
theorem dJ6_bitCount_0f7a4_14 : decode cJ6_bitCount_0f7a4 14 = .ok (.iand, 1) := by decide +kernel
theorem dJ6_bitCount_0f7a4_15 : decode cJ6_bitCount_0f7a4 15 = .ok (.iload_n 0, 1) := by decide +kernel
theorem dJ6_bitCount_0f7a4_16 : decode cJ6_bitCount_0f7a4 16 = .ok (.iconst 2, 1) := by decide +kernel
theorem dJ6_bitCount_0f7a4_17 : decode cJ6_bitCount_0f7a4 17 = .ok (.iushr, 1) := by decide +kernel
theorem dJ6_bitCount_0f7a4_18 : decode cJ6_bitCount_0f7a4 18 = .ok (.ldc_w 266, 3) := by decide +kernel
theorem dJ6_bitCount_0f7a4_21 : decode cJ6_bitCount_0f7a4 21 = .ok (.iand, 1) := by decide +kernel
theorem dJ6_bitCount_0f7a4_22 : decode cJ6_bitCount_0f7a4 22 = .ok (.iadd, 1) := by decide +kernel
theorem dJ6_bitCount_0f7a4_23 : decode cJ6_bitCount_0f7a4 23 = .ok (.istore_n 0, 1) := by decide +kernel
theorem dJ6_bitCount_0f7a4_24 : decode cJ6_bitCount_0f7a4 24 = .ok (.iload_n 0, 1) := by decide +kernel
theorem dJ6_bitCount_0f7a4_25 : decode cJ6_bitCount_0f7a4 25 = .ok (.iload_n 0, 1) := by decide +kernel
theorem dJ6_bitCount_0f7a4_26 : decode cJ6_bitCount_0f7a4 26 = .ok (.iconst 4, 1) := by decide +kernel
theorem dJ6_bitCount_0f7a4_27 : decode cJ6_bitCount_0f7a4 27 = .ok (.iushr, 1) := by decide +kernel
theorem dJ6_bitCount_0f7a4_28 : decode cJ6_bitCount_0f7a4 28 = .ok (.iadd, 1) := by decide +kernel
theorem dJ6_bitCount_0f7a4_29 : decode cJ6_bitCount_0f7a4 29 = .ok (.ldc_w 267, 3) := by decide +kernel
theorem dJ6_bitCount_0f7a4_32 : decode cJ6_bitCount_0f7a4 32 = .ok (.iand, 1) := by decide +kernel
theorem dJ6_bitCount_0f7a4_33 : decode cJ6_bitCount_0f7a4 33 = .ok (.istore_n 0, 1) := by decide +kernel
theorem dJ6_bitCount_0f7a4_34 : decode cJ6_bitCount_0f7a4 34 = .ok (.iload_n 0, 1) := by decide +kernel
theorem dJ6_bitCount_0f7a4_35 : decode cJ6_bitCount_0f7a4 35 = .ok (.iload_n 0, 1) := by decide +kernel
theorem dJ6_bitCount_0f7a4_36 : decode cJ6_bitCount_0f7a4 36 = .ok (.bipush 8, 2) := by decide +kernel
theorem dJ6_bitCount_0f7a4_38 : decode cJ6_bitCount_0f7a4 38 = .ok (.iushr, 1) := by decide +kernel
theorem dJ6_bitCount_0f7a4_39 : decode cJ6_bitCount_0f7a4 39 = .ok (.iadd, 1) := by decide +kernel
theorem dJ6_bitCount_0f7a4_40 : decode cJ6_bitCount_0f7a4 40 = .ok (.istore_n 0, 1) := by decide +kernel
theorem dJ6_bitCount_0f7a4_41 : decode cJ6_bitCount_0f7a4 41 = .ok (.iload_n 0, 1) := by decide +kernel
theorem dJ6_bitCount_0f7a4_42 : decode cJ6_bitCount_0f7a4 42 = .ok (.iload_n 0, 1) := by decide +kernel
theorem dJ6_bitCount_0f7a4_43 : decode cJ6_bitCount_0f7a4 43 = .ok (.bipush 16, 2) := by decide +kernel
theorem dJ6_bitCount_0f7a4_45 : decode cJ6_bitCount_0f7a4 45 = .ok (.iushr, 1) := by decide +kernel
theorem dJ6_bitCount_0f7a4_46 : decode cJ6_bitCount_0f7a4 46 = .ok (.iadd, 1) := by decide +kernel
theorem dJ6_bitCount_0f7a4_47 : decode cJ6_bitCount_0f7a4 47 = .ok (.istore_n 0, 1) := by decide +kernel
theorem dJ6_bitCount_0f7a4_48 : decode cJ6_bitCount_0f7a4 48 = .ok (.iload_n 0, 1) := by decide +kernel
theorem dJ6_bitCount_0f7a4_49 : decode cJ6_bitCount_0f7a4 49 = .ok (.bipush 63, 2) := by decide +kernel
theorem dJ6_bitCount_0f7a4_51 : decode cJ6_bitCount_0f7a4 51 = .ok (.iand, 1) := by decide +kernel
theorem dJ6_bitCount_0f7a4_52 : decode cJ6_bitCount_0f7a4 52 = .ok (.ireturn, 1) := by decide +kernel
theorem dJ9_max_7cf53_0 : decode cJ9_max_7cf53 0 = .ok (.iload_n 0, 1) := by decide +kernel
theorem dJ9_max_7cf53_1 : decode cJ9_max_7cf53 1 = .ok (.iload_n 1, 1) := by decide +kernel
theorem dJ9_max_7cf53_2 : decode cJ9_max_7cf53 2 = .ok (.if_icmp .lt 7, 3) := by decide +kernel
theorem dJ9_max_7cf53_5 : decode cJ9_max_7cf53 5 = .ok (.iload_n 0, 1) := by decide +kernel
theorem dJ9_max_7cf53_6 : decode cJ9_max_7cf53 6 = .ok (.goto 4, 3) := by decide +kernel
theorem dJ9_max_7cf53_9 : decode cJ9_max_7cf53 9 = .ok (.iload_n 1, 1) := by decide +kernel
theorem dJ9_max_7cf53_10 : decode cJ9_max_7cf53 10 = .ok (.ireturn, 1) := by decide +kernel
theorem dJ9_min_7cf53_0 : decode cJ9_min_7cf53 0 = .ok (.iload_n 0, 1) := by decide +kernel
theorem dJ9_min_7cf53_1 : decode cJ9_min_7cf53 1 = .ok (.iload_n 1, 1) := by decide +kernel
theorem dJ9_min_7cf53_2 : decode cJ9_min_7cf53 2 = .ok (.if_icmp .gt 7, 3) := by decide +kernel
theorem dJ9_min_7cf53_5 : decode cJ9_min_7cf53 5 = .ok (.iload_n 0, 1) := by decide +kernel
theorem dJ9_min_7cf53_6 : decode cJ9_min_7cf53 6 = .ok (.goto 4, 3) := by decide +kernel
theorem dJ9_min_7cf53_9 : decode cJ9_min_7cf53 9 = .ok (.iload_n 1, 1) := by decide +kernel
theorem dJ9_min_7cf53_10 : decode cJ9_min_7cf53 10 = .ok (.ireturn, 1) := by decide +kernel
theorem dJ7_fill_d0a16_0 : decode cJ7_fill_d0a16 0 = .ok (.iconst 0, 1) := by decide +kernel
theorem dJ7_fill_d0a16_1 : decode cJ7_fill_d0a16 1 = .ok (.istore_n 3, 1) := by decide +kernel
theorem dJ7_fill_d0a16_2 : decode cJ7_fill_d0a16 2 = .ok (.aload_n 0, 1) := by decide +kernel
theorem dJ7_fill_d0a16_3 : decode cJ7_fill_d0a16 3 = .ok (.arraylength, 1) := by decide +kernel
theorem dJ7_fill_d0a16_4 : decode cJ7_fill_d0a16 4 = .ok (.istore 4, 2) := by decide +kernel
theorem dJ7_fill_d0a16_6 : decode cJ7_fill_d0a16 6 = .ok (.iload_n 3, 1) := by decide +kernel
theorem dJ7_fill_d0a16_7 : decode cJ7_fill_d0a16 7 = .ok (.iload 4, 2) := by decide +kernel
theorem dJ7_fill_d0a16_9 : decode cJ7_fill_d0a16 9 = .ok (.if_icmp .ge 13, 3) := by decide +kernel
theorem dJ7_fill_d0a16_12 : decode cJ7_fill_d0a16 12 = .ok (.aload_n 0, 1) := by decide +kernel
theorem dJ7_fill_d0a16_13 : decode cJ7_fill_d0a16 13 = .ok (.iload_n 3, 1) := by decide +kernel
theorem dJ7_fill_d0a16_14 : decode cJ7_fill_d0a16 14 = .ok (.lload_n 1, 1) := by decide +kernel
theorem dJ7_fill_d0a16_15 : decode cJ7_fill_d0a16 15 = .ok (.lastore, 1) := by decide +kernel
theorem dJ7_fill_d0a16_16 : decode cJ7_fill_d0a16 16 = .ok (.iinc 3 1, 3) := by decide +kernel
theorem dJ7_fill_d0a16_19 : decode cJ7_fill_d0a16 19 = .ok (.goto (-13), 3) := by decide +kernel
theorem dJ7_fill_d0a16_22 : decode cJ7_fill_d0a16 22 = .ok (.return_, 1) := by decide +kernel
theorem dJ7_fill_53178_0 : decode cJ7_fill_53178 0 = .ok (.iconst 0, 1) := by decide +kernel
theorem dJ7_fill_53178_1 : decode cJ7_fill_53178 1 = .ok (.istore_n 2, 1) := by decide +kernel
theorem dJ7_fill_53178_2 : decode cJ7_fill_53178 2 = .ok (.aload_n 0, 1) := by decide +kernel
theorem dJ7_fill_53178_3 : decode cJ7_fill_53178 3 = .ok (.arraylength, 1) := by decide +kernel
theorem dJ7_fill_53178_4 : decode cJ7_fill_53178 4 = .ok (.istore_n 3, 1) := by decide +kernel
theorem dJ7_fill_53178_5 : decode cJ7_fill_53178 5 = .ok (.iload_n 2, 1) := by decide +kernel
theorem dJ7_fill_53178_6 : decode cJ7_fill_53178 6 = .ok (.iload_n 3, 1) := by decide +kernel
theorem dJ7_fill_53178_7 : decode cJ7_fill_53178 7 = .ok (.if_icmp .ge 13, 3) := by decide +kernel
theorem dJ7_fill_53178_10 : decode cJ7_fill_53178 10 = .ok (.aload_n 0, 1) := by decide +kernel
theorem dJ7_fill_53178_11 : decode cJ7_fill_53178 11 = .ok (.iload_n 2, 1) := by decide +kernel
theorem dJ7_fill_53178_12 : decode cJ7_fill_53178 12 = .ok (.iload_n 1, 1) := by decide +kernel
theorem dJ7_fill_53178_13 : decode cJ7_fill_53178 13 = .ok (.iastore, 1) := by decide +kernel
theorem dJ7_fill_53178_14 : decode cJ7_fill_53178 14 = .ok (.iinc 2 1, 3) := by decide +kernel
theorem dJ7_fill_53178_17 : decode cJ7_fill_53178 17 = .ok (.goto (-12), 3) := by decide +kernel
theorem dJ7_fill_53178_20 : decode cJ7_fill_53178 20 = .ok (.return_, 1) := by decide +kernel
theorem dL_law_0 : decode cL_law 0 = .ok (.new 7, 3) := by decide +kernel
theorem dL_law_3 : decode cL_law 3 = .ok (.dup, 1) := by decide +kernel
theorem dL_law_4 : decode cL_law 4 = .ok (.invokespecial 9, 3) := by decide +kernel
theorem dL_law_7 : decode cL_law 7 = .ok (.astore_n 1, 1) := by decide +kernel
theorem dL_law_8 : decode cL_law 8 = .ok (.new 10, 3) := by decide +kernel
theorem dL_law_11 : decode cL_law 11 = .ok (.dup, 1) := by decide +kernel
theorem dL_law_12 : decode cL_law 12 = .ok (.invokespecial 12, 3) := by decide +kernel
theorem dL_law_15 : decode cL_law 15 = .ok (.astore_n 2, 1) := by decide +kernel
theorem dL_law_16 : decode cL_law 16 = .ok (.iconst 0, 1) := by decide +kernel
theorem dL_law_17 : decode cL_law 17 = .ok (.istore_n 3, 1) := by decide +kernel
theorem dL_law_18 : decode cL_law 18 = .ok (.iload_n 3, 1) := by decide +kernel
theorem dL_law_19 : decode cL_law 19 = .ok (.aload_n 0, 1) := by decide +kernel
theorem dL_law_20 : decode cL_law 20 = .ok (.arraylength, 1) := by decide +kernel
theorem dL_law_21 : decode cL_law 21 = .ok (.bipush 6, 2) := by decide +kernel
theorem dL_law_23 : decode cL_law 23 = .ok (.isub, 1) := by decide +kernel
theorem dL_law_24 : decode cL_law 24 = .ok (.if_icmp .gt 1294, 3) := by decide +kernel
theorem dL_law_27 : decode cL_law 27 = .ok (.aload_n 0, 1) := by decide +kernel
theorem dL_law_28 : decode cL_law 28 = .ok (.iload_n 3, 1) := by decide +kernel
theorem dL_law_29 : decode cL_law 29 = .ok (.iaload, 1) := by decide +kernel
theorem dL_law_30 : decode cL_law 30 = .ok (.bipush 63, 2) := by decide +kernel
theorem dL_law_32 : decode cL_law 32 = .ok (.iand, 1) := by decide +kernel
theorem dL_law_33 : decode cL_law 33 = .ok (.tableswitch 1279 0 42 #[187, 220, 263, 296, 319, 382, 405, 438, 481, 504, 527, 560, 593, 626, 659, 672, 705, 728, 751, 764, 787, 810, 833, 866, 889, 902, 925, 938, 961, 994, 1007, 1030, 1053, 1076, 1109, 1132, 1165, 1178, 1192, 1206, 1229, 1242, 1265], 187) := by decide +kernel
theorem dL_law_220 : decode cL_law 220 = .ok (.aload_n 1, 1) := by decide +kernel
theorem dL_law_221 : decode cL_law 221 = .ok (.aload_n 0, 1) := by decide +kernel
theorem dL_law_222 : decode cL_law 222 = .ok (.iload_n 3, 1) := by decide +kernel
theorem dL_law_223 : decode cL_law 223 = .ok (.iconst 1, 1) := by decide +kernel
theorem dL_law_224 : decode cL_law 224 = .ok (.iadd, 1) := by decide +kernel
theorem dL_law_225 : decode cL_law 225 = .ok (.iaload, 1) := by decide +kernel
theorem dL_law_226 : decode cL_law 226 = .ok (.aload_n 0, 1) := by decide +kernel
theorem dL_law_227 : decode cL_law 227 = .ok (.iload_n 3, 1) := by decide +kernel
theorem dL_law_228 : decode cL_law 228 = .ok (.iconst 2, 1) := by decide +kernel
theorem dL_law_229 : decode cL_law 229 = .ok (.iadd, 1) := by decide +kernel
theorem dL_law_230 : decode cL_law 230 = .ok (.iaload, 1) := by decide +kernel
theorem dL_law_231 : decode cL_law 231 = .ok (.invokevirtual 13, 3) := by decide +kernel
theorem dL_law_234 : decode cL_law 234 = .ok (.aload_n 2, 1) := by decide +kernel
theorem dL_law_235 : decode cL_law 235 = .ok (.aload_n 0, 1) := by decide +kernel
theorem dL_law_236 : decode cL_law 236 = .ok (.iload_n 3, 1) := by decide +kernel
theorem dL_law_237 : decode cL_law 237 = .ok (.iconst 1, 1) := by decide +kernel
theorem dL_law_238 : decode cL_law 238 = .ok (.iadd, 1) := by decide +kernel
theorem dL_law_239 : decode cL_law 239 = .ok (.iaload, 1) := by decide +kernel
theorem dL_law_240 : decode cL_law 240 = .ok (.aload_n 0, 1) := by decide +kernel
theorem dL_law_241 : decode cL_law 241 = .ok (.iload_n 3, 1) := by decide +kernel
theorem dL_law_242 : decode cL_law 242 = .ok (.iconst 2, 1) := by decide +kernel
theorem dL_law_243 : decode cL_law 243 = .ok (.iadd, 1) := by decide +kernel
theorem dL_law_244 : decode cL_law 244 = .ok (.iaload, 1) := by decide +kernel
theorem dL_law_245 : decode cL_law 245 = .ok (.invokevirtual 17, 3) := by decide +kernel
theorem dL_law_248 : decode cL_law 248 = .ok (.if_icmp .eq 1064, 3) := by decide +kernel
theorem dL_law_251 : decode cL_law 251 = .ok (.iconst 0, 1) := by decide +kernel
theorem dL_law_252 : decode cL_law 252 = .ok (.ireturn, 1) := by decide +kernel
theorem dL_law_253 : decode cL_law 253 = .ok (.aload_n 1, 1) := by decide +kernel
theorem dL_law_254 : decode cL_law 254 = .ok (.aload_n 0, 1) := by decide +kernel
theorem dL_law_255 : decode cL_law 255 = .ok (.iload_n 3, 1) := by decide +kernel
theorem dL_law_256 : decode cL_law 256 = .ok (.iconst 1, 1) := by decide +kernel
theorem dL_law_257 : decode cL_law 257 = .ok (.iadd, 1) := by decide +kernel
theorem dL_law_258 : decode cL_law 258 = .ok (.iaload, 1) := by decide +kernel
theorem dL_law_259 : decode cL_law 259 = .ok (.aload_n 0, 1) := by decide +kernel
theorem dL_law_260 : decode cL_law 260 = .ok (.iload_n 3, 1) := by decide +kernel
theorem dL_law_261 : decode cL_law 261 = .ok (.iconst 2, 1) := by decide +kernel
theorem dL_law_262 : decode cL_law 262 = .ok (.iadd, 1) := by decide +kernel
theorem dL_law_263 : decode cL_law 263 = .ok (.iaload, 1) := by decide +kernel
theorem dL_law_264 : decode cL_law 264 = .ok (.aload_n 0, 1) := by decide +kernel
theorem dL_law_265 : decode cL_law 265 = .ok (.iload_n 3, 1) := by decide +kernel
theorem dL_law_266 : decode cL_law 266 = .ok (.iconst 3, 1) := by decide +kernel
theorem dL_law_267 : decode cL_law 267 = .ok (.iadd, 1) := by decide +kernel
theorem dL_law_268 : decode cL_law 268 = .ok (.iaload, 1) := by decide +kernel
theorem dL_law_269 : decode cL_law 269 = .ok (.invokevirtual 18, 3) := by decide +kernel
theorem dL_law_272 : decode cL_law 272 = .ok (.aload_n 2, 1) := by decide +kernel
theorem dL_law_273 : decode cL_law 273 = .ok (.aload_n 0, 1) := by decide +kernel
theorem dL_law_274 : decode cL_law 274 = .ok (.iload_n 3, 1) := by decide +kernel
theorem dL_law_275 : decode cL_law 275 = .ok (.iconst 1, 1) := by decide +kernel
theorem dL_law_276 : decode cL_law 276 = .ok (.iadd, 1) := by decide +kernel
theorem dL_law_277 : decode cL_law 277 = .ok (.iaload, 1) := by decide +kernel
theorem dL_law_278 : decode cL_law 278 = .ok (.aload_n 0, 1) := by decide +kernel
theorem dL_law_279 : decode cL_law 279 = .ok (.iload_n 3, 1) := by decide +kernel
theorem dL_law_280 : decode cL_law 280 = .ok (.iconst 2, 1) := by decide +kernel
theorem dL_law_281 : decode cL_law 281 = .ok (.iadd, 1) := by decide +kernel
theorem dL_law_282 : decode cL_law 282 = .ok (.iaload, 1) := by decide +kernel
theorem dL_law_283 : decode cL_law 283 = .ok (.aload_n 0, 1) := by decide +kernel
theorem dL_law_284 : decode cL_law 284 = .ok (.iload_n 3, 1) := by decide +kernel
theorem dL_law_285 : decode cL_law 285 = .ok (.iconst 3, 1) := by decide +kernel
theorem dL_law_286 : decode cL_law 286 = .ok (.iadd, 1) := by decide +kernel
theorem dL_law_287 : decode cL_law 287 = .ok (.iaload, 1) := by decide +kernel
theorem dL_law_288 : decode cL_law 288 = .ok (.invokevirtual 22, 3) := by decide +kernel
theorem dL_law_291 : decode cL_law 291 = .ok (.if_icmp .eq 1021, 3) := by decide +kernel
theorem dL_law_294 : decode cL_law 294 = .ok (.iconst 0, 1) := by decide +kernel
theorem dL_law_295 : decode cL_law 295 = .ok (.ireturn, 1) := by decide +kernel
theorem dL_law_296 : decode cL_law 296 = .ok (.aload_n 1, 1) := by decide +kernel
theorem dL_law_297 : decode cL_law 297 = .ok (.aload_n 0, 1) := by decide +kernel
theorem dL_law_298 : decode cL_law 298 = .ok (.iload_n 3, 1) := by decide +kernel
theorem dL_law_299 : decode cL_law 299 = .ok (.iconst 1, 1) := by decide +kernel
theorem dL_law_300 : decode cL_law 300 = .ok (.iadd, 1) := by decide +kernel
theorem dL_law_301 : decode cL_law 301 = .ok (.iaload, 1) := by decide +kernel
theorem dL_law_302 : decode cL_law 302 = .ok (.aload_n 0, 1) := by decide +kernel
theorem dL_law_303 : decode cL_law 303 = .ok (.iload_n 3, 1) := by decide +kernel
theorem dL_law_304 : decode cL_law 304 = .ok (.iconst 2, 1) := by decide +kernel
theorem dL_law_305 : decode cL_law 305 = .ok (.iadd, 1) := by decide +kernel
theorem dL_law_306 : decode cL_law 306 = .ok (.iaload, 1) := by decide +kernel
theorem dL_law_307 : decode cL_law 307 = .ok (.invokevirtual 23, 3) := by decide +kernel
theorem dL_law_310 : decode cL_law 310 = .ok (.aload_n 2, 1) := by decide +kernel
theorem dL_law_311 : decode cL_law 311 = .ok (.aload_n 0, 1) := by decide +kernel
theorem dL_law_312 : decode cL_law 312 = .ok (.iload_n 3, 1) := by decide +kernel
theorem dL_law_313 : decode cL_law 313 = .ok (.iconst 1, 1) := by decide +kernel
theorem dL_law_314 : decode cL_law 314 = .ok (.iadd, 1) := by decide +kernel
theorem dL_law_315 : decode cL_law 315 = .ok (.iaload, 1) := by decide +kernel
theorem dL_law_316 : decode cL_law 316 = .ok (.aload_n 0, 1) := by decide +kernel
theorem dL_law_317 : decode cL_law 317 = .ok (.iload_n 3, 1) := by decide +kernel
theorem dL_law_318 : decode cL_law 318 = .ok (.iconst 2, 1) := by decide +kernel
theorem dL_law_319 : decode cL_law 319 = .ok (.iadd, 1) := by decide +kernel
theorem dL_law_320 : decode cL_law 320 = .ok (.iaload, 1) := by decide +kernel
theorem dL_law_321 : decode cL_law 321 = .ok (.invokevirtual 26, 3) := by decide +kernel
theorem dL_law_324 : decode cL_law 324 = .ok (.if_icmp .eq 988, 3) := by decide +kernel
theorem dL_law_327 : decode cL_law 327 = .ok (.iconst 0, 1) := by decide +kernel
theorem dL_law_328 : decode cL_law 328 = .ok (.ireturn, 1) := by decide +kernel
theorem dL_law_329 : decode cL_law 329 = .ok (.aload_n 1, 1) := by decide +kernel
theorem dL_law_330 : decode cL_law 330 = .ok (.aload_n 0, 1) := by decide +kernel
theorem dL_law_331 : decode cL_law 331 = .ok (.iload_n 3, 1) := by decide +kernel
theorem dL_law_332 : decode cL_law 332 = .ok (.iconst 1, 1) := by decide +kernel
theorem dL_law_333 : decode cL_law 333 = .ok (.iadd, 1) := by decide +kernel
theorem dL_law_334 : decode cL_law 334 = .ok (.iaload, 1) := by decide +kernel
theorem dL_law_335 : decode cL_law 335 = .ok (.invokevirtual 27, 3) := by decide +kernel
theorem dL_law_338 : decode cL_law 338 = .ok (.aload_n 2, 1) := by decide +kernel
theorem dL_law_339 : decode cL_law 339 = .ok (.aload_n 0, 1) := by decide +kernel
theorem dL_law_340 : decode cL_law 340 = .ok (.iload_n 3, 1) := by decide +kernel
theorem dL_law_341 : decode cL_law 341 = .ok (.iconst 1, 1) := by decide +kernel
theorem dL_law_342 : decode cL_law 342 = .ok (.iadd, 1) := by decide +kernel
theorem dL_law_343 : decode cL_law 343 = .ok (.iaload, 1) := by decide +kernel
theorem dL_law_344 : decode cL_law 344 = .ok (.invokevirtual 31, 3) := by decide +kernel
theorem dL_law_347 : decode cL_law 347 = .ok (.if_icmp .eq 965, 3) := by decide +kernel
theorem dL_law_350 : decode cL_law 350 = .ok (.iconst 0, 1) := by decide +kernel
theorem dL_law_351 : decode cL_law 351 = .ok (.ireturn, 1) := by decide +kernel
theorem dL_law_352 : decode cL_law 352 = .ok (.aload_n 1, 1) := by decide +kernel
theorem dL_law_353 : decode cL_law 353 = .ok (.aload_n 0, 1) := by decide +kernel
theorem dL_law_354 : decode cL_law 354 = .ok (.iload_n 3, 1) := by decide +kernel
theorem dL_law_355 : decode cL_law 355 = .ok (.iconst 1, 1) := by decide +kernel
theorem dL_law_356 : decode cL_law 356 = .ok (.iadd, 1) := by decide +kernel
theorem dL_law_357 : decode cL_law 357 = .ok (.iaload, 1) := by decide +kernel
theorem dL_law_358 : decode cL_law 358 = .ok (.aload_n 0, 1) := by decide +kernel
theorem dL_law_359 : decode cL_law 359 = .ok (.iload_n 3, 1) := by decide +kernel
theorem dL_law_360 : decode cL_law 360 = .ok (.iconst 2, 1) := by decide +kernel
theorem dL_law_361 : decode cL_law 361 = .ok (.iadd, 1) := by decide +kernel
theorem dL_law_362 : decode cL_law 362 = .ok (.iaload, 1) := by decide +kernel
theorem dL_law_363 : decode cL_law 363 = .ok (.aload_n 0, 1) := by decide +kernel
theorem dL_law_364 : decode cL_law 364 = .ok (.iload_n 3, 1) := by decide +kernel
theorem dL_law_365 : decode cL_law 365 = .ok (.iconst 3, 1) := by decide +kernel
theorem dL_law_366 : decode cL_law 366 = .ok (.iadd, 1) := by decide +kernel
theorem dL_law_367 : decode cL_law 367 = .ok (.iaload, 1) := by decide +kernel
theorem dL_law_368 : decode cL_law 368 = .ok (.aload_n 0, 1) := by decide +kernel
theorem dL_law_369 : decode cL_law 369 = .ok (.iload_n 3, 1) := by decide +kernel
theorem dL_law_370 : decode cL_law 370 = .ok (.iconst 4, 1) := by decide +kernel
theorem dL_law_371 : decode cL_law 371 = .ok (.iadd, 1) := by decide +kernel
theorem dL_law_372 : decode cL_law 372 = .ok (.iaload, 1) := by decide +kernel
theorem dL_law_373 : decode cL_law 373 = .ok (.aload_n 0, 1) := by decide +kernel
theorem dL_law_374 : decode cL_law 374 = .ok (.iload_n 3, 1) := by decide +kernel
theorem dL_law_375 : decode cL_law 375 = .ok (.iconst 5, 1) := by decide +kernel
theorem dL_law_376 : decode cL_law 376 = .ok (.iadd, 1) := by decide +kernel
theorem dL_law_377 : decode cL_law 377 = .ok (.iaload, 1) := by decide +kernel
theorem dL_law_378 : decode cL_law 378 = .ok (.invokevirtual 32, 3) := by decide +kernel
theorem dL_law_381 : decode cL_law 381 = .ok (.aload_n 2, 1) := by decide +kernel
theorem dL_law_382 : decode cL_law 382 = .ok (.aload_n 0, 1) := by decide +kernel
theorem dL_law_383 : decode cL_law 383 = .ok (.iload_n 3, 1) := by decide +kernel
theorem dL_law_384 : decode cL_law 384 = .ok (.iconst 1, 1) := by decide +kernel
theorem dL_law_385 : decode cL_law 385 = .ok (.iadd, 1) := by decide +kernel
theorem dL_law_386 : decode cL_law 386 = .ok (.iaload, 1) := by decide +kernel
theorem dL_law_387 : decode cL_law 387 = .ok (.aload_n 0, 1) := by decide +kernel
theorem dL_law_388 : decode cL_law 388 = .ok (.iload_n 3, 1) := by decide +kernel
theorem dL_law_389 : decode cL_law 389 = .ok (.iconst 2, 1) := by decide +kernel
theorem dL_law_390 : decode cL_law 390 = .ok (.iadd, 1) := by decide +kernel
theorem dL_law_391 : decode cL_law 391 = .ok (.iaload, 1) := by decide +kernel
theorem dL_law_392 : decode cL_law 392 = .ok (.aload_n 0, 1) := by decide +kernel
theorem dL_law_393 : decode cL_law 393 = .ok (.iload_n 3, 1) := by decide +kernel
theorem dL_law_394 : decode cL_law 394 = .ok (.iconst 3, 1) := by decide +kernel
theorem dL_law_395 : decode cL_law 395 = .ok (.iadd, 1) := by decide +kernel
theorem dL_law_396 : decode cL_law 396 = .ok (.iaload, 1) := by decide +kernel
theorem dL_law_397 : decode cL_law 397 = .ok (.aload_n 0, 1) := by decide +kernel
theorem dL_law_398 : decode cL_law 398 = .ok (.iload_n 3, 1) := by decide +kernel
theorem dL_law_399 : decode cL_law 399 = .ok (.iconst 4, 1) := by decide +kernel
theorem dL_law_400 : decode cL_law 400 = .ok (.iadd, 1) := by decide +kernel
theorem dL_law_401 : decode cL_law 401 = .ok (.iaload, 1) := by decide +kernel
theorem dL_law_402 : decode cL_law 402 = .ok (.aload_n 0, 1) := by decide +kernel
theorem dL_law_403 : decode cL_law 403 = .ok (.iload_n 3, 1) := by decide +kernel
theorem dL_law_404 : decode cL_law 404 = .ok (.iconst 5, 1) := by decide +kernel
theorem dL_law_405 : decode cL_law 405 = .ok (.iadd, 1) := by decide +kernel
theorem dL_law_406 : decode cL_law 406 = .ok (.iaload, 1) := by decide +kernel
theorem dL_law_407 : decode cL_law 407 = .ok (.invokevirtual 36, 3) := by decide +kernel
theorem dL_law_410 : decode cL_law 410 = .ok (.if_icmp .eq 902, 3) := by decide +kernel
theorem dL_law_413 : decode cL_law 413 = .ok (.iconst 0, 1) := by decide +kernel
theorem dL_law_414 : decode cL_law 414 = .ok (.ireturn, 1) := by decide +kernel
theorem dL_law_415 : decode cL_law 415 = .ok (.aload_n 1, 1) := by decide +kernel
theorem dL_law_416 : decode cL_law 416 = .ok (.aload_n 0, 1) := by decide +kernel
theorem dL_law_417 : decode cL_law 417 = .ok (.iload_n 3, 1) := by decide +kernel
theorem dL_law_418 : decode cL_law 418 = .ok (.iconst 1, 1) := by decide +kernel
theorem dL_law_419 : decode cL_law 419 = .ok (.iadd, 1) := by decide +kernel
theorem dL_law_420 : decode cL_law 420 = .ok (.iaload, 1) := by decide +kernel
theorem dL_law_421 : decode cL_law 421 = .ok (.invokevirtual 37, 3) := by decide +kernel
theorem dL_law_424 : decode cL_law 424 = .ok (.aload_n 2, 1) := by decide +kernel
theorem dL_law_425 : decode cL_law 425 = .ok (.aload_n 0, 1) := by decide +kernel
theorem dL_law_426 : decode cL_law 426 = .ok (.iload_n 3, 1) := by decide +kernel
theorem dL_law_427 : decode cL_law 427 = .ok (.iconst 1, 1) := by decide +kernel
theorem dL_law_428 : decode cL_law 428 = .ok (.iadd, 1) := by decide +kernel
theorem dL_law_429 : decode cL_law 429 = .ok (.iaload, 1) := by decide +kernel
theorem dL_law_430 : decode cL_law 430 = .ok (.invokevirtual 40, 3) := by decide +kernel
theorem dL_law_433 : decode cL_law 433 = .ok (.if_icmp .eq 879, 3) := by decide +kernel
theorem dL_law_436 : decode cL_law 436 = .ok (.iconst 0, 1) := by decide +kernel
theorem dL_law_437 : decode cL_law 437 = .ok (.ireturn, 1) := by decide +kernel
theorem dL_law_438 : decode cL_law 438 = .ok (.aload_n 1, 1) := by decide +kernel
theorem dL_law_439 : decode cL_law 439 = .ok (.aload_n 0, 1) := by decide +kernel
theorem dL_law_440 : decode cL_law 440 = .ok (.iload_n 3, 1) := by decide +kernel
theorem dL_law_441 : decode cL_law 441 = .ok (.iconst 1, 1) := by decide +kernel
theorem dL_law_442 : decode cL_law 442 = .ok (.iadd, 1) := by decide +kernel
theorem dL_law_443 : decode cL_law 443 = .ok (.iaload, 1) := by decide +kernel
theorem dL_law_444 : decode cL_law 444 = .ok (.aload_n 0, 1) := by decide +kernel
theorem dL_law_445 : decode cL_law 445 = .ok (.iload_n 3, 1) := by decide +kernel
theorem dL_law_446 : decode cL_law 446 = .ok (.iconst 2, 1) := by decide +kernel
theorem dL_law_447 : decode cL_law 447 = .ok (.iadd, 1) := by decide +kernel
theorem dL_law_448 : decode cL_law 448 = .ok (.iaload, 1) := by decide +kernel
theorem dL_law_449 : decode cL_law 449 = .ok (.invokevirtual 41, 3) := by decide +kernel
theorem dL_law_452 : decode cL_law 452 = .ok (.aload_n 2, 1) := by decide +kernel
theorem dL_law_453 : decode cL_law 453 = .ok (.aload_n 0, 1) := by decide +kernel
theorem dL_law_454 : decode cL_law 454 = .ok (.iload_n 3, 1) := by decide +kernel
theorem dL_law_455 : decode cL_law 455 = .ok (.iconst 1, 1) := by decide +kernel
theorem dL_law_456 : decode cL_law 456 = .ok (.iadd, 1) := by decide +kernel
theorem dL_law_457 : decode cL_law 457 = .ok (.iaload, 1) := by decide +kernel
theorem dL_law_458 : decode cL_law 458 = .ok (.aload_n 0, 1) := by decide +kernel
theorem dL_law_459 : decode cL_law 459 = .ok (.iload_n 3, 1) := by decide +kernel
theorem dL_law_460 : decode cL_law 460 = .ok (.iconst 2, 1) := by decide +kernel
theorem dL_law_461 : decode cL_law 461 = .ok (.iadd, 1) := by decide +kernel
theorem dL_law_462 : decode cL_law 462 = .ok (.iaload, 1) := by decide +kernel
theorem dL_law_463 : decode cL_law 463 = .ok (.invokevirtual 44, 3) := by decide +kernel
theorem dL_law_466 : decode cL_law 466 = .ok (.if_icmp .eq 846, 3) := by decide +kernel
theorem dL_law_469 : decode cL_law 469 = .ok (.iconst 0, 1) := by decide +kernel
theorem dL_law_470 : decode cL_law 470 = .ok (.ireturn, 1) := by decide +kernel
theorem dL_law_471 : decode cL_law 471 = .ok (.aload_n 1, 1) := by decide +kernel
theorem dL_law_472 : decode cL_law 472 = .ok (.aload_n 0, 1) := by decide +kernel
theorem dL_law_473 : decode cL_law 473 = .ok (.iload_n 3, 1) := by decide +kernel
theorem dL_law_474 : decode cL_law 474 = .ok (.iconst 1, 1) := by decide +kernel
theorem dL_law_475 : decode cL_law 475 = .ok (.iadd, 1) := by decide +kernel
theorem dL_law_476 : decode cL_law 476 = .ok (.iaload, 1) := by decide +kernel
theorem dL_law_477 : decode cL_law 477 = .ok (.aload_n 0, 1) := by decide +kernel
theorem dL_law_478 : decode cL_law 478 = .ok (.iload_n 3, 1) := by decide +kernel
theorem dL_law_479 : decode cL_law 479 = .ok (.iconst 2, 1) := by decide +kernel
theorem dL_law_480 : decode cL_law 480 = .ok (.iadd, 1) := by decide +kernel
theorem dL_law_481 : decode cL_law 481 = .ok (.iaload, 1) := by decide +kernel
theorem dL_law_482 : decode cL_law 482 = .ok (.aload_n 0, 1) := by decide +kernel
theorem dL_law_483 : decode cL_law 483 = .ok (.iload_n 3, 1) := by decide +kernel
theorem dL_law_484 : decode cL_law 484 = .ok (.iconst 3, 1) := by decide +kernel
theorem dL_law_485 : decode cL_law 485 = .ok (.iadd, 1) := by decide +kernel
theorem dL_law_486 : decode cL_law 486 = .ok (.iaload, 1) := by decide +kernel
theorem dL_law_487 : decode cL_law 487 = .ok (.invokevirtual 45, 3) := by decide +kernel
theorem dL_law_490 : decode cL_law 490 = .ok (.aload_n 2, 1) := by decide +kernel
theorem dL_law_491 : decode cL_law 491 = .ok (.aload_n 0, 1) := by decide +kernel
theorem dL_law_492 : decode cL_law 492 = .ok (.iload_n 3, 1) := by decide +kernel
theorem dL_law_493 : decode cL_law 493 = .ok (.iconst 1, 1) := by decide +kernel
theorem dL_law_494 : decode cL_law 494 = .ok (.iadd, 1) := by decide +kernel
theorem dL_law_495 : decode cL_law 495 = .ok (.iaload, 1) := by decide +kernel
theorem dL_law_496 : decode cL_law 496 = .ok (.aload_n 0, 1) := by decide +kernel
theorem dL_law_497 : decode cL_law 497 = .ok (.iload_n 3, 1) := by decide +kernel
theorem dL_law_498 : decode cL_law 498 = .ok (.iconst 2, 1) := by decide +kernel
theorem dL_law_499 : decode cL_law 499 = .ok (.iadd, 1) := by decide +kernel
theorem dL_law_500 : decode cL_law 500 = .ok (.iaload, 1) := by decide +kernel
theorem dL_law_501 : decode cL_law 501 = .ok (.aload_n 0, 1) := by decide +kernel
theorem dL_law_502 : decode cL_law 502 = .ok (.iload_n 3, 1) := by decide +kernel
theorem dL_law_503 : decode cL_law 503 = .ok (.iconst 3, 1) := by decide +kernel
theorem dL_law_504 : decode cL_law 504 = .ok (.iadd, 1) := by decide +kernel
theorem dL_law_505 : decode cL_law 505 = .ok (.iaload, 1) := by decide +kernel
theorem dL_law_506 : decode cL_law 506 = .ok (.invokevirtual 48, 3) := by decide +kernel
theorem dL_law_509 : decode cL_law 509 = .ok (.if_icmp .eq 803, 3) := by decide +kernel
theorem dL_law_512 : decode cL_law 512 = .ok (.iconst 0, 1) := by decide +kernel
theorem dL_law_513 : decode cL_law 513 = .ok (.ireturn, 1) := by decide +kernel
theorem dL_law_514 : decode cL_law 514 = .ok (.aload_n 1, 1) := by decide +kernel
theorem dL_law_515 : decode cL_law 515 = .ok (.aload_n 0, 1) := by decide +kernel
theorem dL_law_516 : decode cL_law 516 = .ok (.iload_n 3, 1) := by decide +kernel
theorem dL_law_517 : decode cL_law 517 = .ok (.iconst 1, 1) := by decide +kernel
theorem dL_law_518 : decode cL_law 518 = .ok (.iadd, 1) := by decide +kernel
theorem dL_law_519 : decode cL_law 519 = .ok (.iaload, 1) := by decide +kernel
theorem dL_law_520 : decode cL_law 520 = .ok (.invokevirtual 49, 3) := by decide +kernel
theorem dL_law_523 : decode cL_law 523 = .ok (.aload_n 2, 1) := by decide +kernel
theorem dL_law_524 : decode cL_law 524 = .ok (.aload_n 0, 1) := by decide +kernel
theorem dL_law_525 : decode cL_law 525 = .ok (.iload_n 3, 1) := by decide +kernel
theorem dL_law_526 : decode cL_law 526 = .ok (.iconst 1, 1) := by decide +kernel
theorem dL_law_527 : decode cL_law 527 = .ok (.iadd, 1) := by decide +kernel
theorem dL_law_528 : decode cL_law 528 = .ok (.iaload, 1) := by decide +kernel
theorem dL_law_529 : decode cL_law 529 = .ok (.invokevirtual 52, 3) := by decide +kernel
theorem dL_law_532 : decode cL_law 532 = .ok (.if_icmp .eq 780, 3) := by decide +kernel
theorem dL_law_535 : decode cL_law 535 = .ok (.iconst 0, 1) := by decide +kernel
theorem dL_law_536 : decode cL_law 536 = .ok (.ireturn, 1) := by decide +kernel
theorem dL_law_537 : decode cL_law 537 = .ok (.aload_n 1, 1) := by decide +kernel
theorem dL_law_538 : decode cL_law 538 = .ok (.aload_n 0, 1) := by decide +kernel
theorem dL_law_539 : decode cL_law 539 = .ok (.iload_n 3, 1) := by decide +kernel
theorem dL_law_540 : decode cL_law 540 = .ok (.iconst 1, 1) := by decide +kernel
theorem dL_law_541 : decode cL_law 541 = .ok (.iadd, 1) := by decide +kernel
theorem dL_law_542 : decode cL_law 542 = .ok (.iaload, 1) := by decide +kernel
theorem dL_law_543 : decode cL_law 543 = .ok (.invokevirtual 53, 3) := by decide +kernel
theorem dL_law_546 : decode cL_law 546 = .ok (.aload_n 2, 1) := by decide +kernel
theorem dL_law_547 : decode cL_law 547 = .ok (.aload_n 0, 1) := by decide +kernel
theorem dL_law_548 : decode cL_law 548 = .ok (.iload_n 3, 1) := by decide +kernel
theorem dL_law_549 : decode cL_law 549 = .ok (.iconst 1, 1) := by decide +kernel
theorem dL_law_550 : decode cL_law 550 = .ok (.iadd, 1) := by decide +kernel
theorem dL_law_551 : decode cL_law 551 = .ok (.iaload, 1) := by decide +kernel
theorem dL_law_552 : decode cL_law 552 = .ok (.invokevirtual 56, 3) := by decide +kernel
theorem dL_law_555 : decode cL_law 555 = .ok (.if_icmp .eq 757, 3) := by decide +kernel
theorem dL_law_558 : decode cL_law 558 = .ok (.iconst 0, 1) := by decide +kernel
theorem dL_law_559 : decode cL_law 559 = .ok (.ireturn, 1) := by decide +kernel
theorem dL_law_560 : decode cL_law 560 = .ok (.aload_n 1, 1) := by decide +kernel
theorem dL_law_561 : decode cL_law 561 = .ok (.aload_n 0, 1) := by decide +kernel
theorem dL_law_562 : decode cL_law 562 = .ok (.iload_n 3, 1) := by decide +kernel
theorem dL_law_563 : decode cL_law 563 = .ok (.iconst 1, 1) := by decide +kernel
theorem dL_law_564 : decode cL_law 564 = .ok (.iadd, 1) := by decide +kernel
theorem dL_law_565 : decode cL_law 565 = .ok (.iaload, 1) := by decide +kernel
theorem dL_law_566 : decode cL_law 566 = .ok (.aload_n 0, 1) := by decide +kernel
theorem dL_law_567 : decode cL_law 567 = .ok (.iload_n 3, 1) := by decide +kernel
theorem dL_law_568 : decode cL_law 568 = .ok (.iconst 2, 1) := by decide +kernel
theorem dL_law_569 : decode cL_law 569 = .ok (.iadd, 1) := by decide +kernel
theorem dL_law_570 : decode cL_law 570 = .ok (.iaload, 1) := by decide +kernel
theorem dL_law_571 : decode cL_law 571 = .ok (.invokevirtual 57, 3) := by decide +kernel
theorem dL_law_574 : decode cL_law 574 = .ok (.aload_n 2, 1) := by decide +kernel
theorem dL_law_575 : decode cL_law 575 = .ok (.aload_n 0, 1) := by decide +kernel
theorem dL_law_576 : decode cL_law 576 = .ok (.iload_n 3, 1) := by decide +kernel
theorem dL_law_577 : decode cL_law 577 = .ok (.iconst 1, 1) := by decide +kernel
theorem dL_law_578 : decode cL_law 578 = .ok (.iadd, 1) := by decide +kernel
theorem dL_law_579 : decode cL_law 579 = .ok (.iaload, 1) := by decide +kernel
theorem dL_law_580 : decode cL_law 580 = .ok (.aload_n 0, 1) := by decide +kernel
theorem dL_law_581 : decode cL_law 581 = .ok (.iload_n 3, 1) := by decide +kernel
theorem dL_law_582 : decode cL_law 582 = .ok (.iconst 2, 1) := by decide +kernel
theorem dL_law_583 : decode cL_law 583 = .ok (.iadd, 1) := by decide +kernel
theorem dL_law_584 : decode cL_law 584 = .ok (.iaload, 1) := by decide +kernel
theorem dL_law_585 : decode cL_law 585 = .ok (.invokevirtual 60, 3) := by decide +kernel
theorem dL_law_588 : decode cL_law 588 = .ok (.if_icmp .eq 724, 3) := by decide +kernel
theorem dL_law_591 : decode cL_law 591 = .ok (.iconst 0, 1) := by decide +kernel
theorem dL_law_592 : decode cL_law 592 = .ok (.ireturn, 1) := by decide +kernel
theorem dL_law_593 : decode cL_law 593 = .ok (.aload_n 1, 1) := by decide +kernel
theorem dL_law_594 : decode cL_law 594 = .ok (.aload_n 0, 1) := by decide +kernel
theorem dL_law_595 : decode cL_law 595 = .ok (.iload_n 3, 1) := by decide +kernel
theorem dL_law_596 : decode cL_law 596 = .ok (.iconst 1, 1) := by decide +kernel
theorem dL_law_597 : decode cL_law 597 = .ok (.iadd, 1) := by decide +kernel
theorem dL_law_598 : decode cL_law 598 = .ok (.iaload, 1) := by decide +kernel
theorem dL_law_599 : decode cL_law 599 = .ok (.aload_n 0, 1) := by decide +kernel
theorem dL_law_600 : decode cL_law 600 = .ok (.iload_n 3, 1) := by decide +kernel
theorem dL_law_601 : decode cL_law 601 = .ok (.iconst 2, 1) := by decide +kernel
theorem dL_law_602 : decode cL_law 602 = .ok (.iadd, 1) := by decide +kernel
theorem dL_law_603 : decode cL_law 603 = .ok (.iaload, 1) := by decide +kernel
theorem dL_law_604 : decode cL_law 604 = .ok (.invokevirtual 61, 3) := by decide +kernel
theorem dL_law_607 : decode cL_law 607 = .ok (.aload_n 2, 1) := by decide +kernel
theorem dL_law_608 : decode cL_law 608 = .ok (.aload_n 0, 1) := by decide +kernel
theorem dL_law_609 : decode cL_law 609 = .ok (.iload_n 3, 1) := by decide +kernel
theorem dL_law_610 : decode cL_law 610 = .ok (.iconst 1, 1) := by decide +kernel
theorem dL_law_611 : decode cL_law 611 = .ok (.iadd, 1) := by decide +kernel
theorem dL_law_612 : decode cL_law 612 = .ok (.iaload, 1) := by decide +kernel
theorem dL_law_613 : decode cL_law 613 = .ok (.aload_n 0, 1) := by decide +kernel
theorem dL_law_614 : decode cL_law 614 = .ok (.iload_n 3, 1) := by decide +kernel
theorem dL_law_615 : decode cL_law 615 = .ok (.iconst 2, 1) := by decide +kernel
theorem dL_law_616 : decode cL_law 616 = .ok (.iadd, 1) := by decide +kernel
theorem dL_law_617 : decode cL_law 617 = .ok (.iaload, 1) := by decide +kernel
theorem dL_law_618 : decode cL_law 618 = .ok (.invokevirtual 64, 3) := by decide +kernel
theorem dL_law_621 : decode cL_law 621 = .ok (.if_icmp .eq 691, 3) := by decide +kernel
theorem dL_law_624 : decode cL_law 624 = .ok (.iconst 0, 1) := by decide +kernel
theorem dL_law_625 : decode cL_law 625 = .ok (.ireturn, 1) := by decide +kernel
theorem dL_law_626 : decode cL_law 626 = .ok (.aload_n 1, 1) := by decide +kernel
theorem dL_law_627 : decode cL_law 627 = .ok (.aload_n 0, 1) := by decide +kernel
theorem dL_law_628 : decode cL_law 628 = .ok (.iload_n 3, 1) := by decide +kernel
theorem dL_law_629 : decode cL_law 629 = .ok (.iconst 1, 1) := by decide +kernel
theorem dL_law_630 : decode cL_law 630 = .ok (.iadd, 1) := by decide +kernel
theorem dL_law_631 : decode cL_law 631 = .ok (.iaload, 1) := by decide +kernel
theorem dL_law_632 : decode cL_law 632 = .ok (.aload_n 0, 1) := by decide +kernel
theorem dL_law_633 : decode cL_law 633 = .ok (.iload_n 3, 1) := by decide +kernel
theorem dL_law_634 : decode cL_law 634 = .ok (.iconst 2, 1) := by decide +kernel
theorem dL_law_635 : decode cL_law 635 = .ok (.iadd, 1) := by decide +kernel
theorem dL_law_636 : decode cL_law 636 = .ok (.iaload, 1) := by decide +kernel
theorem dL_law_637 : decode cL_law 637 = .ok (.invokevirtual 65, 3) := by decide +kernel
theorem dL_law_640 : decode cL_law 640 = .ok (.aload_n 2, 1) := by decide +kernel
theorem dL_law_641 : decode cL_law 641 = .ok (.aload_n 0, 1) := by decide +kernel
theorem dL_law_642 : decode cL_law 642 = .ok (.iload_n 3, 1) := by decide +kernel
theorem dL_law_643 : decode cL_law 643 = .ok (.iconst 1, 1) := by decide +kernel
theorem dL_law_644 : decode cL_law 644 = .ok (.iadd, 1) := by decide +kernel
theorem dL_law_645 : decode cL_law 645 = .ok (.iaload, 1) := by decide +kernel
theorem dL_law_646 : decode cL_law 646 = .ok (.aload_n 0, 1) := by decide +kernel
theorem dL_law_647 : decode cL_law 647 = .ok (.iload_n 3, 1) := by decide +kernel
theorem dL_law_648 : decode cL_law 648 = .ok (.iconst 2, 1) := by decide +kernel
theorem dL_law_649 : decode cL_law 649 = .ok (.iadd, 1) := by decide +kernel
theorem dL_law_650 : decode cL_law 650 = .ok (.iaload, 1) := by decide +kernel
theorem dL_law_651 : decode cL_law 651 = .ok (.invokevirtual 68, 3) := by decide +kernel
theorem dL_law_654 : decode cL_law 654 = .ok (.if_icmp .eq 658, 3) := by decide +kernel
theorem dL_law_657 : decode cL_law 657 = .ok (.iconst 0, 1) := by decide +kernel
theorem dL_law_658 : decode cL_law 658 = .ok (.ireturn, 1) := by decide +kernel
theorem dL_law_659 : decode cL_law 659 = .ok (.aload_n 1, 1) := by decide +kernel
theorem dL_law_660 : decode cL_law 660 = .ok (.aload_n 0, 1) := by decide +kernel
theorem dL_law_661 : decode cL_law 661 = .ok (.iload_n 3, 1) := by decide +kernel
theorem dL_law_662 : decode cL_law 662 = .ok (.iconst 1, 1) := by decide +kernel
theorem dL_law_663 : decode cL_law 663 = .ok (.iadd, 1) := by decide +kernel
theorem dL_law_664 : decode cL_law 664 = .ok (.iaload, 1) := by decide +kernel
theorem dL_law_665 : decode cL_law 665 = .ok (.aload_n 0, 1) := by decide +kernel
theorem dL_law_666 : decode cL_law 666 = .ok (.iload_n 3, 1) := by decide +kernel
theorem dL_law_667 : decode cL_law 667 = .ok (.iconst 2, 1) := by decide +kernel
theorem dL_law_668 : decode cL_law 668 = .ok (.iadd, 1) := by decide +kernel
theorem dL_law_669 : decode cL_law 669 = .ok (.iaload, 1) := by decide +kernel
theorem dL_law_670 : decode cL_law 670 = .ok (.invokevirtual 69, 3) := by decide +kernel
theorem dL_law_673 : decode cL_law 673 = .ok (.aload_n 2, 1) := by decide +kernel
theorem dL_law_674 : decode cL_law 674 = .ok (.aload_n 0, 1) := by decide +kernel
theorem dL_law_675 : decode cL_law 675 = .ok (.iload_n 3, 1) := by decide +kernel
theorem dL_law_676 : decode cL_law 676 = .ok (.iconst 1, 1) := by decide +kernel
theorem dL_law_677 : decode cL_law 677 = .ok (.iadd, 1) := by decide +kernel
theorem dL_law_678 : decode cL_law 678 = .ok (.iaload, 1) := by decide +kernel
theorem dL_law_679 : decode cL_law 679 = .ok (.aload_n 0, 1) := by decide +kernel
theorem dL_law_680 : decode cL_law 680 = .ok (.iload_n 3, 1) := by decide +kernel
theorem dL_law_681 : decode cL_law 681 = .ok (.iconst 2, 1) := by decide +kernel
theorem dL_law_682 : decode cL_law 682 = .ok (.iadd, 1) := by decide +kernel
theorem dL_law_683 : decode cL_law 683 = .ok (.iaload, 1) := by decide +kernel
theorem dL_law_684 : decode cL_law 684 = .ok (.invokevirtual 72, 3) := by decide +kernel
theorem dL_law_687 : decode cL_law 687 = .ok (.if_icmp .eq 625, 3) := by decide +kernel
theorem dL_law_690 : decode cL_law 690 = .ok (.iconst 0, 1) := by decide +kernel
theorem dL_law_691 : decode cL_law 691 = .ok (.ireturn, 1) := by decide +kernel
theorem dL_law_692 : decode cL_law 692 = .ok (.aload_n 1, 1) := by decide +kernel
theorem dL_law_693 : decode cL_law 693 = .ok (.invokevirtual 73, 3) := by decide +kernel
theorem dL_law_696 : decode cL_law 696 = .ok (.aload_n 2, 1) := by decide +kernel
theorem dL_law_697 : decode cL_law 697 = .ok (.invokevirtual 77, 3) := by decide +kernel
theorem dL_law_700 : decode cL_law 700 = .ok (.if_icmp .eq 612, 3) := by decide +kernel
theorem dL_law_703 : decode cL_law 703 = .ok (.iconst 0, 1) := by decide +kernel
theorem dL_law_704 : decode cL_law 704 = .ok (.ireturn, 1) := by decide +kernel
theorem dL_law_705 : decode cL_law 705 = .ok (.aload_n 1, 1) := by decide +kernel
theorem dL_law_706 : decode cL_law 706 = .ok (.aload_n 0, 1) := by decide +kernel
theorem dL_law_707 : decode cL_law 707 = .ok (.iload_n 3, 1) := by decide +kernel
theorem dL_law_708 : decode cL_law 708 = .ok (.iconst 1, 1) := by decide +kernel
theorem dL_law_709 : decode cL_law 709 = .ok (.iadd, 1) := by decide +kernel
theorem dL_law_710 : decode cL_law 710 = .ok (.iaload, 1) := by decide +kernel
theorem dL_law_711 : decode cL_law 711 = .ok (.aload_n 0, 1) := by decide +kernel
theorem dL_law_712 : decode cL_law 712 = .ok (.iload_n 3, 1) := by decide +kernel
theorem dL_law_713 : decode cL_law 713 = .ok (.iconst 2, 1) := by decide +kernel
theorem dL_law_714 : decode cL_law 714 = .ok (.iadd, 1) := by decide +kernel
theorem dL_law_715 : decode cL_law 715 = .ok (.iaload, 1) := by decide +kernel
theorem dL_law_716 : decode cL_law 716 = .ok (.invokevirtual 78, 3) := by decide +kernel
theorem dL_law_719 : decode cL_law 719 = .ok (.aload_n 2, 1) := by decide +kernel
theorem dL_law_720 : decode cL_law 720 = .ok (.aload_n 0, 1) := by decide +kernel
theorem dL_law_721 : decode cL_law 721 = .ok (.iload_n 3, 1) := by decide +kernel
theorem dL_law_722 : decode cL_law 722 = .ok (.iconst 1, 1) := by decide +kernel
theorem dL_law_723 : decode cL_law 723 = .ok (.iadd, 1) := by decide +kernel
theorem dL_law_724 : decode cL_law 724 = .ok (.iaload, 1) := by decide +kernel
theorem dL_law_725 : decode cL_law 725 = .ok (.aload_n 0, 1) := by decide +kernel
theorem dL_law_726 : decode cL_law 726 = .ok (.iload_n 3, 1) := by decide +kernel
theorem dL_law_727 : decode cL_law 727 = .ok (.iconst 2, 1) := by decide +kernel
theorem dL_law_728 : decode cL_law 728 = .ok (.iadd, 1) := by decide +kernel
theorem dL_law_729 : decode cL_law 729 = .ok (.iaload, 1) := by decide +kernel
theorem dL_law_730 : decode cL_law 730 = .ok (.invokevirtual 81, 3) := by decide +kernel
theorem dL_law_733 : decode cL_law 733 = .ok (.if_icmp .eq 579, 3) := by decide +kernel
theorem dL_law_736 : decode cL_law 736 = .ok (.iconst 0, 1) := by decide +kernel
theorem dL_law_737 : decode cL_law 737 = .ok (.ireturn, 1) := by decide +kernel
theorem dL_law_738 : decode cL_law 738 = .ok (.aload_n 1, 1) := by decide +kernel
theorem dL_law_739 : decode cL_law 739 = .ok (.aload_n 0, 1) := by decide +kernel
theorem dL_law_740 : decode cL_law 740 = .ok (.iload_n 3, 1) := by decide +kernel
theorem dL_law_741 : decode cL_law 741 = .ok (.iconst 1, 1) := by decide +kernel
theorem dL_law_742 : decode cL_law 742 = .ok (.iadd, 1) := by decide +kernel
theorem dL_law_743 : decode cL_law 743 = .ok (.iaload, 1) := by decide +kernel
theorem dL_law_744 : decode cL_law 744 = .ok (.invokevirtual 82, 3) := by decide +kernel
theorem dL_law_747 : decode cL_law 747 = .ok (.aload_n 2, 1) := by decide +kernel
theorem dL_law_748 : decode cL_law 748 = .ok (.aload_n 0, 1) := by decide +kernel
theorem dL_law_749 : decode cL_law 749 = .ok (.iload_n 3, 1) := by decide +kernel
theorem dL_law_750 : decode cL_law 750 = .ok (.iconst 1, 1) := by decide +kernel
theorem dL_law_751 : decode cL_law 751 = .ok (.iadd, 1) := by decide +kernel
theorem dL_law_752 : decode cL_law 752 = .ok (.iaload, 1) := by decide +kernel
theorem dL_law_753 : decode cL_law 753 = .ok (.invokevirtual 85, 3) := by decide +kernel
theorem dL_law_756 : decode cL_law 756 = .ok (.if_icmp .eq 556, 3) := by decide +kernel
theorem dL_law_759 : decode cL_law 759 = .ok (.iconst 0, 1) := by decide +kernel
theorem dL_law_760 : decode cL_law 760 = .ok (.ireturn, 1) := by decide +kernel
theorem dL_law_761 : decode cL_law 761 = .ok (.aload_n 1, 1) := by decide +kernel
theorem dL_law_762 : decode cL_law 762 = .ok (.aload_n 0, 1) := by decide +kernel
theorem dL_law_763 : decode cL_law 763 = .ok (.iload_n 3, 1) := by decide +kernel
theorem dL_law_764 : decode cL_law 764 = .ok (.iconst 1, 1) := by decide +kernel
theorem dL_law_765 : decode cL_law 765 = .ok (.iadd, 1) := by decide +kernel
theorem dL_law_766 : decode cL_law 766 = .ok (.iaload, 1) := by decide +kernel
theorem dL_law_767 : decode cL_law 767 = .ok (.invokevirtual 86, 3) := by decide +kernel
theorem dL_law_770 : decode cL_law 770 = .ok (.aload_n 2, 1) := by decide +kernel
theorem dL_law_771 : decode cL_law 771 = .ok (.aload_n 0, 1) := by decide +kernel
theorem dL_law_772 : decode cL_law 772 = .ok (.iload_n 3, 1) := by decide +kernel
theorem dL_law_773 : decode cL_law 773 = .ok (.iconst 1, 1) := by decide +kernel
theorem dL_law_774 : decode cL_law 774 = .ok (.iadd, 1) := by decide +kernel
theorem dL_law_775 : decode cL_law 775 = .ok (.iaload, 1) := by decide +kernel
theorem dL_law_776 : decode cL_law 776 = .ok (.invokevirtual 89, 3) := by decide +kernel
theorem dL_law_779 : decode cL_law 779 = .ok (.if_icmp .eq 533, 3) := by decide +kernel
theorem dL_law_782 : decode cL_law 782 = .ok (.iconst 0, 1) := by decide +kernel
theorem dL_law_783 : decode cL_law 783 = .ok (.ireturn, 1) := by decide +kernel
theorem dL_law_784 : decode cL_law 784 = .ok (.aload_n 1, 1) := by decide +kernel
theorem dL_law_785 : decode cL_law 785 = .ok (.invokevirtual 90, 3) := by decide +kernel
theorem dL_law_788 : decode cL_law 788 = .ok (.aload_n 2, 1) := by decide +kernel
theorem dL_law_789 : decode cL_law 789 = .ok (.invokevirtual 93, 3) := by decide +kernel
theorem dL_law_792 : decode cL_law 792 = .ok (.if_icmp .eq 520, 3) := by decide +kernel
theorem dL_law_795 : decode cL_law 795 = .ok (.iconst 0, 1) := by decide +kernel
theorem dL_law_796 : decode cL_law 796 = .ok (.ireturn, 1) := by decide +kernel
theorem dL_law_797 : decode cL_law 797 = .ok (.aload_n 1, 1) := by decide +kernel
theorem dL_law_798 : decode cL_law 798 = .ok (.aload_n 0, 1) := by decide +kernel
theorem dL_law_799 : decode cL_law 799 = .ok (.iload_n 3, 1) := by decide +kernel
theorem dL_law_800 : decode cL_law 800 = .ok (.iconst 1, 1) := by decide +kernel
theorem dL_law_801 : decode cL_law 801 = .ok (.iadd, 1) := by decide +kernel
theorem dL_law_802 : decode cL_law 802 = .ok (.iaload, 1) := by decide +kernel
theorem dL_law_803 : decode cL_law 803 = .ok (.invokevirtual 94, 3) := by decide +kernel
theorem dL_law_806 : decode cL_law 806 = .ok (.aload_n 2, 1) := by decide +kernel
theorem dL_law_807 : decode cL_law 807 = .ok (.aload_n 0, 1) := by decide +kernel
theorem dL_law_808 : decode cL_law 808 = .ok (.iload_n 3, 1) := by decide +kernel
theorem dL_law_809 : decode cL_law 809 = .ok (.iconst 1, 1) := by decide +kernel
theorem dL_law_810 : decode cL_law 810 = .ok (.iadd, 1) := by decide +kernel
theorem dL_law_811 : decode cL_law 811 = .ok (.iaload, 1) := by decide +kernel
theorem dL_law_812 : decode cL_law 812 = .ok (.invokevirtual 97, 3) := by decide +kernel
theorem dL_law_815 : decode cL_law 815 = .ok (.if_icmp .eq 497, 3) := by decide +kernel
theorem dL_law_818 : decode cL_law 818 = .ok (.iconst 0, 1) := by decide +kernel
theorem dL_law_819 : decode cL_law 819 = .ok (.ireturn, 1) := by decide +kernel
theorem dL_law_820 : decode cL_law 820 = .ok (.aload_n 1, 1) := by decide +kernel
theorem dL_law_821 : decode cL_law 821 = .ok (.aload_n 0, 1) := by decide +kernel
theorem dL_law_822 : decode cL_law 822 = .ok (.iload_n 3, 1) := by decide +kernel
theorem dL_law_823 : decode cL_law 823 = .ok (.iconst 1, 1) := by decide +kernel
theorem dL_law_824 : decode cL_law 824 = .ok (.iadd, 1) := by decide +kernel
theorem dL_law_825 : decode cL_law 825 = .ok (.iaload, 1) := by decide +kernel
theorem dL_law_826 : decode cL_law 826 = .ok (.invokevirtual 98, 3) := by decide +kernel
theorem dL_law_829 : decode cL_law 829 = .ok (.aload_n 2, 1) := by decide +kernel
theorem dL_law_830 : decode cL_law 830 = .ok (.aload_n 0, 1) := by decide +kernel
theorem dL_law_831 : decode cL_law 831 = .ok (.iload_n 3, 1) := by decide +kernel
theorem dL_law_832 : decode cL_law 832 = .ok (.iconst 1, 1) := by decide +kernel
theorem dL_law_833 : decode cL_law 833 = .ok (.iadd, 1) := by decide +kernel
theorem dL_law_834 : decode cL_law 834 = .ok (.iaload, 1) := by decide +kernel
theorem dL_law_835 : decode cL_law 835 = .ok (.invokevirtual 101, 3) := by decide +kernel
theorem dL_law_838 : decode cL_law 838 = .ok (.if_icmp .eq 474, 3) := by decide +kernel
theorem dL_law_841 : decode cL_law 841 = .ok (.iconst 0, 1) := by decide +kernel
theorem dL_law_842 : decode cL_law 842 = .ok (.ireturn, 1) := by decide +kernel
theorem dL_law_843 : decode cL_law 843 = .ok (.aload_n 1, 1) := by decide +kernel
theorem dL_law_844 : decode cL_law 844 = .ok (.aload_n 0, 1) := by decide +kernel
theorem dL_law_845 : decode cL_law 845 = .ok (.iload_n 3, 1) := by decide +kernel
theorem dL_law_846 : decode cL_law 846 = .ok (.iconst 1, 1) := by decide +kernel
theorem dL_law_847 : decode cL_law 847 = .ok (.iadd, 1) := by decide +kernel
theorem dL_law_848 : decode cL_law 848 = .ok (.iaload, 1) := by decide +kernel
theorem dL_law_849 : decode cL_law 849 = .ok (.invokevirtual 102, 3) := by decide +kernel
theorem dL_law_852 : decode cL_law 852 = .ok (.aload_n 2, 1) := by decide +kernel
theorem dL_law_853 : decode cL_law 853 = .ok (.aload_n 0, 1) := by decide +kernel
theorem dL_law_854 : decode cL_law 854 = .ok (.iload_n 3, 1) := by decide +kernel
theorem dL_law_855 : decode cL_law 855 = .ok (.iconst 1, 1) := by decide +kernel
theorem dL_law_856 : decode cL_law 856 = .ok (.iadd, 1) := by decide +kernel
theorem dL_law_857 : decode cL_law 857 = .ok (.iaload, 1) := by decide +kernel
theorem dL_law_858 : decode cL_law 858 = .ok (.invokevirtual 105, 3) := by decide +kernel
theorem dL_law_861 : decode cL_law 861 = .ok (.if_icmp .eq 451, 3) := by decide +kernel
theorem dL_law_864 : decode cL_law 864 = .ok (.iconst 0, 1) := by decide +kernel
theorem dL_law_865 : decode cL_law 865 = .ok (.ireturn, 1) := by decide +kernel
theorem dL_law_866 : decode cL_law 866 = .ok (.aload_n 1, 1) := by decide +kernel
theorem dL_law_867 : decode cL_law 867 = .ok (.aload_n 0, 1) := by decide +kernel
theorem dL_law_868 : decode cL_law 868 = .ok (.iload_n 3, 1) := by decide +kernel
theorem dL_law_869 : decode cL_law 869 = .ok (.iconst 1, 1) := by decide +kernel
theorem dL_law_870 : decode cL_law 870 = .ok (.iadd, 1) := by decide +kernel
theorem dL_law_871 : decode cL_law 871 = .ok (.iaload, 1) := by decide +kernel
theorem dL_law_872 : decode cL_law 872 = .ok (.aload_n 0, 1) := by decide +kernel
theorem dL_law_873 : decode cL_law 873 = .ok (.iload_n 3, 1) := by decide +kernel
theorem dL_law_874 : decode cL_law 874 = .ok (.iconst 2, 1) := by decide +kernel
theorem dL_law_875 : decode cL_law 875 = .ok (.iadd, 1) := by decide +kernel
theorem dL_law_876 : decode cL_law 876 = .ok (.iaload, 1) := by decide +kernel
theorem dL_law_877 : decode cL_law 877 = .ok (.invokevirtual 106, 3) := by decide +kernel
theorem dL_law_880 : decode cL_law 880 = .ok (.aload_n 2, 1) := by decide +kernel
theorem dL_law_881 : decode cL_law 881 = .ok (.aload_n 0, 1) := by decide +kernel
theorem dL_law_882 : decode cL_law 882 = .ok (.iload_n 3, 1) := by decide +kernel
theorem dL_law_883 : decode cL_law 883 = .ok (.iconst 1, 1) := by decide +kernel
theorem dL_law_884 : decode cL_law 884 = .ok (.iadd, 1) := by decide +kernel
theorem dL_law_885 : decode cL_law 885 = .ok (.iaload, 1) := by decide +kernel
theorem dL_law_886 : decode cL_law 886 = .ok (.aload_n 0, 1) := by decide +kernel
theorem dL_law_887 : decode cL_law 887 = .ok (.iload_n 3, 1) := by decide +kernel
theorem dL_law_888 : decode cL_law 888 = .ok (.iconst 2, 1) := by decide +kernel
theorem dL_law_889 : decode cL_law 889 = .ok (.iadd, 1) := by decide +kernel
theorem dL_law_890 : decode cL_law 890 = .ok (.iaload, 1) := by decide +kernel
theorem dL_law_891 : decode cL_law 891 = .ok (.invokevirtual 109, 3) := by decide +kernel
theorem dL_law_894 : decode cL_law 894 = .ok (.if_icmp .eq 418, 3) := by decide +kernel
theorem dL_law_897 : decode cL_law 897 = .ok (.iconst 0, 1) := by decide +kernel
theorem dL_law_898 : decode cL_law 898 = .ok (.ireturn, 1) := by decide +kernel
theorem dL_law_899 : decode cL_law 899 = .ok (.aload_n 1, 1) := by decide +kernel
theorem dL_law_900 : decode cL_law 900 = .ok (.aload_n 0, 1) := by decide +kernel
theorem dL_law_901 : decode cL_law 901 = .ok (.iload_n 3, 1) := by decide +kernel
theorem dL_law_902 : decode cL_law 902 = .ok (.iconst 1, 1) := by decide +kernel
theorem dL_law_903 : decode cL_law 903 = .ok (.iadd, 1) := by decide +kernel
theorem dL_law_904 : decode cL_law 904 = .ok (.iaload, 1) := by decide +kernel
theorem dL_law_905 : decode cL_law 905 = .ok (.invokevirtual 110, 3) := by decide +kernel
theorem dL_law_908 : decode cL_law 908 = .ok (.aload_n 2, 1) := by decide +kernel
theorem dL_law_909 : decode cL_law 909 = .ok (.aload_n 0, 1) := by decide +kernel
theorem dL_law_910 : decode cL_law 910 = .ok (.iload_n 3, 1) := by decide +kernel
theorem dL_law_911 : decode cL_law 911 = .ok (.iconst 1, 1) := by decide +kernel
theorem dL_law_912 : decode cL_law 912 = .ok (.iadd, 1) := by decide +kernel
theorem dL_law_913 : decode cL_law 913 = .ok (.iaload, 1) := by decide +kernel
theorem dL_law_914 : decode cL_law 914 = .ok (.invokevirtual 113, 3) := by decide +kernel
theorem dL_law_917 : decode cL_law 917 = .ok (.if_icmp .eq 395, 3) := by decide +kernel
theorem dL_law_920 : decode cL_law 920 = .ok (.iconst 0, 1) := by decide +kernel
theorem dL_law_921 : decode cL_law 921 = .ok (.ireturn, 1) := by decide +kernel
theorem dL_law_922 : decode cL_law 922 = .ok (.aload_n 1, 1) := by decide +kernel
theorem dL_law_923 : decode cL_law 923 = .ok (.invokevirtual 114, 3) := by decide +kernel
theorem dL_law_926 : decode cL_law 926 = .ok (.aload_n 2, 1) := by decide +kernel
theorem dL_law_927 : decode cL_law 927 = .ok (.invokevirtual 117, 3) := by decide +kernel
theorem dL_law_930 : decode cL_law 930 = .ok (.if_icmp .eq 382, 3) := by decide +kernel
theorem dL_law_933 : decode cL_law 933 = .ok (.iconst 0, 1) := by decide +kernel
theorem dL_law_934 : decode cL_law 934 = .ok (.ireturn, 1) := by decide +kernel
theorem dL_law_935 : decode cL_law 935 = .ok (.aload_n 1, 1) := by decide +kernel
theorem dL_law_936 : decode cL_law 936 = .ok (.aload_n 0, 1) := by decide +kernel
theorem dL_law_937 : decode cL_law 937 = .ok (.iload_n 3, 1) := by decide +kernel
theorem dL_law_938 : decode cL_law 938 = .ok (.iconst 1, 1) := by decide +kernel
theorem dL_law_939 : decode cL_law 939 = .ok (.iadd, 1) := by decide +kernel
theorem dL_law_940 : decode cL_law 940 = .ok (.iaload, 1) := by decide +kernel
theorem dL_law_941 : decode cL_law 941 = .ok (.invokevirtual 118, 3) := by decide +kernel
theorem dL_law_944 : decode cL_law 944 = .ok (.aload_n 2, 1) := by decide +kernel
theorem dL_law_945 : decode cL_law 945 = .ok (.aload_n 0, 1) := by decide +kernel
theorem dL_law_946 : decode cL_law 946 = .ok (.iload_n 3, 1) := by decide +kernel
theorem dL_law_947 : decode cL_law 947 = .ok (.iconst 1, 1) := by decide +kernel
theorem dL_law_948 : decode cL_law 948 = .ok (.iadd, 1) := by decide +kernel
theorem dL_law_949 : decode cL_law 949 = .ok (.iaload, 1) := by decide +kernel
theorem dL_law_950 : decode cL_law 950 = .ok (.invokevirtual 121, 3) := by decide +kernel
theorem dL_law_953 : decode cL_law 953 = .ok (.if_icmp .eq 359, 3) := by decide +kernel
theorem dL_law_956 : decode cL_law 956 = .ok (.iconst 0, 1) := by decide +kernel
theorem dL_law_957 : decode cL_law 957 = .ok (.ireturn, 1) := by decide +kernel
theorem dL_law_958 : decode cL_law 958 = .ok (.aload_n 1, 1) := by decide +kernel
theorem dL_law_959 : decode cL_law 959 = .ok (.invokevirtual 122, 3) := by decide +kernel
theorem dL_law_962 : decode cL_law 962 = .ok (.aload_n 2, 1) := by decide +kernel
theorem dL_law_963 : decode cL_law 963 = .ok (.invokevirtual 125, 3) := by decide +kernel
theorem dL_law_966 : decode cL_law 966 = .ok (.if_icmp .eq 346, 3) := by decide +kernel
theorem dL_law_969 : decode cL_law 969 = .ok (.iconst 0, 1) := by decide +kernel
theorem dL_law_970 : decode cL_law 970 = .ok (.ireturn, 1) := by decide +kernel
theorem dL_law_971 : decode cL_law 971 = .ok (.aload_n 1, 1) := by decide +kernel
theorem dL_law_972 : decode cL_law 972 = .ok (.aload_n 0, 1) := by decide +kernel
theorem dL_law_973 : decode cL_law 973 = .ok (.iload_n 3, 1) := by decide +kernel
theorem dL_law_974 : decode cL_law 974 = .ok (.iconst 1, 1) := by decide +kernel
theorem dL_law_975 : decode cL_law 975 = .ok (.iadd, 1) := by decide +kernel
theorem dL_law_976 : decode cL_law 976 = .ok (.iaload, 1) := by decide +kernel
theorem dL_law_977 : decode cL_law 977 = .ok (.invokevirtual 126, 3) := by decide +kernel
theorem dL_law_980 : decode cL_law 980 = .ok (.aload_n 2, 1) := by decide +kernel
theorem dL_law_981 : decode cL_law 981 = .ok (.aload_n 0, 1) := by decide +kernel
theorem dL_law_982 : decode cL_law 982 = .ok (.iload_n 3, 1) := by decide +kernel
theorem dL_law_983 : decode cL_law 983 = .ok (.iconst 1, 1) := by decide +kernel
theorem dL_law_984 : decode cL_law 984 = .ok (.iadd, 1) := by decide +kernel
theorem dL_law_985 : decode cL_law 985 = .ok (.iaload, 1) := by decide +kernel
theorem dL_law_986 : decode cL_law 986 = .ok (.invokevirtual 129, 3) := by decide +kernel
theorem dL_law_989 : decode cL_law 989 = .ok (.if_icmp .eq 323, 3) := by decide +kernel
theorem dL_law_992 : decode cL_law 992 = .ok (.iconst 0, 1) := by decide +kernel
theorem dL_law_993 : decode cL_law 993 = .ok (.ireturn, 1) := by decide +kernel
theorem dL_law_994 : decode cL_law 994 = .ok (.aload_n 1, 1) := by decide +kernel
theorem dL_law_995 : decode cL_law 995 = .ok (.aload_n 0, 1) := by decide +kernel
theorem dL_law_996 : decode cL_law 996 = .ok (.iload_n 3, 1) := by decide +kernel
theorem dL_law_997 : decode cL_law 997 = .ok (.iconst 1, 1) := by decide +kernel
theorem dL_law_998 : decode cL_law 998 = .ok (.iadd, 1) := by decide +kernel
theorem dL_law_999 : decode cL_law 999 = .ok (.iaload, 1) := by decide +kernel
theorem dL_law_1000 : decode cL_law 1000 = .ok (.aload_n 0, 1) := by decide +kernel
theorem dL_law_1001 : decode cL_law 1001 = .ok (.iload_n 3, 1) := by decide +kernel
theorem dL_law_1002 : decode cL_law 1002 = .ok (.iconst 2, 1) := by decide +kernel
theorem dL_law_1003 : decode cL_law 1003 = .ok (.iadd, 1) := by decide +kernel
theorem dL_law_1004 : decode cL_law 1004 = .ok (.iaload, 1) := by decide +kernel
theorem dL_law_1005 : decode cL_law 1005 = .ok (.invokevirtual 130, 3) := by decide +kernel
theorem dL_law_1008 : decode cL_law 1008 = .ok (.aload_n 2, 1) := by decide +kernel
theorem dL_law_1009 : decode cL_law 1009 = .ok (.aload_n 0, 1) := by decide +kernel
theorem dL_law_1010 : decode cL_law 1010 = .ok (.iload_n 3, 1) := by decide +kernel
theorem dL_law_1011 : decode cL_law 1011 = .ok (.iconst 1, 1) := by decide +kernel
theorem dL_law_1012 : decode cL_law 1012 = .ok (.iadd, 1) := by decide +kernel
theorem dL_law_1013 : decode cL_law 1013 = .ok (.iaload, 1) := by decide +kernel
theorem dL_law_1014 : decode cL_law 1014 = .ok (.aload_n 0, 1) := by decide +kernel
theorem dL_law_1015 : decode cL_law 1015 = .ok (.iload_n 3, 1) := by decide +kernel
theorem dL_law_1016 : decode cL_law 1016 = .ok (.iconst 2, 1) := by decide +kernel
theorem dL_law_1017 : decode cL_law 1017 = .ok (.iadd, 1) := by decide +kernel
theorem dL_law_1018 : decode cL_law 1018 = .ok (.iaload, 1) := by decide +kernel
theorem dL_law_1019 : decode cL_law 1019 = .ok (.invokevirtual 133, 3) := by decide +kernel
theorem dL_law_1022 : decode cL_law 1022 = .ok (.if_icmp .eq 290, 3) := by decide +kernel
theorem dL_law_1025 : decode cL_law 1025 = .ok (.iconst 0, 1) := by decide +kernel
theorem dL_law_1026 : decode cL_law 1026 = .ok (.ireturn, 1) := by decide +kernel
theorem dL_law_1027 : decode cL_law 1027 = .ok (.aload_n 1, 1) := by decide +kernel
theorem dL_law_1028 : decode cL_law 1028 = .ok (.invokevirtual 134, 3) := by decide +kernel
theorem dL_law_1031 : decode cL_law 1031 = .ok (.aload_n 2, 1) := by decide +kernel
theorem dL_law_1032 : decode cL_law 1032 = .ok (.invokevirtual 137, 3) := by decide +kernel
theorem dL_law_1035 : decode cL_law 1035 = .ok (.if_icmp .eq 277, 3) := by decide +kernel
theorem dL_law_1038 : decode cL_law 1038 = .ok (.iconst 0, 1) := by decide +kernel
theorem dL_law_1039 : decode cL_law 1039 = .ok (.ireturn, 1) := by decide +kernel
theorem dL_law_1040 : decode cL_law 1040 = .ok (.aload_n 1, 1) := by decide +kernel
theorem dL_law_1041 : decode cL_law 1041 = .ok (.aload_n 0, 1) := by decide +kernel
theorem dL_law_1042 : decode cL_law 1042 = .ok (.iload_n 3, 1) := by decide +kernel
theorem dL_law_1043 : decode cL_law 1043 = .ok (.iconst 1, 1) := by decide +kernel
theorem dL_law_1044 : decode cL_law 1044 = .ok (.iadd, 1) := by decide +kernel
theorem dL_law_1045 : decode cL_law 1045 = .ok (.iaload, 1) := by decide +kernel
theorem dL_law_1046 : decode cL_law 1046 = .ok (.invokevirtual 138, 3) := by decide +kernel
theorem dL_law_1049 : decode cL_law 1049 = .ok (.aload_n 2, 1) := by decide +kernel
theorem dL_law_1050 : decode cL_law 1050 = .ok (.aload_n 0, 1) := by decide +kernel
theorem dL_law_1051 : decode cL_law 1051 = .ok (.iload_n 3, 1) := by decide +kernel
theorem dL_law_1052 : decode cL_law 1052 = .ok (.iconst 1, 1) := by decide +kernel
theorem dL_law_1053 : decode cL_law 1053 = .ok (.iadd, 1) := by decide +kernel
theorem dL_law_1054 : decode cL_law 1054 = .ok (.iaload, 1) := by decide +kernel
theorem dL_law_1055 : decode cL_law 1055 = .ok (.invokevirtual 141, 3) := by decide +kernel
theorem dL_law_1058 : decode cL_law 1058 = .ok (.if_icmp .eq 254, 3) := by decide +kernel
theorem dL_law_1061 : decode cL_law 1061 = .ok (.iconst 0, 1) := by decide +kernel
theorem dL_law_1062 : decode cL_law 1062 = .ok (.ireturn, 1) := by decide +kernel
theorem dL_law_1063 : decode cL_law 1063 = .ok (.aload_n 1, 1) := by decide +kernel
theorem dL_law_1064 : decode cL_law 1064 = .ok (.aload_n 0, 1) := by decide +kernel
theorem dL_law_1065 : decode cL_law 1065 = .ok (.iload_n 3, 1) := by decide +kernel
theorem dL_law_1066 : decode cL_law 1066 = .ok (.iconst 1, 1) := by decide +kernel
theorem dL_law_1067 : decode cL_law 1067 = .ok (.iadd, 1) := by decide +kernel
theorem dL_law_1068 : decode cL_law 1068 = .ok (.iaload, 1) := by decide +kernel
theorem dL_law_1069 : decode cL_law 1069 = .ok (.invokevirtual 142, 3) := by decide +kernel
theorem dL_law_1072 : decode cL_law 1072 = .ok (.aload_n 2, 1) := by decide +kernel
theorem dL_law_1073 : decode cL_law 1073 = .ok (.aload_n 0, 1) := by decide +kernel
theorem dL_law_1074 : decode cL_law 1074 = .ok (.iload_n 3, 1) := by decide +kernel
theorem dL_law_1075 : decode cL_law 1075 = .ok (.iconst 1, 1) := by decide +kernel
theorem dL_law_1076 : decode cL_law 1076 = .ok (.iadd, 1) := by decide +kernel
theorem dL_law_1077 : decode cL_law 1077 = .ok (.iaload, 1) := by decide +kernel
theorem dL_law_1078 : decode cL_law 1078 = .ok (.invokevirtual 145, 3) := by decide +kernel
theorem dL_law_1081 : decode cL_law 1081 = .ok (.if_icmp .eq 231, 3) := by decide +kernel
theorem dL_law_1084 : decode cL_law 1084 = .ok (.iconst 0, 1) := by decide +kernel
theorem dL_law_1085 : decode cL_law 1085 = .ok (.ireturn, 1) := by decide +kernel
theorem dL_law_1086 : decode cL_law 1086 = .ok (.aload_n 1, 1) := by decide +kernel
theorem dL_law_1087 : decode cL_law 1087 = .ok (.aload_n 0, 1) := by decide +kernel
theorem dL_law_1088 : decode cL_law 1088 = .ok (.iload_n 3, 1) := by decide +kernel
theorem dL_law_1089 : decode cL_law 1089 = .ok (.iconst 1, 1) := by decide +kernel
theorem dL_law_1090 : decode cL_law 1090 = .ok (.iadd, 1) := by decide +kernel
theorem dL_law_1091 : decode cL_law 1091 = .ok (.iaload, 1) := by decide +kernel
theorem dL_law_1092 : decode cL_law 1092 = .ok (.invokevirtual 146, 3) := by decide +kernel
theorem dL_law_1095 : decode cL_law 1095 = .ok (.aload_n 2, 1) := by decide +kernel
theorem dL_law_1096 : decode cL_law 1096 = .ok (.aload_n 0, 1) := by decide +kernel
theorem dL_law_1097 : decode cL_law 1097 = .ok (.iload_n 3, 1) := by decide +kernel
theorem dL_law_1098 : decode cL_law 1098 = .ok (.iconst 1, 1) := by decide +kernel
theorem dL_law_1099 : decode cL_law 1099 = .ok (.iadd, 1) := by decide +kernel
theorem dL_law_1100 : decode cL_law 1100 = .ok (.iaload, 1) := by decide +kernel
theorem dL_law_1101 : decode cL_law 1101 = .ok (.invokevirtual 149, 3) := by decide +kernel
theorem dL_law_1104 : decode cL_law 1104 = .ok (.if_icmp .eq 208, 3) := by decide +kernel
theorem dL_law_1107 : decode cL_law 1107 = .ok (.iconst 0, 1) := by decide +kernel
theorem dL_law_1108 : decode cL_law 1108 = .ok (.ireturn, 1) := by decide +kernel
theorem dL_law_1109 : decode cL_law 1109 = .ok (.aload_n 1, 1) := by decide +kernel
theorem dL_law_1110 : decode cL_law 1110 = .ok (.aload_n 0, 1) := by decide +kernel
theorem dL_law_1111 : decode cL_law 1111 = .ok (.iload_n 3, 1) := by decide +kernel
theorem dL_law_1112 : decode cL_law 1112 = .ok (.iconst 1, 1) := by decide +kernel
theorem dL_law_1113 : decode cL_law 1113 = .ok (.iadd, 1) := by decide +kernel
theorem dL_law_1114 : decode cL_law 1114 = .ok (.iaload, 1) := by decide +kernel
theorem dL_law_1115 : decode cL_law 1115 = .ok (.aload_n 0, 1) := by decide +kernel
theorem dL_law_1116 : decode cL_law 1116 = .ok (.iload_n 3, 1) := by decide +kernel
theorem dL_law_1117 : decode cL_law 1117 = .ok (.iconst 2, 1) := by decide +kernel
theorem dL_law_1118 : decode cL_law 1118 = .ok (.iadd, 1) := by decide +kernel
theorem dL_law_1119 : decode cL_law 1119 = .ok (.iaload, 1) := by decide +kernel
theorem dL_law_1120 : decode cL_law 1120 = .ok (.invokevirtual 150, 3) := by decide +kernel
theorem dL_law_1123 : decode cL_law 1123 = .ok (.aload_n 2, 1) := by decide +kernel
theorem dL_law_1124 : decode cL_law 1124 = .ok (.aload_n 0, 1) := by decide +kernel
theorem dL_law_1125 : decode cL_law 1125 = .ok (.iload_n 3, 1) := by decide +kernel
theorem dL_law_1126 : decode cL_law 1126 = .ok (.iconst 1, 1) := by decide +kernel
theorem dL_law_1127 : decode cL_law 1127 = .ok (.iadd, 1) := by decide +kernel
theorem dL_law_1128 : decode cL_law 1128 = .ok (.iaload, 1) := by decide +kernel
theorem dL_law_1129 : decode cL_law 1129 = .ok (.aload_n 0, 1) := by decide +kernel
theorem dL_law_1130 : decode cL_law 1130 = .ok (.iload_n 3, 1) := by decide +kernel
theorem dL_law_1131 : decode cL_law 1131 = .ok (.iconst 2, 1) := by decide +kernel
theorem dL_law_1132 : decode cL_law 1132 = .ok (.iadd, 1) := by decide +kernel
theorem dL_law_1133 : decode cL_law 1133 = .ok (.iaload, 1) := by decide +kernel
theorem dL_law_1134 : decode cL_law 1134 = .ok (.invokevirtual 153, 3) := by decide +kernel
theorem dL_law_1137 : decode cL_law 1137 = .ok (.if_icmp .eq 175, 3) := by decide +kernel
theorem dL_law_1140 : decode cL_law 1140 = .ok (.iconst 0, 1) := by decide +kernel
theorem dL_law_1141 : decode cL_law 1141 = .ok (.ireturn, 1) := by decide +kernel
theorem dL_law_1142 : decode cL_law 1142 = .ok (.aload_n 1, 1) := by decide +kernel
theorem dL_law_1143 : decode cL_law 1143 = .ok (.aload_n 0, 1) := by decide +kernel
theorem dL_law_1144 : decode cL_law 1144 = .ok (.iload_n 3, 1) := by decide +kernel
theorem dL_law_1145 : decode cL_law 1145 = .ok (.iconst 1, 1) := by decide +kernel
theorem dL_law_1146 : decode cL_law 1146 = .ok (.iadd, 1) := by decide +kernel
theorem dL_law_1147 : decode cL_law 1147 = .ok (.iaload, 1) := by decide +kernel
theorem dL_law_1148 : decode cL_law 1148 = .ok (.invokevirtual 154, 3) := by decide +kernel
theorem dL_law_1151 : decode cL_law 1151 = .ok (.aload_n 2, 1) := by decide +kernel
theorem dL_law_1152 : decode cL_law 1152 = .ok (.aload_n 0, 1) := by decide +kernel
theorem dL_law_1153 : decode cL_law 1153 = .ok (.iload_n 3, 1) := by decide +kernel
theorem dL_law_1154 : decode cL_law 1154 = .ok (.iconst 1, 1) := by decide +kernel
theorem dL_law_1155 : decode cL_law 1155 = .ok (.iadd, 1) := by decide +kernel
theorem dL_law_1156 : decode cL_law 1156 = .ok (.iaload, 1) := by decide +kernel
theorem dL_law_1157 : decode cL_law 1157 = .ok (.invokevirtual 157, 3) := by decide +kernel
theorem dL_law_1160 : decode cL_law 1160 = .ok (.if_icmp .eq 152, 3) := by decide +kernel
theorem dL_law_1163 : decode cL_law 1163 = .ok (.iconst 0, 1) := by decide +kernel
theorem dL_law_1164 : decode cL_law 1164 = .ok (.ireturn, 1) := by decide +kernel
theorem dL_law_1165 : decode cL_law 1165 = .ok (.aload_n 1, 1) := by decide +kernel
theorem dL_law_1166 : decode cL_law 1166 = .ok (.aload_n 0, 1) := by decide +kernel
theorem dL_law_1167 : decode cL_law 1167 = .ok (.iload_n 3, 1) := by decide +kernel
theorem dL_law_1168 : decode cL_law 1168 = .ok (.iconst 1, 1) := by decide +kernel
theorem dL_law_1169 : decode cL_law 1169 = .ok (.iadd, 1) := by decide +kernel
theorem dL_law_1170 : decode cL_law 1170 = .ok (.iaload, 1) := by decide +kernel
theorem dL_law_1171 : decode cL_law 1171 = .ok (.aload_n 0, 1) := by decide +kernel
theorem dL_law_1172 : decode cL_law 1172 = .ok (.iload_n 3, 1) := by decide +kernel
theorem dL_law_1173 : decode cL_law 1173 = .ok (.iconst 2, 1) := by decide +kernel
theorem dL_law_1174 : decode cL_law 1174 = .ok (.iadd, 1) := by decide +kernel
theorem dL_law_1175 : decode cL_law 1175 = .ok (.iaload, 1) := by decide +kernel
theorem dL_law_1176 : decode cL_law 1176 = .ok (.invokevirtual 158, 3) := by decide +kernel
theorem dL_law_1179 : decode cL_law 1179 = .ok (.aload_n 2, 1) := by decide +kernel
theorem dL_law_1180 : decode cL_law 1180 = .ok (.aload_n 0, 1) := by decide +kernel
theorem dL_law_1181 : decode cL_law 1181 = .ok (.iload_n 3, 1) := by decide +kernel
theorem dL_law_1182 : decode cL_law 1182 = .ok (.iconst 1, 1) := by decide +kernel
theorem dL_law_1183 : decode cL_law 1183 = .ok (.iadd, 1) := by decide +kernel
theorem dL_law_1184 : decode cL_law 1184 = .ok (.iaload, 1) := by decide +kernel
theorem dL_law_1185 : decode cL_law 1185 = .ok (.aload_n 0, 1) := by decide +kernel
theorem dL_law_1186 : decode cL_law 1186 = .ok (.iload_n 3, 1) := by decide +kernel
theorem dL_law_1187 : decode cL_law 1187 = .ok (.iconst 2, 1) := by decide +kernel
theorem dL_law_1188 : decode cL_law 1188 = .ok (.iadd, 1) := by decide +kernel
theorem dL_law_1189 : decode cL_law 1189 = .ok (.iaload, 1) := by decide +kernel
theorem dL_law_1190 : decode cL_law 1190 = .ok (.invokevirtual 161, 3) := by decide +kernel
theorem dL_law_1193 : decode cL_law 1193 = .ok (.if_icmp .eq 119, 3) := by decide +kernel
theorem dL_law_1196 : decode cL_law 1196 = .ok (.iconst 0, 1) := by decide +kernel
theorem dL_law_1197 : decode cL_law 1197 = .ok (.ireturn, 1) := by decide +kernel
theorem dL_law_1198 : decode cL_law 1198 = .ok (.aload_n 1, 1) := by decide +kernel
theorem dL_law_1199 : decode cL_law 1199 = .ok (.invokevirtual 162, 3) := by decide +kernel
theorem dL_law_1202 : decode cL_law 1202 = .ok (.aload_n 2, 1) := by decide +kernel
theorem dL_law_1203 : decode cL_law 1203 = .ok (.invokevirtual 165, 3) := by decide +kernel
theorem dL_law_1206 : decode cL_law 1206 = .ok (.if_icmp .eq 106, 3) := by decide +kernel
theorem dL_law_1209 : decode cL_law 1209 = .ok (.iconst 0, 1) := by decide +kernel
theorem dL_law_1210 : decode cL_law 1210 = .ok (.ireturn, 1) := by decide +kernel
theorem dL_law_1211 : decode cL_law 1211 = .ok (.aload_n 1, 1) := by decide +kernel
theorem dL_law_1212 : decode cL_law 1212 = .ok (.invokevirtual 166, 3) := by decide +kernel
theorem dL_law_1215 : decode cL_law 1215 = .ok (.aload_n 2, 1) := by decide +kernel
theorem dL_law_1216 : decode cL_law 1216 = .ok (.invokevirtual 170, 3) := by decide +kernel
theorem dL_law_1219 : decode cL_law 1219 = .ok (.lcmp, 1) := by decide +kernel
theorem dL_law_1220 : decode cL_law 1220 = .ok (.ifCond .eq 92, 3) := by decide +kernel
theorem dL_law_1223 : decode cL_law 1223 = .ok (.iconst 0, 1) := by decide +kernel
theorem dL_law_1224 : decode cL_law 1224 = .ok (.ireturn, 1) := by decide +kernel
theorem dL_law_1225 : decode cL_law 1225 = .ok (.aload_n 1, 1) := by decide +kernel
theorem dL_law_1226 : decode cL_law 1226 = .ok (.invokevirtual 171, 3) := by decide +kernel
theorem dL_law_1229 : decode cL_law 1229 = .ok (.aload_n 2, 1) := by decide +kernel
theorem dL_law_1230 : decode cL_law 1230 = .ok (.invokevirtual 174, 3) := by decide +kernel
theorem dL_law_1233 : decode cL_law 1233 = .ok (.lcmp, 1) := by decide +kernel
theorem dL_law_1234 : decode cL_law 1234 = .ok (.ifCond .eq 78, 3) := by decide +kernel
theorem dL_law_1237 : decode cL_law 1237 = .ok (.iconst 0, 1) := by decide +kernel
theorem dL_law_1238 : decode cL_law 1238 = .ok (.ireturn, 1) := by decide +kernel
theorem dL_law_1239 : decode cL_law 1239 = .ok (.aload_n 1, 1) := by decide +kernel
theorem dL_law_1240 : decode cL_law 1240 = .ok (.aload_n 0, 1) := by decide +kernel
theorem dL_law_1241 : decode cL_law 1241 = .ok (.iload_n 3, 1) := by decide +kernel
theorem dL_law_1242 : decode cL_law 1242 = .ok (.iconst 1, 1) := by decide +kernel
theorem dL_law_1243 : decode cL_law 1243 = .ok (.iadd, 1) := by decide +kernel
theorem dL_law_1244 : decode cL_law 1244 = .ok (.iaload, 1) := by decide +kernel
theorem dL_law_1245 : decode cL_law 1245 = .ok (.invokevirtual 175, 3) := by decide +kernel
theorem dL_law_1248 : decode cL_law 1248 = .ok (.aload_n 2, 1) := by decide +kernel
theorem dL_law_1249 : decode cL_law 1249 = .ok (.aload_n 0, 1) := by decide +kernel
theorem dL_law_1250 : decode cL_law 1250 = .ok (.iload_n 3, 1) := by decide +kernel
theorem dL_law_1251 : decode cL_law 1251 = .ok (.iconst 1, 1) := by decide +kernel
theorem dL_law_1252 : decode cL_law 1252 = .ok (.iadd, 1) := by decide +kernel
theorem dL_law_1253 : decode cL_law 1253 = .ok (.iaload, 1) := by decide +kernel
theorem dL_law_1254 : decode cL_law 1254 = .ok (.invokevirtual 178, 3) := by decide +kernel
theorem dL_law_1257 : decode cL_law 1257 = .ok (.if_icmp .eq 55, 3) := by decide +kernel
theorem dL_law_1260 : decode cL_law 1260 = .ok (.iconst 0, 1) := by decide +kernel
theorem dL_law_1261 : decode cL_law 1261 = .ok (.ireturn, 1) := by decide +kernel
theorem dL_law_1262 : decode cL_law 1262 = .ok (.aload_n 1, 1) := by decide +kernel
theorem dL_law_1263 : decode cL_law 1263 = .ok (.invokevirtual 179, 3) := by decide +kernel
theorem dL_law_1266 : decode cL_law 1266 = .ok (.aload_n 2, 1) := by decide +kernel
theorem dL_law_1267 : decode cL_law 1267 = .ok (.invokevirtual 182, 3) := by decide +kernel
theorem dL_law_1270 : decode cL_law 1270 = .ok (.if_icmp .eq 42, 3) := by decide +kernel
theorem dL_law_1273 : decode cL_law 1273 = .ok (.iconst 0, 1) := by decide +kernel
theorem dL_law_1274 : decode cL_law 1274 = .ok (.ireturn, 1) := by decide +kernel
theorem dL_law_1275 : decode cL_law 1275 = .ok (.aload_n 1, 1) := by decide +kernel
theorem dL_law_1276 : decode cL_law 1276 = .ok (.aload_n 0, 1) := by decide +kernel
theorem dL_law_1277 : decode cL_law 1277 = .ok (.iload_n 3, 1) := by decide +kernel
theorem dL_law_1278 : decode cL_law 1278 = .ok (.iconst 1, 1) := by decide +kernel
theorem dL_law_1279 : decode cL_law 1279 = .ok (.iadd, 1) := by decide +kernel
theorem dL_law_1280 : decode cL_law 1280 = .ok (.iaload, 1) := by decide +kernel
theorem dL_law_1281 : decode cL_law 1281 = .ok (.invokevirtual 183, 3) := by decide +kernel
theorem dL_law_1284 : decode cL_law 1284 = .ok (.aload_n 2, 1) := by decide +kernel
theorem dL_law_1285 : decode cL_law 1285 = .ok (.aload_n 0, 1) := by decide +kernel
theorem dL_law_1286 : decode cL_law 1286 = .ok (.iload_n 3, 1) := by decide +kernel
theorem dL_law_1287 : decode cL_law 1287 = .ok (.iconst 1, 1) := by decide +kernel
theorem dL_law_1288 : decode cL_law 1288 = .ok (.iadd, 1) := by decide +kernel
theorem dL_law_1289 : decode cL_law 1289 = .ok (.iaload, 1) := by decide +kernel
theorem dL_law_1290 : decode cL_law 1290 = .ok (.invokevirtual 186, 3) := by decide +kernel
theorem dL_law_1293 : decode cL_law 1293 = .ok (.if_icmp .eq 19, 3) := by decide +kernel
theorem dL_law_1296 : decode cL_law 1296 = .ok (.iconst 0, 1) := by decide +kernel
theorem dL_law_1297 : decode cL_law 1297 = .ok (.ireturn, 1) := by decide +kernel
theorem dL_law_1298 : decode cL_law 1298 = .ok (.aload_n 1, 1) := by decide +kernel
theorem dL_law_1299 : decode cL_law 1299 = .ok (.invokevirtual 187, 3) := by decide +kernel
theorem dL_law_1302 : decode cL_law 1302 = .ok (.aload_n 2, 1) := by decide +kernel
theorem dL_law_1303 : decode cL_law 1303 = .ok (.invokevirtual 190, 3) := by decide +kernel
theorem dL_law_1306 : decode cL_law 1306 = .ok (.lcmp, 1) := by decide +kernel
theorem dL_law_1307 : decode cL_law 1307 = .ok (.ifCond .eq 5, 3) := by decide +kernel
theorem dL_law_1310 : decode cL_law 1310 = .ok (.iconst 0, 1) := by decide +kernel
theorem dL_law_1311 : decode cL_law 1311 = .ok (.ireturn, 1) := by decide +kernel
theorem dL_law_1312 : decode cL_law 1312 = .ok (.iinc 3 6, 3) := by decide +kernel
theorem dL_law_1315 : decode cL_law 1315 = .ok (.goto (-1297), 3) := by decide +kernel
theorem dL_law_1318 : decode cL_law 1318 = .ok (.iconst 1, 1) := by decide +kernel
theorem dL_law_1319 : decode cL_law 1319 = .ok (.ireturn, 1) := by decide +kernel
end
section
/-! the memory that the contracts speak of: ints and longs by the number of a cell and the place in it; which cells there are (G: kind and size) and which refers to which (R) is fixed once they are made -/
abbrev jM : Type := (Nat → Nat → Int32) × (Nat → Nat → Int64)
def gi (M : jM) (o k : Nat) : Int32 := M.1 o k
def gl (M : jM) (o k : Nat) : Int64 := M.2 o k
def si (M : jM) (o k : Nat) (v : Int32) : jM := (fun a b => if a = o ∧ b = k then v else M.1 a b, M.2)
def sl (M : jM) (o k : Nat) (v : Int64) : jM := (M.1, fun a b => if a = o ∧ b = k then v else M.2 a b)
/-- n ints of the row f from sp on come to cell b from dp on -/
def jcp (M : jM) (f : Nat → Int32) (sp b dp n : Nat) : jM := (fun o k => if o = b ∧ dp ≤ k ∧ k < dp + n then f (sp + (k - dp)) else M.1 o k, M.2)
def jin (i : Int32) (n : Nat) : Bool := decide (¬ i < 0) && decide (i.toNatClampNeg < n)
theorem jin_vp {i : Int32} {n : Nat} (h : jin i n = true) : vp_in i n := by
  unfold jin at h
  rw [Bool.and_eq_true, decide_eq_true_eq, decide_eq_true_eq] at h
  intro q
  rcases q with q | q
  · exact h.1 q
  · omega
def jlet {α β : Type} (a : α) (f : α → Option β) : Option β := f a
theorem jlet_s {α β : Type} {a : α} {f : α → Option β} {r : β} (h : jlet a f = some r) : ∃ v, a = v ∧ f v = some r := ⟨a, rfl, h⟩
theorem jbd_s {α β : Type} {a : Option α} {f : α → Option β} {r : β} (h : a.bind f = some r) : ∃ v, a = some v ∧ f v = some r := by
  cases a with
  | none => cases h
  | some v => exact ⟨v, rfl, h⟩
theorem jgd_s {β : Type} {c : Prop} [Decidable c] {a : Option β} {r : β} (h : (if c then a else none) = some r) : c ∧ a = some r := by
  by_cases hc : c
  · rw [if_pos hc] at h; exact ⟨hc, h⟩
  · rw [if_neg hc] at h; cases h
theorem jif_t {β : Type} {c : Prop} [Decidable c] {a b : Option β} {r : Option β} (hc : c) (h : (if c then a else b) = r) : a = r := by rw [if_pos hc] at h; exact h
theorem jif_f {β : Type} {c : Prop} [Decidable c] {a b : Option β} {r : Option β} (hc : ¬ c) (h : (if c then a else b) = r) : b = r := by rw [if_neg hc] at h; exact h
/-! field kinds by class: 0 int, 1 long, 2 a fixed reference, 3 a reference by its number -/
def jft (c : Nat) : List Nat := match c with
  | 0 => [2, 2, 2, 2, 2, 2, 0, 0, 0, 0, 0, 0]
  | 1 => [2, 2, 2, 0, 0, 0, 0]
  | 2 => [0, 0, 2, 2, 2, 2, 2, 2, 2, 2, 2]
  | 3 => [2, 3, 0, 0]
  | 4 => [2, 2]
  | 5 => [2, 2, 2, 2, 2, 2, 2, 2, 2, 0, 0, 1, 1]
  | _ => [2, 2, 2, 2, 2, 2, 2, 0, 2, 2, 2, 0, 2, 2, 2, 0, 0, 1, 1, 0, 2, 2, 0, 2, 0, 2, 0, 2, 2, 2, 2, 2, 1]
def jval (ad : Nat → Nat) (R : Nat → Nat → Option Nat) (M : jM) (o k t : Nat) : Value :=
  if t = 0 then .int (gi M o k) else if t = 1 then .long (gl M o k) else if t = 2 then va_rf ((R o k).map ad) else if gi M o k < 0 then .null else .ref (ad (gi M o k).toNatClampNeg)
def jfs (ad : Nat → Nat) (R : Nat → Nat → Option Nat) (M : jM) (o : Nat) (ts : List Nat) : List Value := ts.mapIdx (fun k t => jval ad R M o k t)
def jcell (cy : Nat → ClassId) (ad : Nat → Nat) (R : Nat → Nat → Option Nat) (M : jM) (o : Nat) (h : Nat × Nat) : va_E :=
  if h.1 = 0 then .inl (cy 0, h.2, .inl (gi M o))
  else if h.1 = 1 then .inl (cy 1, h.2, .inr (.inl (gl M o)))
  else if h.1 = 2 then .inl (cy 2, h.2, .inl (gi M o))
  else if h.1 = 3 then .inl (cy 3, h.2, .inr (.inr (.inr (.inr (fun i => (R o i).map ad)))))
  else if h.1 = 4 then .inl (cy 4, h.2, .inr (.inr (.inr (.inr (fun i => (R o i).map ad)))))
  else .inr (h.1 - 10, jfs ad R M o (jft (h.1 - 10)))
def jws (cy : Nat → ClassId) (ad : Nat → Nat) (R : Nat → Nat → Option Nat) (M : jM) (G : List (Nat × Nat)) : va_W := G.mapIdx (fun o h => (ad o, jcell cy ad R M o h))
theorem jws_at {cy : Nat → ClassId} {ad : Nat → Nat} {R : Nat → Nat → Option Nat} {M : jM} {G : List (Nat × Nat)} {o : Nat} {h : Nat × Nat} (hG : G[o]? = some h) : (jws cy ad R M G)[o]? = some (ad o, jcell cy ad R M o h) := by
  simp [jws, List.getElem?_mapIdx, hG]
theorem jcell_congr {cy : Nat → ClassId} {ad : Nat → Nat} {R : Nat → Nat → Option Nat} {M M' : jM} {i : Nat} (h : Nat × Nat) (e1 : gi M' i = gi M i) (e2 : gl M' i = gl M i) : jcell cy ad R M' i h = jcell cy ad R M i h := by
  have e3 : ∀ k t, jval ad R M' i k t = jval ad R M i k t := fun k t => by unfold jval; rw [e1, e2]
  have e4 : ∀ ts, jfs ad R M' i ts = jfs ad R M i ts := fun ts => by unfold jfs; exact congrArg (fun f => List.mapIdx f ts) (funext fun k => funext fun t => e3 k t)
  unfold jcell
  rw [e1, e2, e4]
theorem jws_len {cy : Nat → ClassId} {ad : Nat → Nat} {R : Nat → Nat → Option Nat} {M : jM} {G : List (Nat × Nat)} : (jws cy ad R M G).length = G.length := by unfold jws; exact List.length_mapIdx
theorem jws_get {cy : Nat → ClassId} {ad : Nat → Nat} {R : Nat → Nat → Option Nat} {M : jM} {G : List (Nat × Nat)} (i : Nat) : (jws cy ad R M G)[i]? = G[i]?.map (fun h => (ad i, jcell cy ad R M i h)) := by unfold jws; exact List.getElem?_mapIdx
theorem jws_set {cy : Nat → ClassId} {ad : Nat → Nat} {R : Nat → Nat → Option Nat} {M M' : jM} {G : List (Nat × Nat)} {o : Nat} {h : Nat × Nat} {e : va_E} (hG : G[o]? = some h) (he : e = jcell cy ad R M' o h) (hi : ∀ a k, a ≠ o → gi M' a k = gi M a k) (hl : ∀ a k, a ≠ o → gl M' a k = gl M a k) : (jws cy ad R M G).set o (ad o, e) = jws cy ad R M' G := by
  apply List.ext_getElem?
  intro i
  by_cases hio : i = o
  · have hlt : o < (jws cy ad R M G).length := by rw [jws_len]; exact (List.getElem?_eq_some_iff.mp hG).1
    rw [hio, List.getElem?_set_self hlt, jws_at hG, he]
  · rw [List.getElem?_set_ne (Ne.symm hio), jws_get, jws_get]
    have e1 : gi M' i = gi M i := funext fun k => hi i k hio
    have e2 : gl M' i = gl M i := funext fun k => hl i k hio
    exact congrArg (fun f => G[i]?.map f) (funext fun h2 => congrArg (Prod.mk (ad i)) (jcell_congr h2 e1 e2).symm)
theorem gi_si (M : jM) (o k : Nat) (v : Int32) (a b : Nat) : gi (si M o k v) a b = if a = o ∧ b = k then v else gi M a b := rfl
theorem gi_sl (M : jM) (o k : Nat) (v : Int64) (a b : Nat) : gi (sl M o k v) a b = gi M a b := rfl
theorem gl_sl (M : jM) (o k : Nat) (v : Int64) (a b : Nat) : gl (sl M o k v) a b = if a = o ∧ b = k then v else gl M a b := rfl
theorem gl_si (M : jM) (o k : Nat) (v : Int32) (a b : Nat) : gl (si M o k v) a b = gl M a b := rfl
theorem gi_jcp (M : jM) (f : Nat → Int32) (sp b dp n o k : Nat) : gi (jcp M f sp b dp n) o k = if o = b ∧ dp ≤ k ∧ k < dp + n then f (sp + (k - dp)) else gi M o k := rfl
theorem gl_jcp (M : jM) (f : Nat → Int32) (sp b dp n o k : Nat) : gl (jcp M f sp b dp n) o k = gl M o k := rfl
theorem jfs_si {ad : Nat → Nat} {R : Nat → Nat → Option Nat} {M : jM} {o k : Nat} {v : Int32} {ts : List Nat} {w : Value} (hk : ts[k]? = some 0 ∧ w = .int v ∨ ts[k]? = some 3 ∧ w = (if v < 0 then .null else .ref (ad v.toNatClampNeg))) : (jfs ad R M o ts).set k w = jfs ad R (si M o k v) o ts := by
  apply List.ext_getElem?
  intro i
  by_cases hik : i = k
  · subst hik
    have hlt : i < (jfs ad R M o ts).length := by
      rcases hk with ⟨h, -⟩ | ⟨h, -⟩
      · have := (List.getElem?_eq_some_iff.mp h).1; simpa [jfs] using this
      · have := (List.getElem?_eq_some_iff.mp h).1; simpa [jfs] using this
    rw [List.getElem?_set_self hlt]
    rcases hk with ⟨h, rfl⟩ | ⟨h, rfl⟩ <;> simp [jfs, List.getElem?_mapIdx, h, jval, gi_si]
  · rw [List.getElem?_set_ne (Ne.symm hik)]
    simp [jfs, List.getElem?_mapIdx, jval, gi_si, gl_si, hik]
theorem jfs_sl {ad : Nat → Nat} {R : Nat → Nat → Option Nat} {M : jM} {o k : Nat} {v : Int64} {ts : List Nat} (hk : ts[k]? = some 1) : (jfs ad R M o ts).set k (.long v) = jfs ad R (sl M o k v) o ts := by
  apply List.ext_getElem?
  intro i
  by_cases hik : i = k
  · subst hik
    have hlt : i < (jfs ad R M o ts).length := by
      have := (List.getElem?_eq_some_iff.mp hk).1; simpa [jfs] using this
    rw [List.getElem?_set_self hlt]
    simp [jfs, List.getElem?_mapIdx, hk, jval, gl_sl]
  · rw [List.getElem?_set_ne (Ne.symm hik)]
    have e9 : ∀ t, jval ad R M o i t = jval ad R (sl M o k v) o i t := fun t => by
      have e8 : gl (sl M o k v) o i = gl M o i := by simp [gl_sl, hik]
      unfold jval
      rw [e8]
      rfl
    simp only [jfs, List.getElem?_mapIdx, e9]
/-! the arrays' classes, the statics, the words among nest mates -/
def jtys (cy : Nat → ClassId) : List (ClassId × FieldType) := [(cy 0, .int), (cy 1, .long), (cy 2, .boolean), (cy 3, .object "HoursByPost$Course"), (cy 4, .array .int)]
def jsn (j : Nat) : String := match j with
  | 0 => "FIRST_ROUTES"
  | 1 => "KIND_SIGNS"
  | 2 => "LIGHT_SIGNS"
  | 3 => "SETS_OF"
  | _ => "SETS_WITH"
def jsd (j : Nat) : String := match j with
  | 0 => "[I"
  | 1 => "[I"
  | 2 => "[I"
  | 3 => "[J"
  | _ => "[J"
def jsty (j : Nat) : FieldType := match j with
  | 0 => .int
  | 1 => .int
  | 2 => .int
  | 3 => .long
  | _ => .long
def jslen (j : Nat) : Nat := match j with
  | 0 => 3
  | 1 => 6
  | 2 => 3
  | 3 => 7
  | _ => 6
def jsI (j : Nat) : List Int32 := match j with
  | 0 => [1, 2, 4]
  | 1 => [100, 109, 115, 108, 102, 112]
  | _ => [100, 110, 101]
def jsL (j : Nat) : List Int64 := match j with
  | 0 => []
  | 1 => []
  | 2 => []
  | 3 => [(1), (4295033110), (282668995843688), (78274679833913472), (1614655367130677248), (7530159316599308288), (-9223372036854775808)]
  | _ => [(-6148914691236517206), (-3689348814741910324), (-1085102592571150096), (-71777214294589696), (-281470681808896), (-4294967296)]
def jsv (j k : Nat) : Value := if j < 3 then .int ((jsI j).getD k 0) else .long ((jsL j).getD k 0)
def jZ (st : Nat → Nat) (A : Nat → Prop) (U : State) (H : Heap) : Prop := ∀ j, j < 5 → va_Z "HoursByPost" (jsn j) (jsd j) (.ref (st j)) A U H ∧ va_T (jsty j) (st j) (jslen j) (jsv j) A U H
def jnw : List Cond := [(Jvm.Cond.methodLinkNest "HoursByPost" (23 : Nat) ({ cls := "HoursByPost$Reading", name := "<init>", desc := "()V" } : Jvm.MethodName) "HoursByPost"), (Jvm.Cond.methodLinkNest "HoursByPost$Reading" (11 : Nat) ({ cls := "HoursByPost$Plan", name := "<init>", desc := "()V" } : Jvm.MethodName) "HoursByPost"), (Jvm.Cond.methodLinkNest "HoursByPost" (30 : Nat) ({ cls := "HoursByPost$Plan", name := "<init>", desc := "()V" } : Jvm.MethodName) "HoursByPost"), (Jvm.Cond.fieldLinkNest "HoursByPost$Course" (50 : Nat) "HoursByPost" "FIRST_ROUTES" "[I" "HoursByPost"), (Jvm.Cond.fieldLinkNest "HoursByPost$Reading" (60 : Nat) "HoursByPost" "KIND_SIGNS" "[I" "HoursByPost"), (Jvm.Cond.fieldLinkNest "HoursByPost$Reading" (71 : Nat) "HoursByPost" "LIGHT_SIGNS" "[I" "HoursByPost"), (Jvm.Cond.methodLinkNest "HoursByPost$Reading" (78 : Nat) ({ cls := "HoursByPost", name := "isIn", desc := "(II)Z" } : Jvm.MethodName) "HoursByPost"), (Jvm.Cond.methodLinkNest "HoursByPost$Plan" (65 : Nat) ({ cls := "HoursByPost", name := "isIn", desc := "(II)Z" } : Jvm.MethodName) "HoursByPost"), (Jvm.Cond.methodLinkNest "HoursByPost$Course" (113 : Nat) ({ cls := "HoursByPost", name := "isIn", desc := "(II)Z" } : Jvm.MethodName) "HoursByPost"), (Jvm.Cond.methodLinkNest "HoursByPost$Orders" (55 : Nat) ({ cls := "HoursByPost", name := "isIn", desc := "(II)Z" } : Jvm.MethodName) "HoursByPost"), (Jvm.Cond.fieldLinkNest "HoursByPost$Orders" (111 : Nat) "HoursByPost" "SETS_OF" "[J" "HoursByPost"), (Jvm.Cond.fieldLinkNest "HoursByPost$Orders" (108 : Nat) "HoursByPost" "SETS_WITH" "[J" "HoursByPost")]
theorem jnw_ok : jnw.all (fun w => w.onTables) = true := by decide +kernel
theorem jnw_in : ∀ w ∈ jnw, w ∈ lw_tbl := by decide +kernel
theorem jN_warm {s U : State} (hW : s.WarmedH U.vm) (h : ∀ w ∈ jnw, va_Nw w s) : ∀ w ∈ jnw, va_Nw w U := by
  simp only [jnw, List.forall_mem_cons] at h ⊢
  obtain ⟨h0, h1, h2, h3, h4, h5, h6, h7, h8, h9, h10, h11, -⟩ := h
  exact ⟨va_Nw.warmM hW h0, va_Nw.warmM hW h1, va_Nw.warmM hW h2, va_Nw.warmF hW h3, va_Nw.warmF hW h4, va_Nw.warmF hW h5, va_Nw.warmM hW h6, va_Nw.warmM hW h7, va_Nw.warmM hW h8, va_Nw.warmM hW h9, va_Nw.warmF hW h10, va_Nw.warmF hW h11, fun _ h => absurd h List.not_mem_nil⟩
theorem jZ_moved {st : Nat → Nat} {A : Nat → Prop} {u U : State} {H : Heap} (hvm : u.vm.Alike U.vm) (h : jZ st A u H) : jZ st A U H := fun j hj => ⟨(h j hj).1.moved hvm, (h j hj).2.moved hvm⟩
theorem jZ_kept {st : Nat → Nat} {A : Nat → Prop} {U : State} {H H1 : Heap} (h : jZ st A U H) (hq : ∀ a : Nat, a < H.size → ¬ A a → H1[a]? = H[a]?) : jZ st A U H1 := fun j hj => ⟨(h j hj).1.kept hq, (h j hj).2.kept hq⟩
theorem jZ_narrow {st : Nat → Nat} {A B : Nat → Prop} {U : State} {H : Heap} (h : jZ st A U H) (hAB : ∀ q, B q → A q) : jZ st B U H := fun j hj => ⟨(h j hj).1.narrow hAB, (h j hj).2.narrow hAB⟩
def jN (U : State) : Prop := ∀ w ∈ jnw, va_Nw w U
theorem jN_same {u U : State} (h : u.vm = U.vm) (hN : jN u) : jN U := fun w hw => va_Nw.same (List.all_eq_true.mp jnw_ok w hw) h (hN w hw)
/-! the machine at a frame: everything that stays the same while a method runs -/
abbrev jG : Type := Program × Launch × Env × Room × State × MethodId × Array Value × List Frame × Method × Code × Nat × va_G × (Nat → ClassId) × (Nat → Nat) × (Nat → Nat) × (Nat → Prop) × Nat × Nat
def jOK (Γ : jG) (cc : ByteArray) (nl : Nat) (own : String) (ret : Option FieldType) (rm : Room) : Prop := match Γ with
  | (p, l, e, R, s, m, args, below, meth, c, nL, D, cy, ad, st, A, kc, ks) => p.tables.exec = Jvm.exec ∧ c.code = cc ∧ c.maxLocals = nL ∧ s.vm.findClass own = some m.cls ∧ (∀ w ∈ jtb, w.before args s = true) ∧ R = rm ∧ meth.locks = false ∧ meth.sig.returnType = ret ∧ va_K D vwCl (jtys cy) s ∧ jZ st A s s.heap ∧ jN s ∧ (∀ q, s.heap.size ≤ q → A q) ∧ nL = nl ∧ kc ≤ rm.cells ∧ ks ≤ rm.slots
def jJ (Γ : jG) (G : List (Nat × Nat)) (Rf : Nat → Nat → Option Nat) (pc : Nat) (lv : List (Nat × Value)) (stk : List Value) (M : jM) (Q : State → Prop) : Prop := match Γ with
  | (p, l, e, R, s, m, args, below, meth, c, nL, D, cy, ad, st, A, kc, ks) => ∀ (H : Heap) (locs : List Loc) (ls : Array Slot), lv_has ls nL lv → va_P D vwCl (jws cy ad Rf M G) H → va_D A (jws cy ad Rf M G) → va_S A s.heap H locs → W p l e R s m args below meth c H locs kc ks Q (F0 m pc ls stk)
def jad (Γ : jG) : Nat → Nat := match Γ with
  | (p, l, e, R, s, m, args, below, meth, c, nL, D, cy, ad, st, A, kc, ks) => ad
def jst (Γ : jG) : Nat → Nat := match Γ with
  | (p, l, e, R, s, m, args, below, meth, c, nL, D, cy, ad, st, A, kc, ks) => st
def jnl (Γ : jG) : Nat := match Γ with
  | (p, l, e, R, s, m, args, below, meth, c, nL, D, cy, ad, st, A, kc, ks) => nL
end
section
theorem j_iconst {Γ : jG} {G : List (Nat × Nat)} {Rf : Nat → Nat → Option Nat} {cc : ByteArray} {nl : Nat} {own : String} {ret : Option FieldType} {rm : Room} {pc pc' : Nat} {lv : List (Nat × Value)} {rest : List Value} {M : jM} {Q : State → Prop} {n : Int} {v : Int32} (hC : jOK Γ cc nl own ret rm) (hd : decode cc pc = .ok (.iconst n, 1)) (hp : pc + 1 = pc') (hv : Int32.ofInt n = v) (k : jJ Γ G Rf pc' lv (.int v :: rest) M Q) : jJ Γ G Rf pc lv (rest) M Q := by
  subst hp
  obtain ⟨p, l, e, R, s, m, args, below, meth, c, nL, D, cy, ad, st, A, kc, ks⟩ := Γ
  obtain ⟨hx, hb, hml, hown, hts, hR, hlk, hrt, hK, hZ, hN, hA, hnl, hkc, hks⟩ := hC
  intro H locs ls hl hP hD hS
  exact lv_iconst hx hb hd hv (k H locs ls hl hP hD hS)

theorem j_bipush {Γ : jG} {G : List (Nat × Nat)} {Rf : Nat → Nat → Option Nat} {cc : ByteArray} {nl : Nat} {own : String} {ret : Option FieldType} {rm : Room} {pc pc' : Nat} {lv : List (Nat × Value)} {rest : List Value} {M : jM} {Q : State → Prop} {n : Int} {v : Int32} (hC : jOK Γ cc nl own ret rm) (hd : decode cc pc = .ok (.bipush n, 2)) (hp : pc + 2 = pc') (hv : (Int8.ofInt n).toInt32 = v) (k : jJ Γ G Rf pc' lv (.int v :: rest) M Q) : jJ Γ G Rf pc lv (rest) M Q := by
  subst hp
  obtain ⟨p, l, e, R, s, m, args, below, meth, c, nL, D, cy, ad, st, A, kc, ks⟩ := Γ
  obtain ⟨hx, hb, hml, hown, hts, hR, hlk, hrt, hK, hZ, hN, hA, hnl, hkc, hks⟩ := hC
  intro H locs ls hl hP hD hS
  exact lv_bipush hx hb hd hv (k H locs ls hl hP hD hS)

theorem j_sipush {Γ : jG} {G : List (Nat × Nat)} {Rf : Nat → Nat → Option Nat} {cc : ByteArray} {nl : Nat} {own : String} {ret : Option FieldType} {rm : Room} {pc pc' : Nat} {lv : List (Nat × Value)} {rest : List Value} {M : jM} {Q : State → Prop} {n : Int} {v : Int32} (hC : jOK Γ cc nl own ret rm) (hd : decode cc pc = .ok (.sipush n, 3)) (hp : pc + 3 = pc') (hv : (Int16.ofInt n).toInt32 = v) (k : jJ Γ G Rf pc' lv (.int v :: rest) M Q) : jJ Γ G Rf pc lv (rest) M Q := by
  subst hp
  obtain ⟨p, l, e, R, s, m, args, below, meth, c, nL, D, cy, ad, st, A, kc, ks⟩ := Γ
  obtain ⟨hx, hb, hml, hown, hts, hR, hlk, hrt, hK, hZ, hN, hA, hnl, hkc, hks⟩ := hC
  intro H locs ls hl hP hD hS
  exact lv_sipush hx hb hd hv (k H locs ls hl hP hD hS)

theorem j_lconst {Γ : jG} {G : List (Nat × Nat)} {Rf : Nat → Nat → Option Nat} {cc : ByteArray} {nl : Nat} {own : String} {ret : Option FieldType} {rm : Room} {pc pc' : Nat} {lv : List (Nat × Value)} {rest : List Value} {M : jM} {Q : State → Prop} {n : Fin 2} {v : Int64} (hC : jOK Γ cc nl own ret rm) (hd : decode cc pc = .ok (.lconst n, 1)) (hp : pc + 1 = pc') (hv : Int64.ofNat (n : Nat) = v) (k : jJ Γ G Rf pc' lv (.long v :: rest) M Q) : jJ Γ G Rf pc lv (rest) M Q := by
  subst hp
  obtain ⟨p, l, e, R, s, m, args, below, meth, c, nL, D, cy, ad, st, A, kc, ks⟩ := Γ
  obtain ⟨hx, hb, hml, hown, hts, hR, hlk, hrt, hK, hZ, hN, hA, hnl, hkc, hks⟩ := hC
  intro H locs ls hl hP hD hS
  exact lv_lconst hx hb hd hv (k H locs ls hl hP hD hS)

theorem j_ldc {Γ : jG} {G : List (Nat × Nat)} {Rf : Nat → Nat → Option Nat} {cc : ByteArray} {nl : Nat} {own : String} {ret : Option FieldType} {rm : Room} {pc pc' : Nat} {lv : List (Nat × Value)} {rest : List Value} {M : jM} {Q : State → Prop} {index : Nat} {v : Int32} (hC : jOK Γ cc nl own ret rm) (hd : decode cc pc = .ok (.ldc index, 2)) (hp : pc + 2 = pc') (hw : Cond.constant own index v ∈ jtb) (k : jJ Γ G Rf pc' lv (.int v :: rest) M Q) : jJ Γ G Rf pc lv (rest) M Q := by
  subst hp
  obtain ⟨p, l, e, R, s, m, args, below, meth, c, nL, D, cy, ad, st, A, kc, ks⟩ := Γ
  obtain ⟨hx, hb, hml, hown, hts, hR, hlk, hrt, hK, hZ, hN, hA, hnl, hkc, hks⟩ := hC
  intro H locs ls hl hP hD hS
  exact lv_ldc hx hb hown (hts _ hw) hd (k H locs ls hl hP hD hS)

theorem j_ldcw {Γ : jG} {G : List (Nat × Nat)} {Rf : Nat → Nat → Option Nat} {cc : ByteArray} {nl : Nat} {own : String} {ret : Option FieldType} {rm : Room} {pc pc' : Nat} {lv : List (Nat × Value)} {rest : List Value} {M : jM} {Q : State → Prop} {index : Nat} {v : Int32} (hC : jOK Γ cc nl own ret rm) (hd : decode cc pc = .ok (.ldc_w index, 3)) (hp : pc + 3 = pc') (hw : Cond.constant own index v ∈ jtb) (k : jJ Γ G Rf pc' lv (.int v :: rest) M Q) : jJ Γ G Rf pc lv (rest) M Q := by
  subst hp
  obtain ⟨p, l, e, R, s, m, args, below, meth, c, nL, D, cy, ad, st, A, kc, ks⟩ := Γ
  obtain ⟨hx, hb, hml, hown, hts, hR, hlk, hrt, hK, hZ, hN, hA, hnl, hkc, hks⟩ := hC
  intro H locs ls hl hP hD hS
  exact lv_ldcw hx hb hown (hts _ hw) hd (k H locs ls hl hP hD hS)

theorem j_ldc2 {Γ : jG} {G : List (Nat × Nat)} {Rf : Nat → Nat → Option Nat} {cc : ByteArray} {nl : Nat} {own : String} {ret : Option FieldType} {rm : Room} {pc pc' : Nat} {lv : List (Nat × Value)} {rest : List Value} {M : jM} {Q : State → Prop} {index : Nat} {v : Int64} (hC : jOK Γ cc nl own ret rm) (hd : decode cc pc = .ok (.ldc2_w index, 3)) (hp : pc + 3 = pc') (hw : Cond.constantLong own index v ∈ jtb) (k : jJ Γ G Rf pc' lv (.long v :: rest) M Q) : jJ Γ G Rf pc lv (rest) M Q := by
  subst hp
  obtain ⟨p, l, e, R, s, m, args, below, meth, c, nL, D, cy, ad, st, A, kc, ks⟩ := Γ
  obtain ⟨hx, hb, hml, hown, hts, hR, hlk, hrt, hK, hZ, hN, hA, hnl, hkc, hks⟩ := hC
  intro H locs ls hl hP hD hS
  exact lv_ldc2 hx hb hown (hts _ hw) hd (k H locs ls hl hP hD hS)

theorem j_iload {Γ : jG} {G : List (Nat × Nat)} {Rf : Nat → Nat → Option Nat} {cc : ByteArray} {nl : Nat} {own : String} {ret : Option FieldType} {rm : Room} {pc pc' : Nat} {lv : List (Nat × Value)} {rest : List Value} {M : jM} {Q : State → Prop} (q : Nat) {i : Nat} {x : Int32} (hC : jOK Γ cc nl own ret rm) (hd : decode cc pc = .ok (.iload i, 2)) (hp : pc + 2 = pc') (hq : lv[q]? = some (i, .int x)) (k : jJ Γ G Rf pc' lv (.int x :: rest) M Q) : jJ Γ G Rf pc lv (rest) M Q := by
  subst hp
  obtain ⟨p, l, e, R, s, m, args, below, meth, c, nL, D, cy, ad, st, A, kc, ks⟩ := Γ
  obtain ⟨hx, hb, hml, hown, hts, hR, hlk, hrt, hK, hZ, hN, hA, hnl, hkc, hks⟩ := hC
  intro H locs ls hl hP hD hS
  exact lv_iload hx hb hd (lv_at hl q hq) (k H locs ls hl hP hD hS)

theorem j_iload_n {Γ : jG} {G : List (Nat × Nat)} {Rf : Nat → Nat → Option Nat} {cc : ByteArray} {nl : Nat} {own : String} {ret : Option FieldType} {rm : Room} {pc pc' : Nat} {lv : List (Nat × Value)} {rest : List Value} {M : jM} {Q : State → Prop} (q : Nat) {f : Fin 4} {x : Int32} (hC : jOK Γ cc nl own ret rm) (hd : decode cc pc = .ok (.iload_n f, 1)) (hp : pc + 1 = pc') (hq : lv[q]? = some ((f : Nat), .int x)) (k : jJ Γ G Rf pc' lv (.int x :: rest) M Q) : jJ Γ G Rf pc lv (rest) M Q := by
  subst hp
  obtain ⟨p, l, e, R, s, m, args, below, meth, c, nL, D, cy, ad, st, A, kc, ks⟩ := Γ
  obtain ⟨hx, hb, hml, hown, hts, hR, hlk, hrt, hK, hZ, hN, hA, hnl, hkc, hks⟩ := hC
  intro H locs ls hl hP hD hS
  exact lv_iload_n hx hb hd rfl (lv_at hl q hq) (k H locs ls hl hP hD hS)

theorem j_lload {Γ : jG} {G : List (Nat × Nat)} {Rf : Nat → Nat → Option Nat} {cc : ByteArray} {nl : Nat} {own : String} {ret : Option FieldType} {rm : Room} {pc pc' : Nat} {lv : List (Nat × Value)} {rest : List Value} {M : jM} {Q : State → Prop} (q : Nat) {i : Nat} {x : Int64} (hC : jOK Γ cc nl own ret rm) (hd : decode cc pc = .ok (.lload i, 2)) (hp : pc + 2 = pc') (hq : lv[q]? = some (i, .long x)) (k : jJ Γ G Rf pc' lv (.long x :: rest) M Q) : jJ Γ G Rf pc lv (rest) M Q := by
  subst hp
  obtain ⟨p, l, e, R, s, m, args, below, meth, c, nL, D, cy, ad, st, A, kc, ks⟩ := Γ
  obtain ⟨hx, hb, hml, hown, hts, hR, hlk, hrt, hK, hZ, hN, hA, hnl, hkc, hks⟩ := hC
  intro H locs ls hl hP hD hS
  exact lv_lload hx hb hd (lv_at hl q hq) (k H locs ls hl hP hD hS)

theorem j_lload_n {Γ : jG} {G : List (Nat × Nat)} {Rf : Nat → Nat → Option Nat} {cc : ByteArray} {nl : Nat} {own : String} {ret : Option FieldType} {rm : Room} {pc pc' : Nat} {lv : List (Nat × Value)} {rest : List Value} {M : jM} {Q : State → Prop} (q : Nat) {f : Fin 4} {x : Int64} (hC : jOK Γ cc nl own ret rm) (hd : decode cc pc = .ok (.lload_n f, 1)) (hp : pc + 1 = pc') (hq : lv[q]? = some ((f : Nat), .long x)) (k : jJ Γ G Rf pc' lv (.long x :: rest) M Q) : jJ Γ G Rf pc lv (rest) M Q := by
  subst hp
  obtain ⟨p, l, e, R, s, m, args, below, meth, c, nL, D, cy, ad, st, A, kc, ks⟩ := Γ
  obtain ⟨hx, hb, hml, hown, hts, hR, hlk, hrt, hK, hZ, hN, hA, hnl, hkc, hks⟩ := hC
  intro H locs ls hl hP hD hS
  exact lv_lload_n hx hb hd rfl (lv_at hl q hq) (k H locs ls hl hP hD hS)

theorem j_aload {Γ : jG} {G : List (Nat × Nat)} {Rf : Nat → Nat → Option Nat} {cc : ByteArray} {nl : Nat} {own : String} {ret : Option FieldType} {rm : Room} {pc pc' : Nat} {lv : List (Nat × Value)} {rest : List Value} {M : jM} {Q : State → Prop} (q : Nat) {i a : Nat} (hC : jOK Γ cc nl own ret rm) (hd : decode cc pc = .ok (.aload i, 2)) (hp : pc + 2 = pc') (hq : lv[q]? = some (i, .ref a)) (k : jJ Γ G Rf pc' lv (.ref a :: rest) M Q) : jJ Γ G Rf pc lv (rest) M Q := by
  subst hp
  obtain ⟨p, l, e, R, s, m, args, below, meth, c, nL, D, cy, ad, st, A, kc, ks⟩ := Γ
  obtain ⟨hx, hb, hml, hown, hts, hR, hlk, hrt, hK, hZ, hN, hA, hnl, hkc, hks⟩ := hC
  intro H locs ls hl hP hD hS
  exact lv_aload hx hb hd (lv_at hl q hq) (k H locs ls hl hP hD hS)

theorem j_aload_n {Γ : jG} {G : List (Nat × Nat)} {Rf : Nat → Nat → Option Nat} {cc : ByteArray} {nl : Nat} {own : String} {ret : Option FieldType} {rm : Room} {pc pc' : Nat} {lv : List (Nat × Value)} {rest : List Value} {M : jM} {Q : State → Prop} (q : Nat) {f : Fin 4} {a : Nat} (hC : jOK Γ cc nl own ret rm) (hd : decode cc pc = .ok (.aload_n f, 1)) (hp : pc + 1 = pc') (hq : lv[q]? = some ((f : Nat), .ref a)) (k : jJ Γ G Rf pc' lv (.ref a :: rest) M Q) : jJ Γ G Rf pc lv (rest) M Q := by
  subst hp
  obtain ⟨p, l, e, R, s, m, args, below, meth, c, nL, D, cy, ad, st, A, kc, ks⟩ := Γ
  obtain ⟨hx, hb, hml, hown, hts, hR, hlk, hrt, hK, hZ, hN, hA, hnl, hkc, hks⟩ := hC
  intro H locs ls hl hP hD hS
  exact lv_aload_n hx hb hd rfl (lv_at hl q hq) (k H locs ls hl hP hD hS)

theorem j_istore {Γ : jG} {G : List (Nat × Nat)} {Rf : Nat → Nat → Option Nat} {cc : ByteArray} {nl : Nat} {own : String} {ret : Option FieldType} {rm : Room} {pc pc' : Nat} {lv : List (Nat × Value)} {rest : List Value} {M : jM} {Q : State → Prop} {i : Nat} {x v : Int32} {lv' : List (Nat × Value)} (hC : jOK Γ cc nl own ret rm) (hd : decode cc pc = .ok (.istore i, 2)) (hp : pc + 2 = pc') (hv : x = v) (hn : i < nl) (hlv : (i, Value.int v) :: lv.filter (fun q => !(q.1 == i) && !(q.1 + 1 == i && q.2.category == 2)) = lv') (k : jJ Γ G Rf pc' lv' rest M Q) : jJ Γ G Rf pc lv (.int x :: rest) M Q := by
  subst hp
  subst hv
  obtain ⟨p, l, e, R, s, m, args, below, meth, c, nL, D, cy, ad, st, A, kc, ks⟩ := Γ
  obtain ⟨hx, hb, hml, hown, hts, hR, hlk, hrt, hK, hZ, hN, hA, hnl, hkc, hks⟩ := hC
  intro H locs ls hl hP hD hS
  exact lv_istore hx hb hd hl (by rw [hnl]; exact hn) hlv (fun ls hl => k H locs ls hl hP hD hS)

theorem j_istore_n {Γ : jG} {G : List (Nat × Nat)} {Rf : Nat → Nat → Option Nat} {cc : ByteArray} {nl : Nat} {own : String} {ret : Option FieldType} {rm : Room} {pc pc' : Nat} {lv : List (Nat × Value)} {rest : List Value} {M : jM} {Q : State → Prop} {f : Fin 4} {x v : Int32} {lv' : List (Nat × Value)} (hC : jOK Γ cc nl own ret rm) (hd : decode cc pc = .ok (.istore_n f, 1)) (hp : pc + 1 = pc') (hv : x = v) (hn : (f : Nat) < nl) (hlv : ((f : Nat), Value.int v) :: lv.filter (fun q => !(q.1 == (f : Nat)) && !(q.1 + 1 == (f : Nat) && q.2.category == 2)) = lv') (k : jJ Γ G Rf pc' lv' rest M Q) : jJ Γ G Rf pc lv (.int x :: rest) M Q := by
  subst hp
  subst hv
  obtain ⟨p, l, e, R, s, m, args, below, meth, c, nL, D, cy, ad, st, A, kc, ks⟩ := Γ
  obtain ⟨hx, hb, hml, hown, hts, hR, hlk, hrt, hK, hZ, hN, hA, hnl, hkc, hks⟩ := hC
  intro H locs ls hl hP hD hS
  exact lv_istore_n hx hb hd rfl hl (by rw [hnl]; exact hn) hlv (fun ls hl => k H locs ls hl hP hD hS)

theorem j_lstore {Γ : jG} {G : List (Nat × Nat)} {Rf : Nat → Nat → Option Nat} {cc : ByteArray} {nl : Nat} {own : String} {ret : Option FieldType} {rm : Room} {pc pc' : Nat} {lv : List (Nat × Value)} {rest : List Value} {M : jM} {Q : State → Prop} {i : Nat} {x v : Int64} {lv' : List (Nat × Value)} (hC : jOK Γ cc nl own ret rm) (hd : decode cc pc = .ok (.lstore i, 2)) (hp : pc + 2 = pc') (hv : x = v) (hn : i + 1 < nl) (hlv : (i, Value.long v) :: lv.filter (fun q => !(q.1 == i) && (!(q.1 == i + 1) && !(q.1 + 1 == i && q.2.category == 2))) = lv') (k : jJ Γ G Rf pc' lv' rest M Q) : jJ Γ G Rf pc lv (.long x :: rest) M Q := by
  subst hp
  subst hv
  obtain ⟨p, l, e, R, s, m, args, below, meth, c, nL, D, cy, ad, st, A, kc, ks⟩ := Γ
  obtain ⟨hx, hb, hml, hown, hts, hR, hlk, hrt, hK, hZ, hN, hA, hnl, hkc, hks⟩ := hC
  intro H locs ls hl hP hD hS
  exact lv_lstore hx hb hd hl (by rw [hnl]; exact hn) hlv (fun ls hl => k H locs ls hl hP hD hS)

theorem j_lstore_n {Γ : jG} {G : List (Nat × Nat)} {Rf : Nat → Nat → Option Nat} {cc : ByteArray} {nl : Nat} {own : String} {ret : Option FieldType} {rm : Room} {pc pc' : Nat} {lv : List (Nat × Value)} {rest : List Value} {M : jM} {Q : State → Prop} {f : Fin 4} {x v : Int64} {lv' : List (Nat × Value)} (hC : jOK Γ cc nl own ret rm) (hd : decode cc pc = .ok (.lstore_n f, 1)) (hp : pc + 1 = pc') (hv : x = v) (hn : (f : Nat) + 1 < nl) (hlv : ((f : Nat), Value.long v) :: lv.filter (fun q => !(q.1 == (f : Nat)) && (!(q.1 == (f : Nat) + 1) && !(q.1 + 1 == (f : Nat) && q.2.category == 2))) = lv') (k : jJ Γ G Rf pc' lv' rest M Q) : jJ Γ G Rf pc lv (.long x :: rest) M Q := by
  subst hp
  subst hv
  obtain ⟨p, l, e, R, s, m, args, below, meth, c, nL, D, cy, ad, st, A, kc, ks⟩ := Γ
  obtain ⟨hx, hb, hml, hown, hts, hR, hlk, hrt, hK, hZ, hN, hA, hnl, hkc, hks⟩ := hC
  intro H locs ls hl hP hD hS
  exact lv_lstore_n hx hb hd rfl hl (by rw [hnl]; exact hn) hlv (fun ls hl => k H locs ls hl hP hD hS)

theorem j_astore {Γ : jG} {G : List (Nat × Nat)} {Rf : Nat → Nat → Option Nat} {cc : ByteArray} {nl : Nat} {own : String} {ret : Option FieldType} {rm : Room} {pc pc' : Nat} {lv : List (Nat × Value)} {rest : List Value} {M : jM} {Q : State → Prop} {i : Nat} {x : Nat} {lv' : List (Nat × Value)} (hC : jOK Γ cc nl own ret rm) (hd : decode cc pc = .ok (.astore i, 2)) (hp : pc + 2 = pc') (hn : i < nl) (hlv : (i, Value.ref x) :: lv.filter (fun q => !(q.1 == i) && !(q.1 + 1 == i && q.2.category == 2)) = lv') (k : jJ Γ G Rf pc' lv' rest M Q) : jJ Γ G Rf pc lv (.ref x :: rest) M Q := by
  subst hp
  obtain ⟨p, l, e, R, s, m, args, below, meth, c, nL, D, cy, ad, st, A, kc, ks⟩ := Γ
  obtain ⟨hx, hb, hml, hown, hts, hR, hlk, hrt, hK, hZ, hN, hA, hnl, hkc, hks⟩ := hC
  intro H locs ls hl hP hD hS
  exact lv_astore hx hb hd hl (by rw [hnl]; exact hn) hlv (fun ls hl => k H locs ls hl hP hD hS)

theorem j_astore_n {Γ : jG} {G : List (Nat × Nat)} {Rf : Nat → Nat → Option Nat} {cc : ByteArray} {nl : Nat} {own : String} {ret : Option FieldType} {rm : Room} {pc pc' : Nat} {lv : List (Nat × Value)} {rest : List Value} {M : jM} {Q : State → Prop} {f : Fin 4} {x : Nat} {lv' : List (Nat × Value)} (hC : jOK Γ cc nl own ret rm) (hd : decode cc pc = .ok (.astore_n f, 1)) (hp : pc + 1 = pc') (hn : (f : Nat) < nl) (hlv : ((f : Nat), Value.ref x) :: lv.filter (fun q => !(q.1 == (f : Nat)) && !(q.1 + 1 == (f : Nat) && q.2.category == 2)) = lv') (k : jJ Γ G Rf pc' lv' rest M Q) : jJ Γ G Rf pc lv (.ref x :: rest) M Q := by
  subst hp
  obtain ⟨p, l, e, R, s, m, args, below, meth, c, nL, D, cy, ad, st, A, kc, ks⟩ := Γ
  obtain ⟨hx, hb, hml, hown, hts, hR, hlk, hrt, hK, hZ, hN, hA, hnl, hkc, hks⟩ := hC
  intro H locs ls hl hP hD hS
  exact lv_astore_n hx hb hd rfl hl (by rw [hnl]; exact hn) hlv (fun ls hl => k H locs ls hl hP hD hS)

theorem j_iinc {Γ : jG} {G : List (Nat × Nat)} {Rf : Nat → Nat → Option Nat} {cc : ByteArray} {nl : Nat} {own : String} {ret : Option FieldType} {rm : Room} {pc pc' : Nat} {lv : List (Nat × Value)} {rest : List Value} {M : jM} {Q : State → Prop} {i : Nat} (q : Nat) {n : Int} {x v : Int32} {lv' : List (Nat × Value)} (hC : jOK Γ cc nl own ret rm) (hd : decode cc pc = .ok (.iinc i n, 3)) (hp : pc + 3 = pc') (hq : lv[q]? = some (i, .int x)) (hv : x + Int32.ofInt n = v) (hn : i < nl) (hlv : (i, Value.int v) :: lv.filter (fun q => !(q.1 == i) && !(q.1 + 1 == i && q.2.category == 2)) = lv') (k : jJ Γ G Rf pc' lv' rest M Q) : jJ Γ G Rf pc lv rest M Q := by
  subst hp
  obtain ⟨p, l, e, R, s, m, args, below, meth, c, nL, D, cy, ad, st, A, kc, ks⟩ := Γ
  obtain ⟨hx, hb, hml, hown, hts, hR, hlk, hrt, hK, hZ, hN, hA, hnl, hkc, hks⟩ := hC
  intro H locs ls hl hP hD hS
  exact lv_iinc hx hb hd hl hq hv (by rw [hnl]; exact hn) hlv (fun ls hl => k H locs ls hl hP hD hS)

theorem j_iadd {Γ : jG} {G : List (Nat × Nat)} {Rf : Nat → Nat → Option Nat} {cc : ByteArray} {nl : Nat} {own : String} {ret : Option FieldType} {rm : Room} {pc pc' : Nat} {lv : List (Nat × Value)} {rest : List Value} {M : jM} {Q : State → Prop} {x y : Int32} (hC : jOK Γ cc nl own ret rm) (hd : decode cc pc = .ok (.iadd, 1)) (hp : pc + 1 = pc')  (k : jJ Γ G Rf pc' lv (.int (x + y) :: rest) M Q) : jJ Γ G Rf pc lv (.int y :: .int x :: rest) M Q := by
  subst hp
  obtain ⟨p, l, e, R, s, m, args, below, meth, c, nL, D, cy, ad, st, A, kc, ks⟩ := Γ
  obtain ⟨hx, hb, hml, hown, hts, hR, hlk, hrt, hK, hZ, hN, hA, hnl, hkc, hks⟩ := hC
  intro H locs ls hl hP hD hS
  exact lv_iadd hx hb hd (k H locs ls hl hP hD hS)

theorem j_isub {Γ : jG} {G : List (Nat × Nat)} {Rf : Nat → Nat → Option Nat} {cc : ByteArray} {nl : Nat} {own : String} {ret : Option FieldType} {rm : Room} {pc pc' : Nat} {lv : List (Nat × Value)} {rest : List Value} {M : jM} {Q : State → Prop} {x y : Int32} (hC : jOK Γ cc nl own ret rm) (hd : decode cc pc = .ok (.isub, 1)) (hp : pc + 1 = pc')  (k : jJ Γ G Rf pc' lv (.int (x - y) :: rest) M Q) : jJ Γ G Rf pc lv (.int y :: .int x :: rest) M Q := by
  subst hp
  obtain ⟨p, l, e, R, s, m, args, below, meth, c, nL, D, cy, ad, st, A, kc, ks⟩ := Γ
  obtain ⟨hx, hb, hml, hown, hts, hR, hlk, hrt, hK, hZ, hN, hA, hnl, hkc, hks⟩ := hC
  intro H locs ls hl hP hD hS
  exact lv_isub hx hb hd (k H locs ls hl hP hD hS)

theorem j_imul {Γ : jG} {G : List (Nat × Nat)} {Rf : Nat → Nat → Option Nat} {cc : ByteArray} {nl : Nat} {own : String} {ret : Option FieldType} {rm : Room} {pc pc' : Nat} {lv : List (Nat × Value)} {rest : List Value} {M : jM} {Q : State → Prop} {x y : Int32} (hC : jOK Γ cc nl own ret rm) (hd : decode cc pc = .ok (.imul, 1)) (hp : pc + 1 = pc')  (k : jJ Γ G Rf pc' lv (.int (x * y) :: rest) M Q) : jJ Γ G Rf pc lv (.int y :: .int x :: rest) M Q := by
  subst hp
  obtain ⟨p, l, e, R, s, m, args, below, meth, c, nL, D, cy, ad, st, A, kc, ks⟩ := Γ
  obtain ⟨hx, hb, hml, hown, hts, hR, hlk, hrt, hK, hZ, hN, hA, hnl, hkc, hks⟩ := hC
  intro H locs ls hl hP hD hS
  exact lv_imul hx hb hd (k H locs ls hl hP hD hS)

theorem j_iand {Γ : jG} {G : List (Nat × Nat)} {Rf : Nat → Nat → Option Nat} {cc : ByteArray} {nl : Nat} {own : String} {ret : Option FieldType} {rm : Room} {pc pc' : Nat} {lv : List (Nat × Value)} {rest : List Value} {M : jM} {Q : State → Prop} {x y : Int32} (hC : jOK Γ cc nl own ret rm) (hd : decode cc pc = .ok (.iand, 1)) (hp : pc + 1 = pc')  (k : jJ Γ G Rf pc' lv (.int (x &&& y) :: rest) M Q) : jJ Γ G Rf pc lv (.int y :: .int x :: rest) M Q := by
  subst hp
  obtain ⟨p, l, e, R, s, m, args, below, meth, c, nL, D, cy, ad, st, A, kc, ks⟩ := Γ
  obtain ⟨hx, hb, hml, hown, hts, hR, hlk, hrt, hK, hZ, hN, hA, hnl, hkc, hks⟩ := hC
  intro H locs ls hl hP hD hS
  exact lv_iand hx hb hd (k H locs ls hl hP hD hS)

theorem j_ior {Γ : jG} {G : List (Nat × Nat)} {Rf : Nat → Nat → Option Nat} {cc : ByteArray} {nl : Nat} {own : String} {ret : Option FieldType} {rm : Room} {pc pc' : Nat} {lv : List (Nat × Value)} {rest : List Value} {M : jM} {Q : State → Prop} {x y : Int32} (hC : jOK Γ cc nl own ret rm) (hd : decode cc pc = .ok (.ior, 1)) (hp : pc + 1 = pc')  (k : jJ Γ G Rf pc' lv (.int (x ||| y) :: rest) M Q) : jJ Γ G Rf pc lv (.int y :: .int x :: rest) M Q := by
  subst hp
  obtain ⟨p, l, e, R, s, m, args, below, meth, c, nL, D, cy, ad, st, A, kc, ks⟩ := Γ
  obtain ⟨hx, hb, hml, hown, hts, hR, hlk, hrt, hK, hZ, hN, hA, hnl, hkc, hks⟩ := hC
  intro H locs ls hl hP hD hS
  exact lv_ior hx hb hd (k H locs ls hl hP hD hS)

theorem j_ixor {Γ : jG} {G : List (Nat × Nat)} {Rf : Nat → Nat → Option Nat} {cc : ByteArray} {nl : Nat} {own : String} {ret : Option FieldType} {rm : Room} {pc pc' : Nat} {lv : List (Nat × Value)} {rest : List Value} {M : jM} {Q : State → Prop} {x y : Int32} (hC : jOK Γ cc nl own ret rm) (hd : decode cc pc = .ok (.ixor, 1)) (hp : pc + 1 = pc')  (k : jJ Γ G Rf pc' lv (.int (x ^^^ y) :: rest) M Q) : jJ Γ G Rf pc lv (.int y :: .int x :: rest) M Q := by
  subst hp
  obtain ⟨p, l, e, R, s, m, args, below, meth, c, nL, D, cy, ad, st, A, kc, ks⟩ := Γ
  obtain ⟨hx, hb, hml, hown, hts, hR, hlk, hrt, hK, hZ, hN, hA, hnl, hkc, hks⟩ := hC
  intro H locs ls hl hP hD hS
  exact lv_ixor hx hb hd (k H locs ls hl hP hD hS)

theorem j_ishl {Γ : jG} {G : List (Nat × Nat)} {Rf : Nat → Nat → Option Nat} {cc : ByteArray} {nl : Nat} {own : String} {ret : Option FieldType} {rm : Room} {pc pc' : Nat} {lv : List (Nat × Value)} {rest : List Value} {M : jM} {Q : State → Prop} {x y : Int32} (hC : jOK Γ cc nl own ret rm) (hd : decode cc pc = .ok (.ishl, 1)) (hp : pc + 1 = pc')  (k : jJ Γ G Rf pc' lv (.int (x <<< (y &&& 31)) :: rest) M Q) : jJ Γ G Rf pc lv (.int y :: .int x :: rest) M Q := by
  subst hp
  obtain ⟨p, l, e, R, s, m, args, below, meth, c, nL, D, cy, ad, st, A, kc, ks⟩ := Γ
  obtain ⟨hx, hb, hml, hown, hts, hR, hlk, hrt, hK, hZ, hN, hA, hnl, hkc, hks⟩ := hC
  intro H locs ls hl hP hD hS
  exact lv_ishl hx hb hd (k H locs ls hl hP hD hS)

theorem j_ishr {Γ : jG} {G : List (Nat × Nat)} {Rf : Nat → Nat → Option Nat} {cc : ByteArray} {nl : Nat} {own : String} {ret : Option FieldType} {rm : Room} {pc pc' : Nat} {lv : List (Nat × Value)} {rest : List Value} {M : jM} {Q : State → Prop} {x y : Int32} (hC : jOK Γ cc nl own ret rm) (hd : decode cc pc = .ok (.ishr, 1)) (hp : pc + 1 = pc')  (k : jJ Γ G Rf pc' lv (.int (x >>> (y &&& 31)) :: rest) M Q) : jJ Γ G Rf pc lv (.int y :: .int x :: rest) M Q := by
  subst hp
  obtain ⟨p, l, e, R, s, m, args, below, meth, c, nL, D, cy, ad, st, A, kc, ks⟩ := Γ
  obtain ⟨hx, hb, hml, hown, hts, hR, hlk, hrt, hK, hZ, hN, hA, hnl, hkc, hks⟩ := hC
  intro H locs ls hl hP hD hS
  exact lv_ishr hx hb hd (k H locs ls hl hP hD hS)

theorem j_iushr {Γ : jG} {G : List (Nat × Nat)} {Rf : Nat → Nat → Option Nat} {cc : ByteArray} {nl : Nat} {own : String} {ret : Option FieldType} {rm : Room} {pc pc' : Nat} {lv : List (Nat × Value)} {rest : List Value} {M : jM} {Q : State → Prop} {x y : Int32} (hC : jOK Γ cc nl own ret rm) (hd : decode cc pc = .ok (.iushr, 1)) (hp : pc + 1 = pc')  (k : jJ Γ G Rf pc' lv (.int (x.toUInt32 >>> (y.toUInt32 &&& Int32.toUInt32 31)).toInt32 :: rest) M Q) : jJ Γ G Rf pc lv (.int y :: .int x :: rest) M Q := by
  subst hp
  obtain ⟨p, l, e, R, s, m, args, below, meth, c, nL, D, cy, ad, st, A, kc, ks⟩ := Γ
  obtain ⟨hx, hb, hml, hown, hts, hR, hlk, hrt, hK, hZ, hN, hA, hnl, hkc, hks⟩ := hC
  intro H locs ls hl hP hD hS
  exact lv_iushr hx hb hd rfl (k H locs ls hl hP hD hS)

theorem j_idiv {Γ : jG} {G : List (Nat × Nat)} {Rf : Nat → Nat → Option Nat} {cc : ByteArray} {nl : Nat} {own : String} {ret : Option FieldType} {rm : Room} {pc pc' : Nat} {lv : List (Nat × Value)} {rest : List Value} {M : jM} {Q : State → Prop} {x y : Int32} (hC : jOK Γ cc nl own ret rm) (hd : decode cc pc = .ok (.idiv, 1)) (hp : pc + 1 = pc') (hne : ¬ y = 0) (k : jJ Γ G Rf pc' lv (.int (x / y) :: rest) M Q) : jJ Γ G Rf pc lv (.int y :: .int x :: rest) M Q := by
  subst hp
  obtain ⟨p, l, e, R, s, m, args, below, meth, c, nL, D, cy, ad, st, A, kc, ks⟩ := Γ
  obtain ⟨hx, hb, hml, hown, hts, hR, hlk, hrt, hK, hZ, hN, hA, hnl, hkc, hks⟩ := hC
  intro H locs ls hl hP hD hS
  exact lv_idiv hx hb hd hne (k H locs ls hl hP hD hS)

theorem j_irem {Γ : jG} {G : List (Nat × Nat)} {Rf : Nat → Nat → Option Nat} {cc : ByteArray} {nl : Nat} {own : String} {ret : Option FieldType} {rm : Room} {pc pc' : Nat} {lv : List (Nat × Value)} {rest : List Value} {M : jM} {Q : State → Prop} {x y : Int32} (hC : jOK Γ cc nl own ret rm) (hd : decode cc pc = .ok (.irem, 1)) (hp : pc + 1 = pc') (hne : ¬ y = 0) (k : jJ Γ G Rf pc' lv (.int (x - x / y * y) :: rest) M Q) : jJ Γ G Rf pc lv (.int y :: .int x :: rest) M Q := by
  subst hp
  obtain ⟨p, l, e, R, s, m, args, below, meth, c, nL, D, cy, ad, st, A, kc, ks⟩ := Γ
  obtain ⟨hx, hb, hml, hown, hts, hR, hlk, hrt, hK, hZ, hN, hA, hnl, hkc, hks⟩ := hC
  intro H locs ls hl hP hD hS
  exact lv_irem hx hb hd hne (k H locs ls hl hP hD hS)

theorem j_ineg {Γ : jG} {G : List (Nat × Nat)} {Rf : Nat → Nat → Option Nat} {cc : ByteArray} {nl : Nat} {own : String} {ret : Option FieldType} {rm : Room} {pc pc' : Nat} {lv : List (Nat × Value)} {rest : List Value} {M : jM} {Q : State → Prop} {x : Int32} (hC : jOK Γ cc nl own ret rm) (hd : decode cc pc = .ok (.ineg, 1)) (hp : pc + 1 = pc')  (k : jJ Γ G Rf pc' lv (.int (-x) :: rest) M Q) : jJ Γ G Rf pc lv (.int x :: rest) M Q := by
  subst hp
  obtain ⟨p, l, e, R, s, m, args, below, meth, c, nL, D, cy, ad, st, A, kc, ks⟩ := Γ
  obtain ⟨hx, hb, hml, hown, hts, hR, hlk, hrt, hK, hZ, hN, hA, hnl, hkc, hks⟩ := hC
  intro H locs ls hl hP hD hS
  exact lv_ineg hx hb hd (k H locs ls hl hP hD hS)

theorem j_ladd {Γ : jG} {G : List (Nat × Nat)} {Rf : Nat → Nat → Option Nat} {cc : ByteArray} {nl : Nat} {own : String} {ret : Option FieldType} {rm : Room} {pc pc' : Nat} {lv : List (Nat × Value)} {rest : List Value} {M : jM} {Q : State → Prop} {x y : Int64} (hC : jOK Γ cc nl own ret rm) (hd : decode cc pc = .ok (.ladd, 1)) (hp : pc + 1 = pc')  (k : jJ Γ G Rf pc' lv (.long (x + y) :: rest) M Q) : jJ Γ G Rf pc lv (.long y :: .long x :: rest) M Q := by
  subst hp
  obtain ⟨p, l, e, R, s, m, args, below, meth, c, nL, D, cy, ad, st, A, kc, ks⟩ := Γ
  obtain ⟨hx, hb, hml, hown, hts, hR, hlk, hrt, hK, hZ, hN, hA, hnl, hkc, hks⟩ := hC
  intro H locs ls hl hP hD hS
  exact lv_ladd hx hb hd (k H locs ls hl hP hD hS)

theorem j_lsub {Γ : jG} {G : List (Nat × Nat)} {Rf : Nat → Nat → Option Nat} {cc : ByteArray} {nl : Nat} {own : String} {ret : Option FieldType} {rm : Room} {pc pc' : Nat} {lv : List (Nat × Value)} {rest : List Value} {M : jM} {Q : State → Prop} {x y : Int64} (hC : jOK Γ cc nl own ret rm) (hd : decode cc pc = .ok (.lsub, 1)) (hp : pc + 1 = pc')  (k : jJ Γ G Rf pc' lv (.long (x - y) :: rest) M Q) : jJ Γ G Rf pc lv (.long y :: .long x :: rest) M Q := by
  subst hp
  obtain ⟨p, l, e, R, s, m, args, below, meth, c, nL, D, cy, ad, st, A, kc, ks⟩ := Γ
  obtain ⟨hx, hb, hml, hown, hts, hR, hlk, hrt, hK, hZ, hN, hA, hnl, hkc, hks⟩ := hC
  intro H locs ls hl hP hD hS
  exact lv_lsub hx hb hd (k H locs ls hl hP hD hS)

theorem j_lmul {Γ : jG} {G : List (Nat × Nat)} {Rf : Nat → Nat → Option Nat} {cc : ByteArray} {nl : Nat} {own : String} {ret : Option FieldType} {rm : Room} {pc pc' : Nat} {lv : List (Nat × Value)} {rest : List Value} {M : jM} {Q : State → Prop} {x y : Int64} (hC : jOK Γ cc nl own ret rm) (hd : decode cc pc = .ok (.lmul, 1)) (hp : pc + 1 = pc')  (k : jJ Γ G Rf pc' lv (.long (x * y) :: rest) M Q) : jJ Γ G Rf pc lv (.long y :: .long x :: rest) M Q := by
  subst hp
  obtain ⟨p, l, e, R, s, m, args, below, meth, c, nL, D, cy, ad, st, A, kc, ks⟩ := Γ
  obtain ⟨hx, hb, hml, hown, hts, hR, hlk, hrt, hK, hZ, hN, hA, hnl, hkc, hks⟩ := hC
  intro H locs ls hl hP hD hS
  exact lv_lmul hx hb hd (k H locs ls hl hP hD hS)

theorem j_land {Γ : jG} {G : List (Nat × Nat)} {Rf : Nat → Nat → Option Nat} {cc : ByteArray} {nl : Nat} {own : String} {ret : Option FieldType} {rm : Room} {pc pc' : Nat} {lv : List (Nat × Value)} {rest : List Value} {M : jM} {Q : State → Prop} {x y : Int64} (hC : jOK Γ cc nl own ret rm) (hd : decode cc pc = .ok (.land, 1)) (hp : pc + 1 = pc')  (k : jJ Γ G Rf pc' lv (.long (x &&& y) :: rest) M Q) : jJ Γ G Rf pc lv (.long y :: .long x :: rest) M Q := by
  subst hp
  obtain ⟨p, l, e, R, s, m, args, below, meth, c, nL, D, cy, ad, st, A, kc, ks⟩ := Γ
  obtain ⟨hx, hb, hml, hown, hts, hR, hlk, hrt, hK, hZ, hN, hA, hnl, hkc, hks⟩ := hC
  intro H locs ls hl hP hD hS
  exact lv_land hx hb hd (k H locs ls hl hP hD hS)

theorem j_lor {Γ : jG} {G : List (Nat × Nat)} {Rf : Nat → Nat → Option Nat} {cc : ByteArray} {nl : Nat} {own : String} {ret : Option FieldType} {rm : Room} {pc pc' : Nat} {lv : List (Nat × Value)} {rest : List Value} {M : jM} {Q : State → Prop} {x y : Int64} (hC : jOK Γ cc nl own ret rm) (hd : decode cc pc = .ok (.lor, 1)) (hp : pc + 1 = pc')  (k : jJ Γ G Rf pc' lv (.long (x ||| y) :: rest) M Q) : jJ Γ G Rf pc lv (.long y :: .long x :: rest) M Q := by
  subst hp
  obtain ⟨p, l, e, R, s, m, args, below, meth, c, nL, D, cy, ad, st, A, kc, ks⟩ := Γ
  obtain ⟨hx, hb, hml, hown, hts, hR, hlk, hrt, hK, hZ, hN, hA, hnl, hkc, hks⟩ := hC
  intro H locs ls hl hP hD hS
  exact lv_lor hx hb hd (k H locs ls hl hP hD hS)

theorem j_ldiv {Γ : jG} {G : List (Nat × Nat)} {Rf : Nat → Nat → Option Nat} {cc : ByteArray} {nl : Nat} {own : String} {ret : Option FieldType} {rm : Room} {pc pc' : Nat} {lv : List (Nat × Value)} {rest : List Value} {M : jM} {Q : State → Prop} {x y : Int64} (hC : jOK Γ cc nl own ret rm) (hd : decode cc pc = .ok (.ldiv, 1)) (hp : pc + 1 = pc') (hne : ¬ y = 0) (k : jJ Γ G Rf pc' lv (.long (x / y) :: rest) M Q) : jJ Γ G Rf pc lv (.long y :: .long x :: rest) M Q := by
  subst hp
  obtain ⟨p, l, e, R, s, m, args, below, meth, c, nL, D, cy, ad, st, A, kc, ks⟩ := Γ
  obtain ⟨hx, hb, hml, hown, hts, hR, hlk, hrt, hK, hZ, hN, hA, hnl, hkc, hks⟩ := hC
  intro H locs ls hl hP hD hS
  exact lv_ldiv hx hb hd hne (k H locs ls hl hP hD hS)

theorem j_lrem {Γ : jG} {G : List (Nat × Nat)} {Rf : Nat → Nat → Option Nat} {cc : ByteArray} {nl : Nat} {own : String} {ret : Option FieldType} {rm : Room} {pc pc' : Nat} {lv : List (Nat × Value)} {rest : List Value} {M : jM} {Q : State → Prop} {x y : Int64} (hC : jOK Γ cc nl own ret rm) (hd : decode cc pc = .ok (.lrem, 1)) (hp : pc + 1 = pc') (hne : ¬ y = 0) (k : jJ Γ G Rf pc' lv (.long (x - x / y * y) :: rest) M Q) : jJ Γ G Rf pc lv (.long y :: .long x :: rest) M Q := by
  subst hp
  obtain ⟨p, l, e, R, s, m, args, below, meth, c, nL, D, cy, ad, st, A, kc, ks⟩ := Γ
  obtain ⟨hx, hb, hml, hown, hts, hR, hlk, hrt, hK, hZ, hN, hA, hnl, hkc, hks⟩ := hC
  intro H locs ls hl hP hD hS
  exact lv_lrem hx hb hd hne (k H locs ls hl hP hD hS)

theorem j_lshl {Γ : jG} {G : List (Nat × Nat)} {Rf : Nat → Nat → Option Nat} {cc : ByteArray} {nl : Nat} {own : String} {ret : Option FieldType} {rm : Room} {pc pc' : Nat} {lv : List (Nat × Value)} {rest : List Value} {M : jM} {Q : State → Prop} {x : Int64} {y : Int32} (hC : jOK Γ cc nl own ret rm) (hd : decode cc pc = .ok (.lshl, 1)) (hp : pc + 1 = pc')  (k : jJ Γ G Rf pc' lv (.long (x <<< (y.toInt64 &&& 63)) :: rest) M Q) : jJ Γ G Rf pc lv (.int y :: .long x :: rest) M Q := by
  subst hp
  obtain ⟨p, l, e, R, s, m, args, below, meth, c, nL, D, cy, ad, st, A, kc, ks⟩ := Γ
  obtain ⟨hx, hb, hml, hown, hts, hR, hlk, hrt, hK, hZ, hN, hA, hnl, hkc, hks⟩ := hC
  intro H locs ls hl hP hD hS
  exact lv_lshl hx hb hd rfl (k H locs ls hl hP hD hS)

theorem j_lushr {Γ : jG} {G : List (Nat × Nat)} {Rf : Nat → Nat → Option Nat} {cc : ByteArray} {nl : Nat} {own : String} {ret : Option FieldType} {rm : Room} {pc pc' : Nat} {lv : List (Nat × Value)} {rest : List Value} {M : jM} {Q : State → Prop} {x : Int64} {y : Int32} (hC : jOK Γ cc nl own ret rm) (hd : decode cc pc = .ok (.lushr, 1)) (hp : pc + 1 = pc')  (k : jJ Γ G Rf pc' lv (.long (x.toUInt64 >>> (y.toInt64.toUInt64 &&& Int64.toUInt64 63)).toInt64 :: rest) M Q) : jJ Γ G Rf pc lv (.int y :: .long x :: rest) M Q := by
  subst hp
  obtain ⟨p, l, e, R, s, m, args, below, meth, c, nL, D, cy, ad, st, A, kc, ks⟩ := Γ
  obtain ⟨hx, hb, hml, hown, hts, hR, hlk, hrt, hK, hZ, hN, hA, hnl, hkc, hks⟩ := hC
  intro H locs ls hl hP hD hS
  exact lv_lushr hx hb hd rfl (k H locs ls hl hP hD hS)

theorem j_i2l {Γ : jG} {G : List (Nat × Nat)} {Rf : Nat → Nat → Option Nat} {cc : ByteArray} {nl : Nat} {own : String} {ret : Option FieldType} {rm : Room} {pc pc' : Nat} {lv : List (Nat × Value)} {rest : List Value} {M : jM} {Q : State → Prop} {x : Int32} (hC : jOK Γ cc nl own ret rm) (hd : decode cc pc = .ok (.i2l, 1)) (hp : pc + 1 = pc')  (k : jJ Γ G Rf pc' lv (.long x.toInt64 :: rest) M Q) : jJ Γ G Rf pc lv (.int x :: rest) M Q := by
  subst hp
  obtain ⟨p, l, e, R, s, m, args, below, meth, c, nL, D, cy, ad, st, A, kc, ks⟩ := Γ
  obtain ⟨hx, hb, hml, hown, hts, hR, hlk, hrt, hK, hZ, hN, hA, hnl, hkc, hks⟩ := hC
  intro H locs ls hl hP hD hS
  exact lv_i2l hx hb hd rfl (k H locs ls hl hP hD hS)

theorem j_l2i {Γ : jG} {G : List (Nat × Nat)} {Rf : Nat → Nat → Option Nat} {cc : ByteArray} {nl : Nat} {own : String} {ret : Option FieldType} {rm : Room} {pc pc' : Nat} {lv : List (Nat × Value)} {rest : List Value} {M : jM} {Q : State → Prop} {x : Int64} (hC : jOK Γ cc nl own ret rm) (hd : decode cc pc = .ok (.l2i, 1)) (hp : pc + 1 = pc')  (k : jJ Γ G Rf pc' lv (.int x.toInt32 :: rest) M Q) : jJ Γ G Rf pc lv (.long x :: rest) M Q := by
  subst hp
  obtain ⟨p, l, e, R, s, m, args, below, meth, c, nL, D, cy, ad, st, A, kc, ks⟩ := Γ
  obtain ⟨hx, hb, hml, hown, hts, hR, hlk, hrt, hK, hZ, hN, hA, hnl, hkc, hks⟩ := hC
  intro H locs ls hl hP hD hS
  exact lv_l2i hx hb hd rfl (k H locs ls hl hP hD hS)

theorem j_i2b {Γ : jG} {G : List (Nat × Nat)} {Rf : Nat → Nat → Option Nat} {cc : ByteArray} {nl : Nat} {own : String} {ret : Option FieldType} {rm : Room} {pc pc' : Nat} {lv : List (Nat × Value)} {rest : List Value} {M : jM} {Q : State → Prop} {x : Int32} (hC : jOK Γ cc nl own ret rm) (hd : decode cc pc = .ok (.i2b, 1)) (hp : pc + 1 = pc')  (k : jJ Γ G Rf pc' lv (.int x.toInt8.toInt32 :: rest) M Q) : jJ Γ G Rf pc lv (.int x :: rest) M Q := by
  subst hp
  obtain ⟨p, l, e, R, s, m, args, below, meth, c, nL, D, cy, ad, st, A, kc, ks⟩ := Γ
  obtain ⟨hx, hb, hml, hown, hts, hR, hlk, hrt, hK, hZ, hN, hA, hnl, hkc, hks⟩ := hC
  intro H locs ls hl hP hD hS
  exact lv_i2b hx hb hd rfl (k H locs ls hl hP hD hS)

theorem j_lcmp {Γ : jG} {G : List (Nat × Nat)} {Rf : Nat → Nat → Option Nat} {cc : ByteArray} {nl : Nat} {own : String} {ret : Option FieldType} {rm : Room} {pc pc' : Nat} {lv : List (Nat × Value)} {rest : List Value} {M : jM} {Q : State → Prop} {x y : Int64} (hC : jOK Γ cc nl own ret rm) (hd : decode cc pc = .ok (.lcmp, 1)) (hp : pc + 1 = pc')  (k : jJ Γ G Rf pc' lv (.int (lg_cmp x y) :: rest) M Q) : jJ Γ G Rf pc lv (.long y :: .long x :: rest) M Q := by
  subst hp
  obtain ⟨p, l, e, R, s, m, args, below, meth, c, nL, D, cy, ad, st, A, kc, ks⟩ := Γ
  obtain ⟨hx, hb, hml, hown, hts, hR, hlk, hrt, hK, hZ, hN, hA, hnl, hkc, hks⟩ := hC
  intro H locs ls hl hP hD hS
  exact W.lcmp hx hb hd (k H locs ls hl hP hD hS)

theorem j_dup {Γ : jG} {G : List (Nat × Nat)} {Rf : Nat → Nat → Option Nat} {cc : ByteArray} {nl : Nat} {own : String} {ret : Option FieldType} {rm : Room} {pc pc' : Nat} {lv : List (Nat × Value)} {rest : List Value} {M : jM} {Q : State → Prop} {v : Value} (hC : jOK Γ cc nl own ret rm) (hd : decode cc pc = .ok (.dup, 1)) (hp : pc + 1 = pc') (hv : v.category = 1) (k : jJ Γ G Rf pc' lv (v :: v :: rest) M Q) : jJ Γ G Rf pc lv (v :: rest) M Q := by
  subst hp
  obtain ⟨p, l, e, R, s, m, args, below, meth, c, nL, D, cy, ad, st, A, kc, ks⟩ := Γ
  obtain ⟨hx, hb, hml, hown, hts, hR, hlk, hrt, hK, hZ, hN, hA, hnl, hkc, hks⟩ := hC
  intro H locs ls hl hP hD hS
  exact lv_dup hx hb hd hv (k H locs ls hl hP hD hS)

theorem j_pop {Γ : jG} {G : List (Nat × Nat)} {Rf : Nat → Nat → Option Nat} {cc : ByteArray} {nl : Nat} {own : String} {ret : Option FieldType} {rm : Room} {pc pc' : Nat} {lv : List (Nat × Value)} {rest : List Value} {M : jM} {Q : State → Prop} {v : Value} (hC : jOK Γ cc nl own ret rm) (hd : decode cc pc = .ok (.pop, 1)) (hp : pc + 1 = pc') (hv : v.category = 1) (k : jJ Γ G Rf pc' lv (rest) M Q) : jJ Γ G Rf pc lv (v :: rest) M Q := by
  subst hp
  obtain ⟨p, l, e, R, s, m, args, below, meth, c, nL, D, cy, ad, st, A, kc, ks⟩ := Γ
  obtain ⟨hx, hb, hml, hown, hts, hR, hlk, hrt, hK, hZ, hN, hA, hnl, hkc, hks⟩ := hC
  intro H locs ls hl hP hD hS
  exact lv_pop hx hb hd hv (k H locs ls hl hP hD hS)

theorem j_dup2 {Γ : jG} {G : List (Nat × Nat)} {Rf : Nat → Nat → Option Nat} {cc : ByteArray} {nl : Nat} {own : String} {ret : Option FieldType} {rm : Room} {pc pc' : Nat} {lv : List (Nat × Value)} {rest : List Value} {M : jM} {Q : State → Prop} {v w : Value} (hC : jOK Γ cc nl own ret rm) (hd : decode cc pc = .ok (.dup2, 1)) (hp : pc + 1 = pc') (hv : v.category = 1) (hw : w.category = 1) (k : jJ Γ G Rf pc' lv (v :: w :: v :: w :: rest) M Q) : jJ Γ G Rf pc lv (v :: w :: rest) M Q := by
  subst hp
  obtain ⟨p, l, e, R, s, m, args, below, meth, c, nL, D, cy, ad, st, A, kc, ks⟩ := Γ
  obtain ⟨hx, hb, hml, hown, hts, hR, hlk, hrt, hK, hZ, hN, hA, hnl, hkc, hks⟩ := hC
  intro H locs ls hl hP hD hS
  exact lv_dup2_11 hx hb hd hv hw (k H locs ls hl hP hD hS)

theorem j_dup_x1 {Γ : jG} {G : List (Nat × Nat)} {Rf : Nat → Nat → Option Nat} {cc : ByteArray} {nl : Nat} {own : String} {ret : Option FieldType} {rm : Room} {pc pc' : Nat} {lv : List (Nat × Value)} {rest : List Value} {M : jM} {Q : State → Prop} {v w : Value} (hC : jOK Γ cc nl own ret rm) (hd : decode cc pc = .ok (.dup_x1, 1)) (hp : pc + 1 = pc') (hv : v.category = 1) (hw : w.category = 1) (k : jJ Γ G Rf pc' lv (v :: w :: v :: rest) M Q) : jJ Γ G Rf pc lv (v :: w :: rest) M Q := by
  subst hp
  obtain ⟨p, l, e, R, s, m, args, below, meth, c, nL, D, cy, ad, st, A, kc, ks⟩ := Γ
  obtain ⟨hx, hb, hml, hown, hts, hR, hlk, hrt, hK, hZ, hN, hA, hnl, hkc, hks⟩ := hC
  intro H locs ls hl hP hD hS
  exact lv_dup_x1 hx hb hd hv hw (k H locs ls hl hP hD hS)

theorem j_if_eq {Γ : jG} {G : List (Nat × Nat)} {Rf : Nat → Nat → Option Nat} {cc : ByteArray} {nl : Nat} {own : String} {ret : Option FieldType} {rm : Room} {pc pc' : Nat} {lv : List (Nat × Value)} {rest : List Value} {M : jM} {Q : State → Prop} {x : Int32} {off : Int} {tgt : Nat} (hC : jOK Γ cc nl own ret rm) (hd : decode cc pc = .ok (.ifCond .eq off, 3)) (ht : (pc : Int) + off = (tgt : Int)) (hp : pc + 3 = pc') (kt : x = 0 → jJ Γ G Rf tgt lv rest M Q) (kf : ¬ x = 0 → jJ Γ G Rf pc' lv rest M Q) : jJ Γ G Rf pc lv (.int x :: rest) M Q := by
  subst hp
  obtain ⟨p, l, e, R, s, m, args, below, meth, c, nL, D, cy, ad, st, A, kc, ks⟩ := Γ
  obtain ⟨hx, hb, hml, hown, hts, hR, hlk, hrt, hK, hZ, hN, hA, hnl, hkc, hks⟩ := hC
  intro H locs ls hl hP hD hS
  exact lv_if_eq hx hb hd ht (fun h => kt h H locs ls hl hP hD hS) (fun h => kf h H locs ls hl hP hD hS)

theorem j_if_ne {Γ : jG} {G : List (Nat × Nat)} {Rf : Nat → Nat → Option Nat} {cc : ByteArray} {nl : Nat} {own : String} {ret : Option FieldType} {rm : Room} {pc pc' : Nat} {lv : List (Nat × Value)} {rest : List Value} {M : jM} {Q : State → Prop} {x : Int32} {off : Int} {tgt : Nat} (hC : jOK Γ cc nl own ret rm) (hd : decode cc pc = .ok (.ifCond .ne off, 3)) (ht : (pc : Int) + off = (tgt : Int)) (hp : pc + 3 = pc') (kt : ¬ x = 0 → jJ Γ G Rf tgt lv rest M Q) (kf : x = 0 → jJ Γ G Rf pc' lv rest M Q) : jJ Γ G Rf pc lv (.int x :: rest) M Q := by
  subst hp
  obtain ⟨p, l, e, R, s, m, args, below, meth, c, nL, D, cy, ad, st, A, kc, ks⟩ := Γ
  obtain ⟨hx, hb, hml, hown, hts, hR, hlk, hrt, hK, hZ, hN, hA, hnl, hkc, hks⟩ := hC
  intro H locs ls hl hP hD hS
  exact lv_if_ne hx hb hd ht (fun h => kt h H locs ls hl hP hD hS) (fun h => kf h H locs ls hl hP hD hS)

theorem j_if_lt {Γ : jG} {G : List (Nat × Nat)} {Rf : Nat → Nat → Option Nat} {cc : ByteArray} {nl : Nat} {own : String} {ret : Option FieldType} {rm : Room} {pc pc' : Nat} {lv : List (Nat × Value)} {rest : List Value} {M : jM} {Q : State → Prop} {x : Int32} {off : Int} {tgt : Nat} (hC : jOK Γ cc nl own ret rm) (hd : decode cc pc = .ok (.ifCond .lt off, 3)) (ht : (pc : Int) + off = (tgt : Int)) (hp : pc + 3 = pc') (kt : x < 0 → jJ Γ G Rf tgt lv rest M Q) (kf : ¬ x < 0 → jJ Γ G Rf pc' lv rest M Q) : jJ Γ G Rf pc lv (.int x :: rest) M Q := by
  subst hp
  obtain ⟨p, l, e, R, s, m, args, below, meth, c, nL, D, cy, ad, st, A, kc, ks⟩ := Γ
  obtain ⟨hx, hb, hml, hown, hts, hR, hlk, hrt, hK, hZ, hN, hA, hnl, hkc, hks⟩ := hC
  intro H locs ls hl hP hD hS
  exact lv_if_lt hx hb hd ht (fun h => kt h H locs ls hl hP hD hS) (fun h => kf h H locs ls hl hP hD hS)

theorem j_if_ge {Γ : jG} {G : List (Nat × Nat)} {Rf : Nat → Nat → Option Nat} {cc : ByteArray} {nl : Nat} {own : String} {ret : Option FieldType} {rm : Room} {pc pc' : Nat} {lv : List (Nat × Value)} {rest : List Value} {M : jM} {Q : State → Prop} {x : Int32} {off : Int} {tgt : Nat} (hC : jOK Γ cc nl own ret rm) (hd : decode cc pc = .ok (.ifCond .ge off, 3)) (ht : (pc : Int) + off = (tgt : Int)) (hp : pc + 3 = pc') (kt : 0 ≤ x → jJ Γ G Rf tgt lv rest M Q) (kf : ¬ 0 ≤ x → jJ Γ G Rf pc' lv rest M Q) : jJ Γ G Rf pc lv (.int x :: rest) M Q := by
  subst hp
  obtain ⟨p, l, e, R, s, m, args, below, meth, c, nL, D, cy, ad, st, A, kc, ks⟩ := Γ
  obtain ⟨hx, hb, hml, hown, hts, hR, hlk, hrt, hK, hZ, hN, hA, hnl, hkc, hks⟩ := hC
  intro H locs ls hl hP hD hS
  exact lv_if_ge hx hb hd ht (fun h => kt h H locs ls hl hP hD hS) (fun h => kf h H locs ls hl hP hD hS)

theorem j_if_gt {Γ : jG} {G : List (Nat × Nat)} {Rf : Nat → Nat → Option Nat} {cc : ByteArray} {nl : Nat} {own : String} {ret : Option FieldType} {rm : Room} {pc pc' : Nat} {lv : List (Nat × Value)} {rest : List Value} {M : jM} {Q : State → Prop} {x : Int32} {off : Int} {tgt : Nat} (hC : jOK Γ cc nl own ret rm) (hd : decode cc pc = .ok (.ifCond .gt off, 3)) (ht : (pc : Int) + off = (tgt : Int)) (hp : pc + 3 = pc') (kt : 0 < x → jJ Γ G Rf tgt lv rest M Q) (kf : ¬ 0 < x → jJ Γ G Rf pc' lv rest M Q) : jJ Γ G Rf pc lv (.int x :: rest) M Q := by
  subst hp
  obtain ⟨p, l, e, R, s, m, args, below, meth, c, nL, D, cy, ad, st, A, kc, ks⟩ := Γ
  obtain ⟨hx, hb, hml, hown, hts, hR, hlk, hrt, hK, hZ, hN, hA, hnl, hkc, hks⟩ := hC
  intro H locs ls hl hP hD hS
  exact lv_if_gt hx hb hd ht (fun h => kt h H locs ls hl hP hD hS) (fun h => kf h H locs ls hl hP hD hS)

theorem j_if_le {Γ : jG} {G : List (Nat × Nat)} {Rf : Nat → Nat → Option Nat} {cc : ByteArray} {nl : Nat} {own : String} {ret : Option FieldType} {rm : Room} {pc pc' : Nat} {lv : List (Nat × Value)} {rest : List Value} {M : jM} {Q : State → Prop} {x : Int32} {off : Int} {tgt : Nat} (hC : jOK Γ cc nl own ret rm) (hd : decode cc pc = .ok (.ifCond .le off, 3)) (ht : (pc : Int) + off = (tgt : Int)) (hp : pc + 3 = pc') (kt : x ≤ 0 → jJ Γ G Rf tgt lv rest M Q) (kf : ¬ x ≤ 0 → jJ Γ G Rf pc' lv rest M Q) : jJ Γ G Rf pc lv (.int x :: rest) M Q := by
  subst hp
  obtain ⟨p, l, e, R, s, m, args, below, meth, c, nL, D, cy, ad, st, A, kc, ks⟩ := Γ
  obtain ⟨hx, hb, hml, hown, hts, hR, hlk, hrt, hK, hZ, hN, hA, hnl, hkc, hks⟩ := hC
  intro H locs ls hl hP hD hS
  exact lv_if_le hx hb hd ht (fun h => kt h H locs ls hl hP hD hS) (fun h => kf h H locs ls hl hP hD hS)

theorem j_icmp_eq {Γ : jG} {G : List (Nat × Nat)} {Rf : Nat → Nat → Option Nat} {cc : ByteArray} {nl : Nat} {own : String} {ret : Option FieldType} {rm : Room} {pc pc' : Nat} {lv : List (Nat × Value)} {rest : List Value} {M : jM} {Q : State → Prop} {x y : Int32} {off : Int} {tgt : Nat} (hC : jOK Γ cc nl own ret rm) (hd : decode cc pc = .ok (.if_icmp .eq off, 3)) (ht : (pc : Int) + off = (tgt : Int)) (hp : pc + 3 = pc') (kt : x = y → jJ Γ G Rf tgt lv rest M Q) (kf : ¬ x = y → jJ Γ G Rf pc' lv rest M Q) : jJ Γ G Rf pc lv (.int y :: .int x :: rest) M Q := by
  subst hp
  obtain ⟨p, l, e, R, s, m, args, below, meth, c, nL, D, cy, ad, st, A, kc, ks⟩ := Γ
  obtain ⟨hx, hb, hml, hown, hts, hR, hlk, hrt, hK, hZ, hN, hA, hnl, hkc, hks⟩ := hC
  intro H locs ls hl hP hD hS
  exact lv_icmp_eq hx hb hd ht (fun h => kt h H locs ls hl hP hD hS) (fun h => kf h H locs ls hl hP hD hS)

theorem j_icmp_ne {Γ : jG} {G : List (Nat × Nat)} {Rf : Nat → Nat → Option Nat} {cc : ByteArray} {nl : Nat} {own : String} {ret : Option FieldType} {rm : Room} {pc pc' : Nat} {lv : List (Nat × Value)} {rest : List Value} {M : jM} {Q : State → Prop} {x y : Int32} {off : Int} {tgt : Nat} (hC : jOK Γ cc nl own ret rm) (hd : decode cc pc = .ok (.if_icmp .ne off, 3)) (ht : (pc : Int) + off = (tgt : Int)) (hp : pc + 3 = pc') (kt : ¬ x = y → jJ Γ G Rf tgt lv rest M Q) (kf : x = y → jJ Γ G Rf pc' lv rest M Q) : jJ Γ G Rf pc lv (.int y :: .int x :: rest) M Q := by
  subst hp
  obtain ⟨p, l, e, R, s, m, args, below, meth, c, nL, D, cy, ad, st, A, kc, ks⟩ := Γ
  obtain ⟨hx, hb, hml, hown, hts, hR, hlk, hrt, hK, hZ, hN, hA, hnl, hkc, hks⟩ := hC
  intro H locs ls hl hP hD hS
  exact lv_icmp_ne hx hb hd ht (fun h => kt h H locs ls hl hP hD hS) (fun h => kf h H locs ls hl hP hD hS)

theorem j_icmp_lt {Γ : jG} {G : List (Nat × Nat)} {Rf : Nat → Nat → Option Nat} {cc : ByteArray} {nl : Nat} {own : String} {ret : Option FieldType} {rm : Room} {pc pc' : Nat} {lv : List (Nat × Value)} {rest : List Value} {M : jM} {Q : State → Prop} {x y : Int32} {off : Int} {tgt : Nat} (hC : jOK Γ cc nl own ret rm) (hd : decode cc pc = .ok (.if_icmp .lt off, 3)) (ht : (pc : Int) + off = (tgt : Int)) (hp : pc + 3 = pc') (kt : x < y → jJ Γ G Rf tgt lv rest M Q) (kf : ¬ x < y → jJ Γ G Rf pc' lv rest M Q) : jJ Γ G Rf pc lv (.int y :: .int x :: rest) M Q := by
  subst hp
  obtain ⟨p, l, e, R, s, m, args, below, meth, c, nL, D, cy, ad, st, A, kc, ks⟩ := Γ
  obtain ⟨hx, hb, hml, hown, hts, hR, hlk, hrt, hK, hZ, hN, hA, hnl, hkc, hks⟩ := hC
  intro H locs ls hl hP hD hS
  exact lv_icmp_lt hx hb hd ht (fun h => kt h H locs ls hl hP hD hS) (fun h => kf h H locs ls hl hP hD hS)

theorem j_icmp_ge {Γ : jG} {G : List (Nat × Nat)} {Rf : Nat → Nat → Option Nat} {cc : ByteArray} {nl : Nat} {own : String} {ret : Option FieldType} {rm : Room} {pc pc' : Nat} {lv : List (Nat × Value)} {rest : List Value} {M : jM} {Q : State → Prop} {x y : Int32} {off : Int} {tgt : Nat} (hC : jOK Γ cc nl own ret rm) (hd : decode cc pc = .ok (.if_icmp .ge off, 3)) (ht : (pc : Int) + off = (tgt : Int)) (hp : pc + 3 = pc') (kt : y ≤ x → jJ Γ G Rf tgt lv rest M Q) (kf : ¬ y ≤ x → jJ Γ G Rf pc' lv rest M Q) : jJ Γ G Rf pc lv (.int y :: .int x :: rest) M Q := by
  subst hp
  obtain ⟨p, l, e, R, s, m, args, below, meth, c, nL, D, cy, ad, st, A, kc, ks⟩ := Γ
  obtain ⟨hx, hb, hml, hown, hts, hR, hlk, hrt, hK, hZ, hN, hA, hnl, hkc, hks⟩ := hC
  intro H locs ls hl hP hD hS
  exact lv_icmp_ge hx hb hd ht (fun h => kt h H locs ls hl hP hD hS) (fun h => kf h H locs ls hl hP hD hS)

theorem j_icmp_gt {Γ : jG} {G : List (Nat × Nat)} {Rf : Nat → Nat → Option Nat} {cc : ByteArray} {nl : Nat} {own : String} {ret : Option FieldType} {rm : Room} {pc pc' : Nat} {lv : List (Nat × Value)} {rest : List Value} {M : jM} {Q : State → Prop} {x y : Int32} {off : Int} {tgt : Nat} (hC : jOK Γ cc nl own ret rm) (hd : decode cc pc = .ok (.if_icmp .gt off, 3)) (ht : (pc : Int) + off = (tgt : Int)) (hp : pc + 3 = pc') (kt : y < x → jJ Γ G Rf tgt lv rest M Q) (kf : ¬ y < x → jJ Γ G Rf pc' lv rest M Q) : jJ Γ G Rf pc lv (.int y :: .int x :: rest) M Q := by
  subst hp
  obtain ⟨p, l, e, R, s, m, args, below, meth, c, nL, D, cy, ad, st, A, kc, ks⟩ := Γ
  obtain ⟨hx, hb, hml, hown, hts, hR, hlk, hrt, hK, hZ, hN, hA, hnl, hkc, hks⟩ := hC
  intro H locs ls hl hP hD hS
  exact lv_icmp_gt hx hb hd ht (fun h => kt h H locs ls hl hP hD hS) (fun h => kf h H locs ls hl hP hD hS)

theorem j_icmp_le {Γ : jG} {G : List (Nat × Nat)} {Rf : Nat → Nat → Option Nat} {cc : ByteArray} {nl : Nat} {own : String} {ret : Option FieldType} {rm : Room} {pc pc' : Nat} {lv : List (Nat × Value)} {rest : List Value} {M : jM} {Q : State → Prop} {x y : Int32} {off : Int} {tgt : Nat} (hC : jOK Γ cc nl own ret rm) (hd : decode cc pc = .ok (.if_icmp .le off, 3)) (ht : (pc : Int) + off = (tgt : Int)) (hp : pc + 3 = pc') (kt : x ≤ y → jJ Γ G Rf tgt lv rest M Q) (kf : ¬ x ≤ y → jJ Γ G Rf pc' lv rest M Q) : jJ Γ G Rf pc lv (.int y :: .int x :: rest) M Q := by
  subst hp
  obtain ⟨p, l, e, R, s, m, args, below, meth, c, nL, D, cy, ad, st, A, kc, ks⟩ := Γ
  obtain ⟨hx, hb, hml, hown, hts, hR, hlk, hrt, hK, hZ, hN, hA, hnl, hkc, hks⟩ := hC
  intro H locs ls hl hP hD hS
  exact lv_icmp_le hx hb hd ht (fun h => kt h H locs ls hl hP hD hS) (fun h => kf h H locs ls hl hP hD hS)

theorem j_goto {Γ : jG} {G : List (Nat × Nat)} {Rf : Nat → Nat → Option Nat} {cc : ByteArray} {nl : Nat} {own : String} {ret : Option FieldType} {rm : Room} {pc pc' : Nat} {lv : List (Nat × Value)} {rest : List Value} {M : jM} {Q : State → Prop} {off : Int} {tgt : Nat} (hC : jOK Γ cc nl own ret rm) (hd : decode cc pc = .ok (.goto off, 3)) (ht : (pc : Int) + off = (tgt : Int)) (k : jJ Γ G Rf tgt lv rest M Q) : jJ Γ G Rf pc lv rest M Q := by
  obtain ⟨p, l, e, R, s, m, args, below, meth, c, nL, D, cy, ad, st, A, kc, ks⟩ := Γ
  obtain ⟨hx, hb, hml, hown, hts, hR, hlk, hrt, hK, hZ, hN, hA, hnl, hkc, hks⟩ := hC
  intro H locs ls hl hP hD hS
  exact lv_goto hx hb hd ht (k H locs ls hl hP hD hS)

theorem j_tabOut {Γ : jG} {G : List (Nat × Nat)} {Rf : Nat → Nat → Option Nat} {cc : ByteArray} {nl : Nat} {own : String} {ret : Option FieldType} {rm : Room} {pc pc' : Nat} {lv : List (Nat × Value)} {rest : List Value} {M : jM} {Q : State → Prop} {dflt lo hi : Int} {offs : Array Int} {len : Nat} {x : Int32} {tgt : Nat} (hC : jOK Γ cc nl own ret rm) (hd : decode cc pc = .ok (.tableswitch dflt lo hi offs, len)) (h : x.toInt < lo ∨ hi < x.toInt) (ht : (pc : Int) + dflt = (tgt : Int)) (k : jJ Γ G Rf tgt lv rest M Q) : jJ Γ G Rf pc lv (.int x :: rest) M Q := by
  obtain ⟨p, l, e, R, s, m, args, below, meth, c, nL, D, cy, ad, st, A, kc, ks⟩ := Γ
  obtain ⟨hx, hb, hml, hown, hts, hR, hlk, hrt, hK, hZ, hN, hA, hnl, hkc, hks⟩ := hC
  intro H locs ls hl hP hD hS
  exact lv_tableOut hx hb hd h ht (k H locs ls hl hP hD hS)

theorem j_tabIn {Γ : jG} {G : List (Nat × Nat)} {Rf : Nat → Nat → Option Nat} {cc : ByteArray} {nl : Nat} {own : String} {ret : Option FieldType} {rm : Room} {pc pc' : Nat} {lv : List (Nat × Value)} {rest : List Value} {M : jM} {Q : State → Prop} {dflt lo hi : Int} {offs : Array Int} {len : Nat} {x : Int32} {off : Int} {tgt : Nat} (hC : jOK Γ cc nl own ret rm) (hd : decode cc pc = .ok (.tableswitch dflt lo hi offs, len)) (h1 : ¬ x.toInt < lo) (h2 : ¬ hi < x.toInt) (ho : offs[(x.toInt - lo).toNat]? = some off) (ht : (pc : Int) + off = (tgt : Int)) (k : jJ Γ G Rf tgt lv rest M Q) : jJ Γ G Rf pc lv (.int x :: rest) M Q := by
  obtain ⟨p, l, e, R, s, m, args, below, meth, c, nL, D, cy, ad, st, A, kc, ks⟩ := Γ
  obtain ⟨hx, hb, hml, hown, hts, hR, hlk, hrt, hK, hZ, hN, hA, hnl, hkc, hks⟩ := hC
  intro H locs ls hl hP hD hS
  exact lv_tableIn hx hb hd h1 h2 ho ht (k H locs ls hl hP hD hS)

def jcls (ci : Nat) (C : String) (T : u_T) (N : Nat) (ty : Nat → FieldType) : Prop := vwCl[ci]? = some (C, T, N) ∧ (∀ w ∈ u_ws C T N, w ∈ jtb) ∧ (∀ k, k < N → parseFieldDescriptor (T k).2.2.1 = some (ty k)) ∧ (∀ a, a < N → ∀ b, b < N → a ≠ b → (T a).2.1 ≠ (T b).2.1)
theorem jcell_0 {cy : Nat → ClassId} {ad : Nat → Nat} {R : Nat → Nat → Option Nat} {M : jM} {o n : Nat} : jcell cy ad R M o (0, n) = .inl (cy 0, n, .inl (gi M o)) := rfl
theorem jcell_1 {cy : Nat → ClassId} {ad : Nat → Nat} {R : Nat → Nat → Option Nat} {M : jM} {o n : Nat} : jcell cy ad R M o (1, n) = .inl (cy 1, n, .inr (.inl (gl M o))) := rfl
theorem jcell_2 {cy : Nat → ClassId} {ad : Nat → Nat} {R : Nat → Nat → Option Nat} {M : jM} {o n : Nat} : jcell cy ad R M o (2, n) = .inl (cy 2, n, .inl (gi M o)) := rfl
theorem jcell_o {cy : Nat → ClassId} {ad : Nat → Nat} {R : Nat → Nat → Option Nat} {M : jM} {o ci n : Nat} : jcell cy ad R M o (10 + ci, n) = .inr (ci, jfs ad R M o (jft ci)) := by
  unfold jcell
  rw [if_neg (show ¬ 10 + ci = 0 by omega), if_neg (show ¬ 10 + ci = 1 by omega), if_neg (show ¬ 10 + ci = 2 by omega), if_neg (show ¬ 10 + ci = 3 by omega), if_neg (show ¬ 10 + ci = 4 by omega), show 10 + ci - 10 = ci by omega]
theorem jfs_at {ad : Nat → Nat} {R : Nat → Nat → Option Nat} {M : jM} {o k t : Nat} {ts : List Nat} (h : ts[k]? = some t) : (jfs ad R M o ts)[k]? = some (jval ad R M o k t) := by
  simp [jfs, List.getElem?_mapIdx, h]
theorem jfs_len {ad : Nat → Nat} {R : Nat → Nat → Option Nat} {M : jM} {o : Nat} {ts : List Nat} : (jfs ad R M o ts).length = ts.length := by simp [jfs]

theorem j_geti {Γ : jG} {G : List (Nat × Nat)} {Rf : Nat → Nat → Option Nat} {cc : ByteArray} {nl : Nat} {own : String} {ret : Option FieldType} {rm : Room} {pc pc' : Nat} {lv : List (Nat × Value)} {rest : List Value} {M : jM} {Q : State → Prop} {o ci n k N index : Nat} {C : String} {T : u_T} {ty : Nat → FieldType} (hC : jOK Γ cc nl own ret rm) (hd : decode cc pc = .ok (.getfield index, 3)) (hp : pc + 3 = pc') (hc : jcls ci C T N ty) (hG : G[o]? = some (10 + ci, n)) (hk : k < N) (hw : Cond.fieldLink own index (T k).1 (T k).2.1 (T k).2.2.1 ∈ jtb) (hf : (jft ci)[k]? = some 0)  (k' : jJ Γ G Rf pc' lv (.int (gi M o k) :: rest) M Q) : jJ Γ G Rf pc lv (.ref (jad Γ o) :: rest) M Q := by
  subst hp
  obtain ⟨p, l, e, R, s, m, args, below, meth, c, nL, D, cy, ad, st, A, kc, ks⟩ := Γ
  obtain ⟨hx, hb, hml, hown, hts, hR, hlk, hrt, hK, hZ, hN, hA, hnl, hkc, hks⟩ := hC
  intro H locs ls hl hP hD hS
  have he := jws_at (cy := cy) (ad := ad) (R := Rf) (M := M) hG
  rw [jcell_o] at he
  refine va_get (D := D) hx hb hts hc.2.1 hown hK hP o he hc.1 k hk (hts _ hw) (fun _ h => h) (jfs_at hf) hd ?_
  exact k' H locs ls hl hP hD hS

theorem j_getl {Γ : jG} {G : List (Nat × Nat)} {Rf : Nat → Nat → Option Nat} {cc : ByteArray} {nl : Nat} {own : String} {ret : Option FieldType} {rm : Room} {pc pc' : Nat} {lv : List (Nat × Value)} {rest : List Value} {M : jM} {Q : State → Prop} {o ci n k N index : Nat} {C : String} {T : u_T} {ty : Nat → FieldType} (hC : jOK Γ cc nl own ret rm) (hd : decode cc pc = .ok (.getfield index, 3)) (hp : pc + 3 = pc') (hc : jcls ci C T N ty) (hG : G[o]? = some (10 + ci, n)) (hk : k < N) (hw : Cond.fieldLink own index (T k).1 (T k).2.1 (T k).2.2.1 ∈ jtb) (hf : (jft ci)[k]? = some 1)  (k' : jJ Γ G Rf pc' lv (.long (gl M o k) :: rest) M Q) : jJ Γ G Rf pc lv (.ref (jad Γ o) :: rest) M Q := by
  subst hp
  obtain ⟨p, l, e, R, s, m, args, below, meth, c, nL, D, cy, ad, st, A, kc, ks⟩ := Γ
  obtain ⟨hx, hb, hml, hown, hts, hR, hlk, hrt, hK, hZ, hN, hA, hnl, hkc, hks⟩ := hC
  intro H locs ls hl hP hD hS
  have he := jws_at (cy := cy) (ad := ad) (R := Rf) (M := M) hG
  rw [jcell_o] at he
  refine va_get (D := D) hx hb hts hc.2.1 hown hK hP o he hc.1 k hk (hts _ hw) (fun _ h => h) (jfs_at hf) hd ?_
  exact k' H locs ls hl hP hD hS

theorem j_getr {Γ : jG} {G : List (Nat × Nat)} {Rf : Nat → Nat → Option Nat} {cc : ByteArray} {nl : Nat} {own : String} {ret : Option FieldType} {rm : Room} {pc pc' : Nat} {lv : List (Nat × Value)} {rest : List Value} {M : jM} {Q : State → Prop} {o ci n k N index : Nat} {C : String} {T : u_T} {ty : Nat → FieldType} (hC : jOK Γ cc nl own ret rm) (hd : decode cc pc = .ok (.getfield index, 3)) (hp : pc + 3 = pc') (hc : jcls ci C T N ty) (hG : G[o]? = some (10 + ci, n)) (hk : k < N) (hw : Cond.fieldLink own index (T k).1 (T k).2.1 (T k).2.2.1 ∈ jtb) (hf : (jft ci)[k]? = some 2) {o2 : Nat} (hr : Rf o k = some o2) (k' : jJ Γ G Rf pc' lv (.ref (jad Γ o2) :: rest) M Q) : jJ Γ G Rf pc lv (.ref (jad Γ o) :: rest) M Q := by
  subst hp
  obtain ⟨p, l, e, R, s, m, args, below, meth, c, nL, D, cy, ad, st, A, kc, ks⟩ := Γ
  obtain ⟨hx, hb, hml, hown, hts, hR, hlk, hrt, hK, hZ, hN, hA, hnl, hkc, hks⟩ := hC
  intro H locs ls hl hP hD hS
  have he := jws_at (cy := cy) (ad := ad) (R := Rf) (M := M) hG
  rw [jcell_o] at he
  refine va_get (D := D) hx hb hts hc.2.1 hown hK hP o he hc.1 k hk (hts _ hw) (fun _ h => h) (jfs_at hf) hd ?_
  have e9 : jval ad Rf M o k 2 = .ref (ad o2) := by simp [jval, hr, va_rf]
  rw [e9]
  exact k' H locs ls hl hP hD hS

theorem j_getq {Γ : jG} {G : List (Nat × Nat)} {Rf : Nat → Nat → Option Nat} {cc : ByteArray} {nl : Nat} {own : String} {ret : Option FieldType} {rm : Room} {pc pc' : Nat} {lv : List (Nat × Value)} {rest : List Value} {M : jM} {Q : State → Prop} {o ci n k N index : Nat} {C : String} {T : u_T} {ty : Nat → FieldType} (hC : jOK Γ cc nl own ret rm) (hd : decode cc pc = .ok (.getfield index, 3)) (hp : pc + 3 = pc') (hc : jcls ci C T N ty) (hG : G[o]? = some (10 + ci, n)) (hk : k < N) (hw : Cond.fieldLink own index (T k).1 (T k).2.1 (T k).2.2.1 ∈ jtb) (hf : (jft ci)[k]? = some 3) (hr : ¬ gi M o k < 0) (k' : jJ Γ G Rf pc' lv (.ref (jad Γ (gi M o k).toNatClampNeg) :: rest) M Q) : jJ Γ G Rf pc lv (.ref (jad Γ o) :: rest) M Q := by
  subst hp
  obtain ⟨p, l, e, R, s, m, args, below, meth, c, nL, D, cy, ad, st, A, kc, ks⟩ := Γ
  obtain ⟨hx, hb, hml, hown, hts, hR, hlk, hrt, hK, hZ, hN, hA, hnl, hkc, hks⟩ := hC
  intro H locs ls hl hP hD hS
  have he := jws_at (cy := cy) (ad := ad) (R := Rf) (M := M) hG
  rw [jcell_o] at he
  refine va_get (D := D) hx hb hts hc.2.1 hown hK hP o he hc.1 k hk (hts _ hw) (fun _ h => h) (jfs_at hf) hd ?_
  have e9 : jval ad Rf M o k 3 = .ref (ad (gi M o k).toNatClampNeg) := by simp [jval, hr]
  rw [e9]
  exact k' H locs ls hl hP hD hS

theorem j_puti {Γ : jG} {G : List (Nat × Nat)} {Rf : Nat → Nat → Option Nat} {cc : ByteArray} {nl : Nat} {own : String} {ret : Option FieldType} {rm : Room} {pc pc' : Nat} {lv : List (Nat × Value)} {rest : List Value} {M : jM} {Q : State → Prop} {o ci n k N index : Nat} {C : String} {T : u_T} {ty : Nat → FieldType} {v : Int32} (hC : jOK Γ cc nl own ret rm) (hd : decode cc pc = .ok (.putfield index, 3)) (hp : pc + 3 = pc') (hc : jcls ci C T N ty) (hG : G[o]? = some (10 + ci, n)) (hk : k < N) (hw : Cond.fieldLink own index (T k).1 (T k).2.1 (T k).2.2.1 ∈ jtb) (hf : (jft ci)[k]? = some 0) (hfin : (T k).2.2.2 = false) (hty : ty k = .int)  (k' : jJ Γ G Rf pc' lv rest (si M o k v) Q) : jJ Γ G Rf pc lv (.int v :: .ref (jad Γ o) :: rest) M Q := by
  subst hp
  obtain ⟨p, l, e, R, s, m, args, below, meth, c, nL, D, cy, ad, st, A, kc, ks⟩ := Γ
  obtain ⟨hx, hb, hml, hown, hts, hR, hlk, hrt, hK, hZ, hN, hA, hnl, hkc, hks⟩ := hC
  intro H locs ls hl hP hD hS
  have he := jws_at (cy := cy) (ad := ad) (R := Rf) (M := M) hG
  rw [jcell_o] at he
  refine va_put (D := D) hx hb hts hc.2.1 ty hc.2.2.1 hc.2.2.2 hown hK hP hD hS o he hc.1 k hk (hts _ hw) (fun _ h => h) hfin (ty := .int) (by rw [← hty]; exact hc.2.2.1 k hk) rfl rfl (by rw [jfs_len]; exact (List.getElem?_eq_some_iff.mp hf).1) hd (fun H1 locs1 hP1 hD1 hS1 => ?_)
  have e9 : (jws cy ad Rf M G).set o (ad o, .inr (ci, (jfs ad Rf M o (jft ci)).set k (.int v))) = jws cy ad Rf (si M o k v) G := jws_set hG (by rw [jcell_o, jfs_si (Or.inl ⟨hf, rfl⟩)]) (fun a b h => by simp [gi_si, gi_sl, h]) (fun a b h => by simp [gl_si, gl_sl, h])
  have hP2 : va_P D vwCl (jws cy ad Rf (si M o k v) G) H1 := by rw [← e9]; exact hP1
  have hD2 : va_D A (jws cy ad Rf (si M o k v) G) := by rw [← e9]; exact hD1
  exact k' H1 locs1 ls hl hP2 hD2 hS1

theorem j_putl {Γ : jG} {G : List (Nat × Nat)} {Rf : Nat → Nat → Option Nat} {cc : ByteArray} {nl : Nat} {own : String} {ret : Option FieldType} {rm : Room} {pc pc' : Nat} {lv : List (Nat × Value)} {rest : List Value} {M : jM} {Q : State → Prop} {o ci n k N index : Nat} {C : String} {T : u_T} {ty : Nat → FieldType} {v : Int64} (hC : jOK Γ cc nl own ret rm) (hd : decode cc pc = .ok (.putfield index, 3)) (hp : pc + 3 = pc') (hc : jcls ci C T N ty) (hG : G[o]? = some (10 + ci, n)) (hk : k < N) (hw : Cond.fieldLink own index (T k).1 (T k).2.1 (T k).2.2.1 ∈ jtb) (hf : (jft ci)[k]? = some 1) (hfin : (T k).2.2.2 = false) (hty : ty k = .long)  (k' : jJ Γ G Rf pc' lv rest (sl M o k v) Q) : jJ Γ G Rf pc lv (.long v :: .ref (jad Γ o) :: rest) M Q := by
  subst hp
  obtain ⟨p, l, e, R, s, m, args, below, meth, c, nL, D, cy, ad, st, A, kc, ks⟩ := Γ
  obtain ⟨hx, hb, hml, hown, hts, hR, hlk, hrt, hK, hZ, hN, hA, hnl, hkc, hks⟩ := hC
  intro H locs ls hl hP hD hS
  have he := jws_at (cy := cy) (ad := ad) (R := Rf) (M := M) hG
  rw [jcell_o] at he
  refine va_put (D := D) hx hb hts hc.2.1 ty hc.2.2.1 hc.2.2.2 hown hK hP hD hS o he hc.1 k hk (hts _ hw) (fun _ h => h) hfin (ty := .long) (by rw [← hty]; exact hc.2.2.1 k hk) rfl rfl (by rw [jfs_len]; exact (List.getElem?_eq_some_iff.mp hf).1) hd (fun H1 locs1 hP1 hD1 hS1 => ?_)
  have e9 : (jws cy ad Rf M G).set o (ad o, .inr (ci, (jfs ad Rf M o (jft ci)).set k (.long v))) = jws cy ad Rf (sl M o k v) G := jws_set hG (by rw [jcell_o, jfs_sl hf]) (fun a b h => by simp [gi_si, gi_sl, h]) (fun a b h => by simp [gl_si, gl_sl, h])
  have hP2 : va_P D vwCl (jws cy ad Rf (sl M o k v) G) H1 := by rw [← e9]; exact hP1
  have hD2 : va_D A (jws cy ad Rf (sl M o k v) G) := by rw [← e9]; exact hD1
  exact k' H1 locs1 ls hl hP2 hD2 hS1

theorem j_putq {Γ : jG} {G : List (Nat × Nat)} {Rf : Nat → Nat → Option Nat} {cc : ByteArray} {nl : Nat} {own : String} {ret : Option FieldType} {rm : Room} {pc pc' : Nat} {lv : List (Nat × Value)} {rest : List Value} {M : jM} {Q : State → Prop} {o ci n k N index : Nat} {C : String} {T : u_T} {ty : Nat → FieldType} {ov : Nat} (hC : jOK Γ cc nl own ret rm) (hd : decode cc pc = .ok (.putfield index, 3)) (hp : pc + 3 = pc') (hc : jcls ci C T N ty) (hG : G[o]? = some (10 + ci, n)) (hk : k < N) (hw : Cond.fieldLink own index (T k).1 (T k).2.1 (T k).2.2.1 ∈ jtb) (hf : (jft ci)[k]? = some 3) (hfin : (T k).2.2.2 = false) (hty : ty k = .array .int) (hov : ov < 2 ^ 31) (k' : jJ Γ G Rf pc' lv rest (si M o k (nI ov)) Q) : jJ Γ G Rf pc lv (.ref (jad Γ ov) :: .ref (jad Γ o) :: rest) M Q := by
  subst hp
  obtain ⟨p, l, e, R, s, m, args, below, meth, c, nL, D, cy, ad, st, A, kc, ks⟩ := Γ
  obtain ⟨hx, hb, hml, hown, hts, hR, hlk, hrt, hK, hZ, hN, hA, hnl, hkc, hks⟩ := hC
  intro H locs ls hl hP hD hS
  have he := jws_at (cy := cy) (ad := ad) (R := Rf) (M := M) hG
  rw [jcell_o] at he
  refine va_put (D := D) hx hb hts hc.2.1 ty hc.2.2.1 hc.2.2.2 hown hK hP hD hS o he hc.1 k hk (hts _ hw) (fun _ h => h) hfin (ty := .array .int) (by rw [← hty]; exact hc.2.2.1 k hk) rfl rfl (by rw [jfs_len]; exact (List.getElem?_eq_some_iff.mp hf).1) hd (fun H1 locs1 hP1 hD1 hS1 => ?_)
  have e9 : (jws cy ad Rf M G).set o (ad o, .inr (ci, (jfs ad Rf M o (jft ci)).set k (.ref (ad ov)))) = jws cy ad Rf (si M o k (nI ov)) G := jws_set hG (by rw [jcell_o, jfs_si (Or.inr ⟨hf, by rw [if_neg (nI_pos hov), nI_clamp hov]⟩)]) (fun a b h => by simp [gi_si, gi_sl, h]) (fun a b h => by simp [gl_si, gl_sl, h])
  have hP2 : va_P D vwCl (jws cy ad Rf (si M o k (nI ov)) G) H1 := by rw [← e9]; exact hP1
  have hD2 : va_D A (jws cy ad Rf (si M o k (nI ov)) G) := by rw [← e9]; exact hD1
  exact k' H1 locs1 ls hl hP2 hD2 hS1

theorem j_iald {Γ : jG} {G : List (Nat × Nat)} {Rf : Nat → Nat → Option Nat} {cc : ByteArray} {nl : Nat} {own : String} {ret : Option FieldType} {rm : Room} {pc pc' : Nat} {lv : List (Nat × Value)} {rest : List Value} {M : jM} {Q : State → Prop} {o n : Nat} {i : Int32} (hC : jOK Γ cc nl own ret rm) (hd : decode cc pc = .ok (.iaload, 1)) (hp : pc + 1 = pc') (hG : G[o]? = some (0, n)) (hi : jin i n = true) (k' : jJ Γ G Rf pc' lv (.int (gi M o i.toNatClampNeg) :: rest) M Q) : jJ Γ G Rf pc lv (.int i :: .ref (jad Γ o) :: rest) M Q := by
  subst hp
  obtain ⟨p, l, e, R, s, m, args, below, meth, c, nL, D, cy, ad, st, A, kc, ks⟩ := Γ
  obtain ⟨hx, hb, hml, hown, hts, hR, hlk, hrt, hK, hZ, hN, hA, hnl, hkc, hks⟩ := hC
  intro H locs ls hl hP hD hS
  have he := jws_at (cy := cy) (ad := ad) (R := Rf) (M := M) hG
  exact va_iald (D := D) hx hb hK hP o 0 he rfl (jin_vp hi) hd (k' H locs ls hl hP hD hS)

theorem j_lald {Γ : jG} {G : List (Nat × Nat)} {Rf : Nat → Nat → Option Nat} {cc : ByteArray} {nl : Nat} {own : String} {ret : Option FieldType} {rm : Room} {pc pc' : Nat} {lv : List (Nat × Value)} {rest : List Value} {M : jM} {Q : State → Prop} {o n : Nat} {i : Int32} (hC : jOK Γ cc nl own ret rm) (hd : decode cc pc = .ok (.laload, 1)) (hp : pc + 1 = pc') (hG : G[o]? = some (1, n)) (hi : jin i n = true) (k' : jJ Γ G Rf pc' lv (.long (gl M o i.toNatClampNeg) :: rest) M Q) : jJ Γ G Rf pc lv (.int i :: .ref (jad Γ o) :: rest) M Q := by
  subst hp
  obtain ⟨p, l, e, R, s, m, args, below, meth, c, nL, D, cy, ad, st, A, kc, ks⟩ := Γ
  obtain ⟨hx, hb, hml, hown, hts, hR, hlk, hrt, hK, hZ, hN, hA, hnl, hkc, hks⟩ := hC
  intro H locs ls hl hP hD hS
  have he := jws_at (cy := cy) (ad := ad) (R := Rf) (M := M) hG
  exact va_lald (D := D) hx hb hK hP o 1 he rfl (jin_vp hi) hd (k' H locs ls hl hP hD hS)

theorem j_zald {Γ : jG} {G : List (Nat × Nat)} {Rf : Nat → Nat → Option Nat} {cc : ByteArray} {nl : Nat} {own : String} {ret : Option FieldType} {rm : Room} {pc pc' : Nat} {lv : List (Nat × Value)} {rest : List Value} {M : jM} {Q : State → Prop} {o n : Nat} {i : Int32} (hC : jOK Γ cc nl own ret rm) (hd : decode cc pc = .ok (.baload, 1)) (hp : pc + 1 = pc') (hG : G[o]? = some (2, n)) (hi : jin i n = true) (k' : jJ Γ G Rf pc' lv (.int (gi M o i.toNatClampNeg) :: rest) M Q) : jJ Γ G Rf pc lv (.int i :: .ref (jad Γ o) :: rest) M Q := by
  subst hp
  obtain ⟨p, l, e, R, s, m, args, below, meth, c, nL, D, cy, ad, st, A, kc, ks⟩ := Γ
  obtain ⟨hx, hb, hml, hown, hts, hR, hlk, hrt, hK, hZ, hN, hA, hnl, hkc, hks⟩ := hC
  intro H locs ls hl hP hD hS
  have he := jws_at (cy := cy) (ad := ad) (R := Rf) (M := M) hG
  exact va_zald (D := D) hx hb hK hP o 2 he rfl (jin_vp hi) hd (k' H locs ls hl hP hD hS)

theorem j_iast {Γ : jG} {G : List (Nat × Nat)} {Rf : Nat → Nat → Option Nat} {cc : ByteArray} {nl : Nat} {own : String} {ret : Option FieldType} {rm : Room} {pc pc' : Nat} {lv : List (Nat × Value)} {rest : List Value} {M : jM} {Q : State → Prop} {o n : Nat} {i : Int32} {v : Int32} (hC : jOK Γ cc nl own ret rm) (hd : decode cc pc = .ok (.iastore, 1)) (hp : pc + 1 = pc') (hG : G[o]? = some (0, n)) (hi : jin i n = true) (k' : jJ Γ G Rf pc' lv rest (si M o i.toNatClampNeg v) Q) : jJ Γ G Rf pc lv (.int v :: .int i :: .ref (jad Γ o) :: rest) M Q := by
  subst hp
  obtain ⟨p, l, e, R, s, m, args, below, meth, c, nL, D, cy, ad, st, A, kc, ks⟩ := Γ
  obtain ⟨hx, hb, hml, hown, hts, hR, hlk, hrt, hK, hZ, hN, hA, hnl, hkc, hks⟩ := hC
  intro H locs ls hl hP hD hS
  have he := jws_at (cy := cy) (ad := ad) (R := Rf) (M := M) hG
  refine va_iast (D := D) hx hb hK hP hD hS o 0 he rfl (jin_vp hi) hd (fun H1 locs1 hP1 hD1 hS1 => ?_)
  have e9 : (jws cy ad Rf M G).set o (ad o, .inl (cy 0, n, .inl (upd (gi M o) i.toNatClampNeg v))) = jws cy ad Rf (si M o i.toNatClampNeg v) G := jws_set hG (by
    show _ = jcell cy ad Rf (si M o i.toNatClampNeg v) o (0, n)
    rw [jcell_0]
    congr 4
    funext j
    simp [upd, vp_updL, gi_si, gl_sl]) (fun a b h => by simp [gi_si, gi_sl, h]) (fun a b h => by simp [gl_si, gl_sl, h])
  have hP2 : va_P D vwCl (jws cy ad Rf (si M o i.toNatClampNeg v) G) H1 := by rw [← e9]; exact hP1
  have hD2 : va_D A (jws cy ad Rf (si M o i.toNatClampNeg v) G) := by rw [← e9]; exact hD1
  exact k' H1 locs1 ls hl hP2 hD2 hS1

theorem j_last {Γ : jG} {G : List (Nat × Nat)} {Rf : Nat → Nat → Option Nat} {cc : ByteArray} {nl : Nat} {own : String} {ret : Option FieldType} {rm : Room} {pc pc' : Nat} {lv : List (Nat × Value)} {rest : List Value} {M : jM} {Q : State → Prop} {o n : Nat} {i : Int32} {v : Int64} (hC : jOK Γ cc nl own ret rm) (hd : decode cc pc = .ok (.lastore, 1)) (hp : pc + 1 = pc') (hG : G[o]? = some (1, n)) (hi : jin i n = true) (k' : jJ Γ G Rf pc' lv rest (sl M o i.toNatClampNeg v) Q) : jJ Γ G Rf pc lv (.long v :: .int i :: .ref (jad Γ o) :: rest) M Q := by
  subst hp
  obtain ⟨p, l, e, R, s, m, args, below, meth, c, nL, D, cy, ad, st, A, kc, ks⟩ := Γ
  obtain ⟨hx, hb, hml, hown, hts, hR, hlk, hrt, hK, hZ, hN, hA, hnl, hkc, hks⟩ := hC
  intro H locs ls hl hP hD hS
  have he := jws_at (cy := cy) (ad := ad) (R := Rf) (M := M) hG
  refine va_last (D := D) hx hb hK hP hD hS o 1 he rfl (jin_vp hi) hd (fun H1 locs1 hP1 hD1 hS1 => ?_)
  have e9 : (jws cy ad Rf M G).set o (ad o, .inl (cy 1, n, .inr (.inl (vp_updL (gl M o) i.toNatClampNeg v)))) = jws cy ad Rf (sl M o i.toNatClampNeg v) G := jws_set hG (by
    show _ = jcell cy ad Rf (sl M o i.toNatClampNeg v) o (1, n)
    rw [jcell_1]
    congr 5
    funext j
    simp [upd, vp_updL, gi_si, gl_sl]) (fun a b h => by simp [gi_si, gi_sl, h]) (fun a b h => by simp [gl_si, gl_sl, h])
  have hP2 : va_P D vwCl (jws cy ad Rf (sl M o i.toNatClampNeg v) G) H1 := by rw [← e9]; exact hP1
  have hD2 : va_D A (jws cy ad Rf (sl M o i.toNatClampNeg v) G) := by rw [← e9]; exact hD1
  exact k' H1 locs1 ls hl hP2 hD2 hS1

theorem j_zast {Γ : jG} {G : List (Nat × Nat)} {Rf : Nat → Nat → Option Nat} {cc : ByteArray} {nl : Nat} {own : String} {ret : Option FieldType} {rm : Room} {pc pc' : Nat} {lv : List (Nat × Value)} {rest : List Value} {M : jM} {Q : State → Prop} {o n : Nat} {i : Int32} {v : Int32} (hC : jOK Γ cc nl own ret rm) (hd : decode cc pc = .ok (.bastore, 1)) (hp : pc + 1 = pc') (hG : G[o]? = some (2, n)) (hi : jin i n = true) (k' : jJ Γ G Rf pc' lv rest (si M o i.toNatClampNeg (vp_nar .boolean v)) Q) : jJ Γ G Rf pc lv (.int v :: .int i :: .ref (jad Γ o) :: rest) M Q := by
  subst hp
  obtain ⟨p, l, e, R, s, m, args, below, meth, c, nL, D, cy, ad, st, A, kc, ks⟩ := Γ
  obtain ⟨hx, hb, hml, hown, hts, hR, hlk, hrt, hK, hZ, hN, hA, hnl, hkc, hks⟩ := hC
  intro H locs ls hl hP hD hS
  have he := jws_at (cy := cy) (ad := ad) (R := Rf) (M := M) hG
  refine va_zast (D := D) hx hb hK hP hD hS o 2 he rfl (jin_vp hi) hd (fun H1 locs1 hP1 hD1 hS1 => ?_)
  have e9 : (jws cy ad Rf M G).set o (ad o, .inl (cy 2, n, .inl (upd (gi M o) i.toNatClampNeg (vp_nar .boolean v)))) = jws cy ad Rf (si M o i.toNatClampNeg (vp_nar .boolean v)) G := jws_set hG (by
    show _ = jcell cy ad Rf (si M o i.toNatClampNeg (vp_nar .boolean v)) o (2, n)
    rw [jcell_2]
    congr 4
    funext j
    simp [upd, vp_updL, gi_si, gl_sl]) (fun a b h => by simp [gi_si, gi_sl, h]) (fun a b h => by simp [gl_si, gl_sl, h])
  have hP2 : va_P D vwCl (jws cy ad Rf (si M o i.toNatClampNeg (vp_nar .boolean v)) G) H1 := by rw [← e9]; exact hP1
  have hD2 : va_D A (jws cy ad Rf (si M o i.toNatClampNeg (vp_nar .boolean v)) G) := by rw [← e9]; exact hD1
  exact k' H1 locs1 ls hl hP2 hD2 hS1

theorem j_aald3 {Γ : jG} {G : List (Nat × Nat)} {Rf : Nat → Nat → Option Nat} {cc : ByteArray} {nl : Nat} {own : String} {ret : Option FieldType} {rm : Room} {pc pc' : Nat} {lv : List (Nat × Value)} {rest : List Value} {M : jM} {Q : State → Prop} {o n : Nat} {i : Int32} {o2 : Nat} (hC : jOK Γ cc nl own ret rm) (hd : decode cc pc = .ok (.aaload, 1)) (hp : pc + 1 = pc') (hG : G[o]? = some (3, n)) (hi : jin i n = true) (hr : Rf o i.toNatClampNeg = some o2) (k' : jJ Γ G Rf pc' lv (.ref (jad Γ o2) :: rest) M Q) : jJ Γ G Rf pc lv (.int i :: .ref (jad Γ o) :: rest) M Q := by
  subst hp
  obtain ⟨p, l, e, R, s, m, args, below, meth, c, nL, D, cy, ad, st, A, kc, ks⟩ := Γ
  obtain ⟨hx, hb, hml, hown, hts, hR, hlk, hrt, hK, hZ, hN, hA, hnl, hkc, hks⟩ := hC
  intro H locs ls hl hP hD hS
  have he := jws_at (cy := cy) (ad := ad) (R := Rf) (M := M) hG
  have hin := jin_vp hi
  have hlt : i.toNatClampNeg < n := Nat.not_le.mp fun q => hin (Or.inr q)
  have hk2 := k' H locs ls hl hP hD hS
  have e9 : va_rf ((Rf o i.toNatClampNeg).map ad) = .ref (ad o2) := by rw [hr]; rfl
  exact W.aald (v := .ref (ad o2)) (ty := .object "HoursByPost$Course") hx hb (hP o _ he) ((hK.2 3 _ rfl).1 n (fun j => va_rf ((Rf o j).map ad))) rfl (fun q => by cases q) (by show ¬ (i < 0 ∨ (arrV _ _ _).slots.size ≤ _); rw [arrV_size]; exact hin) (by show (arrV _ _ _).slots[_]? = _; rw [arrV_read _ _ hlt, e9]) rfl rfl hd hk2

theorem j_aald4 {Γ : jG} {G : List (Nat × Nat)} {Rf : Nat → Nat → Option Nat} {cc : ByteArray} {nl : Nat} {own : String} {ret : Option FieldType} {rm : Room} {pc pc' : Nat} {lv : List (Nat × Value)} {rest : List Value} {M : jM} {Q : State → Prop} {o n : Nat} {i : Int32} {o2 : Nat} (hC : jOK Γ cc nl own ret rm) (hd : decode cc pc = .ok (.aaload, 1)) (hp : pc + 1 = pc') (hG : G[o]? = some (4, n)) (hi : jin i n = true) (hr : Rf o i.toNatClampNeg = some o2) (k' : jJ Γ G Rf pc' lv (.ref (jad Γ o2) :: rest) M Q) : jJ Γ G Rf pc lv (.int i :: .ref (jad Γ o) :: rest) M Q := by
  subst hp
  obtain ⟨p, l, e, R, s, m, args, below, meth, c, nL, D, cy, ad, st, A, kc, ks⟩ := Γ
  obtain ⟨hx, hb, hml, hown, hts, hR, hlk, hrt, hK, hZ, hN, hA, hnl, hkc, hks⟩ := hC
  intro H locs ls hl hP hD hS
  have he := jws_at (cy := cy) (ad := ad) (R := Rf) (M := M) hG
  have hin := jin_vp hi
  have hlt : i.toNatClampNeg < n := Nat.not_le.mp fun q => hin (Or.inr q)
  have hk2 := k' H locs ls hl hP hD hS
  have e9 : va_rf ((Rf o i.toNatClampNeg).map ad) = .ref (ad o2) := by rw [hr]; rfl
  exact W.aald (v := .ref (ad o2)) (ty := .array .int) hx hb (hP o _ he) ((hK.2 4 _ rfl).1 n (fun j => va_rf ((Rf o j).map ad))) rfl (fun q => by cases q) (by show ¬ (i < 0 ∨ (arrV _ _ _).slots.size ≤ _); rw [arrV_size]; exact hin) (by show (arrV _ _ _).slots[_]? = _; rw [arrV_read _ _ hlt, e9]) rfl rfl hd hk2

theorem j_alen0 {Γ : jG} {G : List (Nat × Nat)} {Rf : Nat → Nat → Option Nat} {cc : ByteArray} {nl : Nat} {own : String} {ret : Option FieldType} {rm : Room} {pc pc' : Nat} {lv : List (Nat × Value)} {rest : List Value} {M : jM} {Q : State → Prop} {o n : Nat} {v : Int32} (hC : jOK Γ cc nl own ret rm) (hd : decode cc pc = .ok (.arraylength, 1)) (hp : pc + 1 = pc') (hG : G[o]? = some (0, n)) (hv : Int32.ofNat n = v) (k' : jJ Γ G Rf pc' lv (.int v :: rest) M Q) : jJ Γ G Rf pc lv (.ref (jad Γ o) :: rest) M Q := by
  subst hp
  obtain ⟨p, l, e, R, s, m, args, below, meth, c, nL, D, cy, ad, st, A, kc, ks⟩ := Γ
  obtain ⟨hx, hb, hml, hown, hts, hR, hlk, hrt, hK, hZ, hN, hA, hnl, hkc, hks⟩ := hC
  intro H locs ls hl hP hD hS
  have he := jws_at (cy := cy) (ad := ad) (R := Rf) (M := M) hG
  exact va_alen (D := D) hx hb hK hP o 0 he rfl hv hd (k' H locs ls hl hP hD hS)

theorem j_alen1 {Γ : jG} {G : List (Nat × Nat)} {Rf : Nat → Nat → Option Nat} {cc : ByteArray} {nl : Nat} {own : String} {ret : Option FieldType} {rm : Room} {pc pc' : Nat} {lv : List (Nat × Value)} {rest : List Value} {M : jM} {Q : State → Prop} {o n : Nat} {v : Int32} (hC : jOK Γ cc nl own ret rm) (hd : decode cc pc = .ok (.arraylength, 1)) (hp : pc + 1 = pc') (hG : G[o]? = some (1, n)) (hv : Int32.ofNat n = v) (k' : jJ Γ G Rf pc' lv (.int v :: rest) M Q) : jJ Γ G Rf pc lv (.ref (jad Γ o) :: rest) M Q := by
  subst hp
  obtain ⟨p, l, e, R, s, m, args, below, meth, c, nL, D, cy, ad, st, A, kc, ks⟩ := Γ
  obtain ⟨hx, hb, hml, hown, hts, hR, hlk, hrt, hK, hZ, hN, hA, hnl, hkc, hks⟩ := hC
  intro H locs ls hl hP hD hS
  have he := jws_at (cy := cy) (ad := ad) (R := Rf) (M := M) hG
  exact va_alen (D := D) hx hb hK hP o 1 he rfl hv hd (k' H locs ls hl hP hD hS)

theorem j_alen2 {Γ : jG} {G : List (Nat × Nat)} {Rf : Nat → Nat → Option Nat} {cc : ByteArray} {nl : Nat} {own : String} {ret : Option FieldType} {rm : Room} {pc pc' : Nat} {lv : List (Nat × Value)} {rest : List Value} {M : jM} {Q : State → Prop} {o n : Nat} {v : Int32} (hC : jOK Γ cc nl own ret rm) (hd : decode cc pc = .ok (.arraylength, 1)) (hp : pc + 1 = pc') (hG : G[o]? = some (2, n)) (hv : Int32.ofNat n = v) (k' : jJ Γ G Rf pc' lv (.int v :: rest) M Q) : jJ Γ G Rf pc lv (.ref (jad Γ o) :: rest) M Q := by
  subst hp
  obtain ⟨p, l, e, R, s, m, args, below, meth, c, nL, D, cy, ad, st, A, kc, ks⟩ := Γ
  obtain ⟨hx, hb, hml, hown, hts, hR, hlk, hrt, hK, hZ, hN, hA, hnl, hkc, hks⟩ := hC
  intro H locs ls hl hP hD hS
  have he := jws_at (cy := cy) (ad := ad) (R := Rf) (M := M) hG
  exact va_alen (D := D) hx hb hK hP o 2 he rfl hv hd (k' H locs ls hl hP hD hS)

theorem j_gets {Γ : jG} {G : List (Nat × Nat)} {Rf : Nat → Nat → Option Nat} {cc : ByteArray} {nl : Nat} {own : String} {ret : Option FieldType} {rm : Room} {pc pc' : Nat} {lv : List (Nat × Value)} {rest : List Value} {M : jM} {Q : State → Prop} (j : Nat) {index : Nat} (hC : jOK Γ cc nl own ret rm) (hd : decode cc pc = .ok (.getstatic index, 3)) (hp : pc + 3 = pc') (hj : j < 5) (hw : Cond.fieldLinkNest own index "HoursByPost" (jsn j) (jsd j) "HoursByPost" ∈ jnw) (k' : jJ Γ G Rf pc' lv (.ref (jst Γ j) :: rest) M Q) : jJ Γ G Rf pc lv rest M Q := by
  subst hp
  obtain ⟨p, l, e, R, s, m, args, below, meth, c, nL, D, cy, ad, st, A, kc, ks⟩ := Γ
  obtain ⟨hx, hb, hml, hown, hts, hR, hlk, hrt, hK, hZ, hN, hA, hnl, hkc, hks⟩ := hC
  intro H locs ls hl hP hD hS
  exact va_getsN hx hb (hZ j hj).1 hS hown (va_Nw.use rfl (hN _ hw)) (fun _ h => h) hd (k' H locs ls hl hP hD hS)

theorem j_sldi {Γ : jG} {G : List (Nat × Nat)} {Rf : Nat → Nat → Option Nat} {cc : ByteArray} {nl : Nat} {own : String} {ret : Option FieldType} {rm : Room} {pc pc' : Nat} {lv : List (Nat × Value)} {rest : List Value} {M : jM} {Q : State → Prop} (j : Nat) {i : Int32} (hC : jOK Γ cc nl own ret rm) (hd : decode cc pc = .ok (.iaload, 1)) (hp : pc + 1 = pc') (hj : j < 3) (hi : jin i (jslen j) = true) (k' : jJ Γ G Rf pc' lv (.int ((jsI j).getD i.toNatClampNeg 0) :: rest) M Q) : jJ Γ G Rf pc lv (.int i :: .ref (jst Γ j) :: rest) M Q := by
  subst hp
  obtain ⟨p, l, e, R, s, m, args, below, meth, c, nL, D, cy, ad, st, A, kc, ks⟩ := Γ
  obtain ⟨hx, hb, hml, hown, hts, hR, hlk, hrt, hK, hZ, hN, hA, hnl, hkc, hks⟩ := hC
  intro H locs ls hl hP hD hS
  have ht : jsty j = .int := by rcases (show j = 0 ∨ j = 1 ∨ j = 2 by omega) with rfl | rfl | rfl <;> rfl
  have hT := (hZ j (by omega)).2
  rw [ht] at hT
  exact va_ti hx hb hT hS (jin_vp hi) (by simp [jsv, hj]) hd (k' H locs ls hl hP hD hS)

theorem j_sldl {Γ : jG} {G : List (Nat × Nat)} {Rf : Nat → Nat → Option Nat} {cc : ByteArray} {nl : Nat} {own : String} {ret : Option FieldType} {rm : Room} {pc pc' : Nat} {lv : List (Nat × Value)} {rest : List Value} {M : jM} {Q : State → Prop} (j : Nat) {i : Int32} (hC : jOK Γ cc nl own ret rm) (hd : decode cc pc = .ok (.laload, 1)) (hp : pc + 1 = pc') (hj : j = 3 ∨ j = 4) (hi : jin i (jslen j) = true) (k' : jJ Γ G Rf pc' lv (.long ((jsL j).getD i.toNatClampNeg 0) :: rest) M Q) : jJ Γ G Rf pc lv (.int i :: .ref (jst Γ j) :: rest) M Q := by
  subst hp
  obtain ⟨p, l, e, R, s, m, args, below, meth, c, nL, D, cy, ad, st, A, kc, ks⟩ := Γ
  obtain ⟨hx, hb, hml, hown, hts, hR, hlk, hrt, hK, hZ, hN, hA, hnl, hkc, hks⟩ := hC
  intro H locs ls hl hP hD hS
  have ht : jsty j = .long := by rcases hj with rfl | rfl <;> rfl
  have hT := (hZ j (by omega)).2
  rw [ht] at hT
  exact va_tl hx hb hT hS (jin_vp hi) (by simp [jsv, show ¬ j < 3 by omega]) hd (k' H locs ls hl hP hD hS)

theorem j_slen {Γ : jG} {G : List (Nat × Nat)} {Rf : Nat → Nat → Option Nat} {cc : ByteArray} {nl : Nat} {own : String} {ret : Option FieldType} {rm : Room} {pc pc' : Nat} {lv : List (Nat × Value)} {rest : List Value} {M : jM} {Q : State → Prop} (j : Nat) {v : Int32} (hC : jOK Γ cc nl own ret rm) (hd : decode cc pc = .ok (.arraylength, 1)) (hp : pc + 1 = pc') (hj : j < 5) (hv : Int32.ofNat (jslen j) = v) (k' : jJ Γ G Rf pc' lv (.int v :: rest) M Q) : jJ Γ G Rf pc lv (.ref (jst Γ j) :: rest) M Q := by
  subst hp
  obtain ⟨p, l, e, R, s, m, args, below, meth, c, nL, D, cy, ad, st, A, kc, ks⟩ := Γ
  obtain ⟨hx, hb, hml, hown, hts, hR, hlk, hrt, hK, hZ, hN, hA, hnl, hkc, hks⟩ := hC
  intro H locs ls hl hP hD hS
  exact va_tlen hx hb (hZ j hj).2 hS hv hd (k' H locs ls hl hP hD hS)
end
section
abbrev jE : Type := va_G × (Nat → ClassId) × (Nat → Nat) × (Nat → Nat)
def jEo (Γ : jG) : jE := match Γ with
  | (p, l, e, R, s, m, args, below, meth, c, nL, D, cy, ad, st, A, kc, ks) => (D, cy, ad, st)
def jlo (Γ : jG) : Launch := match Γ with
  | (p, l, e, R, s, m, args, below, meth, c, nL, D, cy, ad, st, A, kc, ks) => l
def jPre (E : jE) (Rf : Nat → Nat → Option Nat) (G : List (Nat × Nat)) (M : jM) (sz : Nat) (U : State) : Prop := U.heap.size = sz ∧ va_P E.1 vwCl (jws E.2.1 E.2.2.1 Rf M G) U.heap ∧ va_K E.1 vwCl (jtys E.2.1) U ∧ va_D (fun _ => True) (jws E.2.1 E.2.2.1 Rf M G) ∧ jZ E.2.2.2 (va_A (jws E.2.1 E.2.2.1 Rf M G) sz) U U.heap ∧ jN U
def jPost (E : jE) (Rf : Nat → Nat → Option Nat) (G : List (Nat × Nat)) (A : Nat → Prop) (M : jM) (t : State) : Prop := va_P E.1 vwCl (jws E.2.1 E.2.2.1 Rf M G) t.heap ∧ va_K E.1 vwCl (jtys E.2.1) t ∧ va_D A (jws E.2.1 E.2.2.1 Rf M G)
theorem jPre_blind {E : jE} {Rf : Nat → Nat → Option Nat} {G : List (Nat × Nat)} {M : jM} {sz : Nat} {av : List Value} : FrameBlind (va_Pc av (jPre E Rf G M sz)) := fun a U g mk q => by
  obtain ⟨q0, q1, qP, qK, qD, qZ, qN⟩ := q
  exact ⟨q0, q1, qP, va_K.moved (u := U) (U := U.calling g mk a) (Vm.Alike.refl U.vm) qK, qD, jZ_moved (u := U) (U := U.calling g mk a) (Vm.Alike.refl U.vm) qZ, jN_same (u := U) (U := U.calling g mk a) rfl qN⟩
theorem jgood {y : MethodName} {cc : ByteArray} {nl : Nat} {ret : Option FieldType} (h : Cond.code y cc nl ret ∈ jtb) : GoodIn jtb (.code y cc nl ret :: jtb) := fun w hw => by
  rcases List.mem_cons.mp hw with rfl | hw
  · exact ⟨h, jtb_good h⟩
  · exact ⟨hw, jtb_good hw⟩

def jCi (l : Launch) (y : MethodName) (cc : ByteArray) (nl : Nat) (ret : Option FieldType) (fr lc : Nat) (E : jE) (Rf : Nat → Nat → Option Nat) (G : List (Nat × Nat)) (av : (Nat → Nat) → (Nat → Nat) → List Value) (M : jM) (r : Int32) (M' : jM) : Prop := ∀ sz : Nat, Met l y (.code y cc nl ret :: jtb) { frames := fr, cells := 0, slots := 0, locals := lc } (va_Pc (av E.2.2.1 E.2.2.2) (jPre E Rf G M sz)) (va_Qi (fun (r' : Int32) (_ : Unit) => r' = r) (fun (_ : Unit) t => jPost E Rf G (va_A (jws E.2.1 E.2.2.1 Rf M G) sz) M' t) (va_A (jws E.2.1 E.2.2.1 Rf M G) sz)) 0 0 (va_A (jws E.2.1 E.2.2.1 Rf M G) sz)
def jQi (Γ : jG) (Rf : Nat → Nat → Option Nat) (G : List (Nat × Nat)) (r : Int32) (M' : jM) : State → Prop := match Γ with
  | (p, l, e, R, s, m, args, below, meth, c, nL, D, cy, ad, st, A, kc, ks) => MQ below (va_Qi (fun (r' : Int32) (_ : Unit) => r' = r) (fun (_ : Unit) t => jPost (D, cy, ad, st) Rf G A M' t) A) args s kc ks A
theorem jCi_of {l : Launch} {y : MethodName} {cc : ByteArray} {nl : Nat} {own : String} {ret : Option FieldType} {fr lc : Nat} {E : jE} {Rf : Nat → Nat → Option Nat} {G : List (Nat × Nat)} {av : (Nat → Nat) → (Nat → Nat) → List Value} {M M' : jM} {r : Int32} (hy : plainName y.cls = true) (ho : y.cls = own) (hav : ∀ a b, (lg_sl (av a b)).length ≤ nl)
    (body : ∀ Γ : jG, jOK Γ cc nl own ret { frames := fr, cells := 0, slots := 0, locals := lc } → jJ Γ G Rf 0 (lv_args 0 (av (jad Γ) (jst Γ))) [] M (jQi Γ Rf G r M')) : jCi l y cc nl ret fr lc E Rf G av M r M' := by
  intro sz
  obtain ⟨D, cy, ad, st⟩ := E
  refine Met.ofW (cc := cc) (maxL := nl) (ret := ret) hy rfl ?_
  intro p e s m args below meth c s₁ B hml hv
  obtain ⟨rfl, hsz, hP, hK, hD, hZ, hN⟩ := hv
  subst hsz
  have hts := atoms_spec (ws := .code y cc nl ret :: jtb) B.pre
  have hown : s.vm.findClass own = some m.cls := by rw [← ho]; exact findClass_of_methodNamed B.named
  have hb := body (p, l, e, { frames := fr, cells := 0, slots := 0, locals := lc }, s, m, (av ad st).toArray, below, meth, c, nl, D, cy, ad, st, va_A (jws cy ad Rf M G) s.heap.size, 0, 0) ⟨B.exec, B.bytes, hml, hown, fun w h => hts w (List.mem_cons_of_mem _ h), rfl, B.notSynchronized, B.returns, hK, hZ, hN, fun q h => Or.inr h, rfl, Nat.le_refl _, Nat.le_refl _⟩
  show W _ _ _ _ _ _ _ _ _ _ _ _ _ _ _ (entryFrame m (av ad st).toArray nl)
  rw [lg_entry_eq]
  exact hb s.heap [] _ (lv_entry (av ad st) (hav ad st)) hP hD.self va_S.rf

def jCl (l : Launch) (y : MethodName) (cc : ByteArray) (nl : Nat) (ret : Option FieldType) (fr lc : Nat) (E : jE) (Rf : Nat → Nat → Option Nat) (G : List (Nat × Nat)) (av : (Nat → Nat) → (Nat → Nat) → List Value) (M : jM) (r : Int64) (M' : jM) : Prop := ∀ sz : Nat, Met l y (.code y cc nl ret :: jtb) { frames := fr, cells := 0, slots := 0, locals := lc } (va_Pc (av E.2.2.1 E.2.2.2) (jPre E Rf G M sz)) (va_Ql (fun (r' : Int64) (_ : Unit) => r' = r) (fun (_ : Unit) t => jPost E Rf G (va_A (jws E.2.1 E.2.2.1 Rf M G) sz) M' t) (va_A (jws E.2.1 E.2.2.1 Rf M G) sz)) 0 0 (va_A (jws E.2.1 E.2.2.1 Rf M G) sz)
def jQl (Γ : jG) (Rf : Nat → Nat → Option Nat) (G : List (Nat × Nat)) (r : Int64) (M' : jM) : State → Prop := match Γ with
  | (p, l, e, R, s, m, args, below, meth, c, nL, D, cy, ad, st, A, kc, ks) => MQ below (va_Ql (fun (r' : Int64) (_ : Unit) => r' = r) (fun (_ : Unit) t => jPost (D, cy, ad, st) Rf G A M' t) A) args s kc ks A
theorem jCl_of {l : Launch} {y : MethodName} {cc : ByteArray} {nl : Nat} {own : String} {ret : Option FieldType} {fr lc : Nat} {E : jE} {Rf : Nat → Nat → Option Nat} {G : List (Nat × Nat)} {av : (Nat → Nat) → (Nat → Nat) → List Value} {M M' : jM} {r : Int64} (hy : plainName y.cls = true) (ho : y.cls = own) (hav : ∀ a b, (lg_sl (av a b)).length ≤ nl)
    (body : ∀ Γ : jG, jOK Γ cc nl own ret { frames := fr, cells := 0, slots := 0, locals := lc } → jJ Γ G Rf 0 (lv_args 0 (av (jad Γ) (jst Γ))) [] M (jQl Γ Rf G r M')) : jCl l y cc nl ret fr lc E Rf G av M r M' := by
  intro sz
  obtain ⟨D, cy, ad, st⟩ := E
  refine Met.ofW (cc := cc) (maxL := nl) (ret := ret) hy rfl ?_
  intro p e s m args below meth c s₁ B hml hv
  obtain ⟨rfl, hsz, hP, hK, hD, hZ, hN⟩ := hv
  subst hsz
  have hts := atoms_spec (ws := .code y cc nl ret :: jtb) B.pre
  have hown : s.vm.findClass own = some m.cls := by rw [← ho]; exact findClass_of_methodNamed B.named
  have hb := body (p, l, e, { frames := fr, cells := 0, slots := 0, locals := lc }, s, m, (av ad st).toArray, below, meth, c, nl, D, cy, ad, st, va_A (jws cy ad Rf M G) s.heap.size, 0, 0) ⟨B.exec, B.bytes, hml, hown, fun w h => hts w (List.mem_cons_of_mem _ h), rfl, B.notSynchronized, B.returns, hK, hZ, hN, fun q h => Or.inr h, rfl, Nat.le_refl _, Nat.le_refl _⟩
  show W _ _ _ _ _ _ _ _ _ _ _ _ _ _ _ (entryFrame m (av ad st).toArray nl)
  rw [lg_entry_eq]
  exact hb s.heap [] _ (lv_entry (av ad st) (hav ad st)) hP hD.self va_S.rf

def jCv (l : Launch) (y : MethodName) (cc : ByteArray) (nl : Nat) (ret : Option FieldType) (fr lc : Nat) (E : jE) (Rf : Nat → Nat → Option Nat) (G : List (Nat × Nat)) (av : (Nat → Nat) → (Nat → Nat) → List Value) (M : jM)  (M' : jM) : Prop := ∀ sz : Nat, Met l y (.code y cc nl ret :: jtb) { frames := fr, cells := 0, slots := 0, locals := lc } (va_Pc (av E.2.2.1 E.2.2.2) (jPre E Rf G M sz)) (va_Qv (fun (_ : Unit) => True) (fun (_ : Unit) t => jPost E Rf G (va_A (jws E.2.1 E.2.2.1 Rf M G) sz) M' t) (va_A (jws E.2.1 E.2.2.1 Rf M G) sz)) 0 0 (va_A (jws E.2.1 E.2.2.1 Rf M G) sz)
def jQv (Γ : jG) (Rf : Nat → Nat → Option Nat) (G : List (Nat × Nat))  (M' : jM) : State → Prop := match Γ with
  | (p, l, e, R, s, m, args, below, meth, c, nL, D, cy, ad, st, A, kc, ks) => MQ below (va_Qv (fun (_ : Unit) => True) (fun (_ : Unit) t => jPost (D, cy, ad, st) Rf G A M' t) A) args s kc ks A
theorem jCv_of {l : Launch} {y : MethodName} {cc : ByteArray} {nl : Nat} {own : String} {ret : Option FieldType} {fr lc : Nat} {E : jE} {Rf : Nat → Nat → Option Nat} {G : List (Nat × Nat)} {av : (Nat → Nat) → (Nat → Nat) → List Value} {M M' : jM}  (hy : plainName y.cls = true) (ho : y.cls = own) (hav : ∀ a b, (lg_sl (av a b)).length ≤ nl)
    (body : ∀ Γ : jG, jOK Γ cc nl own ret { frames := fr, cells := 0, slots := 0, locals := lc } → jJ Γ G Rf 0 (lv_args 0 (av (jad Γ) (jst Γ))) [] M (jQv Γ Rf G  M')) : jCv l y cc nl ret fr lc E Rf G av M  M' := by
  intro sz
  obtain ⟨D, cy, ad, st⟩ := E
  refine Met.ofW (cc := cc) (maxL := nl) (ret := ret) hy rfl ?_
  intro p e s m args below meth c s₁ B hml hv
  obtain ⟨rfl, hsz, hP, hK, hD, hZ, hN⟩ := hv
  subst hsz
  have hts := atoms_spec (ws := .code y cc nl ret :: jtb) B.pre
  have hown : s.vm.findClass own = some m.cls := by rw [← ho]; exact findClass_of_methodNamed B.named
  have hb := body (p, l, e, { frames := fr, cells := 0, slots := 0, locals := lc }, s, m, (av ad st).toArray, below, meth, c, nl, D, cy, ad, st, va_A (jws cy ad Rf M G) s.heap.size, 0, 0) ⟨B.exec, B.bytes, hml, hown, fun w h => hts w (List.mem_cons_of_mem _ h), rfl, B.notSynchronized, B.returns, hK, hZ, hN, fun q h => Or.inr h, rfl, Nat.le_refl _, Nat.le_refl _⟩
  show W _ _ _ _ _ _ _ _ _ _ _ _ _ _ _ (entryFrame m (av ad st).toArray nl)
  rw [lg_entry_eq]
  exact hb s.heap [] _ (lv_entry (av ad st) (hav ad st)) hP hD.self va_S.rf

theorem j_iret {Γ : jG} {G : List (Nat × Nat)} {Rf : Nat → Nat → Option Nat} {cc : ByteArray} {nl : Nat} {own : String} {rm : Room} {pc pc' : Nat} {lv : List (Nat × Value)} {rest : List Value} {M : jM} {r : Int32} (hC : jOK Γ cc nl own (some .int) rm) (hd : decode cc pc = .ok (.ireturn, 1))  : jJ Γ G Rf pc lv ([.int r]) M (jQi Γ Rf G r M) := by
  obtain ⟨p, l, e, R, s, m, args, below, meth, c, nL, D, cy, ad, st, A, kc, ks⟩ := Γ
  obtain ⟨hx, hb, hml, hown, hts, hR, hlk, hrt, hK, hZ, hN, hA, hnl, hkc, hks⟩ := hC
  intro H locs ls hl hP hD hS
  exact W.iret hx hb hrt (fun t ht hW => ⟨⟨r, (), rfl, rfl, by rw [ht]; exact hP, va_K.moved hW.alike hK, hD⟩, hS.F ht⟩) hS.2.2 hd hlk

theorem j_zret {Γ : jG} {G : List (Nat × Nat)} {Rf : Nat → Nat → Option Nat} {cc : ByteArray} {nl : Nat} {own : String} {rm : Room} {pc pc' : Nat} {lv : List (Nat × Value)} {rest : List Value} {M : jM} {r : Int32} (hC : jOK Γ cc nl own (some .boolean) rm) (hd : decode cc pc = .ok (.ireturn, 1)) (hn : r &&& 1 = r) : jJ Γ G Rf pc lv ([.int r]) M (jQi Γ Rf G r M) := by
  obtain ⟨p, l, e, R, s, m, args, below, meth, c, nL, D, cy, ad, st, A, kc, ks⟩ := Γ
  obtain ⟨hx, hb, hml, hown, hts, hR, hlk, hrt, hK, hZ, hN, hA, hnl, hkc, hks⟩ := hC
  intro H locs ls hl hP hD hS
  exact W.zret hx hb hrt (show Value.int (r &&& 1) = .int r by rw [hn]) (fun t ht hW => ⟨⟨r, (), rfl, rfl, by rw [ht]; exact hP, va_K.moved hW.alike hK, hD⟩, hS.F ht⟩) hS.2.2 hd hlk

theorem j_lret {Γ : jG} {G : List (Nat × Nat)} {Rf : Nat → Nat → Option Nat} {cc : ByteArray} {nl : Nat} {own : String} {rm : Room} {pc pc' : Nat} {lv : List (Nat × Value)} {rest : List Value} {M : jM} {r : Int64} (hC : jOK Γ cc nl own (some .long) rm) (hd : decode cc pc = .ok (.lreturn, 1))  : jJ Γ G Rf pc lv ([.long r]) M (jQl Γ Rf G r M) := by
  obtain ⟨p, l, e, R, s, m, args, below, meth, c, nL, D, cy, ad, st, A, kc, ks⟩ := Γ
  obtain ⟨hx, hb, hml, hown, hts, hR, hlk, hrt, hK, hZ, hN, hA, hnl, hkc, hks⟩ := hC
  intro H locs ls hl hP hD hS
  exact W.lret hx hb hrt (fun t ht hW => ⟨⟨r, (), rfl, rfl, by rw [ht]; exact hP, va_K.moved hW.alike hK, hD⟩, hS.F ht⟩) hS.2.2 hd hlk

theorem j_vret {Γ : jG} {G : List (Nat × Nat)} {Rf : Nat → Nat → Option Nat} {cc : ByteArray} {nl : Nat} {own : String} {rm : Room} {pc pc' : Nat} {lv : List (Nat × Value)} {rest : List Value} {M : jM}  (hC : jOK Γ cc nl own (none) rm) (hd : decode cc pc = .ok (.return_, 1))  : jJ Γ G Rf pc lv ([]) M (jQv Γ Rf G  M) := by
  obtain ⟨p, l, e, R, s, m, args, below, meth, c, nL, D, cy, ad, st, A, kc, ks⟩ := Γ
  obtain ⟨hx, hb, hml, hown, hts, hR, hlk, hrt, hK, hZ, hN, hA, hnl, hkc, hks⟩ := hC
  intro H locs ls hl hP hD hS
  exact W.vret hx hb hrt (fun t ht hW => ⟨⟨(), rfl, trivial, by rw [ht]; exact hP, va_K.moved hW.alike hK, hD⟩, hS.F ht⟩) hS.2.2 hd hlk

def jdesc (y : MethodName) (n : Nat) : Prop := y.cls ≠ "java/lang/invoke/MethodHandle" ∧ y.cls ≠ "java/lang/invoke/VarHandle" ∧ (parseMethodDescriptor y.desc).map (fun d => d.parameters.length) = some n
def jcwV (own : String) (index : Nat) (C : String) (y : MethodName) (cc : ByteArray) (nl : Nat) (ret : Option FieldType) (n : Nat) : Prop := Cond.methodLink own index y ∈ jtb ∧ Cond.instanceMethod y ∈ jtb ∧ Cond.selects C y y ∈ jtb ∧ Cond.initialized C ∈ jtb ∧ Cond.code y cc nl ret ∈ jtb ∧ y.cls = C ∧ jdesc y n
def jcwS (own : String) (index : Nat) (y : MethodName) (cc : ByteArray) (nl : Nat) (ret : Option FieldType) (n : Nat) : Prop := Cond.methodLink own index y ∈ jtb ∧ Cond.static y ∈ jtb ∧ Cond.initialized y.cls ∈ jtb ∧ Cond.code y cc nl ret ∈ jtb ∧ jdesc y n
def jcwN (own : String) (index : Nat) (host : String) (y : MethodName) (cc : ByteArray) (nl : Nat) (ret : Option FieldType) (n : Nat) : Prop := Cond.methodLinkNest own index y host ∈ jnw ∧ Cond.static y ∈ jtb ∧ Cond.initialized y.cls ∈ jtb ∧ Cond.code y cc nl ret ∈ jtb ∧ jdesc y n

theorem j_callVi {Γ : jG} {G : List (Nat × Nat)} {Rf : Nat → Nat → Option Nat} {cc : ByteArray} {nl : Nat} {own : String} {ret : Option FieldType} {rm : Room} {pc pc' : Nat} {lv : List (Nat × Value)} {rest : List Value} {M : jM} {Q : State → Prop} {y : MethodName} {ccy : ByteArray} {nly : Nat} {rety : Option FieldType} {fr lc index n : Nat} {av : (Nat → Nat) → (Nat → Nat) → List Value} {M' : jM} {stk : List Value} (As : List Value) {r : Int32} {o ci nn N : Nat} {C : String} {T : u_T} (hC : jOK Γ cc nl own ret rm) (hd : decode cc pc = .ok (.invokevirtual index, 3)) (hp : pc + 3 = pc') (hM : jCi (jlo Γ) y ccy nly rety fr lc (jEo Γ) Rf G av M r M') (hG : G[o]? = some (10 + ci, nn)) (hcl : vwCl[ci]? = some (C, T, N)) (hw : jcwV own index C y ccy nly rety n) (hr : (fr + 1 ≤ rm.frames ∧ 8 + (nly + 11) + lc ≤ rm.locals) ∧ As.length = n ∧ (rest.map fun v => v.category).sum ≤ 8) (hav : av (jad Γ) (jst Γ) = .ref (jad Γ o) :: As) (hst : stk = As.reverse ++ .ref (jad Γ o) :: rest) (k : jJ Γ G Rf pc' lv (.int r :: rest) M' Q) : jJ Γ G Rf pc lv stk M Q := by
  subst hp
  subst hst
  obtain ⟨p, l, e, R, s, m, args, below, meth, c, nL, D, cy, ad, st, A, kc, ks⟩ := Γ
  obtain ⟨hx, hb, hml, hown, hts, hR, hlk, hrt, hK, hZ, hN, hA, hnl, hkc, hks⟩ := hC
  intro H locs ls hl hP hD hS
  have hFc : ∀ q, va_A (jws cy ad Rf M G) H.size q → A q := fun q h => by
    rcases h with ⟨k9, e9, h9⟩ | h9
    · exact hD.2 k9 (q, e9) h9
    · exact hA q (Nat.le_trans hS.1 h9)
  have hU : ∀ U : State, U.heap = H → s.WarmedH U.vm → jPre (D, cy, ad, st) Rf G M H.size U := fun U hUh hW => ⟨by rw [hUh], by rw [hUh]; exact hP, va_K.moved hW.alike hK, hD.weaken (fun _ _ _ _ => trivial), by rw [hUh]; exact jZ_moved hW.alike (jZ_narrow (jZ_kept hZ (fun a h1 h2 => hS.2.1 a h1 h2)) hFc), jN_warm hW hN⟩
  have hM1 := hM H.size
  have hav1 : av ad st = .ref (ad o) :: As := hav
  have he := jws_at (cy := cy) (ad := ad) (R := Rf) (M := M) hG
  rw [jcell_o] at he
  obtain ⟨w1, w2, w3, w4, w5, w6, w7⟩ := hw
  have hGI : GoodIn jtb (wsV own index C y (.code y ccy nly rety :: jtb)) := fun w hw => by
    rcases List.mem_append.mp hw with hw | hw
    · simp only [List.mem_cons, List.mem_nil_iff, or_false] at hw
      rcases hw with rfl | rfl | rfl | rfl
      · exact ⟨w1, jtb_good w1⟩
      · exact ⟨w2, jtb_good w2⟩
      · exact ⟨w3, jtb_good w3⟩
      · exact ⟨w4, jtb_good w4⟩
    · exact jgood w5 w hw
  subst hR
  refine va_calli (va_runV (As := As) (rest := rest) ⟨hx, hb, hml, hown, hts⟩ hM1 (cwV n hts hGI rfl rfl rfl ⟨w6, w7⟩ hr.1) ⟨jPre_blind, va_recv hK hP hcl he, fun U hUh hW => ⟨(congrArg List.toArray hav1).symm, hU U hUh hW⟩⟩ rfl hr.2.1 hl.1 rfl (lv_room hr.2.2) hd ⟨hkc, hks⟩) hS (fun q _ h => hFc q h) hFc (fun r9 u t H1 locs1 ht hvm hw9 hB hz1 hk1 hS1 => ?_)
  subst hw9
  obtain ⟨hP1, hK1, hD1⟩ := hB
  rw [ht] at hP1
  exact k H1 locs1 ls hl hP1 (hD1.weaken (fun _ q _ h => hFc q.1 h)) hS1

theorem j_callSi {Γ : jG} {G : List (Nat × Nat)} {Rf : Nat → Nat → Option Nat} {cc : ByteArray} {nl : Nat} {own : String} {ret : Option FieldType} {rm : Room} {pc pc' : Nat} {lv : List (Nat × Value)} {rest : List Value} {M : jM} {Q : State → Prop} {y : MethodName} {ccy : ByteArray} {nly : Nat} {rety : Option FieldType} {fr lc index n : Nat} {av : (Nat → Nat) → (Nat → Nat) → List Value} {M' : jM} {stk : List Value} (As : List Value) {r : Int32} (hC : jOK Γ cc nl own ret rm) (hd : decode cc pc = .ok (.invokestatic index, 3)) (hp : pc + 3 = pc') (hM : jCi (jlo Γ) y ccy nly rety fr lc (jEo Γ) Rf G av M r M') (hw : jcwS own index y ccy nly rety n) (hr : (fr + 1 ≤ rm.frames ∧ 8 + (nly + 11) + lc ≤ rm.locals) ∧ As.length = n ∧ (rest.map fun v => v.category).sum ≤ 8) (hav : av (jad Γ) (jst Γ) = As) (hst : stk = As.reverse ++ rest) (k : jJ Γ G Rf pc' lv (.int r :: rest) M' Q) : jJ Γ G Rf pc lv stk M Q := by
  subst hp
  subst hst
  obtain ⟨p, l, e, R, s, m, args, below, meth, c, nL, D, cy, ad, st, A, kc, ks⟩ := Γ
  obtain ⟨hx, hb, hml, hown, hts, hR, hlk, hrt, hK, hZ, hN, hA, hnl, hkc, hks⟩ := hC
  intro H locs ls hl hP hD hS
  have hFc : ∀ q, va_A (jws cy ad Rf M G) H.size q → A q := fun q h => by
    rcases h with ⟨k9, e9, h9⟩ | h9
    · exact hD.2 k9 (q, e9) h9
    · exact hA q (Nat.le_trans hS.1 h9)
  have hU : ∀ U : State, U.heap = H → s.WarmedH U.vm → jPre (D, cy, ad, st) Rf G M H.size U := fun U hUh hW => ⟨by rw [hUh], by rw [hUh]; exact hP, va_K.moved hW.alike hK, hD.weaken (fun _ _ _ _ => trivial), by rw [hUh]; exact jZ_moved hW.alike (jZ_narrow (jZ_kept hZ (fun a h1 h2 => hS.2.1 a h1 h2)) hFc), jN_warm hW hN⟩
  have hM1 := hM H.size
  have hav1 : av ad st = As := hav
  obtain ⟨w1, w2, w3, w5, w7⟩ := hw
  have hGI : GoodIn jtb (va_wsS own index y (.code y ccy nly rety :: jtb)) := fun w hw => by
    rcases List.mem_append.mp hw with hw | hw
    · simp only [List.mem_cons, List.mem_nil_iff, or_false] at hw
      rcases hw with rfl | rfl | rfl
      · exact ⟨w1, jtb_good w1⟩
      · exact ⟨w2, jtb_good w2⟩
      · exact ⟨w3, jtb_good w3⟩
    · exact jgood w5 w hw
  subst hR
  refine va_calli (va_runS (As := As) (rest := rest) ⟨hx, hb, hml, hown, hts⟩ hM1 (va_cwS n hts hGI rfl rfl rfl w7 hr.1) ⟨jPre_blind, fun U hUh hW => ⟨(congrArg List.toArray hav1).symm, hU U hUh hW⟩⟩ rfl hr.2.1 hl.1 rfl (lv_room hr.2.2) hd ⟨hkc, hks⟩) hS (fun q _ h => hFc q h) hFc (fun r9 u t H1 locs1 ht hvm hw9 hB hz1 hk1 hS1 => ?_)
  subst hw9
  obtain ⟨hP1, hK1, hD1⟩ := hB
  rw [ht] at hP1
  exact k H1 locs1 ls hl hP1 (hD1.weaken (fun _ q _ h => hFc q.1 h)) hS1

theorem j_callNi {Γ : jG} {G : List (Nat × Nat)} {Rf : Nat → Nat → Option Nat} {cc : ByteArray} {nl : Nat} {own : String} {ret : Option FieldType} {rm : Room} {pc pc' : Nat} {lv : List (Nat × Value)} {rest : List Value} {M : jM} {Q : State → Prop} {y : MethodName} {ccy : ByteArray} {nly : Nat} {rety : Option FieldType} {fr lc index n : Nat} {av : (Nat → Nat) → (Nat → Nat) → List Value} {M' : jM} {stk : List Value} (As : List Value) {r : Int32} {host : String} (hC : jOK Γ cc nl own ret rm) (hd : decode cc pc = .ok (.invokestatic index, 3)) (hp : pc + 3 = pc') (hM : jCi (jlo Γ) y ccy nly rety fr lc (jEo Γ) Rf G av M r M') (hw : jcwN own index host y ccy nly rety n) (hr : (fr + 1 ≤ rm.frames ∧ 8 + (nly + 11) + lc ≤ rm.locals) ∧ As.length = n ∧ (rest.map fun v => v.category).sum ≤ 8) (hav : av (jad Γ) (jst Γ) = As) (hst : stk = As.reverse ++ rest) (k : jJ Γ G Rf pc' lv (.int r :: rest) M' Q) : jJ Γ G Rf pc lv stk M Q := by
  subst hp
  subst hst
  obtain ⟨p, l, e, R, s, m, args, below, meth, c, nL, D, cy, ad, st, A, kc, ks⟩ := Γ
  obtain ⟨hx, hb, hml, hown, hts, hR, hlk, hrt, hK, hZ, hN, hA, hnl, hkc, hks⟩ := hC
  intro H locs ls hl hP hD hS
  have hFc : ∀ q, va_A (jws cy ad Rf M G) H.size q → A q := fun q h => by
    rcases h with ⟨k9, e9, h9⟩ | h9
    · exact hD.2 k9 (q, e9) h9
    · exact hA q (Nat.le_trans hS.1 h9)
  have hU : ∀ U : State, U.heap = H → s.WarmedH U.vm → jPre (D, cy, ad, st) Rf G M H.size U := fun U hUh hW => ⟨by rw [hUh], by rw [hUh]; exact hP, va_K.moved hW.alike hK, hD.weaken (fun _ _ _ _ => trivial), by rw [hUh]; exact jZ_moved hW.alike (jZ_narrow (jZ_kept hZ (fun a h1 h2 => hS.2.1 a h1 h2)) hFc), jN_warm hW hN⟩
  have hM1 := hM H.size
  have hav1 : av ad st = As := hav
  obtain ⟨w1, w2, w3, w5, w7⟩ := hw
  subst hR
  refine va_calli (va_runSN (As := As) (rest := rest) ⟨hx, hb, hml, hown, hts⟩ hM1 ⟨va_cnB n hts (jgood w5) rfl rfl rfl (hN _ w1) (hts _ w3) w7 hr.1, hts _ w2, trivial⟩ ⟨jPre_blind, fun U hUh hW => ⟨(congrArg List.toArray hav1).symm, hU U hUh hW⟩⟩ rfl hr.2.1 hl.1 rfl (lv_room hr.2.2) hd ⟨hkc, hks⟩) hS (fun q _ h => hFc q h) hFc (fun r9 u t H1 locs1 ht hvm hw9 hB hz1 hk1 hS1 => ?_)
  subst hw9
  obtain ⟨hP1, hK1, hD1⟩ := hB
  rw [ht] at hP1
  exact k H1 locs1 ls hl hP1 (hD1.weaken (fun _ q _ h => hFc q.1 h)) hS1

theorem j_callVl {Γ : jG} {G : List (Nat × Nat)} {Rf : Nat → Nat → Option Nat} {cc : ByteArray} {nl : Nat} {own : String} {ret : Option FieldType} {rm : Room} {pc pc' : Nat} {lv : List (Nat × Value)} {rest : List Value} {M : jM} {Q : State → Prop} {y : MethodName} {ccy : ByteArray} {nly : Nat} {rety : Option FieldType} {fr lc index n : Nat} {av : (Nat → Nat) → (Nat → Nat) → List Value} {M' : jM} {stk : List Value} (As : List Value) {r : Int64} {o ci nn N : Nat} {C : String} {T : u_T} (hC : jOK Γ cc nl own ret rm) (hd : decode cc pc = .ok (.invokevirtual index, 3)) (hp : pc + 3 = pc') (hM : jCl (jlo Γ) y ccy nly rety fr lc (jEo Γ) Rf G av M r M') (hG : G[o]? = some (10 + ci, nn)) (hcl : vwCl[ci]? = some (C, T, N)) (hw : jcwV own index C y ccy nly rety n) (hr : (fr + 1 ≤ rm.frames ∧ 8 + (nly + 11) + lc ≤ rm.locals) ∧ As.length = n ∧ (rest.map fun v => v.category).sum ≤ 8) (hav : av (jad Γ) (jst Γ) = .ref (jad Γ o) :: As) (hst : stk = As.reverse ++ .ref (jad Γ o) :: rest) (k : jJ Γ G Rf pc' lv (.long r :: rest) M' Q) : jJ Γ G Rf pc lv stk M Q := by
  subst hp
  subst hst
  obtain ⟨p, l, e, R, s, m, args, below, meth, c, nL, D, cy, ad, st, A, kc, ks⟩ := Γ
  obtain ⟨hx, hb, hml, hown, hts, hR, hlk, hrt, hK, hZ, hN, hA, hnl, hkc, hks⟩ := hC
  intro H locs ls hl hP hD hS
  have hFc : ∀ q, va_A (jws cy ad Rf M G) H.size q → A q := fun q h => by
    rcases h with ⟨k9, e9, h9⟩ | h9
    · exact hD.2 k9 (q, e9) h9
    · exact hA q (Nat.le_trans hS.1 h9)
  have hU : ∀ U : State, U.heap = H → s.WarmedH U.vm → jPre (D, cy, ad, st) Rf G M H.size U := fun U hUh hW => ⟨by rw [hUh], by rw [hUh]; exact hP, va_K.moved hW.alike hK, hD.weaken (fun _ _ _ _ => trivial), by rw [hUh]; exact jZ_moved hW.alike (jZ_narrow (jZ_kept hZ (fun a h1 h2 => hS.2.1 a h1 h2)) hFc), jN_warm hW hN⟩
  have hM1 := hM H.size
  have hav1 : av ad st = .ref (ad o) :: As := hav
  have he := jws_at (cy := cy) (ad := ad) (R := Rf) (M := M) hG
  rw [jcell_o] at he
  obtain ⟨w1, w2, w3, w4, w5, w6, w7⟩ := hw
  have hGI : GoodIn jtb (wsV own index C y (.code y ccy nly rety :: jtb)) := fun w hw => by
    rcases List.mem_append.mp hw with hw | hw
    · simp only [List.mem_cons, List.mem_nil_iff, or_false] at hw
      rcases hw with rfl | rfl | rfl | rfl
      · exact ⟨w1, jtb_good w1⟩
      · exact ⟨w2, jtb_good w2⟩
      · exact ⟨w3, jtb_good w3⟩
      · exact ⟨w4, jtb_good w4⟩
    · exact jgood w5 w hw
  subst hR
  refine va_calll (va_runV (As := As) (rest := rest) ⟨hx, hb, hml, hown, hts⟩ hM1 (cwV n hts hGI rfl rfl rfl ⟨w6, w7⟩ hr.1) ⟨jPre_blind, va_recv hK hP hcl he, fun U hUh hW => ⟨(congrArg List.toArray hav1).symm, hU U hUh hW⟩⟩ rfl hr.2.1 hl.1 rfl (lv_room hr.2.2) hd ⟨hkc, hks⟩) hS (fun q _ h => hFc q h) hFc (fun r9 u t H1 locs1 ht hvm hw9 hB hz1 hk1 hS1 => ?_)
  subst hw9
  obtain ⟨hP1, hK1, hD1⟩ := hB
  rw [ht] at hP1
  exact k H1 locs1 ls hl hP1 (hD1.weaken (fun _ q _ h => hFc q.1 h)) hS1

theorem j_callSl {Γ : jG} {G : List (Nat × Nat)} {Rf : Nat → Nat → Option Nat} {cc : ByteArray} {nl : Nat} {own : String} {ret : Option FieldType} {rm : Room} {pc pc' : Nat} {lv : List (Nat × Value)} {rest : List Value} {M : jM} {Q : State → Prop} {y : MethodName} {ccy : ByteArray} {nly : Nat} {rety : Option FieldType} {fr lc index n : Nat} {av : (Nat → Nat) → (Nat → Nat) → List Value} {M' : jM} {stk : List Value} (As : List Value) {r : Int64} (hC : jOK Γ cc nl own ret rm) (hd : decode cc pc = .ok (.invokestatic index, 3)) (hp : pc + 3 = pc') (hM : jCl (jlo Γ) y ccy nly rety fr lc (jEo Γ) Rf G av M r M') (hw : jcwS own index y ccy nly rety n) (hr : (fr + 1 ≤ rm.frames ∧ 8 + (nly + 11) + lc ≤ rm.locals) ∧ As.length = n ∧ (rest.map fun v => v.category).sum ≤ 8) (hav : av (jad Γ) (jst Γ) = As) (hst : stk = As.reverse ++ rest) (k : jJ Γ G Rf pc' lv (.long r :: rest) M' Q) : jJ Γ G Rf pc lv stk M Q := by
  subst hp
  subst hst
  obtain ⟨p, l, e, R, s, m, args, below, meth, c, nL, D, cy, ad, st, A, kc, ks⟩ := Γ
  obtain ⟨hx, hb, hml, hown, hts, hR, hlk, hrt, hK, hZ, hN, hA, hnl, hkc, hks⟩ := hC
  intro H locs ls hl hP hD hS
  have hFc : ∀ q, va_A (jws cy ad Rf M G) H.size q → A q := fun q h => by
    rcases h with ⟨k9, e9, h9⟩ | h9
    · exact hD.2 k9 (q, e9) h9
    · exact hA q (Nat.le_trans hS.1 h9)
  have hU : ∀ U : State, U.heap = H → s.WarmedH U.vm → jPre (D, cy, ad, st) Rf G M H.size U := fun U hUh hW => ⟨by rw [hUh], by rw [hUh]; exact hP, va_K.moved hW.alike hK, hD.weaken (fun _ _ _ _ => trivial), by rw [hUh]; exact jZ_moved hW.alike (jZ_narrow (jZ_kept hZ (fun a h1 h2 => hS.2.1 a h1 h2)) hFc), jN_warm hW hN⟩
  have hM1 := hM H.size
  have hav1 : av ad st = As := hav
  obtain ⟨w1, w2, w3, w5, w7⟩ := hw
  have hGI : GoodIn jtb (va_wsS own index y (.code y ccy nly rety :: jtb)) := fun w hw => by
    rcases List.mem_append.mp hw with hw | hw
    · simp only [List.mem_cons, List.mem_nil_iff, or_false] at hw
      rcases hw with rfl | rfl | rfl
      · exact ⟨w1, jtb_good w1⟩
      · exact ⟨w2, jtb_good w2⟩
      · exact ⟨w3, jtb_good w3⟩
    · exact jgood w5 w hw
  subst hR
  refine va_calll (va_runS (As := As) (rest := rest) ⟨hx, hb, hml, hown, hts⟩ hM1 (va_cwS n hts hGI rfl rfl rfl w7 hr.1) ⟨jPre_blind, fun U hUh hW => ⟨(congrArg List.toArray hav1).symm, hU U hUh hW⟩⟩ rfl hr.2.1 hl.1 rfl (lv_room hr.2.2) hd ⟨hkc, hks⟩) hS (fun q _ h => hFc q h) hFc (fun r9 u t H1 locs1 ht hvm hw9 hB hz1 hk1 hS1 => ?_)
  subst hw9
  obtain ⟨hP1, hK1, hD1⟩ := hB
  rw [ht] at hP1
  exact k H1 locs1 ls hl hP1 (hD1.weaken (fun _ q _ h => hFc q.1 h)) hS1

theorem j_callVv {Γ : jG} {G : List (Nat × Nat)} {Rf : Nat → Nat → Option Nat} {cc : ByteArray} {nl : Nat} {own : String} {ret : Option FieldType} {rm : Room} {pc pc' : Nat} {lv : List (Nat × Value)} {rest : List Value} {M : jM} {Q : State → Prop} {y : MethodName} {ccy : ByteArray} {nly : Nat} {rety : Option FieldType} {fr lc index n : Nat} {av : (Nat → Nat) → (Nat → Nat) → List Value} {M' : jM} {stk : List Value} (As : List Value)  {o ci nn N : Nat} {C : String} {T : u_T} (hC : jOK Γ cc nl own ret rm) (hd : decode cc pc = .ok (.invokevirtual index, 3)) (hp : pc + 3 = pc') (hM : jCv (jlo Γ) y ccy nly rety fr lc (jEo Γ) Rf G av M  M') (hG : G[o]? = some (10 + ci, nn)) (hcl : vwCl[ci]? = some (C, T, N)) (hw : jcwV own index C y ccy nly rety n) (hr : (fr + 1 ≤ rm.frames ∧ 8 + (nly + 11) + lc ≤ rm.locals) ∧ As.length = n ∧ (rest.map fun v => v.category).sum ≤ 8) (hav : av (jad Γ) (jst Γ) = .ref (jad Γ o) :: As) (hst : stk = As.reverse ++ .ref (jad Γ o) :: rest) (k : jJ Γ G Rf pc' lv (rest) M' Q) : jJ Γ G Rf pc lv stk M Q := by
  subst hp
  subst hst
  obtain ⟨p, l, e, R, s, m, args, below, meth, c, nL, D, cy, ad, st, A, kc, ks⟩ := Γ
  obtain ⟨hx, hb, hml, hown, hts, hR, hlk, hrt, hK, hZ, hN, hA, hnl, hkc, hks⟩ := hC
  intro H locs ls hl hP hD hS
  have hFc : ∀ q, va_A (jws cy ad Rf M G) H.size q → A q := fun q h => by
    rcases h with ⟨k9, e9, h9⟩ | h9
    · exact hD.2 k9 (q, e9) h9
    · exact hA q (Nat.le_trans hS.1 h9)
  have hU : ∀ U : State, U.heap = H → s.WarmedH U.vm → jPre (D, cy, ad, st) Rf G M H.size U := fun U hUh hW => ⟨by rw [hUh], by rw [hUh]; exact hP, va_K.moved hW.alike hK, hD.weaken (fun _ _ _ _ => trivial), by rw [hUh]; exact jZ_moved hW.alike (jZ_narrow (jZ_kept hZ (fun a h1 h2 => hS.2.1 a h1 h2)) hFc), jN_warm hW hN⟩
  have hM1 := hM H.size
  have hav1 : av ad st = .ref (ad o) :: As := hav
  have he := jws_at (cy := cy) (ad := ad) (R := Rf) (M := M) hG
  rw [jcell_o] at he
  obtain ⟨w1, w2, w3, w4, w5, w6, w7⟩ := hw
  have hGI : GoodIn jtb (wsV own index C y (.code y ccy nly rety :: jtb)) := fun w hw => by
    rcases List.mem_append.mp hw with hw | hw
    · simp only [List.mem_cons, List.mem_nil_iff, or_false] at hw
      rcases hw with rfl | rfl | rfl | rfl
      · exact ⟨w1, jtb_good w1⟩
      · exact ⟨w2, jtb_good w2⟩
      · exact ⟨w3, jtb_good w3⟩
      · exact ⟨w4, jtb_good w4⟩
    · exact jgood w5 w hw
  subst hR
  refine va_callv (va_runV (As := As) (rest := rest) ⟨hx, hb, hml, hown, hts⟩ hM1 (cwV n hts hGI rfl rfl rfl ⟨w6, w7⟩ hr.1) ⟨jPre_blind, va_recv hK hP hcl he, fun U hUh hW => ⟨(congrArg List.toArray hav1).symm, hU U hUh hW⟩⟩ rfl hr.2.1 hl.1 rfl (lv_room hr.2.2) hd ⟨hkc, hks⟩) hS (fun q _ h => hFc q h) hFc (fun u t H1 locs1 ht hvm hw9 hB hz1 hk1 hS1 => ?_)
  obtain ⟨hP1, hK1, hD1⟩ := hB
  rw [ht] at hP1
  exact k H1 locs1 ls hl hP1 (hD1.weaken (fun _ q _ h => hFc q.1 h)) hS1

theorem j_callSv {Γ : jG} {G : List (Nat × Nat)} {Rf : Nat → Nat → Option Nat} {cc : ByteArray} {nl : Nat} {own : String} {ret : Option FieldType} {rm : Room} {pc pc' : Nat} {lv : List (Nat × Value)} {rest : List Value} {M : jM} {Q : State → Prop} {y : MethodName} {ccy : ByteArray} {nly : Nat} {rety : Option FieldType} {fr lc index n : Nat} {av : (Nat → Nat) → (Nat → Nat) → List Value} {M' : jM} {stk : List Value} (As : List Value)  (hC : jOK Γ cc nl own ret rm) (hd : decode cc pc = .ok (.invokestatic index, 3)) (hp : pc + 3 = pc') (hM : jCv (jlo Γ) y ccy nly rety fr lc (jEo Γ) Rf G av M  M') (hw : jcwS own index y ccy nly rety n) (hr : (fr + 1 ≤ rm.frames ∧ 8 + (nly + 11) + lc ≤ rm.locals) ∧ As.length = n ∧ (rest.map fun v => v.category).sum ≤ 8) (hav : av (jad Γ) (jst Γ) = As) (hst : stk = As.reverse ++ rest) (k : jJ Γ G Rf pc' lv (rest) M' Q) : jJ Γ G Rf pc lv stk M Q := by
  subst hp
  subst hst
  obtain ⟨p, l, e, R, s, m, args, below, meth, c, nL, D, cy, ad, st, A, kc, ks⟩ := Γ
  obtain ⟨hx, hb, hml, hown, hts, hR, hlk, hrt, hK, hZ, hN, hA, hnl, hkc, hks⟩ := hC
  intro H locs ls hl hP hD hS
  have hFc : ∀ q, va_A (jws cy ad Rf M G) H.size q → A q := fun q h => by
    rcases h with ⟨k9, e9, h9⟩ | h9
    · exact hD.2 k9 (q, e9) h9
    · exact hA q (Nat.le_trans hS.1 h9)
  have hU : ∀ U : State, U.heap = H → s.WarmedH U.vm → jPre (D, cy, ad, st) Rf G M H.size U := fun U hUh hW => ⟨by rw [hUh], by rw [hUh]; exact hP, va_K.moved hW.alike hK, hD.weaken (fun _ _ _ _ => trivial), by rw [hUh]; exact jZ_moved hW.alike (jZ_narrow (jZ_kept hZ (fun a h1 h2 => hS.2.1 a h1 h2)) hFc), jN_warm hW hN⟩
  have hM1 := hM H.size
  have hav1 : av ad st = As := hav
  obtain ⟨w1, w2, w3, w5, w7⟩ := hw
  have hGI : GoodIn jtb (va_wsS own index y (.code y ccy nly rety :: jtb)) := fun w hw => by
    rcases List.mem_append.mp hw with hw | hw
    · simp only [List.mem_cons, List.mem_nil_iff, or_false] at hw
      rcases hw with rfl | rfl | rfl
      · exact ⟨w1, jtb_good w1⟩
      · exact ⟨w2, jtb_good w2⟩
      · exact ⟨w3, jtb_good w3⟩
    · exact jgood w5 w hw
  subst hR
  refine va_callv (va_runS (As := As) (rest := rest) ⟨hx, hb, hml, hown, hts⟩ hM1 (va_cwS n hts hGI rfl rfl rfl w7 hr.1) ⟨jPre_blind, fun U hUh hW => ⟨(congrArg List.toArray hav1).symm, hU U hUh hW⟩⟩ rfl hr.2.1 hl.1 rfl (lv_room hr.2.2) hd ⟨hkc, hks⟩) hS (fun q _ h => hFc q h) hFc (fun u t H1 locs1 ht hvm hw9 hB hz1 hk1 hS1 => ?_)
  obtain ⟨hP1, hK1, hD1⟩ := hB
  rw [ht] at hP1
  exact k H1 locs1 ls hl hP1 (hD1.weaken (fun _ q _ h => hFc q.1 h)) hS1

def jcok (sp dp n : Int32) (n1 n2 : Nat) : Bool := decide (¬ sp < 0) && decide (¬ dp < 0) && decide (¬ n < 0) && decide (sp.toNatClampNeg + n.toNatClampNeg ≤ n1) && decide (dp.toNatClampNeg + n.toNatClampNeg ≤ n2)
theorem j_acopy {Γ : jG} {G : List (Nat × Nat)} {Rf : Nat → Nat → Option Nat} {cc : ByteArray} {nl : Nat} {own : String} {ret : Option FieldType} {rm : Room} {pc pc' : Nat} {lv : List (Nat × Value)} {rest : List Value} {M : jM} {Q : State → Prop} {o1 o2 n1 n2 index : Nat} {sp dp n : Int32} (hC : jOK Γ cc nl own ret rm) (hd : decode cc pc = .ok (.invokestatic index, 3)) (hp : pc + 3 = pc') (hw : (Cond.methodLink own index arraycopyName ∈ jtb ∧ Cond.native arraycopyName ∈ jtb ∧ Cond.static arraycopyName ∈ jtb ∧ Cond.initialized "java/lang/System" ∈ jtb)) (hG1 : G[o1]? = some (0, n1)) (hG2 : G[o2]? = some (0, n2)) (hk : jcok sp dp n n1 n2 = true) (hr : 1 ≤ rm.frames ∧ (rest.map fun v => v.category).sum + (nativeFrameWords "java/lang/System" "arraycopy" 5 + 11) ≤ rm.locals) (k : jJ Γ G Rf pc' lv rest (jcp M (gi M o1) sp.toNatClampNeg o2 dp.toNatClampNeg n.toNatClampNeg) Q) : jJ Γ G Rf pc lv (.int n :: .int dp :: .ref (jad Γ o2) :: .int sp :: .ref (jad Γ o1) :: rest) M Q := by
  subst hp
  obtain ⟨p, l, e, R, s, m, args, below, meth, c, nL, D, cy, ad, st, A, kc, ks⟩ := Γ
  obtain ⟨hx, hb, hml, hown, hts, hR, hlk, hrt, hK, hZ, hN, hA, hnl, hkc, hks⟩ := hC
  intro H locs ls hl hP hD hS
  have he1 := jws_at (cy := cy) (ad := ad) (R := Rf) (M := M) hG1
  have he2 := jws_at (cy := cy) (ad := ad) (R := Rf) (M := M) hG2
  unfold jcok at hk
  simp only [Bool.and_eq_true, decide_eq_true_eq] at hk
  obtain ⟨⟨⟨⟨c1, c2⟩, c3⟩, c4⟩, c5⟩ := hk
  obtain ⟨w1, w2, w3, w4⟩ := hw
  subst hR
  refine va_copyi (D := D) (ty := .int) hx hb (by rw [hml]; exact hl.1.symm) hown (hts _ w1) (hts _ w2) (hts _ w3) (hts _ w4) hK hP hD hS o1 o2 0 0 he1 he2 rfl rfl rfl c1 c2 c3 c4 c5 (fun _ _ => rfl) hr.1 hr.2 hd (fun H1 locs1 hP1 hD1 hS1 => ?_)
  have e9 : (jws cy ad Rf M G).set o2 (ad o2, .inl (cy 0, n2, .inl (va_cpy (gi M o1) (gi M o2) sp.toNatClampNeg dp.toNatClampNeg n.toNatClampNeg))) = jws cy ad Rf (jcp M (gi M o1) sp.toNatClampNeg o2 dp.toNatClampNeg n.toNatClampNeg) G := jws_set hG2 (by
    rw [jcell_0]
    congr 4
    funext j
    simp [va_cpy, gi_jcp]) (fun a b h => by simp [gi_jcp, h]) (fun a b h => by simp [gl_jcp])
  have hP2 : va_P D vwCl (jws cy ad Rf (jcp M (gi M o1) sp.toNatClampNeg o2 dp.toNatClampNeg n.toNatClampNeg) G) H1 := by rw [← e9]; exact hP1
  have hD2 : va_D A (jws cy ad Rf (jcp M (gi M o1) sp.toNatClampNeg o2 dp.toNatClampNeg n.toNatClampNeg) G) := by rw [← e9]; exact hD1
  exact k H1 locs1 ls hl hP2 hD2 hS1
end
