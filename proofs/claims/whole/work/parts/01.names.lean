-- ===== PART A: goes FIRST, ahead of the names: the tables' words, and 'selects' of the private methods out of them =====
/-- a private method of a class that the tables say can be made, by its rows of tables_1 -/
def lw_okq (q : MethodName × Nat) : Prop := (q.1.cls ≠ "java/lang/invoke/MethodHandle" ∧ q.1.cls ≠ "java/lang/invoke/VarHandle") ∧ Cond.instantiable q.1.cls q.2 ∈ tables_1 ∧ Cond.privateMethod q.1 ∈ tables_1 ∧ Cond.instanceMethod q.1 ∈ tables_1
theorem lw_p0 : lw_okq (⟨"TwoOnOneDay$Spread", "most", "(I)I"⟩, 5) := ⟨⟨by decide +kernel, by decide +kernel⟩, List.mem_of_getElem? (i := 239) (by decide +kernel), List.mem_of_getElem? (i := 245) (by decide +kernel), List.mem_of_getElem? (i := 246) (by decide +kernel)⟩
theorem lw_p1 : lw_okq (⟨"TwoOnOneDay$Spread", "worth", "(I)I"⟩, 5) := ⟨⟨by decide +kernel, by decide +kernel⟩, List.mem_of_getElem? (i := 239) (by decide +kernel), List.mem_of_getElem? (i := 253) (by decide +kernel), List.mem_of_getElem? (i := 254) (by decide +kernel)⟩
theorem lw_p2 : lw_okq (⟨"TwoOnOneDay$Spread", "takeOffSmaller", "(I)V"⟩, 5) := ⟨⟨by decide +kernel, by decide +kernel⟩, List.mem_of_getElem? (i := 239) (by decide +kernel), List.mem_of_getElem? (i := 257) (by decide +kernel), List.mem_of_getElem? (i := 258) (by decide +kernel)⟩
theorem lw_p3 : lw_okq (⟨"TwoOnOneDay", "lengthen", "(I)I"⟩, 9) := ⟨⟨by decide +kernel, by decide +kernel⟩, List.mem_of_getElem? (i := 24) (by decide +kernel), List.mem_of_getElem? (i := 399) (by decide +kernel), List.mem_of_getElem? (i := 400) (by decide +kernel)⟩
theorem lw_p4 : lw_okq (⟨"TwoOnOneDay", "bear", "(II)I"⟩, 9) := ⟨⟨by decide +kernel, by decide +kernel⟩, List.mem_of_getElem? (i := 24) (by decide +kernel), List.mem_of_getElem? (i := 414) (by decide +kernel), List.mem_of_getElem? (i := 415) (by decide +kernel)⟩
theorem lw_p5 : lw_okq (⟨"TwoOnOneDay$Tape", "readWord", "()V"⟩, 6) := ⟨⟨by decide +kernel, by decide +kernel⟩, List.mem_of_getElem? (i := 85) (by decide +kernel), List.mem_of_getElem? (i := 463) (by decide +kernel), List.mem_of_getElem? (i := 464) (by decide +kernel)⟩
theorem lw_p6 : lw_okq (⟨"TwoOnOneDay$Tape", "isWord", "(I)Z"⟩, 6) := ⟨⟨by decide +kernel, by decide +kernel⟩, List.mem_of_getElem? (i := 85) (by decide +kernel), List.mem_of_getElem? (i := 478) (by decide +kernel), List.mem_of_getElem? (i := 479) (by decide +kernel)⟩
theorem lw_p7 : lw_okq (⟨"TwoOnOneDay$Tape", "readNumber", "()V"⟩, 6) := ⟨⟨by decide +kernel, by decide +kernel⟩, List.mem_of_getElem? (i := 85) (by decide +kernel), List.mem_of_getElem? (i := 523) (by decide +kernel), List.mem_of_getElem? (i := 524) (by decide +kernel)⟩
theorem lw_p8 : lw_okq (⟨"TwoOnOneDay$Reader", "take", "(I)V"⟩, 5) := ⟨⟨by decide +kernel, by decide +kernel⟩, List.mem_of_getElem? (i := 114) (by decide +kernel), List.mem_of_getElem? (i := 530) (by decide +kernel), List.mem_of_getElem? (i := 531) (by decide +kernel)⟩
theorem lw_p9 : lw_okq (⟨"TwoOnOneDay$Reader", "fail", "()V"⟩, 5) := ⟨⟨by decide +kernel, by decide +kernel⟩, List.mem_of_getElem? (i := 114) (by decide +kernel), List.mem_of_getElem? (i := 535) (by decide +kernel), List.mem_of_getElem? (i := 536) (by decide +kernel)⟩
theorem lw_p10 : lw_okq (⟨"TwoOnOneDay$Reader", "any", "(I)V"⟩, 5) := ⟨⟨by decide +kernel, by decide +kernel⟩, List.mem_of_getElem? (i := 114) (by decide +kernel), List.mem_of_getElem? (i := 539) (by decide +kernel), List.mem_of_getElem? (i := 540) (by decide +kernel)⟩
theorem lw_p11 : lw_okq (⟨"TwoOnOneDay$Reader", "all", "(I)V"⟩, 5) := ⟨⟨by decide +kernel, by decide +kernel⟩, List.mem_of_getElem? (i := 114) (by decide +kernel), List.mem_of_getElem? (i := 543) (by decide +kernel), List.mem_of_getElem? (i := 544) (by decide +kernel)⟩
theorem lw_p12 : lw_okq (⟨"TwoOnOneDay$Reader", "oneSided", "(I)V"⟩, 5) := ⟨⟨by decide +kernel, by decide +kernel⟩, List.mem_of_getElem? (i := 114) (by decide +kernel), List.mem_of_getElem? (i := 547) (by decide +kernel), List.mem_of_getElem? (i := 548) (by decide +kernel)⟩
theorem lw_p13 : lw_okq (⟨"TwoOnOneDay$Reader", "compared", "(I)V"⟩, 5) := ⟨⟨by decide +kernel, by decide +kernel⟩, List.mem_of_getElem? (i := 114) (by decide +kernel), List.mem_of_getElem? (i := 551) (by decide +kernel), List.mem_of_getElem? (i := 552) (by decide +kernel)⟩
theorem lw_p14 : lw_okq (⟨"TwoOnOneDay$Reader", "sum", "(I)V"⟩, 5) := ⟨⟨by decide +kernel, by decide +kernel⟩, List.mem_of_getElem? (i := 114) (by decide +kernel), List.mem_of_getElem? (i := 555) (by decide +kernel), List.mem_of_getElem? (i := 556) (by decide +kernel)⟩
theorem lw_p15 : lw_okq (⟨"TwoOnOneDay$Reader", "term", "(I)V"⟩, 5) := ⟨⟨by decide +kernel, by decide +kernel⟩, List.mem_of_getElem? (i := 114) (by decide +kernel), List.mem_of_getElem? (i := 559) (by decide +kernel), List.mem_of_getElem? (i := 560) (by decide +kernel)⟩
def lw_privs_1 : List (MethodName × Nat) := [(⟨"TwoOnOneDay$Spread", "most", "(I)I"⟩, 5), (⟨"TwoOnOneDay$Spread", "worth", "(I)I"⟩, 5), (⟨"TwoOnOneDay$Spread", "takeOffSmaller", "(I)V"⟩, 5), (⟨"TwoOnOneDay", "lengthen", "(I)I"⟩, 9), (⟨"TwoOnOneDay", "bear", "(II)I"⟩, 9), (⟨"TwoOnOneDay$Tape", "readWord", "()V"⟩, 6), (⟨"TwoOnOneDay$Tape", "isWord", "(I)Z"⟩, 6), (⟨"TwoOnOneDay$Tape", "readNumber", "()V"⟩, 6), (⟨"TwoOnOneDay$Reader", "take", "(I)V"⟩, 5), (⟨"TwoOnOneDay$Reader", "fail", "()V"⟩, 5), (⟨"TwoOnOneDay$Reader", "any", "(I)V"⟩, 5), (⟨"TwoOnOneDay$Reader", "all", "(I)V"⟩, 5), (⟨"TwoOnOneDay$Reader", "oneSided", "(I)V"⟩, 5), (⟨"TwoOnOneDay$Reader", "compared", "(I)V"⟩, 5), (⟨"TwoOnOneDay$Reader", "sum", "(I)V"⟩, 5), (⟨"TwoOnOneDay$Reader", "term", "(I)V"⟩, 5)]
theorem lw_r1 : ∀ q ∈ lw_privs_1, lw_okq q := List.forall_mem_cons.mpr ⟨lw_p0, List.forall_mem_cons.mpr ⟨lw_p1, List.forall_mem_cons.mpr ⟨lw_p2, List.forall_mem_cons.mpr ⟨lw_p3, List.forall_mem_cons.mpr ⟨lw_p4, List.forall_mem_cons.mpr ⟨lw_p5, List.forall_mem_cons.mpr ⟨lw_p6, List.forall_mem_cons.mpr ⟨lw_p7, List.forall_mem_cons.mpr ⟨lw_p8, List.forall_mem_cons.mpr ⟨lw_p9, List.forall_mem_cons.mpr ⟨lw_p10, List.forall_mem_cons.mpr ⟨lw_p11, List.forall_mem_cons.mpr ⟨lw_p12, List.forall_mem_cons.mpr ⟨lw_p13, List.forall_mem_cons.mpr ⟨lw_p14, List.forall_mem_cons.mpr ⟨lw_p15, fun _ h => absurd h List.not_mem_nil⟩⟩⟩⟩⟩⟩⟩⟩⟩⟩⟩⟩⟩⟩⟩⟩
theorem lw_p16 : lw_okq (⟨"TwoOnOneDay$Reader", "one", "(I)V"⟩, 5) := ⟨⟨by decide +kernel, by decide +kernel⟩, List.mem_of_getElem? (i := 114) (by decide +kernel), List.mem_of_getElem? (i := 563) (by decide +kernel), List.mem_of_getElem? (i := 564) (by decide +kernel)⟩
theorem lw_p17 : lw_okq (⟨"TwoOnOneDay$Reader", "put", "(I)V"⟩, 5) := ⟨⟨by decide +kernel, by decide +kernel⟩, List.mem_of_getElem? (i := 114) (by decide +kernel), List.mem_of_getElem? (i := 567) (by decide +kernel), List.mem_of_getElem? (i := 568) (by decide +kernel)⟩
theorem lw_p18 : lw_okq (⟨"TwoOnOneDay", "join", "(III)I"⟩, 9) := ⟨⟨by decide +kernel, by decide +kernel⟩, List.mem_of_getElem? (i := 24) (by decide +kernel), List.mem_of_getElem? (i := 614) (by decide +kernel), List.mem_of_getElem? (i := 615) (by decide +kernel)⟩
theorem lw_p19 : lw_okq (⟨"TwoOnOneDay", "totalOf", "(I)I"⟩, 9) := ⟨⟨by decide +kernel, by decide +kernel⟩, List.mem_of_getElem? (i := 24) (by decide +kernel), List.mem_of_getElem? (i := 641) (by decide +kernel), List.mem_of_getElem? (i := 642) (by decide +kernel)⟩
theorem lw_p20 : lw_okq (⟨"TwoOnOneDay$Ways", "addDay", "(I)V"⟩, 14) := ⟨⟨by decide +kernel, by decide +kernel⟩, List.mem_of_getElem? (i := 233) (by decide +kernel), List.mem_of_getElem? (i := 696) (by decide +kernel), List.mem_of_getElem? (i := 697) (by decide +kernel)⟩
theorem lw_p21 : lw_okq (⟨"TwoOnOneDay$Ways", "multiplyTotals", "()V"⟩, 14) := ⟨⟨by decide +kernel, by decide +kernel⟩, List.mem_of_getElem? (i := 233) (by decide +kernel), List.mem_of_getElem? (i := 701) (by decide +kernel), List.mem_of_getElem? (i := 702) (by decide +kernel)⟩
theorem lw_p22 : lw_okq (⟨"TwoOnOneDay$Spread", "addPiece", "(IIJ)V"⟩, 5) := ⟨⟨by decide +kernel, by decide +kernel⟩, List.mem_of_getElem? (i := 239) (by decide +kernel), List.mem_of_getElem? (i := 710) (by decide +kernel), List.mem_of_getElem? (i := 711) (by decide +kernel)⟩
theorem lw_p23 : lw_okq (⟨"TwoOnOneDay$Ways", "sumParts", "(II)V"⟩, 14) := ⟨⟨by decide +kernel, by decide +kernel⟩, List.mem_of_getElem? (i := 233) (by decide +kernel), List.mem_of_getElem? (i := 810) (by decide +kernel), List.mem_of_getElem? (i := 811) (by decide +kernel)⟩
theorem lw_p24 : lw_okq (⟨"TwoOnOneDay$Ways", "goThrough", "(III)I"⟩, 14) := ⟨⟨by decide +kernel, by decide +kernel⟩, List.mem_of_getElem? (i := 233) (by decide +kernel), List.mem_of_getElem? (i := 822) (by decide +kernel), List.mem_of_getElem? (i := 823) (by decide +kernel)⟩
theorem lw_p25 : lw_okq (⟨"TwoOnOneDay$Ways", "addRow", "(III)V"⟩, 14) := ⟨⟨by decide +kernel, by decide +kernel⟩, List.mem_of_getElem? (i := 233) (by decide +kernel), List.mem_of_getElem? (i := 827) (by decide +kernel), List.mem_of_getElem? (i := 828) (by decide +kernel)⟩
theorem lw_p26 : lw_okq (⟨"TwoOnOneDay", "isAsLikely", "(II)Z"⟩, 9) := ⟨⟨by decide +kernel, by decide +kernel⟩, List.mem_of_getElem? (i := 24) (by decide +kernel), List.mem_of_getElem? (i := 839) (by decide +kernel), List.mem_of_getElem? (i := 840) (by decide +kernel)⟩
theorem lw_p27 : lw_okq (⟨"TwoOnOneDay", "likeliestGuests", "(I)I"⟩, 9) := ⟨⟨by decide +kernel, by decide +kernel⟩, List.mem_of_getElem? (i := 24) (by decide +kernel), List.mem_of_getElem? (i := 875) (by decide +kernel), List.mem_of_getElem? (i := 876) (by decide +kernel)⟩
theorem lw_p28 : lw_okq (⟨"TwoOnOneDay", "canBeGuests", "(I)Z"⟩, 9) := ⟨⟨by decide +kernel, by decide +kernel⟩, List.mem_of_getElem? (i := 24) (by decide +kernel), List.mem_of_getElem? (i := 880) (by decide +kernel), List.mem_of_getElem? (i := 881) (by decide +kernel)⟩
theorem lw_p29 : lw_okq (⟨"TwoOnOneDay", "refusalOfList", "(I)I"⟩, 9) := ⟨⟨by decide +kernel, by decide +kernel⟩, List.mem_of_getElem? (i := 24) (by decide +kernel), List.mem_of_getElem? (i := 910) (by decide +kernel), List.mem_of_getElem? (i := 911) (by decide +kernel)⟩
theorem lw_p30 : lw_okq (⟨"TwoOnOneDay", "refusalOfSheet", "(I)I"⟩, 9) := ⟨⟨by decide +kernel, by decide +kernel⟩, List.mem_of_getElem? (i := 24) (by decide +kernel), List.mem_of_getElem? (i := 914) (by decide +kernel), List.mem_of_getElem? (i := 915) (by decide +kernel)⟩
theorem lw_p31 : lw_okq (⟨"TwoOnOneDay", "firstWrong", "([II)I"⟩, 9) := ⟨⟨by decide +kernel, by decide +kernel⟩, List.mem_of_getElem? (i := 24) (by decide +kernel), List.mem_of_getElem? (i := 925) (by decide +kernel), List.mem_of_getElem? (i := 926) (by decide +kernel)⟩
def lw_privs_2 : List (MethodName × Nat) := [(⟨"TwoOnOneDay$Reader", "one", "(I)V"⟩, 5), (⟨"TwoOnOneDay$Reader", "put", "(I)V"⟩, 5), (⟨"TwoOnOneDay", "join", "(III)I"⟩, 9), (⟨"TwoOnOneDay", "totalOf", "(I)I"⟩, 9), (⟨"TwoOnOneDay$Ways", "addDay", "(I)V"⟩, 14), (⟨"TwoOnOneDay$Ways", "multiplyTotals", "()V"⟩, 14), (⟨"TwoOnOneDay$Spread", "addPiece", "(IIJ)V"⟩, 5), (⟨"TwoOnOneDay$Ways", "sumParts", "(II)V"⟩, 14), (⟨"TwoOnOneDay$Ways", "goThrough", "(III)I"⟩, 14), (⟨"TwoOnOneDay$Ways", "addRow", "(III)V"⟩, 14), (⟨"TwoOnOneDay", "isAsLikely", "(II)Z"⟩, 9), (⟨"TwoOnOneDay", "likeliestGuests", "(I)I"⟩, 9), (⟨"TwoOnOneDay", "canBeGuests", "(I)Z"⟩, 9), (⟨"TwoOnOneDay", "refusalOfList", "(I)I"⟩, 9), (⟨"TwoOnOneDay", "refusalOfSheet", "(I)I"⟩, 9), (⟨"TwoOnOneDay", "firstWrong", "([II)I"⟩, 9)]
theorem lw_r2 : ∀ q ∈ lw_privs_2, lw_okq q := List.forall_mem_cons.mpr ⟨lw_p16, List.forall_mem_cons.mpr ⟨lw_p17, List.forall_mem_cons.mpr ⟨lw_p18, List.forall_mem_cons.mpr ⟨lw_p19, List.forall_mem_cons.mpr ⟨lw_p20, List.forall_mem_cons.mpr ⟨lw_p21, List.forall_mem_cons.mpr ⟨lw_p22, List.forall_mem_cons.mpr ⟨lw_p23, List.forall_mem_cons.mpr ⟨lw_p24, List.forall_mem_cons.mpr ⟨lw_p25, List.forall_mem_cons.mpr ⟨lw_p26, List.forall_mem_cons.mpr ⟨lw_p27, List.forall_mem_cons.mpr ⟨lw_p28, List.forall_mem_cons.mpr ⟨lw_p29, List.forall_mem_cons.mpr ⟨lw_p30, List.forall_mem_cons.mpr ⟨lw_p31, fun _ h => absurd h List.not_mem_nil⟩⟩⟩⟩⟩⟩⟩⟩⟩⟩⟩⟩⟩⟩⟩⟩
theorem lw_p32 : lw_okq (⟨"TwoOnOneDay", "firstSecond", "([I)I"⟩, 9) := ⟨⟨by decide +kernel, by decide +kernel⟩, List.mem_of_getElem? (i := 24) (by decide +kernel), List.mem_of_getElem? (i := 934) (by decide +kernel), List.mem_of_getElem? (i := 935) (by decide +kernel)⟩
theorem lw_p33 : lw_okq (⟨"TwoOnOneDay", "pairsOf", "([I)I"⟩, 9) := ⟨⟨by decide +kernel, by decide +kernel⟩, List.mem_of_getElem? (i := 24) (by decide +kernel), List.mem_of_getElem? (i := 938) (by decide +kernel), List.mem_of_getElem? (i := 939) (by decide +kernel)⟩
theorem lw_p34 : lw_okq (⟨"TwoOnOneDay", "daysOf", "([I)I"⟩, 9) := ⟨⟨by decide +kernel, by decide +kernel⟩, List.mem_of_getElem? (i := 24) (by decide +kernel), List.mem_of_getElem? (i := 942) (by decide +kernel), List.mem_of_getElem? (i := 943) (by decide +kernel)⟩
theorem lw_p35 : lw_okq (⟨"TwoOnOneDay", "doubtsOf", "([I)I"⟩, 9) := ⟨⟨by decide +kernel, by decide +kernel⟩, List.mem_of_getElem? (i := 24) (by decide +kernel), List.mem_of_getElem? (i := 946) (by decide +kernel), List.mem_of_getElem? (i := 947) (by decide +kernel)⟩
theorem lw_p36 : lw_okq (⟨"TwoOnOneDay", "toldDaysFor", "(II)I"⟩, 9) := ⟨⟨by decide +kernel, by decide +kernel⟩, List.mem_of_getElem? (i := 24) (by decide +kernel), List.mem_of_getElem? (i := 966) (by decide +kernel), List.mem_of_getElem? (i := 967) (by decide +kernel)⟩
theorem lw_p37 : lw_okq (⟨"TwoOnOneDay", "kindsFor", "(II)I"⟩, 9) := ⟨⟨by decide +kernel, by decide +kernel⟩, List.mem_of_getElem? (i := 24) (by decide +kernel), List.mem_of_getElem? (i := 970) (by decide +kernel), List.mem_of_getElem? (i := 971) (by decide +kernel)⟩
theorem lw_p38 : lw_okq (⟨"TwoOnOneDay$Weights", "dayBy", "(IJ)I"⟩, 8) := ⟨⟨by decide +kernel, by decide +kernel⟩, List.mem_of_getElem? (i := 199) (by decide +kernel), List.mem_of_getElem? (i := 988) (by decide +kernel), List.mem_of_getElem? (i := 989) (by decide +kernel)⟩
theorem lw_p39 : lw_okq (⟨"TwoOnOneDay", "takenDay", "(II)I"⟩, 9) := ⟨⟨by decide +kernel, by decide +kernel⟩, List.mem_of_getElem? (i := 24) (by decide +kernel), List.mem_of_getElem? (i := 1054) (by decide +kernel), List.mem_of_getElem? (i := 1055) (by decide +kernel)⟩
theorem lw_p40 : lw_okq (⟨"TwoOnOneDay", "takenPerson", "(II)I"⟩, 9) := ⟨⟨by decide +kernel, by decide +kernel⟩, List.mem_of_getElem? (i := 24) (by decide +kernel), List.mem_of_getElem? (i := 1058) (by decide +kernel), List.mem_of_getElem? (i := 1059) (by decide +kernel)⟩
theorem lw_p41 : lw_okq (⟨"TwoOnOneDayModel", "next", "()V"⟩, 41) := ⟨⟨by decide +kernel, by decide +kernel⟩, List.mem_of_getElem? (i := 1063) (by decide +kernel), List.mem_of_getElem? (i := 1073) (by decide +kernel), List.mem_of_getElem? (i := 1074) (by decide +kernel)⟩
theorem lw_p42 : lw_okq (⟨"TwoOnOneDayModel", "wordFrom", "(II)I"⟩, 41) := ⟨⟨by decide +kernel, by decide +kernel⟩, List.mem_of_getElem? (i := 1063) (by decide +kernel), List.mem_of_getElem? (i := 1080) (by decide +kernel), List.mem_of_getElem? (i := 1081) (by decide +kernel)⟩
theorem lw_p43 : lw_okq (⟨"TwoOnOneDayModel", "eRead", "()Z"⟩, 41) := ⟨⟨by decide +kernel, by decide +kernel⟩, List.mem_of_getElem? (i := 1063) (by decide +kernel), List.mem_of_getElem? (i := 1084) (by decide +kernel), List.mem_of_getElem? (i := 1085) (by decide +kernel)⟩
theorem lw_p44 : lw_okq (⟨"TwoOnOneDayModel", "puts", "(I)V"⟩, 41) := ⟨⟨by decide +kernel, by decide +kernel⟩, List.mem_of_getElem? (i := 1063) (by decide +kernel), List.mem_of_getElem? (i := 1089) (by decide +kernel), List.mem_of_getElem? (i := 1090) (by decide +kernel)⟩
theorem lw_p45 : lw_okq (⟨"TwoOnOneDayModel", "unwinds", "(I)V"⟩, 41) := ⟨⟨by decide +kernel, by decide +kernel⟩, List.mem_of_getElem? (i := 1063) (by decide +kernel), List.mem_of_getElem? (i := 1093) (by decide +kernel), List.mem_of_getElem? (i := 1094) (by decide +kernel)⟩
theorem lw_p46 : lw_okq (⟨"TwoOnOneDayModel", "opensOne", "(I)Z"⟩, 41) := ⟨⟨by decide +kernel, by decide +kernel⟩, List.mem_of_getElem? (i := 1063) (by decide +kernel), List.mem_of_getElem? (i := 1100) (by decide +kernel), List.mem_of_getElem? (i := 1101) (by decide +kernel)⟩
theorem lw_p47 : lw_okq (⟨"TwoOnOneDayModel", "holds", "(I)V"⟩, 41) := ⟨⟨by decide +kernel, by decide +kernel⟩, List.mem_of_getElem? (i := 1063) (by decide +kernel), List.mem_of_getElem? (i := 1104) (by decide +kernel), List.mem_of_getElem? (i := 1105) (by decide +kernel)⟩
def lw_privs_3 : List (MethodName × Nat) := [(⟨"TwoOnOneDay", "firstSecond", "([I)I"⟩, 9), (⟨"TwoOnOneDay", "pairsOf", "([I)I"⟩, 9), (⟨"TwoOnOneDay", "daysOf", "([I)I"⟩, 9), (⟨"TwoOnOneDay", "doubtsOf", "([I)I"⟩, 9), (⟨"TwoOnOneDay", "toldDaysFor", "(II)I"⟩, 9), (⟨"TwoOnOneDay", "kindsFor", "(II)I"⟩, 9), (⟨"TwoOnOneDay$Weights", "dayBy", "(IJ)I"⟩, 8), (⟨"TwoOnOneDay", "takenDay", "(II)I"⟩, 9), (⟨"TwoOnOneDay", "takenPerson", "(II)I"⟩, 9), (⟨"TwoOnOneDayModel", "next", "()V"⟩, 41), (⟨"TwoOnOneDayModel", "wordFrom", "(II)I"⟩, 41), (⟨"TwoOnOneDayModel", "eRead", "()Z"⟩, 41), (⟨"TwoOnOneDayModel", "puts", "(I)V"⟩, 41), (⟨"TwoOnOneDayModel", "unwinds", "(I)V"⟩, 41), (⟨"TwoOnOneDayModel", "opensOne", "(I)Z"⟩, 41), (⟨"TwoOnOneDayModel", "holds", "(I)V"⟩, 41)]
theorem lw_r3 : ∀ q ∈ lw_privs_3, lw_okq q := List.forall_mem_cons.mpr ⟨lw_p32, List.forall_mem_cons.mpr ⟨lw_p33, List.forall_mem_cons.mpr ⟨lw_p34, List.forall_mem_cons.mpr ⟨lw_p35, List.forall_mem_cons.mpr ⟨lw_p36, List.forall_mem_cons.mpr ⟨lw_p37, List.forall_mem_cons.mpr ⟨lw_p38, List.forall_mem_cons.mpr ⟨lw_p39, List.forall_mem_cons.mpr ⟨lw_p40, List.forall_mem_cons.mpr ⟨lw_p41, List.forall_mem_cons.mpr ⟨lw_p42, List.forall_mem_cons.mpr ⟨lw_p43, List.forall_mem_cons.mpr ⟨lw_p44, List.forall_mem_cons.mpr ⟨lw_p45, List.forall_mem_cons.mpr ⟨lw_p46, List.forall_mem_cons.mpr ⟨lw_p47, fun _ h => absurd h List.not_mem_nil⟩⟩⟩⟩⟩⟩⟩⟩⟩⟩⟩⟩⟩⟩⟩⟩
theorem lw_p48 : lw_okq (⟨"TwoOnOneDayModel", "signOf", "()I"⟩, 41) := ⟨⟨by decide +kernel, by decide +kernel⟩, List.mem_of_getElem? (i := 1063) (by decide +kernel), List.mem_of_getElem? (i := 1108) (by decide +kernel), List.mem_of_getElem? (i := 1109) (by decide +kernel)⟩
theorem lw_p49 : lw_okq (⟨"TwoOnOneDayModel", "between", "(I)Z"⟩, 41) := ⟨⟨by decide +kernel, by decide +kernel⟩, List.mem_of_getElem? (i := 1063) (by decide +kernel), List.mem_of_getElem? (i := 1112) (by decide +kernel), List.mem_of_getElem? (i := 1113) (by decide +kernel)⟩
theorem lw_p50 : lw_okq (⟨"TwoOnOneDayModel", "isDay", "(I)Z"⟩, 41) := ⟨⟨by decide +kernel, by decide +kernel⟩, List.mem_of_getElem? (i := 1063) (by decide +kernel), List.mem_of_getElem? (i := 1244) (by decide +kernel), List.mem_of_getElem? (i := 1245) (by decide +kernel)⟩
theorem lw_p51 : lw_okq (⟨"TwoOnOneDayModel", "isAnyToldFrom", "(I)Z"⟩, 41) := ⟨⟨by decide +kernel, by decide +kernel⟩, List.mem_of_getElem? (i := 1063) (by decide +kernel), List.mem_of_getElem? (i := 1248) (by decide +kernel), List.mem_of_getElem? (i := 1249) (by decide +kernel)⟩
theorem lw_p52 : lw_okq (⟨"TwoOnOneDayModel", "isOne", "(I)Z"⟩, 41) := ⟨⟨by decide +kernel, by decide +kernel⟩, List.mem_of_getElem? (i := 1063) (by decide +kernel), List.mem_of_getElem? (i := 1276) (by decide +kernel), List.mem_of_getElem? (i := 1277) (by decide +kernel)⟩
theorem lw_p53 : lw_okq (⟨"TwoOnOneDayModel", "asksOf", "(III)I"⟩, 41) := ⟨⟨by decide +kernel, by decide +kernel⟩, List.mem_of_getElem? (i := 1063) (by decide +kernel), List.mem_of_getElem? (i := 1280) (by decide +kernel), List.mem_of_getElem? (i := 1281) (by decide +kernel)⟩
theorem lw_p54 : lw_okq (⟨"TwoOnOneDayModel", "says", "(I)I"⟩, 41) := ⟨⟨by decide +kernel, by decide +kernel⟩, List.mem_of_getElem? (i := 1063) (by decide +kernel), List.mem_of_getElem? (i := 1284) (by decide +kernel), List.mem_of_getElem? (i := 1285) (by decide +kernel)⟩
theorem lw_p55 : lw_okq (⟨"TwoOnOneDayModel", "doubtsOf", "(I)I"⟩, 41) := ⟨⟨by decide +kernel, by decide +kernel⟩, List.mem_of_getElem? (i := 1063) (by decide +kernel), List.mem_of_getElem? (i := 1306) (by decide +kernel), List.mem_of_getElem? (i := 1307) (by decide +kernel)⟩
theorem lw_p56 : lw_okq (⟨"TwoOnOneDayModel", "allWeight", "(I)I"⟩, 41) := ⟨⟨by decide +kernel, by decide +kernel⟩, List.mem_of_getElem? (i := 1063) (by decide +kernel), List.mem_of_getElem? (i := 1310) (by decide +kernel), List.mem_of_getElem? (i := 1311) (by decide +kernel)⟩
theorem lw_p57 : lw_okq (⟨"TwoOnOneDayModel", "weightOf", "(II)I"⟩, 41) := ⟨⟨by decide +kernel, by decide +kernel⟩, List.mem_of_getElem? (i := 1063) (by decide +kernel), List.mem_of_getElem? (i := 1314) (by decide +kernel), List.mem_of_getElem? (i := 1315) (by decide +kernel)⟩
theorem lw_p58 : lw_okq (⟨"TwoOnOneDayModel", "reads", "()V"⟩, 41) := ⟨⟨by decide +kernel, by decide +kernel⟩, List.mem_of_getElem? (i := 1063) (by decide +kernel), List.mem_of_getElem? (i := 1330) (by decide +kernel), List.mem_of_getElem? (i := 1331) (by decide +kernel)⟩
theorem lw_p59 : lw_okq (⟨"TwoOnOneDayModel", "everybody", "()I"⟩, 41) := ⟨⟨by decide +kernel, by decide +kernel⟩, List.mem_of_getElem? (i := 1063) (by decide +kernel), List.mem_of_getElem? (i := 1334) (by decide +kernel), List.mem_of_getElem? (i := 1335) (by decide +kernel)⟩
theorem lw_p60 : lw_okq (⟨"TwoOnOneDayModel", "waysWithin", "(I)J"⟩, 41) := ⟨⟨by decide +kernel, by decide +kernel⟩, List.mem_of_getElem? (i := 1063) (by decide +kernel), List.mem_of_getElem? (i := 1338) (by decide +kernel), List.mem_of_getElem? (i := 1339) (by decide +kernel)⟩
theorem lw_p61 : lw_okq (⟨"TwoOnOneDayModel", "readsProduct", "(I)V"⟩, 41) := ⟨⟨by decide +kernel, by decide +kernel⟩, List.mem_of_getElem? (i := 1063) (by decide +kernel), List.mem_of_getElem? (i := 1342) (by decide +kernel), List.mem_of_getElem? (i := 1343) (by decide +kernel)⟩
theorem lw_p62 : lw_okq (⟨"TwoOnOneDayModel", "areSome", "(I)Z"⟩, 41) := ⟨⟨by decide +kernel, by decide +kernel⟩, List.mem_of_getElem? (i := 1063) (by decide +kernel), List.mem_of_getElem? (i := 1359) (by decide +kernel), List.mem_of_getElem? (i := 1360) (by decide +kernel)⟩
theorem lw_p63 : lw_okq (⟨"TwoOnOneDayModel", "readsUnlike", "()V"⟩, 41) := ⟨⟨by decide +kernel, by decide +kernel⟩, List.mem_of_getElem? (i := 1063) (by decide +kernel), List.mem_of_getElem? (i := 1363) (by decide +kernel), List.mem_of_getElem? (i := 1364) (by decide +kernel)⟩
def lw_privs_4 : List (MethodName × Nat) := [(⟨"TwoOnOneDayModel", "signOf", "()I"⟩, 41), (⟨"TwoOnOneDayModel", "between", "(I)Z"⟩, 41), (⟨"TwoOnOneDayModel", "isDay", "(I)Z"⟩, 41), (⟨"TwoOnOneDayModel", "isAnyToldFrom", "(I)Z"⟩, 41), (⟨"TwoOnOneDayModel", "isOne", "(I)Z"⟩, 41), (⟨"TwoOnOneDayModel", "asksOf", "(III)I"⟩, 41), (⟨"TwoOnOneDayModel", "says", "(I)I"⟩, 41), (⟨"TwoOnOneDayModel", "doubtsOf", "(I)I"⟩, 41), (⟨"TwoOnOneDayModel", "allWeight", "(I)I"⟩, 41), (⟨"TwoOnOneDayModel", "weightOf", "(II)I"⟩, 41), (⟨"TwoOnOneDayModel", "reads", "()V"⟩, 41), (⟨"TwoOnOneDayModel", "everybody", "()I"⟩, 41), (⟨"TwoOnOneDayModel", "waysWithin", "(I)J"⟩, 41), (⟨"TwoOnOneDayModel", "readsProduct", "(I)V"⟩, 41), (⟨"TwoOnOneDayModel", "areSome", "(I)Z"⟩, 41), (⟨"TwoOnOneDayModel", "readsUnlike", "()V"⟩, 41)]
theorem lw_r4 : ∀ q ∈ lw_privs_4, lw_okq q := List.forall_mem_cons.mpr ⟨lw_p48, List.forall_mem_cons.mpr ⟨lw_p49, List.forall_mem_cons.mpr ⟨lw_p50, List.forall_mem_cons.mpr ⟨lw_p51, List.forall_mem_cons.mpr ⟨lw_p52, List.forall_mem_cons.mpr ⟨lw_p53, List.forall_mem_cons.mpr ⟨lw_p54, List.forall_mem_cons.mpr ⟨lw_p55, List.forall_mem_cons.mpr ⟨lw_p56, List.forall_mem_cons.mpr ⟨lw_p57, List.forall_mem_cons.mpr ⟨lw_p58, List.forall_mem_cons.mpr ⟨lw_p59, List.forall_mem_cons.mpr ⟨lw_p60, List.forall_mem_cons.mpr ⟨lw_p61, List.forall_mem_cons.mpr ⟨lw_p62, List.forall_mem_cons.mpr ⟨lw_p63, fun _ h => absurd h List.not_mem_nil⟩⟩⟩⟩⟩⟩⟩⟩⟩⟩⟩⟩⟩⟩⟩⟩
theorem lw_p64 : lw_okq (⟨"TwoOnOneDayModel", "waysBut", "(I)J"⟩, 41) := ⟨⟨by decide +kernel, by decide +kernel⟩, List.mem_of_getElem? (i := 1063) (by decide +kernel), List.mem_of_getElem? (i := 1371) (by decide +kernel), List.mem_of_getElem? (i := 1372) (by decide +kernel)⟩
theorem lw_p65 : lw_okq (⟨"TwoOnOneDayModel", "countsMany", "(I)V"⟩, 41) := ⟨⟨by decide +kernel, by decide +kernel⟩, List.mem_of_getElem? (i := 1063) (by decide +kernel), List.mem_of_getElem? (i := 1383) (by decide +kernel), List.mem_of_getElem? (i := 1384) (by decide +kernel)⟩
theorem lw_p66 : lw_okq (⟨"TwoOnOneDayModel", "waysApartFrom", "(II)J"⟩, 41) := ⟨⟨by decide +kernel, by decide +kernel⟩, List.mem_of_getElem? (i := 1063) (by decide +kernel), List.mem_of_getElem? (i := 1403) (by decide +kernel), List.mem_of_getElem? (i := 1404) (by decide +kernel)⟩
theorem lw_p67 : lw_okq (⟨"TwoOnOneDayModel", "firstWith", "(I)J"⟩, 41) := ⟨⟨by decide +kernel, by decide +kernel⟩, List.mem_of_getElem? (i := 1063) (by decide +kernel), List.mem_of_getElem? (i := 1419) (by decide +kernel), List.mem_of_getElem? (i := 1420) (by decide +kernel)⟩
theorem lw_p68 : lw_okq (⟨"TwoOnOneDayModel", "allCome", "(I)Z"⟩, 41) := ⟨⟨by decide +kernel, by decide +kernel⟩, List.mem_of_getElem? (i := 1063) (by decide +kernel), List.mem_of_getElem? (i := 1438) (by decide +kernel), List.mem_of_getElem? (i := 1439) (by decide +kernel)⟩
theorem lw_p69 : lw_okq (⟨"TwoOnOneDayModel", "comesWith", "(II)Z"⟩, 41) := ⟨⟨by decide +kernel, by decide +kernel⟩, List.mem_of_getElem? (i := 1063) (by decide +kernel), List.mem_of_getElem? (i := 1442) (by decide +kernel), List.mem_of_getElem? (i := 1443) (by decide +kernel)⟩
theorem lw_p70 : lw_okq (⟨"TwoOnOneDayModel", "asksAll", "(II)I"⟩, 41) := ⟨⟨by decide +kernel, by decide +kernel⟩, List.mem_of_getElem? (i := 1063) (by decide +kernel), List.mem_of_getElem? (i := 1451) (by decide +kernel), List.mem_of_getElem? (i := 1452) (by decide +kernel)⟩
theorem lw_p71 : lw_okq (⟨"TwoOnOneDayModel", "sheetWrong", "(I)I"⟩, 41) := ⟨⟨by decide +kernel, by decide +kernel⟩, List.mem_of_getElem? (i := 1063) (by decide +kernel), List.mem_of_getElem? (i := 1463) (by decide +kernel), List.mem_of_getElem? (i := 1464) (by decide +kernel)⟩
theorem lw_p72 : lw_okq (⟨"TwoOnOneDayModel", "judged", "(I)I"⟩, 41) := ⟨⟨by decide +kernel, by decide +kernel⟩, List.mem_of_getElem? (i := 1063) (by decide +kernel), List.mem_of_getElem? (i := 1467) (by decide +kernel), List.mem_of_getElem? (i := 1468) (by decide +kernel)⟩
theorem lw_p73 : lw_okq (⟨"TwoOnOneDayModel", "firstIn", "(I)I"⟩, 41) := ⟨⟨by decide +kernel, by decide +kernel⟩, List.mem_of_getElem? (i := 1063) (by decide +kernel), List.mem_of_getElem? (i := 1475) (by decide +kernel), List.mem_of_getElem? (i := 1476) (by decide +kernel)⟩
theorem lw_p74 : lw_okq (⟨"TwoOnOneDayModel", "pairsIn", "(I)I"⟩, 41) := ⟨⟨by decide +kernel, by decide +kernel⟩, List.mem_of_getElem? (i := 1063) (by decide +kernel), List.mem_of_getElem? (i := 1479) (by decide +kernel), List.mem_of_getElem? (i := 1480) (by decide +kernel)⟩
theorem lw_p75 : lw_okq (⟨"TwoOnOneDayModel", "takenIn", "(I)I"⟩, 41) := ⟨⟨by decide +kernel, by decide +kernel⟩, List.mem_of_getElem? (i := 1063) (by decide +kernel), List.mem_of_getElem? (i := 1483) (by decide +kernel), List.mem_of_getElem? (i := 1484) (by decide +kernel)⟩
theorem lw_p76 : lw_okq (⟨"TwoOnOneDayModel", "doubtsIn", "(I)I"⟩, 41) := ⟨⟨by decide +kernel, by decide +kernel⟩, List.mem_of_getElem? (i := 1063) (by decide +kernel), List.mem_of_getElem? (i := 1487) (by decide +kernel), List.mem_of_getElem? (i := 1488) (by decide +kernel)⟩
theorem lw_p77 : lw_okq (⟨"TwoOnOneDayModel", "draws", "(I)V"⟩, 41) := ⟨⟨by decide +kernel, by decide +kernel⟩, List.mem_of_getElem? (i := 1063) (by decide +kernel), List.mem_of_getElem? (i := 1515) (by decide +kernel), List.mem_of_getElem? (i := 1516) (by decide +kernel)⟩
theorem lw_p78 : lw_okq (⟨"TwoOnOneDayModel", "dayBy", "(IJ)I"⟩, 41) := ⟨⟨by decide +kernel, by decide +kernel⟩, List.mem_of_getElem? (i := 1063) (by decide +kernel), List.mem_of_getElem? (i := 1521) (by decide +kernel), List.mem_of_getElem? (i := 1522) (by decide +kernel)⟩
theorem lw_p79 : lw_okq (⟨"TwoOnOneDayModel", "lotsMeet", "()Z"⟩, 41) := ⟨⟨by decide +kernel, by decide +kernel⟩, List.mem_of_getElem? (i := 1063) (by decide +kernel), List.mem_of_getElem? (i := 1533) (by decide +kernel), List.mem_of_getElem? (i := 1534) (by decide +kernel)⟩
def lw_privs_5 : List (MethodName × Nat) := [(⟨"TwoOnOneDayModel", "waysBut", "(I)J"⟩, 41), (⟨"TwoOnOneDayModel", "countsMany", "(I)V"⟩, 41), (⟨"TwoOnOneDayModel", "waysApartFrom", "(II)J"⟩, 41), (⟨"TwoOnOneDayModel", "firstWith", "(I)J"⟩, 41), (⟨"TwoOnOneDayModel", "allCome", "(I)Z"⟩, 41), (⟨"TwoOnOneDayModel", "comesWith", "(II)Z"⟩, 41), (⟨"TwoOnOneDayModel", "asksAll", "(II)I"⟩, 41), (⟨"TwoOnOneDayModel", "sheetWrong", "(I)I"⟩, 41), (⟨"TwoOnOneDayModel", "judged", "(I)I"⟩, 41), (⟨"TwoOnOneDayModel", "firstIn", "(I)I"⟩, 41), (⟨"TwoOnOneDayModel", "pairsIn", "(I)I"⟩, 41), (⟨"TwoOnOneDayModel", "takenIn", "(I)I"⟩, 41), (⟨"TwoOnOneDayModel", "doubtsIn", "(I)I"⟩, 41), (⟨"TwoOnOneDayModel", "draws", "(I)V"⟩, 41), (⟨"TwoOnOneDayModel", "dayBy", "(IJ)I"⟩, 41), (⟨"TwoOnOneDayModel", "lotsMeet", "()Z"⟩, 41)]
theorem lw_r5 : ∀ q ∈ lw_privs_5, lw_okq q := List.forall_mem_cons.mpr ⟨lw_p64, List.forall_mem_cons.mpr ⟨lw_p65, List.forall_mem_cons.mpr ⟨lw_p66, List.forall_mem_cons.mpr ⟨lw_p67, List.forall_mem_cons.mpr ⟨lw_p68, List.forall_mem_cons.mpr ⟨lw_p69, List.forall_mem_cons.mpr ⟨lw_p70, List.forall_mem_cons.mpr ⟨lw_p71, List.forall_mem_cons.mpr ⟨lw_p72, List.forall_mem_cons.mpr ⟨lw_p73, List.forall_mem_cons.mpr ⟨lw_p74, List.forall_mem_cons.mpr ⟨lw_p75, List.forall_mem_cons.mpr ⟨lw_p76, List.forall_mem_cons.mpr ⟨lw_p77, List.forall_mem_cons.mpr ⟨lw_p78, List.forall_mem_cons.mpr ⟨lw_p79, fun _ h => absurd h List.not_mem_nil⟩⟩⟩⟩⟩⟩⟩⟩⟩⟩⟩⟩⟩⟩⟩⟩
def lw_privs : List (MethodName × Nat) := lw_privs_1 ++ (lw_privs_2 ++ (lw_privs_3 ++ (lw_privs_4 ++ (lw_privs_5))))
def lw_tbl : List Cond := k2_sels lw_privs ++ tables_1
theorem lw_privs_ok : ∀ q ∈ lw_privs, lw_okq q := by
  show ∀ q ∈ lw_privs_1 ++ (lw_privs_2 ++ (lw_privs_3 ++ (lw_privs_4 ++ (lw_privs_5)))), lw_okq q
  exact List.forall_mem_append.mpr ⟨lw_r1, List.forall_mem_append.mpr ⟨lw_r2, List.forall_mem_append.mpr ⟨lw_r3, List.forall_mem_append.mpr ⟨lw_r4, lw_r5⟩⟩⟩⟩
/-! ===== BEGIN words of one list among another's, by their places ===== -/
theorem goodIn_r {big : List Cond} (ws : List Cond) (ps : List Nat) (hp : ws = ps.filterMap (fun i => big[i]?)) (h : ws.all goodWord = true) : GoodIn big ws := by
  intro w hw
  have h1 := List.all_eq_true.mp h w hw
  rw [hp] at hw
  obtain ⟨i, -, hi⟩ := List.mem_filterMap.mp hw
  have hm : w ∈ big := by first | exact List.mem_of_getElem? hi | exact List.getElem?_mem hi
  exact ⟨hm, good_of_word h1⟩
theorem goodIn_app {big a b : List Cond} (ha : GoodIn big a) (hb : GoodIn big b) : GoodIn big (a ++ b) := fun w h => (List.mem_append.mp h).elim (ha w) (hb w)
theorem goodIn_ca {big a b : List Cond} {c : Cond} (ha : GoodIn big (c :: a)) (hb : GoodIn big b) : GoodIn big (c :: (a ++ b)) := fun w h => (List.mem_cons.mp h).elim (fun e => ha w (List.mem_cons.mpr (Or.inl e))) (fun h => (List.mem_append.mp h).elim (fun h => ha w (List.mem_cons.mpr (Or.inr h))) (hb w))
theorem goodIn_sub {big ws : List Cond} (hm : ∀ w ∈ ws, w ∈ big) (h : ws.all goodWord = true) : GoodIn big ws := fun w hw => ⟨hm w hw, good_of_word (List.all_eq_true.mp h w hw)⟩
/-! ===== END ===== -/

/-! ===== BEGIN printed: names, fields, word lists, decode rows ===== -/
def RX0 : String := "TwoOnOneDay$Image"
def TX0 : u_T := fun k => match k with
  | 0 => ("TwoOnOneDay$Image", "isThere", "Z", false)
  | 1 => ("TwoOnOneDay$Image", "born", "[I", true)
  | 2 => ("TwoOnOneDay$Image", "told", "[I", true)
  | 3 => ("TwoOnOneDay$Image", "days", "I", false)
  | 4 => ("TwoOnOneDay$Image", "number", "I", false)
  | _ => ("TwoOnOneDay$Image", "law", "I", false)
def tyX0 : Nat → FieldType := fun k => match k with
  | 0 => .boolean
  | 1 => .array .int
  | 2 => .array .int
  | 3 => .int
  | 4 => .int
  | _ => .int
abbrev wsX00 : List Cond := u_ws RX0 TX0 6
theorem nmX0 : ∀ a, a < 6 → ∀ b, b < 6 → a ≠ b → (TX0 a).2.1 ≠ (TX0 b).2.1 := by decide +kernel
theorem tyX0_ok : ∀ k, k < 6 → parseFieldDescriptor (TX0 k).2.2.1 = some (tyX0 k) := by decide +kernel
abbrev cX0_init : ByteArray := prog_2_method_1_code
def yX0_init : MethodName := ⟨RX0, "<init>", "()V"⟩
abbrev cX0_keep : ByteArray := prog_2_method_2_code
def yX0_keep : MethodName := ⟨RX0, "keep", "(LTwoOnOneDay$Year;LTwoOnOneDay$People;LTwoOnOneDay$Laws;)V"⟩
abbrev cX0_bringBack : ByteArray := prog_2_method_3_code
def yX0_bringBack : MethodName := ⟨RX0, "bringBack", "(LTwoOnOneDay$Year;LTwoOnOneDay$People;LTwoOnOneDay$Laws;)V"⟩
def RX1 : String := "TwoOnOneDay$Laws"
def TX1 : u_T := fun k => match k with
  | 0 => ("TwoOnOneDay$Laws", "year", "LTwoOnOneDay$Year;", true)
  | 1 => ("TwoOnOneDay$Laws", "people", "LTwoOnOneDay$People;", true)
  | 2 => ("TwoOnOneDay$Laws", "texts", "[LTwoOnOneDay$Text;", true)
  | 3 => ("TwoOnOneDay$Laws", "names", "[I", true)
  | 4 => ("TwoOnOneDay$Laws", "stack", "[I", true)
  | 5 => ("TwoOnOneDay$Laws", "number", "I", false)
  | _ => ("TwoOnOneDay$Laws", "law", "I", false)
def tyX1 : Nat → FieldType := fun k => match k with
  | 0 => .object "TwoOnOneDay$Year"
  | 1 => .object "TwoOnOneDay$People"
  | 2 => .array (.object "TwoOnOneDay$Text")
  | 3 => .array .int
  | 4 => .array .int
  | 5 => .int
  | _ => .int
abbrev wsX10 : List Cond := u_ws RX1 TX1 7
theorem nmX1 : ∀ a, a < 7 → ∀ b, b < 7 → a ≠ b → (TX1 a).2.1 ≠ (TX1 b).2.1 := by decide +kernel
theorem tyX1_ok : ∀ k, k < 7 → parseFieldDescriptor (TX1 k).2.2.1 = some (tyX1 k) := by decide +kernel
abbrev cX1_init : ByteArray := prog_3_method_1_code
def yX1_init : MethodName := ⟨RX1, "<init>", "(LTwoOnOneDay$Year;LTwoOnOneDay$People;)V"⟩
abbrev cX1_has : ByteArray := prog_3_method_2_code
def yX1_has : MethodName := ⟨RX1, "has", "(I)Z"⟩
abbrev cX1_add : ByteArray := prog_3_method_3_code
def yX1_add : MethodName := ⟨RX1, "add", "(LTwoOnOneDay$Text;)I"⟩
abbrev cX1_says : ByteArray := prog_3_method_4_code
def yX1_says : MethodName := ⟨RX1, "says", "(IIIII)I"⟩
abbrev cX1_saysOfSet : ByteArray := prog_3_method_5_code
def yX1_saysOfSet : MethodName := ⟨RX1, "saysOfSet", "(II)I"⟩
def RX2 : String := "TwoOnOneDay$People"
def TX2 : u_T := fun k => match k with
  | 0 => ("TwoOnOneDay$People", "number", "I", false)
  | 1 => ("TwoOnOneDay$People", "kind", "[I", true)
  | 2 => ("TwoOnOneDay$People", "more", "[I", true)
  | _ => ("TwoOnOneDay$People", "told", "[I", true)
def tyX2 : Nat → FieldType := fun k => match k with
  | 0 => .int
  | 1 => .array .int
  | 2 => .array .int
  | _ => .array .int
abbrev wsX20 : List Cond := u_ws RX2 TX2 4
theorem nmX2 : ∀ a, a < 4 → ∀ b, b < 4 → a ≠ b → (TX2 a).2.1 ≠ (TX2 b).2.1 := by decide +kernel
theorem tyX2_ok : ∀ k, k < 4 → parseFieldDescriptor (TX2 k).2.2.1 = some (tyX2 k) := by decide +kernel
abbrev cX2_init : ByteArray := prog_4_method_1_code
def yX2_init : MethodName := ⟨RX2, "<init>", "()V"⟩
abbrev cX2_has : ByteArray := prog_4_method_2_code
def yX2_has : MethodName := ⟨RX2, "has", "(I)Z"⟩
abbrev cX2_add : ByteArray := prog_4_method_3_code
def yX2_add : MethodName := ⟨RX2, "add", "(III)I"⟩
abbrev cX2_latestTold : ByteArray := prog_4_method_4_code
def yX2_latestTold : MethodName := ⟨RX2, "latestTold", "()I"⟩
abbrev cX2_firstOnes : ByteArray := prog_4_method_5_code
def yX2_firstOnes : MethodName := ⟨RX2, "firstOnes", "(I)I"⟩
abbrev cX2_everyone : ByteArray := prog_4_method_6_code
def yX2_everyone : MethodName := ⟨RX2, "everyone", "()I"⟩
abbrev cX2_hasSet : ByteArray := prog_4_method_7_code
def yX2_hasSet : MethodName := ⟨RX2, "hasSet", "(I)Z"⟩
abbrev cX2_isKind : ByteArray := prog_4_method_8_code
def yX2_isKind : MethodName := ⟨RX2, "isKind", "(I)Z"⟩
abbrev cX2_kindAbove : ByteArray := prog_4_method_9_code
def yX2_kindAbove : MethodName := ⟨RX2, "kindAbove", "(I)I"⟩
abbrev cX2_isA : ByteArray := prog_4_method_10_code
def yX2_isA : MethodName := ⟨RX2, "isA", "(II)Z"⟩
abbrev cX2_doubts : ByteArray := prog_4_method_11_code
def yX2_doubts : MethodName := ⟨RX2, "doubts", "(I)I"⟩
abbrev cX2_comesAlong : ByteArray := prog_4_method_12_code
def yX2_comesAlong : MethodName := ⟨RX2, "comesAlong", "(II)Z"⟩
abbrev cX2_allCome : ByteArray := prog_4_method_13_code
def yX2_allCome : MethodName := ⟨RX2, "allCome", "(I)Z"⟩
def RX3 : String := "TwoOnOneDay$Reader"
def TX3 : u_T := fun k => match k with
  | 0 => ("TwoOnOneDay$Reader", "tape", "LTwoOnOneDay$Tape;", true)
  | 1 => ("TwoOnOneDay$Reader", "code", "[I", true)
  | 2 => ("TwoOnOneDay$Reader", "ends", "[I", true)
  | 3 => ("TwoOnOneDay$Reader", "length", "I", false)
  | _ => ("TwoOnOneDay$Reader", "fault", "I", false)
def tyX3 : Nat → FieldType := fun k => match k with
  | 0 => .object "TwoOnOneDay$Tape"
  | 1 => .array .int
  | 2 => .array .int
  | 3 => .int
  | _ => .int
abbrev wsX30 : List Cond := u_ws RX3 TX3 5
theorem nmX3 : ∀ a, a < 5 → ∀ b, b < 5 → a ≠ b → (TX3 a).2.1 ≠ (TX3 b).2.1 := by decide +kernel
theorem tyX3_ok : ∀ k, k < 5 → parseFieldDescriptor (TX3 k).2.2.1 = some (tyX3 k) := by decide +kernel
abbrev cX3_init : ByteArray := prog_5_method_1_code
def yX3_init : MethodName := ⟨RX3, "<init>", "(LTwoOnOneDay$Tape;)V"⟩
abbrev cX3_readAll : ByteArray := prog_5_method_2_code
def yX3_readAll : MethodName := ⟨RX3, "readAll", "()LTwoOnOneDay$Text;"⟩
abbrev cX3_fail : ByteArray := prog_5_method_3_code
def yX3_fail : MethodName := ⟨RX3, "fail", "()V"⟩
abbrev cX3_take : ByteArray := prog_5_method_4_code
def yX3_take : MethodName := ⟨RX3, "take", "(I)V"⟩
abbrev cX3_put : ByteArray := prog_5_method_5_code
def yX3_put : MethodName := ⟨RX3, "put", "(I)V"⟩
abbrev cX3_any : ByteArray := prog_5_method_6_code
def yX3_any : MethodName := ⟨RX3, "any", "(I)V"⟩
abbrev cX3_all : ByteArray := prog_5_method_7_code
def yX3_all : MethodName := ⟨RX3, "all", "(I)V"⟩
abbrev cX3_oneSided : ByteArray := prog_5_method_8_code
def yX3_oneSided : MethodName := ⟨RX3, "oneSided", "(I)V"⟩
abbrev cX3_compared : ByteArray := prog_5_method_9_code
def yX3_compared : MethodName := ⟨RX3, "compared", "(I)V"⟩
abbrev cX3_sum : ByteArray := prog_5_method_10_code
def yX3_sum : MethodName := ⟨RX3, "sum", "(I)V"⟩
abbrev cX3_term : ByteArray := prog_5_method_11_code
def yX3_term : MethodName := ⟨RX3, "term", "(I)V"⟩
abbrev cX3_one : ByteArray := prog_5_method_12_code
def yX3_one : MethodName := ⟨RX3, "one", "(I)V"⟩
def RX4 : String := "TwoOnOneDay$Sheet"
def TX4 : u_T := fun k => match k with
  | 0 => ("TwoOnOneDay$Sheet", "sort", "I", false)
  | 1 => ("TwoOnOneDay$Sheet", "size", "I", false)
  | _ => ("TwoOnOneDay$Sheet", "numbers", "[I", true)
def tyX4 : Nat → FieldType := fun k => match k with
  | 0 => .int
  | 1 => .int
  | _ => .array .int
abbrev wsX40 : List Cond := u_ws RX4 TX4 3
theorem nmX4 : ∀ a, a < 3 → ∀ b, b < 3 → a ≠ b → (TX4 a).2.1 ≠ (TX4 b).2.1 := by decide +kernel
theorem tyX4_ok : ∀ k, k < 3 → parseFieldDescriptor (TX4 k).2.2.1 = some (tyX4 k) := by decide +kernel
abbrev cX4_init : ByteArray := prog_6_method_1_code
def yX4_init : MethodName := ⟨RX4, "<init>", "()V"⟩
abbrev cX4_isMissing : ByteArray := prog_6_method_2_code
def yX4_isMissing : MethodName := ⟨RX4, "isMissing", "()Z"⟩
abbrev cX4_become : ByteArray := prog_6_method_3_code
def yX4_become : MethodName := ⟨RX4, "become", "(II)V"⟩
abbrev cX4_put : ByteArray := prog_6_method_4_code
def yX4_put : MethodName := ⟨RX4, "put", "(II)V"⟩
abbrev cX4_hasRun : ByteArray := prog_6_method_5_code
def yX4_hasRun : MethodName := ⟨RX4, "hasRun", "(II)Z"⟩
def RX5 : String := "TwoOnOneDay$Spread"
def TX5 : u_T := fun k => match k with
  | 0 => ("TwoOnOneDay$Spread", "sort", "I", true)
  | 1 => ("TwoOnOneDay$Spread", "width", "I", true)
  | 2 => ("TwoOnOneDay$Spread", "pieces", "[J", true)
  | 3 => ("TwoOnOneDay$Spread", "found", "[J", true)
  | _ => ("TwoOnOneDay$Spread", "limit", "I", false)
def tyX5 : Nat → FieldType := fun k => match k with
  | 0 => .int
  | 1 => .int
  | 2 => .array .long
  | 3 => .array .long
  | _ => .int
abbrev wsX50 : List Cond := u_ws RX5 TX5 5
theorem nmX5 : ∀ a, a < 5 → ∀ b, b < 5 → a ≠ b → (TX5 a).2.1 ≠ (TX5 b).2.1 := by decide +kernel
theorem tyX5_ok : ∀ k, k < 5 → parseFieldDescriptor (TX5 k).2.2.1 = some (tyX5 k) := by decide +kernel
abbrev cX5_init : ByteArray := prog_7_method_1_code
def yX5_init : MethodName := ⟨RX5, "<init>", "(II)V"⟩
abbrev cX5_worth : ByteArray := prog_7_method_2_code
def yX5_worth : MethodName := ⟨RX5, "worth", "(I)I"⟩
abbrev cX5_most : ByteArray := prog_7_method_3_code
def yX5_most : MethodName := ⟨RX5, "most", "(I)I"⟩
abbrev cX5_allow : ByteArray := prog_7_method_4_code
def yX5_allow : MethodName := ⟨RX5, "allow", "(I)V"⟩
abbrev cX5_takeOffSmaller : ByteArray := prog_7_method_5_code
def yX5_takeOffSmaller : MethodName := ⟨RX5, "takeOffSmaller", "(I)V"⟩
abbrev cX5_fill : ByteArray := prog_7_method_6_code
def yX5_fill : MethodName := ⟨RX5, "fill", "([JI)V"⟩
abbrev cX5_addPiece : ByteArray := prog_7_method_7_code
def yX5_addPiece : MethodName := ⟨RX5, "addPiece", "(IIJ)V"⟩
abbrev cX5_ways : ByteArray := prog_7_method_8_code
def yX5_ways : MethodName := ⟨RX5, "ways", "(II)J"⟩
def RX6 : String := "TwoOnOneDay$Tape"
def TX6 : u_T := fun k => match k with
  | 0 => ("TwoOnOneDay$Tape", "bytes", "[I", true)
  | 1 => ("TwoOnOneDay$Tape", "size", "I", false)
  | 2 => ("TwoOnOneDay$Tape", "token", "I", false)
  | 3 => ("TwoOnOneDay$Tape", "value", "I", false)
  | 4 => ("TwoOnOneDay$Tape", "start", "I", false)
  | _ => ("TwoOnOneDay$Tape", "end", "I", false)
def tyX6 : Nat → FieldType := fun k => match k with
  | 0 => .array .int
  | 1 => .int
  | 2 => .int
  | 3 => .int
  | 4 => .int
  | _ => .int
abbrev wsX60 : List Cond := u_ws RX6 TX6 6
theorem nmX6 : ∀ a, a < 6 → ∀ b, b < 6 → a ≠ b → (TX6 a).2.1 ≠ (TX6 b).2.1 := by decide +kernel
theorem tyX6_ok : ∀ k, k < 6 → parseFieldDescriptor (TX6 k).2.2.1 = some (tyX6 k) := by decide +kernel
abbrev cX6_init : ByteArray := prog_8_method_1_code
def yX6_init : MethodName := ⟨RX6, "<init>", "()V"⟩
abbrev cX6_add : ByteArray := prog_8_method_2_code
def yX6_add : MethodName := ⟨RX6, "add", "(I)V"⟩
abbrev cX6_rewind : ByteArray := prog_8_method_3_code
def yX6_rewind : MethodName := ⟨RX6, "rewind", "()V"⟩
abbrev cX6_next : ByteArray := prog_8_method_4_code
def yX6_next : MethodName := ⟨RX6, "next", "()V"⟩
abbrev cX6_readWord : ByteArray := prog_8_method_5_code
def yX6_readWord : MethodName := ⟨RX6, "readWord", "()V"⟩
abbrev cX6_isWord : ByteArray := prog_8_method_6_code
def yX6_isWord : MethodName := ⟨RX6, "isWord", "(I)Z"⟩
abbrev cX6_readNumber : ByteArray := prog_8_method_7_code
def yX6_readNumber : MethodName := ⟨RX6, "readNumber", "()V"⟩
abbrev cX6_isBlank : ByteArray := prog_8_method_8_code
def yX6_isBlank : MethodName := ⟨RX6, "isBlank", "(I)Z"⟩
abbrev cX6_isLetter : ByteArray := prog_8_method_9_code
def yX6_isLetter : MethodName := ⟨RX6, "isLetter", "(I)Z"⟩
abbrev cX6_isDigit : ByteArray := prog_8_method_10_code
def yX6_isDigit : MethodName := ⟨RX6, "isDigit", "(I)Z"⟩
abbrev cX6_isSign : ByteArray := prog_8_method_11_code
def yX6_isSign : MethodName := ⟨RX6, "isSign", "(I)Z"⟩
def RX7 : String := "TwoOnOneDay$Text"
def TX7 : u_T := fun k => match k with
  | 0 => ("TwoOnOneDay$Text", "code", "[I", true)
  | _ => ("TwoOnOneDay$Text", "ends", "[I", true)
def tyX7 : Nat → FieldType := fun k => match k with
  | 0 => .array .int
  | _ => .array .int
abbrev wsX70 : List Cond := u_ws RX7 TX7 2
theorem nmX7 : ∀ a, a < 2 → ∀ b, b < 2 → a ≠ b → (TX7 a).2.1 ≠ (TX7 b).2.1 := by decide +kernel
theorem tyX7_ok : ∀ k, k < 2 → parseFieldDescriptor (TX7 k).2.2.1 = some (tyX7 k) := by decide +kernel
abbrev cX7_init : ByteArray := prog_9_method_1_code
def yX7_init : MethodName := ⟨RX7, "<init>", "([I[I)V"⟩
abbrev cX7_value : ByteArray := prog_9_method_2_code
def yX7_value : MethodName := ⟨RX7, "value", "(I[I[I)I"⟩
abbrev cX7_joined : ByteArray := prog_9_method_3_code
def yX7_joined : MethodName := ⟨RX7, "joined", "(III)I"⟩
def RX8 : String := "TwoOnOneDay$Ways"
def TX8 : u_T := fun k => match k with
  | 0 => ("TwoOnOneDay$Ways", "weights", "LTwoOnOneDay$Weights;", true)
  | 1 => ("TwoOnOneDay$Ways", "all", "[J", true)
  | 2 => ("TwoOnOneDay$Ways", "onOneDay", "[J", true)
  | 3 => ("TwoOnOneDay$Ways", "product", "[J", true)
  | 4 => ("TwoOnOneDay$Ways", "sums", "[I", true)
  | 5 => ("TwoOnOneDay$Ways", "apart", "LTwoOnOneDay$Spread;", true)
  | 6 => ("TwoOnOneDay$Ways", "upTo", "LTwoOnOneDay$Spread;", true)
  | 7 => ("TwoOnOneDay$Ways", "pairs", "LTwoOnOneDay$Spread;", true)
  | 8 => ("TwoOnOneDay$Ways", "daysTaken", "LTwoOnOneDay$Spread;", true)
  | 9 => ("TwoOnOneDay$Ways", "rows", "[J", true)
  | 10 => ("TwoOnOneDay$Ways", "version", "I", false)
  | 11 => ("TwoOnOneDay$Ways", "pairsVersion", "I", false)
  | 12 => ("TwoOnOneDay$Ways", "takenVersion", "I", false)
  | _ => ("TwoOnOneDay$Ways", "everyone", "I", false)
def tyX8 : Nat → FieldType := fun k => match k with
  | 0 => .object "TwoOnOneDay$Weights"
  | 1 => .array .long
  | 2 => .array .long
  | 3 => .array .long
  | 4 => .array .int
  | 5 => .object "TwoOnOneDay$Spread"
  | 6 => .object "TwoOnOneDay$Spread"
  | 7 => .object "TwoOnOneDay$Spread"
  | 8 => .object "TwoOnOneDay$Spread"
  | 9 => .array .long
  | 10 => .int
  | 11 => .int
  | 12 => .int
  | _ => .int
abbrev wsX80 : List Cond := u_ws RX8 TX8 14
theorem nmX8 : ∀ a, a < 14 → ∀ b, b < 14 → a ≠ b → (TX8 a).2.1 ≠ (TX8 b).2.1 := by decide +kernel
theorem tyX8_ok : ∀ k, k < 14 → parseFieldDescriptor (TX8 k).2.2.1 = some (tyX8 k) := by decide +kernel
abbrev cX8_init : ByteArray := prog_10_method_1_code
def yX8_init : MethodName := ⟨RX8, "<init>", "(LTwoOnOneDay$Weights;)V"⟩
abbrev cX8_prepare : ByteArray := prog_10_method_2_code
def yX8_prepare : MethodName := ⟨RX8, "prepare", "()V"⟩
abbrev cX8_addDay : ByteArray := prog_10_method_3_code
def yX8_addDay : MethodName := ⟨RX8, "addDay", "(I)V"⟩
abbrev cX8_multiplyTotals : ByteArray := prog_10_method_4_code
def yX8_multiplyTotals : MethodName := ⟨RX8, "multiplyTotals", "()V"⟩
abbrev cX8_of : ByteArray := prog_10_method_5_code
def yX8_of : MethodName := ⟨RX8, "of", "(I)J"⟩
abbrev cX8_ofAll : ByteArray := prog_10_method_6_code
def yX8_ofAll : MethodName := ⟨RX8, "ofAll", "()J"⟩
abbrev cX8_apart : ByteArray := prog_10_method_7_code
def yX8_apart : MethodName := ⟨RX8, "apart", "(I)J"⟩
abbrev cX8_meeting : ByteArray := prog_10_method_8_code
def yX8_meeting : MethodName := ⟨RX8, "meeting", "(I)J"⟩
abbrev cX8_together : ByteArray := prog_10_method_9_code
def yX8_together : MethodName := ⟨RX8, "together", "(I)J"⟩
abbrev cX8_numbering : ByteArray := prog_10_method_10_code
def yX8_numbering : MethodName := ⟨RX8, "numbering", "(II)J"⟩
abbrev cX8_taking : ByteArray := prog_10_method_11_code
def yX8_taking : MethodName := ⟨RX8, "taking", "(I)J"⟩
abbrev cX8_covering : ByteArray := prog_10_method_12_code
def yX8_covering : MethodName := ⟨RX8, "covering", "(I)J"⟩
abbrev cX8_sumParts : ByteArray := prog_10_method_13_code
def yX8_sumParts : MethodName := ⟨RX8, "sumParts", "(II)V"⟩
abbrev cX8_scattered : ByteArray := prog_10_method_14_code
def yX8_scattered : MethodName := ⟨RX8, "scattered", "(I)J"⟩
abbrev cX8_goThrough : ByteArray := prog_10_method_15_code
def yX8_goThrough : MethodName := ⟨RX8, "goThrough", "(III)I"⟩
abbrev cX8_addRow : ByteArray := prog_10_method_16_code
def yX8_addRow : MethodName := ⟨RX8, "addRow", "(III)V"⟩
abbrev cX8_firstMeeting : ByteArray := prog_10_method_17_code
def yX8_firstMeeting : MethodName := ⟨RX8, "firstMeeting", "(I)J"⟩
def RX9 : String := "TwoOnOneDay$Weights"
def TX9 : u_T := fun k => match k with
  | 0 => ("TwoOnOneDay$Weights", "year", "LTwoOnOneDay$Year;", true)
  | 1 => ("TwoOnOneDay$Weights", "people", "LTwoOnOneDay$People;", true)
  | 2 => ("TwoOnOneDay$Weights", "book", "LTwoOnOneDay$Laws;", true)
  | 3 => ("TwoOnOneDay$Weights", "heavy", "[I", true)
  | 4 => ("TwoOnOneDay$Weights", "totals", "[I", true)
  | 5 => ("TwoOnOneDay$Weights", "isFresh", "[Z", true)
  | 6 => ("TwoOnOneDay$Weights", "drawn", "[I", true)
  | _ => ("TwoOnOneDay$Weights", "version", "I", false)
def tyX9 : Nat → FieldType := fun k => match k with
  | 0 => .object "TwoOnOneDay$Year"
  | 1 => .object "TwoOnOneDay$People"
  | 2 => .object "TwoOnOneDay$Laws"
  | 3 => .array .int
  | 4 => .array .int
  | 5 => .array .boolean
  | 6 => .array .int
  | _ => .int
abbrev wsX90 : List Cond := u_ws RX9 TX9 8
theorem nmX9 : ∀ a, a < 8 → ∀ b, b < 8 → a ≠ b → (TX9 a).2.1 ≠ (TX9 b).2.1 := by decide +kernel
theorem tyX9_ok : ∀ k, k < 8 → parseFieldDescriptor (TX9 k).2.2.1 = some (tyX9 k) := by decide +kernel
abbrev cX9_init : ByteArray := prog_11_method_1_code
def yX9_init : MethodName := ⟨RX9, "<init>", "(LTwoOnOneDay$Year;LTwoOnOneDay$People;LTwoOnOneDay$Laws;)V"⟩
abbrev cX9_forget : ByteArray := prog_11_method_2_code
def yX9_forget : MethodName := ⟨RX9, "forget", "()V"⟩
abbrev cX9_forgetOne : ByteArray := prog_11_method_3_code
def yX9_forgetOne : MethodName := ⟨RX9, "forgetOne", "(I)V"⟩
abbrev cX9_prepare : ByteArray := prog_11_method_4_code
def yX9_prepare : MethodName := ⟨RX9, "prepare", "()V"⟩
abbrev cX9_of : ByteArray := prog_11_method_5_code
def yX9_of : MethodName := ⟨RX9, "of", "(II)I"⟩
abbrev cX9_total : ByteArray := prog_11_method_6_code
def yX9_total : MethodName := ⟨RX9, "total", "(I)I"⟩
abbrev cX9_number : ByteArray := prog_11_method_7_code
def yX9_number : MethodName := ⟨RX9, "number", "()I"⟩
abbrev cX9_days : ByteArray := prog_11_method_8_code
def yX9_days : MethodName := ⟨RX9, "days", "()I"⟩
abbrev cX9_under : ByteArray := prog_11_method_9_code
def yX9_under : MethodName := ⟨RX9, "under", "(IIIII)I"⟩
abbrev cX9_draw : ByteArray := prog_11_method_10_code
def yX9_draw : MethodName := ⟨RX9, "draw", "(I)V"⟩
abbrev cX9_dayBy : ByteArray := prog_11_method_11_code
def yX9_dayBy : MethodName := ⟨RX9, "dayBy", "(IJ)I"⟩
abbrev cX9_anyMeet : ByteArray := prog_11_method_12_code
def yX9_anyMeet : MethodName := ⟨RX9, "anyMeet", "()Z"⟩
def RX10 : String := "TwoOnOneDay$Year"
def TX10 : u_T := fun k => match k with
  | 0 => ("TwoOnOneDay$Year", "days", "I", false)
  | _ => ("TwoOnOneDay$Year", "born", "[I", true)
def tyX10 : Nat → FieldType := fun k => match k with
  | 0 => .int
  | _ => .array .int
abbrev wsX100 : List Cond := u_ws RX10 TX10 2
theorem nmX10 : ∀ a, a < 2 → ∀ b, b < 2 → a ≠ b → (TX10 a).2.1 ≠ (TX10 b).2.1 := by decide +kernel
theorem tyX10_ok : ∀ k, k < 2 → parseFieldDescriptor (TX10 k).2.2.1 = some (tyX10 k) := by decide +kernel
abbrev cX10_init : ByteArray := prog_12_method_1_code
def yX10_init : MethodName := ⟨RX10, "<init>", "()V"⟩
abbrev cX10_has : ByteArray := prog_12_method_2_code
def yX10_has : MethodName := ⟨RX10, "has", "(I)Z"⟩
def RX11 : String := "TwoOnOneDay"
def TX11 : u_T := fun k => match k with
  | 0 => ("TwoOnOneDay", "year", "LTwoOnOneDay$Year;", true)
  | 1 => ("TwoOnOneDay", "people", "LTwoOnOneDay$People;", true)
  | 2 => ("TwoOnOneDay", "tape", "LTwoOnOneDay$Tape;", true)
  | 3 => ("TwoOnOneDay", "reader", "LTwoOnOneDay$Reader;", true)
  | 4 => ("TwoOnOneDay", "book", "LTwoOnOneDay$Laws;", true)
  | 5 => ("TwoOnOneDay", "weights", "LTwoOnOneDay$Weights;", true)
  | 6 => ("TwoOnOneDay", "ways", "LTwoOnOneDay$Ways;", true)
  | 7 => ("TwoOnOneDay", "sheets", "[LTwoOnOneDay$Sheet;", true)
  | _ => ("TwoOnOneDay", "kept", "LTwoOnOneDay$Image;", true)
def tyX11 : Nat → FieldType := fun k => match k with
  | 0 => .object "TwoOnOneDay$Year"
  | 1 => .object "TwoOnOneDay$People"
  | 2 => .object "TwoOnOneDay$Tape"
  | 3 => .object "TwoOnOneDay$Reader"
  | 4 => .object "TwoOnOneDay$Laws"
  | 5 => .object "TwoOnOneDay$Weights"
  | 6 => .object "TwoOnOneDay$Ways"
  | 7 => .array (.object "TwoOnOneDay$Sheet")
  | _ => .object "TwoOnOneDay$Image"
abbrev wsX110 : List Cond := u_ws RX11 TX11 9
theorem nmX11 : ∀ a, a < 9 → ∀ b, b < 9 → a ≠ b → (TX11 a).2.1 ≠ (TX11 b).2.1 := by decide +kernel
theorem tyX11_ok : ∀ k, k < 9 → parseFieldDescriptor (TX11 k).2.2.1 = some (tyX11 k) := by decide +kernel
abbrev cX11_init : ByteArray := prog_1_method_1_code
def yX11_init : MethodName := ⟨RX11, "<init>", "()V"⟩
abbrev cX11_set : ByteArray := prog_1_method_2_code
def yX11_set : MethodName := ⟨RX11, "set", "(III)I"⟩
abbrev cX11_lengthen : ByteArray := prog_1_method_3_code
def yX11_lengthen : MethodName := ⟨RX11, "lengthen", "(I)I"⟩
abbrev cX11_bear : ByteArray := prog_1_method_4_code
def yX11_bear : MethodName := ⟨RX11, "bear", "(II)I"⟩
abbrev cX11_count : ByteArray := prog_1_method_5_code
def yX11_count : MethodName := ⟨RX11, "count", "(I)I"⟩
abbrev cX11_bornOn : ByteArray := prog_1_method_6_code
def yX11_bornOn : MethodName := ⟨RX11, "bornOn", "(I)I"⟩
abbrev cX11_feed : ByteArray := prog_1_method_7_code
def yX11_feed : MethodName := ⟨RX11, "feed", "(IIIIII)I"⟩
abbrev cX11_isByte : ByteArray := prog_1_method_8_code
def yX11_isByte : MethodName := ⟨RX11, "isByte", "(I)Z"⟩
abbrev cX11_text : ByteArray := prog_1_method_9_code
def yX11_text : MethodName := ⟨RX11, "text", "()I"⟩
abbrev cX11_force : ByteArray := prog_1_method_10_code
def yX11_force : MethodName := ⟨RX11, "force", "(I)I"⟩
abbrev cX11_asks : ByteArray := prog_1_method_11_code
def yX11_asks : MethodName := ⟨RX11, "asks", "(III)I"⟩
abbrev cX11_person : ByteArray := prog_1_method_12_code
def yX11_person : MethodName := ⟨RX11, "person", "(III)I"⟩
abbrev cX11_join : ByteArray := prog_1_method_13_code
def yX11_join : MethodName := ⟨RX11, "join", "(III)I"⟩
abbrev cX11_move : ByteArray := prog_1_method_14_code
def yX11_move : MethodName := ⟨RX11, "move", "(II)I"⟩
abbrev cX11_told : ByteArray := prog_1_method_15_code
def yX11_told : MethodName := ⟨RX11, "told", "(II)I"⟩
abbrev cX11_totalOf : ByteArray := prog_1_method_16_code
def yX11_totalOf : MethodName := ⟨RX11, "totalOf", "(I)I"⟩
abbrev cX11_weight : ByteArray := prog_1_method_17_code
def yX11_weight : MethodName := ⟨RX11, "weight", "(II)I"⟩
abbrev cX11_meets : ByteArray := prog_1_method_18_code
def yX11_meets : MethodName := ⟨RX11, "meets", "(II)J"⟩
abbrev cX11_among : ByteArray := prog_1_method_19_code
def yX11_among : MethodName := ⟨RX11, "among", "(II)J"⟩
abbrev cX11_mine : ByteArray := prog_1_method_20_code
def yX11_mine : MethodName := ⟨RX11, "mine", "(II)J"⟩
abbrev cX11_likeliest : ByteArray := prog_1_method_21_code
def yX11_likeliest : MethodName := ⟨RX11, "likeliest", "()I"⟩
abbrev cX11_many : ByteArray := prog_1_method_22_code
def yX11_many : MethodName := ⟨RX11, "many", "(III)J"⟩
abbrev cX11_isCounted : ByteArray := prog_1_method_23_code
def yX11_isCounted : MethodName := ⟨RX11, "isCounted", "(I)Z"⟩
abbrev cX11_likely : ByteArray := prog_1_method_24_code
def yX11_likely : MethodName := ⟨RX11, "likely", "(I)I"⟩
abbrev cX11_mean : ByteArray := prog_1_method_25_code
def yX11_mean : MethodName := ⟨RX11, "mean", "(II)J"⟩
abbrev cX11_covers : ByteArray := prog_1_method_26_code
def yX11_covers : MethodName := ⟨RX11, "covers", "(II)J"⟩
abbrev cX11_near : ByteArray := prog_1_method_27_code
def yX11_near : MethodName := ⟨RX11, "near", "(II)J"⟩
abbrev cX11_needs : ByteArray := prog_1_method_28_code
def yX11_needs : MethodName := ⟨RX11, "needs", "(I)I"⟩
abbrev cX11_isHundredth : ByteArray := prog_1_method_29_code
def yX11_isHundredth : MethodName := ⟨RX11, "isHundredth", "(I)Z"⟩
abbrev cX11_isAsLikely : ByteArray := prog_1_method_30_code
def yX11_isAsLikely : MethodName := ⟨RX11, "isAsLikely", "(II)Z"⟩
abbrev cX11_first : ByteArray := prog_1_method_31_code
def yX11_first : MethodName := ⟨RX11, "first", "(II)J"⟩
abbrev cX11_place : ByteArray := prog_1_method_32_code
def yX11_place : MethodName := ⟨RX11, "place", "()I"⟩
abbrev cX11_asked : ByteArray := prog_1_method_33_code
def yX11_asked : MethodName := ⟨RX11, "asked", "(I)J"⟩
abbrev cX11_host : ByteArray := prog_1_method_34_code
def yX11_host : MethodName := ⟨RX11, "host", "(II)J"⟩
abbrev cX11_likeliestGuests : ByteArray := prog_1_method_35_code
def yX11_likeliestGuests : MethodName := ⟨RX11, "likeliestGuests", "(I)I"⟩
abbrev cX11_canBeGuests : ByteArray := prog_1_method_36_code
def yX11_canBeGuests : MethodName := ⟨RX11, "canBeGuests", "(I)Z"⟩
abbrev cX11_cheap : ByteArray := prog_1_method_37_code
def yX11_cheap : MethodName := ⟨RX11, "cheap", "(II)I"⟩
abbrev cX11_wager : ByteArray := prog_1_method_38_code
def yX11_wager : MethodName := ⟨RX11, "wager", "(II)J"⟩
abbrev cX11_refusalOfList : ByteArray := prog_1_method_39_code
def yX11_refusalOfList : MethodName := ⟨RX11, "refusalOfList", "(I)I"⟩
abbrev cX11_judge : ByteArray := prog_1_method_40_code
def yX11_judge : MethodName := ⟨RX11, "judge", "(I)I"⟩
abbrev cX11_firstWrong : ByteArray := prog_1_method_41_code
def yX11_firstWrong : MethodName := ⟨RX11, "firstWrong", "([II)I"⟩
abbrev cX11_list : ByteArray := prog_1_method_42_code
def yX11_list : MethodName := ⟨RX11, "list", "(II)I"⟩
abbrev cX11_firstSecond : ByteArray := prog_1_method_43_code
def yX11_firstSecond : MethodName := ⟨RX11, "firstSecond", "([I)I"⟩
abbrev cX11_pairsOf : ByteArray := prog_1_method_44_code
def yX11_pairsOf : MethodName := ⟨RX11, "pairsOf", "([I)I"⟩
abbrev cX11_daysOf : ByteArray := prog_1_method_45_code
def yX11_daysOf : MethodName := ⟨RX11, "daysOf", "([I)I"⟩
abbrev cX11_doubtsOf : ByteArray := prog_1_method_46_code
def yX11_doubtsOf : MethodName := ⟨RX11, "doubtsOf", "([I)I"⟩
abbrev cX11_comes : ByteArray := prog_1_method_47_code
def yX11_comes : MethodName := ⟨RX11, "comes", "(II)J"⟩
abbrev cX11_luck : ByteArray := prog_1_method_48_code
def yX11_luck : MethodName := ⟨RX11, "luck", "(II)J"⟩
abbrev cX11_laws : ByteArray := prog_1_method_49_code
def yX11_laws : MethodName := ⟨RX11, "laws", "(I)I"⟩
abbrev cX11_can : ByteArray := prog_1_method_50_code
def yX11_can : MethodName := ⟨RX11, "can", "(III)I"⟩
abbrev cX11_toldDaysFor : ByteArray := prog_1_method_51_code
def yX11_toldDaysFor : MethodName := ⟨RX11, "toldDaysFor", "(II)I"⟩
abbrev cX11_kindsFor : ByteArray := prog_1_method_52_code
def yX11_kindsFor : MethodName := ⟨RX11, "kindsFor", "(II)I"⟩
abbrev cX11_isSeed : ByteArray := prog_1_method_53_code
def yX11_isSeed : MethodName := ⟨RX11, "isSeed", "(I)Z"⟩
abbrev cX11_drawn : ByteArray := prog_1_method_54_code
def yX11_drawn : MethodName := ⟨RX11, "drawn", "(II)I"⟩
abbrev cX11_film : ByteArray := prog_1_method_55_code
def yX11_film : MethodName := ⟨RX11, "film", "(II)I"⟩
abbrev cX11_odds : ByteArray := prog_1_method_56_code
def yX11_odds : MethodName := ⟨RX11, "odds", "(III)J"⟩
abbrev cX11_image : ByteArray := prog_1_method_57_code
def yX11_image : MethodName := ⟨RX11, "image", "()I"⟩
abbrev cX11_back : ByteArray := prog_1_method_58_code
def yX11_back : MethodName := ⟨RX11, "back", "()I"⟩
abbrev cX11_isSheet : ByteArray := prog_1_method_59_code
def yX11_isSheet : MethodName := ⟨RX11, "isSheet", "(I)Z"⟩
abbrev cX11_refusalOfSheet : ByteArray := prog_1_method_60_code
def yX11_refusalOfSheet : MethodName := ⟨RX11, "refusalOfSheet", "(I)I"⟩
abbrev cX11_sheet : ByteArray := prog_1_method_61_code
def yX11_sheet : MethodName := ⟨RX11, "sheet", "(III)I"⟩
abbrev cX11_cell : ByteArray := prog_1_method_62_code
def yX11_cell : MethodName := ⟨RX11, "cell", "(III)I"⟩
abbrev cX11_copy : ByteArray := prog_1_method_63_code
def yX11_copy : MethodName := ⟨RX11, "copy", "(IIIII)I"⟩
abbrev cX11_peopleBy : ByteArray := prog_1_method_64_code
def yX11_peopleBy : MethodName := ⟨RX11, "peopleBy", "(IIII)I"⟩
abbrev cX11_taken : ByteArray := prog_1_method_65_code
def yX11_taken : MethodName := ⟨RX11, "taken", "(II)I"⟩
abbrev cX11_takenDay : ByteArray := prog_1_method_66_code
def yX11_takenDay : MethodName := ⟨RX11, "takenDay", "(II)I"⟩
abbrev cX11_takenPerson : ByteArray := prog_1_method_67_code
def yX11_takenPerson : MethodName := ⟨RX11, "takenPerson", "(II)I"⟩
abbrev cX11_fraction : ByteArray := prog_1_method_68_code
def yX11_fraction : MethodName := ⟨RX11, "fraction", "(JJI)J"⟩
abbrev cX11_commonDivisor : ByteArray := prog_1_method_69_code
def yX11_commonDivisor : MethodName := ⟨RX11, "commonDivisor", "(JJ)J"⟩
abbrev cX11_compareFractions : ByteArray := prog_1_method_70_code
def yX11_compareFractions : MethodName := ⟨RX11, "compareFractions", "(JJJJ)I"⟩
def RX12 : String := "TwoOnOneDayModel"
def TX12 : u_T := fun k => match k with
  | 0 => ("TwoOnOneDayModel", "year", "I", false)
  | 1 => ("TwoOnOneDayModel", "born", "[I", true)
  | 2 => ("TwoOnOneDayModel", "people", "I", false)
  | 3 => ("TwoOnOneDayModel", "kind", "[I", true)
  | 4 => ("TwoOnOneDayModel", "moreOf", "[I", true)
  | 5 => ("TwoOnOneDayModel", "toldDay", "[I", true)
  | 6 => ("TwoOnOneDayModel", "tape", "[I", true)
  | 7 => ("TwoOnOneDayModel", "taped", "I", false)
  | 8 => ("TwoOnOneDayModel", "codes", "[I", true)
  | 9 => ("TwoOnOneDayModel", "starts", "[I", true)
  | 10 => ("TwoOnOneDayModel", "texts", "I", false)
  | 11 => ("TwoOnOneDayModel", "rule", "I", false)
  | 12 => ("TwoOnOneDayModel", "hasImage", "Z", false)
  | 13 => ("TwoOnOneDayModel", "imagePeople", "I", false)
  | 14 => ("TwoOnOneDayModel", "imageYear", "I", false)
  | 15 => ("TwoOnOneDayModel", "imageRule", "I", false)
  | 16 => ("TwoOnOneDayModel", "imageRows", "[I", true)
  | 17 => ("TwoOnOneDayModel", "sheetSort", "[I", true)
  | 18 => ("TwoOnOneDayModel", "sheetSize", "[I", true)
  | 19 => ("TwoOnOneDayModel", "cells", "[I", true)
  | 20 => ("TwoOnOneDayModel", "law", "[I", true)
  | 21 => ("TwoOnOneDayModel", "at", "I", false)
  | 22 => ("TwoOnOneDayModel", "begun", "I", false)
  | 23 => ("TwoOnOneDayModel", "token", "I", false)
  | 24 => ("TwoOnOneDayModel", "value", "I", false)
  | 25 => ("TwoOnOneDayModel", "words", "[I", true)
  | 26 => ("TwoOnOneDayModel", "held", "[I", true)
  | 27 => ("TwoOnOneDayModel", "heldMany", "I", false)
  | 28 => ("TwoOnOneDayModel", "opens", "I", false)
  | 29 => ("TwoOnOneDayModel", "out", "I", false)
  | 30 => ("TwoOnOneDayModel", "stack", "[I", true)
  | 31 => ("TwoOnOneDayModel", "named", "[I", true)
  | 32 => ("TwoOnOneDayModel", "weights", "[I", true)
  | 33 => ("TwoOnOneDayModel", "totals", "[J", true)
  | 34 => ("TwoOnOneDayModel", "ways", "[J", true)
  | 35 => ("TwoOnOneDayModel", "unlike", "[J", true)
  | 36 => ("TwoOnOneDayModel", "product", "[J", true)
  | 37 => ("TwoOnOneDayModel", "counted", "[J", true)
  | 38 => ("TwoOnOneDayModel", "byMany", "[J", true)
  | 39 => ("TwoOnOneDayModel", "apart", "[J", true)
  | _ => ("TwoOnOneDayModel", "lots", "[I", true)
def tyX12 : Nat → FieldType := fun k => match k with
  | 0 => .int
  | 1 => .array .int
  | 2 => .int
  | 3 => .array .int
  | 4 => .array .int
  | 5 => .array .int
  | 6 => .array .int
  | 7 => .int
  | 8 => .array .int
  | 9 => .array .int
  | 10 => .int
  | 11 => .int
  | 12 => .boolean
  | 13 => .int
  | 14 => .int
  | 15 => .int
  | 16 => .array .int
  | 17 => .array .int
  | 18 => .array .int
  | 19 => .array .int
  | 20 => .array .int
  | 21 => .int
  | 22 => .int
  | 23 => .int
  | 24 => .int
  | 25 => .array .int
  | 26 => .array .int
  | 27 => .int
  | 28 => .int
  | 29 => .int
  | 30 => .array .int
  | 31 => .array .int
  | 32 => .array .int
  | 33 => .array .long
  | 34 => .array .long
  | 35 => .array .long
  | 36 => .array .long
  | 37 => .array .long
  | 38 => .array .long
  | 39 => .array .long
  | _ => .array .int
abbrev wsX120 : List Cond := u_ws RX12 TX12 41
theorem nmX12 : ∀ a, a < 41 → ∀ b, b < 41 → a ≠ b → (TX12 a).2.1 ≠ (TX12 b).2.1 := by decide +kernel
theorem tyX12_ok : ∀ k, k < 41 → parseFieldDescriptor (TX12 k).2.2.1 = some (tyX12 k) := by decide +kernel
abbrev cX12_init : ByteArray := prog_14_method_1_code
def yX12_init : MethodName := ⟨RX12, "<init>", "()V"⟩
abbrev cX12_in : ByteArray := prog_14_method_3_code
def yX12_in : MethodName := ⟨RX12, "in", "(III)Z"⟩
abbrev cX12_within : ByteArray := prog_14_method_4_code
def yX12_within : MethodName := ⟨RX12, "within", "(III)I"⟩
abbrev cX12_isDay : ByteArray := prog_14_method_5_code
def yX12_isDay : MethodName := ⟨RX12, "isDay", "(I)Z"⟩
abbrev cX12_isOne : ByteArray := prog_14_method_6_code
def yX12_isOne : MethodName := ⟨RX12, "isOne", "(I)Z"⟩
abbrev cX12_everybody : ByteArray := prog_14_method_7_code
def yX12_everybody : MethodName := ⟨RX12, "everybody", "()I"⟩
abbrev cX12_ones : ByteArray := prog_14_method_8_code
def yX12_ones : MethodName := ⟨RX12, "ones", "(I)I"⟩
abbrev cX12_isAnyToldFrom : ByteArray := prog_14_method_9_code
def yX12_isAnyToldFrom : MethodName := ⟨RX12, "isAnyToldFrom", "(I)Z"⟩
abbrev cX12_set : ByteArray := prog_14_method_10_code
def yX12_set : MethodName := ⟨RX12, "set", "(III)I"⟩
abbrev cX12_count : ByteArray := prog_14_method_11_code
def yX12_count : MethodName := ⟨RX12, "count", "(I)I"⟩
abbrev cX12_bornOn : ByteArray := prog_14_method_12_code
def yX12_bornOn : MethodName := ⟨RX12, "bornOn", "(I)I"⟩
abbrev cX12_isByte : ByteArray := prog_14_method_13_code
def yX12_isByte : MethodName := ⟨RX12, "isByte", "(I)Z"⟩
abbrev cX12_feed : ByteArray := prog_14_method_14_code
def yX12_feed : MethodName := ⟨RX12, "feed", "(IIIIII)I"⟩
abbrev cX12_wordFrom : ByteArray := prog_14_method_15_code
def yX12_wordFrom : MethodName := ⟨RX12, "wordFrom", "(II)I"⟩
abbrev cX12_next : ByteArray := prog_14_method_16_code
def yX12_next : MethodName := ⟨RX12, "next", "()V"⟩
abbrev cX12_rank : ByteArray := prog_14_method_17_code
def yX12_rank : MethodName := ⟨RX12, "rank", "(I)I"⟩
abbrev cX12_puts : ByteArray := prog_14_method_18_code
def yX12_puts : MethodName := ⟨RX12, "puts", "(I)V"⟩
abbrev cX12_unwinds : ByteArray := prog_14_method_19_code
def yX12_unwinds : MethodName := ⟨RX12, "unwinds", "(I)V"⟩
abbrev cX12_holds : ByteArray := prog_14_method_20_code
def yX12_holds : MethodName := ⟨RX12, "holds", "(I)V"⟩
abbrev cX12_opensOne : ByteArray := prog_14_method_21_code
def yX12_opensOne : MethodName := ⟨RX12, "opensOne", "(I)Z"⟩
abbrev cX12_between : ByteArray := prog_14_method_22_code
def yX12_between : MethodName := ⟨RX12, "between", "(I)Z"⟩
abbrev cX12_signOf : ByteArray := prog_14_method_23_code
def yX12_signOf : MethodName := ⟨RX12, "signOf", "()I"⟩
abbrev cX12_eRead : ByteArray := prog_14_method_24_code
def yX12_eRead : MethodName := ⟨RX12, "eRead", "()Z"⟩
abbrev cX12_text : ByteArray := prog_14_method_25_code
def yX12_text : MethodName := ⟨RX12, "text", "()I"⟩
abbrev cX12_two : ByteArray := prog_14_method_26_code
def yX12_two : MethodName := ⟨RX12, "two", "(III)I"⟩
abbrev cX12_says : ByteArray := prog_14_method_27_code
def yX12_says : MethodName := ⟨RX12, "says", "(I)I"⟩
abbrev cX12_force : ByteArray := prog_14_method_28_code
def yX12_force : MethodName := ⟨RX12, "force", "(I)I"⟩
abbrev cX12_asksOf : ByteArray := prog_14_method_29_code
def yX12_asksOf : MethodName := ⟨RX12, "asksOf", "(III)I"⟩
abbrev cX12_asks : ByteArray := prog_14_method_30_code
def yX12_asks : MethodName := ⟨RX12, "asks", "(III)I"⟩
abbrev cX12_person : ByteArray := prog_14_method_31_code
def yX12_person : MethodName := ⟨RX12, "person", "(III)I"⟩
abbrev cX12_move : ByteArray := prog_14_method_32_code
def yX12_move : MethodName := ⟨RX12, "move", "(II)I"⟩
abbrev cX12_weightOf : ByteArray := prog_14_method_33_code
def yX12_weightOf : MethodName := ⟨RX12, "weightOf", "(II)I"⟩
abbrev cX12_doubtsOf : ByteArray := prog_14_method_34_code
def yX12_doubtsOf : MethodName := ⟨RX12, "doubtsOf", "(I)I"⟩
abbrev cX12_comesWith : ByteArray := prog_14_method_35_code
def yX12_comesWith : MethodName := ⟨RX12, "comesWith", "(II)Z"⟩
abbrev cX12_allWeight : ByteArray := prog_14_method_36_code
def yX12_allWeight : MethodName := ⟨RX12, "allWeight", "(I)I"⟩
abbrev cX12_told : ByteArray := prog_14_method_37_code
def yX12_told : MethodName := ⟨RX12, "told", "(II)I"⟩
abbrev cX12_weight : ByteArray := prog_14_method_38_code
def yX12_weight : MethodName := ⟨RX12, "weight", "(II)I"⟩
abbrev cX12_reads : ByteArray := prog_14_method_39_code
def yX12_reads : MethodName := ⟨RX12, "reads", "()V"⟩
abbrev cX12_readsUnlike : ByteArray := prog_14_method_40_code
def yX12_readsUnlike : MethodName := ⟨RX12, "readsUnlike", "()V"⟩
abbrev cX12_readsProduct : ByteArray := prog_14_method_41_code
def yX12_readsProduct : MethodName := ⟨RX12, "readsProduct", "(I)V"⟩
abbrev cX12_greatest : ByteArray := prog_14_method_42_code
def yX12_greatest : MethodName := ⟨RX12, "greatest", "(JJ)J"⟩
abbrev cX12_fraction : ByteArray := prog_14_method_43_code
def yX12_fraction : MethodName := ⟨RX12, "fraction", "(JJI)J"⟩
abbrev cX12_isPart : ByteArray := prog_14_method_44_code
def yX12_isPart : MethodName := ⟨RX12, "isPart", "(I)Z"⟩
abbrev cX12_waysWithin : ByteArray := prog_14_method_45_code
def yX12_waysWithin : MethodName := ⟨RX12, "waysWithin", "(I)J"⟩
abbrev cX12_meets : ByteArray := prog_14_method_46_code
def yX12_meets : MethodName := ⟨RX12, "meets", "(II)J"⟩
abbrev cX12_areSome : ByteArray := prog_14_method_47_code
def yX12_areSome : MethodName := ⟨RX12, "areSome", "(I)Z"⟩
abbrev cX12_among : ByteArray := prog_14_method_48_code
def yX12_among : MethodName := ⟨RX12, "among", "(II)J"⟩
abbrev cX12_waysBut : ByteArray := prog_14_method_49_code
def yX12_waysBut : MethodName := ⟨RX12, "waysBut", "(I)J"⟩
abbrev cX12_mine : ByteArray := prog_14_method_50_code
def yX12_mine : MethodName := ⟨RX12, "mine", "(II)J"⟩
abbrev cX12_likeliest : ByteArray := prog_14_method_51_code
def yX12_likeliest : MethodName := ⟨RX12, "likeliest", "()I"⟩
abbrev cX12_countsMany : ByteArray := prog_14_method_52_code
def yX12_countsMany : MethodName := ⟨RX12, "countsMany", "(I)V"⟩
abbrev cX12_many : ByteArray := prog_14_method_53_code
def yX12_many : MethodName := ⟨RX12, "many", "(III)J"⟩
abbrev cX12_likely : ByteArray := prog_14_method_54_code
def yX12_likely : MethodName := ⟨RX12, "likely", "(I)I"⟩
abbrev cX12_mean : ByteArray := prog_14_method_55_code
def yX12_mean : MethodName := ⟨RX12, "mean", "(II)J"⟩
abbrev cX12_covers : ByteArray := prog_14_method_56_code
def yX12_covers : MethodName := ⟨RX12, "covers", "(II)J"⟩
abbrev cX12_waysApartFrom : ByteArray := prog_14_method_57_code
def yX12_waysApartFrom : MethodName := ⟨RX12, "waysApartFrom", "(II)J"⟩
abbrev cX12_near : ByteArray := prog_14_method_58_code
def yX12_near : MethodName := ⟨RX12, "near", "(II)J"⟩
abbrev cX12_firsts : ByteArray := prog_14_method_59_code
def yX12_firsts : MethodName := ⟨RX12, "firsts", "(I)I"⟩
abbrev cX12_needs : ByteArray := prog_14_method_60_code
def yX12_needs : MethodName := ⟨RX12, "needs", "(I)I"⟩
abbrev cX12_firstWith : ByteArray := prog_14_method_61_code
def yX12_firstWith : MethodName := ⟨RX12, "firstWith", "(I)J"⟩
abbrev cX12_first : ByteArray := prog_14_method_62_code
def yX12_first : MethodName := ⟨RX12, "first", "(II)J"⟩
abbrev cX12_isLess : ByteArray := prog_14_method_63_code
def yX12_isLess : MethodName := ⟨RX12, "isLess", "(JJJJ)Z"⟩
abbrev cX12_place : ByteArray := prog_14_method_64_code
def yX12_place : MethodName := ⟨RX12, "place", "()I"⟩
abbrev cX12_asked : ByteArray := prog_14_method_65_code
def yX12_asked : MethodName := ⟨RX12, "asked", "(I)J"⟩
abbrev cX12_allCome : ByteArray := prog_14_method_66_code
def yX12_allCome : MethodName := ⟨RX12, "allCome", "(I)Z"⟩
abbrev cX12_host : ByteArray := prog_14_method_67_code
def yX12_host : MethodName := ⟨RX12, "host", "(II)J"⟩
abbrev cX12_asksAll : ByteArray := prog_14_method_68_code
def yX12_asksAll : MethodName := ⟨RX12, "asksAll", "(II)I"⟩
abbrev cX12_cheap : ByteArray := prog_14_method_69_code
def yX12_cheap : MethodName := ⟨RX12, "cheap", "(II)I"⟩
abbrev cX12_wager : ByteArray := prog_14_method_70_code
def yX12_wager : MethodName := ⟨RX12, "wager", "(II)J"⟩
abbrev cX12_sheetWrong : ByteArray := prog_14_method_71_code
def yX12_sheetWrong : MethodName := ⟨RX12, "sheetWrong", "(I)I"⟩
abbrev cX12_judged : ByteArray := prog_14_method_72_code
def yX12_judged : MethodName := ⟨RX12, "judged", "(I)I"⟩
abbrev cX12_judge : ByteArray := prog_14_method_73_code
def yX12_judge : MethodName := ⟨RX12, "judge", "(I)I"⟩
abbrev cX12_pairsIn : ByteArray := prog_14_method_74_code
def yX12_pairsIn : MethodName := ⟨RX12, "pairsIn", "(I)I"⟩
abbrev cX12_firstIn : ByteArray := prog_14_method_75_code
def yX12_firstIn : MethodName := ⟨RX12, "firstIn", "(I)I"⟩
abbrev cX12_takenIn : ByteArray := prog_14_method_76_code
def yX12_takenIn : MethodName := ⟨RX12, "takenIn", "(I)I"⟩
abbrev cX12_doubtsIn : ByteArray := prog_14_method_77_code
def yX12_doubtsIn : MethodName := ⟨RX12, "doubtsIn", "(I)I"⟩
abbrev cX12_list : ByteArray := prog_14_method_78_code
def yX12_list : MethodName := ⟨RX12, "list", "(II)I"⟩
abbrev cX12_comes : ByteArray := prog_14_method_79_code
def yX12_comes : MethodName := ⟨RX12, "comes", "(II)J"⟩
abbrev cX12_luck : ByteArray := prog_14_method_80_code
def yX12_luck : MethodName := ⟨RX12, "luck", "(II)J"⟩
abbrev cX12_laws : ByteArray := prog_14_method_81_code
def yX12_laws : MethodName := ⟨RX12, "laws", "(I)I"⟩
abbrev cX12_can : ByteArray := prog_14_method_82_code
def yX12_can : MethodName := ⟨RX12, "can", "(III)I"⟩
abbrev cX12_dayBy : ByteArray := prog_14_method_83_code
def yX12_dayBy : MethodName := ⟨RX12, "dayBy", "(IJ)I"⟩
abbrev cX12_draws : ByteArray := prog_14_method_84_code
def yX12_draws : MethodName := ⟨RX12, "draws", "(I)V"⟩
abbrev cX12_isSeed : ByteArray := prog_14_method_85_code
def yX12_isSeed : MethodName := ⟨RX12, "isSeed", "(I)Z"⟩
abbrev cX12_drawn : ByteArray := prog_14_method_86_code
def yX12_drawn : MethodName := ⟨RX12, "drawn", "(II)I"⟩
abbrev cX12_film : ByteArray := prog_14_method_87_code
def yX12_film : MethodName := ⟨RX12, "film", "(II)I"⟩
abbrev cX12_lotsMeet : ByteArray := prog_14_method_88_code
def yX12_lotsMeet : MethodName := ⟨RX12, "lotsMeet", "()Z"⟩
abbrev cX12_odds : ByteArray := prog_14_method_89_code
def yX12_odds : MethodName := ⟨RX12, "odds", "(III)J"⟩
abbrev cX12_image : ByteArray := prog_14_method_90_code
def yX12_image : MethodName := ⟨RX12, "image", "()I"⟩
abbrev cX12_back : ByteArray := prog_14_method_91_code
def yX12_back : MethodName := ⟨RX12, "back", "()I"⟩
abbrev cX12_sheet : ByteArray := prog_14_method_92_code
def yX12_sheet : MethodName := ⟨RX12, "sheet", "(III)I"⟩
abbrev cX12_cell : ByteArray := prog_14_method_93_code
def yX12_cell : MethodName := ⟨RX12, "cell", "(III)I"⟩
abbrev cX12_copy : ByteArray := prog_14_method_94_code
def yX12_copy : MethodName := ⟨RX12, "copy", "(IIIII)I"⟩
abbrev cX12_peopleBy : ByteArray := prog_14_method_95_code
def yX12_peopleBy : MethodName := ⟨RX12, "peopleBy", "(IIII)I"⟩
abbrev cX12_isUnder : ByteArray := prog_14_method_96_code
def yX12_isUnder : MethodName := ⟨RX12, "isUnder", "(II)Z"⟩
abbrev cX12_taken : ByteArray := prog_14_method_97_code
def yX12_taken : MethodName := ⟨RX12, "taken", "(II)I"⟩
def RJx145de : String := "java/io/Serializable"
def TJx145de : u_T := fun k => match k with
  | _ => ("", "", "", false)
def tyJx145de : Nat → FieldType := fun k => match k with
  | _ => .int
abbrev wsJx145de0 : List Cond := u_ws RJx145de TJx145de 0
theorem nmJx145de : ∀ a, a < 0 → ∀ b, b < 0 → a ≠ b → (TJx145de a).2.1 ≠ (TJx145de b).2.1 := by decide +kernel
theorem tyJx145de_ok : ∀ k, k < 0 → parseFieldDescriptor (TJx145de k).2.2.1 = some (tyJx145de k) := by decide +kernel
def RJx9f9b0 : String := "java/lang/CharSequence"
def TJx9f9b0 : u_T := fun k => match k with
  | _ => ("", "", "", false)
def tyJx9f9b0 : Nat → FieldType := fun k => match k with
  | _ => .int
abbrev wsJx9f9b00 : List Cond := u_ws RJx9f9b0 TJx9f9b0 0
theorem nmJx9f9b0 : ∀ a, a < 0 → ∀ b, b < 0 → a ≠ b → (TJx9f9b0 a).2.1 ≠ (TJx9f9b0 b).2.1 := by decide +kernel
theorem tyJx9f9b0_ok : ∀ k, k < 0 → parseFieldDescriptor (TJx9f9b0 k).2.2.1 = some (tyJx9f9b0 k) := by decide +kernel
def RJx8e188 : String := "java/lang/Cloneable"
def TJx8e188 : u_T := fun k => match k with
  | _ => ("", "", "", false)
def tyJx8e188 : Nat → FieldType := fun k => match k with
  | _ => .int
abbrev wsJx8e1880 : List Cond := u_ws RJx8e188 TJx8e188 0
theorem nmJx8e188 : ∀ a, a < 0 → ∀ b, b < 0 → a ≠ b → (TJx8e188 a).2.1 ≠ (TJx8e188 b).2.1 := by decide +kernel
theorem tyJx8e188_ok : ∀ k, k < 0 → parseFieldDescriptor (TJx8e188 k).2.2.1 = some (tyJx8e188 k) := by decide +kernel
def RJxb160c : String := "java/lang/Comparable"
def TJxb160c : u_T := fun k => match k with
  | _ => ("", "", "", false)
def tyJxb160c : Nat → FieldType := fun k => match k with
  | _ => .int
abbrev wsJxb160c0 : List Cond := u_ws RJxb160c TJxb160c 0
theorem nmJxb160c : ∀ a, a < 0 → ∀ b, b < 0 → a ≠ b → (TJxb160c a).2.1 ≠ (TJxb160c b).2.1 := by decide +kernel
theorem tyJxb160c_ok : ∀ k, k < 0 → parseFieldDescriptor (TJxb160c k).2.2.1 = some (tyJxb160c k) := by decide +kernel
def RJ6 : String := "java/lang/Integer"
def TJ6 : u_T := fun k => match k with
  | _ => ("", "", "", false)
def tyJ6 : Nat → FieldType := fun k => match k with
  | _ => .int
abbrev wsJ60 : List Cond := u_ws RJ6 TJ6 0
theorem nmJ6 : ∀ a, a < 0 → ∀ b, b < 0 → a ≠ b → (TJ6 a).2.1 ≠ (TJ6 b).2.1 := by decide +kernel
theorem tyJ6_ok : ∀ k, k < 0 → parseFieldDescriptor (TJ6 k).2.2.1 = some (tyJ6 k) := by decide +kernel
abbrev cJ6_compare_7cf53 : ByteArray := prog_16_method_40_code
def yJ6_compare_7cf53 : MethodName := ⟨RJ6, "compare", "(II)I"⟩
abbrev cJ6_bitCount_0f7a4 : ByteArray := prog_16_method_49_code
def yJ6_bitCount_0f7a4 : MethodName := ⟨RJ6, "bitCount", "(I)I"⟩
def RJ13 : String := "java/lang/Long"
def TJ13 : u_T := fun k => match k with
  | _ => ("", "", "", false)
def tyJ13 : Nat → FieldType := fun k => match k with
  | _ => .int
abbrev wsJ130 : List Cond := u_ws RJ13 TJ13 0
theorem nmJ13 : ∀ a, a < 0 → ∀ b, b < 0 → a ≠ b → (TJ13 a).2.1 ≠ (TJ13 b).2.1 := by decide +kernel
theorem tyJ13_ok : ∀ k, k < 0 → parseFieldDescriptor (TJ13 k).2.2.1 = some (tyJ13 k) := by decide +kernel
abbrev cJ13_compare_74951 : ByteArray := prog_17_method_42_code
def yJ13_compare_74951 : MethodName := ⟨RJ13, "compare", "(JJ)I"⟩
def RJ9 : String := "java/lang/Math"
def TJ9 : u_T := fun k => match k with
  | _ => ("", "", "", false)
def tyJ9 : Nat → FieldType := fun k => match k with
  | _ => .int
abbrev wsJ90 : List Cond := u_ws RJ9 TJ9 0
theorem nmJ9 : ∀ a, a < 0 → ∀ b, b < 0 → a ≠ b → (TJ9 a).2.1 ≠ (TJ9 b).2.1 := by decide +kernel
theorem tyJ9_ok : ∀ k, k < 0 → parseFieldDescriptor (TJ9 k).2.2.1 = some (tyJ9 k) := by decide +kernel
abbrev cJ9_abs_067f4 : ByteArray := prog_18_method_61_code
def yJ9_abs_067f4 : MethodName := ⟨RJ9, "abs", "(J)J"⟩
abbrev cJ9_max_7cf53 : ByteArray := prog_18_method_65_code
def yJ9_max_7cf53 : MethodName := ⟨RJ9, "max", "(II)I"⟩
abbrev cJ9_min_7cf53 : ByteArray := prog_18_method_69_code
def yJ9_min_7cf53 : MethodName := ⟨RJ9, "min", "(II)I"⟩
def RJ0 : String := "java/lang/String"
def TJ0 : u_T := fun k => match k with
  | _ => ("", "", "", false)
def tyJ0 : Nat → FieldType := fun k => match k with
  | _ => .int
abbrev wsJ00 : List Cond := u_ws RJ0 TJ0 0
theorem nmJ0 : ∀ a, a < 0 → ∀ b, b < 0 → a ≠ b → (TJ0 a).2.1 ≠ (TJ0 b).2.1 := by decide +kernel
theorem tyJ0_ok : ∀ k, k < 0 → parseFieldDescriptor (TJ0 k).2.2.1 = some (tyJ0 k) := by decide +kernel
abbrev cJ0_length_8abf5 : ByteArray := prog_19_method_54_code
def yJ0_length_8abf5 : MethodName := ⟨RJ0, "length", "()I"⟩
abbrev cJ0_charAt_5068e : ByteArray := prog_19_method_56_code
def yJ0_charAt_5068e : MethodName := ⟨RJ0, "charAt", "(I)C"⟩
abbrev cJ0_coder_7d493 : ByteArray := prog_19_method_152_code
def yJ0_coder_7d493 : MethodName := ⟨RJ0, "coder", "()B"⟩
abbrev cJ0_isLatin1_aae02 : ByteArray := prog_19_method_154_code
def yJ0_isLatin1_aae02 : MethodName := ⟨RJ0, "isLatin1", "()Z"⟩
abbrev cJ0_checkIndex_df160 : ByteArray := prog_19_method_155_code
def yJ0_checkIndex_df160 : MethodName := ⟨RJ0, "checkIndex", "(II)V"⟩
def RJ1 : String := "java/lang/StringLatin1"
def TJ1 : u_T := fun k => match k with
  | _ => ("", "", "", false)
def tyJ1 : Nat → FieldType := fun k => match k with
  | _ => .int
abbrev wsJ10 : List Cond := u_ws RJ1 TJ1 0
theorem nmJ1 : ∀ a, a < 0 → ∀ b, b < 0 → a ≠ b → (TJ1 a).2.1 ≠ (TJ1 b).2.1 := by decide +kernel
theorem tyJ1_ok : ∀ k, k < 0 → parseFieldDescriptor (TJ1 k).2.2.1 = some (tyJ1 k) := by decide +kernel
abbrev cJ1_charAt_3b067 : ByteArray := prog_20_method_2_code
def yJ1_charAt_3b067 : MethodName := ⟨RJ1, "charAt", "([BI)C"⟩
def RJ2 : String := "java/lang/StringUTF16"
def TJ2 : u_T := fun k => match k with
  | _ => ("", "", "", false)
def tyJ2 : Nat → FieldType := fun k => match k with
  | _ => .int
abbrev wsJ20 : List Cond := u_ws RJ2 TJ2 0
theorem nmJ2 : ∀ a, a < 0 → ∀ b, b < 0 → a ≠ b → (TJ2 a).2.1 ≠ (TJ2 b).2.1 := by decide +kernel
theorem tyJ2_ok : ∀ k, k < 0 → parseFieldDescriptor (TJ2 k).2.2.1 = some (tyJ2 k) := by decide +kernel
abbrev cJ2_getChar_3b067 : ByteArray := prog_21_method_5_code
def yJ2_getChar_3b067 : MethodName := ⟨RJ2, "getChar", "([BI)C"⟩
abbrev cJ2_length_9d52b : ByteArray := prog_21_method_6_code
def yJ2_length_9d52b : MethodName := ⟨RJ2, "length", "([B)I"⟩
abbrev cJ2_charAt_3b067 : ByteArray := prog_21_method_83_code
def yJ2_charAt_3b067 : MethodName := ⟨RJ2, "charAt", "([BI)C"⟩
abbrev cJ2_checkIndex_2214a : ByteArray := prog_21_method_91_code
def yJ2_checkIndex_2214a : MethodName := ⟨RJ2, "checkIndex", "(I[B)V"⟩
def RJ10 : String := "java/lang/System"
def TJ10 : u_T := fun k => match k with
  | _ => ("", "", "", false)
def tyJ10 : Nat → FieldType := fun k => match k with
  | _ => .int
abbrev wsJ100 : List Cond := u_ws RJ10 TJ10 0
theorem nmJ10 : ∀ a, a < 0 → ∀ b, b < 0 → a ≠ b → (TJ10 a).2.1 ≠ (TJ10 b).2.1 := by decide +kernel
theorem tyJ10_ok : ∀ k, k < 0 → parseFieldDescriptor (TJ10 k).2.2.1 = some (tyJ10 k) := by decide +kernel
def RJxfd54e : String := "java/lang/constant/Constable"
def TJxfd54e : u_T := fun k => match k with
  | _ => ("", "", "", false)
def tyJxfd54e : Nat → FieldType := fun k => match k with
  | _ => .int
abbrev wsJxfd54e0 : List Cond := u_ws RJxfd54e TJxfd54e 0
theorem nmJxfd54e : ∀ a, a < 0 → ∀ b, b < 0 → a ≠ b → (TJxfd54e a).2.1 ≠ (TJxfd54e b).2.1 := by decide +kernel
theorem tyJxfd54e_ok : ∀ k, k < 0 → parseFieldDescriptor (TJxfd54e k).2.2.1 = some (tyJxfd54e k) := by decide +kernel
def RJx3cf43 : String := "java/lang/constant/ConstantDesc"
def TJx3cf43 : u_T := fun k => match k with
  | _ => ("", "", "", false)
def tyJx3cf43 : Nat → FieldType := fun k => match k with
  | _ => .int
abbrev wsJx3cf430 : List Cond := u_ws RJx3cf43 TJx3cf43 0
theorem nmJx3cf43 : ∀ a, a < 0 → ∀ b, b < 0 → a ≠ b → (TJx3cf43 a).2.1 ≠ (TJx3cf43 b).2.1 := by decide +kernel
theorem tyJx3cf43_ok : ∀ k, k < 0 → parseFieldDescriptor (TJx3cf43 k).2.2.1 = some (tyJx3cf43 k) := by decide +kernel
def RJ7 : String := "java/util/Arrays"
def TJ7 : u_T := fun k => match k with
  | _ => ("", "", "", false)
def tyJ7 : Nat → FieldType := fun k => match k with
  | _ => .int
abbrev wsJ70 : List Cond := u_ws RJ7 TJ7 0
theorem nmJ7 : ∀ a, a < 0 → ∀ b, b < 0 → a ≠ b → (TJ7 a).2.1 ≠ (TJ7 b).2.1 := by decide +kernel
theorem tyJ7_ok : ∀ k, k < 0 → parseFieldDescriptor (TJ7 k).2.2.1 = some (tyJ7 k) := by decide +kernel
abbrev cJ7_copyOf_59c91 : ByteArray := prog_23_method_123_code
def yJ7_copyOf_59c91 : MethodName := ⟨RJ7, "copyOf", "([II)[I"⟩
def RJ3 : String := "jdk/internal/util/Preconditions"
def TJ3 : u_T := fun k => match k with
  | _ => ("", "", "", false)
def tyJ3 : Nat → FieldType := fun k => match k with
  | _ => .int
abbrev wsJ30 : List Cond := u_ws RJ3 TJ3 0
theorem nmJ3 : ∀ a, a < 0 → ∀ b, b < 0 → a ≠ b → (TJ3 a).2.1 ≠ (TJ3 b).2.1 := by decide +kernel
theorem tyJ3_ok : ∀ k, k < 0 → parseFieldDescriptor (TJ3 k).2.2.1 = some (tyJ3 k) := by decide +kernel
abbrev cJ3_checkIndex_8e157 : ByteArray := prog_24_method_11_code
def yJ3_checkIndex_8e157 : MethodName := ⟨RJ3, "checkIndex", "(IILjava/util/function/BiFunction;)I"⟩
def RL : String := "TwoOnOneDayLaw"
abbrev cL_law : ByteArray := code
def yL_law : MethodName := ⟨RL, "law", "([I)Z"⟩
abbrev vwCl : List vw_C := [(RX0, TX0, 6), (RX1, TX1, 7), (RX2, TX2, 4), (RX3, TX3, 5), (RX4, TX4, 3), (RX5, TX5, 5), (RX6, TX6, 6), (RX7, TX7, 2), (RX8, TX8, 14), (RX9, TX9, 8), (RX10, TX10, 2), (RX11, TX11, 9), (RX12, TX12, 41)]
