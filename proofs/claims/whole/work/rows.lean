section
-- ===== PART A: goes FIRST, ahead of the names: the tables' words, and 'selects' of the private methods out of them =====
/-- a private method of a class that the tables say can be made, by its rows of tables_1 -/
def lw_okq (q : MethodName × Nat) : Prop := (q.1.cls ≠ "java/lang/invoke/MethodHandle" ∧ q.1.cls ≠ "java/lang/invoke/VarHandle") ∧ Cond.instantiable q.1.cls q.2 ∈ tables_1 ∧ Cond.privateMethod q.1 ∈ tables_1 ∧ Cond.instanceMethod q.1 ∈ tables_1
theorem lw_p0 : lw_okq (⟨"SinkingChoir$Score", "tune", "()V"⟩, 7) := ⟨⟨by decide +kernel, by decide +kernel⟩, List.mem_of_getElem? (i := 32) (by decide +kernel), List.mem_of_getElem? (i := 430) (by decide +kernel), List.mem_of_getElem? (i := 431) (by decide +kernel)⟩
theorem lw_p1 : lw_okq (⟨"SinkingChoir", "changed", "()Z"⟩, 10) := ⟨⟨by decide +kernel, by decide +kernel⟩, List.mem_of_getElem? (i := 24) (by decide +kernel), List.mem_of_getElem? (i := 438) (by decide +kernel), List.mem_of_getElem? (i := 439) (by decide +kernel)⟩
theorem lw_p2 : lw_okq (⟨"SinkingChoir", "asksRow", "(I)Z"⟩, 10) := ⟨⟨by decide +kernel, by decide +kernel⟩, List.mem_of_getElem? (i := 24) (by decide +kernel), List.mem_of_getElem? (i := 523) (by decide +kernel), List.mem_of_getElem? (i := 524) (by decide +kernel)⟩
theorem lw_p3 : lw_okq (⟨"SinkingChoir", "explored", "()LSinkingChoir$Ways;"⟩, 10) := ⟨⟨by decide +kernel, by decide +kernel⟩, List.mem_of_getElem? (i := 24) (by decide +kernel), List.mem_of_getElem? (i := 527) (by decide +kernel), List.mem_of_getElem? (i := 528) (by decide +kernel)⟩
theorem lw_p4 : lw_okq (⟨"SinkingChoir$Ways", "spread", "(II)Z"⟩, 10) := ⟨⟨by decide +kernel, by decide +kernel⟩, List.mem_of_getElem? (i := 531) (by decide +kernel), List.mem_of_getElem? (i := 578) (by decide +kernel), List.mem_of_getElem? (i := 579) (by decide +kernel)⟩
theorem lw_p5 : lw_okq (⟨"SinkingChoir$Ways", "find", "(II)I"⟩, 10) := ⟨⟨by decide +kernel, by decide +kernel⟩, List.mem_of_getElem? (i := 531) (by decide +kernel), List.mem_of_getElem? (i := 590) (by decide +kernel), List.mem_of_getElem? (i := 591) (by decide +kernel)⟩
theorem lw_p6 : lw_okq (⟨"SinkingChoir$Ways", "price", "(Z)V"⟩, 10) := ⟨⟨by decide +kernel, by decide +kernel⟩, List.mem_of_getElem? (i := 531) (by decide +kernel), List.mem_of_getElem? (i := 594) (by decide +kernel), List.mem_of_getElem? (i := 595) (by decide +kernel)⟩
theorem lw_p7 : lw_okq (⟨"SinkingChoir$Ways", "relax", "(IIZ)V"⟩, 10) := ⟨⟨by decide +kernel, by decide +kernel⟩, List.mem_of_getElem? (i := 531) (by decide +kernel), List.mem_of_getElem? (i := 601) (by decide +kernel), List.mem_of_getElem? (i := 602) (by decide +kernel)⟩
theorem lw_p8 : lw_okq (⟨"SinkingChoir$Ways", "follow", "()Z"⟩, 10) := ⟨⟨by decide +kernel, by decide +kernel⟩, List.mem_of_getElem? (i := 531) (by decide +kernel), List.mem_of_getElem? (i := 605) (by decide +kernel), List.mem_of_getElem? (i := 606) (by decide +kernel)⟩
theorem lw_p9 : lw_okq (⟨"SinkingChoir$Reader", "clause", "(I)V"⟩, 5) := ⟨⟨by decide +kernel, by decide +kernel⟩, List.mem_of_getElem? (i := 330) (by decide +kernel), List.mem_of_getElem? (i := 691) (by decide +kernel), List.mem_of_getElem? (i := 692) (by decide +kernel)⟩
theorem lw_p10 : lw_okq (⟨"SinkingChoir$Reader", "here", "()I"⟩, 5) := ⟨⟨by decide +kernel, by decide +kernel⟩, List.mem_of_getElem? (i := 330) (by decide +kernel), List.mem_of_getElem? (i := 696) (by decide +kernel), List.mem_of_getElem? (i := 697) (by decide +kernel)⟩
theorem lw_p11 : lw_okq (⟨"SinkingChoir$Reader", "fail", "(I)V"⟩, 5) := ⟨⟨by decide +kernel, by decide +kernel⟩, List.mem_of_getElem? (i := 330) (by decide +kernel), List.mem_of_getElem? (i := 778) (by decide +kernel), List.mem_of_getElem? (i := 779) (by decide +kernel)⟩
theorem lw_p12 : lw_okq (⟨"SinkingChoir$Reader", "sum", "(I)V"⟩, 5) := ⟨⟨by decide +kernel, by decide +kernel⟩, List.mem_of_getElem? (i := 330) (by decide +kernel), List.mem_of_getElem? (i := 786) (by decide +kernel), List.mem_of_getElem? (i := 787) (by decide +kernel)⟩
theorem lw_p13 : lw_okq (⟨"SinkingChoir$Reader", "product", "(I)V"⟩, 5) := ⟨⟨by decide +kernel, by decide +kernel⟩, List.mem_of_getElem? (i := 330) (by decide +kernel), List.mem_of_getElem? (i := 790) (by decide +kernel), List.mem_of_getElem? (i := 791) (by decide +kernel)⟩
theorem lw_p14 : lw_okq (⟨"SinkingChoir$Reader", "factor", "(I)V"⟩, 5) := ⟨⟨by decide +kernel, by decide +kernel⟩, List.mem_of_getElem? (i := 330) (by decide +kernel), List.mem_of_getElem? (i := 794) (by decide +kernel), List.mem_of_getElem? (i := 795) (by decide +kernel)⟩
theorem lw_p15 : lw_okq (⟨"SinkingChoir$Reader", "number", "()V"⟩, 5) := ⟨⟨by decide +kernel, by decide +kernel⟩, List.mem_of_getElem? (i := 330) (by decide +kernel), List.mem_of_getElem? (i := 806) (by decide +kernel), List.mem_of_getElem? (i := 807) (by decide +kernel)⟩
def lw_privs_1 : List (MethodName × Nat) := [(⟨"SinkingChoir$Score", "tune", "()V"⟩, 7), (⟨"SinkingChoir", "changed", "()Z"⟩, 10), (⟨"SinkingChoir", "asksRow", "(I)Z"⟩, 10), (⟨"SinkingChoir", "explored", "()LSinkingChoir$Ways;"⟩, 10), (⟨"SinkingChoir$Ways", "spread", "(II)Z"⟩, 10), (⟨"SinkingChoir$Ways", "find", "(II)I"⟩, 10), (⟨"SinkingChoir$Ways", "price", "(Z)V"⟩, 10), (⟨"SinkingChoir$Ways", "relax", "(IIZ)V"⟩, 10), (⟨"SinkingChoir$Ways", "follow", "()Z"⟩, 10), (⟨"SinkingChoir$Reader", "clause", "(I)V"⟩, 5), (⟨"SinkingChoir$Reader", "here", "()I"⟩, 5), (⟨"SinkingChoir$Reader", "fail", "(I)V"⟩, 5), (⟨"SinkingChoir$Reader", "sum", "(I)V"⟩, 5), (⟨"SinkingChoir$Reader", "product", "(I)V"⟩, 5), (⟨"SinkingChoir$Reader", "factor", "(I)V"⟩, 5), (⟨"SinkingChoir$Reader", "number", "()V"⟩, 5)]
theorem lw_r1 : ∀ q ∈ lw_privs_1, lw_okq q := List.forall_mem_cons.mpr ⟨lw_p0, List.forall_mem_cons.mpr ⟨lw_p1, List.forall_mem_cons.mpr ⟨lw_p2, List.forall_mem_cons.mpr ⟨lw_p3, List.forall_mem_cons.mpr ⟨lw_p4, List.forall_mem_cons.mpr ⟨lw_p5, List.forall_mem_cons.mpr ⟨lw_p6, List.forall_mem_cons.mpr ⟨lw_p7, List.forall_mem_cons.mpr ⟨lw_p8, List.forall_mem_cons.mpr ⟨lw_p9, List.forall_mem_cons.mpr ⟨lw_p10, List.forall_mem_cons.mpr ⟨lw_p11, List.forall_mem_cons.mpr ⟨lw_p12, List.forall_mem_cons.mpr ⟨lw_p13, List.forall_mem_cons.mpr ⟨lw_p14, List.forall_mem_cons.mpr ⟨lw_p15, fun _ h => absurd h List.not_mem_nil⟩⟩⟩⟩⟩⟩⟩⟩⟩⟩⟩⟩⟩⟩⟩⟩
theorem lw_p16 : lw_okq (⟨"SinkingChoir$Reader", "take", "(I)V"⟩, 5) := ⟨⟨by decide +kernel, by decide +kernel⟩, List.mem_of_getElem? (i := 330) (by decide +kernel), List.mem_of_getElem? (i := 810) (by decide +kernel), List.mem_of_getElem? (i := 811) (by decide +kernel)⟩
theorem lw_p17 : lw_okq (⟨"SinkingChoir$Reader", "either", "(I)V"⟩, 5) := ⟨⟨by decide +kernel, by decide +kernel⟩, List.mem_of_getElem? (i := 330) (by decide +kernel), List.mem_of_getElem? (i := 818) (by decide +kernel), List.mem_of_getElem? (i := 819) (by decide +kernel)⟩
theorem lw_p18 : lw_okq (⟨"SinkingChoir$Reader", "all", "(I)V"⟩, 5) := ⟨⟨by decide +kernel, by decide +kernel⟩, List.mem_of_getElem? (i := 330) (by decide +kernel), List.mem_of_getElem? (i := 822) (by decide +kernel), List.mem_of_getElem? (i := 823) (by decide +kernel)⟩
theorem lw_p19 : lw_okq (⟨"SinkingChoir$Reader", "piece", "(I)V"⟩, 5) := ⟨⟨by decide +kernel, by decide +kernel⟩, List.mem_of_getElem? (i := 330) (by decide +kernel), List.mem_of_getElem? (i := 826) (by decide +kernel), List.mem_of_getElem? (i := 827) (by decide +kernel)⟩
theorem lw_p20 : lw_okq (⟨"SinkingChoir$Reader", "comparison", "()I"⟩, 5) := ⟨⟨by decide +kernel, by decide +kernel⟩, List.mem_of_getElem? (i := 330) (by decide +kernel), List.mem_of_getElem? (i := 830) (by decide +kernel), List.mem_of_getElem? (i := 831) (by decide +kernel)⟩
theorem lw_p21 : lw_okq (⟨"SinkingChoir$Singing", "giveAgain", "(I)V"⟩, 15) := ⟨⟨by decide +kernel, by decide +kernel⟩, List.mem_of_getElem? (i := 172) (by decide +kernel), List.mem_of_getElem? (i := 869) (by decide +kernel), List.mem_of_getElem? (i := 870) (by decide +kernel)⟩
theorem lw_p22 : lw_okq (⟨"SinkingChoir$Singing", "tableOf", "(II)J"⟩, 15) := ⟨⟨by decide +kernel, by decide +kernel⟩, List.mem_of_getElem? (i := 172) (by decide +kernel), List.mem_of_getElem? (i := 877) (by decide +kernel), List.mem_of_getElem? (i := 878) (by decide +kernel)⟩
theorem lw_p23 : lw_okq (⟨"SinkingChoir$Singing", "singNote", "(II)V"⟩, 15) := ⟨⟨by decide +kernel, by decide +kernel⟩, List.mem_of_getElem? (i := 172) (by decide +kernel), List.mem_of_getElem? (i := 891) (by decide +kernel), List.mem_of_getElem? (i := 892) (by decide +kernel)⟩
theorem lw_p24 : lw_okq (⟨"SinkingChoir$Singing", "tellLetters", "(III)V"⟩, 15) := ⟨⟨by decide +kernel, by decide +kernel⟩, List.mem_of_getElem? (i := 172) (by decide +kernel), List.mem_of_getElem? (i := 896) (by decide +kernel), List.mem_of_getElem? (i := 897) (by decide +kernel)⟩
theorem lw_p25 : lw_okq (⟨"SinkingChoir$Singing", "isKnowing", "(I)Z"⟩, 15) := ⟨⟨by decide +kernel, by decide +kernel⟩, List.mem_of_getElem? (i := 172) (by decide +kernel), List.mem_of_getElem? (i := 900) (by decide +kernel), List.mem_of_getElem? (i := 901) (by decide +kernel)⟩
theorem lw_p26 : lw_okq (⟨"SinkingChoir$Program", "reckon", "(II[I)Z"⟩, 8) := ⟨⟨by decide +kernel, by decide +kernel⟩, List.mem_of_getElem? (i := 79) (by decide +kernel), List.mem_of_getElem? (i := 916) (by decide +kernel), List.mem_of_getElem? (i := 917) (by decide +kernel)⟩
theorem lw_p27 : lw_okq (⟨"SinkingChoir$Singing", "millsOf", "(II)J"⟩, 15) := ⟨⟨by decide +kernel, by decide +kernel⟩, List.mem_of_getElem? (i := 172) (by decide +kernel), List.mem_of_getElem? (i := 935) (by decide +kernel), List.mem_of_getElem? (i := 936) (by decide +kernel)⟩
theorem lw_p28 : lw_okq (⟨"SinkingChoir$Singing", "givenIn", "(I)I"⟩, 15) := ⟨⟨by decide +kernel, by decide +kernel⟩, List.mem_of_getElem? (i := 172) (by decide +kernel), List.mem_of_getElem? (i := 939) (by decide +kernel), List.mem_of_getElem? (i := 940) (by decide +kernel)⟩
theorem lw_p29 : lw_okq (⟨"SinkingChoir$Choir", "above", "(II)I"⟩, 13) := ⟨⟨by decide +kernel, by decide +kernel⟩, List.mem_of_getElem? (i := 73) (by decide +kernel), List.mem_of_getElem? (i := 973) (by decide +kernel), List.mem_of_getElem? (i := 974) (by decide +kernel)⟩
theorem lw_p30 : lw_okq (⟨"SinkingChoir$Standing", "sort", "(I)V"⟩, 7) := ⟨⟨by decide +kernel, by decide +kernel⟩, List.mem_of_getElem? (i := 238) (by decide +kernel), List.mem_of_getElem? (i := 1028) (by decide +kernel), List.mem_of_getElem? (i := 1029) (by decide +kernel)⟩
theorem lw_p31 : lw_okq (⟨"SinkingChoir$Standing", "swap", "(II)V"⟩, 7) := ⟨⟨by decide +kernel, by decide +kernel⟩, List.mem_of_getElem? (i := 238) (by decide +kernel), List.mem_of_getElem? (i := 1032) (by decide +kernel), List.mem_of_getElem? (i := 1033) (by decide +kernel)⟩
def lw_privs_2 : List (MethodName × Nat) := [(⟨"SinkingChoir$Reader", "take", "(I)V"⟩, 5), (⟨"SinkingChoir$Reader", "either", "(I)V"⟩, 5), (⟨"SinkingChoir$Reader", "all", "(I)V"⟩, 5), (⟨"SinkingChoir$Reader", "piece", "(I)V"⟩, 5), (⟨"SinkingChoir$Reader", "comparison", "()I"⟩, 5), (⟨"SinkingChoir$Singing", "giveAgain", "(I)V"⟩, 15), (⟨"SinkingChoir$Singing", "tableOf", "(II)J"⟩, 15), (⟨"SinkingChoir$Singing", "singNote", "(II)V"⟩, 15), (⟨"SinkingChoir$Singing", "tellLetters", "(III)V"⟩, 15), (⟨"SinkingChoir$Singing", "isKnowing", "(I)Z"⟩, 15), (⟨"SinkingChoir$Program", "reckon", "(II[I)Z"⟩, 8), (⟨"SinkingChoir$Singing", "millsOf", "(II)J"⟩, 15), (⟨"SinkingChoir$Singing", "givenIn", "(I)I"⟩, 15), (⟨"SinkingChoir$Choir", "above", "(II)I"⟩, 13), (⟨"SinkingChoir$Standing", "sort", "(I)V"⟩, 7), (⟨"SinkingChoir$Standing", "swap", "(II)V"⟩, 7)]
theorem lw_r2 : ∀ q ∈ lw_privs_2, lw_okq q := List.forall_mem_cons.mpr ⟨lw_p16, List.forall_mem_cons.mpr ⟨lw_p17, List.forall_mem_cons.mpr ⟨lw_p18, List.forall_mem_cons.mpr ⟨lw_p19, List.forall_mem_cons.mpr ⟨lw_p20, List.forall_mem_cons.mpr ⟨lw_p21, List.forall_mem_cons.mpr ⟨lw_p22, List.forall_mem_cons.mpr ⟨lw_p23, List.forall_mem_cons.mpr ⟨lw_p24, List.forall_mem_cons.mpr ⟨lw_p25, List.forall_mem_cons.mpr ⟨lw_p26, List.forall_mem_cons.mpr ⟨lw_p27, List.forall_mem_cons.mpr ⟨lw_p28, List.forall_mem_cons.mpr ⟨lw_p29, List.forall_mem_cons.mpr ⟨lw_p30, List.forall_mem_cons.mpr ⟨lw_p31, fun _ h => absurd h List.not_mem_nil⟩⟩⟩⟩⟩⟩⟩⟩⟩⟩⟩⟩⟩⟩⟩⟩
theorem lw_p32 : lw_okq (⟨"SinkingChoir$Standing", "next", "()Z"⟩, 7) := ⟨⟨by decide +kernel, by decide +kernel⟩, List.mem_of_getElem? (i := 238) (by decide +kernel), List.mem_of_getElem? (i := 1040) (by decide +kernel), List.mem_of_getElem? (i := 1041) (by decide +kernel)⟩
theorem lw_p33 : lw_okq (⟨"SinkingChoir$Leading", "chart", "(II)V"⟩, 5) := ⟨⟨by decide +kernel, by decide +kernel⟩, List.mem_of_getElem? (i := 269) (by decide +kernel), List.mem_of_getElem? (i := 1057) (by decide +kernel), List.mem_of_getElem? (i := 1058) (by decide +kernel)⟩
theorem lw_p34 : lw_okq (⟨"SinkingChoir$Leading", "farthest", "(II)J"⟩, 5) := ⟨⟨by decide +kernel, by decide +kernel⟩, List.mem_of_getElem? (i := 269) (by decide +kernel), List.mem_of_getElem? (i := 1067) (by decide +kernel), List.mem_of_getElem? (i := 1068) (by decide +kernel)⟩
theorem lw_p35 : lw_okq (⟨"SinkingChoir$Leading", "consider", "(IJ)V"⟩, 5) := ⟨⟨by decide +kernel, by decide +kernel⟩, List.mem_of_getElem? (i := 269) (by decide +kernel), List.mem_of_getElem? (i := 1071) (by decide +kernel), List.mem_of_getElem? (i := 1072) (by decide +kernel)⟩
theorem lw_p36 : lw_okq (⟨"SinkingChoir$Fitting", "addBeat", "(II)V"⟩, 5) := ⟨⟨by decide +kernel, by decide +kernel⟩, List.mem_of_getElem? (i := 293) (by decide +kernel), List.mem_of_getElem? (i := 1110) (by decide +kernel), List.mem_of_getElem? (i := 1111) (by decide +kernel)⟩
theorem lw_p37 : lw_okq (⟨"SinkingChoir", "minded", "(III)J"⟩, 10) := ⟨⟨by decide +kernel, by decide +kernel⟩, List.mem_of_getElem? (i := 24) (by decide +kernel), List.mem_of_getElem? (i := 1134) (by decide +kernel), List.mem_of_getElem? (i := 1135) (by decide +kernel)⟩
theorem lw_p38 : lw_okq (⟨"SinkingChoir", "firstWrong", "(I)I"⟩, 10) := ⟨⟨by decide +kernel, by decide +kernel⟩, List.mem_of_getElem? (i := 24) (by decide +kernel), List.mem_of_getElem? (i := 1144) (by decide +kernel), List.mem_of_getElem? (i := 1145) (by decide +kernel)⟩
theorem lw_p39 : lw_okq (⟨"SinkingChoirModel", "falls", "(II)V"⟩, 71) := ⟨⟨by decide +kernel, by decide +kernel⟩, List.mem_of_getElem? (i := 1170) (by decide +kernel), List.mem_of_getElem? (i := 1435) (by decide +kernel), List.mem_of_getElem? (i := 1436) (by decide +kernel)⟩
theorem lw_p40 : lw_okq (⟨"SinkingChoirModel", "isHeld", "(II)Z"⟩, 71) := ⟨⟨by decide +kernel, by decide +kernel⟩, List.mem_of_getElem? (i := 1170) (by decide +kernel), List.mem_of_getElem? (i := 1439) (by decide +kernel), List.mem_of_getElem? (i := 1440) (by decide +kernel)⟩
theorem lw_p41 : lw_okq (⟨"SinkingChoirModel", "isNote", "(II)Z"⟩, 71) := ⟨⟨by decide +kernel, by decide +kernel⟩, List.mem_of_getElem? (i := 1170) (by decide +kernel), List.mem_of_getElem? (i := 1443) (by decide +kernel), List.mem_of_getElem? (i := 1444) (by decide +kernel)⟩
theorem lw_p42 : lw_okq (⟨"SinkingChoirModel", "keynoteOf", "(I)I"⟩, 71) := ⟨⟨by decide +kernel, by decide +kernel⟩, List.mem_of_getElem? (i := 1170) (by decide +kernel), List.mem_of_getElem? (i := 1464) (by decide +kernel), List.mem_of_getElem? (i := 1465) (by decide +kernel)⟩
theorem lw_p43 : lw_okq (⟨"SinkingChoirModel", "goesTo", "(I)V"⟩, 71) := ⟨⟨by decide +kernel, by decide +kernel⟩, List.mem_of_getElem? (i := 1170) (by decide +kernel), List.mem_of_getElem? (i := 1468) (by decide +kernel), List.mem_of_getElem? (i := 1469) (by decide +kernel)⟩
theorem lw_p44 : lw_okq (⟨"SinkingChoirModel", "leap", "([III)I"⟩, 71) := ⟨⟨by decide +kernel, by decide +kernel⟩, List.mem_of_getElem? (i := 1170) (by decide +kernel), List.mem_of_getElem? (i := 1472) (by decide +kernel), List.mem_of_getElem? (i := 1473) (by decide +kernel)⟩
theorem lw_p45 : lw_okq (⟨"SinkingChoirModel", "tornBy", "(III)I"⟩, 71) := ⟨⟨by decide +kernel, by decide +kernel⟩, List.mem_of_getElem? (i := 1170) (by decide +kernel), List.mem_of_getElem? (i := 1476) (by decide +kernel), List.mem_of_getElem? (i := 1477) (by decide +kernel)⟩
theorem lw_p46 : lw_okq (⟨"SinkingChoirModel", "sizeAt", "(II)I"⟩, 71) := ⟨⟨by decide +kernel, by decide +kernel⟩, List.mem_of_getElem? (i := 1170) (by decide +kernel), List.mem_of_getElem? (i := 1480) (by decide +kernel), List.mem_of_getElem? (i := 1481) (by decide +kernel)⟩
theorem lw_p47 : lw_okq (⟨"SinkingChoirModel", "lastBeat", "()I"⟩, 71) := ⟨⟨by decide +kernel, by decide +kernel⟩, List.mem_of_getElem? (i := 1170) (by decide +kernel), List.mem_of_getElem? (i := 1492) (by decide +kernel), List.mem_of_getElem? (i := 1493) (by decide +kernel)⟩
def lw_privs_3 : List (MethodName × Nat) := [(⟨"SinkingChoir$Standing", "next", "()Z"⟩, 7), (⟨"SinkingChoir$Leading", "chart", "(II)V"⟩, 5), (⟨"SinkingChoir$Leading", "farthest", "(II)J"⟩, 5), (⟨"SinkingChoir$Leading", "consider", "(IJ)V"⟩, 5), (⟨"SinkingChoir$Fitting", "addBeat", "(II)V"⟩, 5), (⟨"SinkingChoir", "minded", "(III)J"⟩, 10), (⟨"SinkingChoir", "firstWrong", "(I)I"⟩, 10), (⟨"SinkingChoirModel", "falls", "(II)V"⟩, 71), (⟨"SinkingChoirModel", "isHeld", "(II)Z"⟩, 71), (⟨"SinkingChoirModel", "isNote", "(II)Z"⟩, 71), (⟨"SinkingChoirModel", "keynoteOf", "(I)I"⟩, 71), (⟨"SinkingChoirModel", "goesTo", "(I)V"⟩, 71), (⟨"SinkingChoirModel", "leap", "([III)I"⟩, 71), (⟨"SinkingChoirModel", "tornBy", "(III)I"⟩, 71), (⟨"SinkingChoirModel", "sizeAt", "(II)I"⟩, 71), (⟨"SinkingChoirModel", "lastBeat", "()I"⟩, 71)]
theorem lw_r3 : ∀ q ∈ lw_privs_3, lw_okq q := List.forall_mem_cons.mpr ⟨lw_p32, List.forall_mem_cons.mpr ⟨lw_p33, List.forall_mem_cons.mpr ⟨lw_p34, List.forall_mem_cons.mpr ⟨lw_p35, List.forall_mem_cons.mpr ⟨lw_p36, List.forall_mem_cons.mpr ⟨lw_p37, List.forall_mem_cons.mpr ⟨lw_p38, List.forall_mem_cons.mpr ⟨lw_p39, List.forall_mem_cons.mpr ⟨lw_p40, List.forall_mem_cons.mpr ⟨lw_p41, List.forall_mem_cons.mpr ⟨lw_p42, List.forall_mem_cons.mpr ⟨lw_p43, List.forall_mem_cons.mpr ⟨lw_p44, List.forall_mem_cons.mpr ⟨lw_p45, List.forall_mem_cons.mpr ⟨lw_p46, List.forall_mem_cons.mpr ⟨lw_p47, fun _ h => absurd h List.not_mem_nil⟩⟩⟩⟩⟩⟩⟩⟩⟩⟩⟩⟩⟩⟩⟩⟩
theorem lw_p48 : lw_okq (⟨"SinkingChoirModel", "foulBy", "(II)J"⟩, 71) := ⟨⟨by decide +kernel, by decide +kernel⟩, List.mem_of_getElem? (i := 1170) (by decide +kernel), List.mem_of_getElem? (i := 1496) (by decide +kernel), List.mem_of_getElem? (i := 1497) (by decide +kernel)⟩
theorem lw_p49 : lw_okq (⟨"SinkingChoirModel", "rowOf", "(IZ)I"⟩, 71) := ⟨⟨by decide +kernel, by decide +kernel⟩, List.mem_of_getElem? (i := 1170) (by decide +kernel), List.mem_of_getElem? (i := 1507) (by decide +kernel), List.mem_of_getElem? (i := 1508) (by decide +kernel)⟩
theorem lw_p50 : lw_okq (⟨"SinkingChoirModel", "finds", "(IZ)Z"⟩, 71) := ⟨⟨by decide +kernel, by decide +kernel⟩, List.mem_of_getElem? (i := 1170) (by decide +kernel), List.mem_of_getElem? (i := 1511) (by decide +kernel), List.mem_of_getElem? (i := 1512) (by decide +kernel)⟩
theorem lw_p51 : lw_okq (⟨"SinkingChoirModel", "lays", "(I)Z"⟩, 71) := ⟨⟨by decide +kernel, by decide +kernel⟩, List.mem_of_getElem? (i := 1170) (by decide +kernel), List.mem_of_getElem? (i := 1515) (by decide +kernel), List.mem_of_getElem? (i := 1516) (by decide +kernel)⟩
theorem lw_p52 : lw_okq (⟨"SinkingChoirModel", "placeOf", "(IIII)I"⟩, 71) := ⟨⟨by decide +kernel, by decide +kernel⟩, List.mem_of_getElem? (i := 1170) (by decide +kernel), List.mem_of_getElem? (i := 1519) (by decide +kernel), List.mem_of_getElem? (i := 1520) (by decide +kernel)⟩
theorem lw_p53 : lw_okq (⟨"SinkingChoirModel", "mayLink", "(II)Z"⟩, 71) := ⟨⟨by decide +kernel, by decide +kernel⟩, List.mem_of_getElem? (i := 1170) (by decide +kernel), List.mem_of_getElem? (i := 1523) (by decide +kernel), List.mem_of_getElem? (i := 1524) (by decide +kernel)⟩
theorem lw_p54 : lw_okq (⟨"SinkingChoirModel", "nextOf", "(III)I"⟩, 71) := ⟨⟨by decide +kernel, by decide +kernel⟩, List.mem_of_getElem? (i := 1170) (by decide +kernel), List.mem_of_getElem? (i := 1527) (by decide +kernel), List.mem_of_getElem? (i := 1528) (by decide +kernel)⟩
theorem lw_p55 : lw_okq (⟨"SinkingChoirModel", "costBy", "(IIZ)J"⟩, 71) := ⟨⟨by decide +kernel, by decide +kernel⟩, List.mem_of_getElem? (i := 1170) (by decide +kernel), List.mem_of_getElem? (i := 1532) (by decide +kernel), List.mem_of_getElem? (i := 1533) (by decide +kernel)⟩
theorem lw_p56 : lw_okq (⟨"SinkingChoirModel", "isSinger", "(I)Z"⟩, 71) := ⟨⟨by decide +kernel, by decide +kernel⟩, List.mem_of_getElem? (i := 1170) (by decide +kernel), List.mem_of_getElem? (i := 1555) (by decide +kernel), List.mem_of_getElem? (i := 1556) (by decide +kernel)⟩
theorem lw_p57 : lw_okq (⟨"SinkingChoirModel", "push", "(I)V"⟩, 71) := ⟨⟨by decide +kernel, by decide +kernel⟩, List.mem_of_getElem? (i := 1170) (by decide +kernel), List.mem_of_getElem? (i := 1586) (by decide +kernel), List.mem_of_getElem? (i := 1587) (by decide +kernel)⟩
theorem lw_p58 : lw_okq (⟨"SinkingChoirModel", "isGood", "()Z"⟩, 71) := ⟨⟨by decide +kernel, by decide +kernel⟩, List.mem_of_getElem? (i := 1170) (by decide +kernel), List.mem_of_getElem? (i := 1595) (by decide +kernel), List.mem_of_getElem? (i := 1596) (by decide +kernel)⟩
theorem lw_p59 : lw_okq (⟨"SinkingChoirModel", "clause", "()V"⟩, 71) := ⟨⟨by decide +kernel, by decide +kernel⟩, List.mem_of_getElem? (i := 1170) (by decide +kernel), List.mem_of_getElem? (i := 1599) (by decide +kernel), List.mem_of_getElem? (i := 1600) (by decide +kernel)⟩
theorem lw_p60 : lw_okq (⟨"SinkingChoirModel", "here", "()I"⟩, 71) := ⟨⟨by decide +kernel, by decide +kernel⟩, List.mem_of_getElem? (i := 1170) (by decide +kernel), List.mem_of_getElem? (i := 1603) (by decide +kernel), List.mem_of_getElem? (i := 1604) (by decide +kernel)⟩
theorem lw_p61 : lw_okq (⟨"SinkingChoirModel", "wrongs", "(II)V"⟩, 71) := ⟨⟨by decide +kernel, by decide +kernel⟩, List.mem_of_getElem? (i := 1170) (by decide +kernel), List.mem_of_getElem? (i := 1607) (by decide +kernel), List.mem_of_getElem? (i := 1608) (by decide +kernel)⟩
theorem lw_p62 : lw_okq (⟨"SinkingChoirModel", "value", "()V"⟩, 71) := ⟨⟨by decide +kernel, by decide +kernel⟩, List.mem_of_getElem? (i := 1170) (by decide +kernel), List.mem_of_getElem? (i := 1611) (by decide +kernel), List.mem_of_getElem? (i := 1612) (by decide +kernel)⟩
theorem lw_p63 : lw_okq (⟨"SinkingChoirModel", "factor", "()V"⟩, 71) := ⟨⟨by decide +kernel, by decide +kernel⟩, List.mem_of_getElem? (i := 1170) (by decide +kernel), List.mem_of_getElem? (i := 1615) (by decide +kernel), List.mem_of_getElem? (i := 1616) (by decide +kernel)⟩
def lw_privs_4 : List (MethodName × Nat) := [(⟨"SinkingChoirModel", "foulBy", "(II)J"⟩, 71), (⟨"SinkingChoirModel", "rowOf", "(IZ)I"⟩, 71), (⟨"SinkingChoirModel", "finds", "(IZ)Z"⟩, 71), (⟨"SinkingChoirModel", "lays", "(I)Z"⟩, 71), (⟨"SinkingChoirModel", "placeOf", "(IIII)I"⟩, 71), (⟨"SinkingChoirModel", "mayLink", "(II)Z"⟩, 71), (⟨"SinkingChoirModel", "nextOf", "(III)I"⟩, 71), (⟨"SinkingChoirModel", "costBy", "(IIZ)J"⟩, 71), (⟨"SinkingChoirModel", "isSinger", "(I)Z"⟩, 71), (⟨"SinkingChoirModel", "push", "(I)V"⟩, 71), (⟨"SinkingChoirModel", "isGood", "()Z"⟩, 71), (⟨"SinkingChoirModel", "clause", "()V"⟩, 71), (⟨"SinkingChoirModel", "here", "()I"⟩, 71), (⟨"SinkingChoirModel", "wrongs", "(II)V"⟩, 71), (⟨"SinkingChoirModel", "value", "()V"⟩, 71), (⟨"SinkingChoirModel", "factor", "()V"⟩, 71)]
theorem lw_r4 : ∀ q ∈ lw_privs_4, lw_okq q := List.forall_mem_cons.mpr ⟨lw_p48, List.forall_mem_cons.mpr ⟨lw_p49, List.forall_mem_cons.mpr ⟨lw_p50, List.forall_mem_cons.mpr ⟨lw_p51, List.forall_mem_cons.mpr ⟨lw_p52, List.forall_mem_cons.mpr ⟨lw_p53, List.forall_mem_cons.mpr ⟨lw_p54, List.forall_mem_cons.mpr ⟨lw_p55, List.forall_mem_cons.mpr ⟨lw_p56, List.forall_mem_cons.mpr ⟨lw_p57, List.forall_mem_cons.mpr ⟨lw_p58, List.forall_mem_cons.mpr ⟨lw_p59, List.forall_mem_cons.mpr ⟨lw_p60, List.forall_mem_cons.mpr ⟨lw_p61, List.forall_mem_cons.mpr ⟨lw_p62, List.forall_mem_cons.mpr ⟨lw_p63, fun _ h => absurd h List.not_mem_nil⟩⟩⟩⟩⟩⟩⟩⟩⟩⟩⟩⟩⟩⟩⟩⟩
theorem lw_p64 : lw_okq (⟨"SinkingChoirModel", "opens", "()V"⟩, 71) := ⟨⟨by decide +kernel, by decide +kernel⟩, List.mem_of_getElem? (i := 1170) (by decide +kernel), List.mem_of_getElem? (i := 1619) (by decide +kernel), List.mem_of_getElem? (i := 1620) (by decide +kernel)⟩
theorem lw_p65 : lw_okq (⟨"SinkingChoirModel", "puts", "(I)V"⟩, 71) := ⟨⟨by decide +kernel, by decide +kernel⟩, List.mem_of_getElem? (i := 1170) (by decide +kernel), List.mem_of_getElem? (i := 1623) (by decide +kernel), List.mem_of_getElem? (i := 1624) (by decide +kernel)⟩
theorem lw_p66 : lw_okq (⟨"SinkingChoirModel", "seesDigit", "()Z"⟩, 71) := ⟨⟨by decide +kernel, by decide +kernel⟩, List.mem_of_getElem? (i := 1170) (by decide +kernel), List.mem_of_getElem? (i := 1627) (by decide +kernel), List.mem_of_getElem? (i := 1628) (by decide +kernel)⟩
theorem lw_p67 : lw_okq (⟨"SinkingChoirModel", "reads", "()I"⟩, 71) := ⟨⟨by decide +kernel, by decide +kernel⟩, List.mem_of_getElem? (i := 1170) (by decide +kernel), List.mem_of_getElem? (i := 1633) (by decide +kernel), List.mem_of_getElem? (i := 1634) (by decide +kernel)⟩
theorem lw_p68 : lw_okq (⟨"SinkingChoirModel", "emit", "(II)V"⟩, 71) := ⟨⟨by decide +kernel, by decide +kernel⟩, List.mem_of_getElem? (i := 1170) (by decide +kernel), List.mem_of_getElem? (i := 1637) (by decide +kernel), List.mem_of_getElem? (i := 1638) (by decide +kernel)⟩
theorem lw_p69 : lw_okq (⟨"SinkingChoirModel", "stays", "()Z"⟩, 71) := ⟨⟨by decide +kernel, by decide +kernel⟩, List.mem_of_getElem? (i := 1170) (by decide +kernel), List.mem_of_getElem? (i := 1644) (by decide +kernel), List.mem_of_getElem? (i := 1645) (by decide +kernel)⟩
theorem lw_p70 : lw_okq (⟨"SinkingChoirModel", "sums", "(Z)V"⟩, 71) := ⟨⟨by decide +kernel, by decide +kernel⟩, List.mem_of_getElem? (i := 1170) (by decide +kernel), List.mem_of_getElem? (i := 1654) (by decide +kernel), List.mem_of_getElem? (i := 1655) (by decide +kernel)⟩
theorem lw_p71 : lw_okq (⟨"SinkingChoirModel", "top", "()I"⟩, 71) := ⟨⟨by decide +kernel, by decide +kernel⟩, List.mem_of_getElem? (i := 1170) (by decide +kernel), List.mem_of_getElem? (i := 1658) (by decide +kernel), List.mem_of_getElem? (i := 1659) (by decide +kernel)⟩
theorem lw_p72 : lw_okq (⟨"SinkingChoirModel", "condition", "()V"⟩, 71) := ⟨⟨by decide +kernel, by decide +kernel⟩, List.mem_of_getElem? (i := 1170) (by decide +kernel), List.mem_of_getElem? (i := 1662) (by decide +kernel), List.mem_of_getElem? (i := 1663) (by decide +kernel)⟩
theorem lw_p73 : lw_okq (⟨"SinkingChoirModel", "pieceOfC", "()V"⟩, 71) := ⟨⟨by decide +kernel, by decide +kernel⟩, List.mem_of_getElem? (i := 1170) (by decide +kernel), List.mem_of_getElem? (i := 1666) (by decide +kernel), List.mem_of_getElem? (i := 1667) (by decide +kernel)⟩
theorem lw_p74 : lw_okq (⟨"SinkingChoirModel", "ends", "()V"⟩, 71) := ⟨⟨by decide +kernel, by decide +kernel⟩, List.mem_of_getElem? (i := 1170) (by decide +kernel), List.mem_of_getElem? (i := 1673) (by decide +kernel), List.mem_of_getElem? (i := 1674) (by decide +kernel)⟩
theorem lw_p75 : lw_okq (⟨"SinkingChoirModel", "goesBehind", "()Z"⟩, 71) := ⟨⟨by decide +kernel, by decide +kernel⟩, List.mem_of_getElem? (i := 1170) (by decide +kernel), List.mem_of_getElem? (i := 1677) (by decide +kernel), List.mem_of_getElem? (i := 1678) (by decide +kernel)⟩
theorem lw_p76 : lw_okq (⟨"SinkingChoirModel", "joins", "(Z)V"⟩, 71) := ⟨⟨by decide +kernel, by decide +kernel⟩, List.mem_of_getElem? (i := 1170) (by decide +kernel), List.mem_of_getElem? (i := 1681) (by decide +kernel), List.mem_of_getElem? (i := 1682) (by decide +kernel)⟩
theorem lw_p77 : lw_okq (⟨"SinkingChoirModel", "sings", "(II)Z"⟩, 71) := ⟨⟨by decide +kernel, by decide +kernel⟩, List.mem_of_getElem? (i := 1170) (by decide +kernel), List.mem_of_getElem? (i := 1689) (by decide +kernel), List.mem_of_getElem? (i := 1690) (by decide +kernel)⟩
theorem lw_p78 : lw_okq (⟨"SinkingChoirModel", "plainly", "()V"⟩, 71) := ⟨⟨by decide +kernel, by decide +kernel⟩, List.mem_of_getElem? (i := 1170) (by decide +kernel), List.mem_of_getElem? (i := 1693) (by decide +kernel), List.mem_of_getElem? (i := 1694) (by decide +kernel)⟩
theorem lw_p79 : lw_okq (⟨"SinkingChoirModel", "readies", "()V"⟩, 71) := ⟨⟨by decide +kernel, by decide +kernel⟩, List.mem_of_getElem? (i := 1170) (by decide +kernel), List.mem_of_getElem? (i := 1697) (by decide +kernel), List.mem_of_getElem? (i := 1698) (by decide +kernel)⟩
def lw_privs_5 : List (MethodName × Nat) := [(⟨"SinkingChoirModel", "opens", "()V"⟩, 71), (⟨"SinkingChoirModel", "puts", "(I)V"⟩, 71), (⟨"SinkingChoirModel", "seesDigit", "()Z"⟩, 71), (⟨"SinkingChoirModel", "reads", "()I"⟩, 71), (⟨"SinkingChoirModel", "emit", "(II)V"⟩, 71), (⟨"SinkingChoirModel", "stays", "()Z"⟩, 71), (⟨"SinkingChoirModel", "sums", "(Z)V"⟩, 71), (⟨"SinkingChoirModel", "top", "()I"⟩, 71), (⟨"SinkingChoirModel", "condition", "()V"⟩, 71), (⟨"SinkingChoirModel", "pieceOfC", "()V"⟩, 71), (⟨"SinkingChoirModel", "ends", "()V"⟩, 71), (⟨"SinkingChoirModel", "goesBehind", "()Z"⟩, 71), (⟨"SinkingChoirModel", "joins", "(Z)V"⟩, 71), (⟨"SinkingChoirModel", "sings", "(II)Z"⟩, 71), (⟨"SinkingChoirModel", "plainly", "()V"⟩, 71), (⟨"SinkingChoirModel", "readies", "()V"⟩, 71)]
theorem lw_r5 : ∀ q ∈ lw_privs_5, lw_okq q := List.forall_mem_cons.mpr ⟨lw_p64, List.forall_mem_cons.mpr ⟨lw_p65, List.forall_mem_cons.mpr ⟨lw_p66, List.forall_mem_cons.mpr ⟨lw_p67, List.forall_mem_cons.mpr ⟨lw_p68, List.forall_mem_cons.mpr ⟨lw_p69, List.forall_mem_cons.mpr ⟨lw_p70, List.forall_mem_cons.mpr ⟨lw_p71, List.forall_mem_cons.mpr ⟨lw_p72, List.forall_mem_cons.mpr ⟨lw_p73, List.forall_mem_cons.mpr ⟨lw_p74, List.forall_mem_cons.mpr ⟨lw_p75, List.forall_mem_cons.mpr ⟨lw_p76, List.forall_mem_cons.mpr ⟨lw_p77, List.forall_mem_cons.mpr ⟨lw_p78, List.forall_mem_cons.mpr ⟨lw_p79, fun _ h => absurd h List.not_mem_nil⟩⟩⟩⟩⟩⟩⟩⟩⟩⟩⟩⟩⟩⟩⟩⟩
theorem lw_p80 : lw_okq (⟨"SinkingChoirModel", "isSung", "()V"⟩, 71) := ⟨⟨by decide +kernel, by decide +kernel⟩, List.mem_of_getElem? (i := 1170) (by decide +kernel), List.mem_of_getElem? (i := 1701) (by decide +kernel), List.mem_of_getElem? (i := 1702) (by decide +kernel)⟩
theorem lw_p81 : lw_okq (⟨"SinkingChoirModel", "keyOf", "(II)I"⟩, 71) := ⟨⟨by decide +kernel, by decide +kernel⟩, List.mem_of_getElem? (i := 1170) (by decide +kernel), List.mem_of_getElem? (i := 1708) (by decide +kernel), List.mem_of_getElem? (i := 1709) (by decide +kernel)⟩
theorem lw_p82 : lw_okq (⟨"SinkingChoirModel", "tableOf", "(I)I"⟩, 71) := ⟨⟨by decide +kernel, by decide +kernel⟩, List.mem_of_getElem? (i := 1170) (by decide +kernel), List.mem_of_getElem? (i := 1712) (by decide +kernel), List.mem_of_getElem? (i := 1713) (by decide +kernel)⟩
theorem lw_p83 : lw_okq (⟨"SinkingChoirModel", "singsNote", "(II)V"⟩, 71) := ⟨⟨by decide +kernel, by decide +kernel⟩, List.mem_of_getElem? (i := 1170) (by decide +kernel), List.mem_of_getElem? (i := 1717) (by decide +kernel), List.mem_of_getElem? (i := 1718) (by decide +kernel)⟩
theorem lw_p84 : lw_okq (⟨"SinkingChoirModel", "listens", "(II)V"⟩, 71) := ⟨⟨by decide +kernel, by decide +kernel⟩, List.mem_of_getElem? (i := 1170) (by decide +kernel), List.mem_of_getElem? (i := 1722) (by decide +kernel), List.mem_of_getElem? (i := 1723) (by decide +kernel)⟩
theorem lw_p85 : lw_okq (⟨"SinkingChoirModel", "hearsOf", "(II)I"⟩, 71) := ⟨⟨by decide +kernel, by decide +kernel⟩, List.mem_of_getElem? (i := 1170) (by decide +kernel), List.mem_of_getElem? (i := 1726) (by decide +kernel), List.mem_of_getElem? (i := 1727) (by decide +kernel)⟩
theorem lw_p86 : lw_okq (⟨"SinkingChoirModel", "sizeFor", "(II)I"⟩, 71) := ⟨⟨by decide +kernel, by decide +kernel⟩, List.mem_of_getElem? (i := 1170) (by decide +kernel), List.mem_of_getElem? (i := 1730) (by decide +kernel), List.mem_of_getElem? (i := 1731) (by decide +kernel)⟩
theorem lw_p87 : lw_okq (⟨"SinkingChoirModel", "tells", "(III)I"⟩, 71) := ⟨⟨by decide +kernel, by decide +kernel⟩, List.mem_of_getElem? (i := 1170) (by decide +kernel), List.mem_of_getElem? (i := 1737) (by decide +kernel), List.mem_of_getElem? (i := 1738) (by decide +kernel)⟩
theorem lw_p88 : lw_okq (⟨"SinkingChoirModel", "works", "(II)V"⟩, 71) := ⟨⟨by decide +kernel, by decide +kernel⟩, List.mem_of_getElem? (i := 1170) (by decide +kernel), List.mem_of_getElem? (i := 1741) (by decide +kernel), List.mem_of_getElem? (i := 1742) (by decide +kernel)⟩
theorem lw_p89 : lw_okq (⟨"SinkingChoirModel", "does", "(II)V"⟩, 71) := ⟨⟨by decide +kernel, by decide +kernel⟩, List.mem_of_getElem? (i := 1170) (by decide +kernel), List.mem_of_getElem? (i := 1745) (by decide +kernel), List.mem_of_getElem? (i := 1746) (by decide +kernel)⟩
theorem lw_p90 : lw_okq (⟨"SinkingChoirModel", "valueOf", "(I)I"⟩, 71) := ⟨⟨by decide +kernel, by decide +kernel⟩, List.mem_of_getElem? (i := 1170) (by decide +kernel), List.mem_of_getElem? (i := 1752) (by decide +kernel), List.mem_of_getElem? (i := 1753) (by decide +kernel)⟩
theorem lw_p91 : lw_okq (⟨"SinkingChoirModel", "leapOf", "()I"⟩, 71) := ⟨⟨by decide +kernel, by decide +kernel⟩, List.mem_of_getElem? (i := 1170) (by decide +kernel), List.mem_of_getElem? (i := 1756) (by decide +kernel), List.mem_of_getElem? (i := 1757) (by decide +kernel)⟩
theorem lw_p92 : lw_okq (⟨"SinkingChoirModel", "singing", "(I)I"⟩, 71) := ⟨⟨by decide +kernel, by decide +kernel⟩, List.mem_of_getElem? (i := 1170) (by decide +kernel), List.mem_of_getElem? (i := 1760) (by decide +kernel), List.mem_of_getElem? (i := 1761) (by decide +kernel)⟩
theorem lw_p93 : lw_okq (⟨"SinkingChoirModel", "aimOf", "(IIJJJJ)J"⟩, 71) := ⟨⟨by decide +kernel, by decide +kernel⟩, List.mem_of_getElem? (i := 1170) (by decide +kernel), List.mem_of_getElem? (i := 1765) (by decide +kernel), List.mem_of_getElem? (i := 1766) (by decide +kernel)⟩
theorem lw_p94 : lw_okq (⟨"SinkingChoirModel", "offOf", "(I)J"⟩, 71) := ⟨⟨by decide +kernel, by decide +kernel⟩, List.mem_of_getElem? (i := 1170) (by decide +kernel), List.mem_of_getElem? (i := 1775) (by decide +kernel), List.mem_of_getElem? (i := 1776) (by decide +kernel)⟩
theorem lw_p95 : lw_okq (⟨"SinkingChoirModel", "foulOf", "(I)J"⟩, 71) := ⟨⟨by decide +kernel, by decide +kernel⟩, List.mem_of_getElem? (i := 1170) (by decide +kernel), List.mem_of_getElem? (i := 1779) (by decide +kernel), List.mem_of_getElem? (i := 1780) (by decide +kernel)⟩
def lw_privs_6 : List (MethodName × Nat) := [(⟨"SinkingChoirModel", "isSung", "()V"⟩, 71), (⟨"SinkingChoirModel", "keyOf", "(II)I"⟩, 71), (⟨"SinkingChoirModel", "tableOf", "(I)I"⟩, 71), (⟨"SinkingChoirModel", "singsNote", "(II)V"⟩, 71), (⟨"SinkingChoirModel", "listens", "(II)V"⟩, 71), (⟨"SinkingChoirModel", "hearsOf", "(II)I"⟩, 71), (⟨"SinkingChoirModel", "sizeFor", "(II)I"⟩, 71), (⟨"SinkingChoirModel", "tells", "(III)I"⟩, 71), (⟨"SinkingChoirModel", "works", "(II)V"⟩, 71), (⟨"SinkingChoirModel", "does", "(II)V"⟩, 71), (⟨"SinkingChoirModel", "valueOf", "(I)I"⟩, 71), (⟨"SinkingChoirModel", "leapOf", "()I"⟩, 71), (⟨"SinkingChoirModel", "singing", "(I)I"⟩, 71), (⟨"SinkingChoirModel", "aimOf", "(IIJJJJ)J"⟩, 71), (⟨"SinkingChoirModel", "offOf", "(I)J"⟩, 71), (⟨"SinkingChoirModel", "foulOf", "(I)J"⟩, 71)]
theorem lw_r6 : ∀ q ∈ lw_privs_6, lw_okq q := List.forall_mem_cons.mpr ⟨lw_p80, List.forall_mem_cons.mpr ⟨lw_p81, List.forall_mem_cons.mpr ⟨lw_p82, List.forall_mem_cons.mpr ⟨lw_p83, List.forall_mem_cons.mpr ⟨lw_p84, List.forall_mem_cons.mpr ⟨lw_p85, List.forall_mem_cons.mpr ⟨lw_p86, List.forall_mem_cons.mpr ⟨lw_p87, List.forall_mem_cons.mpr ⟨lw_p88, List.forall_mem_cons.mpr ⟨lw_p89, List.forall_mem_cons.mpr ⟨lw_p90, List.forall_mem_cons.mpr ⟨lw_p91, List.forall_mem_cons.mpr ⟨lw_p92, List.forall_mem_cons.mpr ⟨lw_p93, List.forall_mem_cons.mpr ⟨lw_p94, List.forall_mem_cons.mpr ⟨lw_p95, fun _ h => absurd h List.not_mem_nil⟩⟩⟩⟩⟩⟩⟩⟩⟩⟩⟩⟩⟩⟩⟩⟩
theorem lw_p96 : lw_okq (⟨"SinkingChoirModel", "tableFoul", "(I)J"⟩, 71) := ⟨⟨by decide +kernel, by decide +kernel⟩, List.mem_of_getElem? (i := 1170) (by decide +kernel), List.mem_of_getElem? (i := 1783) (by decide +kernel), List.mem_of_getElem? (i := 1784) (by decide +kernel)⟩
theorem lw_p97 : lw_okq (⟨"SinkingChoirModel", "firstSung", "()I"⟩, 71) := ⟨⟨by decide +kernel, by decide +kernel⟩, List.mem_of_getElem? (i := 1170) (by decide +kernel), List.mem_of_getElem? (i := 1791) (by decide +kernel), List.mem_of_getElem? (i := 1792) (by decide +kernel)⟩
theorem lw_p98 : lw_okq (⟨"SinkingChoirModel", "sunkNow", "()J"⟩, 71) := ⟨⟨by decide +kernel, by decide +kernel⟩, List.mem_of_getElem? (i := 1170) (by decide +kernel), List.mem_of_getElem? (i := 1796) (by decide +kernel), List.mem_of_getElem? (i := 1797) (by decide +kernel)⟩
theorem lw_p99 : lw_okq (⟨"SinkingChoirModel", "lastSung", "()I"⟩, 71) := ⟨⟨by decide +kernel, by decide +kernel⟩, List.mem_of_getElem? (i := 1170) (by decide +kernel), List.mem_of_getElem? (i := 1800) (by decide +kernel), List.mem_of_getElem? (i := 1801) (by decide +kernel)⟩
theorem lw_p100 : lw_okq (⟨"SinkingChoirModel", "sungMany", "()I"⟩, 71) := ⟨⟨by decide +kernel, by decide +kernel⟩, List.mem_of_getElem? (i := 1170) (by decide +kernel), List.mem_of_getElem? (i := 1804) (by decide +kernel), List.mem_of_getElem? (i := 1805) (by decide +kernel)⟩
theorem lw_p101 : lw_okq (⟨"SinkingChoirModel", "allFoul", "()J"⟩, 71) := ⟨⟨by decide +kernel, by decide +kernel⟩, List.mem_of_getElem? (i := 1170) (by decide +kernel), List.mem_of_getElem? (i := 1808) (by decide +kernel), List.mem_of_getElem? (i := 1809) (by decide +kernel)⟩
theorem lw_p102 : lw_okq (⟨"SinkingChoirModel", "swaps", "(II)V"⟩, 71) := ⟨⟨by decide +kernel, by decide +kernel⟩, List.mem_of_getElem? (i := 1170) (by decide +kernel), List.mem_of_getElem? (i := 1821) (by decide +kernel), List.mem_of_getElem? (i := 1822) (by decide +kernel)⟩
theorem lw_p103 : lw_okq (⟨"SinkingChoirModel", "stepsOn", "()Z"⟩, 71) := ⟨⟨by decide +kernel, by decide +kernel⟩, List.mem_of_getElem? (i := 1170) (by decide +kernel), List.mem_of_getElem? (i := 1825) (by decide +kernel), List.mem_of_getElem? (i := 1826) (by decide +kernel)⟩
theorem lw_p104 : lw_okq (⟨"SinkingChoirModel", "farthest", "()J"⟩, 71) := ⟨⟨by decide +kernel, by decide +kernel⟩, List.mem_of_getElem? (i := 1170) (by decide +kernel), List.mem_of_getElem? (i := 1835) (by decide +kernel), List.mem_of_getElem? (i := 1836) (by decide +kernel)⟩
theorem lw_p105 : lw_okq (⟨"SinkingChoirModel", "isTaped", "(II)Z"⟩, 71) := ⟨⟨by decide +kernel, by decide +kernel⟩, List.mem_of_getElem? (i := 1170) (by decide +kernel), List.mem_of_getElem? (i := 1857) (by decide +kernel), List.mem_of_getElem? (i := 1858) (by decide +kernel)⟩
theorem lw_p106 : lw_okq (⟨"SinkingChoirModel", "differs", "(IIII)J"⟩, 71) := ⟨⟨by decide +kernel, by decide +kernel⟩, List.mem_of_getElem? (i := 1170) (by decide +kernel), List.mem_of_getElem? (i := 1861) (by decide +kernel), List.mem_of_getElem? (i := 1862) (by decide +kernel)⟩
theorem lw_p107 : lw_okq (⟨"SinkingChoirModel", "minds", "(II)J"⟩, 71) := ⟨⟨by decide +kernel, by decide +kernel⟩, List.mem_of_getElem? (i := 1170) (by decide +kernel), List.mem_of_getElem? (i := 1871) (by decide +kernel), List.mem_of_getElem? (i := 1872) (by decide +kernel)⟩
theorem lw_p108 : lw_okq (⟨"SinkingChoirModel", "numberAt", "(I)I"⟩, 71) := ⟨⟨by decide +kernel, by decide +kernel⟩, List.mem_of_getElem? (i := 1170) (by decide +kernel), List.mem_of_getElem? (i := 1879) (by decide +kernel), List.mem_of_getElem? (i := 1880) (by decide +kernel)⟩
def lw_privs_7 : List (MethodName × Nat) := [(⟨"SinkingChoirModel", "tableFoul", "(I)J"⟩, 71), (⟨"SinkingChoirModel", "firstSung", "()I"⟩, 71), (⟨"SinkingChoirModel", "sunkNow", "()J"⟩, 71), (⟨"SinkingChoirModel", "lastSung", "()I"⟩, 71), (⟨"SinkingChoirModel", "sungMany", "()I"⟩, 71), (⟨"SinkingChoirModel", "allFoul", "()J"⟩, 71), (⟨"SinkingChoirModel", "swaps", "(II)V"⟩, 71), (⟨"SinkingChoirModel", "stepsOn", "()Z"⟩, 71), (⟨"SinkingChoirModel", "farthest", "()J"⟩, 71), (⟨"SinkingChoirModel", "isTaped", "(II)Z"⟩, 71), (⟨"SinkingChoirModel", "differs", "(IIII)J"⟩, 71), (⟨"SinkingChoirModel", "minds", "(II)J"⟩, 71), (⟨"SinkingChoirModel", "numberAt", "(I)I"⟩, 71)]
theorem lw_r7 : ∀ q ∈ lw_privs_7, lw_okq q := List.forall_mem_cons.mpr ⟨lw_p96, List.forall_mem_cons.mpr ⟨lw_p97, List.forall_mem_cons.mpr ⟨lw_p98, List.forall_mem_cons.mpr ⟨lw_p99, List.forall_mem_cons.mpr ⟨lw_p100, List.forall_mem_cons.mpr ⟨lw_p101, List.forall_mem_cons.mpr ⟨lw_p102, List.forall_mem_cons.mpr ⟨lw_p103, List.forall_mem_cons.mpr ⟨lw_p104, List.forall_mem_cons.mpr ⟨lw_p105, List.forall_mem_cons.mpr ⟨lw_p106, List.forall_mem_cons.mpr ⟨lw_p107, List.forall_mem_cons.mpr ⟨lw_p108, fun _ h => absurd h List.not_mem_nil⟩⟩⟩⟩⟩⟩⟩⟩⟩⟩⟩⟩⟩
def lw_privs : List (MethodName × Nat) := lw_privs_1 ++ (lw_privs_2 ++ (lw_privs_3 ++ (lw_privs_4 ++ (lw_privs_5 ++ (lw_privs_6 ++ (lw_privs_7))))))
def lw_tbl : List Cond := k2_sels lw_privs ++ tables_1
theorem lw_privs_ok : ∀ q ∈ lw_privs, lw_okq q := by
  show ∀ q ∈ lw_privs_1 ++ (lw_privs_2 ++ (lw_privs_3 ++ (lw_privs_4 ++ (lw_privs_5 ++ (lw_privs_6 ++ (lw_privs_7)))))), lw_okq q
  exact List.forall_mem_append.mpr ⟨lw_r1, List.forall_mem_append.mpr ⟨lw_r2, List.forall_mem_append.mpr ⟨lw_r3, List.forall_mem_append.mpr ⟨lw_r4, List.forall_mem_append.mpr ⟨lw_r5, List.forall_mem_append.mpr ⟨lw_r6, lw_r7⟩⟩⟩⟩⟩⟩
/-! the words that stay, as one list -/
def tb : List Cond := lw_tbl.filter goodWord
theorem mem_tb (i : Nat) {w : Cond} (h : lw_tbl[i]? = some w) (g : goodWord w = true) : w ∈ tb := List.mem_filter.mpr ⟨List.mem_of_getElem? h, g⟩
theorem tb_good : GoodIn tb tb := fun w h => ⟨h, good_of_word (List.mem_filter.mp h).2⟩
theorem tb_sub {w : Cond} (h : w ∈ tb) : w ∈ lw_tbl := (List.mem_filter.mp h).1
def R0 : String := "SinkingChoir"
def T0 : u_T := fun k => match k with
  | 0 => ("SinkingChoir", "score", "LSinkingChoir$Score;", true)
  | 1 => ("SinkingChoir", "choir", "LSinkingChoir$Choir;", true)
  | 2 => ("SinkingChoir", "singing", "LSinkingChoir$Singing;", true)
  | 3 => ("SinkingChoir", "best", "LSinkingChoir$Standing;", true)
  | 4 => ("SinkingChoir", "leading", "LSinkingChoir$Leading;", true)
  | 5 => ("SinkingChoir", "fitting", "LSinkingChoir$Fitting;", true)
  | 6 => ("SinkingChoir", "reel", "LSinkingChoir$Reel;", true)
  | 7 => ("SinkingChoir", "reader", "LSinkingChoir$Reader;", true)
  | 8 => ("SinkingChoir", "ways", "LSinkingChoir$Ways;", false)
  | _ => ("SinkingChoir", "changes", "I", false)
def ty0 : Nat → FieldType := fun k => match k with
  | 0 => .object "SinkingChoir$Score"
  | 1 => .object "SinkingChoir$Choir"
  | 2 => .object "SinkingChoir$Singing"
  | 3 => .object "SinkingChoir$Standing"
  | 4 => .object "SinkingChoir$Leading"
  | 5 => .object "SinkingChoir$Fitting"
  | 6 => .object "SinkingChoir$Reel"
  | 7 => .object "SinkingChoir$Reader"
  | 8 => .object "SinkingChoir$Ways"
  | _ => .int
def R1 : String := "SinkingChoirModel"
def T1 : u_T := fun k => match k with
  | 0 => ("SinkingChoirModel", "tape", "[B", true)
  | 1 => ("SinkingChoirModel", "taped", "I", false)
  | 2 => ("SinkingChoirModel", "key", "[I", true)
  | 3 => ("SinkingChoirModel", "two", "[I", true)
  | 4 => ("SinkingChoirModel", "three", "[I", true)
  | 5 => ("SinkingChoirModel", "five", "[I", true)
  | 6 => ("SinkingChoirModel", "breathes", "[Z", true)
  | 7 => ("SinkingChoirModel", "linkOf", "[I", true)
  | 8 => ("SinkingChoirModel", "noteTwo", "I", false)
  | 9 => ("SinkingChoirModel", "noteThree", "I", false)
  | 10 => ("SinkingChoirModel", "noteFive", "I", false)
  | 11 => ("SinkingChoirModel", "many", "[I", true)
  | 12 => ("SinkingChoirModel", "stateTwo", "[I", true)
  | 13 => ("SinkingChoirModel", "stateThree", "[I", true)
  | 14 => ("SinkingChoirModel", "stateFive", "[I", true)
  | 15 => ("SinkingChoirModel", "cost", "[J", true)
  | 16 => ("SinkingChoirModel", "row", "[I", true)
  | 17 => ("SinkingChoirModel", "rowCost", "J", false)
  | 18 => ("SinkingChoirModel", "singers", "I", false)
  | 19 => ("SinkingChoirModel", "seed", "I", false)
  | 20 => ("SinkingChoirModel", "blow", "I", false)
  | 21 => ("SinkingChoirModel", "givenAt", "I", false)
  | 22 => ("SinkingChoirModel", "voiceOf", "[I", true)
  | 23 => ("SinkingChoirModel", "placeAt", "[I", true)
  | 24 => ("SinkingChoirModel", "loudOf", "[I", true)
  | 25 => ("SinkingChoirModel", "knowsOf", "[I", true)
  | 26 => ("SinkingChoirModel", "told", "[I", true)
  | 27 => ("SinkingChoirModel", "clauseMany", "I", false)
  | 28 => ("SinkingChoirModel", "clauseLetter", "[I", true)
  | 29 => ("SinkingChoirModel", "sumFrom", "[I", true)
  | 30 => ("SinkingChoirModel", "codeFrom", "[I", true)
  | 31 => ("SinkingChoirModel", "codeTo", "[I", true)
  | 32 => ("SinkingChoirModel", "code", "[I", true)
  | 33 => ("SinkingChoirModel", "codeArg", "[I", true)
  | 34 => ("SinkingChoirModel", "newLetter", "[I", true)
  | 35 => ("SinkingChoirModel", "newSum", "[I", true)
  | 36 => ("SinkingChoirModel", "newFrom", "[I", true)
  | 37 => ("SinkingChoirModel", "newTo", "[I", true)
  | 38 => ("SinkingChoirModel", "newCode", "[I", true)
  | 39 => ("SinkingChoirModel", "newArg", "[I", true)
  | 40 => ("SinkingChoirModel", "place", "I", false)
  | 41 => ("SinkingChoirModel", "end", "I", false)
  | 42 => ("SinkingChoirModel", "bad", "I", false)
  | 43 => ("SinkingChoirModel", "clauses", "I", false)
  | 44 => ("SinkingChoirModel", "codes", "I", false)
  | 45 => ("SinkingChoirModel", "open", "I", false)
  | 46 => ("SinkingChoirModel", "stacked", "I", false)
  | 47 => ("SinkingChoirModel", "isOver", "Z", false)
  | 48 => ("SinkingChoirModel", "isBehind", "Z", false)
  | 49 => ("SinkingChoirModel", "stack", "[I", true)
  | 50 => ("SinkingChoirModel", "atPlace", "[I", true)
  | 51 => ("SinkingChoirModel", "knowing", "[I", true)
  | 52 => ("SinkingChoirModel", "giving", "I", false)
  | 53 => ("SinkingChoirModel", "turn", "I", false)
  | 54 => ("SinkingChoirModel", "pitchOf", "[I", true)
  | 55 => ("SinkingChoirModel", "lastPitch", "[I", true)
  | 56 => ("SinkingChoirModel", "lastBeatOf", "[I", true)
  | 57 => ("SinkingChoirModel", "givenThen", "[I", true)
  | 58 => ("SinkingChoirModel", "luck", "I", false)
  | 59 => ("SinkingChoirModel", "atSinger", "I", false)
  | 60 => ("SinkingChoirModel", "atBeat", "I", false)
  | 61 => ("SinkingChoirModel", "driftSum", "J", false)
  | 62 => ("SinkingChoirModel", "worth", "[I", true)
  | 63 => ("SinkingChoirModel", "isRefused", "[Z", true)
  | 64 => ("SinkingChoirModel", "byOthers", "J", false)
  | 65 => ("SinkingChoirModel", "byOwn", "J", false)
  | 66 => ("SinkingChoirModel", "hasOthers", "Z", false)
  | 67 => ("SinkingChoirModel", "hasOwn", "Z", false)
  | 68 => ("SinkingChoirModel", "bestPlace", "[I", true)
  | 69 => ("SinkingChoirModel", "onTape", "[I", true)
  | _ => ("SinkingChoirModel", "hasTape", "[Z", true)
def ty1 : Nat → FieldType := fun k => match k with
  | 0 => .array .byte
  | 1 => .int
  | 2 => .array .int
  | 3 => .array .int
  | 4 => .array .int
  | 5 => .array .int
  | 6 => .array .boolean
  | 7 => .array .int
  | 8 => .int
  | 9 => .int
  | 10 => .int
  | 11 => .array .int
  | 12 => .array .int
  | 13 => .array .int
  | 14 => .array .int
  | 15 => .array .long
  | 16 => .array .int
  | 17 => .long
  | 18 => .int
  | 19 => .int
  | 20 => .int
  | 21 => .int
  | 22 => .array .int
  | 23 => .array .int
  | 24 => .array .int
  | 25 => .array .int
  | 26 => .array .int
  | 27 => .int
  | 28 => .array .int
  | 29 => .array .int
  | 30 => .array .int
  | 31 => .array .int
  | 32 => .array .int
  | 33 => .array .int
  | 34 => .array .int
  | 35 => .array .int
  | 36 => .array .int
  | 37 => .array .int
  | 38 => .array .int
  | 39 => .array .int
  | 40 => .int
  | 41 => .int
  | 42 => .int
  | 43 => .int
  | 44 => .int
  | 45 => .int
  | 46 => .int
  | 47 => .boolean
  | 48 => .boolean
  | 49 => .array .int
  | 50 => .array .int
  | 51 => .array .int
  | 52 => .int
  | 53 => .int
  | 54 => .array .int
  | 55 => .array .int
  | 56 => .array .int
  | 57 => .array .int
  | 58 => .int
  | 59 => .int
  | 60 => .int
  | 61 => .long
  | 62 => .array .int
  | 63 => .array .boolean
  | 64 => .long
  | 65 => .long
  | 66 => .boolean
  | 67 => .boolean
  | 68 => .array .int
  | 69 => .array .int
  | _ => .array .boolean
def R2 : String := "SinkingChoir$Choir"
def T2 : u_T := fun k => match k with
  | 0 => ("SinkingChoir$Choir", "score", "LSinkingChoir$Score;", true)
  | 1 => ("SinkingChoir$Choir", "voices", "[I", true)
  | 2 => ("SinkingChoir$Choir", "places", "[I", true)
  | 3 => ("SinkingChoir$Choir", "louds", "[I", true)
  | 4 => ("SinkingChoir$Choir", "knowing", "[I", true)
  | 5 => ("SinkingChoir$Choir", "recorded", "[I", true)
  | 6 => ("SinkingChoir$Choir", "records", "[I", true)
  | 7 => ("SinkingChoir$Choir", "tables", "[I", true)
  | 8 => ("SinkingChoir$Choir", "words", "LSinkingChoir$Program;", false)
  | 9 => ("SinkingChoir$Choir", "count", "I", false)
  | 10 => ("SinkingChoir$Choir", "luck", "I", false)
  | 11 => ("SinkingChoir$Choir", "wind", "I", false)
  | _ => ("SinkingChoir$Choir", "givings", "I", false)
def ty2 : Nat → FieldType := fun k => match k with
  | 0 => .object "SinkingChoir$Score"
  | 1 => .array .int
  | 2 => .array .int
  | 3 => .array .int
  | 4 => .array .int
  | 5 => .array .int
  | 6 => .array .int
  | 7 => .array .int
  | 8 => .object "SinkingChoir$Program"
  | 9 => .int
  | 10 => .int
  | 11 => .int
  | _ => .int
def R3 : String := "SinkingChoir$Fitting"
def T3 : u_T := fun k => match k with
  | 0 => ("SinkingChoir$Fitting", "score", "LSinkingChoir$Score;", true)
  | 1 => ("SinkingChoir$Fitting", "choir", "LSinkingChoir$Choir;", true)
  | 2 => ("SinkingChoir$Fitting", "singing", "LSinkingChoir$Singing;", true)
  | 3 => ("SinkingChoir$Fitting", "differences", "[J", true)
  | _ => ("SinkingChoir$Fitting", "row", "I", false)
def ty3 : Nat → FieldType := fun k => match k with
  | 0 => .object "SinkingChoir$Score"
  | 1 => .object "SinkingChoir$Choir"
  | 2 => .object "SinkingChoir$Singing"
  | 3 => .array .long
  | _ => .int
def R4 : String := "SinkingChoir$Leading"
def T4 : u_T := fun k => match k with
  | 0 => ("SinkingChoir$Leading", "choir", "LSinkingChoir$Choir;", true)
  | 1 => ("SinkingChoir$Leading", "singing", "LSinkingChoir$Singing;", true)
  | 2 => ("SinkingChoir$Leading", "far", "[J", true)
  | 3 => ("SinkingChoir$Leading", "set", "I", false)
  | _ => ("SinkingChoir$Leading", "greatest", "J", false)
def ty4 : Nat → FieldType := fun k => match k with
  | 0 => .object "SinkingChoir$Choir"
  | 1 => .object "SinkingChoir$Singing"
  | 2 => .array .long
  | 3 => .int
  | _ => .long
def R5 : String := "SinkingChoir$Program"
def T5 : u_T := fun k => match k with
  | 0 => ("SinkingChoir$Program", "ops", "[I", true)
  | 1 => ("SinkingChoir$Program", "args", "[I", true)
  | 2 => ("SinkingChoir$Program", "stack", "[I", true)
  | 3 => ("SinkingChoir$Program", "aimed", "[I", true)
  | 4 => ("SinkingChoir$Program", "starts", "[I", true)
  | 5 => ("SinkingChoir$Program", "middles", "[I", true)
  | 6 => ("SinkingChoir$Program", "steps", "I", false)
  | _ => ("SinkingChoir$Program", "clauses", "I", false)
def ty5 : Nat → FieldType := fun k => match k with
  | 0 => .array .int
  | 1 => .array .int
  | 2 => .array .int
  | 3 => .array .int
  | 4 => .array .int
  | 5 => .array .int
  | 6 => .int
  | _ => .int
def R6 : String := "SinkingChoir$Reader"
def T6 : u_T := fun k => match k with
  | 0 => ("SinkingChoir$Reader", "signs", "[I", true)
  | 1 => ("SinkingChoir$Reader", "out", "LSinkingChoir$Program;", false)
  | 2 => ("SinkingChoir$Reader", "length", "I", false)
  | 3 => ("SinkingChoir$Reader", "at", "I", false)
  | _ => ("SinkingChoir$Reader", "fault", "I", false)
def ty6 : Nat → FieldType := fun k => match k with
  | 0 => .array .int
  | 1 => .object "SinkingChoir$Program"
  | 2 => .int
  | 3 => .int
  | _ => .int
def R7 : String := "SinkingChoir$Reel"
def T7 : u_T := fun k => match k with
  | 0 => ("SinkingChoir$Reel", "bytes", "[I", true)
  | _ => ("SinkingChoir$Reel", "length", "I", false)
def ty7 : Nat → FieldType := fun k => match k with
  | 0 => .array .int
  | _ => .int
def R8 : String := "SinkingChoir$Score"
def T8 : u_T := fun k => match k with
  | 0 => ("SinkingChoir$Score", "keys", "[I", true)
  | 1 => ("SinkingChoir$Score", "exponents", "[I", true)
  | 2 => ("SinkingChoir$Score", "mills", "[I", true)
  | 3 => ("SinkingChoir$Score", "breaths", "[I", true)
  | 4 => ("SinkingChoir$Score", "links", "[I", true)
  | 5 => ("SinkingChoir$Score", "keynotes", "[I", true)
  | _ => ("SinkingChoir$Score", "keynoteExponents", "[I", true)
def ty8 : Nat → FieldType := fun k => match k with
  | 0 => .array .int
  | 1 => .array .int
  | 2 => .array .int
  | 3 => .array .int
  | 4 => .array .int
  | 5 => .array .int
  | _ => .array .int
def R9 : String := "SinkingChoir$Singing"
def T9 : u_T := fun k => match k with
  | 0 => ("SinkingChoir$Singing", "score", "LSinkingChoir$Score;", true)
  | 1 => ("SinkingChoir$Singing", "choir", "LSinkingChoir$Choir;", true)
  | 2 => ("SinkingChoir$Singing", "pitches", "[J", true)
  | 3 => ("SinkingChoir$Singing", "lasts", "[J", true)
  | 4 => ("SinkingChoir$Singing", "letters", "[I", true)
  | 5 => ("SinkingChoir$Singing", "weights", "[I", true)
  | 6 => ("SinkingChoir$Singing", "aims", "[J", true)
  | 7 => ("SinkingChoir$Singing", "counts", "[Z", true)
  | 8 => ("SinkingChoir$Singing", "places", "[I", false)
  | 9 => ("SinkingChoir$Singing", "givings", "I", false)
  | 10 => ("SinkingChoir$Singing", "turn", "I", false)
  | 11 => ("SinkingChoir$Singing", "nobodyKnows", "Z", false)
  | 12 => ("SinkingChoir$Singing", "drift", "J", false)
  | 13 => ("SinkingChoir$Singing", "luck", "I", false)
  | _ => ("SinkingChoir$Singing", "many", "I", false)
def ty9 : Nat → FieldType := fun k => match k with
  | 0 => .object "SinkingChoir$Score"
  | 1 => .object "SinkingChoir$Choir"
  | 2 => .array .long
  | 3 => .array .long
  | 4 => .array .int
  | 5 => .array .int
  | 6 => .array .long
  | 7 => .array .boolean
  | 8 => .array .int
  | 9 => .int
  | 10 => .int
  | 11 => .boolean
  | 12 => .long
  | 13 => .int
  | _ => .int
def R10 : String := "SinkingChoir$Standing"
def T10 : u_T := fun k => match k with
  | 0 => ("SinkingChoir$Standing", "choir", "LSinkingChoir$Choir;", true)
  | 1 => ("SinkingChoir$Standing", "singing", "LSinkingChoir$Singing;", true)
  | 2 => ("SinkingChoir$Standing", "tried", "[I", true)
  | 3 => ("SinkingChoir$Standing", "places", "[I", true)
  | 4 => ("SinkingChoir$Standing", "sinking", "J", false)
  | 5 => ("SinkingChoir$Standing", "foul", "J", false)
  | _ => ("SinkingChoir$Standing", "foundAt", "I", false)
def ty10 : Nat → FieldType := fun k => match k with
  | 0 => .object "SinkingChoir$Choir"
  | 1 => .object "SinkingChoir$Singing"
  | 2 => .array .int
  | 3 => .array .int
  | 4 => .long
  | 5 => .long
  | _ => .int
def R11 : String := "SinkingChoir$Ways"
def T11 : u_T := fun k => match k with
  | 0 => ("SinkingChoir$Ways", "score", "LSinkingChoir$Score;", true)
  | 1 => ("SinkingChoir$Ways", "nodes", "[I", true)
  | 2 => ("SinkingChoir$Ways", "costs", "[I", true)
  | 3 => ("SinkingChoir$Ways", "counts", "[I", true)
  | 4 => ("SinkingChoir$Ways", "merged", "[I", true)
  | 5 => ("SinkingChoir$Ways", "shifts", "[I", true)
  | 6 => ("SinkingChoir$Ways", "prices", "[I", true)
  | 7 => ("SinkingChoir$Ways", "row", "[I", true)
  | 8 => ("SinkingChoir$Ways", "total", "I", false)
  | _ => ("SinkingChoir$Ways", "last", "I", false)
def ty11 : Nat → FieldType := fun k => match k with
  | 0 => .object "SinkingChoir$Score"
  | 1 => .array .int
  | 2 => .array .int
  | 3 => .array .int
  | 4 => .array .int
  | 5 => .array .int
  | 6 => .array .int
  | 7 => .array .int
  | 8 => .int
  | _ => .int
abbrev CLS : List vw_C := [(R0, T0, 10), (R1, T1, 71), (R2, T2, 13), (R3, T3, 5), (R4, T4, 5), (R5, T5, 8), (R6, T6, 5), (R7, T7, 2), (R8, T8, 7), (R9, T9, 15), (R10, T10, 7), (R11, T11, 10)]
def nfld : Nat → Nat
  | 0 => 10
  | 1 => 71
  | 2 => 13
  | 3 => 5
  | 4 => 5
  | 5 => 8
  | 6 => 5
  | 7 => 2
  | 8 => 7
  | 9 => 15
  | 10 => 7
  | 11 => 10
  | _ => 0
/-- what a field holds: 0 an int, 3 a boolean, 1 a long, 2 a reference -/
def FTC (ci k : Nat) : Nat := match ci with
  | 0 => [2, 2, 2, 2, 2, 2, 2, 2, 2, 0].getD k 2
  | 1 => [2, 0, 2, 2, 2, 2, 2, 2, 0, 0, 0, 2, 2, 2, 2, 2, 2, 1, 0, 0, 0, 0, 2, 2, 2, 2, 2, 0, 2, 2, 2, 2, 2, 2, 2, 2, 2, 2, 2, 2, 0, 0, 0, 0, 0, 0, 0, 3, 3, 2, 2, 2, 0, 0, 2, 2, 2, 2, 0, 0, 0, 1, 2, 2, 1, 1, 3, 3, 2, 2, 2].getD k 2
  | 2 => [2, 2, 2, 2, 2, 2, 2, 2, 2, 0, 0, 0, 0].getD k 2
  | 3 => [2, 2, 2, 2, 0].getD k 2
  | 4 => [2, 2, 2, 0, 1].getD k 2
  | 5 => [2, 2, 2, 2, 2, 2, 0, 0].getD k 2
  | 6 => [2, 2, 0, 0, 0].getD k 2
  | 7 => [2, 0].getD k 2
  | 8 => [2, 2, 2, 2, 2, 2, 2].getD k 2
  | 9 => [2, 2, 2, 2, 2, 2, 2, 2, 2, 0, 0, 3, 1, 0, 0].getD k 2
  | 10 => [2, 2, 2, 2, 1, 1, 0].getD k 2
  | 11 => [2, 2, 2, 2, 2, 2, 2, 2, 0, 0].getD k 2
  | _ => 2
def ftOk (c : Nat) (t : FieldType) : Bool := match c, t with
  | 0, .int => true
  | 3, .boolean => true
  | 1, .long => true
  | 2, .object _ => true
  | 2, .array _ => true
  | _, _ => false
def CFX (ci : Nat) (C : String) (T : u_T) (N : Nat) (ty : Nat → FieldType) : Prop := CLS[ci]? = some (C, T, N) ∧ nfld ci = N ∧ (∀ w ∈ u_ws C T N, w ∈ tb) ∧ (∀ k, k < N → parseFieldDescriptor (T k).2.2.1 = some (ty k)) ∧ (∀ a, a < N → ∀ b, b < N → a ≠ b → (T a).2.1 ≠ (T b).2.1) ∧ (∀ k, k < N → ftOk (FTC ci k) (ty k) = true) ∧ Cond.instantiable C N ∈ tb ∧ Cond.initialized C ∈ tb
set_option maxRecDepth 20000 in
theorem cfw0 : ∀ w ∈ u_ws R0 T0 10, w ∈ tb := by
  have h : ∀ k, k < 10 → lw_tbl[[472, 474, 476, 478, 480, 482, 484, 486, 488, 490].getD k 0]? = some (u_lay R0 T0 k) ∧ goodWord (u_lay R0 T0 k) = true := by decide +kernel
  intro w hw
  obtain ⟨k, hk, rfl⟩ := List.mem_map.mp hw
  have hk := List.mem_range.mp hk
  exact mem_tb _ (h k hk).1 (h k hk).2
set_option maxRecDepth 20000 in
theorem cf0 : CFX 0 R0 T0 10 ty0 := ⟨rfl, rfl, cfw0, by decide +kernel, by decide +kernel, by decide +kernel, mem_tb 133 (by decide +kernel) rfl, mem_tb 110 (by decide +kernel) rfl⟩
set_option maxRecDepth 20000 in
theorem cfw1 : ∀ w ∈ u_ws R1 T1 71, w ∈ tb := by
  have h : ∀ k, k < 71 → lw_tbl[[1355, 1357, 1359, 1361, 1363, 1365, 1367, 1369, 1371, 1373, 1375, 1377, 1379, 1381, 1383, 1385, 1387, 1389, 1391, 1393, 1395, 1397, 1399, 1401, 1403, 1405, 1407, 1409, 1411, 1413, 1415, 1417, 1419, 1421, 1423, 1425, 1427, 1429, 1431, 1433, 1435, 1437, 1439, 1441, 1443, 1445, 1447, 1449, 1451, 1453, 1455, 1457, 1459, 1461, 1463, 1465, 1467, 1469, 1471, 1473, 1475, 1477, 1479, 1481, 1483, 1485, 1487, 1489, 1491, 1493, 1495].getD k 0]? = some (u_lay R1 T1 k) ∧ goodWord (u_lay R1 T1 k) = true := by decide +kernel
  intro w hw
  obtain ⟨k, hk, rfl⟩ := List.mem_map.mp hw
  have hk := List.mem_range.mp hk
  exact mem_tb _ (h k hk).1 (h k hk).2
set_option maxRecDepth 20000 in
theorem cf1 : CFX 1 R1 T1 71 ty1 := ⟨rfl, rfl, cfw1, by decide +kernel, by decide +kernel, by decide +kernel, mem_tb 1279 (by decide +kernel) rfl, mem_tb 122 (by decide +kernel) rfl⟩
set_option maxRecDepth 20000 in
theorem cfw2 : ∀ w ∈ u_ws R2 T2 13, w ∈ tb := by
  have h : ∀ k, k < 13 → lw_tbl[[253, 255, 257, 259, 261, 263, 265, 267, 269, 271, 273, 275, 277].getD k 0]? = some (u_lay R2 T2 k) ∧ goodWord (u_lay R2 T2 k) = true := by decide +kernel
  intro w hw
  obtain ⟨k, hk, rfl⟩ := List.mem_map.mp hw
  have hk := List.mem_range.mp hk
  exact mem_tb _ (h k hk).1 (h k hk).2
set_option maxRecDepth 20000 in
theorem cf2 : CFX 2 R2 T2 13 ty2 := ⟨rfl, rfl, cfw2, by decide +kernel, by decide +kernel, by decide +kernel, mem_tb 182 (by decide +kernel) rfl, mem_tb 113 (by decide +kernel) rfl⟩
set_option maxRecDepth 20000 in
theorem cfw3 : ∀ w ∈ u_ws R3 T3 5, w ∈ tb := by
  have h : ∀ k, k < 5 → lw_tbl[[412, 414, 416, 418, 420].getD k 0]? = some (u_lay R3 T3 k) ∧ goodWord (u_lay R3 T3 k) = true := by decide +kernel
  intro w hw
  obtain ⟨k, hk, rfl⟩ := List.mem_map.mp hw
  have hk := List.mem_range.mp hk
  exact mem_tb _ (h k hk).1 (h k hk).2
set_option maxRecDepth 20000 in
theorem cf3 : CFX 3 R3 T3 5 ty3 := ⟨rfl, rfl, cfw3, by decide +kernel, by decide +kernel, by decide +kernel, mem_tb 402 (by decide +kernel) rfl, mem_tb 119 (by decide +kernel) rfl⟩
set_option maxRecDepth 20000 in
theorem cfw4 : ∀ w ∈ u_ws R4 T4 5, w ∈ tb := by
  have h : ∀ k, k < 5 → lw_tbl[[390, 392, 394, 396, 398].getD k 0]? = some (u_lay R4 T4 k) ∧ goodWord (u_lay R4 T4 k) = true := by decide +kernel
  intro w hw
  obtain ⟨k, hk, rfl⟩ := List.mem_map.mp hw
  have hk := List.mem_range.mp hk
  exact mem_tb _ (h k hk).1 (h k hk).2
set_option maxRecDepth 20000 in
theorem cf4 : CFX 4 R4 T4 5 ty4 := ⟨rfl, rfl, cfw4, by decide +kernel, by decide +kernel, by decide +kernel, mem_tb 378 (by decide +kernel) rfl, mem_tb 118 (by decide +kernel) rfl⟩
set_option maxRecDepth 20000 in
theorem cfw5 : ∀ w ∈ u_ws R5 T5 8, w ∈ tb := by
  have h : ∀ k, k < 8 → lw_tbl[[202, 204, 206, 208, 210, 212, 214, 216].getD k 0]? = some (u_lay R5 T5 k) ∧ goodWord (u_lay R5 T5 k) = true := by decide +kernel
  intro w hw
  obtain ⟨k, hk, rfl⟩ := List.mem_map.mp hw
  have hk := List.mem_range.mp hk
  exact mem_tb _ (h k hk).1 (h k hk).2
set_option maxRecDepth 20000 in
theorem cf5 : CFX 5 R5 T5 8 ty5 := ⟨rfl, rfl, cfw5, by decide +kernel, by decide +kernel, by decide +kernel, mem_tb 188 (by decide +kernel) rfl, mem_tb 114 (by decide +kernel) rfl⟩
set_option maxRecDepth 20000 in
theorem cfw6 : ∀ w ∈ u_ws R6 T6 5, w ∈ tb := by
  have h : ∀ k, k < 5 → lw_tbl[[451, 453, 455, 457, 459].getD k 0]? = some (u_lay R6 T6 k) ∧ goodWord (u_lay R6 T6 k) = true := by decide +kernel
  intro w hw
  obtain ⟨k, hk, rfl⟩ := List.mem_map.mp hw
  have hk := List.mem_range.mp hk
  exact mem_tb _ (h k hk).1 (h k hk).2
set_option maxRecDepth 20000 in
theorem cf6 : CFX 6 R6 T6 5 ty6 := ⟨rfl, rfl, cfw6, by decide +kernel, by decide +kernel, by decide +kernel, mem_tb 439 (by decide +kernel) rfl, mem_tb 121 (by decide +kernel) rfl⟩
set_option maxRecDepth 20000 in
theorem cfw7 : ∀ w ∈ u_ws R7 T7 2, w ∈ tb := by
  have h : ∀ k, k < 2 → lw_tbl[[433, 435].getD k 0]? = some (u_lay R7 T7 k) ∧ goodWord (u_lay R7 T7 k) = true := by decide +kernel
  intro w hw
  obtain ⟨k, hk, rfl⟩ := List.mem_map.mp hw
  have hk := List.mem_range.mp hk
  exact mem_tb _ (h k hk).1 (h k hk).2
set_option maxRecDepth 20000 in
theorem cf7 : CFX 7 R7 T7 2 ty7 := ⟨rfl, rfl, cfw7, by decide +kernel, by decide +kernel, by decide +kernel, mem_tb 424 (by decide +kernel) rfl, mem_tb 120 (by decide +kernel) rfl⟩
set_option maxRecDepth 20000 in
theorem cfw8 : ∀ w ∈ u_ws R8 T8 7, w ∈ tb := by
  have h : ∀ k, k < 7 → lw_tbl[[165, 167, 169, 171, 173, 175, 177].getD k 0]? = some (u_lay R8 T8 k) ∧ goodWord (u_lay R8 T8 k) = true := by decide +kernel
  intro w hw
  obtain ⟨k, hk, rfl⟩ := List.mem_map.mp hw
  have hk := List.mem_range.mp hk
  exact mem_tb _ (h k hk).1 (h k hk).2
set_option maxRecDepth 20000 in
theorem cf8 : CFX 8 R8 T8 7 ty8 := ⟨rfl, rfl, cfw8, by decide +kernel, by decide +kernel, by decide +kernel, mem_tb 141 (by decide +kernel) rfl, mem_tb 111 (by decide +kernel) rfl⟩
set_option maxRecDepth 20000 in
theorem cfw9 : ∀ w ∈ u_ws R9 T9 15, w ∈ tb := by
  have h : ∀ k, k < 15 → lw_tbl[[312, 314, 316, 318, 320, 322, 324, 326, 328, 330, 332, 334, 336, 338, 340].getD k 0]? = some (u_lay R9 T9 k) ∧ goodWord (u_lay R9 T9 k) = true := by decide +kernel
  intro w hw
  obtain ⟨k, hk, rfl⟩ := List.mem_map.mp hw
  have hk := List.mem_range.mp hk
  exact mem_tb _ (h k hk).1 (h k hk).2
set_option maxRecDepth 20000 in
theorem cf9 : CFX 9 R9 T9 15 ty9 := ⟨rfl, rfl, cfw9, by decide +kernel, by decide +kernel, by decide +kernel, mem_tb 281 (by decide +kernel) rfl, mem_tb 115 (by decide +kernel) rfl⟩
set_option maxRecDepth 20000 in
theorem cfw10 : ∀ w ∈ u_ws R10 T10 7, w ∈ tb := by
  have h : ∀ k, k < 7 → lw_tbl[[362, 364, 366, 368, 370, 372, 374].getD k 0]? = some (u_lay R10 T10 k) ∧ goodWord (u_lay R10 T10 k) = true := by decide +kernel
  intro w hw
  obtain ⟨k, hk, rfl⟩ := List.mem_map.mp hw
  have hk := List.mem_range.mp hk
  exact mem_tb _ (h k hk).1 (h k hk).2
set_option maxRecDepth 20000 in
theorem cf10 : CFX 10 R10 T10 7 ty10 := ⟨rfl, rfl, cfw10, by decide +kernel, by decide +kernel, by decide +kernel, mem_tb 347 (by decide +kernel) rfl, mem_tb 117 (by decide +kernel) rfl⟩
set_option maxRecDepth 20000 in
theorem cfw11 : ∀ w ∈ u_ws R11 T11 10, w ∈ tb := by
  have h : ∀ k, k < 10 → lw_tbl[[655, 657, 659, 661, 663, 665, 667, 669, 671, 673].getD k 0]? = some (u_lay R11 T11 k) ∧ goodWord (u_lay R11 T11 k) = true := by decide +kernel
  intro w hw
  obtain ⟨k, hk, rfl⟩ := List.mem_map.mp hw
  have hk := List.mem_range.mp hk
  exact mem_tb _ (h k hk).1 (h k hk).2
set_option maxRecDepth 20000 in
theorem cf11 : CFX 11 R11 T11 10 ty11 := ⟨rfl, rfl, cfw11, by decide +kernel, by decide +kernel, by decide +kernel, mem_tb 640 (by decide +kernel) rfl, mem_tb 125 (by decide +kernel) rfl⟩
end
