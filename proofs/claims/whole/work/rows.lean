section
-- ===== PART A: goes FIRST, ahead of the names: the tables' words, and 'selects' of the private methods out of them =====
/-- a private method of a class that the tables say can be made, by its rows of tables_1 -/
def lw_okq (q : MethodName × Nat) : Prop := (q.1.cls ≠ "java/lang/invoke/MethodHandle" ∧ q.1.cls ≠ "java/lang/invoke/VarHandle") ∧ Cond.instantiable q.1.cls q.2 ∈ tables_1 ∧ Cond.privateMethod q.1 ∈ tables_1 ∧ Cond.instanceMethod q.1 ∈ tables_1
theorem lw_p0 : lw_okq (⟨"SinkingChoir$Score", "tune", "()V"⟩, 7) := ⟨⟨by decide +kernel, by decide +kernel⟩, List.mem_of_getElem? (i := 32) (by decide +kernel), List.mem_of_getElem? (i := 430) (by decide +kernel), List.mem_of_getElem? (i := 431) (by decide +kernel)⟩
theorem lw_p1 : lw_okq (⟨"SinkingChoir", "changed", "()Z"⟩, 10) := ⟨⟨by decide +kernel, by decide +kernel⟩, List.mem_of_getElem? (i := 24) (by decide +kernel), List.mem_of_getElem? (i := 438) (by decide +kernel), List.mem_of_getElem? (i := 439) (by decide +kernel)⟩
theorem lw_p2 : lw_okq (⟨"SinkingChoir", "asksRow", "(I)Z"⟩, 10) := ⟨⟨by decide +kernel, by decide +kernel⟩, List.mem_of_getElem? (i := 24) (by decide +kernel), List.mem_of_getElem? (i := 523) (by decide +kernel), List.mem_of_getElem? (i := 524) (by decide +kernel)⟩
theorem lw_p3 : lw_okq (⟨"SinkingChoir", "explored", "()LSinkingChoir$Ways;"⟩, 10) := ⟨⟨by decide +kernel, by decide +kernel⟩, List.mem_of_getElem? (i := 24) (by decide +kernel), List.mem_of_getElem? (i := 527) (by decide +kernel), List.mem_of_getElem? (i := 528) (by decide +kernel)⟩
theorem lw_p4 : lw_okq (⟨"SinkingChoir$Ways", "spread", "(II)Z"⟩, 10) := ⟨⟨by decide +kernel, by decide +kernel⟩, List.mem_of_getElem? (i := 531) (by decide +kernel), List.mem_of_getElem? (i := 578) (by decide +kernel), List.mem_of_getElem? (i := 579) (by decide +kernel)⟩
theorem lw_p5 : lw_okq (⟨"SinkingChoir$Ways", "find", "(II)I"⟩, 10) := ⟨⟨by decide +kernel, by decide +kernel⟩, List.mem_of_getElem? (i := 531) (by decide +kernel), List.mem_of_getElem? (i := 590) (by decide +kernel), List.mem_of_getElem? (i := 591) (by decide +kernel)⟩
theorem lw_p6 : lw_okq (⟨"SinkingChoir$Ways", "price", "(Z)V"⟩, 10) := ⟨⟨by decide +kernel, by decide +kernel⟩, List.mem_of_getElem? (i := 531) (by decide +kernel), List.mem_of_getElem? (i := 594) (by decide +kernel), List.mem_of_getElem? (i := 595) (by decide +kernel)⟩
theorem lw_p7 : lw_okq (⟨"SinkingChoir$Ways", "relax", "(IIZ)V"⟩, 10) := ⟨⟨by decide +kernel, by decide +kernel⟩, List.mem_of_getElem? (i := 531) (by decide +kernel), List.mem_of_getElem? (i := 601) (by decide +kernel), List.mem_of_getElem? (i := 602) (by decide +kernel)⟩
theorem lw_p8 : lw_okq (⟨"SinkingChoir$Ways", "follow", "()Z"⟩, 10) := ⟨⟨by decide +kernel, by decide +kernel⟩, List.mem_of_getElem? (i := 531) (by decide +kernel), List.mem_of_getElem? (i := 605) (by decide +kernel), List.mem_of_getElem? (i := 606) (by decide +kernel)⟩
theorem lw_p9 : lw_okq (⟨"SinkingChoir$Reader", "clause", "(I)V"⟩, 5) := ⟨⟨by decide +kernel, by decide +kernel⟩, List.mem_of_getElem? (i := 330) (by decide +kernel), List.mem_of_getElem? (i := 691) (by decide +kernel), List.mem_of_getElem? (i := 692) (by decide +kernel)⟩
theorem lw_p10 : lw_okq (⟨"SinkingChoir$Reader", "here", "()I"⟩, 5) := ⟨⟨by decide +kernel, by decide +kernel⟩, List.mem_of_getElem? (i := 330) (by decide +kernel), List.mem_of_getElem? (i := 696) (by decide +kernel), List.mem_of_getElem? (i := 697) (by decide +kernel)⟩
theorem lw_p11 : lw_okq (⟨"SinkingChoir$Reader", "fail", "(I)V"⟩, 5) := ⟨⟨by decide +kernel, by decide +kernel⟩, List.mem_of_getElem? (i := 330) (by decide +kernel), List.mem_of_getElem? (i := 778) (by decide +kernel), List.mem_of_getElem? (i := 779) (by decide +kernel)⟩
theorem lw_p12 : lw_okq (⟨"SinkingChoir$Reader", "sum", "(I)V"⟩, 5) := ⟨⟨by decide +kernel, by decide +kernel⟩, List.mem_of_getElem? (i := 330) (by decide +kernel), List.mem_of_getElem? (i := 786) (by decide +kernel), List.mem_of_getElem? (i := 787) (by decide +kernel)⟩
theorem lw_p13 : lw_okq (⟨"SinkingChoir$Reader", "product", "(I)V"⟩, 5) := ⟨⟨by decide +kernel, by decide +kernel⟩, List.mem_of_getElem? (i := 330) (by decide +kernel), List.mem_of_getElem? (i := 790) (by decide +kernel), List.mem_of_getElem? (i := 791) (by decide +kernel)⟩
theorem lw_p14 : lw_okq (⟨"SinkingChoir$Reader", "factor", "(I)V"⟩, 5) := ⟨⟨by decide +kernel, by decide +kernel⟩, List.mem_of_getElem? (i := 330) (by decide +kernel), List.mem_of_getElem? (i := 794) (by decide +kernel), List.mem_of_getElem? (i := 795) (by decide +kernel)⟩
theorem lw_p15 : lw_okq (⟨"SinkingChoir$Reader", "number", "()V"⟩, 5) := ⟨⟨by decide +kernel, by decide +kernel⟩, List.mem_of_getElem? (i := 330) (by decide +kernel), List.mem_of_getElem? (i := 806) (by decide +kernel), List.mem_of_getElem? (i := 807) (by decide +kernel)⟩
def lw_privs_1 : List (MethodName × Nat) := [(⟨"SinkingChoir$Score", "tune", "()V"⟩, 7), (⟨"SinkingChoir", "changed", "()Z"⟩, 10), (⟨"SinkingChoir", "asksRow", "(I)Z"⟩, 10), (⟨"SinkingChoir", "explored", "()LSinkingChoir$Ways;"⟩, 10), (⟨"SinkingChoir$Ways", "spread", "(II)Z"⟩, 10), (⟨"SinkingChoir$Ways", "find", "(II)I"⟩, 10), (⟨"SinkingChoir$Ways", "price", "(Z)V"⟩, 10), (⟨"SinkingChoir$Ways", "relax", "(IIZ)V"⟩, 10), (⟨"SinkingChoir$Ways", "follow", "()Z"⟩, 10), (⟨"SinkingChoir$Reader", "clause", "(I)V"⟩, 5), (⟨"SinkingChoir$Reader", "here", "()I"⟩, 5), (⟨"SinkingChoir$Reader", "fail", "(I)V"⟩, 5), (⟨"SinkingChoir$Reader", "sum", "(I)V"⟩, 5), (⟨"SinkingChoir$Reader", "product", "(I)V"⟩, 5), (⟨"SinkingChoir$Reader", "factor", "(I)V"⟩, 5), (⟨"SinkingChoir$Reader", "number", "()V"⟩, 5)]
theorem lw_r1 : ∀ q ∈ lw_privs_1, lw_okq q := List.forall_mem_cons.mpr ⟨lw_p0, List.forall_mem_cons.mpr ⟨lw_p1, List.forall_mem_cons.mpr ⟨lw_p2, List.forall_mem_cons.mpr ⟨lw_p3, List.forall_mem_cons.mpr ⟨lw_p4, List.forall_mem_cons.mpr ⟨lw_p5, List.forall_mem_cons.mpr ⟨lw_p6, List.forall_mem_cons.mpr ⟨lw_p7, List.forall_mem_cons.mpr ⟨lw_p8, List.forall_mem_cons.mpr ⟨lw_p9, List.forall_mem_cons.mpr ⟨lw_p10, List.forall_mem_cons.mpr ⟨lw_p11, List.forall_mem_cons.mpr ⟨lw_p12, List.forall_mem_cons.mpr ⟨lw_p13, List.forall_mem_cons.mpr ⟨lw_p14, List.forall_mem_cons.mpr ⟨lw_p15, fun _ h => absurd h List.not_mem_nil⟩⟩⟩⟩⟩⟩⟩⟩⟩⟩⟩⟩⟩⟩⟩⟩
theorem lw_p16 : lw_okq (⟨"SinkingChoir$Reader", "take", "(I)V"⟩, 5) := ⟨⟨by decide +kernel, by decide +kernel⟩, List.mem_of_getElem? (i := 330) (by decide +kernel), List.mem_of_getElem? (i := 810) (by decide +kernel), List.mem_of_getElem? (i := 811) (by decide +kernel)⟩
theorem lw_p17 : lw_okq (⟨"SinkingChoir$Reader", "either", "(I)V"⟩, 5) := ⟨⟨by decide +kernel, by decide +kernel⟩, List.mem_of_getElem? (i := 330) (by decide +kernel), List.mem_of_getElem? (i := 818) (by decide +kernel), List.mem_of_getElem? (i := 819) (by decide +kernel)⟩
theorem lw_p18 : lw_okq (⟨"SinkingChoir$Reader", "all", "(I)V"⟩, 5) := ⟨⟨by decide +kernel, by decide +kernel⟩, List.mem_of_getElem? (i := 330) (by decide +kernel), List.mem_of_getElem? (i := 822) (by decide +kernel), List.mem_of_getElem? (i := 823) (by decide +kernel)⟩
theorem lw_p19 : lw_okq (⟨"SinkingChoir$Reader", "piece", "(I)V"⟩, 5) := ⟨⟨by decide +kernel, by decide +kernel⟩, List.mem_of_getElem? (i := 330) (by decide +kernel), List.mem_of_getElem? (i := 826) (by decide +kernel), List.mem_of_getElem? (i := 827) (by decide +kernel)⟩
theorem lw_p20 : lw_okq (⟨"SinkingChoir$Reader", "comparison", "()I"⟩, 5) := ⟨⟨by decide +kernel, by decide +kernel⟩, List.mem_of_getElem? (i := 330) (by decide +kernel), List.mem_of_getElem? (i := 830) (by decide +kernel), List.mem_of_getElem? (i := 831) (by decide +kernel)⟩
theorem lw_p21 : lw_okq (⟨"SinkingChoir$Singing", "giveAgain", "(I)V"⟩, 15) := ⟨⟨by decide +kernel, by decide +kernel⟩, List.mem_of_getElem? (i := 172) (by decide +kernel), List.mem_of_getElem? (i := 869) (by decide +kernel), List.mem_of_getElem? (i := 870) (by decide +kernel)⟩
theorem lw_p22 : lw_okq (⟨"SinkingChoir$Singing", "tableOf", "(II)J"⟩, 15) := ⟨⟨by decide +kernel, by decide +kernel⟩, List.mem_of_getElem? (i := 172) (by decide +kernel), List.mem_of_getElem? (i := 877) (by decide +kernel), List.mem_of_getElem? (i := 878) (by decide +kernel)⟩
theorem lw_p23 : lw_okq (⟨"SinkingChoir$Singing", "singNote", "(II)V"⟩, 15) := ⟨⟨by decide +kernel, by decide +kernel⟩, List.mem_of_getElem? (i := 172) (by decide +kernel), List.mem_of_getElem? (i := 891) (by decide +kernel), List.mem_of_getElem? (i := 892) (by decide +kernel)⟩
theorem lw_p24 : lw_okq (⟨"SinkingChoir$Singing", "tellLetters", "(III)V"⟩, 15) := ⟨⟨by decide +kernel, by decide +kernel⟩, List.mem_of_getElem? (i := 172) (by decide +kernel), List.mem_of_getElem? (i := 896) (by decide +kernel), List.mem_of_getElem? (i := 897) (by decide +kernel)⟩
theorem lw_p25 : lw_okq (⟨"SinkingChoir$Singing", "isKnowing", "(I)Z"⟩, 15) := ⟨⟨by decide +kernel, by decide +kernel⟩, List.mem_of_getElem? (i := 172) (by decide +kernel), List.mem_of_getElem? (i := 900) (by decide +kernel), List.mem_of_getElem? (i := 901) (by decide +kernel)⟩
theorem lw_p26 : lw_okq (⟨"SinkingChoir$Program", "reckon", "(II[I)Z"⟩, 8) := ⟨⟨by decide +kernel, by decide +kernel⟩, List.mem_of_getElem? (i := 79) (by decide +kernel), List.mem_of_getElem? (i := 916) (by decide +kernel), List.mem_of_getElem? (i := 917) (by decide +kernel)⟩
theorem lw_p27 : lw_okq (⟨"SinkingChoir$Singing", "millsOf", "(II)J"⟩, 15) := ⟨⟨by decide +kernel, by decide +kernel⟩, List.mem_of_getElem? (i := 172) (by decide +kernel), List.mem_of_getElem? (i := 935) (by decide +kernel), List.mem_of_getElem? (i := 936) (by decide +kernel)⟩
theorem lw_p28 : lw_okq (⟨"SinkingChoir$Singing", "givenIn", "(I)I"⟩, 15) := ⟨⟨by decide +kernel, by decide +kernel⟩, List.mem_of_getElem? (i := 172) (by decide +kernel), List.mem_of_getElem? (i := 939) (by decide +kernel), List.mem_of_getElem? (i := 940) (by decide +kernel)⟩
theorem lw_p29 : lw_okq (⟨"SinkingChoir$Choir", "above", "(II)I"⟩, 13) := ⟨⟨by decide +kernel, by decide +kernel⟩, List.mem_of_getElem? (i := 73) (by decide +kernel), List.mem_of_getElem? (i := 973) (by decide +kernel), List.mem_of_getElem? (i := 974) (by decide +kernel)⟩
theorem lw_p30 : lw_okq (⟨"SinkingChoir$Standing", "sort", "(I)V"⟩, 7) := ⟨⟨by decide +kernel, by decide +kernel⟩, List.mem_of_getElem? (i := 238) (by decide +kernel), List.mem_of_getElem? (i := 1028) (by decide +kernel), List.mem_of_getElem? (i := 1029) (by decide +kernel)⟩
theorem lw_p31 : lw_okq (⟨"SinkingChoir$Standing", "swap", "(II)V"⟩, 7) := ⟨⟨by decide +kernel, by decide +kernel⟩, List.mem_of_getElem? (i := 238) (by decide +kernel), List.mem_of_getElem? (i := 1032) (by decide +kernel), List.mem_of_getElem? (i := 1033) (by decide +kernel)⟩
def lw_privs_2 : List (MethodName × Nat) := [(⟨"SinkingChoir$Reader", "take", "(I)V"⟩, 5), (⟨"SinkingChoir$Reader", "either", "(I)V"⟩, 5), (⟨"SinkingChoir$Reader", "all", "(I)V"⟩, 5), (⟨"SinkingChoir$Reader", "piece", "(I)V"⟩, 5), (⟨"SinkingChoir$Reader", "comparison", "()I"⟩, 5), (⟨"SinkingChoir$Singing", "giveAgain", "(I)V"⟩, 15), (⟨"SinkingChoir$Singing", "tableOf", "(II)J"⟩, 15), (⟨"SinkingChoir$Singing", "singNote", "(II)V"⟩, 15), (⟨"SinkingChoir$Singing", "tellLetters", "(III)V"⟩, 15), (⟨"SinkingChoir$Singing", "isKnowing", "(I)Z"⟩, 15), (⟨"SinkingChoir$Program", "reckon", "(II[I)Z"⟩, 8), (⟨"SinkingChoir$Singing", "millsOf", "(II)J"⟩, 15), (⟨"SinkingChoir$Singing", "givenIn", "(I)I"⟩, 15), (⟨"SinkingChoir$Choir", "above", "(II)I"⟩, 13), (⟨"SinkingChoir$Standing", "sort", "(I)V"⟩, 7), (⟨"SinkingChoir$Standing", "swap", "(II)V"⟩, 7)]
theorem lw_r2 : ∀ q ∈ lw_privs_2, lw_okq q := List.forall_mem_cons.mpr ⟨lw_p16, List.forall_mem_cons.mpr ⟨lw_p17, List.forall_mem_cons.mpr ⟨lw_p18, List.forall_mem_cons.mpr ⟨lw_p19, List.forall_mem_cons.mpr ⟨lw_p20, List.forall_mem_cons.mpr ⟨lw_p21, List.forall_mem_cons.mpr ⟨lw_p22, List.forall_mem_cons.mpr ⟨lw_p23, List.forall_mem_cons.mpr ⟨lw_p24, List.forall_mem_cons.mpr ⟨lw_p25, List.forall_mem_cons.mpr ⟨lw_p26, List.forall_mem_cons.mpr ⟨lw_p27, List.forall_mem_cons.mpr ⟨lw_p28, List.forall_mem_cons.mpr ⟨lw_p29, List.forall_mem_cons.mpr ⟨lw_p30, List.forall_mem_cons.mpr ⟨lw_p31, fun _ h => absurd h List.not_mem_nil⟩⟩⟩⟩⟩⟩⟩⟩⟩⟩⟩⟩⟩⟩⟩⟩
theorem lw_p32 : lw_okq (⟨"SinkingChoir$Standing", "next", "()Z"⟩, 7) := ⟨⟨by decide +kernel, by decide +kernel⟩, List.mem_of_getElem? (i := 238) (by decide +kernel), List.mem_of_getElem? (i := 1040) (by decide +kernel), List.mem_of_getElem? (i := 1041) (by decide +kernel)⟩
theorem lw_p33 : lw_okq (⟨"SinkingChoir$Leading", "chart", "(II)V"⟩, 5) := ⟨⟨by decide +kernel, by decide +kernel⟩, List.mem_of_getElem? (i := 269) (by decide +kernel), List.mem_of_getElem? (i := 1057) (by decide +kernel), List.mem_of_getElem? (i := 1058) (by decide +kernel)⟩
theorem lw_p34 : lw_okq (⟨"SinkingChoir$Leading", "farthest", "(II)J"⟩, 5) := ⟨⟨by decide +kernel, by decide +kernel⟩, List.mem_of_getElem? (i := 269) (by decide +kernel), List.mem_of_getElem? (i := 1067) (by decide +kernel), List.mem_of_getElem? (i := 1068) (by decide +kernel)⟩
theorem lw_p35 : lw_okq (⟨"SinkingChoir$Leading", "consider", "(IJ)V"⟩, 5) := ⟨⟨by decide +kernel, by decide +kernel⟩, List.mem_of_getElem? (i := 269) (by decide +kernel), List.mem_of_getElem? (i := 1071) (by decide +kernel), List.mem_of_getElem? (i := 1072) (by decide +kernel)⟩
theorem lw_p36 : lw_okq (⟨"SinkingChoir$Fitting", "addBeat", "(II)V"⟩, 5) := ⟨⟨by decide +kernel, by decide +kernel⟩, List.mem_of_getElem? (i := 293) (by decide +kernel), List.mem_of_getElem? (i := 1110) (by decide +kernel), List.mem_of_getElem? (i := 1111) (by decide +kernel)⟩
theorem lw_p37 : lw_okq (⟨"SinkingChoir", "minded", "(III)J"⟩, 10) := ⟨⟨by decide +kernel, by decide +kernel⟩, List.mem_of_getElem? (i := 24) (by decide +kernel), List.mem_of_getElem? (i := 1134) (by decide +kernel), List.mem_of_getElem? (i := 1135) (by decide +kernel)⟩
theorem lw_p38 : lw_okq (⟨"SinkingChoir", "firstWrong", "(I)I"⟩, 10) := ⟨⟨by decide +kernel, by decide +kernel⟩, List.mem_of_getElem? (i := 24) (by decide +kernel), List.mem_of_getElem? (i := 1144) (by decide +kernel), List.mem_of_getElem? (i := 1145) (by decide +kernel)⟩
theorem lw_p39 : lw_okq (⟨"SinkingChoirModel", "falls", "(II)V"⟩, 71) := ⟨⟨by decide +kernel, by decide +kernel⟩, List.mem_of_getElem? (i := 1170) (by decide +kernel), List.mem_of_getElem? (i := 1435) (by decide +kernel), List.mem_of_getElem? (i := 1436) (by decide +kernel)⟩
theorem lw_p40 : lw_okq (⟨"SinkingChoirModel", "isHeld", "(II)Z"⟩, 71) := ⟨⟨by decide +kernel, by decide +kernel⟩, List.mem_of_getElem? (i := 1170) (by decide +kernel), List.mem_of_getElem? (i := 1439) (by decide +kernel), List.mem_of_getElem? (i := 1440) (by decide +kernel)⟩
theorem lw_p41 : lw_okq (⟨"SinkingChoirModel", "isNote", "(II)Z"⟩, 71) := ⟨⟨by decide +kernel, by decide +kernel⟩, List.mem_of_getElem? (i := 1170) (by decide +kernel), List.mem_of_getElem? (i := 1443) (by decide +kernel), List.mem_of_getElem? (i := 1444) (by decide +kernel)⟩
theorem lw_p42 : lw_okq (⟨"SinkingChoirModel", "keynoteOf", "(I)I"⟩, 71) := ⟨⟨by decide +kernel, by decide +kernel⟩, List.mem_of_getElem? (i := 1170) (by decide +kernel), List.mem_of_getElem? (i := 1464) (by decide +kernel), List.mem_of_getElem? (i := 1465) (by decide +kernel)⟩
theorem lw_p43 : lw_okq (⟨"SinkingChoirModel", "goesTo", "(I)V"⟩, 71) := ⟨⟨by decide +kernel, by decide +kernel⟩, List.mem_of_getElem? (i := 1170) (by decide +kernel), List.mem_of_getElem? (i := 1468) (by decide +kernel), List.mem_of_getElem? (i := 1469) (by decide +kernel)⟩
theorem lw_p44 : lw_okq (⟨"SinkingChoirModel", "leap", "([III)I"⟩, 71) := ⟨⟨by decide +kernel, by decide +kernel⟩, List.mem_of_getElem? (i := 1170) (by decide +kernel), List.mem_of_getElem? (i := 1472) (by decide +kernel), List.mem_of_getElem? (i := 1473) (by decide +kernel)⟩
theorem lw_p45 : lw_okq (⟨"SinkingChoirModel", "tornBy", "(III)I"⟩, 71) := ⟨⟨by decide +kernel, by decide +kernel⟩, List.mem_of_getElem? (i := 1170) (by decide +kernel), List.mem_of_getElem? (i := 1476) (by decide +kernel), List.mem_of_getElem? (i := 1477) (by decide +kernel)⟩
theorem lw_p46 : lw_okq (⟨"SinkingChoirModel", "sizeAt", "(II)I"⟩, 71) := ⟨⟨by decide +kernel, by decide +kernel⟩, List.mem_of_getElem? (i := 1170) (by decide +kernel), List.mem_of_getElem? (i := 1480) (by decide +kernel), List.mem_of_getElem? (i := 1481) (by decide +kernel)⟩
theorem lw_p47 : lw_okq (⟨"SinkingChoirModel", "lastBeat", "()I"⟩, 71) := ⟨⟨by decide +kernel, by decide +kernel⟩, List.mem_of_getElem? (i := 1170) (by decide +kernel), List.mem_of_getElem? (i := 1492) (by decide +kernel), List.mem_of_getElem? (i := 1493) (by decide +kernel)⟩
def lw_privs_3 : List (MethodName × Nat) := [(⟨"SinkingChoir$Standing", "next", "()Z"⟩, 7), (⟨"SinkingChoir$Leading", "chart", "(II)V"⟩, 5), (⟨"SinkingChoir$Leading", "farthest", "(II)J"⟩, 5), (⟨"SinkingChoir$Leading", "consider", "(IJ)V"⟩, 5), (⟨"SinkingChoir$Fitting", "addBeat", "(II)V"⟩, 5), (⟨"SinkingChoir", "minded", "(III)J"⟩, 10), (⟨"SinkingChoir", "firstWrong", "(I)I"⟩, 10), (⟨"SinkingChoirModel", "falls", "(II)V"⟩, 71), (⟨"SinkingChoirModel", "isHeld", "(II)Z"⟩, 71), (⟨"SinkingChoirModel", "isNote", "(II)Z"⟩, 71), (⟨"SinkingChoirModel", "keynoteOf", "(I)I"⟩, 71), (⟨"SinkingChoirModel", "goesTo", "(I)V"⟩, 71), (⟨"SinkingChoirModel", "leap", "([III)I"⟩, 71), (⟨"SinkingChoirModel", "tornBy", "(III)I"⟩, 71), (⟨"SinkingChoirModel", "sizeAt", "(II)I"⟩, 71), (⟨"SinkingChoirModel", "lastBeat", "()I"⟩, 71)]
theorem lw_r3 : ∀ q ∈ lw_privs_3, lw_okq q := List.forall_mem_cons.mpr ⟨lw_p32, List.forall_mem_cons.mpr ⟨lw_p33, List.forall_mem_cons.mpr ⟨lw_p34, List.forall_mem_cons.mpr ⟨lw_p35, List.forall_mem_cons.mpr ⟨lw_p36, List.forall_mem_cons.mpr ⟨lw_p37, List.forall_mem_cons.mpr ⟨lw_p38, List.forall_mem_cons.mpr ⟨lw_p39, List.forall_mem_cons.mpr ⟨lw_p40, List.forall_mem_cons.mpr ⟨lw_p41, List.forall_mem_cons.mpr ⟨lw_p42, List.forall_mem_cons.mpr ⟨lw_p43, List.forall_mem_cons.mpr ⟨lw_p44, List.forall_mem_cons.mpr ⟨lw_p45, List.forall_mem_cons.mpr ⟨lw_p46, List.forall_mem_cons.mpr ⟨lw_p47, fun _ h => absurd h List.not_mem_nil⟩⟩⟩⟩⟩⟩⟩⟩⟩⟩⟩⟩⟩⟩⟩⟩
theorem lw_p48 : lw_okq (⟨"SinkingChoirModel", "foulBy", "(II)J"⟩, 71) := ⟨⟨by decide +kernel, by decide +kernel⟩, List.mem_of_getElem? (i := 1170) (by decide +kernel), List.mem_of_getElem? (i := 1496) (by decide +kernel), List.mem_of_getElem? (i := 1497) (by decide +kernel)⟩
theorem lw_p49 : lw_okq (⟨"SinkingChoirModel", "rowOf", "(IZ)I"⟩, 71) := ⟨⟨by decide +kernel, by decide +kernel⟩, List.mem_of_getElem? (i := 1170) (by decide +kernel), List.mem_of_getElem? (i := 1507) (by decide +kernel), List.mem_of_getElem? (i := 1508) (by decide +kernel)⟩
theorem lw_p50 : lw_okq (⟨"SinkingChoirModel", "finds", "(IZ)Z"⟩, 71) := ⟨⟨by decide +kernel, by decide +kernel⟩, List.mem_of_getElem? (i := 1170) (by decide +kernel), List.mem_of_getElem? (i := 1511) (by decide +kernel), List.mem_of_getElem? (i := 1512) (by decide +kernel)⟩
theorem lw_p51 : lw_okq (⟨"SinkingChoirModel", "lays", "(I)Z"⟩, 71) := ⟨⟨by decide +kernel, by decide +kernel⟩, List.mem_of_getElem? (i := 1170) (by decide +kernel), List.mem_of_getElem? (i := 1515) (by decide +kernel), List.mem_of_getElem? (i := 1516) (by decide +kernel)⟩
theorem lw_p52 : lw_okq (⟨"SinkingChoirModel", "placeOf", "(IIII)I"⟩, 71) := ⟨⟨by decide +kernel, by decide +kernel⟩, List.mem_of_getElem? (i := 1170) (by decide +kernel), List.mem_of_getElem? (i := 1519) (by decide +kernel), List.mem_of_getElem? (i := 1520) (by decide +kernel)⟩
theorem lw_p53 : lw_okq (⟨"SinkingChoirModel", "mayLink", "(II)Z"⟩, 71) := ⟨⟨by decide +kernel, by decide +kernel⟩, List.mem_of_getElem? (i := 1170) (by decide +kernel), List.mem_of_getElem? (i := 1523) (by decide +kernel), List.mem_of_getElem? (i := 1524) (by decide +kernel)⟩
theorem lw_p54 : lw_okq (⟨"SinkingChoirModel", "nextOf", "(III)I"⟩, 71) := ⟨⟨by decide +kernel, by decide +kernel⟩, List.mem_of_getElem? (i := 1170) (by decide +kernel), List.mem_of_getElem? (i := 1527) (by decide +kernel), List.mem_of_getElem? (i := 1528) (by decide +kernel)⟩
theorem lw_p55 : lw_okq (⟨"SinkingChoirModel", "costBy", "(IIZ)J"⟩, 71) := ⟨⟨by decide +kernel, by decide +kernel⟩, List.mem_of_getElem? (i := 1170) (by decide +kernel), List.mem_of_getElem? (i := 1532) (by decide +kernel), List.mem_of_getElem? (i := 1533) (by decide +kernel)⟩
theorem lw_p56 : lw_okq (⟨"SinkingChoirModel", "isSinger", "(I)Z"⟩, 71) := ⟨⟨by decide +kernel, by decide +kernel⟩, List.mem_of_getElem? (i := 1170) (by decide +kernel), List.mem_of_getElem? (i := 1555) (by decide +kernel), List.mem_of_getElem? (i := 1556) (by decide +kernel)⟩
theorem lw_p57 : lw_okq (⟨"SinkingChoirModel", "push", "(I)V"⟩, 71) := ⟨⟨by decide +kernel, by decide +kernel⟩, List.mem_of_getElem? (i := 1170) (by decide +kernel), List.mem_of_getElem? (i := 1586) (by decide +kernel), List.mem_of_getElem? (i := 1587) (by decide +kernel)⟩
theorem lw_p58 : lw_okq (⟨"SinkingChoirModel", "isGood", "()Z"⟩, 71) := ⟨⟨by decide +kernel, by decide +kernel⟩, List.mem_of_getElem? (i := 1170) (by decide +kernel), List.mem_of_getElem? (i := 1595) (by decide +kernel), List.mem_of_getElem? (i := 1596) (by decide +kernel)⟩
theorem lw_p59 : lw_okq (⟨"SinkingChoirModel", "clause", "()V"⟩, 71) := ⟨⟨by decide +kernel, by decide +kernel⟩, List.mem_of_getElem? (i := 1170) (by decide +kernel), List.mem_of_getElem? (i := 1599) (by decide +kernel), List.mem_of_getElem? (i := 1600) (by decide +kernel)⟩
theorem lw_p60 : lw_okq (⟨"SinkingChoirModel", "here", "()I"⟩, 71) := ⟨⟨by decide +kernel, by decide +kernel⟩, List.mem_of_getElem? (i := 1170) (by decide +kernel), List.mem_of_getElem? (i := 1603) (by decide +kernel), List.mem_of_getElem? (i := 1604) (by decide +kernel)⟩
theorem lw_p61 : lw_okq (⟨"SinkingChoirModel", "wrongs", "(II)V"⟩, 71) := ⟨⟨by decide +kernel, by decide +kernel⟩, List.mem_of_getElem? (i := 1170) (by decide +kernel), List.mem_of_getElem? (i := 1607) (by decide +kernel), List.mem_of_getElem? (i := 1608) (by decide +kernel)⟩
theorem lw_p62 : lw_okq (⟨"SinkingChoirModel", "value", "()V"⟩, 71) := ⟨⟨by decide +kernel, by decide +kernel⟩, List.mem_of_getElem? (i := 1170) (by decide +kernel), List.mem_of_getElem? (i := 1611) (by decide +kernel), List.mem_of_getElem? (i := 1612) (by decide +kernel)⟩
theorem lw_p63 : lw_okq (⟨"SinkingChoirModel", "factor", "()V"⟩, 71) := ⟨⟨by decide +kernel, by decide +kernel⟩, List.mem_of_getElem? (i := 1170) (by decide +kernel), List.mem_of_getElem? (i := 1615) (by decide +kernel), List.mem_of_getElem? (i := 1616) (by decide +kernel)⟩
def lw_privs_4 : List (MethodName × Nat) := [(⟨"SinkingChoirModel", "foulBy", "(II)J"⟩, 71), (⟨"SinkingChoirModel", "rowOf", "(IZ)I"⟩, 71), (⟨"SinkingChoirModel", "finds", "(IZ)Z"⟩, 71), (⟨"SinkingChoirModel", "lays", "(I)Z"⟩, 71), (⟨"SinkingChoirModel", "placeOf", "(IIII)I"⟩, 71), (⟨"SinkingChoirModel", "mayLink", "(II)Z"⟩, 71), (⟨"SinkingChoirModel", "nextOf", "(III)I"⟩, 71), (⟨"SinkingChoirModel", "costBy", "(IIZ)J"⟩, 71), (⟨"SinkingChoirModel", "isSinger", "(I)Z"⟩, 71), (⟨"SinkingChoirModel", "push", "(I)V"⟩, 71), (⟨"SinkingChoirModel", "isGood", "()Z"⟩, 71), (⟨"SinkingChoirModel", "clause", "()V"⟩, 71), (⟨"SinkingChoirModel", "here", "()I"⟩, 71), (⟨"SinkingChoirModel", "wrongs", "(II)V"⟩, 71), (⟨"SinkingChoirModel", "value", "()V"⟩, 71), (⟨"SinkingChoirModel", "factor", "()V"⟩, 71)]
theorem lw_r4 : ∀ q ∈ lw_privs_4, lw_okq q := List.forall_mem_cons.mpr ⟨lw_p48, List.forall_mem_cons.mpr ⟨lw_p49, List.forall_mem_cons.mpr ⟨lw_p50, List.forall_mem_cons.mpr ⟨lw_p51, List.forall_mem_cons.mpr ⟨lw_p52, List.forall_mem_cons.mpr ⟨lw_p53, List.forall_mem_cons.mpr ⟨lw_p54, List.forall_mem_cons.mpr ⟨lw_p55, List.forall_mem_cons.mpr ⟨lw_p56, List.forall_mem_cons.mpr ⟨lw_p57, List.forall_mem_cons.mpr ⟨lw_p58, List.forall_mem_cons.mpr ⟨lw_p59, List.forall_mem_cons.mpr ⟨lw_p60, List.forall_mem_cons.mpr ⟨lw_p61, List.forall_mem_cons.mpr ⟨lw_p62, List.forall_mem_cons.mpr ⟨lw_p63, fun _ h => absurd h List.not_mem_nil⟩⟩⟩⟩⟩⟩⟩⟩⟩⟩⟩⟩⟩⟩⟩⟩
theorem lw_p64 : lw_okq (⟨"SinkingChoirModel", "opens", "()V"⟩, 71) := ⟨⟨by decide +kernel, by decide +kernel⟩, List.mem_of_getElem? (i := 1170) (by decide +kernel), List.mem_of_getElem? (i := 1619) (by decide +kernel), List.mem_of_getElem? (i := 1620) (by decide +kernel)⟩
theorem lw_p65 : lw_okq (⟨"SinkingChoirModel", "puts", "(I)V"⟩, 71) := ⟨⟨by decide +kernel, by decide +kernel⟩, List.mem_of_getElem? (i := 1170) (by decide +kernel), List.mem_of_getElem? (i := 1623) (by decide +kernel), List.mem_of_getElem? (i := 1624) (by decide +kernel)⟩
theorem lw_p66 : lw_okq (⟨"SinkingChoirModel", "seesDigit", "()Z"⟩, 71) := ⟨⟨by decide +kernel, by decide +kernel⟩, List.mem_of_getElem? (i := 1170) (by decide +kernel), List.mem_of_getElem? (i := 1627) (by decide +kernel), List.mem_of_getElem? (i := 1628) (by decide +kernel)⟩
theorem lw_p67 : lw_okq (⟨"SinkingChoirModel", "reads", "()I"⟩, 71) := ⟨⟨by decide +kernel, by decide +kernel⟩, List.mem_of_getElem? (i := 1170) (by decide +kernel), List.mem_of_getElem? (i := 1633) (by decide +kernel), List.mem_of_getElem? (i := 1634) (by decide +kernel)⟩
theorem lw_p68 : lw_okq (⟨"SinkingChoirModel", "emit", "(II)V"⟩, 71) := ⟨⟨by decide +kernel, by decide +kernel⟩, List.mem_of_getElem? (i := 1170) (by decide +kernel), List.mem_of_getElem? (i := 1637) (by decide +kernel), List.mem_of_getElem? (i := 1638) (by decide +kernel)⟩
theorem lw_p69 : lw_okq (⟨"SinkingChoirModel", "stays", "()Z"⟩, 71) := ⟨⟨by decide +kernel, by decide +kernel⟩, List.mem_of_getElem? (i := 1170) (by decide +kernel), List.mem_of_getElem? (i := 1644) (by decide +kernel), List.mem_of_getElem? (i := 1645) (by decide +kernel)⟩
theorem lw_p70 : lw_okq (⟨"SinkingChoirModel", "sums", "(Z)V"⟩, 71) := ⟨⟨by decide +kernel, by decide +kernel⟩, List.mem_of_getElem? (i := 1170) (by decide +kernel), List.mem_of_getElem? (i := 1654) (by decide +kernel), List.mem_of_getElem? (i := 1655) (by decide +kernel)⟩
theorem lw_p71 : lw_okq (⟨"SinkingChoirModel", "top", "()I"⟩, 71) := ⟨⟨by decide +kernel, by decide +kernel⟩, List.mem_of_getElem? (i := 1170) (by decide +kernel), List.mem_of_getElem? (i := 1658) (by decide +kernel), List.mem_of_getElem? (i := 1659) (by decide +kernel)⟩
theorem lw_p72 : lw_okq (⟨"SinkingChoirModel", "condition", "()V"⟩, 71) := ⟨⟨by decide +kernel, by decide +kernel⟩, List.mem_of_getElem? (i := 1170) (by decide +kernel), List.mem_of_getElem? (i := 1662) (by decide +kernel), List.mem_of_getElem? (i := 1663) (by decide +kernel)⟩
theorem lw_p73 : lw_okq (⟨"SinkingChoirModel", "pieceOfC", "()V"⟩, 71) := ⟨⟨by decide +kernel, by decide +kernel⟩, List.mem_of_getElem? (i := 1170) (by decide +kernel), List.mem_of_getElem? (i := 1666) (by decide +kernel), List.mem_of_getElem? (i := 1667) (by decide +kernel)⟩
theorem lw_p74 : lw_okq (⟨"SinkingChoirModel", "ends", "()V"⟩, 71) := ⟨⟨by decide +kernel, by decide +kernel⟩, List.mem_of_getElem? (i := 1170) (by decide +kernel), List.mem_of_getElem? (i := 1673) (by decide +kernel), List.mem_of_getElem? (i := 1674) (by decide +kernel)⟩
theorem lw_p75 : lw_okq (⟨"SinkingChoirModel", "goesBehind", "()Z"⟩, 71) := ⟨⟨by decide +kernel, by decide +kernel⟩, List.mem_of_getElem? (i := 1170) (by decide +kernel), List.mem_of_getElem? (i := 1677) (by decide +kernel), List.mem_of_getElem? (i := 1678) (by decide +kernel)⟩
theorem lw_p76 : lw_okq (⟨"SinkingChoirModel", "joins", "(Z)V"⟩, 71) := ⟨⟨by decide +kernel, by decide +kernel⟩, List.mem_of_getElem? (i := 1170) (by decide +kernel), List.mem_of_getElem? (i := 1681) (by decide +kernel), List.mem_of_getElem? (i := 1682) (by decide +kernel)⟩
theorem lw_p77 : lw_okq (⟨"SinkingChoirModel", "sings", "(II)Z"⟩, 71) := ⟨⟨by decide +kernel, by decide +kernel⟩, List.mem_of_getElem? (i := 1170) (by decide +kernel), List.mem_of_getElem? (i := 1689) (by decide +kernel), List.mem_of_getElem? (i := 1690) (by decide +kernel)⟩
theorem lw_p78 : lw_okq (⟨"SinkingChoirModel", "plainly", "()V"⟩, 71) := ⟨⟨by decide +kernel, by decide +kernel⟩, List.mem_of_getElem? (i := 1170) (by decide +kernel), List.mem_of_getElem? (i := 1693) (by decide +kernel), List.mem_of_getElem? (i := 1694) (by decide +kernel)⟩
theorem lw_p79 : lw_okq (⟨"SinkingChoirModel", "readies", "()V"⟩, 71) := ⟨⟨by decide +kernel, by decide +kernel⟩, List.mem_of_getElem? (i := 1170) (by decide +kernel), List.mem_of_getElem? (i := 1697) (by decide +kernel), List.mem_of_getElem? (i := 1698) (by decide +kernel)⟩
def lw_privs_5 : List (MethodName × Nat) := [(⟨"SinkingChoirModel", "opens", "()V"⟩, 71), (⟨"SinkingChoirModel", "puts", "(I)V"⟩, 71), (⟨"SinkingChoirModel", "seesDigit", "()Z"⟩, 71), (⟨"SinkingChoirModel", "reads", "()I"⟩, 71), (⟨"SinkingChoirModel", "emit", "(II)V"⟩, 71), (⟨"SinkingChoirModel", "stays", "()Z"⟩, 71), (⟨"SinkingChoirModel", "sums", "(Z)V"⟩, 71), (⟨"SinkingChoirModel", "top", "()I"⟩, 71), (⟨"SinkingChoirModel", "condition", "()V"⟩, 71), (⟨"SinkingChoirModel", "pieceOfC", "()V"⟩, 71), (⟨"SinkingChoirModel", "ends", "()V"⟩, 71), (⟨"SinkingChoirModel", "goesBehind", "()Z"⟩, 71), (⟨"SinkingChoirModel", "joins", "(Z)V"⟩, 71), (⟨"SinkingChoirModel", "sings", "(II)Z"⟩, 71), (⟨"SinkingChoirModel", "plainly", "()V"⟩, 71), (⟨"SinkingChoirModel", "readies", "()V"⟩, 71)]
theorem lw_r5 : ∀ q ∈ lw_privs_5, lw_okq q := List.forall_mem_cons.mpr ⟨lw_p64, List.forall_mem_cons.mpr ⟨lw_p65, List.forall_mem_cons.mpr ⟨lw_p66, List.forall_mem_cons.mpr ⟨lw_p67, List.forall_mem_cons.mpr ⟨lw_p68, List.forall_mem_cons.mpr ⟨lw_p69, List.forall_mem_cons.mpr ⟨lw_p70, List.forall_mem_cons.mpr ⟨lw_p71, List.forall_mem_cons.mpr ⟨lw_p72, List.forall_mem_cons.mpr ⟨lw_p73, List.forall_mem_cons.mpr ⟨lw_p74, List.forall_mem_cons.mpr ⟨lw_p75, List.forall_mem_cons.mpr ⟨lw_p76, List.forall_mem_cons.mpr ⟨lw_p77, List.forall_mem_cons.mpr ⟨lw_p78, List.forall_mem_cons.mpr ⟨lw_p79, fun _ h => absurd h List.not_mem_nil⟩⟩⟩⟩⟩⟩⟩⟩⟩⟩⟩⟩⟩⟩⟩⟩
theorem lw_p80 : lw_okq (⟨"SinkingChoirModel", "isSung", "()V"⟩, 71) := ⟨⟨by decide +kernel, by decide +kernel⟩, List.mem_of_getElem? (i := 1170) (by decide +kernel), List.mem_of_getElem? (i := 1701) (by decide +kernel), List.mem_of_getElem? (i := 1702) (by decide +kernel)⟩
theorem lw_p81 : lw_okq (⟨"SinkingChoirModel", "keyOf", "(II)I"⟩, 71) := ⟨⟨by decide +kernel, by decide +kernel⟩, List.mem_of_getElem? (i := 1170) (by decide +kernel), List.mem_of_getElem? (i := 1708) (by decide +kernel), List.mem_of_getElem? (i := 1709) (by decide +kernel)⟩
theorem lw_p82 : lw_okq (⟨"SinkingChoirModel", "tableOf", "(I)I"⟩, 71) := ⟨⟨by decide +kernel, by decide +kernel⟩, List.mem_of_getElem? (i := 1170) (by decide +kernel), List.mem_of_getElem? (i := 1712) (by decide +kernel), List.mem_of_getElem? (i := 1713) (by decide +kernel)⟩
theorem lw_p83 : lw_okq (⟨"SinkingChoirModel", "singsNote", "(II)V"⟩, 71) := ⟨⟨by decide +kernel, by decide +kernel⟩, List.mem_of_getElem? (i := 1170) (by decide +kernel), List.mem_of_getElem? (i := 1717) (by decide +kernel), List.mem_of_getElem? (i := 1718) (by decide +kernel)⟩
theorem lw_p84 : lw_okq (⟨"SinkingChoirModel", "listens", "(II)V"⟩, 71) := ⟨⟨by decide +kernel, by decide +kernel⟩, List.mem_of_getElem? (i := 1170) (by decide +kernel), List.mem_of_getElem? (i := 1722) (by decide +kernel), List.mem_of_getElem? (i := 1723) (by decide +kernel)⟩
theorem lw_p85 : lw_okq (⟨"SinkingChoirModel", "hearsOf", "(II)I"⟩, 71) := ⟨⟨by decide +kernel, by decide +kernel⟩, List.mem_of_getElem? (i := 1170) (by decide +kernel), List.mem_of_getElem? (i := 1726) (by decide +kernel), List.mem_of_getElem? (i := 1727) (by decide +kernel)⟩
theorem lw_p86 : lw_okq (⟨"SinkingChoirModel", "sizeFor", "(II)I"⟩, 71) := ⟨⟨by decide +kernel, by decide +kernel⟩, List.mem_of_getElem? (i := 1170) (by decide +kernel), List.mem_of_getElem? (i := 1730) (by decide +kernel), List.mem_of_getElem? (i := 1731) (by decide +kernel)⟩
theorem lw_p87 : lw_okq (⟨"SinkingChoirModel", "tells", "(III)I"⟩, 71) := ⟨⟨by decide +kernel, by decide +kernel⟩, List.mem_of_getElem? (i := 1170) (by decide +kernel), List.mem_of_getElem? (i := 1737) (by decide +kernel), List.mem_of_getElem? (i := 1738) (by decide +kernel)⟩
theorem lw_p88 : lw_okq (⟨"SinkingChoirModel", "works", "(II)V"⟩, 71) := ⟨⟨by decide +kernel, by decide +kernel⟩, List.mem_of_getElem? (i := 1170) (by decide +kernel), List.mem_of_getElem? (i := 1741) (by decide +kernel), List.mem_of_getElem? (i := 1742) (by decide +kernel)⟩
theorem lw_p89 : lw_okq (⟨"SinkingChoirModel", "does", "(II)V"⟩, 71) := ⟨⟨by decide +kernel, by decide +kernel⟩, List.mem_of_getElem? (i := 1170) (by decide +kernel), List.mem_of_getElem? (i := 1745) (by decide +kernel), List.mem_of_getElem? (i := 1746) (by decide +kernel)⟩
theorem lw_p90 : lw_okq (⟨"SinkingChoirModel", "valueOf", "(I)I"⟩, 71) := ⟨⟨by decide +kernel, by decide +kernel⟩, List.mem_of_getElem? (i := 1170) (by decide +kernel), List.mem_of_getElem? (i := 1752) (by decide +kernel), List.mem_of_getElem? (i := 1753) (by decide +kernel)⟩
theorem lw_p91 : lw_okq (⟨"SinkingChoirModel", "leapOf", "()I"⟩, 71) := ⟨⟨by decide +kernel, by decide +kernel⟩, List.mem_of_getElem? (i := 1170) (by decide +kernel), List.mem_of_getElem? (i := 1756) (by decide +kernel), List.mem_of_getElem? (i := 1757) (by decide +kernel)⟩
theorem lw_p92 : lw_okq (⟨"SinkingChoirModel", "singing", "(I)I"⟩, 71) := ⟨⟨by decide +kernel, by decide +kernel⟩, List.mem_of_getElem? (i := 1170) (by decide +kernel), List.mem_of_getElem? (i := 1760) (by decide +kernel), List.mem_of_getElem? (i := 1761) (by decide +kernel)⟩
theorem lw_p93 : lw_okq (⟨"SinkingChoirModel", "aimOf", "(IIJJJJ)J"⟩, 71) := ⟨⟨by decide +kernel, by decide +kernel⟩, List.mem_of_getElem? (i := 1170) (by decide +kernel), List.mem_of_getElem? (i := 1765) (by decide +kernel), List.mem_of_getElem? (i := 1766) (by decide +kernel)⟩
theorem lw_p94 : lw_okq (⟨"SinkingChoirModel", "offOf", "(I)J"⟩, 71) := ⟨⟨by decide +kernel, by decide +kernel⟩, List.mem_of_getElem? (i := 1170) (by decide +kernel), List.mem_of_getElem? (i := 1775) (by decide +kernel), List.mem_of_getElem? (i := 1776) (by decide +kernel)⟩
theorem lw_p95 : lw_okq (⟨"SinkingChoirModel", "foulOf", "(I)J"⟩, 71) := ⟨⟨by decide +kernel, by decide +kernel⟩, List.mem_of_getElem? (i := 1170) (by decide +kernel), List.mem_of_getElem? (i := 1779) (by decide +kernel), List.mem_of_getElem? (i := 1780) (by decide +kernel)⟩
def lw_privs_6 : List (MethodName × Nat) := [(⟨"SinkingChoirModel", "isSung", "()V"⟩, 71), (⟨"SinkingChoirModel", "keyOf", "(II)I"⟩, 71), (⟨"SinkingChoirModel", "tableOf", "(I)I"⟩, 71), (⟨"SinkingChoirModel", "singsNote", "(II)V"⟩, 71), (⟨"SinkingChoirModel", "listens", "(II)V"⟩, 71), (⟨"SinkingChoirModel", "hearsOf", "(II)I"⟩, 71), (⟨"SinkingChoirModel", "sizeFor", "(II)I"⟩, 71), (⟨"SinkingChoirModel", "tells", "(III)I"⟩, 71), (⟨"SinkingChoirModel", "works", "(II)V"⟩, 71), (⟨"SinkingChoirModel", "does", "(II)V"⟩, 71), (⟨"SinkingChoirModel", "valueOf", "(I)I"⟩, 71), (⟨"SinkingChoirModel", "leapOf", "()I"⟩, 71), (⟨"SinkingChoirModel", "singing", "(I)I"⟩, 71), (⟨"SinkingChoirModel", "aimOf", "(IIJJJJ)J"⟩, 71), (⟨"SinkingChoirModel", "offOf", "(I)J"⟩, 71), (⟨"SinkingChoirModel", "foulOf", "(I)J"⟩, 71)]
theorem lw_r6 : ∀ q ∈ lw_privs_6, lw_okq q := List.forall_mem_cons.mpr ⟨lw_p80, List.forall_mem_cons.mpr ⟨lw_p81, List.forall_mem_cons.mpr ⟨lw_p82, List.forall_mem_cons.mpr ⟨lw_p83, List.forall_mem_cons.mpr ⟨lw_p84, List.forall_mem_cons.mpr ⟨lw_p85, List.forall_mem_cons.mpr ⟨lw_p86, List.forall_mem_cons.mpr ⟨lw_p87, List.forall_mem_cons.mpr ⟨lw_p88, List.forall_mem_cons.mpr ⟨lw_p89, List.forall_mem_cons.mpr ⟨lw_p90, List.forall_mem_cons.mpr ⟨lw_p91, List.forall_mem_cons.mpr ⟨lw_p92, List.forall_mem_cons.mpr ⟨lw_p93, List.forall_mem_cons.mpr ⟨lw_p94, List.forall_mem_cons.mpr ⟨lw_p95, fun _ h => absurd h List.not_mem_nil⟩⟩⟩⟩⟩⟩⟩⟩⟩⟩⟩⟩⟩⟩⟩⟩
theorem lw_p96 : lw_okq (⟨"SinkingChoirModel", "tableFoul", "(I)J"⟩, 71) := ⟨⟨by decide +kernel, by decide +kernel⟩, List.mem_of_getElem? (i := 1170) (by decide +kernel), List.mem_of_getElem? (i := 1783) (by decide +kernel), List.mem_of_getElem? (i := 1784) (by decide +kernel)⟩
theorem lw_p97 : lw_okq (⟨"SinkingChoirModel", "firstSung", "()I"⟩, 71) := ⟨⟨by decide +kernel, by decide +kernel⟩, List.mem_of_getElem? (i := 1170) (by decide +kernel), List.mem_of_getElem? (i := 1791) (by decide +kernel), List.mem_of_getElem? (i := 1792) (by decide +kernel)⟩
theorem lw_p98 : lw_okq (⟨"SinkingChoirModel", "sunkNow", "()J"⟩, 71) := ⟨⟨by decide +kernel, by decide +kernel⟩, List.mem_of_getElem? (i := 1170) (by decide +kernel), List.mem_of_getElem? (i := 1796) (by decide +kernel), List.mem_of_getElem? (i := 1797) (by decide +kernel)⟩
theorem lw_p99 : lw_okq (⟨"SinkingChoirModel", "lastSung", "()I"⟩, 71) := ⟨⟨by decide +kernel, by decide +kernel⟩, List.mem_of_getElem? (i := 1170) (by decide +kernel), List.mem_of_getElem? (i := 1800) (by decide +kernel), List.mem_of_getElem? (i := 1801) (by decide +kernel)⟩
theorem lw_p100 : lw_okq (⟨"SinkingChoirModel", "sungMany", "()I"⟩, 71) := ⟨⟨by decide +kernel, by decide +kernel⟩, List.mem_of_getElem? (i := 1170) (by decide +kernel), List.mem_of_getElem? (i := 1804) (by decide +kernel), List.mem_of_getElem? (i := 1805) (by decide +kernel)⟩
theorem lw_p101 : lw_okq (⟨"SinkingChoirModel", "allFoul", "()J"⟩, 71) := ⟨⟨by decide +kernel, by decide +kernel⟩, List.mem_of_getElem? (i := 1170) (by decide +kernel), List.mem_of_getElem? (i := 1808) (by decide +kernel), List.mem_of_getElem? (i := 1809) (by decide +kernel)⟩
theorem lw_p102 : lw_okq (⟨"SinkingChoirModel", "swaps", "(II)V"⟩, 71) := ⟨⟨by decide +kernel, by decide +kernel⟩, List.mem_of_getElem? (i := 1170) (by decide +kernel), List.mem_of_getElem? (i := 1821) (by decide +kernel), List.mem_of_getElem? (i := 1822) (by decide +kernel)⟩
theorem lw_p103 : lw_okq (⟨"SinkingChoirModel", "stepsOn", "()Z"⟩, 71) := ⟨⟨by decide +kernel, by decide +kernel⟩, List.mem_of_getElem? (i := 1170) (by decide +kernel), List.mem_of_getElem? (i := 1825) (by decide +kernel), List.mem_of_getElem? (i := 1826) (by decide +kernel)⟩
theorem lw_p104 : lw_okq (⟨"SinkingChoirModel", "farthest", "()J"⟩, 71) := ⟨⟨by decide +kernel, by decide +kernel⟩, List.mem_of_getElem? (i := 1170) (by decide +kernel), List.mem_of_getElem? (i := 1835) (by decide +kernel), List.mem_of_getElem? (i := 1836) (by decide +kernel)⟩
theorem lw_p105 : lw_okq (⟨"SinkingChoirModel", "isTaped", "(II)Z"⟩, 71) := ⟨⟨by decide +kernel, by decide +kernel⟩, List.mem_of_getElem? (i := 1170) (by decide +kernel), List.mem_of_getElem? (i := 1857) (by decide +kernel), List.mem_of_getElem? (i := 1858) (by decide +kernel)⟩
theorem lw_p106 : lw_okq (⟨"SinkingChoirModel", "differs", "(IIII)J"⟩, 71) := ⟨⟨by decide +kernel, by decide +kernel⟩, List.mem_of_getElem? (i := 1170) (by decide +kernel), List.mem_of_getElem? (i := 1861) (by decide +kernel), List.mem_of_getElem? (i := 1862) (by decide +kernel)⟩
theorem lw_p107 : lw_okq (⟨"SinkingChoirModel", "minds", "(II)J"⟩, 71) := ⟨⟨by decide +kernel, by decide +kernel⟩, List.mem_of_getElem? (i := 1170) (by decide +kernel), List.mem_of_getElem? (i := 1871) (by decide +kernel), List.mem_of_getElem? (i := 1872) (by decide +kernel)⟩
theorem lw_p108 : lw_okq (⟨"SinkingChoirModel", "numberAt", "(I)I"⟩, 71) := ⟨⟨by decide +kernel, by decide +kernel⟩, List.mem_of_getElem? (i := 1170) (by decide +kernel), List.mem_of_getElem? (i := 1879) (by decide +kernel), List.mem_of_getElem? (i := 1880) (by decide +kernel)⟩
def lw_privs_7 : List (MethodName × Nat) := [(⟨"SinkingChoirModel", "tableFoul", "(I)J"⟩, 71), (⟨"SinkingChoirModel", "firstSung", "()I"⟩, 71), (⟨"SinkingChoirModel", "sunkNow", "()J"⟩, 71), (⟨"SinkingChoirModel", "lastSung", "()I"⟩, 71), (⟨"SinkingChoirModel", "sungMany", "()I"⟩, 71), (⟨"SinkingChoirModel", "allFoul", "()J"⟩, 71), (⟨"SinkingChoirModel", "swaps", "(II)V"⟩, 71), (⟨"SinkingChoirModel", "stepsOn", "()Z"⟩, 71), (⟨"SinkingChoirModel", "farthest", "()J"⟩, 71), (⟨"SinkingChoirModel", "isTaped", "(II)Z"⟩, 71), (⟨"SinkingChoirModel", "differs", "(IIII)J"⟩, 71), (⟨"SinkingChoirModel", "minds", "(II)J"⟩, 71), (⟨"SinkingChoirModel", "numberAt", "(I)I"⟩, 71)]
theorem lw_r7 : ∀ q ∈ lw_privs_7, lw_okq q := List.forall_mem_cons.mpr ⟨lw_p96, List.forall_mem_cons.mpr ⟨lw_p97, List.forall_mem_cons.mpr ⟨lw_p98, List.forall_mem_cons.mpr ⟨lw_p99, List.forall_mem_cons.mpr ⟨lw_p100, List.forall_mem_cons.mpr ⟨lw_p101, List.forall_mem_cons.mpr ⟨lw_p102, List.forall_mem_cons.mpr ⟨lw_p103, List.forall_mem_cons.mpr ⟨lw_p104, List.forall_mem_cons.mpr ⟨lw_p105, List.forall_mem_cons.mpr ⟨lw_p106, List.forall_mem_cons.mpr ⟨lw_p107, List.forall_mem_cons.mpr ⟨lw_p108, fun _ h => absurd h List.not_mem_nil⟩⟩⟩⟩⟩⟩⟩⟩⟩⟩⟩⟩⟩
def lw_privs : List (MethodName × Nat) := lw_privs_1 ++ (lw_privs_2 ++ (lw_privs_3 ++ (lw_privs_4 ++ (lw_privs_5 ++ (lw_privs_6 ++ (lw_privs_7))))))
def lw_tbl : List Cond := k2_sels lw_privs ++ tables_1
theorem lw_privs_ok : ∀ q ∈ lw_privs, lw_okq q := by
  show ∀ q ∈ lw_privs_1 ++ (lw_privs_2 ++ (lw_privs_3 ++ (lw_privs_4 ++ (lw_privs_5 ++ (lw_privs_6 ++ (lw_privs_7)))))), lw_okq q
  exact List.forall_mem_append.mpr ⟨lw_r1, List.forall_mem_append.mpr ⟨lw_r2, List.forall_mem_append.mpr ⟨lw_r3, List.forall_mem_append.mpr ⟨lw_r4, List.forall_mem_append.mpr ⟨lw_r5, List.forall_mem_append.mpr ⟨lw_r6, lw_r7⟩⟩⟩⟩⟩⟩
/-! the words that stay, as one list -/
def tb : List Cond := lw_tbl.filter goodWord
theorem mem_tb (i : Nat) {w : Cond} (h : lw_tbl[i]? = some w) (g : goodWord w = true) : w ∈ tb := List.mem_filter.mpr ⟨List.mem_of_getElem? h, g⟩
theorem tb_good : GoodIn tb tb := fun w h => ⟨h, good_of_word (List.mem_filter.mp h).2⟩
theorem tb_sub {w : Cond} (h : w ∈ tb) : w ∈ lw_tbl := (List.mem_filter.mp h).1
def R0 : String := "SinkingChoir"
def T0 : u_T := fun k => match k with
  | 0 => ("SinkingChoir", "score", "LSinkingChoir$Score;", true)
  | 1 => ("SinkingChoir", "choir", "LSinkingChoir$Choir;", true)
  | 2 => ("SinkingChoir", "singing", "LSinkingChoir$Singing;", true)
  | 3 => ("SinkingChoir", "best", "LSinkingChoir$Standing;", true)
  | 4 => ("SinkingChoir", "leading", "LSinkingChoir$Leading;", true)
  | 5 => ("SinkingChoir", "fitting", "LSinkingChoir$Fitting;", true)
  | 6 => ("SinkingChoir", "reel", "LSinkingChoir$Reel;", true)
  | 7 => ("SinkingChoir", "reader", "LSinkingChoir$Reader;", true)
  | 8 => ("SinkingChoir", "ways", "LSinkingChoir$Ways;", false)
  | _ => ("SinkingChoir", "changes", "I", false)
def ty0 : Nat → FieldType := fun k => match k with
  | 0 => .object "SinkingChoir$Score"
  | 1 => .object "SinkingChoir$Choir"
  | 2 => .object "SinkingChoir$Singing"
  | 3 => .object "SinkingChoir$Standing"
  | 4 => .object "SinkingChoir$Leading"
  | 5 => .object "SinkingChoir$Fitting"
  | 6 => .object "SinkingChoir$Reel"
  | 7 => .object "SinkingChoir$Reader"
  | 8 => .object "SinkingChoir$Ways"
  | _ => .int
def R1 : String := "SinkingChoirModel"
def T1 : u_T := fun k => match k with
  | 0 => ("SinkingChoirModel", "tape", "[B", true)
  | 1 => ("SinkingChoirModel", "taped", "I", false)
  | 2 => ("SinkingChoirModel", "key", "[I", true)
  | 3 => ("SinkingChoirModel", "two", "[I", true)
  | 4 => ("SinkingChoirModel", "three", "[I", true)
  | 5 => ("SinkingChoirModel", "five", "[I", true)
  | 6 => ("SinkingChoirModel", "breathes", "[Z", true)
  | 7 => ("SinkingChoirModel", "linkOf", "[I", true)
  | 8 => ("SinkingChoirModel", "noteTwo", "I", false)
  | 9 => ("SinkingChoirModel", "noteThree", "I", false)
  | 10 => ("SinkingChoirModel", "noteFive", "I", false)
  | 11 => ("SinkingChoirModel", "many", "[I", true)
  | 12 => ("SinkingChoirModel", "stateTwo", "[I", true)
  | 13 => ("SinkingChoirModel", "stateThree", "[I", true)
  | 14 => ("SinkingChoirModel", "stateFive", "[I", true)
  | 15 => ("SinkingChoirModel", "cost", "[J", true)
  | 16 => ("SinkingChoirModel", "row", "[I", true)
  | 17 => ("SinkingChoirModel", "rowCost", "J", false)
  | 18 => ("SinkingChoirModel", "singers", "I", false)
  | 19 => ("SinkingChoirModel", "seed", "I", false)
  | 20 => ("SinkingChoirModel", "blow", "I", false)
  | 21 => ("SinkingChoirModel", "givenAt", "I", false)
  | 22 => ("SinkingChoirModel", "voiceOf", "[I", true)
  | 23 => ("SinkingChoirModel", "placeAt", "[I", true)
  | 24 => ("SinkingChoirModel", "loudOf", "[I", true)
  | 25 => ("SinkingChoirModel", "knowsOf", "[I", true)
  | 26 => ("SinkingChoirModel", "told", "[I", true)
  | 27 => ("SinkingChoirModel", "clauseMany", "I", false)
  | 28 => ("SinkingChoirModel", "clauseLetter", "[I", true)
  | 29 => ("SinkingChoirModel", "sumFrom", "[I", true)
  | 30 => ("SinkingChoirModel", "codeFrom", "[I", true)
  | 31 => ("SinkingChoirModel", "codeTo", "[I", true)
  | 32 => ("SinkingChoirModel", "code", "[I", true)
  | 33 => ("SinkingChoirModel", "codeArg", "[I", true)
  | 34 => ("SinkingChoirModel", "newLetter", "[I", true)
  | 35 => ("SinkingChoirModel", "newSum", "[I", true)
  | 36 => ("SinkingChoirModel", "newFrom", "[I", true)
  | 37 => ("SinkingChoirModel", "newTo", "[I", true)
  | 38 => ("SinkingChoirModel", "newCode", "[I", true)
  | 39 => ("SinkingChoirModel", "newArg", "[I", true)
  | 40 => ("SinkingChoirModel", "place", "I", false)
  | 41 => ("SinkingChoirModel", "end", "I", false)
  | 42 => ("SinkingChoirModel", "bad", "I", false)
  | 43 => ("SinkingChoirModel", "clauses", "I", false)
  | 44 => ("SinkingChoirModel", "codes", "I", false)
  | 45 => ("SinkingChoirModel", "open", "I", false)
  | 46 => ("SinkingChoirModel", "stacked", "I", false)
  | 47 => ("SinkingChoirModel", "isOver", "Z", false)
  | 48 => ("SinkingChoirModel", "isBehind", "Z", false)
  | 49 => ("SinkingChoirModel", "stack", "[I", true)
  | 50 => ("SinkingChoirModel", "atPlace", "[I", true)
  | 51 => ("SinkingChoirModel", "knowing", "[I", true)
  | 52 => ("SinkingChoirModel", "giving", "I", false)
  | 53 => ("SinkingChoirModel", "turn", "I", false)
  | 54 => ("SinkingChoirModel", "pitchOf", "[I", true)
  | 55 => ("SinkingChoirModel", "lastPitch", "[I", true)
  | 56 => ("SinkingChoirModel", "lastBeatOf", "[I", true)
  | 57 => ("SinkingChoirModel", "givenThen", "[I", true)
  | 58 => ("SinkingChoirModel", "luck", "I", false)
  | 59 => ("SinkingChoirModel", "atSinger", "I", false)
  | 60 => ("SinkingChoirModel", "atBeat", "I", false)
  | 61 => ("SinkingChoirModel", "driftSum", "J", false)
  | 62 => ("SinkingChoirModel", "worth", "[I", true)
  | 63 => ("SinkingChoirModel", "isRefused", "[Z", true)
  | 64 => ("SinkingChoirModel", "byOthers", "J", false)
  | 65 => ("SinkingChoirModel", "byOwn", "J", false)
  | 66 => ("SinkingChoirModel", "hasOthers", "Z", false)
  | 67 => ("SinkingChoirModel", "hasOwn", "Z", false)
  | 68 => ("SinkingChoirModel", "bestPlace", "[I", true)
  | 69 => ("SinkingChoirModel", "onTape", "[I", true)
  | _ => ("SinkingChoirModel", "hasTape", "[Z", true)
def ty1 : Nat → FieldType := fun k => match k with
  | 0 => .array .byte
  | 1 => .int
  | 2 => .array .int
  | 3 => .array .int
  | 4 => .array .int
  | 5 => .array .int
  | 6 => .array .boolean
  | 7 => .array .int
  | 8 => .int
  | 9 => .int
  | 10 => .int
  | 11 => .array .int
  | 12 => .array .int
  | 13 => .array .int
  | 14 => .array .int
  | 15 => .array .long
  | 16 => .array .int
  | 17 => .long
  | 18 => .int
  | 19 => .int
  | 20 => .int
  | 21 => .int
  | 22 => .array .int
  | 23 => .array .int
  | 24 => .array .int
  | 25 => .array .int
  | 26 => .array .int
  | 27 => .int
  | 28 => .array .int
  | 29 => .array .int
  | 30 => .array .int
  | 31 => .array .int
  | 32 => .array .int
  | 33 => .array .int
  | 34 => .array .int
  | 35 => .array .int
  | 36 => .array .int
  | 37 => .array .int
  | 38 => .array .int
  | 39 => .array .int
  | 40 => .int
  | 41 => .int
  | 42 => .int
  | 43 => .int
  | 44 => .int
  | 45 => .int
  | 46 => .int
  | 47 => .boolean
  | 48 => .boolean
  | 49 => .array .int
  | 50 => .array .int
  | 51 => .array .int
  | 52 => .int
  | 53 => .int
  | 54 => .array .int
  | 55 => .array .int
  | 56 => .array .int
  | 57 => .array .int
  | 58 => .int
  | 59 => .int
  | 60 => .int
  | 61 => .long
  | 62 => .array .int
  | 63 => .array .boolean
  | 64 => .long
  | 65 => .long
  | 66 => .boolean
  | 67 => .boolean
  | 68 => .array .int
  | 69 => .array .int
  | _ => .array .boolean
def R2 : String := "SinkingChoir$Choir"
def T2 : u_T := fun k => match k with
  | 0 => ("SinkingChoir$Choir", "score", "LSinkingChoir$Score;", true)
  | 1 => ("SinkingChoir$Choir", "voices", "[I", true)
  | 2 => ("SinkingChoir$Choir", "places", "[I", true)
  | 3 => ("SinkingChoir$Choir", "louds", "[I", true)
  | 4 => ("SinkingChoir$Choir", "knowing", "[I", true)
  | 5 => ("SinkingChoir$Choir", "recorded", "[I", true)
  | 6 => ("SinkingChoir$Choir", "records", "[I", true)
  | 7 => ("SinkingChoir$Choir", "tables", "[I", true)
  | 8 => ("SinkingChoir$Choir", "words", "LSinkingChoir$Program;", false)
  | 9 => ("SinkingChoir$Choir", "count", "I", false)
  | 10 => ("SinkingChoir$Choir", "luck", "I", false)
  | 11 => ("SinkingChoir$Choir", "wind", "I", false)
  | _ => ("SinkingChoir$Choir", "givings", "I", false)
def ty2 : Nat → FieldType := fun k => match k with
  | 0 => .object "SinkingChoir$Score"
  | 1 => .array .int
  | 2 => .array .int
  | 3 => .array .int
  | 4 => .array .int
  | 5 => .array .int
  | 6 => .array .int
  | 7 => .array .int
  | 8 => .object "SinkingChoir$Program"
  | 9 => .int
  | 10 => .int
  | 11 => .int
  | _ => .int
def R3 : String := "SinkingChoir$Fitting"
def T3 : u_T := fun k => match k with
  | 0 => ("SinkingChoir$Fitting", "score", "LSinkingChoir$Score;", true)
  | 1 => ("SinkingChoir$Fitting", "choir", "LSinkingChoir$Choir;", true)
  | 2 => ("SinkingChoir$Fitting", "singing", "LSinkingChoir$Singing;", true)
  | 3 => ("SinkingChoir$Fitting", "differences", "[J", true)
  | _ => ("SinkingChoir$Fitting", "row", "I", false)
def ty3 : Nat → FieldType := fun k => match k with
  | 0 => .object "SinkingChoir$Score"
  | 1 => .object "SinkingChoir$Choir"
  | 2 => .object "SinkingChoir$Singing"
  | 3 => .array .long
  | _ => .int
def R4 : String := "SinkingChoir$Leading"
def T4 : u_T := fun k => match k with
  | 0 => ("SinkingChoir$Leading", "choir", "LSinkingChoir$Choir;", true)
  | 1 => ("SinkingChoir$Leading", "singing", "LSinkingChoir$Singing;", true)
  | 2 => ("SinkingChoir$Leading", "far", "[J", true)
  | 3 => ("SinkingChoir$Leading", "set", "I", false)
  | _ => ("SinkingChoir$Leading", "greatest", "J", false)
def ty4 : Nat → FieldType := fun k => match k with
  | 0 => .object "SinkingChoir$Choir"
  | 1 => .object "SinkingChoir$Singing"
  | 2 => .array .long
  | 3 => .int
  | _ => .long
def R5 : String := "SinkingChoir$Program"
def T5 : u_T := fun k => match k with
  | 0 => ("SinkingChoir$Program", "ops", "[I", true)
  | 1 => ("SinkingChoir$Program", "args", "[I", true)
  | 2 => ("SinkingChoir$Program", "stack", "[I", true)
  | 3 => ("SinkingChoir$Program", "aimed", "[I", true)
  | 4 => ("SinkingChoir$Program", "starts", "[I", true)
  | 5 => ("SinkingChoir$Program", "middles", "[I", true)
  | 6 => ("SinkingChoir$Program", "steps", "I", false)
  | _ => ("SinkingChoir$Program", "clauses", "I", false)
def ty5 : Nat → FieldType := fun k => match k with
  | 0 => .array .int
  | 1 => .array .int
  | 2 => .array .int
  | 3 => .array .int
  | 4 => .array .int
  | 5 => .array .int
  | 6 => .int
  | _ => .int
def R6 : String := "SinkingChoir$Reader"
def T6 : u_T := fun k => match k with
  | 0 => ("SinkingChoir$Reader", "signs", "[I", true)
  | 1 => ("SinkingChoir$Reader", "out", "LSinkingChoir$Program;", false)
  | 2 => ("SinkingChoir$Reader", "length", "I", false)
  | 3 => ("SinkingChoir$Reader", "at", "I", false)
  | _ => ("SinkingChoir$Reader", "fault", "I", false)
def ty6 : Nat → FieldType := fun k => match k with
  | 0 => .array .int
  | 1 => .object "SinkingChoir$Program"
  | 2 => .int
  | 3 => .int
  | _ => .int
def R7 : String := "SinkingChoir$Reel"
def T7 : u_T := fun k => match k with
  | 0 => ("SinkingChoir$Reel", "bytes", "[I", true)
  | _ => ("SinkingChoir$Reel", "length", "I", false)
def ty7 : Nat → FieldType := fun k => match k with
  | 0 => .array .int
  | _ => .int
def R8 : String := "SinkingChoir$Score"
def T8 : u_T := fun k => match k with
  | 0 => ("SinkingChoir$Score", "keys", "[I", true)
  | 1 => ("SinkingChoir$Score", "exponents", "[I", true)
  | 2 => ("SinkingChoir$Score", "mills", "[I", true)
  | 3 => ("SinkingChoir$Score", "breaths", "[I", true)
  | 4 => ("SinkingChoir$Score", "links", "[I", true)
  | 5 => ("SinkingChoir$Score", "keynotes", "[I", true)
  | _ => ("SinkingChoir$Score", "keynoteExponents", "[I", true)
def ty8 : Nat → FieldType := fun k => match k with
  | 0 => .array .int
  | 1 => .array .int
  | 2 => .array .int
  | 3 => .array .int
  | 4 => .array .int
  | 5 => .array .int
  | _ => .array .int
def R9 : String := "SinkingChoir$Singing"
def T9 : u_T := fun k => match k with
  | 0 => ("SinkingChoir$Singing", "score", "LSinkingChoir$Score;", true)
  | 1 => ("SinkingChoir$Singing", "choir", "LSinkingChoir$Choir;", true)
  | 2 => ("SinkingChoir$Singing", "pitches", "[J", true)
  | 3 => ("SinkingChoir$Singing", "lasts", "[J", true)
  | 4 => ("SinkingChoir$Singing", "letters", "[I", true)
  | 5 => ("SinkingChoir$Singing", "weights", "[I", true)
  | 6 => ("SinkingChoir$Singing", "aims", "[J", true)
  | 7 => ("SinkingChoir$Singing", "counts", "[Z", true)
  | 8 => ("SinkingChoir$Singing", "places", "[I", false)
  | 9 => ("SinkingChoir$Singing", "givings", "I", false)
  | 10 => ("SinkingChoir$Singing", "turn", "I", false)
  | 11 => ("SinkingChoir$Singing", "nobodyKnows", "Z", false)
  | 12 => ("SinkingChoir$Singing", "drift", "J", false)
  | 13 => ("SinkingChoir$Singing", "luck", "I", false)
  | _ => ("SinkingChoir$Singing", "many", "I", false)
def ty9 : Nat → FieldType := fun k => match k with
  | 0 => .object "SinkingChoir$Score"
  | 1 => .object "SinkingChoir$Choir"
  | 2 => .array .long
  | 3 => .array .long
  | 4 => .array .int
  | 5 => .array .int
  | 6 => .array .long
  | 7 => .array .boolean
  | 8 => .array .int
  | 9 => .int
  | 10 => .int
  | 11 => .boolean
  | 12 => .long
  | 13 => .int
  | _ => .int
def R10 : String := "SinkingChoir$Standing"
def T10 : u_T := fun k => match k with
  | 0 => ("SinkingChoir$Standing", "choir", "LSinkingChoir$Choir;", true)
  | 1 => ("SinkingChoir$Standing", "singing", "LSinkingChoir$Singing;", true)
  | 2 => ("SinkingChoir$Standing", "tried", "[I", true)
  | 3 => ("SinkingChoir$Standing", "places", "[I", true)
  | 4 => ("SinkingChoir$Standing", "sinking", "J", false)
  | 5 => ("SinkingChoir$Standing", "foul", "J", false)
  | _ => ("SinkingChoir$Standing", "foundAt", "I", false)
def ty10 : Nat → FieldType := fun k => match k with
  | 0 => .object "SinkingChoir$Choir"
  | 1 => .object "SinkingChoir$Singing"
  | 2 => .array .int
  | 3 => .array .int
  | 4 => .long
  | 5 => .long
  | _ => .int
def R11 : String := "SinkingChoir$Ways"
def T11 : u_T := fun k => match k with
  | 0 => ("SinkingChoir$Ways", "score", "LSinkingChoir$Score;", true)
  | 1 => ("SinkingChoir$Ways", "nodes", "[I", true)
  | 2 => ("SinkingChoir$Ways", "costs", "[I", true)
  | 3 => ("SinkingChoir$Ways", "counts", "[I", true)
  | 4 => ("SinkingChoir$Ways", "merged", "[I", true)
  | 5 => ("SinkingChoir$Ways", "shifts", "[I", true)
  | 6 => ("SinkingChoir$Ways", "prices", "[I", true)
  | 7 => ("SinkingChoir$Ways", "row", "[I", true)
  | 8 => ("SinkingChoir$Ways", "total", "I", false)
  | _ => ("SinkingChoir$Ways", "last", "I", false)
def ty11 : Nat → FieldType := fun k => match k with
  | 0 => .object "SinkingChoir$Score"
  | 1 => .array .int
  | 2 => .array .int
  | 3 => .array .int
  | 4 => .array .int
  | 5 => .array .int
  | 6 => .array .int
  | 7 => .array .int
  | 8 => .int
  | _ => .int
abbrev CLS : List vw_C := [(R0, T0, 10), (R1, T1, 71), (R2, T2, 13), (R3, T3, 5), (R4, T4, 5), (R5, T5, 8), (R6, T6, 5), (R7, T7, 2), (R8, T8, 7), (R9, T9, 15), (R10, T10, 7), (R11, T11, 10)]
def nfld : Nat → Nat
  | 0 => 10
  | 1 => 71
  | 2 => 13
  | 3 => 5
  | 4 => 5
  | 5 => 8
  | 6 => 5
  | 7 => 2
  | 8 => 7
  | 9 => 15
  | 10 => 7
  | 11 => 10
  | _ => 0
/-- what a field holds: 0 an int, 3 a boolean, 1 a long, 2 a reference -/
def FTC (ci k : Nat) : Nat := match ci with
  | 0 => [2, 2, 2, 2, 2, 2, 2, 2, 2, 0].getD k 2
  | 1 => [2, 0, 2, 2, 2, 2, 2, 2, 0, 0, 0, 2, 2, 2, 2, 2, 2, 1, 0, 0, 0, 0, 2, 2, 2, 2, 2, 0, 2, 2, 2, 2, 2, 2, 2, 2, 2, 2, 2, 2, 0, 0, 0, 0, 0, 0, 0, 3, 3, 2, 2, 2, 0, 0, 2, 2, 2, 2, 0, 0, 0, 1, 2, 2, 1, 1, 3, 3, 2, 2, 2].getD k 2
  | 2 => [2, 2, 2, 2, 2, 2, 2, 2, 2, 0, 0, 0, 0].getD k 2
  | 3 => [2, 2, 2, 2, 0].getD k 2
  | 4 => [2, 2, 2, 0, 1].getD k 2
  | 5 => [2, 2, 2, 2, 2, 2, 0, 0].getD k 2
  | 6 => [2, 2, 0, 0, 0].getD k 2
  | 7 => [2, 0].getD k 2
  | 8 => [2, 2, 2, 2, 2, 2, 2].getD k 2
  | 9 => [2, 2, 2, 2, 2, 2, 2, 2, 2, 0, 0, 3, 1, 0, 0].getD k 2
  | 10 => [2, 2, 2, 2, 1, 1, 0].getD k 2
  | 11 => [2, 2, 2, 2, 2, 2, 2, 2, 0, 0].getD k 2
  | _ => 2
def ftOk (c : Nat) (t : FieldType) : Bool := match c, t with
  | 0, .int => true
  | 3, .boolean => true
  | 1, .long => true
  | 2, .object _ => true
  | 2, .array _ => true
  | _, _ => false
def CFX (ci : Nat) (C : String) (T : u_T) (N : Nat) (ty : Nat → FieldType) : Prop := CLS[ci]? = some (C, T, N) ∧ nfld ci = N ∧ (∀ w ∈ u_ws C T N, w ∈ tb) ∧ (∀ k, k < N → parseFieldDescriptor (T k).2.2.1 = some (ty k)) ∧ (∀ a, a < N → ∀ b, b < N → a ≠ b → (T a).2.1 ≠ (T b).2.1) ∧ (∀ k, k < N → ftOk (FTC ci k) (ty k) = true) ∧ Cond.instantiable C N ∈ tb ∧ Cond.initialized C ∈ tb
set_option maxRecDepth 20000 in
theorem cfw0 : ∀ w ∈ u_ws R0 T0 10, w ∈ tb := by
  have h : ∀ k, k < 10 → lw_tbl[[472, 474, 476, 478, 480, 482, 484, 486, 488, 490].getD k 0]? = some (u_lay R0 T0 k) ∧ goodWord (u_lay R0 T0 k) = true := by decide +kernel
  intro w hw
  obtain ⟨k, hk, rfl⟩ := List.mem_map.mp hw
  have hk := List.mem_range.mp hk
  exact mem_tb _ (h k hk).1 (h k hk).2
set_option maxRecDepth 20000 in
theorem cf0 : CFX 0 R0 T0 10 ty0 := ⟨rfl, rfl, cfw0, by decide +kernel, by decide +kernel, by decide +kernel, mem_tb 133 (by decide +kernel) rfl, mem_tb 110 (by decide +kernel) rfl⟩
set_option maxRecDepth 20000 in
theorem cfw1 : ∀ w ∈ u_ws R1 T1 71, w ∈ tb := by
  have h : ∀ k, k < 71 → lw_tbl[[1355, 1357, 1359, 1361, 1363, 1365, 1367, 1369, 1371, 1373, 1375, 1377, 1379, 1381, 1383, 1385, 1387, 1389, 1391, 1393, 1395, 1397, 1399, 1401, 1403, 1405, 1407, 1409, 1411, 1413, 1415, 1417, 1419, 1421, 1423, 1425, 1427, 1429, 1431, 1433, 1435, 1437, 1439, 1441, 1443, 1445, 1447, 1449, 1451, 1453, 1455, 1457, 1459, 1461, 1463, 1465, 1467, 1469, 1471, 1473, 1475, 1477, 1479, 1481, 1483, 1485, 1487, 1489, 1491, 1493, 1495].getD k 0]? = some (u_lay R1 T1 k) ∧ goodWord (u_lay R1 T1 k) = true := by decide +kernel
  intro w hw
  obtain ⟨k, hk, rfl⟩ := List.mem_map.mp hw
  have hk := List.mem_range.mp hk
  exact mem_tb _ (h k hk).1 (h k hk).2
set_option maxRecDepth 20000 in
theorem cf1 : CFX 1 R1 T1 71 ty1 := ⟨rfl, rfl, cfw1, by decide +kernel, by decide +kernel, by decide +kernel, mem_tb 1279 (by decide +kernel) rfl, mem_tb 122 (by decide +kernel) rfl⟩
set_option maxRecDepth 20000 in
theorem cfw2 : ∀ w ∈ u_ws R2 T2 13, w ∈ tb := by
  have h : ∀ k, k < 13 → lw_tbl[[253, 255, 257, 259, 261, 263, 265, 267, 269, 271, 273, 275, 277].getD k 0]? = some (u_lay R2 T2 k) ∧ goodWord (u_lay R2 T2 k) = true := by decide +kernel
  intro w hw
  obtain ⟨k, hk, rfl⟩ := List.mem_map.mp hw
  have hk := List.mem_range.mp hk
  exact mem_tb _ (h k hk).1 (h k hk).2
set_option maxRecDepth 20000 in
theorem cf2 : CFX 2 R2 T2 13 ty2 := ⟨rfl, rfl, cfw2, by decide +kernel, by decide +kernel, by decide +kernel, mem_tb 182 (by decide +kernel) rfl, mem_tb 113 (by decide +kernel) rfl⟩
set_option maxRecDepth 20000 in
theorem cfw3 : ∀ w ∈ u_ws R3 T3 5, w ∈ tb := by
  have h : ∀ k, k < 5 → lw_tbl[[412, 414, 416, 418, 420].getD k 0]? = some (u_lay R3 T3 k) ∧ goodWord (u_lay R3 T3 k) = true := by decide +kernel
  intro w hw
  obtain ⟨k, hk, rfl⟩ := List.mem_map.mp hw
  have hk := List.mem_range.mp hk
  exact mem_tb _ (h k hk).1 (h k hk).2
set_option maxRecDepth 20000 in
theorem cf3 : CFX 3 R3 T3 5 ty3 := ⟨rfl, rfl, cfw3, by decide +kernel, by decide +kernel, by decide +kernel, mem_tb 402 (by decide +kernel) rfl, mem_tb 119 (by decide +kernel) rfl⟩
set_option maxRecDepth 20000 in
theorem cfw4 : ∀ w ∈ u_ws R4 T4 5, w ∈ tb := by
  have h : ∀ k, k < 5 → lw_tbl[[390, 392, 394, 396, 398].getD k 0]? = some (u_lay R4 T4 k) ∧ goodWord (u_lay R4 T4 k) = true := by decide +kernel
  intro w hw
  obtain ⟨k, hk, rfl⟩ := List.mem_map.mp hw
  have hk := List.mem_range.mp hk
  exact mem_tb _ (h k hk).1 (h k hk).2
set_option maxRecDepth 20000 in
theorem cf4 : CFX 4 R4 T4 5 ty4 := ⟨rfl, rfl, cfw4, by decide +kernel, by decide +kernel, by decide +kernel, mem_tb 378 (by decide +kernel) rfl, mem_tb 118 (by decide +kernel) rfl⟩
set_option maxRecDepth 20000 in
theorem cfw5 : ∀ w ∈ u_ws R5 T5 8, w ∈ tb := by
  have h : ∀ k, k < 8 → lw_tbl[[202, 204, 206, 208, 210, 212, 214, 216].getD k 0]? = some (u_lay R5 T5 k) ∧ goodWord (u_lay R5 T5 k) = true := by decide +kernel
  intro w hw
  obtain ⟨k, hk, rfl⟩ := List.mem_map.mp hw
  have hk := List.mem_range.mp hk
  exact mem_tb _ (h k hk).1 (h k hk).2
set_option maxRecDepth 20000 in
theorem cf5 : CFX 5 R5 T5 8 ty5 := ⟨rfl, rfl, cfw5, by decide +kernel, by decide +kernel, by decide +kernel, mem_tb 188 (by decide +kernel) rfl, mem_tb 114 (by decide +kernel) rfl⟩
set_option maxRecDepth 20000 in
theorem cfw6 : ∀ w ∈ u_ws R6 T6 5, w ∈ tb := by
  have h : ∀ k, k < 5 → lw_tbl[[451, 453, 455, 457, 459].getD k 0]? = some (u_lay R6 T6 k) ∧ goodWord (u_lay R6 T6 k) = true := by decide +kernel
  intro w hw
  obtain ⟨k, hk, rfl⟩ := List.mem_map.mp hw
  have hk := List.mem_range.mp hk
  exact mem_tb _ (h k hk).1 (h k hk).2
set_option maxRecDepth 20000 in
theorem cf6 : CFX 6 R6 T6 5 ty6 := ⟨rfl, rfl, cfw6, by decide +kernel, by decide +kernel, by decide +kernel, mem_tb 439 (by decide +kernel) rfl, mem_tb 121 (by decide +kernel) rfl⟩
set_option maxRecDepth 20000 in
theorem cfw7 : ∀ w ∈ u_ws R7 T7 2, w ∈ tb := by
  have h : ∀ k, k < 2 → lw_tbl[[433, 435].getD k 0]? = some (u_lay R7 T7 k) ∧ goodWord (u_lay R7 T7 k) = true := by decide +kernel
  intro w hw
  obtain ⟨k, hk, rfl⟩ := List.mem_map.mp hw
  have hk := List.mem_range.mp hk
  exact mem_tb _ (h k hk).1 (h k hk).2
set_option maxRecDepth 20000 in
theorem cf7 : CFX 7 R7 T7 2 ty7 := ⟨rfl, rfl, cfw7, by decide +kernel, by decide +kernel, by decide +kernel, mem_tb 424 (by decide +kernel) rfl, mem_tb 120 (by decide +kernel) rfl⟩
set_option maxRecDepth 20000 in
theorem cfw8 : ∀ w ∈ u_ws R8 T8 7, w ∈ tb := by
  have h : ∀ k, k < 7 → lw_tbl[[165, 167, 169, 171, 173, 175, 177].getD k 0]? = some (u_lay R8 T8 k) ∧ goodWord (u_lay R8 T8 k) = true := by decide +kernel
  intro w hw
  obtain ⟨k, hk, rfl⟩ := List.mem_map.mp hw
  have hk := List.mem_range.mp hk
  exact mem_tb _ (h k hk).1 (h k hk).2
set_option maxRecDepth 20000 in
theorem cf8 : CFX 8 R8 T8 7 ty8 := ⟨rfl, rfl, cfw8, by decide +kernel, by decide +kernel, by decide +kernel, mem_tb 141 (by decide +kernel) rfl, mem_tb 111 (by decide +kernel) rfl⟩
set_option maxRecDepth 20000 in
theorem cfw9 : ∀ w ∈ u_ws R9 T9 15, w ∈ tb := by
  have h : ∀ k, k < 15 → lw_tbl[[312, 314, 316, 318, 320, 322, 324, 326, 328, 330, 332, 334, 336, 338, 340].getD k 0]? = some (u_lay R9 T9 k) ∧ goodWord (u_lay R9 T9 k) = true := by decide +kernel
  intro w hw
  obtain ⟨k, hk, rfl⟩ := List.mem_map.mp hw
  have hk := List.mem_range.mp hk
  exact mem_tb _ (h k hk).1 (h k hk).2
set_option maxRecDepth 20000 in
theorem cf9 : CFX 9 R9 T9 15 ty9 := ⟨rfl, rfl, cfw9, by decide +kernel, by decide +kernel, by decide +kernel, mem_tb 281 (by decide +kernel) rfl, mem_tb 115 (by decide +kernel) rfl⟩
set_option maxRecDepth 20000 in
theorem cfw10 : ∀ w ∈ u_ws R10 T10 7, w ∈ tb := by
  have h : ∀ k, k < 7 → lw_tbl[[362, 364, 366, 368, 370, 372, 374].getD k 0]? = some (u_lay R10 T10 k) ∧ goodWord (u_lay R10 T10 k) = true := by decide +kernel
  intro w hw
  obtain ⟨k, hk, rfl⟩ := List.mem_map.mp hw
  have hk := List.mem_range.mp hk
  exact mem_tb _ (h k hk).1 (h k hk).2
set_option maxRecDepth 20000 in
theorem cf10 : CFX 10 R10 T10 7 ty10 := ⟨rfl, rfl, cfw10, by decide +kernel, by decide +kernel, by decide +kernel, mem_tb 347 (by decide +kernel) rfl, mem_tb 117 (by decide +kernel) rfl⟩
set_option maxRecDepth 20000 in
theorem cfw11 : ∀ w ∈ u_ws R11 T11 10, w ∈ tb := by
  have h : ∀ k, k < 10 → lw_tbl[[655, 657, 659, 661, 663, 665, 667, 669, 671, 673].getD k 0]? = some (u_lay R11 T11 k) ∧ goodWord (u_lay R11 T11 k) = true := by decide +kernel
  intro w hw
  obtain ⟨k, hk, rfl⟩ := List.mem_map.mp hw
  have hk := List.mem_range.mp hk
  exact mem_tb _ (h k hk).1 (h k hk).2
set_option maxRecDepth 20000 in
theorem cf11 : CFX 11 R11 T11 10 ty11 := ⟨rfl, rfl, cfw11, by decide +kernel, by decide +kernel, by decide +kernel, mem_tb 640 (by decide +kernel) rfl, mem_tb 125 (by decide +kernel) rfl⟩
end
section
/-! LAYER 0: an abstract memory: cells by ids; their kinds (0, class number) or (1 int, 2 byte, 3 boolean, 4 long, length); ints, longs, references by cell and place -/
abbrev MM : Type := List (Nat × Nat) × (Nat → Nat → Int32) × (Nat → Nat → Int64) × (Nat → Nat → Option Nat)
def gI (μ : MM) (a k : Nat) : Int32 := μ.2.1 a k
def gL (μ : MM) (a k : Nat) : Int64 := μ.2.2.1 a k
def gR (μ : MM) (a k : Nat) : Option Nat := μ.2.2.2 a k
def sF (μ : MM) (a : Nat) (f : Nat → Int32) : MM := (μ.1, (fun c => if c = a then f else μ.2.1 c), μ.2.2.1, μ.2.2.2)
def sG (μ : MM) (a : Nat) (f : Nat → Int64) : MM := (μ.1, μ.2.1, (fun c => if c = a then f else μ.2.2.1 c), μ.2.2.2)
def sI (μ : MM) (a k : Nat) (v : Int32) : MM := sF μ a (upd (gI μ a) k v)
def sL (μ : MM) (a k : Nat) (v : Int64) : MM := sG μ a (vp_updL (gL μ a) k v)
def sR (μ : MM) (a k : Nat) (v : Option Nat) : MM := (μ.1, μ.2.1, μ.2.2.1, (fun c => if c = a then va_up (μ.2.2.2 c) k v else μ.2.2.2 c))
def nc (μ : MM) : Nat := μ.1.length
def ksl (q : Nat × Nat) : Nat := match q.1 with
  | 0 => nfld q.2
  | _ => q.2
def nsl (μ : MM) : Nat := (μ.1.map ksl).sum
def push (μ : MM) (q : Nat × Nat) : MM := (μ.1 ++ [q], (fun c => if c = nc μ then fun _ => 0 else μ.2.1 c), (fun c => if c = nc μ then fun _ => 0 else μ.2.2.1 c), (fun c => if c = nc μ then fun _ => none else μ.2.2.2 c))
def LIM : Nat := 1000000
/-- where a cell lies: ids from LIM on are what was there before (String constants) -/
def adr (B : Nat) (sa : Nat → Nat) (i : Nat) : Nat := if i < LIM then B + i else sa (i - LIM)
def cv (f : Nat → Nat) (v : Value) : Value := match v with
  | .ref a => .ref (f a)
  | v => v
theorem cv_cat (f : Nat → Nat) (v : Value) : (cv f v).category = v.category := by cases v <;> rfl
theorem cv_rf (f : Nat → Nat) (o : Option Nat) : cv f (va_rf o) = va_rf (o.map f) := by cases o <;> rfl
def fv (f : Nat → Nat) (μ : MM) (a ci k : Nat) : Value := match FTC ci k with
  | 0 => .int (gI μ a k)
  | 3 => .int (gI μ a k)
  | 1 => .long (gL μ a k)
  | _ => va_rf ((gR μ a k).map f)
def fsz (f : Nat → Nat) (μ : MM) (a ci : Nat) : List Value := (List.range (nfld ci)).map (fun k => fv f μ a ci k)
def cz (f : Nat → Nat) (tc : Nat → ClassId) (μ : MM) (a : Nat) (q : Nat × Nat) : va_E := match q.1 with
  | 0 => .inr (q.2, fsz f μ a q.2)
  | 1 => .inl (tc 0, q.2, .inl (gI μ a))
  | 2 => .inl (tc 1, q.2, .inl (gI μ a))
  | 3 => .inl (tc 2, q.2, .inl (gI μ a))
  | _ => .inl (tc 3, q.2, .inr (.inl (gL μ a)))
def wz (f : Nat → Nat) (tc : Nat → ClassId) (μ : MM) : va_W := (List.range (nc μ)).map (fun a => (f a, cz f tc μ a (μ.1.getD a (0, 0))))
def TYS (tc : Nat → ClassId) : List (ClassId × FieldType) := [(tc 0, .int), (tc 1, .byte), (tc 2, .boolean), (tc 3, .long)]
theorem wz_len (f : Nat → Nat) (tc : Nat → ClassId) (μ : MM) : (wz f tc μ).length = nc μ := by simp [wz]
theorem wz_at {f : Nat → Nat} {tc : Nat → ClassId} {μ : MM} {a : Nat} {q : Nat × Nat} (h : μ.1[a]? = some q) : (wz f tc μ)[a]? = some (f a, cz f tc μ a q) := by
  have hl : a < nc μ := (List.getElem?_eq_some_iff.mp h).1
  simp [wz, hl, List.getD, h]
theorem wz_lt {f : Nat → Nat} {tc : Nat → ClassId} {μ : MM} {k : Nat} {x : Nat × va_E} (h : (wz f tc μ)[k]? = some x) : k < nc μ ∧ x.1 = f k := by
  have hl : k < (wz f tc μ).length := (List.getElem?_eq_some_iff.mp h).1
  rw [wz_len] at hl
  refine ⟨hl, ?_⟩
  simp [wz, hl] at h
  rw [← h]
/-- worlds that differ in one cell -/
theorem wz_set {f : Nat → Nat} {tc : Nat → ClassId} {μ μ' : MM} {a : Nat} {q : Nat × Nat} {e : va_E} (h : μ.1[a]? = some q) (h1 : μ'.1 = μ.1) (he : cz f tc μ' a q = e) (ho : ∀ c x, c ≠ a → cz f tc μ' c x = cz f tc μ c x) : (wz f tc μ).set a (f a, e) = wz f tc μ' := by
  have hl : a < nc μ := (List.getElem?_eq_some_iff.mp h).1
  apply List.ext_getElem?
  intro k
  by_cases hk : k = a
  · subst hk
    rw [List.getElem?_set_self (by rw [wz_len]; exact hl), wz_at (q := q) (by rw [h1]; exact h), he]
  · rw [List.getElem?_set_ne (Ne.symm hk)]
    by_cases hkl : k < nc μ
    · obtain ⟨x, hx⟩ : ∃ x, μ.1[k]? = some x := ⟨_, List.getElem?_eq_getElem hkl⟩
      rw [wz_at hx, wz_at (q := x) (by rw [h1]; exact hx), ho k x hk]
    · have h2 : nc μ' = nc μ := by simp [nc, h1]
      rw [List.getElem?_eq_none (by rw [wz_len]; omega), List.getElem?_eq_none (by rw [wz_len]; omega)]
theorem cz_sF_ne {f : Nat → Nat} {tc : Nat → ClassId} {μ : MM} {a : Nat} {g : Nat → Int32} {c : Nat} (x : Nat × Nat) (hc : c ≠ a) : cz f tc (sF μ a g) c x = cz f tc μ c x := by
  have e1 : gI (sF μ a g) c = gI μ c := by funext k; simp [gI, sF, hc]
  have e2 : ∀ ci, fsz f (sF μ a g) c ci = fsz f μ c ci := fun ci => by
    unfold fsz; congr 1; funext k; simp only [fv, e1]; rfl
  simp only [cz, e1, e2]
  rfl
theorem cz_sG_ne {f : Nat → Nat} {tc : Nat → ClassId} {μ : MM} {a : Nat} {g : Nat → Int64} {c : Nat} (x : Nat × Nat) (hc : c ≠ a) : cz f tc (sG μ a g) c x = cz f tc μ c x := by
  have e1 : gL (sG μ a g) c = gL μ c := by funext k; simp [gL, sG, hc]
  have e2 : ∀ ci, fsz f (sG μ a g) c ci = fsz f μ c ci := fun ci => by
    unfold fsz; congr 1; funext k; simp only [fv, e1]; rfl
  simp only [cz, e1, e2]
  rfl
theorem cz_sR_ne {f : Nat → Nat} {tc : Nat → ClassId} {μ : MM} {a j : Nat} {v : Option Nat} {c : Nat} (x : Nat × Nat) (hc : c ≠ a) : cz f tc (sR μ a j v) c x = cz f tc μ c x := by
  have e1 : gR (sR μ a j v) c = gR μ c := by funext k; simp [gR, sR, hc]
  have e2 : ∀ ci, fsz f (sR μ a j v) c ci = fsz f μ c ci := fun ci => by
    unfold fsz; congr 1; funext k; simp only [fv, e1]; rfl
  simp only [cz, e2]
  rfl
theorem gI_sF {μ : MM} {a : Nat} {g : Nat → Int32} : gI (sF μ a g) a = g := by funext k; simp [gI, sF]
theorem gL_sG {μ : MM} {a : Nat} {g : Nat → Int64} : gL (sG μ a g) a = g := by funext k; simp [gL, sG]
/-- an int array's new contents -/
theorem wz_sF {f : Nat → Nat} {tc : Nat → ClassId} {μ : MM} {a t n : Nat} {g : Nat → Int32} (h : μ.1[a]? = some (t + 1, n)) (ht : t < 3) : (wz f tc μ).set a (f a, .inl (tc t, n, .inl g)) = wz f tc (sF μ a g) := by
  refine wz_set h rfl ?_ (fun c x hc => cz_sF_ne x hc)
  rcases (show t = 0 ∨ t = 1 ∨ t = 2 by omega) with rfl | rfl | rfl <;> simp [cz, gI_sF]
theorem wz_sG {f : Nat → Nat} {tc : Nat → ClassId} {μ : MM} {a n : Nat} {g : Nat → Int64} (h : μ.1[a]? = some (4, n)) : (wz f tc μ).set a (f a, .inl (tc 3, n, .inr (.inl g))) = wz f tc (sG μ a g) := by
  refine wz_set h rfl ?_ (fun c x hc => cz_sG_ne x hc)
  simp [cz, gL_sG]
theorem fsz_len (f : Nat → Nat) (μ : MM) (a ci : Nat) : (fsz f μ a ci).length = nfld ci := by simp [fsz]
theorem fsz_at {f : Nat → Nat} {μ : MM} {a ci k : Nat} (h : k < nfld ci) : (fsz f μ a ci)[k]? = some (fv f μ a ci k) := by simp [fsz, h]
theorem fsz_set {f : Nat → Nat} {μ μ' : MM} {a ci k : Nat} {v : Value} (hv : fv f μ' a ci k = v) (ho : ∀ j, j ≠ k → fv f μ' a ci j = fv f μ a ci j) : (fsz f μ a ci).set k v = fsz f μ' a ci := by
  apply List.ext_getElem?
  intro j
  by_cases hj : j = k
  · subst hj
    by_cases hl : j < nfld ci
    · rw [List.getElem?_set_self (by rw [fsz_len]; exact hl), fsz_at hl, hv]
    · rw [List.getElem?_eq_none (by rw [List.length_set, fsz_len]; omega), List.getElem?_eq_none (by rw [fsz_len]; omega)]
  · rw [List.getElem?_set_ne (Ne.symm hj)]
    by_cases hl : j < nfld ci
    · rw [fsz_at hl, fsz_at hl, ho j hj]
    · rw [List.getElem?_eq_none (by rw [fsz_len]; omega), List.getElem?_eq_none (by rw [fsz_len]; omega)]
theorem fv_sI_ne {f : Nat → Nat} {μ : MM} {a ci k j : Nat} {v : Int32} (h : j ≠ k) : fv f (sI μ a k v) a ci j = fv f μ a ci j := by
  have e1 : gI (sI μ a k v) a j = gI μ a j := by unfold sI; rw [gI_sF]; simp [upd, h]
  simp only [fv, e1]; rfl
theorem fv_sL_ne {f : Nat → Nat} {μ : MM} {a ci k j : Nat} {v : Int64} (h : j ≠ k) : fv f (sL μ a k v) a ci j = fv f μ a ci j := by
  have e1 : gL (sL μ a k v) a j = gL μ a j := by unfold sL; rw [gL_sG]; simp [vp_updL, h]
  simp only [fv, e1]; rfl
theorem fv_sR_ne {f : Nat → Nat} {μ : MM} {a ci k j : Nat} {v : Option Nat} (h : j ≠ k) : fv f (sR μ a k v) a ci j = fv f μ a ci j := by
  have e1 : gR (sR μ a k v) a j = gR μ a j := by simp [gR, sR, va_up, h]
  simp only [fv, e1]; rfl
theorem wz_fI {f : Nat → Nat} {tc : Nat → ClassId} {μ : MM} {a ci k : Nat} {v : Int32} (h : μ.1[a]? = some (0, ci)) (hc : FTC ci k = 0 ∨ FTC ci k = 3) : (wz f tc μ).set a (f a, .inr (ci, (fsz f μ a ci).set k (.int v))) = wz f tc (sI μ a k v) := by
  refine wz_set h rfl ?_ (fun c x hc => cz_sF_ne x hc)
  show Sum.inr (ci, fsz f (sI μ a k v) a ci) = _
  rw [fsz_set (μ' := sI μ a k v) ?_ (fun j hj => fv_sI_ne hj)]
  have e : gI (sI μ a k v) a k = v := by unfold sI; rw [gI_sF]; simp [upd]
  rcases hc with hc | hc <;> simp [fv, hc, e]
theorem wz_fL {f : Nat → Nat} {tc : Nat → ClassId} {μ : MM} {a ci k : Nat} {v : Int64} (h : μ.1[a]? = some (0, ci)) (hc : FTC ci k = 1) : (wz f tc μ).set a (f a, .inr (ci, (fsz f μ a ci).set k (.long v))) = wz f tc (sL μ a k v) := by
  refine wz_set h rfl ?_ (fun c x hc => cz_sG_ne x hc)
  show Sum.inr (ci, fsz f (sL μ a k v) a ci) = _
  rw [fsz_set (μ' := sL μ a k v) ?_ (fun j hj => fv_sL_ne hj)]
  have e : gL (sL μ a k v) a k = v := by unfold sL; rw [gL_sG]; simp [vp_updL]
  simp [fv, hc, e]
theorem wz_fR {f : Nat → Nat} {tc : Nat → ClassId} {μ : MM} {a ci k : Nat} {v : Option Nat} (h : μ.1[a]? = some (0, ci)) (hc : FTC ci k = 2) : (wz f tc μ).set a (f a, .inr (ci, (fsz f μ a ci).set k (va_rf (v.map f)))) = wz f tc (sR μ a k v) := by
  refine wz_set h rfl ?_ (fun c x hc => cz_sR_ne x hc)
  show Sum.inr (ci, fsz f (sR μ a k v) a ci) = _
  rw [fsz_set (μ' := sR μ a k v) ?_ (fun j hj => fv_sR_ne hj)]
  have e : gR (sR μ a k v) a k = v := by simp [gR, sR, va_up]
  simp [fv, hc, e]
theorem cz_push {f : Nat → Nat} {tc : Nat → ClassId} {μ : MM} {q : Nat × Nat} {c : Nat} (x : Nat × Nat) (hc : c ≠ nc μ) : cz f tc (push μ q) c x = cz f tc μ c x := by
  have e0 : gI (push μ q) c = gI μ c := by funext k; simp [gI, push, hc]
  have e1 : gL (push μ q) c = gL μ c := by funext k; simp [gL, push, hc]
  have e2 : gR (push μ q) c = gR μ c := by funext k; simp [gR, push, hc]
  have e3 : ∀ ci, fsz f (push μ q) c ci = fsz f μ c ci := fun ci => by
    unfold fsz; congr 1; funext k; simp only [fv, e0, e1, e2]
  simp only [cz, e0, e1, e3]
theorem nc_push (μ : MM) (q : Nat × Nat) : nc (push μ q) = nc μ + 1 := by simp [nc, push]
theorem nsl_push (μ : MM) (q : Nat × Nat) : nsl (push μ q) = nsl μ + ksl q := by simp [nsl, push]
theorem wz_push {f : Nat → Nat} {tc : Nat → ClassId} {μ : MM} {q : Nat × Nat} {e : va_E} (he : cz f tc (push μ q) (nc μ) q = e) : wz f tc μ ++ [(f (nc μ), e)] = wz f tc (push μ q) := by
  apply List.ext_getElem?
  intro k
  by_cases hk : k < nc μ
  · obtain ⟨x, hx⟩ : ∃ x, μ.1[k]? = some x := ⟨_, List.getElem?_eq_getElem hk⟩
    rw [List.getElem?_append_left (by rw [wz_len]; exact hk), wz_at hx, wz_at (q := x) (by show (μ.1 ++ [q])[k]? = _; rw [List.getElem?_append_left hk]; exact hx), cz_push x (by omega)]
  · rw [List.getElem?_append_right (by rw [wz_len]; omega), wz_len]
    by_cases hk2 : k = nc μ
    · subst hk2
      rw [wz_at (q := q) (by show (μ.1 ++ [q])[nc μ]? = _; unfold nc; rw [List.getElem?_append_right (Nat.le_refl _)]; simp), he]
      simp
    · rw [List.getElem?_eq_none (l := wz f tc (push μ q)) (by rw [wz_len, nc_push]; omega), List.getElem?_eq_none (by simp; omega)]
/-! reads and writes, as the methods do them: none is what the machine itself would throw at -/
def rI (μ : MM) (a ci k : Nat) : Option Int32 := if μ.1[a]? = some (0, ci) then some (gI μ a k) else none
def rL (μ : MM) (a ci k : Nat) : Option Int64 := if μ.1[a]? = some (0, ci) then some (gL μ a k) else none
def rR (μ : MM) (a ci k : Nat) : Option Nat := if μ.1[a]? = some (0, ci) then gR μ a k else none
def rN (μ : MM) (a ci k : Nat) : Option (Option Nat) := if μ.1[a]? = some (0, ci) then some (gR μ a k) else none
def pI (μ : MM) (a ci k : Nat) (v : Int32) : Option MM := if μ.1[a]? = some (0, ci) then some (sI μ a k v) else none
def pZ (μ : MM) (a ci k : Nat) (v : Int32) : Option MM := if μ.1[a]? = some (0, ci) ∧ (v = 0 ∨ v = 1) then some (sI μ a k v) else none
def pL (μ : MM) (a ci k : Nat) (v : Int64) : Option MM := if μ.1[a]? = some (0, ci) then some (sL μ a k v) else none
def pR (μ : MM) (a ci k : Nat) (x : Nat) : Option MM := if μ.1[a]? = some (0, ci) then some (sR μ a k (some x)) else none
def aI (μ : MM) (a : Nat) (j : Int32) : Option Int32 := match μ.1[a]? with
  | some (1, n) => if j < 0 ∨ n ≤ j.toNatClampNeg then none else some (gI μ a j.toNatClampNeg)
  | _ => none
def aB (μ : MM) (a : Nat) (j : Int32) : Option Int32 := match μ.1[a]? with
  | some (2, n) => if j < 0 ∨ n ≤ j.toNatClampNeg then none else some (gI μ a j.toNatClampNeg)
  | some (3, n) => if j < 0 ∨ n ≤ j.toNatClampNeg then none else some (gI μ a j.toNatClampNeg)
  | _ => none
def aL (μ : MM) (a : Nat) (j : Int32) : Option Int64 := match μ.1[a]? with
  | some (4, n) => if j < 0 ∨ n ≤ j.toNatClampNeg then none else some (gL μ a j.toNatClampNeg)
  | _ => none
def uI (μ : MM) (a : Nat) (j v : Int32) : Option MM := match μ.1[a]? with
  | some (1, n) => if j < 0 ∨ n ≤ j.toNatClampNeg then none else some (sI μ a j.toNatClampNeg v)
  | _ => none
def uB (μ : MM) (a : Nat) (j v : Int32) : Option MM := match μ.1[a]? with
  | some (2, n) => if j < 0 ∨ n ≤ j.toNatClampNeg then none else some (sI μ a j.toNatClampNeg (vp_nar .byte v))
  | some (3, n) => if j < 0 ∨ n ≤ j.toNatClampNeg then none else some (sI μ a j.toNatClampNeg (vp_nar .boolean v))
  | _ => none
def uL (μ : MM) (a : Nat) (j : Int32) (v : Int64) : Option MM := match μ.1[a]? with
  | some (4, n) => if j < 0 ∨ n ≤ j.toNatClampNeg then none else some (sL μ a j.toNatClampNeg v)
  | _ => none
def aN (μ : MM) (a : Nat) : Option Int32 := match μ.1[a]? with
  | some (t, n) => if t = 0 ∨ 4 < t then none else some (Int32.ofNat n)
  | _ => none
def nO (μ : MM) (ci : Nat) : Option MM := some (push μ (0, ci))
def nA (μ : MM) (t : Nat) (n : Int32) : Option MM := if n < 0 ∨ 1000000 < n.toNatClampNeg then none else some (push μ (t, n.toNatClampNeg))
/-- System.arraycopy of ints -/
def cpI (μ : MM) (a : Nat) (sp : Int32) (b : Nat) (dp n : Int32) : Option MM := match μ.1[a]?, μ.1[b]? with
  | some (1, n0), some (1, n1) => if sp < 0 ∨ dp < 0 ∨ n < 0 ∨ n0 < sp.toNatClampNeg + n.toNatClampNeg ∨ n1 < dp.toNatClampNeg + n.toNatClampNeg then none else some (sF μ b (va_cpy (gI μ a) (gI μ b) sp.toNatClampNeg dp.toNatClampNeg n.toNatClampNeg))
  | _, _ => none
def irem (x y : Int32) : Int32 := x - x / y * y
def ishl (x y : Int32) : Int32 := x <<< (y &&& 31)
def ishr (x y : Int32) : Int32 := x >>> (y &&& 31)
def iushr (x y : Int32) : Int32 := (x.toUInt32 >>> (y.toUInt32 &&& Int32.toUInt32 31)).toInt32
def i2c (x : Int32) : Int32 := (x.toUInt32 % 65536).toInt32
/-- locals behind a store -/
def isL2 (o : Option (Option Value)) : Bool := match o with
  | some (some (.long _)) => true
  | some (some (.double _)) => true
  | _ => false
def st1 (loc : List (Option Value)) (i : Nat) (v : Value) : List (Option Value) := match i with
  | 0 => loc.set 0 (some v)
  | j + 1 => (if isL2 loc[j]? then loc.set j none else loc).set (j + 1) (some v)
def st2 (loc : List (Option Value)) (i : Nat) (v : Value) : List (Option Value) := (st1 loc i v).set (i + 1) none
theorem isL2_cat {v : Value} (h : v.category = 2) : isL2 (some (some v)) = true := by cases v <;> first | rfl | (simp [Value.category] at h)
theorem st1_spec {loc : List (Option Value)} {i j : Nat} {v w : Value} (h : (st1 loc i v)[j]? = some (some w)) : (j = i ∧ w = v) ∨ (j ≠ i ∧ loc[j]? = some (some w) ∧ ¬ (j + 1 = i ∧ w.category = 2)) := by
  cases i with
  | zero =>
    simp only [st1, List.getElem?_set] at h
    split at h
    · subst j
      split at h
      · cases h; exact Or.inl ⟨rfl, rfl⟩
      · cases h
    · exact Or.inr ⟨by omega, h, by omega⟩
  | succ i =>
    simp only [st1] at h
    rw [List.getElem?_set] at h
    by_cases hne : i + 1 = j
    · subst j
      rw [if_pos rfl] at h
      by_cases hz : i + 1 < (if isL2 loc[i]? = true then loc.set i none else loc).length
      · rw [if_pos hz] at h; cases h; exact Or.inl ⟨rfl, rfl⟩
      · rw [if_neg hz] at h; cases h
    · rw [if_neg hne] at h
      refine Or.inr ⟨by omega, ?_, ?_⟩
      · split at h
        · rw [List.getElem?_set] at h
          split at h
          · split at h <;> cases h
          · exact h
        · exact h
      · rintro ⟨e, hc⟩
        have e : j = i := by omega
        subst e
        split at h
        · rw [List.getElem?_set] at h
          rw [if_pos rfl] at h
          split at h <;> cases h
        · rename_i hL
          rw [h] at hL
          exact hL (isL2_cat hc)
theorem st2_spec {loc : List (Option Value)} {i j : Nat} {v w : Value} (h : (st2 loc i v)[j]? = some (some w)) : (j = i ∧ w = v) ∨ (j ≠ i ∧ j ≠ i + 1 ∧ loc[j]? = some (some w) ∧ ¬ (j + 1 = i ∧ w.category = 2)) := by
  unfold st2 at h
  rw [List.getElem?_set] at h
  split at h
  · split at h <;> cases h
  · rename_i hne
    rcases st1_spec h with q | ⟨q1, q2, q3⟩
    · exact Or.inl q
    · exact Or.inr ⟨q1, Ne.symm hne, q2, q3⟩
/-- the locals as a list of places and values -/
def lz (f : Nat → Nat) (loc : List (Option Value)) : List (Nat × Value) := (List.range loc.length).filterMap (fun i => (loc[i]?.join).map (fun v => (i, cv f v)))
theorem lz_mem {f : Nat → Nat} {loc : List (Option Value)} {i : Nat} {w : Value} : (i, w) ∈ lz f loc ↔ ∃ v, loc[i]? = some (some v) ∧ w = cv f v := by
  unfold lz
  rw [List.mem_filterMap]
  constructor
  · rintro ⟨k, hk, h⟩
    cases hh : loc[k]? with
    | none => rw [hh] at h; cases h
    | some o =>
      cases o with
      | none => rw [hh] at h; cases h
      | some v =>
        rw [hh] at h
        simp only [Option.join_some, Option.map_some, Option.some.injEq, Prod.mk.injEq] at h
        obtain ⟨rfl, rfl⟩ := h
        exact ⟨v, hh, rfl⟩
  · rintro ⟨v, h, rfl⟩
    exact ⟨i, List.mem_range.mpr (List.getElem?_eq_some_iff.mp h).1, by rw [h]; rfl⟩
abbrev LH (f : Nat → Nat) (loc : List (Option Value)) (ls : Array Slot) (nL : Nat) : Prop := lv_has ls nL (lz f loc)
theorem LH.get {f : Nat → Nat} {loc : List (Option Value)} {ls : Array Slot} {nL i : Nat} {v : Value} (h : LH f loc ls nL) (hi : loc[i]? = some (some v)) : ls[i]? = some (.val (cv f v)) := h.2.2 (i, cv f v) (lz_mem.mpr ⟨v, hi, rfl⟩)
theorem LH.st1 {f : Nat → Nat} {loc : List (Option Value)} {ls' : Array Slot} {nL i : Nat} {v : Value} (h : lv_has ls' nL ((i, cv f v) :: (lz f loc).filter (fun q => !(q.1 == i) && !(q.1 + 1 == i && q.2.category == 2)))) : LH f (st1 loc i v) ls' nL := by
  refine ⟨h.1, h.2.1, fun q hq => h.2.2 q ?_⟩
  obtain ⟨j, w⟩ := q
  obtain ⟨u, hu, rfl⟩ := lz_mem.mp hq
  rcases st1_spec hu with ⟨rfl, rfl⟩ | ⟨q1, q2, q3⟩
  · exact List.mem_cons_self
  · refine List.mem_cons_of_mem _ (List.mem_filter.mpr ⟨lz_mem.mpr ⟨u, q2, rfl⟩, ?_⟩)
    simp [q1, cv_cat]
    by_cases e : j + 1 = i
    · exact Or.inr (fun z => q3 ⟨e, z⟩)
    · exact Or.inl e
theorem LH.st2 {f : Nat → Nat} {loc : List (Option Value)} {ls' : Array Slot} {nL i : Nat} {v : Value} (h : lv_has ls' nL ((i, cv f v) :: (lz f loc).filter (fun q => !(q.1 == i) && (!(q.1 == i + 1) && !(q.1 + 1 == i && q.2.category == 2))))) : LH f (st2 loc i v) ls' nL := by
  refine ⟨h.1, h.2.1, fun q hq => h.2.2 q ?_⟩
  obtain ⟨j, w⟩ := q
  obtain ⟨u, hu, rfl⟩ := lz_mem.mp hq
  rcases st2_spec hu with ⟨rfl, rfl⟩ | ⟨q1, q0, q2, q3⟩
  · exact List.mem_cons_self
  · refine List.mem_cons_of_mem _ (List.mem_filter.mpr ⟨lz_mem.mpr ⟨u, q2, rfl⟩, ?_⟩)
    simp [q1, q0, cv_cat]
    by_cases e : j + 1 = i
    · exact Or.inr (fun z => q3 ⟨e, z⟩)
    · exact Or.inl e
/-- the locals with which a method begins -/
def entL (vs : List Value) : List (Option Value) := vs.flatMap (fun v => if v.category = 2 then [some v, none] else [some v])
theorem entL_args {f : Nat → Nat} (vs : List Value) : ∀ (i j : Nat) (v : Value), (entL vs)[j]? = some (some v) → (i + j, cv f v) ∈ lv_args i (vs.map (cv f)) := by
  induction vs with
  | nil => intro i j v h; simp [entL] at h
  | cons a vs ih =>
    intro i j v h
    simp only [entL, List.flatMap_cons] at h
    simp only [List.map_cons, lv_args, cv_cat]
    by_cases hc : a.category = 2
    · rw [if_pos hc] at h ⊢
      match j, h with
      | 0, h => simp at h; subst h; simp
      | 1, h => simp at h
      | j + 2, h =>
        have h2 : (entL vs)[j]? = some (some v) := h
        have h3 := ih (i + 2) j v h2
        rw [show i + (j + 2) = i + 2 + j by omega]
        exact List.mem_cons_of_mem _ h3
    · rw [if_neg hc] at h ⊢
      match j, h with
      | 0, h => simp at h; subst h; simp
      | j + 1, h =>
        have h2 : (entL vs)[j]? = some (some v) := h
        have h3 := ih (i + 1) j v h2
        rw [show i + (j + 1) = i + 1 + j by omega]
        exact List.mem_cons_of_mem _ h3
theorem lg_sl_len (f : Nat → Nat) (vs : List Value) : (lg_sl (vs.map (cv f))).length = (entL vs).length := by
  induction vs with
  | nil => rfl
  | cons a vs ih =>
    simp only [lg_sl, entL, List.map_cons, List.flatMap_cons, List.length_append, cv_cat] at ih ⊢
    rw [ih]
    by_cases hc : a.category = 2 <;> simp [hc]
theorem LH.entry {f : Nat → Nat} (vs : List Value) {n : Nat} (h : (entL vs).length ≤ n) : LH f (entL vs) ((lg_sl (vs.map (cv f)) ++ List.replicate (n - (lg_sl (vs.map (cv f))).length) Slot.unset).toArray) n := by
  have h0 := lv_entry (vs.map (cv f)) (n := n) (by rw [lg_sl_len]; exact h)
  refine ⟨h0.1, h0.2.1, fun q hq => h0.2.2 q ?_⟩
  obtain ⟨j, w⟩ := q
  obtain ⟨u, hu, rfl⟩ := lz_mem.mp hq
  have h1 := entL_args (f := f) vs 0 j u hu
  rwa [Nat.zero_add] at h1
end
section
/-! LAYER 0: the judgement AW over the kit's W -/
abbrev YT : Type := MethodName × ByteArray × Nat × Option FieldType
def STR (B : Nat) (sa : Nat → Nat) (U : State) : Prop :=
  vk_R "SinkingChoir$Singing" 20 "bvikfhjurnox" (sa 0) U ∧ vk_R "SinkingChoir$Reader" 109 "bvikfhjurnox" (sa 0) U ∧ vk_R "SinkingChoir$Reader" 67 "pstkd" (sa 1) U ∧
  vk_S 2 [12, 5] [[98, 118, 105, 107, 102, 104, 106, 117, 114, 110, 111, 120], [112, 115, 116, 107, 100]] (fun i => sa i) (fun i => sa (i + 2)) (fun q => B ≤ q) U U.heap ∧
  va_Z "java/lang/String" "COMPACT_STRINGS" "Z" (.int 1) (fun q => B ≤ q) U U.heap ∧
  va_Nw (.methodLinkNest "SinkingChoir$Choir" 39 ⟨"SinkingChoir$Program", "<init>", "()V"⟩ "SinkingChoir") U ∧
  va_Nw (.methodLinkNest "SinkingChoir" 61 ⟨"SinkingChoir$Reel", "<init>", "()V"⟩ "SinkingChoir") U ∧
  va_Nw (.methodLinkNest "SinkingChoir" 68 ⟨"SinkingChoir$Reader", "<init>", "()V"⟩ "SinkingChoir") U ∧
  va_Nw (.methodLinkNest "SinkingChoir$Reader" 17 ⟨"SinkingChoir$Program", "<init>", "()V"⟩ "SinkingChoir") U
theorem STR.to {B : Nat} {sa : Nat → Nat} {s U : State} {H : Heap} {locs : List Loc} (h : STR B sa s) (hS : va_S (fun q => B ≤ q) s.heap H locs) (hH : U.heap = H) (hW : s.WarmedH U.vm) : STR B sa U := by
  obtain ⟨h1, h2, h3, h4, h5, h6, h7, h8, h9⟩ := h
  refine ⟨h1.warm hW, h2.warm hW, h3.warm hW, ?_, ?_, va_Nw.warmM hW h6, va_Nw.warmM hW h7, va_Nw.warmM hW h8, va_Nw.warmM hW h9⟩
  · rw [hH]; exact vk_S.moved hW.alike (h4.kept hS.2.1)
  · rw [hH]; exact va_Z.moved hW.alike (h5.kept hS.2.1)
theorem STR.blind {B : Nat} {sa : Nat → Nat} {U : State} {g : JFrame} {mk : MethodId} {a : Array Value} (h : STR B sa U) : STR B sa (U.calling g mk a) := by
  obtain ⟨h1, h2, h3, h4, h5, h6, h7, h8, h9⟩ := h
  exact ⟨h1.same (u := U) rfl, h2.same (u := U) rfl, h3.same (u := U) rfl, vk_S.moved (u := U) (Vm.Alike.refl U.vm) h4, va_Z.moved (u := U) (Vm.Alike.refl U.vm) h5, va_Nw.same rfl (u := U) rfl h6, va_Nw.same rfl (u := U) rfl h7, va_Nw.same rfl (u := U) rfl h8, va_Nw.same rfl (u := U) rfl h9⟩
/-- what holds all through a method's run -/
def FX (Y : YT) (d nE sE : Nat) (p : Program) (R : Room) (s : State) (m : MethodId) (args : Array Value) (meth : Method) (c : Code) (B : Nat) (D : va_G) (tc : Nat → ClassId) (sa : Nat → Nat) (n0 s0 : Nat) : Prop :=
  p.tables.exec = Jvm.exec ∧ c.code = Y.2.1 ∧ meth.sig.returnType = Y.2.2.2 ∧ c.maxLocals = Y.2.2.1 ∧ s.vm.findClass Y.1.cls = some m.cls ∧ (∀ w ∈ tb, w.before args s = true) ∧ meth.locks = false ∧ meth.name = Y.1.name ∧
  va_K D CLS (TYS tc) s ∧ s.heap.size = B + n0 ∧ nE ≤ n0 + R.cells ∧ sE ≤ s0 + R.slots ∧ d ≤ R.frames ∧ 130 * d ≤ R.locals ∧ nE ≤ LIM ∧ STR B sa s
abbrev CKT : Type := Program → Env → Room → State → MethodId → Array Value → List Frame → Method → Code → Nat → va_G → (Nat → ClassId) → (Nat → Nat) → Nat → Nat → (State → Prop) → Prop
/-- from this place, with these locals, this stack and this memory, the run comes to its end as CK wants it; nE, sE: how many cells and slots there will be -/
def AW (CK : CKT) (l : Launch) (Y : YT) (d nE sE pc : Nat) (loc : List (Option Value)) (st : List Value) (μ : MM) : Prop :=
  nc μ ≤ nE ∧ nsl μ ≤ sE ∧ ∀ (p : Program) (e : Env) (R : Room) (s : State) (m : MethodId) (args : Array Value) (below : List Frame) (meth : Method) (c : Code) (B : Nat) (D : va_G) (tc : Nat → ClassId) (sa : Nat → Nat) (n0 s0 : Nat) (Q : State → Prop),
    CK p e R s m args below meth c B D tc sa n0 s0 Q → FX Y d nE sE p R s m args meth c B D tc sa n0 s0 →
    ∀ (H : Heap) (locs : List Loc) (ls : Array Slot) (cells slots : Nat), va_P D CLS (wz (adr B sa) tc μ) H → va_S (fun q => B ≤ q) s.heap H locs → LH (adr B sa) loc ls Y.2.2.1 → n0 + cells = nc μ → s0 + slots = nsl μ →
      W p l e R s m args below meth c H locs cells slots Q (F0 m pc ls (st.map (cv (adr B sa))))
section AWR
variable {CK : CKT} {l : Launch} {Y : YT} {d nE sE pc n : Nat} {loc loc' : List (Option Value)} {st : List Value} {μ : MM}
/-- an instruction that touches neither memory nor locals -/
theorem AW.pure {pc' : Nat} {st' : List Value} (k : AW CK l Y d nE sE pc' loc st' μ)
    (h : ∀ {p : Program} {e : Env} {R : Room} {s : State} {m : MethodId} {args : Array Value} {below : List Frame} {meth : Method} {c : Code} {H : Heap} {locs : List Loc} {cells slots : Nat} {Q : State → Prop} {ls : Array Slot} (f : Nat → Nat), p.tables.exec = Jvm.exec → c.code = Y.2.1 →
      s.vm.findClass Y.1.cls = some m.cls → (∀ w ∈ tb, w.before args s = true) → LH f loc ls Y.2.2.1 →
      W p l e R s m args below meth c H locs cells slots Q (F0 m pc' ls (st'.map (cv f))) → W p l e R s m args below meth c H locs cells slots Q (F0 m pc ls (st.map (cv f)))) : AW CK l Y d nE sE pc loc st μ := by
  refine ⟨k.1, k.2.1, fun p e R s m args below meth c B D tc sa n0 s0 Q hC hF H locs ls cells slots hP hS hL hc hs => ?_⟩
  exact h (adr B sa) hF.1 hF.2.1 hF.2.2.2.2.1 hF.2.2.2.2.2.1 hL (k.2.2 p e R s m args below meth c B D tc sa n0 s0 Q hC hF H locs ls cells slots hP hS hL hc hs)
/-- two ways -/
theorem AW.pure2 {c1 : Prop} {pc1 pc2 : Nat} {st' : List Value} [Decidable c1] (k1 : c1 → AW CK l Y d nE sE pc1 loc st' μ) (k2 : ¬ c1 → AW CK l Y d nE sE pc2 loc st' μ)
    (h : ∀ {p : Program} {e : Env} {R : Room} {s : State} {m : MethodId} {args : Array Value} {below : List Frame} {meth : Method} {c : Code} {H : Heap} {locs : List Loc} {cells slots : Nat} {Q : State → Prop} {ls : Array Slot} (f : Nat → Nat), p.tables.exec = Jvm.exec → c.code = Y.2.1 →
      (c1 → W p l e R s m args below meth c H locs cells slots Q (F0 m pc1 ls (st'.map (cv f)))) → (¬ c1 → W p l e R s m args below meth c H locs cells slots Q (F0 m pc2 ls (st'.map (cv f)))) → W p l e R s m args below meth c H locs cells slots Q (F0 m pc ls (st.map (cv f)))) : AW CK l Y d nE sE pc loc st μ := by
  have hk : nc μ ≤ nE ∧ nsl μ ≤ sE := by
    by_cases z : c1
    · exact ⟨(k1 z).1, (k1 z).2.1⟩
    · exact ⟨(k2 z).1, (k2 z).2.1⟩
  refine ⟨hk.1, hk.2, fun p e R s m args below meth c B D tc sa n0 s0 Q hC hF H locs ls cells slots hP hS hL hc hs => ?_⟩
  exact h (adr B sa) hF.1 hF.2.1 (fun z => (k1 z).2.2 p e R s m args below meth c B D tc sa n0 s0 Q hC hF H locs ls cells slots hP hS hL hc hs) (fun z => (k2 z).2.2 p e R s m args below meth c B D tc sa n0 s0 Q hC hF H locs ls cells slots hP hS hL hc hs)
theorem aw_iconst {v : Int32} {z : Int} (n : Nat) (hd : decode Y.2.1 pc = .ok (.iconst z, 1)) (hn : pc + 1 = n) (hv : Int32.ofInt z = v) (k : AW CK l Y d nE sE n loc (.int v :: st) μ) : AW CK l Y d nE sE pc loc st μ := by
  subst hn; exact k.pure (fun f hx hb _ _ _ kk => lv_iconst hx hb hd hv kk)
theorem aw_bipush {v : Int32} {z : Int} (n : Nat) (hd : decode Y.2.1 pc = .ok (.bipush z, 2)) (hn : pc + 2 = n) (hv : (Int8.ofInt z).toInt32 = v) (k : AW CK l Y d nE sE n loc (.int v :: st) μ) : AW CK l Y d nE sE pc loc st μ := by
  subst hn; exact k.pure (fun f hx hb _ _ _ kk => lv_bipush hx hb hd hv kk)
theorem aw_sipush {v : Int32} {z : Int} (n : Nat) (hd : decode Y.2.1 pc = .ok (.sipush z, 3)) (hn : pc + 3 = n) (hv : (Int16.ofInt z).toInt32 = v) (k : AW CK l Y d nE sE n loc (.int v :: st) μ) : AW CK l Y d nE sE pc loc st μ := by
  subst hn; exact k.pure (fun f hx hb _ _ _ kk => lv_sipush hx hb hd hv kk)
theorem aw_lconst {v : Int64} {z : Fin 2} (n : Nat) (hd : decode Y.2.1 pc = .ok (.lconst z, 1)) (hn : pc + 1 = n) (hv : Int64.ofNat (z : Nat) = v) (k : AW CK l Y d nE sE n loc (.long v :: st) μ) : AW CK l Y d nE sE pc loc st μ := by
  subst hn; exact k.pure (fun f hx hb _ _ _ kk => lv_lconst hx hb hd hv kk)
theorem aw_ldc {v : Int32} {ix : Nat} (n : Nat) (hd : decode Y.2.1 pc = .ok (.ldc ix, 2)) (hn : pc + 2 = n) (hw : Jvm.Cond.constant Y.1.cls ix v ∈ tb) (k : AW CK l Y d nE sE n loc (.int v :: st) μ) : AW CK l Y d nE sE pc loc st μ := by
  subst hn; exact k.pure (fun f hx hb ho ht _ kk => lv_ldc hx hb ho (ht _ hw) hd kk)
theorem aw_ldc_w {v : Int32} {ix : Nat} (n : Nat) (hd : decode Y.2.1 pc = .ok (.ldc_w ix, 3)) (hn : pc + 3 = n) (hw : Jvm.Cond.constant Y.1.cls ix v ∈ tb) (k : AW CK l Y d nE sE n loc (.int v :: st) μ) : AW CK l Y d nE sE pc loc st μ := by
  subst hn; exact k.pure (fun f hx hb ho ht _ kk => lv_ldcw hx hb ho (ht _ hw) hd kk)
theorem aw_ldc2 {v : Int64} {ix : Nat} (n : Nat) (hd : decode Y.2.1 pc = .ok (.ldc2_w ix, 3)) (hn : pc + 3 = n) (hw : Jvm.Cond.constantLong Y.1.cls ix v ∈ tb) (k : AW CK l Y d nE sE n loc (.long v :: st) μ) : AW CK l Y d nE sE pc loc st μ := by
  subst hn; exact k.pure (fun f hx hb ho ht _ kk => lv_ldc2 hx hb ho (ht _ hw) hd kk)
theorem aw_null (n : Nat) (hd : decode Y.2.1 pc = .ok (.aconst_null, 1)) (hn : pc + 1 = n) (k : AW CK l Y d nE sE n loc (.null :: st) μ) : AW CK l Y d nE sE pc loc st μ := by
  subst hn; exact k.pure (fun f hx hb _ _ _ kk => lv_null hx hb hd kk)
theorem aw_iload_n {z : Fin 4} {x : Int32} (n : Nat) (hd : decode Y.2.1 pc = .ok (.iload_n z, 1)) (hn : pc + 1 = n) (hl : loc[(z : Nat)]? = some (some (.int x))) (k : AW CK l Y d nE sE n loc (.int x :: st) μ) : AW CK l Y d nE sE pc loc st μ := by
  subst hn; exact k.pure (fun f hx hb _ _ hL kk => lv_iload_n hx hb hd rfl (hL.get hl) kk)
theorem aw_iload {i : Nat} {x : Int32} (n : Nat) (hd : decode Y.2.1 pc = .ok (.iload i, 2)) (hn : pc + 2 = n) (hl : loc[i]? = some (some (.int x))) (k : AW CK l Y d nE sE n loc (.int x :: st) μ) : AW CK l Y d nE sE pc loc st μ := by
  subst hn; exact k.pure (fun f hx hb _ _ hL kk => lv_iload hx hb hd (hL.get hl) kk)
theorem aw_lload_n {z : Fin 4} {x : Int64} (n : Nat) (hd : decode Y.2.1 pc = .ok (.lload_n z, 1)) (hn : pc + 1 = n) (hl : loc[(z : Nat)]? = some (some (.long x))) (k : AW CK l Y d nE sE n loc (.long x :: st) μ) : AW CK l Y d nE sE pc loc st μ := by
  subst hn; exact k.pure (fun f hx hb _ _ hL kk => lv_lload_n hx hb hd rfl (hL.get hl) kk)
theorem aw_lload {i : Nat} {x : Int64} (n : Nat) (hd : decode Y.2.1 pc = .ok (.lload i, 2)) (hn : pc + 2 = n) (hl : loc[i]? = some (some (.long x))) (k : AW CK l Y d nE sE n loc (.long x :: st) μ) : AW CK l Y d nE sE pc loc st μ := by
  subst hn; exact k.pure (fun f hx hb _ _ hL kk => lv_lload hx hb hd (hL.get hl) kk)
theorem aw_aload_n {z : Fin 4} {x : Nat} (n : Nat) (hd : decode Y.2.1 pc = .ok (.aload_n z, 1)) (hn : pc + 1 = n) (hl : loc[(z : Nat)]? = some (some (.ref x))) (k : AW CK l Y d nE sE n loc (.ref x :: st) μ) : AW CK l Y d nE sE pc loc st μ := by
  subst hn; exact k.pure (fun f hx hb _ _ hL kk => lv_aload_n hx hb hd rfl (hL.get hl) kk)
theorem aw_aload {i : Nat} {x : Nat} (n : Nat) (hd : decode Y.2.1 pc = .ok (.aload i, 2)) (hn : pc + 2 = n) (hl : loc[i]? = some (some (.ref x))) (k : AW CK l Y d nE sE n loc (.ref x :: st) μ) : AW CK l Y d nE sE pc loc st μ := by
  subst hn; exact k.pure (fun f hx hb _ _ hL kk => lv_aload hx hb hd (hL.get hl) kk)
/-- a reference or null -/
theorem aw_aload_nq {z : Fin 4} {x : Option Nat} (n : Nat) (hd : decode Y.2.1 pc = .ok (.aload_n z, 1)) (hn : pc + 1 = n) (hl : loc[(z : Nat)]? = some (some (va_rf x))) (k : AW CK l Y d nE sE n loc (va_rf x :: st) μ) : AW CK l Y d nE sE pc loc st μ := by
  subst hn
  cases x with
  | some x => exact aw_aload_n _ hd rfl hl k
  | none => exact k.pure (fun f hx hb _ _ hL kk => lv_aload_nN hx hb hd rfl (hL.get hl) kk)
section
variable {x y : Int32} {xl yl : Int64}
theorem aw_iadd (n : Nat) (hd : decode Y.2.1 pc = .ok (.iadd, 1)) (hn : pc + 1 = n) (k : AW CK l Y d nE sE n loc (.int (x + y) :: st) μ) : AW CK l Y d nE sE pc loc (.int y :: .int x :: st) μ := by
  subst hn; exact k.pure (fun f hx hb _ _ _ kk => lv_iadd hx hb hd kk)
theorem aw_isub (n : Nat) (hd : decode Y.2.1 pc = .ok (.isub, 1)) (hn : pc + 1 = n) (k : AW CK l Y d nE sE n loc (.int (x - y) :: st) μ) : AW CK l Y d nE sE pc loc (.int y :: .int x :: st) μ := by
  subst hn; exact k.pure (fun f hx hb _ _ _ kk => lv_isub hx hb hd kk)
theorem aw_imul (n : Nat) (hd : decode Y.2.1 pc = .ok (.imul, 1)) (hn : pc + 1 = n) (k : AW CK l Y d nE sE n loc (.int (x * y) :: st) μ) : AW CK l Y d nE sE pc loc (.int y :: .int x :: st) μ := by
  subst hn; exact k.pure (fun f hx hb _ _ _ kk => lv_imul hx hb hd kk)
theorem aw_iand (n : Nat) (hd : decode Y.2.1 pc = .ok (.iand, 1)) (hn : pc + 1 = n) (k : AW CK l Y d nE sE n loc (.int (x &&& y) :: st) μ) : AW CK l Y d nE sE pc loc (.int y :: .int x :: st) μ := by
  subst hn; exact k.pure (fun f hx hb _ _ _ kk => lv_iand hx hb hd kk)
theorem aw_ior (n : Nat) (hd : decode Y.2.1 pc = .ok (.ior, 1)) (hn : pc + 1 = n) (k : AW CK l Y d nE sE n loc (.int (x ||| y) :: st) μ) : AW CK l Y d nE sE pc loc (.int y :: .int x :: st) μ := by
  subst hn; exact k.pure (fun f hx hb _ _ _ kk => lv_ior hx hb hd kk)
theorem aw_ixor (n : Nat) (hd : decode Y.2.1 pc = .ok (.ixor, 1)) (hn : pc + 1 = n) (k : AW CK l Y d nE sE n loc (.int (x ^^^ y) :: st) μ) : AW CK l Y d nE sE pc loc (.int y :: .int x :: st) μ := by
  subst hn; exact k.pure (fun f hx hb _ _ _ kk => lv_ixor hx hb hd kk)
theorem aw_idiv (n : Nat) (hd : decode Y.2.1 pc = .ok (.idiv, 1)) (hn : pc + 1 = n) (hz : ¬ y = 0) (k : AW CK l Y d nE sE n loc (.int (x / y) :: st) μ) : AW CK l Y d nE sE pc loc (.int y :: .int x :: st) μ := by
  subst hn; exact k.pure (fun f hx hb _ _ _ kk => lv_idiv hx hb hd hz kk)
theorem aw_irem (n : Nat) (hd : decode Y.2.1 pc = .ok (.irem, 1)) (hn : pc + 1 = n) (hz : ¬ y = 0) (k : AW CK l Y d nE sE n loc (.int (irem x y) :: st) μ) : AW CK l Y d nE sE pc loc (.int y :: .int x :: st) μ := by
  subst hn; exact k.pure (fun f hx hb _ _ _ kk => lv_irem hx hb hd hz kk)
theorem aw_ineg (n : Nat) (hd : decode Y.2.1 pc = .ok (.ineg, 1)) (hn : pc + 1 = n) (k : AW CK l Y d nE sE n loc (.int (-x) :: st) μ) : AW CK l Y d nE sE pc loc (.int x :: st) μ := by
  subst hn; exact k.pure (fun f hx hb _ _ _ kk => lv_ineg hx hb hd kk)
theorem aw_ishl (n : Nat) (hd : decode Y.2.1 pc = .ok (.ishl, 1)) (hn : pc + 1 = n) (k : AW CK l Y d nE sE n loc (.int (ishl x y) :: st) μ) : AW CK l Y d nE sE pc loc (.int y :: .int x :: st) μ := by
  subst hn; exact k.pure (fun f hx hb _ _ _ kk => lv_ishl hx hb hd kk)
theorem aw_ishr (n : Nat) (hd : decode Y.2.1 pc = .ok (.ishr, 1)) (hn : pc + 1 = n) (k : AW CK l Y d nE sE n loc (.int (ishr x y) :: st) μ) : AW CK l Y d nE sE pc loc (.int y :: .int x :: st) μ := by
  subst hn; exact k.pure (fun f hx hb _ _ _ kk => lv_ishr hx hb hd kk)
theorem aw_iushr (n : Nat) (hd : decode Y.2.1 pc = .ok (.iushr, 1)) (hn : pc + 1 = n) (k : AW CK l Y d nE sE n loc (.int (iushr x y) :: st) μ) : AW CK l Y d nE sE pc loc (.int y :: .int x :: st) μ := by
  subst hn; exact k.pure (fun f hx hb _ _ _ kk => lv_iushr hx hb hd rfl kk)
theorem aw_i2l (n : Nat) (hd : decode Y.2.1 pc = .ok (.i2l, 1)) (hn : pc + 1 = n) (k : AW CK l Y d nE sE n loc (.long x.toInt64 :: st) μ) : AW CK l Y d nE sE pc loc (.int x :: st) μ := by
  subst hn; exact k.pure (fun f hx hb _ _ _ kk => lv_i2l hx hb hd rfl kk)
theorem aw_l2i (n : Nat) (hd : decode Y.2.1 pc = .ok (.l2i, 1)) (hn : pc + 1 = n) (k : AW CK l Y d nE sE n loc (.int xl.toInt32 :: st) μ) : AW CK l Y d nE sE pc loc (.long xl :: st) μ := by
  subst hn; exact k.pure (fun f hx hb _ _ _ kk => lv_l2i hx hb hd rfl kk)
theorem aw_i2b (n : Nat) (hd : decode Y.2.1 pc = .ok (.i2b, 1)) (hn : pc + 1 = n) (k : AW CK l Y d nE sE n loc (.int x.toInt8.toInt32 :: st) μ) : AW CK l Y d nE sE pc loc (.int x :: st) μ := by
  subst hn; exact k.pure (fun f hx hb _ _ _ kk => lv_i2b hx hb hd rfl kk)
theorem aw_i2c (n : Nat) (hd : decode Y.2.1 pc = .ok (.i2c, 1)) (hn : pc + 1 = n) (k : AW CK l Y d nE sE n loc (.int (i2c x) :: st) μ) : AW CK l Y d nE sE pc loc (.int x :: st) μ := by
  subst hn; exact k.pure (fun f hx hb _ _ _ kk => lv_i2c hx hb hd rfl kk)
theorem aw_ladd (n : Nat) (hd : decode Y.2.1 pc = .ok (.ladd, 1)) (hn : pc + 1 = n) (k : AW CK l Y d nE sE n loc (.long (xl + yl) :: st) μ) : AW CK l Y d nE sE pc loc (.long yl :: .long xl :: st) μ := by
  subst hn; exact k.pure (fun f hx hb _ _ _ kk => lv_ladd hx hb hd kk)
theorem aw_lsub (n : Nat) (hd : decode Y.2.1 pc = .ok (.lsub, 1)) (hn : pc + 1 = n) (k : AW CK l Y d nE sE n loc (.long (xl - yl) :: st) μ) : AW CK l Y d nE sE pc loc (.long yl :: .long xl :: st) μ := by
  subst hn; exact k.pure (fun f hx hb _ _ _ kk => lv_lsub hx hb hd kk)
theorem aw_lmul (n : Nat) (hd : decode Y.2.1 pc = .ok (.lmul, 1)) (hn : pc + 1 = n) (k : AW CK l Y d nE sE n loc (.long (xl * yl) :: st) μ) : AW CK l Y d nE sE pc loc (.long yl :: .long xl :: st) μ := by
  subst hn; exact k.pure (fun f hx hb _ _ _ kk => lv_lmul hx hb hd kk)
theorem aw_lxor (n : Nat) (hd : decode Y.2.1 pc = .ok (.lxor, 1)) (hn : pc + 1 = n) (k : AW CK l Y d nE sE n loc (.long (xl ^^^ yl) :: st) μ) : AW CK l Y d nE sE pc loc (.long yl :: .long xl :: st) μ := by
  subst hn; exact k.pure (fun f hx hb _ _ _ kk => lv_lxor hx hb hd kk)
theorem aw_ldiv (n : Nat) (hd : decode Y.2.1 pc = .ok (.ldiv, 1)) (hn : pc + 1 = n) (hz : ¬ yl = 0) (k : AW CK l Y d nE sE n loc (.long (xl / yl) :: st) μ) : AW CK l Y d nE sE pc loc (.long yl :: .long xl :: st) μ := by
  subst hn; exact k.pure (fun f hx hb _ _ _ kk => lv_ldiv hx hb hd hz kk)
theorem aw_lneg (n : Nat) (hd : decode Y.2.1 pc = .ok (.lneg, 1)) (hn : pc + 1 = n) (k : AW CK l Y d nE sE n loc (.long (-xl) :: st) μ) : AW CK l Y d nE sE pc loc (.long xl :: st) μ := by
  subst hn; exact k.pure (fun f hx hb _ _ _ kk => lv_lneg hx hb hd kk)
theorem aw_lcmp (n : Nat) (hd : decode Y.2.1 pc = .ok (.lcmp, 1)) (hn : pc + 1 = n) (k : AW CK l Y d nE sE n loc (.int (lg_cmp xl yl) :: st) μ) : AW CK l Y d nE sE pc loc (.long yl :: .long xl :: st) μ := by
  subst hn; exact k.pure (fun f hx hb _ _ _ kk => W.lcmp hx hb hd kk)
theorem aw_dup {v : Value} (n : Nat) (hd : decode Y.2.1 pc = .ok (.dup, 1)) (hn : pc + 1 = n) (hv : v.category = 1) (k : AW CK l Y d nE sE n loc (v :: v :: st) μ) : AW CK l Y d nE sE pc loc (v :: st) μ := by
  subst hn; exact k.pure (fun f hx hb _ _ _ kk => lv_dup hx hb hd (by rw [cv_cat]; exact hv) kk)
theorem aw_dup2 {v w : Value} (n : Nat) (hd : decode Y.2.1 pc = .ok (.dup2, 1)) (hn : pc + 1 = n) (hv : v.category = 1) (hw : w.category = 1) (k : AW CK l Y d nE sE n loc (v :: w :: v :: w :: st) μ) : AW CK l Y d nE sE pc loc (v :: w :: st) μ := by
  subst hn; exact k.pure (fun f hx hb _ _ _ kk => lv_dup2_11 hx hb hd (by rw [cv_cat]; exact hv) (by rw [cv_cat]; exact hw) kk)
theorem aw_pop {v : Value} (n : Nat) (hd : decode Y.2.1 pc = .ok (.pop, 1)) (hn : pc + 1 = n) (hv : v.category = 1) (k : AW CK l Y d nE sE n loc st μ) : AW CK l Y d nE sE pc loc (v :: st) μ := by
  subst hn; exact k.pure (fun f hx hb _ _ _ kk => lv_pop hx hb hd (by rw [cv_cat]; exact hv) kk)
theorem aw_goto {off : Int} (t : Nat) (hd : decode Y.2.1 pc = .ok (.goto off, 3)) (ht : (pc : Int) + off = (t : Int)) (k : AW CK l Y d nE sE t loc st μ) : AW CK l Y d nE sE pc loc st μ :=
  k.pure (fun f hx hb _ _ _ kk => lv_goto hx hb hd ht kk)
theorem aw_if_eq {off : Int} (t n : Nat) (hd : decode Y.2.1 pc = .ok (.ifCond .eq off, 3)) (ht : (pc : Int) + off = (t : Int)) (hn : pc + 3 = n) (k1 : x = 0 → AW CK l Y d nE sE t loc st μ) (k2 : ¬ x = 0 → AW CK l Y d nE sE n loc st μ) : AW CK l Y d nE sE pc loc (.int x :: st) μ := by
  subst hn; exact AW.pure2 k1 k2 (fun f hx hb a b => lv_if_eq hx hb hd ht a b)
theorem aw_if_ne {off : Int} (t n : Nat) (hd : decode Y.2.1 pc = .ok (.ifCond .ne off, 3)) (ht : (pc : Int) + off = (t : Int)) (hn : pc + 3 = n) (k1 : ¬ x = 0 → AW CK l Y d nE sE t loc st μ) (k2 : x = 0 → AW CK l Y d nE sE n loc st μ) : AW CK l Y d nE sE pc loc (.int x :: st) μ := by
  subst hn; exact AW.pure2 k2 k1 (fun f hx hb a b => lv_if_ne hx hb hd ht b a)
theorem aw_if_lt {off : Int} (t n : Nat) (hd : decode Y.2.1 pc = .ok (.ifCond .lt off, 3)) (ht : (pc : Int) + off = (t : Int)) (hn : pc + 3 = n) (k1 : x < 0 → AW CK l Y d nE sE t loc st μ) (k2 : ¬ x < 0 → AW CK l Y d nE sE n loc st μ) : AW CK l Y d nE sE pc loc (.int x :: st) μ := by
  subst hn; exact AW.pure2 k1 k2 (fun f hx hb a b => lv_if_lt hx hb hd ht a b)
theorem aw_if_ge {off : Int} (t n : Nat) (hd : decode Y.2.1 pc = .ok (.ifCond .ge off, 3)) (ht : (pc : Int) + off = (t : Int)) (hn : pc + 3 = n) (k1 : 0 ≤ x → AW CK l Y d nE sE t loc st μ) (k2 : ¬ 0 ≤ x → AW CK l Y d nE sE n loc st μ) : AW CK l Y d nE sE pc loc (.int x :: st) μ := by
  subst hn; exact AW.pure2 k1 k2 (fun f hx hb a b => lv_if_ge hx hb hd ht a b)
theorem aw_if_gt {off : Int} (t n : Nat) (hd : decode Y.2.1 pc = .ok (.ifCond .gt off, 3)) (ht : (pc : Int) + off = (t : Int)) (hn : pc + 3 = n) (k1 : 0 < x → AW CK l Y d nE sE t loc st μ) (k2 : ¬ 0 < x → AW CK l Y d nE sE n loc st μ) : AW CK l Y d nE sE pc loc (.int x :: st) μ := by
  subst hn; exact AW.pure2 k1 k2 (fun f hx hb a b => lv_if_gt hx hb hd ht a b)
theorem aw_if_le {off : Int} (t n : Nat) (hd : decode Y.2.1 pc = .ok (.ifCond .le off, 3)) (ht : (pc : Int) + off = (t : Int)) (hn : pc + 3 = n) (k1 : x ≤ 0 → AW CK l Y d nE sE t loc st μ) (k2 : ¬ x ≤ 0 → AW CK l Y d nE sE n loc st μ) : AW CK l Y d nE sE pc loc (.int x :: st) μ := by
  subst hn; exact AW.pure2 k1 k2 (fun f hx hb a b => lv_if_le hx hb hd ht a b)
theorem aw_icmp_eq {off : Int} (t n : Nat) (hd : decode Y.2.1 pc = .ok (.if_icmp .eq off, 3)) (ht : (pc : Int) + off = (t : Int)) (hn : pc + 3 = n) (k1 : x = y → AW CK l Y d nE sE t loc st μ) (k2 : ¬ x = y → AW CK l Y d nE sE n loc st μ) : AW CK l Y d nE sE pc loc (.int y :: .int x :: st) μ := by
  subst hn; exact AW.pure2 k1 k2 (fun f hx hb a b => lv_icmp_eq hx hb hd ht a b)
theorem aw_icmp_ne {off : Int} (t n : Nat) (hd : decode Y.2.1 pc = .ok (.if_icmp .ne off, 3)) (ht : (pc : Int) + off = (t : Int)) (hn : pc + 3 = n) (k1 : ¬ x = y → AW CK l Y d nE sE t loc st μ) (k2 : x = y → AW CK l Y d nE sE n loc st μ) : AW CK l Y d nE sE pc loc (.int y :: .int x :: st) μ := by
  subst hn; exact AW.pure2 k2 k1 (fun f hx hb a b => lv_icmp_ne hx hb hd ht b a)
theorem aw_icmp_lt {off : Int} (t n : Nat) (hd : decode Y.2.1 pc = .ok (.if_icmp .lt off, 3)) (ht : (pc : Int) + off = (t : Int)) (hn : pc + 3 = n) (k1 : x < y → AW CK l Y d nE sE t loc st μ) (k2 : ¬ x < y → AW CK l Y d nE sE n loc st μ) : AW CK l Y d nE sE pc loc (.int y :: .int x :: st) μ := by
  subst hn; exact AW.pure2 k1 k2 (fun f hx hb a b => lv_icmp_lt hx hb hd ht a b)
theorem aw_icmp_ge {off : Int} (t n : Nat) (hd : decode Y.2.1 pc = .ok (.if_icmp .ge off, 3)) (ht : (pc : Int) + off = (t : Int)) (hn : pc + 3 = n) (k1 : y ≤ x → AW CK l Y d nE sE t loc st μ) (k2 : ¬ y ≤ x → AW CK l Y d nE sE n loc st μ) : AW CK l Y d nE sE pc loc (.int y :: .int x :: st) μ := by
  subst hn; exact AW.pure2 k1 k2 (fun f hx hb a b => lv_icmp_ge hx hb hd ht a b)
theorem aw_icmp_gt {off : Int} (t n : Nat) (hd : decode Y.2.1 pc = .ok (.if_icmp .gt off, 3)) (ht : (pc : Int) + off = (t : Int)) (hn : pc + 3 = n) (k1 : y < x → AW CK l Y d nE sE t loc st μ) (k2 : ¬ y < x → AW CK l Y d nE sE n loc st μ) : AW CK l Y d nE sE pc loc (.int y :: .int x :: st) μ := by
  subst hn; exact AW.pure2 k1 k2 (fun f hx hb a b => lv_icmp_gt hx hb hd ht a b)
theorem aw_icmp_le {off : Int} (t n : Nat) (hd : decode Y.2.1 pc = .ok (.if_icmp .le off, 3)) (ht : (pc : Int) + off = (t : Int)) (hn : pc + 3 = n) (k1 : x ≤ y → AW CK l Y d nE sE t loc st μ) (k2 : ¬ x ≤ y → AW CK l Y d nE sE n loc st μ) : AW CK l Y d nE sE pc loc (.int y :: .int x :: st) μ := by
  subst hn; exact AW.pure2 k1 k2 (fun f hx hb a b => lv_icmp_le hx hb hd ht a b)
theorem aw_ifnull {x : Option Nat} {off : Int} (t n : Nat) (hd : decode Y.2.1 pc = .ok (.ifnull off, 3)) (ht : (pc : Int) + off = (t : Int)) (hn : pc + 3 = n) (k1 : x = none → AW CK l Y d nE sE t loc st μ) (k2 : ∀ a, x = some a → AW CK l Y d nE sE n loc st μ) : AW CK l Y d nE sE pc loc (va_rf x :: st) μ := by
  subst hn
  cases x with
  | none => exact (k1 rfl).pure (fun f hx hb _ _ _ kk => lv_ifnullN hx hb hd ht kk)
  | some a => exact (k2 a rfl).pure (fun f hx hb _ _ _ kk => lv_ifnull hx hb hd kk)
theorem aw_ifnonnull {x : Option Nat} {off : Int} (t n : Nat) (hd : decode Y.2.1 pc = .ok (.ifnonnull off, 3)) (ht : (pc : Int) + off = (t : Int)) (hn : pc + 3 = n) (k1 : ∀ a, x = some a → AW CK l Y d nE sE t loc st μ) (k2 : x = none → AW CK l Y d nE sE n loc st μ) : AW CK l Y d nE sE pc loc (va_rf x :: st) μ := by
  subst hn
  cases x with
  | none => exact (k2 rfl).pure (fun f hx hb _ _ _ kk => lv_ifnonnullN hx hb hd kk)
  | some a => exact (k1 a rfl).pure (fun f hx hb _ _ _ kk => lv_ifnonnull hx hb hd ht kk)
theorem aw_tableIn {dflt lo hi : Int} {offs : Array Int} {len : Nat} {off : Int} (t : Nat) (hd : decode Y.2.1 pc = .ok (.tableswitch dflt lo hi offs, len)) (h1 : ¬ x.toInt < lo) (h2 : ¬ hi < x.toInt) (ho : offs[(x.toInt - lo).toNat]? = some off) (ht : (pc : Int) + off = (t : Int)) (k : AW CK l Y d nE sE t loc st μ) : AW CK l Y d nE sE pc loc (.int x :: st) μ :=
  k.pure (fun f hx hb _ _ _ kk => lv_tableIn hx hb hd h1 h2 ho ht kk)
theorem aw_tableOut {dflt lo hi : Int} {offs : Array Int} {len : Nat} (t : Nat) (hd : decode Y.2.1 pc = .ok (.tableswitch dflt lo hi offs, len)) (h : x.toInt < lo ∨ hi < x.toInt) (ht : (pc : Int) + dflt = (t : Int)) (k : AW CK l Y d nE sE t loc st μ) : AW CK l Y d nE sE pc loc (.int x :: st) μ :=
  k.pure (fun f hx hb _ _ _ kk => lv_tableOut hx hb hd h ht kk)
theorem aw_lookup {dflt : Int} {ps : Array (Int × Int)} {len : Nat} {off : Int} (t : Nat) (hd : decode Y.2.1 pc = .ok (.lookupswitch dflt ps, len)) (hp : (ps.toList.zip (ps.toList.drop 1)).all (fun (a, next) => a.1 < next.1) = true) (ho : Op.lookupswitch.offset ps.toList dflt x.toInt = off) (ht : (pc : Int) + off = (t : Int)) (k : AW CK l Y d nE sE t loc st μ) : AW CK l Y d nE sE pc loc (.int x :: st) μ :=
  k.pure (fun f hx hb _ _ _ kk => lv_lookup hx hb hd hp ho ht kk)
end
/-- an instruction that sets a local -/
theorem AW.stl {pc' : Nat} {st' : List Value} (k : AW CK l Y d nE sE pc' loc' st' μ)
    (h : ∀ {p : Program} {e : Env} {R : Room} {s : State} {m : MethodId} {args : Array Value} {below : List Frame} {meth : Method} {c : Code} {H : Heap} {locs : List Loc} {cells slots : Nat} {Q : State → Prop} {ls : Array Slot} (f : Nat → Nat), p.tables.exec = Jvm.exec → c.code = Y.2.1 → LH f loc ls Y.2.2.1 →
      (∀ ls' : Array Slot, LH f loc' ls' Y.2.2.1 → W p l e R s m args below meth c H locs cells slots Q (F0 m pc' ls' (st'.map (cv f)))) → W p l e R s m args below meth c H locs cells slots Q (F0 m pc ls (st.map (cv f)))) : AW CK l Y d nE sE pc loc st μ := by
  refine ⟨k.1, k.2.1, fun p e R s m args below meth c B D tc sa n0 s0 Q hC hF H locs ls cells slots hP hS hL hc hs => ?_⟩
  exact h (adr B sa) hF.1 hF.2.1 hL (fun ls' hL' => k.2.2 p e R s m args below meth c B D tc sa n0 s0 Q hC hF H locs ls' cells slots hP hS hL' hc hs)
theorem aw_istore_n {z : Fin 4} {x : Int32} (n : Nat) (hd : decode Y.2.1 pc = .ok (.istore_n z, 1)) (hn : pc + 1 = n) (hi : (z : Nat) < Y.2.2.1) (hl : st1 loc z (.int x) = loc') (k : AW CK l Y d nE sE n loc' st μ) : AW CK l Y d nE sE pc loc (.int x :: st) μ := by
  subst hn; subst hl; exact k.stl (fun f hx hb hL kk => lv_istore_n hx hb hd rfl hL hi rfl (fun ls' h' => kk ls' (LH.st1 h')))
theorem aw_istore {i : Nat} {x : Int32} (n : Nat) (hd : decode Y.2.1 pc = .ok (.istore i, 2)) (hn : pc + 2 = n) (hi : i < Y.2.2.1) (hl : st1 loc i (.int x) = loc') (k : AW CK l Y d nE sE n loc' st μ) : AW CK l Y d nE sE pc loc (.int x :: st) μ := by
  subst hn; subst hl; exact k.stl (fun f hx hb hL kk => lv_istore hx hb hd hL hi rfl (fun ls' h' => kk ls' (LH.st1 h')))
theorem aw_lstore_n {z : Fin 4} {x : Int64} (n : Nat) (hd : decode Y.2.1 pc = .ok (.lstore_n z, 1)) (hn : pc + 1 = n) (hi : (z : Nat) + 1 < Y.2.2.1) (hl : st2 loc z (.long x) = loc') (k : AW CK l Y d nE sE n loc' st μ) : AW CK l Y d nE sE pc loc (.long x :: st) μ := by
  subst hn; subst hl; exact k.stl (fun f hx hb hL kk => lv_lstore_n hx hb hd rfl hL hi rfl (fun ls' h' => kk ls' (LH.st2 h')))
theorem aw_lstore {i : Nat} {x : Int64} (n : Nat) (hd : decode Y.2.1 pc = .ok (.lstore i, 2)) (hn : pc + 2 = n) (hi : i + 1 < Y.2.2.1) (hl : st2 loc i (.long x) = loc') (k : AW CK l Y d nE sE n loc' st μ) : AW CK l Y d nE sE pc loc (.long x :: st) μ := by
  subst hn; subst hl; exact k.stl (fun f hx hb hL kk => lv_lstore hx hb hd hL hi rfl (fun ls' h' => kk ls' (LH.st2 h')))
theorem aw_astore_n {z : Fin 4} {x : Nat} (n : Nat) (hd : decode Y.2.1 pc = .ok (.astore_n z, 1)) (hn : pc + 1 = n) (hi : (z : Nat) < Y.2.2.1) (hl : st1 loc z (.ref x) = loc') (k : AW CK l Y d nE sE n loc' st μ) : AW CK l Y d nE sE pc loc (.ref x :: st) μ := by
  subst hn; subst hl; exact k.stl (fun f hx hb hL kk => lv_astore_n hx hb hd rfl hL hi rfl (fun ls' h' => kk ls' (LH.st1 h')))
theorem aw_astore_nq {z : Fin 4} {x : Option Nat} (n : Nat) (hd : decode Y.2.1 pc = .ok (.astore_n z, 1)) (hn : pc + 1 = n) (hi : (z : Nat) < Y.2.2.1) (hl : st1 loc z (va_rf x) = loc') (k : AW CK l Y d nE sE n loc' st μ) : AW CK l Y d nE sE pc loc (va_rf x :: st) μ := by
  cases x with
  | some x => exact aw_astore_n n hd hn hi hl k
  | none => subst hn; subst hl; exact k.stl (fun f hx hb hL kk => lv_astore_nN hx hb hd rfl hL hi rfl (fun ls' h' => kk ls' (LH.st1 h')))
theorem aw_iinc {i : Nat} {z : Int} {x v : Int32} (n : Nat) (hd : decode Y.2.1 pc = .ok (.iinc i z, 3)) (hn : pc + 3 = n) (hi : i < Y.2.2.1) (hg : loc[i]? = some (some (.int x))) (hv : x + Int32.ofInt z = v) (hl : st1 loc i (.int v) = loc') (k : AW CK l Y d nE sE n loc' st μ) : AW CK l Y d nE sE pc loc st μ := by
  subst hn; subst hl
  refine k.stl (fun f hx hb hL kk => ?_)
  obtain ⟨j, hj⟩ := List.getElem?_of_mem (lz_mem (f := f).mpr ⟨_, hg, rfl⟩)
  exact lv_iinc hx hb hd hL hj hv hi rfl (fun ls' h' => kk ls' (LH.st1 h'))
theorem aw_iincW {i : Nat} {z : Int} {x v : Int32} (n : Nat) (hd : decode Y.2.1 pc = .ok (.iinc i z, 6)) (hn : pc + 6 = n) (hi : i < Y.2.2.1) (hg : loc[i]? = some (some (.int x))) (hv : x + Int32.ofInt z = v) (hl : st1 loc i (.int v) = loc') (k : AW CK l Y d nE sE n loc' st μ) : AW CK l Y d nE sE pc loc st μ := by
  subst hn; subst hl
  refine k.stl (fun f hx hb hL kk => ?_)
  obtain ⟨j, hj⟩ := List.getElem?_of_mem (lz_mem (f := f).mpr ⟨_, hg, rfl⟩)
  exact lv_iincW hx hb hd hL hj hv hi rfl (fun ls' h' => kk ls' (LH.st1 h'))
/-- fewer known locals -/
def wkL : List Bool → List (Option Value) → List (Option Value)
  | b :: bs, o :: os => (if b then o else none) :: wkL bs os
  | _, _ => []
theorem wkL_spec : ∀ (m : List Bool) (loc : List (Option Value)) (i : Nat) (v : Value), (wkL m loc)[i]? = some (some v) → loc[i]? = some (some v)
  | b :: bs, o :: os, 0, v, h => by
    simp only [wkL, List.getElem?_cons_zero] at h ⊢
    cases b <;> simp_all
  | b :: bs, o :: os, i + 1, v, h => by
    simp only [wkL, List.getElem?_cons_succ] at h ⊢
    exact wkL_spec bs os i v h
  | [], os, i, v, h => by cases os <;> simp [wkL] at h
  | b :: bs, [], i, v, h => by simp [wkL] at h
theorem AW.wk (m : List Bool) (hm : wkL m loc = loc') (k : AW CK l Y d nE sE pc loc' st μ) : AW CK l Y d nE sE pc loc st μ := by
  subst hm
  refine ⟨k.1, k.2.1, fun p e R s m args below meth c B D tc sa n0 s0 Q hC hF H locs ls cells slots hP hS hL hc hs => k.2.2 p e R s m args below meth c B D tc sa n0 s0 Q hC hF H locs ls cells slots hP hS ⟨hL.1, hL.2.1, fun q hq => hL.2.2 q ?_⟩ hc hs⟩
  obtain ⟨j, w⟩ := q
  obtain ⟨u, hu, rfl⟩ := lz_mem.mp hq
  exact lz_mem.mpr ⟨u, wkL_spec _ _ _ _ hu, rfl⟩
end AWR
end
section
/-! LAYER 0: rows that read and write the memory -/
theorem adr_lt {B : Nat} {sa : Nat → Nat} {i : Nat} (h : i < LIM) : adr B sa i = B + i := if_pos h
theorem wzD {B : Nat} {sa : Nat → Nat} {tc : Nat → ClassId} {μ : MM} (h : nc μ ≤ LIM) : va_D (fun q => B ≤ q) (wz (adr B sa) tc μ) := by
  refine ⟨fun i j x y hi hj hxy => ?_, fun k x hk => ?_⟩
  · obtain ⟨h1, h2⟩ := wz_lt hi
    obtain ⟨h3, h4⟩ := wz_lt hj
    rw [h2, h4, adr_lt (by omega), adr_lt (by omega)] at hxy
    omega
  · obtain ⟨h1, h2⟩ := wz_lt hk
    show B ≤ x.1
    rw [h2, adr_lt (by omega)]
    omega
/-- the heap is no larger than what was counted -/
theorem W.size {p : Program} {l : Launch} {e : Env} {R : Room} {s : State} {m : MethodId} {args : Array Value} {below : List Frame} {meth : Method} {c : Code} {H : Heap} {locs : List Loc} {cells slots : Nat} {Q : State → Prop} {g : JFrame}
    (k : H.size ≤ s.heap.size + cells → W p l e R s m args below meth c H locs cells slots Q g) : W p l e R s m args below meth c H locs cells slots Q g := fun T hT X => k (by rw [← hT]; exact X.heapSize) T hT X
def FLG (own : String) (ix ci k : Nat) : Prop := ∃ C T N ty, CFX ci C T N ty ∧ k < N ∧ Cond.fieldLink own ix (T k).1 (T k).2.1 (T k).2.2.1 ∈ tb
def FLP (own : String) (ix ci k : Nat) (fin : Bool) : Prop := ∃ C T N ty, CFX ci C T N ty ∧ k < N ∧ Cond.fieldLink own ix (T k).1 (T k).2.1 (T k).2.2.1 ∈ tb ∧ (T k).2.2.2 = fin ∧ (fin = true → (T k).1 = own)
theorem rI_some {μ : MM} {a ci k : Nat} {x : Int32} (h : rI μ a ci k = some x) : μ.1[a]? = some (0, ci) ∧ gI μ a k = x := by
  unfold rI at h; split at h
  · exact ⟨by assumption, Option.some.inj h⟩
  · cases h
theorem rL_some {μ : MM} {a ci k : Nat} {x : Int64} (h : rL μ a ci k = some x) : μ.1[a]? = some (0, ci) ∧ gL μ a k = x := by
  unfold rL at h; split at h
  · exact ⟨by assumption, Option.some.inj h⟩
  · cases h
theorem rR_some {μ : MM} {a ci k : Nat} {x : Nat} (h : rR μ a ci k = some x) : μ.1[a]? = some (0, ci) ∧ gR μ a k = some x := by
  unfold rR at h; split at h
  · exact ⟨by assumption, h⟩
  · cases h
theorem rN_some {μ : MM} {a ci k : Nat} {x : Option Nat} (h : rN μ a ci k = some x) : μ.1[a]? = some (0, ci) ∧ gR μ a k = x := by
  unfold rN at h; split at h
  · exact ⟨by assumption, Option.some.inj h⟩
  · cases h
theorem inb_of {j : Int32} {n : Nat} (h : ¬ (j < 0 ∨ n ≤ j.toNatClampNeg)) : vp_in j n := h
theorem aI_some {μ : MM} {a : Nat} {j x : Int32} (h : aI μ a j = some x) : ∃ n, μ.1[a]? = some (1, n) ∧ vp_in j n ∧ gI μ a j.toNatClampNeg = x := by
  unfold aI at h; split at h
  · rename_i n hk
    split at h
    · cases h
    · rename_i hj; exact ⟨n, hk, hj, Option.some.inj h⟩
  · cases h
theorem aB_some {μ : MM} {a : Nat} {j x : Int32} (h : aB μ a j = some x) : ∃ t n, (t = 2 ∨ t = 3) ∧ μ.1[a]? = some (t, n) ∧ vp_in j n ∧ gI μ a j.toNatClampNeg = x := by
  unfold aB at h; split at h
  · rename_i n hk
    split at h
    · cases h
    · rename_i hj; exact ⟨2, n, Or.inl rfl, hk, hj, Option.some.inj h⟩
  · rename_i n hk
    split at h
    · cases h
    · rename_i hj; exact ⟨3, n, Or.inr rfl, hk, hj, Option.some.inj h⟩
  · cases h
theorem aL_some {μ : MM} {a : Nat} {j : Int32} {x : Int64} (h : aL μ a j = some x) : ∃ n, μ.1[a]? = some (4, n) ∧ vp_in j n ∧ gL μ a j.toNatClampNeg = x := by
  unfold aL at h; split at h
  · rename_i n hk
    split at h
    · cases h
    · rename_i hj; exact ⟨n, hk, hj, Option.some.inj h⟩
  · cases h
theorem uI_some {μ μ' : MM} {a : Nat} {j v : Int32} (h : uI μ a j v = some μ') : ∃ n, μ.1[a]? = some (1, n) ∧ vp_in j n ∧ sI μ a j.toNatClampNeg v = μ' := by
  unfold uI at h; split at h
  · rename_i n hk
    split at h
    · cases h
    · rename_i hj; exact ⟨n, hk, hj, Option.some.inj h⟩
  · cases h
theorem uB_some {μ μ' : MM} {a : Nat} {j v : Int32} (h : uB μ a j v = some μ') : (∃ n, μ.1[a]? = some (2, n) ∧ vp_in j n ∧ sI μ a j.toNatClampNeg (vp_nar .byte v) = μ') ∨ (∃ n, μ.1[a]? = some (3, n) ∧ vp_in j n ∧ sI μ a j.toNatClampNeg (vp_nar .boolean v) = μ') := by
  unfold uB at h; split at h
  · rename_i n hk
    split at h
    · cases h
    · rename_i hj; exact Or.inl ⟨n, hk, hj, Option.some.inj h⟩
  · rename_i n hk
    split at h
    · cases h
    · rename_i hj; exact Or.inr ⟨n, hk, hj, Option.some.inj h⟩
  · cases h
theorem uL_some {μ μ' : MM} {a : Nat} {j : Int32} {v : Int64} (h : uL μ a j v = some μ') : ∃ n, μ.1[a]? = some (4, n) ∧ vp_in j n ∧ sL μ a j.toNatClampNeg v = μ' := by
  unfold uL at h; split at h
  · rename_i n hk
    split at h
    · cases h
    · rename_i hj; exact ⟨n, hk, hj, Option.some.inj h⟩
  · cases h
section AWM
variable {CK : CKT} {l : Launch} {Y : YT} {d nE sE pc : Nat} {loc : List (Option Value)} {st : List Value} {μ μ' : MM}
/-- a read of the memory -/
theorem AW.read {pc' : Nat} {st' : List Value} (k : AW CK l Y d nE sE pc' loc st' μ)
    (h : ∀ {p : Program} {e : Env} {R : Room} {s : State} {m : MethodId} {args : Array Value} {below : List Frame} {meth : Method} {c : Code} {H : Heap} {locs : List Loc} {cells slots : Nat} {Q : State → Prop} {ls : Array Slot} {D : va_G} (f : Nat → Nat) (tc : Nat → ClassId), p.tables.exec = Jvm.exec → c.code = Y.2.1 →
      s.vm.findClass Y.1.cls = some m.cls → (∀ w ∈ tb, w.before args s = true) → va_K D CLS (TYS tc) s → va_P D CLS (wz f tc μ) H →
      W p l e R s m args below meth c H locs cells slots Q (F0 m pc' ls (st'.map (cv f))) → W p l e R s m args below meth c H locs cells slots Q (F0 m pc ls (st.map (cv f)))) : AW CK l Y d nE sE pc loc st μ := by
  refine ⟨k.1, k.2.1, fun p e R s m args below meth c B D tc sa n0 s0 Q hC hF H locs ls cells slots hP hS hL hc hs => ?_⟩
  exact h (adr B sa) tc hF.1 hF.2.1 hF.2.2.2.2.1 hF.2.2.2.2.2.1 hF.2.2.2.2.2.2.2.2.1 hP (k.2.2 p e R s m args below meth c B D tc sa n0 s0 Q hC hF H locs ls cells slots hP hS hL hc hs)
theorem AW.getv {ix ci k a n : Nat} {v : Value} (hd : decode Y.2.1 pc = .ok (.getfield ix, 3)) (hn : pc + 3 = n) (hl : FLG Y.1.cls ix ci k) (ha : μ.1[a]? = some (0, ci)) (hv : ∀ f, fv f μ a ci k = cv f v) (K : AW CK l Y d nE sE n loc (v :: st) μ) : AW CK l Y d nE sE pc loc (.ref a :: st) μ := by
  subst hn
  obtain ⟨C, T, N, ty, hcf, hk, hw⟩ := hl
  refine K.read (fun f tc hx hb ho ht hK hP kk => ?_)
  have hkn : k < nfld ci := by rw [hcf.2.1]; exact hk
  exact va_get hx hb ht hcf.2.2.1 ho hK hP a (wz_at ha) hcf.1 k hk (ht _ hw) (fun x q => q) (v := cv f v) (by rw [fsz_at hkn, hv]) hd kk
theorem aw_getI {ix ci k a : Nat} {x : Int32} (n : Nat) (hd : decode Y.2.1 pc = .ok (.getfield ix, 3)) (hn : pc + 3 = n) (hl : FLG Y.1.cls ix ci k) (ht : FTC ci k = 0 ∨ FTC ci k = 3) (hr : rI μ a ci k = some x) (K : AW CK l Y d nE sE n loc (.int x :: st) μ) : AW CK l Y d nE sE pc loc (.ref a :: st) μ := by
  obtain ⟨h1, h2⟩ := rI_some hr
  exact AW.getv hd hn hl h1 (fun f => by rcases ht with q | q <;> simp [fv, q, h2, cv]) K
theorem aw_getL {ix ci k a : Nat} {x : Int64} (n : Nat) (hd : decode Y.2.1 pc = .ok (.getfield ix, 3)) (hn : pc + 3 = n) (hl : FLG Y.1.cls ix ci k) (ht : FTC ci k = 1) (hr : rL μ a ci k = some x) (K : AW CK l Y d nE sE n loc (.long x :: st) μ) : AW CK l Y d nE sE pc loc (.ref a :: st) μ := by
  obtain ⟨h1, h2⟩ := rL_some hr
  exact AW.getv hd hn hl h1 (fun f => by simp [fv, ht, h2, cv]) K
theorem aw_getR {ix ci k a : Nat} {x : Nat} (n : Nat) (hd : decode Y.2.1 pc = .ok (.getfield ix, 3)) (hn : pc + 3 = n) (hl : FLG Y.1.cls ix ci k) (ht : FTC ci k = 2) (hr : rR μ a ci k = some x) (K : AW CK l Y d nE sE n loc (.ref x :: st) μ) : AW CK l Y d nE sE pc loc (.ref a :: st) μ := by
  obtain ⟨h1, h2⟩ := rR_some hr
  exact AW.getv hd hn hl h1 (fun f => by simp [fv, ht, h2, cv, va_rf]) K
theorem aw_getN {ix ci k a : Nat} {x : Option Nat} (n : Nat) (hd : decode Y.2.1 pc = .ok (.getfield ix, 3)) (hn : pc + 3 = n) (hl : FLG Y.1.cls ix ci k) (ht : FTC ci k = 2) (hr : rN μ a ci k = some x) (K : AW CK l Y d nE sE n loc (va_rf x :: st) μ) : AW CK l Y d nE sE pc loc (.ref a :: st) μ := by
  obtain ⟨h1, h2⟩ := rN_some hr
  exact AW.getv hd hn hl h1 (fun f => by rw [cv_rf]; simp [fv, ht, h2]) K
theorem aw_iald {a : Nat} {j x : Int32} (n : Nat) (hd : decode Y.2.1 pc = .ok (.iaload, 1)) (hn : pc + 1 = n) (hr : aI μ a j = some x) (K : AW CK l Y d nE sE n loc (.int x :: st) μ) : AW CK l Y d nE sE pc loc (.int j :: .ref a :: st) μ := by
  subst hn
  obtain ⟨n, h1, h2, h3⟩ := aI_some hr
  subst h3
  exact K.read (fun f tc hx hb ho ht hK hP kk => va_iald hx hb hK hP a 0 (wz_at h1) rfl h2 hd kk)
theorem aw_lald {a : Nat} {j : Int32} {x : Int64} (n : Nat) (hd : decode Y.2.1 pc = .ok (.laload, 1)) (hn : pc + 1 = n) (hr : aL μ a j = some x) (K : AW CK l Y d nE sE n loc (.long x :: st) μ) : AW CK l Y d nE sE pc loc (.int j :: .ref a :: st) μ := by
  subst hn
  obtain ⟨n, h1, h2, h3⟩ := aL_some hr
  subst h3
  exact K.read (fun f tc hx hb ho ht hK hP kk => va_lald hx hb hK hP a 3 (wz_at h1) rfl h2 hd kk)
theorem aw_bald {a : Nat} {j x : Int32} (n : Nat) (hd : decode Y.2.1 pc = .ok (.baload, 1)) (hn : pc + 1 = n) (hr : aB μ a j = some x) (K : AW CK l Y d nE sE n loc (.int x :: st) μ) : AW CK l Y d nE sE pc loc (.int j :: .ref a :: st) μ := by
  subst hn
  obtain ⟨t, n, ht, h1, h2, h3⟩ := aB_some hr
  subst h3
  rcases ht with rfl | rfl
  · exact K.read (fun f tc hx hb ho ht hK hP kk => va_bald hx hb hK hP a 1 (wz_at h1) rfl h2 hd kk)
  · exact K.read (fun f tc hx hb ho ht hK hP kk => va_zald hx hb hK hP a 2 (wz_at h1) rfl h2 hd kk)
theorem aw_alen {a : Nat} {x : Int32} (n : Nat) (hd : decode Y.2.1 pc = .ok (.arraylength, 1)) (hn : pc + 1 = n) (hr : aN μ a = some x) (K : AW CK l Y d nE sE n loc (.int x :: st) μ) : AW CK l Y d nE sE pc loc (.ref a :: st) μ := by
  subst hn
  unfold aN at hr
  split at hr
  · rename_i t n hk1
    split at hr
    · cases hr
    · rename_i h0
      have hx : Int32.ofNat n = x := Option.some.inj hr
      subst hx
      rcases (show t = 1 ∨ t = 2 ∨ t = 3 ∨ t = 4 by omega) with rfl | rfl | rfl | rfl
      · exact K.read (fun f tc hx hb ho ht hK hP kk => va_alen hx hb hK hP a 0 (wz_at hk1) rfl rfl hd kk)
      · exact K.read (fun f tc hx hb ho ht hK hP kk => va_alen hx hb hK hP a 1 (wz_at hk1) rfl rfl hd kk)
      · exact K.read (fun f tc hx hb ho ht hK hP kk => va_alen hx hb hK hP a 2 (wz_at hk1) rfl rfl hd kk)
      · exact K.read (fun f tc hx hb ho ht hK hP kk => va_alen hx hb hK hP a 3 (wz_at hk1) rfl rfl hd kk)
  · cases hr
/-- a write into the memory, which keeps the kinds -/
theorem AW.write {pc' : Nat} {st' : List Value} (hμ : μ'.1 = μ.1) (k : AW CK l Y d nE sE pc' loc st' μ')
    (h : ∀ {p : Program} {e : Env} {R : Room} {s : State} {m : MethodId} {args : Array Value} {below : List Frame} {meth : Method} {c : Code} {H : Heap} {locs : List Loc} {cells slots : Nat} {Q : State → Prop} {ls : Array Slot} {D : va_G} {A : Nat → Prop} (f : Nat → Nat) (tc : Nat → ClassId), p.tables.exec = Jvm.exec → c.code = Y.2.1 →
      s.vm.findClass Y.1.cls = some m.cls → (∀ w ∈ tb, w.before args s = true) → va_K D CLS (TYS tc) s → va_P D CLS (wz f tc μ) H → va_D A (wz f tc μ) → va_S A s.heap H locs → meth.name = Y.1.name → 
      (∀ (H1 : Heap) (locs1 : List Loc), va_P D CLS (wz f tc μ') H1 → va_S A s.heap H1 locs1 → W p l e R s m args below meth c H1 locs1 cells slots Q (F0 m pc' ls (st'.map (cv f)))) → W p l e R s m args below meth c H locs cells slots Q (F0 m pc ls (st.map (cv f)))) : AW CK l Y d nE sE pc loc st μ := by
  have e1 : nc μ' = nc μ := by simp [nc, hμ]
  have e2 : nsl μ' = nsl μ := by simp [nsl, hμ]
  refine ⟨by rw [← e1]; exact k.1, by rw [← e2]; exact k.2.1, fun p e R s m args below meth c B D tc sa n0 s0 Q hC hF H locs ls cells slots hP hS hL hc hs => ?_⟩
  have hlim : nc μ ≤ LIM := by
    have h1 := k.1
    have h2 : nE ≤ LIM := hF.2.2.2.2.2.2.2.2.2.2.2.2.2.2.1
    omega
  exact h (adr B sa) tc hF.1 hF.2.1 hF.2.2.2.2.1 hF.2.2.2.2.2.1 hF.2.2.2.2.2.2.2.2.1 hP (wzD hlim) hS hF.2.2.2.2.2.2.2.1 (fun H1 locs1 hP1 hS1 => k.2.2 p e R s m args below meth c B D tc sa n0 s0 Q hC hF H1 locs1 ls cells slots hP1 hS1 hL (by rw [e1]; exact hc) (by rw [e2]; exact hs))
theorem AW.put {ix ci k a n : Nat} {v : Value} (fin : Bool) (hd : decode Y.2.1 pc = .ok (.putfield ix, 3)) (hn : pc + 3 = n) (hl : FLP Y.1.cls ix ci k fin) (hini : fin = true → Y.1.name = "<init>") (ha : μ.1[a]? = some (0, ci)) (hμ : μ'.1 = μ.1)
    (hset : ∀ f tc, (wz f tc μ).set a (f a, .inr (ci, (fsz f μ a ci).set k (cv f v))) = wz f tc μ') (hty : ∀ t, ftOk (FTC ci k) t = true → ∀ f, narrow t (cv f v) = cv f v ∧ fits t (cv f v) = true) (K : AW CK l Y d nE sE n loc st μ') : AW CK l Y d nE sE pc loc (v :: .ref a :: st) μ := by
  subst hn
  obtain ⟨C, T, N, ty, hcf, hk, hw, hfin, hown⟩ := hl
  have hkn : k < nfld ci := by rw [hcf.2.1]; exact hk
  have hok := hcf.2.2.2.2.2.1 k hk
  refine K.write hμ (fun f tc hx hb ho ht hK hP hD hS hnm kk => ?_)
  obtain ⟨t1, t2⟩ := hty _ hok f
  cases fin with
  | false => exact va_put hx hb ht hcf.2.2.1 ty hcf.2.2.2.1 hcf.2.2.2.2.1 ho hK hP hD hS a (wz_at ha) hcf.1 k hk (ht _ hw) (fun x q => q) hfin (hcf.2.2.2.1 k hk) t1 t2 (by rw [fsz_len]; exact hkn) hd (fun H1 locs1 h1 _ h3 => kk H1 locs1 (by rw [← hset]; exact h1) h3)
  | true => exact va_putF hx hb ht hcf.2.2.1 ty hcf.2.2.2.1 hcf.2.2.2.2.1 ho hK hP hD hS a (wz_at ha) hcf.1 k hk (ht _ hw) (fun x q => q) hfin (hnm.trans (hini rfl)) (hown rfl) (hcf.2.2.2.1 k hk) t1 t2 (by rw [fsz_len]; exact hkn) hd (fun H1 locs1 h1 _ h3 => kk H1 locs1 (by rw [← hset]; exact h1) h3)
theorem ftOk0 {t : FieldType} (h : ftOk 0 t = true) : t = .int := by cases t <;> first | rfl | (simp [ftOk] at h)
theorem ftOk1 {t : FieldType} (h : ftOk 1 t = true) : t = .long := by cases t <;> first | rfl | (simp [ftOk] at h)
theorem ftOk3 {t : FieldType} (h : ftOk 3 t = true) : t = .boolean := by cases t <;> first | rfl | (simp [ftOk] at h)
theorem ftOk2 {t : FieldType} (h : ftOk 2 t = true) (a : Nat) : narrow t (.ref a) = .ref a ∧ fits t (.ref a) = true := by cases t <;> first | exact ⟨rfl, rfl⟩ | (simp [ftOk] at h)
theorem aw_putI {ix ci k a : Nat} {v : Int32} (n : Nat) (fin : Bool) (hd : decode Y.2.1 pc = .ok (.putfield ix, 3)) (hn : pc + 3 = n) (hl : FLP Y.1.cls ix ci k fin) (hini : fin = true → Y.1.name = "<init>") (ht : FTC ci k = 0) (hr : pI μ a ci k v = some μ') (K : AW CK l Y d nE sE n loc st μ') : AW CK l Y d nE sE pc loc (.int v :: .ref a :: st) μ := by
  unfold pI at hr; split at hr
  · rename_i ha
    have e : sI μ a k v = μ' := Option.some.inj hr
    subst e
    exact AW.put (μ' := sI μ a k v) fin hd hn hl hini ha rfl (fun f tc => wz_fI ha (Or.inl ht)) (fun t h f => by rw [ht] at h; rw [ftOk0 h]; exact ⟨rfl, rfl⟩) K
  · cases hr
theorem aw_putZ {ix ci k a : Nat} {v : Int32} (n : Nat) (fin : Bool) (hd : decode Y.2.1 pc = .ok (.putfield ix, 3)) (hn : pc + 3 = n) (hl : FLP Y.1.cls ix ci k fin) (hini : fin = true → Y.1.name = "<init>") (ht : FTC ci k = 3) (hr : pZ μ a ci k v = some μ') (K : AW CK l Y d nE sE n loc st μ') : AW CK l Y d nE sE pc loc (.int v :: .ref a :: st) μ := by
  unfold pZ at hr; split at hr
  · rename_i hh
    obtain ⟨ha, hv⟩ := hh
    have e : sI μ a k v = μ' := Option.some.inj hr
    subst e
    exact AW.put (μ' := sI μ a k v) fin hd hn hl hini ha rfl (fun f tc => wz_fI ha (Or.inr ht)) (fun t h f => by rw [ht] at h; rw [ftOk3 h]; rcases hv with rfl | rfl; exact ⟨(by decide : narrow .boolean (.int 0) = .int 0), (by decide : fits .boolean (.int 0) = true)⟩; exact ⟨(by decide : narrow .boolean (.int 1) = .int 1), (by decide : fits .boolean (.int 1) = true)⟩) K
  · cases hr
theorem aw_putL {ix ci k a : Nat} {v : Int64} (n : Nat) (fin : Bool) (hd : decode Y.2.1 pc = .ok (.putfield ix, 3)) (hn : pc + 3 = n) (hl : FLP Y.1.cls ix ci k fin) (hini : fin = true → Y.1.name = "<init>") (ht : FTC ci k = 1) (hr : pL μ a ci k v = some μ') (K : AW CK l Y d nE sE n loc st μ') : AW CK l Y d nE sE pc loc (.long v :: .ref a :: st) μ := by
  unfold pL at hr; split at hr
  · rename_i ha
    have e : sL μ a k v = μ' := Option.some.inj hr
    subst e
    exact AW.put (μ' := sL μ a k v) fin hd hn hl hini ha rfl (fun f tc => wz_fL ha ht) (fun t h f => by rw [ht] at h; rw [ftOk1 h]; exact ⟨rfl, rfl⟩) K
  · cases hr
theorem aw_putR {ix ci k a x : Nat} (n : Nat) (fin : Bool) (hd : decode Y.2.1 pc = .ok (.putfield ix, 3)) (hn : pc + 3 = n) (hl : FLP Y.1.cls ix ci k fin) (hini : fin = true → Y.1.name = "<init>") (ht : FTC ci k = 2) (hr : pR μ a ci k x = some μ') (K : AW CK l Y d nE sE n loc st μ') : AW CK l Y d nE sE pc loc (.ref x :: .ref a :: st) μ := by
  unfold pR at hr; split at hr
  · rename_i ha
    have e : sR μ a k (some x) = μ' := Option.some.inj hr
    subst e
    exact AW.put (μ' := sR μ a k (some x)) fin hd hn hl hini ha rfl (fun f tc => wz_fR (v := some x) ha ht) (fun t h f => by rw [ht] at h; exact ftOk2 h (f x)) K
  · cases hr
theorem aw_iast {a : Nat} {j v : Int32} (n : Nat) (hd : decode Y.2.1 pc = .ok (.iastore, 1)) (hn : pc + 1 = n) (hr : uI μ a j v = some μ') (K : AW CK l Y d nE sE n loc st μ') : AW CK l Y d nE sE pc loc (.int v :: .int j :: .ref a :: st) μ := by
  subst hn
  obtain ⟨n, h1, h2, h3⟩ := uI_some hr
  subst h3
  exact AW.write (μ' := sI μ a j.toNatClampNeg v) rfl K (fun f tc hx hb ho ht hK hP hD hS hnm kk => va_iast hx hb hK hP hD hS a 0 (wz_at h1) rfl h2 hd (fun H1 locs1 q1 _ q3 => kk H1 locs1 (Eq.subst (motive := fun w => va_P _ CLS w H1) (wz_sF (t := 0) (g := upd (gI μ a) j.toNatClampNeg v) h1 (by decide)) q1) q3))
theorem aw_bast {a : Nat} {j v : Int32} (n : Nat) (hd : decode Y.2.1 pc = .ok (.bastore, 1)) (hn : pc + 1 = n) (hr : uB μ a j v = some μ') (K : AW CK l Y d nE sE n loc st μ') : AW CK l Y d nE sE pc loc (.int v :: .int j :: .ref a :: st) μ := by
  subst hn
  rcases uB_some hr with ⟨n, h1, h2, h3⟩ | ⟨n, h1, h2, h3⟩
  · subst h3
    exact AW.write (μ' := sI μ a j.toNatClampNeg (vp_nar .byte v)) rfl K (fun f tc hx hb ho ht hK hP hD hS hnm kk => va_bast hx hb hK hP hD hS a 1 (wz_at h1) rfl h2 hd (fun H1 locs1 q1 _ q3 => kk H1 locs1 (Eq.subst (motive := fun w => va_P _ CLS w H1) (wz_sF (t := 1) (g := upd (gI μ a) j.toNatClampNeg (vp_nar .byte v)) h1 (by decide)) q1) q3))
  · subst h3
    exact AW.write (μ' := sI μ a j.toNatClampNeg (vp_nar .boolean v)) rfl K (fun f tc hx hb ho ht hK hP hD hS hnm kk => va_zast hx hb hK hP hD hS a 2 (wz_at h1) rfl h2 hd (fun H1 locs1 q1 _ q3 => kk H1 locs1 (Eq.subst (motive := fun w => va_P _ CLS w H1) (wz_sF (t := 2) (g := upd (gI μ a) j.toNatClampNeg (vp_nar .boolean v)) h1 (by decide)) q1) q3))
theorem aw_last {a : Nat} {j : Int32} {v : Int64} (n : Nat) (hd : decode Y.2.1 pc = .ok (.lastore, 1)) (hn : pc + 1 = n) (hr : uL μ a j v = some μ') (K : AW CK l Y d nE sE n loc st μ') : AW CK l Y d nE sE pc loc (.long v :: .int j :: .ref a :: st) μ := by
  subst hn
  obtain ⟨n, h1, h2, h3⟩ := uL_some hr
  subst h3
  exact AW.write (μ' := sL μ a j.toNatClampNeg v) rfl K (fun f tc hx hb ho ht hK hP hD hS hnm kk => va_last hx hb hK hP hD hS a 3 (wz_at h1) rfl h2 hd (fun H1 locs1 q1 _ q3 => kk H1 locs1 (Eq.subst (motive := fun w => va_P _ CLS w H1) (wz_sG (g := vp_updL (gL μ a) j.toNatClampNeg v) h1) q1) q3))
end AWM
end
section
/-! LAYER 0: what is made, calls, returns, contracts -/
section AWN
variable {CK : CKT} {l : Launch} {Y : YT} {d nE sE pc : Nat} {loc : List (Option Value)} {st : List Value} {μ μ' : MM}
theorem va_RA_one {s : State} {c1 c2 : ClassId} {ty : FieldType} (h1 : va_RA s c1 ty) (h2 : va_RA s c2 ty) (ht : ty = .int ∨ ty = .byte ∨ ty = .boolean ∨ ty = .long) : c1 = c2 := by
  rcases ht with rfl | rfl | rfl | rfl <;> exact Option.some.inj (Eq.trans (Eq.symm h1) h2)
/-- the last cell of a world that grew lies where it should -/
theorem wz_last {B n0 cells : Nat} {D : va_G} {sa : Nat → Nat} {tc : Nat → ClassId} {μ : MM} {q : Nat} {e : va_E} {H1 : Heap} (hlim : nc μ + 1 ≤ LIM) (hc : n0 + cells = nc μ) (hP : va_P D CLS (wz (adr B sa) tc μ ++ [(q, e)]) H1) (hD : va_D (fun q => B ≤ q) (wz (adr B sa) tc μ ++ [(q, e)])) (hz : H1.size ≤ B + n0 + (cells + 1)) : q = adr B sa (nc μ) := by
  have hl : (wz (adr B sa) tc μ ++ [(q, e)])[nc μ]? = some (q, e) := by
    rw [List.getElem?_append_right (by rw [wz_len]; omega), wz_len]; simp
  have h1 : q < H1.size := (hP _ _ hl).lt
  have h2 : B ≤ q := hD.2 _ _ hl
  rw [adr_lt (by omega)]
  rcases Nat.lt_or_ge (q - B) (nc μ) with h | h
  · exfalso
    obtain ⟨x, hx⟩ : ∃ x, μ.1[q - B]? = some x := ⟨_, List.getElem?_eq_getElem h⟩
    have h3 : (wz (adr B sa) tc μ ++ [(q, e)])[q - B]? = some (adr B sa (q - B), cz (adr B sa) tc μ (q - B) x) := by
      rw [List.getElem?_append_left (by rw [wz_len]; exact h)]
      exact wz_at hx
    have h4 := hD.1 _ _ _ _ h3 hl (by show adr B sa (q - B) = q; rw [adr_lt (by omega)]; omega)
    omega
  · omega
theorem default_fv {f : Nat → Nat} {ci k : Nat} {t : FieldType} (h : ftOk (FTC ci k) t = true) : defaultValue t = fv f (push μ (0, ci)) (nc μ) ci k := by
  have e0 : gI (push μ (0, ci)) (nc μ) k = 0 := by simp [gI, push]
  have e1 : gL (push μ (0, ci)) (nc μ) k = 0 := by simp [gL, push]
  have e2 : gR (push μ (0, ci)) (nc μ) k = none := by simp [gR, push]
  unfold fv
  generalize FTC ci k = c at h
  cases t <;> unfold ftOk at h <;> split at h <;> first | (cases h; done) | (simp_all [defaultValue, va_rf]; done) | (rename_i h1 h2; cases h2; done) | skip
  all_goals (try cases h) 
theorem aw_new {ix ci : Nat} (n : Nat) (hd : decode Y.2.1 pc = .ok (.new ix, 3)) (hn : pc + 3 = n) {C : String} {T : u_T} {N : Nat} {ty : Nat → FieldType} (hcf : CFX ci C T N ty) (hw : Cond.classLink Y.1.cls ix C ∈ tb) (hr : nO μ ci = some μ') (K : AW CK l Y d nE sE n loc (.ref (nc μ) :: st) μ') : AW CK l Y d nE sE pc loc st μ := by
  subst hn
  have e : push μ (0, ci) = μ' := Option.some.inj hr
  subst e
  have k1 := K.1
  have k2 := K.2.1
  rw [nc_push] at k1
  rw [nsl_push] at k2
  have ek : ksl (0, ci) = N := hcf.2.1
  rw [ek] at k2
  refine ⟨by omega, by omega, fun p e R s m args below meth c B D tc sa n0 s0 Q hC hF H locs ls cells slots hP hS hL hc hs => ?_⟩
  have kk := K.2.2 p e R s m args below meth c B D tc sa n0 s0 Q hC hF
  obtain ⟨hx, hb, hr, hml, ho, hts, hlk, hnm, hK, hsz, hE1, hE2, hd1, hd2, hlim, hstr⟩ := hF
  refine va_new (ci := ci) (fs := fsz (adr B sa) (push μ (0, ci)) (nc μ) ci) hx hb hts hcf.2.2.1 ty hcf.2.2.2.1 ho (hts _ hw) (hts _ hcf.2.2.2.2.2.2.1) (hts _ hcf.2.2.2.2.2.2.2) hK hP (wzD (by omega)) hS (fun q h => by omega) hcf.1 ?_ (by omega) (by omega) hd (fun q H1 hP1 hD1 hS1 => W.size (fun hz => ?_))
  · intro j hj
    have hj2 : j < nfld ci := by rw [hcf.2.1]; exact hj
    rw [show vp_V (fsz (adr B sa) (push μ (0, ci)) (nc μ) ci) j = fv (adr B sa) (push μ (0, ci)) (nc μ) ci j by unfold vp_V; rw [List.getD, fsz_at hj2]; rfl]
    exact default_fv (hcf.2.2.2.2.2.1 j hj)
  · have hq := wz_last (n0 := n0) (cells := cells) (by omega) hc hP1 hD1 (by rw [hsz] at hz; exact hz)
    subst hq
    have hP1 : va_P D CLS (wz (adr B sa) tc (push μ (0, ci))) H1 := Eq.subst (motive := fun w => va_P D CLS w H1) (wz_push (q := (0, ci)) (e := .inr (ci, fsz (adr B sa) (push μ (0, ci)) (nc μ) ci)) rfl) hP1
    exact kk H1 locs ls (cells + 1) (slots + N) hP1 hS1 hL (by rw [nc_push]; omega) (by rw [nsl_push, ek]; omega)
theorem aw_newa {t : Nat} {at' : ArrayType} {ty : FieldType} {z : Int32} (n : Nat) (hd : decode Y.2.1 pc = .ok (.newarray at', 2)) (hn : pc + 2 = n) (hty : newarray.typeOf at' = ty) (htt : (t = 1 ∧ ty = .int) ∨ (t = 2 ∧ ty = .byte) ∨ (t = 3 ∧ ty = .boolean) ∨ (t = 4 ∧ ty = .long)) (hw : Cond.arrayClass ty ∈ tb) (hr : nA μ t z = some μ') (K : AW CK l Y d nE sE n loc (.ref (nc μ) :: st) μ') : AW CK l Y d nE sE pc loc (.int z :: st) μ := by
  subst hn
  unfold nA at hr
  split at hr
  · cases hr
  · rename_i hz0
    have e : push μ (t, z.toNatClampNeg) = μ' := Option.some.inj hr
    subst e
    have k1 := K.1
    have k2 := K.2.1
    rw [nc_push] at k1
    rw [nsl_push] at k2
    have ek : ksl (t, z.toNatClampNeg) = z.toNatClampNeg := by rcases htt with ⟨rfl, -⟩ | ⟨rfl, -⟩ | ⟨rfl, -⟩ | ⟨rfl, -⟩ <;> rfl
    rw [ek] at k2
    refine ⟨by omega, by omega, fun p e R s m args below meth c B D tc sa n0 s0 Q hC hF H locs ls cells slots hP hS hL hc hs => ?_⟩
    have kk := K.2.2 p e R s m args below meth c B D tc sa n0 s0 Q hC hF
    obtain ⟨hx, hb, hr, hml, ho, hts, hlk, hnm, hK, hsz, hE1, hE2, hd1, hd2, hlim, hstr⟩ := hF
    have e0 : gI (push μ (t, z.toNatClampNeg)) (nc μ) = fun _ => 0 := by funext k; simp [gI, push]
    have e1 : gL (push μ (t, z.toNatClampNeg)) (nc μ) = fun _ => 0 := by funext k; simp [gL, push]
    have fin : ∀ (cA : ClassId) (a0 : vp_A), cz (adr B sa) tc (push μ (t, z.toNatClampNeg)) (nc μ) (t, z.toNatClampNeg) = .inl (cA, a0) → (∀ cA : ClassId, vp_cell cA a0 = arrV cA z.toNatClampNeg (fun _ => defaultValue ty)) → (∀ c1, va_RA s c1 ty → c1 = cA) → componentBytes ty ≤ 8 →
        W p l e R s m args below meth c H locs cells slots Q (F0 m pc ls ((.int z :: st).map (cv (adr B sa)))) := by
      intro cA a0 h1 h2 h3 h4
      refine va_newa hx hb (hty ▸ hts _ hw) hty hK hP (wzD (by omega)) hS (fun q h => by omega) h2 (fun h => hz0 (Or.inl h)) rfl ?_ (by omega) (by omega) hd (fun q c1 H1 hK1 hP1 hD1 hS1 => W.size (fun hz => ?_))
      · have : z.toNatClampNeg * componentBytes ty ≤ 1000000 * 8 := Nat.mul_le_mul (by omega) h4
        omega
      · have hc1 : c1 = cA := h3 _ ((hK1.2 4 (c1, ty) rfl).2)
        subst hc1
        have hq := wz_last (n0 := n0) (cells := cells) (by omega) hc hP1 hD1 (by rw [hsz] at hz; exact hz)
        subst hq
        have hP1 : va_P D CLS (wz (adr B sa) tc (push μ (t, z.toNatClampNeg))) H1 := Eq.subst (motive := fun w => va_P D CLS w H1) (wz_push (q := (t, z.toNatClampNeg)) h1) hP1
        exact kk H1 locs ls (cells + 1) (slots + z.toNatClampNeg) hP1 hS1 hL (by rw [nc_push]; omega) (by rw [nsl_push, ek]; omega)
    have hRA : ∀ (i : Nat) (x : ClassId × FieldType), (TYS tc)[i]? = some x → va_RA s x.1 x.2 := fun i x h => (hK.2 i x h).2
    rcases htt with ⟨rfl, rfl⟩ | ⟨rfl, rfl⟩ | ⟨rfl, rfl⟩ | ⟨rfl, rfl⟩
    · exact fin (tc 0) (z.toNatClampNeg, .inl (fun _ => 0)) (by simp [cz, e0]) (fun _ => rfl) (fun c1 h => va_RA_one h (hRA 0 _ rfl) (by simp)) (by decide)
    · exact fin (tc 1) (z.toNatClampNeg, .inl (fun _ => 0)) (by simp [cz, e0]) (fun _ => rfl) (fun c1 h => va_RA_one h (hRA 1 _ rfl) (by simp)) (by decide)
    · exact fin (tc 2) (z.toNatClampNeg, .inl (fun _ => 0)) (by simp [cz, e0]) (fun _ => rfl) (fun c1 h => va_RA_one h (hRA 2 _ rfl) (by simp)) (by decide)
    · exact fin (tc 3) (z.toNatClampNeg, .inr (.inl (fun _ => 0))) (by simp [cz, e1]) (fun _ => rfl) (fun c1 h => va_RA_one h (hRA 3 _ rfl) (by simp)) (by decide)
/-- Object's constructor -/
theorem aw_objInit {ix a : Nat} (n : Nat) (hd : decode Y.2.1 pc = .ok (.invokespecial ix, 3)) (hn : pc + 3 = n) (hw : Cond.methodLink Y.1.cls ix Lib.objectInit ∈ tb ∧ Cond.instanceMethod Lib.objectInit ∈ tb ∧ Cond.code Lib.objectInit ⟨#[0xb1]⟩ 1 none ∈ tb) (hc8 : (st.map fun v => v.category).sum ≤ 8) (hd1 : 1 ≤ d) (K : AW CK l Y d nE sE n loc st μ) : AW CK l Y d nE sE pc loc (.ref a :: st) μ := by
  subst hn
  refine ⟨K.1, K.2.1, fun p e R s m args below meth c B D tc sa n0 s0 Q hC hF H locs ls cells slots hP hS hL hc hs => ?_⟩
  have kk := K.2.2 p e R s m args below meth c B D tc sa n0 s0 Q hC hF H locs ls cells slots hP hS hL hc hs
  obtain ⟨hx, hb, hr, hml, ho, hts, hlk, hnm, hK, hsz, hE1, hE2, hf1, hf2, hlim, hstr⟩ := hF
  have hcat : ((st.map (cv (adr B sa))).map fun v => v.category).sum = (st.map fun v => v.category).sum := by
    rw [List.map_map]; congr 1; apply List.map_congr_left; intro v _; exact cv_cat _ v
  exact W.objInit hx hb ho (hts _ hw.1) (hts _ hw.2.1) (hts _ hw.2.2) (g := F0 m pc ls ((Value.ref a :: st).map (cv (adr B sa)))) rfl (hL.1.trans hml.symm) (a := adr B sa a) (rest := st.map (cv (adr B sa))) rfl hd (by omega) (by show 2 * 0 + _ + 12 ≤ R.locals; rw [hcat]; omega) kk
/-- System.arraycopy of ints -/
theorem aw_copy {ix a b : Nat} {sp dp z : Int32} (n : Nat) (hd : decode Y.2.1 pc = .ok (.invokestatic ix, 3)) (hn : pc + 3 = n) (hw : Cond.methodLink Y.1.cls ix arraycopyName ∈ tb ∧ Cond.native arraycopyName ∈ tb ∧ Cond.static arraycopyName ∈ tb ∧ Cond.initialized "java/lang/System" ∈ tb) (hc8 : (st.map fun v => v.category).sum ≤ 8) (hd1 : 1 ≤ d) (hr : cpI μ a sp b dp z = some μ') (K : AW CK l Y d nE sE n loc st μ') : AW CK l Y d nE sE pc loc (.int z :: .int dp :: .ref b :: .int sp :: .ref a :: st) μ := by
  subst hn
  unfold cpI at hr
  split at hr
  · rename_i n0 n1 ha hb1
    split at hr
    · cases hr
    · rename_i hcn
      have e : sF μ b (va_cpy (gI μ a) (gI μ b) sp.toNatClampNeg dp.toNatClampNeg z.toNatClampNeg) = μ' := Option.some.inj hr
      subst e
      have k1 := K.1
      have k2 := K.2.1
      refine ⟨k1, k2, fun p e R s m args below meth c B D tc sa n0 s0 Q hC hF H locs ls cells slots hP hS hL hc hs => ?_⟩
      have kk := K.2.2 p e R s m args below meth c B D tc sa n0 s0 Q hC hF
      obtain ⟨hx, hb, hr, hml, ho, hts, hlk, hnm, hK, hsz, hE1, hE2, hf1, hf2, hlim, hstr⟩ := hF
      have hcat : ((st.map (cv (adr B sa))).map fun v => v.category).sum = (st.map fun v => v.category).sum := by
        rw [List.map_map]; congr 1; apply List.map_congr_left; intro v _; exact cv_cat _ v
      have hk1 : nc μ ≤ nE := k1
      refine va_copyi hx hb (hml.trans hL.1.symm) ho (hts _ hw.1) (hts _ hw.2.1) (hts _ hw.2.2.1) (hts _ hw.2.2.2) hK hP (wzD (by omega)) hS a b 0 0 (wz_at ha) (wz_at hb1) rfl rfl rfl (fun h => hcn (Or.inl h)) (fun h => hcn (Or.inr (Or.inl h))) (fun h => hcn (Or.inr (Or.inr (Or.inl h)))) (by omega) (by omega) (fun i hi => rfl) (by omega) ?_ hd (fun H1 locs1 q1 _ q3 => ?_)
      · rw [hcat]
        have : nativeFrameWords "java/lang/System" "arraycopy" 5 + 11 ≤ 100 := by decide
        omega
      · exact kk H1 locs1 ls cells slots (Eq.subst (motive := fun w => va_P D CLS w H1) (wz_sF (t := 0) (g := va_cpy (gI μ a) (gI μ b) sp.toNatClampNeg dp.toNatClampNeg z.toNatClampNeg) hb1 (by decide)) q1) q3 hL hc hs
  · cases hr
end AWN
/-! contracts -/
def PcM (B : Nat) (D : va_G) (tc : Nat → ClassId) (sa : Nat → Nat) (μ : MM) (avs : List Value) : Array Value → State → Prop := fun v U => v = (avs.map (cv (adr B sa))).toArray ∧ U.heap.size = B + nc μ ∧ va_P D CLS (wz (adr B sa) tc μ) U.heap ∧ va_K D CLS (TYS tc) U ∧ STR B sa U
def QcM (B : Nat) (D : va_G) (tc : Nat → ClassId) (sa : Nat → Nat) (r : Option Value) (μ' : MM) : Array Value → State → Outcome → State → Prop := fun _ st o t => o = .returned (r.map (cv (adr B sa))) ∧ va_P D CLS (wz (adr B sa) tc μ') t.heap ∧ va_F (fun q => B ≤ q) st t
def rmM (d mc ms : Nat) : Room := { frames := d, cells := mc, slots := ms, locals := 130 * d }
def wsY (Y : YT) : List Cond := Cond.code Y.1 Y.2.1 Y.2.2.1 Y.2.2.2 :: tb
/-- the contract: at these arguments and this memory the method returns r and leaves μ'; d bounds the calls below it -/
def AMet (l : Launch) (d : Nat) (Y : YT) (avs : List Value) (μ : MM) (r : Option Value) (μ' : MM) : Prop :=
  nc μ ≤ nc μ' ∧ nsl μ ≤ nsl μ' ∧ (nc μ' ≤ LIM → ∀ (B : Nat) (D : va_G) (tc : Nat → ClassId) (sa : Nat → Nat), Met l Y.1 (wsY Y) (rmM d (nc μ' - nc μ) (nsl μ' - nsl μ)) (PcM B D tc sa μ avs) (QcM B D tc sa r μ') (nc μ' - nc μ) (nsl μ' - nsl μ) (fun q => B ≤ q))
def CKm (μ0 : MM) (r : Option Value) (μ' : MM) : CKT := fun p e R s m args below meth c B D tc sa n0 s0 Q => n0 = nc μ0 ∧ s0 = nsl μ0 ∧ Q = MQ below (QcM B D tc sa r μ') args s (nc μ' - nc μ0) (nsl μ' - nsl μ0) (fun q => B ≤ q)
abbrev AWm (l : Launch) (Y : YT) (d : Nat) (μ0 : MM) (r : Option Value) (μ' : MM) (pc : Nat) (loc : List (Option Value)) (st : List Value) (μ : MM) : Prop := AW (CKm μ0 r μ') l Y d (nc μ') (nsl μ') pc loc st μ
theorem LH.more {f : Nat → Nat} {loc : List (Option Value)} {ls : Array Slot} {nL k : Nat} (h : LH f loc ls nL) : LH f (loc ++ List.replicate k none) ls nL := by
  refine ⟨h.1, h.2.1, fun q hq => h.2.2 q ?_⟩
  obtain ⟨j, w⟩ := q
  obtain ⟨u, hu, rfl⟩ := lz_mem.mp hq
  refine lz_mem.mpr ⟨u, ?_, rfl⟩
  by_cases hj : j < loc.length
  · rwa [List.getElem?_append_left hj] at hu
  · rw [List.getElem?_append_right (by omega), List.getElem?_replicate] at hu
    split at hu <;> cases hu
theorem AMet.of {l : Launch} {d : Nat} {Y : YT} {avs : List Value} {μ μ' : MM} {r : Option Value} {loc : List (Option Value)} (hpl : plainFor Y.1 = true) (hlen : (entL avs).length ≤ Y.2.2.1) (hloc : entL avs ++ List.replicate (Y.2.2.1 - (entL avs).length) none = loc) (K : AWm l Y d μ r μ' 0 loc [] μ) : AMet l d Y avs μ r μ' := by
  subst hloc
  refine ⟨K.1, K.2.1, fun hlim B D tc sa => ?_⟩
  refine va_MetF (cc := Y.2.1) (maxL := Y.2.2.1) (ret := Y.2.2.2) hpl rfl ?_
  intro p e s m args below meth c s₁ Bd hml hv
  obtain ⟨rfl, hsz, hP, hK, hstr⟩ := hv
  have hts := atoms_spec (ws := wsY Y) Bd.pre
  have hm := K.1
  have hm2 := K.2.1
  have hF : FX Y d (nc μ') (nsl μ') p (headSpec (wsY Y) (rmM d (nc μ' - nc μ) (nsl μ' - nsl μ))).room s m (avs.map (cv (adr B sa))).toArray meth c B D tc sa (nc μ) (nsl μ) :=
    ⟨Bd.exec, Bd.bytes, Bd.returns, hml, findClass_of_methodNamed Bd.named, fun w hw => hts w (List.mem_cons_of_mem _ hw), Bd.notSynchronized, (name_of_methodNamed Bd.named Bd.method).1, hK, hsz, by show nc μ' ≤ nc μ + (nc μ' - nc μ); omega, by show nsl μ' ≤ nsl μ + (nsl μ' - nsl μ); omega, Nat.le_refl d, Nat.le_refl (130 * d), hlim, hstr⟩
  rw [lg_entry_eq]
  exact K.2.2 p e _ s m _ below meth c B D tc sa (nc μ) (nsl μ) _ ⟨rfl, rfl, rfl⟩ hF s.heap [] _ 0 0 hP va_S.rf (LH.entry avs hlen).more rfl rfl
section AWC
variable {l : Launch} {Y : YT} {d pc : Nat} {loc : List (Option Value)} {μ0 μ : MM}
theorem AWm.ret {v : Option Value} {st : List Value}
    (h : ∀ {p : Program} {e : Env} {R : Room} {s : State} {m : MethodId} {args : Array Value} {below : List Frame} {meth : Method} {c : Code} {H : Heap} {locs : List Loc} {cells slots : Nat} {ls : Array Slot} {Qc : Array Value → State → Outcome → State → Prop} {free : Addr → Prop} (f : Nat → Nat), p.tables.exec = Jvm.exec → c.code = Y.2.1 → meth.sig.returnType = Y.2.2.2 → meth.locks = false →
      (∀ t : State, t.heap = H → s.WarmedH t.vm → Qc args s (.returned (v.map (cv f))) t) → (∀ q ∈ locs, free q.base) → W p l e R s m args below meth c H locs cells slots (MQ below Qc args s cells slots free) (F0 m pc ls (st.map (cv f)))) : AWm l Y d μ0 v μ pc loc st μ := by
  refine ⟨Nat.le_refl _, Nat.le_refl _, fun p e R s m args below meth c B D tc sa n0 s0 Q hC hF H locs ls cells slots hP hS hL hc hs => ?_⟩
  obtain ⟨rfl, rfl, rfl⟩ := hC
  obtain ⟨hx, hb, hr, hml, ho, hts, hlk, hnm, hK, hsz, hE1, hE2, hf1, hf2, hlim, hstr⟩ := hF
  have e1 : nc μ - nc μ0 = cells := by omega
  have e2 : nsl μ - nsl μ0 = slots := by omega
  rw [e1, e2]
  exact h (adr B sa) hx hb hr hlk (fun t ht hW => ⟨rfl, by rw [ht]; exact hP, hS.F ht⟩) (fun q hq => hS.2.2 q hq)
theorem aw_ireturn {x : Int32} {ty : FieldType} (hd : decode Y.2.1 pc = .ok (.ireturn, 1)) (hr : Y.2.2.2 = some ty) (hn : narrow ty (.int x) = .int x) : AWm l Y d μ0 (some (.int x)) μ pc loc [.int x] μ :=
  AWm.ret (fun f hx hb hrt hlk hq hf => W.zret hx hb (hrt.trans hr) hn hq hf hd hlk)
theorem aw_lreturn {x : Int64} (hd : decode Y.2.1 pc = .ok (.lreturn, 1)) (hr : Y.2.2.2 = some .long) : AWm l Y d μ0 (some (.long x)) μ pc loc [.long x] μ :=
  AWm.ret (fun f hx hb hrt hlk hq hf => W.lret hx hb (hrt.trans hr) hq hf hd hlk)
theorem aw_areturn {x : Option Nat} {C : String} (hd : decode Y.2.1 pc = .ok (.areturn, 1)) (hr : Y.2.2.2 = some (.object C)) : AWm l Y d μ0 (some (va_rf x)) μ pc loc [va_rf x] μ :=
  AWm.ret (fun f hx hb hrt hlk hq hf => W.aret (v := cv f (va_rf x)) hx hb (hrt.trans hr) (Or.inl ⟨_, rfl⟩) (by cases x <;> first | exact Or.inl rfl | exact Or.inr ⟨_, rfl⟩) hq hf hd hlk)
theorem aw_return (hd : decode Y.2.1 pc = .ok (.return_, 1)) (hr : Y.2.2.2 = none) : AWm l Y d μ0 none μ pc loc [] μ :=
  AWm.ret (fun f hx hb hrt hlk hq hf => W.vret hx hb (hrt.trans hr) hq hf hd hlk)
end AWC
/-! what the printed functions are written with -/
theorem bnd {α β : Type} {o : Option α} {f : α → Option β} {r : β} (h : o.bind f = some r) : ∃ a, o = some a ∧ f a = some r := by
  cases o with
  | none => cases h
  | some a => exact ⟨a, rfl, h⟩
def kO (μ : MM) (a ci : Nat) : Option Unit := if μ.1[a]? = some (0, ci) then some () else none
theorem kO_some {μ : MM} {a ci : Nat} {u : Unit} (h : kO μ a ci = some u) : μ.1[a]? = some (0, ci) := by
  unfold kO at h; split at h
  · assumption
  · cases h
def rz (x : Int32) : Option Int32 := if x = 0 ∨ x = 1 then some x else none
theorem rz_some {x y : Int32} (h : rz x = some y) : y = x ∧ narrow .boolean (.int x) = .int x := by
  unfold rz at h; split at h
  · rename_i hx
    refine ⟨(Option.some.inj h).symm, ?_⟩
    rcases hx with rfl | rfl <;> decide
  · cases h
theorem nar0 : narrow .boolean (.int 0) = .int 0 := by decide
theorem nar1 : narrow .boolean (.int 1) = .int 1 := by decide
theorem elim_n {α β : Type} {o : Option α} {A : Option β} {f : α → Option β} {r : β} (c : o = none) (h : o.elim A f = some r) : A = some r := by subst c; exact h
theorem elim_s {α β : Type} {o : Option α} {A : Option β} {f : α → Option β} {r : β} {a : α} (c : o = some a) (h : o.elim A f = some r) : f a = some r := by subst c; exact h
/-- how often a loop may go round: far above any need -/
def FU : Nat := 1000000000
def gd (x : Int32) : Option Unit := if x = 0 then none else some ()
theorem gd_some {x : Int32} {u : Unit} (h : gd x = some u) : ¬ x = 0 := by
  unfold gd at h; split at h
  · cases h
  · assumption
def gdl (x : Int64) : Option Unit := if x = 0 then none else some ()
theorem gdl_some {x : Int64} {u : Unit} (h : gdl x = some u) : ¬ x = 0 := by
  unfold gdl at h; split at h
  · cases h
  · assumption
theorem kS_some {a : Nat} {u : Unit} (h : (if a = LIM ∨ a = LIM + 1 then some () else none) = some u) : a = LIM ∨ a = LIM + 1 := by
  split at h
  · assumption
  · cases h
end
section
/-! LAYER 0: calls -/
theorem va_fin {p : Program} {l : Launch} {e : Env} {R : Room} {s : State} {m : MethodId} {args : Array Value} {below : List Frame} {meth : Method} {c : Code} {H : Heap} {locs : List Loc} {cells slots mc ms pc B : Nat} {Q : State → Prop} {ls : Array Slot} {st0 rest : List Value} {D : va_G} {tc : Nat → ClassId} {sa : Nat → Nat} {r : Option Value} {μ1 : MM} {a : Array Value}
    (hr : va_Run p l e R s m args below meth c H locs cells slots mc ms (F0 m pc ls st0) rest (QcM B D tc sa r μ1 a) (fun q => B ≤ q)) (hS : va_S (fun q => B ≤ q) s.heap H locs)
    (kk : ∀ (H1 : Heap) (locs1 : List Loc), va_P D CLS (wz (adr B sa) tc μ1) H1 → va_S (fun q => B ≤ q) s.heap H1 locs1 → W p l e R s m args below meth c H1 locs1 (cells + mc) (slots + ms) Q (F0 m (pc + 3) ls ((r.map (cv (adr B sa))).toList ++ rest))) : W p l e R s m args below meth c H locs cells slots Q (F0 m pc ls st0) := by
  intro T hT X
  obtain ⟨v, st₀, t, T', L, h0, X', hL, e1, e2, ⟨hv, hP, hz, hk⟩, st⟩ := hr T hT X
  have hv : v = r.map (cv (adr B sa)) := by cases hv; rfl
  subst hv
  rw [h0] at hz hk
  obtain ⟨t2, a1, b1⟩ := kk T'.heap (locs ++ L) (by rw [e1]; exact hP)
    ⟨Nat.le_trans hS.1 (by rw [e1]; exact hz), fun q h1 h2 => by rw [e1, hk q (Nat.lt_of_lt_of_le h1 hS.1) h2]; exact hS.2.1 q h1 h2, fun q hq => by
      rcases List.mem_append.mp hq with h | h
      · exact hS.2.2 q h
      · exact hL q h⟩ T' rfl X'
  exact ⟨t2, st t2 a1, b1⟩
theorem PcM.blind {B : Nat} {D : va_G} {tc : Nat → ClassId} {sa : Nat → Nat} {μ : MM} {avs : List Value} : FrameBlind (PcM B D tc sa μ avs) := by
  intro a U g mk h
  obtain ⟨h1, h2, h3, h4, h5⟩ := h
  exact ⟨h1, h2, h3, va_K.moved (u := U) (U := U.calling g mk a) (Vm.Alike.refl U.vm) h4, h5.blind⟩
theorem wz_size {B : Nat} {D : va_G} {tc : Nat → ClassId} {sa : Nat → Nat} {μ : MM} {H : Heap} (h : va_P D CLS (wz (adr B sa) tc μ) H) (hB : B ≤ H.size) (hl : nc μ ≤ LIM) : B + nc μ ≤ H.size := by
  rcases Nat.eq_zero_or_pos (nc μ) with h0 | h0
  · omega
  · obtain ⟨x, hx⟩ : ∃ x, μ.1[nc μ - 1]? = some x := ⟨_, List.getElem?_eq_getElem (by unfold nc at *; omega)⟩
    have h1 := (h _ _ (wz_at (f := adr B sa) (tc := tc) hx)).lt
    have h2 : adr B sa (nc μ - 1) < H.size := h1
    rw [adr_lt (by omega)] at h2
    omega
def LKV (own : String) (ix : Nat) (Y : YT) (np : Nat) : Prop := Cond.methodLink own ix Y.1 ∈ tb ∧ Cond.instanceMethod Y.1 ∈ tb ∧ Cond.selects Y.1.cls Y.1 Y.1 ∈ tb ∧ Cond.initialized Y.1.cls ∈ tb ∧ Cond.code Y.1 Y.2.1 Y.2.2.1 Y.2.2.2 ∈ tb ∧ (Y.1.cls ≠ "java/lang/invoke/MethodHandle" ∧ Y.1.cls ≠ "java/lang/invoke/VarHandle" ∧ (parseMethodDescriptor Y.1.desc).map (fun d => d.parameters.length) = some np) ∧ Y.2.2.1 ≤ 111
def LKS (own : String) (ix : Nat) (Y : YT) (np : Nat) : Prop := Cond.methodLink own ix Y.1 ∈ tb ∧ Cond.static Y.1 ∈ tb ∧ Cond.initialized Y.1.cls ∈ tb ∧ Cond.code Y.1 Y.2.1 Y.2.2.1 Y.2.2.2 ∈ tb ∧ (Y.1.cls ≠ "java/lang/invoke/MethodHandle" ∧ Y.1.cls ≠ "java/lang/invoke/VarHandle" ∧ (parseMethodDescriptor Y.1.desc).map (fun d => d.parameters.length) = some np) ∧ Y.2.2.1 ≤ 111
def LKI (own : String) (ix : Nat) (Y : YT) (np : Nat) : Prop := (Cond.methodLink own ix Y.1 ∈ tb ∨ ∃ host, ∀ B sa U, STR B sa U → va_Nw (.methodLinkNest own ix Y.1 host) U) ∧ Cond.instanceMethod Y.1 ∈ tb ∧ Cond.initialized Y.1.cls ∈ tb ∧ Cond.code Y.1 Y.2.1 Y.2.2.1 Y.2.2.2 ∈ tb ∧ (Y.1.cls ≠ "java/lang/invoke/MethodHandle" ∧ Y.1.cls ≠ "java/lang/invoke/VarHandle" ∧ (parseMethodDescriptor Y.1.desc).map (fun d => d.parameters.length) = some np) ∧ Y.2.2.1 ≤ 111 ∧ Y.1.name = "<init>" ∧ Y.2.2.2 = none
theorem good_all {ws : List Cond} (h : ∀ w ∈ ws, w ∈ tb) : GoodIn tb ws := fun w hw => ⟨h w hw, (tb_good w (h w hw)).2⟩
theorem wsY_tb {Y : YT} (h : Cond.code Y.1 Y.2.1 Y.2.2.1 Y.2.2.2 ∈ tb) : ∀ w ∈ wsY Y, w ∈ tb := fun w hw => by
  rcases List.mem_cons.mp hw with rfl | hw
  · exact h
  · exact hw
section AWK
variable {CK : CKT} {l : Launch} {Y Y' : YT} {d d' nE sE pc : Nat} {loc : List (Option Value)} {st rest : List Value} {μ μ1 : MM} {As : List Value} {r : Option Value}
theorem cat_map (f : Nat → Nat) (st : List Value) : ((st.map (cv f)).map fun v => v.category).sum = (st.map fun v => v.category).sum := by
  rw [List.map_map]; congr 1; apply List.map_congr_left; intro v _; exact cv_cat _ v
/-- what a call needs and gives, but for the kind of call -/
theorem AW.call {avs : List Value} (hm : AMet l d' Y' avs μ r μ1) (hdd : d' + 1 ≤ d) (K : AW CK l Y d nE sE (pc + 3) loc (r.toList ++ rest) μ1)
    (h : ∀ {p : Program} {e : Env} {R : Room} {s : State} {m : MethodId} {args : Array Value} {below : List Frame} {meth : Method} {c : Code} {H : Heap} {locs : List Loc} {cells slots mc ms : Nat} {ls : Array Slot} {B : Nat} {D : va_G} {tc : Nat → ClassId} {sa : Nat → Nat}, CallFix p m c Y.2.1 Y.2.2.1 s args tb Y.1.cls → ls.size = Y.2.2.1 → Met l Y'.1 (wsY Y') (rmM d' mc ms) (PcM B D tc sa μ avs) (QcM B D tc sa r μ1) mc ms (fun q => B ≤ q) →
      d' + 1 ≤ R.frames → 130 * (d' + 1) ≤ R.locals → cells + mc ≤ R.cells ∧ slots + ms ≤ R.slots → va_K D CLS (TYS tc) s → va_P D CLS (wz (adr B sa) tc μ) H → STR B sa s →
      (∀ U : State, U.heap = H → s.WarmedH U.vm → PcM B D tc sa μ avs (avs.map (cv (adr B sa))).toArray U) → va_Run p l e R s m args below meth c H locs cells slots mc ms (F0 m pc ls (st.map (cv (adr B sa)))) (rest.map (cv (adr B sa))) (QcM B D tc sa r μ1 (avs.map (cv (adr B sa))).toArray) (fun q => B ≤ q)) : AW CK l Y d nE sE pc loc st μ := by
  have k1 := K.1
  have k2 := K.2.1
  have m1 := hm.1
  have m2 := hm.2.1
  refine ⟨by omega, by omega, fun p e R s m args below meth c B D tc sa n0 s0 Q hC hF H locs ls cells slots hP hS hL hc hs => ?_⟩
  have kk := K.2.2 p e R s m args below meth c B D tc sa n0 s0 Q hC hF
  obtain ⟨hx, hb, hr, hml, ho, hts, hlk, hnm, hK, hsz, hE1, hE2, hf1, hf2, hlim, hstr⟩ := hF
  refine W.size (fun hz => ?_)
  have hz2 : H.size = B + nc μ := by
    have h1 := wz_size hP (by have := hS.1; omega) (by omega)
    omega
  have hM := hm.2.2 (by omega) B D tc sa
  refine va_fin (h ⟨hx, hb, hml, ho, hts⟩ hL.1 hM (by omega) (by omega) ⟨by omega, by omega⟩ hK hP hstr (fun U hU hW => ⟨rfl, by rw [hU]; exact hz2, by rw [hU]; exact hP, va_K.moved hW.alike hK, hstr.to hS hU hW⟩)) hS (fun H1 locs1 hP1 hS1 => ?_)
  have := kk H1 locs1 ls (cells + (nc μ1 - nc μ)) (slots + (nsl μ1 - nsl μ)) hP1 hS1 hL (by omega) (by omega)
  rw [List.map_append] at this
  cases r <;> exact this
theorem aw_invV {a ci ix np : Nat} {T : u_T} {N : Nat} (n : Nat) (hd : decode Y.2.1 pc = .ok (.invokevirtual ix, 3)) (hn : pc + 3 = n) (hl : LKV Y.1.cls ix Y' np) (hM : AMet l d' Y' (.ref a :: As) μ r μ1) (hdd : d' + 1 ≤ d) (hk : μ.1[a]? = some (0, ci)) (hC : CLS[ci]? = some (Y'.1.cls, T, N)) (hst : As.reverse ++ .ref a :: rest = st) (hnp : As.length = np) (hc8 : (rest.map fun v => v.category).sum ≤ 8) {st' : List Value} (hst' : r.toList ++ rest = st')
    (K : AW CK l Y d nE sE n loc st' μ1) : AW CK l Y d nE sE pc loc st μ := by
  subst hn
  subst hst'
  obtain ⟨l1, l2, l3, l4, l5, l6, l7⟩ := hl
  refine AW.call hM hdd K (fun S hls hMet hfr hlo hf hK hP hstr hPc => ?_)
  rename_i p e R s m args below meth c H locs cells slots mc ms ls B D tc sa
  refine va_runV (b := adr B sa a) (As := As.map (cv (adr B sa))) S hMet (cwV np S.2.2.2.2 (good_all ?_) rfl rfl rfl ⟨rfl, l6⟩ ⟨hfr, by show 8 + (_ + 11) + 130 * d' ≤ _; omega⟩) ⟨PcM.blind, va_recv hK hP hC (wz_at hk), hPc⟩ rfl (by rw [List.length_map, hnp]) hls ?_ (lv_room (pc := pc) (ls := ls) (m := m) (rest := st.map (cv (adr B sa))) (by rw [cat_map]; exact hc8)) hd hf
  · intro w hw
    unfold wsV at hw
    rcases List.mem_append.mp hw with h | h
    · simp only [List.mem_cons, List.not_mem_nil, or_false] at h
      rcases h with rfl | rfl | rfl | rfl <;> assumption
    · exact wsY_tb l5 w h
  · show st.map (cv (adr B sa)) = _
    rw [← hst, List.map_append, List.map_reverse]
    rfl
theorem aw_invS {ix np : Nat} (n : Nat) (hd : decode Y.2.1 pc = .ok (.invokestatic ix, 3)) (hn : pc + 3 = n) (hl : LKS Y.1.cls ix Y' np) (hM : AMet l d' Y' As μ r μ1) (hdd : d' + 1 ≤ d) (hst : As.reverse ++ rest = st) (hnp : As.length = np) (hc8 : (rest.map fun v => v.category).sum ≤ 8) {st' : List Value} (hst' : r.toList ++ rest = st')
    (K : AW CK l Y d nE sE n loc st' μ1) : AW CK l Y d nE sE pc loc st μ := by
  subst hn
  subst hst'
  obtain ⟨l1, l2, l3, l5, l6, l7⟩ := hl
  refine AW.call hM hdd K (fun S hls hMet hfr hlo hf hK hP hstr hPc => ?_)
  rename_i p e R s m args below meth c H locs cells slots mc ms ls B D tc sa
  refine va_runS (As := As.map (cv (adr B sa))) S hMet (va_cwS np S.2.2.2.2 (good_all ?_) rfl rfl rfl l6 ⟨hfr, by show 8 + (_ + 11) + 130 * d' ≤ _; omega⟩) ⟨PcM.blind, hPc⟩ rfl (by rw [List.length_map, hnp]) hls ?_ (lv_room (pc := pc) (ls := ls) (m := m) (rest := st.map (cv (adr B sa))) (by rw [cat_map]; exact hc8)) hd hf
  · intro w hw
    unfold va_wsS at hw
    rcases List.mem_append.mp hw with h | h
    · simp only [List.mem_cons, List.not_mem_nil, or_false] at h
      rcases h with rfl | rfl | rfl <;> assumption
    · exact wsY_tb l5 w h
  · show st.map (cv (adr B sa)) = _
    rw [← hst, List.map_append, List.map_reverse]
theorem aw_invI {a ix np : Nat} (n : Nat) (hd : decode Y.2.1 pc = .ok (.invokespecial ix, 3)) (hn : pc + 3 = n) (hl : LKI Y.1.cls ix Y' np) (hM : AMet l d' Y' (.ref a :: As) μ r μ1) (hdd : d' + 1 ≤ d) (hst : As.reverse ++ .ref a :: rest = st) (hnp : As.length = np) (hc8 : (rest.map fun v => v.category).sum ≤ 8) {st' : List Value} (hst' : r.toList ++ rest = st')
    (K : AW CK l Y d nE sE n loc st' μ1) : AW CK l Y d nE sE pc loc st μ := by
  subst hn
  subst hst'
  obtain ⟨l1, l2, l3, l5, l6, l7, l8, l9⟩ := hl
  refine AW.call hM hdd K (fun S hls hMet hfr hlo hf hK hP hstr hPc => ?_)
  rename_i p e R s m args below meth c H locs cells slots mc ms ls B D tc sa
  have hst2 : st.map (cv (adr B sa)) = (As.map (cv (adr B sa))).reverse ++ Value.ref (adr B sa a) :: rest.map (cv (adr B sa)) := by
    rw [← hst, List.map_append, List.map_reverse]
    rfl
  have hw0 : wsY Y' = Cond.code Y'.1 Y'.2.1 Y'.2.2.1 none :: tb := by unfold wsY; rw [l9]
  rcases l1 with l1 | ⟨host, l1⟩
  · exact va_runI (b := adr B sa a) (As := As.map (cv (adr B sa))) S hMet (cwI np S.2.2.2.2 (good_all (wsY_tb l5)) hw0 rfl rfl (S.2.2.2.2 _ l3) (S.2.2.2.2 _ l1) (S.2.2.2.2 _ l2) l8 l6 ⟨hfr, by show 8 + (_ + 11) + 130 * d' ≤ _; omega⟩) ⟨PcM.blind, hPc⟩ rfl (by rw [List.length_map, hnp]) hls hst2 (lv_room (pc := pc) (ls := ls) (m := m) (rest := st.map (cv (adr B sa))) (by rw [cat_map]; exact hc8)) hd hf
  · exact va_runIN (b := adr B sa a) (As := As.map (cv (adr B sa))) S hMet ⟨va_cnB np S.2.2.2.2 (good_all (wsY_tb l5)) hw0 rfl rfl (l1 B sa _ hstr) (S.2.2.2.2 _ l3) l6 ⟨hfr, by show 8 + (_ + 11) + 130 * d' ≤ _; omega⟩, l8, S.2.2.2.2 _ l2⟩ ⟨PcM.blind, hPc⟩ rfl (by rw [List.length_map, hnp]) hls hst2 (lv_room (pc := pc) (ls := ls) (m := m) (rest := st.map (cv (adr B sa))) (by rw [cat_map]; exact hc8)) hd hf
end AWK
end
section
/-! LAYER 0: String constants (ids LIM, LIM + 1; their bytes LIM + 2, LIM + 3) -/
def sbyt (i : Nat) : List Int32 := ([[98, 118, 105, 107, 102, 104, 106, 117, 114, 110, 111, 120], [112, 115, 116, 107, 100]] : List (List Int32)).getD i []
def slen (i : Nat) : Nat := ([12, 5] : List Nat).getD i 0
def isS (a : Nat) : Prop := a = LIM ∨ a = LIM + 1
def sC (a : Nat) : Option Int32 := if a = LIM ∨ a = LIM + 1 then some 0 else none
def sV (a : Nat) : Option Nat := if a = LIM ∨ a = LIM + 1 then some (a + 2) else none
def sN (a : Nat) : Option Int32 := if a = LIM + 2 ∨ a = LIM + 3 then some (Int32.ofNat (slen (a - (LIM + 2)))) else none
def sB (a : Nat) (j : Int32) : Option Int32 := if (a = LIM + 2 ∨ a = LIM + 3) ∧ ¬ (j < 0 ∨ slen (a - (LIM + 2)) ≤ j.toNatClampNeg) then some ((sbyt (a - (LIM + 2))).getD j.toNatClampNeg 0) else none
theorem adr_S {B : Nat} {sa : Nat → Nat} (i : Nat) : adr B sa (LIM + i) = sa i := by
  unfold adr; rw [if_neg (Nat.not_lt.mpr (Nat.le_add_right LIM i)), Nat.add_sub_cancel_left]
section AWS
variable {CK : CKT} {l : Launch} {Y Y' : YT} {d d' nE sE pc : Nat} {loc : List (Option Value)} {st rest : List Value} {μ μ1 : MM} {As : List Value} {r : Option Value}
/-- a look at what was there before -/
theorem AW.look {pc' : Nat} {st' : List Value} (k : AW CK l Y d nE sE pc' loc st' μ)
    (h : ∀ {p : Program} {e : Env} {R : Room} {s : State} {m : MethodId} {args : Array Value} {below : List Frame} {meth : Method} {c : Code} {H : Heap} {locs : List Loc} {cells slots : Nat} {Q : State → Prop} {ls : Array Slot} {B : Nat} {sa : Nat → Nat}, p.tables.exec = Jvm.exec → c.code = Y.2.1 →
      s.vm.findClass Y.1.cls = some m.cls → (∀ w ∈ tb, w.before args s = true) → STR B sa s → va_S (fun q => B ≤ q) s.heap H locs →
      W p l e R s m args below meth c H locs cells slots Q (F0 m pc' ls (st'.map (cv (adr B sa)))) → W p l e R s m args below meth c H locs cells slots Q (F0 m pc ls (st.map (cv (adr B sa))))) : AW CK l Y d nE sE pc loc st μ := by
  refine ⟨k.1, k.2.1, fun p e R s m args below meth c B D tc sa n0 s0 Q hC hF H locs ls cells slots hP hS hL hc hs => ?_⟩
  exact h hF.1 hF.2.1 hF.2.2.2.2.1 hF.2.2.2.2.2.1 hF.2.2.2.2.2.2.2.2.2.2.2.2.2.2.2 hS (k.2.2 p e R s m args below meth c B D tc sa n0 s0 Q hC hF H locs ls cells slots hP hS hL hc hs)
theorem aw_ldcS {ix i : Nat} {tx : String} (n : Nat) (hd : decode Y.2.1 pc = .ok (.ldc ix, 2)) (hn : pc + 2 = n) (hz : ∀ B sa U, STR B sa U → vk_R Y.1.cls ix tx (sa i) U) (K : AW CK l Y d nE sE n loc (.ref (LIM + i) :: st) μ) : AW CK l Y d nE sE pc loc st μ := by
  subst hn
  refine K.look (fun hx hb ho ht hstr hS kk => va_ldcS hx hb ho (hz _ _ _ hstr) hd ?_)
  simp only [List.map_cons, cv, adr_S] at kk
  exact kk
theorem str_at {B : Nat} {sa : Nat → Nat} {U : State} (h : STR B sa U) {a : Nat} (ha : a = LIM ∨ a = LIM + 1) : ∃ i, i < 2 ∧ a = LIM + i ∧ va_O "java/lang/String" (sa i) (fun q => B ≤ q) U U.heap ∧ va_OF "java/lang/String" "coder" "B" (.int 0) (sa i) (fun q => B ≤ q) U U.heap ∧ va_OF "java/lang/String" "value" "[B" (.ref (sa (i + 2))) (sa i) (fun q => B ≤ q) U U.heap := by
  obtain ⟨-, -, -, h4, -⟩ := h
  rcases ha with rfl | rfl
  · exact ⟨0, by decide, rfl, (h4.1 0 (by decide)).1, (h4.1 0 (by decide)).2.1, (h4.1 0 (by decide)).2.2.1⟩
  · exact ⟨1, by decide, rfl, (h4.1 1 (by decide)).1, (h4.1 1 (by decide)).2.1, (h4.1 1 (by decide)).2.2.1⟩
theorem strv_at {B : Nat} {sa : Nat → Nat} {U : State} (h : STR B sa U) {a : Nat} (ha : a = LIM + 2 ∨ a = LIM + 3) : ∃ i, i < 2 ∧ a = LIM + (i + 2) ∧ va_T .byte (sa (i + 2)) (slen i) (fun j => .int ((sbyt i).getD j 0)) (fun q => B ≤ q) U U.heap := by
  obtain ⟨-, -, -, h4, -⟩ := h
  rcases ha with rfl | rfl
  · exact ⟨0, by decide, rfl, (h4.1 0 (by decide)).2.2.2⟩
  · exact ⟨1, by decide, rfl, (h4.1 1 (by decide)).2.2.2⟩
theorem aw_getSC {ix a : Nat} {x : Int32} (n : Nat) (hd : decode Y.2.1 pc = .ok (.getfield ix, 3)) (hn : pc + 3 = n) (hw : Cond.fieldLink Y.1.cls ix "java/lang/String" "coder" "B" ∈ tb) (hr : sC a = some x) (K : AW CK l Y d nE sE n loc (.int x :: st) μ) : AW CK l Y d nE sE pc loc (.ref a :: st) μ := by
  subst hn
  unfold sC at hr
  split at hr
  · rename_i ha
    cases hr
    refine K.look (fun hx hb ho ht hstr hS kk => ?_)
    obtain ⟨i, hi, rfl, -, h2, -⟩ := str_at hstr ha
    show W _ _ _ _ _ _ _ _ _ _ _ _ _ _ _ (F0 _ _ _ (Value.ref (adr _ _ (LIM + i)) :: _))
    rw [adr_S]
    exact vk_getf hx hb h2 hS ho (ht _ hw) (fun x q => q) hd kk
  · cases hr
theorem aw_getSV {ix a x : Nat} (n : Nat) (hd : decode Y.2.1 pc = .ok (.getfield ix, 3)) (hn : pc + 3 = n) (hw : Cond.fieldLink Y.1.cls ix "java/lang/String" "value" "[B" ∈ tb) (hr : sV a = some x) (K : AW CK l Y d nE sE n loc (.ref x :: st) μ) : AW CK l Y d nE sE pc loc (.ref a :: st) μ := by
  subst hn
  unfold sV at hr
  split at hr
  · rename_i ha
    cases hr
    refine K.look (fun hx hb ho ht hstr hS kk => ?_)
    obtain ⟨i, hi, rfl, -, -, h3⟩ := str_at hstr ha
    show W _ _ _ _ _ _ _ _ _ _ _ _ _ _ _ (F0 _ _ _ (Value.ref (adr _ _ (LIM + i)) :: _))
    rw [adr_S]
    simp only [List.map_cons, cv, Nat.add_assoc, adr_S] at kk
    exact vk_getf hx hb h3 hS ho (ht _ hw) (fun x q => q) hd kk
  · cases hr
theorem aw_salen {a : Nat} {x : Int32} (n : Nat) (hd : decode Y.2.1 pc = .ok (.arraylength, 1)) (hn : pc + 1 = n) (hr : sN a = some x) (K : AW CK l Y d nE sE n loc (.int x :: st) μ) : AW CK l Y d nE sE pc loc (.ref a :: st) μ := by
  subst hn
  unfold sN at hr
  split at hr
  · rename_i ha
    refine K.look (fun hx hb ho ht hstr hS kk => ?_)
    obtain ⟨i, hi, rfl, hT⟩ := strv_at hstr ha
    show W _ _ _ _ _ _ _ _ _ _ _ _ _ _ _ (F0 _ _ _ (Value.ref (adr _ _ (LIM + (i + 2))) :: _))
    rw [adr_S]
    refine va_tlen hx hb hT hS ?_ hd kk
    have e : LIM + (i + 2) - (LIM + 2) = i := by omega
    rw [e] at hr
    exact Option.some.inj hr
  · cases hr
theorem aw_sbald {a : Nat} {j x : Int32} (n : Nat) (hd : decode Y.2.1 pc = .ok (.baload, 1)) (hn : pc + 1 = n) (hr : sB a j = some x) (K : AW CK l Y d nE sE n loc (.int x :: st) μ) : AW CK l Y d nE sE pc loc (.int j :: .ref a :: st) μ := by
  subst hn
  unfold sB at hr
  split at hr
  · rename_i ha
    refine K.look (fun hx hb ho ht hstr hS kk => ?_)
    obtain ⟨i, hi, rfl, hT⟩ := strv_at hstr ha.1
    have e : LIM + (i + 2) - (LIM + 2) = i := by omega
    rw [e] at hr
    have h2 := ha.2
    rw [e] at h2
    show W _ _ _ _ _ _ _ _ _ _ _ _ _ _ _ (F0 _ _ _ (Value.int j :: Value.ref (adr _ _ (LIM + (i + 2))) :: _))
    rw [adr_S]
    exact va_tb hx hb hT hS h2 (by rw [← Option.some.inj hr]; rfl) hd kk
  · cases hr
theorem aw_getCS {ix : Nat} (n : Nat) (hd : decode Y.2.1 pc = .ok (.getstatic ix, 3)) (hn : pc + 3 = n) (hw : Cond.fieldLink Y.1.cls ix "java/lang/String" "COMPACT_STRINGS" "Z" ∈ tb) (K : AW CK l Y d nE sE n loc (.int 1 :: st) μ) : AW CK l Y d nE sE pc loc st μ := by
  subst hn
  exact K.look (fun hx hb ho ht hstr hS kk => va_gets hx hb hstr.2.2.2.2.1 hS ho (ht _ hw) (fun x q => q) hd kk)
/-- a call on a String constant -/
theorem aw_invVS {a ix np : Nat} (n : Nat) (hd : decode Y.2.1 pc = .ok (.invokevirtual ix, 3)) (hn : pc + 3 = n) (hl : LKV Y.1.cls ix Y' np) (hM : AMet l d' Y' (.ref a :: As) μ r μ1) (hdd : d' + 1 ≤ d) (hk : a = LIM ∨ a = LIM + 1) (hC : Y'.1.cls = "java/lang/String") (hst : As.reverse ++ .ref a :: rest = st) (hnp : As.length = np) (hc8 : (rest.map fun v => v.category).sum ≤ 8) {st' : List Value} (hst' : r.toList ++ rest = st')
    (K : AW CK l Y d nE sE n loc st' μ1) : AW CK l Y d nE sE pc loc st μ := by
  subst hn
  subst hst'
  obtain ⟨l1, l2, l3, l4, l5, l6, l7⟩ := hl
  have k1 := K.1
  have k2 := K.2.1
  have m1 := hM.1
  have m2 := hM.2.1
  refine ⟨by omega, by omega, fun p e R s m args below meth c B D tc sa n0 s0 Q hC0 hF H locs ls cells slots hP hS hL hc hs => ?_⟩
  have hrecv : ∃ cell : Cell, H[adr B sa a]? = some cell ∧ cell.vm.isStatics = false ∧ s.vm.findClass Y'.1.cls = some cell.cls := by
    obtain ⟨i, hi, rfl, h1, -, -⟩ := str_at hF.2.2.2.2.2.2.2.2.2.2.2.2.2.2.2 hk
    obtain ⟨cell, g1, g2, g3, -⟩ := h1.kept hS.2.1
    rw [adr_S, hC]
    exact ⟨cell, g1, g2, g3⟩
  have kk := K.2.2 p e R s m args below meth c B D tc sa n0 s0 Q hC0 hF
  obtain ⟨hx, hb, hr, hml, ho, hts, hlk, hnm, hK, hsz, hE1, hE2, hf1, hf2, hlim, hstr⟩ := hF
  refine W.size (fun hz => ?_)
  have hz2 : H.size = B + nc μ := by
    have h1 := wz_size hP (by have := hS.1; omega) (by omega)
    omega
  have hMe := hM.2.2 (by omega) B D tc sa
  refine va_fin (va_runV (b := adr B sa a) (As := As.map (cv (adr B sa))) (rest := rest.map (cv (adr B sa))) ⟨hx, hb, hml, ho, hts⟩ hMe (cwV np hts (good_all ?_) rfl rfl rfl ⟨rfl, l6⟩ ⟨by show d' + 1 ≤ _; omega, by show 8 + (_ + 11) + 130 * d' ≤ _; omega⟩) ⟨PcM.blind, hrecv, fun U hU hW => ⟨rfl, by rw [hU]; exact hz2, by rw [hU]; exact hP, va_K.moved hW.alike hK, hstr.to hS hU hW⟩⟩ rfl (by rw [List.length_map, hnp]) hL.1 ?_ (lv_room (pc := pc) (ls := ls) (m := m) (rest := st.map (cv (adr B sa))) (by rw [cat_map]; exact hc8)) hd ⟨by omega, by omega⟩) hS (fun H1 locs1 hP1 hS1 => ?_)
  · intro w hw
    unfold wsV at hw
    rcases List.mem_append.mp hw with h | h
    · simp only [List.mem_cons, List.not_mem_nil, or_false] at h
      rcases h with rfl | rfl | rfl | rfl <;> assumption
    · exact wsY_tb l5 w h
  · show st.map (cv (adr B sa)) = _
    rw [← hst, List.map_append, List.map_reverse]
    rfl
  · have := kk H1 locs1 ls (cells + (nc μ1 - nc μ)) (slots + (nsl μ1 - nsl μ)) hP1 hS1 hL (by omega) (by omega)
    rw [List.map_append] at this
    cases r <;> exact this
end AWS
/-! words of the tables by chunk and place -/
theorem mem_c {i : Nat} {w : Cond} {ch : List Cond} (hc : ∀ w ∈ ch, w ∈ tables_1) (h : ch[i]? = some w) (g : goodWord w = true) : w ∈ tb := List.mem_filter.mpr ⟨List.mem_append_right _ (hc w (List.mem_of_getElem? h)), g⟩
theorem mem_c1 (i : Nat) {w : Cond} (h : tables_1_1[i]? = some w) (g : goodWord w = true) : w ∈ tb := mem_c (fun w h => by unfold tables_1; simp only [List.mem_append]; simp [h]) h g
theorem mem_c2 (i : Nat) {w : Cond} (h : tables_1_2[i]? = some w) (g : goodWord w = true) : w ∈ tb := mem_c (fun w h => by unfold tables_1; simp only [List.mem_append]; simp [h]) h g
theorem mem_c3 (i : Nat) {w : Cond} (h : tables_1_3[i]? = some w) (g : goodWord w = true) : w ∈ tb := mem_c (fun w h => by unfold tables_1; simp only [List.mem_append]; simp [h]) h g
theorem mem_c4 (i : Nat) {w : Cond} (h : tables_1_4[i]? = some w) (g : goodWord w = true) : w ∈ tb := mem_c (fun w h => by unfold tables_1; simp only [List.mem_append]; simp [h]) h g
theorem mem_c5 (i : Nat) {w : Cond} (h : tables_1_5[i]? = some w) (g : goodWord w = true) : w ∈ tb := mem_c (fun w h => by unfold tables_1; simp only [List.mem_append]; simp [h]) h g
theorem mem_c6 (i : Nat) {w : Cond} (h : tables_1_6[i]? = some w) (g : goodWord w = true) : w ∈ tb := mem_c (fun w h => by unfold tables_1; simp only [List.mem_append]; simp [h]) h g
theorem mem_c7 (i : Nat) {w : Cond} (h : tables_1_7[i]? = some w) (g : goodWord w = true) : w ∈ tb := mem_c (fun w h => by unfold tables_1; simp only [List.mem_append]; simp [h]) h g
theorem mem_c8 (i : Nat) {w : Cond} (h : tables_1_8[i]? = some w) (g : goodWord w = true) : w ∈ tb := mem_c (fun w h => by unfold tables_1; simp only [List.mem_append]; simp [h]) h g
theorem mem_pv {i : Nat} {q : MethodName × Nat} {ch : List (MethodName × Nat)} (hc : ∀ q ∈ ch, q ∈ lw_privs) (h : ch[i]? = some q) : Cond.selects q.1.cls q.1 q.1 ∈ tb := List.mem_filter.mpr ⟨List.mem_append_left _ (List.mem_map.mpr ⟨q, hc q (List.mem_of_getElem? h), rfl⟩), rfl⟩
theorem mem_p1 (i : Nat) {q : MethodName × Nat} (h : lw_privs_1[i]? = some q) : Cond.selects q.1.cls q.1 q.1 ∈ tb := mem_pv (fun w h => by unfold lw_privs; simp only [List.mem_append]; simp [h]) h
theorem mem_p2 (i : Nat) {q : MethodName × Nat} (h : lw_privs_2[i]? = some q) : Cond.selects q.1.cls q.1 q.1 ∈ tb := mem_pv (fun w h => by unfold lw_privs; simp only [List.mem_append]; simp [h]) h
theorem mem_p3 (i : Nat) {q : MethodName × Nat} (h : lw_privs_3[i]? = some q) : Cond.selects q.1.cls q.1 q.1 ∈ tb := mem_pv (fun w h => by unfold lw_privs; simp only [List.mem_append]; simp [h]) h
theorem mem_p4 (i : Nat) {q : MethodName × Nat} (h : lw_privs_4[i]? = some q) : Cond.selects q.1.cls q.1 q.1 ∈ tb := mem_pv (fun w h => by unfold lw_privs; simp only [List.mem_append]; simp [h]) h
theorem mem_p5 (i : Nat) {q : MethodName × Nat} (h : lw_privs_5[i]? = some q) : Cond.selects q.1.cls q.1 q.1 ∈ tb := mem_pv (fun w h => by unfold lw_privs; simp only [List.mem_append]; simp [h]) h
theorem mem_p6 (i : Nat) {q : MethodName × Nat} (h : lw_privs_6[i]? = some q) : Cond.selects q.1.cls q.1 q.1 ∈ tb := mem_pv (fun w h => by unfold lw_privs; simp only [List.mem_append]; simp [h]) h
theorem mem_p7 (i : Nat) {q : MethodName × Nat} (h : lw_privs_7[i]? = some q) : Cond.selects q.1.cls q.1 q.1 ∈ tb := mem_pv (fun w h => by unfold lw_privs; simp only [List.mem_append]; simp [h]) h
end
section
/-! PRINTED by wip/gen/gen1.py: names and links -/
theorem ac_int : Cond.arrayClass .int ∈ tb := mem_c1 71 rfl rfl
theorem ac_byte : Cond.arrayClass .byte ∈ tb := mem_c1 235 rfl rfl
theorem ac_boolean : Cond.arrayClass .boolean ∈ tb := mem_c1 236 rfl rfl
theorem ac_long : Cond.arrayClass .long ∈ tb := mem_c1 234 rfl rfl
def Y_Ar_fill_AI : YT := (⟨"java/util/Arrays", "fill", "([II)V"⟩, prog_22_method_103_code, 4, none)
theorem cw_Ar_fill_AI : Cond.code Y_Ar_fill_AI.1 Y_Ar_fill_AI.2.1 Y_Ar_fill_AI.2.2.1 Y_Ar_fill_AI.2.2.2 ∈ tb := mem_c1 39 rfl rfl
theorem pn_Ar_fill_AI : plainFor Y_Ar_fill_AI.1 = true := by decide +kernel
def Y_Sc_init : YT := (⟨"SinkingChoir$Score", "<init>", "()V"⟩, prog_9_method_1_code, 1, none)
theorem cw_Sc_init : Cond.code Y_Sc_init.1 Y_Sc_init.2.1 Y_Sc_init.2.2.1 Y_Sc_init.2.2.2 ∈ tb := mem_c1 35 rfl rfl
theorem pn_Sc_init : plainFor Y_Sc_init.1 = true := by decide +kernel
def Y_Pr_init : YT := (⟨"SinkingChoir$Program", "<init>", "()V"⟩, prog_6_method_1_code, 1, none)
theorem cw_Pr_init : Cond.code Y_Pr_init.1 Y_Pr_init.2.1 Y_Pr_init.2.2.1 Y_Pr_init.2.2.2 ∈ tb := mem_c1 82 rfl rfl
theorem pn_Pr_init : plainFor Y_Pr_init.1 = true := by decide +kernel
def Y_Ch_init : YT := (⟨"SinkingChoir$Choir", "<init>", "(LSinkingChoir$Score;)V"⟩, prog_2_method_1_code, 2, none)
theorem cw_Ch_init : Cond.code Y_Ch_init.1 Y_Ch_init.2.1 Y_Ch_init.2.2.1 Y_Ch_init.2.2.2 ∈ tb := mem_c1 76 rfl rfl
theorem pn_Ch_init : plainFor Y_Ch_init.1 = true := by decide +kernel
def Y_Str_coder : YT := (⟨"java/lang/String", "coder", "()B"⟩, prog_18_method_152_code, 1, some .byte)
theorem cw_Str_coder : Cond.code Y_Str_coder.1 Y_Str_coder.2.1 Y_Str_coder.2.2.1 Y_Str_coder.2.2.2 ∈ tb := mem_c1 185 rfl rfl
theorem pn_Str_coder : plainFor Y_Str_coder.1 = true := by decide +kernel
def Y_Str_length : YT := (⟨"java/lang/String", "length", "()I"⟩, prog_18_method_54_code, 1, some .int)
theorem cw_Str_length : Cond.code Y_Str_length.1 Y_Str_length.2.1 Y_Str_length.2.2.1 Y_Str_length.2.2.2 ∈ tb := mem_c1 181 rfl rfl
theorem pn_Str_length : plainFor Y_Str_length.1 = true := by decide +kernel
def Y_Si_init : YT := (⟨"SinkingChoir$Singing", "<init>", "(LSinkingChoir$Score;LSinkingChoir$Choir;)V"⟩, prog_10_method_1_code, 3, none)
theorem cw_Si_init : Cond.code Y_Si_init.1 Y_Si_init.2.1 Y_Si_init.2.2.1 Y_Si_init.2.2.2 ∈ tb := mem_c1 175 rfl rfl
theorem pn_Si_init : plainFor Y_Si_init.1 = true := by decide +kernel
def Y_St_init : YT := (⟨"SinkingChoir$Standing", "<init>", "(LSinkingChoir$Choir;LSinkingChoir$Singing;)V"⟩, prog_11_method_1_code, 3, none)
theorem cw_St_init : Cond.code Y_St_init.1 Y_St_init.2.1 Y_St_init.2.2.1 Y_St_init.2.2.2 ∈ tb := mem_c2 1 rfl rfl
theorem pn_St_init : plainFor Y_St_init.1 = true := by decide +kernel
def Y_Le_init : YT := (⟨"SinkingChoir$Leading", "<init>", "(LSinkingChoir$Choir;LSinkingChoir$Singing;)V"⟩, prog_5_method_1_code, 3, none)
theorem cw_Le_init : Cond.code Y_Le_init.1 Y_Le_init.2.1 Y_Le_init.2.2.1 Y_Le_init.2.2.2 ∈ tb := mem_c2 32 rfl rfl
theorem pn_Le_init : plainFor Y_Le_init.1 = true := by decide +kernel
def Y_Fi_init : YT := (⟨"SinkingChoir$Fitting", "<init>", "(LSinkingChoir$Score;LSinkingChoir$Choir;LSinkingChoir$Singing;)V"⟩, prog_3_method_1_code, 4, none)
theorem cw_Fi_init : Cond.code Y_Fi_init.1 Y_Fi_init.2.1 Y_Fi_init.2.2.1 Y_Fi_init.2.2.2 ∈ tb := mem_c2 56 rfl rfl
theorem pn_Fi_init : plainFor Y_Fi_init.1 = true := by decide +kernel
def Y_Rl_init : YT := (⟨"SinkingChoir$Reel", "<init>", "()V"⟩, prog_8_method_1_code, 1, none)
theorem cw_Rl_init : Cond.code Y_Rl_init.1 Y_Rl_init.2.1 Y_Rl_init.2.2.1 Y_Rl_init.2.2.2 ∈ tb := mem_c2 78 rfl rfl
theorem pn_Rl_init : plainFor Y_Rl_init.1 = true := by decide +kernel
def Y_Re_init : YT := (⟨"SinkingChoir$Reader", "<init>", "()V"⟩, prog_7_method_1_code, 1, none)
theorem cw_Re_init : Cond.code Y_Re_init.1 Y_Re_init.2.1 Y_Re_init.2.2.1 Y_Re_init.2.2.2 ∈ tb := mem_c2 93 rfl rfl
theorem pn_Re_init : plainFor Y_Re_init.1 = true := by decide +kernel
def Y_X_init : YT := (⟨"SinkingChoir", "<init>", "()V"⟩, prog_1_method_1_code, 1, none)
theorem cw_X_init : Cond.code Y_X_init.1 Y_X_init.2.1 Y_X_init.2.2.1 Y_X_init.2.2.2 ∈ tb := mem_c1 27 rfl rfl
theorem pn_X_init : plainFor Y_X_init.1 = true := by decide +kernel
def Y_M_init : YT := (⟨"SinkingChoirModel", "<init>", "()V"⟩, prog_14_method_1_code, 2, none)
theorem cw_M_init : Cond.code Y_M_init.1 Y_M_init.2.1 Y_M_init.2.2.1 Y_M_init.2.2.2 ∈ tb := mem_c5 213 rfl rfl
theorem pn_M_init : plainFor Y_M_init.1 = true := by decide +kernel
def Y_Fr_ofNumber : YT := (⟨"SinkingChoir$Fraction", "ofNumber", "(I)I"⟩, prog_4_method_5_code, 4, some .int)
theorem cw_Fr_ofNumber : Cond.code Y_Fr_ofNumber.1 Y_Fr_ofNumber.2.1 Y_Fr_ofNumber.2.2.1 Y_Fr_ofNumber.2.2.2 ∈ tb := mem_c2 153 rfl rfl
theorem pn_Fr_ofNumber : plainFor Y_Fr_ofNumber.1 = true := by decide +kernel
def Y_Fr_exponent : YT := (⟨"SinkingChoir$Fraction", "exponent", "(II)I"⟩, prog_4_method_3_code, 3, some .int)
theorem cw_Fr_exponent : Cond.code Y_Fr_exponent.1 Y_Fr_exponent.2.1 Y_Fr_exponent.2.2.1 Y_Fr_exponent.2.2.2 ∈ tb := mem_c2 162 rfl rfl
theorem pn_Fr_exponent : plainFor Y_Fr_exponent.1 = true := by decide +kernel
def Y_Fr_mills : YT := (⟨"SinkingChoir$Fraction", "mills", "(I)I"⟩, prog_4_method_4_code, 1, some .int)
theorem cw_Fr_mills : Cond.code Y_Fr_mills.1 Y_Fr_mills.2.1 Y_Fr_mills.2.2.1 Y_Fr_mills.2.2.2 ∈ tb := mem_c2 158 rfl rfl
theorem pn_Fr_mills : plainFor Y_Fr_mills.1 = true := by decide +kernel
def Y_Fr_of : YT := (⟨"SinkingChoir$Fraction", "of", "(II)I"⟩, prog_4_method_2_code, 6, some .int)
theorem cw_Fr_of : Cond.code Y_Fr_of.1 Y_Fr_of.2.1 Y_Fr_of.2.2.1 Y_Fr_of.2.2.2 ∈ tb := mem_c2 150 rfl rfl
theorem pn_Fr_of : plainFor Y_Fr_of.1 = true := by decide +kernel
def Y_Sc_has : YT := (⟨"SinkingChoir$Score", "has", "(II)Z"⟩, prog_9_method_2_code, 2, some .boolean)
theorem cw_Sc_has : Cond.code Y_Sc_has.1 Y_Sc_has.2.1 Y_Sc_has.2.2.1 Y_Sc_has.2.2.2 ∈ tb := mem_c2 170 rfl rfl
theorem pn_Sc_has : plainFor Y_Sc_has.1 = true := by decide +kernel
def Y_Sc_cell : YT := (⟨"SinkingChoir$Score", "cell", "(II)I"⟩, prog_9_method_3_code, 2, some .int)
theorem cw_Sc_cell : Cond.code Y_Sc_cell.1 Y_Sc_cell.2.1 Y_Sc_cell.2.2.1 Y_Sc_cell.2.2.2 ∈ tb := mem_c2 179 rfl rfl
theorem pn_Sc_cell : plainFor Y_Sc_cell.1 = true := by decide +kernel
def Y_Sc_sounds : YT := (⟨"SinkingChoir$Score", "sounds", "(II)Z"⟩, prog_9_method_4_code, 3, some .boolean)
theorem cw_Sc_sounds : Cond.code Y_Sc_sounds.1 Y_Sc_sounds.2.1 Y_Sc_sounds.2.2.1 Y_Sc_sounds.2.2.2 ∈ tb := mem_c2 188 rfl rfl
theorem pn_Sc_sounds : plainFor Y_Sc_sounds.1 = true := by decide +kernel
def Y_Sc_holds : YT := (⟨"SinkingChoir$Score", "holds", "(II)Z"⟩, prog_9_method_5_code, 3, some .boolean)
theorem cw_Sc_holds : Cond.code Y_Sc_holds.1 Y_Sc_holds.2.1 Y_Sc_holds.2.2.1 Y_Sc_holds.2.2.2 ∈ tb := mem_c2 184 rfl rfl
theorem pn_Sc_holds : plainFor Y_Sc_holds.1 = true := by decide +kernel
def Y_Sc_shift : YT := (⟨"SinkingChoir$Score", "shift", "(II)I"⟩, prog_9_method_9_code, 3, some .int)
theorem cw_Sc_shift : Cond.code Y_Sc_shift.1 Y_Sc_shift.2.1 Y_Sc_shift.2.2.1 Y_Sc_shift.2.2.2 ∈ tb := mem_c2 196 rfl rfl
theorem pn_Sc_shift : plainFor Y_Sc_shift.1 = true := by decide +kernel
def Y_Sc_tune : YT := (⟨"SinkingChoir$Score", "tune", "()V"⟩, prog_9_method_10_code, 2, none)
theorem cw_Sc_tune : Cond.code Y_Sc_tune.1 Y_Sc_tune.2.1 Y_Sc_tune.2.2.1 Y_Sc_tune.2.2.2 ∈ tb := mem_c2 192 rfl rfl
theorem pn_Sc_tune : plainFor Y_Sc_tune.1 = true := by decide +kernel
def Y_Sc_put : YT := (⟨"SinkingChoir$Score", "put", "(IIII)V"⟩, prog_9_method_7_code, 6, none)
theorem cw_Sc_put : Cond.code Y_Sc_put.1 Y_Sc_put.2.1 Y_Sc_put.2.2.1 Y_Sc_put.2.2.2 ∈ tb := mem_c2 175 rfl rfl
theorem pn_Sc_put : plainFor Y_Sc_put.1 = true := by decide +kernel
def Y_X_changed : YT := (⟨"SinkingChoir", "changed", "()Z"⟩, prog_1_method_34_code, 1, some .boolean)
theorem cw_X_changed : Cond.code Y_X_changed.1 Y_X_changed.2.1 Y_X_changed.2.2.1 Y_X_changed.2.2.2 ∈ tb := mem_c2 200 rfl rfl
theorem pn_X_changed : plainFor Y_X_changed.1 = true := by decide +kernel
def Y_X_note : YT := (⟨"SinkingChoir", "note", "(IIIII)Z"⟩, prog_1_method_2_code, 7, some .boolean)
theorem cw_X_note : Cond.code Y_X_note.1 Y_X_note.2.1 Y_X_note.2.2.1 Y_X_note.2.2.2 ∈ tb := mem_c2 147 rfl rfl
theorem pn_X_note : plainFor Y_X_note.1 = true := by decide +kernel
def Y_M_lies : YT := (⟨"SinkingChoirModel", "lies", "(JJJ)Z"⟩, prog_14_method_2_code, 6, some .boolean)
theorem cw_M_lies : Cond.code Y_M_lies.1 Y_M_lies.2.1 Y_M_lies.2.2.1 Y_M_lies.2.2.2 ∈ tb := mem_c6 199 rfl rfl
theorem pn_M_lies : plainFor Y_M_lies.1 = true := by decide +kernel
def Y_M_isVoice : YT := (⟨"SinkingChoirModel", "isVoice", "(I)Z"⟩, prog_14_method_7_code, 1, some .boolean)
theorem cw_M_isVoice : Cond.code Y_M_isVoice.1 Y_M_isVoice.2.1 Y_M_isVoice.2.2.1 Y_M_isVoice.2.2.2 ∈ tb := mem_c6 224 rfl rfl
theorem pn_M_isVoice : plainFor Y_M_isVoice.1 = true := by decide +kernel
def Y_M_isBeat : YT := (⟨"SinkingChoirModel", "isBeat", "(I)Z"⟩, prog_14_method_8_code, 1, some .boolean)
theorem cw_M_isBeat : Cond.code Y_M_isBeat.1 Y_M_isBeat.2.1 Y_M_isBeat.2.2.1 Y_M_isBeat.2.2.2 ∈ tb := mem_c6 228 rfl rfl
theorem pn_M_isBeat : plainFor Y_M_isBeat.1 = true := by decide +kernel
def Y_M_bare : YT := (⟨"SinkingChoirModel", "bare", "(I)I"⟩, prog_14_method_13_code, 2, some .int)
theorem cw_M_bare : Cond.code Y_M_bare.1 Y_M_bare.2.1 Y_M_bare.2.2.1 Y_M_bare.2.2.2 ∈ tb := mem_c6 202 rfl rfl
theorem pn_M_bare : plainFor Y_M_bare.1 = true := by decide +kernel
def Y_M_powerOf : YT := (⟨"SinkingChoirModel", "powerOf", "(II)I"⟩, prog_14_method_12_code, 4, some .int)
theorem cw_M_powerOf : Cond.code Y_M_powerOf.1 Y_M_powerOf.2.1 Y_M_powerOf.2.2.1 Y_M_powerOf.2.2.2 ∈ tb := mem_c6 208 rfl rfl
theorem pn_M_powerOf : plainFor Y_M_powerOf.1 = true := by decide +kernel
def Y_M_mills : YT := (⟨"SinkingChoirModel", "mills", "(III)I"⟩, prog_14_method_14_code, 3, some .int)
theorem cw_M_mills : Cond.code Y_M_mills.1 Y_M_mills.2.1 Y_M_mills.2.2.1 Y_M_mills.2.2.2 ∈ tb := mem_c6 211 rfl rfl
theorem pn_M_mills : plainFor Y_M_mills.1 = true := by decide +kernel
def Y_M_fraction : YT := (⟨"SinkingChoirModel", "fraction", "(II)I"⟩, prog_14_method_15_code, 2, some .int)
theorem cw_M_fraction : Cond.code Y_M_fraction.1 Y_M_fraction.2.1 Y_M_fraction.2.2.1 Y_M_fraction.2.2.2 ∈ tb := mem_c6 205 rfl rfl
theorem pn_M_fraction : plainFor Y_M_fraction.1 = true := by decide +kernel
def Y_M_isFraction : YT := (⟨"SinkingChoirModel", "isFraction", "(II)Z"⟩, prog_14_method_16_code, 2, some .boolean)
theorem cw_M_isFraction : Cond.code Y_M_isFraction.1 Y_M_isFraction.2.1 Y_M_isFraction.2.2.1 Y_M_isFraction.2.2.2 ∈ tb := mem_c6 195 rfl rfl
theorem pn_M_isFraction : plainFor Y_M_isFraction.1 = true := by decide +kernel
def Y_M_cellOf : YT := (⟨"SinkingChoirModel", "cellOf", "(II)I"⟩, prog_14_method_9_code, 2, some .int)
theorem cw_M_cellOf : Cond.code Y_M_cellOf.1 Y_M_cellOf.2.1 Y_M_cellOf.2.2.1 Y_M_cellOf.2.2.2 ∈ tb := mem_c6 233 rfl rfl
theorem pn_M_cellOf : plainFor Y_M_cellOf.1 = true := by decide +kernel
def Y_M_isNote : YT := (⟨"SinkingChoirModel", "isNote", "(II)Z"⟩, prog_14_method_10_code, 3, some .boolean)
theorem cw_M_isNote : Cond.code Y_M_isNote.1 Y_M_isNote.2.1 Y_M_isNote.2.2.1 Y_M_isNote.2.2.2 ∈ tb := mem_c7 5 rfl rfl
theorem pn_M_isNote : plainFor Y_M_isNote.1 = true := by decide +kernel
def Y_M_isHeld : YT := (⟨"SinkingChoirModel", "isHeld", "(II)Z"⟩, prog_14_method_11_code, 3, some .boolean)
theorem cw_M_isHeld : Cond.code Y_M_isHeld.1 Y_M_isHeld.2.1 Y_M_isHeld.2.2.1 Y_M_isHeld.2.2.2 ∈ tb := mem_c7 1 rfl rfl
theorem pn_M_isHeld : plainFor Y_M_isHeld.1 = true := by decide +kernel
def Y_M_falls : YT := (⟨"SinkingChoirModel", "falls", "(II)V"⟩, prog_14_method_19_code, 4, none)
theorem cw_M_falls : Cond.code Y_M_falls.1 Y_M_falls.2.1 Y_M_falls.2.2.1 Y_M_falls.2.2.2 ∈ tb := mem_c6 237 rfl rfl
theorem pn_M_falls : plainFor Y_M_falls.1 = true := by decide +kernel
def Y_M_note : YT := (⟨"SinkingChoirModel", "note", "(IIIII)Z"⟩, prog_14_method_20_code, 7, some .boolean)
theorem cw_M_note : Cond.code Y_M_note.1 Y_M_note.2.1 Y_M_note.2.2.1 Y_M_note.2.2.2 ∈ tb := mem_c6 221 rfl rfl
theorem pn_M_note : plainFor Y_M_note.1 = true := by decide +kernel
def Y_X_silent : YT := (⟨"SinkingChoir", "silent", "(II)Z"⟩, prog_1_method_3_code, 3, some .boolean)
theorem cw_X_silent : Cond.code Y_X_silent.1 Y_X_silent.2.1 Y_X_silent.2.2.1 Y_X_silent.2.2.2 ∈ tb := mem_c2 204 rfl rfl
theorem pn_X_silent : plainFor Y_X_silent.1 = true := by decide +kernel
def Y_M_silent : YT := (⟨"SinkingChoirModel", "silent", "(II)Z"⟩, prog_14_method_21_code, 3, some .boolean)
theorem cw_M_silent : Cond.code Y_M_silent.1 Y_M_silent.2.1 Y_M_silent.2.2.1 Y_M_silent.2.2.2 ∈ tb := mem_c7 9 rfl rfl
theorem pn_M_silent : plainFor Y_M_silent.1 = true := by decide +kernel
def Y_Sc_breathes : YT := (⟨"SinkingChoir$Score", "breathes", "(II)Z"⟩, prog_9_method_6_code, 3, some .boolean)
theorem cw_Sc_breathes : Cond.code Y_Sc_breathes.1 Y_Sc_breathes.2.1 Y_Sc_breathes.2.2.1 Y_Sc_breathes.2.2.2 ∈ tb := mem_c2 213 rfl rfl
theorem pn_Sc_breathes : plainFor Y_Sc_breathes.1 = true := by decide +kernel
def Y_X_breath : YT := (⟨"SinkingChoir", "breath", "(IIZ)Z"⟩, prog_1_method_4_code, 4, some .boolean)
theorem cw_X_breath : Cond.code Y_X_breath.1 Y_X_breath.2.1 Y_X_breath.2.2.1 Y_X_breath.2.2.2 ∈ tb := mem_c2 209 rfl rfl
theorem pn_X_breath : plainFor Y_X_breath.1 = true := by decide +kernel
def Y_M_breath : YT := (⟨"SinkingChoirModel", "breath", "(IIZ)Z"⟩, prog_14_method_22_code, 4, some .boolean)
theorem cw_M_breath : Cond.code Y_M_breath.1 Y_M_breath.2.1 Y_M_breath.2.2.1 Y_M_breath.2.2.2 ∈ tb := mem_c7 13 rfl rfl
theorem pn_M_breath : plainFor Y_M_breath.1 = true := by decide +kernel
def Y_X_size : YT := (⟨"SinkingChoir", "size", "(II)I"⟩, prog_1_method_5_code, 4, some .int)
theorem cw_X_size : Cond.code Y_X_size.1 Y_X_size.2.1 Y_X_size.2.2.1 Y_X_size.2.2.2 ∈ tb := mem_c2 217 rfl rfl
theorem pn_X_size : plainFor Y_X_size.1 = true := by decide +kernel
def Y_M_size : YT := (⟨"SinkingChoirModel", "size", "(II)I"⟩, prog_14_method_17_code, 3, some .int)
theorem cw_M_size : Cond.code Y_M_size.1 Y_M_size.2.1 Y_M_size.2.2.1 Y_M_size.2.2.2 ∈ tb := mem_c6 192 rfl rfl
theorem pn_M_size : plainFor Y_M_size.1 = true := by decide +kernel
def Y_Sc_bind : YT := (⟨"SinkingChoir$Score", "bind", "(II)V"⟩, prog_9_method_8_code, 3, none)
theorem cw_Sc_bind : Cond.code Y_Sc_bind.1 Y_Sc_bind.2.1 Y_Sc_bind.2.2.1 Y_Sc_bind.2.2.2 ∈ tb := mem_c2 228 rfl rfl
theorem pn_Sc_bind : plainFor Y_Sc_bind.1 = true := by decide +kernel
def Y_X_link : YT := (⟨"SinkingChoir", "link", "(II)Z"⟩, prog_1_method_6_code, 3, some .boolean)
theorem cw_X_link : Cond.code Y_X_link.1 Y_X_link.2.1 Y_X_link.2.2.1 Y_X_link.2.2.2 ∈ tb := mem_c2 223 rfl rfl
theorem pn_X_link : plainFor Y_X_link.1 = true := by decide +kernel
def Y_M_link : YT := (⟨"SinkingChoirModel", "link", "(II)Z"⟩, prog_14_method_23_code, 3, some .boolean)
theorem cw_M_link : Cond.code Y_M_link.1 Y_M_link.2.1 Y_M_link.2.2.1 Y_M_link.2.2.2 ∈ tb := mem_c7 17 rfl rfl
theorem pn_M_link : plainFor Y_M_link.1 = true := by decide +kernel
def Y_Sc_heldIn : YT := (⟨"SinkingChoir$Score", "heldIn", "(I)I"⟩, prog_9_method_15_code, 4, some .int)
theorem cw_Sc_heldIn : Cond.code Y_Sc_heldIn.1 Y_Sc_heldIn.2.1 Y_Sc_heldIn.2.2.1 Y_Sc_heldIn.2.2.2 ∈ tb := mem_c2 237 rfl rfl
theorem pn_Sc_heldIn : plainFor Y_Sc_heldIn.1 = true := by decide +kernel
def Y_Sc_tearBy : YT := (⟨"SinkingChoir$Score", "tearBy", "(III)I"⟩, prog_9_method_11_code, 4, some .int)
theorem cw_Sc_tearBy : Cond.code Y_Sc_tearBy.1 Y_Sc_tearBy.2.1 Y_Sc_tearBy.2.2.1 Y_Sc_tearBy.2.2.2 ∈ tb := mem_c3 9 rfl rfl
theorem pn_Sc_tearBy : plainFor Y_Sc_tearBy.1 = true := by decide +kernel
def Y_Sc_tear : YT := (⟨"SinkingChoir$Score", "tear", "(II)I"⟩, prog_9_method_12_code, 3, some .int)
theorem cw_Sc_tear : Cond.code Y_Sc_tear.1 Y_Sc_tear.2.1 Y_Sc_tear.2.2.1 Y_Sc_tear.2.2.2 ∈ tb := mem_c3 5 rfl rfl
theorem pn_Sc_tear : plainFor Y_Sc_tear.1 = true := by decide +kernel
def Y_Sc_tornIn : YT := (⟨"SinkingChoir$Score", "tornIn", "(I)I"⟩, prog_9_method_16_code, 4, some .int)
theorem cw_Sc_tornIn : Cond.code Y_Sc_tornIn.1 Y_Sc_tornIn.2.1 Y_Sc_tornIn.2.2.1 Y_Sc_tornIn.2.2.2 ∈ tb := mem_c3 1 rfl rfl
theorem pn_Sc_tornIn : plainFor Y_Sc_tornIn.1 = true := by decide +kernel
def Y_X_keynote : YT := (⟨"SinkingChoir", "keynote", "(II)I"⟩, prog_1_method_7_code, 3, some .int)
theorem cw_X_keynote : Cond.code Y_X_keynote.1 Y_X_keynote.2.1 Y_X_keynote.2.2.1 Y_X_keynote.2.2.2 ∈ tb := mem_c2 232 rfl rfl
theorem pn_X_keynote : plainFor Y_X_keynote.1 = true := by decide +kernel
def Y_M_leap : YT := (⟨"SinkingChoirModel", "leap", "([III)I"⟩, prog_14_method_24_code, 4, some .int)
theorem cw_M_leap : Cond.code Y_M_leap.1 Y_M_leap.2.1 Y_M_leap.2.2.1 Y_M_leap.2.2.2 ∈ tb := mem_c7 34 rfl rfl
theorem pn_M_leap : plainFor Y_M_leap.1 = true := by decide +kernel
def Y_M_goesTo : YT := (⟨"SinkingChoirModel", "goesTo", "(I)V"⟩, prog_14_method_25_code, 3, none)
theorem cw_M_goesTo : Cond.code Y_M_goesTo.1 Y_M_goesTo.2.1 Y_M_goesTo.2.2.1 Y_M_goesTo.2.2.2 ∈ tb := mem_c7 30 rfl rfl
theorem pn_M_goesTo : plainFor Y_M_goesTo.1 = true := by decide +kernel
def Y_M_keynoteOf : YT := (⟨"SinkingChoirModel", "keynoteOf", "(I)I"⟩, prog_14_method_26_code, 2, some .int)
theorem cw_M_keynoteOf : Cond.code Y_M_keynoteOf.1 Y_M_keynoteOf.2.1 Y_M_keynoteOf.2.2.1 Y_M_keynoteOf.2.2.2 ∈ tb := mem_c7 26 rfl rfl
theorem pn_M_keynoteOf : plainFor Y_M_keynoteOf.1 = true := by decide +kernel
def Y_M_sizeAt : YT := (⟨"SinkingChoirModel", "sizeAt", "(II)I"⟩, prog_14_method_18_code, 3, some .int)
theorem cw_M_sizeAt : Cond.code Y_M_sizeAt.1 Y_M_sizeAt.2.1 Y_M_sizeAt.2.2.1 Y_M_sizeAt.2.2.2 ∈ tb := mem_c7 42 rfl rfl
theorem pn_M_sizeAt : plainFor Y_M_sizeAt.1 = true := by decide +kernel
def Y_M_tornBy : YT := (⟨"SinkingChoirModel", "tornBy", "(III)I"⟩, prog_14_method_27_code, 5, some .int)
theorem cw_M_tornBy : Cond.code Y_M_tornBy.1 Y_M_tornBy.2.1 Y_M_tornBy.2.2.1 Y_M_tornBy.2.2.2 ∈ tb := mem_c7 38 rfl rfl
theorem pn_M_tornBy : plainFor Y_M_tornBy.1 = true := by decide +kernel
def Y_M_keynote : YT := (⟨"SinkingChoirModel", "keynote", "(II)I"⟩, prog_14_method_30_code, 7, some .int)
theorem cw_M_keynote : Cond.code Y_M_keynote.1 Y_M_keynote.2.1 Y_M_keynote.2.2.1 Y_M_keynote.2.2.2 ∈ tb := mem_c7 21 rfl rfl
theorem pn_M_keynote : plainFor Y_M_keynote.1 = true := by decide +kernel
def Y_X_torn : YT := (⟨"SinkingChoir", "torn", "(II)I"⟩, prog_1_method_8_code, 3, some .int)
theorem cw_X_torn : Cond.code Y_X_torn.1 Y_X_torn.2.1 Y_X_torn.2.2.1 Y_X_torn.2.2.2 ∈ tb := mem_c3 13 rfl rfl
theorem pn_X_torn : plainFor Y_X_torn.1 = true := by decide +kernel
def Y_M_torn : YT := (⟨"SinkingChoirModel", "torn", "(II)I"⟩, prog_14_method_31_code, 3, some .int)
theorem cw_M_torn : Cond.code Y_M_torn.1 Y_M_torn.2.1 Y_M_torn.2.2.1 Y_M_torn.2.2.2 ∈ tb := mem_c7 46 rfl rfl
theorem pn_M_torn : plainFor Y_M_torn.1 = true := by decide +kernel
def Y_Sc_soundsIn : YT := (⟨"SinkingChoir$Score", "soundsIn", "(I)Z"⟩, prog_9_method_17_code, 3, some .boolean)
theorem cw_Sc_soundsIn : Cond.code Y_Sc_soundsIn.1 Y_Sc_soundsIn.2.1 Y_Sc_soundsIn.2.2.1 Y_Sc_soundsIn.2.2.2 ∈ tb := mem_c3 26 rfl rfl
theorem pn_Sc_soundsIn : plainFor Y_Sc_soundsIn.1 = true := by decide +kernel
def Y_Sc_lastBeat : YT := (⟨"SinkingChoir$Score", "lastBeat", "()I"⟩, prog_9_method_18_code, 2, some .int)
theorem cw_Sc_lastBeat : Cond.code Y_Sc_lastBeat.1 Y_Sc_lastBeat.2.1 Y_Sc_lastBeat.2.2.1 Y_Sc_lastBeat.2.2.2 ∈ tb := mem_c3 22 rfl rfl
theorem pn_Sc_lastBeat : plainFor Y_Sc_lastBeat.1 = true := by decide +kernel
def Y_Mt_abs_I : YT := (⟨"java/lang/Math", "abs", "(I)I"⟩, prog_17_method_59_code, 1, some .int)
theorem cw_Mt_abs_I : Cond.code Y_Mt_abs_I.1 Y_Mt_abs_I.2.1 Y_Mt_abs_I.2.2.1 Y_Mt_abs_I.2.2.2 ∈ tb := mem_c3 37 rfl rfl
theorem pn_Mt_abs_I : plainFor Y_Mt_abs_I.1 = true := by decide +kernel
def Y_Sc_foulnessBy : YT := (⟨"SinkingChoir$Score", "foulnessBy", "(II)I"⟩, prog_9_method_13_code, 5, some .int)
theorem cw_Sc_foulnessBy : Cond.code Y_Sc_foulnessBy.1 Y_Sc_foulnessBy.2.1 Y_Sc_foulnessBy.2.2.1 Y_Sc_foulnessBy.2.2.2 ∈ tb := mem_c3 34 rfl rfl
theorem pn_Sc_foulnessBy : plainFor Y_Sc_foulnessBy.1 = true := by decide +kernel
def Y_Sc_foulness : YT := (⟨"SinkingChoir$Score", "foulness", "()I"⟩, prog_9_method_14_code, 3, some .int)
theorem cw_Sc_foulness : Cond.code Y_Sc_foulness.1 Y_Sc_foulness.2.1 Y_Sc_foulness.2.2.1 Y_Sc_foulness.2.2.2 ∈ tb := mem_c3 30 rfl rfl
theorem pn_Sc_foulness : plainFor Y_Sc_foulness.1 = true := by decide +kernel
def Y_X_sink : YT := (⟨"SinkingChoir", "sink", "(I)I"⟩, prog_1_method_9_code, 3, some .int)
theorem cw_X_sink : Cond.code Y_X_sink.1 Y_X_sink.2.1 Y_X_sink.2.2.1 Y_X_sink.2.2.2 ∈ tb := mem_c3 18 rfl rfl
theorem pn_X_sink : plainFor Y_X_sink.1 = true := by decide +kernel
def Y_M_lastBeat : YT := (⟨"SinkingChoirModel", "lastBeat", "()I"⟩, prog_14_method_29_code, 4, some .int)
theorem cw_M_lastBeat : Cond.code Y_M_lastBeat.1 Y_M_lastBeat.2.1 Y_M_lastBeat.2.2.1 Y_M_lastBeat.2.2.2 ∈ tb := mem_c7 54 rfl rfl
theorem pn_M_lastBeat : plainFor Y_M_lastBeat.1 = true := by decide +kernel
def Y_M_plain : YT := (⟨"SinkingChoirModel", "plain", "(J)J"⟩, prog_14_method_6_code, 2, some .long)
theorem cw_M_plain : Cond.code Y_M_plain.1 Y_M_plain.2.1 Y_M_plain.2.2.1 Y_M_plain.2.2.2 ∈ tb := mem_c7 61 rfl rfl
theorem pn_M_plain : plainFor Y_M_plain.1 = true := by decide +kernel
def Y_M_foulBy : YT := (⟨"SinkingChoirModel", "foulBy", "(II)J"⟩, prog_14_method_28_code, 6, some .long)
theorem cw_M_foulBy : Cond.code Y_M_foulBy.1 Y_M_foulBy.2.1 Y_M_foulBy.2.2.1 Y_M_foulBy.2.2.2 ∈ tb := mem_c7 58 rfl rfl
theorem pn_M_foulBy : plainFor Y_M_foulBy.1 = true := by decide +kernel
def Y_M_sink : YT := (⟨"SinkingChoirModel", "sink", "(I)I"⟩, prog_14_method_32_code, 6, some .int)
theorem cw_M_sink : Cond.code Y_M_sink.1 Y_M_sink.2.1 Y_M_sink.2.2.1 Y_M_sink.2.2.2 ∈ tb := mem_c7 50 rfl rfl
theorem pn_M_sink : plainFor Y_M_sink.1 = true := by decide +kernel
def Y_X_asksRow : YT := (⟨"SinkingChoir", "asksRow", "(I)Z"⟩, prog_1_method_35_code, 2, some .boolean)
theorem cw_X_asksRow : Cond.code Y_X_asksRow.1 Y_X_asksRow.2.1 Y_X_asksRow.2.2.1 Y_X_asksRow.2.2.2 ∈ tb := mem_c3 45 rfl rfl
theorem pn_X_asksRow : plainFor Y_X_asksRow.1 = true := by decide +kernel
def Y_Wa_init : YT := (⟨"SinkingChoir$Ways", "<init>", "(LSinkingChoir$Score;)V"⟩, prog_12_method_1_code, 2, none)
theorem cw_Wa_init : Cond.code Y_Wa_init.1 Y_Wa_init.2.1 Y_Wa_init.2.2.1 Y_Wa_init.2.2.2 ∈ tb := mem_c3 54 rfl rfl
theorem pn_Wa_init : plainFor Y_Wa_init.1 = true := by decide +kernel
def Y_Mt_min : YT := (⟨"java/lang/Math", "min", "(II)I"⟩, prog_17_method_69_code, 2, some .int)
theorem cw_Mt_min : Cond.code Y_Mt_min.1 Y_Mt_min.2.1 Y_Mt_min.2.2.1 Y_Mt_min.2.2.2 ∈ tb := mem_c3 104 rfl rfl
theorem pn_Mt_min : plainFor Y_Mt_min.1 = true := by decide +kernel
def Y_Wa_spread : YT := (⟨"SinkingChoir$Ways", "spread", "(II)Z"⟩, prog_12_method_3_code, 10, some .boolean)
theorem cw_Wa_spread : Cond.code Y_Wa_spread.1 Y_Wa_spread.2.1 Y_Wa_spread.2.2.1 Y_Wa_spread.2.2.2 ∈ tb := mem_c3 100 rfl rfl
theorem pn_Wa_spread : plainFor Y_Wa_spread.1 = true := by decide +kernel
def Y_Wa_explore : YT := (⟨"SinkingChoir$Ways", "explore", "()Z"⟩, prog_12_method_2_code, 4, some .boolean)
theorem cw_Wa_explore : Cond.code Y_Wa_explore.1 Y_Wa_explore.2.1 Y_Wa_explore.2.2.1 Y_Wa_explore.2.2.2 ∈ tb := mem_c3 90 rfl rfl
theorem pn_Wa_explore : plainFor Y_Wa_explore.1 = true := by decide +kernel
def Y_X_explored : YT := (⟨"SinkingChoir", "explored", "()LSinkingChoir$Ways;"⟩, prog_1_method_36_code, 1, some (.object "SinkingChoir$Ways"))
theorem cw_X_explored : Cond.code Y_X_explored.1 Y_X_explored.2.1 Y_X_explored.2.2.1 Y_X_explored.2.2.2 ∈ tb := mem_c3 49 rfl rfl
theorem pn_X_explored : plainFor Y_X_explored.1 = true := by decide +kernel
def Y_Wa_find : YT := (⟨"SinkingChoir$Ways", "find", "(II)I"⟩, prog_12_method_7_code, 4, some .int)
theorem cw_Wa_find : Cond.code Y_Wa_find.1 Y_Wa_find.2.1 Y_Wa_find.2.2.1 Y_Wa_find.2.2.2 ∈ tb := mem_c3 112 rfl rfl
theorem pn_Wa_find : plainFor Y_Wa_find.1 = true := by decide +kernel
def Y_Wa_price : YT := (⟨"SinkingChoir$Ways", "price", "(Z)V"⟩, prog_12_method_4_code, 7, none)
theorem cw_Wa_price : Cond.code Y_Wa_price.1 Y_Wa_price.2.1 Y_Wa_price.2.2.1 Y_Wa_price.2.2.2 ∈ tb := mem_c3 116 rfl rfl
theorem pn_Wa_price : plainFor Y_Wa_price.1 = true := by decide +kernel
def Y_Wa_relax : YT := (⟨"SinkingChoir$Ways", "relax", "(IIZ)V"⟩, prog_12_method_8_code, 12, none)
theorem cw_Wa_relax : Cond.code Y_Wa_relax.1 Y_Wa_relax.2.1 Y_Wa_relax.2.2.1 Y_Wa_relax.2.2.2 ∈ tb := mem_c3 123 rfl rfl
theorem pn_Wa_relax : plainFor Y_Wa_relax.1 = true := by decide +kernel
def Y_Wa_follow : YT := (⟨"SinkingChoir$Ways", "follow", "()Z"⟩, prog_12_method_9_code, 7, some .boolean)
theorem cw_Wa_follow : Cond.code Y_Wa_follow.1 Y_Wa_follow.2.1 Y_Wa_follow.2.2.1 Y_Wa_follow.2.2.2 ∈ tb := mem_c3 127 rfl rfl
theorem pn_Wa_follow : plainFor Y_Wa_follow.1 = true := by decide +kernel
def Y_Wa_leastRow : YT := (⟨"SinkingChoir$Ways", "leastRow", "(Z)Z"⟩, prog_12_method_5_code, 5, some .boolean)
theorem cw_Wa_leastRow : Cond.code Y_Wa_leastRow.1 Y_Wa_leastRow.2.1 Y_Wa_leastRow.2.2.1 Y_Wa_leastRow.2.2.2 ∈ tb := mem_c3 108 rfl rfl
theorem pn_Wa_leastRow : plainFor Y_Wa_leastRow.1 = true := by decide +kernel
def Y_Wa_told : YT := (⟨"SinkingChoir$Ways", "told", "(I)I"⟩, prog_12_method_6_code, 2, some .int)
theorem cw_Wa_told : Cond.code Y_Wa_told.1 Y_Wa_told.2.1 Y_Wa_told.2.2.1 Y_Wa_told.2.2.2 ∈ tb := mem_c3 131 rfl rfl
theorem pn_Wa_told : plainFor Y_Wa_told.1 = true := by decide +kernel
def Y_X_way : YT := (⟨"SinkingChoir", "way", "(I)I"⟩, prog_1_method_10_code, 3, some .int)
theorem cw_X_way : Cond.code Y_X_way.1 Y_X_way.2.1 Y_X_way.2.2.1 Y_X_way.2.2.2 ∈ tb := mem_c3 41 rfl rfl
theorem pn_X_way : plainFor Y_X_way.1 = true := by decide +kernel
def Y_M_placeOf : YT := (⟨"SinkingChoirModel", "placeOf", "(IIII)I"⟩, prog_14_method_33_code, 7, some .int)
theorem cw_M_placeOf : Cond.code Y_M_placeOf.1 Y_M_placeOf.2.1 Y_M_placeOf.2.2.1 Y_M_placeOf.2.2.2 ∈ tb := mem_c7 81 rfl rfl
theorem pn_M_placeOf : plainFor Y_M_placeOf.1 = true := by decide +kernel
def Y_M_mayLink : YT := (⟨"SinkingChoirModel", "mayLink", "(II)Z"⟩, prog_14_method_34_code, 3, some .boolean)
theorem cw_M_mayLink : Cond.code Y_M_mayLink.1 Y_M_mayLink.2.1 Y_M_mayLink.2.2.1 Y_M_mayLink.2.2.2 ∈ tb := mem_c7 85 rfl rfl
theorem pn_M_mayLink : plainFor Y_M_mayLink.1 = true := by decide +kernel
def Y_M_nextOf : YT := (⟨"SinkingChoirModel", "nextOf", "(III)I"⟩, prog_14_method_35_code, 5, some .int)
theorem cw_M_nextOf : Cond.code Y_M_nextOf.1 Y_M_nextOf.2.1 Y_M_nextOf.2.2.1 Y_M_nextOf.2.2.2 ∈ tb := mem_c7 89 rfl rfl
theorem pn_M_nextOf : plainFor Y_M_nextOf.1 = true := by decide +kernel
def Y_M_lays : YT := (⟨"SinkingChoirModel", "lays", "(I)Z"⟩, prog_14_method_36_code, 6, some .boolean)
theorem cw_M_lays : Cond.code Y_M_lays.1 Y_M_lays.2.1 Y_M_lays.2.2.1 Y_M_lays.2.2.2 ∈ tb := mem_c7 77 rfl rfl
theorem pn_M_lays : plainFor Y_M_lays.1 = true := by decide +kernel
def Y_M_costBy : YT := (⟨"SinkingChoirModel", "costBy", "(IIZ)J"⟩, prog_14_method_37_code, 4, some .long)
theorem cw_M_costBy : Cond.code Y_M_costBy.1 Y_M_costBy.2.1 Y_M_costBy.2.2.1 Y_M_costBy.2.2.2 ∈ tb := mem_c7 94 rfl rfl
theorem pn_M_costBy : plainFor Y_M_costBy.1 = true := by decide +kernel
def Y_M_finds : YT := (⟨"SinkingChoirModel", "finds", "(IZ)Z"⟩, prog_14_method_38_code, 10, some .boolean)
theorem cw_M_finds : Cond.code Y_M_finds.1 Y_M_finds.2.1 Y_M_finds.2.2.1 Y_M_finds.2.2.2 ∈ tb := mem_c7 73 rfl rfl
theorem pn_M_finds : plainFor Y_M_finds.1 = true := by decide +kernel
def Y_M_rowOf : YT := (⟨"SinkingChoirModel", "rowOf", "(IZ)I"⟩, prog_14_method_39_code, 4, some .int)
theorem cw_M_rowOf : Cond.code Y_M_rowOf.1 Y_M_rowOf.2.1 Y_M_rowOf.2.2.1 Y_M_rowOf.2.2.2 ∈ tb := mem_c7 69 rfl rfl
theorem pn_M_rowOf : plainFor Y_M_rowOf.1 = true := by decide +kernel
def Y_M_way : YT := (⟨"SinkingChoirModel", "way", "(I)I"⟩, prog_14_method_40_code, 2, some .int)
theorem cw_M_way : Cond.code Y_M_way.1 Y_M_way.2.1 Y_M_way.2.2.1 Y_M_way.2.2.2 ∈ tb := mem_c7 65 rfl rfl
theorem pn_M_way : plainFor Y_M_way.1 = true := by decide +kernel
def Y_X_change : YT := (⟨"SinkingChoir", "change", "(I)I"⟩, prog_1_method_11_code, 3, some .int)
theorem cw_X_change : Cond.code Y_X_change.1 Y_X_change.2.1 Y_X_change.2.2.1 Y_X_change.2.2.2 ∈ tb := mem_c3 135 rfl rfl
theorem pn_X_change : plainFor Y_X_change.1 = true := by decide +kernel
def Y_M_change : YT := (⟨"SinkingChoirModel", "change", "(I)I"⟩, prog_14_method_41_code, 2, some .int)
theorem cw_M_change : Cond.code Y_M_change.1 Y_M_change.2.1 Y_M_change.2.2.1 Y_M_change.2.2.2 ∈ tb := mem_c7 98 rfl rfl
theorem pn_M_change : plainFor Y_M_change.1 = true := by decide +kernel
def Y_Wa_nearer : YT := (⟨"SinkingChoir$Ways", "nearer", "(II)I"⟩, prog_12_method_11_code, 4, some .int)
theorem cw_Wa_nearer : Cond.code Y_Wa_nearer.1 Y_Wa_nearer.2.1 Y_Wa_nearer.2.2.1 Y_Wa_nearer.2.2.2 ∈ tb := mem_c3 148 rfl rfl
theorem pn_Wa_nearer : plainFor Y_Wa_nearer.1 = true := by decide +kernel
def Y_Wa_nearest : YT := (⟨"SinkingChoir$Ways", "nearest", "(I)I"⟩, prog_12_method_10_code, 4, some .int)
theorem cw_Wa_nearest : Cond.code Y_Wa_nearest.1 Y_Wa_nearest.2.1 Y_Wa_nearest.2.2.1 Y_Wa_nearest.2.2.2 ∈ tb := mem_c3 144 rfl rfl
theorem pn_Wa_nearest : plainFor Y_Wa_nearest.1 = true := by decide +kernel
def Y_X_bounded : YT := (⟨"SinkingChoir", "bounded", "(I)I"⟩, prog_1_method_12_code, 3, some .int)
theorem cw_X_bounded : Cond.code Y_X_bounded.1 Y_X_bounded.2.1 Y_X_bounded.2.2.1 Y_X_bounded.2.2.2 ∈ tb := mem_c3 139 rfl rfl
theorem pn_X_bounded : plainFor Y_X_bounded.1 = true := by decide +kernel
def Y_M_bounded : YT := (⟨"SinkingChoirModel", "bounded", "(I)I"⟩, prog_14_method_42_code, 11, some .int)
theorem cw_M_bounded : Cond.code Y_M_bounded.1 Y_M_bounded.2.1 Y_M_bounded.2.2.1 Y_M_bounded.2.2.2 ∈ tb := mem_c7 102 rfl rfl
theorem pn_M_bounded : plainFor Y_M_bounded.1 = true := by decide +kernel
def Y_X_singer : YT := (⟨"SinkingChoir", "singer", "(IIII)I"⟩, prog_1_method_13_code, 7, some .int)
theorem cw_X_singer : Cond.code Y_X_singer.1 Y_X_singer.2.1 Y_X_singer.2.2.1 Y_X_singer.2.2.2 ∈ tb := mem_c3 153 rfl rfl
theorem pn_X_singer : plainFor Y_X_singer.1 = true := by decide +kernel
def Y_M_singer : YT := (⟨"SinkingChoirModel", "singer", "(IIII)I"⟩, prog_14_method_44_code, 5, some .int)
theorem cw_M_singer : Cond.code Y_M_singer.1 Y_M_singer.2.1 Y_M_singer.2.2.1 Y_M_singer.2.2.2 ∈ tb := mem_c7 107 rfl rfl
theorem pn_M_singer : plainFor Y_M_singer.1 = true := by decide +kernel
def Y_Ch_has : YT := (⟨"SinkingChoir$Choir", "has", "(I)Z"⟩, prog_2_method_2_code, 2, some .boolean)
theorem cw_Ch_has : Cond.code Y_Ch_has.1 Y_Ch_has.2.1 Y_Ch_has.2.2.1 Y_Ch_has.2.2.2 ∈ tb := mem_c3 161 rfl rfl
theorem pn_Ch_has : plainFor Y_Ch_has.1 = true := by decide +kernel
def Y_X_place : YT := (⟨"SinkingChoir", "place", "(II)Z"⟩, prog_1_method_14_code, 3, some .boolean)
theorem cw_X_place : Cond.code Y_X_place.1 Y_X_place.2.1 Y_X_place.2.2.1 Y_X_place.2.2.2 ∈ tb := mem_c3 157 rfl rfl
theorem pn_X_place : plainFor Y_X_place.1 = true := by decide +kernel
def Y_M_isSinger : YT := (⟨"SinkingChoirModel", "isSinger", "(I)Z"⟩, prog_14_method_43_code, 2, some .boolean)
theorem cw_M_isSinger : Cond.code Y_M_isSinger.1 Y_M_isSinger.2.1 Y_M_isSinger.2.2.1 Y_M_isSinger.2.2.2 ∈ tb := mem_c7 117 rfl rfl
theorem pn_M_isSinger : plainFor Y_M_isSinger.1 = true := by decide +kernel
def Y_M_place : YT := (⟨"SinkingChoirModel", "place", "(II)Z"⟩, prog_14_method_45_code, 3, some .boolean)
theorem cw_M_place : Cond.code Y_M_place.1 Y_M_place.2.1 Y_M_place.2.2.1 Y_M_place.2.2.2 ∈ tb := mem_c7 113 rfl rfl
theorem pn_M_place : plainFor Y_M_place.1 = true := by decide +kernel
def Y_X_table : YT := (⟨"SinkingChoir", "table", "(II)Z"⟩, prog_1_method_15_code, 3, some .boolean)
theorem cw_X_table : Cond.code Y_X_table.1 Y_X_table.2.1 Y_X_table.2.2.1 Y_X_table.2.2.2 ∈ tb := mem_c3 165 rfl rfl
theorem pn_X_table : plainFor Y_X_table.1 = true := by decide +kernel
def Y_M_table : YT := (⟨"SinkingChoirModel", "table", "(II)Z"⟩, prog_14_method_46_code, 3, some .boolean)
theorem cw_M_table : Cond.code Y_M_table.1 Y_M_table.2.1 Y_M_table.2.2.1 Y_M_table.2.2.2 ∈ tb := mem_c7 121 rfl rfl
theorem pn_M_table : plainFor Y_M_table.1 = true := by decide +kernel
def Y_X_seed : YT := (⟨"SinkingChoir", "seed", "(I)Z"⟩, prog_1_method_16_code, 2, some .boolean)
theorem cw_X_seed : Cond.code Y_X_seed.1 Y_X_seed.2.1 Y_X_seed.2.2.1 Y_X_seed.2.2.2 ∈ tb := mem_c3 171 rfl rfl
theorem pn_X_seed : plainFor Y_X_seed.1 = true := by decide +kernel
def Y_M_seed : YT := (⟨"SinkingChoirModel", "seed", "(I)Z"⟩, prog_14_method_47_code, 2, some .boolean)
theorem cw_M_seed : Cond.code Y_M_seed.1 Y_M_seed.2.1 Y_M_seed.2.2.1 Y_M_seed.2.2.2 ∈ tb := mem_c7 128 rfl rfl
theorem pn_M_seed : plainFor Y_M_seed.1 = true := by decide +kernel
def Y_X_blown : YT := (⟨"SinkingChoir", "blown", "(I)Z"⟩, prog_1_method_17_code, 2, some .boolean)
theorem cw_X_blown : Cond.code Y_X_blown.1 Y_X_blown.2.1 Y_X_blown.2.2.1 Y_X_blown.2.2.2 ∈ tb := mem_c3 176 rfl rfl
theorem pn_X_blown : plainFor Y_X_blown.1 = true := by decide +kernel
def Y_M_blown : YT := (⟨"SinkingChoirModel", "blown", "(I)Z"⟩, prog_14_method_48_code, 2, some .boolean)
theorem cw_M_blown : Cond.code Y_M_blown.1 Y_M_blown.2.1 Y_M_blown.2.2.1 Y_M_blown.2.2.2 ∈ tb := mem_c7 133 rfl rfl
theorem pn_M_blown : plainFor Y_M_blown.1 = true := by decide +kernel
def Y_X_given : YT := (⟨"SinkingChoir", "given", "(I)Z"⟩, prog_1_method_18_code, 2, some .boolean)
theorem cw_X_given : Cond.code Y_X_given.1 Y_X_given.2.1 Y_X_given.2.2.1 Y_X_given.2.2.2 ∈ tb := mem_c3 182 rfl rfl
theorem pn_X_given : plainFor Y_X_given.1 = true := by decide +kernel
def Y_M_given : YT := (⟨"SinkingChoirModel", "given", "(I)Z"⟩, prog_14_method_49_code, 2, some .boolean)
theorem cw_M_given : Cond.code Y_M_given.1 Y_M_given.2.1 Y_M_given.2.2.1 Y_M_given.2.2.2 ∈ tb := mem_c7 139 rfl rfl
theorem pn_M_given : plainFor Y_M_given.1 = true := by decide +kernel
def Y_Rl_hasRoom : YT := (⟨"SinkingChoir$Reel", "hasRoom", "()Z"⟩, prog_8_method_2_code, 1, some .boolean)
theorem cw_Rl_hasRoom : Cond.code Y_Rl_hasRoom.1 Y_Rl_hasRoom.2.1 Y_Rl_hasRoom.2.2.1 Y_Rl_hasRoom.2.2.2 ∈ tb := mem_c3 191 rfl rfl
theorem pn_Rl_hasRoom : plainFor Y_Rl_hasRoom.1 = true := by decide +kernel
def Y_Rl_add : YT := (⟨"SinkingChoir$Reel", "add", "(I)V"⟩, prog_8_method_3_code, 3, none)
theorem cw_Rl_add : Cond.code Y_Rl_add.1 Y_Rl_add.2.1 Y_Rl_add.2.2.1 Y_Rl_add.2.2.2 ∈ tb := mem_c3 195 rfl rfl
theorem pn_Rl_add : plainFor Y_Rl_add.1 = true := by decide +kernel
def Y_X_feed : YT := (⟨"SinkingChoir", "feed", "(IIIII)I"⟩, prog_1_method_19_code, 6, some .int)
theorem cw_X_feed : Cond.code Y_X_feed.1 Y_X_feed.2.1 Y_X_feed.2.2.1 Y_X_feed.2.2.2 ∈ tb := mem_c3 187 rfl rfl
theorem pn_X_feed : plainFor Y_X_feed.1 = true := by decide +kernel
def Y_M_push : YT := (⟨"SinkingChoirModel", "push", "(I)V"⟩, prog_14_method_50_code, 3, none)
theorem cw_M_push : Cond.code Y_M_push.1 Y_M_push.2.1 Y_M_push.2.2.1 Y_M_push.2.2.2 ∈ tb := mem_c7 148 rfl rfl
theorem pn_M_push : plainFor Y_M_push.1 = true := by decide +kernel
def Y_M_feed : YT := (⟨"SinkingChoirModel", "feed", "(IIIII)I"⟩, prog_14_method_51_code, 6, some .int)
theorem cw_M_feed : Cond.code Y_M_feed.1 Y_M_feed.2.1 Y_M_feed.2.2.1 Y_M_feed.2.2.2 ∈ tb := mem_c7 144 rfl rfl
theorem pn_M_feed : plainFor Y_M_feed.1 = true := by decide +kernel
def Y_Pr_clear : YT := (⟨"SinkingChoir$Program", "clear", "()V"⟩, prog_6_method_2_code, 1, none)
theorem cw_Pr_clear : Cond.code Y_Pr_clear.1 Y_Pr_clear.2.1 Y_Pr_clear.2.2.1 Y_Pr_clear.2.2.2 ∈ tb := mem_c3 209 rfl rfl
theorem pn_Pr_clear : plainFor Y_Pr_clear.1 = true := by decide +kernel
def Y_Re_here : YT := (⟨"SinkingChoir$Reader", "here", "()I"⟩, prog_7_method_4_code, 1, some .int)
theorem cw_Re_here : Cond.code Y_Re_here.1 Y_Re_here.2.1 Y_Re_here.2.2.1 Y_Re_here.2.2.2 ∈ tb := mem_c3 218 rfl rfl
theorem pn_Re_here : plainFor Y_Re_here.1 = true := by decide +kernel
def Y_Str_isLatin1 : YT := (⟨"java/lang/String", "isLatin1", "()Z"⟩, prog_18_method_154_code, 1, some .boolean)
theorem cw_Str_isLatin1 : Cond.code Y_Str_isLatin1.1 Y_Str_isLatin1.2.1 Y_Str_isLatin1.2.2.1 Y_Str_isLatin1.2.2.2 ∈ tb := mem_c3 233 rfl rfl
theorem pn_Str_isLatin1 : plainFor Y_Str_isLatin1.1 = true := by decide +kernel
def Y_SL_canEncode : YT := (⟨"java/lang/StringLatin1", "canEncode", "(I)Z"⟩, prog_19_method_4_code, 1, some .boolean)
theorem cw_SL_canEncode : Cond.code Y_SL_canEncode.1 Y_SL_canEncode.2.1 Y_SL_canEncode.2.2.1 Y_SL_canEncode.2.2.2 ∈ tb := mem_c4 0 rfl rfl
theorem pn_SL_canEncode : plainFor Y_SL_canEncode.1 = true := by decide +kernel
def Y_Mt_max_II : YT := (⟨"java/lang/Math", "max", "(II)I"⟩, prog_17_method_65_code, 2, some .int)
theorem cw_Mt_max_II : Cond.code Y_Mt_max_II.1 Y_Mt_max_II.2.1 Y_Mt_max_II.2.2.1 Y_Mt_max_II.2.2.2 ∈ tb := mem_c4 3 rfl rfl
theorem pn_Mt_max_II : plainFor Y_Mt_max_II.1 = true := by decide +kernel
def Y_SL_indexOfChar : YT := (⟨"java/lang/StringLatin1", "indexOfChar", "([BIII)I"⟩, prog_19_method_23_code, 6, some .int)
theorem cw_SL_indexOfChar : Cond.code Y_SL_indexOfChar.1 Y_SL_indexOfChar.2.1 Y_SL_indexOfChar.2.2.1 Y_SL_indexOfChar.2.2.2 ∈ tb := mem_c4 7 rfl rfl
theorem pn_SL_indexOfChar : plainFor Y_SL_indexOfChar.1 = true := by decide +kernel
def Y_SL_indexOf : YT := (⟨"java/lang/StringLatin1", "indexOf", "([BIII)I"⟩, prog_19_method_22_code, 4, some .int)
theorem cw_SL_indexOf : Cond.code Y_SL_indexOf.1 Y_SL_indexOf.2.1 Y_SL_indexOf.2.2.1 Y_SL_indexOf.2.2.2 ∈ tb := mem_c3 237 rfl rfl
theorem pn_SL_indexOf : plainFor Y_SL_indexOf.1 = true := by decide +kernel
def Y_Str_indexOf_II : YT := (⟨"java/lang/String", "indexOf", "(II)I"⟩, prog_18_method_80_code, 3, some .int)
theorem cw_Str_indexOf_II : Cond.code Y_Str_indexOf_II.1 Y_Str_indexOf_II.2.1 Y_Str_indexOf_II.2.2.1 Y_Str_indexOf_II.2.2.2 ∈ tb := mem_c3 229 rfl rfl
theorem pn_Str_indexOf_II : plainFor Y_Str_indexOf_II.1 = true := by decide +kernel
def Y_Str_indexOf_I : YT := (⟨"java/lang/String", "indexOf", "(I)I"⟩, prog_18_method_79_code, 2, some .int)
theorem cw_Str_indexOf_I : Cond.code Y_Str_indexOf_I.1 Y_Str_indexOf_I.2.1 Y_Str_indexOf_I.2.2.1 Y_Str_indexOf_I.2.2.2 ∈ tb := mem_c3 225 rfl rfl
theorem pn_Str_indexOf_I : plainFor Y_Str_indexOf_I.1 = true := by decide +kernel
def Y_Re_indexIn : YT := (⟨"SinkingChoir$Reader", "indexIn", "(Ljava/lang/String;I)I"⟩, prog_7_method_7_code, 2, some .int)
theorem cw_Re_indexIn : Cond.code Y_Re_indexIn.1 Y_Re_indexIn.2.1 Y_Re_indexIn.2.2.1 Y_Re_indexIn.2.2.2 ∈ tb := mem_c3 221 rfl rfl
theorem pn_Re_indexIn : plainFor Y_Re_indexIn.1 = true := by decide +kernel
def Y_Re_fail : YT := (⟨"SinkingChoir$Reader", "fail", "(I)V"⟩, prog_7_method_5_code, 2, none)
theorem cw_Re_fail : Cond.code Y_Re_fail.1 Y_Re_fail.2.1 Y_Re_fail.2.2.1 Y_Re_fail.2.2.2 ∈ tb := mem_c4 60 rfl rfl
theorem pn_Re_fail : plainFor Y_Re_fail.1 = true := by decide +kernel
def Y_Pr_open : YT := (⟨"SinkingChoir$Program", "open", "(I)V"⟩, prog_6_method_5_code, 2, none)
theorem cw_Pr_open : Cond.code Y_Pr_open.1 Y_Pr_open.2.1 Y_Pr_open.2.2.1 Y_Pr_open.2.2.2 ∈ tb := mem_c4 64 rfl rfl
theorem pn_Pr_open : plainFor Y_Pr_open.1 = true := by decide +kernel
def Y_Pr_add : YT := (⟨"SinkingChoir$Program", "add", "(II)I"⟩, prog_6_method_3_code, 3, some .int)
theorem cw_Pr_add : Cond.code Y_Pr_add.1 Y_Pr_add.2.1 Y_Pr_add.2.2.1 Y_Pr_add.2.2.2 ∈ tb := mem_c4 81 rfl rfl
theorem pn_Pr_add : plainFor Y_Pr_add.1 = true := by decide +kernel
def Y_Pr_land : YT := (⟨"SinkingChoir$Program", "land", "(I)V"⟩, prog_6_method_4_code, 2, none)
theorem cw_Pr_land : Cond.code Y_Pr_land.1 Y_Pr_land.2.1 Y_Pr_land.2.2.1 Y_Pr_land.2.2.2 ∈ tb := mem_c4 116 rfl rfl
theorem pn_Pr_land : plainFor Y_Pr_land.1 = true := by decide +kernel
def Y_Re_comparison : YT := (⟨"SinkingChoir$Reader", "comparison", "()I"⟩, prog_7_method_12_code, 2, some .int)
theorem cw_Re_comparison : Cond.code Y_Re_comparison.1 Y_Re_comparison.2.1 Y_Re_comparison.2.2.1 Y_Re_comparison.2.2.2 ∈ tb := mem_c4 112 rfl rfl
theorem pn_Re_comparison : plainFor Y_Re_comparison.1 = true := by decide +kernel
def Y_Re_take : YT := (⟨"SinkingChoir$Reader", "take", "(I)V"⟩, prog_7_method_6_code, 2, none)
theorem cw_Re_take : Cond.code Y_Re_take.1 Y_Re_take.2.1 Y_Re_take.2.2.1 Y_Re_take.2.2.2 ∈ tb := mem_c4 92 rfl rfl
theorem pn_Re_take : plainFor Y_Re_take.1 = true := by decide +kernel
def Y_Re_isDigit : YT := (⟨"SinkingChoir$Reader", "isDigit", "(I)Z"⟩, prog_7_method_16_code, 1, some .boolean)
theorem cw_Re_isDigit : Cond.code Y_Re_isDigit.1 Y_Re_isDigit.2.1 Y_Re_isDigit.2.2.1 Y_Re_isDigit.2.2.2 ∈ tb := mem_c4 84 rfl rfl
theorem pn_Re_isDigit : plainFor Y_Re_isDigit.1 = true := by decide +kernel
def Y_Re_number : YT := (⟨"SinkingChoir$Reader", "number", "()V"⟩, prog_7_method_17_code, 3, none)
theorem cw_Re_number : Cond.code Y_Re_number.1 Y_Re_number.2.1 Y_Re_number.2.2.1 Y_Re_number.2.2.2 ∈ tb := mem_c4 88 rfl rfl
theorem pn_Re_number : plainFor Y_Re_number.1 = true := by decide +kernel
def Y_Re_either : YT := (⟨"SinkingChoir$Reader", "either", "(I)V"⟩, prog_7_method_9_code, 4, none)
theorem cw_Re_either : Cond.code Y_Re_either.1 Y_Re_either.2.1 Y_Re_either.2.2.1 Y_Re_either.2.2.2 ∈ tb := mem_c4 100 rfl rfl
theorem pn_Re_either : plainFor Y_Re_either.1 = true := by decide +kernel
def Y_Re_all : YT := (⟨"SinkingChoir$Reader", "all", "(I)V"⟩, prog_7_method_10_code, 4, none)
theorem cw_Re_all : Cond.code Y_Re_all.1 Y_Re_all.2.1 Y_Re_all.2.2.1 Y_Re_all.2.2.2 ∈ tb := mem_c4 104 rfl rfl
theorem pn_Re_all : plainFor Y_Re_all.1 = true := by decide +kernel
def Y_Re_piece : YT := (⟨"SinkingChoir$Reader", "piece", "(I)V"⟩, prog_7_method_11_code, 4, none)
theorem cw_Re_piece : Cond.code Y_Re_piece.1 Y_Re_piece.2.1 Y_Re_piece.2.2.1 Y_Re_piece.2.2.2 ∈ tb := mem_c4 108 rfl rfl
theorem pn_Re_piece : plainFor Y_Re_piece.1 = true := by decide +kernel
def Y_Re_sum : YT := (⟨"SinkingChoir$Reader", "sum", "(I)V"⟩, prog_7_method_13_code, 4, none)
theorem cw_Re_sum : Cond.code Y_Re_sum.1 Y_Re_sum.2.1 Y_Re_sum.2.2.1 Y_Re_sum.2.2.2 ∈ tb := mem_c4 68 rfl rfl
theorem pn_Re_sum : plainFor Y_Re_sum.1 = true := by decide +kernel
def Y_Re_product : YT := (⟨"SinkingChoir$Reader", "product", "(I)V"⟩, prog_7_method_14_code, 4, none)
theorem cw_Re_product : Cond.code Y_Re_product.1 Y_Re_product.2.1 Y_Re_product.2.2.1 Y_Re_product.2.2.2 ∈ tb := mem_c4 72 rfl rfl
theorem pn_Re_product : plainFor Y_Re_product.1 = true := by decide +kernel
def Y_Re_factor : YT := (⟨"SinkingChoir$Reader", "factor", "(I)V"⟩, prog_7_method_15_code, 4, none)
theorem cw_Re_factor : Cond.code Y_Re_factor.1 Y_Re_factor.2.1 Y_Re_factor.2.2.1 Y_Re_factor.2.2.2 ∈ tb := mem_c4 76 rfl rfl
theorem pn_Re_factor : plainFor Y_Re_factor.1 = true := by decide +kernel
def Y_Pr_divide : YT := (⟨"SinkingChoir$Program", "divide", "()V"⟩, prog_6_method_6_code, 1, none)
theorem cw_Pr_divide : Cond.code Y_Pr_divide.1 Y_Pr_divide.2.1 Y_Pr_divide.2.2.1 Y_Pr_divide.2.2.2 ∈ tb := mem_c4 96 rfl rfl
theorem pn_Pr_divide : plainFor Y_Pr_divide.1 = true := by decide +kernel
def Y_Pr_close : YT := (⟨"SinkingChoir$Program", "close", "()V"⟩, prog_6_method_7_code, 1, none)
theorem cw_Pr_close : Cond.code Y_Pr_close.1 Y_Pr_close.2.1 Y_Pr_close.2.2.1 Y_Pr_close.2.2.2 ∈ tb := mem_c4 120 rfl rfl
theorem pn_Pr_close : plainFor Y_Pr_close.1 = true := by decide +kernel
def Y_Re_clause : YT := (⟨"SinkingChoir$Reader", "clause", "(I)V"⟩, prog_7_method_8_code, 3, none)
theorem cw_Re_clause : Cond.code Y_Re_clause.1 Y_Re_clause.2.1 Y_Re_clause.2.2.1 Y_Re_clause.2.2.2 ∈ tb := mem_c3 213 rfl rfl
theorem pn_Re_clause : plainFor Y_Re_clause.1 = true := by decide +kernel
def Y_Re_read : YT := (⟨"SinkingChoir$Reader", "read", "([II)I"⟩, prog_7_method_2_code, 4, some .int)
theorem cw_Re_read : Cond.code Y_Re_read.1 Y_Re_read.2.1 Y_Re_read.2.2.1 Y_Re_read.2.2.2 ∈ tb := mem_c3 203 rfl rfl
theorem pn_Re_read : plainFor Y_Re_read.1 = true := by decide +kernel
def Y_Re_exchange : YT := (⟨"SinkingChoir$Reader", "exchange", "(LSinkingChoir$Program;)LSinkingChoir$Program;"⟩, prog_7_method_3_code, 3, some (.object "SinkingChoir$Program"))
theorem cw_Re_exchange : Cond.code Y_Re_exchange.1 Y_Re_exchange.2.1 Y_Re_exchange.2.2.1 Y_Re_exchange.2.2.2 ∈ tb := mem_c4 124 rfl rfl
theorem pn_Re_exchange : plainFor Y_Re_exchange.1 = true := by decide +kernel
def Y_X_text : YT := (⟨"SinkingChoir", "text", "(I)I"⟩, prog_1_method_20_code, 3, some .int)
theorem cw_X_text : Cond.code Y_X_text.1 Y_X_text.2.1 Y_X_text.2.2.1 Y_X_text.2.2.2 ∈ tb := mem_c3 199 rfl rfl
theorem pn_X_text : plainFor Y_X_text.1 = true := by decide +kernel
def Y_M_isGood : YT := (⟨"SinkingChoirModel", "isGood", "()Z"⟩, prog_14_method_54_code, 1, some .boolean)
theorem cw_M_isGood : Cond.code Y_M_isGood.1 Y_M_isGood.2.1 Y_M_isGood.2.2.1 Y_M_isGood.2.2.2 ∈ tb := mem_c7 157 rfl rfl
theorem pn_M_isGood : plainFor Y_M_isGood.1 = true := by decide +kernel
def Y_M_here : YT := (⟨"SinkingChoirModel", "here", "()I"⟩, prog_14_method_52_code, 1, some .int)
theorem cw_M_here : Cond.code Y_M_here.1 Y_M_here.2.1 Y_M_here.2.2.1 Y_M_here.2.2.2 ∈ tb := mem_c7 165 rfl rfl
theorem pn_M_here : plainFor Y_M_here.1 = true := by decide +kernel
def Y_M_wrongs : YT := (⟨"SinkingChoirModel", "wrongs", "(II)V"⟩, prog_14_method_53_code, 3, none)
theorem cw_M_wrongs : Cond.code Y_M_wrongs.1 Y_M_wrongs.2.1 Y_M_wrongs.2.2.1 Y_M_wrongs.2.2.2 ∈ tb := mem_c7 169 rfl rfl
theorem pn_M_wrongs : plainFor Y_M_wrongs.1 = true := by decide +kernel
def Y_M_puts : YT := (⟨"SinkingChoirModel", "puts", "(I)V"⟩, prog_14_method_57_code, 2, none)
theorem cw_M_puts : Cond.code Y_M_puts.1 Y_M_puts.2.1 Y_M_puts.2.2.1 Y_M_puts.2.2.2 ∈ tb := mem_c7 185 rfl rfl
theorem pn_M_puts : plainFor Y_M_puts.1 = true := by decide +kernel
def Y_M_opens : YT := (⟨"SinkingChoirModel", "opens", "()V"⟩, prog_14_method_58_code, 1, none)
theorem cw_M_opens : Cond.code Y_M_opens.1 Y_M_opens.2.1 Y_M_opens.2.2.1 Y_M_opens.2.2.2 ∈ tb := mem_c7 181 rfl rfl
theorem pn_M_opens : plainFor Y_M_opens.1 = true := by decide +kernel
def Y_M_seesDigit : YT := (⟨"SinkingChoirModel", "seesDigit", "()Z"⟩, prog_14_method_59_code, 1, some .boolean)
theorem cw_M_seesDigit : Cond.code Y_M_seesDigit.1 Y_M_seesDigit.2.1 Y_M_seesDigit.2.2.1 Y_M_seesDigit.2.2.2 ∈ tb := mem_c7 189 rfl rfl
theorem pn_M_seesDigit : plainFor Y_M_seesDigit.1 = true := by decide +kernel
def Y_M_reads : YT := (⟨"SinkingChoirModel", "reads", "()I"⟩, prog_14_method_60_code, 3, some .int)
theorem cw_M_reads : Cond.code Y_M_reads.1 Y_M_reads.2.1 Y_M_reads.2.2.1 Y_M_reads.2.2.2 ∈ tb := mem_c7 195 rfl rfl
theorem pn_M_reads : plainFor Y_M_reads.1 = true := by decide +kernel
def Y_M_emit : YT := (⟨"SinkingChoirModel", "emit", "(II)V"⟩, prog_14_method_55_code, 3, none)
theorem cw_M_emit : Cond.code Y_M_emit.1 Y_M_emit.2.1 Y_M_emit.2.2.1 Y_M_emit.2.2.2 ∈ tb := mem_c7 199 rfl rfl
theorem pn_M_emit : plainFor Y_M_emit.1 = true := by decide +kernel
def Y_M_isValue : YT := (⟨"SinkingChoirModel", "isValue", "(I)Z"⟩, prog_14_method_64_code, 1, some .boolean)
theorem cw_M_isValue : Cond.code Y_M_isValue.1 Y_M_isValue.2.1 Y_M_isValue.2.2.1 Y_M_isValue.2.2.2 ∈ tb := mem_c7 202 rfl rfl
theorem pn_M_isValue : plainFor Y_M_isValue.1 = true := by decide +kernel
def Y_M_factor : YT := (⟨"SinkingChoirModel", "factor", "()V"⟩, prog_14_method_68_code, 1, none)
theorem cw_M_factor : Cond.code Y_M_factor.1 Y_M_factor.2.1 Y_M_factor.2.2.1 Y_M_factor.2.2.2 ∈ tb := mem_c7 177 rfl rfl
theorem pn_M_factor : plainFor Y_M_factor.1 = true := by decide +kernel
def Y_M_isTimes : YT := (⟨"SinkingChoirModel", "isTimes", "(I)Z"⟩, prog_14_method_61_code, 1, some .boolean)
theorem cw_M_isTimes : Cond.code Y_M_isTimes.1 Y_M_isTimes.2.1 Y_M_isTimes.2.2.1 Y_M_isTimes.2.2.2 ∈ tb := mem_c7 209 rfl rfl
theorem pn_M_isTimes : plainFor Y_M_isTimes.1 = true := by decide +kernel
def Y_M_isPlus : YT := (⟨"SinkingChoirModel", "isPlus", "(I)Z"⟩, prog_14_method_62_code, 1, some .boolean)
theorem cw_M_isPlus : Cond.code Y_M_isPlus.1 Y_M_isPlus.2.1 Y_M_isPlus.2.2.1 Y_M_isPlus.2.2.2 ∈ tb := mem_c7 212 rfl rfl
theorem pn_M_isPlus : plainFor Y_M_isPlus.1 = true := by decide +kernel
def Y_M_top : YT := (⟨"SinkingChoirModel", "top", "()I"⟩, prog_14_method_56_code, 1, some .int)
theorem cw_M_top : Cond.code Y_M_top.1 Y_M_top.2.1 Y_M_top.2.2.1 Y_M_top.2.2.2 ∈ tb := mem_c7 220 rfl rfl
theorem pn_M_top : plainFor Y_M_top.1 = true := by decide +kernel
def Y_M_sums : YT := (⟨"SinkingChoirModel", "sums", "(Z)V"⟩, prog_14_method_65_code, 2, none)
theorem cw_M_sums : Cond.code Y_M_sums.1 Y_M_sums.2.1 Y_M_sums.2.2.1 Y_M_sums.2.2.2 ∈ tb := mem_c7 216 rfl rfl
theorem pn_M_sums : plainFor Y_M_sums.1 = true := by decide +kernel
def Y_M_stays : YT := (⟨"SinkingChoirModel", "stays", "()Z"⟩, prog_14_method_69_code, 2, some .boolean)
theorem cw_M_stays : Cond.code Y_M_stays.1 Y_M_stays.2.1 Y_M_stays.2.2.1 Y_M_stays.2.2.2 ∈ tb := mem_c7 206 rfl rfl
theorem pn_M_stays : plainFor Y_M_stays.1 = true := by decide +kernel
def Y_M_value : YT := (⟨"SinkingChoirModel", "value", "()V"⟩, prog_14_method_70_code, 2, none)
theorem cw_M_value : Cond.code Y_M_value.1 Y_M_value.2.1 Y_M_value.2.2.1 Y_M_value.2.2.2 ∈ tb := mem_c7 173 rfl rfl
theorem pn_M_value : plainFor Y_M_value.1 = true := by decide +kernel
def Y_M_isSign : YT := (⟨"SinkingChoirModel", "isSign", "(I)Z"⟩, prog_14_method_63_code, 1, some .boolean)
theorem cw_M_isSign : Cond.code Y_M_isSign.1 Y_M_isSign.2.1 Y_M_isSign.2.2.1 Y_M_isSign.2.2.2 ∈ tb := mem_c7 231 rfl rfl
theorem pn_M_isSign : plainFor Y_M_isSign.1 = true := by decide +kernel
def Y_M_ends : YT := (⟨"SinkingChoirModel", "ends", "()V"⟩, prog_14_method_67_code, 1, none)
theorem cw_M_ends : Cond.code Y_M_ends.1 Y_M_ends.2.1 Y_M_ends.2.2.1 Y_M_ends.2.2.2 ∈ tb := mem_c7 235 rfl rfl
theorem pn_M_ends : plainFor Y_M_ends.1 = true := by decide +kernel
def Y_M_pieceOfC : YT := (⟨"SinkingChoirModel", "pieceOfC", "()V"⟩, prog_14_method_71_code, 2, none)
theorem cw_M_pieceOfC : Cond.code Y_M_pieceOfC.1 Y_M_pieceOfC.2.1 Y_M_pieceOfC.2.2.1 Y_M_pieceOfC.2.2.2 ∈ tb := mem_c7 228 rfl rfl
theorem pn_M_pieceOfC : plainFor Y_M_pieceOfC.1 = true := by decide +kernel
def Y_M_joins : YT := (⟨"SinkingChoirModel", "joins", "(Z)V"⟩, prog_14_method_66_code, 2, none)
theorem cw_M_joins : Cond.code Y_M_joins.1 Y_M_joins.2.1 Y_M_joins.2.2.1 Y_M_joins.2.2.2 ∈ tb := mem_c8 3 rfl rfl
theorem pn_M_joins : plainFor Y_M_joins.1 = true := by decide +kernel
def Y_M_goesBehind : YT := (⟨"SinkingChoirModel", "goesBehind", "()Z"⟩, prog_14_method_72_code, 2, some .boolean)
theorem cw_M_goesBehind : Cond.code Y_M_goesBehind.1 Y_M_goesBehind.2.1 Y_M_goesBehind.2.2.1 Y_M_goesBehind.2.2.2 ∈ tb := mem_c7 239 rfl rfl
theorem pn_M_goesBehind : plainFor Y_M_goesBehind.1 = true := by decide +kernel
def Y_M_condition : YT := (⟨"SinkingChoirModel", "condition", "()V"⟩, prog_14_method_73_code, 2, none)
theorem cw_M_condition : Cond.code Y_M_condition.1 Y_M_condition.2.1 Y_M_condition.2.2.1 Y_M_condition.2.2.2 ∈ tb := mem_c7 224 rfl rfl
theorem pn_M_condition : plainFor Y_M_condition.1 = true := by decide +kernel
def Y_M_clause : YT := (⟨"SinkingChoirModel", "clause", "()V"⟩, prog_14_method_74_code, 2, none)
theorem cw_M_clause : Cond.code Y_M_clause.1 Y_M_clause.2.1 Y_M_clause.2.2.1 Y_M_clause.2.2.2 ∈ tb := mem_c7 161 rfl rfl
theorem pn_M_clause : plainFor Y_M_clause.1 = true := by decide +kernel
def Y_M_text : YT := (⟨"SinkingChoirModel", "text", "(I)I"⟩, prog_14_method_75_code, 4, some .int)
theorem cw_M_text : Cond.code Y_M_text.1 Y_M_text.2.1 Y_M_text.2.2.1 Y_M_text.2.2.2 ∈ tb := mem_c7 152 rfl rfl
theorem pn_M_text : plainFor Y_M_text.1 = true := by decide +kernel
def Y_Ch_sings : YT := (⟨"SinkingChoir$Choir", "sings", "(II)Z"⟩, prog_2_method_3_code, 3, some .boolean)
theorem cw_Ch_sings : Cond.code Y_Ch_sings.1 Y_Ch_sings.2.1 Y_Ch_sings.2.2.1 Y_Ch_sings.2.2.2 ∈ tb := mem_c4 132 rfl rfl
theorem pn_Ch_sings : plainFor Y_Ch_sings.1 = true := by decide +kernel
def Y_Ch_howMany : YT := (⟨"SinkingChoir$Choir", "howMany", "(I)I"⟩, prog_2_method_4_code, 4, some .int)
theorem cw_Ch_howMany : Cond.code Y_Ch_howMany.1 Y_Ch_howMany.2.1 Y_Ch_howMany.2.2.1 Y_Ch_howMany.2.2.2 ∈ tb := mem_c4 146 rfl rfl
theorem pn_Ch_howMany : plainFor Y_Ch_howMany.1 = true := by decide +kernel
def Y_Ch_lastNote : YT := (⟨"SinkingChoir$Choir", "lastNote", "(II)I"⟩, prog_2_method_6_code, 4, some .int)
theorem cw_Ch_lastNote : Cond.code Y_Ch_lastNote.1 Y_Ch_lastNote.2.1 Y_Ch_lastNote.2.2.1 Y_Ch_lastNote.2.2.2 ∈ tb := mem_c4 155 rfl rfl
theorem pn_Ch_lastNote : plainFor Y_Ch_lastNote.1 = true := by decide +kernel
def Y_Mt_floorMod : YT := (⟨"java/lang/Math", "floorMod", "(II)I"⟩, prog_17_method_50_code, 3, some .int)
theorem cw_Mt_floorMod : Cond.code Y_Mt_floorMod.1 Y_Mt_floorMod.2.1 Y_Mt_floorMod.2.2.1 Y_Mt_floorMod.2.2.2 ∈ tb := mem_c4 168 rfl rfl
theorem pn_Mt_floorMod : plainFor Y_Mt_floorMod.1 = true := by decide +kernel
def Y_Ch_tableOf : YT := (⟨"SinkingChoir$Choir", "tableOf", "(II)I"⟩, prog_2_method_10_code, 3, some .int)
theorem cw_Ch_tableOf : Cond.code Y_Ch_tableOf.1 Y_Ch_tableOf.2.1 Y_Ch_tableOf.2.2.1 Y_Ch_tableOf.2.2.2 ∈ tb := mem_c4 164 rfl rfl
theorem pn_Ch_tableOf : plainFor Y_Ch_tableOf.1 = true := by decide +kernel
def Y_Si_tableOf : YT := (⟨"SinkingChoir$Singing", "tableOf", "(II)J"⟩, prog_10_method_8_code, 3, some .long)
theorem cw_Si_tableOf : Cond.code Y_Si_tableOf.1 Y_Si_tableOf.2.1 Y_Si_tableOf.2.2.1 Y_Si_tableOf.2.2.2 ∈ tb := mem_c4 159 rfl rfl
theorem pn_Si_tableOf : plainFor Y_Si_tableOf.1 = true := by decide +kernel
def Y_Si_giveAgain : YT := (⟨"SinkingChoir$Singing", "giveAgain", "(I)V"⟩, prog_10_method_4_code, 4, none)
theorem cw_Si_giveAgain : Cond.code Y_Si_giveAgain.1 Y_Si_giveAgain.2.1 Y_Si_giveAgain.2.2.1 Y_Si_giveAgain.2.2.2 ∈ tb := mem_c4 151 rfl rfl
theorem pn_Si_giveAgain : plainFor Y_Si_giveAgain.1 = true := by decide +kernel
def Y_Si_isKnowing : YT := (⟨"SinkingChoir$Singing", "isKnowing", "(I)Z"⟩, prog_10_method_7_code, 2, some .boolean)
theorem cw_Si_isKnowing : Cond.code Y_Si_isKnowing.1 Y_Si_isKnowing.2.1 Y_Si_isKnowing.2.2.1 Y_Si_isKnowing.2.2.2 ∈ tb := mem_c4 182 rfl rfl
theorem pn_Si_isKnowing : plainFor Y_Si_isKnowing.1 = true := by decide +kernel
def Y_Mt_floorDiv : YT := (⟨"java/lang/Math", "floorDiv", "(JJ)J"⟩, prog_17_method_49_code, 6, some .long)
theorem cw_Mt_floorDiv : Cond.code Y_Mt_floorDiv.1 Y_Mt_floorDiv.2.1 Y_Mt_floorDiv.2.2.1 Y_Mt_floorDiv.2.2.2 ∈ tb := mem_c4 189 rfl rfl
theorem pn_Mt_floorDiv : plainFor Y_Mt_floorDiv.1 = true := by decide +kernel
def Y_Si_tellLetters : YT := (⟨"SinkingChoir$Singing", "tellLetters", "(III)V"⟩, prog_10_method_6_code, 6, none)
theorem cw_Si_tellLetters : Cond.code Y_Si_tellLetters.1 Y_Si_tellLetters.2.1 Y_Si_tellLetters.2.2.1 Y_Si_tellLetters.2.2.2 ∈ tb := mem_c4 178 rfl rfl
theorem pn_Si_tellLetters : plainFor Y_Si_tellLetters.1 = true := by decide +kernel
def Y_Pr_reckoned : YT := (⟨"SinkingChoir$Program", "reckoned", "(III)I"⟩, prog_6_method_11_code, 3, some .int)
theorem cw_Pr_reckoned : Cond.code Y_Pr_reckoned.1 Y_Pr_reckoned.2.1 Y_Pr_reckoned.2.2.1 Y_Pr_reckoned.2.2.2 ∈ tb := mem_c4 202 rfl rfl
theorem pn_Pr_reckoned : plainFor Y_Pr_reckoned.1 = true := by decide +kernel
def Y_Pr_reckon : YT := (⟨"SinkingChoir$Program", "reckon", "(II[I)Z"⟩, prog_6_method_10_code, 8, some .boolean)
theorem cw_Pr_reckon : Cond.code Y_Pr_reckon.1 Y_Pr_reckon.2.1 Y_Pr_reckon.2.2.1 Y_Pr_reckon.2.2.2 ∈ tb := mem_c4 198 rfl rfl
theorem pn_Pr_reckon : plainFor Y_Pr_reckon.1 = true := by decide +kernel
def Y_Pr_within : YT := (⟨"SinkingChoir$Program", "within", "(II)I"⟩, prog_6_method_9_code, 4, some .int)
theorem cw_Pr_within : Cond.code Y_Pr_within.1 Y_Pr_within.2.1 Y_Pr_within.2.2.1 Y_Pr_within.2.2.2 ∈ tb := mem_c4 205 rfl rfl
theorem pn_Pr_within : plainFor Y_Pr_within.1 = true := by decide +kernel
def Y_Pr_weigh : YT := (⟨"SinkingChoir$Program", "weigh", "([I[I)V"⟩, prog_6_method_8_code, 7, none)
theorem cw_Pr_weigh : Cond.code Y_Pr_weigh.1 Y_Pr_weigh.2.1 Y_Pr_weigh.2.2.1 Y_Pr_weigh.2.2.2 ∈ tb := mem_c4 193 rfl rfl
theorem pn_Pr_weigh : plainFor Y_Pr_weigh.1 = true := by decide +kernel
def Y_Ch_heard : YT := (⟨"SinkingChoir$Choir", "heard", "(III)I"⟩, prog_2_method_9_code, 4, some .int)
theorem cw_Ch_heard : Cond.code Y_Ch_heard.1 Y_Ch_heard.2.1 Y_Ch_heard.2.2.1 Y_Ch_heard.2.2.2 ∈ tb := mem_c4 212 rfl rfl
theorem pn_Ch_heard : plainFor Y_Ch_heard.1 = true := by decide +kernel
def Y_Si_millsOf : YT := (⟨"SinkingChoir$Singing", "millsOf", "(II)J"⟩, prog_10_method_9_code, 3, some .long)
theorem cw_Si_millsOf : Cond.code Y_Si_millsOf.1 Y_Si_millsOf.2.1 Y_Si_millsOf.2.2.1 Y_Si_millsOf.2.2.2 ∈ tb := mem_c4 217 rfl rfl
theorem pn_Si_millsOf : plainFor Y_Si_millsOf.1 = true := by decide +kernel
def Y_Si_givenIn : YT := (⟨"SinkingChoir$Singing", "givenIn", "(I)I"⟩, prog_10_method_10_code, 3, some .int)
theorem cw_Si_givenIn : Cond.code Y_Si_givenIn.1 Y_Si_givenIn.2.1 Y_Si_givenIn.2.2.1 Y_Si_givenIn.2.2.2 ∈ tb := mem_c4 221 rfl rfl
theorem pn_Si_givenIn : plainFor Y_Si_givenIn.1 = true := by decide +kernel
def Y_Si_aim : YT := (⟨"SinkingChoir$Singing", "aim", "(IIIJ)V"⟩, prog_10_method_11_code, 12, none)
theorem cw_Si_aim : Cond.code Y_Si_aim.1 Y_Si_aim.2.1 Y_Si_aim.2.2.1 Y_Si_aim.2.2.2 ∈ tb := mem_c4 209 rfl rfl
theorem pn_Si_aim : plainFor Y_Si_aim.1 = true := by decide +kernel
def Y_Si_blend : YT := (⟨"SinkingChoir$Singing", "blend", "(IIII)J"⟩, prog_10_method_12_code, 11, some .long)
theorem cw_Si_blend : Cond.code Y_Si_blend.1 Y_Si_blend.2.1 Y_Si_blend.2.2.1 Y_Si_blend.2.2.2 ∈ tb := mem_c4 225 rfl rfl
theorem pn_Si_blend : plainFor Y_Si_blend.1 = true := by decide +kernel
def Y_Si_singNote : YT := (⟨"SinkingChoir$Singing", "singNote", "(II)V"⟩, prog_10_method_5_code, 6, none)
theorem cw_Si_singNote : Cond.code Y_Si_singNote.1 Y_Si_singNote.2.1 Y_Si_singNote.2.2.1 Y_Si_singNote.2.2.2 ∈ tb := mem_c4 173 rfl rfl
theorem pn_Si_singNote : plainFor Y_Si_singNote.1 = true := by decide +kernel
def Y_Si_sing : YT := (⟨"SinkingChoir$Singing", "sing", "([IIIZ)V"⟩, prog_10_method_3_code, 7, none)
theorem cw_Si_sing : Cond.code Y_Si_sing.1 Y_Si_sing.2.1 Y_Si_sing.2.2.1 Y_Si_sing.2.2.2 ∈ tb := mem_c4 142 rfl rfl
theorem pn_Si_sing : plainFor Y_Si_sing.1 = true := by decide +kernel
def Y_Si_asTold : YT := (⟨"SinkingChoir$Singing", "asTold", "()V"⟩, prog_10_method_2_code, 1, none)
theorem cw_Si_asTold : Cond.code Y_Si_asTold.1 Y_Si_asTold.2.1 Y_Si_asTold.2.2.1 Y_Si_asTold.2.2.2 ∈ tb := mem_c4 138 rfl rfl
theorem pn_Si_asTold : plainFor Y_Si_asTold.1 = true := by decide +kernel
def Y_Si_sung : YT := (⟨"SinkingChoir$Singing", "sung", "(II)J"⟩, prog_10_method_13_code, 3, some .long)
theorem cw_Si_sung : Cond.code Y_Si_sung.1 Y_Si_sung.2.1 Y_Si_sung.2.2.1 Y_Si_sung.2.2.2 ∈ tb := mem_c4 229 rfl rfl
theorem pn_Si_sung : plainFor Y_Si_sung.1 = true := by decide +kernel
def Y_X_pitch : YT := (⟨"SinkingChoir", "pitch", "(II)I"⟩, prog_1_method_21_code, 3, some .int)
theorem cw_X_pitch : Cond.code Y_X_pitch.1 Y_X_pitch.2.1 Y_X_pitch.2.2.1 Y_X_pitch.2.2.2 ∈ tb := mem_c4 128 rfl rfl
theorem pn_X_pitch : plainFor Y_X_pitch.1 = true := by decide +kernel
def Y_M_sings : YT := (⟨"SinkingChoirModel", "sings", "(II)Z"⟩, prog_14_method_76_code, 3, some .boolean)
theorem cw_M_sings : Cond.code Y_M_sings.1 Y_M_sings.2.1 Y_M_sings.2.2.1 Y_M_sings.2.2.2 ∈ tb := mem_c8 11 rfl rfl
theorem pn_M_sings : plainFor Y_M_sings.1 = true := by decide +kernel
def Y_M_readies : YT := (⟨"SinkingChoirModel", "readies", "()V"⟩, prog_14_method_92_code, 2, none)
theorem cw_M_readies : Cond.code Y_M_readies.1 Y_M_readies.2.1 Y_M_readies.2.2.1 Y_M_readies.2.2.2 ∈ tb := mem_c8 19 rfl rfl
theorem pn_M_readies : plainFor Y_M_readies.1 = true := by decide +kernel
def Y_M_has : YT := (⟨"SinkingChoirModel", "has", "(II)Z"⟩, prog_14_method_3_code, 2, some .boolean)
theorem cw_M_has : Cond.code Y_M_has.1 Y_M_has.2.1 Y_M_has.2.2.1 Y_M_has.2.2.2 ∈ tb := mem_c8 26 rfl rfl
theorem pn_M_has : plainFor Y_M_has.1 = true := by decide +kernel
def Y_M_keyOf : YT := (⟨"SinkingChoirModel", "keyOf", "(II)I"⟩, prog_14_method_77_code, 3, some .int)
theorem cw_M_keyOf : Cond.code Y_M_keyOf.1 Y_M_keyOf.2.1 Y_M_keyOf.2.2.1 Y_M_keyOf.2.2.2 ∈ tb := mem_c8 30 rfl rfl
theorem pn_M_keyOf : plainFor Y_M_keyOf.1 = true := by decide +kernel
def Y_M_tableOf : YT := (⟨"SinkingChoirModel", "tableOf", "(I)I"⟩, prog_14_method_79_code, 2, some .int)
theorem cw_M_tableOf : Cond.code Y_M_tableOf.1 Y_M_tableOf.2.1 Y_M_tableOf.2.2.1 Y_M_tableOf.2.2.2 ∈ tb := mem_c8 34 rfl rfl
theorem pn_M_tableOf : plainFor Y_M_tableOf.1 = true := by decide +kernel
def Y_M_hearsOf : YT := (⟨"SinkingChoirModel", "hearsOf", "(II)I"⟩, prog_14_method_87_code, 4, some .int)
theorem cw_M_hearsOf : Cond.code Y_M_hearsOf.1 Y_M_hearsOf.2.1 Y_M_hearsOf.2.2.1 Y_M_hearsOf.2.2.2 ∈ tb := mem_c8 48 rfl rfl
theorem pn_M_hearsOf : plainFor Y_M_hearsOf.1 = true := by decide +kernel
def Y_M_sizeFor : YT := (⟨"SinkingChoirModel", "sizeFor", "(II)I"⟩, prog_14_method_78_code, 3, some .int)
theorem cw_M_sizeFor : Cond.code Y_M_sizeFor.1 Y_M_sizeFor.2.1 Y_M_sizeFor.2.2.1 Y_M_sizeFor.2.2.2 ∈ tb := mem_c8 52 rfl rfl
theorem pn_M_sizeFor : plainFor Y_M_sizeFor.1 = true := by decide +kernel
def Y_M_floor : YT := (⟨"SinkingChoirModel", "floor", "(JJ)J"⟩, prog_14_method_5_code, 4, some .long)
theorem cw_M_floor : Cond.code Y_M_floor.1 Y_M_floor.2.1 Y_M_floor.2.2.1 Y_M_floor.2.2.2 ∈ tb := mem_c8 55 rfl rfl
theorem pn_M_floor : plainFor Y_M_floor.1 = true := by decide +kernel
def Y_M_listens : YT := (⟨"SinkingChoirModel", "listens", "(II)V"⟩, prog_14_method_88_code, 10, none)
theorem cw_M_listens : Cond.code Y_M_listens.1 Y_M_listens.2.1 Y_M_listens.2.2.1 Y_M_listens.2.2.2 ∈ tb := mem_c8 44 rfl rfl
theorem pn_M_listens : plainFor Y_M_listens.1 = true := by decide +kernel
def Y_M_worked : YT := (⟨"SinkingChoirModel", "worked", "(III)I"⟩, prog_14_method_83_code, 3, some .int)
theorem cw_M_worked : Cond.code Y_M_worked.1 Y_M_worked.2.1 Y_M_worked.2.2.1 Y_M_worked.2.2.2 ∈ tb := mem_c8 70 rfl rfl
theorem pn_M_worked : plainFor Y_M_worked.1 = true := by decide +kernel
def Y_M_does : YT := (⟨"SinkingChoirModel", "does", "(II)V"⟩, prog_14_method_84_code, 4, none)
theorem cw_M_does : Cond.code Y_M_does.1 Y_M_does.2.1 Y_M_does.2.2.1 Y_M_does.2.2.2 ∈ tb := mem_c8 67 rfl rfl
theorem pn_M_does : plainFor Y_M_does.1 = true := by decide +kernel
def Y_M_leapOf : YT := (⟨"SinkingChoirModel", "leapOf", "()I"⟩, prog_14_method_81_code, 2, some .int)
theorem cw_M_leapOf : Cond.code Y_M_leapOf.1 Y_M_leapOf.2.1 Y_M_leapOf.2.2.1 Y_M_leapOf.2.2.2 ∈ tb := mem_c8 78 rfl rfl
theorem pn_M_leapOf : plainFor Y_M_leapOf.1 = true := by decide +kernel
def Y_M_singing : YT := (⟨"SinkingChoirModel", "singing", "(I)I"⟩, prog_14_method_80_code, 4, some .int)
theorem cw_M_singing : Cond.code Y_M_singing.1 Y_M_singing.2.1 Y_M_singing.2.2.1 Y_M_singing.2.2.2 ∈ tb := mem_c8 82 rfl rfl
theorem pn_M_singing : plainFor Y_M_singing.1 = true := by decide +kernel
def Y_M_valueOf : YT := (⟨"SinkingChoirModel", "valueOf", "(I)I"⟩, prog_14_method_82_code, 3, some .int)
theorem cw_M_valueOf : Cond.code Y_M_valueOf.1 Y_M_valueOf.2.1 Y_M_valueOf.2.2.1 Y_M_valueOf.2.2.2 ∈ tb := mem_c8 74 rfl rfl
theorem pn_M_valueOf : plainFor Y_M_valueOf.1 = true := by decide +kernel
def Y_M_works : YT := (⟨"SinkingChoirModel", "works", "(II)V"⟩, prog_14_method_85_code, 5, none)
theorem cw_M_works : Cond.code Y_M_works.1 Y_M_works.2.1 Y_M_works.2.2.1 Y_M_works.2.2.2 ∈ tb := mem_c8 63 rfl rfl
theorem pn_M_works : plainFor Y_M_works.1 = true := by decide +kernel
def Y_M_tells : YT := (⟨"SinkingChoirModel", "tells", "(III)I"⟩, prog_14_method_86_code, 6, some .int)
theorem cw_M_tells : Cond.code Y_M_tells.1 Y_M_tells.2.1 Y_M_tells.2.2.1 Y_M_tells.2.2.2 ∈ tb := mem_c8 59 rfl rfl
theorem pn_M_tells : plainFor Y_M_tells.1 = true := by decide +kernel
def Y_M_aimOf : YT := (⟨"SinkingChoirModel", "aimOf", "(IIJJJJ)J"⟩, prog_14_method_89_code, 21, some .long)
theorem cw_M_aimOf : Cond.code Y_M_aimOf.1 Y_M_aimOf.2.1 Y_M_aimOf.2.2.1 Y_M_aimOf.2.2.2 ∈ tb := mem_c8 87 rfl rfl
theorem pn_M_aimOf : plainFor Y_M_aimOf.1 = true := by decide +kernel
def Y_M_singsNote : YT := (⟨"SinkingChoirModel", "singsNote", "(II)V"⟩, prog_14_method_90_code, 10, none)
theorem cw_M_singsNote : Cond.code Y_M_singsNote.1 Y_M_singsNote.2.1 Y_M_singsNote.2.2.1 Y_M_singsNote.2.2.2 ∈ tb := mem_c8 39 rfl rfl
theorem pn_M_singsNote : plainFor Y_M_singsNote.1 = true := by decide +kernel
def Y_M_isSung : YT := (⟨"SinkingChoirModel", "isSung", "()V"⟩, prog_14_method_91_code, 4, none)
theorem cw_M_isSung : Cond.code Y_M_isSung.1 Y_M_isSung.2.1 Y_M_isSung.2.2.1 Y_M_isSung.2.2.2 ∈ tb := mem_c8 23 rfl rfl
theorem pn_M_isSung : plainFor Y_M_isSung.1 = true := by decide +kernel
def Y_M_plainly : YT := (⟨"SinkingChoirModel", "plainly", "()V"⟩, prog_14_method_93_code, 1, none)
theorem cw_M_plainly : Cond.code Y_M_plainly.1 Y_M_plainly.2.1 Y_M_plainly.2.2.1 Y_M_plainly.2.2.2 ∈ tb := mem_c8 15 rfl rfl
theorem pn_M_plainly : plainFor Y_M_plainly.1 = true := by decide +kernel
def Y_M_pitch : YT := (⟨"SinkingChoirModel", "pitch", "(II)I"⟩, prog_14_method_100_code, 3, some .int)
theorem cw_M_pitch : Cond.code Y_M_pitch.1 Y_M_pitch.2.1 Y_M_pitch.2.2.1 Y_M_pitch.2.2.2 ∈ tb := mem_c8 7 rfl rfl
theorem pn_M_pitch : plainFor Y_M_pitch.1 = true := by decide +kernel
def Y_Si_off : YT := (⟨"SinkingChoir$Singing", "off", "(I)J"⟩, prog_10_method_14_code, 7, some .long)
theorem cw_Si_off : Cond.code Y_Si_off.1 Y_Si_off.2.1 Y_Si_off.2.2.1 Y_Si_off.2.2.2 ∈ tb := mem_c4 239 rfl rfl
theorem pn_Si_off : plainFor Y_Si_off.1 = true := by decide +kernel
def Y_Mt_abs_J : YT := (⟨"java/lang/Math", "abs", "(J)J"⟩, prog_17_method_61_code, 2, some .long)
theorem cw_Mt_abs_J : Cond.code Y_Mt_abs_J.1 Y_Mt_abs_J.2.1 Y_Mt_abs_J.2.2.1 Y_Mt_abs_J.2.2.2 ∈ tb := mem_c5 7 rfl rfl
theorem pn_Mt_abs_J : plainFor Y_Mt_abs_J.1 = true := by decide +kernel
def Y_Si_foul : YT := (⟨"SinkingChoir$Singing", "foul", "(I)J"⟩, prog_10_method_15_code, 8, some .long)
theorem cw_Si_foul : Cond.code Y_Si_foul.1 Y_Si_foul.2.1 Y_Si_foul.2.2.1 Y_Si_foul.2.2.2 ∈ tb := mem_c5 4 rfl rfl
theorem pn_Si_foul : plainFor Y_Si_foul.1 = true := by decide +kernel
def Y_Ch_above : YT := (⟨"SinkingChoir$Choir", "above", "(II)I"⟩, prog_2_method_12_code, 4, some .int)
theorem cw_Ch_above : Cond.code Y_Ch_above.1 Y_Ch_above.2.1 Y_Ch_above.2.2.1 Y_Ch_above.2.2.2 ∈ tb := mem_c5 15 rfl rfl
theorem pn_Ch_above : plainFor Y_Ch_above.1 = true := by decide +kernel
def Y_Ch_tableFoul : YT := (⟨"SinkingChoir$Choir", "tableFoul", "(I)J"⟩, prog_2_method_11_code, 6, some .long)
theorem cw_Ch_tableFoul : Cond.code Y_Ch_tableFoul.1 Y_Ch_tableFoul.2.1 Y_Ch_tableFoul.2.2.1 Y_Ch_tableFoul.2.2.2 ∈ tb := mem_c5 11 rfl rfl
theorem pn_Ch_tableFoul : plainFor Y_Ch_tableFoul.1 = true := by decide +kernel
def Y_X_beat : YT := (⟨"SinkingChoir", "beat", "(II)J"⟩, prog_1_method_22_code, 3, some .long)
theorem cw_X_beat : Cond.code Y_X_beat.1 Y_X_beat.2.1 Y_X_beat.2.2.1 Y_X_beat.2.2.2 ∈ tb := mem_c4 233 rfl rfl
theorem pn_X_beat : plainFor Y_X_beat.1 = true := by decide +kernel
def Y_M_offOf : YT := (⟨"SinkingChoirModel", "offOf", "(I)J"⟩, prog_14_method_94_code, 5, some .long)
theorem cw_M_offOf : Cond.code Y_M_offOf.1 Y_M_offOf.2.1 Y_M_offOf.2.2.1 Y_M_offOf.2.2.2 ∈ tb := mem_c8 97 rfl rfl
theorem pn_M_offOf : plainFor Y_M_offOf.1 = true := by decide +kernel
def Y_M_foulOf : YT := (⟨"SinkingChoirModel", "foulOf", "(I)J"⟩, prog_14_method_95_code, 6, some .long)
theorem cw_M_foulOf : Cond.code Y_M_foulOf.1 Y_M_foulOf.2.1 Y_M_foulOf.2.2.1 Y_M_foulOf.2.2.2 ∈ tb := mem_c8 101 rfl rfl
theorem pn_M_foulOf : plainFor Y_M_foulOf.1 = true := by decide +kernel
def Y_M_tableFoul : YT := (⟨"SinkingChoirModel", "tableFoul", "(I)J"⟩, prog_14_method_101_code, 6, some .long)
theorem cw_M_tableFoul : Cond.code Y_M_tableFoul.1 Y_M_tableFoul.2.1 Y_M_tableFoul.2.2.1 Y_M_tableFoul.2.2.2 ∈ tb := mem_c8 105 rfl rfl
theorem pn_M_tableFoul : plainFor Y_M_tableFoul.1 = true := by decide +kernel
def Y_M_beat : YT := (⟨"SinkingChoirModel", "beat", "(II)J"⟩, prog_14_method_102_code, 3, some .long)
theorem cw_M_beat : Cond.code Y_M_beat.1 Y_M_beat.2.1 Y_M_beat.2.2.1 Y_M_beat.2.2.2 ∈ tb := mem_c8 91 rfl rfl
theorem pn_M_beat : plainFor Y_M_beat.1 = true := by decide +kernel
def Y_Ch_firstBeat : YT := (⟨"SinkingChoir$Choir", "firstBeat", "()I"⟩, prog_2_method_7_code, 2, some .int)
theorem cw_Ch_firstBeat : Cond.code Y_Ch_firstBeat.1 Y_Ch_firstBeat.2.1 Y_Ch_firstBeat.2.2.1 Y_Ch_firstBeat.2.2.2 ∈ tb := mem_c5 25 rfl rfl
theorem pn_Ch_firstBeat : plainFor Y_Ch_firstBeat.1 = true := by decide +kernel
def Y_Ch_lastBeat : YT := (⟨"SinkingChoir$Choir", "lastBeat", "()I"⟩, prog_2_method_8_code, 2, some .int)
theorem cw_Ch_lastBeat : Cond.code Y_Ch_lastBeat.1 Y_Ch_lastBeat.2.1 Y_Ch_lastBeat.2.2.1 Y_Ch_lastBeat.2.2.2 ∈ tb := mem_c5 30 rfl rfl
theorem pn_Ch_lastBeat : plainFor Y_Ch_lastBeat.1 = true := by decide +kernel
def Y_Si_sinking : YT := (⟨"SinkingChoir$Singing", "sinking", "()J"⟩, prog_10_method_17_code, 1, some .long)
theorem cw_Si_sinking : Cond.code Y_Si_sinking.1 Y_Si_sinking.2.1 Y_Si_sinking.2.2.1 Y_Si_sinking.2.2.2 ∈ tb := mem_c5 34 rfl rfl
theorem pn_Si_sinking : plainFor Y_Si_sinking.1 = true := by decide +kernel
def Y_Ch_howManySing : YT := (⟨"SinkingChoir$Choir", "howManySing", "()I"⟩, prog_2_method_5_code, 3, some .int)
theorem cw_Ch_howManySing : Cond.code Y_Ch_howManySing.1 Y_Ch_howManySing.2.1 Y_Ch_howManySing.2.2.1 Y_Ch_howManySing.2.2.2 ∈ tb := mem_c5 45 rfl rfl
theorem pn_Ch_howManySing : plainFor Y_Ch_howManySing.1 = true := by decide +kernel
def Y_Si_drifting : YT := (⟨"SinkingChoir$Singing", "drifting", "()J"⟩, prog_10_method_18_code, 3, some .long)
theorem cw_Si_drifting : Cond.code Y_Si_drifting.1 Y_Si_drifting.2.1 Y_Si_drifting.2.2.1 Y_Si_drifting.2.2.2 ∈ tb := mem_c5 41 rfl rfl
theorem pn_Si_drifting : plainFor Y_Si_drifting.1 = true := by decide +kernel
def Y_Si_foulTogether : YT := (⟨"SinkingChoir$Singing", "foulTogether", "()J"⟩, prog_10_method_16_code, 4, some .long)
theorem cw_Si_foulTogether : Cond.code Y_Si_foulTogether.1 Y_Si_foulTogether.2.1 Y_Si_foulTogether.2.2.1 Y_Si_foulTogether.2.2.2 ∈ tb := mem_c5 50 rfl rfl
theorem pn_Si_foulTogether : plainFor Y_Si_foulTogether.1 = true := by decide +kernel
def Y_X_sunk : YT := (⟨"SinkingChoir", "sunk", "(I)J"⟩, prog_1_method_23_code, 4, some .long)
theorem cw_X_sunk : Cond.code Y_X_sunk.1 Y_X_sunk.2.1 Y_X_sunk.2.2.1 Y_X_sunk.2.2.2 ∈ tb := mem_c5 21 rfl rfl
theorem pn_X_sunk : plainFor Y_X_sunk.1 = true := by decide +kernel
def Y_M_firstSung : YT := (⟨"SinkingChoirModel", "firstSung", "()I"⟩, prog_14_method_97_code, 2, some .int)
theorem cw_M_firstSung : Cond.code Y_M_firstSung.1 Y_M_firstSung.2.1 Y_M_firstSung.2.2.1 Y_M_firstSung.2.2.2 ∈ tb := mem_c8 113 rfl rfl
theorem pn_M_firstSung : plainFor Y_M_firstSung.1 = true := by decide +kernel
def Y_M_lastSung : YT := (⟨"SinkingChoirModel", "lastSung", "()I"⟩, prog_14_method_98_code, 2, some .int)
theorem cw_M_lastSung : Cond.code Y_M_lastSung.1 Y_M_lastSung.2.1 Y_M_lastSung.2.2.1 Y_M_lastSung.2.2.2 ∈ tb := mem_c8 122 rfl rfl
theorem pn_M_lastSung : plainFor Y_M_lastSung.1 = true := by decide +kernel
def Y_M_sunkNow : YT := (⟨"SinkingChoirModel", "sunkNow", "()J"⟩, prog_14_method_99_code, 1, some .long)
theorem cw_M_sunkNow : Cond.code Y_M_sunkNow.1 Y_M_sunkNow.2.1 Y_M_sunkNow.2.2.1 Y_M_sunkNow.2.2.2 ∈ tb := mem_c8 118 rfl rfl
theorem pn_M_sunkNow : plainFor Y_M_sunkNow.1 = true := by decide +kernel
def Y_M_sungMany : YT := (⟨"SinkingChoirModel", "sungMany", "()I"⟩, prog_14_method_103_code, 5, some .int)
theorem cw_M_sungMany : Cond.code Y_M_sungMany.1 Y_M_sungMany.2.1 Y_M_sungMany.2.2.1 Y_M_sungMany.2.2.2 ∈ tb := mem_c8 126 rfl rfl
theorem pn_M_sungMany : plainFor Y_M_sungMany.1 = true := by decide +kernel
def Y_M_allFoul : YT := (⟨"SinkingChoirModel", "allFoul", "()J"⟩, prog_14_method_96_code, 4, some .long)
theorem cw_M_allFoul : Cond.code Y_M_allFoul.1 Y_M_allFoul.2.1 Y_M_allFoul.2.2.1 Y_M_allFoul.2.2.2 ∈ tb := mem_c8 130 rfl rfl
theorem pn_M_allFoul : plainFor Y_M_allFoul.1 = true := by decide +kernel
def Y_M_sunk : YT := (⟨"SinkingChoirModel", "sunk", "(I)J"⟩, prog_14_method_104_code, 8, some .long)
theorem cw_M_sunk : Cond.code Y_M_sunk.1 Y_M_sunk.2.1 Y_M_sunk.2.2.1 Y_M_sunk.2.2.2 ∈ tb := mem_c8 109 rfl rfl
theorem pn_M_sunk : plainFor Y_M_sunk.1 = true := by decide +kernel
def Y_X_hears : YT := (⟨"SinkingChoir", "hears", "(II)I"⟩, prog_1_method_24_code, 3, some .int)
theorem cw_X_hears : Cond.code Y_X_hears.1 Y_X_hears.2.1 Y_X_hears.2.2.1 Y_X_hears.2.2.2 ∈ tb := mem_c5 55 rfl rfl
theorem pn_X_hears : plainFor Y_X_hears.1 = true := by decide +kernel
def Y_M_hears : YT := (⟨"SinkingChoirModel", "hears", "(II)I"⟩, prog_14_method_105_code, 3, some .int)
theorem cw_M_hears : Cond.code Y_M_hears.1 Y_M_hears.2.1 Y_M_hears.2.2.1 Y_M_hears.2.2.2 ∈ tb := mem_c8 134 rfl rfl
theorem pn_M_hears : plainFor Y_M_hears.1 = true := by decide +kernel
def Y_St_swap : YT := (⟨"SinkingChoir$Standing", "swap", "(II)V"⟩, prog_11_method_4_code, 4, none)
theorem cw_St_swap : Cond.code Y_St_swap.1 Y_St_swap.2.1 Y_St_swap.2.2.1 Y_St_swap.2.2.2 ∈ tb := mem_c5 74 rfl rfl
theorem pn_St_swap : plainFor Y_St_swap.1 = true := by decide +kernel
def Y_St_sort : YT := (⟨"SinkingChoir$Standing", "sort", "(I)V"⟩, prog_11_method_3_code, 4, none)
theorem cw_St_sort : Cond.code Y_St_sort.1 Y_St_sort.2.1 Y_St_sort.2.2.1 Y_St_sort.2.2.2 ∈ tb := mem_c5 70 rfl rfl
theorem pn_St_sort : plainFor Y_St_sort.1 = true := by decide +kernel
def Y_St_next : YT := (⟨"SinkingChoir$Standing", "next", "()Z"⟩, prog_11_method_5_code, 3, some .boolean)
theorem cw_St_next : Cond.code Y_St_next.1 Y_St_next.2.1 Y_St_next.2.2.1 Y_St_next.2.2.2 ∈ tb := mem_c5 82 rfl rfl
theorem pn_St_next : plainFor Y_St_next.1 = true := by decide +kernel
def Y_St_find : YT := (⟨"SinkingChoir$Standing", "find", "(I)V"⟩, prog_11_method_2_code, 8, none)
theorem cw_St_find : Cond.code Y_St_find.1 Y_St_find.2.1 Y_St_find.2.2.1 Y_St_find.2.2.2 ∈ tb := mem_c5 65 rfl rfl
theorem pn_St_find : plainFor Y_St_find.1 = true := by decide +kernel
def Y_X_standing : YT := (⟨"SinkingChoir", "standing", "(I)J"⟩, prog_1_method_25_code, 3, some .long)
theorem cw_X_standing : Cond.code Y_X_standing.1 Y_X_standing.2.1 Y_X_standing.2.2.1 Y_X_standing.2.2.2 ∈ tb := mem_c5 60 rfl rfl
theorem pn_X_standing : plainFor Y_X_standing.1 = true := by decide +kernel
def Y_M_swaps : YT := (⟨"SinkingChoirModel", "swaps", "(II)V"⟩, prog_14_method_107_code, 4, none)
theorem cw_M_swaps : Cond.code Y_M_swaps.1 Y_M_swaps.2.1 Y_M_swaps.2.2.1 Y_M_swaps.2.2.2 ∈ tb := mem_c8 143 rfl rfl
theorem pn_M_swaps : plainFor Y_M_swaps.1 = true := by decide +kernel
def Y_M_stepsOn : YT := (⟨"SinkingChoirModel", "stepsOn", "()Z"⟩, prog_14_method_106_code, 5, some .boolean)
theorem cw_M_stepsOn : Cond.code Y_M_stepsOn.1 Y_M_stepsOn.2.1 Y_M_stepsOn.2.2.1 Y_M_stepsOn.2.2.2 ∈ tb := mem_c8 147 rfl rfl
theorem pn_M_stepsOn : plainFor Y_M_stepsOn.1 = true := by decide +kernel
def Y_M_standing : YT := (⟨"SinkingChoirModel", "standing", "(I)J"⟩, prog_14_method_108_code, 13, some .long)
theorem cw_M_standing : Cond.code Y_M_standing.1 Y_M_standing.2.1 Y_M_standing.2.2.1 Y_M_standing.2.2.2 ∈ tb := mem_c8 138 rfl rfl
theorem pn_M_standing : plainFor Y_M_standing.1 = true := by decide +kernel
def Y_Mt_max_JJ : YT := (⟨"java/lang/Math", "max", "(JJ)J"⟩, prog_17_method_66_code, 4, some .long)
theorem cw_Mt_max_JJ : Cond.code Y_Mt_max_JJ.1 Y_Mt_max_JJ.2.1 Y_Mt_max_JJ.2.2.1 Y_Mt_max_JJ.2.2.2 ∈ tb := mem_c5 104 rfl rfl
theorem pn_Mt_max_JJ : plainFor Y_Mt_max_JJ.1 = true := by decide +kernel
def Y_Le_chart : YT := (⟨"SinkingChoir$Leading", "chart", "(II)V"⟩, prog_5_method_3_code, 6, none)
theorem cw_Le_chart : Cond.code Y_Le_chart.1 Y_Le_chart.2.1 Y_Le_chart.2.2.1 Y_Le_chart.2.2.2 ∈ tb := mem_c5 99 rfl rfl
theorem pn_Le_chart : plainFor Y_Le_chart.1 = true := by decide +kernel
def Y_Le_farthest : YT := (⟨"SinkingChoir$Leading", "farthest", "(II)J"⟩, prog_5_method_4_code, 3, some .long)
theorem cw_Le_farthest : Cond.code Y_Le_farthest.1 Y_Le_farthest.2.1 Y_Le_farthest.2.2.1 Y_Le_farthest.2.2.2 ∈ tb := mem_c5 109 rfl rfl
theorem pn_Le_farthest : plainFor Y_Le_farthest.1 = true := by decide +kernel
def Y_Le_consider : YT := (⟨"SinkingChoir$Leading", "consider", "(IJ)V"⟩, prog_5_method_5_code, 4, none)
theorem cw_Le_consider : Cond.code Y_Le_consider.1 Y_Le_consider.2.1 Y_Le_consider.2.2.1 Y_Le_consider.2.2.2 ∈ tb := mem_c5 113 rfl rfl
theorem pn_Le_consider : plainFor Y_Le_consider.1 = true := by decide +kernel
def Y_Le_find : YT := (⟨"SinkingChoir$Leading", "find", "(I)V"⟩, prog_5_method_2_code, 13, none)
theorem cw_Le_find : Cond.code Y_Le_find.1 Y_Le_find.2.1 Y_Le_find.2.2.1 Y_Le_find.2.2.2 ∈ tb := mem_c5 92 rfl rfl
theorem pn_Le_find : plainFor Y_Le_find.1 = true := by decide +kernel
def Y_X_leader : YT := (⟨"SinkingChoir", "leader", "(II)J"⟩, prog_1_method_26_code, 3, some .long)
theorem cw_X_leader : Cond.code Y_X_leader.1 Y_X_leader.2.1 Y_X_leader.2.2.1 Y_X_leader.2.2.2 ∈ tb := mem_c5 86 rfl rfl
theorem pn_X_leader : plainFor Y_X_leader.1 = true := by decide +kernel
def Y_M_farthest : YT := (⟨"SinkingChoirModel", "farthest", "()J"⟩, prog_14_method_109_code, 6, some .long)
theorem cw_M_farthest : Cond.code Y_M_farthest.1 Y_M_farthest.2.1 Y_M_farthest.2.2.1 Y_M_farthest.2.2.2 ∈ tb := mem_c8 157 rfl rfl
theorem pn_M_farthest : plainFor Y_M_farthest.1 = true := by decide +kernel
def Y_M_leader : YT := (⟨"SinkingChoirModel", "leader", "(II)J"⟩, prog_14_method_110_code, 13, some .long)
theorem cw_M_leader : Cond.code Y_M_leader.1 Y_M_leader.2.1 Y_M_leader.2.2.1 Y_M_leader.2.2.2 ∈ tb := mem_c8 151 rfl rfl
theorem pn_M_leader : plainFor Y_M_leader.1 = true := by decide +kernel
def Y_X_worst : YT := (⟨"SinkingChoir", "worst", "()I"⟩, prog_1_method_27_code, 3, some .int)
theorem cw_X_worst : Cond.code Y_X_worst.1 Y_X_worst.2.1 Y_X_worst.2.2.1 Y_X_worst.2.2.2 ∈ tb := mem_c5 117 rfl rfl
theorem pn_X_worst : plainFor Y_X_worst.1 = true := by decide +kernel
def Y_M_worst : YT := (⟨"SinkingChoirModel", "worst", "()I"⟩, prog_14_method_111_code, 5, some .int)
theorem cw_M_worst : Cond.code Y_M_worst.1 Y_M_worst.2.1 Y_M_worst.2.2.1 Y_M_worst.2.2.2 ∈ tb := mem_c8 161 rfl rfl
theorem pn_M_worst : plainFor Y_M_worst.1 = true := by decide +kernel
def Y_X_knows : YT := (⟨"SinkingChoir", "knows", "()J"⟩, prog_1_method_28_code, 3, some .long)
theorem cw_X_knows : Cond.code Y_X_knows.1 Y_X_knows.2.1 Y_X_knows.2.2.1 Y_X_knows.2.2.2 ∈ tb := mem_c5 122 rfl rfl
theorem pn_X_knows : plainFor Y_X_knows.1 = true := by decide +kernel
def Y_M_knows : YT := (⟨"SinkingChoirModel", "knows", "()J"⟩, prog_14_method_112_code, 4, some .long)
theorem cw_M_knows : Cond.code Y_M_knows.1 Y_M_knows.2.1 Y_M_knows.2.2.1 Y_M_knows.2.2.2 ∈ tb := mem_c8 165 rfl rfl
theorem pn_M_knows : plainFor Y_M_knows.1 = true := by decide +kernel
def Y_Ch_putRecord : YT := (⟨"SinkingChoir$Choir", "putRecord", "(III)V"⟩, prog_2_method_13_code, 4, none)
theorem cw_Ch_putRecord : Cond.code Y_Ch_putRecord.1 Y_Ch_putRecord.2.1 Y_Ch_putRecord.2.2.1 Y_Ch_putRecord.2.2.2 ∈ tb := mem_c5 133 rfl rfl
theorem pn_Ch_putRecord : plainFor Y_Ch_putRecord.1 = true := by decide +kernel
def Y_X_tape : YT := (⟨"SinkingChoir", "tape", "(III)Z"⟩, prog_1_method_29_code, 4, some .boolean)
theorem cw_X_tape : Cond.code Y_X_tape.1 Y_X_tape.2.1 Y_X_tape.2.2.1 Y_X_tape.2.2.2 ∈ tb := mem_c5 127 rfl rfl
theorem pn_X_tape : plainFor Y_X_tape.1 = true := by decide +kernel
def Y_M_tape : YT := (⟨"SinkingChoirModel", "tape", "(III)Z"⟩, prog_14_method_113_code, 4, some .boolean)
theorem cw_M_tape : Cond.code Y_M_tape.1 Y_M_tape.2.1 Y_M_tape.2.2.1 Y_M_tape.2.2.2 ∈ tb := mem_c8 169 rfl rfl
theorem pn_M_tape : plainFor Y_M_tape.1 = true := by decide +kernel
def Y_Ar_fill_BJ : YT := (⟨"java/util/Arrays", "fill", "([JJ)V"⟩, prog_22_method_101_code, 5, none)
theorem cw_Ar_fill_BJ : Cond.code Y_Ar_fill_BJ.1 Y_Ar_fill_BJ.2.1 Y_Ar_fill_BJ.2.2.1 Y_Ar_fill_BJ.2.2.2 ∈ tb := mem_c5 144 rfl rfl
theorem pn_Ar_fill_BJ : plainFor Y_Ar_fill_BJ.1 = true := by decide +kernel
def Y_Ch_isRecorded : YT := (⟨"SinkingChoir$Choir", "isRecorded", "(II)Z"⟩, prog_2_method_14_code, 3, some .boolean)
theorem cw_Ch_isRecorded : Cond.code Y_Ch_isRecorded.1 Y_Ch_isRecorded.2.1 Y_Ch_isRecorded.2.2.1 Y_Ch_isRecorded.2.2.2 ∈ tb := mem_c5 148 rfl rfl
theorem pn_Ch_isRecorded : plainFor Y_Ch_isRecorded.1 = true := by decide +kernel
def Y_Ch_lastRecord : YT := (⟨"SinkingChoir$Choir", "lastRecord", "(II)I"⟩, prog_2_method_16_code, 4, some .int)
theorem cw_Ch_lastRecord : Cond.code Y_Ch_lastRecord.1 Y_Ch_lastRecord.2.1 Y_Ch_lastRecord.2.2.1 Y_Ch_lastRecord.2.2.2 ∈ tb := mem_c5 156 rfl rfl
theorem pn_Ch_lastRecord : plainFor Y_Ch_lastRecord.1 = true := by decide +kernel
def Y_Ch_recordOf : YT := (⟨"SinkingChoir$Choir", "recordOf", "(II)I"⟩, prog_2_method_15_code, 3, some .int)
theorem cw_Ch_recordOf : Cond.code Y_Ch_recordOf.1 Y_Ch_recordOf.2.1 Y_Ch_recordOf.2.2.1 Y_Ch_recordOf.2.2.2 ∈ tb := mem_c5 161 rfl rfl
theorem pn_Ch_recordOf : plainFor Y_Ch_recordOf.1 = true := by decide +kernel
def Y_Fi_addBeat : YT := (⟨"SinkingChoir$Fitting", "addBeat", "(II)V"⟩, prog_3_method_3_code, 7, none)
theorem cw_Fi_addBeat : Cond.code Y_Fi_addBeat.1 Y_Fi_addBeat.2.1 Y_Fi_addBeat.2.2.1 Y_Fi_addBeat.2.2.2 ∈ tb := mem_c5 152 rfl rfl
theorem pn_Fi_addBeat : plainFor Y_Fi_addBeat.1 = true := by decide +kernel
def Y_Fi_find : YT := (⟨"SinkingChoir$Fitting", "find", "(I)Z"⟩, prog_3_method_2_code, 3, some .boolean)
theorem cw_Fi_find : Cond.code Y_Fi_find.1 Y_Fi_find.2.1 Y_Fi_find.2.2.1 Y_Fi_find.2.2.2 ∈ tb := mem_c5 141 rfl rfl
theorem pn_Fi_find : plainFor Y_Fi_find.1 = true := by decide +kernel
def Y_Fi_told : YT := (⟨"SinkingChoir$Fitting", "told", "(I)J"⟩, prog_3_method_4_code, 2, some .long)
theorem cw_Fi_told : Cond.code Y_Fi_told.1 Y_Fi_told.2.1 Y_Fi_told.2.2.1 Y_Fi_told.2.2.2 ∈ tb := mem_c5 168 rfl rfl
theorem pn_Fi_told : plainFor Y_Fi_told.1 = true := by decide +kernel
def Y_X_fit : YT := (⟨"SinkingChoir", "fit", "(II)J"⟩, prog_1_method_30_code, 3, some .long)
theorem cw_X_fit : Cond.code Y_X_fit.1 Y_X_fit.2.1 Y_X_fit.2.2.1 Y_X_fit.2.2.2 ∈ tb := mem_c5 137 rfl rfl
theorem pn_X_fit : plainFor Y_X_fit.1 = true := by decide +kernel
def Y_M_isTaped : YT := (⟨"SinkingChoirModel", "isTaped", "(II)Z"⟩, prog_14_method_114_code, 3, some .boolean)
theorem cw_M_isTaped : Cond.code Y_M_isTaped.1 Y_M_isTaped.2.1 Y_M_isTaped.2.2.1 Y_M_isTaped.2.2.2 ∈ tb := mem_c8 179 rfl rfl
theorem pn_M_isTaped : plainFor Y_M_isTaped.1 = true := by decide +kernel
def Y_M_differs : YT := (⟨"SinkingChoirModel", "differs", "(IIII)J"⟩, prog_14_method_115_code, 10, some .long)
theorem cw_M_differs : Cond.code Y_M_differs.1 Y_M_differs.2.1 Y_M_differs.2.2.1 Y_M_differs.2.2.2 ∈ tb := mem_c8 183 rfl rfl
theorem pn_M_differs : plainFor Y_M_differs.1 = true := by decide +kernel
def Y_M_fit : YT := (⟨"SinkingChoirModel", "fit", "(II)J"⟩, prog_14_method_116_code, 10, some .long)
theorem cw_M_fit : Cond.code Y_M_fit.1 Y_M_fit.2.1 Y_M_fit.2.2.1 Y_M_fit.2.2.2 ∈ tb := mem_c8 175 rfl rfl
theorem pn_M_fit : plainFor Y_M_fit.1 = true := by decide +kernel
def Y_X_minded : YT := (⟨"SinkingChoir", "minded", "(III)J"⟩, prog_1_method_37_code, 4, some .long)
theorem cw_X_minded : Cond.code Y_X_minded.1 Y_X_minded.2.1 Y_X_minded.2.2.1 Y_X_minded.2.2.2 ∈ tb := mem_c5 176 rfl rfl
theorem pn_X_minded : plainFor Y_X_minded.1 = true := by decide +kernel
def Y_X_mind : YT := (⟨"SinkingChoir", "mind", "(III)J"⟩, prog_1_method_31_code, 11, some .long)
theorem cw_X_mind : Cond.code Y_X_mind.1 Y_X_mind.2.1 Y_X_mind.2.2.1 Y_X_mind.2.2.2 ∈ tb := mem_c5 172 rfl rfl
theorem pn_X_mind : plainFor Y_X_mind.1 = true := by decide +kernel
def Y_M_minds : YT := (⟨"SinkingChoirModel", "minds", "(II)J"⟩, prog_14_method_117_code, 3, some .long)
theorem cw_M_minds : Cond.code Y_M_minds.1 Y_M_minds.2.1 Y_M_minds.2.2.1 Y_M_minds.2.2.2 ∈ tb := mem_c8 193 rfl rfl
theorem pn_M_minds : plainFor Y_M_minds.1 = true := by decide +kernel
def Y_M_mind : YT := (⟨"SinkingChoirModel", "mind", "(III)J"⟩, prog_14_method_118_code, 12, some .long)
theorem cw_M_mind : Cond.code Y_M_mind.1 Y_M_mind.2.1 Y_M_mind.2.2.1 Y_M_mind.2.2.2 ∈ tb := mem_c8 187 rfl rfl
theorem pn_M_mind : plainFor Y_M_mind.1 = true := by decide +kernel
def Y_Rl_number : YT := (⟨"SinkingChoir$Reel", "number", "(I)I"⟩, prog_8_method_4_code, 2, some .int)
theorem cw_Rl_number : Cond.code Y_Rl_number.1 Y_Rl_number.2.1 Y_Rl_number.2.2.1 Y_Rl_number.2.2.2 ∈ tb := mem_c5 190 rfl rfl
theorem pn_Rl_number : plainFor Y_Rl_number.1 = true := by decide +kernel
def Y_X_firstWrong : YT := (⟨"SinkingChoir", "firstWrong", "(I)I"⟩, prog_1_method_38_code, 5, some .int)
theorem cw_X_firstWrong : Cond.code Y_X_firstWrong.1 Y_X_firstWrong.2.1 Y_X_firstWrong.2.2.1 Y_X_firstWrong.2.2.2 ∈ tb := mem_c5 186 rfl rfl
theorem pn_X_firstWrong : plainFor Y_X_firstWrong.1 = true := by decide +kernel
def Y_X_check : YT := (⟨"SinkingChoir", "check", "(I)I"⟩, prog_1_method_32_code, 3, some .int)
theorem cw_X_check : Cond.code Y_X_check.1 Y_X_check.2.1 Y_X_check.2.2.1 Y_X_check.2.2.2 ∈ tb := mem_c5 182 rfl rfl
theorem pn_X_check : plainFor Y_X_check.1 = true := by decide +kernel
def Y_M_numberAt : YT := (⟨"SinkingChoirModel", "numberAt", "(I)I"⟩, prog_14_method_119_code, 4, some .int)
theorem cw_M_numberAt : Cond.code Y_M_numberAt.1 Y_M_numberAt.2.1 Y_M_numberAt.2.2.1 Y_M_numberAt.2.2.2 ∈ tb := mem_c8 201 rfl rfl
theorem pn_M_numberAt : plainFor Y_M_numberAt.1 = true := by decide +kernel
def Y_M_check : YT := (⟨"SinkingChoirModel", "check", "(I)I"⟩, prog_14_method_120_code, 5, some .int)
theorem cw_M_check : Cond.code Y_M_check.1 Y_M_check.2.1 Y_M_check.2.2.1 Y_M_check.2.2.2 ∈ tb := mem_c8 197 rfl rfl
theorem pn_M_check : plainFor Y_M_check.1 = true := by decide +kernel
def Y_Sc_noteCount : YT := (⟨"SinkingChoir$Score", "noteCount", "()I"⟩, prog_9_method_19_code, 3, some .int)
theorem cw_Sc_noteCount : Cond.code Y_Sc_noteCount.1 Y_Sc_noteCount.2.1 Y_Sc_noteCount.2.2.1 Y_Sc_noteCount.2.2.2 ∈ tb := mem_c5 198 rfl rfl
theorem pn_Sc_noteCount : plainFor Y_Sc_noteCount.1 = true := by decide +kernel
def Y_Sc_linkCount : YT := (⟨"SinkingChoir$Score", "linkCount", "()I"⟩, prog_9_method_20_code, 3, some .int)
theorem cw_Sc_linkCount : Cond.code Y_Sc_linkCount.1 Y_Sc_linkCount.2.1 Y_Sc_linkCount.2.2.1 Y_Sc_linkCount.2.2.2 ∈ tb := mem_c5 202 rfl rfl
theorem pn_Sc_linkCount : plainFor Y_Sc_linkCount.1 = true := by decide +kernel
def Y_In_bitCount : YT := (⟨"java/lang/Integer", "bitCount", "(I)I"⟩, prog_16_method_49_code, 1, some .int)
theorem cw_In_bitCount : Cond.code Y_In_bitCount.1 Y_In_bitCount.2.1 Y_In_bitCount.2.2.1 Y_In_bitCount.2.2.2 ∈ tb := mem_c5 205 rfl rfl
theorem pn_In_bitCount : plainFor Y_In_bitCount.1 = true := by decide +kernel
def Y_X_count : YT := (⟨"SinkingChoir", "count", "(I)I"⟩, prog_1_method_33_code, 2, some .int)
theorem cw_X_count : Cond.code Y_X_count.1 Y_X_count.2.1 Y_X_count.2.2.1 Y_X_count.2.2.2 ∈ tb := mem_c5 194 rfl rfl
theorem pn_X_count : plainFor Y_X_count.1 = true := by decide +kernel
def Y_M_sizeOf : YT := (⟨"SinkingChoirModel", "sizeOf", "(I)I"⟩, prog_14_method_4_code, 3, some .int)
theorem cw_M_sizeOf : Cond.code Y_M_sizeOf.1 Y_M_sizeOf.2.1 Y_M_sizeOf.2.2.1 Y_M_sizeOf.2.2.2 ∈ tb := mem_c8 208 rfl rfl
theorem pn_M_sizeOf : plainFor Y_M_sizeOf.1 = true := by decide +kernel
def Y_M_count : YT := (⟨"SinkingChoirModel", "count", "(I)I"⟩, prog_14_method_121_code, 5, some .int)
theorem cw_M_count : Cond.code Y_M_count.1 Y_M_count.2.1 Y_M_count.2.2.1 Y_M_count.2.2.2 ∈ tb := mem_c8 205 rfl rfl
theorem pn_M_count : plainFor Y_M_count.1 = true := by decide +kernel
theorem fg_Sc_9 : FLG "SinkingChoir$Score" 9 8 0 := ⟨_, _, _, _, cf8, by decide, mem_c1 40 rfl rfl⟩
theorem fg_Sc_24 : FLG "SinkingChoir$Score" 24 8 4 := ⟨_, _, _, _, cf8, by decide, mem_c1 49 rfl rfl⟩
theorem fg_Si_50 : FLG "SinkingChoir$Singing" 50 2 2 := ⟨_, _, _, _, cf2, by decide, mem_c1 115 rfl rfl⟩
theorem fg_X_10 : FLG "SinkingChoir" 10 0 0 := ⟨_, _, _, _, cf0, by decide, mem_c2 113 rfl rfl⟩
theorem fg_X_21 : FLG "SinkingChoir" 21 0 1 := ⟨_, _, _, _, cf0, by decide, mem_c2 114 rfl rfl⟩
theorem fg_X_30 : FLG "SinkingChoir" 30 0 2 := ⟨_, _, _, _, cf0, by decide, mem_c2 115 rfl rfl⟩
theorem fg_M_140 : FLG "SinkingChoirModel" 140 1 70 := ⟨_, _, _, _, cf1, by decide, mem_c6 45 rfl rfl⟩
theorem fg_M_30 : FLG "SinkingChoirModel" 30 1 7 := ⟨_, _, _, _, cf1, by decide, mem_c5 222 rfl rfl⟩
theorem fg_M_13 : FLG "SinkingChoirModel" 13 1 2 := ⟨_, _, _, _, cf1, by decide, mem_c5 217 rfl rfl⟩
theorem fg_Sc_15 : FLG "SinkingChoir$Score" 15 8 1 := ⟨_, _, _, _, cf8, by decide, mem_c1 43 rfl rfl⟩
theorem fg_Sc_30 : FLG "SinkingChoir$Score" 30 8 6 := ⟨_, _, _, _, cf8, by decide, mem_c1 54 rfl rfl⟩
theorem fg_Sc_27 : FLG "SinkingChoir$Score" 27 8 5 := ⟨_, _, _, _, cf8, by decide, mem_c1 52 rfl rfl⟩
theorem fg_Sc_18 : FLG "SinkingChoir$Score" 18 8 2 := ⟨_, _, _, _, cf8, by decide, mem_c1 44 rfl rfl⟩
theorem fg_X_274 : FLG "SinkingChoir" 274 0 9 := ⟨_, _, _, _, cf0, by decide, mem_c2 122 rfl rfl⟩
theorem fg_M_17 : FLG "SinkingChoirModel" 17 1 3 := ⟨_, _, _, _, cf1, by decide, mem_c5 218 rfl rfl⟩
theorem fg_M_20 : FLG "SinkingChoirModel" 20 1 4 := ⟨_, _, _, _, cf1, by decide, mem_c5 219 rfl rfl⟩
theorem fg_M_23 : FLG "SinkingChoirModel" 23 1 5 := ⟨_, _, _, _, cf1, by decide, mem_c5 220 rfl rfl⟩
theorem fg_Sc_21 : FLG "SinkingChoir$Score" 21 8 3 := ⟨_, _, _, _, cf8, by decide, mem_c1 47 rfl rfl⟩
theorem fg_X_98 : FLG "SinkingChoir" 98 8 3 := ⟨_, _, _, _, cf8, by decide, mem_c1 48 rfl rfl⟩
theorem fg_M_26 : FLG "SinkingChoirModel" 26 1 6 := ⟨_, _, _, _, cf1, by decide, mem_c5 221 rfl rfl⟩
theorem fg_X_114 : FLG "SinkingChoir" 114 8 5 := ⟨_, _, _, _, cf8, by decide, mem_c1 53 rfl rfl⟩
theorem fg_X_117 : FLG "SinkingChoir" 117 8 6 := ⟨_, _, _, _, cf8, by decide, mem_c1 55 rfl rfl⟩
theorem fg_X_123 : FLG "SinkingChoir" 123 8 4 := ⟨_, _, _, _, cf8, by decide, mem_c1 51 rfl rfl⟩
theorem fg_M_202 : FLG "SinkingChoirModel" 202 1 8 := ⟨_, _, _, _, cf1, by decide, mem_c5 223 rfl rfl⟩
theorem fg_M_205 : FLG "SinkingChoirModel" 205 1 9 := ⟨_, _, _, _, cf1, by decide, mem_c5 224 rfl rfl⟩
theorem fg_M_208 : FLG "SinkingChoirModel" 208 1 10 := ⟨_, _, _, _, cf1, by decide, mem_c5 225 rfl rfl⟩
theorem fg_Wa_20 : FLG "SinkingChoir$Ways" 20 11 3 := ⟨_, _, _, _, cf11, by decide, mem_c3 59 rfl rfl⟩
theorem fg_Wa_23 : FLG "SinkingChoir$Ways" 23 11 4 := ⟨_, _, _, _, cf11, by decide, mem_c3 60 rfl rfl⟩
theorem fg_Wa_13 : FLG "SinkingChoir$Ways" 13 11 1 := ⟨_, _, _, _, cf11, by decide, mem_c3 57 rfl rfl⟩
theorem fg_Wa_35 : FLG "SinkingChoir$Ways" 35 11 0 := ⟨_, _, _, _, cf11, by decide, mem_c3 56 rfl rfl⟩
theorem fg_Wa_45 : FLG "SinkingChoir$Ways" 45 11 9 := ⟨_, _, _, _, cf11, by decide, mem_c3 65 rfl rfl⟩
theorem fg_Wa_26 : FLG "SinkingChoir$Ways" 26 11 5 := ⟨_, _, _, _, cf11, by decide, mem_c3 61 rfl rfl⟩
theorem fg_X_332 : FLG "SinkingChoir" 332 0 8 := ⟨_, _, _, _, cf0, by decide, mem_c2 121 rfl rfl⟩
theorem fg_Wa_72 : FLG "SinkingChoir$Ways" 72 8 4 := ⟨_, _, _, _, cf8, by decide, mem_c1 50 rfl rfl⟩
theorem fg_Wa_29 : FLG "SinkingChoir$Ways" 29 11 6 := ⟨_, _, _, _, cf11, by decide, mem_c3 62 rfl rfl⟩
theorem fg_Wa_17 : FLG "SinkingChoir$Ways" 17 11 2 := ⟨_, _, _, _, cf11, by decide, mem_c3 58 rfl rfl⟩
theorem fg_Wa_32 : FLG "SinkingChoir$Ways" 32 11 7 := ⟨_, _, _, _, cf11, by decide, mem_c3 63 rfl rfl⟩
theorem fg_Wa_101 : FLG "SinkingChoir$Ways" 101 11 8 := ⟨_, _, _, _, cf11, by decide, mem_c3 64 rfl rfl⟩
theorem fg_M_33 : FLG "SinkingChoirModel" 33 1 11 := ⟨_, _, _, _, cf1, by decide, mem_c5 226 rfl rfl⟩
theorem fg_M_36 : FLG "SinkingChoirModel" 36 1 12 := ⟨_, _, _, _, cf1, by decide, mem_c5 227 rfl rfl⟩
theorem fg_M_39 : FLG "SinkingChoirModel" 39 1 13 := ⟨_, _, _, _, cf1, by decide, mem_c5 228 rfl rfl⟩
theorem fg_M_42 : FLG "SinkingChoirModel" 42 1 14 := ⟨_, _, _, _, cf1, by decide, mem_c5 229 rfl rfl⟩
theorem fg_M_45 : FLG "SinkingChoirModel" 45 1 15 := ⟨_, _, _, _, cf1, by decide, mem_c5 230 rfl rfl⟩
theorem fg_M_261 : FLG "SinkingChoirModel" 261 1 17 := ⟨_, _, _, _, cf1, by decide, mem_c5 232 rfl rfl⟩
theorem fg_M_49 : FLG "SinkingChoirModel" 49 1 16 := ⟨_, _, _, _, cf1, by decide, mem_c5 231 rfl rfl⟩
theorem fg_X_163 : FLG "SinkingChoir" 163 2 9 := ⟨_, _, _, _, cf2, by decide, mem_c1 135 rfl rfl⟩
theorem fg_X_167 : FLG "SinkingChoir" 167 2 1 := ⟨_, _, _, _, cf2, by decide, mem_c1 113 rfl rfl⟩
theorem fg_X_170 : FLG "SinkingChoir" 170 2 2 := ⟨_, _, _, _, cf2, by decide, mem_c1 118 rfl rfl⟩
theorem fg_X_173 : FLG "SinkingChoir" 173 2 3 := ⟨_, _, _, _, cf2, by decide, mem_c1 121 rfl rfl⟩
theorem fg_X_176 : FLG "SinkingChoir" 176 2 4 := ⟨_, _, _, _, cf2, by decide, mem_c1 124 rfl rfl⟩
theorem fg_M_275 : FLG "SinkingChoirModel" 275 1 18 := ⟨_, _, _, _, cf1, by decide, mem_c5 233 rfl rfl⟩
theorem fg_M_56 : FLG "SinkingChoirModel" 56 1 22 := ⟨_, _, _, _, cf1, by decide, mem_c5 237 rfl rfl⟩
theorem fg_M_59 : FLG "SinkingChoirModel" 59 1 23 := ⟨_, _, _, _, cf1, by decide, mem_c5 238 rfl rfl⟩
theorem fg_M_62 : FLG "SinkingChoirModel" 62 1 24 := ⟨_, _, _, _, cf1, by decide, mem_c5 239 rfl rfl⟩
theorem fg_M_65 : FLG "SinkingChoirModel" 65 1 25 := ⟨_, _, _, _, cf1, by decide, mem_c6 0 rfl rfl⟩
theorem fg_Ch_48 : FLG "SinkingChoir$Choir" 48 2 9 := ⟨_, _, _, _, cf2, by decide, mem_c1 132 rfl rfl⟩
theorem fg_X_183 : FLG "SinkingChoir" 183 2 7 := ⟨_, _, _, _, cf2, by decide, mem_c1 128 rfl rfl⟩
theorem fg_M_68 : FLG "SinkingChoirModel" 68 1 26 := ⟨_, _, _, _, cf1, by decide, mem_c6 1 rfl rfl⟩
theorem fg_Rl_13 : FLG "SinkingChoir$Reel" 13 7 1 := ⟨_, _, _, _, cf7, by decide, mem_c2 82 rfl rfl⟩
theorem fg_Rl_9 : FLG "SinkingChoir$Reel" 9 7 0 := ⟨_, _, _, _, cf7, by decide, mem_c2 80 rfl rfl⟩
theorem fg_X_62 : FLG "SinkingChoir" 62 0 6 := ⟨_, _, _, _, cf0, by decide, mem_c2 119 rfl rfl⟩
theorem fg_X_206 : FLG "SinkingChoir" 206 7 1 := ⟨_, _, _, _, cf7, by decide, mem_c2 83 rfl rfl⟩
theorem fg_M_7 : FLG "SinkingChoirModel" 7 1 0 := ⟨_, _, _, _, cf1, by decide, mem_c5 215 rfl rfl⟩
theorem fg_M_305 : FLG "SinkingChoirModel" 305 1 1 := ⟨_, _, _, _, cf1, by decide, mem_c5 216 rfl rfl⟩
theorem fg_Re_44 : FLG "SinkingChoir$Reader" 44 6 4 := ⟨_, _, _, _, cf6, by decide, mem_c2 101 rfl rfl⟩
theorem fg_Re_41 : FLG "SinkingChoir$Reader" 41 6 3 := ⟨_, _, _, _, cf6, by decide, mem_c2 100 rfl rfl⟩
theorem fg_Re_28 : FLG "SinkingChoir$Reader" 28 6 2 := ⟨_, _, _, _, cf6, by decide, mem_c2 99 rfl rfl⟩
theorem fg_Re_11 : FLG "SinkingChoir$Reader" 11 6 0 := ⟨_, _, _, _, cf6, by decide, mem_c2 97 rfl rfl⟩
theorem fg_Pr_36 : FLG "SinkingChoir$Program" 36 5 7 := ⟨_, _, _, _, cf5, by decide, mem_c1 91 rfl rfl⟩
theorem fg_Pr_23 : FLG "SinkingChoir$Program" 23 5 3 := ⟨_, _, _, _, cf5, by decide, mem_c1 87 rfl rfl⟩
theorem fg_Pr_26 : FLG "SinkingChoir$Program" 26 5 4 := ⟨_, _, _, _, cf5, by decide, mem_c1 88 rfl rfl⟩
theorem fg_Pr_32 : FLG "SinkingChoir$Program" 32 5 6 := ⟨_, _, _, _, cf5, by decide, mem_c1 90 rfl rfl⟩
theorem fg_Pr_11 : FLG "SinkingChoir$Program" 11 5 0 := ⟨_, _, _, _, cf5, by decide, mem_c1 84 rfl rfl⟩
theorem fg_Pr_17 : FLG "SinkingChoir$Program" 17 5 1 := ⟨_, _, _, _, cf5, by decide, mem_c1 85 rfl rfl⟩
theorem fg_Re_18 : FLG "SinkingChoir$Reader" 18 6 1 := ⟨_, _, _, _, cf6, by decide, mem_c2 98 rfl rfl⟩
theorem fg_Pr_29 : FLG "SinkingChoir$Program" 29 5 5 := ⟨_, _, _, _, cf5, by decide, mem_c1 89 rfl rfl⟩
theorem fg_X_69 : FLG "SinkingChoir" 69 0 7 := ⟨_, _, _, _, cf0, by decide, mem_c2 120 rfl rfl⟩
theorem fg_X_209 : FLG "SinkingChoir" 209 7 0 := ⟨_, _, _, _, cf7, by decide, mem_c2 81 rfl rfl⟩
theorem fg_X_216 : FLG "SinkingChoir" 216 2 8 := ⟨_, _, _, _, cf2, by decide, mem_c1 131 rfl rfl⟩
theorem fg_X_224 : FLG "SinkingChoir" 224 5 7 := ⟨_, _, _, _, cf5, by decide, mem_c1 92 rfl rfl⟩
theorem fg_M_317 : FLG "SinkingChoirModel" 317 1 42 := ⟨_, _, _, _, cf1, by decide, mem_c6 17 rfl rfl⟩
theorem fg_M_311 : FLG "SinkingChoirModel" 311 1 40 := ⟨_, _, _, _, cf1, by decide, mem_c6 15 rfl rfl⟩
theorem fg_M_314 : FLG "SinkingChoirModel" 314 1 41 := ⟨_, _, _, _, cf1, by decide, mem_c6 16 rfl rfl⟩
theorem fg_M_107 : FLG "SinkingChoirModel" 107 1 49 := ⟨_, _, _, _, cf1, by decide, mem_c6 24 rfl rfl⟩
theorem fg_M_327 : FLG "SinkingChoirModel" 327 1 46 := ⟨_, _, _, _, cf1, by decide, mem_c6 21 rfl rfl⟩
theorem fg_M_330 : FLG "SinkingChoirModel" 330 1 45 := ⟨_, _, _, _, cf1, by decide, mem_c6 20 rfl rfl⟩
theorem fg_M_101 : FLG "SinkingChoirModel" 101 1 38 := ⟨_, _, _, _, cf1, by decide, mem_c6 13 rfl rfl⟩
theorem fg_M_324 : FLG "SinkingChoirModel" 324 1 44 := ⟨_, _, _, _, cf1, by decide, mem_c6 19 rfl rfl⟩
theorem fg_M_104 : FLG "SinkingChoirModel" 104 1 39 := ⟨_, _, _, _, cf1, by decide, mem_c6 14 rfl rfl⟩
theorem fg_M_374 : FLG "SinkingChoirModel" 374 1 48 := ⟨_, _, _, _, cf1, by decide, mem_c6 23 rfl rfl⟩
theorem fg_M_396 : FLG "SinkingChoirModel" 396 1 47 := ⟨_, _, _, _, cf1, by decide, mem_c6 22 rfl rfl⟩
theorem fg_M_405 : FLG "SinkingChoirModel" 405 1 43 := ⟨_, _, _, _, cf1, by decide, mem_c6 18 rfl rfl⟩
theorem fg_M_89 : FLG "SinkingChoirModel" 89 1 34 := ⟨_, _, _, _, cf1, by decide, mem_c6 9 rfl rfl⟩
theorem fg_M_92 : FLG "SinkingChoirModel" 92 1 35 := ⟨_, _, _, _, cf1, by decide, mem_c6 10 rfl rfl⟩
theorem fg_M_95 : FLG "SinkingChoirModel" 95 1 36 := ⟨_, _, _, _, cf1, by decide, mem_c6 11 rfl rfl⟩
theorem fg_M_98 : FLG "SinkingChoirModel" 98 1 37 := ⟨_, _, _, _, cf1, by decide, mem_c6 12 rfl rfl⟩
theorem fg_M_416 : FLG "SinkingChoirModel" 416 1 27 := ⟨_, _, _, _, cf1, by decide, mem_c6 2 rfl rfl⟩
theorem fg_M_83 : FLG "SinkingChoirModel" 83 1 32 := ⟨_, _, _, _, cf1, by decide, mem_c6 7 rfl rfl⟩
theorem fg_M_86 : FLG "SinkingChoirModel" 86 1 33 := ⟨_, _, _, _, cf1, by decide, mem_c6 8 rfl rfl⟩
theorem fg_M_71 : FLG "SinkingChoirModel" 71 1 28 := ⟨_, _, _, _, cf1, by decide, mem_c6 3 rfl rfl⟩
theorem fg_M_74 : FLG "SinkingChoirModel" 74 1 29 := ⟨_, _, _, _, cf1, by decide, mem_c6 4 rfl rfl⟩
theorem fg_M_77 : FLG "SinkingChoirModel" 77 1 30 := ⟨_, _, _, _, cf1, by decide, mem_c6 5 rfl rfl⟩
theorem fg_M_80 : FLG "SinkingChoirModel" 80 1 31 := ⟨_, _, _, _, cf1, by decide, mem_c6 6 rfl rfl⟩
theorem fg_Ch_33 : FLG "SinkingChoir$Choir" 33 2 0 := ⟨_, _, _, _, cf2, by decide, mem_c1 110 rfl rfl⟩
theorem fg_Ch_9 : FLG "SinkingChoir$Choir" 9 2 1 := ⟨_, _, _, _, cf2, by decide, mem_c1 111 rfl rfl⟩
theorem fg_Ch_30 : FLG "SinkingChoir$Choir" 30 2 7 := ⟨_, _, _, _, cf2, by decide, mem_c1 127 rfl rfl⟩
theorem fg_Si_46 : FLG "SinkingChoir$Singing" 46 9 1 := ⟨_, _, _, _, cf9, by decide, mem_c1 189 rfl rfl⟩
theorem fg_Si_42 : FLG "SinkingChoir$Singing" 42 9 0 := ⟨_, _, _, _, cf9, by decide, mem_c1 188 rfl rfl⟩
theorem fg_Si_136 : FLG "SinkingChoir$Singing" 136 8 0 := ⟨_, _, _, _, cf8, by decide, mem_c1 41 rfl rfl⟩
theorem fg_Si_133 : FLG "SinkingChoir$Singing" 133 2 1 := ⟨_, _, _, _, cf2, by decide, mem_c1 112 rfl rfl⟩
theorem fg_Si_65 : FLG "SinkingChoir$Singing" 65 9 10 := ⟨_, _, _, _, cf9, by decide, mem_c1 198 rfl rfl⟩
theorem fg_Si_91 : FLG "SinkingChoir$Singing" 91 2 9 := ⟨_, _, _, _, cf2, by decide, mem_c1 134 rfl rfl⟩
theorem fg_Si_15 : FLG "SinkingChoir$Singing" 15 9 3 := ⟨_, _, _, _, cf9, by decide, mem_c1 191 rfl rfl⟩
theorem fg_Si_168 : FLG "SinkingChoir$Singing" 168 2 4 := ⟨_, _, _, _, cf2, by decide, mem_c1 123 rfl rfl⟩
theorem fg_Si_68 : FLG "SinkingChoir$Singing" 68 9 11 := ⟨_, _, _, _, cf9, by decide, mem_c1 199 rfl rfl⟩
theorem fg_Si_28 : FLG "SinkingChoir$Singing" 28 9 4 := ⟨_, _, _, _, cf9, by decide, mem_c1 192 rfl rfl⟩
theorem fg_Si_148 : FLG "SinkingChoir$Singing" 148 2 3 := ⟨_, _, _, _, cf2, by decide, mem_c1 120 rfl rfl⟩
theorem fg_Si_84 : FLG "SinkingChoir$Singing" 84 9 14 := ⟨_, _, _, _, cf9, by decide, mem_c1 202 rfl rfl⟩
theorem fg_Si_75 : FLG "SinkingChoir$Singing" 75 9 13 := ⟨_, _, _, _, cf9, by decide, mem_c1 201 rfl rfl⟩
theorem fg_Pr_20 : FLG "SinkingChoir$Program" 20 5 2 := ⟨_, _, _, _, cf5, by decide, mem_c1 86 rfl rfl⟩
theorem fg_Si_173 : FLG "SinkingChoir$Singing" 173 8 2 := ⟨_, _, _, _, cf8, by decide, mem_c1 45 rfl rfl⟩
theorem fg_Si_64 : FLG "SinkingChoir$Singing" 64 9 9 := ⟨_, _, _, _, cf9, by decide, mem_c1 197 rfl rfl⟩
theorem fg_Si_176 : FLG "SinkingChoir$Singing" 176 2 11 := ⟨_, _, _, _, cf2, by decide, mem_c1 139 rfl rfl⟩
theorem fg_Si_38 : FLG "SinkingChoir$Singing" 38 9 7 := ⟨_, _, _, _, cf9, by decide, mem_c1 195 rfl rfl⟩
theorem fg_Si_35 : FLG "SinkingChoir$Singing" 35 9 6 := ⟨_, _, _, _, cf9, by decide, mem_c1 194 rfl rfl⟩
theorem fg_Si_55 : FLG "SinkingChoir$Singing" 55 9 8 := ⟨_, _, _, _, cf9, by decide, mem_c1 196 rfl rfl⟩
theorem fg_Si_9 : FLG "SinkingChoir$Singing" 9 9 2 := ⟨_, _, _, _, cf9, by decide, mem_c1 190 rfl rfl⟩
theorem fg_Si_115 : FLG "SinkingChoir$Singing" 115 2 8 := ⟨_, _, _, _, cf2, by decide, mem_c1 130 rfl rfl⟩
theorem fg_Si_32 : FLG "SinkingChoir$Singing" 32 9 5 := ⟨_, _, _, _, cf9, by decide, mem_c1 193 rfl rfl⟩
theorem fg_Si_76 : FLG "SinkingChoir$Singing" 76 9 12 := ⟨_, _, _, _, cf9, by decide, mem_c1 200 rfl rfl⟩
theorem fg_Si_72 : FLG "SinkingChoir$Singing" 72 2 10 := ⟨_, _, _, _, cf2, by decide, mem_c1 137 rfl rfl⟩
theorem fg_Si_56 : FLG "SinkingChoir$Singing" 56 2 12 := ⟨_, _, _, _, cf2, by decide, mem_c1 141 rfl rfl⟩
theorem fg_M_302 : FLG "SinkingChoirModel" 302 1 21 := ⟨_, _, _, _, cf1, by decide, mem_c5 236 rfl rfl⟩
theorem fg_M_110 : FLG "SinkingChoirModel" 110 1 50 := ⟨_, _, _, _, cf1, by decide, mem_c6 25 rfl rfl⟩
theorem fg_M_113 : FLG "SinkingChoirModel" 113 1 51 := ⟨_, _, _, _, cf1, by decide, mem_c6 26 rfl rfl⟩
theorem fg_M_420 : FLG "SinkingChoirModel" 420 1 53 := ⟨_, _, _, _, cf1, by decide, mem_c6 28 rfl rfl⟩
theorem fg_M_471 : FLG "SinkingChoirModel" 471 1 66 := ⟨_, _, _, _, cf1, by decide, mem_c6 41 rfl rfl⟩
theorem fg_M_116 : FLG "SinkingChoirModel" 116 1 54 := ⟨_, _, _, _, cf1, by decide, mem_c6 29 rfl rfl⟩
theorem fg_M_131 : FLG "SinkingChoirModel" 131 1 63 := ⟨_, _, _, _, cf1, by decide, mem_c6 38 rfl rfl⟩
theorem fg_M_128 : FLG "SinkingChoirModel" 128 1 62 := ⟨_, _, _, _, cf1, by decide, mem_c6 37 rfl rfl⟩
theorem fg_M_122 : FLG "SinkingChoirModel" 122 1 56 := ⟨_, _, _, _, cf1, by decide, mem_c6 31 rfl rfl⟩
theorem fg_M_426 : FLG "SinkingChoirModel" 426 1 59 := ⟨_, _, _, _, cf1, by decide, mem_c6 34 rfl rfl⟩
theorem fg_M_429 : FLG "SinkingChoirModel" 429 1 60 := ⟨_, _, _, _, cf1, by decide, mem_c6 35 rfl rfl⟩
theorem fg_M_450 : FLG "SinkingChoirModel" 450 1 58 := ⟨_, _, _, _, cf1, by decide, mem_c6 33 rfl rfl⟩
theorem fg_M_119 : FLG "SinkingChoirModel" 119 1 55 := ⟨_, _, _, _, cf1, by decide, mem_c6 30 rfl rfl⟩
theorem fg_M_477 : FLG "SinkingChoirModel" 477 1 67 := ⟨_, _, _, _, cf1, by decide, mem_c6 42 rfl rfl⟩
theorem fg_M_125 : FLG "SinkingChoirModel" 125 1 57 := ⟨_, _, _, _, cf1, by decide, mem_c6 32 rfl rfl⟩
theorem fg_M_474 : FLG "SinkingChoirModel" 474 1 64 := ⟨_, _, _, _, cf1, by decide, mem_c6 39 rfl rfl⟩
theorem fg_M_480 : FLG "SinkingChoirModel" 480 1 65 := ⟨_, _, _, _, cf1, by decide, mem_c6 40 rfl rfl⟩
theorem fg_M_490 : FLG "SinkingChoirModel" 490 1 61 := ⟨_, _, _, _, cf1, by decide, mem_c6 36 rfl rfl⟩
theorem fg_M_52 : FLG "SinkingChoirModel" 52 1 19 := ⟨_, _, _, _, cf1, by decide, mem_c5 234 rfl rfl⟩
theorem fg_M_297 : FLG "SinkingChoirModel" 297 1 20 := ⟨_, _, _, _, cf1, by decide, mem_c5 235 rfl rfl⟩
theorem fg_M_497 : FLG "SinkingChoirModel" 497 1 52 := ⟨_, _, _, _, cf1, by decide, mem_c6 27 rfl rfl⟩
theorem fg_Ch_87 : FLG "SinkingChoir$Choir" 87 8 0 := ⟨_, _, _, _, cf8, by decide, mem_c1 42 rfl rfl⟩
theorem fg_Ch_93 : FLG "SinkingChoir$Choir" 93 8 2 := ⟨_, _, _, _, cf8, by decide, mem_c1 46 rfl rfl⟩
theorem fg_St_9 : FLG "SinkingChoir$Standing" 9 10 2 := ⟨_, _, _, _, cf10, by decide, mem_c2 5 rfl rfl⟩
theorem fg_St_18 : FLG "SinkingChoir$Standing" 18 10 0 := ⟨_, _, _, _, cf10, by decide, mem_c2 3 rfl rfl⟩
theorem fg_St_75 : FLG "SinkingChoir$Standing" 75 2 9 := ⟨_, _, _, _, cf2, by decide, mem_c1 133 rfl rfl⟩
theorem fg_St_26 : FLG "SinkingChoir$Standing" 26 10 6 := ⟨_, _, _, _, cf10, by decide, mem_c2 12 rfl rfl⟩
theorem fg_St_30 : FLG "SinkingChoir$Standing" 30 2 2 := ⟨_, _, _, _, cf2, by decide, mem_c1 116 rfl rfl⟩
theorem fg_St_22 : FLG "SinkingChoir$Standing" 22 10 1 := ⟨_, _, _, _, cf10, by decide, mem_c2 4 rfl rfl⟩
theorem fg_St_43 : FLG "SinkingChoir$Standing" 43 2 12 := ⟨_, _, _, _, cf2, by decide, mem_c1 142 rfl rfl⟩
theorem fg_St_62 : FLG "SinkingChoir$Standing" 62 10 4 := ⟨_, _, _, _, cf10, by decide, mem_c2 8 rfl rfl⟩
theorem fg_St_15 : FLG "SinkingChoir$Standing" 15 10 3 := ⟨_, _, _, _, cf10, by decide, mem_c2 6 rfl rfl⟩
theorem fg_St_68 : FLG "SinkingChoir$Standing" 68 10 5 := ⟨_, _, _, _, cf10, by decide, mem_c2 10 rfl rfl⟩
theorem fg_X_39 : FLG "SinkingChoir" 39 0 3 := ⟨_, _, _, _, cf0, by decide, mem_c2 116 rfl rfl⟩
theorem fg_X_285 : FLG "SinkingChoir" 285 10 3 := ⟨_, _, _, _, cf10, by decide, mem_c2 7 rfl rfl⟩
theorem fg_X_283 : FLG "SinkingChoir" 283 10 5 := ⟨_, _, _, _, cf10, by decide, mem_c2 11 rfl rfl⟩
theorem fg_X_280 : FLG "SinkingChoir" 280 10 4 := ⟨_, _, _, _, cf10, by decide, mem_c2 9 rfl rfl⟩
theorem fg_M_134 : FLG "SinkingChoirModel" 134 1 68 := ⟨_, _, _, _, cf1, by decide, mem_c6 43 rfl rfl⟩
theorem fg_Le_19 : FLG "SinkingChoir$Leading" 19 4 1 := ⟨_, _, _, _, cf4, by decide, mem_c2 35 rfl rfl⟩
theorem fg_Le_9 : FLG "SinkingChoir$Leading" 9 4 2 := ⟨_, _, _, _, cf4, by decide, mem_c2 36 rfl rfl⟩
theorem fg_Le_54 : FLG "SinkingChoir$Leading" 54 4 4 := ⟨_, _, _, _, cf4, by decide, mem_c2 39 rfl rfl⟩
theorem fg_Le_15 : FLG "SinkingChoir$Leading" 15 4 0 := ⟨_, _, _, _, cf4, by decide, mem_c2 34 rfl rfl⟩
theorem fg_Le_32 : FLG "SinkingChoir$Leading" 32 2 2 := ⟨_, _, _, _, cf2, by decide, mem_c1 117 rfl rfl⟩
theorem fg_X_46 : FLG "SinkingChoir" 46 0 4 := ⟨_, _, _, _, cf0, by decide, mem_c2 117 rfl rfl⟩
theorem fg_X_294 : FLG "SinkingChoir" 294 4 4 := ⟨_, _, _, _, cf4, by decide, mem_c2 40 rfl rfl⟩
theorem fg_X_291 : FLG "SinkingChoir" 291 4 3 := ⟨_, _, _, _, cf4, by decide, mem_c2 38 rfl rfl⟩
theorem fg_X_196 : FLG "SinkingChoir" 196 2 12 := ⟨_, _, _, _, cf2, by decide, mem_c1 143 rfl rfl⟩
theorem fg_Ch_24 : FLG "SinkingChoir$Choir" 24 2 5 := ⟨_, _, _, _, cf2, by decide, mem_c1 125 rfl rfl⟩
theorem fg_Ch_27 : FLG "SinkingChoir$Choir" 27 2 6 := ⟨_, _, _, _, cf2, by decide, mem_c1 126 rfl rfl⟩
theorem fg_M_137 : FLG "SinkingChoirModel" 137 1 69 := ⟨_, _, _, _, cf1, by decide, mem_c6 44 rfl rfl⟩
theorem fg_Fi_19 : FLG "SinkingChoir$Fitting" 19 3 1 := ⟨_, _, _, _, cf3, by decide, mem_c2 59 rfl rfl⟩
theorem fg_Fi_23 : FLG "SinkingChoir$Fitting" 23 3 2 := ⟨_, _, _, _, cf3, by decide, mem_c2 60 rfl rfl⟩
theorem fg_Fi_11 : FLG "SinkingChoir$Fitting" 11 3 3 := ⟨_, _, _, _, cf3, by decide, mem_c2 61 rfl rfl⟩
theorem fg_Fi_43 : FLG "SinkingChoir$Fitting" 43 3 4 := ⟨_, _, _, _, cf3, by decide, mem_c2 62 rfl rfl⟩
theorem fg_X_55 : FLG "SinkingChoir" 55 0 5 := ⟨_, _, _, _, cf0, by decide, mem_c2 118 rfl rfl⟩
theorem fg_X_187 : FLG "SinkingChoir" 187 2 10 := ⟨_, _, _, _, cf2, by decide, mem_c1 138 rfl rfl⟩
theorem fg_X_192 : FLG "SinkingChoir" 192 2 11 := ⟨_, _, _, _, cf2, by decide, mem_c1 140 rfl rfl⟩
theorem fp_Sc_9 : FLP "SinkingChoir$Score" 9 8 0 true := ⟨_, _, _, _, cf8, by decide, mem_c1 40 rfl rfl, rfl, fun _ => rfl⟩
theorem fp_Sc_15 : FLP "SinkingChoir$Score" 15 8 1 true := ⟨_, _, _, _, cf8, by decide, mem_c1 43 rfl rfl, rfl, fun _ => rfl⟩
theorem fp_Sc_18 : FLP "SinkingChoir$Score" 18 8 2 true := ⟨_, _, _, _, cf8, by decide, mem_c1 44 rfl rfl, rfl, fun _ => rfl⟩
theorem fp_Sc_21 : FLP "SinkingChoir$Score" 21 8 3 true := ⟨_, _, _, _, cf8, by decide, mem_c1 47 rfl rfl, rfl, fun _ => rfl⟩
theorem fp_Sc_24 : FLP "SinkingChoir$Score" 24 8 4 true := ⟨_, _, _, _, cf8, by decide, mem_c1 49 rfl rfl, rfl, fun _ => rfl⟩
theorem fp_Sc_27 : FLP "SinkingChoir$Score" 27 8 5 true := ⟨_, _, _, _, cf8, by decide, mem_c1 52 rfl rfl, rfl, fun _ => rfl⟩
theorem fp_Sc_30 : FLP "SinkingChoir$Score" 30 8 6 true := ⟨_, _, _, _, cf8, by decide, mem_c1 54 rfl rfl, rfl, fun _ => rfl⟩
theorem fp_Pr_11 : FLP "SinkingChoir$Program" 11 5 0 true := ⟨_, _, _, _, cf5, by decide, mem_c1 84 rfl rfl, rfl, fun _ => rfl⟩
theorem fp_Pr_17 : FLP "SinkingChoir$Program" 17 5 1 true := ⟨_, _, _, _, cf5, by decide, mem_c1 85 rfl rfl, rfl, fun _ => rfl⟩
theorem fp_Pr_20 : FLP "SinkingChoir$Program" 20 5 2 true := ⟨_, _, _, _, cf5, by decide, mem_c1 86 rfl rfl, rfl, fun _ => rfl⟩
theorem fp_Pr_23 : FLP "SinkingChoir$Program" 23 5 3 true := ⟨_, _, _, _, cf5, by decide, mem_c1 87 rfl rfl, rfl, fun _ => rfl⟩
theorem fp_Pr_26 : FLP "SinkingChoir$Program" 26 5 4 true := ⟨_, _, _, _, cf5, by decide, mem_c1 88 rfl rfl, rfl, fun _ => rfl⟩
theorem fp_Pr_29 : FLP "SinkingChoir$Program" 29 5 5 true := ⟨_, _, _, _, cf5, by decide, mem_c1 89 rfl rfl, rfl, fun _ => rfl⟩
theorem fp_Ch_9 : FLP "SinkingChoir$Choir" 9 2 1 true := ⟨_, _, _, _, cf2, by decide, mem_c1 111 rfl rfl, rfl, fun _ => rfl⟩
theorem fp_Ch_15 : FLP "SinkingChoir$Choir" 15 2 2 true := ⟨_, _, _, _, cf2, by decide, mem_c1 114 rfl rfl, rfl, fun _ => rfl⟩
theorem fp_Ch_18 : FLP "SinkingChoir$Choir" 18 2 3 true := ⟨_, _, _, _, cf2, by decide, mem_c1 119 rfl rfl, rfl, fun _ => rfl⟩
theorem fp_Ch_21 : FLP "SinkingChoir$Choir" 21 2 4 true := ⟨_, _, _, _, cf2, by decide, mem_c1 122 rfl rfl, rfl, fun _ => rfl⟩
theorem fp_Ch_24 : FLP "SinkingChoir$Choir" 24 2 5 true := ⟨_, _, _, _, cf2, by decide, mem_c1 125 rfl rfl, rfl, fun _ => rfl⟩
theorem fp_Ch_27 : FLP "SinkingChoir$Choir" 27 2 6 true := ⟨_, _, _, _, cf2, by decide, mem_c1 126 rfl rfl, rfl, fun _ => rfl⟩
theorem fp_Ch_30 : FLP "SinkingChoir$Choir" 30 2 7 true := ⟨_, _, _, _, cf2, by decide, mem_c1 127 rfl rfl, rfl, fun _ => rfl⟩
theorem fp_Ch_33 : FLP "SinkingChoir$Choir" 33 2 0 true := ⟨_, _, _, _, cf2, by decide, mem_c1 110 rfl rfl, rfl, fun _ => rfl⟩
theorem fp_Ch_40 : FLP "SinkingChoir$Choir" 40 2 8 false := ⟨_, _, _, _, cf2, by decide, mem_c1 129 rfl rfl, rfl, fun z => nomatch z⟩
theorem fp_Ch_44 : FLP "SinkingChoir$Choir" 44 2 10 false := ⟨_, _, _, _, cf2, by decide, mem_c1 136 rfl rfl, rfl, fun z => nomatch z⟩
theorem fp_Si_9 : FLP "SinkingChoir$Singing" 9 9 2 true := ⟨_, _, _, _, cf9, by decide, mem_c1 190 rfl rfl, rfl, fun _ => rfl⟩
theorem fp_Si_15 : FLP "SinkingChoir$Singing" 15 9 3 true := ⟨_, _, _, _, cf9, by decide, mem_c1 191 rfl rfl, rfl, fun _ => rfl⟩
theorem fp_Si_28 : FLP "SinkingChoir$Singing" 28 9 4 true := ⟨_, _, _, _, cf9, by decide, mem_c1 192 rfl rfl, rfl, fun _ => rfl⟩
theorem fp_Si_32 : FLP "SinkingChoir$Singing" 32 9 5 true := ⟨_, _, _, _, cf9, by decide, mem_c1 193 rfl rfl, rfl, fun _ => rfl⟩
theorem fp_Si_35 : FLP "SinkingChoir$Singing" 35 9 6 true := ⟨_, _, _, _, cf9, by decide, mem_c1 194 rfl rfl, rfl, fun _ => rfl⟩
theorem fp_Si_38 : FLP "SinkingChoir$Singing" 38 9 7 true := ⟨_, _, _, _, cf9, by decide, mem_c1 195 rfl rfl, rfl, fun _ => rfl⟩
theorem fp_Si_42 : FLP "SinkingChoir$Singing" 42 9 0 true := ⟨_, _, _, _, cf9, by decide, mem_c1 188 rfl rfl, rfl, fun _ => rfl⟩
theorem fp_Si_46 : FLP "SinkingChoir$Singing" 46 9 1 true := ⟨_, _, _, _, cf9, by decide, mem_c1 189 rfl rfl, rfl, fun _ => rfl⟩
theorem fp_Si_55 : FLP "SinkingChoir$Singing" 55 9 8 false := ⟨_, _, _, _, cf9, by decide, mem_c1 196 rfl rfl, rfl, fun z => nomatch z⟩
theorem fp_St_9 : FLP "SinkingChoir$Standing" 9 10 2 true := ⟨_, _, _, _, cf10, by decide, mem_c2 5 rfl rfl, rfl, fun _ => rfl⟩
theorem fp_St_15 : FLP "SinkingChoir$Standing" 15 10 3 true := ⟨_, _, _, _, cf10, by decide, mem_c2 6 rfl rfl, rfl, fun _ => rfl⟩
theorem fp_St_18 : FLP "SinkingChoir$Standing" 18 10 0 true := ⟨_, _, _, _, cf10, by decide, mem_c2 3 rfl rfl, rfl, fun _ => rfl⟩
theorem fp_St_22 : FLP "SinkingChoir$Standing" 22 10 1 true := ⟨_, _, _, _, cf10, by decide, mem_c2 4 rfl rfl, rfl, fun _ => rfl⟩
theorem fp_St_26 : FLP "SinkingChoir$Standing" 26 10 6 false := ⟨_, _, _, _, cf10, by decide, mem_c2 12 rfl rfl, rfl, fun z => nomatch z⟩
theorem fp_Le_9 : FLP "SinkingChoir$Leading" 9 4 2 true := ⟨_, _, _, _, cf4, by decide, mem_c2 36 rfl rfl, rfl, fun _ => rfl⟩
theorem fp_Le_15 : FLP "SinkingChoir$Leading" 15 4 0 true := ⟨_, _, _, _, cf4, by decide, mem_c2 34 rfl rfl, rfl, fun _ => rfl⟩
theorem fp_Le_19 : FLP "SinkingChoir$Leading" 19 4 1 true := ⟨_, _, _, _, cf4, by decide, mem_c2 35 rfl rfl, rfl, fun _ => rfl⟩
theorem fp_Fi_11 : FLP "SinkingChoir$Fitting" 11 3 3 true := ⟨_, _, _, _, cf3, by decide, mem_c2 61 rfl rfl, rfl, fun _ => rfl⟩
theorem fp_Fi_15 : FLP "SinkingChoir$Fitting" 15 3 0 true := ⟨_, _, _, _, cf3, by decide, mem_c2 58 rfl rfl, rfl, fun _ => rfl⟩
theorem fp_Fi_19 : FLP "SinkingChoir$Fitting" 19 3 1 true := ⟨_, _, _, _, cf3, by decide, mem_c2 59 rfl rfl, rfl, fun _ => rfl⟩
theorem fp_Fi_23 : FLP "SinkingChoir$Fitting" 23 3 2 true := ⟨_, _, _, _, cf3, by decide, mem_c2 60 rfl rfl, rfl, fun _ => rfl⟩
theorem fp_Rl_9 : FLP "SinkingChoir$Reel" 9 7 0 true := ⟨_, _, _, _, cf7, by decide, mem_c2 80 rfl rfl, rfl, fun _ => rfl⟩
theorem fp_Re_11 : FLP "SinkingChoir$Reader" 11 6 0 true := ⟨_, _, _, _, cf6, by decide, mem_c2 97 rfl rfl, rfl, fun _ => rfl⟩
theorem fp_Re_18 : FLP "SinkingChoir$Reader" 18 6 1 false := ⟨_, _, _, _, cf6, by decide, mem_c2 98 rfl rfl, rfl, fun z => nomatch z⟩
theorem fp_X_10 : FLP "SinkingChoir" 10 0 0 true := ⟨_, _, _, _, cf0, by decide, mem_c2 113 rfl rfl, rfl, fun _ => rfl⟩
theorem fp_X_21 : FLP "SinkingChoir" 21 0 1 true := ⟨_, _, _, _, cf0, by decide, mem_c2 114 rfl rfl, rfl, fun _ => rfl⟩
theorem fp_X_30 : FLP "SinkingChoir" 30 0 2 true := ⟨_, _, _, _, cf0, by decide, mem_c2 115 rfl rfl, rfl, fun _ => rfl⟩
theorem fp_X_39 : FLP "SinkingChoir" 39 0 3 true := ⟨_, _, _, _, cf0, by decide, mem_c2 116 rfl rfl, rfl, fun _ => rfl⟩
theorem fp_X_46 : FLP "SinkingChoir" 46 0 4 true := ⟨_, _, _, _, cf0, by decide, mem_c2 117 rfl rfl, rfl, fun _ => rfl⟩
theorem fp_X_55 : FLP "SinkingChoir" 55 0 5 true := ⟨_, _, _, _, cf0, by decide, mem_c2 118 rfl rfl, rfl, fun _ => rfl⟩
theorem fp_X_62 : FLP "SinkingChoir" 62 0 6 true := ⟨_, _, _, _, cf0, by decide, mem_c2 119 rfl rfl, rfl, fun _ => rfl⟩
theorem fp_X_69 : FLP "SinkingChoir" 69 0 7 true := ⟨_, _, _, _, cf0, by decide, mem_c2 120 rfl rfl, rfl, fun _ => rfl⟩
theorem fp_M_7 : FLP "SinkingChoirModel" 7 1 0 true := ⟨_, _, _, _, cf1, by decide, mem_c5 215 rfl rfl, rfl, fun _ => rfl⟩
theorem fp_M_13 : FLP "SinkingChoirModel" 13 1 2 true := ⟨_, _, _, _, cf1, by decide, mem_c5 217 rfl rfl, rfl, fun _ => rfl⟩
theorem fp_M_17 : FLP "SinkingChoirModel" 17 1 3 true := ⟨_, _, _, _, cf1, by decide, mem_c5 218 rfl rfl, rfl, fun _ => rfl⟩
theorem fp_M_20 : FLP "SinkingChoirModel" 20 1 4 true := ⟨_, _, _, _, cf1, by decide, mem_c5 219 rfl rfl, rfl, fun _ => rfl⟩
theorem fp_M_23 : FLP "SinkingChoirModel" 23 1 5 true := ⟨_, _, _, _, cf1, by decide, mem_c5 220 rfl rfl, rfl, fun _ => rfl⟩
theorem fp_M_26 : FLP "SinkingChoirModel" 26 1 6 true := ⟨_, _, _, _, cf1, by decide, mem_c5 221 rfl rfl, rfl, fun _ => rfl⟩
theorem fp_M_30 : FLP "SinkingChoirModel" 30 1 7 true := ⟨_, _, _, _, cf1, by decide, mem_c5 222 rfl rfl, rfl, fun _ => rfl⟩
theorem fp_M_33 : FLP "SinkingChoirModel" 33 1 11 true := ⟨_, _, _, _, cf1, by decide, mem_c5 226 rfl rfl, rfl, fun _ => rfl⟩
theorem fp_M_36 : FLP "SinkingChoirModel" 36 1 12 true := ⟨_, _, _, _, cf1, by decide, mem_c5 227 rfl rfl, rfl, fun _ => rfl⟩
theorem fp_M_39 : FLP "SinkingChoirModel" 39 1 13 true := ⟨_, _, _, _, cf1, by decide, mem_c5 228 rfl rfl, rfl, fun _ => rfl⟩
theorem fp_M_42 : FLP "SinkingChoirModel" 42 1 14 true := ⟨_, _, _, _, cf1, by decide, mem_c5 229 rfl rfl, rfl, fun _ => rfl⟩
theorem fp_M_45 : FLP "SinkingChoirModel" 45 1 15 true := ⟨_, _, _, _, cf1, by decide, mem_c5 230 rfl rfl, rfl, fun _ => rfl⟩
theorem fp_M_49 : FLP "SinkingChoirModel" 49 1 16 true := ⟨_, _, _, _, cf1, by decide, mem_c5 231 rfl rfl, rfl, fun _ => rfl⟩
theorem fp_M_52 : FLP "SinkingChoirModel" 52 1 19 false := ⟨_, _, _, _, cf1, by decide, mem_c5 234 rfl rfl, rfl, fun z => nomatch z⟩
theorem fp_M_56 : FLP "SinkingChoirModel" 56 1 22 true := ⟨_, _, _, _, cf1, by decide, mem_c5 237 rfl rfl, rfl, fun _ => rfl⟩
theorem fp_M_59 : FLP "SinkingChoirModel" 59 1 23 true := ⟨_, _, _, _, cf1, by decide, mem_c5 238 rfl rfl, rfl, fun _ => rfl⟩
theorem fp_M_62 : FLP "SinkingChoirModel" 62 1 24 true := ⟨_, _, _, _, cf1, by decide, mem_c5 239 rfl rfl, rfl, fun _ => rfl⟩
theorem fp_M_65 : FLP "SinkingChoirModel" 65 1 25 true := ⟨_, _, _, _, cf1, by decide, mem_c6 0 rfl rfl, rfl, fun _ => rfl⟩
theorem fp_M_68 : FLP "SinkingChoirModel" 68 1 26 true := ⟨_, _, _, _, cf1, by decide, mem_c6 1 rfl rfl, rfl, fun _ => rfl⟩
theorem fp_M_71 : FLP "SinkingChoirModel" 71 1 28 true := ⟨_, _, _, _, cf1, by decide, mem_c6 3 rfl rfl, rfl, fun _ => rfl⟩
theorem fp_M_74 : FLP "SinkingChoirModel" 74 1 29 true := ⟨_, _, _, _, cf1, by decide, mem_c6 4 rfl rfl, rfl, fun _ => rfl⟩
theorem fp_M_77 : FLP "SinkingChoirModel" 77 1 30 true := ⟨_, _, _, _, cf1, by decide, mem_c6 5 rfl rfl, rfl, fun _ => rfl⟩
theorem fp_M_80 : FLP "SinkingChoirModel" 80 1 31 true := ⟨_, _, _, _, cf1, by decide, mem_c6 6 rfl rfl, rfl, fun _ => rfl⟩
theorem fp_M_83 : FLP "SinkingChoirModel" 83 1 32 true := ⟨_, _, _, _, cf1, by decide, mem_c6 7 rfl rfl, rfl, fun _ => rfl⟩
theorem fp_M_86 : FLP "SinkingChoirModel" 86 1 33 true := ⟨_, _, _, _, cf1, by decide, mem_c6 8 rfl rfl, rfl, fun _ => rfl⟩
theorem fp_M_89 : FLP "SinkingChoirModel" 89 1 34 true := ⟨_, _, _, _, cf1, by decide, mem_c6 9 rfl rfl, rfl, fun _ => rfl⟩
theorem fp_M_92 : FLP "SinkingChoirModel" 92 1 35 true := ⟨_, _, _, _, cf1, by decide, mem_c6 10 rfl rfl, rfl, fun _ => rfl⟩
theorem fp_M_95 : FLP "SinkingChoirModel" 95 1 36 true := ⟨_, _, _, _, cf1, by decide, mem_c6 11 rfl rfl, rfl, fun _ => rfl⟩
theorem fp_M_98 : FLP "SinkingChoirModel" 98 1 37 true := ⟨_, _, _, _, cf1, by decide, mem_c6 12 rfl rfl, rfl, fun _ => rfl⟩
theorem fp_M_101 : FLP "SinkingChoirModel" 101 1 38 true := ⟨_, _, _, _, cf1, by decide, mem_c6 13 rfl rfl, rfl, fun _ => rfl⟩
theorem fp_M_104 : FLP "SinkingChoirModel" 104 1 39 true := ⟨_, _, _, _, cf1, by decide, mem_c6 14 rfl rfl, rfl, fun _ => rfl⟩
theorem fp_M_107 : FLP "SinkingChoirModel" 107 1 49 true := ⟨_, _, _, _, cf1, by decide, mem_c6 24 rfl rfl, rfl, fun _ => rfl⟩
theorem fp_M_110 : FLP "SinkingChoirModel" 110 1 50 true := ⟨_, _, _, _, cf1, by decide, mem_c6 25 rfl rfl, rfl, fun _ => rfl⟩
theorem fp_M_113 : FLP "SinkingChoirModel" 113 1 51 true := ⟨_, _, _, _, cf1, by decide, mem_c6 26 rfl rfl, rfl, fun _ => rfl⟩
theorem fp_M_116 : FLP "SinkingChoirModel" 116 1 54 true := ⟨_, _, _, _, cf1, by decide, mem_c6 29 rfl rfl, rfl, fun _ => rfl⟩
theorem fp_M_119 : FLP "SinkingChoirModel" 119 1 55 true := ⟨_, _, _, _, cf1, by decide, mem_c6 30 rfl rfl, rfl, fun _ => rfl⟩
theorem fp_M_122 : FLP "SinkingChoirModel" 122 1 56 true := ⟨_, _, _, _, cf1, by decide, mem_c6 31 rfl rfl, rfl, fun _ => rfl⟩
theorem fp_M_125 : FLP "SinkingChoirModel" 125 1 57 true := ⟨_, _, _, _, cf1, by decide, mem_c6 32 rfl rfl, rfl, fun _ => rfl⟩
theorem fp_M_128 : FLP "SinkingChoirModel" 128 1 62 true := ⟨_, _, _, _, cf1, by decide, mem_c6 37 rfl rfl, rfl, fun _ => rfl⟩
theorem fp_M_131 : FLP "SinkingChoirModel" 131 1 63 true := ⟨_, _, _, _, cf1, by decide, mem_c6 38 rfl rfl, rfl, fun _ => rfl⟩
theorem fp_M_134 : FLP "SinkingChoirModel" 134 1 68 true := ⟨_, _, _, _, cf1, by decide, mem_c6 43 rfl rfl, rfl, fun _ => rfl⟩
theorem fp_M_137 : FLP "SinkingChoirModel" 137 1 69 true := ⟨_, _, _, _, cf1, by decide, mem_c6 44 rfl rfl, rfl, fun _ => rfl⟩
theorem fp_M_140 : FLP "SinkingChoirModel" 140 1 70 true := ⟨_, _, _, _, cf1, by decide, mem_c6 45 rfl rfl, rfl, fun _ => rfl⟩
theorem fp_X_274 : FLP "SinkingChoir" 274 0 9 false := ⟨_, _, _, _, cf0, by decide, mem_c2 122 rfl rfl, rfl, fun z => nomatch z⟩
theorem fp_M_202 : FLP "SinkingChoirModel" 202 1 8 false := ⟨_, _, _, _, cf1, by decide, mem_c5 223 rfl rfl, rfl, fun z => nomatch z⟩
theorem fp_M_205 : FLP "SinkingChoirModel" 205 1 9 false := ⟨_, _, _, _, cf1, by decide, mem_c5 224 rfl rfl, rfl, fun z => nomatch z⟩
theorem fp_M_208 : FLP "SinkingChoirModel" 208 1 10 false := ⟨_, _, _, _, cf1, by decide, mem_c5 225 rfl rfl, rfl, fun z => nomatch z⟩
theorem fp_Wa_13 : FLP "SinkingChoir$Ways" 13 11 1 true := ⟨_, _, _, _, cf11, by decide, mem_c3 57 rfl rfl, rfl, fun _ => rfl⟩
theorem fp_Wa_17 : FLP "SinkingChoir$Ways" 17 11 2 true := ⟨_, _, _, _, cf11, by decide, mem_c3 58 rfl rfl, rfl, fun _ => rfl⟩
theorem fp_Wa_20 : FLP "SinkingChoir$Ways" 20 11 3 true := ⟨_, _, _, _, cf11, by decide, mem_c3 59 rfl rfl, rfl, fun _ => rfl⟩
theorem fp_Wa_23 : FLP "SinkingChoir$Ways" 23 11 4 true := ⟨_, _, _, _, cf11, by decide, mem_c3 60 rfl rfl, rfl, fun _ => rfl⟩
theorem fp_Wa_26 : FLP "SinkingChoir$Ways" 26 11 5 true := ⟨_, _, _, _, cf11, by decide, mem_c3 61 rfl rfl, rfl, fun _ => rfl⟩
theorem fp_Wa_29 : FLP "SinkingChoir$Ways" 29 11 6 true := ⟨_, _, _, _, cf11, by decide, mem_c3 62 rfl rfl, rfl, fun _ => rfl⟩
theorem fp_Wa_32 : FLP "SinkingChoir$Ways" 32 11 7 true := ⟨_, _, _, _, cf11, by decide, mem_c3 63 rfl rfl, rfl, fun _ => rfl⟩
theorem fp_Wa_35 : FLP "SinkingChoir$Ways" 35 11 0 true := ⟨_, _, _, _, cf11, by decide, mem_c3 56 rfl rfl, rfl, fun _ => rfl⟩
theorem fp_Wa_45 : FLP "SinkingChoir$Ways" 45 11 9 false := ⟨_, _, _, _, cf11, by decide, mem_c3 65 rfl rfl, rfl, fun z => nomatch z⟩
theorem fp_X_332 : FLP "SinkingChoir" 332 0 8 false := ⟨_, _, _, _, cf0, by decide, mem_c2 121 rfl rfl, rfl, fun z => nomatch z⟩
theorem fp_Wa_101 : FLP "SinkingChoir$Ways" 101 11 8 false := ⟨_, _, _, _, cf11, by decide, mem_c3 64 rfl rfl, rfl, fun z => nomatch z⟩
theorem fp_M_261 : FLP "SinkingChoirModel" 261 1 17 false := ⟨_, _, _, _, cf1, by decide, mem_c5 232 rfl rfl, rfl, fun z => nomatch z⟩
theorem fp_X_163 : FLP "SinkingChoir" 163 2 9 false := ⟨_, _, _, _, cf2, by decide, mem_c1 135 rfl rfl, rfl, fun z => nomatch z⟩
theorem fp_M_275 : FLP "SinkingChoirModel" 275 1 18 false := ⟨_, _, _, _, cf1, by decide, mem_c5 233 rfl rfl, rfl, fun z => nomatch z⟩
theorem fp_X_187 : FLP "SinkingChoir" 187 2 10 false := ⟨_, _, _, _, cf2, by decide, mem_c1 138 rfl rfl, rfl, fun z => nomatch z⟩
theorem fp_X_192 : FLP "SinkingChoir" 192 2 11 false := ⟨_, _, _, _, cf2, by decide, mem_c1 140 rfl rfl, rfl, fun z => nomatch z⟩
theorem fp_M_297 : FLP "SinkingChoirModel" 297 1 20 false := ⟨_, _, _, _, cf1, by decide, mem_c5 235 rfl rfl, rfl, fun z => nomatch z⟩
theorem fp_X_196 : FLP "SinkingChoir" 196 2 12 false := ⟨_, _, _, _, cf2, by decide, mem_c1 143 rfl rfl, rfl, fun z => nomatch z⟩
theorem fp_M_302 : FLP "SinkingChoirModel" 302 1 21 false := ⟨_, _, _, _, cf1, by decide, mem_c5 236 rfl rfl, rfl, fun z => nomatch z⟩
theorem fp_Rl_13 : FLP "SinkingChoir$Reel" 13 7 1 false := ⟨_, _, _, _, cf7, by decide, mem_c2 82 rfl rfl, rfl, fun z => nomatch z⟩
theorem fp_M_305 : FLP "SinkingChoirModel" 305 1 1 false := ⟨_, _, _, _, cf1, by decide, mem_c5 216 rfl rfl, rfl, fun z => nomatch z⟩
theorem fp_Pr_32 : FLP "SinkingChoir$Program" 32 5 6 false := ⟨_, _, _, _, cf5, by decide, mem_c1 90 rfl rfl, rfl, fun z => nomatch z⟩
theorem fp_Pr_36 : FLP "SinkingChoir$Program" 36 5 7 false := ⟨_, _, _, _, cf5, by decide, mem_c1 91 rfl rfl, rfl, fun z => nomatch z⟩
theorem fp_Re_44 : FLP "SinkingChoir$Reader" 44 6 4 false := ⟨_, _, _, _, cf6, by decide, mem_c2 101 rfl rfl, rfl, fun z => nomatch z⟩
theorem fp_Re_41 : FLP "SinkingChoir$Reader" 41 6 3 false := ⟨_, _, _, _, cf6, by decide, mem_c2 100 rfl rfl, rfl, fun z => nomatch z⟩
theorem fp_Re_28 : FLP "SinkingChoir$Reader" 28 6 2 false := ⟨_, _, _, _, cf6, by decide, mem_c2 99 rfl rfl, rfl, fun z => nomatch z⟩
theorem fp_X_206 : FLP "SinkingChoir" 206 7 1 false := ⟨_, _, _, _, cf7, by decide, mem_c2 83 rfl rfl, rfl, fun z => nomatch z⟩
theorem fp_X_216 : FLP "SinkingChoir" 216 2 8 false := ⟨_, _, _, _, cf2, by decide, mem_c1 131 rfl rfl, rfl, fun z => nomatch z⟩
theorem fp_M_317 : FLP "SinkingChoirModel" 317 1 42 false := ⟨_, _, _, _, cf1, by decide, mem_c6 17 rfl rfl, rfl, fun z => nomatch z⟩
theorem fp_M_327 : FLP "SinkingChoirModel" 327 1 46 false := ⟨_, _, _, _, cf1, by decide, mem_c6 21 rfl rfl, rfl, fun z => nomatch z⟩
theorem fp_M_311 : FLP "SinkingChoirModel" 311 1 40 false := ⟨_, _, _, _, cf1, by decide, mem_c6 15 rfl rfl, rfl, fun z => nomatch z⟩
theorem fp_M_330 : FLP "SinkingChoirModel" 330 1 45 false := ⟨_, _, _, _, cf1, by decide, mem_c6 20 rfl rfl, rfl, fun z => nomatch z⟩
theorem fp_M_324 : FLP "SinkingChoirModel" 324 1 44 false := ⟨_, _, _, _, cf1, by decide, mem_c6 19 rfl rfl, rfl, fun z => nomatch z⟩
theorem fp_M_374 : FLP "SinkingChoirModel" 374 1 48 false := ⟨_, _, _, _, cf1, by decide, mem_c6 23 rfl rfl, rfl, fun z => nomatch z⟩
theorem fp_M_396 : FLP "SinkingChoirModel" 396 1 47 false := ⟨_, _, _, _, cf1, by decide, mem_c6 22 rfl rfl, rfl, fun z => nomatch z⟩
theorem fp_M_405 : FLP "SinkingChoirModel" 405 1 43 false := ⟨_, _, _, _, cf1, by decide, mem_c6 18 rfl rfl, rfl, fun z => nomatch z⟩
theorem fp_M_314 : FLP "SinkingChoirModel" 314 1 41 false := ⟨_, _, _, _, cf1, by decide, mem_c6 16 rfl rfl, rfl, fun z => nomatch z⟩
theorem fp_M_416 : FLP "SinkingChoirModel" 416 1 27 false := ⟨_, _, _, _, cf1, by decide, mem_c6 2 rfl rfl, rfl, fun z => nomatch z⟩
theorem fp_Si_75 : FLP "SinkingChoir$Singing" 75 9 13 false := ⟨_, _, _, _, cf9, by decide, mem_c1 201 rfl rfl, rfl, fun z => nomatch z⟩
theorem fp_Si_76 : FLP "SinkingChoir$Singing" 76 9 12 false := ⟨_, _, _, _, cf9, by decide, mem_c1 200 rfl rfl, rfl, fun z => nomatch z⟩
theorem fp_Si_64 : FLP "SinkingChoir$Singing" 64 9 9 false := ⟨_, _, _, _, cf9, by decide, mem_c1 197 rfl rfl, rfl, fun z => nomatch z⟩
theorem fp_Si_65 : FLP "SinkingChoir$Singing" 65 9 10 false := ⟨_, _, _, _, cf9, by decide, mem_c1 198 rfl rfl, rfl, fun z => nomatch z⟩
theorem fp_Si_68 : FLP "SinkingChoir$Singing" 68 9 11 false := ⟨_, _, _, _, cf9, by decide, mem_c1 199 rfl rfl, rfl, fun z => nomatch z⟩
theorem fp_Si_84 : FLP "SinkingChoir$Singing" 84 9 14 false := ⟨_, _, _, _, cf9, by decide, mem_c1 202 rfl rfl, rfl, fun z => nomatch z⟩
theorem fp_M_497 : FLP "SinkingChoirModel" 497 1 52 false := ⟨_, _, _, _, cf1, by decide, mem_c6 27 rfl rfl, rfl, fun z => nomatch z⟩
theorem fp_M_420 : FLP "SinkingChoirModel" 420 1 53 false := ⟨_, _, _, _, cf1, by decide, mem_c6 28 rfl rfl, rfl, fun z => nomatch z⟩
theorem fp_M_471 : FLP "SinkingChoirModel" 471 1 66 false := ⟨_, _, _, _, cf1, by decide, mem_c6 41 rfl rfl, rfl, fun z => nomatch z⟩
theorem fp_M_474 : FLP "SinkingChoirModel" 474 1 64 false := ⟨_, _, _, _, cf1, by decide, mem_c6 39 rfl rfl, rfl, fun z => nomatch z⟩
theorem fp_M_450 : FLP "SinkingChoirModel" 450 1 58 false := ⟨_, _, _, _, cf1, by decide, mem_c6 33 rfl rfl, rfl, fun z => nomatch z⟩
theorem fp_M_426 : FLP "SinkingChoirModel" 426 1 59 false := ⟨_, _, _, _, cf1, by decide, mem_c6 34 rfl rfl, rfl, fun z => nomatch z⟩
theorem fp_M_429 : FLP "SinkingChoirModel" 429 1 60 false := ⟨_, _, _, _, cf1, by decide, mem_c6 35 rfl rfl, rfl, fun z => nomatch z⟩
theorem fp_M_477 : FLP "SinkingChoirModel" 477 1 67 false := ⟨_, _, _, _, cf1, by decide, mem_c6 42 rfl rfl, rfl, fun z => nomatch z⟩
theorem fp_M_480 : FLP "SinkingChoirModel" 480 1 65 false := ⟨_, _, _, _, cf1, by decide, mem_c6 40 rfl rfl, rfl, fun z => nomatch z⟩
theorem fp_M_490 : FLP "SinkingChoirModel" 490 1 61 false := ⟨_, _, _, _, cf1, by decide, mem_c6 36 rfl rfl, rfl, fun z => nomatch z⟩
theorem fp_St_62 : FLP "SinkingChoir$Standing" 62 10 4 false := ⟨_, _, _, _, cf10, by decide, mem_c2 8 rfl rfl, rfl, fun z => nomatch z⟩
theorem fp_St_68 : FLP "SinkingChoir$Standing" 68 10 5 false := ⟨_, _, _, _, cf10, by decide, mem_c2 10 rfl rfl, rfl, fun z => nomatch z⟩
theorem fp_Le_46 : FLP "SinkingChoir$Leading" 46 4 3 false := ⟨_, _, _, _, cf4, by decide, mem_c2 37 rfl rfl, rfl, fun z => nomatch z⟩
theorem fp_Le_54 : FLP "SinkingChoir$Leading" 54 4 4 false := ⟨_, _, _, _, cf4, by decide, mem_c2 39 rfl rfl, rfl, fun z => nomatch z⟩
theorem fp_Fi_43 : FLP "SinkingChoir$Fitting" 43 3 4 false := ⟨_, _, _, _, cf3, by decide, mem_c2 62 rfl rfl, rfl, fun z => nomatch z⟩
theorem fs_Str_38 : Cond.fieldLink "java/lang/String" 38 "java/lang/String" "COMPACT_STRINGS" "Z" ∈ tb := mem_c1 186 rfl rfl
theorem fs_Str_15 : Cond.fieldLink "java/lang/String" 15 "java/lang/String" "coder" "B" ∈ tb := mem_c8 210 rfl rfl
theorem fs_Str_9 : Cond.fieldLink "java/lang/String" 9 "java/lang/String" "value" "[B" ∈ tb := mem_c8 209 rfl rfl
theorem c_Fr_15 : Jvm.Cond.constant "SinkingChoir$Fraction" 15 (-2147483648 : Int32) ∈ tb := mem_c2 154 rfl rfl
theorem c_Fr_29 : Jvm.Cond.constant "SinkingChoir$Fraction" 29 (1048576 : Int32) ∈ tb := mem_c2 155 rfl rfl
theorem c_Fr_21 : Jvm.Cond.constant "SinkingChoir$Fraction" 21 (537395712 : Int32) ∈ tb := mem_c2 163 rfl rfl
theorem c_Fr_22 : Jvm.Cond.constant "SinkingChoir$Fraction" 22 (1200000 : Int32) ∈ tb := mem_c2 159 rfl rfl
theorem c_Fr_27 : Jvm.Cond.constant "SinkingChoir$Fraction" 27 (1901955 : Int32) ∈ tb := mem_c2 164 rfl rfl
theorem c_Fr_28 : Jvm.Cond.constant "SinkingChoir$Fraction" 28 (2786314 : Int32) ∈ tb := mem_c2 165 rfl rfl
theorem c_Fr_19 : Jvm.Cond.constant "SinkingChoir$Fraction" 19 (-3000000 : Int32) ∈ tb := mem_c2 166 rfl rfl
theorem c_Fr_20 : Jvm.Cond.constant "SinkingChoir$Fraction" 20 (3000000 : Int32) ∈ tb := mem_c2 167 rfl rfl
theorem c_X_83 : Jvm.Cond.constant "SinkingChoir" 83 (-2147483648 : Int32) ∈ tb := mem_c2 171 rfl rfl
theorem c_M_166 : Jvm.Cond.constant "SinkingChoirModel" 166 (1200000 : Int32) ∈ tb := mem_c6 212 rfl rfl
theorem c_M_167 : Jvm.Cond.constant "SinkingChoirModel" 167 (1901955 : Int32) ∈ tb := mem_c6 213 rfl rfl
theorem c_M_168 : Jvm.Cond.constant "SinkingChoirModel" 168 (2786314 : Int32) ∈ tb := mem_c6 214 rfl rfl
theorem c_X_102 : Jvm.Cond.constant "SinkingChoir" 102 (-1000000000 : Int32) ∈ tb := mem_c2 218 rfl rfl
theorem c_M_192 : Jvm.Cond.constant "SinkingChoirModel" 192 (-1000000000 : Int32) ∈ tb := mem_c6 217 rfl rfl
theorem c_Wa_66 : Jvm.Cond.constant "SinkingChoir$Ways" 66 (2147483647 : Int32) ∈ tb := mem_c3 101 rfl rfl
theorem c_Wa_108 : Jvm.Cond.constant "SinkingChoir$Ways" 108 (-1000000000 : Int32) ∈ tb := mem_c3 145 rfl rfl
theorem c_X_159 : Jvm.Cond.constant "SinkingChoir" 159 (100000000 : Int32) ∈ tb := mem_c3 140 rfl rfl
theorem c_X_181 : Jvm.Cond.constant "SinkingChoir" 181 (-60000 : Int32) ∈ tb := mem_c3 166 rfl rfl
theorem c_X_182 : Jvm.Cond.constant "SinkingChoir" 182 (60000 : Int32) ∈ tb := mem_c3 167 rfl rfl
theorem c_X_186 : Jvm.Cond.constant "SinkingChoir" 186 (65535 : Int32) ∈ tb := mem_c3 172 rfl rfl
theorem c_X_190 : Jvm.Cond.constant "SinkingChoir" 190 (-200000 : Int32) ∈ tb := mem_c3 177 rfl rfl
theorem c_X_191 : Jvm.Cond.constant "SinkingChoir" 191 (200000 : Int32) ∈ tb := mem_c3 178 rfl rfl
theorem c_X_195 : Jvm.Cond.constant "SinkingChoir" 195 (16777216 : Int32) ∈ tb := mem_c3 183 rfl rfl
theorem c_Ch_77 : Jvm.Cond.constant "SinkingChoir$Choir" 77 (100000 : Int32) ∈ tb := mem_c4 165 rfl rfl
theorem c_Si_110 : Jvm.Cond.constant "SinkingChoir$Singing" 110 (65535 : Int32) ∈ tb := mem_c4 174 rfl rfl
theorem c_M_419 : Jvm.Cond.constant "SinkingChoirModel" 419 (100000 : Int32) ∈ tb := mem_c8 35 rfl rfl
theorem c_M_483 : Jvm.Cond.constant "SinkingChoirModel" 483 (65536 : Int32) ∈ tb := mem_c8 40 rfl rfl
theorem c_X_304 : Jvm.Cond.constant "SinkingChoir" 304 (-10000000 : Int32) ∈ tb := mem_c5 128 rfl rfl
theorem c_X_305 : Jvm.Cond.constant "SinkingChoir" 305 (10000000 : Int32) ∈ tb := mem_c5 129 rfl rfl
theorem c_In_265 : Jvm.Cond.constant "java/lang/Integer" 265 (1431655765 : Int32) ∈ tb := mem_c5 206 rfl rfl
theorem c_In_266 : Jvm.Cond.constant "java/lang/Integer" 266 (858993459 : Int32) ∈ tb := mem_c5 207 rfl rfl
theorem c_In_267 : Jvm.Cond.constant "java/lang/Integer" 267 (252645135 : Int32) ∈ tb := mem_c5 208 rfl rfl
theorem c_M_143 : Jvm.Cond.constantLong "SinkingChoirModel" 143 (5 : Int64) ∈ tb := mem_c6 225 rfl rfl
theorem c_M_149 : Jvm.Cond.constantLong "SinkingChoirModel" 149 (23 : Int64) ∈ tb := mem_c6 229 rfl rfl
theorem c_M_176 : Jvm.Cond.constantLong "SinkingChoirModel" 176 (2000 : Int64) ∈ tb := mem_c6 196 rfl rfl
theorem c_M_185 : Jvm.Cond.constantLong "SinkingChoirModel" 185 (-3000000 : Int64) ∈ tb := mem_c6 215 rfl rfl
theorem c_M_187 : Jvm.Cond.constantLong "SinkingChoirModel" 187 (3000000 : Int64) ∈ tb := mem_c6 216 rfl rfl
theorem c_M_196 : Jvm.Cond.constantLong "SinkingChoirModel" 196 (60 : Int64) ∈ tb := mem_c6 230 rfl rfl
theorem c_M_229 : Jvm.Cond.constantLong "SinkingChoirModel" 229 (6 : Int64) ∈ tb := mem_c7 22 rfl rfl
theorem c_M_255 : Jvm.Cond.constantLong "SinkingChoirModel" 255 (1000000000000000 : Int64) ∈ tb := mem_c7 90 rfl rfl
theorem c_M_273 : Jvm.Cond.constantLong "SinkingChoirModel" 273 (100000000 : Int64) ∈ tb := mem_c7 103 rfl rfl
theorem c_M_278 : Jvm.Cond.constantLong "SinkingChoirModel" 278 (15 : Int64) ∈ tb := mem_c7 108 rfl rfl
theorem c_M_280 : Jvm.Cond.constantLong "SinkingChoirModel" 280 (9 : Int64) ∈ tb := mem_c7 109 rfl rfl
theorem c_M_285 : Jvm.Cond.constantLong "SinkingChoirModel" 285 (11 : Int64) ∈ tb := mem_c7 122 rfl rfl
theorem c_M_287 : Jvm.Cond.constantLong "SinkingChoirModel" 287 (-60000 : Int64) ∈ tb := mem_c7 123 rfl rfl
theorem c_M_289 : Jvm.Cond.constantLong "SinkingChoirModel" 289 (60000 : Int64) ∈ tb := mem_c7 124 rfl rfl
theorem c_M_291 : Jvm.Cond.constantLong "SinkingChoirModel" 291 (65535 : Int64) ∈ tb := mem_c7 129 rfl rfl
theorem c_M_293 : Jvm.Cond.constantLong "SinkingChoirModel" 293 (-200000 : Int64) ∈ tb := mem_c7 134 rfl rfl
theorem c_M_295 : Jvm.Cond.constantLong "SinkingChoirModel" 295 (200000 : Int64) ∈ tb := mem_c7 135 rfl rfl
theorem c_M_300 : Jvm.Cond.constantLong "SinkingChoirModel" 300 (16777215 : Int64) ∈ tb := mem_c7 140 rfl rfl
theorem c_M_342 : Jvm.Cond.constantLong "SinkingChoirModel" 342 (48 : Int64) ∈ tb := mem_c7 190 rfl rfl
theorem c_M_344 : Jvm.Cond.constantLong "SinkingChoirModel" 344 (57 : Int64) ∈ tb := mem_c7 191 rfl rfl
theorem c_M_411 : Jvm.Cond.constantLong "SinkingChoirModel" 411 (200 : Int64) ∈ tb := mem_c7 153 rfl rfl
theorem c_Si_162 : Jvm.Cond.constantLong "SinkingChoir$Singing" 162 (1000 : Int64) ∈ tb := mem_c4 186 rfl rfl
theorem c_M_444 : Jvm.Cond.constantLong "SinkingChoirModel" 444 (1000 : Int64) ∈ tb := mem_c8 83 rfl rfl
theorem c_X_239 : Jvm.Cond.constantLong "SinkingChoir" 239 (-1000000000 : Int64) ∈ tb := mem_c4 234 rfl rfl
theorem c_M_530 : Jvm.Cond.constantLong "SinkingChoirModel" 530 (-1000000000 : Int64) ∈ tb := mem_c8 93 rfl rfl
theorem c_M_528 : Jvm.Cond.constantLong "SinkingChoirModel" 528 (3 : Int64) ∈ tb := mem_c8 92 rfl rfl
theorem c_M_535 : Jvm.Cond.constantLong "SinkingChoirModel" 535 (4 : Int64) ∈ tb := mem_c8 114 rfl rfl
theorem c_X_272 : Jvm.Cond.constantLong "SinkingChoir" 272 (-2000000000 : Int64) ∈ tb := mem_c5 61 rfl rfl
theorem c_M_550 : Jvm.Cond.constantLong "SinkingChoirModel" 550 (-2000000000 : Int64) ∈ tb := mem_c8 139 rfl rfl
theorem c_Le_52 : Jvm.Cond.constantLong "SinkingChoir$Leading" 52 (9223372036854775807 : Int64) ∈ tb := mem_c5 105 rfl rfl
theorem c_X_286 : Jvm.Cond.constantLong "SinkingChoir" 286 (-1 : Int64) ∈ tb := mem_c5 87 rfl rfl
theorem c_X_288 : Jvm.Cond.constantLong "SinkingChoir" 288 (-2 : Int64) ∈ tb := mem_c5 88 rfl rfl
theorem c_M_555 : Jvm.Cond.constantLong "SinkingChoirModel" 555 (-1 : Int64) ∈ tb := mem_c8 152 rfl rfl
theorem c_M_557 : Jvm.Cond.constantLong "SinkingChoirModel" 557 (-2 : Int64) ∈ tb := mem_c8 153 rfl rfl
theorem c_M_562 : Jvm.Cond.constantLong "SinkingChoirModel" 562 (-10000000 : Int64) ∈ tb := mem_c8 170 rfl rfl
theorem c_M_564 : Jvm.Cond.constantLong "SinkingChoirModel" 564 (10000000 : Int64) ∈ tb := mem_c8 171 rfl rfl
theorem c_X_346 : Jvm.Cond.constantLong "SinkingChoir" 346 (1000 : Int64) ∈ tb := mem_c5 178 rfl rfl
theorem c_M_573 : Jvm.Cond.constantLong "SinkingChoirModel" 573 (100 : Int64) ∈ tb := mem_c8 188 rfl rfl
theorem c_M_575 : Jvm.Cond.constantLong "SinkingChoirModel" 575 (2 : Int64) ∈ tb := mem_c8 189 rfl rfl
theorem cl_Ch_37 : Cond.classLink "SinkingChoir$Choir" 37 R5 ∈ tb := mem_c1 78 rfl rfl
theorem cl_Re_15 : Cond.classLink "SinkingChoir$Reader" 15 R5 ∈ tb := mem_c2 95 rfl rfl
theorem cl_X_7 : Cond.classLink "SinkingChoir" 7 R8 ∈ tb := mem_c1 31 rfl rfl
theorem cl_X_16 : Cond.classLink "SinkingChoir" 16 R2 ∈ tb := mem_c1 72 rfl rfl
theorem cl_X_25 : Cond.classLink "SinkingChoir" 25 R9 ∈ tb := mem_c1 171 rfl rfl
theorem cl_X_34 : Cond.classLink "SinkingChoir" 34 R10 ∈ tb := mem_c1 237 rfl rfl
theorem cl_X_43 : Cond.classLink "SinkingChoir" 43 R4 ∈ tb := mem_c2 28 rfl rfl
theorem cl_X_50 : Cond.classLink "SinkingChoir" 50 R3 ∈ tb := mem_c2 52 rfl rfl
theorem cl_X_59 : Cond.classLink "SinkingChoir" 59 R7 ∈ tb := mem_c2 74 rfl rfl
theorem cl_X_66 : Cond.classLink "SinkingChoir" 66 R6 ∈ tb := mem_c2 89 rfl rfl
theorem cl_X_151 : Cond.classLink "SinkingChoir" 151 R11 ∈ tb := mem_c3 50 rfl rfl
theorem oi_Sc_3 : Cond.methodLink "SinkingChoir$Score" 3 Lib.objectInit ∈ tb ∧ Cond.instanceMethod Lib.objectInit ∈ tb ∧ Cond.code Lib.objectInit ⟨#[0xb1]⟩ 1 none ∈ tb := ⟨mem_c1 36 rfl rfl, mem_c1 29 rfl rfl, mem_c1 30 rfl rfl⟩
theorem oi_Pr_3 : Cond.methodLink "SinkingChoir$Program" 3 Lib.objectInit ∈ tb ∧ Cond.instanceMethod Lib.objectInit ∈ tb ∧ Cond.code Lib.objectInit ⟨#[0xb1]⟩ 1 none ∈ tb := ⟨mem_c1 83 rfl rfl, mem_c1 29 rfl rfl, mem_c1 30 rfl rfl⟩
theorem oi_Ch_3 : Cond.methodLink "SinkingChoir$Choir" 3 Lib.objectInit ∈ tb ∧ Cond.instanceMethod Lib.objectInit ∈ tb ∧ Cond.code Lib.objectInit ⟨#[0xb1]⟩ 1 none ∈ tb := ⟨mem_c1 77 rfl rfl, mem_c1 29 rfl rfl, mem_c1 30 rfl rfl⟩
theorem oi_Si_3 : Cond.methodLink "SinkingChoir$Singing" 3 Lib.objectInit ∈ tb ∧ Cond.instanceMethod Lib.objectInit ∈ tb ∧ Cond.code Lib.objectInit ⟨#[0xb1]⟩ 1 none ∈ tb := ⟨mem_c1 176 rfl rfl, mem_c1 29 rfl rfl, mem_c1 30 rfl rfl⟩
theorem oi_St_3 : Cond.methodLink "SinkingChoir$Standing" 3 Lib.objectInit ∈ tb ∧ Cond.instanceMethod Lib.objectInit ∈ tb ∧ Cond.code Lib.objectInit ⟨#[0xb1]⟩ 1 none ∈ tb := ⟨mem_c2 2 rfl rfl, mem_c1 29 rfl rfl, mem_c1 30 rfl rfl⟩
theorem oi_Le_3 : Cond.methodLink "SinkingChoir$Leading" 3 Lib.objectInit ∈ tb ∧ Cond.instanceMethod Lib.objectInit ∈ tb ∧ Cond.code Lib.objectInit ⟨#[0xb1]⟩ 1 none ∈ tb := ⟨mem_c2 33 rfl rfl, mem_c1 29 rfl rfl, mem_c1 30 rfl rfl⟩
theorem oi_Fi_3 : Cond.methodLink "SinkingChoir$Fitting" 3 Lib.objectInit ∈ tb ∧ Cond.instanceMethod Lib.objectInit ∈ tb ∧ Cond.code Lib.objectInit ⟨#[0xb1]⟩ 1 none ∈ tb := ⟨mem_c2 57 rfl rfl, mem_c1 29 rfl rfl, mem_c1 30 rfl rfl⟩
theorem oi_Rl_1 : Cond.methodLink "SinkingChoir$Reel" 1 Lib.objectInit ∈ tb ∧ Cond.instanceMethod Lib.objectInit ∈ tb ∧ Cond.code Lib.objectInit ⟨#[0xb1]⟩ 1 none ∈ tb := ⟨mem_c2 79 rfl rfl, mem_c1 29 rfl rfl, mem_c1 30 rfl rfl⟩
theorem oi_Re_3 : Cond.methodLink "SinkingChoir$Reader" 3 Lib.objectInit ∈ tb ∧ Cond.instanceMethod Lib.objectInit ∈ tb ∧ Cond.code Lib.objectInit ⟨#[0xb1]⟩ 1 none ∈ tb := ⟨mem_c2 94 rfl rfl, mem_c1 29 rfl rfl, mem_c1 30 rfl rfl⟩
theorem oi_X_1 : Cond.methodLink "SinkingChoir" 1 Lib.objectInit ∈ tb ∧ Cond.instanceMethod Lib.objectInit ∈ tb ∧ Cond.code Lib.objectInit ⟨#[0xb1]⟩ 1 none ∈ tb := ⟨mem_c1 28 rfl rfl, mem_c1 29 rfl rfl, mem_c1 30 rfl rfl⟩
theorem oi_M_1 : Cond.methodLink "SinkingChoirModel" 1 Lib.objectInit ∈ tb ∧ Cond.instanceMethod Lib.objectInit ∈ tb ∧ Cond.code Lib.objectInit ⟨#[0xb1]⟩ 1 none ∈ tb := ⟨mem_c5 214 rfl rfl, mem_c1 29 rfl rfl, mem_c1 30 rfl rfl⟩
theorem oi_Wa_5 : Cond.methodLink "SinkingChoir$Ways" 5 Lib.objectInit ∈ tb ∧ Cond.instanceMethod Lib.objectInit ∈ tb ∧ Cond.code Lib.objectInit ⟨#[0xb1]⟩ 1 none ∈ tb := ⟨mem_c3 55 rfl rfl, mem_c1 29 rfl rfl, mem_c1 30 rfl rfl⟩
theorem cp_Wa_49 : Cond.methodLink "SinkingChoir$Ways" 49 arraycopyName ∈ tb ∧ Cond.native arraycopyName ∈ tb ∧ Cond.static arraycopyName ∈ tb ∧ Cond.initialized "java/lang/System" ∈ tb := ⟨mem_c3 92 rfl rfl, mem_c3 94 rfl rfl, mem_c3 93 rfl rfl, mem_c1 17 rfl rfl⟩
theorem cp_Re_32 : Cond.methodLink "SinkingChoir$Reader" 32 arraycopyName ∈ tb ∧ Cond.native arraycopyName ∈ tb ∧ Cond.static arraycopyName ∈ tb ∧ Cond.initialized "java/lang/System" ∈ tb := ⟨mem_c3 205 rfl rfl, mem_c3 94 rfl rfl, mem_c3 93 rfl rfl, mem_c1 17 rfl rfl⟩
theorem cp_St_33 : Cond.methodLink "SinkingChoir$Standing" 33 arraycopyName ∈ tb ∧ Cond.native arraycopyName ∈ tb ∧ Cond.static arraycopyName ∈ tb ∧ Cond.initialized "java/lang/System" ∈ tb := ⟨mem_c5 66 rfl rfl, mem_c3 94 rfl rfl, mem_c3 93 rfl rfl, mem_c1 17 rfl rfl⟩
theorem sr_Si_20 : ∀ B sa U, STR B sa U → vk_R "SinkingChoir$Singing" 20 "bvikfhjurnox" (sa 0) U := fun _ _ _ h => h.1
theorem sr_Re_109 : ∀ B sa U, STR B sa U → vk_R "SinkingChoir$Reader" 109 "bvikfhjurnox" (sa 0) U := fun _ _ _ h => h.2.1
theorem sr_Re_67 : ∀ B sa U, STR B sa U → vk_R "SinkingChoir$Reader" 67 "pstkd" (sa 1) U := fun _ _ _ h => h.2.2.1
theorem lv_Str_335 : LKV "java/lang/String" 335 Y_Str_coder 0 := ⟨mem_c1 182 rfl rfl, mem_c1 183 rfl rfl, mem_c1 184 rfl rfl, mem_c1 7 rfl rfl, cw_Str_coder, ⟨by decide +kernel, by decide +kernel, by decide +kernel⟩, by decide⟩
theorem lv_Si_22 : LKV "SinkingChoir$Singing" 22 Y_Str_length 0 := ⟨mem_c1 178 rfl rfl, mem_c1 179 rfl rfl, mem_c1 180 rfl rfl, mem_c1 7 rfl rfl, cw_Str_length, ⟨by decide +kernel, by decide +kernel, by decide +kernel⟩, by decide⟩
theorem lv_Sc_39 : LKV "SinkingChoir$Score" 39 Y_Sc_sounds 2 := ⟨mem_c2 185 rfl rfl, mem_c2 186 rfl rfl, mem_c2 187 rfl rfl, mem_c1 2 rfl rfl, cw_Sc_sounds, ⟨by decide +kernel, by decide +kernel, by decide +kernel⟩, by decide⟩
theorem lv_Sc_55 : LKV "SinkingChoir$Score" 55 Y_Sc_holds 2 := ⟨mem_c2 181 rfl rfl, mem_c2 182 rfl rfl, mem_c2 183 rfl rfl, mem_c1 2 rfl rfl, cw_Sc_holds, ⟨by decide +kernel, by decide +kernel, by decide +kernel⟩, by decide⟩
theorem lv_Sc_61 : LKV "SinkingChoir$Score" 61 Y_Sc_shift 2 := ⟨mem_c2 193 rfl rfl, mem_c2 194 rfl rfl, mem_c2 195 rfl rfl, mem_c1 2 rfl rfl, cw_Sc_shift, ⟨by decide +kernel, by decide +kernel, by decide +kernel⟩, by decide⟩
theorem lv_Sc_58 : LKV "SinkingChoir$Score" 58 Y_Sc_tune 0 := ⟨mem_c2 189 rfl rfl, mem_c2 191 rfl rfl, mem_p1 0 rfl, mem_c1 2 rfl rfl, cw_Sc_tune, ⟨by decide +kernel, by decide +kernel, by decide +kernel⟩, by decide⟩
theorem lv_X_84 : LKV "SinkingChoir" 84 Y_Sc_put 4 := ⟨mem_c2 172 rfl rfl, mem_c2 173 rfl rfl, mem_c2 174 rfl rfl, mem_c1 2 rfl rfl, cw_Sc_put, ⟨by decide +kernel, by decide +kernel, by decide +kernel⟩, by decide⟩
theorem lv_X_88 : LKV "SinkingChoir" 88 Y_X_changed 0 := ⟨mem_c2 197 rfl rfl, mem_c2 199 rfl rfl, mem_p1 1 rfl, mem_c1 1 rfl rfl, cw_X_changed, ⟨by decide +kernel, by decide +kernel, by decide +kernel⟩, by decide⟩
theorem lv_M_162 : LKV "SinkingChoirModel" 162 Y_M_isNote 2 := ⟨mem_c7 2 rfl rfl, mem_c7 4 rfl rfl, mem_p3 9 rfl, mem_c1 13 rfl rfl, cw_M_isNote, ⟨by decide +kernel, by decide +kernel, by decide +kernel⟩, by decide⟩
theorem lv_M_193 : LKV "SinkingChoirModel" 193 Y_M_isHeld 2 := ⟨mem_c6 238 rfl rfl, mem_c7 0 rfl rfl, mem_p3 8 rfl, mem_c1 13 rfl rfl, cw_M_isHeld, ⟨by decide +kernel, by decide +kernel, by decide +kernel⟩, by decide⟩
theorem lv_M_198 : LKV "SinkingChoirModel" 198 Y_M_falls 2 := ⟨mem_c6 234 rfl rfl, mem_c6 236 rfl rfl, mem_p3 7 rfl, mem_c1 13 rfl rfl, cw_M_falls, ⟨by decide +kernel, by decide +kernel, by decide +kernel⟩, by decide⟩
theorem lv_X_92 : LKV "SinkingChoir" 92 Y_Sc_sounds 2 := ⟨mem_c2 205 rfl rfl, mem_c2 186 rfl rfl, mem_c2 187 rfl rfl, mem_c1 2 rfl rfl, cw_Sc_sounds, ⟨by decide +kernel, by decide +kernel, by decide +kernel⟩, by decide⟩
theorem lv_X_95 : LKV "SinkingChoir" 95 Y_Sc_breathes 2 := ⟨mem_c2 210 rfl rfl, mem_c2 211 rfl rfl, mem_c2 212 rfl rfl, mem_c1 2 rfl rfl, cw_Sc_breathes, ⟨by decide +kernel, by decide +kernel, by decide +kernel⟩, by decide⟩
theorem lv_X_110 : LKV "SinkingChoir" 110 Y_Sc_bind 2 := ⟨mem_c2 225 rfl rfl, mem_c2 226 rfl rfl, mem_c2 227 rfl rfl, mem_c1 2 rfl rfl, cw_Sc_bind, ⟨by decide +kernel, by decide +kernel, by decide +kernel⟩, by decide⟩
theorem lv_X_107 : LKV "SinkingChoir" 107 Y_Sc_holds 2 := ⟨mem_c2 224 rfl rfl, mem_c2 182 rfl rfl, mem_c2 183 rfl rfl, mem_c1 2 rfl rfl, cw_Sc_holds, ⟨by decide +kernel, by decide +kernel, by decide +kernel⟩, by decide⟩
theorem lv_Sc_64 : LKV "SinkingChoir$Score" 64 Y_Sc_tearBy 3 := ⟨mem_c3 6 rfl rfl, mem_c3 7 rfl rfl, mem_c3 8 rfl rfl, mem_c1 2 rfl rfl, cw_Sc_tearBy, ⟨by decide +kernel, by decide +kernel, by decide +kernel⟩, by decide⟩
theorem lv_Sc_76 : LKV "SinkingChoir$Score" 76 Y_Sc_tear 2 := ⟨mem_c3 2 rfl rfl, mem_c3 3 rfl rfl, mem_c3 4 rfl rfl, mem_c1 2 rfl rfl, cw_Sc_tear, ⟨by decide +kernel, by decide +kernel, by decide +kernel⟩, by decide⟩
theorem lv_X_126 : LKV "SinkingChoir" 126 Y_Sc_heldIn 1 := ⟨mem_c2 234 rfl rfl, mem_c2 235 rfl rfl, mem_c2 236 rfl rfl, mem_c1 2 rfl rfl, cw_Sc_heldIn, ⟨by decide +kernel, by decide +kernel, by decide +kernel⟩, by decide⟩
theorem lv_X_129 : LKV "SinkingChoir" 129 Y_Sc_tornIn 1 := ⟨mem_c2 238 rfl rfl, mem_c2 239 rfl rfl, mem_c3 0 rfl rfl, mem_c1 2 rfl rfl, cw_Sc_tornIn, ⟨by decide +kernel, by decide +kernel, by decide +kernel⟩, by decide⟩
theorem lv_M_211 : LKV "SinkingChoirModel" 211 Y_M_leap 3 := ⟨mem_c7 31 rfl rfl, mem_c7 33 rfl rfl, mem_p3 12 rfl, mem_c1 13 rfl rfl, cw_M_leap, ⟨by decide +kernel, by decide +kernel, by decide +kernel⟩, by decide⟩
theorem lv_M_215 : LKV "SinkingChoirModel" 215 Y_M_goesTo 1 := ⟨mem_c7 27 rfl rfl, mem_c7 29 rfl rfl, mem_p3 11 rfl, mem_c1 13 rfl rfl, cw_M_goesTo, ⟨by decide +kernel, by decide +kernel, by decide +kernel⟩, by decide⟩
theorem lv_M_219 : LKV "SinkingChoirModel" 219 Y_M_sizeAt 2 := ⟨mem_c7 39 rfl rfl, mem_c7 41 rfl rfl, mem_p3 14 rfl, mem_c1 13 rfl rfl, cw_M_sizeAt, ⟨by decide +kernel, by decide +kernel, by decide +kernel⟩, by decide⟩
theorem lv_M_231 : LKV "SinkingChoirModel" 231 Y_M_keynoteOf 1 := ⟨mem_c7 23 rfl rfl, mem_c7 25 rfl rfl, mem_p3 10 rfl, mem_c1 13 rfl rfl, cw_M_keynoteOf, ⟨by decide +kernel, by decide +kernel, by decide +kernel⟩, by decide⟩
theorem lv_M_222 : LKV "SinkingChoirModel" 222 Y_M_tornBy 3 := ⟨mem_c7 35 rfl rfl, mem_c7 37 rfl rfl, mem_p3 13 rfl, mem_c1 13 rfl rfl, cw_M_tornBy, ⟨by decide +kernel, by decide +kernel, by decide +kernel⟩, by decide⟩
theorem lv_X_132 : LKV "SinkingChoir" 132 Y_Sc_tear 2 := ⟨mem_c3 14 rfl rfl, mem_c3 3 rfl rfl, mem_c3 4 rfl rfl, mem_c1 2 rfl rfl, cw_Sc_tear, ⟨by decide +kernel, by decide +kernel, by decide +kernel⟩, by decide⟩
theorem lv_Sc_79 : LKV "SinkingChoir$Score" 79 Y_Sc_soundsIn 1 := ⟨mem_c3 23 rfl rfl, mem_c3 24 rfl rfl, mem_c3 25 rfl rfl, mem_c1 2 rfl rfl, cw_Sc_soundsIn, ⟨by decide +kernel, by decide +kernel, by decide +kernel⟩, by decide⟩
theorem lv_Sc_73 : LKV "SinkingChoir$Score" 73 Y_Sc_foulnessBy 2 := ⟨mem_c3 31 rfl rfl, mem_c3 32 rfl rfl, mem_c3 33 rfl rfl, mem_c1 2 rfl rfl, cw_Sc_foulnessBy, ⟨by decide +kernel, by decide +kernel, by decide +kernel⟩, by decide⟩
theorem lv_X_135 : LKV "SinkingChoir" 135 Y_Sc_lastBeat 0 := ⟨mem_c3 19 rfl rfl, mem_c3 20 rfl rfl, mem_c3 21 rfl rfl, mem_c1 2 rfl rfl, cw_Sc_lastBeat, ⟨by decide +kernel, by decide +kernel, by decide +kernel⟩, by decide⟩
theorem lv_X_139 : LKV "SinkingChoir" 139 Y_Sc_foulness 0 := ⟨mem_c3 27 rfl rfl, mem_c3 28 rfl rfl, mem_c3 29 rfl rfl, mem_c1 2 rfl rfl, cw_Sc_foulness, ⟨by decide +kernel, by decide +kernel, by decide +kernel⟩, by decide⟩
theorem lv_M_234 : LKV "SinkingChoirModel" 234 Y_M_lastBeat 0 := ⟨mem_c7 51 rfl rfl, mem_c7 53 rfl rfl, mem_p3 15 rfl, mem_c1 13 rfl rfl, cw_M_lastBeat, ⟨by decide +kernel, by decide +kernel, by decide +kernel⟩, by decide⟩
theorem lv_M_238 : LKV "SinkingChoirModel" 238 Y_M_foulBy 2 := ⟨mem_c7 55 rfl rfl, mem_c7 57 rfl rfl, mem_p4 0 rfl, mem_c1 13 rfl rfl, cw_M_foulBy, ⟨by decide +kernel, by decide +kernel, by decide +kernel⟩, by decide⟩
theorem lv_Wa_39 : LKV "SinkingChoir$Ways" 39 Y_Sc_lastBeat 0 := ⟨mem_c3 91 rfl rfl, mem_c3 20 rfl rfl, mem_c3 21 rfl rfl, mem_c1 2 rfl rfl, cw_Sc_lastBeat, ⟨by decide +kernel, by decide +kernel, by decide +kernel⟩, by decide⟩
theorem lv_Wa_55 : LKV "SinkingChoir$Ways" 55 Y_Sc_shift 2 := ⟨mem_c3 95 rfl rfl, mem_c2 194 rfl rfl, mem_c2 195 rfl rfl, mem_c1 2 rfl rfl, cw_Sc_shift, ⟨by decide +kernel, by decide +kernel, by decide +kernel⟩, by decide⟩
theorem lv_Wa_59 : LKV "SinkingChoir$Ways" 59 Y_Sc_holds 2 := ⟨mem_c3 96 rfl rfl, mem_c2 182 rfl rfl, mem_c2 183 rfl rfl, mem_c1 2 rfl rfl, cw_Sc_holds, ⟨by decide +kernel, by decide +kernel, by decide +kernel⟩, by decide⟩
theorem lv_Wa_63 : LKV "SinkingChoir$Ways" 63 Y_Wa_spread 2 := ⟨mem_c3 97 rfl rfl, mem_c3 99 rfl rfl, mem_p1 4 rfl, mem_c1 16 rfl rfl, cw_Wa_spread, ⟨by decide +kernel, by decide +kernel, by decide +kernel⟩, by decide⟩
theorem lv_X_337 : LKV "SinkingChoir" 337 Y_Wa_explore 0 := ⟨mem_c3 87 rfl rfl, mem_c3 88 rfl rfl, mem_c3 89 rfl rfl, mem_c1 16 rfl rfl, cw_Wa_explore, ⟨by decide +kernel, by decide +kernel, by decide +kernel⟩, by decide⟩
theorem lv_Wa_81 : LKV "SinkingChoir$Ways" 81 Y_Sc_foulnessBy 2 := ⟨mem_c3 118 rfl rfl, mem_c3 32 rfl rfl, mem_c3 33 rfl rfl, mem_c1 2 rfl rfl, cw_Sc_foulnessBy, ⟨by decide +kernel, by decide +kernel, by decide +kernel⟩, by decide⟩
theorem lv_Wa_84 : LKV "SinkingChoir$Ways" 84 Y_Wa_find 2 := ⟨mem_c3 109 rfl rfl, mem_c3 111 rfl rfl, mem_p1 5 rfl, mem_c1 16 rfl rfl, cw_Wa_find, ⟨by decide +kernel, by decide +kernel, by decide +kernel⟩, by decide⟩
theorem lv_Wa_87 : LKV "SinkingChoir$Ways" 87 Y_Wa_price 1 := ⟨mem_c3 113 rfl rfl, mem_c3 115 rfl rfl, mem_p1 6 rfl, mem_c1 16 rfl rfl, cw_Wa_price, ⟨by decide +kernel, by decide +kernel, by decide +kernel⟩, by decide⟩
theorem lv_Wa_104 : LKV "SinkingChoir$Ways" 104 Y_Wa_follow 0 := ⟨mem_c3 124 rfl rfl, mem_c3 126 rfl rfl, mem_p1 8 rfl, mem_c1 16 rfl rfl, cw_Wa_follow, ⟨by decide +kernel, by decide +kernel, by decide +kernel⟩, by decide⟩
theorem lv_Wa_97 : LKV "SinkingChoir$Ways" 97 Y_Wa_relax 3 := ⟨mem_c3 120 rfl rfl, mem_c3 122 rfl rfl, mem_p1 7 rfl, mem_c1 16 rfl rfl, cw_Wa_relax, ⟨by decide +kernel, by decide +kernel, by decide +kernel⟩, by decide⟩
theorem lv_X_142 : LKV "SinkingChoir" 142 Y_X_asksRow 1 := ⟨mem_c3 42 rfl rfl, mem_c3 44 rfl rfl, mem_p1 2 rfl, mem_c1 1 rfl rfl, cw_X_asksRow, ⟨by decide +kernel, by decide +kernel, by decide +kernel⟩, by decide⟩
theorem lv_X_146 : LKV "SinkingChoir" 146 Y_X_explored 0 := ⟨mem_c3 46 rfl rfl, mem_c3 48 rfl rfl, mem_p1 3 rfl, mem_c1 1 rfl rfl, cw_X_explored, ⟨by decide +kernel, by decide +kernel, by decide +kernel⟩, by decide⟩
theorem lv_X_150 : LKV "SinkingChoir" 150 Y_Wa_leastRow 1 := ⟨mem_c3 105 rfl rfl, mem_c3 106 rfl rfl, mem_c3 107 rfl rfl, mem_c1 16 rfl rfl, cw_Wa_leastRow, ⟨by decide +kernel, by decide +kernel, by decide +kernel⟩, by decide⟩
theorem lv_X_156 : LKV "SinkingChoir" 156 Y_Wa_told 1 := ⟨mem_c3 128 rfl rfl, mem_c3 129 rfl rfl, mem_c3 130 rfl rfl, mem_c1 16 rfl rfl, cw_Wa_told, ⟨by decide +kernel, by decide +kernel, by decide +kernel⟩, by decide⟩
theorem lv_M_242 : LKV "SinkingChoirModel" 242 Y_M_placeOf 4 := ⟨mem_c7 78 rfl rfl, mem_c7 80 rfl rfl, mem_p4 4 rfl, mem_c1 13 rfl rfl, cw_M_placeOf, ⟨by decide +kernel, by decide +kernel, by decide +kernel⟩, by decide⟩
theorem lv_M_246 : LKV "SinkingChoirModel" 246 Y_M_mayLink 2 := ⟨mem_c7 82 rfl rfl, mem_c7 84 rfl rfl, mem_p4 5 rfl, mem_c1 13 rfl rfl, cw_M_mayLink, ⟨by decide +kernel, by decide +kernel, by decide +kernel⟩, by decide⟩
theorem lv_M_249 : LKV "SinkingChoirModel" 249 Y_M_nextOf 3 := ⟨mem_c7 86 rfl rfl, mem_c7 88 rfl rfl, mem_p4 6 rfl, mem_c1 13 rfl rfl, cw_M_nextOf, ⟨by decide +kernel, by decide +kernel, by decide +kernel⟩, by decide⟩
theorem lv_M_252 : LKV "SinkingChoirModel" 252 Y_M_lays 1 := ⟨mem_c7 74 rfl rfl, mem_c7 76 rfl rfl, mem_p4 3 rfl, mem_c1 13 rfl rfl, cw_M_lays, ⟨by decide +kernel, by decide +kernel, by decide +kernel⟩, by decide⟩
theorem lv_M_257 : LKV "SinkingChoirModel" 257 Y_M_costBy 3 := ⟨mem_c7 91 rfl rfl, mem_c7 93 rfl rfl, mem_p4 7 rfl, mem_c1 13 rfl rfl, cw_M_costBy, ⟨by decide +kernel, by decide +kernel, by decide +kernel⟩, by decide⟩
theorem lv_M_265 : LKV "SinkingChoirModel" 265 Y_M_finds 2 := ⟨mem_c7 70 rfl rfl, mem_c7 72 rfl rfl, mem_p4 2 rfl, mem_c1 13 rfl rfl, cw_M_finds, ⟨by decide +kernel, by decide +kernel, by decide +kernel⟩, by decide⟩
theorem lv_M_269 : LKV "SinkingChoirModel" 269 Y_M_rowOf 2 := ⟨mem_c7 66 rfl rfl, mem_c7 68 rfl rfl, mem_p4 1 rfl, mem_c1 13 rfl rfl, cw_M_rowOf, ⟨by decide +kernel, by decide +kernel, by decide +kernel⟩, by decide⟩
theorem lv_X_160 : LKV "SinkingChoir" 160 Y_Wa_nearest 1 := ⟨mem_c3 141 rfl rfl, mem_c3 142 rfl rfl, mem_c3 143 rfl rfl, mem_c1 16 rfl rfl, cw_Wa_nearest, ⟨by decide +kernel, by decide +kernel, by decide +kernel⟩, by decide⟩
theorem lv_X_179 : LKV "SinkingChoir" 179 Y_Ch_has 1 := ⟨mem_c3 158 rfl rfl, mem_c3 159 rfl rfl, mem_c3 160 rfl rfl, mem_c1 4 rfl rfl, cw_Ch_has, ⟨by decide +kernel, by decide +kernel, by decide +kernel⟩, by decide⟩
theorem lv_M_282 : LKV "SinkingChoirModel" 282 Y_M_isSinger 1 := ⟨mem_c7 114 rfl rfl, mem_c7 116 rfl rfl, mem_p4 8 rfl, mem_c1 13 rfl rfl, cw_M_isSinger, ⟨by decide +kernel, by decide +kernel, by decide +kernel⟩, by decide⟩
theorem lv_X_199 : LKV "SinkingChoir" 199 Y_Rl_hasRoom 0 := ⟨mem_c3 188 rfl rfl, mem_c3 189 rfl rfl, mem_c3 190 rfl rfl, mem_c1 11 rfl rfl, cw_Rl_hasRoom, ⟨by decide +kernel, by decide +kernel, by decide +kernel⟩, by decide⟩
theorem lv_X_202 : LKV "SinkingChoir" 202 Y_Rl_add 1 := ⟨mem_c3 192 rfl rfl, mem_c3 193 rfl rfl, mem_c3 194 rfl rfl, mem_c1 11 rfl rfl, cw_Rl_add, ⟨by decide +kernel, by decide +kernel, by decide +kernel⟩, by decide⟩
theorem lv_M_308 : LKV "SinkingChoirModel" 308 Y_M_push 1 := ⟨mem_c7 145 rfl rfl, mem_c7 147 rfl rfl, mem_p4 9 rfl, mem_c1 13 rfl rfl, cw_M_push, ⟨by decide +kernel, by decide +kernel, by decide +kernel⟩, by decide⟩
theorem lv_Str_492 : LKV "java/lang/String" 492 Y_Str_isLatin1 0 := ⟨mem_c3 230 rfl rfl, mem_c3 231 rfl rfl, mem_c3 232 rfl rfl, mem_c1 7 rfl rfl, cw_Str_isLatin1, ⟨by decide +kernel, by decide +kernel, by decide +kernel⟩, by decide⟩
theorem lv_Str_505 : LKV "java/lang/String" 505 Y_Str_length 0 := ⟨mem_c3 234 rfl rfl, mem_c1 179 rfl rfl, mem_c1 180 rfl rfl, mem_c1 7 rfl rfl, cw_Str_length, ⟨by decide +kernel, by decide +kernel, by decide +kernel⟩, by decide⟩
theorem lv_Str_633 : LKV "java/lang/String" 633 Y_Str_indexOf_II 2 := ⟨mem_c3 226 rfl rfl, mem_c3 227 rfl rfl, mem_c3 228 rfl rfl, mem_c1 7 rfl rfl, cw_Str_indexOf_II, ⟨by decide +kernel, by decide +kernel, by decide +kernel⟩, by decide⟩
theorem lv_Re_61 : LKV "SinkingChoir$Reader" 61 Y_Str_indexOf_I 1 := ⟨mem_c3 222 rfl rfl, mem_c3 223 rfl rfl, mem_c3 224 rfl rfl, mem_c1 7 rfl rfl, cw_Str_indexOf_I, ⟨by decide +kernel, by decide +kernel, by decide +kernel⟩, by decide⟩
theorem lv_Re_54 : LKV "SinkingChoir$Reader" 54 Y_Re_here 0 := ⟨mem_c3 215 rfl rfl, mem_c3 217 rfl rfl, mem_p1 10 rfl, mem_c1 12 rfl rfl, cw_Re_here, ⟨by decide +kernel, by decide +kernel, by decide +kernel⟩, by decide⟩
theorem lv_Re_58 : LKV "SinkingChoir$Reader" 58 Y_Re_fail 1 := ⟨mem_c4 57 rfl rfl, mem_c4 59 rfl rfl, mem_p1 11 rfl, mem_c1 12 rfl rfl, cw_Re_fail, ⟨by decide +kernel, by decide +kernel, by decide +kernel⟩, by decide⟩
theorem lv_Re_91 : LKV "SinkingChoir$Reader" 91 Y_Pr_add 2 := ⟨mem_c4 78 rfl rfl, mem_c4 79 rfl rfl, mem_c4 80 rfl rfl, mem_c1 5 rfl rfl, cw_Pr_add, ⟨by decide +kernel, by decide +kernel, by decide +kernel⟩, by decide⟩
theorem lv_Re_88 : LKV "SinkingChoir$Reader" 88 Y_Re_all 1 := ⟨mem_c4 101 rfl rfl, mem_c4 103 rfl rfl, mem_p2 2 rfl, mem_c1 12 rfl rfl, cw_Re_all, ⟨by decide +kernel, by decide +kernel, by decide +kernel⟩, by decide⟩
theorem lv_Re_94 : LKV "SinkingChoir$Reader" 94 Y_Pr_land 1 := ⟨mem_c4 113 rfl rfl, mem_c4 114 rfl rfl, mem_c4 115 rfl rfl, mem_c1 5 rfl rfl, cw_Pr_land, ⟨by decide +kernel, by decide +kernel, by decide +kernel⟩, by decide⟩
theorem lv_Re_97 : LKV "SinkingChoir$Reader" 97 Y_Re_piece 1 := ⟨mem_c4 105 rfl rfl, mem_c4 107 rfl rfl, mem_p2 3 rfl, mem_c1 12 rfl rfl, cw_Re_piece, ⟨by decide +kernel, by decide +kernel, by decide +kernel⟩, by decide⟩
theorem lv_Re_82 : LKV "SinkingChoir$Reader" 82 Y_Re_either 1 := ⟨mem_c4 97 rfl rfl, mem_c4 99 rfl rfl, mem_p2 1 rfl, mem_c1 12 rfl rfl, cw_Re_either, ⟨by decide +kernel, by decide +kernel, by decide +kernel⟩, by decide⟩
theorem lv_Re_51 : LKV "SinkingChoir$Reader" 51 Y_Re_take 1 := ⟨mem_c4 89 rfl rfl, mem_c4 91 rfl rfl, mem_p2 0 rfl, mem_c1 12 rfl rfl, cw_Re_take, ⟨by decide +kernel, by decide +kernel, by decide +kernel⟩, by decide⟩
theorem lv_Re_76 : LKV "SinkingChoir$Reader" 76 Y_Re_sum 1 := ⟨mem_c4 65 rfl rfl, mem_c4 67 rfl rfl, mem_p1 12 rfl, mem_c1 12 rfl rfl, cw_Re_sum, ⟨by decide +kernel, by decide +kernel, by decide +kernel⟩, by decide⟩
theorem lv_Re_100 : LKV "SinkingChoir$Reader" 100 Y_Re_comparison 0 := ⟨mem_c4 109 rfl rfl, mem_c4 111 rfl rfl, mem_p2 4 rfl, mem_c1 12 rfl rfl, cw_Re_comparison, ⟨by decide +kernel, by decide +kernel, by decide +kernel⟩, by decide⟩
theorem lv_Re_103 : LKV "SinkingChoir$Reader" 103 Y_Re_product 1 := ⟨mem_c4 69 rfl rfl, mem_c4 71 rfl rfl, mem_p1 13 rfl, mem_c1 12 rfl rfl, cw_Re_product, ⟨by decide +kernel, by decide +kernel, by decide +kernel⟩, by decide⟩
theorem lv_Re_106 : LKV "SinkingChoir$Reader" 106 Y_Re_factor 1 := ⟨mem_c4 73 rfl rfl, mem_c4 75 rfl rfl, mem_p1 14 rfl, mem_c1 12 rfl rfl, cw_Re_factor, ⟨by decide +kernel, by decide +kernel, by decide +kernel⟩, by decide⟩
theorem lv_Re_115 : LKV "SinkingChoir$Reader" 115 Y_Re_number 0 := ⟨mem_c4 85 rfl rfl, mem_c4 87 rfl rfl, mem_p1 15 rfl, mem_c1 12 rfl rfl, cw_Re_number, ⟨by decide +kernel, by decide +kernel, by decide +kernel⟩, by decide⟩
theorem lv_Re_73 : LKV "SinkingChoir$Reader" 73 Y_Pr_open 1 := ⟨mem_c4 61 rfl rfl, mem_c4 62 rfl rfl, mem_c4 63 rfl rfl, mem_c1 5 rfl rfl, cw_Pr_open, ⟨by decide +kernel, by decide +kernel, by decide +kernel⟩, by decide⟩
theorem lv_Re_79 : LKV "SinkingChoir$Reader" 79 Y_Pr_divide 0 := ⟨mem_c4 93 rfl rfl, mem_c4 94 rfl rfl, mem_c4 95 rfl rfl, mem_c1 5 rfl rfl, cw_Pr_divide, ⟨by decide +kernel, by decide +kernel, by decide +kernel⟩, by decide⟩
theorem lv_Re_85 : LKV "SinkingChoir$Reader" 85 Y_Pr_close 0 := ⟨mem_c4 117 rfl rfl, mem_c4 118 rfl rfl, mem_c4 119 rfl rfl, mem_c1 5 rfl rfl, cw_Pr_close, ⟨by decide +kernel, by decide +kernel, by decide +kernel⟩, by decide⟩
theorem lv_Re_38 : LKV "SinkingChoir$Reader" 38 Y_Pr_clear 0 := ⟨mem_c3 206 rfl rfl, mem_c3 207 rfl rfl, mem_c3 208 rfl rfl, mem_c1 5 rfl rfl, cw_Pr_clear, ⟨by decide +kernel, by decide +kernel, by decide +kernel⟩, by decide⟩
theorem lv_Re_47 : LKV "SinkingChoir$Reader" 47 Y_Re_clause 1 := ⟨mem_c3 210 rfl rfl, mem_c3 212 rfl rfl, mem_p1 9 rfl, mem_c1 12 rfl rfl, cw_Re_clause, ⟨by decide +kernel, by decide +kernel, by decide +kernel⟩, by decide⟩
theorem lv_X_212 : LKV "SinkingChoir" 212 Y_Re_read 2 := ⟨mem_c3 200 rfl rfl, mem_c3 201 rfl rfl, mem_c3 202 rfl rfl, mem_c1 12 rfl rfl, cw_Re_read, ⟨by decide +kernel, by decide +kernel, by decide +kernel⟩, by decide⟩
theorem lv_X_220 : LKV "SinkingChoir" 220 Y_Re_exchange 1 := ⟨mem_c4 121 rfl rfl, mem_c4 122 rfl rfl, mem_c4 123 rfl rfl, mem_c1 12 rfl rfl, cw_Re_exchange, ⟨by decide +kernel, by decide +kernel, by decide +kernel⟩, by decide⟩
theorem lv_M_336 : LKV "SinkingChoirModel" 336 Y_M_here 0 := ⟨mem_c7 162 rfl rfl, mem_c7 164 rfl rfl, mem_p4 12 rfl, mem_c1 13 rfl rfl, cw_M_here, ⟨by decide +kernel, by decide +kernel, by decide +kernel⟩, by decide⟩
theorem lv_M_339 : LKV "SinkingChoirModel" 339 Y_M_puts 1 := ⟨mem_c7 182 rfl rfl, mem_c7 184 rfl rfl, mem_p5 1 rfl, mem_c1 13 rfl rfl, cw_M_puts, ⟨by decide +kernel, by decide +kernel, by decide +kernel⟩, by decide⟩
theorem lv_M_333 : LKV "SinkingChoirModel" 333 Y_M_wrongs 2 := ⟨mem_c7 166 rfl rfl, mem_c7 168 rfl rfl, mem_p4 13 rfl, mem_c1 13 rfl rfl, cw_M_wrongs, ⟨by decide +kernel, by decide +kernel, by decide +kernel⟩, by decide⟩
theorem lv_M_320 : LKV "SinkingChoirModel" 320 Y_M_isGood 0 := ⟨mem_c7 154 rfl rfl, mem_c7 156 rfl rfl, mem_p4 10 rfl, mem_c1 13 rfl rfl, cw_M_isGood, ⟨by decide +kernel, by decide +kernel, by decide +kernel⟩, by decide⟩
theorem lv_M_346 : LKV "SinkingChoirModel" 346 Y_M_seesDigit 0 := ⟨mem_c7 186 rfl rfl, mem_c7 188 rfl rfl, mem_p5 2 rfl, mem_c1 13 rfl rfl, cw_M_seesDigit, ⟨by decide +kernel, by decide +kernel, by decide +kernel⟩, by decide⟩
theorem lv_M_358 : LKV "SinkingChoirModel" 358 Y_M_emit 2 := ⟨mem_c7 196 rfl rfl, mem_c7 198 rfl rfl, mem_p5 4 rfl, mem_c1 13 rfl rfl, cw_M_emit, ⟨by decide +kernel, by decide +kernel, by decide +kernel⟩, by decide⟩
theorem lv_M_364 : LKV "SinkingChoirModel" 364 Y_M_reads 0 := ⟨mem_c7 192 rfl rfl, mem_c7 194 rfl rfl, mem_p5 3 rfl, mem_c1 13 rfl rfl, cw_M_reads, ⟨by decide +kernel, by decide +kernel, by decide +kernel⟩, by decide⟩
theorem lv_M_361 : LKV "SinkingChoirModel" 361 Y_M_opens 0 := ⟨mem_c7 178 rfl rfl, mem_c7 180 rfl rfl, mem_p5 0 rfl, mem_c1 13 rfl rfl, cw_M_opens, ⟨by decide +kernel, by decide +kernel, by decide +kernel⟩, by decide⟩
theorem lv_M_349 : LKV "SinkingChoirModel" 349 Y_M_top 0 := ⟨mem_c7 217 rfl rfl, mem_c7 219 rfl rfl, mem_p5 7 rfl, mem_c1 13 rfl rfl, cw_M_top, ⟨by decide +kernel, by decide +kernel, by decide +kernel⟩, by decide⟩
theorem lv_M_370 : LKV "SinkingChoirModel" 370 Y_M_sums 1 := ⟨mem_c7 213 rfl rfl, mem_c7 215 rfl rfl, mem_p5 6 rfl, mem_c1 13 rfl rfl, cw_M_sums, ⟨by decide +kernel, by decide +kernel, by decide +kernel⟩, by decide⟩
theorem lv_M_381 : LKV "SinkingChoirModel" 381 Y_M_stays 0 := ⟨mem_c7 203 rfl rfl, mem_c7 205 rfl rfl, mem_p5 5 rfl, mem_c1 13 rfl rfl, cw_M_stays, ⟨by decide +kernel, by decide +kernel, by decide +kernel⟩, by decide⟩
theorem lv_M_378 : LKV "SinkingChoirModel" 378 Y_M_factor 0 := ⟨mem_c7 174 rfl rfl, mem_c7 176 rfl rfl, mem_p4 15 rfl, mem_c1 13 rfl rfl, cw_M_factor, ⟨by decide +kernel, by decide +kernel, by decide +kernel⟩, by decide⟩
theorem lv_M_384 : LKV "SinkingChoirModel" 384 Y_M_value 0 := ⟨mem_c7 170 rfl rfl, mem_c7 172 rfl rfl, mem_p4 14 rfl, mem_c1 13 rfl rfl, cw_M_value, ⟨by decide +kernel, by decide +kernel, by decide +kernel⟩, by decide⟩
theorem lv_M_390 : LKV "SinkingChoirModel" 390 Y_M_ends 0 := ⟨mem_c7 232 rfl rfl, mem_c7 234 rfl rfl, mem_p5 10 rfl, mem_c1 13 rfl rfl, cw_M_ends, ⟨by decide +kernel, by decide +kernel, by decide +kernel⟩, by decide⟩
theorem lv_M_393 : LKV "SinkingChoirModel" 393 Y_M_joins 1 := ⟨mem_c8 0 rfl rfl, mem_c8 2 rfl rfl, mem_p5 12 rfl, mem_c1 13 rfl rfl, cw_M_joins, ⟨by decide +kernel, by decide +kernel, by decide +kernel⟩, by decide⟩
theorem lv_M_402 : LKV "SinkingChoirModel" 402 Y_M_goesBehind 0 := ⟨mem_c7 236 rfl rfl, mem_c7 238 rfl rfl, mem_p5 11 rfl, mem_c1 13 rfl rfl, cw_M_goesBehind, ⟨by decide +kernel, by decide +kernel, by decide +kernel⟩, by decide⟩
theorem lv_M_399 : LKV "SinkingChoirModel" 399 Y_M_pieceOfC 0 := ⟨mem_c7 225 rfl rfl, mem_c7 227 rfl rfl, mem_p5 9 rfl, mem_c1 13 rfl rfl, cw_M_pieceOfC, ⟨by decide +kernel, by decide +kernel, by decide +kernel⟩, by decide⟩
theorem lv_M_408 : LKV "SinkingChoirModel" 408 Y_M_condition 0 := ⟨mem_c7 221 rfl rfl, mem_c7 223 rfl rfl, mem_p5 8 rfl, mem_c1 13 rfl rfl, cw_M_condition, ⟨by decide +kernel, by decide +kernel, by decide +kernel⟩, by decide⟩
theorem lv_M_413 : LKV "SinkingChoirModel" 413 Y_M_clause 0 := ⟨mem_c7 158 rfl rfl, mem_c7 160 rfl rfl, mem_p4 11 rfl, mem_c1 13 rfl rfl, cw_M_clause, ⟨by decide +kernel, by decide +kernel, by decide +kernel⟩, by decide⟩
theorem lv_Ch_51 : LKV "SinkingChoir$Choir" 51 Y_Ch_has 1 := ⟨mem_c4 133 rfl rfl, mem_c3 159 rfl rfl, mem_c3 160 rfl rfl, mem_c1 4 rfl rfl, cw_Ch_has, ⟨by decide +kernel, by decide +kernel, by decide +kernel⟩, by decide⟩
theorem lv_Ch_55 : LKV "SinkingChoir$Choir" 55 Y_Sc_sounds 2 := ⟨mem_c4 134 rfl rfl, mem_c2 186 rfl rfl, mem_c2 187 rfl rfl, mem_c1 2 rfl rfl, cw_Sc_sounds, ⟨by decide +kernel, by decide +kernel, by decide +kernel⟩, by decide⟩
theorem lv_Ch_61 : LKV "SinkingChoir$Choir" 61 Y_Ch_sings 2 := ⟨mem_c4 147 rfl rfl, mem_c4 130 rfl rfl, mem_c4 131 rfl rfl, mem_c1 4 rfl rfl, cw_Ch_sings, ⟨by decide +kernel, by decide +kernel, by decide +kernel⟩, by decide⟩
theorem lv_Si_171 : LKV "SinkingChoir$Singing" 171 Y_Ch_tableOf 2 := ⟨mem_c4 161 rfl rfl, mem_c4 162 rfl rfl, mem_c4 163 rfl rfl, mem_c1 4 rfl rfl, cw_Ch_tableOf, ⟨by decide +kernel, by decide +kernel, by decide +kernel⟩, by decide⟩
theorem lv_Si_102 : LKV "SinkingChoir$Singing" 102 Y_Ch_lastNote 2 := ⟨mem_c4 152 rfl rfl, mem_c4 153 rfl rfl, mem_c4 154 rfl rfl, mem_c1 4 rfl rfl, cw_Ch_lastNote, ⟨by decide +kernel, by decide +kernel, by decide +kernel⟩, by decide⟩
theorem lv_Si_106 : LKV "SinkingChoir$Singing" 106 Y_Si_tableOf 2 := ⟨mem_c4 156 rfl rfl, mem_c4 158 rfl rfl, mem_p2 6 rfl, mem_c1 6 rfl rfl, cw_Si_tableOf, ⟨by decide +kernel, by decide +kernel, by decide +kernel⟩, by decide⟩
theorem lv_Si_144 : LKV "SinkingChoir$Singing" 144 Y_Si_isKnowing 1 := ⟨mem_c4 179 rfl rfl, mem_c4 181 rfl rfl, mem_p2 9 rfl, mem_c1 6 rfl rfl, cw_Si_isKnowing, ⟨by decide +kernel, by decide +kernel, by decide +kernel⟩, by decide⟩
theorem lv_Si_151 : LKV "SinkingChoir$Singing" 151 Y_Sc_holds 2 := ⟨mem_c4 183 rfl rfl, mem_c2 182 rfl rfl, mem_c2 183 rfl rfl, mem_c1 2 rfl rfl, cw_Sc_holds, ⟨by decide +kernel, by decide +kernel, by decide +kernel⟩, by decide⟩
theorem lv_Si_159 : LKV "SinkingChoir$Singing" 159 Y_Sc_breathes 2 := ⟨mem_c4 185 rfl rfl, mem_c2 211 rfl rfl, mem_c2 212 rfl rfl, mem_c1 2 rfl rfl, cw_Sc_breathes, ⟨by decide +kernel, by decide +kernel, by decide +kernel⟩, by decide⟩
theorem lv_Pr_45 : LKV "SinkingChoir$Program" 45 Y_Pr_reckon 3 := ⟨mem_c4 195 rfl rfl, mem_c4 197 rfl rfl, mem_p2 10 rfl, mem_c1 5 rfl rfl, cw_Pr_reckon, ⟨by decide +kernel, by decide +kernel, by decide +kernel⟩, by decide⟩
theorem lv_Si_183 : LKV "SinkingChoir$Singing" 183 Y_Si_millsOf 2 := ⟨mem_c4 214 rfl rfl, mem_c4 216 rfl rfl, mem_p2 11 rfl, mem_c1 6 rfl rfl, cw_Si_millsOf, ⟨by decide +kernel, by decide +kernel, by decide +kernel⟩, by decide⟩
theorem lv_Si_186 : LKV "SinkingChoir$Singing" 186 Y_Si_givenIn 1 := ⟨mem_c4 218 rfl rfl, mem_c4 220 rfl rfl, mem_p2 12 rfl, mem_c1 6 rfl rfl, cw_Si_givenIn, ⟨by decide +kernel, by decide +kernel, by decide +kernel⟩, by decide⟩
theorem lv_Si_94 : LKV "SinkingChoir$Singing" 94 Y_Ch_sings 2 := ⟨mem_c4 169 rfl rfl, mem_c4 130 rfl rfl, mem_c4 131 rfl rfl, mem_c1 4 rfl rfl, cw_Ch_sings, ⟨by decide +kernel, by decide +kernel, by decide +kernel⟩, by decide⟩
theorem lv_Si_111 : LKV "SinkingChoir$Singing" 111 Y_Si_tellLetters 3 := ⟨mem_c4 175 rfl rfl, mem_c4 177 rfl rfl, mem_p2 8 rfl, mem_c1 6 rfl rfl, cw_Si_tellLetters, ⟨by decide +kernel, by decide +kernel, by decide +kernel⟩, by decide⟩
theorem lv_Si_119 : LKV "SinkingChoir$Singing" 119 Y_Pr_weigh 2 := ⟨mem_c4 190 rfl rfl, mem_c4 191 rfl rfl, mem_c4 192 rfl rfl, mem_c1 5 rfl rfl, cw_Pr_weigh, ⟨by decide +kernel, by decide +kernel, by decide +kernel⟩, by decide⟩
theorem lv_Si_125 : LKV "SinkingChoir$Singing" 125 Y_Si_aim 4 := ⟨mem_c4 206 rfl rfl, mem_c4 207 rfl rfl, mem_c4 208 rfl rfl, mem_c1 6 rfl rfl, cw_Si_aim, ⟨by decide +kernel, by decide +kernel, by decide +kernel⟩, by decide⟩
theorem lv_Si_129 : LKV "SinkingChoir$Singing" 129 Y_Si_blend 4 := ⟨mem_c4 222 rfl rfl, mem_c4 223 rfl rfl, mem_c4 224 rfl rfl, mem_c1 6 rfl rfl, cw_Si_blend, ⟨by decide +kernel, by decide +kernel, by decide +kernel⟩, by decide⟩
theorem lv_Si_80 : LKV "SinkingChoir$Singing" 80 Y_Ch_howMany 1 := ⟨mem_c4 143 rfl rfl, mem_c4 144 rfl rfl, mem_c4 145 rfl rfl, mem_c1 4 rfl rfl, cw_Ch_howMany, ⟨by decide +kernel, by decide +kernel, by decide +kernel⟩, by decide⟩
theorem lv_Si_98 : LKV "SinkingChoir$Singing" 98 Y_Si_singNote 2 := ⟨mem_c4 170 rfl rfl, mem_c4 172 rfl rfl, mem_p2 7 rfl, mem_c1 6 rfl rfl, cw_Si_singNote, ⟨by decide +kernel, by decide +kernel, by decide +kernel⟩, by decide⟩
theorem lv_Si_87 : LKV "SinkingChoir$Singing" 87 Y_Si_giveAgain 1 := ⟨mem_c4 148 rfl rfl, mem_c4 150 rfl rfl, mem_p2 5 rfl, mem_c1 6 rfl rfl, cw_Si_giveAgain, ⟨by decide +kernel, by decide +kernel, by decide +kernel⟩, by decide⟩
theorem lv_Si_60 : LKV "SinkingChoir$Singing" 60 Y_Si_sing 4 := ⟨mem_c4 139 rfl rfl, mem_c4 140 rfl rfl, mem_c4 141 rfl rfl, mem_c1 6 rfl rfl, cw_Si_sing, ⟨by decide +kernel, by decide +kernel, by decide +kernel⟩, by decide⟩
theorem lv_X_229 : LKV "SinkingChoir" 229 Y_Ch_sings 2 := ⟨mem_c4 129 rfl rfl, mem_c4 130 rfl rfl, mem_c4 131 rfl rfl, mem_c1 4 rfl rfl, cw_Ch_sings, ⟨by decide +kernel, by decide +kernel, by decide +kernel⟩, by decide⟩
theorem lv_X_232 : LKV "SinkingChoir" 232 Y_Si_asTold 0 := ⟨mem_c4 135 rfl rfl, mem_c4 136 rfl rfl, mem_c4 137 rfl rfl, mem_c1 6 rfl rfl, cw_Si_asTold, ⟨by decide +kernel, by decide +kernel, by decide +kernel⟩, by decide⟩
theorem lv_X_235 : LKV "SinkingChoir" 235 Y_Si_sung 2 := ⟨mem_c4 226 rfl rfl, mem_c4 227 rfl rfl, mem_c4 228 rfl rfl, mem_c1 6 rfl rfl, cw_Si_sung, ⟨by decide +kernel, by decide +kernel, by decide +kernel⟩, by decide⟩
theorem lv_M_423 : LKV "SinkingChoirModel" 423 Y_M_sings 2 := ⟨mem_c8 8 rfl rfl, mem_c8 10 rfl rfl, mem_p5 13 rfl, mem_c1 13 rfl rfl, cw_M_sings, ⟨by decide +kernel, by decide +kernel, by decide +kernel⟩, by decide⟩
theorem lv_M_465 : LKV "SinkingChoirModel" 465 Y_M_hearsOf 2 := ⟨mem_c8 45 rfl rfl, mem_c8 47 rfl rfl, mem_p6 5 rfl, mem_c1 13 rfl rfl, cw_M_hearsOf, ⟨by decide +kernel, by decide +kernel, by decide +kernel⟩, by decide⟩
theorem lv_M_468 : LKV "SinkingChoirModel" 468 Y_M_sizeFor 2 := ⟨mem_c8 49 rfl rfl, mem_c8 51 rfl rfl, mem_p6 6 rfl, mem_c1 13 rfl rfl, cw_M_sizeFor, ⟨by decide +kernel, by decide +kernel, by decide +kernel⟩, by decide⟩
theorem lv_M_432 : LKV "SinkingChoirModel" 432 Y_M_keyOf 2 := ⟨mem_c8 27 rfl rfl, mem_c8 29 rfl rfl, mem_p6 1 rfl, mem_c1 13 rfl rfl, cw_M_keyOf, ⟨by decide +kernel, by decide +kernel, by decide +kernel⟩, by decide⟩
theorem lv_M_435 : LKV "SinkingChoirModel" 435 Y_M_leapOf 0 := ⟨mem_c8 75 rfl rfl, mem_c8 77 rfl rfl, mem_p6 11 rfl, mem_c1 13 rfl rfl, cw_M_leapOf, ⟨by decide +kernel, by decide +kernel, by decide +kernel⟩, by decide⟩
theorem lv_M_438 : LKV "SinkingChoirModel" 438 Y_M_singing 1 := ⟨mem_c8 79 rfl rfl, mem_c8 81 rfl rfl, mem_p6 12 rfl, mem_c1 13 rfl rfl, cw_M_singing, ⟨by decide +kernel, by decide +kernel, by decide +kernel⟩, by decide⟩
theorem lv_M_441 : LKV "SinkingChoirModel" 441 Y_M_tableOf 1 := ⟨mem_c8 31 rfl rfl, mem_c8 33 rfl rfl, mem_p6 2 rfl, mem_c1 13 rfl rfl, cw_M_tableOf, ⟨by decide +kernel, by decide +kernel, by decide +kernel⟩, by decide⟩
theorem lv_M_459 : LKV "SinkingChoirModel" 459 Y_M_valueOf 1 := ⟨mem_c8 71 rfl rfl, mem_c8 73 rfl rfl, mem_p6 10 rfl, mem_c1 13 rfl rfl, cw_M_valueOf, ⟨by decide +kernel, by decide +kernel, by decide +kernel⟩, by decide⟩
theorem lv_M_456 : LKV "SinkingChoirModel" 456 Y_M_does 2 := ⟨mem_c8 64 rfl rfl, mem_c8 66 rfl rfl, mem_p6 9 rfl, mem_c1 13 rfl rfl, cw_M_does, ⟨by decide +kernel, by decide +kernel, by decide +kernel⟩, by decide⟩
theorem lv_M_462 : LKV "SinkingChoirModel" 462 Y_M_works 2 := ⟨mem_c8 60 rfl rfl, mem_c8 62 rfl rfl, mem_p6 8 rfl, mem_c1 13 rfl rfl, cw_M_works, ⟨by decide +kernel, by decide +kernel, by decide +kernel⟩, by decide⟩
theorem lv_M_484 : LKV "SinkingChoirModel" 484 Y_M_listens 2 := ⟨mem_c8 41 rfl rfl, mem_c8 43 rfl rfl, mem_p6 4 rfl, mem_c1 13 rfl rfl, cw_M_listens, ⟨by decide +kernel, by decide +kernel, by decide +kernel⟩, by decide⟩
theorem lv_M_487 : LKV "SinkingChoirModel" 487 Y_M_tells 3 := ⟨mem_c8 56 rfl rfl, mem_c8 58 rfl rfl, mem_p6 7 rfl, mem_c1 13 rfl rfl, cw_M_tells, ⟨by decide +kernel, by decide +kernel, by decide +kernel⟩, by decide⟩
theorem lv_M_493 : LKV "SinkingChoirModel" 493 Y_M_aimOf 6 := ⟨mem_c8 84 rfl rfl, mem_c8 86 rfl rfl, mem_p6 13 rfl, mem_c1 13 rfl rfl, cw_M_aimOf, ⟨by decide +kernel, by decide +kernel, by decide +kernel⟩, by decide⟩
theorem lv_M_503 : LKV "SinkingChoirModel" 503 Y_M_singsNote 2 := ⟨mem_c8 36 rfl rfl, mem_c8 38 rfl rfl, mem_p6 3 rfl, mem_c1 13 rfl rfl, cw_M_singsNote, ⟨by decide +kernel, by decide +kernel, by decide +kernel⟩, by decide⟩
theorem lv_M_506 : LKV "SinkingChoirModel" 506 Y_M_readies 0 := ⟨mem_c8 16 rfl rfl, mem_c8 18 rfl rfl, mem_p5 15 rfl, mem_c1 13 rfl rfl, cw_M_readies, ⟨by decide +kernel, by decide +kernel, by decide +kernel⟩, by decide⟩
theorem lv_M_509 : LKV "SinkingChoirModel" 509 Y_M_isSung 0 := ⟨mem_c8 20 rfl rfl, mem_c8 22 rfl rfl, mem_p6 0 rfl, mem_c1 13 rfl rfl, cw_M_isSung, ⟨by decide +kernel, by decide +kernel, by decide +kernel⟩, by decide⟩
theorem lv_M_525 : LKV "SinkingChoirModel" 525 Y_M_plainly 0 := ⟨mem_c8 12 rfl rfl, mem_c8 14 rfl rfl, mem_p5 14 rfl, mem_c1 13 rfl rfl, cw_M_plainly, ⟨by decide +kernel, by decide +kernel, by decide +kernel⟩, by decide⟩
theorem lv_Si_189 : LKV "SinkingChoir$Singing" 189 Y_Si_sung 2 := ⟨mem_c5 0 rfl rfl, mem_c4 227 rfl rfl, mem_c4 228 rfl rfl, mem_c1 6 rfl rfl, cw_Si_sung, ⟨by decide +kernel, by decide +kernel, by decide +kernel⟩, by decide⟩
theorem lv_Ch_90 : LKV "SinkingChoir$Choir" 90 Y_Ch_tableOf 2 := ⟨mem_c5 17 rfl rfl, mem_c4 162 rfl rfl, mem_c4 163 rfl rfl, mem_c1 4 rfl rfl, cw_Ch_tableOf, ⟨by decide +kernel, by decide +kernel, by decide +kernel⟩, by decide⟩
theorem lv_Ch_81 : LKV "SinkingChoir$Choir" 81 Y_Ch_above 2 := ⟨mem_c5 12 rfl rfl, mem_c5 14 rfl rfl, mem_p2 13 rfl, mem_c1 4 rfl rfl, cw_Ch_above, ⟨by decide +kernel, by decide +kernel, by decide +kernel⟩, by decide⟩
theorem lv_X_241 : LKV "SinkingChoir" 241 Y_Ch_howMany 1 := ⟨mem_c4 235 rfl rfl, mem_c4 144 rfl rfl, mem_c4 145 rfl rfl, mem_c1 4 rfl rfl, cw_Ch_howMany, ⟨by decide +kernel, by decide +kernel, by decide +kernel⟩, by decide⟩
theorem lv_X_244 : LKV "SinkingChoir" 244 Y_Si_off 1 := ⟨mem_c4 236 rfl rfl, mem_c4 237 rfl rfl, mem_c4 238 rfl rfl, mem_c1 6 rfl rfl, cw_Si_off, ⟨by decide +kernel, by decide +kernel, by decide +kernel⟩, by decide⟩
theorem lv_X_248 : LKV "SinkingChoir" 248 Y_Si_foul 1 := ⟨mem_c5 1 rfl rfl, mem_c5 2 rfl rfl, mem_c5 3 rfl rfl, mem_c1 6 rfl rfl, cw_Si_foul, ⟨by decide +kernel, by decide +kernel, by decide +kernel⟩, by decide⟩
theorem lv_X_251 : LKV "SinkingChoir" 251 Y_Ch_tableFoul 1 := ⟨mem_c5 8 rfl rfl, mem_c5 9 rfl rfl, mem_c5 10 rfl rfl, mem_c1 4 rfl rfl, cw_Ch_tableFoul, ⟨by decide +kernel, by decide +kernel, by decide +kernel⟩, by decide⟩
theorem lv_M_532 : LKV "SinkingChoirModel" 532 Y_M_tableFoul 1 := ⟨mem_c8 102 rfl rfl, mem_c8 104 rfl rfl, mem_p7 0 rfl, mem_c1 13 rfl rfl, cw_M_tableFoul, ⟨by decide +kernel, by decide +kernel, by decide +kernel⟩, by decide⟩
theorem lv_M_512 : LKV "SinkingChoirModel" 512 Y_M_foulOf 1 := ⟨mem_c8 98 rfl rfl, mem_c8 100 rfl rfl, mem_p6 15 rfl, mem_c1 13 rfl rfl, cw_M_foulOf, ⟨by decide +kernel, by decide +kernel, by decide +kernel⟩, by decide⟩
theorem lv_M_519 : LKV "SinkingChoirModel" 519 Y_M_offOf 1 := ⟨mem_c8 94 rfl rfl, mem_c8 96 rfl rfl, mem_p6 14 rfl, mem_c1 13 rfl rfl, cw_M_offOf, ⟨by decide +kernel, by decide +kernel, by decide +kernel⟩, by decide⟩
theorem lv_Ch_68 : LKV "SinkingChoir$Choir" 68 Y_Ch_howMany 1 := ⟨mem_c5 26 rfl rfl, mem_c4 144 rfl rfl, mem_c4 145 rfl rfl, mem_c1 4 rfl rfl, cw_Ch_howMany, ⟨by decide +kernel, by decide +kernel, by decide +kernel⟩, by decide⟩
theorem lv_Si_199 : LKV "SinkingChoir$Singing" 199 Y_Ch_lastBeat 0 := ⟨mem_c5 35 rfl rfl, mem_c5 28 rfl rfl, mem_c5 29 rfl rfl, mem_c1 4 rfl rfl, cw_Ch_lastBeat, ⟨by decide +kernel, by decide +kernel, by decide +kernel⟩, by decide⟩
theorem lv_Si_202 : LKV "SinkingChoir$Singing" 202 Y_Si_off 1 := ⟨mem_c5 36 rfl rfl, mem_c4 237 rfl rfl, mem_c4 238 rfl rfl, mem_c1 6 rfl rfl, cw_Si_off, ⟨by decide +kernel, by decide +kernel, by decide +kernel⟩, by decide⟩
theorem lv_Si_205 : LKV "SinkingChoir$Singing" 205 Y_Ch_firstBeat 0 := ⟨mem_c5 37 rfl rfl, mem_c5 23 rfl rfl, mem_c5 24 rfl rfl, mem_c1 4 rfl rfl, cw_Ch_firstBeat, ⟨by decide +kernel, by decide +kernel, by decide +kernel⟩, by decide⟩
theorem lv_Ch_64 : LKV "SinkingChoir$Choir" 64 Y_Ch_lastNote 2 := ⟨mem_c5 46 rfl rfl, mem_c4 153 rfl rfl, mem_c4 154 rfl rfl, mem_c1 4 rfl rfl, cw_Ch_lastNote, ⟨by decide +kernel, by decide +kernel, by decide +kernel⟩, by decide⟩
theorem lv_Si_208 : LKV "SinkingChoir$Singing" 208 Y_Ch_howManySing 0 := ⟨mem_c5 42 rfl rfl, mem_c5 43 rfl rfl, mem_c5 44 rfl rfl, mem_c1 4 rfl rfl, cw_Ch_howManySing, ⟨by decide +kernel, by decide +kernel, by decide +kernel⟩, by decide⟩
theorem lv_Si_195 : LKV "SinkingChoir$Singing" 195 Y_Si_foul 1 := ⟨mem_c5 51 rfl rfl, mem_c5 2 rfl rfl, mem_c5 3 rfl rfl, mem_c1 6 rfl rfl, cw_Si_foul, ⟨by decide +kernel, by decide +kernel, by decide +kernel⟩, by decide⟩
theorem lv_X_254 : LKV "SinkingChoir" 254 Y_Ch_firstBeat 0 := ⟨mem_c5 22 rfl rfl, mem_c5 23 rfl rfl, mem_c5 24 rfl rfl, mem_c1 4 rfl rfl, cw_Ch_firstBeat, ⟨by decide +kernel, by decide +kernel, by decide +kernel⟩, by decide⟩
theorem lv_X_257 : LKV "SinkingChoir" 257 Y_Ch_lastBeat 0 := ⟨mem_c5 27 rfl rfl, mem_c5 28 rfl rfl, mem_c5 29 rfl rfl, mem_c1 4 rfl rfl, cw_Ch_lastBeat, ⟨by decide +kernel, by decide +kernel, by decide +kernel⟩, by decide⟩
theorem lv_X_258 : LKV "SinkingChoir" 258 Y_Si_sinking 0 := ⟨mem_c5 31 rfl rfl, mem_c5 32 rfl rfl, mem_c5 33 rfl rfl, mem_c1 6 rfl rfl, cw_Si_sinking, ⟨by decide +kernel, by decide +kernel, by decide +kernel⟩, by decide⟩
theorem lv_X_262 : LKV "SinkingChoir" 262 Y_Si_drifting 0 := ⟨mem_c5 38 rfl rfl, mem_c5 39 rfl rfl, mem_c5 40 rfl rfl, mem_c1 6 rfl rfl, cw_Si_drifting, ⟨by decide +kernel, by decide +kernel, by decide +kernel⟩, by decide⟩
theorem lv_X_265 : LKV "SinkingChoir" 265 Y_Si_foulTogether 0 := ⟨mem_c5 47 rfl rfl, mem_c5 48 rfl rfl, mem_c5 49 rfl rfl, mem_c1 6 rfl rfl, cw_Si_foulTogether, ⟨by decide +kernel, by decide +kernel, by decide +kernel⟩, by decide⟩
theorem lv_M_516 : LKV "SinkingChoirModel" 516 Y_M_lastSung 0 := ⟨mem_c8 119 rfl rfl, mem_c8 121 rfl rfl, mem_p7 3 rfl, mem_c1 13 rfl rfl, cw_M_lastSung, ⟨by decide +kernel, by decide +kernel, by decide +kernel⟩, by decide⟩
theorem lv_M_522 : LKV "SinkingChoirModel" 522 Y_M_firstSung 0 := ⟨mem_c8 110 rfl rfl, mem_c8 112 rfl rfl, mem_p7 1 rfl, mem_c1 13 rfl rfl, cw_M_firstSung, ⟨by decide +kernel, by decide +kernel, by decide +kernel⟩, by decide⟩
theorem lv_M_537 : LKV "SinkingChoirModel" 537 Y_M_sunkNow 0 := ⟨mem_c8 115 rfl rfl, mem_c8 117 rfl rfl, mem_p7 2 rfl, mem_c1 13 rfl rfl, cw_M_sunkNow, ⟨by decide +kernel, by decide +kernel, by decide +kernel⟩, by decide⟩
theorem lv_M_541 : LKV "SinkingChoirModel" 541 Y_M_sungMany 0 := ⟨mem_c8 123 rfl rfl, mem_c8 125 rfl rfl, mem_p7 4 rfl, mem_c1 13 rfl rfl, cw_M_sungMany, ⟨by decide +kernel, by decide +kernel, by decide +kernel⟩, by decide⟩
theorem lv_M_544 : LKV "SinkingChoirModel" 544 Y_M_allFoul 0 := ⟨mem_c8 127 rfl rfl, mem_c8 129 rfl rfl, mem_p7 5 rfl, mem_c1 13 rfl rfl, cw_M_allFoul, ⟨by decide +kernel, by decide +kernel, by decide +kernel⟩, by decide⟩
theorem lv_St_78 : LKV "SinkingChoir$Standing" 78 Y_St_swap 2 := ⟨mem_c5 71 rfl rfl, mem_c5 73 rfl rfl, mem_p2 15 rfl, mem_c1 8 rfl rfl, cw_St_swap, ⟨by decide +kernel, by decide +kernel, by decide +kernel⟩, by decide⟩
theorem lv_St_39 : LKV "SinkingChoir$Standing" 39 Y_St_sort 1 := ⟨mem_c5 67 rfl rfl, mem_c5 69 rfl rfl, mem_p2 14 rfl, mem_c1 8 rfl rfl, cw_St_sort, ⟨by decide +kernel, by decide +kernel, by decide +kernel⟩, by decide⟩
theorem lv_St_46 : LKV "SinkingChoir$Standing" 46 Y_Si_sing 4 := ⟨mem_c5 75 rfl rfl, mem_c4 140 rfl rfl, mem_c4 141 rfl rfl, mem_c1 6 rfl rfl, cw_Si_sing, ⟨by decide +kernel, by decide +kernel, by decide +kernel⟩, by decide⟩
theorem lv_St_52 : LKV "SinkingChoir$Standing" 52 Y_Si_sinking 0 := ⟨mem_c5 76 rfl rfl, mem_c5 32 rfl rfl, mem_c5 33 rfl rfl, mem_c1 6 rfl rfl, cw_Si_sinking, ⟨by decide +kernel, by decide +kernel, by decide +kernel⟩, by decide⟩
theorem lv_St_65 : LKV "SinkingChoir$Standing" 65 Y_Si_foulTogether 0 := ⟨mem_c5 78 rfl rfl, mem_c5 48 rfl rfl, mem_c5 49 rfl rfl, mem_c1 6 rfl rfl, cw_Si_foulTogether, ⟨by decide +kernel, by decide +kernel, by decide +kernel⟩, by decide⟩
theorem lv_St_71 : LKV "SinkingChoir$Standing" 71 Y_St_next 0 := ⟨mem_c5 79 rfl rfl, mem_c5 81 rfl rfl, mem_p3 0 rfl, mem_c1 8 rfl rfl, cw_St_next, ⟨by decide +kernel, by decide +kernel, by decide +kernel⟩, by decide⟩
theorem lv_X_277 : LKV "SinkingChoir" 277 Y_St_find 1 := ⟨mem_c5 62 rfl rfl, mem_c5 63 rfl rfl, mem_c5 64 rfl rfl, mem_c1 8 rfl rfl, cw_St_find, ⟨by decide +kernel, by decide +kernel, by decide +kernel⟩, by decide⟩
theorem lv_M_547 : LKV "SinkingChoirModel" 547 Y_M_swaps 2 := ⟨mem_c8 140 rfl rfl, mem_c8 142 rfl rfl, mem_p7 6 rfl, mem_c1 13 rfl rfl, cw_M_swaps, ⟨by decide +kernel, by decide +kernel, by decide +kernel⟩, by decide⟩
theorem lv_M_552 : LKV "SinkingChoirModel" 552 Y_M_stepsOn 0 := ⟨mem_c8 144 rfl rfl, mem_c8 146 rfl rfl, mem_p7 7 rfl, mem_c1 13 rfl rfl, cw_M_stepsOn, ⟨by decide +kernel, by decide +kernel, by decide +kernel⟩, by decide⟩
theorem lv_Le_72 : LKV "SinkingChoir$Leading" 72 Y_Si_off 1 := ⟨mem_c5 100 rfl rfl, mem_c4 237 rfl rfl, mem_c4 238 rfl rfl, mem_c1 6 rfl rfl, cw_Si_off, ⟨by decide +kernel, by decide +kernel, by decide +kernel⟩, by decide⟩
theorem lv_Le_23 : LKV "SinkingChoir$Leading" 23 Y_Ch_firstBeat 0 := ⟨mem_c5 93 rfl rfl, mem_c5 23 rfl rfl, mem_c5 24 rfl rfl, mem_c1 4 rfl rfl, cw_Ch_firstBeat, ⟨by decide +kernel, by decide +kernel, by decide +kernel⟩, by decide⟩
theorem lv_Le_29 : LKV "SinkingChoir$Leading" 29 Y_Ch_lastBeat 0 := ⟨mem_c5 94 rfl rfl, mem_c5 28 rfl rfl, mem_c5 29 rfl rfl, mem_c1 4 rfl rfl, cw_Ch_lastBeat, ⟨by decide +kernel, by decide +kernel, by decide +kernel⟩, by decide⟩
theorem lv_Le_36 : LKV "SinkingChoir$Leading" 36 Y_Si_sing 4 := ⟨mem_c5 95 rfl rfl, mem_c4 140 rfl rfl, mem_c4 141 rfl rfl, mem_c1 6 rfl rfl, cw_Si_sing, ⟨by decide +kernel, by decide +kernel, by decide +kernel⟩, by decide⟩
theorem lv_Le_42 : LKV "SinkingChoir$Leading" 42 Y_Le_chart 2 := ⟨mem_c5 96 rfl rfl, mem_c5 98 rfl rfl, mem_p3 1 rfl, mem_c1 9 rfl rfl, cw_Le_chart, ⟨by decide +kernel, by decide +kernel, by decide +kernel⟩, by decide⟩
theorem lv_Le_58 : LKV "SinkingChoir$Leading" 58 Y_Le_farthest 2 := ⟨mem_c5 106 rfl rfl, mem_c5 108 rfl rfl, mem_p3 2 rfl, mem_c1 9 rfl rfl, cw_Le_farthest, ⟨by decide +kernel, by decide +kernel, by decide +kernel⟩, by decide⟩
theorem lv_Le_68 : LKV "SinkingChoir$Leading" 68 Y_Le_consider 2 := ⟨mem_c5 110 rfl rfl, mem_c5 112 rfl rfl, mem_p3 3 rfl, mem_c1 9 rfl rfl, cw_Le_consider, ⟨by decide +kernel, by decide +kernel, by decide +kernel⟩, by decide⟩
theorem lv_X_290 : LKV "SinkingChoir" 290 Y_Le_find 1 := ⟨mem_c5 89 rfl rfl, mem_c5 90 rfl rfl, mem_c5 91 rfl rfl, mem_c1 9 rfl rfl, cw_Le_find, ⟨by decide +kernel, by decide +kernel, by decide +kernel⟩, by decide⟩
theorem lv_M_559 : LKV "SinkingChoirModel" 559 Y_M_farthest 0 := ⟨mem_c8 154 rfl rfl, mem_c8 156 rfl rfl, mem_p7 8 rfl, mem_c1 13 rfl rfl, cw_M_farthest, ⟨by decide +kernel, by decide +kernel, by decide +kernel⟩, by decide⟩
theorem lv_X_297 : LKV "SinkingChoir" 297 Y_Sc_soundsIn 1 := ⟨mem_c5 118 rfl rfl, mem_c3 24 rfl rfl, mem_c3 25 rfl rfl, mem_c1 2 rfl rfl, cw_Sc_soundsIn, ⟨by decide +kernel, by decide +kernel, by decide +kernel⟩, by decide⟩
theorem lv_X_300 : LKV "SinkingChoir" 300 Y_Si_sing 4 := ⟨mem_c5 123 rfl rfl, mem_c4 140 rfl rfl, mem_c4 141 rfl rfl, mem_c1 6 rfl rfl, cw_Si_sing, ⟨by decide +kernel, by decide +kernel, by decide +kernel⟩, by decide⟩
theorem lv_X_306 : LKV "SinkingChoir" 306 Y_Ch_putRecord 3 := ⟨mem_c5 130 rfl rfl, mem_c5 131 rfl rfl, mem_c5 132 rfl rfl, mem_c1 4 rfl rfl, cw_Ch_putRecord, ⟨by decide +kernel, by decide +kernel, by decide +kernel⟩, by decide⟩
theorem lv_Ch_96 : LKV "SinkingChoir$Choir" 96 Y_Ch_isRecorded 2 := ⟨mem_c5 157 rfl rfl, mem_c5 146 rfl rfl, mem_c5 147 rfl rfl, mem_c1 4 rfl rfl, cw_Ch_isRecorded, ⟨by decide +kernel, by decide +kernel, by decide +kernel⟩, by decide⟩
theorem lv_Fi_47 : LKV "SinkingChoir$Fitting" 47 Y_Ch_lastRecord 2 := ⟨mem_c5 153 rfl rfl, mem_c5 154 rfl rfl, mem_c5 155 rfl rfl, mem_c1 4 rfl rfl, cw_Ch_lastRecord, ⟨by decide +kernel, by decide +kernel, by decide +kernel⟩, by decide⟩
theorem lv_Fi_51 : LKV "SinkingChoir$Fitting" 51 Y_Ch_recordOf 2 := ⟨mem_c5 158 rfl rfl, mem_c5 159 rfl rfl, mem_c5 160 rfl rfl, mem_c1 4 rfl rfl, cw_Ch_recordOf, ⟨by decide +kernel, by decide +kernel, by decide +kernel⟩, by decide⟩
theorem lv_Fi_54 : LKV "SinkingChoir$Fitting" 54 Y_Si_aim 4 := ⟨mem_c5 162 rfl rfl, mem_c4 207 rfl rfl, mem_c4 208 rfl rfl, mem_c1 6 rfl rfl, cw_Si_aim, ⟨by decide +kernel, by decide +kernel, by decide +kernel⟩, by decide⟩
theorem lv_Fi_60 : LKV "SinkingChoir$Fitting" 60 Y_Si_blend 4 := ⟨mem_c5 163 rfl rfl, mem_c4 223 rfl rfl, mem_c4 224 rfl rfl, mem_c1 6 rfl rfl, cw_Si_blend, ⟨by decide +kernel, by decide +kernel, by decide +kernel⟩, by decide⟩
theorem lv_Fi_33 : LKV "SinkingChoir$Fitting" 33 Y_Ch_isRecorded 2 := ⟨mem_c5 145 rfl rfl, mem_c5 146 rfl rfl, mem_c5 147 rfl rfl, mem_c1 4 rfl rfl, cw_Ch_isRecorded, ⟨by decide +kernel, by decide +kernel, by decide +kernel⟩, by decide⟩
theorem lv_Fi_39 : LKV "SinkingChoir$Fitting" 39 Y_Fi_addBeat 2 := ⟨mem_c5 149 rfl rfl, mem_c5 151 rfl rfl, mem_p3 4 rfl, mem_c1 10 rfl rfl, cw_Fi_addBeat, ⟨by decide +kernel, by decide +kernel, by decide +kernel⟩, by decide⟩
theorem lv_X_310 : LKV "SinkingChoir" 310 Y_Fi_find 1 := ⟨mem_c5 138 rfl rfl, mem_c5 139 rfl rfl, mem_c5 140 rfl rfl, mem_c1 10 rfl rfl, cw_Fi_find, ⟨by decide +kernel, by decide +kernel, by decide +kernel⟩, by decide⟩
theorem lv_X_312 : LKV "SinkingChoir" 312 Y_Fi_told 1 := ⟨mem_c5 165 rfl rfl, mem_c5 166 rfl rfl, mem_c5 167 rfl rfl, mem_c1 10 rfl rfl, cw_Fi_told, ⟨by decide +kernel, by decide +kernel, by decide +kernel⟩, by decide⟩
theorem lv_M_566 : LKV "SinkingChoirModel" 566 Y_M_isTaped 2 := ⟨mem_c8 176 rfl rfl, mem_c8 178 rfl rfl, mem_p7 9 rfl, mem_c1 13 rfl rfl, cw_M_isTaped, ⟨by decide +kernel, by decide +kernel, by decide +kernel⟩, by decide⟩
theorem lv_M_569 : LKV "SinkingChoirModel" 569 Y_M_differs 4 := ⟨mem_c8 180 rfl rfl, mem_c8 182 rfl rfl, mem_p7 10 rfl, mem_c1 13 rfl rfl, cw_M_differs, ⟨by decide +kernel, by decide +kernel, by decide +kernel⟩, by decide⟩
theorem lv_X_314 : LKV "SinkingChoir" 314 Y_X_minded 3 := ⟨mem_c5 173 rfl rfl, mem_c5 175 rfl rfl, mem_p3 5 rfl, mem_c1 1 rfl rfl, cw_X_minded, ⟨by decide +kernel, by decide +kernel, by decide +kernel⟩, by decide⟩
theorem lv_M_577 : LKV "SinkingChoirModel" 577 Y_M_minds 2 := ⟨mem_c8 190 rfl rfl, mem_c8 192 rfl rfl, mem_p7 11 rfl, mem_c1 13 rfl rfl, cw_M_minds, ⟨by decide +kernel, by decide +kernel, by decide +kernel⟩, by decide⟩
theorem lv_X_348 : LKV "SinkingChoir" 348 Y_Rl_number 1 := ⟨mem_c5 187 rfl rfl, mem_c5 188 rfl rfl, mem_c5 189 rfl rfl, mem_c1 11 rfl rfl, cw_Rl_number, ⟨by decide +kernel, by decide +kernel, by decide +kernel⟩, by decide⟩
theorem lv_X_318 : LKV "SinkingChoir" 318 Y_X_firstWrong 1 := ⟨mem_c5 183 rfl rfl, mem_c5 185 rfl rfl, mem_p3 6 rfl, mem_c1 1 rfl rfl, cw_X_firstWrong, ⟨by decide +kernel, by decide +kernel, by decide +kernel⟩, by decide⟩
theorem lv_M_580 : LKV "SinkingChoirModel" 580 Y_M_numberAt 1 := ⟨mem_c8 198 rfl rfl, mem_c8 200 rfl rfl, mem_p7 12 rfl, mem_c1 13 rfl rfl, cw_M_numberAt, ⟨by decide +kernel, by decide +kernel, by decide +kernel⟩, by decide⟩
theorem lv_X_321 : LKV "SinkingChoir" 321 Y_Sc_noteCount 0 := ⟨mem_c5 195 rfl rfl, mem_c5 196 rfl rfl, mem_c5 197 rfl rfl, mem_c1 2 rfl rfl, cw_Sc_noteCount, ⟨by decide +kernel, by decide +kernel, by decide +kernel⟩, by decide⟩
theorem lv_X_324 : LKV "SinkingChoir" 324 Y_Sc_linkCount 0 := ⟨mem_c5 199 rfl rfl, mem_c5 200 rfl rfl, mem_c5 201 rfl rfl, mem_c1 2 rfl rfl, cw_Sc_linkCount, ⟨by decide +kernel, by decide +kernel, by decide +kernel⟩, by decide⟩
theorem ls_Sc_33 : LKS "SinkingChoir$Score" 33 Y_Ar_fill_AI 2 := ⟨mem_c1 37 rfl rfl, mem_c1 38 rfl rfl, mem_c1 3 rfl rfl, cw_Ar_fill_AI, ⟨by decide +kernel, by decide +kernel, by decide +kernel⟩, by decide⟩
theorem ls_Fr_23 : LKS "SinkingChoir$Fraction" 23 Y_Fr_exponent 2 := ⟨mem_c2 160 rfl rfl, mem_c2 161 rfl rfl, mem_c1 14 rfl rfl, cw_Fr_exponent, ⟨by decide +kernel, by decide +kernel, by decide +kernel⟩, by decide⟩
theorem ls_Fr_11 : LKS "SinkingChoir$Fraction" 11 Y_Fr_ofNumber 1 := ⟨mem_c2 151 rfl rfl, mem_c2 152 rfl rfl, mem_c1 14 rfl rfl, cw_Fr_ofNumber, ⟨by decide +kernel, by decide +kernel, by decide +kernel⟩, by decide⟩
theorem ls_Fr_16 : LKS "SinkingChoir$Fraction" 16 Y_Fr_mills 1 := ⟨mem_c2 156 rfl rfl, mem_c2 157 rfl rfl, mem_c1 14 rfl rfl, cw_Fr_mills, ⟨by decide +kernel, by decide +kernel, by decide +kernel⟩, by decide⟩
theorem ls_Sc_46 : LKS "SinkingChoir$Score" 46 Y_Sc_cell 2 := ⟨mem_c2 177 rfl rfl, mem_c2 178 rfl rfl, mem_c1 2 rfl rfl, cw_Sc_cell, ⟨by decide +kernel, by decide +kernel, by decide +kernel⟩, by decide⟩
theorem ls_Sc_50 : LKS "SinkingChoir$Score" 50 Y_Fr_mills 1 := ⟨mem_c2 180 rfl rfl, mem_c2 157 rfl rfl, mem_c1 14 rfl rfl, cw_Fr_mills, ⟨by decide +kernel, by decide +kernel, by decide +kernel⟩, by decide⟩
theorem ls_Sc_43 : LKS "SinkingChoir$Score" 43 Y_Sc_has 2 := ⟨mem_c2 176 rfl rfl, mem_c2 169 rfl rfl, mem_c1 2 rfl rfl, cw_Sc_has, ⟨by decide +kernel, by decide +kernel, by decide +kernel⟩, by decide⟩
theorem ls_X_73 : LKS "SinkingChoir" 73 Y_Fr_of 2 := ⟨mem_c2 148 rfl rfl, mem_c2 149 rfl rfl, mem_c1 14 rfl rfl, cw_Fr_of, ⟨by decide +kernel, by decide +kernel, by decide +kernel⟩, by decide⟩
theorem ls_X_79 : LKS "SinkingChoir" 79 Y_Sc_has 2 := ⟨mem_c2 168 rfl rfl, mem_c2 169 rfl rfl, mem_c1 2 rfl rfl, cw_Sc_has, ⟨by decide +kernel, by decide +kernel, by decide +kernel⟩, by decide⟩
theorem ls_M_145 : LKS "SinkingChoirModel" 145 Y_M_lies 3 := ⟨mem_c6 197 rfl rfl, mem_c6 198 rfl rfl, mem_c1 13 rfl rfl, cw_M_lies, ⟨by decide +kernel, by decide +kernel, by decide +kernel⟩, by decide⟩
theorem ls_M_169 : LKS "SinkingChoirModel" 169 Y_M_powerOf 2 := ⟨mem_c6 206 rfl rfl, mem_c6 207 rfl rfl, mem_c1 13 rfl rfl, cw_M_powerOf, ⟨by decide +kernel, by decide +kernel, by decide +kernel⟩, by decide⟩
theorem ls_M_172 : LKS "SinkingChoirModel" 172 Y_M_mills 3 := ⟨mem_c6 209 rfl rfl, mem_c6 210 rfl rfl, mem_c1 13 rfl rfl, cw_M_mills, ⟨by decide +kernel, by decide +kernel, by decide +kernel⟩, by decide⟩
theorem ls_M_178 : LKS "SinkingChoirModel" 178 Y_M_bare 1 := ⟨mem_c6 200 rfl rfl, mem_c6 201 rfl rfl, mem_c1 13 rfl rfl, cw_M_bare, ⟨by decide +kernel, by decide +kernel, by decide +kernel⟩, by decide⟩
theorem ls_M_182 : LKS "SinkingChoirModel" 182 Y_M_fraction 2 := ⟨mem_c6 203 rfl rfl, mem_c6 204 rfl rfl, mem_c1 13 rfl rfl, cw_M_fraction, ⟨by decide +kernel, by decide +kernel, by decide +kernel⟩, by decide⟩
theorem ls_M_151 : LKS "SinkingChoirModel" 151 Y_M_isVoice 1 := ⟨mem_c6 222 rfl rfl, mem_c6 223 rfl rfl, mem_c1 13 rfl rfl, cw_M_isVoice, ⟨by decide +kernel, by decide +kernel, by decide +kernel⟩, by decide⟩
theorem ls_M_155 : LKS "SinkingChoirModel" 155 Y_M_isBeat 1 := ⟨mem_c6 226 rfl rfl, mem_c6 227 rfl rfl, mem_c1 13 rfl rfl, cw_M_isBeat, ⟨by decide +kernel, by decide +kernel, by decide +kernel⟩, by decide⟩
theorem ls_M_158 : LKS "SinkingChoirModel" 158 Y_M_cellOf 2 := ⟨mem_c6 231 rfl rfl, mem_c6 232 rfl rfl, mem_c1 13 rfl rfl, cw_M_cellOf, ⟨by decide +kernel, by decide +kernel, by decide +kernel⟩, by decide⟩
theorem ls_M_189 : LKS "SinkingChoirModel" 189 Y_M_isFraction 2 := ⟨mem_c6 193 rfl rfl, mem_c6 194 rfl rfl, mem_c1 13 rfl rfl, cw_M_isFraction, ⟨by decide +kernel, by decide +kernel, by decide +kernel⟩, by decide⟩
theorem ls_X_103 : LKS "SinkingChoir" 103 Y_Fr_mills 1 := ⟨mem_c2 219 rfl rfl, mem_c2 157 rfl rfl, mem_c1 14 rfl rfl, cw_Fr_mills, ⟨by decide +kernel, by decide +kernel, by decide +kernel⟩, by decide⟩
theorem ls_X_120 : LKS "SinkingChoir" 120 Y_Fr_exponent 2 := ⟨mem_c2 233 rfl rfl, mem_c2 161 rfl rfl, mem_c1 14 rfl rfl, cw_Fr_exponent, ⟨by decide +kernel, by decide +kernel, by decide +kernel⟩, by decide⟩
theorem ls_Sc_68 : LKS "SinkingChoir$Score" 68 Y_Mt_abs_I 1 := ⟨mem_c3 35 rfl rfl, mem_c3 36 rfl rfl, mem_c1 15 rfl rfl, cw_Mt_abs_I, ⟨by decide +kernel, by decide +kernel, by decide +kernel⟩, by decide⟩
theorem ls_M_225 : LKS "SinkingChoirModel" 225 Y_M_plain 1 := ⟨mem_c7 59 rfl rfl, mem_c7 60 rfl rfl, mem_c1 13 rfl rfl, cw_M_plain, ⟨by decide +kernel, by decide +kernel, by decide +kernel⟩, by decide⟩
theorem ls_Wa_67 : LKS "SinkingChoir$Ways" 67 Y_Mt_min 2 := ⟨mem_c3 102 rfl rfl, mem_c3 103 rfl rfl, mem_c1 15 rfl rfl, cw_Mt_min, ⟨by decide +kernel, by decide +kernel, by decide +kernel⟩, by decide⟩
theorem ls_Wa_75 : LKS "SinkingChoir$Ways" 75 Y_Fr_mills 1 := ⟨mem_c3 117 rfl rfl, mem_c2 157 rfl rfl, mem_c1 14 rfl rfl, cw_Fr_mills, ⟨by decide +kernel, by decide +kernel, by decide +kernel⟩, by decide⟩
theorem ls_Wa_91 : LKS "SinkingChoir$Ways" 91 Y_Ar_fill_AI 2 := ⟨mem_c3 119 rfl rfl, mem_c1 38 rfl rfl, mem_c1 3 rfl rfl, cw_Ar_fill_AI, ⟨by decide +kernel, by decide +kernel, by decide +kernel⟩, by decide⟩
theorem ls_Wa_112 : LKS "SinkingChoir$Ways" 112 Y_Mt_abs_I 1 := ⟨mem_c3 149 rfl rfl, mem_c3 36 rfl rfl, mem_c1 15 rfl rfl, cw_Mt_abs_I, ⟨by decide +kernel, by decide +kernel, by decide +kernel⟩, by decide⟩
theorem ls_Wa_109 : LKS "SinkingChoir$Ways" 109 Y_Wa_nearer 2 := ⟨mem_c3 146 rfl rfl, mem_c3 147 rfl rfl, mem_c1 16 rfl rfl, cw_Wa_nearer, ⟨by decide +kernel, by decide +kernel, by decide +kernel⟩, by decide⟩
theorem ls_SL_88 : LKS "java/lang/StringLatin1" 88 Y_SL_canEncode 1 := ⟨mem_c3 238 rfl rfl, mem_c3 239 rfl rfl, mem_c1 18 rfl rfl, cw_SL_canEncode, ⟨by decide +kernel, by decide +kernel, by decide +kernel⟩, by decide⟩
theorem ls_SL_92 : LKS "java/lang/StringLatin1" 92 Y_Mt_max_II 2 := ⟨mem_c4 1 rfl rfl, mem_c4 2 rfl rfl, mem_c1 15 rfl rfl, cw_Mt_max_II, ⟨by decide +kernel, by decide +kernel, by decide +kernel⟩, by decide⟩
theorem ls_SL_38 : LKS "java/lang/StringLatin1" 38 Y_Mt_min 2 := ⟨mem_c4 4 rfl rfl, mem_c3 103 rfl rfl, mem_c1 15 rfl rfl, cw_Mt_min, ⟨by decide +kernel, by decide +kernel, by decide +kernel⟩, by decide⟩
theorem ls_SL_95 : LKS "java/lang/StringLatin1" 95 Y_SL_indexOfChar 4 := ⟨mem_c4 5 rfl rfl, mem_c4 6 rfl rfl, mem_c1 18 rfl rfl, cw_SL_indexOfChar, ⟨by decide +kernel, by decide +kernel, by decide +kernel⟩, by decide⟩
theorem ls_Str_637 : LKS "java/lang/String" 637 Y_SL_indexOf 4 := ⟨mem_c3 235 rfl rfl, mem_c3 236 rfl rfl, mem_c1 18 rfl rfl, cw_SL_indexOf, ⟨by decide +kernel, by decide +kernel, by decide +kernel⟩, by decide⟩
theorem ls_Re_111 : LKS "SinkingChoir$Reader" 111 Y_Re_isDigit 1 := ⟨mem_c4 82 rfl rfl, mem_c4 83 rfl rfl, mem_c1 12 rfl rfl, cw_Re_isDigit, ⟨by decide +kernel, by decide +kernel, by decide +kernel⟩, by decide⟩
theorem ls_Re_69 : LKS "SinkingChoir$Reader" 69 Y_Re_indexIn 2 := ⟨mem_c3 219 rfl rfl, mem_c3 220 rfl rfl, mem_c1 12 rfl rfl, cw_Re_indexIn, ⟨by decide +kernel, by decide +kernel, by decide +kernel⟩, by decide⟩
theorem ls_Re_22 : LKS "SinkingChoir$Reader" 22 Y_Mt_min 2 := ⟨mem_c3 204 rfl rfl, mem_c3 103 rfl rfl, mem_c1 15 rfl rfl, cw_Mt_min, ⟨by decide +kernel, by decide +kernel, by decide +kernel⟩, by decide⟩
theorem ls_M_367 : LKS "SinkingChoirModel" 367 Y_M_isValue 1 := ⟨mem_c7 200 rfl rfl, mem_c7 201 rfl rfl, mem_c1 13 rfl rfl, cw_M_isValue, ⟨by decide +kernel, by decide +kernel, by decide +kernel⟩, by decide⟩
theorem ls_M_352 : LKS "SinkingChoirModel" 352 Y_M_isTimes 1 := ⟨mem_c7 207 rfl rfl, mem_c7 208 rfl rfl, mem_c1 13 rfl rfl, cw_M_isTimes, ⟨by decide +kernel, by decide +kernel, by decide +kernel⟩, by decide⟩
theorem ls_M_355 : LKS "SinkingChoirModel" 355 Y_M_isPlus 1 := ⟨mem_c7 210 rfl rfl, mem_c7 211 rfl rfl, mem_c1 13 rfl rfl, cw_M_isPlus, ⟨by decide +kernel, by decide +kernel, by decide +kernel⟩, by decide⟩
theorem ls_M_387 : LKS "SinkingChoirModel" 387 Y_M_isSign 1 := ⟨mem_c7 229 rfl rfl, mem_c7 230 rfl rfl, mem_c1 13 rfl rfl, cw_M_isSign, ⟨by decide +kernel, by decide +kernel, by decide +kernel⟩, by decide⟩
theorem ls_Ch_78 : LKS "SinkingChoir$Choir" 78 Y_Mt_floorMod 2 := ⟨mem_c4 166 rfl rfl, mem_c4 167 rfl rfl, mem_c1 15 rfl rfl, cw_Mt_floorMod, ⟨by decide +kernel, by decide +kernel, by decide +kernel⟩, by decide⟩
theorem ls_Si_141 : LKS "SinkingChoir$Singing" 141 Y_Sc_cell 2 := ⟨mem_c4 160 rfl rfl, mem_c2 178 rfl rfl, mem_c1 2 rfl rfl, cw_Sc_cell, ⟨by decide +kernel, by decide +kernel, by decide +kernel⟩, by decide⟩
theorem ls_Si_154 : LKS "SinkingChoir$Singing" 154 Y_Mt_abs_I 1 := ⟨mem_c4 184 rfl rfl, mem_c3 36 rfl rfl, mem_c1 15 rfl rfl, cw_Mt_abs_I, ⟨by decide +kernel, by decide +kernel, by decide +kernel⟩, by decide⟩
theorem ls_Si_164 : LKS "SinkingChoir$Singing" 164 Y_Mt_floorDiv 2 := ⟨mem_c4 187 rfl rfl, mem_c4 188 rfl rfl, mem_c1 15 rfl rfl, cw_Mt_floorDiv, ⟨by decide +kernel, by decide +kernel, by decide +kernel⟩, by decide⟩
theorem ls_Pr_53 : LKS "SinkingChoir$Program" 53 Y_Mt_max_II 2 := ⟨mem_c4 199 rfl rfl, mem_c4 2 rfl rfl, mem_c1 15 rfl rfl, cw_Mt_max_II, ⟨by decide +kernel, by decide +kernel, by decide +kernel⟩, by decide⟩
theorem ls_Pr_58 : LKS "SinkingChoir$Program" 58 Y_Pr_reckoned 3 := ⟨mem_c4 200 rfl rfl, mem_c4 201 rfl rfl, mem_c1 5 rfl rfl, cw_Pr_reckoned, ⟨by decide +kernel, by decide +kernel, by decide +kernel⟩, by decide⟩
theorem ls_Pr_39 : LKS "SinkingChoir$Program" 39 Y_Ar_fill_AI 2 := ⟨mem_c4 194 rfl rfl, mem_c1 38 rfl rfl, mem_c1 3 rfl rfl, cw_Ar_fill_AI, ⟨by decide +kernel, by decide +kernel, by decide +kernel⟩, by decide⟩
theorem ls_Pr_49 : LKS "SinkingChoir$Program" 49 Y_Pr_within 2 := ⟨mem_c4 203 rfl rfl, mem_c4 204 rfl rfl, mem_c1 5 rfl rfl, cw_Pr_within, ⟨by decide +kernel, by decide +kernel, by decide +kernel⟩, by decide⟩
theorem ls_Ch_72 : LKS "SinkingChoir$Choir" 72 Y_Mt_abs_I 1 := ⟨mem_c4 213 rfl rfl, mem_c3 36 rfl rfl, mem_c1 15 rfl rfl, cw_Mt_abs_I, ⟨by decide +kernel, by decide +kernel, by decide +kernel⟩, by decide⟩
theorem ls_Si_179 : LKS "SinkingChoir$Singing" 179 Y_Ch_heard 3 := ⟨mem_c4 210 rfl rfl, mem_c4 211 rfl rfl, mem_c1 4 rfl rfl, cw_Ch_heard, ⟨by decide +kernel, by decide +kernel, by decide +kernel⟩, by decide⟩
theorem ls_M_446 : LKS "SinkingChoirModel" 446 Y_M_floor 2 := ⟨mem_c8 53 rfl rfl, mem_c8 54 rfl rfl, mem_c1 13 rfl rfl, cw_M_floor, ⟨by decide +kernel, by decide +kernel, by decide +kernel⟩, by decide⟩
theorem ls_M_453 : LKS "SinkingChoirModel" 453 Y_M_worked 3 := ⟨mem_c8 68 rfl rfl, mem_c8 69 rfl rfl, mem_c1 13 rfl rfl, cw_M_worked, ⟨by decide +kernel, by decide +kernel, by decide +kernel⟩, by decide⟩
theorem ls_M_500 : LKS "SinkingChoirModel" 500 Y_M_has 2 := ⟨mem_c8 24 rfl rfl, mem_c8 25 rfl rfl, mem_c1 13 rfl rfl, cw_M_has, ⟨by decide +kernel, by decide +kernel, by decide +kernel⟩, by decide⟩
theorem ls_Si_192 : LKS "SinkingChoir$Singing" 192 Y_Mt_abs_J 1 := ⟨mem_c5 5 rfl rfl, mem_c5 6 rfl rfl, mem_c1 15 rfl rfl, cw_Mt_abs_J, ⟨by decide +kernel, by decide +kernel, by decide +kernel⟩, by decide⟩
theorem ls_Ch_84 : LKS "SinkingChoir$Choir" 84 Y_Sc_cell 2 := ⟨mem_c5 16 rfl rfl, mem_c2 178 rfl rfl, mem_c1 2 rfl rfl, cw_Sc_cell, ⟨by decide +kernel, by decide +kernel, by decide +kernel⟩, by decide⟩
theorem ls_X_268 : LKS "SinkingChoir" 268 Y_Ch_heard 3 := ⟨mem_c5 56 rfl rfl, mem_c4 211 rfl rfl, mem_c1 4 rfl rfl, cw_Ch_heard, ⟨by decide +kernel, by decide +kernel, by decide +kernel⟩, by decide⟩
theorem ls_St_56 : LKS "SinkingChoir$Standing" 56 Y_Mt_abs_J 1 := ⟨mem_c5 77 rfl rfl, mem_c5 6 rfl rfl, mem_c1 15 rfl rfl, cw_Mt_abs_J, ⟨by decide +kernel, by decide +kernel, by decide +kernel⟩, by decide⟩
theorem ls_Le_76 : LKS "SinkingChoir$Leading" 76 Y_Mt_abs_J 1 := ⟨mem_c5 101 rfl rfl, mem_c5 6 rfl rfl, mem_c1 15 rfl rfl, cw_Mt_abs_J, ⟨by decide +kernel, by decide +kernel, by decide +kernel⟩, by decide⟩
theorem ls_Le_62 : LKS "SinkingChoir$Leading" 62 Y_Mt_max_JJ 2 := ⟨mem_c5 102 rfl rfl, mem_c5 103 rfl rfl, mem_c1 15 rfl rfl, cw_Mt_max_JJ, ⟨by decide +kernel, by decide +kernel, by decide +kernel⟩, by decide⟩
theorem ls_Fi_64 : LKS "SinkingChoir$Fitting" 64 Y_Mt_abs_J 1 := ⟨mem_c5 164 rfl rfl, mem_c5 6 rfl rfl, mem_c1 15 rfl rfl, cw_Mt_abs_J, ⟨by decide +kernel, by decide +kernel, by decide +kernel⟩, by decide⟩
theorem ls_Fi_27 : LKS "SinkingChoir$Fitting" 27 Y_Ar_fill_BJ 2 := ⟨mem_c5 142 rfl rfl, mem_c5 143 rfl rfl, mem_c1 3 rfl rfl, cw_Ar_fill_BJ, ⟨by decide +kernel, by decide +kernel, by decide +kernel⟩, by decide⟩
theorem ls_X_340 : LKS "SinkingChoir" 340 Y_Mt_abs_J 1 := ⟨mem_c5 177 rfl rfl, mem_c5 6 rfl rfl, mem_c1 15 rfl rfl, cw_Mt_abs_J, ⟨by decide +kernel, by decide +kernel, by decide +kernel⟩, by decide⟩
theorem ls_X_327 : LKS "SinkingChoir" 327 Y_In_bitCount 1 := ⟨mem_c5 203 rfl rfl, mem_c5 204 rfl rfl, mem_c1 22 rfl rfl, cw_In_bitCount, ⟨by decide +kernel, by decide +kernel, by decide +kernel⟩, by decide⟩
theorem ls_M_583 : LKS "SinkingChoirModel" 583 Y_M_sizeOf 1 := ⟨mem_c8 206 rfl rfl, mem_c8 207 rfl rfl, mem_c1 13 rfl rfl, cw_M_sizeOf, ⟨by decide +kernel, by decide +kernel, by decide +kernel⟩, by decide⟩
theorem li_Ch_39 : LKI "SinkingChoir$Choir" 39 Y_Pr_init 0 := ⟨Or.inr ⟨_, fun _ _ _ h => h.2.2.2.2.2.1⟩, mem_c1 81 rfl rfl, mem_c1 5 rfl rfl, cw_Pr_init, ⟨by decide +kernel, by decide +kernel, by decide +kernel⟩, by decide, rfl, rfl⟩
theorem li_Re_17 : LKI "SinkingChoir$Reader" 17 Y_Pr_init 0 := ⟨Or.inr ⟨_, fun _ _ _ h => h.2.2.2.2.2.2.2.2⟩, mem_c1 81 rfl rfl, mem_c1 5 rfl rfl, cw_Pr_init, ⟨by decide +kernel, by decide +kernel, by decide +kernel⟩, by decide, rfl, rfl⟩
theorem li_X_9 : LKI "SinkingChoir" 9 Y_Sc_init 0 := ⟨Or.inl (mem_c1 33 rfl rfl), mem_c1 34 rfl rfl, mem_c1 2 rfl rfl, cw_Sc_init, ⟨by decide +kernel, by decide +kernel, by decide +kernel⟩, by decide, rfl, rfl⟩
theorem li_X_18 : LKI "SinkingChoir" 18 Y_Ch_init 1 := ⟨Or.inl (mem_c1 74 rfl rfl), mem_c1 75 rfl rfl, mem_c1 4 rfl rfl, cw_Ch_init, ⟨by decide +kernel, by decide +kernel, by decide +kernel⟩, by decide, rfl, rfl⟩
theorem li_X_27 : LKI "SinkingChoir" 27 Y_Si_init 2 := ⟨Or.inl (mem_c1 173 rfl rfl), mem_c1 174 rfl rfl, mem_c1 6 rfl rfl, cw_Si_init, ⟨by decide +kernel, by decide +kernel, by decide +kernel⟩, by decide, rfl, rfl⟩
theorem li_X_36 : LKI "SinkingChoir" 36 Y_St_init 2 := ⟨Or.inl (mem_c1 239 rfl rfl), mem_c2 0 rfl rfl, mem_c1 8 rfl rfl, cw_St_init, ⟨by decide +kernel, by decide +kernel, by decide +kernel⟩, by decide, rfl, rfl⟩
theorem li_X_45 : LKI "SinkingChoir" 45 Y_Le_init 2 := ⟨Or.inl (mem_c2 30 rfl rfl), mem_c2 31 rfl rfl, mem_c1 9 rfl rfl, cw_Le_init, ⟨by decide +kernel, by decide +kernel, by decide +kernel⟩, by decide, rfl, rfl⟩
theorem li_X_52 : LKI "SinkingChoir" 52 Y_Fi_init 3 := ⟨Or.inl (mem_c2 54 rfl rfl), mem_c2 55 rfl rfl, mem_c1 10 rfl rfl, cw_Fi_init, ⟨by decide +kernel, by decide +kernel, by decide +kernel⟩, by decide, rfl, rfl⟩
theorem li_X_61 : LKI "SinkingChoir" 61 Y_Rl_init 0 := ⟨Or.inr ⟨_, fun _ _ _ h => h.2.2.2.2.2.2.1⟩, mem_c2 77 rfl rfl, mem_c1 11 rfl rfl, cw_Rl_init, ⟨by decide +kernel, by decide +kernel, by decide +kernel⟩, by decide, rfl, rfl⟩
theorem li_X_68 : LKI "SinkingChoir" 68 Y_Re_init 0 := ⟨Or.inr ⟨_, fun _ _ _ h => h.2.2.2.2.2.2.2.1⟩, mem_c2 92 rfl rfl, mem_c1 12 rfl rfl, cw_Re_init, ⟨by decide +kernel, by decide +kernel, by decide +kernel⟩, by decide, rfl, rfl⟩
theorem li_X_336 : LKI "SinkingChoir" 336 Y_Wa_init 1 := ⟨Or.inl (mem_c3 52 rfl rfl), mem_c3 53 rfl rfl, mem_c1 16 rfl rfl, cw_Wa_init, ⟨by decide +kernel, by decide +kernel, by decide +kernel⟩, by decide, rfl, rfl⟩
end
