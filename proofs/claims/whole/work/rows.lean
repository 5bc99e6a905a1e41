section
-- ===== PART A: goes FIRST, ahead of the names: the tables' words, and 'selects' of the private methods out of them =====
/-- a private method of a class that the tables say can be made, by its rows of tables_1 -/
def lw_okq (q : MethodName × Nat) : Prop := (q.1.cls ≠ "java/lang/invoke/MethodHandle" ∧ q.1.cls ≠ "java/lang/invoke/VarHandle") ∧ Cond.instantiable q.1.cls q.2 ∈ tables_1 ∧ Cond.privateMethod q.1 ∈ tables_1 ∧ Cond.instanceMethod q.1 ∈ tables_1
theorem lw_p0 : lw_okq (⟨"SinkingChoir$Score", "tune", "()V"⟩, 7) := ⟨⟨by decide +kernel, by decide +kernel⟩, List.mem_of_getElem? (i := 32) (by decide +kernel), List.mem_of_getElem? (i := 430) (by decide +kernel), List.mem_of_getElem? (i := 431) (by decide +kernel)⟩
theorem lw_p1 : lw_okq (⟨"SinkingChoir", "changed", "()Z"⟩, 10) := ⟨⟨by decide +kernel, by decide +kernel⟩, List.mem_of_getElem? (i := 24) (by decide +kernel), List.mem_of_getElem? (i := 438) (by decide +kernel), List.mem_of_getElem? (i := 439) (by decide +kernel)⟩
theorem lw_p2 : lw_okq (⟨"SinkingChoir", "asksRow", "(I)Z"⟩, 10) := ⟨⟨by decide +kernel, by decide +kernel⟩, List.mem_of_getElem? (i := 24) (by decide +kernel), List.mem_of_getElem? (i := 523) (by decide +kernel), List.mem_of_getElem? (i := 524) (by decide +kernel)⟩
theorem lw_p3 : lw_okq (⟨"SinkingChoir", "explored", "()LSinkingChoir$Ways;"⟩, 10) := ⟨⟨by decide +kernel, by decide +kernel⟩, List.mem_of_getElem? (i := 24) (by decide +kernel), List.mem_of_getElem? (i := 527) (by decide +kernel), List.mem_of_getElem? (i := 528) (by decide +kernel)⟩
theorem lw_p4 : lw_okq (⟨"SinkingChoir$Ways", "spread", "(II)Z"⟩, 10) := ⟨⟨by decide +kernel, by decide +kernel⟩, List.mem_of_getElem? (i := 531) (by decide +kernel), List.mem_of_getElem? (i := 578) (by decide +kernel), List.mem_of_getElem? (i := 579) (by decide +kernel)⟩
theorem lw_p5 : lw_okq (⟨"SinkingChoir$Ways", "find", "(II)I"⟩, 10) := ⟨⟨by decide +kernel, by decide +kernel⟩, List.mem_of_getElem? (i := 531) (by decide +kernel), List.mem_of_getElem? (i := 590) (by decide +kernel), List.mem_of_getElem? (i := 591) (by decide +kernel)⟩
theorem lw_p6 : lw_okq (⟨"SinkingChoir$Ways", "price", "(Z)V"⟩, 10) := ⟨⟨by decide +kernel, by decide +kernel⟩, List.mem_of_getElem? (i := 531) (by decide +kernel), List.mem_of_getElem? (i := 594) (by decide +kernel), List.mem_of_getElem? (i := 595) (by decide +kernel)⟩
theorem lw_p7 : lw_okq (⟨"SinkingChoir$Ways", "relax", "(IIZ)V"⟩, 10) := ⟨⟨by decide +kernel, by decide +kernel⟩, List.mem_of_getElem? (i := 531) (by decide +kernel), List.mem_of_getElem? (i := 601) (by decide +kernel), List.mem_of_getElem? (i := 602) (by decide +kernel)⟩
theorem lw_p8 : lw_okq (⟨"SinkingChoir$Ways", "follow", "()Z"⟩, 10) := ⟨⟨by decide +kernel, by decide +kernel⟩, List.mem_of_getElem? (i := 531) (by decide +kernel), List.mem_of_getElem? (i := 605) (by decide +kernel), List.mem_of_getElem? (i := 606) (by decide +kernel)⟩
theorem lw_p9 : lw_okq (⟨"SinkingChoir$Reader", "clause", "(I)V"⟩, 5) := ⟨⟨by decide +kernel, by decide +kernel⟩, List.mem_of_getElem? (i := 330) (by decide +kernel), List.mem_of_getElem? (i := 691) (by decide +kernel), List.mem_of_getElem? (i := 692) (by decide +kernel)⟩
theorem lw_p10 : lw_okq (⟨"SinkingChoir$Reader", "here", "()I"⟩, 5) := ⟨⟨by decide +kernel, by decide +kernel⟩, List.mem_of_getElem? (i := 330) (by decide +kernel), List.mem_of_getElem? (i := 696) (by decide +kernel), List.mem_of_getElem? (i := 697) (by decide +kernel)⟩
theorem lw_p11 : lw_okq (⟨"SinkingChoir$Reader", "fail", "(I)V"⟩, 5) := ⟨⟨by decide +kernel, by decide +kernel⟩, List.mem_of_getElem? (i := 330) (by decide +kernel), List.mem_of_getElem? (i := 778) (by decide +kernel), List.mem_of_getElem? (i := 779) (by decide +kernel)⟩
theorem lw_p12 : lw_okq (⟨"SinkingChoir$Reader", "sum", "(I)V"⟩, 5) := ⟨⟨by decide +kernel, by decide +kernel⟩, List.mem_of_getElem? (i := 330) (by decide +kernel), List.mem_of_getElem? (i := 786) (by decide +kernel), List.mem_of_getElem? (i := 787) (by decide +kernel)⟩
theorem lw_p13 : lw_okq (⟨"SinkingChoir$Reader", "product", "(I)V"⟩, 5) := ⟨⟨by decide +kernel, by decide +kernel⟩, List.mem_of_getElem? (i := 330) (by decide +kernel), List.mem_of_getElem? (i := 790) (by decide +kernel), List.mem_of_getElem? (i := 791) (by decide +kernel)⟩
theorem lw_p14 : lw_okq (⟨"SinkingChoir$Reader", "factor", "(I)V"⟩, 5) := ⟨⟨by decide +kernel, by decide +kernel⟩, List.mem_of_getElem? (i := 330) (by decide +kernel), List.mem_of_getElem? (i := 794) (by decide +kernel), List.mem_of_getElem? (i := 795) (by decide +kernel)⟩
theorem lw_p15 : lw_okq (⟨"SinkingChoir$Reader", "number", "()V"⟩, 5) := ⟨⟨by decide +kernel, by decide +kernel⟩, List.mem_of_getElem? (i := 330) (by decide +kernel), List.mem_of_getElem? (i := 806) (by decide +kernel), List.mem_of_getElem? (i := 807) (by decide +kernel)⟩
def lw_privs_1 : List (MethodName × Nat) := [(⟨"SinkingChoir$Score", "tune", "()V"⟩, 7), (⟨"SinkingChoir", "changed", "()Z"⟩, 10), (⟨"SinkingChoir", "asksRow", "(I)Z"⟩, 10), (⟨"SinkingChoir", "explored", "()LSinkingChoir$Ways;"⟩, 10), (⟨"SinkingChoir$Ways", "spread", "(II)Z"⟩, 10), (⟨"SinkingChoir$Ways", "find", "(II)I"⟩, 10), (⟨"SinkingChoir$Ways", "price", "(Z)V"⟩, 10), (⟨"SinkingChoir$Ways", "relax", "(IIZ)V"⟩, 10), (⟨"SinkingChoir$Ways", "follow", "()Z"⟩, 10), (⟨"SinkingChoir$Reader", "clause", "(I)V"⟩, 5), (⟨"SinkingChoir$Reader", "here", "()I"⟩, 5), (⟨"SinkingChoir$Reader", "fail", "(I)V"⟩, 5), (⟨"SinkingChoir$Reader", "sum", "(I)V"⟩, 5), (⟨"SinkingChoir$Reader", "product", "(I)V"⟩, 5), (⟨"SinkingChoir$Reader", "factor", "(I)V"⟩, 5), (⟨"SinkingChoir$Reader", "number", "()V"⟩, 5)]
theorem lw_r1 : ∀ q ∈ lw_privs_1, lw_okq q := List.forall_mem_cons.mpr ⟨lw_p0, List.forall_mem_cons.mpr ⟨lw_p1, List.forall_mem_cons.mpr ⟨lw_p2, List.forall_mem_cons.mpr ⟨lw_p3, List.forall_mem_cons.mpr ⟨lw_p4, List.forall_mem_cons.mpr ⟨lw_p5, List.forall_mem_cons.mpr ⟨lw_p6, List.forall_mem_cons.mpr ⟨lw_p7, List.forall_mem_cons.mpr ⟨lw_p8, List.forall_mem_cons.mpr ⟨lw_p9, List.forall_mem_cons.mpr ⟨lw_p10, List.forall_mem_cons.mpr ⟨lw_p11, List.forall_mem_cons.mpr ⟨lw_p12, List.forall_mem_cons.mpr ⟨lw_p13, List.forall_mem_cons.mpr ⟨lw_p14, List.forall_mem_cons.mpr ⟨lw_p15, fun _ h => absurd h List.not_mem_nil⟩⟩⟩⟩⟩⟩⟩⟩⟩⟩⟩⟩⟩⟩⟩⟩
theorem lw_p16 : lw_okq (⟨"SinkingChoir$Reader", "take", "(I)V"⟩, 5) := ⟨⟨by decide +kernel, by decide +kernel⟩, List.mem_of_getElem? (i := 330) (by decide +kernel), List.mem_of_getElem? (i := 810) (by decide +kernel), List.mem_of_getElem? (i := 811) (by decide +kernel)⟩
theorem lw_p17 : lw_okq (⟨"SinkingChoir$Reader", "either", "(I)V"⟩, 5) := ⟨⟨by decide +kernel, by decide +kernel⟩, List.mem_of_getElem? (i := 330) (by decide +kernel), List.mem_of_getElem? (i := 818) (by decide +kernel), List.mem_of_getElem? (i := 819) (by decide +kernel)⟩
theorem lw_p18 : lw_okq (⟨"SinkingChoir$Reader", "all", "(I)V"⟩, 5) := ⟨⟨by decide +kernel, by decide +kernel⟩, List.mem_of_getElem? (i := 330) (by decide +kernel), List.mem_of_getElem? (i := 822) (by decide +kernel), List.mem_of_getElem? (i := 823) (by decide +kernel)⟩
theorem lw_p19 : lw_okq (⟨"SinkingChoir$Reader", "piece", "(I)V"⟩, 5) := ⟨⟨by decide +kernel, by decide +kernel⟩, List.mem_of_getElem? (i := 330) (by decide +kernel), List.mem_of_getElem? (i := 826) (by decide +kernel), List.mem_of_getElem? (i := 827) (by decide +kernel)⟩
theorem lw_p20 : lw_okq (⟨"SinkingChoir$Reader", "comparison", "()I"⟩, 5) := ⟨⟨by decide +kernel, by decide +kernel⟩, List.mem_of_getElem? (i := 330) (by decide +kernel), List.mem_of_getElem? (i := 830) (by decide +kernel), List.mem_of_getElem? (i := 831) (by decide +kernel)⟩
theorem lw_p21 : lw_okq (⟨"SinkingChoir$Singing", "giveAgain", "(I)V"⟩, 15) := ⟨⟨by decide +kernel, by decide +kernel⟩, List.mem_of_getElem? (i := 172) (by decide +kernel), List.mem_of_getElem? (i := 869) (by decide +kernel), List.mem_of_getElem? (i := 870) (by decide +kernel)⟩
theorem lw_p22 : lw_okq (⟨"SinkingChoir$Singing", "tableOf", "(II)J"⟩, 15) := ⟨⟨by decide +kernel, by decide +kernel⟩, List.mem_of_getElem? (i := 172) (by decide +kernel), List.mem_of_getElem? (i := 877) (by decide +kernel), List.mem_of_getElem? (i := 878) (by decide +kernel)⟩
theorem lw_p23 : lw_okq (⟨"SinkingChoir$Singing", "singNote", "(II)V"⟩, 15) := ⟨⟨by decide +kernel, by decide +kernel⟩, List.mem_of_getElem? (i := 172) (by decide +kernel), List.mem_of_getElem? (i := 891) (by decide +kernel), List.mem_of_getElem? (i := 892) (by decide +kernel)⟩
theorem lw_p24 : lw_okq (⟨"SinkingChoir$Singing", "tellLetters", "(III)V"⟩, 15) := ⟨⟨by decide +kernel, by decide +kernel⟩, List.mem_of_getElem? (i := 172) (by decide +kernel), List.mem_of_getElem? (i := 896) (by decide +kernel), List.mem_of_getElem? (i := 897) (by decide +kernel)⟩
theorem lw_p25 : lw_okq (⟨"SinkingChoir$Singing", "isKnowing", "(I)Z"⟩, 15) := ⟨⟨by decide +kernel, by decide +kernel⟩, List.mem_of_getElem? (i := 172) (by decide +kernel), List.mem_of_getElem? (i := 900) (by decide +kernel), List.mem_of_getElem? (i := 901) (by decide +kernel)⟩
theorem lw_p26 : lw_okq (⟨"SinkingChoir$Program", "reckon", "(II[I)Z"⟩, 8) := ⟨⟨by decide +kernel, by decide +kernel⟩, List.mem_of_getElem? (i := 79) (by decide +kernel), List.mem_of_getElem? (i := 916) (by decide +kernel), List.mem_of_getElem? (i := 917) (by decide +kernel)⟩
theorem lw_p27 : lw_okq (⟨"SinkingChoir$Singing", "millsOf", "(II)J"⟩, 15) := ⟨⟨by decide +kernel, by decide +kernel⟩, List.mem_of_getElem? (i := 172) (by decide +kernel), List.mem_of_getElem? (i := 935) (by decide +kernel), List.mem_of_getElem? (i := 936) (by decide +kernel)⟩
theorem lw_p28 : lw_okq (⟨"SinkingChoir$Singing", "givenIn", "(I)I"⟩, 15) := ⟨⟨by decide +kernel, by decide +kernel⟩, List.mem_of_getElem? (i := 172) (by decide +kernel), List.mem_of_getElem? (i := 939) (by decide +kernel), List.mem_of_getElem? (i := 940) (by decide +kernel)⟩
theorem lw_p29 : lw_okq (⟨"SinkingChoir$Choir", "above", "(II)I"⟩, 13) := ⟨⟨by decide +kernel, by decide +kernel⟩, List.mem_of_getElem? (i := 73) (by decide +kernel), List.mem_of_getElem? (i := 973) (by decide +kernel), List.mem_of_getElem? (i := 974) (by decide +kernel)⟩
theorem lw_p30 : lw_okq (⟨"SinkingChoir$Standing", "sort", "(I)V"⟩, 7) := ⟨⟨by decide +kernel, by decide +kernel⟩, List.mem_of_getElem? (i := 238) (by decide +kernel), List.mem_of_getElem? (i := 1028) (by decide +kernel), List.mem_of_getElem? (i := 1029) (by decide +kernel)⟩
theorem lw_p31 : lw_okq (⟨"SinkingChoir$Standing", "swap", "(II)V"⟩, 7) := ⟨⟨by decide +kernel, by decide +kernel⟩, List.mem_of_getElem? (i := 238) (by decide +kernel), List.mem_of_getElem? (i := 1032) (by decide +kernel), List.mem_of_getElem? (i := 1033) (by decide +kernel)⟩
def lw_privs_2 : List (MethodName × Nat) := [(⟨"SinkingChoir$Reader", "take", "(I)V"⟩, 5), (⟨"SinkingChoir$Reader", "either", "(I)V"⟩, 5), (⟨"SinkingChoir$Reader", "all", "(I)V"⟩, 5), (⟨"SinkingChoir$Reader", "piece", "(I)V"⟩, 5), (⟨"SinkingChoir$Reader", "comparison", "()I"⟩, 5), (⟨"SinkingChoir$Singing", "giveAgain", "(I)V"⟩, 15), (⟨"SinkingChoir$Singing", "tableOf", "(II)J"⟩, 15), (⟨"SinkingChoir$Singing", "singNote", "(II)V"⟩, 15), (⟨"SinkingChoir$Singing", "tellLetters", "(III)V"⟩, 15), (⟨"SinkingChoir$Singing", "isKnowing", "(I)Z"⟩, 15), (⟨"SinkingChoir$Program", "reckon", "(II[I)Z"⟩, 8), (⟨"SinkingChoir$Singing", "millsOf", "(II)J"⟩, 15), (⟨"SinkingChoir$Singing", "givenIn", "(I)I"⟩, 15), (⟨"SinkingChoir$Choir", "above", "(II)I"⟩, 13), (⟨"SinkingChoir$Standing", "sort", "(I)V"⟩, 7), (⟨"SinkingChoir$Standing", "swap", "(II)V"⟩, 7)]
theorem lw_r2 : ∀ q ∈ lw_privs_2, lw_okq q := List.forall_mem_cons.mpr ⟨lw_p16, List.forall_mem_cons.mpr ⟨lw_p17, List.forall_mem_cons.mpr ⟨lw_p18, List.forall_mem_cons.mpr ⟨lw_p19, List.forall_mem_cons.mpr ⟨lw_p20, List.forall_mem_cons.mpr ⟨lw_p21, List.forall_mem_cons.mpr ⟨lw_p22, List.forall_mem_cons.mpr ⟨lw_p23, List.forall_mem_cons.mpr ⟨lw_p24, List.forall_mem_cons.mpr ⟨lw_p25, List.forall_mem_cons.mpr ⟨lw_p26, List.forall_mem_cons.mpr ⟨lw_p27, List.forall_mem_cons.mpr ⟨lw_p28, List.forall_mem_cons.mpr ⟨lw_p29, List.forall_mem_cons.mpr ⟨lw_p30, List.forall_mem_cons.mpr ⟨lw_p31, fun _ h => absurd h List.not_mem_nil⟩⟩⟩⟩⟩⟩⟩⟩⟩⟩⟩⟩⟩⟩⟩⟩
theorem lw_p32 : lw_okq (⟨"SinkingChoir$Standing", "next", "()Z"⟩, 7) := ⟨⟨by decide +kernel, by decide +kernel⟩, List.mem_of_getElem? (i := 238) (by decide +kernel), List.mem_of_getElem? (i := 1040) (by decide +kernel), List.mem_of_getElem? (i := 1041) (by decide +kernel)⟩
theorem lw_p33 : lw_okq (⟨"SinkingChoir$Leading", "chart", "(II)V"⟩, 5) := ⟨⟨by decide +kernel, by decide +kernel⟩, List.mem_of_getElem? (i := 269) (by decide +kernel), List.mem_of_getElem? (i := 1057) (by decide +kernel), List.mem_of_getElem? (i := 1058) (by decide +kernel)⟩
theorem lw_p34 : lw_okq (⟨"SinkingChoir$Leading", "farthest", "(II)J"⟩, 5) := ⟨⟨by decide +kernel, by decide +kernel⟩, List.mem_of_getElem? (i := 269) (by decide +kernel), List.mem_of_getElem? (i := 1067) (by decide +kernel), List.mem_of_getElem? (i := 1068) (by decide +kernel)⟩
theorem lw_p35 : lw_okq (⟨"SinkingChoir$Leading", "consider", "(IJ)V"⟩, 5) := ⟨⟨by decide +kernel, by decide +kernel⟩, List.mem_of_getElem? (i := 269) (by decide +kernel), List.mem_of_getElem? (i := 1071) (by decide +kernel), List.mem_of_getElem? (i := 1072) (by decide +kernel)⟩
theorem lw_p36 : lw_okq (⟨"SinkingChoir$Fitting", "addBeat", "(II)V"⟩, 5) := ⟨⟨by decide +kernel, by decide +kernel⟩, List.mem_of_getElem? (i := 293) (by decide +kernel), List.mem_of_getElem? (i := 1110) (by decide +kernel), List.mem_of_getElem? (i := 1111) (by decide +kernel)⟩
theorem lw_p37 : lw_okq (⟨"SinkingChoir", "minded", "(III)J"⟩, 10) := ⟨⟨by decide +kernel, by decide +kernel⟩, List.mem_of_getElem? (i := 24) (by decide +kernel), List.mem_of_getElem? (i := 1134) (by decide +kernel), List.mem_of_getElem? (i := 1135) (by decide +kernel)⟩
theorem lw_p38 : lw_okq (⟨"SinkingChoir", "firstWrong", "(I)I"⟩, 10) := ⟨⟨by decide +kernel, by decide +kernel⟩, List.mem_of_getElem? (i := 24) (by decide +kernel), List.mem_of_getElem? (i := 1144) (by decide +kernel), List.mem_of_getElem? (i := 1145) (by decide +kernel)⟩
theorem lw_p39 : lw_okq (⟨"SinkingChoirModel", "falls", "(II)V"⟩, 71) := ⟨⟨by decide +kernel, by decide +kernel⟩, List.mem_of_getElem? (i := 1170) (by decide +kernel), List.mem_of_getElem? (i := 1435) (by decide +kernel), List.mem_of_getElem? (i := 1436) (by decide +kernel)⟩
theorem lw_p40 : lw_okq (⟨"SinkingChoirModel", "isHeld", "(II)Z"⟩, 71) := ⟨⟨by decide +kernel, by decide +kernel⟩, List.mem_of_getElem? (i := 1170) (by decide +kernel), List.mem_of_getElem? (i := 1439) (by decide +kernel), List.mem_of_getElem? (i := 1440) (by decide +kernel)⟩
theorem lw_p41 : lw_okq (⟨"SinkingChoirModel", "isNote", "(II)Z"⟩, 71) := ⟨⟨by decide +kernel, by decide +kernel⟩, List.mem_of_getElem? (i := 1170) (by decide +kernel), List.mem_of_getElem? (i := 1443) (by decide +kernel), List.mem_of_getElem? (i := 1444) (by decide +kernel)⟩
theorem lw_p42 : lw_okq (⟨"SinkingChoirModel", "keynoteOf", "(I)I"⟩, 71) := ⟨⟨by decide +kernel, by decide +kernel⟩, List.mem_of_getElem? (i := 1170) (by decide +kernel), List.mem_of_getElem? (i := 1464) (by decide +kernel), List.mem_of_getElem? (i := 1465) (by decide +kernel)⟩
theorem lw_p43 : lw_okq (⟨"SinkingChoirModel", "goesTo", "(I)V"⟩, 71) := ⟨⟨by decide +kernel, by decide +kernel⟩, List.mem_of_getElem? (i := 1170) (by decide +kernel), List.mem_of_getElem? (i := 1468) (by decide +kernel), List.mem_of_getElem? (i := 1469) (by decide +kernel)⟩
theorem lw_p44 : lw_okq (⟨"SinkingChoirModel", "leap", "([III)I"⟩, 71) := ⟨⟨by decide +kernel, by decide +kernel⟩, List.mem_of_getElem? (i := 1170) (by decide +kernel), List.mem_of_getElem? (i := 1472) (by decide +kernel), List.mem_of_getElem? (i := 1473) (by decide +kernel)⟩
theorem lw_p45 : lw_okq (⟨"SinkingChoirModel", "tornBy", "(III)I"⟩, 71) := ⟨⟨by decide +kernel, by decide +kernel⟩, List.mem_of_getElem? (i := 1170) (by decide +kernel), List.mem_of_getElem? (i := 1476) (by decide +kernel), List.mem_of_getElem? (i := 1477) (by decide +kernel)⟩
theorem lw_p46 : lw_okq (⟨"SinkingChoirModel", "sizeAt", "(II)I"⟩, 71) := ⟨⟨by decide +kernel, by decide +kernel⟩, List.mem_of_getElem? (i := 1170) (by decide +kernel), List.mem_of_getElem? (i := 1480) (by decide +kernel), List.mem_of_getElem? (i := 1481) (by decide +kernel)⟩
theorem lw_p47 : lw_okq (⟨"SinkingChoirModel", "lastBeat", "()I"⟩, 71) := ⟨⟨by decide +kernel, by decide +kernel⟩, List.mem_of_getElem? (i := 1170) (by decide +kernel), List.mem_of_getElem? (i := 1492) (by decide +kernel), List.mem_of_getElem? (i := 1493) (by decide +kernel)⟩
def lw_privs_3 : List (MethodName × Nat) := [(⟨"SinkingChoir$Standing", "next", "()Z"⟩, 7), (⟨"SinkingChoir$Leading", "chart", "(II)V"⟩, 5), (⟨"SinkingChoir$Leading", "farthest", "(II)J"⟩, 5), (⟨"SinkingChoir$Leading", "consider", "(IJ)V"⟩, 5), (⟨"SinkingChoir$Fitting", "addBeat", "(II)V"⟩, 5), (⟨"SinkingChoir", "minded", "(III)J"⟩, 10), (⟨"SinkingChoir", "firstWrong", "(I)I"⟩, 10), (⟨"SinkingChoirModel", "falls", "(II)V"⟩, 71), (⟨"SinkingChoirModel", "isHeld", "(II)Z"⟩, 71), (⟨"SinkingChoirModel", "isNote", "(II)Z"⟩, 71), (⟨"SinkingChoirModel", "keynoteOf", "(I)I"⟩, 71), (⟨"SinkingChoirModel", "goesTo", "(I)V"⟩, 71), (⟨"SinkingChoirModel", "leap", "([III)I"⟩, 71), (⟨"SinkingChoirModel", "tornBy", "(III)I"⟩, 71), (⟨"SinkingChoirModel", "sizeAt", "(II)I"⟩, 71), (⟨"SinkingChoirModel", "lastBeat", "()I"⟩, 71)]
theorem lw_r3 : ∀ q ∈ lw_privs_3, lw_okq q := List.forall_mem_cons.mpr ⟨lw_p32, List.forall_mem_cons.mpr ⟨lw_p33, List.forall_mem_cons.mpr ⟨lw_p34, List.forall_mem_cons.mpr ⟨lw_p35, List.forall_mem_cons.mpr ⟨lw_p36, List.forall_mem_cons.mpr ⟨lw_p37, List.forall_mem_cons.mpr ⟨lw_p38, List.forall_mem_cons.mpr ⟨lw_p39, List.forall_mem_cons.mpr ⟨lw_p40, List.forall_mem_cons.mpr ⟨lw_p41, List.forall_mem_cons.mpr ⟨lw_p42, List.forall_mem_cons.mpr ⟨lw_p43, List.forall_mem_cons.mpr ⟨lw_p44, List.forall_mem_cons.mpr ⟨lw_p45, List.forall_mem_cons.mpr ⟨lw_p46, List.forall_mem_cons.mpr ⟨lw_p47, fun _ h => absurd h List.not_mem_nil⟩⟩⟩⟩⟩⟩⟩⟩⟩⟩⟩⟩⟩⟩⟩⟩
theorem lw_p48 : lw_okq (⟨"SinkingChoirModel", "foulBy", "(II)J"⟩, 71) := ⟨⟨by decide +kernel, by decide +kernel⟩, List.mem_of_getElem? (i := 1170) (by decide +kernel), List.mem_of_getElem? (i := 1496) (by decide +kernel), List.mem_of_getElem? (i := 1497) (by decide +kernel)⟩
theorem lw_p49 : lw_okq (⟨"SinkingChoirModel", "rowOf", "(IZ)I"⟩, 71) := ⟨⟨by decide +kernel, by decide +kernel⟩, List.mem_of_getElem? (i := 1170) (by decide +kernel), List.mem_of_getElem? (i := 1507) (by decide +kernel), List.mem_of_getElem? (i := 1508) (by decide +kernel)⟩
theorem lw_p50 : lw_okq (⟨"SinkingChoirModel", "finds", "(IZ)Z"⟩, 71) := ⟨⟨by decide +kernel, by decide +kernel⟩, List.mem_of_getElem? (i := 1170) (by decide +kernel), List.mem_of_getElem? (i := 1511) (by decide +kernel), List.mem_of_getElem? (i := 1512) (by decide +kernel)⟩
theorem lw_p51 : lw_okq (⟨"SinkingChoirModel", "lays", "(I)Z"⟩, 71) := ⟨⟨by decide +kernel, by decide +kernel⟩, List.mem_of_getElem? (i := 1170) (by decide +kernel), List.mem_of_getElem? (i := 1515) (by decide +kernel), List.mem_of_getElem? (i := 1516) (by decide +kernel)⟩
theorem lw_p52 : lw_okq (⟨"SinkingChoirModel", "placeOf", "(IIII)I"⟩, 71) := ⟨⟨by decide +kernel, by decide +kernel⟩, List.mem_of_getElem? (i := 1170) (by decide +kernel), List.mem_of_getElem? (i := 1519) (by decide +kernel), List.mem_of_getElem? (i := 1520) (by decide +kernel)⟩
theorem lw_p53 : lw_okq (⟨"SinkingChoirModel", "mayLink", "(II)Z"⟩, 71) := ⟨⟨by decide +kernel, by decide +kernel⟩, List.mem_of_getElem? (i := 1170) (by decide +kernel), List.mem_of_getElem? (i := 1523) (by decide +kernel), List.mem_of_getElem? (i := 1524) (by decide +kernel)⟩
theorem lw_p54 : lw_okq (⟨"SinkingChoirModel", "nextOf", "(III)I"⟩, 71) := ⟨⟨by decide +kernel, by decide +kernel⟩, List.mem_of_getElem? (i := 1170) (by decide +kernel), List.mem_of_getElem? (i := 1527) (by decide +kernel), List.mem_of_getElem? (i := 1528) (by decide +kernel)⟩
theorem lw_p55 : lw_okq (⟨"SinkingChoirModel", "costBy", "(IIZ)J"⟩, 71) := ⟨⟨by decide +kernel, by decide +kernel⟩, List.mem_of_getElem? (i := 1170) (by decide +kernel), List.mem_of_getElem? (i := 1532) (by decide +kernel), List.mem_of_getElem? (i := 1533) (by decide +kernel)⟩
theorem lw_p56 : lw_okq (⟨"SinkingChoirModel", "isSinger", "(I)Z"⟩, 71) := ⟨⟨by decide +kernel, by decide +kernel⟩, List.mem_of_getElem? (i := 1170) (by decide +kernel), List.mem_of_getElem? (i := 1555) (by decide +kernel), List.mem_of_getElem? (i := 1556) (by decide +kernel)⟩
theorem lw_p57 : lw_okq (⟨"SinkingChoirModel", "push", "(I)V"⟩, 71) := ⟨⟨by decide +kernel, by decide +kernel⟩, List.mem_of_getElem? (i := 1170) (by decide +kernel), List.mem_of_getElem? (i := 1586) (by decide +kernel), List.mem_of_getElem? (i := 1587) (by decide +kernel)⟩
theorem lw_p58 : lw_okq (⟨"SinkingChoirModel", "isGood", "()Z"⟩, 71) := ⟨⟨by decide +kernel, by decide +kernel⟩, List.mem_of_getElem? (i := 1170) (by decide +kernel), List.mem_of_getElem? (i := 1595) (by decide +kernel), List.mem_of_getElem? (i := 1596) (by decide +kernel)⟩
theorem lw_p59 : lw_okq (⟨"SinkingChoirModel", "clause", "()V"⟩, 71) := ⟨⟨by decide +kernel, by decide +kernel⟩, List.mem_of_getElem? (i := 1170) (by decide +kernel), List.mem_of_getElem? (i := 1599) (by decide +kernel), List.mem_of_getElem? (i := 1600) (by decide +kernel)⟩
theorem lw_p60 : lw_okq (⟨"SinkingChoirModel", "here", "()I"⟩, 71) := ⟨⟨by decide +kernel, by decide +kernel⟩, List.mem_of_getElem? (i := 1170) (by decide +kernel), List.mem_of_getElem? (i := 1603) (by decide +kernel), List.mem_of_getElem? (i := 1604) (by decide +kernel)⟩
theorem lw_p61 : lw_okq (⟨"SinkingChoirModel", "wrongs", "(II)V"⟩, 71) := ⟨⟨by decide +kernel, by decide +kernel⟩, List.mem_of_getElem? (i := 1170) (by decide +kernel), List.mem_of_getElem? (i := 1607) (by decide +kernel), List.mem_of_getElem? (i := 1608) (by decide +kernel)⟩
theorem lw_p62 : lw_okq (⟨"SinkingChoirModel", "value", "()V"⟩, 71) := ⟨⟨by decide +kernel, by decide +kernel⟩, List.mem_of_getElem? (i := 1170) (by decide +kernel), List.mem_of_getElem? (i := 1611) (by decide +kernel), List.mem_of_getElem? (i := 1612) (by decide +kernel)⟩
theorem lw_p63 : lw_okq (⟨"SinkingChoirModel", "factor", "()V"⟩, 71) := ⟨⟨by decide +kernel, by decide +kernel⟩, List.mem_of_getElem? (i := 1170) (by decide +kernel), List.mem_of_getElem? (i := 1615) (by decide +kernel), List.mem_of_getElem? (i := 1616) (by decide +kernel)⟩
def lw_privs_4 : List (MethodName × Nat) := [(⟨"SinkingChoirModel", "foulBy", "(II)J"⟩, 71), (⟨"SinkingChoirModel", "rowOf", "(IZ)I"⟩, 71), (⟨"SinkingChoirModel", "finds", "(IZ)Z"⟩, 71), (⟨"SinkingChoirModel", "lays", "(I)Z"⟩, 71), (⟨"SinkingChoirModel", "placeOf", "(IIII)I"⟩, 71), (⟨"SinkingChoirModel", "mayLink", "(II)Z"⟩, 71), (⟨"SinkingChoirModel", "nextOf", "(III)I"⟩, 71), (⟨"SinkingChoirModel", "costBy", "(IIZ)J"⟩, 71), (⟨"SinkingChoirModel", "isSinger", "(I)Z"⟩, 71), (⟨"SinkingChoirModel", "push", "(I)V"⟩, 71), (⟨"SinkingChoirModel", "isGood", "()Z"⟩, 71), (⟨"SinkingChoirModel", "clause", "()V"⟩, 71), (⟨"SinkingChoirModel", "here", "()I"⟩, 71), (⟨"SinkingChoirModel", "wrongs", "(II)V"⟩, 71), (⟨"SinkingChoirModel", "value", "()V"⟩, 71), (⟨"SinkingChoirModel", "factor", "()V"⟩, 71)]
theorem lw_r4 : ∀ q ∈ lw_privs_4, lw_okq q := List.forall_mem_cons.mpr ⟨lw_p48, List.forall_mem_cons.mpr ⟨lw_p49, List.forall_mem_cons.mpr ⟨lw_p50, List.forall_mem_cons.mpr ⟨lw_p51, List.forall_mem_cons.mpr ⟨lw_p52, List.forall_mem_cons.mpr ⟨lw_p53, List.forall_mem_cons.mpr ⟨lw_p54, List.forall_mem_cons.mpr ⟨lw_p55, List.forall_mem_cons.mpr ⟨lw_p56, List.forall_mem_cons.mpr ⟨lw_p57, List.forall_mem_cons.mpr ⟨lw_p58, List.forall_mem_cons.mpr ⟨lw_p59, List.forall_mem_cons.mpr ⟨lw_p60, List.forall_mem_cons.mpr ⟨lw_p61, List.forall_mem_cons.mpr ⟨lw_p62, List.forall_mem_cons.mpr ⟨lw_p63, fun _ h => absurd h List.not_mem_nil⟩⟩⟩⟩⟩⟩⟩⟩⟩⟩⟩⟩⟩⟩⟩⟩
theorem lw_p64 : lw_okq (⟨"SinkingChoirModel", "opens", "()V"⟩, 71) := ⟨⟨by decide +kernel, by decide +kernel⟩, List.mem_of_getElem? (i := 1170) (by decide +kernel), List.mem_of_getElem? (i := 1619) (by decide +kernel), List.mem_of_getElem? (i := 1620) (by decide +kernel)⟩
theorem lw_p65 : lw_okq (⟨"SinkingChoirModel", "puts", "(I)V"⟩, 71) := ⟨⟨by decide +kernel, by decide +kernel⟩, List.mem_of_getElem? (i := 1170) (by decide +kernel), List.mem_of_getElem? (i := 1623) (by decide +kernel), List.mem_of_getElem? (i := 1624) (by decide +kernel)⟩
theorem lw_p66 : lw_okq (⟨"SinkingChoirModel", "seesDigit", "()Z"⟩, 71) := ⟨⟨by decide +kernel, by decide +kernel⟩, List.mem_of_getElem? (i := 1170) (by decide +kernel), List.mem_of_getElem? (i := 1627) (by decide +kernel), List.mem_of_getElem? (i := 1628) (by decide +kernel)⟩
theorem lw_p67 : lw_okq (⟨"SinkingChoirModel", "reads", "()I"⟩, 71) := ⟨⟨by decide +kernel, by decide +kernel⟩, List.mem_of_getElem? (i := 1170) (by decide +kernel), List.mem_of_getElem? (i := 1633) (by decide +kernel), List.mem_of_getElem? (i := 1634) (by decide +kernel)⟩
theorem lw_p68 : lw_okq (⟨"SinkingChoirModel", "emit", "(II)V"⟩, 71) := ⟨⟨by decide +kernel, by decide +kernel⟩, List.mem_of_getElem? (i := 1170) (by decide +kernel), List.mem_of_getElem? (i := 1637) (by decide +kernel), List.mem_of_getElem? (i := 1638) (by decide +kernel)⟩
theorem lw_p69 : lw_okq (⟨"SinkingChoirModel", "stays", "()Z"⟩, 71) := ⟨⟨by decide +kernel, by decide +kernel⟩, List.mem_of_getElem? (i := 1170) (by decide +kernel), List.mem_of_getElem? (i := 1644) (by decide +kernel), List.mem_of_getElem? (i := 1645) (by decide +kernel)⟩
theorem lw_p70 : lw_okq (⟨"SinkingChoirModel", "sums", "(Z)V"⟩, 71) := ⟨⟨by decide +kernel, by decide +kernel⟩, List.mem_of_getElem? (i := 1170) (by decide +kernel), List.mem_of_getElem? (i := 1654) (by decide +kernel), List.mem_of_getElem? (i := 1655) (by decide +kernel)⟩
theorem lw_p71 : lw_okq (⟨"SinkingChoirModel", "top", "()I"⟩, 71) := ⟨⟨by decide +kernel, by decide +kernel⟩, List.mem_of_getElem? (i := 1170) (by decide +kernel), List.mem_of_getElem? (i := 1658) (by decide +kernel), List.mem_of_getElem? (i := 1659) (by decide +kernel)⟩
theorem lw_p72 : lw_okq (⟨"SinkingChoirModel", "condition", "()V"⟩, 71) := ⟨⟨by decide +kernel, by decide +kernel⟩, List.mem_of_getElem? (i := 1170) (by decide +kernel), List.mem_of_getElem? (i := 1662) (by decide +kernel), List.mem_of_getElem? (i := 1663) (by decide +kernel)⟩
theorem lw_p73 : lw_okq (⟨"SinkingChoirModel", "pieceOfC", "()V"⟩, 71) := ⟨⟨by decide +kernel, by decide +kernel⟩, List.mem_of_getElem? (i := 1170) (by decide +kernel), List.mem_of_getElem? (i := 1666) (by decide +kernel), List.mem_of_getElem? (i := 1667) (by decide +kernel)⟩
theorem lw_p74 : lw_okq (⟨"SinkingChoirModel", "ends", "()V"⟩, 71) := ⟨⟨by decide +kernel, by decide +kernel⟩, List.mem_of_getElem? (i := 1170) (by decide +kernel), List.mem_of_getElem? (i := 1673) (by decide +kernel), List.mem_of_getElem? (i := 1674) (by decide +kernel)⟩
theorem lw_p75 : lw_okq (⟨"SinkingChoirModel", "goesBehind", "()Z"⟩, 71) := ⟨⟨by decide +kernel, by decide +kernel⟩, List.mem_of_getElem? (i := 1170) (by decide +kernel), List.mem_of_getElem? (i := 1677) (by decide +kernel), List.mem_of_getElem? (i := 1678) (by decide +kernel)⟩
theorem lw_p76 : lw_okq (⟨"SinkingChoirModel", "joins", "(Z)V"⟩, 71) := ⟨⟨by decide +kernel, by decide +kernel⟩, List.mem_of_getElem? (i := 1170) (by decide +kernel), List.mem_of_getElem? (i := 1681) (by decide +kernel), List.mem_of_getElem? (i := 1682) (by decide +kernel)⟩
theorem lw_p77 : lw_okq (⟨"SinkingChoirModel", "sings", "(II)Z"⟩, 71) := ⟨⟨by decide +kernel, by decide +kernel⟩, List.mem_of_getElem? (i := 1170) (by decide +kernel), List.mem_of_getElem? (i := 1689) (by decide +kernel), List.mem_of_getElem? (i := 1690) (by decide +kernel)⟩
theorem lw_p78 : lw_okq (⟨"SinkingChoirModel", "plainly", "()V"⟩, 71) := ⟨⟨by decide +kernel, by decide +kernel⟩, List.mem_of_getElem? (i := 1170) (by decide +kernel), List.mem_of_getElem? (i := 1693) (by decide +kernel), List.mem_of_getElem? (i := 1694) (by decide +kernel)⟩
theorem lw_p79 : lw_okq (⟨"SinkingChoirModel", "readies", "()V"⟩, 71) := ⟨⟨by decide +kernel, by decide +kernel⟩, List.mem_of_getElem? (i := 1170) (by decide +kernel), List.mem_of_getElem? (i := 1697) (by decide +kernel), List.mem_of_getElem? (i := 1698) (by decide +kernel)⟩
def lw_privs_5 : List (MethodName × Nat) := [(⟨"SinkingChoirModel", "opens", "()V"⟩, 71), (⟨"SinkingChoirModel", "puts", "(I)V"⟩, 71), (⟨"SinkingChoirModel", "seesDigit", "()Z"⟩, 71), (⟨"SinkingChoirModel", "reads", "()I"⟩, 71), (⟨"SinkingChoirModel", "emit", "(II)V"⟩, 71), (⟨"SinkingChoirModel", "stays", "()Z"⟩, 71), (⟨"SinkingChoirModel", "sums", "(Z)V"⟩, 71), (⟨"SinkingChoirModel", "top", "()I"⟩, 71), (⟨"SinkingChoirModel", "condition", "()V"⟩, 71), (⟨"SinkingChoirModel", "pieceOfC", "()V"⟩, 71), (⟨"SinkingChoirModel", "ends", "()V"⟩, 71), (⟨"SinkingChoirModel", "goesBehind", "()Z"⟩, 71), (⟨"SinkingChoirModel", "joins", "(Z)V"⟩, 71), (⟨"SinkingChoirModel", "sings", "(II)Z"⟩, 71), (⟨"SinkingChoirModel", "plainly", "()V"⟩, 71), (⟨"SinkingChoirModel", "readies", "()V"⟩, 71)]
theorem lw_r5 : ∀ q ∈ lw_privs_5, lw_okq q := List.forall_mem_cons.mpr ⟨lw_p64, List.forall_mem_cons.mpr ⟨lw_p65, List.forall_mem_cons.mpr ⟨lw_p66, List.forall_mem_cons.mpr ⟨lw_p67, List.forall_mem_cons.mpr ⟨lw_p68, List.forall_mem_cons.mpr ⟨lw_p69, List.forall_mem_cons.mpr ⟨lw_p70, List.forall_mem_cons.mpr ⟨lw_p71, List.forall_mem_cons.mpr ⟨lw_p72, List.forall_mem_cons.mpr ⟨lw_p73, List.forall_mem_cons.mpr ⟨lw_p74, List.forall_mem_cons.mpr ⟨lw_p75, List.forall_mem_cons.mpr ⟨lw_p76, List.forall_mem_cons.mpr ⟨lw_p77, List.forall_mem_cons.mpr ⟨lw_p78, List.forall_mem_cons.mpr ⟨lw_p79, fun _ h => absurd h List.not_mem_nil⟩⟩⟩⟩⟩⟩⟩⟩⟩⟩⟩⟩⟩⟩⟩⟩
theorem lw_p80 : lw_okq (⟨"SinkingChoirModel", "isSung", "()V"⟩, 71) := ⟨⟨by decide +kernel, by decide +kernel⟩, List.mem_of_getElem? (i := 1170) (by decide +kernel), List.mem_of_getElem? (i := 1701) (by decide +kernel), List.mem_of_getElem? (i := 1702) (by decide +kernel)⟩
theorem lw_p81 : lw_okq (⟨"SinkingChoirModel", "keyOf", "(II)I"⟩, 71) := ⟨⟨by decide +kernel, by decide +kernel⟩, List.mem_of_getElem? (i := 1170) (by decide +kernel), List.mem_of_getElem? (i := 1708) (by decide +kernel), List.mem_of_getElem? (i := 1709) (by decide +kernel)⟩
theorem lw_p82 : lw_okq (⟨"SinkingChoirModel", "tableOf", "(I)I"⟩, 71) := ⟨⟨by decide +kernel, by decide +kernel⟩, List.mem_of_getElem? (i := 1170) (by decide +kernel), List.mem_of_getElem? (i := 1712) (by decide +kernel), List.mem_of_getElem? (i := 1713) (by decide +kernel)⟩
theorem lw_p83 : lw_okq (⟨"SinkingChoirModel", "singsNote", "(II)V"⟩, 71) := ⟨⟨by decide +kernel, by decide +kernel⟩, List.mem_of_getElem? (i := 1170) (by decide +kernel), List.mem_of_getElem? (i := 1717) (by decide +kernel), List.mem_of_getElem? (i := 1718) (by decide +kernel)⟩
theorem lw_p84 : lw_okq (⟨"SinkingChoirModel", "listens", "(II)V"⟩, 71) := ⟨⟨by decide +kernel, by decide +kernel⟩, List.mem_of_getElem? (i := 1170) (by decide +kernel), List.mem_of_getElem? (i := 1722) (by decide +kernel), List.mem_of_getElem? (i := 1723) (by decide +kernel)⟩
theorem lw_p85 : lw_okq (⟨"SinkingChoirModel", "hearsOf", "(II)I"⟩, 71) := ⟨⟨by decide +kernel, by decide +kernel⟩, List.mem_of_getElem? (i := 1170) (by decide +kernel), List.mem_of_getElem? (i := 1726) (by decide +kernel), List.mem_of_getElem? (i := 1727) (by decide +kernel)⟩
theorem lw_p86 : lw_okq (⟨"SinkingChoirModel", "sizeFor", "(II)I"⟩, 71) := ⟨⟨by decide +kernel, by decide +kernel⟩, List.mem_of_getElem? (i := 1170) (by decide +kernel), List.mem_of_getElem? (i := 1730) (by decide +kernel), List.mem_of_getElem? (i := 1731) (by decide +kernel)⟩
theorem lw_p87 : lw_okq (⟨"SinkingChoirModel", "tells", "(III)I"⟩, 71) := ⟨⟨by decide +kernel, by decide +kernel⟩, List.mem_of_getElem? (i := 1170) (by decide +kernel), List.mem_of_getElem? (i := 1737) (by decide +kernel), List.mem_of_getElem? (i := 1738) (by decide +kernel)⟩
theorem lw_p88 : lw_okq (⟨"SinkingChoirModel", "works", "(II)V"⟩, 71) := ⟨⟨by decide +kernel, by decide +kernel⟩, List.mem_of_getElem? (i := 1170) (by decide +kernel), List.mem_of_getElem? (i := 1741) (by decide +kernel), List.mem_of_getElem? (i := 1742) (by decide +kernel)⟩
theorem lw_p89 : lw_okq (⟨"SinkingChoirModel", "does", "(II)V"⟩, 71) := ⟨⟨by decide +kernel, by decide +kernel⟩, List.mem_of_getElem? (i := 1170) (by decide +kernel), List.mem_of_getElem? (i := 1745) (by decide +kernel), List.mem_of_getElem? (i := 1746) (by decide +kernel)⟩
theorem lw_p90 : lw_okq (⟨"SinkingChoirModel", "valueOf", "(I)I"⟩, 71) := ⟨⟨by decide +kernel, by decide +kernel⟩, List.mem_of_getElem? (i := 1170) (by decide +kernel), List.mem_of_getElem? (i := 1752) (by decide +kernel), List.mem_of_getElem? (i := 1753) (by decide +kernel)⟩
theorem lw_p91 : lw_okq (⟨"SinkingChoirModel", "leapOf", "()I"⟩, 71) := ⟨⟨by decide +kernel, by decide +kernel⟩, List.mem_of_getElem? (i := 1170) (by decide +kernel), List.mem_of_getElem? (i := 1756) (by decide +kernel), List.mem_of_getElem? (i := 1757) (by decide +kernel)⟩
theorem lw_p92 : lw_okq (⟨"SinkingChoirModel", "singing", "(I)I"⟩, 71) := ⟨⟨by decide +kernel, by decide +kernel⟩, List.mem_of_getElem? (i := 1170) (by decide +kernel), List.mem_of_getElem? (i := 1760) (by decide +kernel), List.mem_of_getElem? (i := 1761) (by decide +kernel)⟩
theorem lw_p93 : lw_okq (⟨"SinkingChoirModel", "aimOf", "(IIJJJJ)J"⟩, 71) := ⟨⟨by decide +kernel, by decide +kernel⟩, List.mem_of_getElem? (i := 1170) (by decide +kernel), List.mem_of_getElem? (i := 1765) (by decide +kernel), List.mem_of_getElem? (i := 1766) (by decide +kernel)⟩
theorem lw_p94 : lw_okq (⟨"SinkingChoirModel", "offOf", "(I)J"⟩, 71) := ⟨⟨by decide +kernel, by decide +kernel⟩, List.mem_of_getElem? (i := 1170) (by decide +kernel), List.mem_of_getElem? (i := 1775) (by decide +kernel), List.mem_of_getElem? (i := 1776) (by decide +kernel)⟩
theorem lw_p95 : lw_okq (⟨"SinkingChoirModel", "foulOf", "(I)J"⟩, 71) := ⟨⟨by decide +kernel, by decide +kernel⟩, List.mem_of_getElem? (i := 1170) (by decide +kernel), List.mem_of_getElem? (i := 1779) (by decide +kernel), List.mem_of_getElem? (i := 1780) (by decide +kernel)⟩
def lw_privs_6 : List (MethodName × Nat) := [(⟨"SinkingChoirModel", "isSung", "()V"⟩, 71), (⟨"SinkingChoirModel", "keyOf", "(II)I"⟩, 71), (⟨"SinkingChoirModel", "tableOf", "(I)I"⟩, 71), (⟨"SinkingChoirModel", "singsNote", "(II)V"⟩, 71), (⟨"SinkingChoirModel", "listens", "(II)V"⟩, 71), (⟨"SinkingChoirModel", "hearsOf", "(II)I"⟩, 71), (⟨"SinkingChoirModel", "sizeFor", "(II)I"⟩, 71), (⟨"SinkingChoirModel", "tells", "(III)I"⟩, 71), (⟨"SinkingChoirModel", "works", "(II)V"⟩, 71), (⟨"SinkingChoirModel", "does", "(II)V"⟩, 71), (⟨"SinkingChoirModel", "valueOf", "(I)I"⟩, 71), (⟨"SinkingChoirModel", "leapOf", "()I"⟩, 71), (⟨"SinkingChoirModel", "singing", "(I)I"⟩, 71), (⟨"SinkingChoirModel", "aimOf", "(IIJJJJ)J"⟩, 71), (⟨"SinkingChoirModel", "offOf", "(I)J"⟩, 71), (⟨"SinkingChoirModel", "foulOf", "(I)J"⟩, 71)]
theorem lw_r6 : ∀ q ∈ lw_privs_6, lw_okq q := List.forall_mem_cons.mpr ⟨lw_p80, List.forall_mem_cons.mpr ⟨lw_p81, List.forall_mem_cons.mpr ⟨lw_p82, List.forall_mem_cons.mpr ⟨lw_p83, List.forall_mem_cons.mpr ⟨lw_p84, List.forall_mem_cons.mpr ⟨lw_p85, List.forall_mem_cons.mpr ⟨lw_p86, List.forall_mem_cons.mpr ⟨lw_p87, List.forall_mem_cons.mpr ⟨lw_p88, List.forall_mem_cons.mpr ⟨lw_p89, List.forall_mem_cons.mpr ⟨lw_p90, List.forall_mem_cons.mpr ⟨lw_p91, List.forall_mem_cons.mpr ⟨lw_p92, List.forall_mem_cons.mpr ⟨lw_p93, List.forall_mem_cons.mpr ⟨lw_p94, List.forall_mem_cons.mpr ⟨lw_p95, fun _ h => absurd h List.not_mem_nil⟩⟩⟩⟩⟩⟩⟩⟩⟩⟩⟩⟩⟩⟩⟩⟩
theorem lw_p96 : lw_okq (⟨"SinkingChoirModel", "tableFoul", "(I)J"⟩, 71) := ⟨⟨by decide +kernel, by decide +kernel⟩, List.mem_of_getElem? (i := 1170) (by decide +kernel), List.mem_of_getElem? (i := 1783) (by decide +kernel), List.mem_of_getElem? (i := 1784) (by decide +kernel)⟩
theorem lw_p97 : lw_okq (⟨"SinkingChoirModel", "firstSung", "()I"⟩, 71) := ⟨⟨by decide +kernel, by decide +kernel⟩, List.mem_of_getElem? (i := 1170) (by decide +kernel), List.mem_of_getElem? (i := 1791) (by decide +kernel), List.mem_of_getElem? (i := 1792) (by decide +kernel)⟩
theorem lw_p98 : lw_okq (⟨"SinkingChoirModel", "sunkNow", "()J"⟩, 71) := ⟨⟨by decide +kernel, by decide +kernel⟩, List.mem_of_getElem? (i := 1170) (by decide +kernel), List.mem_of_getElem? (i := 1796) (by decide +kernel), List.mem_of_getElem? (i := 1797) (by decide +kernel)⟩
theorem lw_p99 : lw_okq (⟨"SinkingChoirModel", "lastSung", "()I"⟩, 71) := ⟨⟨by decide +kernel, by decide +kernel⟩, List.mem_of_getElem? (i := 1170) (by decide +kernel), List.mem_of_getElem? (i := 1800) (by decide +kernel), List.mem_of_getElem? (i := 1801) (by decide +kernel)⟩
theorem lw_p100 : lw_okq (⟨"SinkingChoirModel", "sungMany", "()I"⟩, 71) := ⟨⟨by decide +kernel, by decide +kernel⟩, List.mem_of_getElem? (i := 1170) (by decide +kernel), List.mem_of_getElem? (i := 1804) (by decide +kernel), List.mem_of_getElem? (i := 1805) (by decide +kernel)⟩
theorem lw_p101 : lw_okq (⟨"SinkingChoirModel", "allFoul", "()J"⟩, 71) := ⟨⟨by decide +kernel, by decide +kernel⟩, List.mem_of_getElem? (i := 1170) (by decide +kernel), List.mem_of_getElem? (i := 1808) (by decide +kernel), List.mem_of_getElem? (i := 1809) (by decide +kernel)⟩
theorem lw_p102 : lw_okq (⟨"SinkingChoirModel", "swaps", "(II)V"⟩, 71) := ⟨⟨by decide +kernel, by decide +kernel⟩, List.mem_of_getElem? (i := 1170) (by decide +kernel), List.mem_of_getElem? (i := 1821) (by decide +kernel), List.mem_of_getElem? (i := 1822) (by decide +kernel)⟩
theorem lw_p103 : lw_okq (⟨"SinkingChoirModel", "stepsOn", "()Z"⟩, 71) := ⟨⟨by decide +kernel, by decide +kernel⟩, List.mem_of_getElem? (i := 1170) (by decide +kernel), List.mem_of_getElem? (i := 1825) (by decide +kernel), List.mem_of_getElem? (i := 1826) (by decide +kernel)⟩
theorem lw_p104 : lw_okq (⟨"SinkingChoirModel", "farthest", "()J"⟩, 71) := ⟨⟨by decide +kernel, by decide +kernel⟩, List.mem_of_getElem? (i := 1170) (by decide +kernel), List.mem_of_getElem? (i := 1835) (by decide +kernel), List.mem_of_getElem? (i := 1836) (by decide +kernel)⟩
theorem lw_p105 : lw_okq (⟨"SinkingChoirModel", "isTaped", "(II)Z"⟩, 71) := ⟨⟨by decide +kernel, by decide +kernel⟩, List.mem_of_getElem? (i := 1170) (by decide +kernel), List.mem_of_getElem? (i := 1857) (by decide +kernel), List.mem_of_getElem? (i := 1858) (by decide +kernel)⟩
theorem lw_p106 : lw_okq (⟨"SinkingChoirModel", "differs", "(IIII)J"⟩, 71) := ⟨⟨by decide +kernel, by decide +kernel⟩, List.mem_of_getElem? (i := 1170) (by decide +kernel), List.mem_of_getElem? (i := 1861) (by decide +kernel), List.mem_of_getElem? (i := 1862) (by decide +kernel)⟩
theorem lw_p107 : lw_okq (⟨"SinkingChoirModel", "minds", "(II)J"⟩, 71) := ⟨⟨by decide +kernel, by decide +kernel⟩, List.mem_of_getElem? (i := 1170) (by decide +kernel), List.mem_of_getElem? (i := 1871) (by decide +kernel), List.mem_of_getElem? (i := 1872) (by decide +kernel)⟩
theorem lw_p108 : lw_okq (⟨"SinkingChoirModel", "numberAt", "(I)I"⟩, 71) := ⟨⟨by decide +kernel, by decide +kernel⟩, List.mem_of_getElem? (i := 1170) (by decide +kernel), List.mem_of_getElem? (i := 1879) (by decide +kernel), List.mem_of_getElem? (i := 1880) (by decide +kernel)⟩
def lw_privs_7 : List (MethodName × Nat) := [(⟨"SinkingChoirModel", "tableFoul", "(I)J"⟩, 71), (⟨"SinkingChoirModel", "firstSung", "()I"⟩, 71), (⟨"SinkingChoirModel", "sunkNow", "()J"⟩, 71), (⟨"SinkingChoirModel", "lastSung", "()I"⟩, 71), (⟨"SinkingChoirModel", "sungMany", "()I"⟩, 71), (⟨"SinkingChoirModel", "allFoul", "()J"⟩, 71), (⟨"SinkingChoirModel", "swaps", "(II)V"⟩, 71), (⟨"SinkingChoirModel", "stepsOn", "()Z"⟩, 71), (⟨"SinkingChoirModel", "farthest", "()J"⟩, 71), (⟨"SinkingChoirModel", "isTaped", "(II)Z"⟩, 71), (⟨"SinkingChoirModel", "differs", "(IIII)J"⟩, 71), (⟨"SinkingChoirModel", "minds", "(II)J"⟩, 71), (⟨"SinkingChoirModel", "numberAt", "(I)I"⟩, 71)]
theorem lw_r7 : ∀ q ∈ lw_privs_7, lw_okq q := List.forall_mem_cons.mpr ⟨lw_p96, List.forall_mem_cons.mpr ⟨lw_p97, List.forall_mem_cons.mpr ⟨lw_p98, List.forall_mem_cons.mpr ⟨lw_p99, List.forall_mem_cons.mpr ⟨lw_p100, List.forall_mem_cons.mpr ⟨lw_p101, List.forall_mem_cons.mpr ⟨lw_p102, List.forall_mem_cons.mpr ⟨lw_p103, List.forall_mem_cons.mpr ⟨lw_p104, List.forall_mem_cons.mpr ⟨lw_p105, List.forall_mem_cons.mpr ⟨lw_p106, List.forall_mem_cons.mpr ⟨lw_p107, List.forall_mem_cons.mpr ⟨lw_p108, fun _ h => absurd h List.not_mem_nil⟩⟩⟩⟩⟩⟩⟩⟩⟩⟩⟩⟩⟩
def lw_privs : List (MethodName × Nat) := lw_privs_1 ++ (lw_privs_2 ++ (lw_privs_3 ++ (lw_privs_4 ++ (lw_privs_5 ++ (lw_privs_6 ++ (lw_privs_7))))))
def lw_tbl : List Cond := k2_sels lw_privs ++ tables_1
theorem lw_privs_ok : ∀ q ∈ lw_privs, lw_okq q := by
  show ∀ q ∈ lw_privs_1 ++ (lw_privs_2 ++ (lw_privs_3 ++ (lw_privs_4 ++ (lw_privs_5 ++ (lw_privs_6 ++ (lw_privs_7)))))), lw_okq q
  exact List.forall_mem_append.mpr ⟨lw_r1, List.forall_mem_append.mpr ⟨lw_r2, List.forall_mem_append.mpr ⟨lw_r3, List.forall_mem_append.mpr ⟨lw_r4, List.forall_mem_append.mpr ⟨lw_r5, List.forall_mem_append.mpr ⟨lw_r6, lw_r7⟩⟩⟩⟩⟩⟩
/-! the words that stay, as one list -/
def tb : List Cond := lw_tbl.filter goodWord
theorem mem_tb (i : Nat) {w : Cond} (h : lw_tbl[i]? = some w) (g : goodWord w = true) : w ∈ tb := List.mem_filter.mpr ⟨List.mem_of_getElem? h, g⟩
theorem tb_good : GoodIn tb tb := fun w h => ⟨h, good_of_word (List.mem_filter.mp h).2⟩
theorem tb_sub {w : Cond} (h : w ∈ tb) : w ∈ lw_tbl := (List.mem_filter.mp h).1
def R0 : String := "SinkingChoir"
def T0 : u_T := fun k => match k with
  | 0 => ("SinkingChoir", "score", "LSinkingChoir$Score;", true)
  | 1 => ("SinkingChoir", "choir", "LSinkingChoir$Choir;", true)
  | 2 => ("SinkingChoir", "singing", "LSinkingChoir$Singing;", true)
  | 3 => ("SinkingChoir", "best", "LSinkingChoir$Standing;", true)
  | 4 => ("SinkingChoir", "leading", "LSinkingChoir$Leading;", true)
  | 5 => ("SinkingChoir", "fitting", "LSinkingChoir$Fitting;", true)
  | 6 => ("SinkingChoir", "reel", "LSinkingChoir$Reel;", true)
  | 7 => ("SinkingChoir", "reader", "LSinkingChoir$Reader;", true)
  | 8 => ("SinkingChoir", "ways", "LSinkingChoir$Ways;", false)
  | _ => ("SinkingChoir", "changes", "I", false)
def ty0 : Nat → FieldType := fun k => match k with
  | 0 => .object "SinkingChoir$Score"
  | 1 => .object "SinkingChoir$Choir"
  | 2 => .object "SinkingChoir$Singing"
  | 3 => .object "SinkingChoir$Standing"
  | 4 => .object "SinkingChoir$Leading"
  | 5 => .object "SinkingChoir$Fitting"
  | 6 => .object "SinkingChoir$Reel"
  | 7 => .object "SinkingChoir$Reader"
  | 8 => .object "SinkingChoir$Ways"
  | _ => .int
def R1 : String := "SinkingChoirModel"
def T1 : u_T := fun k => match k with
  | 0 => ("SinkingChoirModel", "tape", "[B", true)
  | 1 => ("SinkingChoirModel", "taped", "I", false)
  | 2 => ("SinkingChoirModel", "key", "[I", true)
  | 3 => ("SinkingChoirModel", "two", "[I", true)
  | 4 => ("SinkingChoirModel", "three", "[I", true)
  | 5 => ("SinkingChoirModel", "five", "[I", true)
  | 6 => ("SinkingChoirModel", "breathes", "[Z", true)
  | 7 => ("SinkingChoirModel", "linkOf", "[I", true)
  | 8 => ("SinkingChoirModel", "noteTwo", "I", false)
  | 9 => ("SinkingChoirModel", "noteThree", "I", false)
  | 10 => ("SinkingChoirModel", "noteFive", "I", false)
  | 11 => ("SinkingChoirModel", "many", "[I", true)
  | 12 => ("SinkingChoirModel", "stateTwo", "[I", true)
  | 13 => ("SinkingChoirModel", "stateThree", "[I", true)
  | 14 => ("SinkingChoirModel", "stateFive", "[I", true)
  | 15 => ("SinkingChoirModel", "cost", "[J", true)
  | 16 => ("SinkingChoirModel", "row", "[I", true)
  | 17 => ("SinkingChoirModel", "rowCost", "J", false)
  | 18 => ("SinkingChoirModel", "singers", "I", false)
  | 19 => ("SinkingChoirModel", "seed", "I", false)
  | 20 => ("SinkingChoirModel", "blow", "I", false)
  | 21 => ("SinkingChoirModel", "givenAt", "I", false)
  | 22 => ("SinkingChoirModel", "voiceOf", "[I", true)
  | 23 => ("SinkingChoirModel", "placeAt", "[I", true)
  | 24 => ("SinkingChoirModel", "loudOf", "[I", true)
  | 25 => ("SinkingChoirModel", "knowsOf", "[I", true)
  | 26 => ("SinkingChoirModel", "told", "[I", true)
  | 27 => ("SinkingChoirModel", "clauseMany", "I", false)
  | 28 => ("SinkingChoirModel", "clauseLetter", "[I", true)
  | 29 => ("SinkingChoirModel", "sumFrom", "[I", true)
  | 30 => ("SinkingChoirModel", "codeFrom", "[I", true)
  | 31 => ("SinkingChoirModel", "codeTo", "[I", true)
  | 32 => ("SinkingChoirModel", "code", "[I", true)
  | 33 => ("SinkingChoirModel", "codeArg", "[I", true)
  | 34 => ("SinkingChoirModel", "newLetter", "[I", true)
  | 35 => ("SinkingChoirModel", "newSum", "[I", true)
  | 36 => ("SinkingChoirModel", "newFrom", "[I", true)
  | 37 => ("SinkingChoirModel", "newTo", "[I", true)
  | 38 => ("SinkingChoirModel", "newCode", "[I", true)
  | 39 => ("SinkingChoirModel", "newArg", "[I", true)
  | 40 => ("SinkingChoirModel", "place", "I", false)
  | 41 => ("SinkingChoirModel", "end", "I", false)
  | 42 => ("SinkingChoirModel", "bad", "I", false)
  | 43 => ("SinkingChoirModel", "clauses", "I", false)
  | 44 => ("SinkingChoirModel", "codes", "I", false)
  | 45 => ("SinkingChoirModel", "open", "I", false)
  | 46 => ("SinkingChoirModel", "stacked", "I", false)
  | 47 => ("SinkingChoirModel", "isOver", "Z", false)
  | 48 => ("SinkingChoirModel", "isBehind", "Z", false)
  | 49 => ("SinkingChoirModel", "stack", "[I", true)
  | 50 => ("SinkingChoirModel", "atPlace", "[I", true)
  | 51 => ("SinkingChoirModel", "knowing", "[I", true)
  | 52 => ("SinkingChoirModel", "giving", "I", false)
  | 53 => ("SinkingChoirModel", "turn", "I", false)
  | 54 => ("SinkingChoirModel", "pitchOf", "[I", true)
  | 55 => ("SinkingChoirModel", "lastPitch", "[I", true)
  | 56 => ("SinkingChoirModel", "lastBeatOf", "[I", true)
  | 57 => ("SinkingChoirModel", "givenThen", "[I", true)
  | 58 => ("SinkingChoirModel", "luck", "I", false)
  | 59 => ("SinkingChoirModel", "atSinger", "I", false)
  | 60 => ("SinkingChoirModel", "atBeat", "I", false)
  | 61 => ("SinkingChoirModel", "driftSum", "J", false)
  | 62 => ("SinkingChoirModel", "worth", "[I", true)
  | 63 => ("SinkingChoirModel", "isRefused", "[Z", true)
  | 64 => ("SinkingChoirModel", "byOthers", "J", false)
  | 65 => ("SinkingChoirModel", "byOwn", "J", false)
  | 66 => ("SinkingChoirModel", "hasOthers", "Z", false)
  | 67 => ("SinkingChoirModel", "hasOwn", "Z", false)
  | 68 => ("SinkingChoirModel", "bestPlace", "[I", true)
  | 69 => ("SinkingChoirModel", "onTape", "[I", true)
  | _ => ("SinkingChoirModel", "hasTape", "[Z", true)
def ty1 : Nat → FieldType := fun k => match k with
  | 0 => .array .byte
  | 1 => .int
  | 2 => .array .int
  | 3 => .array .int
  | 4 => .array .int
  | 5 => .array .int
  | 6 => .array .boolean
  | 7 => .array .int
  | 8 => .int
  | 9 => .int
  | 10 => .int
  | 11 => .array .int
  | 12 => .array .int
  | 13 => .array .int
  | 14 => .array .int
  | 15 => .array .long
  | 16 => .array .int
  | 17 => .long
  | 18 => .int
  | 19 => .int
  | 20 => .int
  | 21 => .int
  | 22 => .array .int
  | 23 => .array .int
  | 24 => .array .int
  | 25 => .array .int
  | 26 => .array .int
  | 27 => .int
  | 28 => .array .int
  | 29 => .array .int
  | 30 => .array .int
  | 31 => .array .int
  | 32 => .array .int
  | 33 => .array .int
  | 34 => .array .int
  | 35 => .array .int
  | 36 => .array .int
  | 37 => .array .int
  | 38 => .array .int
  | 39 => .array .int
  | 40 => .int
  | 41 => .int
  | 42 => .int
  | 43 => .int
  | 44 => .int
  | 45 => .int
  | 46 => .int
  | 47 => .boolean
  | 48 => .boolean
  | 49 => .array .int
  | 50 => .array .int
  | 51 => .array .int
  | 52 => .int
  | 53 => .int
  | 54 => .array .int
  | 55 => .array .int
  | 56 => .array .int
  | 57 => .array .int
  | 58 => .int
  | 59 => .int
  | 60 => .int
  | 61 => .long
  | 62 => .array .int
  | 63 => .array .boolean
  | 64 => .long
  | 65 => .long
  | 66 => .boolean
  | 67 => .boolean
  | 68 => .array .int
  | 69 => .array .int
  | _ => .array .boolean
def R2 : String := "SinkingChoir$Choir"
def T2 : u_T := fun k => match k with
  | 0 => ("SinkingChoir$Choir", "score", "LSinkingChoir$Score;", true)
  | 1 => ("SinkingChoir$Choir", "voices", "[I", true)
  | 2 => ("SinkingChoir$Choir", "places", "[I", true)
  | 3 => ("SinkingChoir$Choir", "louds", "[I", true)
  | 4 => ("SinkingChoir$Choir", "knowing", "[I", true)
  | 5 => ("SinkingChoir$Choir", "recorded", "[I", true)
  | 6 => ("SinkingChoir$Choir", "records", "[I", true)
  | 7 => ("SinkingChoir$Choir", "tables", "[I", true)
  | 8 => ("SinkingChoir$Choir", "words", "LSinkingChoir$Program;", false)
  | 9 => ("SinkingChoir$Choir", "count", "I", false)
  | 10 => ("SinkingChoir$Choir", "luck", "I", false)
  | 11 => ("SinkingChoir$Choir", "wind", "I", false)
  | _ => ("SinkingChoir$Choir", "givings", "I", false)
def ty2 : Nat → FieldType := fun k => match k with
  | 0 => .object "SinkingChoir$Score"
  | 1 => .array .int
  | 2 => .array .int
  | 3 => .array .int
  | 4 => .array .int
  | 5 => .array .int
  | 6 => .array .int
  | 7 => .array .int
  | 8 => .object "SinkingChoir$Program"
  | 9 => .int
  | 10 => .int
  | 11 => .int
  | _ => .int
def R3 : String := "SinkingChoir$Fitting"
def T3 : u_T := fun k => match k with
  | 0 => ("SinkingChoir$Fitting", "score", "LSinkingChoir$Score;", true)
  | 1 => ("SinkingChoir$Fitting", "choir", "LSinkingChoir$Choir;", true)
  | 2 => ("SinkingChoir$Fitting", "singing", "LSinkingChoir$Singing;", true)
  | 3 => ("SinkingChoir$Fitting", "differences", "[J", true)
  | _ => ("SinkingChoir$Fitting", "row", "I", false)
def ty3 : Nat → FieldType := fun k => match k with
  | 0 => .object "SinkingChoir$Score"
  | 1 => .object "SinkingChoir$Choir"
  | 2 => .object "SinkingChoir$Singing"
  | 3 => .array .long
  | _ => .int
def R4 : String := "SinkingChoir$Leading"
def T4 : u_T := fun k => match k with
  | 0 => ("SinkingChoir$Leading", "choir", "LSinkingChoir$Choir;", true)
  | 1 => ("SinkingChoir$Leading", "singing", "LSinkingChoir$Singing;", true)
  | 2 => ("SinkingChoir$Leading", "far", "[J", true)
  | 3 => ("SinkingChoir$Leading", "set", "I", false)
  | _ => ("SinkingChoir$Leading", "greatest", "J", false)
def ty4 : Nat → FieldType := fun k => match k with
  | 0 => .object "SinkingChoir$Choir"
  | 1 => .object "SinkingChoir$Singing"
  | 2 => .array .long
  | 3 => .int
  | _ => .long
def R5 : String := "SinkingChoir$Program"
def T5 : u_T := fun k => match k with
  | 0 => ("SinkingChoir$Program", "ops", "[I", true)
  | 1 => ("SinkingChoir$Program", "args", "[I", true)
  | 2 => ("SinkingChoir$Program", "stack", "[I", true)
  | 3 => ("SinkingChoir$Program", "aimed", "[I", true)
  | 4 => ("SinkingChoir$Program", "starts", "[I", true)
  | 5 => ("SinkingChoir$Program", "middles", "[I", true)
  | 6 => ("SinkingChoir$Program", "steps", "I", false)
  | _ => ("SinkingChoir$Program", "clauses", "I", false)
def ty5 : Nat → FieldType := fun k => match k with
  | 0 => .array .int
  | 1 => .array .int
  | 2 => .array .int
  | 3 => .array .int
  | 4 => .array .int
  | 5 => .array .int
  | 6 => .int
  | _ => .int
def R6 : String := "SinkingChoir$Reader"
def T6 : u_T := fun k => match k with
  | 0 => ("SinkingChoir$Reader", "signs", "[I", true)
  | 1 => ("SinkingChoir$Reader", "out", "LSinkingChoir$Program;", false)
  | 2 => ("SinkingChoir$Reader", "length", "I", false)
  | 3 => ("SinkingChoir$Reader", "at", "I", false)
  | _ => ("SinkingChoir$Reader", "fault", "I", false)
def ty6 : Nat → FieldType := fun k => match k with
  | 0 => .array .int
  | 1 => .object "SinkingChoir$Program"
  | 2 => .int
  | 3 => .int
  | _ => .int
def R7 : String := "SinkingChoir$Reel"
def T7 : u_T := fun k => match k with
  | 0 => ("SinkingChoir$Reel", "bytes", "[I", true)
  | _ => ("SinkingChoir$Reel", "length", "I", false)
def ty7 : Nat → FieldType := fun k => match k with
  | 0 => .array .int
  | _ => .int
def R8 : String := "SinkingChoir$Score"
def T8 : u_T := fun k => match k with
  | 0 => ("SinkingChoir$Score", "keys", "[I", true)
  | 1 => ("SinkingChoir$Score", "exponents", "[I", true)
  | 2 => ("SinkingChoir$Score", "mills", "[I", true)
  | 3 => ("SinkingChoir$Score", "breaths", "[I", true)
  | 4 => ("SinkingChoir$Score", "links", "[I", true)
  | 5 => ("SinkingChoir$Score", "keynotes", "[I", true)
  | _ => ("SinkingChoir$Score", "keynoteExponents", "[I", true)
def ty8 : Nat → FieldType := fun k => match k with
  | 0 => .array .int
  | 1 => .array .int
  | 2 => .array .int
  | 3 => .array .int
  | 4 => .array .int
  | 5 => .array .int
  | _ => .array .int
def R9 : String := "SinkingChoir$Singing"
def T9 : u_T := fun k => match k with
  | 0 => ("SinkingChoir$Singing", "score", "LSinkingChoir$Score;", true)
  | 1 => ("SinkingChoir$Singing", "choir", "LSinkingChoir$Choir;", true)
  | 2 => ("SinkingChoir$Singing", "pitches", "[J", true)
  | 3 => ("SinkingChoir$Singing", "lasts", "[J", true)
  | 4 => ("SinkingChoir$Singing", "letters", "[I", true)
  | 5 => ("SinkingChoir$Singing", "weights", "[I", true)
  | 6 => ("SinkingChoir$Singing", "aims", "[J", true)
  | 7 => ("SinkingChoir$Singing", "counts", "[Z", true)
  | 8 => ("SinkingChoir$Singing", "places", "[I", false)
  | 9 => ("SinkingChoir$Singing", "givings", "I", false)
  | 10 => ("SinkingChoir$Singing", "turn", "I", false)
  | 11 => ("SinkingChoir$Singing", "nobodyKnows", "Z", false)
  | 12 => ("SinkingChoir$Singing", "drift", "J", false)
  | 13 => ("SinkingChoir$Singing", "luck", "I", false)
  | _ => ("SinkingChoir$Singing", "many", "I", false)
def ty9 : Nat → FieldType := fun k => match k with
  | 0 => .object "SinkingChoir$Score"
  | 1 => .object "SinkingChoir$Choir"
  | 2 => .array .long
  | 3 => .array .long
  | 4 => .array .int
  | 5 => .array .int
  | 6 => .array .long
  | 7 => .array .boolean
  | 8 => .array .int
  | 9 => .int
  | 10 => .int
  | 11 => .boolean
  | 12 => .long
  | 13 => .int
  | _ => .int
def R10 : String := "SinkingChoir$Standing"
def T10 : u_T := fun k => match k with
  | 0 => ("SinkingChoir$Standing", "choir", "LSinkingChoir$Choir;", true)
  | 1 => ("SinkingChoir$Standing", "singing", "LSinkingChoir$Singing;", true)
  | 2 => ("SinkingChoir$Standing", "tried", "[I", true)
  | 3 => ("SinkingChoir$Standing", "places", "[I", true)
  | 4 => ("SinkingChoir$Standing", "sinking", "J", false)
  | 5 => ("SinkingChoir$Standing", "foul", "J", false)
  | _ => ("SinkingChoir$Standing", "foundAt", "I", false)
def ty10 : Nat → FieldType := fun k => match k with
  | 0 => .object "SinkingChoir$Choir"
  | 1 => .object "SinkingChoir$Singing"
  | 2 => .array .int
  | 3 => .array .int
  | 4 => .long
  | 5 => .long
  | _ => .int
def R11 : String := "SinkingChoir$Ways"
def T11 : u_T := fun k => match k with
  | 0 => ("SinkingChoir$Ways", "score", "LSinkingChoir$Score;", true)
  | 1 => ("SinkingChoir$Ways", "nodes", "[I", true)
  | 2 => ("SinkingChoir$Ways", "costs", "[I", true)
  | 3 => ("SinkingChoir$Ways", "counts", "[I", true)
  | 4 => ("SinkingChoir$Ways", "merged", "[I", true)
  | 5 => ("SinkingChoir$Ways", "shifts", "[I", true)
  | 6 => ("SinkingChoir$Ways", "prices", "[I", true)
  | 7 => ("SinkingChoir$Ways", "row", "[I", true)
  | 8 => ("SinkingChoir$Ways", "total", "I", false)
  | _ => ("SinkingChoir$Ways", "last", "I", false)
def ty11 : Nat → FieldType := fun k => match k with
  | 0 => .object "SinkingChoir$Score"
  | 1 => .array .int
  | 2 => .array .int
  | 3 => .array .int
  | 4 => .array .int
  | 5 => .array .int
  | 6 => .array .int
  | 7 => .array .int
  | 8 => .int
  | _ => .int
abbrev CLS : List vw_C := [(R0, T0, 10), (R1, T1, 71), (R2, T2, 13), (R3, T3, 5), (R4, T4, 5), (R5, T5, 8), (R6, T6, 5), (R7, T7, 2), (R8, T8, 7), (R9, T9, 15), (R10, T10, 7), (R11, T11, 10)]
def nfld : Nat → Nat
  | 0 => 10
  | 1 => 71
  | 2 => 13
  | 3 => 5
  | 4 => 5
  | 5 => 8
  | 6 => 5
  | 7 => 2
  | 8 => 7
  | 9 => 15
  | 10 => 7
  | 11 => 10
  | _ => 0
/-- what a field holds: 0 an int, 3 a boolean, 1 a long, 2 a reference -/
def FTC (ci k : Nat) : Nat := match ci with
  | 0 => [2, 2, 2, 2, 2, 2, 2, 2, 2, 0].getD k 2
  | 1 => [2, 0, 2, 2, 2, 2, 2, 2, 0, 0, 0, 2, 2, 2, 2, 2, 2, 1, 0, 0, 0, 0, 2, 2, 2, 2, 2, 0, 2, 2, 2, 2, 2, 2, 2, 2, 2, 2, 2, 2, 0, 0, 0, 0, 0, 0, 0, 3, 3, 2, 2, 2, 0, 0, 2, 2, 2, 2, 0, 0, 0, 1, 2, 2, 1, 1, 3, 3, 2, 2, 2].getD k 2
  | 2 => [2, 2, 2, 2, 2, 2, 2, 2, 2, 0, 0, 0, 0].getD k 2
  | 3 => [2, 2, 2, 2, 0].getD k 2
  | 4 => [2, 2, 2, 0, 1].getD k 2
  | 5 => [2, 2, 2, 2, 2, 2, 0, 0].getD k 2
  | 6 => [2, 2, 0, 0, 0].getD k 2
  | 7 => [2, 0].getD k 2
  | 8 => [2, 2, 2, 2, 2, 2, 2].getD k 2
  | 9 => [2, 2, 2, 2, 2, 2, 2, 2, 2, 0, 0, 3, 1, 0, 0].getD k 2
  | 10 => [2, 2, 2, 2, 1, 1, 0].getD k 2
  | 11 => [2, 2, 2, 2, 2, 2, 2, 2, 0, 0].getD k 2
  | _ => 2
def ftOk (c : Nat) (t : FieldType) : Bool := match c, t with
  | 0, .int => true
  | 3, .boolean => true
  | 1, .long => true
  | 2, .object _ => true
  | 2, .array _ => true
  | _, _ => false
def CFX (ci : Nat) (C : String) (T : u_T) (N : Nat) (ty : Nat → FieldType) : Prop := CLS[ci]? = some (C, T, N) ∧ nfld ci = N ∧ (∀ w ∈ u_ws C T N, w ∈ tb) ∧ (∀ k, k < N → parseFieldDescriptor (T k).2.2.1 = some (ty k)) ∧ (∀ a, a < N → ∀ b, b < N → a ≠ b → (T a).2.1 ≠ (T b).2.1) ∧ (∀ k, k < N → ftOk (FTC ci k) (ty k) = true) ∧ Cond.instantiable C N ∈ tb ∧ Cond.initialized C ∈ tb
set_option maxRecDepth 20000 in
theorem cfw0 : ∀ w ∈ u_ws R0 T0 10, w ∈ tb := by
  have h : ∀ k, k < 10 → lw_tbl[[472, 474, 476, 478, 480, 482, 484, 486, 488, 490].getD k 0]? = some (u_lay R0 T0 k) ∧ goodWord (u_lay R0 T0 k) = true := by decide +kernel
  intro w hw
  obtain ⟨k, hk, rfl⟩ := List.mem_map.mp hw
  have hk := List.mem_range.mp hk
  exact mem_tb _ (h k hk).1 (h k hk).2
set_option maxRecDepth 20000 in
theorem cf0 : CFX 0 R0 T0 10 ty0 := ⟨rfl, rfl, cfw0, by decide +kernel, by decide +kernel, by decide +kernel, mem_tb 133 (by decide +kernel) rfl, mem_tb 110 (by decide +kernel) rfl⟩
set_option maxRecDepth 20000 in
theorem cfw1 : ∀ w ∈ u_ws R1 T1 71, w ∈ tb := by
  have h : ∀ k, k < 71 → lw_tbl[[1355, 1357, 1359, 1361, 1363, 1365, 1367, 1369, 1371, 1373, 1375, 1377, 1379, 1381, 1383, 1385, 1387, 1389, 1391, 1393, 1395, 1397, 1399, 1401, 1403, 1405, 1407, 1409, 1411, 1413, 1415, 1417, 1419, 1421, 1423, 1425, 1427, 1429, 1431, 1433, 1435, 1437, 1439, 1441, 1443, 1445, 1447, 1449, 1451, 1453, 1455, 1457, 1459, 1461, 1463, 1465, 1467, 1469, 1471, 1473, 1475, 1477, 1479, 1481, 1483, 1485, 1487, 1489, 1491, 1493, 1495].getD k 0]? = some (u_lay R1 T1 k) ∧ goodWord (u_lay R1 T1 k) = true := by decide +kernel
  intro w hw
  obtain ⟨k, hk, rfl⟩ := List.mem_map.mp hw
  have hk := List.mem_range.mp hk
  exact mem_tb _ (h k hk).1 (h k hk).2
set_option maxRecDepth 20000 in
theorem cf1 : CFX 1 R1 T1 71 ty1 := ⟨rfl, rfl, cfw1, by decide +kernel, by decide +kernel, by decide +kernel, mem_tb 1279 (by decide +kernel) rfl, mem_tb 122 (by decide +kernel) rfl⟩
set_option maxRecDepth 20000 in
theorem cfw2 : ∀ w ∈ u_ws R2 T2 13, w ∈ tb := by
  have h : ∀ k, k < 13 → lw_tbl[[253, 255, 257, 259, 261, 263, 265, 267, 269, 271, 273, 275, 277].getD k 0]? = some (u_lay R2 T2 k) ∧ goodWord (u_lay R2 T2 k) = true := by decide +kernel
  intro w hw
  obtain ⟨k, hk, rfl⟩ := List.mem_map.mp hw
  have hk := List.mem_range.mp hk
  exact mem_tb _ (h k hk).1 (h k hk).2
set_option maxRecDepth 20000 in
theorem cf2 : CFX 2 R2 T2 13 ty2 := ⟨rfl, rfl, cfw2, by decide +kernel, by decide +kernel, by decide +kernel, mem_tb 182 (by decide +kernel) rfl, mem_tb 113 (by decide +kernel) rfl⟩
set_option maxRecDepth 20000 in
theorem cfw3 : ∀ w ∈ u_ws R3 T3 5, w ∈ tb := by
  have h : ∀ k, k < 5 → lw_tbl[[412, 414, 416, 418, 420].getD k 0]? = some (u_lay R3 T3 k) ∧ goodWord (u_lay R3 T3 k) = true := by decide +kernel
  intro w hw
  obtain ⟨k, hk, rfl⟩ := List.mem_map.mp hw
  have hk := List.mem_range.mp hk
  exact mem_tb _ (h k hk).1 (h k hk).2
set_option maxRecDepth 20000 in
theorem cf3 : CFX 3 R3 T3 5 ty3 := ⟨rfl, rfl, cfw3, by decide +kernel, by decide +kernel, by decide +kernel, mem_tb 402 (by decide +kernel) rfl, mem_tb 119 (by decide +kernel) rfl⟩
set_option maxRecDepth 20000 in
theorem cfw4 : ∀ w ∈ u_ws R4 T4 5, w ∈ tb := by
  have h : ∀ k, k < 5 → lw_tbl[[390, 392, 394, 396, 398].getD k 0]? = some (u_lay R4 T4 k) ∧ goodWord (u_lay R4 T4 k) = true := by decide +kernel
  intro w hw
  obtain ⟨k, hk, rfl⟩ := List.mem_map.mp hw
  have hk := List.mem_range.mp hk
  exact mem_tb _ (h k hk).1 (h k hk).2
set_option maxRecDepth 20000 in
theorem cf4 : CFX 4 R4 T4 5 ty4 := ⟨rfl, rfl, cfw4, by decide +kernel, by decide +kernel, by decide +kernel, mem_tb 378 (by decide +kernel) rfl, mem_tb 118 (by decide +kernel) rfl⟩
set_option maxRecDepth 20000 in
theorem cfw5 : ∀ w ∈ u_ws R5 T5 8, w ∈ tb := by
  have h : ∀ k, k < 8 → lw_tbl[[202, 204, 206, 208, 210, 212, 214, 216].getD k 0]? = some (u_lay R5 T5 k) ∧ goodWord (u_lay R5 T5 k) = true := by decide +kernel
  intro w hw
  obtain ⟨k, hk, rfl⟩ := List.mem_map.mp hw
  have hk := List.mem_range.mp hk
  exact mem_tb _ (h k hk).1 (h k hk).2
set_option maxRecDepth 20000 in
theorem cf5 : CFX 5 R5 T5 8 ty5 := ⟨rfl, rfl, cfw5, by decide +kernel, by decide +kernel, by decide +kernel, mem_tb 188 (by decide +kernel) rfl, mem_tb 114 (by decide +kernel) rfl⟩
set_option maxRecDepth 20000 in
theorem cfw6 : ∀ w ∈ u_ws R6 T6 5, w ∈ tb := by
  have h : ∀ k, k < 5 → lw_tbl[[451, 453, 455, 457, 459].getD k 0]? = some (u_lay R6 T6 k) ∧ goodWord (u_lay R6 T6 k) = true := by decide +kernel
  intro w hw
  obtain ⟨k, hk, rfl⟩ := List.mem_map.mp hw
  have hk := List.mem_range.mp hk
  exact mem_tb _ (h k hk).1 (h k hk).2
set_option maxRecDepth 20000 in
theorem cf6 : CFX 6 R6 T6 5 ty6 := ⟨rfl, rfl, cfw6, by decide +kernel, by decide +kernel, by decide +kernel, mem_tb 439 (by decide +kernel) rfl, mem_tb 121 (by decide +kernel) rfl⟩
set_option maxRecDepth 20000 in
theorem cfw7 : ∀ w ∈ u_ws R7 T7 2, w ∈ tb := by
  have h : ∀ k, k < 2 → lw_tbl[[433, 435].getD k 0]? = some (u_lay R7 T7 k) ∧ goodWord (u_lay R7 T7 k) = true := by decide +kernel
  intro w hw
  obtain ⟨k, hk, rfl⟩ := List.mem_map.mp hw
  have hk := List.mem_range.mp hk
  exact mem_tb _ (h k hk).1 (h k hk).2
set_option maxRecDepth 20000 in
theorem cf7 : CFX 7 R7 T7 2 ty7 := ⟨rfl, rfl, cfw7, by decide +kernel, by decide +kernel, by decide +kernel, mem_tb 424 (by decide +kernel) rfl, mem_tb 120 (by decide +kernel) rfl⟩
set_option maxRecDepth 20000 in
theorem cfw8 : ∀ w ∈ u_ws R8 T8 7, w ∈ tb := by
  have h : ∀ k, k < 7 → lw_tbl[[165, 167, 169, 171, 173, 175, 177].getD k 0]? = some (u_lay R8 T8 k) ∧ goodWord (u_lay R8 T8 k) = true := by decide +kernel
  intro w hw
  obtain ⟨k, hk, rfl⟩ := List.mem_map.mp hw
  have hk := List.mem_range.mp hk
  exact mem_tb _ (h k hk).1 (h k hk).2
set_option maxRecDepth 20000 in
theorem cf8 : CFX 8 R8 T8 7 ty8 := ⟨rfl, rfl, cfw8, by decide +kernel, by decide +kernel, by decide +kernel, mem_tb 141 (by decide +kernel) rfl, mem_tb 111 (by decide +kernel) rfl⟩
set_option maxRecDepth 20000 in
theorem cfw9 : ∀ w ∈ u_ws R9 T9 15, w ∈ tb := by
  have h : ∀ k, k < 15 → lw_tbl[[312, 314, 316, 318, 320, 322, 324, 326, 328, 330, 332, 334, 336, 338, 340].getD k 0]? = some (u_lay R9 T9 k) ∧ goodWord (u_lay R9 T9 k) = true := by decide +kernel
  intro w hw
  obtain ⟨k, hk, rfl⟩ := List.mem_map.mp hw
  have hk := List.mem_range.mp hk
  exact mem_tb _ (h k hk).1 (h k hk).2
set_option maxRecDepth 20000 in
theorem cf9 : CFX 9 R9 T9 15 ty9 := ⟨rfl, rfl, cfw9, by decide +kernel, by decide +kernel, by decide +kernel, mem_tb 281 (by decide +kernel) rfl, mem_tb 115 (by decide +kernel) rfl⟩
set_option maxRecDepth 20000 in
theorem cfw10 : ∀ w ∈ u_ws R10 T10 7, w ∈ tb := by
  have h : ∀ k, k < 7 → lw_tbl[[362, 364, 366, 368, 370, 372, 374].getD k 0]? = some (u_lay R10 T10 k) ∧ goodWord (u_lay R10 T10 k) = true := by decide +kernel
  intro w hw
  obtain ⟨k, hk, rfl⟩ := List.mem_map.mp hw
  have hk := List.mem_range.mp hk
  exact mem_tb _ (h k hk).1 (h k hk).2
set_option maxRecDepth 20000 in
theorem cf10 : CFX 10 R10 T10 7 ty10 := ⟨rfl, rfl, cfw10, by decide +kernel, by decide +kernel, by decide +kernel, mem_tb 347 (by decide +kernel) rfl, mem_tb 117 (by decide +kernel) rfl⟩
set_option maxRecDepth 20000 in
theorem cfw11 : ∀ w ∈ u_ws R11 T11 10, w ∈ tb := by
  have h : ∀ k, k < 10 → lw_tbl[[655, 657, 659, 661, 663, 665, 667, 669, 671, 673].getD k 0]? = some (u_lay R11 T11 k) ∧ goodWord (u_lay R11 T11 k) = true := by decide +kernel
  intro w hw
  obtain ⟨k, hk, rfl⟩ := List.mem_map.mp hw
  have hk := List.mem_range.mp hk
  exact mem_tb _ (h k hk).1 (h k hk).2
set_option maxRecDepth 20000 in
theorem cf11 : CFX 11 R11 T11 10 ty11 := ⟨rfl, rfl, cfw11, by decide +kernel, by decide +kernel, by decide +kernel, mem_tb 640 (by decide +kernel) rfl, mem_tb 125 (by decide +kernel) rfl⟩
end
section
/-! LAYER 0: an abstract memory: cells by ids; their kinds (0, class number) or (1 int, 2 byte, 3 boolean, 4 long, length); ints, longs, references by cell and place -/
abbrev MM : Type := List (Nat × Nat) × (Nat → Nat → Int32) × (Nat → Nat → Int64) × (Nat → Nat → Option Nat)
def gI (μ : MM) (a k : Nat) : Int32 := μ.2.1 a k
def gL (μ : MM) (a k : Nat) : Int64 := μ.2.2.1 a k
def gR (μ : MM) (a k : Nat) : Option Nat := μ.2.2.2 a k
def sF (μ : MM) (a : Nat) (f : Nat → Int32) : MM := (μ.1, (fun c => if c = a then f else μ.2.1 c), μ.2.2.1, μ.2.2.2)
def sG (μ : MM) (a : Nat) (f : Nat → Int64) : MM := (μ.1, μ.2.1, (fun c => if c = a then f else μ.2.2.1 c), μ.2.2.2)
def sI (μ : MM) (a k : Nat) (v : Int32) : MM := sF μ a (upd (gI μ a) k v)
def sL (μ : MM) (a k : Nat) (v : Int64) : MM := sG μ a (vp_updL (gL μ a) k v)
def sR (μ : MM) (a k : Nat) (v : Option Nat) : MM := (μ.1, μ.2.1, μ.2.2.1, (fun c => if c = a then va_up (μ.2.2.2 c) k v else μ.2.2.2 c))
def nc (μ : MM) : Nat := μ.1.length
def ksl (q : Nat × Nat) : Nat := match q.1 with
  | 0 => nfld q.2
  | _ => q.2
def nsl (μ : MM) : Nat := (μ.1.map ksl).sum
def push (μ : MM) (q : Nat × Nat) : MM := (μ.1 ++ [q], (fun c => if c = nc μ then fun _ => 0 else μ.2.1 c), (fun c => if c = nc μ then fun _ => 0 else μ.2.2.1 c), (fun c => if c = nc μ then fun _ => none else μ.2.2.2 c))
def LIM : Nat := 1000000
/-- where a cell lies: ids from LIM on are what was there before (String constants) -/
def adr (B : Nat) (sa : Nat → Nat) (i : Nat) : Nat := if i < LIM then B + i else sa (i - LIM)
def cv (f : Nat → Nat) (v : Value) : Value := match v with
  | .ref a => .ref (f a)
  | v => v
theorem cv_cat (f : Nat → Nat) (v : Value) : (cv f v).category = v.category := by cases v <;> rfl
theorem cv_rf (f : Nat → Nat) (o : Option Nat) : cv f (va_rf o) = va_rf (o.map f) := by cases o <;> rfl
def fv (f : Nat → Nat) (μ : MM) (a ci k : Nat) : Value := match FTC ci k with
  | 0 => .int (gI μ a k)
  | 3 => .int (gI μ a k)
  | 1 => .long (gL μ a k)
  | _ => va_rf ((gR μ a k).map f)
def fsz (f : Nat → Nat) (μ : MM) (a ci : Nat) : List Value := (List.range (nfld ci)).map (fun k => fv f μ a ci k)
def cz (f : Nat → Nat) (tc : Nat → ClassId) (μ : MM) (a : Nat) (q : Nat × Nat) : va_E := match q.1 with
  | 0 => .inr (q.2, fsz f μ a q.2)
  | 1 => .inl (tc 0, q.2, .inl (gI μ a))
  | 2 => .inl (tc 1, q.2, .inl (gI μ a))
  | 3 => .inl (tc 2, q.2, .inl (gI μ a))
  | _ => .inl (tc 3, q.2, .inr (.inl (gL μ a)))
def wz (f : Nat → Nat) (tc : Nat → ClassId) (μ : MM) : va_W := (List.range (nc μ)).map (fun a => (f a, cz f tc μ a (μ.1.getD a (0, 0))))
def TYS (tc : Nat → ClassId) : List (ClassId × FieldType) := [(tc 0, .int), (tc 1, .byte), (tc 2, .boolean), (tc 3, .long)]
theorem wz_len (f : Nat → Nat) (tc : Nat → ClassId) (μ : MM) : (wz f tc μ).length = nc μ := by simp [wz]
theorem wz_at {f : Nat → Nat} {tc : Nat → ClassId} {μ : MM} {a : Nat} {q : Nat × Nat} (h : μ.1[a]? = some q) : (wz f tc μ)[a]? = some (f a, cz f tc μ a q) := by
  have hl : a < nc μ := (List.getElem?_eq_some_iff.mp h).1
  simp [wz, hl, List.getD, h]
theorem wz_lt {f : Nat → Nat} {tc : Nat → ClassId} {μ : MM} {k : Nat} {x : Nat × va_E} (h : (wz f tc μ)[k]? = some x) : k < nc μ ∧ x.1 = f k := by
  have hl : k < (wz f tc μ).length := (List.getElem?_eq_some_iff.mp h).1
  rw [wz_len] at hl
  refine ⟨hl, ?_⟩
  simp [wz, hl] at h
  rw [← h]
/-- worlds that differ in one cell -/
theorem wz_set {f : Nat → Nat} {tc : Nat → ClassId} {μ μ' : MM} {a : Nat} {q : Nat × Nat} {e : va_E} (h : μ.1[a]? = some q) (h1 : μ'.1 = μ.1) (he : cz f tc μ' a q = e) (ho : ∀ c x, c ≠ a → cz f tc μ' c x = cz f tc μ c x) : (wz f tc μ).set a (f a, e) = wz f tc μ' := by
  have hl : a < nc μ := (List.getElem?_eq_some_iff.mp h).1
  apply List.ext_getElem?
  intro k
  by_cases hk : k = a
  · subst hk
    rw [List.getElem?_set_self (by rw [wz_len]; exact hl), wz_at (q := q) (by rw [h1]; exact h), he]
  · rw [List.getElem?_set_ne (Ne.symm hk)]
    by_cases hkl : k < nc μ
    · obtain ⟨x, hx⟩ : ∃ x, μ.1[k]? = some x := ⟨_, List.getElem?_eq_getElem hkl⟩
      rw [wz_at hx, wz_at (q := x) (by rw [h1]; exact hx), ho k x hk]
    · have h2 : nc μ' = nc μ := by simp [nc, h1]
      rw [List.getElem?_eq_none (by rw [wz_len]; omega), List.getElem?_eq_none (by rw [wz_len]; omega)]
theorem cz_sF_ne {f : Nat → Nat} {tc : Nat → ClassId} {μ : MM} {a : Nat} {g : Nat → Int32} {c : Nat} (x : Nat × Nat) (hc : c ≠ a) : cz f tc (sF μ a g) c x = cz f tc μ c x := by
  have e1 : gI (sF μ a g) c = gI μ c := by funext k; simp [gI, sF, hc]
  have e2 : ∀ ci, fsz f (sF μ a g) c ci = fsz f μ c ci := fun ci => by
    unfold fsz; congr 1; funext k; simp only [fv, e1]; rfl
  simp only [cz, e1, e2]
  rfl
theorem cz_sG_ne {f : Nat → Nat} {tc : Nat → ClassId} {μ : MM} {a : Nat} {g : Nat → Int64} {c : Nat} (x : Nat × Nat) (hc : c ≠ a) : cz f tc (sG μ a g) c x = cz f tc μ c x := by
  have e1 : gL (sG μ a g) c = gL μ c := by funext k; simp [gL, sG, hc]
  have e2 : ∀ ci, fsz f (sG μ a g) c ci = fsz f μ c ci := fun ci => by
    unfold fsz; congr 1; funext k; simp only [fv, e1]; rfl
  simp only [cz, e1, e2]
  rfl
theorem cz_sR_ne {f : Nat → Nat} {tc : Nat → ClassId} {μ : MM} {a j : Nat} {v : Option Nat} {c : Nat} (x : Nat × Nat) (hc : c ≠ a) : cz f tc (sR μ a j v) c x = cz f tc μ c x := by
  have e1 : gR (sR μ a j v) c = gR μ c := by funext k; simp [gR, sR, hc]
  have e2 : ∀ ci, fsz f (sR μ a j v) c ci = fsz f μ c ci := fun ci => by
    unfold fsz; congr 1; funext k; simp only [fv, e1]; rfl
  simp only [cz, e2]
  rfl
theorem gI_sF {μ : MM} {a : Nat} {g : Nat → Int32} : gI (sF μ a g) a = g := by funext k; simp [gI, sF]
theorem gL_sG {μ : MM} {a : Nat} {g : Nat → Int64} : gL (sG μ a g) a = g := by funext k; simp [gL, sG]
/-- an int array's new contents -/
theorem wz_sF {f : Nat → Nat} {tc : Nat → ClassId} {μ : MM} {a t n : Nat} {g : Nat → Int32} (h : μ.1[a]? = some (t + 1, n)) (ht : t < 3) : (wz f tc μ).set a (f a, .inl (tc t, n, .inl g)) = wz f tc (sF μ a g) := by
  refine wz_set h rfl ?_ (fun c x hc => cz_sF_ne x hc)
  rcases (show t = 0 ∨ t = 1 ∨ t = 2 by omega) with rfl | rfl | rfl <;> simp [cz, gI_sF]
theorem wz_sG {f : Nat → Nat} {tc : Nat → ClassId} {μ : MM} {a n : Nat} {g : Nat → Int64} (h : μ.1[a]? = some (4, n)) : (wz f tc μ).set a (f a, .inl (tc 3, n, .inr (.inl g))) = wz f tc (sG μ a g) := by
  refine wz_set h rfl ?_ (fun c x hc => cz_sG_ne x hc)
  simp [cz, gL_sG]
theorem fsz_len (f : Nat → Nat) (μ : MM) (a ci : Nat) : (fsz f μ a ci).length = nfld ci := by simp [fsz]
theorem fsz_at {f : Nat → Nat} {μ : MM} {a ci k : Nat} (h : k < nfld ci) : (fsz f μ a ci)[k]? = some (fv f μ a ci k) := by simp [fsz, h]
theorem fsz_set {f : Nat → Nat} {μ μ' : MM} {a ci k : Nat} {v : Value} (hv : fv f μ' a ci k = v) (ho : ∀ j, j ≠ k → fv f μ' a ci j = fv f μ a ci j) : (fsz f μ a ci).set k v = fsz f μ' a ci := by
  apply List.ext_getElem?
  intro j
  by_cases hj : j = k
  · subst hj
    by_cases hl : j < nfld ci
    · rw [List.getElem?_set_self (by rw [fsz_len]; exact hl), fsz_at hl, hv]
    · rw [List.getElem?_eq_none (by rw [List.length_set, fsz_len]; omega), List.getElem?_eq_none (by rw [fsz_len]; omega)]
  · rw [List.getElem?_set_ne (Ne.symm hj)]
    by_cases hl : j < nfld ci
    · rw [fsz_at hl, fsz_at hl, ho j hj]
    · rw [List.getElem?_eq_none (by rw [fsz_len]; omega), List.getElem?_eq_none (by rw [fsz_len]; omega)]
theorem fv_sI_ne {f : Nat → Nat} {μ : MM} {a ci k j : Nat} {v : Int32} (h : j ≠ k) : fv f (sI μ a k v) a ci j = fv f μ a ci j := by
  have e1 : gI (sI μ a k v) a j = gI μ a j := by unfold sI; rw [gI_sF]; simp [upd, h]
  simp only [fv, e1]; rfl
theorem fv_sL_ne {f : Nat → Nat} {μ : MM} {a ci k j : Nat} {v : Int64} (h : j ≠ k) : fv f (sL μ a k v) a ci j = fv f μ a ci j := by
  have e1 : gL (sL μ a k v) a j = gL μ a j := by unfold sL; rw [gL_sG]; simp [vp_updL, h]
  simp only [fv, e1]; rfl
theorem fv_sR_ne {f : Nat → Nat} {μ : MM} {a ci k j : Nat} {v : Option Nat} (h : j ≠ k) : fv f (sR μ a k v) a ci j = fv f μ a ci j := by
  have e1 : gR (sR μ a k v) a j = gR μ a j := by simp [gR, sR, va_up, h]
  simp only [fv, e1]; rfl
theorem wz_fI {f : Nat → Nat} {tc : Nat → ClassId} {μ : MM} {a ci k : Nat} {v : Int32} (h : μ.1[a]? = some (0, ci)) (hc : FTC ci k = 0 ∨ FTC ci k = 3) : (wz f tc μ).set a (f a, .inr (ci, (fsz f μ a ci).set k (.int v))) = wz f tc (sI μ a k v) := by
  refine wz_set h rfl ?_ (fun c x hc => cz_sF_ne x hc)
  show Sum.inr (ci, fsz f (sI μ a k v) a ci) = _
  rw [fsz_set (μ' := sI μ a k v) ?_ (fun j hj => fv_sI_ne hj)]
  have e : gI (sI μ a k v) a k = v := by unfold sI; rw [gI_sF]; simp [upd]
  rcases hc with hc | hc <;> simp [fv, hc, e]
theorem wz_fL {f : Nat → Nat} {tc : Nat → ClassId} {μ : MM} {a ci k : Nat} {v : Int64} (h : μ.1[a]? = some (0, ci)) (hc : FTC ci k = 1) : (wz f tc μ).set a (f a, .inr (ci, (fsz f μ a ci).set k (.long v))) = wz f tc (sL μ a k v) := by
  refine wz_set h rfl ?_ (fun c x hc => cz_sG_ne x hc)
  show Sum.inr (ci, fsz f (sL μ a k v) a ci) = _
  rw [fsz_set (μ' := sL μ a k v) ?_ (fun j hj => fv_sL_ne hj)]
  have e : gL (sL μ a k v) a k = v := by unfold sL; rw [gL_sG]; simp [vp_updL]
  simp [fv, hc, e]
theorem wz_fR {f : Nat → Nat} {tc : Nat → ClassId} {μ : MM} {a ci k : Nat} {v : Option Nat} (h : μ.1[a]? = some (0, ci)) (hc : FTC ci k = 2) : (wz f tc μ).set a (f a, .inr (ci, (fsz f μ a ci).set k (va_rf (v.map f)))) = wz f tc (sR μ a k v) := by
  refine wz_set h rfl ?_ (fun c x hc => cz_sR_ne x hc)
  show Sum.inr (ci, fsz f (sR μ a k v) a ci) = _
  rw [fsz_set (μ' := sR μ a k v) ?_ (fun j hj => fv_sR_ne hj)]
  have e : gR (sR μ a k v) a k = v := by simp [gR, sR, va_up]
  simp [fv, hc, e]
theorem cz_push {f : Nat → Nat} {tc : Nat → ClassId} {μ : MM} {q : Nat × Nat} {c : Nat} (x : Nat × Nat) (hc : c ≠ nc μ) : cz f tc (push μ q) c x = cz f tc μ c x := by
  have e0 : gI (push μ q) c = gI μ c := by funext k; simp [gI, push, hc]
  have e1 : gL (push μ q) c = gL μ c := by funext k; simp [gL, push, hc]
  have e2 : gR (push μ q) c = gR μ c := by funext k; simp [gR, push, hc]
  have e3 : ∀ ci, fsz f (push μ q) c ci = fsz f μ c ci := fun ci => by
    unfold fsz; congr 1; funext k; simp only [fv, e0, e1, e2]
  simp only [cz, e0, e1, e3]
theorem nc_push (μ : MM) (q : Nat × Nat) : nc (push μ q) = nc μ + 1 := by simp [nc, push]
theorem nsl_push (μ : MM) (q : Nat × Nat) : nsl (push μ q) = nsl μ + ksl q := by simp [nsl, push]
theorem wz_push {f : Nat → Nat} {tc : Nat → ClassId} {μ : MM} {q : Nat × Nat} {e : va_E} (he : cz f tc (push μ q) (nc μ) q = e) : wz f tc μ ++ [(f (nc μ), e)] = wz f tc (push μ q) := by
  apply List.ext_getElem?
  intro k
  by_cases hk : k < nc μ
  · obtain ⟨x, hx⟩ : ∃ x, μ.1[k]? = some x := ⟨_, List.getElem?_eq_getElem hk⟩
    rw [List.getElem?_append_left (by rw [wz_len]; exact hk), wz_at hx, wz_at (q := x) (by show (μ.1 ++ [q])[k]? = _; rw [List.getElem?_append_left hk]; exact hx), cz_push x (by omega)]
  · rw [List.getElem?_append_right (by rw [wz_len]; omega), wz_len]
    by_cases hk2 : k = nc μ
    · subst hk2
      rw [wz_at (q := q) (by show (μ.1 ++ [q])[nc μ]? = _; unfold nc; rw [List.getElem?_append_right (Nat.le_refl _)]; simp), he]
      simp
    · rw [List.getElem?_eq_none (l := wz f tc (push μ q)) (by rw [wz_len, nc_push]; omega), List.getElem?_eq_none (by simp; omega)]
/-! reads and writes, as the methods do them: none is what the machine itself would throw at -/
def rI (μ : MM) (a ci k : Nat) : Option Int32 := if μ.1[a]? = some (0, ci) then some (gI μ a k) else none
def rL (μ : MM) (a ci k : Nat) : Option Int64 := if μ.1[a]? = some (0, ci) then some (gL μ a k) else none
def rR (μ : MM) (a ci k : Nat) : Option Nat := if μ.1[a]? = some (0, ci) then gR μ a k else none
def rN (μ : MM) (a ci k : Nat) : Option (Option Nat) := if μ.1[a]? = some (0, ci) then some (gR μ a k) else none
def pI (μ : MM) (a ci k : Nat) (v : Int32) : Option MM := if μ.1[a]? = some (0, ci) then some (sI μ a k v) else none
def pZ (μ : MM) (a ci k : Nat) (v : Int32) : Option MM := if μ.1[a]? = some (0, ci) ∧ (v = 0 ∨ v = 1) then some (sI μ a k v) else none
def pL (μ : MM) (a ci k : Nat) (v : Int64) : Option MM := if μ.1[a]? = some (0, ci) then some (sL μ a k v) else none
def pR (μ : MM) (a ci k : Nat) (x : Nat) : Option MM := if μ.1[a]? = some (0, ci) then some (sR μ a k (some x)) else none
def aI (μ : MM) (a : Nat) (j : Int32) : Option Int32 := match μ.1[a]? with
  | some (1, n) => if j < 0 ∨ n ≤ j.toNatClampNeg then none else some (gI μ a j.toNatClampNeg)
  | _ => none
def aB (μ : MM) (a : Nat) (j : Int32) : Option Int32 := match μ.1[a]? with
  | some (2, n) => if j < 0 ∨ n ≤ j.toNatClampNeg then none else some (gI μ a j.toNatClampNeg)
  | some (3, n) => if j < 0 ∨ n ≤ j.toNatClampNeg then none else some (gI μ a j.toNatClampNeg)
  | _ => none
def aL (μ : MM) (a : Nat) (j : Int32) : Option Int64 := match μ.1[a]? with
  | some (4, n) => if j < 0 ∨ n ≤ j.toNatClampNeg then none else some (gL μ a j.toNatClampNeg)
  | _ => none
def uI (μ : MM) (a : Nat) (j v : Int32) : Option MM := match μ.1[a]? with
  | some (1, n) => if j < 0 ∨ n ≤ j.toNatClampNeg then none else some (sI μ a j.toNatClampNeg v)
  | _ => none
def uB (μ : MM) (a : Nat) (j v : Int32) : Option MM := match μ.1[a]? with
  | some (2, n) => if j < 0 ∨ n ≤ j.toNatClampNeg then none else some (sI μ a j.toNatClampNeg (vp_nar .byte v))
  | some (3, n) => if j < 0 ∨ n ≤ j.toNatClampNeg then none else some (sI μ a j.toNatClampNeg (vp_nar .boolean v))
  | _ => none
def uL (μ : MM) (a : Nat) (j : Int32) (v : Int64) : Option MM := match μ.1[a]? with
  | some (4, n) => if j < 0 ∨ n ≤ j.toNatClampNeg then none else some (sL μ a j.toNatClampNeg v)
  | _ => none
def aN (μ : MM) (a : Nat) : Option Int32 := match μ.1[a]? with
  | some (t, n) => if t = 0 ∨ 4 < t then none else some (Int32.ofNat n)
  | _ => none
def nO (μ : MM) (ci : Nat) : Option MM := some (push μ (0, ci))
def nA (μ : MM) (t : Nat) (n : Int32) : Option MM := if n < 0 ∨ 1000000 < n.toNatClampNeg then none else some (push μ (t, n.toNatClampNeg))
/-- System.arraycopy of ints -/
def cpI (μ : MM) (a : Nat) (sp : Int32) (b : Nat) (dp n : Int32) : Option MM := match μ.1[a]?, μ.1[b]? with
  | some (1, n0), some (1, n1) => if sp < 0 ∨ dp < 0 ∨ n < 0 ∨ n0 < sp.toNatClampNeg + n.toNatClampNeg ∨ n1 < dp.toNatClampNeg + n.toNatClampNeg then none else some (sF μ b (va_cpy (gI μ a) (gI μ b) sp.toNatClampNeg dp.toNatClampNeg n.toNatClampNeg))
  | _, _ => none
def irem (x y : Int32) : Int32 := x - x / y * y
def ishl (x y : Int32) : Int32 := x <<< (y &&& 31)
def ishr (x y : Int32) : Int32 := x >>> (y &&& 31)
def iushr (x y : Int32) : Int32 := (x.toUInt32 >>> (y.toUInt32 &&& Int32.toUInt32 31)).toInt32
def i2c (x : Int32) : Int32 := (x.toUInt32 % 65536).toInt32
/-- locals behind a store -/
def isL2 (o : Option (Option Value)) : Bool := match o with
  | some (some (.long _)) => true
  | some (some (.double _)) => true
  | _ => false
def st1 (loc : List (Option Value)) (i : Nat) (v : Value) : List (Option Value) := match i with
  | 0 => loc.set 0 (some v)
  | j + 1 => (if isL2 loc[j]? then loc.set j none else loc).set (j + 1) (some v)
def st2 (loc : List (Option Value)) (i : Nat) (v : Value) : List (Option Value) := (st1 loc i v).set (i + 1) none
theorem isL2_cat {v : Value} (h : v.category = 2) : isL2 (some (some v)) = true := by cases v <;> first | rfl | (simp [Value.category] at h)
theorem st1_spec {loc : List (Option Value)} {i j : Nat} {v w : Value} (h : (st1 loc i v)[j]? = some (some w)) : (j = i ∧ w = v) ∨ (j ≠ i ∧ loc[j]? = some (some w) ∧ ¬ (j + 1 = i ∧ w.category = 2)) := by
  cases i with
  | zero =>
    simp only [st1, List.getElem?_set] at h
    split at h
    · subst j
      split at h
      · cases h; exact Or.inl ⟨rfl, rfl⟩
      · cases h
    · exact Or.inr ⟨by omega, h, by omega⟩
  | succ i =>
    simp only [st1] at h
    rw [List.getElem?_set] at h
    by_cases hne : i + 1 = j
    · subst j
      rw [if_pos rfl] at h
      by_cases hz : i + 1 < (if isL2 loc[i]? = true then loc.set i none else loc).length
      · rw [if_pos hz] at h; cases h; exact Or.inl ⟨rfl, rfl⟩
      · rw [if_neg hz] at h; cases h
    · rw [if_neg hne] at h
      refine Or.inr ⟨by omega, ?_, ?_⟩
      · split at h
        · rw [List.getElem?_set] at h
          split at h
          · split at h <;> cases h
          · exact h
        · exact h
      · rintro ⟨e, hc⟩
        have e : j = i := by omega
        subst e
        split at h
        · rw [List.getElem?_set] at h
          rw [if_pos rfl] at h
          split at h <;> cases h
        · rename_i hL
          rw [h] at hL
          exact hL (isL2_cat hc)
theorem st2_spec {loc : List (Option Value)} {i j : Nat} {v w : Value} (h : (st2 loc i v)[j]? = some (some w)) : (j = i ∧ w = v) ∨ (j ≠ i ∧ j ≠ i + 1 ∧ loc[j]? = some (some w) ∧ ¬ (j + 1 = i ∧ w.category = 2)) := by
  unfold st2 at h
  rw [List.getElem?_set] at h
  split at h
  · split at h <;> cases h
  · rename_i hne
    rcases st1_spec h with q | ⟨q1, q2, q3⟩
    · exact Or.inl q
    · exact Or.inr ⟨q1, Ne.symm hne, q2, q3⟩
/-- the locals as a list of places and values -/
def lz (f : Nat → Nat) (loc : List (Option Value)) : List (Nat × Value) := (List.range loc.length).filterMap (fun i => (loc[i]?.join).map (fun v => (i, cv f v)))
theorem lz_mem {f : Nat → Nat} {loc : List (Option Value)} {i : Nat} {w : Value} : (i, w) ∈ lz f loc ↔ ∃ v, loc[i]? = some (some v) ∧ w = cv f v := by
  unfold lz
  rw [List.mem_filterMap]
  constructor
  · rintro ⟨k, hk, h⟩
    cases hh : loc[k]? with
    | none => rw [hh] at h; cases h
    | some o =>
      cases o with
      | none => rw [hh] at h; cases h
      | some v =>
        rw [hh] at h
        simp only [Option.join_some, Option.map_some, Option.some.injEq, Prod.mk.injEq] at h
        obtain ⟨rfl, rfl⟩ := h
        exact ⟨v, hh, rfl⟩
  · rintro ⟨v, h, rfl⟩
    exact ⟨i, List.mem_range.mpr (List.getElem?_eq_some_iff.mp h).1, by rw [h]; rfl⟩
abbrev LH (f : Nat → Nat) (loc : List (Option Value)) (ls : Array Slot) (nL : Nat) : Prop := lv_has ls nL (lz f loc)
theorem LH.get {f : Nat → Nat} {loc : List (Option Value)} {ls : Array Slot} {nL i : Nat} {v : Value} (h : LH f loc ls nL) (hi : loc[i]? = some (some v)) : ls[i]? = some (.val (cv f v)) := h.2.2 (i, cv f v) (lz_mem.mpr ⟨v, hi, rfl⟩)
theorem LH.st1 {f : Nat → Nat} {loc : List (Option Value)} {ls' : Array Slot} {nL i : Nat} {v : Value} (h : lv_has ls' nL ((i, cv f v) :: (lz f loc).filter (fun q => !(q.1 == i) && !(q.1 + 1 == i && q.2.category == 2)))) : LH f (st1 loc i v) ls' nL := by
  refine ⟨h.1, h.2.1, fun q hq => h.2.2 q ?_⟩
  obtain ⟨j, w⟩ := q
  obtain ⟨u, hu, rfl⟩ := lz_mem.mp hq
  rcases st1_spec hu with ⟨rfl, rfl⟩ | ⟨q1, q2, q3⟩
  · exact List.mem_cons_self
  · refine List.mem_cons_of_mem _ (List.mem_filter.mpr ⟨lz_mem.mpr ⟨u, q2, rfl⟩, ?_⟩)
    simp [q1, cv_cat]
    by_cases e : j + 1 = i
    · exact Or.inr (fun z => q3 ⟨e, z⟩)
    · exact Or.inl e
theorem LH.st2 {f : Nat → Nat} {loc : List (Option Value)} {ls' : Array Slot} {nL i : Nat} {v : Value} (h : lv_has ls' nL ((i, cv f v) :: (lz f loc).filter (fun q => !(q.1 == i) && (!(q.1 == i + 1) && !(q.1 + 1 == i && q.2.category == 2))))) : LH f (st2 loc i v) ls' nL := by
  refine ⟨h.1, h.2.1, fun q hq => h.2.2 q ?_⟩
  obtain ⟨j, w⟩ := q
  obtain ⟨u, hu, rfl⟩ := lz_mem.mp hq
  rcases st2_spec hu with ⟨rfl, rfl⟩ | ⟨q1, q0, q2, q3⟩
  · exact List.mem_cons_self
  · refine List.mem_cons_of_mem _ (List.mem_filter.mpr ⟨lz_mem.mpr ⟨u, q2, rfl⟩, ?_⟩)
    simp [q1, q0, cv_cat]
    by_cases e : j + 1 = i
    · exact Or.inr (fun z => q3 ⟨e, z⟩)
    · exact Or.inl e
/-- the locals with which a method begins -/
def entL (vs : List Value) : List (Option Value) := vs.flatMap (fun v => if v.category = 2 then [some v, none] else [some v])
theorem entL_args {f : Nat → Nat} (vs : List Value) : ∀ (i j : Nat) (v : Value), (entL vs)[j]? = some (some v) → (i + j, cv f v) ∈ lv_args i (vs.map (cv f)) := by
  induction vs with
  | nil => intro i j v h; simp [entL] at h
  | cons a vs ih =>
    intro i j v h
    simp only [entL, List.flatMap_cons] at h
    simp only [List.map_cons, lv_args, cv_cat]
    by_cases hc : a.category = 2
    · rw [if_pos hc] at h ⊢
      match j, h with
      | 0, h => simp at h; subst h; simp
      | 1, h => simp at h
      | j + 2, h =>
        have h2 : (entL vs)[j]? = some (some v) := h
        have h3 := ih (i + 2) j v h2
        rw [show i + (j + 2) = i + 2 + j by omega]
        exact List.mem_cons_of_mem _ h3
    · rw [if_neg hc] at h ⊢
      match j, h with
      | 0, h => simp at h; subst h; simp
      | j + 1, h =>
        have h2 : (entL vs)[j]? = some (some v) := h
        have h3 := ih (i + 1) j v h2
        rw [show i + (j + 1) = i + 1 + j by omega]
        exact List.mem_cons_of_mem _ h3
theorem lg_sl_len (f : Nat → Nat) (vs : List Value) : (lg_sl (vs.map (cv f))).length = (entL vs).length := by
  induction vs with
  | nil => rfl
  | cons a vs ih =>
    simp only [lg_sl, entL, List.map_cons, List.flatMap_cons, List.length_append, cv_cat] at ih ⊢
    rw [ih]
    by_cases hc : a.category = 2 <;> simp [hc]
theorem LH.entry {f : Nat → Nat} (vs : List Value) {n : Nat} (h : (entL vs).length ≤ n) : LH f (entL vs) ((lg_sl (vs.map (cv f)) ++ List.replicate (n - (lg_sl (vs.map (cv f))).length) Slot.unset).toArray) n := by
  have h0 := lv_entry (vs.map (cv f)) (n := n) (by rw [lg_sl_len]; exact h)
  refine ⟨h0.1, h0.2.1, fun q hq => h0.2.2 q ?_⟩
  obtain ⟨j, w⟩ := q
  obtain ⟨u, hu, rfl⟩ := lz_mem.mp hq
  have h1 := entL_args (f := f) vs 0 j u hu
  rwa [Nat.zero_add] at h1
end
section
/-! LAYER 0: the judgement AW over the kit's W -/
abbrev YT : Type := MethodName × ByteArray × Nat × Option FieldType
def STR (B : Nat) (sa : Nat → Nat) (U : State) : Prop :=
  vk_R "SinkingChoir$Singing" 20 "bvikfhjurnox" (sa 0) U ∧ vk_R "SinkingChoir$Reader" 109 "bvikfhjurnox" (sa 0) U ∧ vk_R "SinkingChoir$Reader" 67 "pstkd" (sa 1) U ∧
  vk_S 2 [12, 5] [[98, 118, 105, 107, 102, 104, 106, 117, 114, 110, 111, 120], [112, 115, 116, 107, 100]] (fun i => sa i) (fun i => sa (i + 2)) (fun q => B ≤ q) U U.heap ∧
  va_Z "java/lang/String" "COMPACT_STRINGS" "Z" (.int 1) (fun q => B ≤ q) U U.heap ∧
  va_Nw (.methodLinkNest "SinkingChoir$Choir" 39 ⟨"SinkingChoir$Program", "<init>", "()V"⟩ "SinkingChoir") U ∧
  va_Nw (.methodLinkNest "SinkingChoir" 61 ⟨"SinkingChoir$Reel", "<init>", "()V"⟩ "SinkingChoir") U ∧
  va_Nw (.methodLinkNest "SinkingChoir" 68 ⟨"SinkingChoir$Reader", "<init>", "()V"⟩ "SinkingChoir") U ∧
  va_Nw (.methodLinkNest "SinkingChoir$Reader" 17 ⟨"SinkingChoir$Program", "<init>", "()V"⟩ "SinkingChoir") U
theorem STR.to {B : Nat} {sa : Nat → Nat} {s U : State} {H : Heap} {locs : List Loc} (h : STR B sa s) (hS : va_S (fun q => B ≤ q) s.heap H locs) (hH : U.heap = H) (hW : s.WarmedH U.vm) : STR B sa U := by
  obtain ⟨h1, h2, h3, h4, h5, h6, h7, h8, h9⟩ := h
  refine ⟨h1.warm hW, h2.warm hW, h3.warm hW, ?_, ?_, va_Nw.warmM hW h6, va_Nw.warmM hW h7, va_Nw.warmM hW h8, va_Nw.warmM hW h9⟩
  · rw [hH]; exact vk_S.moved hW.alike (h4.kept hS.2.1)
  · rw [hH]; exact va_Z.moved hW.alike (h5.kept hS.2.1)
theorem STR.blind {B : Nat} {sa : Nat → Nat} {U : State} {g : JFrame} {mk : MethodId} {a : Array Value} (h : STR B sa U) : STR B sa (U.calling g mk a) := by
  obtain ⟨h1, h2, h3, h4, h5, h6, h7, h8, h9⟩ := h
  exact ⟨h1.same (u := U) rfl, h2.same (u := U) rfl, h3.same (u := U) rfl, vk_S.moved (u := U) (Vm.Alike.refl U.vm) h4, va_Z.moved (u := U) (Vm.Alike.refl U.vm) h5, va_Nw.same rfl (u := U) rfl h6, va_Nw.same rfl (u := U) rfl h7, va_Nw.same rfl (u := U) rfl h8, va_Nw.same rfl (u := U) rfl h9⟩
/-- what holds all through a method's run -/
def FX (Y : YT) (d nE sE : Nat) (p : Program) (R : Room) (s : State) (m : MethodId) (args : Array Value) (meth : Method) (c : Code) (B : Nat) (D : va_G) (tc : Nat → ClassId) (sa : Nat → Nat) (n0 s0 : Nat) : Prop :=
  p.tables.exec = Jvm.exec ∧ c.code = Y.2.1 ∧ meth.sig.returnType = Y.2.2.2 ∧ c.maxLocals = Y.2.2.1 ∧ s.vm.findClass Y.1.cls = some m.cls ∧ (∀ w ∈ tb, w.before args s = true) ∧ meth.locks = false ∧ meth.name = Y.1.name ∧
  va_K D CLS (TYS tc) s ∧ s.heap.size = B + n0 ∧ nE ≤ n0 + R.cells ∧ sE ≤ s0 + R.slots ∧ d ≤ R.frames ∧ 130 * d ≤ R.locals ∧ nE ≤ LIM ∧ STR B sa s
abbrev CKT : Type := Program → Env → Room → State → MethodId → Array Value → List Frame → Method → Code → Nat → va_G → (Nat → ClassId) → (Nat → Nat) → Nat → Nat → (State → Prop) → Prop
/-- from this place, with these locals, this stack and this memory, the run comes to its end as CK wants it; nE, sE: how many cells and slots there will be -/
def AW (CK : CKT) (l : Launch) (Y : YT) (d nE sE pc : Nat) (loc : List (Option Value)) (st : List Value) (μ : MM) : Prop :=
  nc μ ≤ nE ∧ nsl μ ≤ sE ∧ ∀ (p : Program) (e : Env) (R : Room) (s : State) (m : MethodId) (args : Array Value) (below : List Frame) (meth : Method) (c : Code) (B : Nat) (D : va_G) (tc : Nat → ClassId) (sa : Nat → Nat) (n0 s0 : Nat) (Q : State → Prop),
    CK p e R s m args below meth c B D tc sa n0 s0 Q → FX Y d nE sE p R s m args meth c B D tc sa n0 s0 →
    ∀ (H : Heap) (locs : List Loc) (ls : Array Slot) (cells slots : Nat), va_P D CLS (wz (adr B sa) tc μ) H → va_S (fun q => B ≤ q) s.heap H locs → LH (adr B sa) loc ls Y.2.2.1 → n0 + cells = nc μ → s0 + slots = nsl μ →
      W p l e R s m args below meth c H locs cells slots Q (F0 m pc ls (st.map (cv (adr B sa))))
section AWR
variable {CK : CKT} {l : Launch} {Y : YT} {d nE sE pc n : Nat} {loc loc' : List (Option Value)} {st : List Value} {μ : MM}
/-- an instruction that touches neither memory nor locals -/
theorem AW.pure {pc' : Nat} {st' : List Value} (k : AW CK l Y d nE sE pc' loc st' μ)
    (h : ∀ {p : Program} {e : Env} {R : Room} {s : State} {m : MethodId} {args : Array Value} {below : List Frame} {meth : Method} {c : Code} {H : Heap} {locs : List Loc} {cells slots : Nat} {Q : State → Prop} {ls : Array Slot} (f : Nat → Nat), p.tables.exec = Jvm.exec → c.code = Y.2.1 →
      s.vm.findClass Y.1.cls = some m.cls → (∀ w ∈ tb, w.before args s = true) → LH f loc ls Y.2.2.1 →
      W p l e R s m args below meth c H locs cells slots Q (F0 m pc' ls (st'.map (cv f))) → W p l e R s m args below meth c H locs cells slots Q (F0 m pc ls (st.map (cv f)))) : AW CK l Y d nE sE pc loc st μ := by
  refine ⟨k.1, k.2.1, fun p e R s m args below meth c B D tc sa n0 s0 Q hC hF H locs ls cells slots hP hS hL hc hs => ?_⟩
  exact h (adr B sa) hF.1 hF.2.1 hF.2.2.2.2.1 hF.2.2.2.2.2.1 hL (k.2.2 p e R s m args below meth c B D tc sa n0 s0 Q hC hF H locs ls cells slots hP hS hL hc hs)
/-- two ways -/
theorem AW.pure2 {c1 : Prop} {pc1 pc2 : Nat} {st' : List Value} [Decidable c1] (k1 : c1 → AW CK l Y d nE sE pc1 loc st' μ) (k2 : ¬ c1 → AW CK l Y d nE sE pc2 loc st' μ)
    (h : ∀ {p : Program} {e : Env} {R : Room} {s : State} {m : MethodId} {args : Array Value} {below : List Frame} {meth : Method} {c : Code} {H : Heap} {locs : List Loc} {cells slots : Nat} {Q : State → Prop} {ls : Array Slot} (f : Nat → Nat), p.tables.exec = Jvm.exec → c.code = Y.2.1 →
      (c1 → W p l e R s m args below meth c H locs cells slots Q (F0 m pc1 ls (st'.map (cv f)))) → (¬ c1 → W p l e R s m args below meth c H locs cells slots Q (F0 m pc2 ls (st'.map (cv f)))) → W p l e R s m args below meth c H locs cells slots Q (F0 m pc ls (st.map (cv f)))) : AW CK l Y d nE sE pc loc st μ := by
  have hk : nc μ ≤ nE ∧ nsl μ ≤ sE := by
    by_cases z : c1
    · exact ⟨(k1 z).1, (k1 z).2.1⟩
    · exact ⟨(k2 z).1, (k2 z).2.1⟩
  refine ⟨hk.1, hk.2, fun p e R s m args below meth c B D tc sa n0 s0 Q hC hF H locs ls cells slots hP hS hL hc hs => ?_⟩
  exact h (adr B sa) hF.1 hF.2.1 (fun z => (k1 z).2.2 p e R s m args below meth c B D tc sa n0 s0 Q hC hF H locs ls cells slots hP hS hL hc hs) (fun z => (k2 z).2.2 p e R s m args below meth c B D tc sa n0 s0 Q hC hF H locs ls cells slots hP hS hL hc hs)
theorem aw_iconst {v : Int32} {z : Int} (n : Nat) (hd : decode Y.2.1 pc = .ok (.iconst z, 1)) (hn : pc + 1 = n) (hv : Int32.ofInt z = v) (k : AW CK l Y d nE sE n loc (.int v :: st) μ) : AW CK l Y d nE sE pc loc st μ := by
  subst hn; exact k.pure (fun f hx hb _ _ _ kk => lv_iconst hx hb hd hv kk)
theorem aw_bipush {v : Int32} {z : Int} (n : Nat) (hd : decode Y.2.1 pc = .ok (.bipush z, 2)) (hn : pc + 2 = n) (hv : (Int8.ofInt z).toInt32 = v) (k : AW CK l Y d nE sE n loc (.int v :: st) μ) : AW CK l Y d nE sE pc loc st μ := by
  subst hn; exact k.pure (fun f hx hb _ _ _ kk => lv_bipush hx hb hd hv kk)
theorem aw_sipush {v : Int32} {z : Int} (n : Nat) (hd : decode Y.2.1 pc = .ok (.sipush z, 3)) (hn : pc + 3 = n) (hv : (Int16.ofInt z).toInt32 = v) (k : AW CK l Y d nE sE n loc (.int v :: st) μ) : AW CK l Y d nE sE pc loc st μ := by
  subst hn; exact k.pure (fun f hx hb _ _ _ kk => lv_sipush hx hb hd hv kk)
theorem aw_lconst {v : Int64} {z : Fin 2} (n : Nat) (hd : decode Y.2.1 pc = .ok (.lconst z, 1)) (hn : pc + 1 = n) (hv : Int64.ofNat (z : Nat) = v) (k : AW CK l Y d nE sE n loc (.long v :: st) μ) : AW CK l Y d nE sE pc loc st μ := by
  subst hn; exact k.pure (fun f hx hb _ _ _ kk => lv_lconst hx hb hd hv kk)
theorem aw_ldc {v : Int32} {ix : Nat} (n : Nat) (hd : decode Y.2.1 pc = .ok (.ldc ix, 2)) (hn : pc + 2 = n) (hw : Jvm.Cond.constant Y.1.cls ix v ∈ tb) (k : AW CK l Y d nE sE n loc (.int v :: st) μ) : AW CK l Y d nE sE pc loc st μ := by
  subst hn; exact k.pure (fun f hx hb ho ht _ kk => lv_ldc hx hb ho (ht _ hw) hd kk)
theorem aw_ldc_w {v : Int32} {ix : Nat} (n : Nat) (hd : decode Y.2.1 pc = .ok (.ldc_w ix, 3)) (hn : pc + 3 = n) (hw : Jvm.Cond.constant Y.1.cls ix v ∈ tb) (k : AW CK l Y d nE sE n loc (.int v :: st) μ) : AW CK l Y d nE sE pc loc st μ := by
  subst hn; exact k.pure (fun f hx hb ho ht _ kk => lv_ldcw hx hb ho (ht _ hw) hd kk)
theorem aw_ldc2 {v : Int64} {ix : Nat} (n : Nat) (hd : decode Y.2.1 pc = .ok (.ldc2_w ix, 3)) (hn : pc + 3 = n) (hw : Jvm.Cond.constantLong Y.1.cls ix v ∈ tb) (k : AW CK l Y d nE sE n loc (.long v :: st) μ) : AW CK l Y d nE sE pc loc st μ := by
  subst hn; exact k.pure (fun f hx hb ho ht _ kk => lv_ldc2 hx hb ho (ht _ hw) hd kk)
theorem aw_null (n : Nat) (hd : decode Y.2.1 pc = .ok (.aconst_null, 1)) (hn : pc + 1 = n) (k : AW CK l Y d nE sE n loc (.null :: st) μ) : AW CK l Y d nE sE pc loc st μ := by
  subst hn; exact k.pure (fun f hx hb _ _ _ kk => lv_null hx hb hd kk)
theorem aw_iload_n {z : Fin 4} {x : Int32} (n : Nat) (hd : decode Y.2.1 pc = .ok (.iload_n z, 1)) (hn : pc + 1 = n) (hl : loc[(z : Nat)]? = some (some (.int x))) (k : AW CK l Y d nE sE n loc (.int x :: st) μ) : AW CK l Y d nE sE pc loc st μ := by
  subst hn; exact k.pure (fun f hx hb _ _ hL kk => lv_iload_n hx hb hd rfl (hL.get hl) kk)
theorem aw_iload {i : Nat} {x : Int32} (n : Nat) (hd : decode Y.2.1 pc = .ok (.iload i, 2)) (hn : pc + 2 = n) (hl : loc[i]? = some (some (.int x))) (k : AW CK l Y d nE sE n loc (.int x :: st) μ) : AW CK l Y d nE sE pc loc st μ := by
  subst hn; exact k.pure (fun f hx hb _ _ hL kk => lv_iload hx hb hd (hL.get hl) kk)
theorem aw_lload_n {z : Fin 4} {x : Int64} (n : Nat) (hd : decode Y.2.1 pc = .ok (.lload_n z, 1)) (hn : pc + 1 = n) (hl : loc[(z : Nat)]? = some (some (.long x))) (k : AW CK l Y d nE sE n loc (.long x :: st) μ) : AW CK l Y d nE sE pc loc st μ := by
  subst hn; exact k.pure (fun f hx hb _ _ hL kk => lv_lload_n hx hb hd rfl (hL.get hl) kk)
theorem aw_lload {i : Nat} {x : Int64} (n : Nat) (hd : decode Y.2.1 pc = .ok (.lload i, 2)) (hn : pc + 2 = n) (hl : loc[i]? = some (some (.long x))) (k : AW CK l Y d nE sE n loc (.long x :: st) μ) : AW CK l Y d nE sE pc loc st μ := by
  subst hn; exact k.pure (fun f hx hb _ _ hL kk => lv_lload hx hb hd (hL.get hl) kk)
theorem aw_aload_n {z : Fin 4} {x : Nat} (n : Nat) (hd : decode Y.2.1 pc = .ok (.aload_n z, 1)) (hn : pc + 1 = n) (hl : loc[(z : Nat)]? = some (some (.ref x))) (k : AW CK l Y d nE sE n loc (.ref x :: st) μ) : AW CK l Y d nE sE pc loc st μ := by
  subst hn; exact k.pure (fun f hx hb _ _ hL kk => lv_aload_n hx hb hd rfl (hL.get hl) kk)
theorem aw_aload {i : Nat} {x : Nat} (n : Nat) (hd : decode Y.2.1 pc = .ok (.aload i, 2)) (hn : pc + 2 = n) (hl : loc[i]? = some (some (.ref x))) (k : AW CK l Y d nE sE n loc (.ref x :: st) μ) : AW CK l Y d nE sE pc loc st μ := by
  subst hn; exact k.pure (fun f hx hb _ _ hL kk => lv_aload hx hb hd (hL.get hl) kk)
/-- a reference or null -/
theorem aw_aload_nq {z : Fin 4} {x : Option Nat} (n : Nat) (hd : decode Y.2.1 pc = .ok (.aload_n z, 1)) (hn : pc + 1 = n) (hl : loc[(z : Nat)]? = some (some (va_rf x))) (k : AW CK l Y d nE sE n loc (va_rf x :: st) μ) : AW CK l Y d nE sE pc loc st μ := by
  subst hn
  cases x with
  | some x => exact aw_aload_n _ hd rfl hl k
  | none => exact k.pure (fun f hx hb _ _ hL kk => lv_aload_nN hx hb hd rfl (hL.get hl) kk)
section
variable {x y : Int32} {xl yl : Int64}
theorem aw_iadd (n : Nat) (hd : decode Y.2.1 pc = .ok (.iadd, 1)) (hn : pc + 1 = n) (k : AW CK l Y d nE sE n loc (.int (x + y) :: st) μ) : AW CK l Y d nE sE pc loc (.int y :: .int x :: st) μ := by
  subst hn; exact k.pure (fun f hx hb _ _ _ kk => lv_iadd hx hb hd kk)
theorem aw_isub (n : Nat) (hd : decode Y.2.1 pc = .ok (.isub, 1)) (hn : pc + 1 = n) (k : AW CK l Y d nE sE n loc (.int (x - y) :: st) μ) : AW CK l Y d nE sE pc loc (.int y :: .int x :: st) μ := by
  subst hn; exact k.pure (fun f hx hb _ _ _ kk => lv_isub hx hb hd kk)
theorem aw_imul (n : Nat) (hd : decode Y.2.1 pc = .ok (.imul, 1)) (hn : pc + 1 = n) (k : AW CK l Y d nE sE n loc (.int (x * y) :: st) μ) : AW CK l Y d nE sE pc loc (.int y :: .int x :: st) μ := by
  subst hn; exact k.pure (fun f hx hb _ _ _ kk => lv_imul hx hb hd kk)
theorem aw_iand (n : Nat) (hd : decode Y.2.1 pc = .ok (.iand, 1)) (hn : pc + 1 = n) (k : AW CK l Y d nE sE n loc (.int (x &&& y) :: st) μ) : AW CK l Y d nE sE pc loc (.int y :: .int x :: st) μ := by
  subst hn; exact k.pure (fun f hx hb _ _ _ kk => lv_iand hx hb hd kk)
theorem aw_ior (n : Nat) (hd : decode Y.2.1 pc = .ok (.ior, 1)) (hn : pc + 1 = n) (k : AW CK l Y d nE sE n loc (.int (x ||| y) :: st) μ) : AW CK l Y d nE sE pc loc (.int y :: .int x :: st) μ := by
  subst hn; exact k.pure (fun f hx hb _ _ _ kk => lv_ior hx hb hd kk)
theorem aw_ixor (n : Nat) (hd : decode Y.2.1 pc = .ok (.ixor, 1)) (hn : pc + 1 = n) (k : AW CK l Y d nE sE n loc (.int (x ^^^ y) :: st) μ) : AW CK l Y d nE sE pc loc (.int y :: .int x :: st) μ := by
  subst hn; exact k.pure (fun f hx hb _ _ _ kk => lv_ixor hx hb hd kk)
theorem aw_idiv (n : Nat) (hd : decode Y.2.1 pc = .ok (.idiv, 1)) (hn : pc + 1 = n) (hz : ¬ y = 0) (k : AW CK l Y d nE sE n loc (.int (x / y) :: st) μ) : AW CK l Y d nE sE pc loc (.int y :: .int x :: st) μ := by
  subst hn; exact k.pure (fun f hx hb _ _ _ kk => lv_idiv hx hb hd hz kk)
theorem aw_irem (n : Nat) (hd : decode Y.2.1 pc = .ok (.irem, 1)) (hn : pc + 1 = n) (hz : ¬ y = 0) (k : AW CK l Y d nE sE n loc (.int (irem x y) :: st) μ) : AW CK l Y d nE sE pc loc (.int y :: .int x :: st) μ := by
  subst hn; exact k.pure (fun f hx hb _ _ _ kk => lv_irem hx hb hd hz kk)
theorem aw_ineg (n : Nat) (hd : decode Y.2.1 pc = .ok (.ineg, 1)) (hn : pc + 1 = n) (k : AW CK l Y d nE sE n loc (.int (-x) :: st) μ) : AW CK l Y d nE sE pc loc (.int x :: st) μ := by
  subst hn; exact k.pure (fun f hx hb _ _ _ kk => lv_ineg hx hb hd kk)
theorem aw_ishl (n : Nat) (hd : decode Y.2.1 pc = .ok (.ishl, 1)) (hn : pc + 1 = n) (k : AW CK l Y d nE sE n loc (.int (ishl x y) :: st) μ) : AW CK l Y d nE sE pc loc (.int y :: .int x :: st) μ := by
  subst hn; exact k.pure (fun f hx hb _ _ _ kk => lv_ishl hx hb hd kk)
theorem aw_ishr (n : Nat) (hd : decode Y.2.1 pc = .ok (.ishr, 1)) (hn : pc + 1 = n) (k : AW CK l Y d nE sE n loc (.int (ishr x y) :: st) μ) : AW CK l Y d nE sE pc loc (.int y :: .int x :: st) μ := by
  subst hn; exact k.pure (fun f hx hb _ _ _ kk => lv_ishr hx hb hd kk)
theorem aw_iushr (n : Nat) (hd : decode Y.2.1 pc = .ok (.iushr, 1)) (hn : pc + 1 = n) (k : AW CK l Y d nE sE n loc (.int (iushr x y) :: st) μ) : AW CK l Y d nE sE pc loc (.int y :: .int x :: st) μ := by
  subst hn; exact k.pure (fun f hx hb _ _ _ kk => lv_iushr hx hb hd rfl kk)
theorem aw_i2l (n : Nat) (hd : decode Y.2.1 pc = .ok (.i2l, 1)) (hn : pc + 1 = n) (k : AW CK l Y d nE sE n loc (.long x.toInt64 :: st) μ) : AW CK l Y d nE sE pc loc (.int x :: st) μ := by
  subst hn; exact k.pure (fun f hx hb _ _ _ kk => lv_i2l hx hb hd rfl kk)
theorem aw_l2i (n : Nat) (hd : decode Y.2.1 pc = .ok (.l2i, 1)) (hn : pc + 1 = n) (k : AW CK l Y d nE sE n loc (.int xl.toInt32 :: st) μ) : AW CK l Y d nE sE pc loc (.long xl :: st) μ := by
  subst hn; exact k.pure (fun f hx hb _ _ _ kk => lv_l2i hx hb hd rfl kk)
theorem aw_i2b (n : Nat) (hd : decode Y.2.1 pc = .ok (.i2b, 1)) (hn : pc + 1 = n) (k : AW CK l Y d nE sE n loc (.int x.toInt8.toInt32 :: st) μ) : AW CK l Y d nE sE pc loc (.int x :: st) μ := by
  subst hn; exact k.pure (fun f hx hb _ _ _ kk => lv_i2b hx hb hd rfl kk)
theorem aw_i2c (n : Nat) (hd : decode Y.2.1 pc = .ok (.i2c, 1)) (hn : pc + 1 = n) (k : AW CK l Y d nE sE n loc (.int (i2c x) :: st) μ) : AW CK l Y d nE sE pc loc (.int x :: st) μ := by
  subst hn; exact k.pure (fun f hx hb _ _ _ kk => lv_i2c hx hb hd rfl kk)
theorem aw_ladd (n : Nat) (hd : decode Y.2.1 pc = .ok (.ladd, 1)) (hn : pc + 1 = n) (k : AW CK l Y d nE sE n loc (.long (xl + yl) :: st) μ) : AW CK l Y d nE sE pc loc (.long yl :: .long xl :: st) μ := by
  subst hn; exact k.pure (fun f hx hb _ _ _ kk => lv_ladd hx hb hd kk)
theorem aw_lsub (n : Nat) (hd : decode Y.2.1 pc = .ok (.lsub, 1)) (hn : pc + 1 = n) (k : AW CK l Y d nE sE n loc (.long (xl - yl) :: st) μ) : AW CK l Y d nE sE pc loc (.long yl :: .long xl :: st) μ := by
  subst hn; exact k.pure (fun f hx hb _ _ _ kk => lv_lsub hx hb hd kk)
theorem aw_lmul (n : Nat) (hd : decode Y.2.1 pc = .ok (.lmul, 1)) (hn : pc + 1 = n) (k : AW CK l Y d nE sE n loc (.long (xl * yl) :: st) μ) : AW CK l Y d nE sE pc loc (.long yl :: .long xl :: st) μ := by
  subst hn; exact k.pure (fun f hx hb _ _ _ kk => lv_lmul hx hb hd kk)
theorem aw_lxor (n : Nat) (hd : decode Y.2.1 pc = .ok (.lxor, 1)) (hn : pc + 1 = n) (k : AW CK l Y d nE sE n loc (.long (xl ^^^ yl) :: st) μ) : AW CK l Y d nE sE pc loc (.long yl :: .long xl :: st) μ := by
  subst hn; exact k.pure (fun f hx hb _ _ _ kk => lv_lxor hx hb hd kk)
theorem aw_ldiv (n : Nat) (hd : decode Y.2.1 pc = .ok (.ldiv, 1)) (hn : pc + 1 = n) (hz : ¬ yl = 0) (k : AW CK l Y d nE sE n loc (.long (xl / yl) :: st) μ) : AW CK l Y d nE sE pc loc (.long yl :: .long xl :: st) μ := by
  subst hn; exact k.pure (fun f hx hb _ _ _ kk => lv_ldiv hx hb hd hz kk)
theorem aw_lneg (n : Nat) (hd : decode Y.2.1 pc = .ok (.lneg, 1)) (hn : pc + 1 = n) (k : AW CK l Y d nE sE n loc (.long (-xl) :: st) μ) : AW CK l Y d nE sE pc loc (.long xl :: st) μ := by
  subst hn; exact k.pure (fun f hx hb _ _ _ kk => lv_lneg hx hb hd kk)
theorem aw_lcmp (n : Nat) (hd : decode Y.2.1 pc = .ok (.lcmp, 1)) (hn : pc + 1 = n) (k : AW CK l Y d nE sE n loc (.int (lg_cmp xl yl) :: st) μ) : AW CK l Y d nE sE pc loc (.long yl :: .long xl :: st) μ := by
  subst hn; exact k.pure (fun f hx hb _ _ _ kk => W.lcmp hx hb hd kk)
theorem aw_dup {v : Value} (n : Nat) (hd : decode Y.2.1 pc = .ok (.dup, 1)) (hn : pc + 1 = n) (hv : v.category = 1) (k : AW CK l Y d nE sE n loc (v :: v :: st) μ) : AW CK l Y d nE sE pc loc (v :: st) μ := by
  subst hn; exact k.pure (fun f hx hb _ _ _ kk => lv_dup hx hb hd (by rw [cv_cat]; exact hv) kk)
theorem aw_dup2 {v w : Value} (n : Nat) (hd : decode Y.2.1 pc = .ok (.dup2, 1)) (hn : pc + 1 = n) (hv : v.category = 1) (hw : w.category = 1) (k : AW CK l Y d nE sE n loc (v :: w :: v :: w :: st) μ) : AW CK l Y d nE sE pc loc (v :: w :: st) μ := by
  subst hn; exact k.pure (fun f hx hb _ _ _ kk => lv_dup2_11 hx hb hd (by rw [cv_cat]; exact hv) (by rw [cv_cat]; exact hw) kk)
theorem aw_pop {v : Value} (n : Nat) (hd : decode Y.2.1 pc = .ok (.pop, 1)) (hn : pc + 1 = n) (hv : v.category = 1) (k : AW CK l Y d nE sE n loc st μ) : AW CK l Y d nE sE pc loc (v :: st) μ := by
  subst hn; exact k.pure (fun f hx hb _ _ _ kk => lv_pop hx hb hd (by rw [cv_cat]; exact hv) kk)
theorem aw_goto {off : Int} (t : Nat) (hd : decode Y.2.1 pc = .ok (.goto off, 3)) (ht : (pc : Int) + off = (t : Int)) (k : AW CK l Y d nE sE t loc st μ) : AW CK l Y d nE sE pc loc st μ :=
  k.pure (fun f hx hb _ _ _ kk => lv_goto hx hb hd ht kk)
theorem aw_if_eq {off : Int} (t n : Nat) (hd : decode Y.2.1 pc = .ok (.ifCond .eq off, 3)) (ht : (pc : Int) + off = (t : Int)) (hn : pc + 3 = n) (k1 : x = 0 → AW CK l Y d nE sE t loc st μ) (k2 : ¬ x = 0 → AW CK l Y d nE sE n loc st μ) : AW CK l Y d nE sE pc loc (.int x :: st) μ := by
  subst hn; exact AW.pure2 k1 k2 (fun f hx hb a b => lv_if_eq hx hb hd ht a b)
theorem aw_if_ne {off : Int} (t n : Nat) (hd : decode Y.2.1 pc = .ok (.ifCond .ne off, 3)) (ht : (pc : Int) + off = (t : Int)) (hn : pc + 3 = n) (k1 : ¬ x = 0 → AW CK l Y d nE sE t loc st μ) (k2 : x = 0 → AW CK l Y d nE sE n loc st μ) : AW CK l Y d nE sE pc loc (.int x :: st) μ := by
  subst hn; exact AW.pure2 k2 k1 (fun f hx hb a b => lv_if_ne hx hb hd ht b a)
theorem aw_if_lt {off : Int} (t n : Nat) (hd : decode Y.2.1 pc = .ok (.ifCond .lt off, 3)) (ht : (pc : Int) + off = (t : Int)) (hn : pc + 3 = n) (k1 : x < 0 → AW CK l Y d nE sE t loc st μ) (k2 : ¬ x < 0 → AW CK l Y d nE sE n loc st μ) : AW CK l Y d nE sE pc loc (.int x :: st) μ := by
  subst hn; exact AW.pure2 k1 k2 (fun f hx hb a b => lv_if_lt hx hb hd ht a b)
theorem aw_if_ge {off : Int} (t n : Nat) (hd : decode Y.2.1 pc = .ok (.ifCond .ge off, 3)) (ht : (pc : Int) + off = (t : Int)) (hn : pc + 3 = n) (k1 : 0 ≤ x → AW CK l Y d nE sE t loc st μ) (k2 : ¬ 0 ≤ x → AW CK l Y d nE sE n loc st μ) : AW CK l Y d nE sE pc loc (.int x :: st) μ := by
  subst hn; exact AW.pure2 k1 k2 (fun f hx hb a b => lv_if_ge hx hb hd ht a b)
theorem aw_if_gt {off : Int} (t n : Nat) (hd : decode Y.2.1 pc = .ok (.ifCond .gt off, 3)) (ht : (pc : Int) + off = (t : Int)) (hn : pc + 3 = n) (k1 : 0 < x → AW CK l Y d nE sE t loc st μ) (k2 : ¬ 0 < x → AW CK l Y d nE sE n loc st μ) : AW CK l Y d nE sE pc loc (.int x :: st) μ := by
  subst hn; exact AW.pure2 k1 k2 (fun f hx hb a b => lv_if_gt hx hb hd ht a b)
theorem aw_if_le {off : Int} (t n : Nat) (hd : decode Y.2.1 pc = .ok (.ifCond .le off, 3)) (ht : (pc : Int) + off = (t : Int)) (hn : pc + 3 = n) (k1 : x ≤ 0 → AW CK l Y d nE sE t loc st μ) (k2 : ¬ x ≤ 0 → AW CK l Y d nE sE n loc st μ) : AW CK l Y d nE sE pc loc (.int x :: st) μ := by
  subst hn; exact AW.pure2 k1 k2 (fun f hx hb a b => lv_if_le hx hb hd ht a b)
theorem aw_icmp_eq {off : Int} (t n : Nat) (hd : decode Y.2.1 pc = .ok (.if_icmp .eq off, 3)) (ht : (pc : Int) + off = (t : Int)) (hn : pc + 3 = n) (k1 : x = y → AW CK l Y d nE sE t loc st μ) (k2 : ¬ x = y → AW CK l Y d nE sE n loc st μ) : AW CK l Y d nE sE pc loc (.int y :: .int x :: st) μ := by
  subst hn; exact AW.pure2 k1 k2 (fun f hx hb a b => lv_icmp_eq hx hb hd ht a b)
theorem aw_icmp_ne {off : Int} (t n : Nat) (hd : decode Y.2.1 pc = .ok (.if_icmp .ne off, 3)) (ht : (pc : Int) + off = (t : Int)) (hn : pc + 3 = n) (k1 : ¬ x = y → AW CK l Y d nE sE t loc st μ) (k2 : x = y → AW CK l Y d nE sE n loc st μ) : AW CK l Y d nE sE pc loc (.int y :: .int x :: st) μ := by
  subst hn; exact AW.pure2 k2 k1 (fun f hx hb a b => lv_icmp_ne hx hb hd ht b a)
theorem aw_icmp_lt {off : Int} (t n : Nat) (hd : decode Y.2.1 pc = .ok (.if_icmp .lt off, 3)) (ht : (pc : Int) + off = (t : Int)) (hn : pc + 3 = n) (k1 : x < y → AW CK l Y d nE sE t loc st μ) (k2 : ¬ x < y → AW CK l Y d nE sE n loc st μ) : AW CK l Y d nE sE pc loc (.int y :: .int x :: st) μ := by
  subst hn; exact AW.pure2 k1 k2 (fun f hx hb a b => lv_icmp_lt hx hb hd ht a b)
theorem aw_icmp_ge {off : Int} (t n : Nat) (hd : decode Y.2.1 pc = .ok (.if_icmp .ge off, 3)) (ht : (pc : Int) + off = (t : Int)) (hn : pc + 3 = n) (k1 : y ≤ x → AW CK l Y d nE sE t loc st μ) (k2 : ¬ y ≤ x → AW CK l Y d nE sE n loc st μ) : AW CK l Y d nE sE pc loc (.int y :: .int x :: st) μ := by
  subst hn; exact AW.pure2 k1 k2 (fun f hx hb a b => lv_icmp_ge hx hb hd ht a b)
theorem aw_icmp_gt {off : Int} (t n : Nat) (hd : decode Y.2.1 pc = .ok (.if_icmp .gt off, 3)) (ht : (pc : Int) + off = (t : Int)) (hn : pc + 3 = n) (k1 : y < x → AW CK l Y d nE sE t loc st μ) (k2 : ¬ y < x → AW CK l Y d nE sE n loc st μ) : AW CK l Y d nE sE pc loc (.int y :: .int x :: st) μ := by
  subst hn; exact AW.pure2 k1 k2 (fun f hx hb a b => lv_icmp_gt hx hb hd ht a b)
theorem aw_icmp_le {off : Int} (t n : Nat) (hd : decode Y.2.1 pc = .ok (.if_icmp .le off, 3)) (ht : (pc : Int) + off = (t : Int)) (hn : pc + 3 = n) (k1 : x ≤ y → AW CK l Y d nE sE t loc st μ) (k2 : ¬ x ≤ y → AW CK l Y d nE sE n loc st μ) : AW CK l Y d nE sE pc loc (.int y :: .int x :: st) μ := by
  subst hn; exact AW.pure2 k1 k2 (fun f hx hb a b => lv_icmp_le hx hb hd ht a b)
theorem aw_ifnull {x : Option Nat} {off : Int} (t n : Nat) (hd : decode Y.2.1 pc = .ok (.ifnull off, 3)) (ht : (pc : Int) + off = (t : Int)) (hn : pc + 3 = n) (k1 : x = none → AW CK l Y d nE sE t loc st μ) (k2 : ∀ a, x = some a → AW CK l Y d nE sE n loc st μ) : AW CK l Y d nE sE pc loc (va_rf x :: st) μ := by
  subst hn
  cases x with
  | none => exact (k1 rfl).pure (fun f hx hb _ _ _ kk => lv_ifnullN hx hb hd ht kk)
  | some a => exact (k2 a rfl).pure (fun f hx hb _ _ _ kk => lv_ifnull hx hb hd kk)
theorem aw_ifnonnull {x : Option Nat} {off : Int} (t n : Nat) (hd : decode Y.2.1 pc = .ok (.ifnonnull off, 3)) (ht : (pc : Int) + off = (t : Int)) (hn : pc + 3 = n) (k1 : ∀ a, x = some a → AW CK l Y d nE sE t loc st μ) (k2 : x = none → AW CK l Y d nE sE n loc st μ) : AW CK l Y d nE sE pc loc (va_rf x :: st) μ := by
  subst hn
  cases x with
  | none => exact (k2 rfl).pure (fun f hx hb _ _ _ kk => lv_ifnonnullN hx hb hd kk)
  | some a => exact (k1 a rfl).pure (fun f hx hb _ _ _ kk => lv_ifnonnull hx hb hd ht kk)
theorem aw_tableIn {dflt lo hi : Int} {offs : Array Int} {len : Nat} {off : Int} (t : Nat) (hd : decode Y.2.1 pc = .ok (.tableswitch dflt lo hi offs, len)) (h1 : ¬ x.toInt < lo) (h2 : ¬ hi < x.toInt) (ho : offs[(x.toInt - lo).toNat]? = some off) (ht : (pc : Int) + off = (t : Int)) (k : AW CK l Y d nE sE t loc st μ) : AW CK l Y d nE sE pc loc (.int x :: st) μ :=
  k.pure (fun f hx hb _ _ _ kk => lv_tableIn hx hb hd h1 h2 ho ht kk)
theorem aw_tableOut {dflt lo hi : Int} {offs : Array Int} {len : Nat} (t : Nat) (hd : decode Y.2.1 pc = .ok (.tableswitch dflt lo hi offs, len)) (h : x.toInt < lo ∨ hi < x.toInt) (ht : (pc : Int) + dflt = (t : Int)) (k : AW CK l Y d nE sE t loc st μ) : AW CK l Y d nE sE pc loc (.int x :: st) μ :=
  k.pure (fun f hx hb _ _ _ kk => lv_tableOut hx hb hd h ht kk)
theorem aw_lookup {dflt : Int} {ps : Array (Int × Int)} {len : Nat} {off : Int} (t : Nat) (hd : decode Y.2.1 pc = .ok (.lookupswitch dflt ps, len)) (hp : (ps.toList.zip (ps.toList.drop 1)).all (fun (a, next) => a.1 < next.1) = true) (ho : Op.lookupswitch.offset ps.toList dflt x.toInt = off) (ht : (pc : Int) + off = (t : Int)) (k : AW CK l Y d nE sE t loc st μ) : AW CK l Y d nE sE pc loc (.int x :: st) μ :=
  k.pure (fun f hx hb _ _ _ kk => lv_lookup hx hb hd hp ho ht kk)
end
/-- an instruction that sets a local -/
theorem AW.stl {pc' : Nat} {st' : List Value} (k : AW CK l Y d nE sE pc' loc' st' μ)
    (h : ∀ {p : Program} {e : Env} {R : Room} {s : State} {m : MethodId} {args : Array Value} {below : List Frame} {meth : Method} {c : Code} {H : Heap} {locs : List Loc} {cells slots : Nat} {Q : State → Prop} {ls : Array Slot} (f : Nat → Nat), p.tables.exec = Jvm.exec → c.code = Y.2.1 → LH f loc ls Y.2.2.1 →
      (∀ ls' : Array Slot, LH f loc' ls' Y.2.2.1 → W p l e R s m args below meth c H locs cells slots Q (F0 m pc' ls' (st'.map (cv f)))) → W p l e R s m args below meth c H locs cells slots Q (F0 m pc ls (st.map (cv f)))) : AW CK l Y d nE sE pc loc st μ := by
  refine ⟨k.1, k.2.1, fun p e R s m args below meth c B D tc sa n0 s0 Q hC hF H locs ls cells slots hP hS hL hc hs => ?_⟩
  exact h (adr B sa) hF.1 hF.2.1 hL (fun ls' hL' => k.2.2 p e R s m args below meth c B D tc sa n0 s0 Q hC hF H locs ls' cells slots hP hS hL' hc hs)
theorem aw_istore_n {z : Fin 4} {x : Int32} (n : Nat) (hd : decode Y.2.1 pc = .ok (.istore_n z, 1)) (hn : pc + 1 = n) (hi : (z : Nat) < Y.2.2.1) (hl : st1 loc z (.int x) = loc') (k : AW CK l Y d nE sE n loc' st μ) : AW CK l Y d nE sE pc loc (.int x :: st) μ := by
  subst hn; subst hl; exact k.stl (fun f hx hb hL kk => lv_istore_n hx hb hd rfl hL hi rfl (fun ls' h' => kk ls' (LH.st1 h')))
theorem aw_istore {i : Nat} {x : Int32} (n : Nat) (hd : decode Y.2.1 pc = .ok (.istore i, 2)) (hn : pc + 2 = n) (hi : i < Y.2.2.1) (hl : st1 loc i (.int x) = loc') (k : AW CK l Y d nE sE n loc' st μ) : AW CK l Y d nE sE pc loc (.int x :: st) μ := by
  subst hn; subst hl; exact k.stl (fun f hx hb hL kk => lv_istore hx hb hd hL hi rfl (fun ls' h' => kk ls' (LH.st1 h')))
theorem aw_lstore_n {z : Fin 4} {x : Int64} (n : Nat) (hd : decode Y.2.1 pc = .ok (.lstore_n z, 1)) (hn : pc + 1 = n) (hi : (z : Nat) + 1 < Y.2.2.1) (hl : st2 loc z (.long x) = loc') (k : AW CK l Y d nE sE n loc' st μ) : AW CK l Y d nE sE pc loc (.long x :: st) μ := by
  subst hn; subst hl; exact k.stl (fun f hx hb hL kk => lv_lstore_n hx hb hd rfl hL hi rfl (fun ls' h' => kk ls' (LH.st2 h')))
theorem aw_lstore {i : Nat} {x : Int64} (n : Nat) (hd : decode Y.2.1 pc = .ok (.lstore i, 2)) (hn : pc + 2 = n) (hi : i + 1 < Y.2.2.1) (hl : st2 loc i (.long x) = loc') (k : AW CK l Y d nE sE n loc' st μ) : AW CK l Y d nE sE pc loc (.long x :: st) μ := by
  subst hn; subst hl; exact k.stl (fun f hx hb hL kk => lv_lstore hx hb hd hL hi rfl (fun ls' h' => kk ls' (LH.st2 h')))
theorem aw_astore_n {z : Fin 4} {x : Nat} (n : Nat) (hd : decode Y.2.1 pc = .ok (.astore_n z, 1)) (hn : pc + 1 = n) (hi : (z : Nat) < Y.2.2.1) (hl : st1 loc z (.ref x) = loc') (k : AW CK l Y d nE sE n loc' st μ) : AW CK l Y d nE sE pc loc (.ref x :: st) μ := by
  subst hn; subst hl; exact k.stl (fun f hx hb hL kk => lv_astore_n hx hb hd rfl hL hi rfl (fun ls' h' => kk ls' (LH.st1 h')))
theorem aw_astore_nq {z : Fin 4} {x : Option Nat} (n : Nat) (hd : decode Y.2.1 pc = .ok (.astore_n z, 1)) (hn : pc + 1 = n) (hi : (z : Nat) < Y.2.2.1) (hl : st1 loc z (va_rf x) = loc') (k : AW CK l Y d nE sE n loc' st μ) : AW CK l Y d nE sE pc loc (va_rf x :: st) μ := by
  cases x with
  | some x => exact aw_astore_n n hd hn hi hl k
  | none => subst hn; subst hl; exact k.stl (fun f hx hb hL kk => lv_astore_nN hx hb hd rfl hL hi rfl (fun ls' h' => kk ls' (LH.st1 h')))
theorem aw_iinc {i : Nat} {z : Int} {x v : Int32} (n : Nat) (hd : decode Y.2.1 pc = .ok (.iinc i z, 3)) (hn : pc + 3 = n) (hi : i < Y.2.2.1) (hg : loc[i]? = some (some (.int x))) (hv : x + Int32.ofInt z = v) (hl : st1 loc i (.int v) = loc') (k : AW CK l Y d nE sE n loc' st μ) : AW CK l Y d nE sE pc loc st μ := by
  subst hn; subst hl
  refine k.stl (fun f hx hb hL kk => ?_)
  obtain ⟨j, hj⟩ := List.getElem?_of_mem (lz_mem (f := f).mpr ⟨_, hg, rfl⟩)
  exact lv_iinc hx hb hd hL hj hv hi rfl (fun ls' h' => kk ls' (LH.st1 h'))
theorem aw_iincW {i : Nat} {z : Int} {x v : Int32} (n : Nat) (hd : decode Y.2.1 pc = .ok (.iinc i z, 6)) (hn : pc + 6 = n) (hi : i < Y.2.2.1) (hg : loc[i]? = some (some (.int x))) (hv : x + Int32.ofInt z = v) (hl : st1 loc i (.int v) = loc') (k : AW CK l Y d nE sE n loc' st μ) : AW CK l Y d nE sE pc loc st μ := by
  subst hn; subst hl
  refine k.stl (fun f hx hb hL kk => ?_)
  obtain ⟨j, hj⟩ := List.getElem?_of_mem (lz_mem (f := f).mpr ⟨_, hg, rfl⟩)
  exact lv_iincW hx hb hd hL hj hv hi rfl (fun ls' h' => kk ls' (LH.st1 h'))
/-- fewer known locals -/
def wkL : List Bool → List (Option Value) → List (Option Value)
  | b :: bs, o :: os => (if b then o else none) :: wkL bs os
  | _, _ => []
theorem wkL_spec : ∀ (m : List Bool) (loc : List (Option Value)) (i : Nat) (v : Value), (wkL m loc)[i]? = some (some v) → loc[i]? = some (some v)
  | b :: bs, o :: os, 0, v, h => by
    simp only [wkL, List.getElem?_cons_zero] at h ⊢
    cases b <;> simp_all
  | b :: bs, o :: os, i + 1, v, h => by
    simp only [wkL, List.getElem?_cons_succ] at h ⊢
    exact wkL_spec bs os i v h
  | [], os, i, v, h => by cases os <;> simp [wkL] at h
  | b :: bs, [], i, v, h => by simp [wkL] at h
theorem AW.wk (m : List Bool) (hm : wkL m loc = loc') (k : AW CK l Y d nE sE pc loc' st μ) : AW CK l Y d nE sE pc loc st μ := by
  subst hm
  refine ⟨k.1, k.2.1, fun p e R s m args below meth c B D tc sa n0 s0 Q hC hF H locs ls cells slots hP hS hL hc hs => k.2.2 p e R s m args below meth c B D tc sa n0 s0 Q hC hF H locs ls cells slots hP hS ⟨hL.1, hL.2.1, fun q hq => hL.2.2 q ?_⟩ hc hs⟩
  obtain ⟨j, w⟩ := q
  obtain ⟨u, hu, rfl⟩ := lz_mem.mp hq
  exact lz_mem.mpr ⟨u, wkL_spec _ _ _ _ hu, rfl⟩
end AWR
end
section
/-! LAYER 0: rows that read and write the memory -/
theorem adr_lt {B : Nat} {sa : Nat → Nat} {i : Nat} (h : i < LIM) : adr B sa i = B + i := if_pos h
theorem wzD {B : Nat} {sa : Nat → Nat} {tc : Nat → ClassId} {μ : MM} (h : nc μ ≤ LIM) : va_D (fun q => B ≤ q) (wz (adr B sa) tc μ) := by
  refine ⟨fun i j x y hi hj hxy => ?_, fun k x hk => ?_⟩
  · obtain ⟨h1, h2⟩ := wz_lt hi
    obtain ⟨h3, h4⟩ := wz_lt hj
    rw [h2, h4, adr_lt (by omega), adr_lt (by omega)] at hxy
    omega
  · obtain ⟨h1, h2⟩ := wz_lt hk
    show B ≤ x.1
    rw [h2, adr_lt (by omega)]
    omega
/-- the heap is no larger than what was counted -/
theorem W.size {p : Program} {l : Launch} {e : Env} {R : Room} {s : State} {m : MethodId} {args : Array Value} {below : List Frame} {meth : Method} {c : Code} {H : Heap} {locs : List Loc} {cells slots : Nat} {Q : State → Prop} {g : JFrame}
    (k : H.size ≤ s.heap.size + cells → W p l e R s m args below meth c H locs cells slots Q g) : W p l e R s m args below meth c H locs cells slots Q g := fun T hT X => k (by rw [← hT]; exact X.heapSize) T hT X
def FLG (own : String) (ix ci k : Nat) : Prop := ∃ C T N ty, CFX ci C T N ty ∧ k < N ∧ Cond.fieldLink own ix (T k).1 (T k).2.1 (T k).2.2.1 ∈ tb
def FLP (own : String) (ix ci k : Nat) (fin : Bool) : Prop := ∃ C T N ty, CFX ci C T N ty ∧ k < N ∧ Cond.fieldLink own ix (T k).1 (T k).2.1 (T k).2.2.1 ∈ tb ∧ (T k).2.2.2 = fin ∧ (fin = true → (T k).1 = own)
theorem rI_some {μ : MM} {a ci k : Nat} {x : Int32} (h : rI μ a ci k = some x) : μ.1[a]? = some (0, ci) ∧ gI μ a k = x := by
  unfold rI at h; split at h
  · exact ⟨by assumption, Option.some.inj h⟩
  · cases h
theorem rL_some {μ : MM} {a ci k : Nat} {x : Int64} (h : rL μ a ci k = some x) : μ.1[a]? = some (0, ci) ∧ gL μ a k = x := by
  unfold rL at h; split at h
  · exact ⟨by assumption, Option.some.inj h⟩
  · cases h
theorem rR_some {μ : MM} {a ci k : Nat} {x : Nat} (h : rR μ a ci k = some x) : μ.1[a]? = some (0, ci) ∧ gR μ a k = some x := by
  unfold rR at h; split at h
  · exact ⟨by assumption, h⟩
  · cases h
theorem rN_some {μ : MM} {a ci k : Nat} {x : Option Nat} (h : rN μ a ci k = some x) : μ.1[a]? = some (0, ci) ∧ gR μ a k = x := by
  unfold rN at h; split at h
  · exact ⟨by assumption, Option.some.inj h⟩
  · cases h
theorem inb_of {j : Int32} {n : Nat} (h : ¬ (j < 0 ∨ n ≤ j.toNatClampNeg)) : vp_in j n := h
theorem aI_some {μ : MM} {a : Nat} {j x : Int32} (h : aI μ a j = some x) : ∃ n, μ.1[a]? = some (1, n) ∧ vp_in j n ∧ gI μ a j.toNatClampNeg = x := by
  unfold aI at h; split at h
  · rename_i n hk
    split at h
    · cases h
    · rename_i hj; exact ⟨n, hk, hj, Option.some.inj h⟩
  · cases h
theorem aB_some {μ : MM} {a : Nat} {j x : Int32} (h : aB μ a j = some x) : ∃ t n, (t = 2 ∨ t = 3) ∧ μ.1[a]? = some (t, n) ∧ vp_in j n ∧ gI μ a j.toNatClampNeg = x := by
  unfold aB at h; split at h
  · rename_i n hk
    split at h
    · cases h
    · rename_i hj; exact ⟨2, n, Or.inl rfl, hk, hj, Option.some.inj h⟩
  · rename_i n hk
    split at h
    · cases h
    · rename_i hj; exact ⟨3, n, Or.inr rfl, hk, hj, Option.some.inj h⟩
  · cases h
theorem aL_some {μ : MM} {a : Nat} {j : Int32} {x : Int64} (h : aL μ a j = some x) : ∃ n, μ.1[a]? = some (4, n) ∧ vp_in j n ∧ gL μ a j.toNatClampNeg = x := by
  unfold aL at h; split at h
  · rename_i n hk
    split at h
    · cases h
    · rename_i hj; exact ⟨n, hk, hj, Option.some.inj h⟩
  · cases h
theorem uI_some {μ μ' : MM} {a : Nat} {j v : Int32} (h : uI μ a j v = some μ') : ∃ n, μ.1[a]? = some (1, n) ∧ vp_in j n ∧ sI μ a j.toNatClampNeg v = μ' := by
  unfold uI at h; split at h
  · rename_i n hk
    split at h
    · cases h
    · rename_i hj; exact ⟨n, hk, hj, Option.some.inj h⟩
  · cases h
theorem uB_some {μ μ' : MM} {a : Nat} {j v : Int32} (h : uB μ a j v = some μ') : (∃ n, μ.1[a]? = some (2, n) ∧ vp_in j n ∧ sI μ a j.toNatClampNeg (vp_nar .byte v) = μ') ∨ (∃ n, μ.1[a]? = some (3, n) ∧ vp_in j n ∧ sI μ a j.toNatClampNeg (vp_nar .boolean v) = μ') := by
  unfold uB at h; split at h
  · rename_i n hk
    split at h
    · cases h
    · rename_i hj; exact Or.inl ⟨n, hk, hj, Option.some.inj h⟩
  · rename_i n hk
    split at h
    · cases h
    · rename_i hj; exact Or.inr ⟨n, hk, hj, Option.some.inj h⟩
  · cases h
theorem uL_some {μ μ' : MM} {a : Nat} {j : Int32} {v : Int64} (h : uL μ a j v = some μ') : ∃ n, μ.1[a]? = some (4, n) ∧ vp_in j n ∧ sL μ a j.toNatClampNeg v = μ' := by
  unfold uL at h; split at h
  · rename_i n hk
    split at h
    · cases h
    · rename_i hj; exact ⟨n, hk, hj, Option.some.inj h⟩
  · cases h
section AWM
variable {CK : CKT} {l : Launch} {Y : YT} {d nE sE pc : Nat} {loc : List (Option Value)} {st : List Value} {μ μ' : MM}
/-- a read of the memory -/
theorem AW.read {pc' : Nat} {st' : List Value} (k : AW CK l Y d nE sE pc' loc st' μ)
    (h : ∀ {p : Program} {e : Env} {R : Room} {s : State} {m : MethodId} {args : Array Value} {below : List Frame} {meth : Method} {c : Code} {H : Heap} {locs : List Loc} {cells slots : Nat} {Q : State → Prop} {ls : Array Slot} {D : va_G} (f : Nat → Nat) (tc : Nat → ClassId), p.tables.exec = Jvm.exec → c.code = Y.2.1 →
      s.vm.findClass Y.1.cls = some m.cls → (∀ w ∈ tb, w.before args s = true) → va_K D CLS (TYS tc) s → va_P D CLS (wz f tc μ) H →
      W p l e R s m args below meth c H locs cells slots Q (F0 m pc' ls (st'.map (cv f))) → W p l e R s m args below meth c H locs cells slots Q (F0 m pc ls (st.map (cv f)))) : AW CK l Y d nE sE pc loc st μ := by
  refine ⟨k.1, k.2.1, fun p e R s m args below meth c B D tc sa n0 s0 Q hC hF H locs ls cells slots hP hS hL hc hs => ?_⟩
  exact h (adr B sa) tc hF.1 hF.2.1 hF.2.2.2.2.1 hF.2.2.2.2.2.1 hF.2.2.2.2.2.2.2.2.1 hP (k.2.2 p e R s m args below meth c B D tc sa n0 s0 Q hC hF H locs ls cells slots hP hS hL hc hs)
theorem AW.getv {ix ci k a n : Nat} {v : Value} (hd : decode Y.2.1 pc = .ok (.getfield ix, 3)) (hn : pc + 3 = n) (hl : FLG Y.1.cls ix ci k) (ha : μ.1[a]? = some (0, ci)) (hv : ∀ f, fv f μ a ci k = cv f v) (K : AW CK l Y d nE sE n loc (v :: st) μ) : AW CK l Y d nE sE pc loc (.ref a :: st) μ := by
  subst hn
  obtain ⟨C, T, N, ty, hcf, hk, hw⟩ := hl
  refine K.read (fun f tc hx hb ho ht hK hP kk => ?_)
  have hkn : k < nfld ci := by rw [hcf.2.1]; exact hk
  exact va_get hx hb ht hcf.2.2.1 ho hK hP a (wz_at ha) hcf.1 k hk (ht _ hw) (fun x q => q) (v := cv f v) (by rw [fsz_at hkn, hv]) hd kk
theorem aw_getI {ix ci k a : Nat} {x : Int32} (n : Nat) (hd : decode Y.2.1 pc = .ok (.getfield ix, 3)) (hn : pc + 3 = n) (hl : FLG Y.1.cls ix ci k) (ht : FTC ci k = 0 ∨ FTC ci k = 3) (hr : rI μ a ci k = some x) (K : AW CK l Y d nE sE n loc (.int x :: st) μ) : AW CK l Y d nE sE pc loc (.ref a :: st) μ := by
  obtain ⟨h1, h2⟩ := rI_some hr
  exact AW.getv hd hn hl h1 (fun f => by rcases ht with q | q <;> simp [fv, q, h2, cv]) K
theorem aw_getL {ix ci k a : Nat} {x : Int64} (n : Nat) (hd : decode Y.2.1 pc = .ok (.getfield ix, 3)) (hn : pc + 3 = n) (hl : FLG Y.1.cls ix ci k) (ht : FTC ci k = 1) (hr : rL μ a ci k = some x) (K : AW CK l Y d nE sE n loc (.long x :: st) μ) : AW CK l Y d nE sE pc loc (.ref a :: st) μ := by
  obtain ⟨h1, h2⟩ := rL_some hr
  exact AW.getv hd hn hl h1 (fun f => by simp [fv, ht, h2, cv]) K
theorem aw_getR {ix ci k a : Nat} {x : Nat} (n : Nat) (hd : decode Y.2.1 pc = .ok (.getfield ix, 3)) (hn : pc + 3 = n) (hl : FLG Y.1.cls ix ci k) (ht : FTC ci k = 2) (hr : rR μ a ci k = some x) (K : AW CK l Y d nE sE n loc (.ref x :: st) μ) : AW CK l Y d nE sE pc loc (.ref a :: st) μ := by
  obtain ⟨h1, h2⟩ := rR_some hr
  exact AW.getv hd hn hl h1 (fun f => by simp [fv, ht, h2, cv, va_rf]) K
theorem aw_getN {ix ci k a : Nat} {x : Option Nat} (n : Nat) (hd : decode Y.2.1 pc = .ok (.getfield ix, 3)) (hn : pc + 3 = n) (hl : FLG Y.1.cls ix ci k) (ht : FTC ci k = 2) (hr : rN μ a ci k = some x) (K : AW CK l Y d nE sE n loc (va_rf x :: st) μ) : AW CK l Y d nE sE pc loc (.ref a :: st) μ := by
  obtain ⟨h1, h2⟩ := rN_some hr
  exact AW.getv hd hn hl h1 (fun f => by rw [cv_rf]; simp [fv, ht, h2]) K
theorem aw_iald {a : Nat} {j x : Int32} (n : Nat) (hd : decode Y.2.1 pc = .ok (.iaload, 1)) (hn : pc + 1 = n) (hr : aI μ a j = some x) (K : AW CK l Y d nE sE n loc (.int x :: st) μ) : AW CK l Y d nE sE pc loc (.int j :: .ref a :: st) μ := by
  subst hn
  obtain ⟨n, h1, h2, h3⟩ := aI_some hr
  subst h3
  exact K.read (fun f tc hx hb ho ht hK hP kk => va_iald hx hb hK hP a 0 (wz_at h1) rfl h2 hd kk)
theorem aw_lald {a : Nat} {j : Int32} {x : Int64} (n : Nat) (hd : decode Y.2.1 pc = .ok (.laload, 1)) (hn : pc + 1 = n) (hr : aL μ a j = some x) (K : AW CK l Y d nE sE n loc (.long x :: st) μ) : AW CK l Y d nE sE pc loc (.int j :: .ref a :: st) μ := by
  subst hn
  obtain ⟨n, h1, h2, h3⟩ := aL_some hr
  subst h3
  exact K.read (fun f tc hx hb ho ht hK hP kk => va_lald hx hb hK hP a 3 (wz_at h1) rfl h2 hd kk)
theorem aw_bald {a : Nat} {j x : Int32} (n : Nat) (hd : decode Y.2.1 pc = .ok (.baload, 1)) (hn : pc + 1 = n) (hr : aB μ a j = some x) (K : AW CK l Y d nE sE n loc (.int x :: st) μ) : AW CK l Y d nE sE pc loc (.int j :: .ref a :: st) μ := by
  subst hn
  obtain ⟨t, n, ht, h1, h2, h3⟩ := aB_some hr
  subst h3
  rcases ht with rfl | rfl
  · exact K.read (fun f tc hx hb ho ht hK hP kk => va_bald hx hb hK hP a 1 (wz_at h1) rfl h2 hd kk)
  · exact K.read (fun f tc hx hb ho ht hK hP kk => va_zald hx hb hK hP a 2 (wz_at h1) rfl h2 hd kk)
theorem aw_alen {a : Nat} {x : Int32} (n : Nat) (hd : decode Y.2.1 pc = .ok (.arraylength, 1)) (hn : pc + 1 = n) (hr : aN μ a = some x) (K : AW CK l Y d nE sE n loc (.int x :: st) μ) : AW CK l Y d nE sE pc loc (.ref a :: st) μ := by
  subst hn
  unfold aN at hr
  split at hr
  · rename_i t n hk1
    split at hr
    · cases hr
    · rename_i h0
      have hx : Int32.ofNat n = x := Option.some.inj hr
      subst hx
      rcases (show t = 1 ∨ t = 2 ∨ t = 3 ∨ t = 4 by omega) with rfl | rfl | rfl | rfl
      · exact K.read (fun f tc hx hb ho ht hK hP kk => va_alen hx hb hK hP a 0 (wz_at hk1) rfl rfl hd kk)
      · exact K.read (fun f tc hx hb ho ht hK hP kk => va_alen hx hb hK hP a 1 (wz_at hk1) rfl rfl hd kk)
      · exact K.read (fun f tc hx hb ho ht hK hP kk => va_alen hx hb hK hP a 2 (wz_at hk1) rfl rfl hd kk)
      · exact K.read (fun f tc hx hb ho ht hK hP kk => va_alen hx hb hK hP a 3 (wz_at hk1) rfl rfl hd kk)
  · cases hr
/-- a write into the memory, which keeps the kinds -/
theorem AW.write {pc' : Nat} {st' : List Value} (hμ : μ'.1 = μ.1) (k : AW CK l Y d nE sE pc' loc st' μ')
    (h : ∀ {p : Program} {e : Env} {R : Room} {s : State} {m : MethodId} {args : Array Value} {below : List Frame} {meth : Method} {c : Code} {H : Heap} {locs : List Loc} {cells slots : Nat} {Q : State → Prop} {ls : Array Slot} {D : va_G} {A : Nat → Prop} (f : Nat → Nat) (tc : Nat → ClassId), p.tables.exec = Jvm.exec → c.code = Y.2.1 →
      s.vm.findClass Y.1.cls = some m.cls → (∀ w ∈ tb, w.before args s = true) → va_K D CLS (TYS tc) s → va_P D CLS (wz f tc μ) H → va_D A (wz f tc μ) → va_S A s.heap H locs → meth.name = Y.1.name → 
      (∀ (H1 : Heap) (locs1 : List Loc), va_P D CLS (wz f tc μ') H1 → va_S A s.heap H1 locs1 → W p l e R s m args below meth c H1 locs1 cells slots Q (F0 m pc' ls (st'.map (cv f)))) → W p l e R s m args below meth c H locs cells slots Q (F0 m pc ls (st.map (cv f)))) : AW CK l Y d nE sE pc loc st μ := by
  have e1 : nc μ' = nc μ := by simp [nc, hμ]
  have e2 : nsl μ' = nsl μ := by simp [nsl, hμ]
  refine ⟨by rw [← e1]; exact k.1, by rw [← e2]; exact k.2.1, fun p e R s m args below meth c B D tc sa n0 s0 Q hC hF H locs ls cells slots hP hS hL hc hs => ?_⟩
  have hlim : nc μ ≤ LIM := by
    have h1 := k.1
    have h2 : nE ≤ LIM := hF.2.2.2.2.2.2.2.2.2.2.2.2.2.2.1
    omega
  exact h (adr B sa) tc hF.1 hF.2.1 hF.2.2.2.2.1 hF.2.2.2.2.2.1 hF.2.2.2.2.2.2.2.2.1 hP (wzD hlim) hS hF.2.2.2.2.2.2.2.1 (fun H1 locs1 hP1 hS1 => k.2.2 p e R s m args below meth c B D tc sa n0 s0 Q hC hF H1 locs1 ls cells slots hP1 hS1 hL (by rw [e1]; exact hc) (by rw [e2]; exact hs))
theorem AW.put {ix ci k a n : Nat} {v : Value} (fin : Bool) (hd : decode Y.2.1 pc = .ok (.putfield ix, 3)) (hn : pc + 3 = n) (hl : FLP Y.1.cls ix ci k fin) (hini : fin = true → Y.1.name = "<init>") (ha : μ.1[a]? = some (0, ci)) (hμ : μ'.1 = μ.1)
    (hset : ∀ f tc, (wz f tc μ).set a (f a, .inr (ci, (fsz f μ a ci).set k (cv f v))) = wz f tc μ') (hty : ∀ t, ftOk (FTC ci k) t = true → ∀ f, narrow t (cv f v) = cv f v ∧ fits t (cv f v) = true) (K : AW CK l Y d nE sE n loc st μ') : AW CK l Y d nE sE pc loc (v :: .ref a :: st) μ := by
  subst hn
  obtain ⟨C, T, N, ty, hcf, hk, hw, hfin, hown⟩ := hl
  have hkn : k < nfld ci := by rw [hcf.2.1]; exact hk
  have hok := hcf.2.2.2.2.2.1 k hk
  refine K.write hμ (fun f tc hx hb ho ht hK hP hD hS hnm kk => ?_)
  obtain ⟨t1, t2⟩ := hty _ hok f
  cases fin with
  | false => exact va_put hx hb ht hcf.2.2.1 ty hcf.2.2.2.1 hcf.2.2.2.2.1 ho hK hP hD hS a (wz_at ha) hcf.1 k hk (ht _ hw) (fun x q => q) hfin (hcf.2.2.2.1 k hk) t1 t2 (by rw [fsz_len]; exact hkn) hd (fun H1 locs1 h1 _ h3 => kk H1 locs1 (by rw [← hset]; exact h1) h3)
  | true => exact va_putF hx hb ht hcf.2.2.1 ty hcf.2.2.2.1 hcf.2.2.2.2.1 ho hK hP hD hS a (wz_at ha) hcf.1 k hk (ht _ hw) (fun x q => q) hfin (hnm.trans (hini rfl)) (hown rfl) (hcf.2.2.2.1 k hk) t1 t2 (by rw [fsz_len]; exact hkn) hd (fun H1 locs1 h1 _ h3 => kk H1 locs1 (by rw [← hset]; exact h1) h3)
theorem ftOk0 {t : FieldType} (h : ftOk 0 t = true) : t = .int := by cases t <;> first | rfl | (simp [ftOk] at h)
theorem ftOk1 {t : FieldType} (h : ftOk 1 t = true) : t = .long := by cases t <;> first | rfl | (simp [ftOk] at h)
theorem ftOk3 {t : FieldType} (h : ftOk 3 t = true) : t = .boolean := by cases t <;> first | rfl | (simp [ftOk] at h)
theorem ftOk2 {t : FieldType} (h : ftOk 2 t = true) (a : Nat) : narrow t (.ref a) = .ref a ∧ fits t (.ref a) = true := by cases t <;> first | exact ⟨rfl, rfl⟩ | (simp [ftOk] at h)
theorem aw_putI {ix ci k a : Nat} {v : Int32} (n : Nat) (fin : Bool) (hd : decode Y.2.1 pc = .ok (.putfield ix, 3)) (hn : pc + 3 = n) (hl : FLP Y.1.cls ix ci k fin) (hini : fin = true → Y.1.name = "<init>") (ht : FTC ci k = 0) (hr : pI μ a ci k v = some μ') (K : AW CK l Y d nE sE n loc st μ') : AW CK l Y d nE sE pc loc (.int v :: .ref a :: st) μ := by
  unfold pI at hr; split at hr
  · rename_i ha
    have e : sI μ a k v = μ' := Option.some.inj hr
    subst e
    exact AW.put (μ' := sI μ a k v) fin hd hn hl hini ha rfl (fun f tc => wz_fI ha (Or.inl ht)) (fun t h f => by rw [ht] at h; rw [ftOk0 h]; exact ⟨rfl, rfl⟩) K
  · cases hr
theorem aw_putZ {ix ci k a : Nat} {v : Int32} (n : Nat) (fin : Bool) (hd : decode Y.2.1 pc = .ok (.putfield ix, 3)) (hn : pc + 3 = n) (hl : FLP Y.1.cls ix ci k fin) (hini : fin = true → Y.1.name = "<init>") (ht : FTC ci k = 3) (hr : pZ μ a ci k v = some μ') (K : AW CK l Y d nE sE n loc st μ') : AW CK l Y d nE sE pc loc (.int v :: .ref a :: st) μ := by
  unfold pZ at hr; split at hr
  · rename_i hh
    obtain ⟨ha, hv⟩ := hh
    have e : sI μ a k v = μ' := Option.some.inj hr
    subst e
    exact AW.put (μ' := sI μ a k v) fin hd hn hl hini ha rfl (fun f tc => wz_fI ha (Or.inr ht)) (fun t h f => by rw [ht] at h; rw [ftOk3 h]; rcases hv with rfl | rfl; exact ⟨(by decide : narrow .boolean (.int 0) = .int 0), (by decide : fits .boolean (.int 0) = true)⟩; exact ⟨(by decide : narrow .boolean (.int 1) = .int 1), (by decide : fits .boolean (.int 1) = true)⟩) K
  · cases hr
theorem aw_putL {ix ci k a : Nat} {v : Int64} (n : Nat) (fin : Bool) (hd : decode Y.2.1 pc = .ok (.putfield ix, 3)) (hn : pc + 3 = n) (hl : FLP Y.1.cls ix ci k fin) (hini : fin = true → Y.1.name = "<init>") (ht : FTC ci k = 1) (hr : pL μ a ci k v = some μ') (K : AW CK l Y d nE sE n loc st μ') : AW CK l Y d nE sE pc loc (.long v :: .ref a :: st) μ := by
  unfold pL at hr; split at hr
  · rename_i ha
    have e : sL μ a k v = μ' := Option.some.inj hr
    subst e
    exact AW.put (μ' := sL μ a k v) fin hd hn hl hini ha rfl (fun f tc => wz_fL ha ht) (fun t h f => by rw [ht] at h; rw [ftOk1 h]; exact ⟨rfl, rfl⟩) K
  · cases hr
theorem aw_putR {ix ci k a x : Nat} (n : Nat) (fin : Bool) (hd : decode Y.2.1 pc = .ok (.putfield ix, 3)) (hn : pc + 3 = n) (hl : FLP Y.1.cls ix ci k fin) (hini : fin = true → Y.1.name = "<init>") (ht : FTC ci k = 2) (hr : pR μ a ci k x = some μ') (K : AW CK l Y d nE sE n loc st μ') : AW CK l Y d nE sE pc loc (.ref x :: .ref a :: st) μ := by
  unfold pR at hr; split at hr
  · rename_i ha
    have e : sR μ a k (some x) = μ' := Option.some.inj hr
    subst e
    exact AW.put (μ' := sR μ a k (some x)) fin hd hn hl hini ha rfl (fun f tc => wz_fR (v := some x) ha ht) (fun t h f => by rw [ht] at h; exact ftOk2 h (f x)) K
  · cases hr
theorem aw_iast {a : Nat} {j v : Int32} (n : Nat) (hd : decode Y.2.1 pc = .ok (.iastore, 1)) (hn : pc + 1 = n) (hr : uI μ a j v = some μ') (K : AW CK l Y d nE sE n loc st μ') : AW CK l Y d nE sE pc loc (.int v :: .int j :: .ref a :: st) μ := by
  subst hn
  obtain ⟨n, h1, h2, h3⟩ := uI_some hr
  subst h3
  exact AW.write (μ' := sI μ a j.toNatClampNeg v) rfl K (fun f tc hx hb ho ht hK hP hD hS hnm kk => va_iast hx hb hK hP hD hS a 0 (wz_at h1) rfl h2 hd (fun H1 locs1 q1 _ q3 => kk H1 locs1 (Eq.subst (motive := fun w => va_P _ CLS w H1) (wz_sF (t := 0) (g := upd (gI μ a) j.toNatClampNeg v) h1 (by decide)) q1) q3))
theorem aw_bast {a : Nat} {j v : Int32} (n : Nat) (hd : decode Y.2.1 pc = .ok (.bastore, 1)) (hn : pc + 1 = n) (hr : uB μ a j v = some μ') (K : AW CK l Y d nE sE n loc st μ') : AW CK l Y d nE sE pc loc (.int v :: .int j :: .ref a :: st) μ := by
  subst hn
  rcases uB_some hr with ⟨n, h1, h2, h3⟩ | ⟨n, h1, h2, h3⟩
  · subst h3
    exact AW.write (μ' := sI μ a j.toNatClampNeg (vp_nar .byte v)) rfl K (fun f tc hx hb ho ht hK hP hD hS hnm kk => va_bast hx hb hK hP hD hS a 1 (wz_at h1) rfl h2 hd (fun H1 locs1 q1 _ q3 => kk H1 locs1 (Eq.subst (motive := fun w => va_P _ CLS w H1) (wz_sF (t := 1) (g := upd (gI μ a) j.toNatClampNeg (vp_nar .byte v)) h1 (by decide)) q1) q3))
  · subst h3
    exact AW.write (μ' := sI μ a j.toNatClampNeg (vp_nar .boolean v)) rfl K (fun f tc hx hb ho ht hK hP hD hS hnm kk => va_zast hx hb hK hP hD hS a 2 (wz_at h1) rfl h2 hd (fun H1 locs1 q1 _ q3 => kk H1 locs1 (Eq.subst (motive := fun w => va_P _ CLS w H1) (wz_sF (t := 2) (g := upd (gI μ a) j.toNatClampNeg (vp_nar .boolean v)) h1 (by decide)) q1) q3))
theorem aw_last {a : Nat} {j : Int32} {v : Int64} (n : Nat) (hd : decode Y.2.1 pc = .ok (.lastore, 1)) (hn : pc + 1 = n) (hr : uL μ a j v = some μ') (K : AW CK l Y d nE sE n loc st μ') : AW CK l Y d nE sE pc loc (.long v :: .int j :: .ref a :: st) μ := by
  subst hn
  obtain ⟨n, h1, h2, h3⟩ := uL_some hr
  subst h3
  exact AW.write (μ' := sL μ a j.toNatClampNeg v) rfl K (fun f tc hx hb ho ht hK hP hD hS hnm kk => va_last hx hb hK hP hD hS a 3 (wz_at h1) rfl h2 hd (fun H1 locs1 q1 _ q3 => kk H1 locs1 (Eq.subst (motive := fun w => va_P _ CLS w H1) (wz_sG (g := vp_updL (gL μ a) j.toNatClampNeg v) h1) q1) q3))
end AWM
end
section
/-! LAYER 0: what is made, calls, returns, contracts -/
section AWN
variable {CK : CKT} {l : Launch} {Y : YT} {d nE sE pc : Nat} {loc : List (Option Value)} {st : List Value} {μ μ' : MM}
theorem va_RA_one {s : State} {c1 c2 : ClassId} {ty : FieldType} (h1 : va_RA s c1 ty) (h2 : va_RA s c2 ty) (ht : ty = .int ∨ ty = .byte ∨ ty = .boolean ∨ ty = .long) : c1 = c2 := by
  rcases ht with rfl | rfl | rfl | rfl <;> exact Option.some.inj (Eq.trans (Eq.symm h1) h2)
/-- the last cell of a world that grew lies where it should -/
theorem wz_last {B n0 cells : Nat} {D : va_G} {sa : Nat → Nat} {tc : Nat → ClassId} {μ : MM} {q : Nat} {e : va_E} {H1 : Heap} (hlim : nc μ + 1 ≤ LIM) (hc : n0 + cells = nc μ) (hP : va_P D CLS (wz (adr B sa) tc μ ++ [(q, e)]) H1) (hD : va_D (fun q => B ≤ q) (wz (adr B sa) tc μ ++ [(q, e)])) (hz : H1.size ≤ B + n0 + (cells + 1)) : q = adr B sa (nc μ) := by
  have hl : (wz (adr B sa) tc μ ++ [(q, e)])[nc μ]? = some (q, e) := by
    rw [List.getElem?_append_right (by rw [wz_len]; omega), wz_len]; simp
  have h1 : q < H1.size := (hP _ _ hl).lt
  have h2 : B ≤ q := hD.2 _ _ hl
  rw [adr_lt (by omega)]
  rcases Nat.lt_or_ge (q - B) (nc μ) with h | h
  · exfalso
    obtain ⟨x, hx⟩ : ∃ x, μ.1[q - B]? = some x := ⟨_, List.getElem?_eq_getElem h⟩
    have h3 : (wz (adr B sa) tc μ ++ [(q, e)])[q - B]? = some (adr B sa (q - B), cz (adr B sa) tc μ (q - B) x) := by
      rw [List.getElem?_append_left (by rw [wz_len]; exact h)]
      exact wz_at hx
    have h4 := hD.1 _ _ _ _ h3 hl (by show adr B sa (q - B) = q; rw [adr_lt (by omega)]; omega)
    omega
  · omega
theorem default_fv {f : Nat → Nat} {ci k : Nat} {t : FieldType} (h : ftOk (FTC ci k) t = true) : defaultValue t = fv f (push μ (0, ci)) (nc μ) ci k := by
  have e0 : gI (push μ (0, ci)) (nc μ) k = 0 := by simp [gI, push]
  have e1 : gL (push μ (0, ci)) (nc μ) k = 0 := by simp [gL, push]
  have e2 : gR (push μ (0, ci)) (nc μ) k = none := by simp [gR, push]
  unfold fv
  generalize FTC ci k = c at h
  cases t <;> unfold ftOk at h <;> split at h <;> first | (cases h; done) | (simp_all [defaultValue, va_rf]; done) | (rename_i h1 h2; cases h2; done) | skip
  all_goals (try cases h) 
theorem aw_new {ix ci : Nat} (n : Nat) (hd : decode Y.2.1 pc = .ok (.new ix, 3)) (hn : pc + 3 = n) {C : String} {T : u_T} {N : Nat} {ty : Nat → FieldType} (hcf : CFX ci C T N ty) (hw : Cond.classLink Y.1.cls ix C ∈ tb) (hr : nO μ ci = some μ') (K : AW CK l Y d nE sE n loc (.ref (nc μ) :: st) μ') : AW CK l Y d nE sE pc loc st μ := by
  subst hn
  have e : push μ (0, ci) = μ' := Option.some.inj hr
  subst e
  have k1 := K.1
  have k2 := K.2.1
  rw [nc_push] at k1
  rw [nsl_push] at k2
  have ek : ksl (0, ci) = N := hcf.2.1
  rw [ek] at k2
  refine ⟨by omega, by omega, fun p e R s m args below meth c B D tc sa n0 s0 Q hC hF H locs ls cells slots hP hS hL hc hs => ?_⟩
  have kk := K.2.2 p e R s m args below meth c B D tc sa n0 s0 Q hC hF
  obtain ⟨hx, hb, hr, hml, ho, hts, hlk, hnm, hK, hsz, hE1, hE2, hd1, hd2, hlim, hstr⟩ := hF
  refine va_new (ci := ci) (fs := fsz (adr B sa) (push μ (0, ci)) (nc μ) ci) hx hb hts hcf.2.2.1 ty hcf.2.2.2.1 ho (hts _ hw) (hts _ hcf.2.2.2.2.2.2.1) (hts _ hcf.2.2.2.2.2.2.2) hK hP (wzD (by omega)) hS (fun q h => by omega) hcf.1 ?_ (by omega) (by omega) hd (fun q H1 hP1 hD1 hS1 => W.size (fun hz => ?_))
  · intro j hj
    have hj2 : j < nfld ci := by rw [hcf.2.1]; exact hj
    rw [show vp_V (fsz (adr B sa) (push μ (0, ci)) (nc μ) ci) j = fv (adr B sa) (push μ (0, ci)) (nc μ) ci j by unfold vp_V; rw [List.getD, fsz_at hj2]; rfl]
    exact default_fv (hcf.2.2.2.2.2.1 j hj)
  · have hq := wz_last (n0 := n0) (cells := cells) (by omega) hc hP1 hD1 (by rw [hsz] at hz; exact hz)
    subst hq
    have hP1 : va_P D CLS (wz (adr B sa) tc (push μ (0, ci))) H1 := Eq.subst (motive := fun w => va_P D CLS w H1) (wz_push (q := (0, ci)) (e := .inr (ci, fsz (adr B sa) (push μ (0, ci)) (nc μ) ci)) rfl) hP1
    exact kk H1 locs ls (cells + 1) (slots + N) hP1 hS1 hL (by rw [nc_push]; omega) (by rw [nsl_push, ek]; omega)
theorem aw_newa {t : Nat} {at' : ArrayType} {ty : FieldType} {z : Int32} (n : Nat) (hd : decode Y.2.1 pc = .ok (.newarray at', 2)) (hn : pc + 2 = n) (hty : newarray.typeOf at' = ty) (htt : (t = 1 ∧ ty = .int) ∨ (t = 2 ∧ ty = .byte) ∨ (t = 3 ∧ ty = .boolean) ∨ (t = 4 ∧ ty = .long)) (hw : Cond.arrayClass ty ∈ tb) (hr : nA μ t z = some μ') (K : AW CK l Y d nE sE n loc (.ref (nc μ) :: st) μ') : AW CK l Y d nE sE pc loc (.int z :: st) μ := by
  subst hn
  unfold nA at hr
  split at hr
  · cases hr
  · rename_i hz0
    have e : push μ (t, z.toNatClampNeg) = μ' := Option.some.inj hr
    subst e
    have k1 := K.1
    have k2 := K.2.1
    rw [nc_push] at k1
    rw [nsl_push] at k2
    have ek : ksl (t, z.toNatClampNeg) = z.toNatClampNeg := by rcases htt with ⟨rfl, -⟩ | ⟨rfl, -⟩ | ⟨rfl, -⟩ | ⟨rfl, -⟩ <;> rfl
    rw [ek] at k2
    refine ⟨by omega, by omega, fun p e R s m args below meth c B D tc sa n0 s0 Q hC hF H locs ls cells slots hP hS hL hc hs => ?_⟩
    have kk := K.2.2 p e R s m args below meth c B D tc sa n0 s0 Q hC hF
    obtain ⟨hx, hb, hr, hml, ho, hts, hlk, hnm, hK, hsz, hE1, hE2, hd1, hd2, hlim, hstr⟩ := hF
    have e0 : gI (push μ (t, z.toNatClampNeg)) (nc μ) = fun _ => 0 := by funext k; simp [gI, push]
    have e1 : gL (push μ (t, z.toNatClampNeg)) (nc μ) = fun _ => 0 := by funext k; simp [gL, push]
    have fin : ∀ (cA : ClassId) (a0 : vp_A), cz (adr B sa) tc (push μ (t, z.toNatClampNeg)) (nc μ) (t, z.toNatClampNeg) = .inl (cA, a0) → (∀ cA : ClassId, vp_cell cA a0 = arrV cA z.toNatClampNeg (fun _ => defaultValue ty)) → (∀ c1, va_RA s c1 ty → c1 = cA) → componentBytes ty ≤ 8 →
        W p l e R s m args below meth c H locs cells slots Q (F0 m pc ls ((.int z :: st).map (cv (adr B sa)))) := by
      intro cA a0 h1 h2 h3 h4
      refine va_newa hx hb (hty ▸ hts _ hw) hty hK hP (wzD (by omega)) hS (fun q h => by omega) h2 (fun h => hz0 (Or.inl h)) rfl ?_ (by omega) (by omega) hd (fun q c1 H1 hK1 hP1 hD1 hS1 => W.size (fun hz => ?_))
      · have : z.toNatClampNeg * componentBytes ty ≤ 1000000 * 8 := Nat.mul_le_mul (by omega) h4
        omega
      · have hc1 : c1 = cA := h3 _ ((hK1.2 4 (c1, ty) rfl).2)
        subst hc1
        have hq := wz_last (n0 := n0) (cells := cells) (by omega) hc hP1 hD1 (by rw [hsz] at hz; exact hz)
        subst hq
        have hP1 : va_P D CLS (wz (adr B sa) tc (push μ (t, z.toNatClampNeg))) H1 := Eq.subst (motive := fun w => va_P D CLS w H1) (wz_push (q := (t, z.toNatClampNeg)) h1) hP1
        exact kk H1 locs ls (cells + 1) (slots + z.toNatClampNeg) hP1 hS1 hL (by rw [nc_push]; omega) (by rw [nsl_push, ek]; omega)
    have hRA : ∀ (i : Nat) (x : ClassId × FieldType), (TYS tc)[i]? = some x → va_RA s x.1 x.2 := fun i x h => (hK.2 i x h).2
    rcases htt with ⟨rfl, rfl⟩ | ⟨rfl, rfl⟩ | ⟨rfl, rfl⟩ | ⟨rfl, rfl⟩
    · exact fin (tc 0) (z.toNatClampNeg, .inl (fun _ => 0)) (by simp [cz, e0]) (fun _ => rfl) (fun c1 h => va_RA_one h (hRA 0 _ rfl) (by simp)) (by decide)
    · exact fin (tc 1) (z.toNatClampNeg, .inl (fun _ => 0)) (by simp [cz, e0]) (fun _ => rfl) (fun c1 h => va_RA_one h (hRA 1 _ rfl) (by simp)) (by decide)
    · exact fin (tc 2) (z.toNatClampNeg, .inl (fun _ => 0)) (by simp [cz, e0]) (fun _ => rfl) (fun c1 h => va_RA_one h (hRA 2 _ rfl) (by simp)) (by decide)
    · exact fin (tc 3) (z.toNatClampNeg, .inr (.inl (fun _ => 0))) (by simp [cz, e1]) (fun _ => rfl) (fun c1 h => va_RA_one h (hRA 3 _ rfl) (by simp)) (by decide)
/-- Object's constructor -/
theorem aw_objInit {ix a : Nat} (n : Nat) (hd : decode Y.2.1 pc = .ok (.invokespecial ix, 3)) (hn : pc + 3 = n) (hw : Cond.methodLink Y.1.cls ix Lib.objectInit ∈ tb ∧ Cond.instanceMethod Lib.objectInit ∈ tb ∧ Cond.code Lib.objectInit ⟨#[0xb1]⟩ 1 none ∈ tb) (hc8 : (st.map fun v => v.category).sum ≤ 8) (hd1 : 1 ≤ d) (K : AW CK l Y d nE sE n loc st μ) : AW CK l Y d nE sE pc loc (.ref a :: st) μ := by
  subst hn
  refine ⟨K.1, K.2.1, fun p e R s m args below meth c B D tc sa n0 s0 Q hC hF H locs ls cells slots hP hS hL hc hs => ?_⟩
  have kk := K.2.2 p e R s m args below meth c B D tc sa n0 s0 Q hC hF H locs ls cells slots hP hS hL hc hs
  obtain ⟨hx, hb, hr, hml, ho, hts, hlk, hnm, hK, hsz, hE1, hE2, hf1, hf2, hlim, hstr⟩ := hF
  have hcat : ((st.map (cv (adr B sa))).map fun v => v.category).sum = (st.map fun v => v.category).sum := by
    rw [List.map_map]; congr 1; apply List.map_congr_left; intro v _; exact cv_cat _ v
  exact W.objInit hx hb ho (hts _ hw.1) (hts _ hw.2.1) (hts _ hw.2.2) (g := F0 m pc ls ((Value.ref a :: st).map (cv (adr B sa)))) rfl (hL.1.trans hml.symm) (a := adr B sa a) (rest := st.map (cv (adr B sa))) rfl hd (by omega) (by show 2 * 0 + _ + 12 ≤ R.locals; rw [hcat]; omega) kk
/-- System.arraycopy of ints -/
theorem aw_copy {ix a b : Nat} {sp dp z : Int32} (n : Nat) (hd : decode Y.2.1 pc = .ok (.invokestatic ix, 3)) (hn : pc + 3 = n) (hw : Cond.methodLink Y.1.cls ix arraycopyName ∈ tb ∧ Cond.native arraycopyName ∈ tb ∧ Cond.static arraycopyName ∈ tb ∧ Cond.initialized "java/lang/System" ∈ tb) (hc8 : (st.map fun v => v.category).sum ≤ 8) (hd1 : 1 ≤ d) (hr : cpI μ a sp b dp z = some μ') (K : AW CK l Y d nE sE n loc st μ') : AW CK l Y d nE sE pc loc (.int z :: .int dp :: .ref b :: .int sp :: .ref a :: st) μ := by
  subst hn
  unfold cpI at hr
  split at hr
  · rename_i n0 n1 ha hb1
    split at hr
    · cases hr
    · rename_i hcn
      have e : sF μ b (va_cpy (gI μ a) (gI μ b) sp.toNatClampNeg dp.toNatClampNeg z.toNatClampNeg) = μ' := Option.some.inj hr
      subst e
      have k1 := K.1
      have k2 := K.2.1
      refine ⟨k1, k2, fun p e R s m args below meth c B D tc sa n0 s0 Q hC hF H locs ls cells slots hP hS hL hc hs => ?_⟩
      have kk := K.2.2 p e R s m args below meth c B D tc sa n0 s0 Q hC hF
      obtain ⟨hx, hb, hr, hml, ho, hts, hlk, hnm, hK, hsz, hE1, hE2, hf1, hf2, hlim, hstr⟩ := hF
      have hcat : ((st.map (cv (adr B sa))).map fun v => v.category).sum = (st.map fun v => v.category).sum := by
        rw [List.map_map]; congr 1; apply List.map_congr_left; intro v _; exact cv_cat _ v
      have hk1 : nc μ ≤ nE := k1
      refine va_copyi hx hb (hml.trans hL.1.symm) ho (hts _ hw.1) (hts _ hw.2.1) (hts _ hw.2.2.1) (hts _ hw.2.2.2) hK hP (wzD (by omega)) hS a b 0 0 (wz_at ha) (wz_at hb1) rfl rfl rfl (fun h => hcn (Or.inl h)) (fun h => hcn (Or.inr (Or.inl h))) (fun h => hcn (Or.inr (Or.inr (Or.inl h)))) (by omega) (by omega) (fun i hi => rfl) (by omega) ?_ hd (fun H1 locs1 q1 _ q3 => ?_)
      · rw [hcat]
        have : nativeFrameWords "java/lang/System" "arraycopy" 5 + 11 ≤ 100 := by decide
        omega
      · exact kk H1 locs1 ls cells slots (Eq.subst (motive := fun w => va_P D CLS w H1) (wz_sF (t := 0) (g := va_cpy (gI μ a) (gI μ b) sp.toNatClampNeg dp.toNatClampNeg z.toNatClampNeg) hb1 (by decide)) q1) q3 hL hc hs
  · cases hr
end AWN
/-! contracts -/
def PcM (B : Nat) (D : va_G) (tc : Nat → ClassId) (sa : Nat → Nat) (μ : MM) (avs : List Value) : Array Value → State → Prop := fun v U => v = (avs.map (cv (adr B sa))).toArray ∧ U.heap.size = B + nc μ ∧ va_P D CLS (wz (adr B sa) tc μ) U.heap ∧ va_K D CLS (TYS tc) U ∧ STR B sa U
def QcM (B : Nat) (D : va_G) (tc : Nat → ClassId) (sa : Nat → Nat) (r : Option Value) (μ' : MM) : Array Value → State → Outcome → State → Prop := fun _ st o t => o = .returned (r.map (cv (adr B sa))) ∧ va_P D CLS (wz (adr B sa) tc μ') t.heap ∧ va_F (fun q => B ≤ q) st t
def rmM (d mc ms : Nat) : Room := { frames := d, cells := mc, slots := ms, locals := 130 * d }
def wsY (Y : YT) : List Cond := Cond.code Y.1 Y.2.1 Y.2.2.1 Y.2.2.2 :: tb
/-- the contract: at these arguments and this memory the method returns r and leaves μ'; d bounds the calls below it -/
def AMet (l : Launch) (d : Nat) (Y : YT) (avs : List Value) (μ : MM) (r : Option Value) (μ' : MM) : Prop :=
  nc μ ≤ nc μ' ∧ nsl μ ≤ nsl μ' ∧ (nc μ' ≤ LIM → ∀ (B : Nat) (D : va_G) (tc : Nat → ClassId) (sa : Nat → Nat), Met l Y.1 (wsY Y) (rmM d (nc μ' - nc μ) (nsl μ' - nsl μ)) (PcM B D tc sa μ avs) (QcM B D tc sa r μ') (nc μ' - nc μ) (nsl μ' - nsl μ) (fun q => B ≤ q))
def CKm (μ0 : MM) (r : Option Value) (μ' : MM) : CKT := fun p e R s m args below meth c B D tc sa n0 s0 Q => n0 = nc μ0 ∧ s0 = nsl μ0 ∧ Q = MQ below (QcM B D tc sa r μ') args s (nc μ' - nc μ0) (nsl μ' - nsl μ0) (fun q => B ≤ q)
abbrev AWm (l : Launch) (Y : YT) (d : Nat) (μ0 : MM) (r : Option Value) (μ' : MM) (pc : Nat) (loc : List (Option Value)) (st : List Value) (μ : MM) : Prop := AW (CKm μ0 r μ') l Y d (nc μ') (nsl μ') pc loc st μ
theorem LH.more {f : Nat → Nat} {loc : List (Option Value)} {ls : Array Slot} {nL k : Nat} (h : LH f loc ls nL) : LH f (loc ++ List.replicate k none) ls nL := by
  refine ⟨h.1, h.2.1, fun q hq => h.2.2 q ?_⟩
  obtain ⟨j, w⟩ := q
  obtain ⟨u, hu, rfl⟩ := lz_mem.mp hq
  refine lz_mem.mpr ⟨u, ?_, rfl⟩
  by_cases hj : j < loc.length
  · rwa [List.getElem?_append_left hj] at hu
  · rw [List.getElem?_append_right (by omega), List.getElem?_replicate] at hu
    split at hu <;> cases hu
theorem AMet.of {l : Launch} {d : Nat} {Y : YT} {avs : List Value} {μ μ' : MM} {r : Option Value} {loc : List (Option Value)} (hpl : plainName Y.1.cls = true) (hlen : (entL avs).length ≤ Y.2.2.1) (hloc : entL avs ++ List.replicate (Y.2.2.1 - (entL avs).length) none = loc) (K : AWm l Y d μ r μ' 0 loc [] μ) : AMet l d Y avs μ r μ' := by
  subst hloc
  refine ⟨K.1, K.2.1, fun hlim B D tc sa => ?_⟩
  refine Met.ofW (cc := Y.2.1) (maxL := Y.2.2.1) (ret := Y.2.2.2) hpl rfl ?_
  intro p e s m args below meth c s₁ Bd hml hv
  obtain ⟨rfl, hsz, hP, hK, hstr⟩ := hv
  have hts := atoms_spec (ws := wsY Y) Bd.pre
  have hm := K.1
  have hm2 := K.2.1
  have hF : FX Y d (nc μ') (nsl μ') p (headSpec (wsY Y) (rmM d (nc μ' - nc μ) (nsl μ' - nsl μ))).room s m (avs.map (cv (adr B sa))).toArray meth c B D tc sa (nc μ) (nsl μ) :=
    ⟨Bd.exec, Bd.bytes, Bd.returns, hml, findClass_of_methodNamed Bd.named, fun w hw => hts w (List.mem_cons_of_mem _ hw), Bd.notSynchronized, (name_of_methodNamed Bd.named Bd.method).1, hK, hsz, by show nc μ' ≤ nc μ + (nc μ' - nc μ); omega, by show nsl μ' ≤ nsl μ + (nsl μ' - nsl μ); omega, Nat.le_refl d, Nat.le_refl (130 * d), hlim, hstr⟩
  rw [lg_entry_eq]
  exact K.2.2 p e _ s m _ below meth c B D tc sa (nc μ) (nsl μ) _ ⟨rfl, rfl, rfl⟩ hF s.heap [] _ 0 0 hP va_S.rf (LH.entry avs hlen).more rfl rfl
section AWC
variable {l : Launch} {Y : YT} {d pc : Nat} {loc : List (Option Value)} {μ0 μ : MM}
theorem AWm.ret {v : Option Value} {st : List Value}
    (h : ∀ {p : Program} {e : Env} {R : Room} {s : State} {m : MethodId} {args : Array Value} {below : List Frame} {meth : Method} {c : Code} {H : Heap} {locs : List Loc} {cells slots : Nat} {ls : Array Slot} {Qc : Array Value → State → Outcome → State → Prop} {free : Addr → Prop} (f : Nat → Nat), p.tables.exec = Jvm.exec → c.code = Y.2.1 → meth.sig.returnType = Y.2.2.2 → meth.locks = false →
      (∀ t : State, t.heap = H → s.WarmedH t.vm → Qc args s (.returned (v.map (cv f))) t) → (∀ q ∈ locs, free q.base) → W p l e R s m args below meth c H locs cells slots (MQ below Qc args s cells slots free) (F0 m pc ls (st.map (cv f)))) : AWm l Y d μ0 v μ pc loc st μ := by
  refine ⟨Nat.le_refl _, Nat.le_refl _, fun p e R s m args below meth c B D tc sa n0 s0 Q hC hF H locs ls cells slots hP hS hL hc hs => ?_⟩
  obtain ⟨rfl, rfl, rfl⟩ := hC
  obtain ⟨hx, hb, hr, hml, ho, hts, hlk, hnm, hK, hsz, hE1, hE2, hf1, hf2, hlim, hstr⟩ := hF
  have e1 : nc μ - nc μ0 = cells := by omega
  have e2 : nsl μ - nsl μ0 = slots := by omega
  rw [e1, e2]
  exact h (adr B sa) hx hb hr hlk (fun t ht hW => ⟨rfl, by rw [ht]; exact hP, hS.F ht⟩) (fun q hq => hS.2.2 q hq)
theorem aw_ireturn {x : Int32} {ty : FieldType} (hd : decode Y.2.1 pc = .ok (.ireturn, 1)) (hr : Y.2.2.2 = some ty) (hn : narrow ty (.int x) = .int x) : AWm l Y d μ0 (some (.int x)) μ pc loc [.int x] μ :=
  AWm.ret (fun f hx hb hrt hlk hq hf => W.zret hx hb (hrt.trans hr) hn hq hf hd hlk)
theorem aw_lreturn {x : Int64} (hd : decode Y.2.1 pc = .ok (.lreturn, 1)) (hr : Y.2.2.2 = some .long) : AWm l Y d μ0 (some (.long x)) μ pc loc [.long x] μ :=
  AWm.ret (fun f hx hb hrt hlk hq hf => W.lret hx hb (hrt.trans hr) hq hf hd hlk)
theorem aw_areturn {x : Option Nat} {C : String} (hd : decode Y.2.1 pc = .ok (.areturn, 1)) (hr : Y.2.2.2 = some (.object C)) : AWm l Y d μ0 (some (va_rf x)) μ pc loc [va_rf x] μ :=
  AWm.ret (fun f hx hb hrt hlk hq hf => W.aret (v := cv f (va_rf x)) hx hb (hrt.trans hr) (Or.inl ⟨_, rfl⟩) (by cases x <;> first | exact Or.inl rfl | exact Or.inr ⟨_, rfl⟩) hq hf hd hlk)
theorem aw_return (hd : decode Y.2.1 pc = .ok (.return_, 1)) (hr : Y.2.2.2 = none) : AWm l Y d μ0 none μ pc loc [] μ :=
  AWm.ret (fun f hx hb hrt hlk hq hf => W.vret hx hb (hrt.trans hr) hq hf hd hlk)
end AWC
/-! what the printed functions are written with -/
theorem bnd {α β : Type} {o : Option α} {f : α → Option β} {r : β} (h : o.bind f = some r) : ∃ a, o = some a ∧ f a = some r := by
  cases o with
  | none => cases h
  | some a => exact ⟨a, rfl, h⟩
def kO (μ : MM) (a ci : Nat) : Option Unit := if μ.1[a]? = some (0, ci) then some () else none
theorem kO_some {μ : MM} {a ci : Nat} {u : Unit} (h : kO μ a ci = some u) : μ.1[a]? = some (0, ci) := by
  unfold kO at h; split at h
  · assumption
  · cases h
def rz (x : Int32) : Option Int32 := if x = 0 ∨ x = 1 then some x else none
theorem rz_some {x y : Int32} (h : rz x = some y) : y = x ∧ narrow .boolean (.int x) = .int x := by
  unfold rz at h; split at h
  · rename_i hx
    refine ⟨(Option.some.inj h).symm, ?_⟩
    rcases hx with rfl | rfl <;> decide
  · cases h
theorem nar0 : narrow .boolean (.int 0) = .int 0 := by decide
theorem nar1 : narrow .boolean (.int 1) = .int 1 := by decide
theorem elim_n {α β : Type} {o : Option α} {A : Option β} {f : α → Option β} {r : β} (c : o = none) (h : o.elim A f = some r) : A = some r := by subst c; exact h
theorem elim_s {α β : Type} {o : Option α} {A : Option β} {f : α → Option β} {r : β} {a : α} (c : o = some a) (h : o.elim A f = some r) : f a = some r := by subst c; exact h
/-- how often a loop may go round: far above any need -/
def FU : Nat := 1000000000
def gd (x : Int32) : Option Unit := if x = 0 then none else some ()
theorem gd_some {x : Int32} {u : Unit} (h : gd x = some u) : ¬ x = 0 := by
  unfold gd at h; split at h
  · cases h
  · assumption
def gdl (x : Int64) : Option Unit := if x = 0 then none else some ()
theorem gdl_some {x : Int64} {u : Unit} (h : gdl x = some u) : ¬ x = 0 := by
  unfold gdl at h; split at h
  · cases h
  · assumption
theorem kS_some {a : Nat} {u : Unit} (h : (if a = LIM ∨ a = LIM + 1 then some () else none) = some u) : a = LIM ∨ a = LIM + 1 := by
  split at h
  · assumption
  · cases h
end
section
/-! LAYER 0: calls -/
theorem va_fin {p : Program} {l : Launch} {e : Env} {R : Room} {s : State} {m : MethodId} {args : Array Value} {below : List Frame} {meth : Method} {c : Code} {H : Heap} {locs : List Loc} {cells slots mc ms pc B : Nat} {Q : State → Prop} {ls : Array Slot} {st0 rest : List Value} {D : va_G} {tc : Nat → ClassId} {sa : Nat → Nat} {r : Option Value} {μ1 : MM} {a : Array Value}
    (hr : va_Run p l e R s m args below meth c H locs cells slots mc ms (F0 m pc ls st0) rest (QcM B D tc sa r μ1 a) (fun q => B ≤ q)) (hS : va_S (fun q => B ≤ q) s.heap H locs)
    (kk : ∀ (H1 : Heap) (locs1 : List Loc), va_P D CLS (wz (adr B sa) tc μ1) H1 → va_S (fun q => B ≤ q) s.heap H1 locs1 → W p l e R s m args below meth c H1 locs1 (cells + mc) (slots + ms) Q (F0 m (pc + 3) ls ((r.map (cv (adr B sa))).toList ++ rest))) : W p l e R s m args below meth c H locs cells slots Q (F0 m pc ls st0) := by
  intro T hT X
  obtain ⟨v, st₀, t, T', L, h0, X', hL, e1, e2, ⟨hv, hP, hz, hk⟩, st⟩ := hr T hT X
  have hv : v = r.map (cv (adr B sa)) := by cases hv; rfl
  subst hv
  rw [h0] at hz hk
  obtain ⟨t2, a1, b1⟩ := kk T'.heap (locs ++ L) (by rw [e1]; exact hP)
    ⟨Nat.le_trans hS.1 (by rw [e1]; exact hz), fun q h1 h2 => by rw [e1, hk q (Nat.lt_of_lt_of_le h1 hS.1) h2]; exact hS.2.1 q h1 h2, fun q hq => by
      rcases List.mem_append.mp hq with h | h
      · exact hS.2.2 q h
      · exact hL q h⟩ T' rfl X'
  exact ⟨t2, st t2 a1, b1⟩
theorem PcM.blind {B : Nat} {D : va_G} {tc : Nat → ClassId} {sa : Nat → Nat} {μ : MM} {avs : List Value} : FrameBlind (PcM B D tc sa μ avs) := by
  intro a U g mk h
  obtain ⟨h1, h2, h3, h4, h5⟩ := h
  exact ⟨h1, h2, h3, va_K.moved (u := U) (U := U.calling g mk a) (Vm.Alike.refl U.vm) h4, h5.blind⟩
theorem wz_size {B : Nat} {D : va_G} {tc : Nat → ClassId} {sa : Nat → Nat} {μ : MM} {H : Heap} (h : va_P D CLS (wz (adr B sa) tc μ) H) (hB : B ≤ H.size) (hl : nc μ ≤ LIM) : B + nc μ ≤ H.size := by
  rcases Nat.eq_zero_or_pos (nc μ) with h0 | h0
  · omega
  · obtain ⟨x, hx⟩ : ∃ x, μ.1[nc μ - 1]? = some x := ⟨_, List.getElem?_eq_getElem (by unfold nc at *; omega)⟩
    have h1 := (h _ _ (wz_at (f := adr B sa) (tc := tc) hx)).lt
    have h2 : adr B sa (nc μ - 1) < H.size := h1
    rw [adr_lt (by omega)] at h2
    omega
def LKV (own : String) (ix : Nat) (Y : YT) (np : Nat) : Prop := Cond.methodLink own ix Y.1 ∈ tb ∧ Cond.instanceMethod Y.1 ∈ tb ∧ Cond.selects Y.1.cls Y.1 Y.1 ∈ tb ∧ Cond.initialized Y.1.cls ∈ tb ∧ Cond.code Y.1 Y.2.1 Y.2.2.1 Y.2.2.2 ∈ tb ∧ (Y.1.cls ≠ "java/lang/invoke/MethodHandle" ∧ Y.1.cls ≠ "java/lang/invoke/VarHandle" ∧ (parseMethodDescriptor Y.1.desc).map (fun d => d.parameters.length) = some np) ∧ Y.2.2.1 ≤ 111
def LKS (own : String) (ix : Nat) (Y : YT) (np : Nat) : Prop := Cond.methodLink own ix Y.1 ∈ tb ∧ Cond.static Y.1 ∈ tb ∧ Cond.initialized Y.1.cls ∈ tb ∧ Cond.code Y.1 Y.2.1 Y.2.2.1 Y.2.2.2 ∈ tb ∧ (Y.1.cls ≠ "java/lang/invoke/MethodHandle" ∧ Y.1.cls ≠ "java/lang/invoke/VarHandle" ∧ (parseMethodDescriptor Y.1.desc).map (fun d => d.parameters.length) = some np) ∧ Y.2.2.1 ≤ 111
def LKI (own : String) (ix : Nat) (Y : YT) (np : Nat) : Prop := (Cond.methodLink own ix Y.1 ∈ tb ∨ ∃ host, ∀ B sa U, STR B sa U → va_Nw (.methodLinkNest own ix Y.1 host) U) ∧ Cond.instanceMethod Y.1 ∈ tb ∧ Cond.initialized Y.1.cls ∈ tb ∧ Cond.code Y.1 Y.2.1 Y.2.2.1 Y.2.2.2 ∈ tb ∧ (Y.1.cls ≠ "java/lang/invoke/MethodHandle" ∧ Y.1.cls ≠ "java/lang/invoke/VarHandle" ∧ (parseMethodDescriptor Y.1.desc).map (fun d => d.parameters.length) = some np) ∧ Y.2.2.1 ≤ 111 ∧ Y.1.name = "<init>" ∧ Y.2.2.2 = none
theorem good_all {ws : List Cond} (h : ∀ w ∈ ws, w ∈ tb) : GoodIn tb ws := fun w hw => ⟨h w hw, (tb_good w (h w hw)).2⟩
theorem wsY_tb {Y : YT} (h : Cond.code Y.1 Y.2.1 Y.2.2.1 Y.2.2.2 ∈ tb) : ∀ w ∈ wsY Y, w ∈ tb := fun w hw => by
  rcases List.mem_cons.mp hw with rfl | hw
  · exact h
  · exact hw
section AWK
variable {CK : CKT} {l : Launch} {Y Y' : YT} {d d' nE sE pc : Nat} {loc : List (Option Value)} {st rest : List Value} {μ μ1 : MM} {As : List Value} {r : Option Value}
theorem cat_map (f : Nat → Nat) (st : List Value) : ((st.map (cv f)).map fun v => v.category).sum = (st.map fun v => v.category).sum := by
  rw [List.map_map]; congr 1; apply List.map_congr_left; intro v _; exact cv_cat _ v
/-- what a call needs and gives, but for the kind of call -/
theorem AW.call {avs : List Value} (hm : AMet l d' Y' avs μ r μ1) (hdd : d' + 1 ≤ d) (K : AW CK l Y d nE sE (pc + 3) loc (r.toList ++ rest) μ1)
    (h : ∀ {p : Program} {e : Env} {R : Room} {s : State} {m : MethodId} {args : Array Value} {below : List Frame} {meth : Method} {c : Code} {H : Heap} {locs : List Loc} {cells slots mc ms : Nat} {ls : Array Slot} {B : Nat} {D : va_G} {tc : Nat → ClassId} {sa : Nat → Nat}, CallFix p m c Y.2.1 Y.2.2.1 s args tb Y.1.cls → ls.size = Y.2.2.1 → Met l Y'.1 (wsY Y') (rmM d' mc ms) (PcM B D tc sa μ avs) (QcM B D tc sa r μ1) mc ms (fun q => B ≤ q) →
      d' + 1 ≤ R.frames → 130 * (d' + 1) ≤ R.locals → cells + mc ≤ R.cells ∧ slots + ms ≤ R.slots → va_K D CLS (TYS tc) s → va_P D CLS (wz (adr B sa) tc μ) H → STR B sa s →
      (∀ U : State, U.heap = H → s.WarmedH U.vm → PcM B D tc sa μ avs (avs.map (cv (adr B sa))).toArray U) → va_Run p l e R s m args below meth c H locs cells slots mc ms (F0 m pc ls (st.map (cv (adr B sa)))) (rest.map (cv (adr B sa))) (QcM B D tc sa r μ1 (avs.map (cv (adr B sa))).toArray) (fun q => B ≤ q)) : AW CK l Y d nE sE pc loc st μ := by
  have k1 := K.1
  have k2 := K.2.1
  have m1 := hm.1
  have m2 := hm.2.1
  refine ⟨by omega, by omega, fun p e R s m args below meth c B D tc sa n0 s0 Q hC hF H locs ls cells slots hP hS hL hc hs => ?_⟩
  have kk := K.2.2 p e R s m args below meth c B D tc sa n0 s0 Q hC hF
  obtain ⟨hx, hb, hr, hml, ho, hts, hlk, hnm, hK, hsz, hE1, hE2, hf1, hf2, hlim, hstr⟩ := hF
  refine W.size (fun hz => ?_)
  have hz2 : H.size = B + nc μ := by
    have h1 := wz_size hP (by have := hS.1; omega) (by omega)
    omega
  have hM := hm.2.2 (by omega) B D tc sa
  refine va_fin (h ⟨hx, hb, hml, ho, hts⟩ hL.1 hM (by omega) (by omega) ⟨by omega, by omega⟩ hK hP hstr (fun U hU hW => ⟨rfl, by rw [hU]; exact hz2, by rw [hU]; exact hP, va_K.moved hW.alike hK, hstr.to hS hU hW⟩)) hS (fun H1 locs1 hP1 hS1 => ?_)
  have := kk H1 locs1 ls (cells + (nc μ1 - nc μ)) (slots + (nsl μ1 - nsl μ)) hP1 hS1 hL (by omega) (by omega)
  rw [List.map_append] at this
  cases r <;> exact this
theorem aw_invV {a ci ix np : Nat} {T : u_T} {N : Nat} (n : Nat) (hd : decode Y.2.1 pc = .ok (.invokevirtual ix, 3)) (hn : pc + 3 = n) (hl : LKV Y.1.cls ix Y' np) (hM : AMet l d' Y' (.ref a :: As) μ r μ1) (hdd : d' + 1 ≤ d) (hk : μ.1[a]? = some (0, ci)) (hC : CLS[ci]? = some (Y'.1.cls, T, N)) (hst : As.reverse ++ .ref a :: rest = st) (hnp : As.length = np) (hc8 : (rest.map fun v => v.category).sum ≤ 8) {st' : List Value} (hst' : r.toList ++ rest = st')
    (K : AW CK l Y d nE sE n loc st' μ1) : AW CK l Y d nE sE pc loc st μ := by
  subst hn
  subst hst'
  obtain ⟨l1, l2, l3, l4, l5, l6, l7⟩ := hl
  refine AW.call hM hdd K (fun S hls hMet hfr hlo hf hK hP hstr hPc => ?_)
  rename_i p e R s m args below meth c H locs cells slots mc ms ls B D tc sa
  refine va_runV (b := adr B sa a) (As := As.map (cv (adr B sa))) S hMet (cwV np S.2.2.2.2 (good_all ?_) rfl rfl rfl ⟨rfl, l6⟩ ⟨hfr, by show 8 + (_ + 11) + 130 * d' ≤ _; omega⟩) ⟨PcM.blind, va_recv hK hP hC (wz_at hk), hPc⟩ rfl (by rw [List.length_map, hnp]) hls ?_ (lv_room (pc := pc) (ls := ls) (m := m) (rest := st.map (cv (adr B sa))) (by rw [cat_map]; exact hc8)) hd hf
  · intro w hw
    unfold wsV at hw
    rcases List.mem_append.mp hw with h | h
    · simp only [List.mem_cons, List.not_mem_nil, or_false] at h
      rcases h with rfl | rfl | rfl | rfl <;> assumption
    · exact wsY_tb l5 w h
  · show st.map (cv (adr B sa)) = _
    rw [← hst, List.map_append, List.map_reverse]
    rfl
theorem aw_invS {ix np : Nat} (n : Nat) (hd : decode Y.2.1 pc = .ok (.invokestatic ix, 3)) (hn : pc + 3 = n) (hl : LKS Y.1.cls ix Y' np) (hM : AMet l d' Y' As μ r μ1) (hdd : d' + 1 ≤ d) (hst : As.reverse ++ rest = st) (hnp : As.length = np) (hc8 : (rest.map fun v => v.category).sum ≤ 8) {st' : List Value} (hst' : r.toList ++ rest = st')
    (K : AW CK l Y d nE sE n loc st' μ1) : AW CK l Y d nE sE pc loc st μ := by
  subst hn
  subst hst'
  obtain ⟨l1, l2, l3, l5, l6, l7⟩ := hl
  refine AW.call hM hdd K (fun S hls hMet hfr hlo hf hK hP hstr hPc => ?_)
  rename_i p e R s m args below meth c H locs cells slots mc ms ls B D tc sa
  refine va_runS (As := As.map (cv (adr B sa))) S hMet (va_cwS np S.2.2.2.2 (good_all ?_) rfl rfl rfl l6 ⟨hfr, by show 8 + (_ + 11) + 130 * d' ≤ _; omega⟩) ⟨PcM.blind, hPc⟩ rfl (by rw [List.length_map, hnp]) hls ?_ (lv_room (pc := pc) (ls := ls) (m := m) (rest := st.map (cv (adr B sa))) (by rw [cat_map]; exact hc8)) hd hf
  · intro w hw
    unfold va_wsS at hw
    rcases List.mem_append.mp hw with h | h
    · simp only [List.mem_cons, List.not_mem_nil, or_false] at h
      rcases h with rfl | rfl | rfl <;> assumption
    · exact wsY_tb l5 w h
  · show st.map (cv (adr B sa)) = _
    rw [← hst, List.map_append, List.map_reverse]
theorem aw_invI {a ix np : Nat} (n : Nat) (hd : decode Y.2.1 pc = .ok (.invokespecial ix, 3)) (hn : pc + 3 = n) (hl : LKI Y.1.cls ix Y' np) (hM : AMet l d' Y' (.ref a :: As) μ r μ1) (hdd : d' + 1 ≤ d) (hst : As.reverse ++ .ref a :: rest = st) (hnp : As.length = np) (hc8 : (rest.map fun v => v.category).sum ≤ 8) {st' : List Value} (hst' : r.toList ++ rest = st')
    (K : AW CK l Y d nE sE n loc st' μ1) : AW CK l Y d nE sE pc loc st μ := by
  subst hn
  subst hst'
  obtain ⟨l1, l2, l3, l5, l6, l7, l8, l9⟩ := hl
  refine AW.call hM hdd K (fun S hls hMet hfr hlo hf hK hP hstr hPc => ?_)
  rename_i p e R s m args below meth c H locs cells slots mc ms ls B D tc sa
  have hst2 : st.map (cv (adr B sa)) = (As.map (cv (adr B sa))).reverse ++ Value.ref (adr B sa a) :: rest.map (cv (adr B sa)) := by
    rw [← hst, List.map_append, List.map_reverse]
    rfl
  have hw0 : wsY Y' = Cond.code Y'.1 Y'.2.1 Y'.2.2.1 none :: tb := by unfold wsY; rw [l9]
  rcases l1 with l1 | ⟨host, l1⟩
  · exact va_runI (b := adr B sa a) (As := As.map (cv (adr B sa))) S hMet (cwI np S.2.2.2.2 (good_all (wsY_tb l5)) hw0 rfl rfl (S.2.2.2.2 _ l3) (S.2.2.2.2 _ l1) (S.2.2.2.2 _ l2) l8 l6 ⟨hfr, by show 8 + (_ + 11) + 130 * d' ≤ _; omega⟩) ⟨PcM.blind, hPc⟩ rfl (by rw [List.length_map, hnp]) hls hst2 (lv_room (pc := pc) (ls := ls) (m := m) (rest := st.map (cv (adr B sa))) (by rw [cat_map]; exact hc8)) hd hf
  · exact va_runIN (b := adr B sa a) (As := As.map (cv (adr B sa))) S hMet ⟨va_cnB np S.2.2.2.2 (good_all (wsY_tb l5)) hw0 rfl rfl (l1 B sa _ hstr) (S.2.2.2.2 _ l3) l6 ⟨hfr, by show 8 + (_ + 11) + 130 * d' ≤ _; omega⟩, l8, S.2.2.2.2 _ l2⟩ ⟨PcM.blind, hPc⟩ rfl (by rw [List.length_map, hnp]) hls hst2 (lv_room (pc := pc) (ls := ls) (m := m) (rest := st.map (cv (adr B sa))) (by rw [cat_map]; exact hc8)) hd hf
end AWK
end
section
/-! LAYER 0: String constants (ids LIM, LIM + 1; their bytes LIM + 2, LIM + 3) -/
def sbyt (i : Nat) : List Int32 := ([[98, 118, 105, 107, 102, 104, 106, 117, 114, 110, 111, 120], [112, 115, 116, 107, 100]] : List (List Int32)).getD i []
def slen (i : Nat) : Nat := ([12, 5] : List Nat).getD i 0
def isS (a : Nat) : Prop := a = LIM ∨ a = LIM + 1
def sC (a : Nat) : Option Int32 := if a = LIM ∨ a = LIM + 1 then some 0 else none
def sV (a : Nat) : Option Nat := if a = LIM ∨ a = LIM + 1 then some (a + 2) else none
def sN (a : Nat) : Option Int32 := if a = LIM + 2 ∨ a = LIM + 3 then some (Int32.ofNat (slen (a - (LIM + 2)))) else none
def sB (a : Nat) (j : Int32) : Option Int32 := if (a = LIM + 2 ∨ a = LIM + 3) ∧ ¬ (j < 0 ∨ slen (a - (LIM + 2)) ≤ j.toNatClampNeg) then some ((sbyt (a - (LIM + 2))).getD j.toNatClampNeg 0) else none
theorem adr_S {B : Nat} {sa : Nat → Nat} (i : Nat) : adr B sa (LIM + i) = sa i := by
  unfold adr; rw [if_neg (Nat.not_lt.mpr (Nat.le_add_right LIM i)), Nat.add_sub_cancel_left]
section AWS
variable {CK : CKT} {l : Launch} {Y Y' : YT} {d d' nE sE pc : Nat} {loc : List (Option Value)} {st rest : List Value} {μ μ1 : MM} {As : List Value} {r : Option Value}
/-- a look at what was there before -/
theorem AW.look {pc' : Nat} {st' : List Value} (k : AW CK l Y d nE sE pc' loc st' μ)
    (h : ∀ {p : Program} {e : Env} {R : Room} {s : State} {m : MethodId} {args : Array Value} {below : List Frame} {meth : Method} {c : Code} {H : Heap} {locs : List Loc} {cells slots : Nat} {Q : State → Prop} {ls : Array Slot} {B : Nat} {sa : Nat → Nat}, p.tables.exec = Jvm.exec → c.code = Y.2.1 →
      s.vm.findClass Y.1.cls = some m.cls → (∀ w ∈ tb, w.before args s = true) → STR B sa s → va_S (fun q => B ≤ q) s.heap H locs →
      W p l e R s m args below meth c H locs cells slots Q (F0 m pc' ls (st'.map (cv (adr B sa)))) → W p l e R s m args below meth c H locs cells slots Q (F0 m pc ls (st.map (cv (adr B sa))))) : AW CK l Y d nE sE pc loc st μ := by
  refine ⟨k.1, k.2.1, fun p e R s m args below meth c B D tc sa n0 s0 Q hC hF H locs ls cells slots hP hS hL hc hs => ?_⟩
  exact h hF.1 hF.2.1 hF.2.2.2.2.1 hF.2.2.2.2.2.1 hF.2.2.2.2.2.2.2.2.2.2.2.2.2.2.2 hS (k.2.2 p e R s m args below meth c B D tc sa n0 s0 Q hC hF H locs ls cells slots hP hS hL hc hs)
theorem aw_ldcS {ix i : Nat} {tx : String} (n : Nat) (hd : decode Y.2.1 pc = .ok (.ldc ix, 2)) (hn : pc + 2 = n) (hz : ∀ B sa U, STR B sa U → vk_R Y.1.cls ix tx (sa i) U) (K : AW CK l Y d nE sE n loc (.ref (LIM + i) :: st) μ) : AW CK l Y d nE sE pc loc st μ := by
  subst hn
  refine K.look (fun hx hb ho ht hstr hS kk => va_ldcS hx hb ho (hz _ _ _ hstr) hd ?_)
  simp only [List.map_cons, cv, adr_S] at kk
  exact kk
theorem str_at {B : Nat} {sa : Nat → Nat} {U : State} (h : STR B sa U) {a : Nat} (ha : a = LIM ∨ a = LIM + 1) : ∃ i, i < 2 ∧ a = LIM + i ∧ va_O "java/lang/String" (sa i) (fun q => B ≤ q) U U.heap ∧ va_OF "java/lang/String" "coder" "B" (.int 0) (sa i) (fun q => B ≤ q) U U.heap ∧ va_OF "java/lang/String" "value" "[B" (.ref (sa (i + 2))) (sa i) (fun q => B ≤ q) U U.heap := by
  obtain ⟨-, -, -, h4, -⟩ := h
  rcases ha with rfl | rfl
  · exact ⟨0, by decide, rfl, (h4.1 0 (by decide)).1, (h4.1 0 (by decide)).2.1, (h4.1 0 (by decide)).2.2.1⟩
  · exact ⟨1, by decide, rfl, (h4.1 1 (by decide)).1, (h4.1 1 (by decide)).2.1, (h4.1 1 (by decide)).2.2.1⟩
theorem strv_at {B : Nat} {sa : Nat → Nat} {U : State} (h : STR B sa U) {a : Nat} (ha : a = LIM + 2 ∨ a = LIM + 3) : ∃ i, i < 2 ∧ a = LIM + (i + 2) ∧ va_T .byte (sa (i + 2)) (slen i) (fun j => .int ((sbyt i).getD j 0)) (fun q => B ≤ q) U U.heap := by
  obtain ⟨-, -, -, h4, -⟩ := h
  rcases ha with rfl | rfl
  · exact ⟨0, by decide, rfl, (h4.1 0 (by decide)).2.2.2⟩
  · exact ⟨1, by decide, rfl, (h4.1 1 (by decide)).2.2.2⟩
theorem aw_getSC {ix a : Nat} {x : Int32} (n : Nat) (hd : decode Y.2.1 pc = .ok (.getfield ix, 3)) (hn : pc + 3 = n) (hw : Cond.fieldLink Y.1.cls ix "java/lang/String" "coder" "B" ∈ tb) (hr : sC a = some x) (K : AW CK l Y d nE sE n loc (.int x :: st) μ) : AW CK l Y d nE sE pc loc (.ref a :: st) μ := by
  subst hn
  unfold sC at hr
  split at hr
  · rename_i ha
    cases hr
    refine K.look (fun hx hb ho ht hstr hS kk => ?_)
    obtain ⟨i, hi, rfl, -, h2, -⟩ := str_at hstr ha
    show W _ _ _ _ _ _ _ _ _ _ _ _ _ _ _ (F0 _ _ _ (Value.ref (adr _ _ (LIM + i)) :: _))
    rw [adr_S]
    exact vk_getf hx hb h2 hS ho (ht _ hw) (fun x q => q) hd kk
  · cases hr
theorem aw_getSV {ix a x : Nat} (n : Nat) (hd : decode Y.2.1 pc = .ok (.getfield ix, 3)) (hn : pc + 3 = n) (hw : Cond.fieldLink Y.1.cls ix "java/lang/String" "value" "[B" ∈ tb) (hr : sV a = some x) (K : AW CK l Y d nE sE n loc (.ref x :: st) μ) : AW CK l Y d nE sE pc loc (.ref a :: st) μ := by
  subst hn
  unfold sV at hr
  split at hr
  · rename_i ha
    cases hr
    refine K.look (fun hx hb ho ht hstr hS kk => ?_)
    obtain ⟨i, hi, rfl, -, -, h3⟩ := str_at hstr ha
    show W _ _ _ _ _ _ _ _ _ _ _ _ _ _ _ (F0 _ _ _ (Value.ref (adr _ _ (LIM + i)) :: _))
    rw [adr_S]
    simp only [List.map_cons, cv, Nat.add_assoc, adr_S] at kk
    exact vk_getf hx hb h3 hS ho (ht _ hw) (fun x q => q) hd kk
  · cases hr
theorem aw_salen {a : Nat} {x : Int32} (n : Nat) (hd : decode Y.2.1 pc = .ok (.arraylength, 1)) (hn : pc + 1 = n) (hr : sN a = some x) (K : AW CK l Y d nE sE n loc (.int x :: st) μ) : AW CK l Y d nE sE pc loc (.ref a :: st) μ := by
  subst hn
  unfold sN at hr
  split at hr
  · rename_i ha
    refine K.look (fun hx hb ho ht hstr hS kk => ?_)
    obtain ⟨i, hi, rfl, hT⟩ := strv_at hstr ha
    show W _ _ _ _ _ _ _ _ _ _ _ _ _ _ _ (F0 _ _ _ (Value.ref (adr _ _ (LIM + (i + 2))) :: _))
    rw [adr_S]
    refine va_tlen hx hb hT hS ?_ hd kk
    have e : LIM + (i + 2) - (LIM + 2) = i := by omega
    rw [e] at hr
    exact Option.some.inj hr
  · cases hr
theorem aw_sbald {a : Nat} {j x : Int32} (n : Nat) (hd : decode Y.2.1 pc = .ok (.baload, 1)) (hn : pc + 1 = n) (hr : sB a j = some x) (K : AW CK l Y d nE sE n loc (.int x :: st) μ) : AW CK l Y d nE sE pc loc (.int j :: .ref a :: st) μ := by
  subst hn
  unfold sB at hr
  split at hr
  · rename_i ha
    refine K.look (fun hx hb ho ht hstr hS kk => ?_)
    obtain ⟨i, hi, rfl, hT⟩ := strv_at hstr ha.1
    have e : LIM + (i + 2) - (LIM + 2) = i := by omega
    rw [e] at hr
    have h2 := ha.2
    rw [e] at h2
    show W _ _ _ _ _ _ _ _ _ _ _ _ _ _ _ (F0 _ _ _ (Value.int j :: Value.ref (adr _ _ (LIM + (i + 2))) :: _))
    rw [adr_S]
    exact va_tb hx hb hT hS h2 (by rw [← Option.some.inj hr]; rfl) hd kk
  · cases hr
theorem aw_getCS {ix : Nat} (n : Nat) (hd : decode Y.2.1 pc = .ok (.getstatic ix, 3)) (hn : pc + 3 = n) (hw : Cond.fieldLink Y.1.cls ix "java/lang/String" "COMPACT_STRINGS" "Z" ∈ tb) (K : AW CK l Y d nE sE n loc (.int 1 :: st) μ) : AW CK l Y d nE sE pc loc st μ := by
  subst hn
  exact K.look (fun hx hb ho ht hstr hS kk => va_gets hx hb hstr.2.2.2.2.1 hS ho (ht _ hw) (fun x q => q) hd kk)
/-- a call on a String constant -/
theorem aw_invVS {a ix np : Nat} (n : Nat) (hd : decode Y.2.1 pc = .ok (.invokevirtual ix, 3)) (hn : pc + 3 = n) (hl : LKV Y.1.cls ix Y' np) (hM : AMet l d' Y' (.ref a :: As) μ r μ1) (hdd : d' + 1 ≤ d) (hk : a = LIM ∨ a = LIM + 1) (hC : Y'.1.cls = "java/lang/String") (hst : As.reverse ++ .ref a :: rest = st) (hnp : As.length = np) (hc8 : (rest.map fun v => v.category).sum ≤ 8) {st' : List Value} (hst' : r.toList ++ rest = st')
    (K : AW CK l Y d nE sE n loc st' μ1) : AW CK l Y d nE sE pc loc st μ := by
  subst hn
  subst hst'
  obtain ⟨l1, l2, l3, l4, l5, l6, l7⟩ := hl
  have k1 := K.1
  have k2 := K.2.1
  have m1 := hM.1
  have m2 := hM.2.1
  refine ⟨by omega, by omega, fun p e R s m args below meth c B D tc sa n0 s0 Q hC0 hF H locs ls cells slots hP hS hL hc hs => ?_⟩
  have hrecv : ∃ cell : Cell, H[adr B sa a]? = some cell ∧ cell.vm.isStatics = false ∧ s.vm.findClass Y'.1.cls = some cell.cls := by
    obtain ⟨i, hi, rfl, h1, -, -⟩ := str_at hF.2.2.2.2.2.2.2.2.2.2.2.2.2.2.2 hk
    obtain ⟨cell, g1, g2, g3, -⟩ := h1.kept hS.2.1
    rw [adr_S, hC]
    exact ⟨cell, g1, g2, g3⟩
  have kk := K.2.2 p e R s m args below meth c B D tc sa n0 s0 Q hC0 hF
  obtain ⟨hx, hb, hr, hml, ho, hts, hlk, hnm, hK, hsz, hE1, hE2, hf1, hf2, hlim, hstr⟩ := hF
  refine W.size (fun hz => ?_)
  have hz2 : H.size = B + nc μ := by
    have h1 := wz_size hP (by have := hS.1; omega) (by omega)
    omega
  have hMe := hM.2.2 (by omega) B D tc sa
  refine va_fin (va_runV (b := adr B sa a) (As := As.map (cv (adr B sa))) (rest := rest.map (cv (adr B sa))) ⟨hx, hb, hml, ho, hts⟩ hMe (cwV np hts (good_all ?_) rfl rfl rfl ⟨rfl, l6⟩ ⟨by show d' + 1 ≤ _; omega, by show 8 + (_ + 11) + 130 * d' ≤ _; omega⟩) ⟨PcM.blind, hrecv, fun U hU hW => ⟨rfl, by rw [hU]; exact hz2, by rw [hU]; exact hP, va_K.moved hW.alike hK, hstr.to hS hU hW⟩⟩ rfl (by rw [List.length_map, hnp]) hL.1 ?_ (lv_room (pc := pc) (ls := ls) (m := m) (rest := st.map (cv (adr B sa))) (by rw [cat_map]; exact hc8)) hd ⟨by omega, by omega⟩) hS (fun H1 locs1 hP1 hS1 => ?_)
  · intro w hw
    unfold wsV at hw
    rcases List.mem_append.mp hw with h | h
    · simp only [List.mem_cons, List.not_mem_nil, or_false] at h
      rcases h with rfl | rfl | rfl | rfl <;> assumption
    · exact wsY_tb l5 w h
  · show st.map (cv (adr B sa)) = _
    rw [← hst, List.map_append, List.map_reverse]
    rfl
  · have := kk H1 locs1 ls (cells + (nc μ1 - nc μ)) (slots + (nsl μ1 - nsl μ)) hP1 hS1 hL (by omega) (by omega)
    rw [List.map_append] at this
    cases r <;> exact this
end AWS
end
