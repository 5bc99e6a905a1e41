/-! PRINTED: what each place of the code decodes to -/
theorem d_M_check_0 : decode Y_M_check.2.1 0 = .ok (.iload_n 1, 1) := by decide +kernel
theorem d_M_check_1 : decode Y_M_check.2.1 1 = .ok (.ifCond .lt 14, 3) := by decide +kernel
theorem d_M_check_4 : decode Y_M_check.2.1 4 = .ok (.iload_n 1, 1) := by decide +kernel
theorem d_M_check_5 : decode Y_M_check.2.1 5 = .ok (.aload_n 0, 1) := by decide +kernel
theorem d_M_check_6 : decode Y_M_check.2.1 6 = .ok (.getfield 305, 3) := by decide +kernel
theorem d_M_check_9 : decode Y_M_check.2.1 9 = .ok (.bipush 12, 2) := by decide +kernel
theorem d_M_check_11 : decode Y_M_check.2.1 11 = .ok (.idiv, 1) := by decide +kernel
theorem d_M_check_12 : decode Y_M_check.2.1 12 = .ok (.if_icmp .le 6, 3) := by decide +kernel
theorem d_M_check_15 : decode Y_M_check.2.1 15 = .ok (.bipush (-2), 2) := by decide +kernel
theorem d_M_check_17 : decode Y_M_check.2.1 17 = .ok (.ireturn, 1) := by decide +kernel
theorem d_M_check_18 : decode Y_M_check.2.1 18 = .ok (.aload_n 0, 1) := by decide +kernel
theorem d_M_check_19 : decode Y_M_check.2.1 19 = .ok (.iconst 0, 1) := by decide +kernel
theorem d_M_check_20 : decode Y_M_check.2.1 20 = .ok (.putfield 305, 3) := by decide +kernel
theorem d_M_check_23 : decode Y_M_check.2.1 23 = .ok (.aload_n 0, 1) := by decide +kernel
theorem d_M_check_24 : decode Y_M_check.2.1 24 = .ok (.invokevirtual 525, 3) := by decide +kernel
theorem d_M_check_27 : decode Y_M_check.2.1 27 = .ok (.iconst 0, 1) := by decide +kernel
theorem d_M_check_28 : decode Y_M_check.2.1 28 = .ok (.istore_n 2, 1) := by decide +kernel
theorem d_M_check_29 : decode Y_M_check.2.1 29 = .ok (.iconst 0, 1) := by decide +kernel
theorem d_M_check_30 : decode Y_M_check.2.1 30 = .ok (.istore_n 3, 1) := by decide +kernel
theorem d_M_check_31 : decode Y_M_check.2.1 31 = .ok (.iload_n 3, 1) := by decide +kernel
theorem d_M_check_32 : decode Y_M_check.2.1 32 = .ok (.aload_n 0, 1) := by decide +kernel
theorem d_M_check_33 : decode Y_M_check.2.1 33 = .ok (.getfield 275, 3) := by decide +kernel
theorem d_M_check_36 : decode Y_M_check.2.1 36 = .ok (.if_icmp .ge 115, 3) := by decide +kernel
theorem d_M_check_39 : decode Y_M_check.2.1 39 = .ok (.iconst 0, 1) := by decide +kernel
theorem d_M_check_40 : decode Y_M_check.2.1 40 = .ok (.istore 4, 2) := by decide +kernel
theorem d_M_check_42 : decode Y_M_check.2.1 42 = .ok (.iload 4, 2) := by decide +kernel
theorem d_M_check_44 : decode Y_M_check.2.1 44 = .ok (.bipush 24, 2) := by decide +kernel
theorem d_M_check_46 : decode Y_M_check.2.1 46 = .ok (.if_icmp .ge 99, 3) := by decide +kernel
theorem d_M_check_49 : decode Y_M_check.2.1 49 = .ok (.aload_n 0, 1) := by decide +kernel
theorem d_M_check_50 : decode Y_M_check.2.1 50 = .ok (.iload_n 3, 1) := by decide +kernel
theorem d_M_check_51 : decode Y_M_check.2.1 51 = .ok (.iload 4, 2) := by decide +kernel
theorem d_M_check_53 : decode Y_M_check.2.1 53 = .ok (.invokevirtual 423, 3) := by decide +kernel
theorem d_M_check_56 : decode Y_M_check.2.1 56 = .ok (.ifCond .ne 6, 3) := by decide +kernel
theorem d_M_check_59 : decode Y_M_check.2.1 59 = .ok (.goto 80, 3) := by decide +kernel
theorem d_M_check_62 : decode Y_M_check.2.1 62 = .ok (.iload_n 2, 1) := by decide +kernel
theorem d_M_check_63 : decode Y_M_check.2.1 63 = .ok (.iload_n 1, 1) := by decide +kernel
theorem d_M_check_64 : decode Y_M_check.2.1 64 = .ok (.if_icmp .ne 7, 3) := by decide +kernel
theorem d_M_check_67 : decode Y_M_check.2.1 67 = .ok (.iconst 3, 1) := by decide +kernel
theorem d_M_check_68 : decode Y_M_check.2.1 68 = .ok (.iload_n 1, 1) := by decide +kernel
theorem d_M_check_69 : decode Y_M_check.2.1 69 = .ok (.imul, 1) := by decide +kernel
theorem d_M_check_70 : decode Y_M_check.2.1 70 = .ok (.ireturn, 1) := by decide +kernel
theorem d_M_check_71 : decode Y_M_check.2.1 71 = .ok (.aload_n 0, 1) := by decide +kernel
theorem d_M_check_72 : decode Y_M_check.2.1 72 = .ok (.iconst 3, 1) := by decide +kernel
theorem d_M_check_73 : decode Y_M_check.2.1 73 = .ok (.iload_n 2, 1) := by decide +kernel
theorem d_M_check_74 : decode Y_M_check.2.1 74 = .ok (.imul, 1) := by decide +kernel
theorem d_M_check_75 : decode Y_M_check.2.1 75 = .ok (.invokevirtual 580, 3) := by decide +kernel
theorem d_M_check_78 : decode Y_M_check.2.1 78 = .ok (.iload_n 3, 1) := by decide +kernel
theorem d_M_check_79 : decode Y_M_check.2.1 79 = .ok (.if_icmp .eq 7, 3) := by decide +kernel
theorem d_M_check_82 : decode Y_M_check.2.1 82 = .ok (.iconst 3, 1) := by decide +kernel
theorem d_M_check_83 : decode Y_M_check.2.1 83 = .ok (.iload_n 2, 1) := by decide +kernel
theorem d_M_check_84 : decode Y_M_check.2.1 84 = .ok (.imul, 1) := by decide +kernel
theorem d_M_check_85 : decode Y_M_check.2.1 85 = .ok (.ireturn, 1) := by decide +kernel
theorem d_M_check_86 : decode Y_M_check.2.1 86 = .ok (.aload_n 0, 1) := by decide +kernel
theorem d_M_check_87 : decode Y_M_check.2.1 87 = .ok (.iconst 3, 1) := by decide +kernel
theorem d_M_check_88 : decode Y_M_check.2.1 88 = .ok (.iload_n 2, 1) := by decide +kernel
theorem d_M_check_89 : decode Y_M_check.2.1 89 = .ok (.imul, 1) := by decide +kernel
theorem d_M_check_90 : decode Y_M_check.2.1 90 = .ok (.iconst 1, 1) := by decide +kernel
theorem d_M_check_91 : decode Y_M_check.2.1 91 = .ok (.iadd, 1) := by decide +kernel
theorem d_M_check_92 : decode Y_M_check.2.1 92 = .ok (.invokevirtual 580, 3) := by decide +kernel
theorem d_M_check_95 : decode Y_M_check.2.1 95 = .ok (.iload 4, 2) := by decide +kernel
theorem d_M_check_97 : decode Y_M_check.2.1 97 = .ok (.if_icmp .eq 9, 3) := by decide +kernel
theorem d_M_check_100 : decode Y_M_check.2.1 100 = .ok (.iconst 3, 1) := by decide +kernel
theorem d_M_check_101 : decode Y_M_check.2.1 101 = .ok (.iload_n 2, 1) := by decide +kernel
theorem d_M_check_102 : decode Y_M_check.2.1 102 = .ok (.imul, 1) := by decide +kernel
theorem d_M_check_103 : decode Y_M_check.2.1 103 = .ok (.iconst 1, 1) := by decide +kernel
theorem d_M_check_104 : decode Y_M_check.2.1 104 = .ok (.iadd, 1) := by decide +kernel
theorem d_M_check_105 : decode Y_M_check.2.1 105 = .ok (.ireturn, 1) := by decide +kernel
theorem d_M_check_106 : decode Y_M_check.2.1 106 = .ok (.aload_n 0, 1) := by decide +kernel
theorem d_M_check_107 : decode Y_M_check.2.1 107 = .ok (.iconst 3, 1) := by decide +kernel
theorem d_M_check_108 : decode Y_M_check.2.1 108 = .ok (.iload_n 2, 1) := by decide +kernel
theorem d_M_check_109 : decode Y_M_check.2.1 109 = .ok (.imul, 1) := by decide +kernel
theorem d_M_check_110 : decode Y_M_check.2.1 110 = .ok (.iconst 2, 1) := by decide +kernel
theorem d_M_check_111 : decode Y_M_check.2.1 111 = .ok (.iadd, 1) := by decide +kernel
theorem d_M_check_112 : decode Y_M_check.2.1 112 = .ok (.invokevirtual 580, 3) := by decide +kernel
theorem d_M_check_115 : decode Y_M_check.2.1 115 = .ok (.aload_n 0, 1) := by decide +kernel
theorem d_M_check_116 : decode Y_M_check.2.1 116 = .ok (.getfield 116, 3) := by decide +kernel
theorem d_M_check_119 : decode Y_M_check.2.1 119 = .ok (.bipush 24, 2) := by decide +kernel
theorem d_M_check_121 : decode Y_M_check.2.1 121 = .ok (.iload_n 3, 1) := by decide +kernel
theorem d_M_check_122 : decode Y_M_check.2.1 122 = .ok (.imul, 1) := by decide +kernel
theorem d_M_check_123 : decode Y_M_check.2.1 123 = .ok (.iload 4, 2) := by decide +kernel
theorem d_M_check_125 : decode Y_M_check.2.1 125 = .ok (.iadd, 1) := by decide +kernel
theorem d_M_check_126 : decode Y_M_check.2.1 126 = .ok (.iaload, 1) := by decide +kernel
theorem d_M_check_127 : decode Y_M_check.2.1 127 = .ok (.if_icmp .eq 9, 3) := by decide +kernel
theorem d_M_check_130 : decode Y_M_check.2.1 130 = .ok (.iconst 3, 1) := by decide +kernel
theorem d_M_check_131 : decode Y_M_check.2.1 131 = .ok (.iload_n 2, 1) := by decide +kernel
theorem d_M_check_132 : decode Y_M_check.2.1 132 = .ok (.imul, 1) := by decide +kernel
theorem d_M_check_133 : decode Y_M_check.2.1 133 = .ok (.iconst 2, 1) := by decide +kernel
theorem d_M_check_134 : decode Y_M_check.2.1 134 = .ok (.iadd, 1) := by decide +kernel
theorem d_M_check_135 : decode Y_M_check.2.1 135 = .ok (.ireturn, 1) := by decide +kernel
theorem d_M_check_136 : decode Y_M_check.2.1 136 = .ok (.iinc 2 1, 3) := by decide +kernel
theorem d_M_check_139 : decode Y_M_check.2.1 139 = .ok (.iinc 4 1, 3) := by decide +kernel
theorem d_M_check_142 : decode Y_M_check.2.1 142 = .ok (.goto (-100), 3) := by decide +kernel
theorem d_M_check_145 : decode Y_M_check.2.1 145 = .ok (.iinc 3 1, 3) := by decide +kernel
theorem d_M_check_148 : decode Y_M_check.2.1 148 = .ok (.goto (-117), 3) := by decide +kernel
theorem d_M_check_151 : decode Y_M_check.2.1 151 = .ok (.iload_n 2, 1) := by decide +kernel
theorem d_M_check_152 : decode Y_M_check.2.1 152 = .ok (.iload_n 1, 1) := by decide +kernel
theorem d_M_check_153 : decode Y_M_check.2.1 153 = .ok (.if_icmp .ne 7, 3) := by decide +kernel
theorem d_M_check_156 : decode Y_M_check.2.1 156 = .ok (.iconst (-1), 1) := by decide +kernel
theorem d_M_check_157 : decode Y_M_check.2.1 157 = .ok (.goto 6, 3) := by decide +kernel
theorem d_M_check_160 : decode Y_M_check.2.1 160 = .ok (.iconst 3, 1) := by decide +kernel
theorem d_M_check_161 : decode Y_M_check.2.1 161 = .ok (.iload_n 2, 1) := by decide +kernel
theorem d_M_check_162 : decode Y_M_check.2.1 162 = .ok (.imul, 1) := by decide +kernel
theorem d_M_check_163 : decode Y_M_check.2.1 163 = .ok (.ireturn, 1) := by decide +kernel
theorem d_Sc_noteCount_0 : decode Y_Sc_noteCount.2.1 0 = .ok (.iconst 0, 1) := by decide +kernel
theorem d_Sc_noteCount_1 : decode Y_Sc_noteCount.2.1 1 = .ok (.istore_n 1, 1) := by decide +kernel
theorem d_Sc_noteCount_2 : decode Y_Sc_noteCount.2.1 2 = .ok (.iconst 0, 1) := by decide +kernel
theorem d_Sc_noteCount_3 : decode Y_Sc_noteCount.2.1 3 = .ok (.istore_n 2, 1) := by decide +kernel
theorem d_Sc_noteCount_4 : decode Y_Sc_noteCount.2.1 4 = .ok (.iload_n 2, 1) := by decide +kernel
theorem d_Sc_noteCount_5 : decode Y_Sc_noteCount.2.1 5 = .ok (.sipush 144, 3) := by decide +kernel
theorem d_Sc_noteCount_8 : decode Y_Sc_noteCount.2.1 8 = .ok (.if_icmp .ge 27, 3) := by decide +kernel
theorem d_Sc_noteCount_11 : decode Y_Sc_noteCount.2.1 11 = .ok (.iload_n 1, 1) := by decide +kernel
theorem d_Sc_noteCount_12 : decode Y_Sc_noteCount.2.1 12 = .ok (.aload_n 0, 1) := by decide +kernel
theorem d_Sc_noteCount_13 : decode Y_Sc_noteCount.2.1 13 = .ok (.getfield 9, 3) := by decide +kernel
theorem d_Sc_noteCount_16 : decode Y_Sc_noteCount.2.1 16 = .ok (.iload_n 2, 1) := by decide +kernel
theorem d_Sc_noteCount_17 : decode Y_Sc_noteCount.2.1 17 = .ok (.iaload, 1) := by decide +kernel
theorem d_Sc_noteCount_18 : decode Y_Sc_noteCount.2.1 18 = .ok (.iconst (-1), 1) := by decide +kernel
theorem d_Sc_noteCount_19 : decode Y_Sc_noteCount.2.1 19 = .ok (.if_icmp .ne 7, 3) := by decide +kernel
theorem d_Sc_noteCount_22 : decode Y_Sc_noteCount.2.1 22 = .ok (.iconst 0, 1) := by decide +kernel
theorem d_Sc_noteCount_23 : decode Y_Sc_noteCount.2.1 23 = .ok (.goto 4, 3) := by decide +kernel
theorem d_Sc_noteCount_26 : decode Y_Sc_noteCount.2.1 26 = .ok (.iconst 1, 1) := by decide +kernel
theorem d_Sc_noteCount_27 : decode Y_Sc_noteCount.2.1 27 = .ok (.iadd, 1) := by decide +kernel
theorem d_Sc_noteCount_28 : decode Y_Sc_noteCount.2.1 28 = .ok (.istore_n 1, 1) := by decide +kernel
theorem d_Sc_noteCount_29 : decode Y_Sc_noteCount.2.1 29 = .ok (.iinc 2 1, 3) := by decide +kernel
theorem d_Sc_noteCount_32 : decode Y_Sc_noteCount.2.1 32 = .ok (.goto (-28), 3) := by decide +kernel
theorem d_Sc_noteCount_35 : decode Y_Sc_noteCount.2.1 35 = .ok (.iload_n 1, 1) := by decide +kernel
theorem d_Sc_noteCount_36 : decode Y_Sc_noteCount.2.1 36 = .ok (.ireturn, 1) := by decide +kernel
theorem d_Sc_linkCount_0 : decode Y_Sc_linkCount.2.1 0 = .ok (.iconst 0, 1) := by decide +kernel
theorem d_Sc_linkCount_1 : decode Y_Sc_linkCount.2.1 1 = .ok (.istore_n 1, 1) := by decide +kernel
theorem d_Sc_linkCount_2 : decode Y_Sc_linkCount.2.1 2 = .ok (.iconst 0, 1) := by decide +kernel
theorem d_Sc_linkCount_3 : decode Y_Sc_linkCount.2.1 3 = .ok (.istore_n 2, 1) := by decide +kernel
theorem d_Sc_linkCount_4 : decode Y_Sc_linkCount.2.1 4 = .ok (.iload_n 2, 1) := by decide +kernel
theorem d_Sc_linkCount_5 : decode Y_Sc_linkCount.2.1 5 = .ok (.bipush 24, 2) := by decide +kernel
theorem d_Sc_linkCount_7 : decode Y_Sc_linkCount.2.1 7 = .ok (.if_icmp .ge 27, 3) := by decide +kernel
theorem d_Sc_linkCount_10 : decode Y_Sc_linkCount.2.1 10 = .ok (.iload_n 1, 1) := by decide +kernel
theorem d_Sc_linkCount_11 : decode Y_Sc_linkCount.2.1 11 = .ok (.aload_n 0, 1) := by decide +kernel
theorem d_Sc_linkCount_12 : decode Y_Sc_linkCount.2.1 12 = .ok (.getfield 24, 3) := by decide +kernel
theorem d_Sc_linkCount_15 : decode Y_Sc_linkCount.2.1 15 = .ok (.iload_n 2, 1) := by decide +kernel
theorem d_Sc_linkCount_16 : decode Y_Sc_linkCount.2.1 16 = .ok (.iaload, 1) := by decide +kernel
theorem d_Sc_linkCount_17 : decode Y_Sc_linkCount.2.1 17 = .ok (.iconst (-1), 1) := by decide +kernel
theorem d_Sc_linkCount_18 : decode Y_Sc_linkCount.2.1 18 = .ok (.if_icmp .ne 7, 3) := by decide +kernel
theorem d_Sc_linkCount_21 : decode Y_Sc_linkCount.2.1 21 = .ok (.iconst 0, 1) := by decide +kernel
theorem d_Sc_linkCount_22 : decode Y_Sc_linkCount.2.1 22 = .ok (.goto 4, 3) := by decide +kernel
theorem d_Sc_linkCount_25 : decode Y_Sc_linkCount.2.1 25 = .ok (.iconst 1, 1) := by decide +kernel
theorem d_Sc_linkCount_26 : decode Y_Sc_linkCount.2.1 26 = .ok (.iadd, 1) := by decide +kernel
theorem d_Sc_linkCount_27 : decode Y_Sc_linkCount.2.1 27 = .ok (.istore_n 1, 1) := by decide +kernel
theorem d_Sc_linkCount_28 : decode Y_Sc_linkCount.2.1 28 = .ok (.iinc 2 1, 3) := by decide +kernel
theorem d_Sc_linkCount_31 : decode Y_Sc_linkCount.2.1 31 = .ok (.goto (-27), 3) := by decide +kernel
theorem d_Sc_linkCount_34 : decode Y_Sc_linkCount.2.1 34 = .ok (.iload_n 1, 1) := by decide +kernel
theorem d_Sc_linkCount_35 : decode Y_Sc_linkCount.2.1 35 = .ok (.ireturn, 1) := by decide +kernel
theorem d_In_bitCount_0 : decode Y_In_bitCount.2.1 0 = .ok (.iload_n 0, 1) := by decide +kernel
theorem d_In_bitCount_1 : decode Y_In_bitCount.2.1 1 = .ok (.iload_n 0, 1) := by decide +kernel
theorem d_In_bitCount_2 : decode Y_In_bitCount.2.1 2 = .ok (.iconst 1, 1) := by decide +kernel
theorem d_In_bitCount_3 : decode Y_In_bitCount.2.1 3 = .ok (.iushr, 1) := by decide +kernel
theorem d_In_bitCount_4 : decode Y_In_bitCount.2.1 4 = .ok (.ldc_w 265, 3) := by decide +kernel
theorem d_In_bitCount_7 : decode Y_In_bitCount.2.1 7 = .ok (.iand, 1) := by decide +kernel
theorem d_In_bitCount_8 : decode Y_In_bitCount.2.1 8 = .ok (.isub, 1) := by decide +kernel
theorem d_In_bitCount_9 : decode Y_In_bitCount.2.1 9 = .ok (.istore_n 0, 1) := by decide +kernel
theorem d_In_bitCount_10 : decode Y_In_bitCount.2.1 10 = .ok (.iload_n 0, 1) := by decide +kernel
theorem d_In_bitCount_11 : decode Y_In_bitCount.2.1 11 = .ok (.ldc_w 266, 3) := by decide +kernel
theorem d_In_bitCount_14 : decode Y_In_bitCount.2.1 14 = .ok (.iand, 1) := by decide +kernel
theorem d_In_bitCount_15 : decode Y_In_bitCount.2.1 15 = .ok (.iload_n 0, 1) := by decide +kernel
theorem d_In_bitCount_16 : decode Y_In_bitCount.2.1 16 = .ok (.iconst 2, 1) := by decide +kernel
theorem d_In_bitCount_17 : decode Y_In_bitCount.2.1 17 = .ok (.iushr, 1) := by decide +kernel
theorem d_In_bitCount_18 : decode Y_In_bitCount.2.1 18 = .ok (.ldc_w 266, 3) := by decide +kernel
theorem d_In_bitCount_21 : decode Y_In_bitCount.2.1 21 = .ok (.iand, 1) := by decide +kernel
theorem d_In_bitCount_22 : decode Y_In_bitCount.2.1 22 = .ok (.iadd, 1) := by decide +kernel
theorem d_In_bitCount_23 : decode Y_In_bitCount.2.1 23 = .ok (.istore_n 0, 1) := by decide +kernel
theorem d_In_bitCount_24 : decode Y_In_bitCount.2.1 24 = .ok (.iload_n 0, 1) := by decide +kernel
theorem d_In_bitCount_25 : decode Y_In_bitCount.2.1 25 = .ok (.iload_n 0, 1) := by decide +kernel
theorem d_In_bitCount_26 : decode Y_In_bitCount.2.1 26 = .ok (.iconst 4, 1) := by decide +kernel
theorem d_In_bitCount_27 : decode Y_In_bitCount.2.1 27 = .ok (.iushr, 1) := by decide +kernel
theorem d_In_bitCount_28 : decode Y_In_bitCount.2.1 28 = .ok (.iadd, 1) := by decide +kernel
theorem d_In_bitCount_29 : decode Y_In_bitCount.2.1 29 = .ok (.ldc_w 267, 3) := by decide +kernel
theorem d_In_bitCount_32 : decode Y_In_bitCount.2.1 32 = .ok (.iand, 1) := by decide +kernel
theorem d_In_bitCount_33 : decode Y_In_bitCount.2.1 33 = .ok (.istore_n 0, 1) := by decide +kernel
theorem d_In_bitCount_34 : decode Y_In_bitCount.2.1 34 = .ok (.iload_n 0, 1) := by decide +kernel
theorem d_In_bitCount_35 : decode Y_In_bitCount.2.1 35 = .ok (.iload_n 0, 1) := by decide +kernel
theorem d_In_bitCount_36 : decode Y_In_bitCount.2.1 36 = .ok (.bipush 8, 2) := by decide +kernel
theorem d_In_bitCount_38 : decode Y_In_bitCount.2.1 38 = .ok (.iushr, 1) := by decide +kernel
theorem d_In_bitCount_39 : decode Y_In_bitCount.2.1 39 = .ok (.iadd, 1) := by decide +kernel
theorem d_In_bitCount_40 : decode Y_In_bitCount.2.1 40 = .ok (.istore_n 0, 1) := by decide +kernel
theorem d_In_bitCount_41 : decode Y_In_bitCount.2.1 41 = .ok (.iload_n 0, 1) := by decide +kernel
theorem d_In_bitCount_42 : decode Y_In_bitCount.2.1 42 = .ok (.iload_n 0, 1) := by decide +kernel
theorem d_In_bitCount_43 : decode Y_In_bitCount.2.1 43 = .ok (.bipush 16, 2) := by decide +kernel
theorem d_In_bitCount_45 : decode Y_In_bitCount.2.1 45 = .ok (.iushr, 1) := by decide +kernel
theorem d_In_bitCount_46 : decode Y_In_bitCount.2.1 46 = .ok (.iadd, 1) := by decide +kernel
theorem d_In_bitCount_47 : decode Y_In_bitCount.2.1 47 = .ok (.istore_n 0, 1) := by decide +kernel
theorem d_In_bitCount_48 : decode Y_In_bitCount.2.1 48 = .ok (.iload_n 0, 1) := by decide +kernel
theorem d_In_bitCount_49 : decode Y_In_bitCount.2.1 49 = .ok (.bipush 63, 2) := by decide +kernel
theorem d_In_bitCount_51 : decode Y_In_bitCount.2.1 51 = .ok (.iand, 1) := by decide +kernel
theorem d_In_bitCount_52 : decode Y_In_bitCount.2.1 52 = .ok (.ireturn, 1) := by decide +kernel
theorem d_X_count_0 : decode Y_X_count.2.1 0 = .ok (.iload_n 1, 1) := by decide +kernel
theorem d_X_count_1 : decode Y_X_count.2.1 1 = .ok (.tableswitch 117 0 7 #[47, 55, 63, 74, 82, 90, 98, 106], 47) := by decide +kernel
theorem d_X_count_48 : decode Y_X_count.2.1 48 = .ok (.aload_n 0, 1) := by decide +kernel
theorem d_X_count_49 : decode Y_X_count.2.1 49 = .ok (.getfield 21, 3) := by decide +kernel
theorem d_X_count_52 : decode Y_X_count.2.1 52 = .ok (.getfield 163, 3) := by decide +kernel
theorem d_X_count_55 : decode Y_X_count.2.1 55 = .ok (.ireturn, 1) := by decide +kernel
theorem d_X_count_56 : decode Y_X_count.2.1 56 = .ok (.aload_n 0, 1) := by decide +kernel
theorem d_X_count_57 : decode Y_X_count.2.1 57 = .ok (.getfield 62, 3) := by decide +kernel
theorem d_X_count_60 : decode Y_X_count.2.1 60 = .ok (.getfield 206, 3) := by decide +kernel
theorem d_X_count_63 : decode Y_X_count.2.1 63 = .ok (.ireturn, 1) := by decide +kernel
theorem d_X_count_64 : decode Y_X_count.2.1 64 = .ok (.aload_n 0, 1) := by decide +kernel
theorem d_X_count_65 : decode Y_X_count.2.1 65 = .ok (.getfield 21, 3) := by decide +kernel
theorem d_X_count_68 : decode Y_X_count.2.1 68 = .ok (.getfield 216, 3) := by decide +kernel
theorem d_X_count_71 : decode Y_X_count.2.1 71 = .ok (.getfield 224, 3) := by decide +kernel
theorem d_X_count_74 : decode Y_X_count.2.1 74 = .ok (.ireturn, 1) := by decide +kernel
theorem d_X_count_75 : decode Y_X_count.2.1 75 = .ok (.aload_n 0, 1) := by decide +kernel
theorem d_X_count_76 : decode Y_X_count.2.1 76 = .ok (.getfield 10, 3) := by decide +kernel
theorem d_X_count_79 : decode Y_X_count.2.1 79 = .ok (.invokevirtual 321, 3) := by decide +kernel
theorem d_X_count_82 : decode Y_X_count.2.1 82 = .ok (.ireturn, 1) := by decide +kernel
theorem d_X_count_83 : decode Y_X_count.2.1 83 = .ok (.aload_n 0, 1) := by decide +kernel
theorem d_X_count_84 : decode Y_X_count.2.1 84 = .ok (.getfield 10, 3) := by decide +kernel
theorem d_X_count_87 : decode Y_X_count.2.1 87 = .ok (.invokevirtual 324, 3) := by decide +kernel
theorem d_X_count_90 : decode Y_X_count.2.1 90 = .ok (.ireturn, 1) := by decide +kernel
theorem d_X_count_91 : decode Y_X_count.2.1 91 = .ok (.aload_n 0, 1) := by decide +kernel
theorem d_X_count_92 : decode Y_X_count.2.1 92 = .ok (.getfield 21, 3) := by decide +kernel
theorem d_X_count_95 : decode Y_X_count.2.1 95 = .ok (.getfield 187, 3) := by decide +kernel
theorem d_X_count_98 : decode Y_X_count.2.1 98 = .ok (.ireturn, 1) := by decide +kernel
theorem d_X_count_99 : decode Y_X_count.2.1 99 = .ok (.aload_n 0, 1) := by decide +kernel
theorem d_X_count_100 : decode Y_X_count.2.1 100 = .ok (.getfield 21, 3) := by decide +kernel
theorem d_X_count_103 : decode Y_X_count.2.1 103 = .ok (.getfield 192, 3) := by decide +kernel
theorem d_X_count_106 : decode Y_X_count.2.1 106 = .ok (.ireturn, 1) := by decide +kernel
theorem d_X_count_107 : decode Y_X_count.2.1 107 = .ok (.aload_n 0, 1) := by decide +kernel
theorem d_X_count_108 : decode Y_X_count.2.1 108 = .ok (.getfield 21, 3) := by decide +kernel
theorem d_X_count_111 : decode Y_X_count.2.1 111 = .ok (.getfield 196, 3) := by decide +kernel
theorem d_X_count_114 : decode Y_X_count.2.1 114 = .ok (.invokestatic 327, 3) := by decide +kernel
theorem d_X_count_117 : decode Y_X_count.2.1 117 = .ok (.ireturn, 1) := by decide +kernel
theorem d_X_count_118 : decode Y_X_count.2.1 118 = .ok (.iload_n 1, 1) := by decide +kernel
theorem d_X_count_119 : decode Y_X_count.2.1 119 = .ok (.bipush 10, 2) := by decide +kernel
theorem d_X_count_121 : decode Y_X_count.2.1 121 = .ok (.if_icmp .lt 32, 3) := by decide +kernel
theorem d_X_count_124 : decode Y_X_count.2.1 124 = .ok (.aload_n 0, 1) := by decide +kernel
theorem d_X_count_125 : decode Y_X_count.2.1 125 = .ok (.getfield 21, 3) := by decide +kernel
theorem d_X_count_128 : decode Y_X_count.2.1 128 = .ok (.iload_n 1, 1) := by decide +kernel
theorem d_X_count_129 : decode Y_X_count.2.1 129 = .ok (.bipush 10, 2) := by decide +kernel
theorem d_X_count_131 : decode Y_X_count.2.1 131 = .ok (.isub, 1) := by decide +kernel
theorem d_X_count_132 : decode Y_X_count.2.1 132 = .ok (.invokevirtual 179, 3) := by decide +kernel
theorem d_X_count_135 : decode Y_X_count.2.1 135 = .ok (.ifCond .eq 18, 3) := by decide +kernel
theorem d_X_count_138 : decode Y_X_count.2.1 138 = .ok (.aload_n 0, 1) := by decide +kernel
theorem d_X_count_139 : decode Y_X_count.2.1 139 = .ok (.getfield 21, 3) := by decide +kernel
theorem d_X_count_142 : decode Y_X_count.2.1 142 = .ok (.getfield 170, 3) := by decide +kernel
theorem d_X_count_145 : decode Y_X_count.2.1 145 = .ok (.iload_n 1, 1) := by decide +kernel
theorem d_X_count_146 : decode Y_X_count.2.1 146 = .ok (.bipush 10, 2) := by decide +kernel
theorem d_X_count_148 : decode Y_X_count.2.1 148 = .ok (.isub, 1) := by decide +kernel
theorem d_X_count_149 : decode Y_X_count.2.1 149 = .ok (.iaload, 1) := by decide +kernel
theorem d_X_count_150 : decode Y_X_count.2.1 150 = .ok (.goto 4, 3) := by decide +kernel
theorem d_X_count_153 : decode Y_X_count.2.1 153 = .ok (.iconst (-1), 1) := by decide +kernel
theorem d_X_count_154 : decode Y_X_count.2.1 154 = .ok (.ireturn, 1) := by decide +kernel
theorem d_M_sizeOf_0 : decode Y_M_sizeOf.2.1 0 = .ok (.iconst 0, 1) := by decide +kernel
theorem d_M_sizeOf_1 : decode Y_M_sizeOf.2.1 1 = .ok (.istore_n 1, 1) := by decide +kernel
theorem d_M_sizeOf_2 : decode Y_M_sizeOf.2.1 2 = .ok (.iload_n 0, 1) := by decide +kernel
theorem d_M_sizeOf_3 : decode Y_M_sizeOf.2.1 3 = .ok (.istore_n 2, 1) := by decide +kernel
theorem d_M_sizeOf_4 : decode Y_M_sizeOf.2.1 4 = .ok (.iload_n 2, 1) := by decide +kernel
theorem d_M_sizeOf_5 : decode Y_M_sizeOf.2.1 5 = .ok (.ifCond .eq 15, 3) := by decide +kernel
theorem d_M_sizeOf_8 : decode Y_M_sizeOf.2.1 8 = .ok (.iinc 1 1, 3) := by decide +kernel
theorem d_M_sizeOf_11 : decode Y_M_sizeOf.2.1 11 = .ok (.iload_n 2, 1) := by decide +kernel
theorem d_M_sizeOf_12 : decode Y_M_sizeOf.2.1 12 = .ok (.iload_n 2, 1) := by decide +kernel
theorem d_M_sizeOf_13 : decode Y_M_sizeOf.2.1 13 = .ok (.iconst 1, 1) := by decide +kernel
theorem d_M_sizeOf_14 : decode Y_M_sizeOf.2.1 14 = .ok (.isub, 1) := by decide +kernel
theorem d_M_sizeOf_15 : decode Y_M_sizeOf.2.1 15 = .ok (.iand, 1) := by decide +kernel
theorem d_M_sizeOf_16 : decode Y_M_sizeOf.2.1 16 = .ok (.istore_n 2, 1) := by decide +kernel
theorem d_M_sizeOf_17 : decode Y_M_sizeOf.2.1 17 = .ok (.goto (-13), 3) := by decide +kernel
theorem d_M_sizeOf_20 : decode Y_M_sizeOf.2.1 20 = .ok (.iload_n 1, 1) := by decide +kernel
theorem d_M_sizeOf_21 : decode Y_M_sizeOf.2.1 21 = .ok (.ireturn, 1) := by decide +kernel
theorem d_M_count_0 : decode Y_M_count.2.1 0 = .ok (.aload_n 0, 1) := by decide +kernel
theorem d_M_count_1 : decode Y_M_count.2.1 1 = .ok (.iload_n 1, 1) := by decide +kernel
theorem d_M_count_2 : decode Y_M_count.2.1 2 = .ok (.bipush 10, 2) := by decide +kernel
theorem d_M_count_4 : decode Y_M_count.2.1 4 = .ok (.isub, 1) := by decide +kernel
theorem d_M_count_5 : decode Y_M_count.2.1 5 = .ok (.invokevirtual 282, 3) := by decide +kernel
theorem d_M_count_8 : decode Y_M_count.2.1 8 = .ok (.ifCond .eq 13, 3) := by decide +kernel
theorem d_M_count_11 : decode Y_M_count.2.1 11 = .ok (.aload_n 0, 1) := by decide +kernel
theorem d_M_count_12 : decode Y_M_count.2.1 12 = .ok (.getfield 59, 3) := by decide +kernel
theorem d_M_count_15 : decode Y_M_count.2.1 15 = .ok (.iload_n 1, 1) := by decide +kernel
theorem d_M_count_16 : decode Y_M_count.2.1 16 = .ok (.bipush 10, 2) := by decide +kernel
theorem d_M_count_18 : decode Y_M_count.2.1 18 = .ok (.isub, 1) := by decide +kernel
theorem d_M_count_19 : decode Y_M_count.2.1 19 = .ok (.iaload, 1) := by decide +kernel
theorem d_M_count_20 : decode Y_M_count.2.1 20 = .ok (.ireturn, 1) := by decide +kernel
theorem d_M_count_21 : decode Y_M_count.2.1 21 = .ok (.iconst 0, 1) := by decide +kernel
theorem d_M_count_22 : decode Y_M_count.2.1 22 = .ok (.istore_n 2, 1) := by decide +kernel
theorem d_M_count_23 : decode Y_M_count.2.1 23 = .ok (.iconst 0, 1) := by decide +kernel
theorem d_M_count_24 : decode Y_M_count.2.1 24 = .ok (.istore_n 3, 1) := by decide +kernel
theorem d_M_count_25 : decode Y_M_count.2.1 25 = .ok (.iconst 0, 1) := by decide +kernel
theorem d_M_count_26 : decode Y_M_count.2.1 26 = .ok (.istore 4, 2) := by decide +kernel
theorem d_M_count_28 : decode Y_M_count.2.1 28 = .ok (.iload 4, 2) := by decide +kernel
theorem d_M_count_30 : decode Y_M_count.2.1 30 = .ok (.sipush 144, 3) := by decide +kernel
theorem d_M_count_33 : decode Y_M_count.2.1 33 = .ok (.if_icmp .ge 28, 3) := by decide +kernel
theorem d_M_count_36 : decode Y_M_count.2.1 36 = .ok (.iload_n 2, 1) := by decide +kernel
theorem d_M_count_37 : decode Y_M_count.2.1 37 = .ok (.aload_n 0, 1) := by decide +kernel
theorem d_M_count_38 : decode Y_M_count.2.1 38 = .ok (.getfield 13, 3) := by decide +kernel
theorem d_M_count_41 : decode Y_M_count.2.1 41 = .ok (.iload 4, 2) := by decide +kernel
theorem d_M_count_43 : decode Y_M_count.2.1 43 = .ok (.iaload, 1) := by decide +kernel
theorem d_M_count_44 : decode Y_M_count.2.1 44 = .ok (.iconst (-1), 1) := by decide +kernel
theorem d_M_count_45 : decode Y_M_count.2.1 45 = .ok (.if_icmp .eq 7, 3) := by decide +kernel
theorem d_M_count_48 : decode Y_M_count.2.1 48 = .ok (.iconst 1, 1) := by decide +kernel
theorem d_M_count_49 : decode Y_M_count.2.1 49 = .ok (.goto 4, 3) := by decide +kernel
theorem d_M_count_52 : decode Y_M_count.2.1 52 = .ok (.iconst 0, 1) := by decide +kernel
theorem d_M_count_53 : decode Y_M_count.2.1 53 = .ok (.iadd, 1) := by decide +kernel
theorem d_M_count_54 : decode Y_M_count.2.1 54 = .ok (.istore_n 2, 1) := by decide +kernel
theorem d_M_count_55 : decode Y_M_count.2.1 55 = .ok (.iinc 4 1, 3) := by decide +kernel
theorem d_M_count_58 : decode Y_M_count.2.1 58 = .ok (.goto (-30), 3) := by decide +kernel
theorem d_M_count_61 : decode Y_M_count.2.1 61 = .ok (.iconst 0, 1) := by decide +kernel
theorem d_M_count_62 : decode Y_M_count.2.1 62 = .ok (.istore 4, 2) := by decide +kernel
theorem d_M_count_64 : decode Y_M_count.2.1 64 = .ok (.iload 4, 2) := by decide +kernel
theorem d_M_count_66 : decode Y_M_count.2.1 66 = .ok (.bipush 24, 2) := by decide +kernel
theorem d_M_count_68 : decode Y_M_count.2.1 68 = .ok (.if_icmp .ge 28, 3) := by decide +kernel
theorem d_M_count_71 : decode Y_M_count.2.1 71 = .ok (.iload_n 3, 1) := by decide +kernel
theorem d_M_count_72 : decode Y_M_count.2.1 72 = .ok (.aload_n 0, 1) := by decide +kernel
theorem d_M_count_73 : decode Y_M_count.2.1 73 = .ok (.getfield 30, 3) := by decide +kernel
theorem d_M_count_76 : decode Y_M_count.2.1 76 = .ok (.iload 4, 2) := by decide +kernel
theorem d_M_count_78 : decode Y_M_count.2.1 78 = .ok (.iaload, 1) := by decide +kernel
theorem d_M_count_79 : decode Y_M_count.2.1 79 = .ok (.iconst (-1), 1) := by decide +kernel
theorem d_M_count_80 : decode Y_M_count.2.1 80 = .ok (.if_icmp .eq 7, 3) := by decide +kernel
theorem d_M_count_83 : decode Y_M_count.2.1 83 = .ok (.iconst 1, 1) := by decide +kernel
theorem d_M_count_84 : decode Y_M_count.2.1 84 = .ok (.goto 4, 3) := by decide +kernel
theorem d_M_count_87 : decode Y_M_count.2.1 87 = .ok (.iconst 0, 1) := by decide +kernel
theorem d_M_count_88 : decode Y_M_count.2.1 88 = .ok (.iadd, 1) := by decide +kernel
theorem d_M_count_89 : decode Y_M_count.2.1 89 = .ok (.istore_n 3, 1) := by decide +kernel
theorem d_M_count_90 : decode Y_M_count.2.1 90 = .ok (.iinc 4 1, 3) := by decide +kernel
theorem d_M_count_93 : decode Y_M_count.2.1 93 = .ok (.goto (-29), 3) := by decide +kernel
theorem d_M_count_96 : decode Y_M_count.2.1 96 = .ok (.iload_n 1, 1) := by decide +kernel
theorem d_M_count_97 : decode Y_M_count.2.1 97 = .ok (.tableswitch 84 0 7 #[47, 52, 57, 62, 64, 66, 71, 76], 47) := by decide +kernel
theorem d_M_count_144 : decode Y_M_count.2.1 144 = .ok (.aload_n 0, 1) := by decide +kernel
theorem d_M_count_145 : decode Y_M_count.2.1 145 = .ok (.getfield 275, 3) := by decide +kernel
theorem d_M_count_148 : decode Y_M_count.2.1 148 = .ok (.ireturn, 1) := by decide +kernel
theorem d_M_count_149 : decode Y_M_count.2.1 149 = .ok (.aload_n 0, 1) := by decide +kernel
theorem d_M_count_150 : decode Y_M_count.2.1 150 = .ok (.getfield 305, 3) := by decide +kernel
theorem d_M_count_153 : decode Y_M_count.2.1 153 = .ok (.ireturn, 1) := by decide +kernel
theorem d_M_count_154 : decode Y_M_count.2.1 154 = .ok (.aload_n 0, 1) := by decide +kernel
theorem d_M_count_155 : decode Y_M_count.2.1 155 = .ok (.getfield 416, 3) := by decide +kernel
theorem d_M_count_158 : decode Y_M_count.2.1 158 = .ok (.ireturn, 1) := by decide +kernel
theorem d_M_count_159 : decode Y_M_count.2.1 159 = .ok (.iload_n 2, 1) := by decide +kernel
theorem d_M_count_160 : decode Y_M_count.2.1 160 = .ok (.ireturn, 1) := by decide +kernel
theorem d_M_count_161 : decode Y_M_count.2.1 161 = .ok (.iload_n 3, 1) := by decide +kernel
theorem d_M_count_162 : decode Y_M_count.2.1 162 = .ok (.ireturn, 1) := by decide +kernel
theorem d_M_count_163 : decode Y_M_count.2.1 163 = .ok (.aload_n 0, 1) := by decide +kernel
theorem d_M_count_164 : decode Y_M_count.2.1 164 = .ok (.getfield 52, 3) := by decide +kernel
theorem d_M_count_167 : decode Y_M_count.2.1 167 = .ok (.ireturn, 1) := by decide +kernel
theorem d_M_count_168 : decode Y_M_count.2.1 168 = .ok (.aload_n 0, 1) := by decide +kernel
theorem d_M_count_169 : decode Y_M_count.2.1 169 = .ok (.getfield 297, 3) := by decide +kernel
theorem d_M_count_172 : decode Y_M_count.2.1 172 = .ok (.ireturn, 1) := by decide +kernel
theorem d_M_count_173 : decode Y_M_count.2.1 173 = .ok (.aload_n 0, 1) := by decide +kernel
theorem d_M_count_174 : decode Y_M_count.2.1 174 = .ok (.getfield 302, 3) := by decide +kernel
theorem d_M_count_177 : decode Y_M_count.2.1 177 = .ok (.invokestatic 583, 3) := by decide +kernel
theorem d_M_count_180 : decode Y_M_count.2.1 180 = .ok (.ireturn, 1) := by decide +kernel
theorem d_M_count_181 : decode Y_M_count.2.1 181 = .ok (.iconst (-1), 1) := by decide +kernel
theorem d_M_count_182 : decode Y_M_count.2.1 182 = .ok (.ireturn, 1) := by decide +kernel
