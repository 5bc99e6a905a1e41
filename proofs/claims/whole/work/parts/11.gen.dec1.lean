/-! PRINTED: what each place of the code decodes to -/
theorem d_Wa_leastRow_0 : decode Y_Wa_leastRow.2.1 0 = .ok (.aload_n 0, 1) := by decide +kernel
theorem d_Wa_leastRow_1 : decode Y_Wa_leastRow.2.1 1 = .ok (.aload_n 0, 1) := by decide +kernel
theorem d_Wa_leastRow_2 : decode Y_Wa_leastRow.2.1 2 = .ok (.getfield 45, 3) := by decide +kernel
theorem d_Wa_leastRow_5 : decode Y_Wa_leastRow.2.1 5 = .ok (.iconst 0, 1) := by decide +kernel
theorem d_Wa_leastRow_6 : decode Y_Wa_leastRow.2.1 6 = .ok (.invokevirtual 84, 3) := by decide +kernel
theorem d_Wa_leastRow_9 : decode Y_Wa_leastRow.2.1 9 = .ok (.istore_n 2, 1) := by decide +kernel
theorem d_Wa_leastRow_10 : decode Y_Wa_leastRow.2.1 10 = .ok (.iload_n 2, 1) := by decide +kernel
theorem d_Wa_leastRow_11 : decode Y_Wa_leastRow.2.1 11 = .ok (.iconst (-1), 1) := by decide +kernel
theorem d_Wa_leastRow_12 : decode Y_Wa_leastRow.2.1 12 = .ok (.if_icmp .ne 5, 3) := by decide +kernel
theorem d_Wa_leastRow_15 : decode Y_Wa_leastRow.2.1 15 = .ok (.iconst 0, 1) := by decide +kernel
theorem d_Wa_leastRow_16 : decode Y_Wa_leastRow.2.1 16 = .ok (.ireturn, 1) := by decide +kernel
theorem d_Wa_leastRow_17 : decode Y_Wa_leastRow.2.1 17 = .ok (.aload_n 0, 1) := by decide +kernel
theorem d_Wa_leastRow_18 : decode Y_Wa_leastRow.2.1 18 = .ok (.iload_n 1, 1) := by decide +kernel
theorem d_Wa_leastRow_19 : decode Y_Wa_leastRow.2.1 19 = .ok (.invokevirtual 87, 3) := by decide +kernel
theorem d_Wa_leastRow_22 : decode Y_Wa_leastRow.2.1 22 = .ok (.aload_n 0, 1) := by decide +kernel
theorem d_Wa_leastRow_23 : decode Y_Wa_leastRow.2.1 23 = .ok (.getfield 17, 3) := by decide +kernel
theorem d_Wa_leastRow_26 : decode Y_Wa_leastRow.2.1 26 = .ok (.ldc 66, 2) := by decide +kernel
theorem d_Wa_leastRow_28 : decode Y_Wa_leastRow.2.1 28 = .ok (.invokestatic 91, 3) := by decide +kernel
theorem d_Wa_leastRow_31 : decode Y_Wa_leastRow.2.1 31 = .ok (.aload_n 0, 1) := by decide +kernel
theorem d_Wa_leastRow_32 : decode Y_Wa_leastRow.2.1 32 = .ok (.getfield 17, 3) := by decide +kernel
theorem d_Wa_leastRow_35 : decode Y_Wa_leastRow.2.1 35 = .ok (.iload_n 2, 1) := by decide +kernel
theorem d_Wa_leastRow_36 : decode Y_Wa_leastRow.2.1 36 = .ok (.iconst 0, 1) := by decide +kernel
theorem d_Wa_leastRow_37 : decode Y_Wa_leastRow.2.1 37 = .ok (.iastore, 1) := by decide +kernel
theorem d_Wa_leastRow_38 : decode Y_Wa_leastRow.2.1 38 = .ok (.aload_n 0, 1) := by decide +kernel
theorem d_Wa_leastRow_39 : decode Y_Wa_leastRow.2.1 39 = .ok (.getfield 45, 3) := by decide +kernel
theorem d_Wa_leastRow_42 : decode Y_Wa_leastRow.2.1 42 = .ok (.istore_n 3, 1) := by decide +kernel
theorem d_Wa_leastRow_43 : decode Y_Wa_leastRow.2.1 43 = .ok (.iload_n 3, 1) := by decide +kernel
theorem d_Wa_leastRow_44 : decode Y_Wa_leastRow.2.1 44 = .ok (.iconst 1, 1) := by decide +kernel
theorem d_Wa_leastRow_45 : decode Y_Wa_leastRow.2.1 45 = .ok (.if_icmp .lt 33, 3) := by decide +kernel
theorem d_Wa_leastRow_48 : decode Y_Wa_leastRow.2.1 48 = .ok (.iconst 0, 1) := by decide +kernel
theorem d_Wa_leastRow_49 : decode Y_Wa_leastRow.2.1 49 = .ok (.istore 4, 2) := by decide +kernel
theorem d_Wa_leastRow_51 : decode Y_Wa_leastRow.2.1 51 = .ok (.iload 4, 2) := by decide +kernel
theorem d_Wa_leastRow_53 : decode Y_Wa_leastRow.2.1 53 = .ok (.bipush 7, 2) := by decide +kernel
theorem d_Wa_leastRow_55 : decode Y_Wa_leastRow.2.1 55 = .ok (.if_icmp .ge 17, 3) := by decide +kernel
theorem d_Wa_leastRow_58 : decode Y_Wa_leastRow.2.1 58 = .ok (.aload_n 0, 1) := by decide +kernel
theorem d_Wa_leastRow_59 : decode Y_Wa_leastRow.2.1 59 = .ok (.iload_n 3, 1) := by decide +kernel
theorem d_Wa_leastRow_60 : decode Y_Wa_leastRow.2.1 60 = .ok (.iload 4, 2) := by decide +kernel
theorem d_Wa_leastRow_62 : decode Y_Wa_leastRow.2.1 62 = .ok (.iconst 0, 1) := by decide +kernel
theorem d_Wa_leastRow_63 : decode Y_Wa_leastRow.2.1 63 = .ok (.invokevirtual 97, 3) := by decide +kernel
theorem d_Wa_leastRow_66 : decode Y_Wa_leastRow.2.1 66 = .ok (.iinc 4 1, 3) := by decide +kernel
theorem d_Wa_leastRow_69 : decode Y_Wa_leastRow.2.1 69 = .ok (.goto (-18), 3) := by decide +kernel
theorem d_Wa_leastRow_72 : decode Y_Wa_leastRow.2.1 72 = .ok (.iinc 3 (-1), 3) := by decide +kernel
theorem d_Wa_leastRow_75 : decode Y_Wa_leastRow.2.1 75 = .ok (.goto (-32), 3) := by decide +kernel
theorem d_Wa_leastRow_78 : decode Y_Wa_leastRow.2.1 78 = .ok (.aload_n 0, 1) := by decide +kernel
theorem d_Wa_leastRow_79 : decode Y_Wa_leastRow.2.1 79 = .ok (.aload_n 0, 1) := by decide +kernel
theorem d_Wa_leastRow_80 : decode Y_Wa_leastRow.2.1 80 = .ok (.getfield 17, 3) := by decide +kernel
theorem d_Wa_leastRow_83 : decode Y_Wa_leastRow.2.1 83 = .ok (.iconst 0, 1) := by decide +kernel
theorem d_Wa_leastRow_84 : decode Y_Wa_leastRow.2.1 84 = .ok (.iaload, 1) := by decide +kernel
theorem d_Wa_leastRow_85 : decode Y_Wa_leastRow.2.1 85 = .ok (.putfield 101, 3) := by decide +kernel
theorem d_Wa_leastRow_88 : decode Y_Wa_leastRow.2.1 88 = .ok (.aload_n 0, 1) := by decide +kernel
theorem d_Wa_leastRow_89 : decode Y_Wa_leastRow.2.1 89 = .ok (.getfield 101, 3) := by decide +kernel
theorem d_Wa_leastRow_92 : decode Y_Wa_leastRow.2.1 92 = .ok (.ldc 66, 2) := by decide +kernel
theorem d_Wa_leastRow_94 : decode Y_Wa_leastRow.2.1 94 = .ok (.if_icmp .eq 14, 3) := by decide +kernel
theorem d_Wa_leastRow_97 : decode Y_Wa_leastRow.2.1 97 = .ok (.aload_n 0, 1) := by decide +kernel
theorem d_Wa_leastRow_98 : decode Y_Wa_leastRow.2.1 98 = .ok (.invokevirtual 104, 3) := by decide +kernel
theorem d_Wa_leastRow_101 : decode Y_Wa_leastRow.2.1 101 = .ok (.ifCond .eq 7, 3) := by decide +kernel
theorem d_Wa_leastRow_104 : decode Y_Wa_leastRow.2.1 104 = .ok (.iconst 1, 1) := by decide +kernel
theorem d_Wa_leastRow_105 : decode Y_Wa_leastRow.2.1 105 = .ok (.goto 4, 3) := by decide +kernel
theorem d_Wa_leastRow_108 : decode Y_Wa_leastRow.2.1 108 = .ok (.iconst 0, 1) := by decide +kernel
theorem d_Wa_leastRow_109 : decode Y_Wa_leastRow.2.1 109 = .ok (.ireturn, 1) := by decide +kernel
theorem d_Wa_told_0 : decode Y_Wa_told.2.1 0 = .ok (.iload_n 1, 1) := by decide +kernel
theorem d_Wa_told_1 : decode Y_Wa_told.2.1 1 = .ok (.iconst 1, 1) := by decide +kernel
theorem d_Wa_told_2 : decode Y_Wa_told.2.1 2 = .ok (.if_icmp .lt 18, 3) := by decide +kernel
theorem d_Wa_told_5 : decode Y_Wa_told.2.1 5 = .ok (.iload_n 1, 1) := by decide +kernel
theorem d_Wa_told_6 : decode Y_Wa_told.2.1 6 = .ok (.bipush 24, 2) := by decide +kernel
theorem d_Wa_told_8 : decode Y_Wa_told.2.1 8 = .ok (.if_icmp .ge 12, 3) := by decide +kernel
theorem d_Wa_told_11 : decode Y_Wa_told.2.1 11 = .ok (.aload_n 0, 1) := by decide +kernel
theorem d_Wa_told_12 : decode Y_Wa_told.2.1 12 = .ok (.getfield 32, 3) := by decide +kernel
theorem d_Wa_told_15 : decode Y_Wa_told.2.1 15 = .ok (.iload_n 1, 1) := by decide +kernel
theorem d_Wa_told_16 : decode Y_Wa_told.2.1 16 = .ok (.iaload, 1) := by decide +kernel
theorem d_Wa_told_17 : decode Y_Wa_told.2.1 17 = .ok (.goto 7, 3) := by decide +kernel
theorem d_Wa_told_20 : decode Y_Wa_told.2.1 20 = .ok (.aload_n 0, 1) := by decide +kernel
theorem d_Wa_told_21 : decode Y_Wa_told.2.1 21 = .ok (.getfield 101, 3) := by decide +kernel
theorem d_Wa_told_24 : decode Y_Wa_told.2.1 24 = .ok (.ireturn, 1) := by decide +kernel
theorem d_X_way_0 : decode Y_X_way.2.1 0 = .ok (.aload_n 0, 1) := by decide +kernel
theorem d_X_way_1 : decode Y_X_way.2.1 1 = .ok (.iload_n 1, 1) := by decide +kernel
theorem d_X_way_2 : decode Y_X_way.2.1 2 = .ok (.invokevirtual 142, 3) := by decide +kernel
theorem d_X_way_5 : decode Y_X_way.2.1 5 = .ok (.ifCond .ne 6, 3) := by decide +kernel
theorem d_X_way_8 : decode Y_X_way.2.1 8 = .ok (.ldc 102, 2) := by decide +kernel
theorem d_X_way_10 : decode Y_X_way.2.1 10 = .ok (.ireturn, 1) := by decide +kernel
theorem d_X_way_11 : decode Y_X_way.2.1 11 = .ok (.aload_n 0, 1) := by decide +kernel
theorem d_X_way_12 : decode Y_X_way.2.1 12 = .ok (.invokevirtual 146, 3) := by decide +kernel
theorem d_X_way_15 : decode Y_X_way.2.1 15 = .ok (.astore_n 2, 1) := by decide +kernel
theorem d_X_way_16 : decode Y_X_way.2.1 16 = .ok (.aload_n 2, 1) := by decide +kernel
theorem d_X_way_17 : decode Y_X_way.2.1 17 = .ok (.ifnull 19, 3) := by decide +kernel
theorem d_X_way_20 : decode Y_X_way.2.1 20 = .ok (.aload_n 2, 1) := by decide +kernel
theorem d_X_way_21 : decode Y_X_way.2.1 21 = .ok (.iconst 0, 1) := by decide +kernel
theorem d_X_way_22 : decode Y_X_way.2.1 22 = .ok (.invokevirtual 150, 3) := by decide +kernel
theorem d_X_way_25 : decode Y_X_way.2.1 25 = .ok (.ifCond .eq 11, 3) := by decide +kernel
theorem d_X_way_28 : decode Y_X_way.2.1 28 = .ok (.aload_n 2, 1) := by decide +kernel
theorem d_X_way_29 : decode Y_X_way.2.1 29 = .ok (.iload_n 1, 1) := by decide +kernel
theorem d_X_way_30 : decode Y_X_way.2.1 30 = .ok (.invokevirtual 156, 3) := by decide +kernel
theorem d_X_way_33 : decode Y_X_way.2.1 33 = .ok (.goto 5, 3) := by decide +kernel
theorem d_X_way_36 : decode Y_X_way.2.1 36 = .ok (.bipush (-2), 2) := by decide +kernel
theorem d_X_way_38 : decode Y_X_way.2.1 38 = .ok (.ireturn, 1) := by decide +kernel
theorem d_M_placeOf_0 : decode Y_M_placeOf.2.1 0 = .ok (.iconst 0, 1) := by decide +kernel
theorem d_M_placeOf_1 : decode Y_M_placeOf.2.1 1 = .ok (.istore 5, 2) := by decide +kernel
theorem d_M_placeOf_3 : decode Y_M_placeOf.2.1 3 = .ok (.iload 5, 2) := by decide +kernel
theorem d_M_placeOf_5 : decode Y_M_placeOf.2.1 5 = .ok (.aload_n 0, 1) := by decide +kernel
theorem d_M_placeOf_6 : decode Y_M_placeOf.2.1 6 = .ok (.getfield 33, 3) := by decide +kernel
theorem d_M_placeOf_9 : decode Y_M_placeOf.2.1 9 = .ok (.iload_n 1, 1) := by decide +kernel
theorem d_M_placeOf_10 : decode Y_M_placeOf.2.1 10 = .ok (.iaload, 1) := by decide +kernel
theorem d_M_placeOf_11 : decode Y_M_placeOf.2.1 11 = .ok (.if_icmp .ge 56, 3) := by decide +kernel
theorem d_M_placeOf_14 : decode Y_M_placeOf.2.1 14 = .ok (.sipush 300, 3) := by decide +kernel
theorem d_M_placeOf_17 : decode Y_M_placeOf.2.1 17 = .ok (.iload_n 1, 1) := by decide +kernel
theorem d_M_placeOf_18 : decode Y_M_placeOf.2.1 18 = .ok (.imul, 1) := by decide +kernel
theorem d_M_placeOf_19 : decode Y_M_placeOf.2.1 19 = .ok (.iload 5, 2) := by decide +kernel
theorem d_M_placeOf_21 : decode Y_M_placeOf.2.1 21 = .ok (.iadd, 1) := by decide +kernel
theorem d_M_placeOf_22 : decode Y_M_placeOf.2.1 22 = .ok (.istore 6, 2) := by decide +kernel
theorem d_M_placeOf_24 : decode Y_M_placeOf.2.1 24 = .ok (.aload_n 0, 1) := by decide +kernel
theorem d_M_placeOf_25 : decode Y_M_placeOf.2.1 25 = .ok (.getfield 36, 3) := by decide +kernel
theorem d_M_placeOf_28 : decode Y_M_placeOf.2.1 28 = .ok (.iload 6, 2) := by decide +kernel
theorem d_M_placeOf_30 : decode Y_M_placeOf.2.1 30 = .ok (.iaload, 1) := by decide +kernel
theorem d_M_placeOf_31 : decode Y_M_placeOf.2.1 31 = .ok (.iload_n 2, 1) := by decide +kernel
theorem d_M_placeOf_32 : decode Y_M_placeOf.2.1 32 = .ok (.if_icmp .ne 29, 3) := by decide +kernel
theorem d_M_placeOf_35 : decode Y_M_placeOf.2.1 35 = .ok (.aload_n 0, 1) := by decide +kernel
theorem d_M_placeOf_36 : decode Y_M_placeOf.2.1 36 = .ok (.getfield 39, 3) := by decide +kernel
theorem d_M_placeOf_39 : decode Y_M_placeOf.2.1 39 = .ok (.iload 6, 2) := by decide +kernel
theorem d_M_placeOf_41 : decode Y_M_placeOf.2.1 41 = .ok (.iaload, 1) := by decide +kernel
theorem d_M_placeOf_42 : decode Y_M_placeOf.2.1 42 = .ok (.iload_n 3, 1) := by decide +kernel
theorem d_M_placeOf_43 : decode Y_M_placeOf.2.1 43 = .ok (.if_icmp .ne 18, 3) := by decide +kernel
theorem d_M_placeOf_46 : decode Y_M_placeOf.2.1 46 = .ok (.aload_n 0, 1) := by decide +kernel
theorem d_M_placeOf_47 : decode Y_M_placeOf.2.1 47 = .ok (.getfield 42, 3) := by decide +kernel
theorem d_M_placeOf_50 : decode Y_M_placeOf.2.1 50 = .ok (.iload 6, 2) := by decide +kernel
theorem d_M_placeOf_52 : decode Y_M_placeOf.2.1 52 = .ok (.iaload, 1) := by decide +kernel
theorem d_M_placeOf_53 : decode Y_M_placeOf.2.1 53 = .ok (.iload 4, 2) := by decide +kernel
theorem d_M_placeOf_55 : decode Y_M_placeOf.2.1 55 = .ok (.if_icmp .ne 6, 3) := by decide +kernel
theorem d_M_placeOf_58 : decode Y_M_placeOf.2.1 58 = .ok (.iload 5, 2) := by decide +kernel
theorem d_M_placeOf_60 : decode Y_M_placeOf.2.1 60 = .ok (.ireturn, 1) := by decide +kernel
theorem d_M_placeOf_61 : decode Y_M_placeOf.2.1 61 = .ok (.iinc 5 1, 3) := by decide +kernel
theorem d_M_placeOf_64 : decode Y_M_placeOf.2.1 64 = .ok (.goto (-61), 3) := by decide +kernel
theorem d_M_placeOf_67 : decode Y_M_placeOf.2.1 67 = .ok (.aload_n 0, 1) := by decide +kernel
theorem d_M_placeOf_68 : decode Y_M_placeOf.2.1 68 = .ok (.getfield 33, 3) := by decide +kernel
theorem d_M_placeOf_71 : decode Y_M_placeOf.2.1 71 = .ok (.iload_n 1, 1) := by decide +kernel
theorem d_M_placeOf_72 : decode Y_M_placeOf.2.1 72 = .ok (.iaload, 1) := by decide +kernel
theorem d_M_placeOf_73 : decode Y_M_placeOf.2.1 73 = .ok (.sipush 300, 3) := by decide +kernel
theorem d_M_placeOf_76 : decode Y_M_placeOf.2.1 76 = .ok (.if_icmp .ne 5, 3) := by decide +kernel
theorem d_M_placeOf_79 : decode Y_M_placeOf.2.1 79 = .ok (.iconst (-1), 1) := by decide +kernel
theorem d_M_placeOf_80 : decode Y_M_placeOf.2.1 80 = .ok (.ireturn, 1) := by decide +kernel
theorem d_M_placeOf_81 : decode Y_M_placeOf.2.1 81 = .ok (.sipush 300, 3) := by decide +kernel
theorem d_M_placeOf_84 : decode Y_M_placeOf.2.1 84 = .ok (.iload_n 1, 1) := by decide +kernel
theorem d_M_placeOf_85 : decode Y_M_placeOf.2.1 85 = .ok (.imul, 1) := by decide +kernel
theorem d_M_placeOf_86 : decode Y_M_placeOf.2.1 86 = .ok (.aload_n 0, 1) := by decide +kernel
theorem d_M_placeOf_87 : decode Y_M_placeOf.2.1 87 = .ok (.getfield 33, 3) := by decide +kernel
theorem d_M_placeOf_90 : decode Y_M_placeOf.2.1 90 = .ok (.iload_n 1, 1) := by decide +kernel
theorem d_M_placeOf_91 : decode Y_M_placeOf.2.1 91 = .ok (.iaload, 1) := by decide +kernel
theorem d_M_placeOf_92 : decode Y_M_placeOf.2.1 92 = .ok (.iadd, 1) := by decide +kernel
theorem d_M_placeOf_93 : decode Y_M_placeOf.2.1 93 = .ok (.istore 5, 2) := by decide +kernel
theorem d_M_placeOf_95 : decode Y_M_placeOf.2.1 95 = .ok (.aload_n 0, 1) := by decide +kernel
theorem d_M_placeOf_96 : decode Y_M_placeOf.2.1 96 = .ok (.getfield 36, 3) := by decide +kernel
theorem d_M_placeOf_99 : decode Y_M_placeOf.2.1 99 = .ok (.iload 5, 2) := by decide +kernel
theorem d_M_placeOf_101 : decode Y_M_placeOf.2.1 101 = .ok (.iload_n 2, 1) := by decide +kernel
theorem d_M_placeOf_102 : decode Y_M_placeOf.2.1 102 = .ok (.iastore, 1) := by decide +kernel
theorem d_M_placeOf_103 : decode Y_M_placeOf.2.1 103 = .ok (.aload_n 0, 1) := by decide +kernel
theorem d_M_placeOf_104 : decode Y_M_placeOf.2.1 104 = .ok (.getfield 39, 3) := by decide +kernel
theorem d_M_placeOf_107 : decode Y_M_placeOf.2.1 107 = .ok (.iload 5, 2) := by decide +kernel
theorem d_M_placeOf_109 : decode Y_M_placeOf.2.1 109 = .ok (.iload_n 3, 1) := by decide +kernel
theorem d_M_placeOf_110 : decode Y_M_placeOf.2.1 110 = .ok (.iastore, 1) := by decide +kernel
theorem d_M_placeOf_111 : decode Y_M_placeOf.2.1 111 = .ok (.aload_n 0, 1) := by decide +kernel
theorem d_M_placeOf_112 : decode Y_M_placeOf.2.1 112 = .ok (.getfield 42, 3) := by decide +kernel
theorem d_M_placeOf_115 : decode Y_M_placeOf.2.1 115 = .ok (.iload 5, 2) := by decide +kernel
theorem d_M_placeOf_117 : decode Y_M_placeOf.2.1 117 = .ok (.iload 4, 2) := by decide +kernel
theorem d_M_placeOf_119 : decode Y_M_placeOf.2.1 119 = .ok (.iastore, 1) := by decide +kernel
theorem d_M_placeOf_120 : decode Y_M_placeOf.2.1 120 = .ok (.aload_n 0, 1) := by decide +kernel
theorem d_M_placeOf_121 : decode Y_M_placeOf.2.1 121 = .ok (.getfield 33, 3) := by decide +kernel
theorem d_M_placeOf_124 : decode Y_M_placeOf.2.1 124 = .ok (.iload_n 1, 1) := by decide +kernel
theorem d_M_placeOf_125 : decode Y_M_placeOf.2.1 125 = .ok (.dup2, 1) := by decide +kernel
theorem d_M_placeOf_126 : decode Y_M_placeOf.2.1 126 = .ok (.iaload, 1) := by decide +kernel
theorem d_M_placeOf_127 : decode Y_M_placeOf.2.1 127 = .ok (.iconst 1, 1) := by decide +kernel
theorem d_M_placeOf_128 : decode Y_M_placeOf.2.1 128 = .ok (.iadd, 1) := by decide +kernel
theorem d_M_placeOf_129 : decode Y_M_placeOf.2.1 129 = .ok (.iastore, 1) := by decide +kernel
theorem d_M_placeOf_130 : decode Y_M_placeOf.2.1 130 = .ok (.aload_n 0, 1) := by decide +kernel
theorem d_M_placeOf_131 : decode Y_M_placeOf.2.1 131 = .ok (.getfield 33, 3) := by decide +kernel
theorem d_M_placeOf_134 : decode Y_M_placeOf.2.1 134 = .ok (.iload_n 1, 1) := by decide +kernel
theorem d_M_placeOf_135 : decode Y_M_placeOf.2.1 135 = .ok (.iaload, 1) := by decide +kernel
theorem d_M_placeOf_136 : decode Y_M_placeOf.2.1 136 = .ok (.iconst 1, 1) := by decide +kernel
theorem d_M_placeOf_137 : decode Y_M_placeOf.2.1 137 = .ok (.isub, 1) := by decide +kernel
theorem d_M_placeOf_138 : decode Y_M_placeOf.2.1 138 = .ok (.ireturn, 1) := by decide +kernel
theorem d_M_mayLink_0 : decode Y_M_mayLink.2.1 0 = .ok (.iload_n 2, 1) := by decide +kernel
theorem d_M_mayLink_1 : decode Y_M_mayLink.2.1 1 = .ok (.iconst (-1), 1) := by decide +kernel
theorem d_M_mayLink_2 : decode Y_M_mayLink.2.1 2 = .ok (.if_icmp .eq 12, 3) := by decide +kernel
theorem d_M_mayLink_5 : decode Y_M_mayLink.2.1 5 = .ok (.aload_n 0, 1) := by decide +kernel
theorem d_M_mayLink_6 : decode Y_M_mayLink.2.1 6 = .ok (.iload_n 2, 1) := by decide +kernel
theorem d_M_mayLink_7 : decode Y_M_mayLink.2.1 7 = .ok (.iload_n 1, 1) := by decide +kernel
theorem d_M_mayLink_8 : decode Y_M_mayLink.2.1 8 = .ok (.invokevirtual 193, 3) := by decide +kernel
theorem d_M_mayLink_11 : decode Y_M_mayLink.2.1 11 = .ok (.ifCond .eq 7, 3) := by decide +kernel
theorem d_M_mayLink_14 : decode Y_M_mayLink.2.1 14 = .ok (.iconst 1, 1) := by decide +kernel
theorem d_M_mayLink_15 : decode Y_M_mayLink.2.1 15 = .ok (.goto 4, 3) := by decide +kernel
theorem d_M_mayLink_18 : decode Y_M_mayLink.2.1 18 = .ok (.iconst 0, 1) := by decide +kernel
theorem d_M_mayLink_19 : decode Y_M_mayLink.2.1 19 = .ok (.ireturn, 1) := by decide +kernel
theorem d_M_nextOf_0 : decode Y_M_nextOf.2.1 0 = .ok (.sipush 300, 3) := by decide +kernel
theorem d_M_nextOf_3 : decode Y_M_nextOf.2.1 3 = .ok (.iload_n 1, 1) := by decide +kernel
theorem d_M_nextOf_4 : decode Y_M_nextOf.2.1 4 = .ok (.iconst 1, 1) := by decide +kernel
theorem d_M_nextOf_5 : decode Y_M_nextOf.2.1 5 = .ok (.isub, 1) := by decide +kernel
theorem d_M_nextOf_6 : decode Y_M_nextOf.2.1 6 = .ok (.imul, 1) := by decide +kernel
theorem d_M_nextOf_7 : decode Y_M_nextOf.2.1 7 = .ok (.iload_n 2, 1) := by decide +kernel
theorem d_M_nextOf_8 : decode Y_M_nextOf.2.1 8 = .ok (.iadd, 1) := by decide +kernel
theorem d_M_nextOf_9 : decode Y_M_nextOf.2.1 9 = .ok (.istore 4, 2) := by decide +kernel
theorem d_M_nextOf_11 : decode Y_M_nextOf.2.1 11 = .ok (.aload_n 0, 1) := by decide +kernel
theorem d_M_nextOf_12 : decode Y_M_nextOf.2.1 12 = .ok (.iload_n 1, 1) := by decide +kernel
theorem d_M_nextOf_13 : decode Y_M_nextOf.2.1 13 = .ok (.aload_n 0, 1) := by decide +kernel
theorem d_M_nextOf_14 : decode Y_M_nextOf.2.1 14 = .ok (.getfield 36, 3) := by decide +kernel
theorem d_M_nextOf_17 : decode Y_M_nextOf.2.1 17 = .ok (.iload 4, 2) := by decide +kernel
theorem d_M_nextOf_19 : decode Y_M_nextOf.2.1 19 = .ok (.iaload, 1) := by decide +kernel
theorem d_M_nextOf_20 : decode Y_M_nextOf.2.1 20 = .ok (.aload_n 0, 1) := by decide +kernel
theorem d_M_nextOf_21 : decode Y_M_nextOf.2.1 21 = .ok (.aload_n 0, 1) := by decide +kernel
theorem d_M_nextOf_22 : decode Y_M_nextOf.2.1 22 = .ok (.getfield 17, 3) := by decide +kernel
theorem d_M_nextOf_25 : decode Y_M_nextOf.2.1 25 = .ok (.iload_n 3, 1) := by decide +kernel
theorem d_M_nextOf_26 : decode Y_M_nextOf.2.1 26 = .ok (.iload_n 1, 1) := by decide +kernel
theorem d_M_nextOf_27 : decode Y_M_nextOf.2.1 27 = .ok (.invokevirtual 211, 3) := by decide +kernel
theorem d_M_nextOf_30 : decode Y_M_nextOf.2.1 30 = .ok (.iadd, 1) := by decide +kernel
theorem d_M_nextOf_31 : decode Y_M_nextOf.2.1 31 = .ok (.aload_n 0, 1) := by decide +kernel
theorem d_M_nextOf_32 : decode Y_M_nextOf.2.1 32 = .ok (.getfield 39, 3) := by decide +kernel
theorem d_M_nextOf_35 : decode Y_M_nextOf.2.1 35 = .ok (.iload 4, 2) := by decide +kernel
theorem d_M_nextOf_37 : decode Y_M_nextOf.2.1 37 = .ok (.iaload, 1) := by decide +kernel
theorem d_M_nextOf_38 : decode Y_M_nextOf.2.1 38 = .ok (.aload_n 0, 1) := by decide +kernel
theorem d_M_nextOf_39 : decode Y_M_nextOf.2.1 39 = .ok (.aload_n 0, 1) := by decide +kernel
theorem d_M_nextOf_40 : decode Y_M_nextOf.2.1 40 = .ok (.getfield 20, 3) := by decide +kernel
theorem d_M_nextOf_43 : decode Y_M_nextOf.2.1 43 = .ok (.iload_n 3, 1) := by decide +kernel
theorem d_M_nextOf_44 : decode Y_M_nextOf.2.1 44 = .ok (.iload_n 1, 1) := by decide +kernel
theorem d_M_nextOf_45 : decode Y_M_nextOf.2.1 45 = .ok (.invokevirtual 211, 3) := by decide +kernel
theorem d_M_nextOf_48 : decode Y_M_nextOf.2.1 48 = .ok (.iadd, 1) := by decide +kernel
theorem d_M_nextOf_49 : decode Y_M_nextOf.2.1 49 = .ok (.aload_n 0, 1) := by decide +kernel
theorem d_M_nextOf_50 : decode Y_M_nextOf.2.1 50 = .ok (.getfield 42, 3) := by decide +kernel
theorem d_M_nextOf_53 : decode Y_M_nextOf.2.1 53 = .ok (.iload 4, 2) := by decide +kernel
theorem d_M_nextOf_55 : decode Y_M_nextOf.2.1 55 = .ok (.iaload, 1) := by decide +kernel
theorem d_M_nextOf_56 : decode Y_M_nextOf.2.1 56 = .ok (.aload_n 0, 1) := by decide +kernel
theorem d_M_nextOf_57 : decode Y_M_nextOf.2.1 57 = .ok (.aload_n 0, 1) := by decide +kernel
theorem d_M_nextOf_58 : decode Y_M_nextOf.2.1 58 = .ok (.getfield 23, 3) := by decide +kernel
theorem d_M_nextOf_61 : decode Y_M_nextOf.2.1 61 = .ok (.iload_n 3, 1) := by decide +kernel
theorem d_M_nextOf_62 : decode Y_M_nextOf.2.1 62 = .ok (.iload_n 1, 1) := by decide +kernel
theorem d_M_nextOf_63 : decode Y_M_nextOf.2.1 63 = .ok (.invokevirtual 211, 3) := by decide +kernel
theorem d_M_nextOf_66 : decode Y_M_nextOf.2.1 66 = .ok (.iadd, 1) := by decide +kernel
theorem d_M_nextOf_67 : decode Y_M_nextOf.2.1 67 = .ok (.invokevirtual 242, 3) := by decide +kernel
theorem d_M_nextOf_70 : decode Y_M_nextOf.2.1 70 = .ok (.ireturn, 1) := by decide +kernel
theorem d_M_lays_0 : decode Y_M_lays.2.1 0 = .ok (.iconst 0, 1) := by decide +kernel
theorem d_M_lays_1 : decode Y_M_lays.2.1 1 = .ok (.istore_n 2, 1) := by decide +kernel
theorem d_M_lays_2 : decode Y_M_lays.2.1 2 = .ok (.iload_n 2, 1) := by decide +kernel
theorem d_M_lays_3 : decode Y_M_lays.2.1 3 = .ok (.iload_n 1, 1) := by decide +kernel
theorem d_M_lays_4 : decode Y_M_lays.2.1 4 = .ok (.if_icmp .gt 16, 3) := by decide +kernel
theorem d_M_lays_7 : decode Y_M_lays.2.1 7 = .ok (.aload_n 0, 1) := by decide +kernel
theorem d_M_lays_8 : decode Y_M_lays.2.1 8 = .ok (.getfield 33, 3) := by decide +kernel
theorem d_M_lays_11 : decode Y_M_lays.2.1 11 = .ok (.iload_n 2, 1) := by decide +kernel
theorem d_M_lays_12 : decode Y_M_lays.2.1 12 = .ok (.iconst 0, 1) := by decide +kernel
theorem d_M_lays_13 : decode Y_M_lays.2.1 13 = .ok (.iastore, 1) := by decide +kernel
theorem d_M_lays_14 : decode Y_M_lays.2.1 14 = .ok (.iinc 2 1, 3) := by decide +kernel
theorem d_M_lays_17 : decode Y_M_lays.2.1 17 = .ok (.goto (-15), 3) := by decide +kernel
theorem d_M_lays_20 : decode Y_M_lays.2.1 20 = .ok (.aload_n 0, 1) := by decide +kernel
theorem d_M_lays_21 : decode Y_M_lays.2.1 21 = .ok (.iconst 0, 1) := by decide +kernel
theorem d_M_lays_22 : decode Y_M_lays.2.1 22 = .ok (.iconst 0, 1) := by decide +kernel
theorem d_M_lays_23 : decode Y_M_lays.2.1 23 = .ok (.iconst 0, 1) := by decide +kernel
theorem d_M_lays_24 : decode Y_M_lays.2.1 24 = .ok (.iconst 0, 1) := by decide +kernel
theorem d_M_lays_25 : decode Y_M_lays.2.1 25 = .ok (.invokevirtual 242, 3) := by decide +kernel
theorem d_M_lays_28 : decode Y_M_lays.2.1 28 = .ok (.istore_n 2, 1) := by decide +kernel
theorem d_M_lays_29 : decode Y_M_lays.2.1 29 = .ok (.iconst 1, 1) := by decide +kernel
theorem d_M_lays_30 : decode Y_M_lays.2.1 30 = .ok (.istore_n 3, 1) := by decide +kernel
theorem d_M_lays_31 : decode Y_M_lays.2.1 31 = .ok (.iload_n 3, 1) := by decide +kernel
theorem d_M_lays_32 : decode Y_M_lays.2.1 32 = .ok (.iload_n 1, 1) := by decide +kernel
theorem d_M_lays_33 : decode Y_M_lays.2.1 33 = .ok (.if_icmp .gt 72, 3) := by decide +kernel
theorem d_M_lays_36 : decode Y_M_lays.2.1 36 = .ok (.iload_n 2, 1) := by decide +kernel
theorem d_M_lays_37 : decode Y_M_lays.2.1 37 = .ok (.istore 4, 2) := by decide +kernel
theorem d_M_lays_39 : decode Y_M_lays.2.1 39 = .ok (.iload 4, 2) := by decide +kernel
theorem d_M_lays_41 : decode Y_M_lays.2.1 41 = .ok (.aload_n 0, 1) := by decide +kernel
theorem d_M_lays_42 : decode Y_M_lays.2.1 42 = .ok (.getfield 33, 3) := by decide +kernel
theorem d_M_lays_45 : decode Y_M_lays.2.1 45 = .ok (.iload_n 3, 1) := by decide +kernel
theorem d_M_lays_46 : decode Y_M_lays.2.1 46 = .ok (.iconst 1, 1) := by decide +kernel
theorem d_M_lays_47 : decode Y_M_lays.2.1 47 = .ok (.isub, 1) := by decide +kernel
theorem d_M_lays_48 : decode Y_M_lays.2.1 48 = .ok (.iaload, 1) := by decide +kernel
theorem d_M_lays_49 : decode Y_M_lays.2.1 49 = .ok (.if_icmp .ge 50, 3) := by decide +kernel
theorem d_M_lays_52 : decode Y_M_lays.2.1 52 = .ok (.iconst (-1), 1) := by decide +kernel
theorem d_M_lays_53 : decode Y_M_lays.2.1 53 = .ok (.istore 5, 2) := by decide +kernel
theorem d_M_lays_55 : decode Y_M_lays.2.1 55 = .ok (.iload 5, 2) := by decide +kernel
theorem d_M_lays_57 : decode Y_M_lays.2.1 57 = .ok (.bipush 6, 2) := by decide +kernel
theorem d_M_lays_59 : decode Y_M_lays.2.1 59 = .ok (.if_icmp .ge 34, 3) := by decide +kernel
theorem d_M_lays_62 : decode Y_M_lays.2.1 62 = .ok (.aload_n 0, 1) := by decide +kernel
theorem d_M_lays_63 : decode Y_M_lays.2.1 63 = .ok (.iload_n 3, 1) := by decide +kernel
theorem d_M_lays_64 : decode Y_M_lays.2.1 64 = .ok (.iload 5, 2) := by decide +kernel
theorem d_M_lays_66 : decode Y_M_lays.2.1 66 = .ok (.invokevirtual 246, 3) := by decide +kernel
theorem d_M_lays_69 : decode Y_M_lays.2.1 69 = .ok (.ifCond .eq 18, 3) := by decide +kernel
theorem d_M_lays_72 : decode Y_M_lays.2.1 72 = .ok (.aload_n 0, 1) := by decide +kernel
theorem d_M_lays_73 : decode Y_M_lays.2.1 73 = .ok (.iload_n 3, 1) := by decide +kernel
theorem d_M_lays_74 : decode Y_M_lays.2.1 74 = .ok (.iload 4, 2) := by decide +kernel
theorem d_M_lays_76 : decode Y_M_lays.2.1 76 = .ok (.iload 5, 2) := by decide +kernel
theorem d_M_lays_78 : decode Y_M_lays.2.1 78 = .ok (.invokevirtual 249, 3) := by decide +kernel
theorem d_M_lays_81 : decode Y_M_lays.2.1 81 = .ok (.iconst (-1), 1) := by decide +kernel
theorem d_M_lays_82 : decode Y_M_lays.2.1 82 = .ok (.if_icmp .ne 5, 3) := by decide +kernel
theorem d_M_lays_85 : decode Y_M_lays.2.1 85 = .ok (.iconst 0, 1) := by decide +kernel
theorem d_M_lays_86 : decode Y_M_lays.2.1 86 = .ok (.ireturn, 1) := by decide +kernel
theorem d_M_lays_87 : decode Y_M_lays.2.1 87 = .ok (.iinc 5 1, 3) := by decide +kernel
theorem d_M_lays_90 : decode Y_M_lays.2.1 90 = .ok (.goto (-35), 3) := by decide +kernel
theorem d_M_lays_93 : decode Y_M_lays.2.1 93 = .ok (.iinc 4 1, 3) := by decide +kernel
theorem d_M_lays_96 : decode Y_M_lays.2.1 96 = .ok (.goto (-57), 3) := by decide +kernel
theorem d_M_lays_99 : decode Y_M_lays.2.1 99 = .ok (.iinc 3 1, 3) := by decide +kernel
theorem d_M_lays_102 : decode Y_M_lays.2.1 102 = .ok (.goto (-71), 3) := by decide +kernel
theorem d_M_lays_105 : decode Y_M_lays.2.1 105 = .ok (.iconst 1, 1) := by decide +kernel
theorem d_M_lays_106 : decode Y_M_lays.2.1 106 = .ok (.ireturn, 1) := by decide +kernel
theorem d_M_costBy_0 : decode Y_M_costBy.2.1 0 = .ok (.iload_n 3, 1) := by decide +kernel
theorem d_M_costBy_1 : decode Y_M_costBy.2.1 1 = .ok (.ifCond .eq 21, 3) := by decide +kernel
theorem d_M_costBy_4 : decode Y_M_costBy.2.1 4 = .ok (.iload_n 2, 1) := by decide +kernel
theorem d_M_costBy_5 : decode Y_M_costBy.2.1 5 = .ok (.aload_n 0, 1) := by decide +kernel
theorem d_M_costBy_6 : decode Y_M_costBy.2.1 6 = .ok (.getfield 30, 3) := by decide +kernel
theorem d_M_costBy_9 : decode Y_M_costBy.2.1 9 = .ok (.iload_n 1, 1) := by decide +kernel
theorem d_M_costBy_10 : decode Y_M_costBy.2.1 10 = .ok (.iaload, 1) := by decide +kernel
theorem d_M_costBy_11 : decode Y_M_costBy.2.1 11 = .ok (.if_icmp .ne 7, 3) := by decide +kernel
theorem d_M_costBy_14 : decode Y_M_costBy.2.1 14 = .ok (.lconst 0, 1) := by decide +kernel
theorem d_M_costBy_15 : decode Y_M_costBy.2.1 15 = .ok (.goto 13, 3) := by decide +kernel
theorem d_M_costBy_18 : decode Y_M_costBy.2.1 18 = .ok (.lconst 1, 1) := by decide +kernel
theorem d_M_costBy_19 : decode Y_M_costBy.2.1 19 = .ok (.goto 9, 3) := by decide +kernel
theorem d_M_costBy_22 : decode Y_M_costBy.2.1 22 = .ok (.aload_n 0, 1) := by decide +kernel
theorem d_M_costBy_23 : decode Y_M_costBy.2.1 23 = .ok (.iload_n 1, 1) := by decide +kernel
theorem d_M_costBy_24 : decode Y_M_costBy.2.1 24 = .ok (.iload_n 2, 1) := by decide +kernel
theorem d_M_costBy_25 : decode Y_M_costBy.2.1 25 = .ok (.invokevirtual 238, 3) := by decide +kernel
theorem d_M_costBy_28 : decode Y_M_costBy.2.1 28 = .ok (.lreturn, 1) := by decide +kernel
theorem d_M_finds_0 : decode Y_M_finds.2.1 0 = .ok (.aload_n 0, 1) := by decide +kernel
theorem d_M_finds_1 : decode Y_M_finds.2.1 1 = .ok (.iload_n 1, 1) := by decide +kernel
theorem d_M_finds_2 : decode Y_M_finds.2.1 2 = .ok (.invokevirtual 252, 3) := by decide +kernel
theorem d_M_finds_5 : decode Y_M_finds.2.1 5 = .ok (.ifCond .ne 5, 3) := by decide +kernel
theorem d_M_finds_8 : decode Y_M_finds.2.1 8 = .ok (.iconst 0, 1) := by decide +kernel
theorem d_M_finds_9 : decode Y_M_finds.2.1 9 = .ok (.ireturn, 1) := by decide +kernel
theorem d_M_finds_10 : decode Y_M_finds.2.1 10 = .ok (.iconst 0, 1) := by decide +kernel
theorem d_M_finds_11 : decode Y_M_finds.2.1 11 = .ok (.istore_n 3, 1) := by decide +kernel
theorem d_M_finds_12 : decode Y_M_finds.2.1 12 = .ok (.iload_n 3, 1) := by decide +kernel
theorem d_M_finds_13 : decode Y_M_finds.2.1 13 = .ok (.aload_n 0, 1) := by decide +kernel
theorem d_M_finds_14 : decode Y_M_finds.2.1 14 = .ok (.getfield 33, 3) := by decide +kernel
theorem d_M_finds_17 : decode Y_M_finds.2.1 17 = .ok (.iload_n 1, 1) := by decide +kernel
theorem d_M_finds_18 : decode Y_M_finds.2.1 18 = .ok (.iaload, 1) := by decide +kernel
theorem d_M_finds_19 : decode Y_M_finds.2.1 19 = .ok (.if_icmp .ge 62, 3) := by decide +kernel
theorem d_M_finds_22 : decode Y_M_finds.2.1 22 = .ok (.sipush 300, 3) := by decide +kernel
theorem d_M_finds_25 : decode Y_M_finds.2.1 25 = .ok (.iload_n 1, 1) := by decide +kernel
theorem d_M_finds_26 : decode Y_M_finds.2.1 26 = .ok (.imul, 1) := by decide +kernel
theorem d_M_finds_27 : decode Y_M_finds.2.1 27 = .ok (.iload_n 3, 1) := by decide +kernel
theorem d_M_finds_28 : decode Y_M_finds.2.1 28 = .ok (.iadd, 1) := by decide +kernel
theorem d_M_finds_29 : decode Y_M_finds.2.1 29 = .ok (.istore 4, 2) := by decide +kernel
theorem d_M_finds_31 : decode Y_M_finds.2.1 31 = .ok (.aload_n 0, 1) := by decide +kernel
theorem d_M_finds_32 : decode Y_M_finds.2.1 32 = .ok (.getfield 45, 3) := by decide +kernel
theorem d_M_finds_35 : decode Y_M_finds.2.1 35 = .ok (.iload 4, 2) := by decide +kernel
theorem d_M_finds_37 : decode Y_M_finds.2.1 37 = .ok (.aload_n 0, 1) := by decide +kernel
theorem d_M_finds_38 : decode Y_M_finds.2.1 38 = .ok (.getfield 36, 3) := by decide +kernel
theorem d_M_finds_41 : decode Y_M_finds.2.1 41 = .ok (.iload 4, 2) := by decide +kernel
theorem d_M_finds_43 : decode Y_M_finds.2.1 43 = .ok (.iaload, 1) := by decide +kernel
theorem d_M_finds_44 : decode Y_M_finds.2.1 44 = .ok (.ifCond .ne 27, 3) := by decide +kernel
theorem d_M_finds_47 : decode Y_M_finds.2.1 47 = .ok (.aload_n 0, 1) := by decide +kernel
theorem d_M_finds_48 : decode Y_M_finds.2.1 48 = .ok (.getfield 39, 3) := by decide +kernel
theorem d_M_finds_51 : decode Y_M_finds.2.1 51 = .ok (.iload 4, 2) := by decide +kernel
theorem d_M_finds_53 : decode Y_M_finds.2.1 53 = .ok (.iaload, 1) := by decide +kernel
theorem d_M_finds_54 : decode Y_M_finds.2.1 54 = .ok (.ifCond .ne 17, 3) := by decide +kernel
theorem d_M_finds_57 : decode Y_M_finds.2.1 57 = .ok (.aload_n 0, 1) := by decide +kernel
theorem d_M_finds_58 : decode Y_M_finds.2.1 58 = .ok (.getfield 42, 3) := by decide +kernel
theorem d_M_finds_61 : decode Y_M_finds.2.1 61 = .ok (.iload 4, 2) := by decide +kernel
theorem d_M_finds_63 : decode Y_M_finds.2.1 63 = .ok (.iaload, 1) := by decide +kernel
theorem d_M_finds_64 : decode Y_M_finds.2.1 64 = .ok (.ifCond .ne 7, 3) := by decide +kernel
theorem d_M_finds_67 : decode Y_M_finds.2.1 67 = .ok (.lconst 0, 1) := by decide +kernel
theorem d_M_finds_68 : decode Y_M_finds.2.1 68 = .ok (.goto 6, 3) := by decide +kernel
theorem d_M_finds_71 : decode Y_M_finds.2.1 71 = .ok (.ldc2_w 255, 3) := by decide +kernel
theorem d_M_finds_74 : decode Y_M_finds.2.1 74 = .ok (.lastore, 1) := by decide +kernel
theorem d_M_finds_75 : decode Y_M_finds.2.1 75 = .ok (.iinc 3 1, 3) := by decide +kernel
theorem d_M_finds_78 : decode Y_M_finds.2.1 78 = .ok (.goto (-66), 3) := by decide +kernel
theorem d_M_finds_81 : decode Y_M_finds.2.1 81 = .ok (.iload_n 1, 1) := by decide +kernel
theorem d_M_finds_82 : decode Y_M_finds.2.1 82 = .ok (.istore_n 3, 1) := by decide +kernel
theorem d_M_finds_83 : decode Y_M_finds.2.1 83 = .ok (.iload_n 3, 1) := by decide +kernel
theorem d_M_finds_84 : decode Y_M_finds.2.1 84 = .ok (.ifCond .le 173, 3) := by decide +kernel
theorem d_M_finds_87 : decode Y_M_finds.2.1 87 = .ok (.iconst 0, 1) := by decide +kernel
theorem d_M_finds_88 : decode Y_M_finds.2.1 88 = .ok (.istore 4, 2) := by decide +kernel
theorem d_M_finds_90 : decode Y_M_finds.2.1 90 = .ok (.iload 4, 2) := by decide +kernel
theorem d_M_finds_92 : decode Y_M_finds.2.1 92 = .ok (.aload_n 0, 1) := by decide +kernel
theorem d_M_finds_93 : decode Y_M_finds.2.1 93 = .ok (.getfield 33, 3) := by decide +kernel
theorem d_M_finds_96 : decode Y_M_finds.2.1 96 = .ok (.iload_n 3, 1) := by decide +kernel
theorem d_M_finds_97 : decode Y_M_finds.2.1 97 = .ok (.iconst 1, 1) := by decide +kernel
theorem d_M_finds_98 : decode Y_M_finds.2.1 98 = .ok (.isub, 1) := by decide +kernel
theorem d_M_finds_99 : decode Y_M_finds.2.1 99 = .ok (.iaload, 1) := by decide +kernel
theorem d_M_finds_100 : decode Y_M_finds.2.1 100 = .ok (.if_icmp .ge 27, 3) := by decide +kernel
theorem d_M_finds_103 : decode Y_M_finds.2.1 103 = .ok (.aload_n 0, 1) := by decide +kernel
theorem d_M_finds_104 : decode Y_M_finds.2.1 104 = .ok (.getfield 45, 3) := by decide +kernel
theorem d_M_finds_107 : decode Y_M_finds.2.1 107 = .ok (.sipush 300, 3) := by decide +kernel
theorem d_M_finds_110 : decode Y_M_finds.2.1 110 = .ok (.iload_n 3, 1) := by decide +kernel
theorem d_M_finds_111 : decode Y_M_finds.2.1 111 = .ok (.iconst 1, 1) := by decide +kernel
theorem d_M_finds_112 : decode Y_M_finds.2.1 112 = .ok (.isub, 1) := by decide +kernel
theorem d_M_finds_113 : decode Y_M_finds.2.1 113 = .ok (.imul, 1) := by decide +kernel
theorem d_M_finds_114 : decode Y_M_finds.2.1 114 = .ok (.iload 4, 2) := by decide +kernel
theorem d_M_finds_116 : decode Y_M_finds.2.1 116 = .ok (.iadd, 1) := by decide +kernel
theorem d_M_finds_117 : decode Y_M_finds.2.1 117 = .ok (.ldc2_w 255, 3) := by decide +kernel
theorem d_M_finds_120 : decode Y_M_finds.2.1 120 = .ok (.lastore, 1) := by decide +kernel
theorem d_M_finds_121 : decode Y_M_finds.2.1 121 = .ok (.iinc 4 1, 3) := by decide +kernel
theorem d_M_finds_124 : decode Y_M_finds.2.1 124 = .ok (.goto (-34), 3) := by decide +kernel
theorem d_M_finds_127 : decode Y_M_finds.2.1 127 = .ok (.iconst (-1), 1) := by decide +kernel
theorem d_M_finds_128 : decode Y_M_finds.2.1 128 = .ok (.istore 4, 2) := by decide +kernel
theorem d_M_finds_130 : decode Y_M_finds.2.1 130 = .ok (.iload 4, 2) := by decide +kernel
theorem d_M_finds_132 : decode Y_M_finds.2.1 132 = .ok (.bipush 6, 2) := by decide +kernel
theorem d_M_finds_134 : decode Y_M_finds.2.1 134 = .ok (.if_icmp .ge 117, 3) := by decide +kernel
theorem d_M_finds_137 : decode Y_M_finds.2.1 137 = .ok (.aload_n 0, 1) := by decide +kernel
theorem d_M_finds_138 : decode Y_M_finds.2.1 138 = .ok (.iload_n 3, 1) := by decide +kernel
theorem d_M_finds_139 : decode Y_M_finds.2.1 139 = .ok (.iload 4, 2) := by decide +kernel
theorem d_M_finds_141 : decode Y_M_finds.2.1 141 = .ok (.invokevirtual 246, 3) := by decide +kernel
theorem d_M_finds_144 : decode Y_M_finds.2.1 144 = .ok (.ifCond .ne 6, 3) := by decide +kernel
theorem d_M_finds_147 : decode Y_M_finds.2.1 147 = .ok (.goto 98, 3) := by decide +kernel
theorem d_M_finds_150 : decode Y_M_finds.2.1 150 = .ok (.aload_n 0, 1) := by decide +kernel
theorem d_M_finds_151 : decode Y_M_finds.2.1 151 = .ok (.iload_n 3, 1) := by decide +kernel
theorem d_M_finds_152 : decode Y_M_finds.2.1 152 = .ok (.iload 4, 2) := by decide +kernel
theorem d_M_finds_154 : decode Y_M_finds.2.1 154 = .ok (.iload_n 2, 1) := by decide +kernel
theorem d_M_finds_155 : decode Y_M_finds.2.1 155 = .ok (.invokevirtual 257, 3) := by decide +kernel
theorem d_M_finds_158 : decode Y_M_finds.2.1 158 = .ok (.lstore 5, 2) := by decide +kernel
theorem d_M_finds_160 : decode Y_M_finds.2.1 160 = .ok (.iconst 0, 1) := by decide +kernel
theorem d_M_finds_161 : decode Y_M_finds.2.1 161 = .ok (.istore 7, 2) := by decide +kernel
theorem d_M_finds_163 : decode Y_M_finds.2.1 163 = .ok (.iload 7, 2) := by decide +kernel
theorem d_M_finds_165 : decode Y_M_finds.2.1 165 = .ok (.aload_n 0, 1) := by decide +kernel
theorem d_M_finds_166 : decode Y_M_finds.2.1 166 = .ok (.getfield 33, 3) := by decide +kernel
theorem d_M_finds_169 : decode Y_M_finds.2.1 169 = .ok (.iload_n 3, 1) := by decide +kernel
theorem d_M_finds_170 : decode Y_M_finds.2.1 170 = .ok (.iconst 1, 1) := by decide +kernel
theorem d_M_finds_171 : decode Y_M_finds.2.1 171 = .ok (.isub, 1) := by decide +kernel
theorem d_M_finds_172 : decode Y_M_finds.2.1 172 = .ok (.iaload, 1) := by decide +kernel
theorem d_M_finds_173 : decode Y_M_finds.2.1 173 = .ok (.if_icmp .ge 72, 3) := by decide +kernel
theorem d_M_finds_176 : decode Y_M_finds.2.1 176 = .ok (.lload 5, 2) := by decide +kernel
theorem d_M_finds_178 : decode Y_M_finds.2.1 178 = .ok (.aload_n 0, 1) := by decide +kernel
theorem d_M_finds_179 : decode Y_M_finds.2.1 179 = .ok (.getfield 45, 3) := by decide +kernel
theorem d_M_finds_182 : decode Y_M_finds.2.1 182 = .ok (.sipush 300, 3) := by decide +kernel
theorem d_M_finds_185 : decode Y_M_finds.2.1 185 = .ok (.iload_n 3, 1) := by decide +kernel
theorem d_M_finds_186 : decode Y_M_finds.2.1 186 = .ok (.imul, 1) := by decide +kernel
theorem d_M_finds_187 : decode Y_M_finds.2.1 187 = .ok (.aload_n 0, 1) := by decide +kernel
theorem d_M_finds_188 : decode Y_M_finds.2.1 188 = .ok (.iload_n 3, 1) := by decide +kernel
theorem d_M_finds_189 : decode Y_M_finds.2.1 189 = .ok (.iload 7, 2) := by decide +kernel
theorem d_M_finds_191 : decode Y_M_finds.2.1 191 = .ok (.iload 4, 2) := by decide +kernel
theorem d_M_finds_193 : decode Y_M_finds.2.1 193 = .ok (.invokevirtual 249, 3) := by decide +kernel
theorem d_M_finds_196 : decode Y_M_finds.2.1 196 = .ok (.iadd, 1) := by decide +kernel
theorem d_M_finds_197 : decode Y_M_finds.2.1 197 = .ok (.laload, 1) := by decide +kernel
theorem d_M_finds_198 : decode Y_M_finds.2.1 198 = .ok (.ladd, 1) := by decide +kernel
theorem d_M_finds_199 : decode Y_M_finds.2.1 199 = .ok (.lstore 8, 2) := by decide +kernel
theorem d_M_finds_201 : decode Y_M_finds.2.1 201 = .ok (.lload 8, 2) := by decide +kernel
theorem d_M_finds_203 : decode Y_M_finds.2.1 203 = .ok (.aload_n 0, 1) := by decide +kernel
theorem d_M_finds_204 : decode Y_M_finds.2.1 204 = .ok (.getfield 45, 3) := by decide +kernel
theorem d_M_finds_207 : decode Y_M_finds.2.1 207 = .ok (.sipush 300, 3) := by decide +kernel
theorem d_M_finds_210 : decode Y_M_finds.2.1 210 = .ok (.iload_n 3, 1) := by decide +kernel
theorem d_M_finds_211 : decode Y_M_finds.2.1 211 = .ok (.iconst 1, 1) := by decide +kernel
theorem d_M_finds_212 : decode Y_M_finds.2.1 212 = .ok (.isub, 1) := by decide +kernel
theorem d_M_finds_213 : decode Y_M_finds.2.1 213 = .ok (.imul, 1) := by decide +kernel
theorem d_M_finds_214 : decode Y_M_finds.2.1 214 = .ok (.iload 7, 2) := by decide +kernel
theorem d_M_finds_216 : decode Y_M_finds.2.1 216 = .ok (.iadd, 1) := by decide +kernel
theorem d_M_finds_217 : decode Y_M_finds.2.1 217 = .ok (.laload, 1) := by decide +kernel
theorem d_M_finds_218 : decode Y_M_finds.2.1 218 = .ok (.lcmp, 1) := by decide +kernel
theorem d_M_finds_219 : decode Y_M_finds.2.1 219 = .ok (.ifCond .ge 20, 3) := by decide +kernel
theorem d_M_finds_222 : decode Y_M_finds.2.1 222 = .ok (.aload_n 0, 1) := by decide +kernel
theorem d_M_finds_223 : decode Y_M_finds.2.1 223 = .ok (.getfield 45, 3) := by decide +kernel
theorem d_M_finds_226 : decode Y_M_finds.2.1 226 = .ok (.sipush 300, 3) := by decide +kernel
theorem d_M_finds_229 : decode Y_M_finds.2.1 229 = .ok (.iload_n 3, 1) := by decide +kernel
theorem d_M_finds_230 : decode Y_M_finds.2.1 230 = .ok (.iconst 1, 1) := by decide +kernel
theorem d_M_finds_231 : decode Y_M_finds.2.1 231 = .ok (.isub, 1) := by decide +kernel
theorem d_M_finds_232 : decode Y_M_finds.2.1 232 = .ok (.imul, 1) := by decide +kernel
theorem d_M_finds_233 : decode Y_M_finds.2.1 233 = .ok (.iload 7, 2) := by decide +kernel
theorem d_M_finds_235 : decode Y_M_finds.2.1 235 = .ok (.iadd, 1) := by decide +kernel
theorem d_M_finds_236 : decode Y_M_finds.2.1 236 = .ok (.lload 8, 2) := by decide +kernel
theorem d_M_finds_238 : decode Y_M_finds.2.1 238 = .ok (.lastore, 1) := by decide +kernel
theorem d_M_finds_239 : decode Y_M_finds.2.1 239 = .ok (.iinc 7 1, 3) := by decide +kernel
theorem d_M_finds_242 : decode Y_M_finds.2.1 242 = .ok (.goto (-79), 3) := by decide +kernel
theorem d_M_finds_245 : decode Y_M_finds.2.1 245 = .ok (.iinc 4 1, 3) := by decide +kernel
theorem d_M_finds_248 : decode Y_M_finds.2.1 248 = .ok (.goto (-118), 3) := by decide +kernel
theorem d_M_finds_251 : decode Y_M_finds.2.1 251 = .ok (.iinc 3 (-1), 3) := by decide +kernel
theorem d_M_finds_254 : decode Y_M_finds.2.1 254 = .ok (.goto (-171), 3) := by decide +kernel
theorem d_M_finds_257 : decode Y_M_finds.2.1 257 = .ok (.aload_n 0, 1) := by decide +kernel
theorem d_M_finds_258 : decode Y_M_finds.2.1 258 = .ok (.aload_n 0, 1) := by decide +kernel
theorem d_M_finds_259 : decode Y_M_finds.2.1 259 = .ok (.getfield 45, 3) := by decide +kernel
theorem d_M_finds_262 : decode Y_M_finds.2.1 262 = .ok (.iconst 0, 1) := by decide +kernel
theorem d_M_finds_263 : decode Y_M_finds.2.1 263 = .ok (.laload, 1) := by decide +kernel
theorem d_M_finds_264 : decode Y_M_finds.2.1 264 = .ok (.putfield 261, 3) := by decide +kernel
theorem d_M_finds_267 : decode Y_M_finds.2.1 267 = .ok (.aload_n 0, 1) := by decide +kernel
theorem d_M_finds_268 : decode Y_M_finds.2.1 268 = .ok (.getfield 261, 3) := by decide +kernel
theorem d_M_finds_271 : decode Y_M_finds.2.1 271 = .ok (.ldc2_w 255, 3) := by decide +kernel
theorem d_M_finds_274 : decode Y_M_finds.2.1 274 = .ok (.lcmp, 1) := by decide +kernel
theorem d_M_finds_275 : decode Y_M_finds.2.1 275 = .ok (.ifCond .lt 5, 3) := by decide +kernel
theorem d_M_finds_278 : decode Y_M_finds.2.1 278 = .ok (.iconst 0, 1) := by decide +kernel
theorem d_M_finds_279 : decode Y_M_finds.2.1 279 = .ok (.ireturn, 1) := by decide +kernel
theorem d_M_finds_280 : decode Y_M_finds.2.1 280 = .ok (.iconst 0, 1) := by decide +kernel
theorem d_M_finds_281 : decode Y_M_finds.2.1 281 = .ok (.istore_n 3, 1) := by decide +kernel
theorem d_M_finds_282 : decode Y_M_finds.2.1 282 = .ok (.iconst 0, 1) := by decide +kernel
theorem d_M_finds_283 : decode Y_M_finds.2.1 283 = .ok (.istore 4, 2) := by decide +kernel
theorem d_M_finds_285 : decode Y_M_finds.2.1 285 = .ok (.iload 4, 2) := by decide +kernel
theorem d_M_finds_287 : decode Y_M_finds.2.1 287 = .ok (.bipush 24, 2) := by decide +kernel
theorem d_M_finds_289 : decode Y_M_finds.2.1 289 = .ok (.if_icmp .ge 17, 3) := by decide +kernel
theorem d_M_finds_292 : decode Y_M_finds.2.1 292 = .ok (.aload_n 0, 1) := by decide +kernel
theorem d_M_finds_293 : decode Y_M_finds.2.1 293 = .ok (.getfield 49, 3) := by decide +kernel
theorem d_M_finds_296 : decode Y_M_finds.2.1 296 = .ok (.iload 4, 2) := by decide +kernel
theorem d_M_finds_298 : decode Y_M_finds.2.1 298 = .ok (.iconst (-1), 1) := by decide +kernel
theorem d_M_finds_299 : decode Y_M_finds.2.1 299 = .ok (.iastore, 1) := by decide +kernel
theorem d_M_finds_300 : decode Y_M_finds.2.1 300 = .ok (.iinc 4 1, 3) := by decide +kernel
theorem d_M_finds_303 : decode Y_M_finds.2.1 303 = .ok (.goto (-18), 3) := by decide +kernel
theorem d_M_finds_306 : decode Y_M_finds.2.1 306 = .ok (.iconst 1, 1) := by decide +kernel
theorem d_M_finds_307 : decode Y_M_finds.2.1 307 = .ok (.istore 4, 2) := by decide +kernel
theorem d_M_finds_309 : decode Y_M_finds.2.1 309 = .ok (.iload 4, 2) := by decide +kernel
theorem d_M_finds_311 : decode Y_M_finds.2.1 311 = .ok (.iload_n 1, 1) := by decide +kernel
theorem d_M_finds_312 : decode Y_M_finds.2.1 312 = .ok (.if_icmp .gt 98, 3) := by decide +kernel
theorem d_M_finds_315 : decode Y_M_finds.2.1 315 = .ok (.iconst (-1), 1) := by decide +kernel
theorem d_M_finds_316 : decode Y_M_finds.2.1 316 = .ok (.istore 5, 2) := by decide +kernel
theorem d_M_finds_318 : decode Y_M_finds.2.1 318 = .ok (.aload_n 0, 1) := by decide +kernel
theorem d_M_finds_319 : decode Y_M_finds.2.1 319 = .ok (.iload 4, 2) := by decide +kernel
theorem d_M_finds_321 : decode Y_M_finds.2.1 321 = .ok (.iload 5, 2) := by decide +kernel
theorem d_M_finds_323 : decode Y_M_finds.2.1 323 = .ok (.invokevirtual 246, 3) := by decide +kernel
theorem d_M_finds_326 : decode Y_M_finds.2.1 326 = .ok (.ifCond .eq 53, 3) := by decide +kernel
theorem d_M_finds_329 : decode Y_M_finds.2.1 329 = .ok (.aload_n 0, 1) := by decide +kernel
theorem d_M_finds_330 : decode Y_M_finds.2.1 330 = .ok (.iload 4, 2) := by decide +kernel
theorem d_M_finds_332 : decode Y_M_finds.2.1 332 = .ok (.iload 5, 2) := by decide +kernel
theorem d_M_finds_334 : decode Y_M_finds.2.1 334 = .ok (.iload_n 2, 1) := by decide +kernel
theorem d_M_finds_335 : decode Y_M_finds.2.1 335 = .ok (.invokevirtual 257, 3) := by decide +kernel
theorem d_M_finds_338 : decode Y_M_finds.2.1 338 = .ok (.aload_n 0, 1) := by decide +kernel
theorem d_M_finds_339 : decode Y_M_finds.2.1 339 = .ok (.getfield 45, 3) := by decide +kernel
theorem d_M_finds_342 : decode Y_M_finds.2.1 342 = .ok (.sipush 300, 3) := by decide +kernel
theorem d_M_finds_345 : decode Y_M_finds.2.1 345 = .ok (.iload 4, 2) := by decide +kernel
theorem d_M_finds_347 : decode Y_M_finds.2.1 347 = .ok (.imul, 1) := by decide +kernel
theorem d_M_finds_348 : decode Y_M_finds.2.1 348 = .ok (.aload_n 0, 1) := by decide +kernel
theorem d_M_finds_349 : decode Y_M_finds.2.1 349 = .ok (.iload 4, 2) := by decide +kernel
theorem d_M_finds_351 : decode Y_M_finds.2.1 351 = .ok (.iload_n 3, 1) := by decide +kernel
theorem d_M_finds_352 : decode Y_M_finds.2.1 352 = .ok (.iload 5, 2) := by decide +kernel
theorem d_M_finds_354 : decode Y_M_finds.2.1 354 = .ok (.invokevirtual 249, 3) := by decide +kernel
theorem d_M_finds_357 : decode Y_M_finds.2.1 357 = .ok (.iadd, 1) := by decide +kernel
theorem d_M_finds_358 : decode Y_M_finds.2.1 358 = .ok (.laload, 1) := by decide +kernel
theorem d_M_finds_359 : decode Y_M_finds.2.1 359 = .ok (.ladd, 1) := by decide +kernel
theorem d_M_finds_360 : decode Y_M_finds.2.1 360 = .ok (.aload_n 0, 1) := by decide +kernel
theorem d_M_finds_361 : decode Y_M_finds.2.1 361 = .ok (.getfield 45, 3) := by decide +kernel
theorem d_M_finds_364 : decode Y_M_finds.2.1 364 = .ok (.sipush 300, 3) := by decide +kernel
theorem d_M_finds_367 : decode Y_M_finds.2.1 367 = .ok (.iload 4, 2) := by decide +kernel
theorem d_M_finds_369 : decode Y_M_finds.2.1 369 = .ok (.iconst 1, 1) := by decide +kernel
theorem d_M_finds_370 : decode Y_M_finds.2.1 370 = .ok (.isub, 1) := by decide +kernel
theorem d_M_finds_371 : decode Y_M_finds.2.1 371 = .ok (.imul, 1) := by decide +kernel
theorem d_M_finds_372 : decode Y_M_finds.2.1 372 = .ok (.iload_n 3, 1) := by decide +kernel
theorem d_M_finds_373 : decode Y_M_finds.2.1 373 = .ok (.iadd, 1) := by decide +kernel
theorem d_M_finds_374 : decode Y_M_finds.2.1 374 = .ok (.laload, 1) := by decide +kernel
theorem d_M_finds_375 : decode Y_M_finds.2.1 375 = .ok (.lcmp, 1) := by decide +kernel
theorem d_M_finds_376 : decode Y_M_finds.2.1 376 = .ok (.ifCond .eq 9, 3) := by decide +kernel
theorem d_M_finds_379 : decode Y_M_finds.2.1 379 = .ok (.iinc 5 1, 3) := by decide +kernel
theorem d_M_finds_382 : decode Y_M_finds.2.1 382 = .ok (.goto (-64), 3) := by decide +kernel
theorem d_M_finds_385 : decode Y_M_finds.2.1 385 = .ok (.aload_n 0, 1) := by decide +kernel
theorem d_M_finds_386 : decode Y_M_finds.2.1 386 = .ok (.getfield 49, 3) := by decide +kernel
theorem d_M_finds_389 : decode Y_M_finds.2.1 389 = .ok (.iload 4, 2) := by decide +kernel
theorem d_M_finds_391 : decode Y_M_finds.2.1 391 = .ok (.iload 5, 2) := by decide +kernel
theorem d_M_finds_393 : decode Y_M_finds.2.1 393 = .ok (.iastore, 1) := by decide +kernel
theorem d_M_finds_394 : decode Y_M_finds.2.1 394 = .ok (.aload_n 0, 1) := by decide +kernel
theorem d_M_finds_395 : decode Y_M_finds.2.1 395 = .ok (.iload 4, 2) := by decide +kernel
theorem d_M_finds_397 : decode Y_M_finds.2.1 397 = .ok (.iload_n 3, 1) := by decide +kernel
theorem d_M_finds_398 : decode Y_M_finds.2.1 398 = .ok (.iload 5, 2) := by decide +kernel
theorem d_M_finds_400 : decode Y_M_finds.2.1 400 = .ok (.invokevirtual 249, 3) := by decide +kernel
theorem d_M_finds_403 : decode Y_M_finds.2.1 403 = .ok (.istore_n 3, 1) := by decide +kernel
theorem d_M_finds_404 : decode Y_M_finds.2.1 404 = .ok (.iinc 4 1, 3) := by decide +kernel
theorem d_M_finds_407 : decode Y_M_finds.2.1 407 = .ok (.goto (-98), 3) := by decide +kernel
theorem d_M_finds_410 : decode Y_M_finds.2.1 410 = .ok (.iconst 1, 1) := by decide +kernel
theorem d_M_finds_411 : decode Y_M_finds.2.1 411 = .ok (.ireturn, 1) := by decide +kernel
theorem d_M_rowOf_0 : decode Y_M_rowOf.2.1 0 = .ok (.aload_n 0, 1) := by decide +kernel
theorem d_M_rowOf_1 : decode Y_M_rowOf.2.1 1 = .ok (.invokevirtual 234, 3) := by decide +kernel
theorem d_M_rowOf_4 : decode Y_M_rowOf.2.1 4 = .ok (.istore_n 3, 1) := by decide +kernel
theorem d_M_rowOf_5 : decode Y_M_rowOf.2.1 5 = .ok (.iload_n 3, 1) := by decide +kernel
theorem d_M_rowOf_6 : decode Y_M_rowOf.2.1 6 = .ok (.iconst (-1), 1) := by decide +kernel
theorem d_M_rowOf_7 : decode Y_M_rowOf.2.1 7 = .ok (.if_icmp .eq 20, 3) := by decide +kernel
theorem d_M_rowOf_10 : decode Y_M_rowOf.2.1 10 = .ok (.iload_n 1, 1) := by decide +kernel
theorem d_M_rowOf_11 : decode Y_M_rowOf.2.1 11 = .ok (.iconst (-1), 1) := by decide +kernel
theorem d_M_rowOf_12 : decode Y_M_rowOf.2.1 12 = .ok (.if_icmp .eq 18, 3) := by decide +kernel
theorem d_M_rowOf_15 : decode Y_M_rowOf.2.1 15 = .ok (.iload_n 1, 1) := by decide +kernel
theorem d_M_rowOf_16 : decode Y_M_rowOf.2.1 16 = .ok (.i2l, 1) := by decide +kernel
theorem d_M_rowOf_17 : decode Y_M_rowOf.2.1 17 = .ok (.lconst 1, 1) := by decide +kernel
theorem d_M_rowOf_18 : decode Y_M_rowOf.2.1 18 = .ok (.ldc2_w 149, 3) := by decide +kernel
theorem d_M_rowOf_21 : decode Y_M_rowOf.2.1 21 = .ok (.invokestatic 145, 3) := by decide +kernel
theorem d_M_rowOf_24 : decode Y_M_rowOf.2.1 24 = .ok (.ifCond .ne 6, 3) := by decide +kernel
theorem d_M_rowOf_27 : decode Y_M_rowOf.2.1 27 = .ok (.ldc 192, 2) := by decide +kernel
theorem d_M_rowOf_29 : decode Y_M_rowOf.2.1 29 = .ok (.ireturn, 1) := by decide +kernel
theorem d_M_rowOf_30 : decode Y_M_rowOf.2.1 30 = .ok (.aload_n 0, 1) := by decide +kernel
theorem d_M_rowOf_31 : decode Y_M_rowOf.2.1 31 = .ok (.iload_n 3, 1) := by decide +kernel
theorem d_M_rowOf_32 : decode Y_M_rowOf.2.1 32 = .ok (.iload_n 2, 1) := by decide +kernel
theorem d_M_rowOf_33 : decode Y_M_rowOf.2.1 33 = .ok (.invokevirtual 265, 3) := by decide +kernel
theorem d_M_rowOf_36 : decode Y_M_rowOf.2.1 36 = .ok (.ifCond .ne 6, 3) := by decide +kernel
theorem d_M_rowOf_39 : decode Y_M_rowOf.2.1 39 = .ok (.bipush (-2), 2) := by decide +kernel
theorem d_M_rowOf_41 : decode Y_M_rowOf.2.1 41 = .ok (.ireturn, 1) := by decide +kernel
theorem d_M_rowOf_42 : decode Y_M_rowOf.2.1 42 = .ok (.iload_n 1, 1) := by decide +kernel
theorem d_M_rowOf_43 : decode Y_M_rowOf.2.1 43 = .ok (.iconst (-1), 1) := by decide +kernel
theorem d_M_rowOf_44 : decode Y_M_rowOf.2.1 44 = .ok (.if_icmp .ne 11, 3) := by decide +kernel
theorem d_M_rowOf_47 : decode Y_M_rowOf.2.1 47 = .ok (.aload_n 0, 1) := by decide +kernel
theorem d_M_rowOf_48 : decode Y_M_rowOf.2.1 48 = .ok (.getfield 261, 3) := by decide +kernel
theorem d_M_rowOf_51 : decode Y_M_rowOf.2.1 51 = .ok (.l2i, 1) := by decide +kernel
theorem d_M_rowOf_52 : decode Y_M_rowOf.2.1 52 = .ok (.goto 9, 3) := by decide +kernel
theorem d_M_rowOf_55 : decode Y_M_rowOf.2.1 55 = .ok (.aload_n 0, 1) := by decide +kernel
theorem d_M_rowOf_56 : decode Y_M_rowOf.2.1 56 = .ok (.getfield 49, 3) := by decide +kernel
theorem d_M_rowOf_59 : decode Y_M_rowOf.2.1 59 = .ok (.iload_n 1, 1) := by decide +kernel
theorem d_M_rowOf_60 : decode Y_M_rowOf.2.1 60 = .ok (.iaload, 1) := by decide +kernel
theorem d_M_rowOf_61 : decode Y_M_rowOf.2.1 61 = .ok (.ireturn, 1) := by decide +kernel
theorem d_M_way_0 : decode Y_M_way.2.1 0 = .ok (.aload_n 0, 1) := by decide +kernel
theorem d_M_way_1 : decode Y_M_way.2.1 1 = .ok (.iload_n 1, 1) := by decide +kernel
theorem d_M_way_2 : decode Y_M_way.2.1 2 = .ok (.iconst 0, 1) := by decide +kernel
theorem d_M_way_3 : decode Y_M_way.2.1 3 = .ok (.invokevirtual 269, 3) := by decide +kernel
theorem d_M_way_6 : decode Y_M_way.2.1 6 = .ok (.ireturn, 1) := by decide +kernel
theorem d_X_change_0 : decode Y_X_change.2.1 0 = .ok (.aload_n 0, 1) := by decide +kernel
theorem d_X_change_1 : decode Y_X_change.2.1 1 = .ok (.iload_n 1, 1) := by decide +kernel
theorem d_X_change_2 : decode Y_X_change.2.1 2 = .ok (.invokevirtual 142, 3) := by decide +kernel
theorem d_X_change_5 : decode Y_X_change.2.1 5 = .ok (.ifCond .ne 6, 3) := by decide +kernel
theorem d_X_change_8 : decode Y_X_change.2.1 8 = .ok (.ldc 102, 2) := by decide +kernel
theorem d_X_change_10 : decode Y_X_change.2.1 10 = .ok (.ireturn, 1) := by decide +kernel
theorem d_X_change_11 : decode Y_X_change.2.1 11 = .ok (.aload_n 0, 1) := by decide +kernel
theorem d_X_change_12 : decode Y_X_change.2.1 12 = .ok (.invokevirtual 146, 3) := by decide +kernel
theorem d_X_change_15 : decode Y_X_change.2.1 15 = .ok (.astore_n 2, 1) := by decide +kernel
theorem d_X_change_16 : decode Y_X_change.2.1 16 = .ok (.aload_n 2, 1) := by decide +kernel
theorem d_X_change_17 : decode Y_X_change.2.1 17 = .ok (.ifnull 19, 3) := by decide +kernel
theorem d_X_change_20 : decode Y_X_change.2.1 20 = .ok (.aload_n 2, 1) := by decide +kernel
theorem d_X_change_21 : decode Y_X_change.2.1 21 = .ok (.iconst 1, 1) := by decide +kernel
theorem d_X_change_22 : decode Y_X_change.2.1 22 = .ok (.invokevirtual 150, 3) := by decide +kernel
theorem d_X_change_25 : decode Y_X_change.2.1 25 = .ok (.ifCond .eq 11, 3) := by decide +kernel
theorem d_X_change_28 : decode Y_X_change.2.1 28 = .ok (.aload_n 2, 1) := by decide +kernel
theorem d_X_change_29 : decode Y_X_change.2.1 29 = .ok (.iload_n 1, 1) := by decide +kernel
theorem d_X_change_30 : decode Y_X_change.2.1 30 = .ok (.invokevirtual 156, 3) := by decide +kernel
theorem d_X_change_33 : decode Y_X_change.2.1 33 = .ok (.goto 5, 3) := by decide +kernel
theorem d_X_change_36 : decode Y_X_change.2.1 36 = .ok (.bipush (-2), 2) := by decide +kernel
theorem d_X_change_38 : decode Y_X_change.2.1 38 = .ok (.ireturn, 1) := by decide +kernel
theorem d_M_change_0 : decode Y_M_change.2.1 0 = .ok (.aload_n 0, 1) := by decide +kernel
theorem d_M_change_1 : decode Y_M_change.2.1 1 = .ok (.iload_n 1, 1) := by decide +kernel
theorem d_M_change_2 : decode Y_M_change.2.1 2 = .ok (.iconst 1, 1) := by decide +kernel
theorem d_M_change_3 : decode Y_M_change.2.1 3 = .ok (.invokevirtual 269, 3) := by decide +kernel
theorem d_M_change_6 : decode Y_M_change.2.1 6 = .ok (.ireturn, 1) := by decide +kernel
theorem d_Wa_nearer_0 : decode Y_Wa_nearer.2.1 0 = .ok (.iload_n 0, 1) := by decide +kernel
theorem d_Wa_nearer_1 : decode Y_Wa_nearer.2.1 1 = .ok (.invokestatic 112, 3) := by decide +kernel
theorem d_Wa_nearer_4 : decode Y_Wa_nearer.2.1 4 = .ok (.istore_n 2, 1) := by decide +kernel
theorem d_Wa_nearer_5 : decode Y_Wa_nearer.2.1 5 = .ok (.iload_n 1, 1) := by decide +kernel
theorem d_Wa_nearer_6 : decode Y_Wa_nearer.2.1 6 = .ok (.invokestatic 112, 3) := by decide +kernel
theorem d_Wa_nearer_9 : decode Y_Wa_nearer.2.1 9 = .ok (.istore_n 3, 1) := by decide +kernel
theorem d_Wa_nearer_10 : decode Y_Wa_nearer.2.1 10 = .ok (.iload_n 3, 1) := by decide +kernel
theorem d_Wa_nearer_11 : decode Y_Wa_nearer.2.1 11 = .ok (.iload_n 2, 1) := by decide +kernel
theorem d_Wa_nearer_12 : decode Y_Wa_nearer.2.1 12 = .ok (.if_icmp .lt 13, 3) := by decide +kernel
theorem d_Wa_nearer_15 : decode Y_Wa_nearer.2.1 15 = .ok (.iload_n 3, 1) := by decide +kernel
theorem d_Wa_nearer_16 : decode Y_Wa_nearer.2.1 16 = .ok (.iload_n 2, 1) := by decide +kernel
theorem d_Wa_nearer_17 : decode Y_Wa_nearer.2.1 17 = .ok (.if_icmp .ne 12, 3) := by decide +kernel
theorem d_Wa_nearer_20 : decode Y_Wa_nearer.2.1 20 = .ok (.iload_n 1, 1) := by decide +kernel
theorem d_Wa_nearer_21 : decode Y_Wa_nearer.2.1 21 = .ok (.iload_n 0, 1) := by decide +kernel
theorem d_Wa_nearer_22 : decode Y_Wa_nearer.2.1 22 = .ok (.if_icmp .ge 7, 3) := by decide +kernel
theorem d_Wa_nearer_25 : decode Y_Wa_nearer.2.1 25 = .ok (.iload_n 1, 1) := by decide +kernel
theorem d_Wa_nearer_26 : decode Y_Wa_nearer.2.1 26 = .ok (.goto 4, 3) := by decide +kernel
theorem d_Wa_nearer_29 : decode Y_Wa_nearer.2.1 29 = .ok (.iload_n 0, 1) := by decide +kernel
theorem d_Wa_nearer_30 : decode Y_Wa_nearer.2.1 30 = .ok (.ireturn, 1) := by decide +kernel
theorem d_Wa_nearest_0 : decode Y_Wa_nearest.2.1 0 = .ok (.aload_n 0, 1) := by decide +kernel
theorem d_Wa_nearest_1 : decode Y_Wa_nearest.2.1 1 = .ok (.iconst 0, 1) := by decide +kernel
theorem d_Wa_nearest_2 : decode Y_Wa_nearest.2.1 2 = .ok (.invokevirtual 87, 3) := by decide +kernel
theorem d_Wa_nearest_5 : decode Y_Wa_nearest.2.1 5 = .ok (.aload_n 0, 1) := by decide +kernel
theorem d_Wa_nearest_6 : decode Y_Wa_nearest.2.1 6 = .ok (.getfield 17, 3) := by decide +kernel
theorem d_Wa_nearest_9 : decode Y_Wa_nearest.2.1 9 = .ok (.ldc 66, 2) := by decide +kernel
theorem d_Wa_nearest_11 : decode Y_Wa_nearest.2.1 11 = .ok (.invokestatic 91, 3) := by decide +kernel
theorem d_Wa_nearest_14 : decode Y_Wa_nearest.2.1 14 = .ok (.aload_n 0, 1) := by decide +kernel
theorem d_Wa_nearest_15 : decode Y_Wa_nearest.2.1 15 = .ok (.getfield 17, 3) := by decide +kernel
theorem d_Wa_nearest_18 : decode Y_Wa_nearest.2.1 18 = .ok (.iconst 0, 1) := by decide +kernel
theorem d_Wa_nearest_19 : decode Y_Wa_nearest.2.1 19 = .ok (.iconst 0, 1) := by decide +kernel
theorem d_Wa_nearest_20 : decode Y_Wa_nearest.2.1 20 = .ok (.iastore, 1) := by decide +kernel
theorem d_Wa_nearest_21 : decode Y_Wa_nearest.2.1 21 = .ok (.iconst 1, 1) := by decide +kernel
theorem d_Wa_nearest_22 : decode Y_Wa_nearest.2.1 22 = .ok (.istore_n 2, 1) := by decide +kernel
theorem d_Wa_nearest_23 : decode Y_Wa_nearest.2.1 23 = .ok (.iload_n 2, 1) := by decide +kernel
theorem d_Wa_nearest_24 : decode Y_Wa_nearest.2.1 24 = .ok (.aload_n 0, 1) := by decide +kernel
theorem d_Wa_nearest_25 : decode Y_Wa_nearest.2.1 25 = .ok (.getfield 45, 3) := by decide +kernel
theorem d_Wa_nearest_28 : decode Y_Wa_nearest.2.1 28 = .ok (.if_icmp .gt 30, 3) := by decide +kernel
theorem d_Wa_nearest_31 : decode Y_Wa_nearest.2.1 31 = .ok (.iconst 0, 1) := by decide +kernel
theorem d_Wa_nearest_32 : decode Y_Wa_nearest.2.1 32 = .ok (.istore_n 3, 1) := by decide +kernel
theorem d_Wa_nearest_33 : decode Y_Wa_nearest.2.1 33 = .ok (.iload_n 3, 1) := by decide +kernel
theorem d_Wa_nearest_34 : decode Y_Wa_nearest.2.1 34 = .ok (.bipush 7, 2) := by decide +kernel
theorem d_Wa_nearest_36 : decode Y_Wa_nearest.2.1 36 = .ok (.if_icmp .ge 16, 3) := by decide +kernel
theorem d_Wa_nearest_39 : decode Y_Wa_nearest.2.1 39 = .ok (.aload_n 0, 1) := by decide +kernel
theorem d_Wa_nearest_40 : decode Y_Wa_nearest.2.1 40 = .ok (.iload_n 2, 1) := by decide +kernel
theorem d_Wa_nearest_41 : decode Y_Wa_nearest.2.1 41 = .ok (.iload_n 3, 1) := by decide +kernel
theorem d_Wa_nearest_42 : decode Y_Wa_nearest.2.1 42 = .ok (.iconst 1, 1) := by decide +kernel
theorem d_Wa_nearest_43 : decode Y_Wa_nearest.2.1 43 = .ok (.invokevirtual 97, 3) := by decide +kernel
theorem d_Wa_nearest_46 : decode Y_Wa_nearest.2.1 46 = .ok (.iinc 3 1, 3) := by decide +kernel
theorem d_Wa_nearest_49 : decode Y_Wa_nearest.2.1 49 = .ok (.goto (-16), 3) := by decide +kernel
theorem d_Wa_nearest_52 : decode Y_Wa_nearest.2.1 52 = .ok (.iinc 2 1, 3) := by decide +kernel
theorem d_Wa_nearest_55 : decode Y_Wa_nearest.2.1 55 = .ok (.goto (-32), 3) := by decide +kernel
theorem d_Wa_nearest_58 : decode Y_Wa_nearest.2.1 58 = .ok (.ldc 108, 2) := by decide +kernel
theorem d_Wa_nearest_60 : decode Y_Wa_nearest.2.1 60 = .ok (.istore_n 2, 1) := by decide +kernel
theorem d_Wa_nearest_61 : decode Y_Wa_nearest.2.1 61 = .ok (.iconst 0, 1) := by decide +kernel
theorem d_Wa_nearest_62 : decode Y_Wa_nearest.2.1 62 = .ok (.istore_n 3, 1) := by decide +kernel
theorem d_Wa_nearest_63 : decode Y_Wa_nearest.2.1 63 = .ok (.aload_n 0, 1) := by decide +kernel
theorem d_Wa_nearest_64 : decode Y_Wa_nearest.2.1 64 = .ok (.getfield 45, 3) := by decide +kernel
theorem d_Wa_nearest_67 : decode Y_Wa_nearest.2.1 67 = .ok (.ifCond .lt 64, 3) := by decide +kernel
theorem d_Wa_nearest_70 : decode Y_Wa_nearest.2.1 70 = .ok (.iload_n 3, 1) := by decide +kernel
theorem d_Wa_nearest_71 : decode Y_Wa_nearest.2.1 71 = .ok (.aload_n 0, 1) := by decide +kernel
theorem d_Wa_nearest_72 : decode Y_Wa_nearest.2.1 72 = .ok (.getfield 20, 3) := by decide +kernel
theorem d_Wa_nearest_75 : decode Y_Wa_nearest.2.1 75 = .ok (.aload_n 0, 1) := by decide +kernel
theorem d_Wa_nearest_76 : decode Y_Wa_nearest.2.1 76 = .ok (.getfield 45, 3) := by decide +kernel
theorem d_Wa_nearest_79 : decode Y_Wa_nearest.2.1 79 = .ok (.iaload, 1) := by decide +kernel
theorem d_Wa_nearest_80 : decode Y_Wa_nearest.2.1 80 = .ok (.if_icmp .ge 51, 3) := by decide +kernel
theorem d_Wa_nearest_83 : decode Y_Wa_nearest.2.1 83 = .ok (.aload_n 0, 1) := by decide +kernel
theorem d_Wa_nearest_84 : decode Y_Wa_nearest.2.1 84 = .ok (.getfield 17, 3) := by decide +kernel
theorem d_Wa_nearest_87 : decode Y_Wa_nearest.2.1 87 = .ok (.aload_n 0, 1) := by decide +kernel
theorem d_Wa_nearest_88 : decode Y_Wa_nearest.2.1 88 = .ok (.getfield 45, 3) := by decide +kernel
theorem d_Wa_nearest_91 : decode Y_Wa_nearest.2.1 91 = .ok (.sipush 300, 3) := by decide +kernel
theorem d_Wa_nearest_94 : decode Y_Wa_nearest.2.1 94 = .ok (.imul, 1) := by decide +kernel
theorem d_Wa_nearest_95 : decode Y_Wa_nearest.2.1 95 = .ok (.iload_n 3, 1) := by decide +kernel
theorem d_Wa_nearest_96 : decode Y_Wa_nearest.2.1 96 = .ok (.iadd, 1) := by decide +kernel
theorem d_Wa_nearest_97 : decode Y_Wa_nearest.2.1 97 = .ok (.iaload, 1) := by decide +kernel
theorem d_Wa_nearest_98 : decode Y_Wa_nearest.2.1 98 = .ok (.iload_n 1, 1) := by decide +kernel
theorem d_Wa_nearest_99 : decode Y_Wa_nearest.2.1 99 = .ok (.if_icmp .gt 26, 3) := by decide +kernel
theorem d_Wa_nearest_102 : decode Y_Wa_nearest.2.1 102 = .ok (.iload_n 2, 1) := by decide +kernel
theorem d_Wa_nearest_103 : decode Y_Wa_nearest.2.1 103 = .ok (.aload_n 0, 1) := by decide +kernel
theorem d_Wa_nearest_104 : decode Y_Wa_nearest.2.1 104 = .ok (.getfield 13, 3) := by decide +kernel
theorem d_Wa_nearest_107 : decode Y_Wa_nearest.2.1 107 = .ok (.aload_n 0, 1) := by decide +kernel
theorem d_Wa_nearest_108 : decode Y_Wa_nearest.2.1 108 = .ok (.getfield 45, 3) := by decide +kernel
theorem d_Wa_nearest_111 : decode Y_Wa_nearest.2.1 111 = .ok (.sipush 300, 3) := by decide +kernel
theorem d_Wa_nearest_114 : decode Y_Wa_nearest.2.1 114 = .ok (.imul, 1) := by decide +kernel
theorem d_Wa_nearest_115 : decode Y_Wa_nearest.2.1 115 = .ok (.iload_n 3, 1) := by decide +kernel
theorem d_Wa_nearest_116 : decode Y_Wa_nearest.2.1 116 = .ok (.iadd, 1) := by decide +kernel
theorem d_Wa_nearest_117 : decode Y_Wa_nearest.2.1 117 = .ok (.iaload, 1) := by decide +kernel
theorem d_Wa_nearest_118 : decode Y_Wa_nearest.2.1 118 = .ok (.invokestatic 75, 3) := by decide +kernel
theorem d_Wa_nearest_121 : decode Y_Wa_nearest.2.1 121 = .ok (.invokestatic 109, 3) := by decide +kernel
theorem d_Wa_nearest_124 : decode Y_Wa_nearest.2.1 124 = .ok (.istore_n 2, 1) := by decide +kernel
theorem d_Wa_nearest_125 : decode Y_Wa_nearest.2.1 125 = .ok (.iinc 3 1, 3) := by decide +kernel
theorem d_Wa_nearest_128 : decode Y_Wa_nearest.2.1 128 = .ok (.goto (-65), 3) := by decide +kernel
theorem d_Wa_nearest_131 : decode Y_Wa_nearest.2.1 131 = .ok (.iload_n 2, 1) := by decide +kernel
theorem d_Wa_nearest_132 : decode Y_Wa_nearest.2.1 132 = .ok (.ireturn, 1) := by decide +kernel
theorem d_X_bounded_0 : decode Y_X_bounded.2.1 0 = .ok (.iload_n 1, 1) := by decide +kernel
theorem d_X_bounded_1 : decode Y_X_bounded.2.1 1 = .ok (.ifCond .lt 20, 3) := by decide +kernel
theorem d_X_bounded_4 : decode Y_X_bounded.2.1 4 = .ok (.iload_n 1, 1) := by decide +kernel
theorem d_X_bounded_5 : decode Y_X_bounded.2.1 5 = .ok (.ldc 159, 2) := by decide +kernel
theorem d_X_bounded_7 : decode Y_X_bounded.2.1 7 = .ok (.if_icmp .gt 14, 3) := by decide +kernel
theorem d_X_bounded_10 : decode Y_X_bounded.2.1 10 = .ok (.aload_n 0, 1) := by decide +kernel
theorem d_X_bounded_11 : decode Y_X_bounded.2.1 11 = .ok (.getfield 10, 3) := by decide +kernel
theorem d_X_bounded_14 : decode Y_X_bounded.2.1 14 = .ok (.invokevirtual 135, 3) := by decide +kernel
theorem d_X_bounded_17 : decode Y_X_bounded.2.1 17 = .ok (.iconst (-1), 1) := by decide +kernel
theorem d_X_bounded_18 : decode Y_X_bounded.2.1 18 = .ok (.if_icmp .ne 6, 3) := by decide +kernel
theorem d_X_bounded_21 : decode Y_X_bounded.2.1 21 = .ok (.ldc 102, 2) := by decide +kernel
theorem d_X_bounded_23 : decode Y_X_bounded.2.1 23 = .ok (.ireturn, 1) := by decide +kernel
theorem d_X_bounded_24 : decode Y_X_bounded.2.1 24 = .ok (.aload_n 0, 1) := by decide +kernel
theorem d_X_bounded_25 : decode Y_X_bounded.2.1 25 = .ok (.invokevirtual 146, 3) := by decide +kernel
theorem d_X_bounded_28 : decode Y_X_bounded.2.1 28 = .ok (.astore_n 2, 1) := by decide +kernel
theorem d_X_bounded_29 : decode Y_X_bounded.2.1 29 = .ok (.aload_n 2, 1) := by decide +kernel
theorem d_X_bounded_30 : decode Y_X_bounded.2.1 30 = .ok (.ifnull 11, 3) := by decide +kernel
theorem d_X_bounded_33 : decode Y_X_bounded.2.1 33 = .ok (.aload_n 2, 1) := by decide +kernel
theorem d_X_bounded_34 : decode Y_X_bounded.2.1 34 = .ok (.iload_n 1, 1) := by decide +kernel
theorem d_X_bounded_35 : decode Y_X_bounded.2.1 35 = .ok (.invokevirtual 160, 3) := by decide +kernel
theorem d_X_bounded_38 : decode Y_X_bounded.2.1 38 = .ok (.goto 5, 3) := by decide +kernel
theorem d_X_bounded_41 : decode Y_X_bounded.2.1 41 = .ok (.ldc 102, 2) := by decide +kernel
theorem d_X_bounded_43 : decode Y_X_bounded.2.1 43 = .ok (.ireturn, 1) := by decide +kernel
theorem d_M_bounded_0 : decode Y_M_bounded.2.1 0 = .ok (.aload_n 0, 1) := by decide +kernel
theorem d_M_bounded_1 : decode Y_M_bounded.2.1 1 = .ok (.invokevirtual 234, 3) := by decide +kernel
theorem d_M_bounded_4 : decode Y_M_bounded.2.1 4 = .ok (.istore_n 2, 1) := by decide +kernel
theorem d_M_bounded_5 : decode Y_M_bounded.2.1 5 = .ok (.iload_n 2, 1) := by decide +kernel
theorem d_M_bounded_6 : decode Y_M_bounded.2.1 6 = .ok (.iconst (-1), 1) := by decide +kernel
theorem d_M_bounded_7 : decode Y_M_bounded.2.1 7 = .ok (.if_icmp .eq 23, 3) := by decide +kernel
theorem d_M_bounded_10 : decode Y_M_bounded.2.1 10 = .ok (.iload_n 1, 1) := by decide +kernel
theorem d_M_bounded_11 : decode Y_M_bounded.2.1 11 = .ok (.i2l, 1) := by decide +kernel
theorem d_M_bounded_12 : decode Y_M_bounded.2.1 12 = .ok (.lconst 0, 1) := by decide +kernel
theorem d_M_bounded_13 : decode Y_M_bounded.2.1 13 = .ok (.ldc2_w 273, 3) := by decide +kernel
theorem d_M_bounded_16 : decode Y_M_bounded.2.1 16 = .ok (.invokestatic 145, 3) := by decide +kernel
theorem d_M_bounded_19 : decode Y_M_bounded.2.1 19 = .ok (.ifCond .eq 11, 3) := by decide +kernel
theorem d_M_bounded_22 : decode Y_M_bounded.2.1 22 = .ok (.aload_n 0, 1) := by decide +kernel
theorem d_M_bounded_23 : decode Y_M_bounded.2.1 23 = .ok (.iload_n 2, 1) := by decide +kernel
theorem d_M_bounded_24 : decode Y_M_bounded.2.1 24 = .ok (.invokevirtual 252, 3) := by decide +kernel
theorem d_M_bounded_27 : decode Y_M_bounded.2.1 27 = .ok (.ifCond .ne 6, 3) := by decide +kernel
theorem d_M_bounded_30 : decode Y_M_bounded.2.1 30 = .ok (.ldc 192, 2) := by decide +kernel
theorem d_M_bounded_32 : decode Y_M_bounded.2.1 32 = .ok (.ireturn, 1) := by decide +kernel
theorem d_M_bounded_33 : decode Y_M_bounded.2.1 33 = .ok (.iconst 0, 1) := by decide +kernel
theorem d_M_bounded_34 : decode Y_M_bounded.2.1 34 = .ok (.istore_n 3, 1) := by decide +kernel
theorem d_M_bounded_35 : decode Y_M_bounded.2.1 35 = .ok (.iload_n 3, 1) := by decide +kernel
theorem d_M_bounded_36 : decode Y_M_bounded.2.1 36 = .ok (.iload_n 2, 1) := by decide +kernel
theorem d_M_bounded_37 : decode Y_M_bounded.2.1 37 = .ok (.if_icmp .gt 53, 3) := by decide +kernel
theorem d_M_bounded_40 : decode Y_M_bounded.2.1 40 = .ok (.iconst 0, 1) := by decide +kernel
theorem d_M_bounded_41 : decode Y_M_bounded.2.1 41 = .ok (.istore 4, 2) := by decide +kernel
theorem d_M_bounded_43 : decode Y_M_bounded.2.1 43 = .ok (.iload 4, 2) := by decide +kernel
theorem d_M_bounded_45 : decode Y_M_bounded.2.1 45 = .ok (.aload_n 0, 1) := by decide +kernel
theorem d_M_bounded_46 : decode Y_M_bounded.2.1 46 = .ok (.getfield 33, 3) := by decide +kernel
theorem d_M_bounded_49 : decode Y_M_bounded.2.1 49 = .ok (.iload_n 3, 1) := by decide +kernel
theorem d_M_bounded_50 : decode Y_M_bounded.2.1 50 = .ok (.iaload, 1) := by decide +kernel
theorem d_M_bounded_51 : decode Y_M_bounded.2.1 51 = .ok (.if_icmp .ge 33, 3) := by decide +kernel
theorem d_M_bounded_54 : decode Y_M_bounded.2.1 54 = .ok (.aload_n 0, 1) := by decide +kernel
theorem d_M_bounded_55 : decode Y_M_bounded.2.1 55 = .ok (.getfield 45, 3) := by decide +kernel
theorem d_M_bounded_58 : decode Y_M_bounded.2.1 58 = .ok (.sipush 300, 3) := by decide +kernel
theorem d_M_bounded_61 : decode Y_M_bounded.2.1 61 = .ok (.iload_n 3, 1) := by decide +kernel
theorem d_M_bounded_62 : decode Y_M_bounded.2.1 62 = .ok (.imul, 1) := by decide +kernel
theorem d_M_bounded_63 : decode Y_M_bounded.2.1 63 = .ok (.iload 4, 2) := by decide +kernel
theorem d_M_bounded_65 : decode Y_M_bounded.2.1 65 = .ok (.iadd, 1) := by decide +kernel
theorem d_M_bounded_66 : decode Y_M_bounded.2.1 66 = .ok (.iload_n 3, 1) := by decide +kernel
theorem d_M_bounded_67 : decode Y_M_bounded.2.1 67 = .ok (.ifCond .ne 7, 3) := by decide +kernel
theorem d_M_bounded_70 : decode Y_M_bounded.2.1 70 = .ok (.lconst 0, 1) := by decide +kernel
theorem d_M_bounded_71 : decode Y_M_bounded.2.1 71 = .ok (.goto 6, 3) := by decide +kernel
theorem d_M_bounded_74 : decode Y_M_bounded.2.1 74 = .ok (.ldc2_w 255, 3) := by decide +kernel
theorem d_M_bounded_77 : decode Y_M_bounded.2.1 77 = .ok (.lastore, 1) := by decide +kernel
theorem d_M_bounded_78 : decode Y_M_bounded.2.1 78 = .ok (.iinc 4 1, 3) := by decide +kernel
theorem d_M_bounded_81 : decode Y_M_bounded.2.1 81 = .ok (.goto (-38), 3) := by decide +kernel
theorem d_M_bounded_84 : decode Y_M_bounded.2.1 84 = .ok (.iinc 3 1, 3) := by decide +kernel
theorem d_M_bounded_87 : decode Y_M_bounded.2.1 87 = .ok (.goto (-52), 3) := by decide +kernel
theorem d_M_bounded_90 : decode Y_M_bounded.2.1 90 = .ok (.iconst 1, 1) := by decide +kernel
theorem d_M_bounded_91 : decode Y_M_bounded.2.1 91 = .ok (.istore_n 3, 1) := by decide +kernel
theorem d_M_bounded_92 : decode Y_M_bounded.2.1 92 = .ok (.iload_n 3, 1) := by decide +kernel
theorem d_M_bounded_93 : decode Y_M_bounded.2.1 93 = .ok (.iload_n 2, 1) := by decide +kernel
theorem d_M_bounded_94 : decode Y_M_bounded.2.1 94 = .ok (.if_icmp .gt 128, 3) := by decide +kernel
theorem d_M_bounded_97 : decode Y_M_bounded.2.1 97 = .ok (.iconst (-1), 1) := by decide +kernel
theorem d_M_bounded_98 : decode Y_M_bounded.2.1 98 = .ok (.istore 4, 2) := by decide +kernel
theorem d_M_bounded_100 : decode Y_M_bounded.2.1 100 = .ok (.iload 4, 2) := by decide +kernel
theorem d_M_bounded_102 : decode Y_M_bounded.2.1 102 = .ok (.bipush 6, 2) := by decide +kernel
theorem d_M_bounded_104 : decode Y_M_bounded.2.1 104 = .ok (.if_icmp .ge 112, 3) := by decide +kernel
theorem d_M_bounded_107 : decode Y_M_bounded.2.1 107 = .ok (.aload_n 0, 1) := by decide +kernel
theorem d_M_bounded_108 : decode Y_M_bounded.2.1 108 = .ok (.iload_n 3, 1) := by decide +kernel
theorem d_M_bounded_109 : decode Y_M_bounded.2.1 109 = .ok (.iload 4, 2) := by decide +kernel
theorem d_M_bounded_111 : decode Y_M_bounded.2.1 111 = .ok (.invokevirtual 246, 3) := by decide +kernel
theorem d_M_bounded_114 : decode Y_M_bounded.2.1 114 = .ok (.ifCond .ne 6, 3) := by decide +kernel
theorem d_M_bounded_117 : decode Y_M_bounded.2.1 117 = .ok (.goto 93, 3) := by decide +kernel
theorem d_M_bounded_120 : decode Y_M_bounded.2.1 120 = .ok (.aload_n 0, 1) := by decide +kernel
theorem d_M_bounded_121 : decode Y_M_bounded.2.1 121 = .ok (.iload_n 3, 1) := by decide +kernel
theorem d_M_bounded_122 : decode Y_M_bounded.2.1 122 = .ok (.iload 4, 2) := by decide +kernel
theorem d_M_bounded_124 : decode Y_M_bounded.2.1 124 = .ok (.invokevirtual 238, 3) := by decide +kernel
theorem d_M_bounded_127 : decode Y_M_bounded.2.1 127 = .ok (.lstore 5, 2) := by decide +kernel
theorem d_M_bounded_129 : decode Y_M_bounded.2.1 129 = .ok (.iconst 0, 1) := by decide +kernel
theorem d_M_bounded_130 : decode Y_M_bounded.2.1 130 = .ok (.istore 7, 2) := by decide +kernel
theorem d_M_bounded_132 : decode Y_M_bounded.2.1 132 = .ok (.iload 7, 2) := by decide +kernel
theorem d_M_bounded_134 : decode Y_M_bounded.2.1 134 = .ok (.aload_n 0, 1) := by decide +kernel
theorem d_M_bounded_135 : decode Y_M_bounded.2.1 135 = .ok (.getfield 33, 3) := by decide +kernel
theorem d_M_bounded_138 : decode Y_M_bounded.2.1 138 = .ok (.iload_n 3, 1) := by decide +kernel
theorem d_M_bounded_139 : decode Y_M_bounded.2.1 139 = .ok (.iconst 1, 1) := by decide +kernel
theorem d_M_bounded_140 : decode Y_M_bounded.2.1 140 = .ok (.isub, 1) := by decide +kernel
theorem d_M_bounded_141 : decode Y_M_bounded.2.1 141 = .ok (.iaload, 1) := by decide +kernel
theorem d_M_bounded_142 : decode Y_M_bounded.2.1 142 = .ok (.if_icmp .ge 68, 3) := by decide +kernel
theorem d_M_bounded_145 : decode Y_M_bounded.2.1 145 = .ok (.sipush 300, 3) := by decide +kernel
theorem d_M_bounded_148 : decode Y_M_bounded.2.1 148 = .ok (.iload_n 3, 1) := by decide +kernel
theorem d_M_bounded_149 : decode Y_M_bounded.2.1 149 = .ok (.imul, 1) := by decide +kernel
theorem d_M_bounded_150 : decode Y_M_bounded.2.1 150 = .ok (.aload_n 0, 1) := by decide +kernel
theorem d_M_bounded_151 : decode Y_M_bounded.2.1 151 = .ok (.iload_n 3, 1) := by decide +kernel
theorem d_M_bounded_152 : decode Y_M_bounded.2.1 152 = .ok (.iload 7, 2) := by decide +kernel
theorem d_M_bounded_154 : decode Y_M_bounded.2.1 154 = .ok (.iload 4, 2) := by decide +kernel
theorem d_M_bounded_156 : decode Y_M_bounded.2.1 156 = .ok (.invokevirtual 249, 3) := by decide +kernel
theorem d_M_bounded_159 : decode Y_M_bounded.2.1 159 = .ok (.iadd, 1) := by decide +kernel
theorem d_M_bounded_160 : decode Y_M_bounded.2.1 160 = .ok (.istore 8, 2) := by decide +kernel
theorem d_M_bounded_162 : decode Y_M_bounded.2.1 162 = .ok (.lload 5, 2) := by decide +kernel
theorem d_M_bounded_164 : decode Y_M_bounded.2.1 164 = .ok (.aload_n 0, 1) := by decide +kernel
theorem d_M_bounded_165 : decode Y_M_bounded.2.1 165 = .ok (.getfield 45, 3) := by decide +kernel
theorem d_M_bounded_168 : decode Y_M_bounded.2.1 168 = .ok (.sipush 300, 3) := by decide +kernel
theorem d_M_bounded_171 : decode Y_M_bounded.2.1 171 = .ok (.iload_n 3, 1) := by decide +kernel
theorem d_M_bounded_172 : decode Y_M_bounded.2.1 172 = .ok (.iconst 1, 1) := by decide +kernel
theorem d_M_bounded_173 : decode Y_M_bounded.2.1 173 = .ok (.isub, 1) := by decide +kernel
theorem d_M_bounded_174 : decode Y_M_bounded.2.1 174 = .ok (.imul, 1) := by decide +kernel
theorem d_M_bounded_175 : decode Y_M_bounded.2.1 175 = .ok (.iload 7, 2) := by decide +kernel
theorem d_M_bounded_177 : decode Y_M_bounded.2.1 177 = .ok (.iadd, 1) := by decide +kernel
theorem d_M_bounded_178 : decode Y_M_bounded.2.1 178 = .ok (.laload, 1) := by decide +kernel
theorem d_M_bounded_179 : decode Y_M_bounded.2.1 179 = .ok (.ladd, 1) := by decide +kernel
theorem d_M_bounded_180 : decode Y_M_bounded.2.1 180 = .ok (.lstore 9, 2) := by decide +kernel
theorem d_M_bounded_182 : decode Y_M_bounded.2.1 182 = .ok (.lload 9, 2) := by decide +kernel
theorem d_M_bounded_184 : decode Y_M_bounded.2.1 184 = .ok (.aload_n 0, 1) := by decide +kernel
theorem d_M_bounded_185 : decode Y_M_bounded.2.1 185 = .ok (.getfield 45, 3) := by decide +kernel
theorem d_M_bounded_188 : decode Y_M_bounded.2.1 188 = .ok (.iload 8, 2) := by decide +kernel
theorem d_M_bounded_190 : decode Y_M_bounded.2.1 190 = .ok (.laload, 1) := by decide +kernel
theorem d_M_bounded_191 : decode Y_M_bounded.2.1 191 = .ok (.lcmp, 1) := by decide +kernel
theorem d_M_bounded_192 : decode Y_M_bounded.2.1 192 = .ok (.ifCond .ge 12, 3) := by decide +kernel
theorem d_M_bounded_195 : decode Y_M_bounded.2.1 195 = .ok (.aload_n 0, 1) := by decide +kernel
theorem d_M_bounded_196 : decode Y_M_bounded.2.1 196 = .ok (.getfield 45, 3) := by decide +kernel
theorem d_M_bounded_199 : decode Y_M_bounded.2.1 199 = .ok (.iload 8, 2) := by decide +kernel
theorem d_M_bounded_201 : decode Y_M_bounded.2.1 201 = .ok (.lload 9, 2) := by decide +kernel
theorem d_M_bounded_203 : decode Y_M_bounded.2.1 203 = .ok (.lastore, 1) := by decide +kernel
theorem d_M_bounded_204 : decode Y_M_bounded.2.1 204 = .ok (.iinc 7 1, 3) := by decide +kernel
theorem d_M_bounded_207 : decode Y_M_bounded.2.1 207 = .ok (.goto (-75), 3) := by decide +kernel
theorem d_M_bounded_210 : decode Y_M_bounded.2.1 210 = .ok (.iinc 4 1, 3) := by decide +kernel
theorem d_M_bounded_213 : decode Y_M_bounded.2.1 213 = .ok (.goto (-113), 3) := by decide +kernel
theorem d_M_bounded_216 : decode Y_M_bounded.2.1 216 = .ok (.iinc 3 1, 3) := by decide +kernel
theorem d_M_bounded_219 : decode Y_M_bounded.2.1 219 = .ok (.goto (-127), 3) := by decide +kernel
theorem d_M_bounded_222 : decode Y_M_bounded.2.1 222 = .ok (.ldc 192, 2) := by decide +kernel
theorem d_M_bounded_224 : decode Y_M_bounded.2.1 224 = .ok (.istore_n 3, 1) := by decide +kernel
theorem d_M_bounded_225 : decode Y_M_bounded.2.1 225 = .ok (.iconst 0, 1) := by decide +kernel
theorem d_M_bounded_226 : decode Y_M_bounded.2.1 226 = .ok (.istore 4, 2) := by decide +kernel
theorem d_M_bounded_228 : decode Y_M_bounded.2.1 228 = .ok (.iload 4, 2) := by decide +kernel
theorem d_M_bounded_230 : decode Y_M_bounded.2.1 230 = .ok (.aload_n 0, 1) := by decide +kernel
theorem d_M_bounded_231 : decode Y_M_bounded.2.1 231 = .ok (.getfield 33, 3) := by decide +kernel
theorem d_M_bounded_234 : decode Y_M_bounded.2.1 234 = .ok (.iload_n 2, 1) := by decide +kernel
theorem d_M_bounded_235 : decode Y_M_bounded.2.1 235 = .ok (.iaload, 1) := by decide +kernel
theorem d_M_bounded_236 : decode Y_M_bounded.2.1 236 = .ok (.if_icmp .ge 106, 3) := by decide +kernel
theorem d_M_bounded_239 : decode Y_M_bounded.2.1 239 = .ok (.sipush 300, 3) := by decide +kernel
theorem d_M_bounded_242 : decode Y_M_bounded.2.1 242 = .ok (.iload_n 2, 1) := by decide +kernel
theorem d_M_bounded_243 : decode Y_M_bounded.2.1 243 = .ok (.imul, 1) := by decide +kernel
theorem d_M_bounded_244 : decode Y_M_bounded.2.1 244 = .ok (.iload 4, 2) := by decide +kernel
theorem d_M_bounded_246 : decode Y_M_bounded.2.1 246 = .ok (.iadd, 1) := by decide +kernel
theorem d_M_bounded_247 : decode Y_M_bounded.2.1 247 = .ok (.istore 5, 2) := by decide +kernel
theorem d_M_bounded_249 : decode Y_M_bounded.2.1 249 = .ok (.aload_n 0, 1) := by decide +kernel
theorem d_M_bounded_250 : decode Y_M_bounded.2.1 250 = .ok (.getfield 45, 3) := by decide +kernel
theorem d_M_bounded_253 : decode Y_M_bounded.2.1 253 = .ok (.iload 5, 2) := by decide +kernel
theorem d_M_bounded_255 : decode Y_M_bounded.2.1 255 = .ok (.laload, 1) := by decide +kernel
theorem d_M_bounded_256 : decode Y_M_bounded.2.1 256 = .ok (.iload_n 1, 1) := by decide +kernel
theorem d_M_bounded_257 : decode Y_M_bounded.2.1 257 = .ok (.i2l, 1) := by decide +kernel
theorem d_M_bounded_258 : decode Y_M_bounded.2.1 258 = .ok (.lcmp, 1) := by decide +kernel
theorem d_M_bounded_259 : decode Y_M_bounded.2.1 259 = .ok (.ifCond .le 6, 3) := by decide +kernel
theorem d_M_bounded_262 : decode Y_M_bounded.2.1 262 = .ok (.goto 74, 3) := by decide +kernel
theorem d_M_bounded_265 : decode Y_M_bounded.2.1 265 = .ok (.aload_n 0, 1) := by decide +kernel
theorem d_M_bounded_266 : decode Y_M_bounded.2.1 266 = .ok (.getfield 36, 3) := by decide +kernel
theorem d_M_bounded_269 : decode Y_M_bounded.2.1 269 = .ok (.iload 5, 2) := by decide +kernel
theorem d_M_bounded_271 : decode Y_M_bounded.2.1 271 = .ok (.iaload, 1) := by decide +kernel
theorem d_M_bounded_272 : decode Y_M_bounded.2.1 272 = .ok (.aload_n 0, 1) := by decide +kernel
theorem d_M_bounded_273 : decode Y_M_bounded.2.1 273 = .ok (.getfield 39, 3) := by decide +kernel
theorem d_M_bounded_276 : decode Y_M_bounded.2.1 276 = .ok (.iload 5, 2) := by decide +kernel
theorem d_M_bounded_278 : decode Y_M_bounded.2.1 278 = .ok (.iaload, 1) := by decide +kernel
theorem d_M_bounded_279 : decode Y_M_bounded.2.1 279 = .ok (.aload_n 0, 1) := by decide +kernel
theorem d_M_bounded_280 : decode Y_M_bounded.2.1 280 = .ok (.getfield 42, 3) := by decide +kernel
theorem d_M_bounded_283 : decode Y_M_bounded.2.1 283 = .ok (.iload 5, 2) := by decide +kernel
theorem d_M_bounded_285 : decode Y_M_bounded.2.1 285 = .ok (.iaload, 1) := by decide +kernel
theorem d_M_bounded_286 : decode Y_M_bounded.2.1 286 = .ok (.invokestatic 172, 3) := by decide +kernel
theorem d_M_bounded_289 : decode Y_M_bounded.2.1 289 = .ok (.istore 6, 2) := by decide +kernel
theorem d_M_bounded_291 : decode Y_M_bounded.2.1 291 = .ok (.iload_n 3, 1) := by decide +kernel
theorem d_M_bounded_292 : decode Y_M_bounded.2.1 292 = .ok (.ldc 192, 2) := by decide +kernel
theorem d_M_bounded_294 : decode Y_M_bounded.2.1 294 = .ok (.if_icmp .eq 39, 3) := by decide +kernel
theorem d_M_bounded_297 : decode Y_M_bounded.2.1 297 = .ok (.iload 6, 2) := by decide +kernel
theorem d_M_bounded_299 : decode Y_M_bounded.2.1 299 = .ok (.i2l, 1) := by decide +kernel
theorem d_M_bounded_300 : decode Y_M_bounded.2.1 300 = .ok (.invokestatic 225, 3) := by decide +kernel
theorem d_M_bounded_303 : decode Y_M_bounded.2.1 303 = .ok (.iload_n 3, 1) := by decide +kernel
theorem d_M_bounded_304 : decode Y_M_bounded.2.1 304 = .ok (.i2l, 1) := by decide +kernel
theorem d_M_bounded_305 : decode Y_M_bounded.2.1 305 = .ok (.invokestatic 225, 3) := by decide +kernel
theorem d_M_bounded_308 : decode Y_M_bounded.2.1 308 = .ok (.lcmp, 1) := by decide +kernel
theorem d_M_bounded_309 : decode Y_M_bounded.2.1 309 = .ok (.ifCond .lt 24, 3) := by decide +kernel
theorem d_M_bounded_312 : decode Y_M_bounded.2.1 312 = .ok (.iload 6, 2) := by decide +kernel
theorem d_M_bounded_314 : decode Y_M_bounded.2.1 314 = .ok (.i2l, 1) := by decide +kernel
theorem d_M_bounded_315 : decode Y_M_bounded.2.1 315 = .ok (.invokestatic 225, 3) := by decide +kernel
theorem d_M_bounded_318 : decode Y_M_bounded.2.1 318 = .ok (.iload_n 3, 1) := by decide +kernel
theorem d_M_bounded_319 : decode Y_M_bounded.2.1 319 = .ok (.i2l, 1) := by decide +kernel
theorem d_M_bounded_320 : decode Y_M_bounded.2.1 320 = .ok (.invokestatic 225, 3) := by decide +kernel
theorem d_M_bounded_323 : decode Y_M_bounded.2.1 323 = .ok (.lcmp, 1) := by decide +kernel
theorem d_M_bounded_324 : decode Y_M_bounded.2.1 324 = .ok (.ifCond .ne 12, 3) := by decide +kernel
theorem d_M_bounded_327 : decode Y_M_bounded.2.1 327 = .ok (.iload 6, 2) := by decide +kernel
theorem d_M_bounded_329 : decode Y_M_bounded.2.1 329 = .ok (.iload_n 3, 1) := by decide +kernel
theorem d_M_bounded_330 : decode Y_M_bounded.2.1 330 = .ok (.if_icmp .ge 6, 3) := by decide +kernel
theorem d_M_bounded_333 : decode Y_M_bounded.2.1 333 = .ok (.iload 6, 2) := by decide +kernel
theorem d_M_bounded_335 : decode Y_M_bounded.2.1 335 = .ok (.istore_n 3, 1) := by decide +kernel
theorem d_M_bounded_336 : decode Y_M_bounded.2.1 336 = .ok (.iinc 4 1, 3) := by decide +kernel
theorem d_M_bounded_339 : decode Y_M_bounded.2.1 339 = .ok (.goto (-111), 3) := by decide +kernel
theorem d_M_bounded_342 : decode Y_M_bounded.2.1 342 = .ok (.iload_n 3, 1) := by decide +kernel
theorem d_M_bounded_343 : decode Y_M_bounded.2.1 343 = .ok (.ireturn, 1) := by decide +kernel
theorem d_X_singer_0 : decode Y_X_singer.2.1 0 = .ok (.iload_n 1, 1) := by decide +kernel
theorem d_X_singer_1 : decode Y_X_singer.2.1 1 = .ok (.ifCond .lt 23, 3) := by decide +kernel
theorem d_X_singer_4 : decode Y_X_singer.2.1 4 = .ok (.iload_n 1, 1) := by decide +kernel
theorem d_X_singer_5 : decode Y_X_singer.2.1 5 = .ok (.bipush 6, 2) := by decide +kernel
theorem d_X_singer_7 : decode Y_X_singer.2.1 7 = .ok (.if_icmp .ge 17, 3) := by decide +kernel
theorem d_X_singer_10 : decode Y_X_singer.2.1 10 = .ok (.iload_n 2, 1) := by decide +kernel
theorem d_X_singer_11 : decode Y_X_singer.2.1 11 = .ok (.ifCond .lt 13, 3) := by decide +kernel
theorem d_X_singer_14 : decode Y_X_singer.2.1 14 = .ok (.iload_n 2, 1) := by decide +kernel
theorem d_X_singer_15 : decode Y_X_singer.2.1 15 = .ok (.bipush 16, 2) := by decide +kernel
theorem d_X_singer_17 : decode Y_X_singer.2.1 17 = .ok (.if_icmp .ge 7, 3) := by decide +kernel
theorem d_X_singer_20 : decode Y_X_singer.2.1 20 = .ok (.iconst 1, 1) := by decide +kernel
theorem d_X_singer_21 : decode Y_X_singer.2.1 21 = .ok (.goto 4, 3) := by decide +kernel
theorem d_X_singer_24 : decode Y_X_singer.2.1 24 = .ok (.iconst 0, 1) := by decide +kernel
theorem d_X_singer_25 : decode Y_X_singer.2.1 25 = .ok (.istore 5, 2) := by decide +kernel
theorem d_X_singer_27 : decode Y_X_singer.2.1 27 = .ok (.iload 5, 2) := by decide +kernel
theorem d_X_singer_29 : decode Y_X_singer.2.1 29 = .ok (.ifCond .eq 37, 3) := by decide +kernel
theorem d_X_singer_32 : decode Y_X_singer.2.1 32 = .ok (.iload_n 3, 1) := by decide +kernel
theorem d_X_singer_33 : decode Y_X_singer.2.1 33 = .ok (.iconst 1, 1) := by decide +kernel
theorem d_X_singer_34 : decode Y_X_singer.2.1 34 = .ok (.if_icmp .lt 32, 3) := by decide +kernel
theorem d_X_singer_37 : decode Y_X_singer.2.1 37 = .ok (.iload_n 3, 1) := by decide +kernel
theorem d_X_singer_38 : decode Y_X_singer.2.1 38 = .ok (.bipush 9, 2) := by decide +kernel
theorem d_X_singer_40 : decode Y_X_singer.2.1 40 = .ok (.if_icmp .gt 26, 3) := by decide +kernel
theorem d_X_singer_43 : decode Y_X_singer.2.1 43 = .ok (.iload 4, 2) := by decide +kernel
theorem d_X_singer_45 : decode Y_X_singer.2.1 45 = .ok (.ifCond .lt 21, 3) := by decide +kernel
theorem d_X_singer_48 : decode Y_X_singer.2.1 48 = .ok (.iload 4, 2) := by decide +kernel
theorem d_X_singer_50 : decode Y_X_singer.2.1 50 = .ok (.iconst 1, 1) := by decide +kernel
theorem d_X_singer_51 : decode Y_X_singer.2.1 51 = .ok (.if_icmp .gt 15, 3) := by decide +kernel
theorem d_X_singer_54 : decode Y_X_singer.2.1 54 = .ok (.aload_n 0, 1) := by decide +kernel
theorem d_X_singer_55 : decode Y_X_singer.2.1 55 = .ok (.getfield 21, 3) := by decide +kernel
theorem d_X_singer_58 : decode Y_X_singer.2.1 58 = .ok (.getfield 163, 3) := by decide +kernel
theorem d_X_singer_61 : decode Y_X_singer.2.1 61 = .ok (.bipush 8, 2) := by decide +kernel
theorem d_X_singer_63 : decode Y_X_singer.2.1 63 = .ok (.if_icmp .lt 5, 3) := by decide +kernel
theorem d_X_singer_66 : decode Y_X_singer.2.1 66 = .ok (.iconst (-1), 1) := by decide +kernel
theorem d_X_singer_67 : decode Y_X_singer.2.1 67 = .ok (.ireturn, 1) := by decide +kernel
theorem d_X_singer_68 : decode Y_X_singer.2.1 68 = .ok (.aload_n 0, 1) := by decide +kernel
theorem d_X_singer_69 : decode Y_X_singer.2.1 69 = .ok (.getfield 21, 3) := by decide +kernel
theorem d_X_singer_72 : decode Y_X_singer.2.1 72 = .ok (.getfield 163, 3) := by decide +kernel
theorem d_X_singer_75 : decode Y_X_singer.2.1 75 = .ok (.istore 6, 2) := by decide +kernel
theorem d_X_singer_77 : decode Y_X_singer.2.1 77 = .ok (.aload_n 0, 1) := by decide +kernel
theorem d_X_singer_78 : decode Y_X_singer.2.1 78 = .ok (.getfield 21, 3) := by decide +kernel
theorem d_X_singer_81 : decode Y_X_singer.2.1 81 = .ok (.getfield 167, 3) := by decide +kernel
theorem d_X_singer_84 : decode Y_X_singer.2.1 84 = .ok (.iload 6, 2) := by decide +kernel
theorem d_X_singer_86 : decode Y_X_singer.2.1 86 = .ok (.iload_n 1, 1) := by decide +kernel
theorem d_X_singer_87 : decode Y_X_singer.2.1 87 = .ok (.iastore, 1) := by decide +kernel
theorem d_X_singer_88 : decode Y_X_singer.2.1 88 = .ok (.aload_n 0, 1) := by decide +kernel
theorem d_X_singer_89 : decode Y_X_singer.2.1 89 = .ok (.getfield 21, 3) := by decide +kernel
theorem d_X_singer_92 : decode Y_X_singer.2.1 92 = .ok (.getfield 170, 3) := by decide +kernel
theorem d_X_singer_95 : decode Y_X_singer.2.1 95 = .ok (.iload 6, 2) := by decide +kernel
theorem d_X_singer_97 : decode Y_X_singer.2.1 97 = .ok (.iload_n 2, 1) := by decide +kernel
theorem d_X_singer_98 : decode Y_X_singer.2.1 98 = .ok (.iastore, 1) := by decide +kernel
theorem d_X_singer_99 : decode Y_X_singer.2.1 99 = .ok (.aload_n 0, 1) := by decide +kernel
theorem d_X_singer_100 : decode Y_X_singer.2.1 100 = .ok (.getfield 21, 3) := by decide +kernel
theorem d_X_singer_103 : decode Y_X_singer.2.1 103 = .ok (.getfield 173, 3) := by decide +kernel
theorem d_X_singer_106 : decode Y_X_singer.2.1 106 = .ok (.iload 6, 2) := by decide +kernel
theorem d_X_singer_108 : decode Y_X_singer.2.1 108 = .ok (.iload_n 3, 1) := by decide +kernel
theorem d_X_singer_109 : decode Y_X_singer.2.1 109 = .ok (.iastore, 1) := by decide +kernel
theorem d_X_singer_110 : decode Y_X_singer.2.1 110 = .ok (.aload_n 0, 1) := by decide +kernel
theorem d_X_singer_111 : decode Y_X_singer.2.1 111 = .ok (.getfield 21, 3) := by decide +kernel
theorem d_X_singer_114 : decode Y_X_singer.2.1 114 = .ok (.getfield 176, 3) := by decide +kernel
theorem d_X_singer_117 : decode Y_X_singer.2.1 117 = .ok (.iload 6, 2) := by decide +kernel
theorem d_X_singer_119 : decode Y_X_singer.2.1 119 = .ok (.iload 4, 2) := by decide +kernel
theorem d_X_singer_121 : decode Y_X_singer.2.1 121 = .ok (.iastore, 1) := by decide +kernel
theorem d_X_singer_122 : decode Y_X_singer.2.1 122 = .ok (.aload_n 0, 1) := by decide +kernel
theorem d_X_singer_123 : decode Y_X_singer.2.1 123 = .ok (.getfield 21, 3) := by decide +kernel
theorem d_X_singer_126 : decode Y_X_singer.2.1 126 = .ok (.dup, 1) := by decide +kernel
theorem d_X_singer_127 : decode Y_X_singer.2.1 127 = .ok (.getfield 163, 3) := by decide +kernel
theorem d_X_singer_130 : decode Y_X_singer.2.1 130 = .ok (.iconst 1, 1) := by decide +kernel
theorem d_X_singer_131 : decode Y_X_singer.2.1 131 = .ok (.iadd, 1) := by decide +kernel
theorem d_X_singer_132 : decode Y_X_singer.2.1 132 = .ok (.putfield 163, 3) := by decide +kernel
theorem d_X_singer_135 : decode Y_X_singer.2.1 135 = .ok (.aload_n 0, 1) := by decide +kernel
theorem d_X_singer_136 : decode Y_X_singer.2.1 136 = .ok (.invokevirtual 88, 3) := by decide +kernel
theorem d_X_singer_139 : decode Y_X_singer.2.1 139 = .ok (.pop, 1) := by decide +kernel
theorem d_X_singer_140 : decode Y_X_singer.2.1 140 = .ok (.iload 6, 2) := by decide +kernel
theorem d_X_singer_142 : decode Y_X_singer.2.1 142 = .ok (.ireturn, 1) := by decide +kernel
theorem d_M_singer_0 : decode Y_M_singer.2.1 0 = .ok (.aload_n 0, 1) := by decide +kernel
theorem d_M_singer_1 : decode Y_M_singer.2.1 1 = .ok (.getfield 275, 3) := by decide +kernel
theorem d_M_singer_4 : decode Y_M_singer.2.1 4 = .ok (.bipush 8, 2) := by decide +kernel
theorem d_M_singer_6 : decode Y_M_singer.2.1 6 = .ok (.if_icmp .eq 45, 3) := by decide +kernel
theorem d_M_singer_9 : decode Y_M_singer.2.1 9 = .ok (.iload_n 1, 1) := by decide +kernel
theorem d_M_singer_10 : decode Y_M_singer.2.1 10 = .ok (.invokestatic 151, 3) := by decide +kernel
theorem d_M_singer_13 : decode Y_M_singer.2.1 13 = .ok (.ifCond .eq 38, 3) := by decide +kernel
theorem d_M_singer_16 : decode Y_M_singer.2.1 16 = .ok (.iload_n 2, 1) := by decide +kernel
theorem d_M_singer_17 : decode Y_M_singer.2.1 17 = .ok (.i2l, 1) := by decide +kernel
theorem d_M_singer_18 : decode Y_M_singer.2.1 18 = .ok (.lconst 0, 1) := by decide +kernel
theorem d_M_singer_19 : decode Y_M_singer.2.1 19 = .ok (.ldc2_w 278, 3) := by decide +kernel
theorem d_M_singer_22 : decode Y_M_singer.2.1 22 = .ok (.invokestatic 145, 3) := by decide +kernel
theorem d_M_singer_25 : decode Y_M_singer.2.1 25 = .ok (.ifCond .eq 26, 3) := by decide +kernel
theorem d_M_singer_28 : decode Y_M_singer.2.1 28 = .ok (.iload_n 3, 1) := by decide +kernel
theorem d_M_singer_29 : decode Y_M_singer.2.1 29 = .ok (.i2l, 1) := by decide +kernel
theorem d_M_singer_30 : decode Y_M_singer.2.1 30 = .ok (.lconst 1, 1) := by decide +kernel
theorem d_M_singer_31 : decode Y_M_singer.2.1 31 = .ok (.ldc2_w 280, 3) := by decide +kernel
theorem d_M_singer_34 : decode Y_M_singer.2.1 34 = .ok (.invokestatic 145, 3) := by decide +kernel
theorem d_M_singer_37 : decode Y_M_singer.2.1 37 = .ok (.ifCond .eq 14, 3) := by decide +kernel
theorem d_M_singer_40 : decode Y_M_singer.2.1 40 = .ok (.iload 4, 2) := by decide +kernel
theorem d_M_singer_42 : decode Y_M_singer.2.1 42 = .ok (.i2l, 1) := by decide +kernel
theorem d_M_singer_43 : decode Y_M_singer.2.1 43 = .ok (.lconst 0, 1) := by decide +kernel
theorem d_M_singer_44 : decode Y_M_singer.2.1 44 = .ok (.lconst 1, 1) := by decide +kernel
theorem d_M_singer_45 : decode Y_M_singer.2.1 45 = .ok (.invokestatic 145, 3) := by decide +kernel
theorem d_M_singer_48 : decode Y_M_singer.2.1 48 = .ok (.ifCond .ne 5, 3) := by decide +kernel
theorem d_M_singer_51 : decode Y_M_singer.2.1 51 = .ok (.iconst (-1), 1) := by decide +kernel
theorem d_M_singer_52 : decode Y_M_singer.2.1 52 = .ok (.ireturn, 1) := by decide +kernel
theorem d_M_singer_53 : decode Y_M_singer.2.1 53 = .ok (.aload_n 0, 1) := by decide +kernel
theorem d_M_singer_54 : decode Y_M_singer.2.1 54 = .ok (.getfield 56, 3) := by decide +kernel
theorem d_M_singer_57 : decode Y_M_singer.2.1 57 = .ok (.aload_n 0, 1) := by decide +kernel
theorem d_M_singer_58 : decode Y_M_singer.2.1 58 = .ok (.getfield 275, 3) := by decide +kernel
theorem d_M_singer_61 : decode Y_M_singer.2.1 61 = .ok (.iload_n 1, 1) := by decide +kernel
theorem d_M_singer_62 : decode Y_M_singer.2.1 62 = .ok (.iastore, 1) := by decide +kernel
theorem d_M_singer_63 : decode Y_M_singer.2.1 63 = .ok (.aload_n 0, 1) := by decide +kernel
theorem d_M_singer_64 : decode Y_M_singer.2.1 64 = .ok (.getfield 59, 3) := by decide +kernel
theorem d_M_singer_67 : decode Y_M_singer.2.1 67 = .ok (.aload_n 0, 1) := by decide +kernel
theorem d_M_singer_68 : decode Y_M_singer.2.1 68 = .ok (.getfield 275, 3) := by decide +kernel
theorem d_M_singer_71 : decode Y_M_singer.2.1 71 = .ok (.iload_n 2, 1) := by decide +kernel
theorem d_M_singer_72 : decode Y_M_singer.2.1 72 = .ok (.iastore, 1) := by decide +kernel
theorem d_M_singer_73 : decode Y_M_singer.2.1 73 = .ok (.aload_n 0, 1) := by decide +kernel
theorem d_M_singer_74 : decode Y_M_singer.2.1 74 = .ok (.getfield 62, 3) := by decide +kernel
theorem d_M_singer_77 : decode Y_M_singer.2.1 77 = .ok (.aload_n 0, 1) := by decide +kernel
theorem d_M_singer_78 : decode Y_M_singer.2.1 78 = .ok (.getfield 275, 3) := by decide +kernel
theorem d_M_singer_81 : decode Y_M_singer.2.1 81 = .ok (.iload_n 3, 1) := by decide +kernel
theorem d_M_singer_82 : decode Y_M_singer.2.1 82 = .ok (.iastore, 1) := by decide +kernel
theorem d_M_singer_83 : decode Y_M_singer.2.1 83 = .ok (.aload_n 0, 1) := by decide +kernel
theorem d_M_singer_84 : decode Y_M_singer.2.1 84 = .ok (.getfield 65, 3) := by decide +kernel
theorem d_M_singer_87 : decode Y_M_singer.2.1 87 = .ok (.aload_n 0, 1) := by decide +kernel
theorem d_M_singer_88 : decode Y_M_singer.2.1 88 = .ok (.getfield 275, 3) := by decide +kernel
theorem d_M_singer_91 : decode Y_M_singer.2.1 91 = .ok (.iload 4, 2) := by decide +kernel
theorem d_M_singer_93 : decode Y_M_singer.2.1 93 = .ok (.iastore, 1) := by decide +kernel
theorem d_M_singer_94 : decode Y_M_singer.2.1 94 = .ok (.aload_n 0, 1) := by decide +kernel
theorem d_M_singer_95 : decode Y_M_singer.2.1 95 = .ok (.dup, 1) := by decide +kernel
theorem d_M_singer_96 : decode Y_M_singer.2.1 96 = .ok (.getfield 275, 3) := by decide +kernel
theorem d_M_singer_99 : decode Y_M_singer.2.1 99 = .ok (.iconst 1, 1) := by decide +kernel
theorem d_M_singer_100 : decode Y_M_singer.2.1 100 = .ok (.iadd, 1) := by decide +kernel
theorem d_M_singer_101 : decode Y_M_singer.2.1 101 = .ok (.putfield 275, 3) := by decide +kernel
theorem d_M_singer_104 : decode Y_M_singer.2.1 104 = .ok (.aload_n 0, 1) := by decide +kernel
theorem d_M_singer_105 : decode Y_M_singer.2.1 105 = .ok (.getfield 275, 3) := by decide +kernel
theorem d_M_singer_108 : decode Y_M_singer.2.1 108 = .ok (.iconst 1, 1) := by decide +kernel
theorem d_M_singer_109 : decode Y_M_singer.2.1 109 = .ok (.isub, 1) := by decide +kernel
theorem d_M_singer_110 : decode Y_M_singer.2.1 110 = .ok (.ireturn, 1) := by decide +kernel
theorem d_Ch_has_0 : decode Y_Ch_has.2.1 0 = .ok (.iload_n 1, 1) := by decide +kernel
theorem d_Ch_has_1 : decode Y_Ch_has.2.1 1 = .ok (.ifCond .lt 21, 3) := by decide +kernel
theorem d_Ch_has_4 : decode Y_Ch_has.2.1 4 = .ok (.iload_n 1, 1) := by decide +kernel
theorem d_Ch_has_5 : decode Y_Ch_has.2.1 5 = .ok (.aload_n 0, 1) := by decide +kernel
theorem d_Ch_has_6 : decode Y_Ch_has.2.1 6 = .ok (.getfield 48, 3) := by decide +kernel
theorem d_Ch_has_9 : decode Y_Ch_has.2.1 9 = .ok (.if_icmp .ge 13, 3) := by decide +kernel
theorem d_Ch_has_12 : decode Y_Ch_has.2.1 12 = .ok (.iload_n 1, 1) := by decide +kernel
theorem d_Ch_has_13 : decode Y_Ch_has.2.1 13 = .ok (.bipush 8, 2) := by decide +kernel
theorem d_Ch_has_15 : decode Y_Ch_has.2.1 15 = .ok (.if_icmp .ge 7, 3) := by decide +kernel
theorem d_Ch_has_18 : decode Y_Ch_has.2.1 18 = .ok (.iconst 1, 1) := by decide +kernel
theorem d_Ch_has_19 : decode Y_Ch_has.2.1 19 = .ok (.goto 4, 3) := by decide +kernel
theorem d_Ch_has_22 : decode Y_Ch_has.2.1 22 = .ok (.iconst 0, 1) := by decide +kernel
theorem d_Ch_has_23 : decode Y_Ch_has.2.1 23 = .ok (.ireturn, 1) := by decide +kernel
theorem d_X_place_0 : decode Y_X_place.2.1 0 = .ok (.aload_n 0, 1) := by decide +kernel
theorem d_X_place_1 : decode Y_X_place.2.1 1 = .ok (.getfield 21, 3) := by decide +kernel
theorem d_X_place_4 : decode Y_X_place.2.1 4 = .ok (.iload_n 1, 1) := by decide +kernel
theorem d_X_place_5 : decode Y_X_place.2.1 5 = .ok (.invokevirtual 179, 3) := by decide +kernel
theorem d_X_place_8 : decode Y_X_place.2.1 8 = .ok (.ifCond .eq 13, 3) := by decide +kernel
theorem d_X_place_11 : decode Y_X_place.2.1 11 = .ok (.iload_n 2, 1) := by decide +kernel
theorem d_X_place_12 : decode Y_X_place.2.1 12 = .ok (.ifCond .lt 9, 3) := by decide +kernel
theorem d_X_place_15 : decode Y_X_place.2.1 15 = .ok (.iload_n 2, 1) := by decide +kernel
theorem d_X_place_16 : decode Y_X_place.2.1 16 = .ok (.bipush 16, 2) := by decide +kernel
theorem d_X_place_18 : decode Y_X_place.2.1 18 = .ok (.if_icmp .lt 5, 3) := by decide +kernel
theorem d_X_place_21 : decode Y_X_place.2.1 21 = .ok (.iconst 0, 1) := by decide +kernel
theorem d_X_place_22 : decode Y_X_place.2.1 22 = .ok (.ireturn, 1) := by decide +kernel
theorem d_X_place_23 : decode Y_X_place.2.1 23 = .ok (.aload_n 0, 1) := by decide +kernel
theorem d_X_place_24 : decode Y_X_place.2.1 24 = .ok (.getfield 21, 3) := by decide +kernel
theorem d_X_place_27 : decode Y_X_place.2.1 27 = .ok (.getfield 170, 3) := by decide +kernel
theorem d_X_place_30 : decode Y_X_place.2.1 30 = .ok (.iload_n 1, 1) := by decide +kernel
theorem d_X_place_31 : decode Y_X_place.2.1 31 = .ok (.iload_n 2, 1) := by decide +kernel
theorem d_X_place_32 : decode Y_X_place.2.1 32 = .ok (.iastore, 1) := by decide +kernel
theorem d_X_place_33 : decode Y_X_place.2.1 33 = .ok (.aload_n 0, 1) := by decide +kernel
theorem d_X_place_34 : decode Y_X_place.2.1 34 = .ok (.invokevirtual 88, 3) := by decide +kernel
theorem d_X_place_37 : decode Y_X_place.2.1 37 = .ok (.ireturn, 1) := by decide +kernel
theorem d_M_isSinger_0 : decode Y_M_isSinger.2.1 0 = .ok (.iload_n 1, 1) := by decide +kernel
theorem d_M_isSinger_1 : decode Y_M_isSinger.2.1 1 = .ok (.i2l, 1) := by decide +kernel
theorem d_M_isSinger_2 : decode Y_M_isSinger.2.1 2 = .ok (.lconst 0, 1) := by decide +kernel
theorem d_M_isSinger_3 : decode Y_M_isSinger.2.1 3 = .ok (.aload_n 0, 1) := by decide +kernel
theorem d_M_isSinger_4 : decode Y_M_isSinger.2.1 4 = .ok (.getfield 275, 3) := by decide +kernel
theorem d_M_isSinger_7 : decode Y_M_isSinger.2.1 7 = .ok (.iconst 1, 1) := by decide +kernel
theorem d_M_isSinger_8 : decode Y_M_isSinger.2.1 8 = .ok (.isub, 1) := by decide +kernel
theorem d_M_isSinger_9 : decode Y_M_isSinger.2.1 9 = .ok (.i2l, 1) := by decide +kernel
theorem d_M_isSinger_10 : decode Y_M_isSinger.2.1 10 = .ok (.invokestatic 145, 3) := by decide +kernel
theorem d_M_isSinger_13 : decode Y_M_isSinger.2.1 13 = .ok (.ireturn, 1) := by decide +kernel
theorem d_M_place_0 : decode Y_M_place.2.1 0 = .ok (.aload_n 0, 1) := by decide +kernel
theorem d_M_place_1 : decode Y_M_place.2.1 1 = .ok (.iload_n 1, 1) := by decide +kernel
theorem d_M_place_2 : decode Y_M_place.2.1 2 = .ok (.invokevirtual 282, 3) := by decide +kernel
theorem d_M_place_5 : decode Y_M_place.2.1 5 = .ok (.ifCond .eq 15, 3) := by decide +kernel
theorem d_M_place_8 : decode Y_M_place.2.1 8 = .ok (.iload_n 2, 1) := by decide +kernel
theorem d_M_place_9 : decode Y_M_place.2.1 9 = .ok (.i2l, 1) := by decide +kernel
theorem d_M_place_10 : decode Y_M_place.2.1 10 = .ok (.lconst 0, 1) := by decide +kernel
theorem d_M_place_11 : decode Y_M_place.2.1 11 = .ok (.ldc2_w 278, 3) := by decide +kernel
theorem d_M_place_14 : decode Y_M_place.2.1 14 = .ok (.invokestatic 145, 3) := by decide +kernel
theorem d_M_place_17 : decode Y_M_place.2.1 17 = .ok (.ifCond .ne 5, 3) := by decide +kernel
theorem d_M_place_20 : decode Y_M_place.2.1 20 = .ok (.iconst 0, 1) := by decide +kernel
theorem d_M_place_21 : decode Y_M_place.2.1 21 = .ok (.ireturn, 1) := by decide +kernel
theorem d_M_place_22 : decode Y_M_place.2.1 22 = .ok (.aload_n 0, 1) := by decide +kernel
theorem d_M_place_23 : decode Y_M_place.2.1 23 = .ok (.getfield 59, 3) := by decide +kernel
theorem d_M_place_26 : decode Y_M_place.2.1 26 = .ok (.iload_n 1, 1) := by decide +kernel
theorem d_M_place_27 : decode Y_M_place.2.1 27 = .ok (.iload_n 2, 1) := by decide +kernel
theorem d_M_place_28 : decode Y_M_place.2.1 28 = .ok (.iastore, 1) := by decide +kernel
theorem d_M_place_29 : decode Y_M_place.2.1 29 = .ok (.iconst 1, 1) := by decide +kernel
theorem d_M_place_30 : decode Y_M_place.2.1 30 = .ok (.ireturn, 1) := by decide +kernel
theorem d_X_table_0 : decode Y_X_table.2.1 0 = .ok (.iload_n 1, 1) := by decide +kernel
theorem d_X_table_1 : decode Y_X_table.2.1 1 = .ok (.ifCond .lt 21, 3) := by decide +kernel
theorem d_X_table_4 : decode Y_X_table.2.1 4 = .ok (.iload_n 1, 1) := by decide +kernel
theorem d_X_table_5 : decode Y_X_table.2.1 5 = .ok (.bipush 12, 2) := by decide +kernel
theorem d_X_table_7 : decode Y_X_table.2.1 7 = .ok (.if_icmp .ge 15, 3) := by decide +kernel
theorem d_X_table_10 : decode Y_X_table.2.1 10 = .ok (.iload_n 2, 1) := by decide +kernel
theorem d_X_table_11 : decode Y_X_table.2.1 11 = .ok (.ldc 181, 2) := by decide +kernel
theorem d_X_table_13 : decode Y_X_table.2.1 13 = .ok (.if_icmp .lt 9, 3) := by decide +kernel
theorem d_X_table_16 : decode Y_X_table.2.1 16 = .ok (.iload_n 2, 1) := by decide +kernel
theorem d_X_table_17 : decode Y_X_table.2.1 17 = .ok (.ldc 182, 2) := by decide +kernel
theorem d_X_table_19 : decode Y_X_table.2.1 19 = .ok (.if_icmp .le 5, 3) := by decide +kernel
theorem d_X_table_22 : decode Y_X_table.2.1 22 = .ok (.iconst 0, 1) := by decide +kernel
theorem d_X_table_23 : decode Y_X_table.2.1 23 = .ok (.ireturn, 1) := by decide +kernel
theorem d_X_table_24 : decode Y_X_table.2.1 24 = .ok (.aload_n 0, 1) := by decide +kernel
theorem d_X_table_25 : decode Y_X_table.2.1 25 = .ok (.getfield 21, 3) := by decide +kernel
theorem d_X_table_28 : decode Y_X_table.2.1 28 = .ok (.getfield 183, 3) := by decide +kernel
theorem d_X_table_31 : decode Y_X_table.2.1 31 = .ok (.iload_n 1, 1) := by decide +kernel
theorem d_X_table_32 : decode Y_X_table.2.1 32 = .ok (.iload_n 2, 1) := by decide +kernel
theorem d_X_table_33 : decode Y_X_table.2.1 33 = .ok (.iastore, 1) := by decide +kernel
theorem d_X_table_34 : decode Y_X_table.2.1 34 = .ok (.aload_n 0, 1) := by decide +kernel
theorem d_X_table_35 : decode Y_X_table.2.1 35 = .ok (.invokevirtual 88, 3) := by decide +kernel
theorem d_X_table_38 : decode Y_X_table.2.1 38 = .ok (.ireturn, 1) := by decide +kernel
theorem d_M_table_0 : decode Y_M_table.2.1 0 = .ok (.iload_n 1, 1) := by decide +kernel
theorem d_M_table_1 : decode Y_M_table.2.1 1 = .ok (.i2l, 1) := by decide +kernel
theorem d_M_table_2 : decode Y_M_table.2.1 2 = .ok (.lconst 0, 1) := by decide +kernel
theorem d_M_table_3 : decode Y_M_table.2.1 3 = .ok (.ldc2_w 285, 3) := by decide +kernel
theorem d_M_table_6 : decode Y_M_table.2.1 6 = .ok (.invokestatic 145, 3) := by decide +kernel
theorem d_M_table_9 : decode Y_M_table.2.1 9 = .ok (.ifCond .eq 17, 3) := by decide +kernel
theorem d_M_table_12 : decode Y_M_table.2.1 12 = .ok (.iload_n 2, 1) := by decide +kernel
theorem d_M_table_13 : decode Y_M_table.2.1 13 = .ok (.i2l, 1) := by decide +kernel
theorem d_M_table_14 : decode Y_M_table.2.1 14 = .ok (.ldc2_w 287, 3) := by decide +kernel
theorem d_M_table_17 : decode Y_M_table.2.1 17 = .ok (.ldc2_w 289, 3) := by decide +kernel
theorem d_M_table_20 : decode Y_M_table.2.1 20 = .ok (.invokestatic 145, 3) := by decide +kernel
theorem d_M_table_23 : decode Y_M_table.2.1 23 = .ok (.ifCond .ne 5, 3) := by decide +kernel
theorem d_M_table_26 : decode Y_M_table.2.1 26 = .ok (.iconst 0, 1) := by decide +kernel
theorem d_M_table_27 : decode Y_M_table.2.1 27 = .ok (.ireturn, 1) := by decide +kernel
theorem d_M_table_28 : decode Y_M_table.2.1 28 = .ok (.aload_n 0, 1) := by decide +kernel
theorem d_M_table_29 : decode Y_M_table.2.1 29 = .ok (.getfield 68, 3) := by decide +kernel
theorem d_M_table_32 : decode Y_M_table.2.1 32 = .ok (.iload_n 1, 1) := by decide +kernel
theorem d_M_table_33 : decode Y_M_table.2.1 33 = .ok (.iload_n 2, 1) := by decide +kernel
theorem d_M_table_34 : decode Y_M_table.2.1 34 = .ok (.iastore, 1) := by decide +kernel
theorem d_M_table_35 : decode Y_M_table.2.1 35 = .ok (.iconst 1, 1) := by decide +kernel
theorem d_M_table_36 : decode Y_M_table.2.1 36 = .ok (.ireturn, 1) := by decide +kernel
theorem d_X_seed_0 : decode Y_X_seed.2.1 0 = .ok (.iload_n 1, 1) := by decide +kernel
theorem d_X_seed_1 : decode Y_X_seed.2.1 1 = .ok (.ifCond .lt 9, 3) := by decide +kernel
theorem d_X_seed_4 : decode Y_X_seed.2.1 4 = .ok (.iload_n 1, 1) := by decide +kernel
theorem d_X_seed_5 : decode Y_X_seed.2.1 5 = .ok (.ldc 186, 2) := by decide +kernel
theorem d_X_seed_7 : decode Y_X_seed.2.1 7 = .ok (.if_icmp .le 5, 3) := by decide +kernel
theorem d_X_seed_10 : decode Y_X_seed.2.1 10 = .ok (.iconst 0, 1) := by decide +kernel
theorem d_X_seed_11 : decode Y_X_seed.2.1 11 = .ok (.ireturn, 1) := by decide +kernel
theorem d_X_seed_12 : decode Y_X_seed.2.1 12 = .ok (.aload_n 0, 1) := by decide +kernel
theorem d_X_seed_13 : decode Y_X_seed.2.1 13 = .ok (.getfield 21, 3) := by decide +kernel
theorem d_X_seed_16 : decode Y_X_seed.2.1 16 = .ok (.iload_n 1, 1) := by decide +kernel
theorem d_X_seed_17 : decode Y_X_seed.2.1 17 = .ok (.putfield 187, 3) := by decide +kernel
theorem d_X_seed_20 : decode Y_X_seed.2.1 20 = .ok (.aload_n 0, 1) := by decide +kernel
theorem d_X_seed_21 : decode Y_X_seed.2.1 21 = .ok (.invokevirtual 88, 3) := by decide +kernel
theorem d_X_seed_24 : decode Y_X_seed.2.1 24 = .ok (.ireturn, 1) := by decide +kernel
theorem d_M_seed_0 : decode Y_M_seed.2.1 0 = .ok (.iload_n 1, 1) := by decide +kernel
theorem d_M_seed_1 : decode Y_M_seed.2.1 1 = .ok (.i2l, 1) := by decide +kernel
theorem d_M_seed_2 : decode Y_M_seed.2.1 2 = .ok (.lconst 0, 1) := by decide +kernel
theorem d_M_seed_3 : decode Y_M_seed.2.1 3 = .ok (.ldc2_w 291, 3) := by decide +kernel
theorem d_M_seed_6 : decode Y_M_seed.2.1 6 = .ok (.invokestatic 145, 3) := by decide +kernel
theorem d_M_seed_9 : decode Y_M_seed.2.1 9 = .ok (.ifCond .ne 5, 3) := by decide +kernel
theorem d_M_seed_12 : decode Y_M_seed.2.1 12 = .ok (.iconst 0, 1) := by decide +kernel
theorem d_M_seed_13 : decode Y_M_seed.2.1 13 = .ok (.ireturn, 1) := by decide +kernel
theorem d_M_seed_14 : decode Y_M_seed.2.1 14 = .ok (.aload_n 0, 1) := by decide +kernel
theorem d_M_seed_15 : decode Y_M_seed.2.1 15 = .ok (.iload_n 1, 1) := by decide +kernel
theorem d_M_seed_16 : decode Y_M_seed.2.1 16 = .ok (.putfield 52, 3) := by decide +kernel
theorem d_M_seed_19 : decode Y_M_seed.2.1 19 = .ok (.iconst 1, 1) := by decide +kernel
theorem d_M_seed_20 : decode Y_M_seed.2.1 20 = .ok (.ireturn, 1) := by decide +kernel
theorem d_X_blown_0 : decode Y_X_blown.2.1 0 = .ok (.iload_n 1, 1) := by decide +kernel
theorem d_X_blown_1 : decode Y_X_blown.2.1 1 = .ok (.ldc 190, 2) := by decide +kernel
theorem d_X_blown_3 : decode Y_X_blown.2.1 3 = .ok (.if_icmp .lt 9, 3) := by decide +kernel
theorem d_X_blown_6 : decode Y_X_blown.2.1 6 = .ok (.iload_n 1, 1) := by decide +kernel
theorem d_X_blown_7 : decode Y_X_blown.2.1 7 = .ok (.ldc 191, 2) := by decide +kernel
theorem d_X_blown_9 : decode Y_X_blown.2.1 9 = .ok (.if_icmp .le 5, 3) := by decide +kernel
theorem d_X_blown_12 : decode Y_X_blown.2.1 12 = .ok (.iconst 0, 1) := by decide +kernel
theorem d_X_blown_13 : decode Y_X_blown.2.1 13 = .ok (.ireturn, 1) := by decide +kernel
theorem d_X_blown_14 : decode Y_X_blown.2.1 14 = .ok (.aload_n 0, 1) := by decide +kernel
theorem d_X_blown_15 : decode Y_X_blown.2.1 15 = .ok (.getfield 21, 3) := by decide +kernel
theorem d_X_blown_18 : decode Y_X_blown.2.1 18 = .ok (.iload_n 1, 1) := by decide +kernel
theorem d_X_blown_19 : decode Y_X_blown.2.1 19 = .ok (.putfield 192, 3) := by decide +kernel
theorem d_X_blown_22 : decode Y_X_blown.2.1 22 = .ok (.aload_n 0, 1) := by decide +kernel
theorem d_X_blown_23 : decode Y_X_blown.2.1 23 = .ok (.invokevirtual 88, 3) := by decide +kernel
theorem d_X_blown_26 : decode Y_X_blown.2.1 26 = .ok (.ireturn, 1) := by decide +kernel
theorem d_M_blown_0 : decode Y_M_blown.2.1 0 = .ok (.iload_n 1, 1) := by decide +kernel
theorem d_M_blown_1 : decode Y_M_blown.2.1 1 = .ok (.i2l, 1) := by decide +kernel
theorem d_M_blown_2 : decode Y_M_blown.2.1 2 = .ok (.ldc2_w 293, 3) := by decide +kernel
theorem d_M_blown_5 : decode Y_M_blown.2.1 5 = .ok (.ldc2_w 295, 3) := by decide +kernel
theorem d_M_blown_8 : decode Y_M_blown.2.1 8 = .ok (.invokestatic 145, 3) := by decide +kernel
theorem d_M_blown_11 : decode Y_M_blown.2.1 11 = .ok (.ifCond .ne 5, 3) := by decide +kernel
theorem d_M_blown_14 : decode Y_M_blown.2.1 14 = .ok (.iconst 0, 1) := by decide +kernel
theorem d_M_blown_15 : decode Y_M_blown.2.1 15 = .ok (.ireturn, 1) := by decide +kernel
theorem d_M_blown_16 : decode Y_M_blown.2.1 16 = .ok (.aload_n 0, 1) := by decide +kernel
theorem d_M_blown_17 : decode Y_M_blown.2.1 17 = .ok (.iload_n 1, 1) := by decide +kernel
theorem d_M_blown_18 : decode Y_M_blown.2.1 18 = .ok (.putfield 297, 3) := by decide +kernel
theorem d_M_blown_21 : decode Y_M_blown.2.1 21 = .ok (.iconst 1, 1) := by decide +kernel
theorem d_M_blown_22 : decode Y_M_blown.2.1 22 = .ok (.ireturn, 1) := by decide +kernel
theorem d_X_given_0 : decode Y_X_given.2.1 0 = .ok (.iload_n 1, 1) := by decide +kernel
theorem d_X_given_1 : decode Y_X_given.2.1 1 = .ok (.ifCond .lt 9, 3) := by decide +kernel
theorem d_X_given_4 : decode Y_X_given.2.1 4 = .ok (.iload_n 1, 1) := by decide +kernel
theorem d_X_given_5 : decode Y_X_given.2.1 5 = .ok (.ldc 195, 2) := by decide +kernel
theorem d_X_given_7 : decode Y_X_given.2.1 7 = .ok (.if_icmp .lt 5, 3) := by decide +kernel
theorem d_X_given_10 : decode Y_X_given.2.1 10 = .ok (.iconst 0, 1) := by decide +kernel
theorem d_X_given_11 : decode Y_X_given.2.1 11 = .ok (.ireturn, 1) := by decide +kernel
theorem d_X_given_12 : decode Y_X_given.2.1 12 = .ok (.aload_n 0, 1) := by decide +kernel
theorem d_X_given_13 : decode Y_X_given.2.1 13 = .ok (.getfield 21, 3) := by decide +kernel
theorem d_X_given_16 : decode Y_X_given.2.1 16 = .ok (.iload_n 1, 1) := by decide +kernel
theorem d_X_given_17 : decode Y_X_given.2.1 17 = .ok (.putfield 196, 3) := by decide +kernel
theorem d_X_given_20 : decode Y_X_given.2.1 20 = .ok (.aload_n 0, 1) := by decide +kernel
theorem d_X_given_21 : decode Y_X_given.2.1 21 = .ok (.invokevirtual 88, 3) := by decide +kernel
theorem d_X_given_24 : decode Y_X_given.2.1 24 = .ok (.ireturn, 1) := by decide +kernel
theorem d_M_given_0 : decode Y_M_given.2.1 0 = .ok (.iload_n 1, 1) := by decide +kernel
theorem d_M_given_1 : decode Y_M_given.2.1 1 = .ok (.i2l, 1) := by decide +kernel
theorem d_M_given_2 : decode Y_M_given.2.1 2 = .ok (.lconst 0, 1) := by decide +kernel
theorem d_M_given_3 : decode Y_M_given.2.1 3 = .ok (.ldc2_w 300, 3) := by decide +kernel
theorem d_M_given_6 : decode Y_M_given.2.1 6 = .ok (.invokestatic 145, 3) := by decide +kernel
theorem d_M_given_9 : decode Y_M_given.2.1 9 = .ok (.ifCond .ne 5, 3) := by decide +kernel
theorem d_M_given_12 : decode Y_M_given.2.1 12 = .ok (.iconst 0, 1) := by decide +kernel
theorem d_M_given_13 : decode Y_M_given.2.1 13 = .ok (.ireturn, 1) := by decide +kernel
theorem d_M_given_14 : decode Y_M_given.2.1 14 = .ok (.aload_n 0, 1) := by decide +kernel
theorem d_M_given_15 : decode Y_M_given.2.1 15 = .ok (.iload_n 1, 1) := by decide +kernel
theorem d_M_given_16 : decode Y_M_given.2.1 16 = .ok (.putfield 302, 3) := by decide +kernel
theorem d_M_given_19 : decode Y_M_given.2.1 19 = .ok (.iconst 1, 1) := by decide +kernel
theorem d_M_given_20 : decode Y_M_given.2.1 20 = .ok (.ireturn, 1) := by decide +kernel
theorem d_Rl_hasRoom_0 : decode Y_Rl_hasRoom.2.1 0 = .ok (.aload_n 0, 1) := by decide +kernel
theorem d_Rl_hasRoom_1 : decode Y_Rl_hasRoom.2.1 1 = .ok (.getfield 13, 3) := by decide +kernel
theorem d_Rl_hasRoom_4 : decode Y_Rl_hasRoom.2.1 4 = .ok (.sipush 200, 3) := by decide +kernel
theorem d_Rl_hasRoom_7 : decode Y_Rl_hasRoom.2.1 7 = .ok (.if_icmp .gt 7, 3) := by decide +kernel
theorem d_Rl_hasRoom_10 : decode Y_Rl_hasRoom.2.1 10 = .ok (.iconst 1, 1) := by decide +kernel
theorem d_Rl_hasRoom_11 : decode Y_Rl_hasRoom.2.1 11 = .ok (.goto 4, 3) := by decide +kernel
theorem d_Rl_hasRoom_14 : decode Y_Rl_hasRoom.2.1 14 = .ok (.iconst 0, 1) := by decide +kernel
theorem d_Rl_hasRoom_15 : decode Y_Rl_hasRoom.2.1 15 = .ok (.ireturn, 1) := by decide +kernel
theorem d_Rl_add_0 : decode Y_Rl_add.2.1 0 = .ok (.bipush 24, 2) := by decide +kernel
theorem d_Rl_add_2 : decode Y_Rl_add.2.1 2 = .ok (.istore_n 2, 1) := by decide +kernel
theorem d_Rl_add_3 : decode Y_Rl_add.2.1 3 = .ok (.iload_n 2, 1) := by decide +kernel
theorem d_Rl_add_4 : decode Y_Rl_add.2.1 4 = .ok (.ifCond .lt 45, 3) := by decide +kernel
theorem d_Rl_add_7 : decode Y_Rl_add.2.1 7 = .ok (.aload_n 0, 1) := by decide +kernel
theorem d_Rl_add_8 : decode Y_Rl_add.2.1 8 = .ok (.getfield 13, 3) := by decide +kernel
theorem d_Rl_add_11 : decode Y_Rl_add.2.1 11 = .ok (.sipush 220, 3) := by decide +kernel
theorem d_Rl_add_14 : decode Y_Rl_add.2.1 14 = .ok (.if_icmp .ge 35, 3) := by decide +kernel
theorem d_Rl_add_17 : decode Y_Rl_add.2.1 17 = .ok (.aload_n 0, 1) := by decide +kernel
theorem d_Rl_add_18 : decode Y_Rl_add.2.1 18 = .ok (.getfield 9, 3) := by decide +kernel
theorem d_Rl_add_21 : decode Y_Rl_add.2.1 21 = .ok (.aload_n 0, 1) := by decide +kernel
theorem d_Rl_add_22 : decode Y_Rl_add.2.1 22 = .ok (.getfield 13, 3) := by decide +kernel
theorem d_Rl_add_25 : decode Y_Rl_add.2.1 25 = .ok (.iload_n 1, 1) := by decide +kernel
theorem d_Rl_add_26 : decode Y_Rl_add.2.1 26 = .ok (.iload_n 2, 1) := by decide +kernel
theorem d_Rl_add_27 : decode Y_Rl_add.2.1 27 = .ok (.ishr, 1) := by decide +kernel
theorem d_Rl_add_28 : decode Y_Rl_add.2.1 28 = .ok (.sipush 255, 3) := by decide +kernel
theorem d_Rl_add_31 : decode Y_Rl_add.2.1 31 = .ok (.iand, 1) := by decide +kernel
theorem d_Rl_add_32 : decode Y_Rl_add.2.1 32 = .ok (.iastore, 1) := by decide +kernel
theorem d_Rl_add_33 : decode Y_Rl_add.2.1 33 = .ok (.aload_n 0, 1) := by decide +kernel
theorem d_Rl_add_34 : decode Y_Rl_add.2.1 34 = .ok (.dup, 1) := by decide +kernel
theorem d_Rl_add_35 : decode Y_Rl_add.2.1 35 = .ok (.getfield 13, 3) := by decide +kernel
theorem d_Rl_add_38 : decode Y_Rl_add.2.1 38 = .ok (.iconst 1, 1) := by decide +kernel
theorem d_Rl_add_39 : decode Y_Rl_add.2.1 39 = .ok (.iadd, 1) := by decide +kernel
theorem d_Rl_add_40 : decode Y_Rl_add.2.1 40 = .ok (.putfield 13, 3) := by decide +kernel
theorem d_Rl_add_43 : decode Y_Rl_add.2.1 43 = .ok (.iinc 2 (-8), 3) := by decide +kernel
theorem d_Rl_add_46 : decode Y_Rl_add.2.1 46 = .ok (.goto (-43), 3) := by decide +kernel
theorem d_Rl_add_49 : decode Y_Rl_add.2.1 49 = .ok (.return_, 1) := by decide +kernel
theorem d_X_feed_0 : decode Y_X_feed.2.1 0 = .ok (.aload_n 0, 1) := by decide +kernel
theorem d_X_feed_1 : decode Y_X_feed.2.1 1 = .ok (.getfield 62, 3) := by decide +kernel
theorem d_X_feed_4 : decode Y_X_feed.2.1 4 = .ok (.invokevirtual 199, 3) := by decide +kernel
theorem d_X_feed_7 : decode Y_X_feed.2.1 7 = .ok (.ifCond .ne 5, 3) := by decide +kernel
theorem d_X_feed_10 : decode Y_X_feed.2.1 10 = .ok (.iconst (-1), 1) := by decide +kernel
theorem d_X_feed_11 : decode Y_X_feed.2.1 11 = .ok (.ireturn, 1) := by decide +kernel
theorem d_X_feed_12 : decode Y_X_feed.2.1 12 = .ok (.aload_n 0, 1) := by decide +kernel
theorem d_X_feed_13 : decode Y_X_feed.2.1 13 = .ok (.getfield 62, 3) := by decide +kernel
theorem d_X_feed_16 : decode Y_X_feed.2.1 16 = .ok (.iload_n 1, 1) := by decide +kernel
theorem d_X_feed_17 : decode Y_X_feed.2.1 17 = .ok (.invokevirtual 202, 3) := by decide +kernel
theorem d_X_feed_20 : decode Y_X_feed.2.1 20 = .ok (.aload_n 0, 1) := by decide +kernel
theorem d_X_feed_21 : decode Y_X_feed.2.1 21 = .ok (.getfield 62, 3) := by decide +kernel
theorem d_X_feed_24 : decode Y_X_feed.2.1 24 = .ok (.iload_n 2, 1) := by decide +kernel
theorem d_X_feed_25 : decode Y_X_feed.2.1 25 = .ok (.invokevirtual 202, 3) := by decide +kernel
theorem d_X_feed_28 : decode Y_X_feed.2.1 28 = .ok (.aload_n 0, 1) := by decide +kernel
theorem d_X_feed_29 : decode Y_X_feed.2.1 29 = .ok (.getfield 62, 3) := by decide +kernel
theorem d_X_feed_32 : decode Y_X_feed.2.1 32 = .ok (.iload_n 3, 1) := by decide +kernel
theorem d_X_feed_33 : decode Y_X_feed.2.1 33 = .ok (.invokevirtual 202, 3) := by decide +kernel
theorem d_X_feed_36 : decode Y_X_feed.2.1 36 = .ok (.aload_n 0, 1) := by decide +kernel
theorem d_X_feed_37 : decode Y_X_feed.2.1 37 = .ok (.getfield 62, 3) := by decide +kernel
theorem d_X_feed_40 : decode Y_X_feed.2.1 40 = .ok (.iload 4, 2) := by decide +kernel
theorem d_X_feed_42 : decode Y_X_feed.2.1 42 = .ok (.invokevirtual 202, 3) := by decide +kernel
theorem d_X_feed_45 : decode Y_X_feed.2.1 45 = .ok (.aload_n 0, 1) := by decide +kernel
theorem d_X_feed_46 : decode Y_X_feed.2.1 46 = .ok (.getfield 62, 3) := by decide +kernel
theorem d_X_feed_49 : decode Y_X_feed.2.1 49 = .ok (.iload 5, 2) := by decide +kernel
theorem d_X_feed_51 : decode Y_X_feed.2.1 51 = .ok (.invokevirtual 202, 3) := by decide +kernel
theorem d_X_feed_54 : decode Y_X_feed.2.1 54 = .ok (.aload_n 0, 1) := by decide +kernel
theorem d_X_feed_55 : decode Y_X_feed.2.1 55 = .ok (.getfield 62, 3) := by decide +kernel
theorem d_X_feed_58 : decode Y_X_feed.2.1 58 = .ok (.getfield 206, 3) := by decide +kernel
theorem d_X_feed_61 : decode Y_X_feed.2.1 61 = .ok (.ireturn, 1) := by decide +kernel
theorem d_M_push_0 : decode Y_M_push.2.1 0 = .ok (.bipush 24, 2) := by decide +kernel
theorem d_M_push_2 : decode Y_M_push.2.1 2 = .ok (.istore_n 2, 1) := by decide +kernel
theorem d_M_push_3 : decode Y_M_push.2.1 3 = .ok (.iload_n 2, 1) := by decide +kernel
theorem d_M_push_4 : decode Y_M_push.2.1 4 = .ok (.ifCond .lt 32, 3) := by decide +kernel
theorem d_M_push_7 : decode Y_M_push.2.1 7 = .ok (.aload_n 0, 1) := by decide +kernel
theorem d_M_push_8 : decode Y_M_push.2.1 8 = .ok (.getfield 7, 3) := by decide +kernel
theorem d_M_push_11 : decode Y_M_push.2.1 11 = .ok (.aload_n 0, 1) := by decide +kernel
theorem d_M_push_12 : decode Y_M_push.2.1 12 = .ok (.getfield 305, 3) := by decide +kernel
theorem d_M_push_15 : decode Y_M_push.2.1 15 = .ok (.iload_n 1, 1) := by decide +kernel
theorem d_M_push_16 : decode Y_M_push.2.1 16 = .ok (.iload_n 2, 1) := by decide +kernel
theorem d_M_push_17 : decode Y_M_push.2.1 17 = .ok (.ishr, 1) := by decide +kernel
theorem d_M_push_18 : decode Y_M_push.2.1 18 = .ok (.i2b, 1) := by decide +kernel
theorem d_M_push_19 : decode Y_M_push.2.1 19 = .ok (.bastore, 1) := by decide +kernel
theorem d_M_push_20 : decode Y_M_push.2.1 20 = .ok (.aload_n 0, 1) := by decide +kernel
theorem d_M_push_21 : decode Y_M_push.2.1 21 = .ok (.dup, 1) := by decide +kernel
theorem d_M_push_22 : decode Y_M_push.2.1 22 = .ok (.getfield 305, 3) := by decide +kernel
theorem d_M_push_25 : decode Y_M_push.2.1 25 = .ok (.iconst 1, 1) := by decide +kernel
theorem d_M_push_26 : decode Y_M_push.2.1 26 = .ok (.iadd, 1) := by decide +kernel
theorem d_M_push_27 : decode Y_M_push.2.1 27 = .ok (.putfield 305, 3) := by decide +kernel
theorem d_M_push_30 : decode Y_M_push.2.1 30 = .ok (.iinc 2 (-8), 3) := by decide +kernel
theorem d_M_push_33 : decode Y_M_push.2.1 33 = .ok (.goto (-30), 3) := by decide +kernel
theorem d_M_push_36 : decode Y_M_push.2.1 36 = .ok (.return_, 1) := by decide +kernel
theorem d_M_feed_0 : decode Y_M_feed.2.1 0 = .ok (.aload_n 0, 1) := by decide +kernel
theorem d_M_feed_1 : decode Y_M_feed.2.1 1 = .ok (.getfield 305, 3) := by decide +kernel
theorem d_M_feed_4 : decode Y_M_feed.2.1 4 = .ok (.bipush 20, 2) := by decide +kernel
theorem d_M_feed_6 : decode Y_M_feed.2.1 6 = .ok (.iadd, 1) := by decide +kernel
theorem d_M_feed_7 : decode Y_M_feed.2.1 7 = .ok (.sipush 220, 3) := by decide +kernel
theorem d_M_feed_10 : decode Y_M_feed.2.1 10 = .ok (.if_icmp .le 5, 3) := by decide +kernel
theorem d_M_feed_13 : decode Y_M_feed.2.1 13 = .ok (.iconst (-1), 1) := by decide +kernel
theorem d_M_feed_14 : decode Y_M_feed.2.1 14 = .ok (.ireturn, 1) := by decide +kernel
theorem d_M_feed_15 : decode Y_M_feed.2.1 15 = .ok (.aload_n 0, 1) := by decide +kernel
theorem d_M_feed_16 : decode Y_M_feed.2.1 16 = .ok (.iload_n 1, 1) := by decide +kernel
theorem d_M_feed_17 : decode Y_M_feed.2.1 17 = .ok (.invokevirtual 308, 3) := by decide +kernel
theorem d_M_feed_20 : decode Y_M_feed.2.1 20 = .ok (.aload_n 0, 1) := by decide +kernel
theorem d_M_feed_21 : decode Y_M_feed.2.1 21 = .ok (.iload_n 2, 1) := by decide +kernel
theorem d_M_feed_22 : decode Y_M_feed.2.1 22 = .ok (.invokevirtual 308, 3) := by decide +kernel
theorem d_M_feed_25 : decode Y_M_feed.2.1 25 = .ok (.aload_n 0, 1) := by decide +kernel
theorem d_M_feed_26 : decode Y_M_feed.2.1 26 = .ok (.iload_n 3, 1) := by decide +kernel
theorem d_M_feed_27 : decode Y_M_feed.2.1 27 = .ok (.invokevirtual 308, 3) := by decide +kernel
theorem d_M_feed_30 : decode Y_M_feed.2.1 30 = .ok (.aload_n 0, 1) := by decide +kernel
theorem d_M_feed_31 : decode Y_M_feed.2.1 31 = .ok (.iload 4, 2) := by decide +kernel
theorem d_M_feed_33 : decode Y_M_feed.2.1 33 = .ok (.invokevirtual 308, 3) := by decide +kernel
theorem d_M_feed_36 : decode Y_M_feed.2.1 36 = .ok (.aload_n 0, 1) := by decide +kernel
theorem d_M_feed_37 : decode Y_M_feed.2.1 37 = .ok (.iload 5, 2) := by decide +kernel
theorem d_M_feed_39 : decode Y_M_feed.2.1 39 = .ok (.invokevirtual 308, 3) := by decide +kernel
theorem d_M_feed_42 : decode Y_M_feed.2.1 42 = .ok (.aload_n 0, 1) := by decide +kernel
theorem d_M_feed_43 : decode Y_M_feed.2.1 43 = .ok (.getfield 305, 3) := by decide +kernel
theorem d_M_feed_46 : decode Y_M_feed.2.1 46 = .ok (.ireturn, 1) := by decide +kernel
theorem d_Pr_clear_0 : decode Y_Pr_clear.2.1 0 = .ok (.aload_n 0, 1) := by decide +kernel
theorem d_Pr_clear_1 : decode Y_Pr_clear.2.1 1 = .ok (.iconst 0, 1) := by decide +kernel
theorem d_Pr_clear_2 : decode Y_Pr_clear.2.1 2 = .ok (.putfield 32, 3) := by decide +kernel
theorem d_Pr_clear_5 : decode Y_Pr_clear.2.1 5 = .ok (.aload_n 0, 1) := by decide +kernel
theorem d_Pr_clear_6 : decode Y_Pr_clear.2.1 6 = .ok (.iconst 0, 1) := by decide +kernel
theorem d_Pr_clear_7 : decode Y_Pr_clear.2.1 7 = .ok (.putfield 36, 3) := by decide +kernel
theorem d_Pr_clear_10 : decode Y_Pr_clear.2.1 10 = .ok (.return_, 1) := by decide +kernel
theorem d_Re_here_0 : decode Y_Re_here.2.1 0 = .ok (.aload_n 0, 1) := by decide +kernel
theorem d_Re_here_1 : decode Y_Re_here.2.1 1 = .ok (.getfield 44, 3) := by decide +kernel
theorem d_Re_here_4 : decode Y_Re_here.2.1 4 = .ok (.ifCond .ne 26, 3) := by decide +kernel
theorem d_Re_here_7 : decode Y_Re_here.2.1 7 = .ok (.aload_n 0, 1) := by decide +kernel
theorem d_Re_here_8 : decode Y_Re_here.2.1 8 = .ok (.getfield 41, 3) := by decide +kernel
theorem d_Re_here_11 : decode Y_Re_here.2.1 11 = .ok (.aload_n 0, 1) := by decide +kernel
theorem d_Re_here_12 : decode Y_Re_here.2.1 12 = .ok (.getfield 28, 3) := by decide +kernel
theorem d_Re_here_15 : decode Y_Re_here.2.1 15 = .ok (.if_icmp .ge 15, 3) := by decide +kernel
theorem d_Re_here_18 : decode Y_Re_here.2.1 18 = .ok (.aload_n 0, 1) := by decide +kernel
theorem d_Re_here_19 : decode Y_Re_here.2.1 19 = .ok (.getfield 11, 3) := by decide +kernel
theorem d_Re_here_22 : decode Y_Re_here.2.1 22 = .ok (.aload_n 0, 1) := by decide +kernel
theorem d_Re_here_23 : decode Y_Re_here.2.1 23 = .ok (.getfield 41, 3) := by decide +kernel
theorem d_Re_here_26 : decode Y_Re_here.2.1 26 = .ok (.iaload, 1) := by decide +kernel
theorem d_Re_here_27 : decode Y_Re_here.2.1 27 = .ok (.goto 4, 3) := by decide +kernel
theorem d_Re_here_30 : decode Y_Re_here.2.1 30 = .ok (.iconst (-1), 1) := by decide +kernel
theorem d_Re_here_31 : decode Y_Re_here.2.1 31 = .ok (.ireturn, 1) := by decide +kernel
theorem d_Str_isLatin1_0 : decode Y_Str_isLatin1.2.1 0 = .ok (.getstatic 38, 3) := by decide +kernel
theorem d_Str_isLatin1_3 : decode Y_Str_isLatin1.2.1 3 = .ok (.ifCond .eq 14, 3) := by decide +kernel
theorem d_Str_isLatin1_6 : decode Y_Str_isLatin1.2.1 6 = .ok (.aload_n 0, 1) := by decide +kernel
theorem d_Str_isLatin1_7 : decode Y_Str_isLatin1.2.1 7 = .ok (.getfield 15, 3) := by decide +kernel
theorem d_Str_isLatin1_10 : decode Y_Str_isLatin1.2.1 10 = .ok (.ifCond .ne 7, 3) := by decide +kernel
theorem d_Str_isLatin1_13 : decode Y_Str_isLatin1.2.1 13 = .ok (.iconst 1, 1) := by decide +kernel
theorem d_Str_isLatin1_14 : decode Y_Str_isLatin1.2.1 14 = .ok (.goto 4, 3) := by decide +kernel
theorem d_Str_isLatin1_17 : decode Y_Str_isLatin1.2.1 17 = .ok (.iconst 0, 1) := by decide +kernel
theorem d_Str_isLatin1_18 : decode Y_Str_isLatin1.2.1 18 = .ok (.ireturn, 1) := by decide +kernel
theorem d_SL_canEncode_0 : decode Y_SL_canEncode.2.1 0 = .ok (.iload_n 0, 1) := by decide +kernel
theorem d_SL_canEncode_1 : decode Y_SL_canEncode.2.1 1 = .ok (.ifCond .lt 14, 3) := by decide +kernel
theorem d_SL_canEncode_4 : decode Y_SL_canEncode.2.1 4 = .ok (.iload_n 0, 1) := by decide +kernel
theorem d_SL_canEncode_5 : decode Y_SL_canEncode.2.1 5 = .ok (.sipush 255, 3) := by decide +kernel
theorem d_SL_canEncode_8 : decode Y_SL_canEncode.2.1 8 = .ok (.if_icmp .gt 7, 3) := by decide +kernel
theorem d_SL_canEncode_11 : decode Y_SL_canEncode.2.1 11 = .ok (.iconst 1, 1) := by decide +kernel
theorem d_SL_canEncode_12 : decode Y_SL_canEncode.2.1 12 = .ok (.goto 4, 3) := by decide +kernel
theorem d_SL_canEncode_15 : decode Y_SL_canEncode.2.1 15 = .ok (.iconst 0, 1) := by decide +kernel
theorem d_SL_canEncode_16 : decode Y_SL_canEncode.2.1 16 = .ok (.ireturn, 1) := by decide +kernel
theorem d_Mt_max_II_0 : decode Y_Mt_max_II.2.1 0 = .ok (.iload_n 0, 1) := by decide +kernel
theorem d_Mt_max_II_1 : decode Y_Mt_max_II.2.1 1 = .ok (.iload_n 1, 1) := by decide +kernel
theorem d_Mt_max_II_2 : decode Y_Mt_max_II.2.1 2 = .ok (.if_icmp .lt 7, 3) := by decide +kernel
theorem d_Mt_max_II_5 : decode Y_Mt_max_II.2.1 5 = .ok (.iload_n 0, 1) := by decide +kernel
theorem d_Mt_max_II_6 : decode Y_Mt_max_II.2.1 6 = .ok (.goto 4, 3) := by decide +kernel
theorem d_Mt_max_II_9 : decode Y_Mt_max_II.2.1 9 = .ok (.iload_n 1, 1) := by decide +kernel
theorem d_Mt_max_II_10 : decode Y_Mt_max_II.2.1 10 = .ok (.ireturn, 1) := by decide +kernel
theorem d_SL_indexOfChar_0 : decode Y_SL_indexOfChar.2.1 0 = .ok (.iload_n 1, 1) := by decide +kernel
theorem d_SL_indexOfChar_1 : decode Y_SL_indexOfChar.2.1 1 = .ok (.i2b, 1) := by decide +kernel
theorem d_SL_indexOfChar_2 : decode Y_SL_indexOfChar.2.1 2 = .ok (.istore 4, 2) := by decide +kernel
theorem d_SL_indexOfChar_4 : decode Y_SL_indexOfChar.2.1 4 = .ok (.iload_n 2, 1) := by decide +kernel
theorem d_SL_indexOfChar_5 : decode Y_SL_indexOfChar.2.1 5 = .ok (.istore 5, 2) := by decide +kernel
theorem d_SL_indexOfChar_7 : decode Y_SL_indexOfChar.2.1 7 = .ok (.iload 5, 2) := by decide +kernel
theorem d_SL_indexOfChar_9 : decode Y_SL_indexOfChar.2.1 9 = .ok (.iload_n 3, 1) := by decide +kernel
theorem d_SL_indexOfChar_10 : decode Y_SL_indexOfChar.2.1 10 = .ok (.if_icmp .ge 21, 3) := by decide +kernel
theorem d_SL_indexOfChar_13 : decode Y_SL_indexOfChar.2.1 13 = .ok (.aload_n 0, 1) := by decide +kernel
theorem d_SL_indexOfChar_14 : decode Y_SL_indexOfChar.2.1 14 = .ok (.iload 5, 2) := by decide +kernel
theorem d_SL_indexOfChar_16 : decode Y_SL_indexOfChar.2.1 16 = .ok (.baload, 1) := by decide +kernel
theorem d_SL_indexOfChar_17 : decode Y_SL_indexOfChar.2.1 17 = .ok (.iload 4, 2) := by decide +kernel
theorem d_SL_indexOfChar_19 : decode Y_SL_indexOfChar.2.1 19 = .ok (.if_icmp .ne 6, 3) := by decide +kernel
theorem d_SL_indexOfChar_22 : decode Y_SL_indexOfChar.2.1 22 = .ok (.iload 5, 2) := by decide +kernel
theorem d_SL_indexOfChar_24 : decode Y_SL_indexOfChar.2.1 24 = .ok (.ireturn, 1) := by decide +kernel
theorem d_SL_indexOfChar_25 : decode Y_SL_indexOfChar.2.1 25 = .ok (.iinc 5 1, 3) := by decide +kernel
theorem d_SL_indexOfChar_28 : decode Y_SL_indexOfChar.2.1 28 = .ok (.goto (-21), 3) := by decide +kernel
theorem d_SL_indexOfChar_31 : decode Y_SL_indexOfChar.2.1 31 = .ok (.iconst (-1), 1) := by decide +kernel
theorem d_SL_indexOfChar_32 : decode Y_SL_indexOfChar.2.1 32 = .ok (.ireturn, 1) := by decide +kernel
theorem d_SL_indexOf_0 : decode Y_SL_indexOf.2.1 0 = .ok (.iload_n 1, 1) := by decide +kernel
theorem d_SL_indexOf_1 : decode Y_SL_indexOf.2.1 1 = .ok (.invokestatic 88, 3) := by decide +kernel
theorem d_SL_indexOf_4 : decode Y_SL_indexOf.2.1 4 = .ok (.ifCond .ne 5, 3) := by decide +kernel
theorem d_SL_indexOf_7 : decode Y_SL_indexOf.2.1 7 = .ok (.iconst (-1), 1) := by decide +kernel
theorem d_SL_indexOf_8 : decode Y_SL_indexOf.2.1 8 = .ok (.ireturn, 1) := by decide +kernel
theorem d_SL_indexOf_9 : decode Y_SL_indexOf.2.1 9 = .ok (.iload_n 2, 1) := by decide +kernel
theorem d_SL_indexOf_10 : decode Y_SL_indexOf.2.1 10 = .ok (.iconst 0, 1) := by decide +kernel
theorem d_SL_indexOf_11 : decode Y_SL_indexOf.2.1 11 = .ok (.invokestatic 92, 3) := by decide +kernel
theorem d_SL_indexOf_14 : decode Y_SL_indexOf.2.1 14 = .ok (.istore_n 2, 1) := by decide +kernel
theorem d_SL_indexOf_15 : decode Y_SL_indexOf.2.1 15 = .ok (.iload_n 3, 1) := by decide +kernel
theorem d_SL_indexOf_16 : decode Y_SL_indexOf.2.1 16 = .ok (.aload_n 0, 1) := by decide +kernel
theorem d_SL_indexOf_17 : decode Y_SL_indexOf.2.1 17 = .ok (.arraylength, 1) := by decide +kernel
theorem d_SL_indexOf_18 : decode Y_SL_indexOf.2.1 18 = .ok (.invokestatic 38, 3) := by decide +kernel
theorem d_SL_indexOf_21 : decode Y_SL_indexOf.2.1 21 = .ok (.istore_n 3, 1) := by decide +kernel
theorem d_SL_indexOf_22 : decode Y_SL_indexOf.2.1 22 = .ok (.iload_n 2, 1) := by decide +kernel
theorem d_SL_indexOf_23 : decode Y_SL_indexOf.2.1 23 = .ok (.iload_n 3, 1) := by decide +kernel
theorem d_SL_indexOf_24 : decode Y_SL_indexOf.2.1 24 = .ok (.if_icmp .lt 5, 3) := by decide +kernel
theorem d_SL_indexOf_27 : decode Y_SL_indexOf.2.1 27 = .ok (.iconst (-1), 1) := by decide +kernel
theorem d_SL_indexOf_28 : decode Y_SL_indexOf.2.1 28 = .ok (.ireturn, 1) := by decide +kernel
theorem d_SL_indexOf_29 : decode Y_SL_indexOf.2.1 29 = .ok (.aload_n 0, 1) := by decide +kernel
theorem d_SL_indexOf_30 : decode Y_SL_indexOf.2.1 30 = .ok (.iload_n 1, 1) := by decide +kernel
theorem d_SL_indexOf_31 : decode Y_SL_indexOf.2.1 31 = .ok (.iload_n 2, 1) := by decide +kernel
theorem d_SL_indexOf_32 : decode Y_SL_indexOf.2.1 32 = .ok (.iload_n 3, 1) := by decide +kernel
theorem d_SL_indexOf_33 : decode Y_SL_indexOf.2.1 33 = .ok (.invokestatic 95, 3) := by decide +kernel
theorem d_SL_indexOf_36 : decode Y_SL_indexOf.2.1 36 = .ok (.ireturn, 1) := by decide +kernel
theorem d_Str_indexOf_II_0 : decode Y_Str_indexOf_II.2.1 0 = .ok (.aload_n 0, 1) := by decide +kernel
theorem d_Str_indexOf_II_1 : decode Y_Str_indexOf_II.2.1 1 = .ok (.invokevirtual 492, 3) := by decide +kernel
theorem d_Str_indexOf_II_4 : decode Y_Str_indexOf_II.2.1 4 = .ok (.ifCond .eq 19, 3) := by decide +kernel
theorem d_Str_indexOf_II_7 : decode Y_Str_indexOf_II.2.1 7 = .ok (.aload_n 0, 1) := by decide +kernel
theorem d_Str_indexOf_II_8 : decode Y_Str_indexOf_II.2.1 8 = .ok (.getfield 9, 3) := by decide +kernel
theorem d_Str_indexOf_II_11 : decode Y_Str_indexOf_II.2.1 11 = .ok (.iload_n 1, 1) := by decide +kernel
theorem d_Str_indexOf_II_12 : decode Y_Str_indexOf_II.2.1 12 = .ok (.iload_n 2, 1) := by decide +kernel
theorem d_Str_indexOf_II_13 : decode Y_Str_indexOf_II.2.1 13 = .ok (.aload_n 0, 1) := by decide +kernel
theorem d_Str_indexOf_II_14 : decode Y_Str_indexOf_II.2.1 14 = .ok (.invokevirtual 505, 3) := by decide +kernel
theorem d_Str_indexOf_II_17 : decode Y_Str_indexOf_II.2.1 17 = .ok (.invokestatic 637, 3) := by decide +kernel
theorem d_Str_indexOf_II_20 : decode Y_Str_indexOf_II.2.1 20 = .ok (.goto 16, 3) := by decide +kernel
theorem d_Str_indexOf_II_23 : decode Y_Str_indexOf_II.2.1 23 = .ok (.aload_n 0, 1) := by decide +kernel
theorem d_Str_indexOf_II_24 : decode Y_Str_indexOf_II.2.1 24 = .ok (.getfield 9, 3) := by decide +kernel
theorem d_Str_indexOf_II_27 : decode Y_Str_indexOf_II.2.1 27 = .ok (.iload_n 1, 1) := by decide +kernel
theorem d_Str_indexOf_II_28 : decode Y_Str_indexOf_II.2.1 28 = .ok (.iload_n 2, 1) := by decide +kernel
theorem d_Str_indexOf_II_29 : decode Y_Str_indexOf_II.2.1 29 = .ok (.aload_n 0, 1) := by decide +kernel
theorem d_Str_indexOf_II_30 : decode Y_Str_indexOf_II.2.1 30 = .ok (.invokevirtual 505, 3) := by decide +kernel
theorem d_Str_indexOf_II_33 : decode Y_Str_indexOf_II.2.1 33 = .ok (.invokestatic 640, 3) := by decide +kernel
theorem d_Str_indexOf_II_36 : decode Y_Str_indexOf_II.2.1 36 = .ok (.ireturn, 1) := by decide +kernel
theorem d_Str_indexOf_I_0 : decode Y_Str_indexOf_I.2.1 0 = .ok (.aload_n 0, 1) := by decide +kernel
theorem d_Str_indexOf_I_1 : decode Y_Str_indexOf_I.2.1 1 = .ok (.iload_n 1, 1) := by decide +kernel
theorem d_Str_indexOf_I_2 : decode Y_Str_indexOf_I.2.1 2 = .ok (.iconst 0, 1) := by decide +kernel
theorem d_Str_indexOf_I_3 : decode Y_Str_indexOf_I.2.1 3 = .ok (.invokevirtual 633, 3) := by decide +kernel
theorem d_Str_indexOf_I_6 : decode Y_Str_indexOf_I.2.1 6 = .ok (.ireturn, 1) := by decide +kernel
theorem d_Re_indexIn_0 : decode Y_Re_indexIn.2.1 0 = .ok (.iload_n 1, 1) := by decide +kernel
theorem d_Re_indexIn_1 : decode Y_Re_indexIn.2.1 1 = .ok (.iconst (-1), 1) := by decide +kernel
theorem d_Re_indexIn_2 : decode Y_Re_indexIn.2.1 2 = .ok (.if_icmp .ne 7, 3) := by decide +kernel
theorem d_Re_indexIn_5 : decode Y_Re_indexIn.2.1 5 = .ok (.iconst (-1), 1) := by decide +kernel
theorem d_Re_indexIn_6 : decode Y_Re_indexIn.2.1 6 = .ok (.goto 9, 3) := by decide +kernel
theorem d_Re_indexIn_9 : decode Y_Re_indexIn.2.1 9 = .ok (.aload_n 0, 1) := by decide +kernel
theorem d_Re_indexIn_10 : decode Y_Re_indexIn.2.1 10 = .ok (.iload_n 1, 1) := by decide +kernel
theorem d_Re_indexIn_11 : decode Y_Re_indexIn.2.1 11 = .ok (.i2c, 1) := by decide +kernel
theorem d_Re_indexIn_12 : decode Y_Re_indexIn.2.1 12 = .ok (.invokevirtual 61, 3) := by decide +kernel
theorem d_Re_indexIn_15 : decode Y_Re_indexIn.2.1 15 = .ok (.ireturn, 1) := by decide +kernel
theorem d_Re_fail_0 : decode Y_Re_fail.2.1 0 = .ok (.aload_n 0, 1) := by decide +kernel
theorem d_Re_fail_1 : decode Y_Re_fail.2.1 1 = .ok (.aload_n 0, 1) := by decide +kernel
theorem d_Re_fail_2 : decode Y_Re_fail.2.1 2 = .ok (.getfield 44, 3) := by decide +kernel
theorem d_Re_fail_5 : decode Y_Re_fail.2.1 5 = .ok (.ifCond .ne 16, 3) := by decide +kernel
theorem d_Re_fail_8 : decode Y_Re_fail.2.1 8 = .ok (.sipush 1000, 3) := by decide +kernel
theorem d_Re_fail_11 : decode Y_Re_fail.2.1 11 = .ok (.iload_n 1, 1) := by decide +kernel
theorem d_Re_fail_12 : decode Y_Re_fail.2.1 12 = .ok (.imul, 1) := by decide +kernel
theorem d_Re_fail_13 : decode Y_Re_fail.2.1 13 = .ok (.aload_n 0, 1) := by decide +kernel
theorem d_Re_fail_14 : decode Y_Re_fail.2.1 14 = .ok (.getfield 41, 3) := by decide +kernel
theorem d_Re_fail_17 : decode Y_Re_fail.2.1 17 = .ok (.iadd, 1) := by decide +kernel
theorem d_Re_fail_18 : decode Y_Re_fail.2.1 18 = .ok (.goto 7, 3) := by decide +kernel
theorem d_Re_fail_21 : decode Y_Re_fail.2.1 21 = .ok (.aload_n 0, 1) := by decide +kernel
theorem d_Re_fail_22 : decode Y_Re_fail.2.1 22 = .ok (.getfield 44, 3) := by decide +kernel
theorem d_Re_fail_25 : decode Y_Re_fail.2.1 25 = .ok (.putfield 44, 3) := by decide +kernel
theorem d_Re_fail_28 : decode Y_Re_fail.2.1 28 = .ok (.return_, 1) := by decide +kernel
theorem d_Pr_open_0 : decode Y_Pr_open.2.1 0 = .ok (.aload_n 0, 1) := by decide +kernel
theorem d_Pr_open_1 : decode Y_Pr_open.2.1 1 = .ok (.getfield 36, 3) := by decide +kernel
theorem d_Pr_open_4 : decode Y_Pr_open.2.1 4 = .ok (.bipush 14, 2) := by decide +kernel
theorem d_Pr_open_6 : decode Y_Pr_open.2.1 6 = .ok (.if_icmp .ge 26, 3) := by decide +kernel
theorem d_Pr_open_9 : decode Y_Pr_open.2.1 9 = .ok (.aload_n 0, 1) := by decide +kernel
theorem d_Pr_open_10 : decode Y_Pr_open.2.1 10 = .ok (.getfield 23, 3) := by decide +kernel
theorem d_Pr_open_13 : decode Y_Pr_open.2.1 13 = .ok (.aload_n 0, 1) := by decide +kernel
theorem d_Pr_open_14 : decode Y_Pr_open.2.1 14 = .ok (.getfield 36, 3) := by decide +kernel
theorem d_Pr_open_17 : decode Y_Pr_open.2.1 17 = .ok (.iload_n 1, 1) := by decide +kernel
theorem d_Pr_open_18 : decode Y_Pr_open.2.1 18 = .ok (.iastore, 1) := by decide +kernel
theorem d_Pr_open_19 : decode Y_Pr_open.2.1 19 = .ok (.aload_n 0, 1) := by decide +kernel
theorem d_Pr_open_20 : decode Y_Pr_open.2.1 20 = .ok (.getfield 26, 3) := by decide +kernel
theorem d_Pr_open_23 : decode Y_Pr_open.2.1 23 = .ok (.aload_n 0, 1) := by decide +kernel
theorem d_Pr_open_24 : decode Y_Pr_open.2.1 24 = .ok (.getfield 36, 3) := by decide +kernel
theorem d_Pr_open_27 : decode Y_Pr_open.2.1 27 = .ok (.aload_n 0, 1) := by decide +kernel
theorem d_Pr_open_28 : decode Y_Pr_open.2.1 28 = .ok (.getfield 32, 3) := by decide +kernel
theorem d_Pr_open_31 : decode Y_Pr_open.2.1 31 = .ok (.iastore, 1) := by decide +kernel
theorem d_Pr_open_32 : decode Y_Pr_open.2.1 32 = .ok (.return_, 1) := by decide +kernel
theorem d_Pr_add_0 : decode Y_Pr_add.2.1 0 = .ok (.aload_n 0, 1) := by decide +kernel
theorem d_Pr_add_1 : decode Y_Pr_add.2.1 1 = .ok (.getfield 32, 3) := by decide +kernel
theorem d_Pr_add_4 : decode Y_Pr_add.2.1 4 = .ok (.aload_n 0, 1) := by decide +kernel
theorem d_Pr_add_5 : decode Y_Pr_add.2.1 5 = .ok (.getfield 11, 3) := by decide +kernel
theorem d_Pr_add_8 : decode Y_Pr_add.2.1 8 = .ok (.arraylength, 1) := by decide +kernel
theorem d_Pr_add_9 : decode Y_Pr_add.2.1 9 = .ok (.if_icmp .ge 33, 3) := by decide +kernel
theorem d_Pr_add_12 : decode Y_Pr_add.2.1 12 = .ok (.aload_n 0, 1) := by decide +kernel
theorem d_Pr_add_13 : decode Y_Pr_add.2.1 13 = .ok (.getfield 11, 3) := by decide +kernel
theorem d_Pr_add_16 : decode Y_Pr_add.2.1 16 = .ok (.aload_n 0, 1) := by decide +kernel
theorem d_Pr_add_17 : decode Y_Pr_add.2.1 17 = .ok (.getfield 32, 3) := by decide +kernel
theorem d_Pr_add_20 : decode Y_Pr_add.2.1 20 = .ok (.iload_n 1, 1) := by decide +kernel
theorem d_Pr_add_21 : decode Y_Pr_add.2.1 21 = .ok (.iastore, 1) := by decide +kernel
theorem d_Pr_add_22 : decode Y_Pr_add.2.1 22 = .ok (.aload_n 0, 1) := by decide +kernel
theorem d_Pr_add_23 : decode Y_Pr_add.2.1 23 = .ok (.getfield 17, 3) := by decide +kernel
theorem d_Pr_add_26 : decode Y_Pr_add.2.1 26 = .ok (.aload_n 0, 1) := by decide +kernel
theorem d_Pr_add_27 : decode Y_Pr_add.2.1 27 = .ok (.getfield 32, 3) := by decide +kernel
theorem d_Pr_add_30 : decode Y_Pr_add.2.1 30 = .ok (.iload_n 2, 1) := by decide +kernel
theorem d_Pr_add_31 : decode Y_Pr_add.2.1 31 = .ok (.iastore, 1) := by decide +kernel
theorem d_Pr_add_32 : decode Y_Pr_add.2.1 32 = .ok (.aload_n 0, 1) := by decide +kernel
theorem d_Pr_add_33 : decode Y_Pr_add.2.1 33 = .ok (.dup, 1) := by decide +kernel
theorem d_Pr_add_34 : decode Y_Pr_add.2.1 34 = .ok (.getfield 32, 3) := by decide +kernel
theorem d_Pr_add_37 : decode Y_Pr_add.2.1 37 = .ok (.iconst 1, 1) := by decide +kernel
theorem d_Pr_add_38 : decode Y_Pr_add.2.1 38 = .ok (.iadd, 1) := by decide +kernel
theorem d_Pr_add_39 : decode Y_Pr_add.2.1 39 = .ok (.putfield 32, 3) := by decide +kernel
theorem d_Pr_add_42 : decode Y_Pr_add.2.1 42 = .ok (.aload_n 0, 1) := by decide +kernel
theorem d_Pr_add_43 : decode Y_Pr_add.2.1 43 = .ok (.getfield 32, 3) := by decide +kernel
theorem d_Pr_add_46 : decode Y_Pr_add.2.1 46 = .ok (.iconst 1, 1) := by decide +kernel
theorem d_Pr_add_47 : decode Y_Pr_add.2.1 47 = .ok (.isub, 1) := by decide +kernel
theorem d_Pr_add_48 : decode Y_Pr_add.2.1 48 = .ok (.ireturn, 1) := by decide +kernel
theorem d_Pr_land_0 : decode Y_Pr_land.2.1 0 = .ok (.iload_n 1, 1) := by decide +kernel
theorem d_Pr_land_1 : decode Y_Pr_land.2.1 1 = .ok (.ifCond .lt 21, 3) := by decide +kernel
theorem d_Pr_land_4 : decode Y_Pr_land.2.1 4 = .ok (.iload_n 1, 1) := by decide +kernel
theorem d_Pr_land_5 : decode Y_Pr_land.2.1 5 = .ok (.aload_n 0, 1) := by decide +kernel
theorem d_Pr_land_6 : decode Y_Pr_land.2.1 6 = .ok (.getfield 32, 3) := by decide +kernel
theorem d_Pr_land_9 : decode Y_Pr_land.2.1 9 = .ok (.if_icmp .ge 13, 3) := by decide +kernel
theorem d_Pr_land_12 : decode Y_Pr_land.2.1 12 = .ok (.aload_n 0, 1) := by decide +kernel
theorem d_Pr_land_13 : decode Y_Pr_land.2.1 13 = .ok (.getfield 17, 3) := by decide +kernel
theorem d_Pr_land_16 : decode Y_Pr_land.2.1 16 = .ok (.iload_n 1, 1) := by decide +kernel
theorem d_Pr_land_17 : decode Y_Pr_land.2.1 17 = .ok (.aload_n 0, 1) := by decide +kernel
theorem d_Pr_land_18 : decode Y_Pr_land.2.1 18 = .ok (.getfield 32, 3) := by decide +kernel
theorem d_Pr_land_21 : decode Y_Pr_land.2.1 21 = .ok (.iastore, 1) := by decide +kernel
theorem d_Pr_land_22 : decode Y_Pr_land.2.1 22 = .ok (.return_, 1) := by decide +kernel
theorem d_Re_comparison_0 : decode Y_Re_comparison.2.1 0 = .ok (.aload_n 0, 1) := by decide +kernel
theorem d_Re_comparison_1 : decode Y_Re_comparison.2.1 1 = .ok (.invokevirtual 54, 3) := by decide +kernel
theorem d_Re_comparison_4 : decode Y_Re_comparison.2.1 4 = .ok (.istore_n 1, 1) := by decide +kernel
theorem d_Re_comparison_5 : decode Y_Re_comparison.2.1 5 = .ok (.iload_n 1, 1) := by decide +kernel
theorem d_Re_comparison_6 : decode Y_Re_comparison.2.1 6 = .ok (.bipush 60, 2) := by decide +kernel
theorem d_Re_comparison_8 : decode Y_Re_comparison.2.1 8 = .ok (.if_icmp .eq 23, 3) := by decide +kernel
theorem d_Re_comparison_11 : decode Y_Re_comparison.2.1 11 = .ok (.iload_n 1, 1) := by decide +kernel
theorem d_Re_comparison_12 : decode Y_Re_comparison.2.1 12 = .ok (.bipush 62, 2) := by decide +kernel
theorem d_Re_comparison_14 : decode Y_Re_comparison.2.1 14 = .ok (.if_icmp .eq 17, 3) := by decide +kernel
theorem d_Re_comparison_17 : decode Y_Re_comparison.2.1 17 = .ok (.iload_n 1, 1) := by decide +kernel
theorem d_Re_comparison_18 : decode Y_Re_comparison.2.1 18 = .ok (.bipush 61, 2) := by decide +kernel
theorem d_Re_comparison_20 : decode Y_Re_comparison.2.1 20 = .ok (.if_icmp .eq 11, 3) := by decide +kernel
theorem d_Re_comparison_23 : decode Y_Re_comparison.2.1 23 = .ok (.aload_n 0, 1) := by decide +kernel
theorem d_Re_comparison_24 : decode Y_Re_comparison.2.1 24 = .ok (.iconst 1, 1) := by decide +kernel
theorem d_Re_comparison_25 : decode Y_Re_comparison.2.1 25 = .ok (.invokevirtual 58, 3) := by decide +kernel
theorem d_Re_comparison_28 : decode Y_Re_comparison.2.1 28 = .ok (.bipush 9, 2) := by decide +kernel
theorem d_Re_comparison_30 : decode Y_Re_comparison.2.1 30 = .ok (.ireturn, 1) := by decide +kernel
theorem d_Re_comparison_31 : decode Y_Re_comparison.2.1 31 = .ok (.aload_n 0, 1) := by decide +kernel
theorem d_Re_comparison_32 : decode Y_Re_comparison.2.1 32 = .ok (.dup, 1) := by decide +kernel
theorem d_Re_comparison_33 : decode Y_Re_comparison.2.1 33 = .ok (.getfield 41, 3) := by decide +kernel
theorem d_Re_comparison_36 : decode Y_Re_comparison.2.1 36 = .ok (.iconst 1, 1) := by decide +kernel
theorem d_Re_comparison_37 : decode Y_Re_comparison.2.1 37 = .ok (.iadd, 1) := by decide +kernel
theorem d_Re_comparison_38 : decode Y_Re_comparison.2.1 38 = .ok (.putfield 41, 3) := by decide +kernel
theorem d_Re_comparison_41 : decode Y_Re_comparison.2.1 41 = .ok (.iload_n 1, 1) := by decide +kernel
theorem d_Re_comparison_42 : decode Y_Re_comparison.2.1 42 = .ok (.bipush 60, 2) := by decide +kernel
theorem d_Re_comparison_44 : decode Y_Re_comparison.2.1 44 = .ok (.if_icmp .ne 8, 3) := by decide +kernel
theorem d_Re_comparison_47 : decode Y_Re_comparison.2.1 47 = .ok (.bipush 7, 2) := by decide +kernel
theorem d_Re_comparison_49 : decode Y_Re_comparison.2.1 49 = .ok (.goto 16, 3) := by decide +kernel
theorem d_Re_comparison_52 : decode Y_Re_comparison.2.1 52 = .ok (.iload_n 1, 1) := by decide +kernel
theorem d_Re_comparison_53 : decode Y_Re_comparison.2.1 53 = .ok (.bipush 62, 2) := by decide +kernel
theorem d_Re_comparison_55 : decode Y_Re_comparison.2.1 55 = .ok (.if_icmp .ne 8, 3) := by decide +kernel
theorem d_Re_comparison_58 : decode Y_Re_comparison.2.1 58 = .ok (.bipush 8, 2) := by decide +kernel
theorem d_Re_comparison_60 : decode Y_Re_comparison.2.1 60 = .ok (.goto 5, 3) := by decide +kernel
theorem d_Re_comparison_63 : decode Y_Re_comparison.2.1 63 = .ok (.bipush 9, 2) := by decide +kernel
theorem d_Re_comparison_65 : decode Y_Re_comparison.2.1 65 = .ok (.ireturn, 1) := by decide +kernel
theorem d_Re_take_0 : decode Y_Re_take.2.1 0 = .ok (.aload_n 0, 1) := by decide +kernel
theorem d_Re_take_1 : decode Y_Re_take.2.1 1 = .ok (.invokevirtual 54, 3) := by decide +kernel
theorem d_Re_take_4 : decode Y_Re_take.2.1 4 = .ok (.iload_n 1, 1) := by decide +kernel
theorem d_Re_take_5 : decode Y_Re_take.2.1 5 = .ok (.if_icmp .ne 16, 3) := by decide +kernel
theorem d_Re_take_8 : decode Y_Re_take.2.1 8 = .ok (.aload_n 0, 1) := by decide +kernel
theorem d_Re_take_9 : decode Y_Re_take.2.1 9 = .ok (.dup, 1) := by decide +kernel
theorem d_Re_take_10 : decode Y_Re_take.2.1 10 = .ok (.getfield 41, 3) := by decide +kernel
theorem d_Re_take_13 : decode Y_Re_take.2.1 13 = .ok (.iconst 1, 1) := by decide +kernel
theorem d_Re_take_14 : decode Y_Re_take.2.1 14 = .ok (.iadd, 1) := by decide +kernel
theorem d_Re_take_15 : decode Y_Re_take.2.1 15 = .ok (.putfield 41, 3) := by decide +kernel
theorem d_Re_take_18 : decode Y_Re_take.2.1 18 = .ok (.goto 8, 3) := by decide +kernel
theorem d_Re_take_21 : decode Y_Re_take.2.1 21 = .ok (.aload_n 0, 1) := by decide +kernel
theorem d_Re_take_22 : decode Y_Re_take.2.1 22 = .ok (.iconst 1, 1) := by decide +kernel
theorem d_Re_take_23 : decode Y_Re_take.2.1 23 = .ok (.invokevirtual 58, 3) := by decide +kernel
theorem d_Re_take_26 : decode Y_Re_take.2.1 26 = .ok (.return_, 1) := by decide +kernel
theorem d_Re_isDigit_0 : decode Y_Re_isDigit.2.1 0 = .ok (.iload_n 0, 1) := by decide +kernel
theorem d_Re_isDigit_1 : decode Y_Re_isDigit.2.1 1 = .ok (.bipush 48, 2) := by decide +kernel
theorem d_Re_isDigit_3 : decode Y_Re_isDigit.2.1 3 = .ok (.if_icmp .lt 13, 3) := by decide +kernel
theorem d_Re_isDigit_6 : decode Y_Re_isDigit.2.1 6 = .ok (.iload_n 0, 1) := by decide +kernel
theorem d_Re_isDigit_7 : decode Y_Re_isDigit.2.1 7 = .ok (.bipush 57, 2) := by decide +kernel
theorem d_Re_isDigit_9 : decode Y_Re_isDigit.2.1 9 = .ok (.if_icmp .gt 7, 3) := by decide +kernel
theorem d_Re_isDigit_12 : decode Y_Re_isDigit.2.1 12 = .ok (.iconst 1, 1) := by decide +kernel
theorem d_Re_isDigit_13 : decode Y_Re_isDigit.2.1 13 = .ok (.goto 4, 3) := by decide +kernel
theorem d_Re_isDigit_16 : decode Y_Re_isDigit.2.1 16 = .ok (.iconst 0, 1) := by decide +kernel
theorem d_Re_isDigit_17 : decode Y_Re_isDigit.2.1 17 = .ok (.ireturn, 1) := by decide +kernel
theorem d_Re_number_0 : decode Y_Re_number.2.1 0 = .ok (.iconst 0, 1) := by decide +kernel
theorem d_Re_number_1 : decode Y_Re_number.2.1 1 = .ok (.istore_n 1, 1) := by decide +kernel
theorem d_Re_number_2 : decode Y_Re_number.2.1 2 = .ok (.iconst 0, 1) := by decide +kernel
theorem d_Re_number_3 : decode Y_Re_number.2.1 3 = .ok (.istore_n 2, 1) := by decide +kernel
theorem d_Re_number_4 : decode Y_Re_number.2.1 4 = .ok (.iload_n 2, 1) := by decide +kernel
theorem d_Re_number_5 : decode Y_Re_number.2.1 5 = .ok (.iconst 5, 1) := by decide +kernel
theorem d_Re_number_6 : decode Y_Re_number.2.1 6 = .ok (.if_icmp .ge 42, 3) := by decide +kernel
theorem d_Re_number_9 : decode Y_Re_number.2.1 9 = .ok (.aload_n 0, 1) := by decide +kernel
theorem d_Re_number_10 : decode Y_Re_number.2.1 10 = .ok (.invokevirtual 54, 3) := by decide +kernel
theorem d_Re_number_13 : decode Y_Re_number.2.1 13 = .ok (.invokestatic 111, 3) := by decide +kernel
theorem d_Re_number_16 : decode Y_Re_number.2.1 16 = .ok (.ifCond .eq 32, 3) := by decide +kernel
theorem d_Re_number_19 : decode Y_Re_number.2.1 19 = .ok (.bipush 10, 2) := by decide +kernel
theorem d_Re_number_21 : decode Y_Re_number.2.1 21 = .ok (.iload_n 1, 1) := by decide +kernel
theorem d_Re_number_22 : decode Y_Re_number.2.1 22 = .ok (.imul, 1) := by decide +kernel
theorem d_Re_number_23 : decode Y_Re_number.2.1 23 = .ok (.aload_n 0, 1) := by decide +kernel
theorem d_Re_number_24 : decode Y_Re_number.2.1 24 = .ok (.invokevirtual 54, 3) := by decide +kernel
theorem d_Re_number_27 : decode Y_Re_number.2.1 27 = .ok (.iadd, 1) := by decide +kernel
theorem d_Re_number_28 : decode Y_Re_number.2.1 28 = .ok (.bipush 48, 2) := by decide +kernel
theorem d_Re_number_30 : decode Y_Re_number.2.1 30 = .ok (.isub, 1) := by decide +kernel
theorem d_Re_number_31 : decode Y_Re_number.2.1 31 = .ok (.istore_n 1, 1) := by decide +kernel
theorem d_Re_number_32 : decode Y_Re_number.2.1 32 = .ok (.aload_n 0, 1) := by decide +kernel
theorem d_Re_number_33 : decode Y_Re_number.2.1 33 = .ok (.dup, 1) := by decide +kernel
theorem d_Re_number_34 : decode Y_Re_number.2.1 34 = .ok (.getfield 41, 3) := by decide +kernel
theorem d_Re_number_37 : decode Y_Re_number.2.1 37 = .ok (.iconst 1, 1) := by decide +kernel
theorem d_Re_number_38 : decode Y_Re_number.2.1 38 = .ok (.iadd, 1) := by decide +kernel
theorem d_Re_number_39 : decode Y_Re_number.2.1 39 = .ok (.putfield 41, 3) := by decide +kernel
theorem d_Re_number_42 : decode Y_Re_number.2.1 42 = .ok (.iinc 2 1, 3) := by decide +kernel
theorem d_Re_number_45 : decode Y_Re_number.2.1 45 = .ok (.goto (-41), 3) := by decide +kernel
theorem d_Re_number_48 : decode Y_Re_number.2.1 48 = .ok (.aload_n 0, 1) := by decide +kernel
theorem d_Re_number_49 : decode Y_Re_number.2.1 49 = .ok (.invokevirtual 54, 3) := by decide +kernel
theorem d_Re_number_52 : decode Y_Re_number.2.1 52 = .ok (.invokestatic 111, 3) := by decide +kernel
theorem d_Re_number_55 : decode Y_Re_number.2.1 55 = .ok (.ifCond .eq 8, 3) := by decide +kernel
theorem d_Re_number_58 : decode Y_Re_number.2.1 58 = .ok (.aload_n 0, 1) := by decide +kernel
theorem d_Re_number_59 : decode Y_Re_number.2.1 59 = .ok (.iconst 2, 1) := by decide +kernel
theorem d_Re_number_60 : decode Y_Re_number.2.1 60 = .ok (.invokevirtual 58, 3) := by decide +kernel
theorem d_Re_number_63 : decode Y_Re_number.2.1 63 = .ok (.aload_n 0, 1) := by decide +kernel
theorem d_Re_number_64 : decode Y_Re_number.2.1 64 = .ok (.getfield 18, 3) := by decide +kernel
theorem d_Re_number_67 : decode Y_Re_number.2.1 67 = .ok (.iconst 0, 1) := by decide +kernel
theorem d_Re_number_68 : decode Y_Re_number.2.1 68 = .ok (.iload_n 1, 1) := by decide +kernel
theorem d_Re_number_69 : decode Y_Re_number.2.1 69 = .ok (.invokevirtual 91, 3) := by decide +kernel
theorem d_Re_number_72 : decode Y_Re_number.2.1 72 = .ok (.pop, 1) := by decide +kernel
theorem d_Re_number_73 : decode Y_Re_number.2.1 73 = .ok (.return_, 1) := by decide +kernel
theorem d_Re_either_0 : decode Y_Re_either.2.1 0 = .ok (.aload_n 0, 1) := by decide +kernel
theorem d_Re_either_1 : decode Y_Re_either.2.1 1 = .ok (.iload_n 1, 1) := by decide +kernel
theorem d_Re_either_2 : decode Y_Re_either.2.1 2 = .ok (.invokevirtual 88, 3) := by decide +kernel
theorem d_Re_either_5 : decode Y_Re_either.2.1 5 = .ok (.iconst 0, 1) := by decide +kernel
theorem d_Re_either_6 : decode Y_Re_either.2.1 6 = .ok (.istore_n 2, 1) := by decide +kernel
theorem d_Re_either_7 : decode Y_Re_either.2.1 7 = .ok (.iload_n 2, 1) := by decide +kernel
theorem d_Re_either_8 : decode Y_Re_either.2.1 8 = .ok (.sipush 200, 3) := by decide +kernel
theorem d_Re_either_11 : decode Y_Re_either.2.1 11 = .ok (.if_icmp .ge 52, 3) := by decide +kernel
theorem d_Re_either_14 : decode Y_Re_either.2.1 14 = .ok (.aload_n 0, 1) := by decide +kernel
theorem d_Re_either_15 : decode Y_Re_either.2.1 15 = .ok (.invokevirtual 54, 3) := by decide +kernel
theorem d_Re_either_18 : decode Y_Re_either.2.1 18 = .ok (.bipush 124, 2) := by decide +kernel
theorem d_Re_either_20 : decode Y_Re_either.2.1 20 = .ok (.if_icmp .ne 43, 3) := by decide +kernel
theorem d_Re_either_23 : decode Y_Re_either.2.1 23 = .ok (.aload_n 0, 1) := by decide +kernel
theorem d_Re_either_24 : decode Y_Re_either.2.1 24 = .ok (.dup, 1) := by decide +kernel
theorem d_Re_either_25 : decode Y_Re_either.2.1 25 = .ok (.getfield 41, 3) := by decide +kernel
theorem d_Re_either_28 : decode Y_Re_either.2.1 28 = .ok (.iconst 1, 1) := by decide +kernel
theorem d_Re_either_29 : decode Y_Re_either.2.1 29 = .ok (.iadd, 1) := by decide +kernel
theorem d_Re_either_30 : decode Y_Re_either.2.1 30 = .ok (.putfield 41, 3) := by decide +kernel
theorem d_Re_either_33 : decode Y_Re_either.2.1 33 = .ok (.aload_n 0, 1) := by decide +kernel
theorem d_Re_either_34 : decode Y_Re_either.2.1 34 = .ok (.getfield 18, 3) := by decide +kernel
theorem d_Re_either_37 : decode Y_Re_either.2.1 37 = .ok (.bipush 12, 2) := by decide +kernel
theorem d_Re_either_39 : decode Y_Re_either.2.1 39 = .ok (.iconst 0, 1) := by decide +kernel
theorem d_Re_either_40 : decode Y_Re_either.2.1 40 = .ok (.invokevirtual 91, 3) := by decide +kernel
theorem d_Re_either_43 : decode Y_Re_either.2.1 43 = .ok (.istore_n 3, 1) := by decide +kernel
theorem d_Re_either_44 : decode Y_Re_either.2.1 44 = .ok (.aload_n 0, 1) := by decide +kernel
theorem d_Re_either_45 : decode Y_Re_either.2.1 45 = .ok (.iload_n 1, 1) := by decide +kernel
theorem d_Re_either_46 : decode Y_Re_either.2.1 46 = .ok (.invokevirtual 88, 3) := by decide +kernel
theorem d_Re_either_49 : decode Y_Re_either.2.1 49 = .ok (.aload_n 0, 1) := by decide +kernel
theorem d_Re_either_50 : decode Y_Re_either.2.1 50 = .ok (.getfield 18, 3) := by decide +kernel
theorem d_Re_either_53 : decode Y_Re_either.2.1 53 = .ok (.iload_n 3, 1) := by decide +kernel
theorem d_Re_either_54 : decode Y_Re_either.2.1 54 = .ok (.invokevirtual 94, 3) := by decide +kernel
theorem d_Re_either_57 : decode Y_Re_either.2.1 57 = .ok (.iinc 2 1, 3) := by decide +kernel
theorem d_Re_either_60 : decode Y_Re_either.2.1 60 = .ok (.goto (-53), 3) := by decide +kernel
theorem d_Re_either_63 : decode Y_Re_either.2.1 63 = .ok (.return_, 1) := by decide +kernel
theorem d_Re_all_0 : decode Y_Re_all.2.1 0 = .ok (.aload_n 0, 1) := by decide +kernel
theorem d_Re_all_1 : decode Y_Re_all.2.1 1 = .ok (.iload_n 1, 1) := by decide +kernel
theorem d_Re_all_2 : decode Y_Re_all.2.1 2 = .ok (.invokevirtual 97, 3) := by decide +kernel
theorem d_Re_all_5 : decode Y_Re_all.2.1 5 = .ok (.iconst 0, 1) := by decide +kernel
theorem d_Re_all_6 : decode Y_Re_all.2.1 6 = .ok (.istore_n 2, 1) := by decide +kernel
theorem d_Re_all_7 : decode Y_Re_all.2.1 7 = .ok (.iload_n 2, 1) := by decide +kernel
theorem d_Re_all_8 : decode Y_Re_all.2.1 8 = .ok (.sipush 200, 3) := by decide +kernel
theorem d_Re_all_11 : decode Y_Re_all.2.1 11 = .ok (.if_icmp .ge 52, 3) := by decide +kernel
theorem d_Re_all_14 : decode Y_Re_all.2.1 14 = .ok (.aload_n 0, 1) := by decide +kernel
theorem d_Re_all_15 : decode Y_Re_all.2.1 15 = .ok (.invokevirtual 54, 3) := by decide +kernel
theorem d_Re_all_18 : decode Y_Re_all.2.1 18 = .ok (.bipush 38, 2) := by decide +kernel
theorem d_Re_all_20 : decode Y_Re_all.2.1 20 = .ok (.if_icmp .ne 43, 3) := by decide +kernel
theorem d_Re_all_23 : decode Y_Re_all.2.1 23 = .ok (.aload_n 0, 1) := by decide +kernel
theorem d_Re_all_24 : decode Y_Re_all.2.1 24 = .ok (.dup, 1) := by decide +kernel
theorem d_Re_all_25 : decode Y_Re_all.2.1 25 = .ok (.getfield 41, 3) := by decide +kernel
theorem d_Re_all_28 : decode Y_Re_all.2.1 28 = .ok (.iconst 1, 1) := by decide +kernel
theorem d_Re_all_29 : decode Y_Re_all.2.1 29 = .ok (.iadd, 1) := by decide +kernel
theorem d_Re_all_30 : decode Y_Re_all.2.1 30 = .ok (.putfield 41, 3) := by decide +kernel
theorem d_Re_all_33 : decode Y_Re_all.2.1 33 = .ok (.aload_n 0, 1) := by decide +kernel
theorem d_Re_all_34 : decode Y_Re_all.2.1 34 = .ok (.getfield 18, 3) := by decide +kernel
theorem d_Re_all_37 : decode Y_Re_all.2.1 37 = .ok (.bipush 11, 2) := by decide +kernel
theorem d_Re_all_39 : decode Y_Re_all.2.1 39 = .ok (.iconst 0, 1) := by decide +kernel
theorem d_Re_all_40 : decode Y_Re_all.2.1 40 = .ok (.invokevirtual 91, 3) := by decide +kernel
theorem d_Re_all_43 : decode Y_Re_all.2.1 43 = .ok (.istore_n 3, 1) := by decide +kernel
theorem d_Re_all_44 : decode Y_Re_all.2.1 44 = .ok (.aload_n 0, 1) := by decide +kernel
theorem d_Re_all_45 : decode Y_Re_all.2.1 45 = .ok (.iload_n 1, 1) := by decide +kernel
theorem d_Re_all_46 : decode Y_Re_all.2.1 46 = .ok (.invokevirtual 97, 3) := by decide +kernel
theorem d_Re_all_49 : decode Y_Re_all.2.1 49 = .ok (.aload_n 0, 1) := by decide +kernel
theorem d_Re_all_50 : decode Y_Re_all.2.1 50 = .ok (.getfield 18, 3) := by decide +kernel
theorem d_Re_all_53 : decode Y_Re_all.2.1 53 = .ok (.iload_n 3, 1) := by decide +kernel
theorem d_Re_all_54 : decode Y_Re_all.2.1 54 = .ok (.invokevirtual 94, 3) := by decide +kernel
theorem d_Re_all_57 : decode Y_Re_all.2.1 57 = .ok (.iinc 2 1, 3) := by decide +kernel
theorem d_Re_all_60 : decode Y_Re_all.2.1 60 = .ok (.goto (-53), 3) := by decide +kernel
theorem d_Re_all_63 : decode Y_Re_all.2.1 63 = .ok (.return_, 1) := by decide +kernel
theorem d_Re_piece_0 : decode Y_Re_piece.2.1 0 = .ok (.aload_n 0, 1) := by decide +kernel
theorem d_Re_piece_1 : decode Y_Re_piece.2.1 1 = .ok (.invokevirtual 54, 3) := by decide +kernel
theorem d_Re_piece_4 : decode Y_Re_piece.2.1 4 = .ok (.istore_n 2, 1) := by decide +kernel
theorem d_Re_piece_5 : decode Y_Re_piece.2.1 5 = .ok (.iload_n 2, 1) := by decide +kernel
theorem d_Re_piece_6 : decode Y_Re_piece.2.1 6 = .ok (.bipush 33, 2) := by decide +kernel
theorem d_Re_piece_8 : decode Y_Re_piece.2.1 8 = .ok (.if_icmp .eq 37, 3) := by decide +kernel
theorem d_Re_piece_11 : decode Y_Re_piece.2.1 11 = .ok (.iload_n 2, 1) := by decide +kernel
theorem d_Re_piece_12 : decode Y_Re_piece.2.1 12 = .ok (.bipush 40, 2) := by decide +kernel
theorem d_Re_piece_14 : decode Y_Re_piece.2.1 14 = .ok (.if_icmp .eq 31, 3) := by decide +kernel
theorem d_Re_piece_17 : decode Y_Re_piece.2.1 17 = .ok (.aload_n 0, 1) := by decide +kernel
theorem d_Re_piece_18 : decode Y_Re_piece.2.1 18 = .ok (.iload_n 1, 1) := by decide +kernel
theorem d_Re_piece_19 : decode Y_Re_piece.2.1 19 = .ok (.invokevirtual 76, 3) := by decide +kernel
theorem d_Re_piece_22 : decode Y_Re_piece.2.1 22 = .ok (.aload_n 0, 1) := by decide +kernel
theorem d_Re_piece_23 : decode Y_Re_piece.2.1 23 = .ok (.invokevirtual 100, 3) := by decide +kernel
theorem d_Re_piece_26 : decode Y_Re_piece.2.1 26 = .ok (.istore_n 3, 1) := by decide +kernel
theorem d_Re_piece_27 : decode Y_Re_piece.2.1 27 = .ok (.aload_n 0, 1) := by decide +kernel
theorem d_Re_piece_28 : decode Y_Re_piece.2.1 28 = .ok (.iload_n 1, 1) := by decide +kernel
theorem d_Re_piece_29 : decode Y_Re_piece.2.1 29 = .ok (.invokevirtual 76, 3) := by decide +kernel
theorem d_Re_piece_32 : decode Y_Re_piece.2.1 32 = .ok (.aload_n 0, 1) := by decide +kernel
theorem d_Re_piece_33 : decode Y_Re_piece.2.1 33 = .ok (.getfield 18, 3) := by decide +kernel
theorem d_Re_piece_36 : decode Y_Re_piece.2.1 36 = .ok (.iload_n 3, 1) := by decide +kernel
theorem d_Re_piece_37 : decode Y_Re_piece.2.1 37 = .ok (.iconst 0, 1) := by decide +kernel
theorem d_Re_piece_38 : decode Y_Re_piece.2.1 38 = .ok (.invokevirtual 91, 3) := by decide +kernel
theorem d_Re_piece_41 : decode Y_Re_piece.2.1 41 = .ok (.pop, 1) := by decide +kernel
theorem d_Re_piece_42 : decode Y_Re_piece.2.1 42 = .ok (.goto 77, 3) := by decide +kernel
theorem d_Re_piece_45 : decode Y_Re_piece.2.1 45 = .ok (.iload_n 1, 1) := by decide +kernel
theorem d_Re_piece_46 : decode Y_Re_piece.2.1 46 = .ok (.bipush 6, 2) := by decide +kernel
theorem d_Re_piece_48 : decode Y_Re_piece.2.1 48 = .ok (.if_icmp .lt 11, 3) := by decide +kernel
theorem d_Re_piece_51 : decode Y_Re_piece.2.1 51 = .ok (.aload_n 0, 1) := by decide +kernel
theorem d_Re_piece_52 : decode Y_Re_piece.2.1 52 = .ok (.iconst 5, 1) := by decide +kernel
theorem d_Re_piece_53 : decode Y_Re_piece.2.1 53 = .ok (.invokevirtual 58, 3) := by decide +kernel
theorem d_Re_piece_56 : decode Y_Re_piece.2.1 56 = .ok (.goto 63, 3) := by decide +kernel
theorem d_Re_piece_59 : decode Y_Re_piece.2.1 59 = .ok (.iload_n 2, 1) := by decide +kernel
theorem d_Re_piece_60 : decode Y_Re_piece.2.1 60 = .ok (.bipush 33, 2) := by decide +kernel
theorem d_Re_piece_62 : decode Y_Re_piece.2.1 62 = .ok (.if_icmp .ne 34, 3) := by decide +kernel
theorem d_Re_piece_65 : decode Y_Re_piece.2.1 65 = .ok (.aload_n 0, 1) := by decide +kernel
theorem d_Re_piece_66 : decode Y_Re_piece.2.1 66 = .ok (.dup, 1) := by decide +kernel
theorem d_Re_piece_67 : decode Y_Re_piece.2.1 67 = .ok (.getfield 41, 3) := by decide +kernel
theorem d_Re_piece_70 : decode Y_Re_piece.2.1 70 = .ok (.iconst 1, 1) := by decide +kernel
theorem d_Re_piece_71 : decode Y_Re_piece.2.1 71 = .ok (.iadd, 1) := by decide +kernel
theorem d_Re_piece_72 : decode Y_Re_piece.2.1 72 = .ok (.putfield 41, 3) := by decide +kernel
theorem d_Re_piece_75 : decode Y_Re_piece.2.1 75 = .ok (.aload_n 0, 1) := by decide +kernel
theorem d_Re_piece_76 : decode Y_Re_piece.2.1 76 = .ok (.iload_n 1, 1) := by decide +kernel
theorem d_Re_piece_77 : decode Y_Re_piece.2.1 77 = .ok (.iconst 1, 1) := by decide +kernel
theorem d_Re_piece_78 : decode Y_Re_piece.2.1 78 = .ok (.iadd, 1) := by decide +kernel
theorem d_Re_piece_79 : decode Y_Re_piece.2.1 79 = .ok (.invokevirtual 97, 3) := by decide +kernel
theorem d_Re_piece_82 : decode Y_Re_piece.2.1 82 = .ok (.aload_n 0, 1) := by decide +kernel
theorem d_Re_piece_83 : decode Y_Re_piece.2.1 83 = .ok (.getfield 18, 3) := by decide +kernel
theorem d_Re_piece_86 : decode Y_Re_piece.2.1 86 = .ok (.bipush 10, 2) := by decide +kernel
theorem d_Re_piece_88 : decode Y_Re_piece.2.1 88 = .ok (.iconst 0, 1) := by decide +kernel
theorem d_Re_piece_89 : decode Y_Re_piece.2.1 89 = .ok (.invokevirtual 91, 3) := by decide +kernel
theorem d_Re_piece_92 : decode Y_Re_piece.2.1 92 = .ok (.pop, 1) := by decide +kernel
theorem d_Re_piece_93 : decode Y_Re_piece.2.1 93 = .ok (.goto 26, 3) := by decide +kernel
theorem d_Re_piece_96 : decode Y_Re_piece.2.1 96 = .ok (.aload_n 0, 1) := by decide +kernel
theorem d_Re_piece_97 : decode Y_Re_piece.2.1 97 = .ok (.dup, 1) := by decide +kernel
theorem d_Re_piece_98 : decode Y_Re_piece.2.1 98 = .ok (.getfield 41, 3) := by decide +kernel
theorem d_Re_piece_101 : decode Y_Re_piece.2.1 101 = .ok (.iconst 1, 1) := by decide +kernel
theorem d_Re_piece_102 : decode Y_Re_piece.2.1 102 = .ok (.iadd, 1) := by decide +kernel
theorem d_Re_piece_103 : decode Y_Re_piece.2.1 103 = .ok (.putfield 41, 3) := by decide +kernel
theorem d_Re_piece_106 : decode Y_Re_piece.2.1 106 = .ok (.aload_n 0, 1) := by decide +kernel
theorem d_Re_piece_107 : decode Y_Re_piece.2.1 107 = .ok (.iload_n 1, 1) := by decide +kernel
theorem d_Re_piece_108 : decode Y_Re_piece.2.1 108 = .ok (.iconst 1, 1) := by decide +kernel
theorem d_Re_piece_109 : decode Y_Re_piece.2.1 109 = .ok (.iadd, 1) := by decide +kernel
theorem d_Re_piece_110 : decode Y_Re_piece.2.1 110 = .ok (.invokevirtual 82, 3) := by decide +kernel
theorem d_Re_piece_113 : decode Y_Re_piece.2.1 113 = .ok (.aload_n 0, 1) := by decide +kernel
theorem d_Re_piece_114 : decode Y_Re_piece.2.1 114 = .ok (.bipush 41, 2) := by decide +kernel
theorem d_Re_piece_116 : decode Y_Re_piece.2.1 116 = .ok (.invokevirtual 51, 3) := by decide +kernel
theorem d_Re_piece_119 : decode Y_Re_piece.2.1 119 = .ok (.return_, 1) := by decide +kernel
theorem d_Re_sum_0 : decode Y_Re_sum.2.1 0 = .ok (.aload_n 0, 1) := by decide +kernel
theorem d_Re_sum_1 : decode Y_Re_sum.2.1 1 = .ok (.iload_n 1, 1) := by decide +kernel
theorem d_Re_sum_2 : decode Y_Re_sum.2.1 2 = .ok (.invokevirtual 103, 3) := by decide +kernel
theorem d_Re_sum_5 : decode Y_Re_sum.2.1 5 = .ok (.iconst 0, 1) := by decide +kernel
theorem d_Re_sum_6 : decode Y_Re_sum.2.1 6 = .ok (.istore_n 2, 1) := by decide +kernel
theorem d_Re_sum_7 : decode Y_Re_sum.2.1 7 = .ok (.iload_n 2, 1) := by decide +kernel
theorem d_Re_sum_8 : decode Y_Re_sum.2.1 8 = .ok (.sipush 200, 3) := by decide +kernel
theorem d_Re_sum_11 : decode Y_Re_sum.2.1 11 = .ok (.if_icmp .ge 67, 3) := by decide +kernel
theorem d_Re_sum_14 : decode Y_Re_sum.2.1 14 = .ok (.aload_n 0, 1) := by decide +kernel
theorem d_Re_sum_15 : decode Y_Re_sum.2.1 15 = .ok (.invokevirtual 54, 3) := by decide +kernel
theorem d_Re_sum_18 : decode Y_Re_sum.2.1 18 = .ok (.bipush 43, 2) := by decide +kernel
theorem d_Re_sum_20 : decode Y_Re_sum.2.1 20 = .ok (.if_icmp .eq 12, 3) := by decide +kernel
theorem d_Re_sum_23 : decode Y_Re_sum.2.1 23 = .ok (.aload_n 0, 1) := by decide +kernel
theorem d_Re_sum_24 : decode Y_Re_sum.2.1 24 = .ok (.invokevirtual 54, 3) := by decide +kernel
theorem d_Re_sum_27 : decode Y_Re_sum.2.1 27 = .ok (.bipush 45, 2) := by decide +kernel
theorem d_Re_sum_29 : decode Y_Re_sum.2.1 29 = .ok (.if_icmp .ne 49, 3) := by decide +kernel
theorem d_Re_sum_32 : decode Y_Re_sum.2.1 32 = .ok (.aload_n 0, 1) := by decide +kernel
theorem d_Re_sum_33 : decode Y_Re_sum.2.1 33 = .ok (.invokevirtual 54, 3) := by decide +kernel
theorem d_Re_sum_36 : decode Y_Re_sum.2.1 36 = .ok (.bipush 43, 2) := by decide +kernel
theorem d_Re_sum_38 : decode Y_Re_sum.2.1 38 = .ok (.if_icmp .ne 7, 3) := by decide +kernel
theorem d_Re_sum_41 : decode Y_Re_sum.2.1 41 = .ok (.iconst 2, 1) := by decide +kernel
theorem d_Re_sum_42 : decode Y_Re_sum.2.1 42 = .ok (.goto 4, 3) := by decide +kernel
theorem d_Re_sum_45 : decode Y_Re_sum.2.1 45 = .ok (.iconst 3, 1) := by decide +kernel
theorem d_Re_sum_46 : decode Y_Re_sum.2.1 46 = .ok (.istore_n 3, 1) := by decide +kernel
theorem d_Re_sum_47 : decode Y_Re_sum.2.1 47 = .ok (.aload_n 0, 1) := by decide +kernel
theorem d_Re_sum_48 : decode Y_Re_sum.2.1 48 = .ok (.dup, 1) := by decide +kernel
theorem d_Re_sum_49 : decode Y_Re_sum.2.1 49 = .ok (.getfield 41, 3) := by decide +kernel
theorem d_Re_sum_52 : decode Y_Re_sum.2.1 52 = .ok (.iconst 1, 1) := by decide +kernel
theorem d_Re_sum_53 : decode Y_Re_sum.2.1 53 = .ok (.iadd, 1) := by decide +kernel
theorem d_Re_sum_54 : decode Y_Re_sum.2.1 54 = .ok (.putfield 41, 3) := by decide +kernel
theorem d_Re_sum_57 : decode Y_Re_sum.2.1 57 = .ok (.aload_n 0, 1) := by decide +kernel
theorem d_Re_sum_58 : decode Y_Re_sum.2.1 58 = .ok (.iload_n 1, 1) := by decide +kernel
theorem d_Re_sum_59 : decode Y_Re_sum.2.1 59 = .ok (.invokevirtual 103, 3) := by decide +kernel
theorem d_Re_sum_62 : decode Y_Re_sum.2.1 62 = .ok (.aload_n 0, 1) := by decide +kernel
theorem d_Re_sum_63 : decode Y_Re_sum.2.1 63 = .ok (.getfield 18, 3) := by decide +kernel
theorem d_Re_sum_66 : decode Y_Re_sum.2.1 66 = .ok (.iload_n 3, 1) := by decide +kernel
theorem d_Re_sum_67 : decode Y_Re_sum.2.1 67 = .ok (.iconst 0, 1) := by decide +kernel
theorem d_Re_sum_68 : decode Y_Re_sum.2.1 68 = .ok (.invokevirtual 91, 3) := by decide +kernel
theorem d_Re_sum_71 : decode Y_Re_sum.2.1 71 = .ok (.pop, 1) := by decide +kernel
theorem d_Re_sum_72 : decode Y_Re_sum.2.1 72 = .ok (.iinc 2 1, 3) := by decide +kernel
theorem d_Re_sum_75 : decode Y_Re_sum.2.1 75 = .ok (.goto (-68), 3) := by decide +kernel
theorem d_Re_sum_78 : decode Y_Re_sum.2.1 78 = .ok (.return_, 1) := by decide +kernel
theorem d_Re_product_0 : decode Y_Re_product.2.1 0 = .ok (.aload_n 0, 1) := by decide +kernel
theorem d_Re_product_1 : decode Y_Re_product.2.1 1 = .ok (.iload_n 1, 1) := by decide +kernel
theorem d_Re_product_2 : decode Y_Re_product.2.1 2 = .ok (.invokevirtual 106, 3) := by decide +kernel
theorem d_Re_product_5 : decode Y_Re_product.2.1 5 = .ok (.iconst 0, 1) := by decide +kernel
theorem d_Re_product_6 : decode Y_Re_product.2.1 6 = .ok (.istore_n 2, 1) := by decide +kernel
theorem d_Re_product_7 : decode Y_Re_product.2.1 7 = .ok (.iload_n 2, 1) := by decide +kernel
theorem d_Re_product_8 : decode Y_Re_product.2.1 8 = .ok (.sipush 200, 3) := by decide +kernel
theorem d_Re_product_11 : decode Y_Re_product.2.1 11 = .ok (.if_icmp .ge 90, 3) := by decide +kernel
theorem d_Re_product_14 : decode Y_Re_product.2.1 14 = .ok (.aload_n 0, 1) := by decide +kernel
theorem d_Re_product_15 : decode Y_Re_product.2.1 15 = .ok (.invokevirtual 54, 3) := by decide +kernel
theorem d_Re_product_18 : decode Y_Re_product.2.1 18 = .ok (.bipush 42, 2) := by decide +kernel
theorem d_Re_product_20 : decode Y_Re_product.2.1 20 = .ok (.if_icmp .eq 21, 3) := by decide +kernel
theorem d_Re_product_23 : decode Y_Re_product.2.1 23 = .ok (.aload_n 0, 1) := by decide +kernel
theorem d_Re_product_24 : decode Y_Re_product.2.1 24 = .ok (.invokevirtual 54, 3) := by decide +kernel
theorem d_Re_product_27 : decode Y_Re_product.2.1 27 = .ok (.bipush 47, 2) := by decide +kernel
theorem d_Re_product_29 : decode Y_Re_product.2.1 29 = .ok (.if_icmp .eq 12, 3) := by decide +kernel
theorem d_Re_product_32 : decode Y_Re_product.2.1 32 = .ok (.aload_n 0, 1) := by decide +kernel
theorem d_Re_product_33 : decode Y_Re_product.2.1 33 = .ok (.invokevirtual 54, 3) := by decide +kernel
theorem d_Re_product_36 : decode Y_Re_product.2.1 36 = .ok (.bipush 37, 2) := by decide +kernel
theorem d_Re_product_38 : decode Y_Re_product.2.1 38 = .ok (.if_icmp .ne 63, 3) := by decide +kernel
theorem d_Re_product_41 : decode Y_Re_product.2.1 41 = .ok (.aload_n 0, 1) := by decide +kernel
theorem d_Re_product_42 : decode Y_Re_product.2.1 42 = .ok (.invokevirtual 54, 3) := by decide +kernel
theorem d_Re_product_45 : decode Y_Re_product.2.1 45 = .ok (.bipush 42, 2) := by decide +kernel
theorem d_Re_product_47 : decode Y_Re_product.2.1 47 = .ok (.if_icmp .ne 7, 3) := by decide +kernel
theorem d_Re_product_50 : decode Y_Re_product.2.1 50 = .ok (.iconst 4, 1) := by decide +kernel
theorem d_Re_product_51 : decode Y_Re_product.2.1 51 = .ok (.goto 18, 3) := by decide +kernel
theorem d_Re_product_54 : decode Y_Re_product.2.1 54 = .ok (.aload_n 0, 1) := by decide +kernel
theorem d_Re_product_55 : decode Y_Re_product.2.1 55 = .ok (.invokevirtual 54, 3) := by decide +kernel
theorem d_Re_product_58 : decode Y_Re_product.2.1 58 = .ok (.bipush 47, 2) := by decide +kernel
theorem d_Re_product_60 : decode Y_Re_product.2.1 60 = .ok (.if_icmp .ne 7, 3) := by decide +kernel
theorem d_Re_product_63 : decode Y_Re_product.2.1 63 = .ok (.iconst 5, 1) := by decide +kernel
theorem d_Re_product_64 : decode Y_Re_product.2.1 64 = .ok (.goto 5, 3) := by decide +kernel
theorem d_Re_product_67 : decode Y_Re_product.2.1 67 = .ok (.bipush 6, 2) := by decide +kernel
theorem d_Re_product_69 : decode Y_Re_product.2.1 69 = .ok (.istore_n 3, 1) := by decide +kernel
theorem d_Re_product_70 : decode Y_Re_product.2.1 70 = .ok (.aload_n 0, 1) := by decide +kernel
theorem d_Re_product_71 : decode Y_Re_product.2.1 71 = .ok (.dup, 1) := by decide +kernel
theorem d_Re_product_72 : decode Y_Re_product.2.1 72 = .ok (.getfield 41, 3) := by decide +kernel
theorem d_Re_product_75 : decode Y_Re_product.2.1 75 = .ok (.iconst 1, 1) := by decide +kernel
theorem d_Re_product_76 : decode Y_Re_product.2.1 76 = .ok (.iadd, 1) := by decide +kernel
theorem d_Re_product_77 : decode Y_Re_product.2.1 77 = .ok (.putfield 41, 3) := by decide +kernel
theorem d_Re_product_80 : decode Y_Re_product.2.1 80 = .ok (.aload_n 0, 1) := by decide +kernel
theorem d_Re_product_81 : decode Y_Re_product.2.1 81 = .ok (.iload_n 1, 1) := by decide +kernel
theorem d_Re_product_82 : decode Y_Re_product.2.1 82 = .ok (.invokevirtual 106, 3) := by decide +kernel
theorem d_Re_product_85 : decode Y_Re_product.2.1 85 = .ok (.aload_n 0, 1) := by decide +kernel
theorem d_Re_product_86 : decode Y_Re_product.2.1 86 = .ok (.getfield 18, 3) := by decide +kernel
theorem d_Re_product_89 : decode Y_Re_product.2.1 89 = .ok (.iload_n 3, 1) := by decide +kernel
theorem d_Re_product_90 : decode Y_Re_product.2.1 90 = .ok (.iconst 0, 1) := by decide +kernel
theorem d_Re_product_91 : decode Y_Re_product.2.1 91 = .ok (.invokevirtual 91, 3) := by decide +kernel
theorem d_Re_product_94 : decode Y_Re_product.2.1 94 = .ok (.pop, 1) := by decide +kernel
theorem d_Re_product_95 : decode Y_Re_product.2.1 95 = .ok (.iinc 2 1, 3) := by decide +kernel
theorem d_Re_product_98 : decode Y_Re_product.2.1 98 = .ok (.goto (-91), 3) := by decide +kernel
theorem d_Re_product_101 : decode Y_Re_product.2.1 101 = .ok (.return_, 1) := by decide +kernel
theorem d_Re_factor_0 : decode Y_Re_factor.2.1 0 = .ok (.aload_n 0, 1) := by decide +kernel
theorem d_Re_factor_1 : decode Y_Re_factor.2.1 1 = .ok (.invokevirtual 54, 3) := by decide +kernel
theorem d_Re_factor_4 : decode Y_Re_factor.2.1 4 = .ok (.istore_n 2, 1) := by decide +kernel
theorem d_Re_factor_5 : decode Y_Re_factor.2.1 5 = .ok (.ldc 109, 2) := by decide +kernel
theorem d_Re_factor_7 : decode Y_Re_factor.2.1 7 = .ok (.iload_n 2, 1) := by decide +kernel
theorem d_Re_factor_8 : decode Y_Re_factor.2.1 8 = .ok (.invokestatic 69, 3) := by decide +kernel
theorem d_Re_factor_11 : decode Y_Re_factor.2.1 11 = .ok (.istore_n 3, 1) := by decide +kernel
theorem d_Re_factor_12 : decode Y_Re_factor.2.1 12 = .ok (.iload_n 3, 1) := by decide +kernel
theorem d_Re_factor_13 : decode Y_Re_factor.2.1 13 = .ok (.iconst (-1), 1) := by decide +kernel
theorem d_Re_factor_14 : decode Y_Re_factor.2.1 14 = .ok (.if_icmp .eq 26, 3) := by decide +kernel
theorem d_Re_factor_17 : decode Y_Re_factor.2.1 17 = .ok (.aload_n 0, 1) := by decide +kernel
theorem d_Re_factor_18 : decode Y_Re_factor.2.1 18 = .ok (.dup, 1) := by decide +kernel
theorem d_Re_factor_19 : decode Y_Re_factor.2.1 19 = .ok (.getfield 41, 3) := by decide +kernel
theorem d_Re_factor_22 : decode Y_Re_factor.2.1 22 = .ok (.iconst 1, 1) := by decide +kernel
theorem d_Re_factor_23 : decode Y_Re_factor.2.1 23 = .ok (.iadd, 1) := by decide +kernel
theorem d_Re_factor_24 : decode Y_Re_factor.2.1 24 = .ok (.putfield 41, 3) := by decide +kernel
theorem d_Re_factor_27 : decode Y_Re_factor.2.1 27 = .ok (.aload_n 0, 1) := by decide +kernel
theorem d_Re_factor_28 : decode Y_Re_factor.2.1 28 = .ok (.getfield 18, 3) := by decide +kernel
theorem d_Re_factor_31 : decode Y_Re_factor.2.1 31 = .ok (.iconst 1, 1) := by decide +kernel
theorem d_Re_factor_32 : decode Y_Re_factor.2.1 32 = .ok (.iload_n 3, 1) := by decide +kernel
theorem d_Re_factor_33 : decode Y_Re_factor.2.1 33 = .ok (.invokevirtual 91, 3) := by decide +kernel
theorem d_Re_factor_36 : decode Y_Re_factor.2.1 36 = .ok (.pop, 1) := by decide +kernel
theorem d_Re_factor_37 : decode Y_Re_factor.2.1 37 = .ok (.goto 68, 3) := by decide +kernel
theorem d_Re_factor_40 : decode Y_Re_factor.2.1 40 = .ok (.iload_n 2, 1) := by decide +kernel
theorem d_Re_factor_41 : decode Y_Re_factor.2.1 41 = .ok (.invokestatic 111, 3) := by decide +kernel
theorem d_Re_factor_44 : decode Y_Re_factor.2.1 44 = .ok (.ifCond .eq 10, 3) := by decide +kernel
theorem d_Re_factor_47 : decode Y_Re_factor.2.1 47 = .ok (.aload_n 0, 1) := by decide +kernel
theorem d_Re_factor_48 : decode Y_Re_factor.2.1 48 = .ok (.invokevirtual 115, 3) := by decide +kernel
theorem d_Re_factor_51 : decode Y_Re_factor.2.1 51 = .ok (.goto 54, 3) := by decide +kernel
theorem d_Re_factor_54 : decode Y_Re_factor.2.1 54 = .ok (.iload_n 2, 1) := by decide +kernel
theorem d_Re_factor_55 : decode Y_Re_factor.2.1 55 = .ok (.bipush 91, 2) := by decide +kernel
theorem d_Re_factor_57 : decode Y_Re_factor.2.1 57 = .ok (.if_icmp .eq 11, 3) := by decide +kernel
theorem d_Re_factor_60 : decode Y_Re_factor.2.1 60 = .ok (.aload_n 0, 1) := by decide +kernel
theorem d_Re_factor_61 : decode Y_Re_factor.2.1 61 = .ok (.iconst 1, 1) := by decide +kernel
theorem d_Re_factor_62 : decode Y_Re_factor.2.1 62 = .ok (.invokevirtual 58, 3) := by decide +kernel
theorem d_Re_factor_65 : decode Y_Re_factor.2.1 65 = .ok (.goto 40, 3) := by decide +kernel
theorem d_Re_factor_68 : decode Y_Re_factor.2.1 68 = .ok (.iload_n 1, 1) := by decide +kernel
theorem d_Re_factor_69 : decode Y_Re_factor.2.1 69 = .ok (.bipush 6, 2) := by decide +kernel
theorem d_Re_factor_71 : decode Y_Re_factor.2.1 71 = .ok (.if_icmp .lt 11, 3) := by decide +kernel
theorem d_Re_factor_74 : decode Y_Re_factor.2.1 74 = .ok (.aload_n 0, 1) := by decide +kernel
theorem d_Re_factor_75 : decode Y_Re_factor.2.1 75 = .ok (.iconst 5, 1) := by decide +kernel
theorem d_Re_factor_76 : decode Y_Re_factor.2.1 76 = .ok (.invokevirtual 58, 3) := by decide +kernel
theorem d_Re_factor_79 : decode Y_Re_factor.2.1 79 = .ok (.goto 26, 3) := by decide +kernel
theorem d_Re_factor_82 : decode Y_Re_factor.2.1 82 = .ok (.aload_n 0, 1) := by decide +kernel
theorem d_Re_factor_83 : decode Y_Re_factor.2.1 83 = .ok (.dup, 1) := by decide +kernel
theorem d_Re_factor_84 : decode Y_Re_factor.2.1 84 = .ok (.getfield 41, 3) := by decide +kernel
theorem d_Re_factor_87 : decode Y_Re_factor.2.1 87 = .ok (.iconst 1, 1) := by decide +kernel
theorem d_Re_factor_88 : decode Y_Re_factor.2.1 88 = .ok (.iadd, 1) := by decide +kernel
theorem d_Re_factor_89 : decode Y_Re_factor.2.1 89 = .ok (.putfield 41, 3) := by decide +kernel
theorem d_Re_factor_92 : decode Y_Re_factor.2.1 92 = .ok (.aload_n 0, 1) := by decide +kernel
theorem d_Re_factor_93 : decode Y_Re_factor.2.1 93 = .ok (.iload_n 1, 1) := by decide +kernel
theorem d_Re_factor_94 : decode Y_Re_factor.2.1 94 = .ok (.iconst 1, 1) := by decide +kernel
theorem d_Re_factor_95 : decode Y_Re_factor.2.1 95 = .ok (.iadd, 1) := by decide +kernel
theorem d_Re_factor_96 : decode Y_Re_factor.2.1 96 = .ok (.invokevirtual 76, 3) := by decide +kernel
theorem d_Re_factor_99 : decode Y_Re_factor.2.1 99 = .ok (.aload_n 0, 1) := by decide +kernel
theorem d_Re_factor_100 : decode Y_Re_factor.2.1 100 = .ok (.bipush 93, 2) := by decide +kernel
theorem d_Re_factor_102 : decode Y_Re_factor.2.1 102 = .ok (.invokevirtual 51, 3) := by decide +kernel
theorem d_Re_factor_105 : decode Y_Re_factor.2.1 105 = .ok (.return_, 1) := by decide +kernel
theorem d_Pr_divide_0 : decode Y_Pr_divide.2.1 0 = .ok (.aload_n 0, 1) := by decide +kernel
theorem d_Pr_divide_1 : decode Y_Pr_divide.2.1 1 = .ok (.getfield 36, 3) := by decide +kernel
theorem d_Pr_divide_4 : decode Y_Pr_divide.2.1 4 = .ok (.bipush 14, 2) := by decide +kernel
theorem d_Pr_divide_6 : decode Y_Pr_divide.2.1 6 = .ok (.if_icmp .ge 16, 3) := by decide +kernel
theorem d_Pr_divide_9 : decode Y_Pr_divide.2.1 9 = .ok (.aload_n 0, 1) := by decide +kernel
theorem d_Pr_divide_10 : decode Y_Pr_divide.2.1 10 = .ok (.getfield 29, 3) := by decide +kernel
theorem d_Pr_divide_13 : decode Y_Pr_divide.2.1 13 = .ok (.aload_n 0, 1) := by decide +kernel
theorem d_Pr_divide_14 : decode Y_Pr_divide.2.1 14 = .ok (.getfield 36, 3) := by decide +kernel
theorem d_Pr_divide_17 : decode Y_Pr_divide.2.1 17 = .ok (.aload_n 0, 1) := by decide +kernel
theorem d_Pr_divide_18 : decode Y_Pr_divide.2.1 18 = .ok (.getfield 32, 3) := by decide +kernel
theorem d_Pr_divide_21 : decode Y_Pr_divide.2.1 21 = .ok (.iastore, 1) := by decide +kernel
theorem d_Pr_divide_22 : decode Y_Pr_divide.2.1 22 = .ok (.return_, 1) := by decide +kernel
theorem d_Pr_close_0 : decode Y_Pr_close.2.1 0 = .ok (.aload_n 0, 1) := by decide +kernel
theorem d_Pr_close_1 : decode Y_Pr_close.2.1 1 = .ok (.getfield 36, 3) := by decide +kernel
theorem d_Pr_close_4 : decode Y_Pr_close.2.1 4 = .ok (.bipush 14, 2) := by decide +kernel
theorem d_Pr_close_6 : decode Y_Pr_close.2.1 6 = .ok (.if_icmp .ge 26, 3) := by decide +kernel
theorem d_Pr_close_9 : decode Y_Pr_close.2.1 9 = .ok (.aload_n 0, 1) := by decide +kernel
theorem d_Pr_close_10 : decode Y_Pr_close.2.1 10 = .ok (.dup, 1) := by decide +kernel
theorem d_Pr_close_11 : decode Y_Pr_close.2.1 11 = .ok (.getfield 36, 3) := by decide +kernel
theorem d_Pr_close_14 : decode Y_Pr_close.2.1 14 = .ok (.iconst 1, 1) := by decide +kernel
theorem d_Pr_close_15 : decode Y_Pr_close.2.1 15 = .ok (.iadd, 1) := by decide +kernel
theorem d_Pr_close_16 : decode Y_Pr_close.2.1 16 = .ok (.putfield 36, 3) := by decide +kernel
theorem d_Pr_close_19 : decode Y_Pr_close.2.1 19 = .ok (.aload_n 0, 1) := by decide +kernel
theorem d_Pr_close_20 : decode Y_Pr_close.2.1 20 = .ok (.getfield 26, 3) := by decide +kernel
theorem d_Pr_close_23 : decode Y_Pr_close.2.1 23 = .ok (.aload_n 0, 1) := by decide +kernel
theorem d_Pr_close_24 : decode Y_Pr_close.2.1 24 = .ok (.getfield 36, 3) := by decide +kernel
theorem d_Pr_close_27 : decode Y_Pr_close.2.1 27 = .ok (.aload_n 0, 1) := by decide +kernel
theorem d_Pr_close_28 : decode Y_Pr_close.2.1 28 = .ok (.getfield 32, 3) := by decide +kernel
theorem d_Pr_close_31 : decode Y_Pr_close.2.1 31 = .ok (.iastore, 1) := by decide +kernel
theorem d_Pr_close_32 : decode Y_Pr_close.2.1 32 = .ok (.return_, 1) := by decide +kernel
theorem d_Re_clause_0 : decode Y_Re_clause.2.1 0 = .ok (.ldc 67, 2) := by decide +kernel
theorem d_Re_clause_2 : decode Y_Re_clause.2.1 2 = .ok (.aload_n 0, 1) := by decide +kernel
theorem d_Re_clause_3 : decode Y_Re_clause.2.1 3 = .ok (.invokevirtual 54, 3) := by decide +kernel
theorem d_Re_clause_6 : decode Y_Re_clause.2.1 6 = .ok (.invokestatic 69, 3) := by decide +kernel
theorem d_Re_clause_9 : decode Y_Re_clause.2.1 9 = .ok (.istore_n 2, 1) := by decide +kernel
theorem d_Re_clause_10 : decode Y_Re_clause.2.1 10 = .ok (.iload_n 2, 1) := by decide +kernel
theorem d_Re_clause_11 : decode Y_Re_clause.2.1 11 = .ok (.iconst (-1), 1) := by decide +kernel
theorem d_Re_clause_12 : decode Y_Re_clause.2.1 12 = .ok (.if_icmp .ne 9, 3) := by decide +kernel
theorem d_Re_clause_15 : decode Y_Re_clause.2.1 15 = .ok (.aload_n 0, 1) := by decide +kernel
theorem d_Re_clause_16 : decode Y_Re_clause.2.1 16 = .ok (.iconst 1, 1) := by decide +kernel
theorem d_Re_clause_17 : decode Y_Re_clause.2.1 17 = .ok (.invokevirtual 58, 3) := by decide +kernel
theorem d_Re_clause_20 : decode Y_Re_clause.2.1 20 = .ok (.return_, 1) := by decide +kernel
theorem d_Re_clause_21 : decode Y_Re_clause.2.1 21 = .ok (.iload_n 1, 1) := by decide +kernel
theorem d_Re_clause_22 : decode Y_Re_clause.2.1 22 = .ok (.bipush 14, 2) := by decide +kernel
theorem d_Re_clause_24 : decode Y_Re_clause.2.1 24 = .ok (.if_icmp .ne 9, 3) := by decide +kernel
theorem d_Re_clause_27 : decode Y_Re_clause.2.1 27 = .ok (.aload_n 0, 1) := by decide +kernel
theorem d_Re_clause_28 : decode Y_Re_clause.2.1 28 = .ok (.iconst 4, 1) := by decide +kernel
theorem d_Re_clause_29 : decode Y_Re_clause.2.1 29 = .ok (.invokevirtual 58, 3) := by decide +kernel
theorem d_Re_clause_32 : decode Y_Re_clause.2.1 32 = .ok (.return_, 1) := by decide +kernel
theorem d_Re_clause_33 : decode Y_Re_clause.2.1 33 = .ok (.aload_n 0, 1) := by decide +kernel
theorem d_Re_clause_34 : decode Y_Re_clause.2.1 34 = .ok (.dup, 1) := by decide +kernel
theorem d_Re_clause_35 : decode Y_Re_clause.2.1 35 = .ok (.getfield 41, 3) := by decide +kernel
theorem d_Re_clause_38 : decode Y_Re_clause.2.1 38 = .ok (.iconst 1, 1) := by decide +kernel
theorem d_Re_clause_39 : decode Y_Re_clause.2.1 39 = .ok (.iadd, 1) := by decide +kernel
theorem d_Re_clause_40 : decode Y_Re_clause.2.1 40 = .ok (.putfield 41, 3) := by decide +kernel
theorem d_Re_clause_43 : decode Y_Re_clause.2.1 43 = .ok (.aload_n 0, 1) := by decide +kernel
theorem d_Re_clause_44 : decode Y_Re_clause.2.1 44 = .ok (.getfield 18, 3) := by decide +kernel
theorem d_Re_clause_47 : decode Y_Re_clause.2.1 47 = .ok (.iload_n 2, 1) := by decide +kernel
theorem d_Re_clause_48 : decode Y_Re_clause.2.1 48 = .ok (.invokevirtual 73, 3) := by decide +kernel
theorem d_Re_clause_51 : decode Y_Re_clause.2.1 51 = .ok (.aload_n 0, 1) := by decide +kernel
theorem d_Re_clause_52 : decode Y_Re_clause.2.1 52 = .ok (.iconst 0, 1) := by decide +kernel
theorem d_Re_clause_53 : decode Y_Re_clause.2.1 53 = .ok (.invokevirtual 76, 3) := by decide +kernel
theorem d_Re_clause_56 : decode Y_Re_clause.2.1 56 = .ok (.aload_n 0, 1) := by decide +kernel
theorem d_Re_clause_57 : decode Y_Re_clause.2.1 57 = .ok (.getfield 18, 3) := by decide +kernel
theorem d_Re_clause_60 : decode Y_Re_clause.2.1 60 = .ok (.invokevirtual 79, 3) := by decide +kernel
theorem d_Re_clause_63 : decode Y_Re_clause.2.1 63 = .ok (.aload_n 0, 1) := by decide +kernel
theorem d_Re_clause_64 : decode Y_Re_clause.2.1 64 = .ok (.bipush 40, 2) := by decide +kernel
theorem d_Re_clause_66 : decode Y_Re_clause.2.1 66 = .ok (.invokevirtual 51, 3) := by decide +kernel
theorem d_Re_clause_69 : decode Y_Re_clause.2.1 69 = .ok (.aload_n 0, 1) := by decide +kernel
theorem d_Re_clause_70 : decode Y_Re_clause.2.1 70 = .ok (.iconst 1, 1) := by decide +kernel
theorem d_Re_clause_71 : decode Y_Re_clause.2.1 71 = .ok (.invokevirtual 82, 3) := by decide +kernel
theorem d_Re_clause_74 : decode Y_Re_clause.2.1 74 = .ok (.aload_n 0, 1) := by decide +kernel
theorem d_Re_clause_75 : decode Y_Re_clause.2.1 75 = .ok (.bipush 41, 2) := by decide +kernel
theorem d_Re_clause_77 : decode Y_Re_clause.2.1 77 = .ok (.invokevirtual 51, 3) := by decide +kernel
theorem d_Re_clause_80 : decode Y_Re_clause.2.1 80 = .ok (.aload_n 0, 1) := by decide +kernel
theorem d_Re_clause_81 : decode Y_Re_clause.2.1 81 = .ok (.getfield 18, 3) := by decide +kernel
theorem d_Re_clause_84 : decode Y_Re_clause.2.1 84 = .ok (.invokevirtual 85, 3) := by decide +kernel
theorem d_Re_clause_87 : decode Y_Re_clause.2.1 87 = .ok (.return_, 1) := by decide +kernel
theorem d_Re_read_0 : decode Y_Re_read.2.1 0 = .ok (.aload_n 0, 1) := by decide +kernel
theorem d_Re_read_1 : decode Y_Re_read.2.1 1 = .ok (.iload_n 2, 1) := by decide +kernel
theorem d_Re_read_2 : decode Y_Re_read.2.1 2 = .ok (.aload_n 1, 1) := by decide +kernel
theorem d_Re_read_3 : decode Y_Re_read.2.1 3 = .ok (.arraylength, 1) := by decide +kernel
theorem d_Re_read_4 : decode Y_Re_read.2.1 4 = .ok (.sipush 200, 3) := by decide +kernel
theorem d_Re_read_7 : decode Y_Re_read.2.1 7 = .ok (.invokestatic 22, 3) := by decide +kernel
theorem d_Re_read_10 : decode Y_Re_read.2.1 10 = .ok (.invokestatic 22, 3) := by decide +kernel
theorem d_Re_read_13 : decode Y_Re_read.2.1 13 = .ok (.putfield 28, 3) := by decide +kernel
theorem d_Re_read_16 : decode Y_Re_read.2.1 16 = .ok (.aload_n 1, 1) := by decide +kernel
theorem d_Re_read_17 : decode Y_Re_read.2.1 17 = .ok (.iconst 0, 1) := by decide +kernel
theorem d_Re_read_18 : decode Y_Re_read.2.1 18 = .ok (.aload_n 0, 1) := by decide +kernel
theorem d_Re_read_19 : decode Y_Re_read.2.1 19 = .ok (.getfield 11, 3) := by decide +kernel
theorem d_Re_read_22 : decode Y_Re_read.2.1 22 = .ok (.iconst 0, 1) := by decide +kernel
theorem d_Re_read_23 : decode Y_Re_read.2.1 23 = .ok (.aload_n 0, 1) := by decide +kernel
theorem d_Re_read_24 : decode Y_Re_read.2.1 24 = .ok (.getfield 28, 3) := by decide +kernel
theorem d_Re_read_27 : decode Y_Re_read.2.1 27 = .ok (.invokestatic 32, 3) := by decide +kernel
theorem d_Re_read_30 : decode Y_Re_read.2.1 30 = .ok (.aload_n 0, 1) := by decide +kernel
theorem d_Re_read_31 : decode Y_Re_read.2.1 31 = .ok (.getfield 18, 3) := by decide +kernel
theorem d_Re_read_34 : decode Y_Re_read.2.1 34 = .ok (.invokevirtual 38, 3) := by decide +kernel
theorem d_Re_read_37 : decode Y_Re_read.2.1 37 = .ok (.aload_n 0, 1) := by decide +kernel
theorem d_Re_read_38 : decode Y_Re_read.2.1 38 = .ok (.iconst 0, 1) := by decide +kernel
theorem d_Re_read_39 : decode Y_Re_read.2.1 39 = .ok (.putfield 41, 3) := by decide +kernel
theorem d_Re_read_42 : decode Y_Re_read.2.1 42 = .ok (.aload_n 0, 1) := by decide +kernel
theorem d_Re_read_43 : decode Y_Re_read.2.1 43 = .ok (.iconst 0, 1) := by decide +kernel
theorem d_Re_read_44 : decode Y_Re_read.2.1 44 = .ok (.putfield 44, 3) := by decide +kernel
theorem d_Re_read_47 : decode Y_Re_read.2.1 47 = .ok (.aload_n 0, 1) := by decide +kernel
theorem d_Re_read_48 : decode Y_Re_read.2.1 48 = .ok (.iconst 0, 1) := by decide +kernel
theorem d_Re_read_49 : decode Y_Re_read.2.1 49 = .ok (.invokevirtual 47, 3) := by decide +kernel
theorem d_Re_read_52 : decode Y_Re_read.2.1 52 = .ok (.iconst 1, 1) := by decide +kernel
theorem d_Re_read_53 : decode Y_Re_read.2.1 53 = .ok (.istore_n 3, 1) := by decide +kernel
theorem d_Re_read_54 : decode Y_Re_read.2.1 54 = .ok (.iload_n 3, 1) := by decide +kernel
theorem d_Re_read_55 : decode Y_Re_read.2.1 55 = .ok (.bipush 14, 2) := by decide +kernel
theorem d_Re_read_57 : decode Y_Re_read.2.1 57 = .ok (.if_icmp .gt 38, 3) := by decide +kernel
theorem d_Re_read_60 : decode Y_Re_read.2.1 60 = .ok (.aload_n 0, 1) := by decide +kernel
theorem d_Re_read_61 : decode Y_Re_read.2.1 61 = .ok (.getfield 44, 3) := by decide +kernel
theorem d_Re_read_64 : decode Y_Re_read.2.1 64 = .ok (.ifCond .ne 31, 3) := by decide +kernel
theorem d_Re_read_67 : decode Y_Re_read.2.1 67 = .ok (.aload_n 0, 1) := by decide +kernel
theorem d_Re_read_68 : decode Y_Re_read.2.1 68 = .ok (.getfield 41, 3) := by decide +kernel
theorem d_Re_read_71 : decode Y_Re_read.2.1 71 = .ok (.aload_n 0, 1) := by decide +kernel
theorem d_Re_read_72 : decode Y_Re_read.2.1 72 = .ok (.getfield 28, 3) := by decide +kernel
theorem d_Re_read_75 : decode Y_Re_read.2.1 75 = .ok (.if_icmp .ge 20, 3) := by decide +kernel
theorem d_Re_read_78 : decode Y_Re_read.2.1 78 = .ok (.aload_n 0, 1) := by decide +kernel
theorem d_Re_read_79 : decode Y_Re_read.2.1 79 = .ok (.bipush 59, 2) := by decide +kernel
theorem d_Re_read_81 : decode Y_Re_read.2.1 81 = .ok (.invokevirtual 51, 3) := by decide +kernel
theorem d_Re_read_84 : decode Y_Re_read.2.1 84 = .ok (.aload_n 0, 1) := by decide +kernel
theorem d_Re_read_85 : decode Y_Re_read.2.1 85 = .ok (.iload_n 3, 1) := by decide +kernel
theorem d_Re_read_86 : decode Y_Re_read.2.1 86 = .ok (.invokevirtual 47, 3) := by decide +kernel
theorem d_Re_read_89 : decode Y_Re_read.2.1 89 = .ok (.iinc 3 1, 3) := by decide +kernel
theorem d_Re_read_92 : decode Y_Re_read.2.1 92 = .ok (.goto (-38), 3) := by decide +kernel
theorem d_Re_read_95 : decode Y_Re_read.2.1 95 = .ok (.aload_n 0, 1) := by decide +kernel
theorem d_Re_read_96 : decode Y_Re_read.2.1 96 = .ok (.getfield 44, 3) := by decide +kernel
theorem d_Re_read_99 : decode Y_Re_read.2.1 99 = .ok (.ireturn, 1) := by decide +kernel
theorem d_Re_exchange_0 : decode Y_Re_exchange.2.1 0 = .ok (.aload_n 0, 1) := by decide +kernel
theorem d_Re_exchange_1 : decode Y_Re_exchange.2.1 1 = .ok (.getfield 18, 3) := by decide +kernel
theorem d_Re_exchange_4 : decode Y_Re_exchange.2.1 4 = .ok (.astore_n 2, 1) := by decide +kernel
theorem d_Re_exchange_5 : decode Y_Re_exchange.2.1 5 = .ok (.aload_n 0, 1) := by decide +kernel
theorem d_Re_exchange_6 : decode Y_Re_exchange.2.1 6 = .ok (.aload_n 1, 1) := by decide +kernel
theorem d_Re_exchange_7 : decode Y_Re_exchange.2.1 7 = .ok (.putfield 18, 3) := by decide +kernel
theorem d_Re_exchange_10 : decode Y_Re_exchange.2.1 10 = .ok (.aload_n 2, 1) := by decide +kernel
theorem d_Re_exchange_11 : decode Y_Re_exchange.2.1 11 = .ok (.areturn, 1) := by decide +kernel
theorem d_X_text_0 : decode Y_X_text.2.1 0 = .ok (.iload_n 1, 1) := by decide +kernel
theorem d_X_text_1 : decode Y_X_text.2.1 1 = .ok (.iconst 1, 1) := by decide +kernel
theorem d_X_text_2 : decode Y_X_text.2.1 2 = .ok (.if_icmp .lt 21, 3) := by decide +kernel
theorem d_X_text_5 : decode Y_X_text.2.1 5 = .ok (.iload_n 1, 1) := by decide +kernel
theorem d_X_text_6 : decode Y_X_text.2.1 6 = .ok (.sipush 200, 3) := by decide +kernel
theorem d_X_text_9 : decode Y_X_text.2.1 9 = .ok (.if_icmp .gt 14, 3) := by decide +kernel
theorem d_X_text_12 : decode Y_X_text.2.1 12 = .ok (.iload_n 1, 1) := by decide +kernel
theorem d_X_text_13 : decode Y_X_text.2.1 13 = .ok (.aload_n 0, 1) := by decide +kernel
theorem d_X_text_14 : decode Y_X_text.2.1 14 = .ok (.getfield 62, 3) := by decide +kernel
theorem d_X_text_17 : decode Y_X_text.2.1 17 = .ok (.getfield 206, 3) := by decide +kernel
theorem d_X_text_20 : decode Y_X_text.2.1 20 = .ok (.if_icmp .le 5, 3) := by decide +kernel
theorem d_X_text_23 : decode Y_X_text.2.1 23 = .ok (.iconst (-1), 1) := by decide +kernel
theorem d_X_text_24 : decode Y_X_text.2.1 24 = .ok (.ireturn, 1) := by decide +kernel
theorem d_X_text_25 : decode Y_X_text.2.1 25 = .ok (.aload_n 0, 1) := by decide +kernel
theorem d_X_text_26 : decode Y_X_text.2.1 26 = .ok (.getfield 69, 3) := by decide +kernel
theorem d_X_text_29 : decode Y_X_text.2.1 29 = .ok (.aload_n 0, 1) := by decide +kernel
theorem d_X_text_30 : decode Y_X_text.2.1 30 = .ok (.getfield 62, 3) := by decide +kernel
theorem d_X_text_33 : decode Y_X_text.2.1 33 = .ok (.getfield 209, 3) := by decide +kernel
theorem d_X_text_36 : decode Y_X_text.2.1 36 = .ok (.iload_n 1, 1) := by decide +kernel
theorem d_X_text_37 : decode Y_X_text.2.1 37 = .ok (.invokevirtual 212, 3) := by decide +kernel
theorem d_X_text_40 : decode Y_X_text.2.1 40 = .ok (.istore_n 2, 1) := by decide +kernel
theorem d_X_text_41 : decode Y_X_text.2.1 41 = .ok (.aload_n 0, 1) := by decide +kernel
theorem d_X_text_42 : decode Y_X_text.2.1 42 = .ok (.getfield 62, 3) := by decide +kernel
theorem d_X_text_45 : decode Y_X_text.2.1 45 = .ok (.iconst 0, 1) := by decide +kernel
theorem d_X_text_46 : decode Y_X_text.2.1 46 = .ok (.putfield 206, 3) := by decide +kernel
theorem d_X_text_49 : decode Y_X_text.2.1 49 = .ok (.iload_n 2, 1) := by decide +kernel
theorem d_X_text_50 : decode Y_X_text.2.1 50 = .ok (.ifCond .eq 6, 3) := by decide +kernel
theorem d_X_text_53 : decode Y_X_text.2.1 53 = .ok (.iload_n 2, 1) := by decide +kernel
theorem d_X_text_54 : decode Y_X_text.2.1 54 = .ok (.ineg, 1) := by decide +kernel
theorem d_X_text_55 : decode Y_X_text.2.1 55 = .ok (.ireturn, 1) := by decide +kernel
theorem d_X_text_56 : decode Y_X_text.2.1 56 = .ok (.aload_n 0, 1) := by decide +kernel
theorem d_X_text_57 : decode Y_X_text.2.1 57 = .ok (.getfield 21, 3) := by decide +kernel
theorem d_X_text_60 : decode Y_X_text.2.1 60 = .ok (.aload_n 0, 1) := by decide +kernel
theorem d_X_text_61 : decode Y_X_text.2.1 61 = .ok (.getfield 69, 3) := by decide +kernel
theorem d_X_text_64 : decode Y_X_text.2.1 64 = .ok (.aload_n 0, 1) := by decide +kernel
theorem d_X_text_65 : decode Y_X_text.2.1 65 = .ok (.getfield 21, 3) := by decide +kernel
theorem d_X_text_68 : decode Y_X_text.2.1 68 = .ok (.getfield 216, 3) := by decide +kernel
theorem d_X_text_71 : decode Y_X_text.2.1 71 = .ok (.invokevirtual 220, 3) := by decide +kernel
theorem d_X_text_74 : decode Y_X_text.2.1 74 = .ok (.putfield 216, 3) := by decide +kernel
theorem d_X_text_77 : decode Y_X_text.2.1 77 = .ok (.aload_n 0, 1) := by decide +kernel
theorem d_X_text_78 : decode Y_X_text.2.1 78 = .ok (.invokevirtual 88, 3) := by decide +kernel
theorem d_X_text_81 : decode Y_X_text.2.1 81 = .ok (.pop, 1) := by decide +kernel
theorem d_X_text_82 : decode Y_X_text.2.1 82 = .ok (.aload_n 0, 1) := by decide +kernel
theorem d_X_text_83 : decode Y_X_text.2.1 83 = .ok (.getfield 21, 3) := by decide +kernel
theorem d_X_text_86 : decode Y_X_text.2.1 86 = .ok (.getfield 216, 3) := by decide +kernel
theorem d_X_text_89 : decode Y_X_text.2.1 89 = .ok (.getfield 224, 3) := by decide +kernel
theorem d_X_text_92 : decode Y_X_text.2.1 92 = .ok (.ireturn, 1) := by decide +kernel
theorem d_M_isGood_0 : decode Y_M_isGood.2.1 0 = .ok (.aload_n 0, 1) := by decide +kernel
theorem d_M_isGood_1 : decode Y_M_isGood.2.1 1 = .ok (.getfield 317, 3) := by decide +kernel
theorem d_M_isGood_4 : decode Y_M_isGood.2.1 4 = .ok (.ifCond .ne 7, 3) := by decide +kernel
theorem d_M_isGood_7 : decode Y_M_isGood.2.1 7 = .ok (.iconst 1, 1) := by decide +kernel
theorem d_M_isGood_8 : decode Y_M_isGood.2.1 8 = .ok (.goto 4, 3) := by decide +kernel
theorem d_M_isGood_11 : decode Y_M_isGood.2.1 11 = .ok (.iconst 0, 1) := by decide +kernel
theorem d_M_isGood_12 : decode Y_M_isGood.2.1 12 = .ok (.ireturn, 1) := by decide +kernel
theorem d_M_here_0 : decode Y_M_here.2.1 0 = .ok (.aload_n 0, 1) := by decide +kernel
theorem d_M_here_1 : decode Y_M_here.2.1 1 = .ok (.getfield 311, 3) := by decide +kernel
theorem d_M_here_4 : decode Y_M_here.2.1 4 = .ok (.aload_n 0, 1) := by decide +kernel
theorem d_M_here_5 : decode Y_M_here.2.1 5 = .ok (.getfield 314, 3) := by decide +kernel
theorem d_M_here_8 : decode Y_M_here.2.1 8 = .ok (.if_icmp .ge 19, 3) := by decide +kernel
theorem d_M_here_11 : decode Y_M_here.2.1 11 = .ok (.aload_n 0, 1) := by decide +kernel
theorem d_M_here_12 : decode Y_M_here.2.1 12 = .ok (.getfield 7, 3) := by decide +kernel
theorem d_M_here_15 : decode Y_M_here.2.1 15 = .ok (.aload_n 0, 1) := by decide +kernel
theorem d_M_here_16 : decode Y_M_here.2.1 16 = .ok (.getfield 311, 3) := by decide +kernel
theorem d_M_here_19 : decode Y_M_here.2.1 19 = .ok (.baload, 1) := by decide +kernel
theorem d_M_here_20 : decode Y_M_here.2.1 20 = .ok (.sipush 255, 3) := by decide +kernel
theorem d_M_here_23 : decode Y_M_here.2.1 23 = .ok (.iand, 1) := by decide +kernel
theorem d_M_here_24 : decode Y_M_here.2.1 24 = .ok (.goto 4, 3) := by decide +kernel
theorem d_M_here_27 : decode Y_M_here.2.1 27 = .ok (.iconst 0, 1) := by decide +kernel
theorem d_M_here_28 : decode Y_M_here.2.1 28 = .ok (.ireturn, 1) := by decide +kernel
theorem d_M_wrongs_0 : decode Y_M_wrongs.2.1 0 = .ok (.aload_n 0, 1) := by decide +kernel
theorem d_M_wrongs_1 : decode Y_M_wrongs.2.1 1 = .ok (.aload_n 0, 1) := by decide +kernel
theorem d_M_wrongs_2 : decode Y_M_wrongs.2.1 2 = .ok (.getfield 317, 3) := by decide +kernel
theorem d_M_wrongs_5 : decode Y_M_wrongs.2.1 5 = .ok (.ifCond .ge 10, 3) := by decide +kernel
theorem d_M_wrongs_8 : decode Y_M_wrongs.2.1 8 = .ok (.aload_n 0, 1) := by decide +kernel
theorem d_M_wrongs_9 : decode Y_M_wrongs.2.1 9 = .ok (.getfield 317, 3) := by decide +kernel
theorem d_M_wrongs_12 : decode Y_M_wrongs.2.1 12 = .ok (.goto 10, 3) := by decide +kernel
theorem d_M_wrongs_15 : decode Y_M_wrongs.2.1 15 = .ok (.sipush (-1000), 3) := by decide +kernel
theorem d_M_wrongs_18 : decode Y_M_wrongs.2.1 18 = .ok (.iload_n 1, 1) := by decide +kernel
theorem d_M_wrongs_19 : decode Y_M_wrongs.2.1 19 = .ok (.imul, 1) := by decide +kernel
theorem d_M_wrongs_20 : decode Y_M_wrongs.2.1 20 = .ok (.iload_n 2, 1) := by decide +kernel
theorem d_M_wrongs_21 : decode Y_M_wrongs.2.1 21 = .ok (.isub, 1) := by decide +kernel
theorem d_M_wrongs_22 : decode Y_M_wrongs.2.1 22 = .ok (.putfield 317, 3) := by decide +kernel
theorem d_M_wrongs_25 : decode Y_M_wrongs.2.1 25 = .ok (.return_, 1) := by decide +kernel
theorem d_M_puts_0 : decode Y_M_puts.2.1 0 = .ok (.aload_n 0, 1) := by decide +kernel
theorem d_M_puts_1 : decode Y_M_puts.2.1 1 = .ok (.getfield 107, 3) := by decide +kernel
theorem d_M_puts_4 : decode Y_M_puts.2.1 4 = .ok (.aload_n 0, 1) := by decide +kernel
theorem d_M_puts_5 : decode Y_M_puts.2.1 5 = .ok (.getfield 327, 3) := by decide +kernel
theorem d_M_puts_8 : decode Y_M_puts.2.1 8 = .ok (.iload_n 1, 1) := by decide +kernel
theorem d_M_puts_9 : decode Y_M_puts.2.1 9 = .ok (.iastore, 1) := by decide +kernel
theorem d_M_puts_10 : decode Y_M_puts.2.1 10 = .ok (.aload_n 0, 1) := by decide +kernel
theorem d_M_puts_11 : decode Y_M_puts.2.1 11 = .ok (.dup, 1) := by decide +kernel
theorem d_M_puts_12 : decode Y_M_puts.2.1 12 = .ok (.getfield 327, 3) := by decide +kernel
theorem d_M_puts_15 : decode Y_M_puts.2.1 15 = .ok (.iconst 1, 1) := by decide +kernel
theorem d_M_puts_16 : decode Y_M_puts.2.1 16 = .ok (.iadd, 1) := by decide +kernel
theorem d_M_puts_17 : decode Y_M_puts.2.1 17 = .ok (.putfield 327, 3) := by decide +kernel
theorem d_M_puts_20 : decode Y_M_puts.2.1 20 = .ok (.aload_n 0, 1) := by decide +kernel
theorem d_M_puts_21 : decode Y_M_puts.2.1 21 = .ok (.dup, 1) := by decide +kernel
theorem d_M_puts_22 : decode Y_M_puts.2.1 22 = .ok (.getfield 311, 3) := by decide +kernel
theorem d_M_puts_25 : decode Y_M_puts.2.1 25 = .ok (.iconst 1, 1) := by decide +kernel
theorem d_M_puts_26 : decode Y_M_puts.2.1 26 = .ok (.iadd, 1) := by decide +kernel
theorem d_M_puts_27 : decode Y_M_puts.2.1 27 = .ok (.putfield 311, 3) := by decide +kernel
theorem d_M_puts_30 : decode Y_M_puts.2.1 30 = .ok (.return_, 1) := by decide +kernel
theorem d_M_opens_0 : decode Y_M_opens.2.1 0 = .ok (.aload_n 0, 1) := by decide +kernel
theorem d_M_opens_1 : decode Y_M_opens.2.1 1 = .ok (.getfield 330, 3) := by decide +kernel
theorem d_M_opens_4 : decode Y_M_opens.2.1 4 = .ok (.bipush 6, 2) := by decide +kernel
theorem d_M_opens_6 : decode Y_M_opens.2.1 6 = .ok (.if_icmp .ne 12, 3) := by decide +kernel
theorem d_M_opens_9 : decode Y_M_opens.2.1 9 = .ok (.aload_n 0, 1) := by decide +kernel
theorem d_M_opens_10 : decode Y_M_opens.2.1 10 = .ok (.iconst 5, 1) := by decide +kernel
theorem d_M_opens_11 : decode Y_M_opens.2.1 11 = .ok (.aload_n 0, 1) := by decide +kernel
theorem d_M_opens_12 : decode Y_M_opens.2.1 12 = .ok (.getfield 311, 3) := by decide +kernel
theorem d_M_opens_15 : decode Y_M_opens.2.1 15 = .ok (.invokevirtual 333, 3) := by decide +kernel
theorem d_M_opens_18 : decode Y_M_opens.2.1 18 = .ok (.aload_n 0, 1) := by decide +kernel
theorem d_M_opens_19 : decode Y_M_opens.2.1 19 = .ok (.dup, 1) := by decide +kernel
theorem d_M_opens_20 : decode Y_M_opens.2.1 20 = .ok (.getfield 330, 3) := by decide +kernel
theorem d_M_opens_23 : decode Y_M_opens.2.1 23 = .ok (.iconst 1, 1) := by decide +kernel
theorem d_M_opens_24 : decode Y_M_opens.2.1 24 = .ok (.iadd, 1) := by decide +kernel
theorem d_M_opens_25 : decode Y_M_opens.2.1 25 = .ok (.putfield 330, 3) := by decide +kernel
theorem d_M_opens_28 : decode Y_M_opens.2.1 28 = .ok (.aload_n 0, 1) := by decide +kernel
theorem d_M_opens_29 : decode Y_M_opens.2.1 29 = .ok (.aload_n 0, 1) := by decide +kernel
theorem d_M_opens_30 : decode Y_M_opens.2.1 30 = .ok (.invokevirtual 336, 3) := by decide +kernel
theorem d_M_opens_33 : decode Y_M_opens.2.1 33 = .ok (.invokevirtual 339, 3) := by decide +kernel
theorem d_M_opens_36 : decode Y_M_opens.2.1 36 = .ok (.return_, 1) := by decide +kernel
theorem d_M_seesDigit_0 : decode Y_M_seesDigit.2.1 0 = .ok (.aload_n 0, 1) := by decide +kernel
theorem d_M_seesDigit_1 : decode Y_M_seesDigit.2.1 1 = .ok (.invokevirtual 336, 3) := by decide +kernel
theorem d_M_seesDigit_4 : decode Y_M_seesDigit.2.1 4 = .ok (.i2l, 1) := by decide +kernel
theorem d_M_seesDigit_5 : decode Y_M_seesDigit.2.1 5 = .ok (.ldc2_w 342, 3) := by decide +kernel
theorem d_M_seesDigit_8 : decode Y_M_seesDigit.2.1 8 = .ok (.ldc2_w 344, 3) := by decide +kernel
theorem d_M_seesDigit_11 : decode Y_M_seesDigit.2.1 11 = .ok (.invokestatic 145, 3) := by decide +kernel
theorem d_M_seesDigit_14 : decode Y_M_seesDigit.2.1 14 = .ok (.ireturn, 1) := by decide +kernel
theorem d_M_reads_0 : decode Y_M_reads.2.1 0 = .ok (.aload_n 0, 1) := by decide +kernel
theorem d_M_reads_1 : decode Y_M_reads.2.1 1 = .ok (.getfield 311, 3) := by decide +kernel
theorem d_M_reads_4 : decode Y_M_reads.2.1 4 = .ok (.istore_n 1, 1) := by decide +kernel
theorem d_M_reads_5 : decode Y_M_reads.2.1 5 = .ok (.iconst 0, 1) := by decide +kernel
theorem d_M_reads_6 : decode Y_M_reads.2.1 6 = .ok (.istore_n 2, 1) := by decide +kernel
theorem d_M_reads_7 : decode Y_M_reads.2.1 7 = .ok (.aload_n 0, 1) := by decide +kernel
theorem d_M_reads_8 : decode Y_M_reads.2.1 8 = .ok (.invokevirtual 320, 3) := by decide +kernel
theorem d_M_reads_11 : decode Y_M_reads.2.1 11 = .ok (.ifCond .eq 55, 3) := by decide +kernel
theorem d_M_reads_14 : decode Y_M_reads.2.1 14 = .ok (.aload_n 0, 1) := by decide +kernel
theorem d_M_reads_15 : decode Y_M_reads.2.1 15 = .ok (.invokevirtual 346, 3) := by decide +kernel
theorem d_M_reads_18 : decode Y_M_reads.2.1 18 = .ok (.ifCond .eq 48, 3) := by decide +kernel
theorem d_M_reads_21 : decode Y_M_reads.2.1 21 = .ok (.aload_n 0, 1) := by decide +kernel
theorem d_M_reads_22 : decode Y_M_reads.2.1 22 = .ok (.getfield 311, 3) := by decide +kernel
theorem d_M_reads_25 : decode Y_M_reads.2.1 25 = .ok (.iload_n 1, 1) := by decide +kernel
theorem d_M_reads_26 : decode Y_M_reads.2.1 26 = .ok (.iconst 5, 1) := by decide +kernel
theorem d_M_reads_27 : decode Y_M_reads.2.1 27 = .ok (.iadd, 1) := by decide +kernel
theorem d_M_reads_28 : decode Y_M_reads.2.1 28 = .ok (.if_icmp .ne 12, 3) := by decide +kernel
theorem d_M_reads_31 : decode Y_M_reads.2.1 31 = .ok (.aload_n 0, 1) := by decide +kernel
theorem d_M_reads_32 : decode Y_M_reads.2.1 32 = .ok (.iconst 2, 1) := by decide +kernel
theorem d_M_reads_33 : decode Y_M_reads.2.1 33 = .ok (.aload_n 0, 1) := by decide +kernel
theorem d_M_reads_34 : decode Y_M_reads.2.1 34 = .ok (.getfield 311, 3) := by decide +kernel
theorem d_M_reads_37 : decode Y_M_reads.2.1 37 = .ok (.invokevirtual 333, 3) := by decide +kernel
theorem d_M_reads_40 : decode Y_M_reads.2.1 40 = .ok (.bipush 10, 2) := by decide +kernel
theorem d_M_reads_42 : decode Y_M_reads.2.1 42 = .ok (.iload_n 2, 1) := by decide +kernel
theorem d_M_reads_43 : decode Y_M_reads.2.1 43 = .ok (.imul, 1) := by decide +kernel
theorem d_M_reads_44 : decode Y_M_reads.2.1 44 = .ok (.aload_n 0, 1) := by decide +kernel
theorem d_M_reads_45 : decode Y_M_reads.2.1 45 = .ok (.invokevirtual 336, 3) := by decide +kernel
theorem d_M_reads_48 : decode Y_M_reads.2.1 48 = .ok (.iadd, 1) := by decide +kernel
theorem d_M_reads_49 : decode Y_M_reads.2.1 49 = .ok (.bipush 48, 2) := by decide +kernel
theorem d_M_reads_51 : decode Y_M_reads.2.1 51 = .ok (.isub, 1) := by decide +kernel
theorem d_M_reads_52 : decode Y_M_reads.2.1 52 = .ok (.istore_n 2, 1) := by decide +kernel
theorem d_M_reads_53 : decode Y_M_reads.2.1 53 = .ok (.aload_n 0, 1) := by decide +kernel
theorem d_M_reads_54 : decode Y_M_reads.2.1 54 = .ok (.dup, 1) := by decide +kernel
theorem d_M_reads_55 : decode Y_M_reads.2.1 55 = .ok (.getfield 311, 3) := by decide +kernel
theorem d_M_reads_58 : decode Y_M_reads.2.1 58 = .ok (.iconst 1, 1) := by decide +kernel
theorem d_M_reads_59 : decode Y_M_reads.2.1 59 = .ok (.iadd, 1) := by decide +kernel
theorem d_M_reads_60 : decode Y_M_reads.2.1 60 = .ok (.putfield 311, 3) := by decide +kernel
theorem d_M_reads_63 : decode Y_M_reads.2.1 63 = .ok (.goto (-56), 3) := by decide +kernel
theorem d_M_reads_66 : decode Y_M_reads.2.1 66 = .ok (.iload_n 2, 1) := by decide +kernel
theorem d_M_reads_67 : decode Y_M_reads.2.1 67 = .ok (.ireturn, 1) := by decide +kernel
theorem d_M_emit_0 : decode Y_M_emit.2.1 0 = .ok (.aload_n 0, 1) := by decide +kernel
theorem d_M_emit_1 : decode Y_M_emit.2.1 1 = .ok (.invokevirtual 320, 3) := by decide +kernel
theorem d_M_emit_4 : decode Y_M_emit.2.1 4 = .ok (.ifCond .ne 4, 3) := by decide +kernel
theorem d_M_emit_7 : decode Y_M_emit.2.1 7 = .ok (.return_, 1) := by decide +kernel
theorem d_M_emit_8 : decode Y_M_emit.2.1 8 = .ok (.aload_n 0, 1) := by decide +kernel
theorem d_M_emit_9 : decode Y_M_emit.2.1 9 = .ok (.getfield 101, 3) := by decide +kernel
theorem d_M_emit_12 : decode Y_M_emit.2.1 12 = .ok (.aload_n 0, 1) := by decide +kernel
theorem d_M_emit_13 : decode Y_M_emit.2.1 13 = .ok (.getfield 324, 3) := by decide +kernel
theorem d_M_emit_16 : decode Y_M_emit.2.1 16 = .ok (.iload_n 1, 1) := by decide +kernel
theorem d_M_emit_17 : decode Y_M_emit.2.1 17 = .ok (.iastore, 1) := by decide +kernel
theorem d_M_emit_18 : decode Y_M_emit.2.1 18 = .ok (.aload_n 0, 1) := by decide +kernel
theorem d_M_emit_19 : decode Y_M_emit.2.1 19 = .ok (.getfield 104, 3) := by decide +kernel
theorem d_M_emit_22 : decode Y_M_emit.2.1 22 = .ok (.aload_n 0, 1) := by decide +kernel
theorem d_M_emit_23 : decode Y_M_emit.2.1 23 = .ok (.getfield 324, 3) := by decide +kernel
theorem d_M_emit_26 : decode Y_M_emit.2.1 26 = .ok (.iload_n 2, 1) := by decide +kernel
theorem d_M_emit_27 : decode Y_M_emit.2.1 27 = .ok (.iastore, 1) := by decide +kernel
theorem d_M_emit_28 : decode Y_M_emit.2.1 28 = .ok (.aload_n 0, 1) := by decide +kernel
theorem d_M_emit_29 : decode Y_M_emit.2.1 29 = .ok (.dup, 1) := by decide +kernel
theorem d_M_emit_30 : decode Y_M_emit.2.1 30 = .ok (.getfield 324, 3) := by decide +kernel
theorem d_M_emit_33 : decode Y_M_emit.2.1 33 = .ok (.iconst 1, 1) := by decide +kernel
theorem d_M_emit_34 : decode Y_M_emit.2.1 34 = .ok (.iadd, 1) := by decide +kernel
theorem d_M_emit_35 : decode Y_M_emit.2.1 35 = .ok (.putfield 324, 3) := by decide +kernel
theorem d_M_emit_38 : decode Y_M_emit.2.1 38 = .ok (.return_, 1) := by decide +kernel
theorem d_M_isValue_0 : decode Y_M_isValue.2.1 0 = .ok (.iload_n 0, 1) := by decide +kernel
theorem d_M_isValue_1 : decode Y_M_isValue.2.1 1 = .ok (.bipush 98, 2) := by decide +kernel
theorem d_M_isValue_3 : decode Y_M_isValue.2.1 3 = .ok (.if_icmp .eq 69, 3) := by decide +kernel
theorem d_M_isValue_6 : decode Y_M_isValue.2.1 6 = .ok (.iload_n 0, 1) := by decide +kernel
theorem d_M_isValue_7 : decode Y_M_isValue.2.1 7 = .ok (.bipush 118, 2) := by decide +kernel
theorem d_M_isValue_9 : decode Y_M_isValue.2.1 9 = .ok (.if_icmp .eq 63, 3) := by decide +kernel
theorem d_M_isValue_12 : decode Y_M_isValue.2.1 12 = .ok (.iload_n 0, 1) := by decide +kernel
theorem d_M_isValue_13 : decode Y_M_isValue.2.1 13 = .ok (.bipush 105, 2) := by decide +kernel
theorem d_M_isValue_15 : decode Y_M_isValue.2.1 15 = .ok (.if_icmp .eq 57, 3) := by decide +kernel
theorem d_M_isValue_18 : decode Y_M_isValue.2.1 18 = .ok (.iload_n 0, 1) := by decide +kernel
theorem d_M_isValue_19 : decode Y_M_isValue.2.1 19 = .ok (.bipush 107, 2) := by decide +kernel
theorem d_M_isValue_21 : decode Y_M_isValue.2.1 21 = .ok (.if_icmp .eq 51, 3) := by decide +kernel
theorem d_M_isValue_24 : decode Y_M_isValue.2.1 24 = .ok (.iload_n 0, 1) := by decide +kernel
theorem d_M_isValue_25 : decode Y_M_isValue.2.1 25 = .ok (.bipush 102, 2) := by decide +kernel
theorem d_M_isValue_27 : decode Y_M_isValue.2.1 27 = .ok (.if_icmp .eq 45, 3) := by decide +kernel
theorem d_M_isValue_30 : decode Y_M_isValue.2.1 30 = .ok (.iload_n 0, 1) := by decide +kernel
theorem d_M_isValue_31 : decode Y_M_isValue.2.1 31 = .ok (.bipush 104, 2) := by decide +kernel
theorem d_M_isValue_33 : decode Y_M_isValue.2.1 33 = .ok (.if_icmp .eq 39, 3) := by decide +kernel
theorem d_M_isValue_36 : decode Y_M_isValue.2.1 36 = .ok (.iload_n 0, 1) := by decide +kernel
theorem d_M_isValue_37 : decode Y_M_isValue.2.1 37 = .ok (.bipush 106, 2) := by decide +kernel
theorem d_M_isValue_39 : decode Y_M_isValue.2.1 39 = .ok (.if_icmp .eq 33, 3) := by decide +kernel
theorem d_M_isValue_42 : decode Y_M_isValue.2.1 42 = .ok (.iload_n 0, 1) := by decide +kernel
theorem d_M_isValue_43 : decode Y_M_isValue.2.1 43 = .ok (.bipush 117, 2) := by decide +kernel
theorem d_M_isValue_45 : decode Y_M_isValue.2.1 45 = .ok (.if_icmp .eq 27, 3) := by decide +kernel
theorem d_M_isValue_48 : decode Y_M_isValue.2.1 48 = .ok (.iload_n 0, 1) := by decide +kernel
theorem d_M_isValue_49 : decode Y_M_isValue.2.1 49 = .ok (.bipush 114, 2) := by decide +kernel
theorem d_M_isValue_51 : decode Y_M_isValue.2.1 51 = .ok (.if_icmp .eq 21, 3) := by decide +kernel
theorem d_M_isValue_54 : decode Y_M_isValue.2.1 54 = .ok (.iload_n 0, 1) := by decide +kernel
theorem d_M_isValue_55 : decode Y_M_isValue.2.1 55 = .ok (.bipush 110, 2) := by decide +kernel
theorem d_M_isValue_57 : decode Y_M_isValue.2.1 57 = .ok (.if_icmp .eq 15, 3) := by decide +kernel
theorem d_M_isValue_60 : decode Y_M_isValue.2.1 60 = .ok (.iload_n 0, 1) := by decide +kernel
theorem d_M_isValue_61 : decode Y_M_isValue.2.1 61 = .ok (.bipush 111, 2) := by decide +kernel
theorem d_M_isValue_63 : decode Y_M_isValue.2.1 63 = .ok (.if_icmp .eq 9, 3) := by decide +kernel
theorem d_M_isValue_66 : decode Y_M_isValue.2.1 66 = .ok (.iload_n 0, 1) := by decide +kernel
theorem d_M_isValue_67 : decode Y_M_isValue.2.1 67 = .ok (.bipush 120, 2) := by decide +kernel
theorem d_M_isValue_69 : decode Y_M_isValue.2.1 69 = .ok (.if_icmp .ne 7, 3) := by decide +kernel
theorem d_M_isValue_72 : decode Y_M_isValue.2.1 72 = .ok (.iconst 1, 1) := by decide +kernel
theorem d_M_isValue_73 : decode Y_M_isValue.2.1 73 = .ok (.goto 4, 3) := by decide +kernel
theorem d_M_isValue_76 : decode Y_M_isValue.2.1 76 = .ok (.iconst 0, 1) := by decide +kernel
theorem d_M_isValue_77 : decode Y_M_isValue.2.1 77 = .ok (.ireturn, 1) := by decide +kernel
theorem d_M_factor_0 : decode Y_M_factor.2.1 0 = .ok (.aload_n 0, 1) := by decide +kernel
theorem d_M_factor_1 : decode Y_M_factor.2.1 1 = .ok (.invokevirtual 320, 3) := by decide +kernel
theorem d_M_factor_4 : decode Y_M_factor.2.1 4 = .ok (.ifCond .eq 19, 3) := by decide +kernel
theorem d_M_factor_7 : decode Y_M_factor.2.1 7 = .ok (.aload_n 0, 1) := by decide +kernel
theorem d_M_factor_8 : decode Y_M_factor.2.1 8 = .ok (.invokevirtual 336, 3) := by decide +kernel
theorem d_M_factor_11 : decode Y_M_factor.2.1 11 = .ok (.bipush 91, 2) := by decide +kernel
theorem d_M_factor_13 : decode Y_M_factor.2.1 13 = .ok (.if_icmp .ne 10, 3) := by decide +kernel
theorem d_M_factor_16 : decode Y_M_factor.2.1 16 = .ok (.aload_n 0, 1) := by decide +kernel
theorem d_M_factor_17 : decode Y_M_factor.2.1 17 = .ok (.invokevirtual 361, 3) := by decide +kernel
theorem d_M_factor_20 : decode Y_M_factor.2.1 20 = .ok (.goto (-20), 3) := by decide +kernel
theorem d_M_factor_23 : decode Y_M_factor.2.1 23 = .ok (.aload_n 0, 1) := by decide +kernel
theorem d_M_factor_24 : decode Y_M_factor.2.1 24 = .ok (.invokevirtual 320, 3) := by decide +kernel
theorem d_M_factor_27 : decode Y_M_factor.2.1 27 = .ok (.ifCond .ne 4, 3) := by decide +kernel
theorem d_M_factor_30 : decode Y_M_factor.2.1 30 = .ok (.return_, 1) := by decide +kernel
theorem d_M_factor_31 : decode Y_M_factor.2.1 31 = .ok (.aload_n 0, 1) := by decide +kernel
theorem d_M_factor_32 : decode Y_M_factor.2.1 32 = .ok (.invokevirtual 346, 3) := by decide +kernel
theorem d_M_factor_35 : decode Y_M_factor.2.1 35 = .ok (.ifCond .eq 15, 3) := by decide +kernel
theorem d_M_factor_38 : decode Y_M_factor.2.1 38 = .ok (.aload_n 0, 1) := by decide +kernel
theorem d_M_factor_39 : decode Y_M_factor.2.1 39 = .ok (.iconst 0, 1) := by decide +kernel
theorem d_M_factor_40 : decode Y_M_factor.2.1 40 = .ok (.aload_n 0, 1) := by decide +kernel
theorem d_M_factor_41 : decode Y_M_factor.2.1 41 = .ok (.invokevirtual 364, 3) := by decide +kernel
theorem d_M_factor_44 : decode Y_M_factor.2.1 44 = .ok (.invokevirtual 358, 3) := by decide +kernel
theorem d_M_factor_47 : decode Y_M_factor.2.1 47 = .ok (.goto 44, 3) := by decide +kernel
theorem d_M_factor_50 : decode Y_M_factor.2.1 50 = .ok (.aload_n 0, 1) := by decide +kernel
theorem d_M_factor_51 : decode Y_M_factor.2.1 51 = .ok (.invokevirtual 336, 3) := by decide +kernel
theorem d_M_factor_54 : decode Y_M_factor.2.1 54 = .ok (.invokestatic 367, 3) := by decide +kernel
theorem d_M_factor_57 : decode Y_M_factor.2.1 57 = .ok (.ifCond .eq 25, 3) := by decide +kernel
theorem d_M_factor_60 : decode Y_M_factor.2.1 60 = .ok (.aload_n 0, 1) := by decide +kernel
theorem d_M_factor_61 : decode Y_M_factor.2.1 61 = .ok (.iconst 1, 1) := by decide +kernel
theorem d_M_factor_62 : decode Y_M_factor.2.1 62 = .ok (.aload_n 0, 1) := by decide +kernel
theorem d_M_factor_63 : decode Y_M_factor.2.1 63 = .ok (.invokevirtual 336, 3) := by decide +kernel
theorem d_M_factor_66 : decode Y_M_factor.2.1 66 = .ok (.invokevirtual 358, 3) := by decide +kernel
theorem d_M_factor_69 : decode Y_M_factor.2.1 69 = .ok (.aload_n 0, 1) := by decide +kernel
theorem d_M_factor_70 : decode Y_M_factor.2.1 70 = .ok (.dup, 1) := by decide +kernel
theorem d_M_factor_71 : decode Y_M_factor.2.1 71 = .ok (.getfield 311, 3) := by decide +kernel
theorem d_M_factor_74 : decode Y_M_factor.2.1 74 = .ok (.iconst 1, 1) := by decide +kernel
theorem d_M_factor_75 : decode Y_M_factor.2.1 75 = .ok (.iadd, 1) := by decide +kernel
theorem d_M_factor_76 : decode Y_M_factor.2.1 76 = .ok (.putfield 311, 3) := by decide +kernel
theorem d_M_factor_79 : decode Y_M_factor.2.1 79 = .ok (.goto 12, 3) := by decide +kernel
theorem d_M_factor_82 : decode Y_M_factor.2.1 82 = .ok (.aload_n 0, 1) := by decide +kernel
theorem d_M_factor_83 : decode Y_M_factor.2.1 83 = .ok (.iconst 1, 1) := by decide +kernel
theorem d_M_factor_84 : decode Y_M_factor.2.1 84 = .ok (.aload_n 0, 1) := by decide +kernel
theorem d_M_factor_85 : decode Y_M_factor.2.1 85 = .ok (.getfield 311, 3) := by decide +kernel
theorem d_M_factor_88 : decode Y_M_factor.2.1 88 = .ok (.invokevirtual 333, 3) := by decide +kernel
theorem d_M_factor_91 : decode Y_M_factor.2.1 91 = .ok (.return_, 1) := by decide +kernel
theorem d_M_isTimes_0 : decode Y_M_isTimes.2.1 0 = .ok (.iload_n 0, 1) := by decide +kernel
theorem d_M_isTimes_1 : decode Y_M_isTimes.2.1 1 = .ok (.bipush 42, 2) := by decide +kernel
theorem d_M_isTimes_3 : decode Y_M_isTimes.2.1 3 = .ok (.if_icmp .eq 15, 3) := by decide +kernel
theorem d_M_isTimes_6 : decode Y_M_isTimes.2.1 6 = .ok (.iload_n 0, 1) := by decide +kernel
theorem d_M_isTimes_7 : decode Y_M_isTimes.2.1 7 = .ok (.bipush 47, 2) := by decide +kernel
theorem d_M_isTimes_9 : decode Y_M_isTimes.2.1 9 = .ok (.if_icmp .eq 9, 3) := by decide +kernel
theorem d_M_isTimes_12 : decode Y_M_isTimes.2.1 12 = .ok (.iload_n 0, 1) := by decide +kernel
theorem d_M_isTimes_13 : decode Y_M_isTimes.2.1 13 = .ok (.bipush 37, 2) := by decide +kernel
theorem d_M_isTimes_15 : decode Y_M_isTimes.2.1 15 = .ok (.if_icmp .ne 7, 3) := by decide +kernel
theorem d_M_isTimes_18 : decode Y_M_isTimes.2.1 18 = .ok (.iconst 1, 1) := by decide +kernel
theorem d_M_isTimes_19 : decode Y_M_isTimes.2.1 19 = .ok (.goto 4, 3) := by decide +kernel
theorem d_M_isTimes_22 : decode Y_M_isTimes.2.1 22 = .ok (.iconst 0, 1) := by decide +kernel
theorem d_M_isTimes_23 : decode Y_M_isTimes.2.1 23 = .ok (.ireturn, 1) := by decide +kernel
theorem d_M_isPlus_0 : decode Y_M_isPlus.2.1 0 = .ok (.iload_n 0, 1) := by decide +kernel
theorem d_M_isPlus_1 : decode Y_M_isPlus.2.1 1 = .ok (.bipush 43, 2) := by decide +kernel
theorem d_M_isPlus_3 : decode Y_M_isPlus.2.1 3 = .ok (.if_icmp .eq 9, 3) := by decide +kernel
theorem d_M_isPlus_6 : decode Y_M_isPlus.2.1 6 = .ok (.iload_n 0, 1) := by decide +kernel
theorem d_M_isPlus_7 : decode Y_M_isPlus.2.1 7 = .ok (.bipush 45, 2) := by decide +kernel
theorem d_M_isPlus_9 : decode Y_M_isPlus.2.1 9 = .ok (.if_icmp .ne 7, 3) := by decide +kernel
theorem d_M_isPlus_12 : decode Y_M_isPlus.2.1 12 = .ok (.iconst 1, 1) := by decide +kernel
theorem d_M_isPlus_13 : decode Y_M_isPlus.2.1 13 = .ok (.goto 4, 3) := by decide +kernel
theorem d_M_isPlus_16 : decode Y_M_isPlus.2.1 16 = .ok (.iconst 0, 1) := by decide +kernel
theorem d_M_isPlus_17 : decode Y_M_isPlus.2.1 17 = .ok (.ireturn, 1) := by decide +kernel
theorem d_M_top_0 : decode Y_M_top.2.1 0 = .ok (.aload_n 0, 1) := by decide +kernel
theorem d_M_top_1 : decode Y_M_top.2.1 1 = .ok (.getfield 327, 3) := by decide +kernel
theorem d_M_top_4 : decode Y_M_top.2.1 4 = .ok (.ifCond .le 17, 3) := by decide +kernel
theorem d_M_top_7 : decode Y_M_top.2.1 7 = .ok (.aload_n 0, 1) := by decide +kernel
theorem d_M_top_8 : decode Y_M_top.2.1 8 = .ok (.getfield 107, 3) := by decide +kernel
theorem d_M_top_11 : decode Y_M_top.2.1 11 = .ok (.aload_n 0, 1) := by decide +kernel
theorem d_M_top_12 : decode Y_M_top.2.1 12 = .ok (.getfield 327, 3) := by decide +kernel
theorem d_M_top_15 : decode Y_M_top.2.1 15 = .ok (.iconst 1, 1) := by decide +kernel
theorem d_M_top_16 : decode Y_M_top.2.1 16 = .ok (.isub, 1) := by decide +kernel
theorem d_M_top_17 : decode Y_M_top.2.1 17 = .ok (.iaload, 1) := by decide +kernel
theorem d_M_top_18 : decode Y_M_top.2.1 18 = .ok (.goto 4, 3) := by decide +kernel
theorem d_M_top_21 : decode Y_M_top.2.1 21 = .ok (.iconst 0, 1) := by decide +kernel
theorem d_M_top_22 : decode Y_M_top.2.1 22 = .ok (.ireturn, 1) := by decide +kernel
theorem d_M_sums_0 : decode Y_M_sums.2.1 0 = .ok (.aload_n 0, 1) := by decide +kernel
theorem d_M_sums_1 : decode Y_M_sums.2.1 1 = .ok (.invokevirtual 349, 3) := by decide +kernel
theorem d_M_sums_4 : decode Y_M_sums.2.1 4 = .ok (.invokestatic 352, 3) := by decide +kernel
theorem d_M_sums_7 : decode Y_M_sums.2.1 7 = .ok (.ifCond .ne 17, 3) := by decide +kernel
theorem d_M_sums_10 : decode Y_M_sums.2.1 10 = .ok (.iload_n 1, 1) := by decide +kernel
theorem d_M_sums_11 : decode Y_M_sums.2.1 11 = .ok (.ifCond .eq 35, 3) := by decide +kernel
theorem d_M_sums_14 : decode Y_M_sums.2.1 14 = .ok (.aload_n 0, 1) := by decide +kernel
theorem d_M_sums_15 : decode Y_M_sums.2.1 15 = .ok (.invokevirtual 349, 3) := by decide +kernel
theorem d_M_sums_18 : decode Y_M_sums.2.1 18 = .ok (.invokestatic 355, 3) := by decide +kernel
theorem d_M_sums_21 : decode Y_M_sums.2.1 21 = .ok (.ifCond .eq 25, 3) := by decide +kernel
theorem d_M_sums_24 : decode Y_M_sums.2.1 24 = .ok (.aload_n 0, 1) := by decide +kernel
theorem d_M_sums_25 : decode Y_M_sums.2.1 25 = .ok (.aload_n 0, 1) := by decide +kernel
theorem d_M_sums_26 : decode Y_M_sums.2.1 26 = .ok (.invokevirtual 349, 3) := by decide +kernel
theorem d_M_sums_29 : decode Y_M_sums.2.1 29 = .ok (.iconst 0, 1) := by decide +kernel
theorem d_M_sums_30 : decode Y_M_sums.2.1 30 = .ok (.invokevirtual 358, 3) := by decide +kernel
theorem d_M_sums_33 : decode Y_M_sums.2.1 33 = .ok (.aload_n 0, 1) := by decide +kernel
theorem d_M_sums_34 : decode Y_M_sums.2.1 34 = .ok (.dup, 1) := by decide +kernel
theorem d_M_sums_35 : decode Y_M_sums.2.1 35 = .ok (.getfield 327, 3) := by decide +kernel
theorem d_M_sums_38 : decode Y_M_sums.2.1 38 = .ok (.iconst 1, 1) := by decide +kernel
theorem d_M_sums_39 : decode Y_M_sums.2.1 39 = .ok (.isub, 1) := by decide +kernel
theorem d_M_sums_40 : decode Y_M_sums.2.1 40 = .ok (.putfield 327, 3) := by decide +kernel
theorem d_M_sums_43 : decode Y_M_sums.2.1 43 = .ok (.goto (-43), 3) := by decide +kernel
theorem d_M_sums_46 : decode Y_M_sums.2.1 46 = .ok (.return_, 1) := by decide +kernel
theorem d_M_stays_0 : decode Y_M_stays.2.1 0 = .ok (.aload_n 0, 1) := by decide +kernel
theorem d_M_stays_1 : decode Y_M_stays.2.1 1 = .ok (.invokevirtual 336, 3) := by decide +kernel
theorem d_M_stays_4 : decode Y_M_stays.2.1 4 = .ok (.istore_n 1, 1) := by decide +kernel
theorem d_M_stays_5 : decode Y_M_stays.2.1 5 = .ok (.iload_n 1, 1) := by decide +kernel
theorem d_M_stays_6 : decode Y_M_stays.2.1 6 = .ok (.invokestatic 352, 3) := by decide +kernel
theorem d_M_stays_9 : decode Y_M_stays.2.1 9 = .ok (.ifCond .ne 10, 3) := by decide +kernel
theorem d_M_stays_12 : decode Y_M_stays.2.1 12 = .ok (.iload_n 1, 1) := by decide +kernel
theorem d_M_stays_13 : decode Y_M_stays.2.1 13 = .ok (.invokestatic 355, 3) := by decide +kernel
theorem d_M_stays_16 : decode Y_M_stays.2.1 16 = .ok (.ifCond .eq 18, 3) := by decide +kernel
theorem d_M_stays_19 : decode Y_M_stays.2.1 19 = .ok (.aload_n 0, 1) := by decide +kernel
theorem d_M_stays_20 : decode Y_M_stays.2.1 20 = .ok (.iload_n 1, 1) := by decide +kernel
theorem d_M_stays_21 : decode Y_M_stays.2.1 21 = .ok (.invokestatic 355, 3) := by decide +kernel
theorem d_M_stays_24 : decode Y_M_stays.2.1 24 = .ok (.invokevirtual 370, 3) := by decide +kernel
theorem d_M_stays_27 : decode Y_M_stays.2.1 27 = .ok (.aload_n 0, 1) := by decide +kernel
theorem d_M_stays_28 : decode Y_M_stays.2.1 28 = .ok (.iload_n 1, 1) := by decide +kernel
theorem d_M_stays_29 : decode Y_M_stays.2.1 29 = .ok (.invokevirtual 339, 3) := by decide +kernel
theorem d_M_stays_32 : decode Y_M_stays.2.1 32 = .ok (.iconst 1, 1) := by decide +kernel
theorem d_M_stays_33 : decode Y_M_stays.2.1 33 = .ok (.ireturn, 1) := by decide +kernel
theorem d_M_stays_34 : decode Y_M_stays.2.1 34 = .ok (.aload_n 0, 1) := by decide +kernel
theorem d_M_stays_35 : decode Y_M_stays.2.1 35 = .ok (.iconst 1, 1) := by decide +kernel
theorem d_M_stays_36 : decode Y_M_stays.2.1 36 = .ok (.invokevirtual 370, 3) := by decide +kernel
theorem d_M_stays_39 : decode Y_M_stays.2.1 39 = .ok (.iload_n 1, 1) := by decide +kernel
theorem d_M_stays_40 : decode Y_M_stays.2.1 40 = .ok (.bipush 93, 2) := by decide +kernel
theorem d_M_stays_42 : decode Y_M_stays.2.1 42 = .ok (.if_icmp .eq 5, 3) := by decide +kernel
theorem d_M_stays_45 : decode Y_M_stays.2.1 45 = .ok (.iconst 0, 1) := by decide +kernel
theorem d_M_stays_46 : decode Y_M_stays.2.1 46 = .ok (.ireturn, 1) := by decide +kernel
theorem d_M_stays_47 : decode Y_M_stays.2.1 47 = .ok (.aload_n 0, 1) := by decide +kernel
theorem d_M_stays_48 : decode Y_M_stays.2.1 48 = .ok (.invokevirtual 349, 3) := by decide +kernel
theorem d_M_stays_51 : decode Y_M_stays.2.1 51 = .ok (.bipush 91, 2) := by decide +kernel
theorem d_M_stays_53 : decode Y_M_stays.2.1 53 = .ok (.if_icmp .eq 14, 3) := by decide +kernel
theorem d_M_stays_56 : decode Y_M_stays.2.1 56 = .ok (.aload_n 0, 1) := by decide +kernel
theorem d_M_stays_57 : decode Y_M_stays.2.1 57 = .ok (.iconst 1, 1) := by decide +kernel
theorem d_M_stays_58 : decode Y_M_stays.2.1 58 = .ok (.aload_n 0, 1) := by decide +kernel
theorem d_M_stays_59 : decode Y_M_stays.2.1 59 = .ok (.getfield 311, 3) := by decide +kernel
theorem d_M_stays_62 : decode Y_M_stays.2.1 62 = .ok (.invokevirtual 333, 3) := by decide +kernel
theorem d_M_stays_65 : decode Y_M_stays.2.1 65 = .ok (.iconst 0, 1) := by decide +kernel
theorem d_M_stays_66 : decode Y_M_stays.2.1 66 = .ok (.ireturn, 1) := by decide +kernel
theorem d_M_stays_67 : decode Y_M_stays.2.1 67 = .ok (.aload_n 0, 1) := by decide +kernel
theorem d_M_stays_68 : decode Y_M_stays.2.1 68 = .ok (.dup, 1) := by decide +kernel
theorem d_M_stays_69 : decode Y_M_stays.2.1 69 = .ok (.getfield 327, 3) := by decide +kernel
theorem d_M_stays_72 : decode Y_M_stays.2.1 72 = .ok (.iconst 1, 1) := by decide +kernel
theorem d_M_stays_73 : decode Y_M_stays.2.1 73 = .ok (.isub, 1) := by decide +kernel
theorem d_M_stays_74 : decode Y_M_stays.2.1 74 = .ok (.putfield 327, 3) := by decide +kernel
theorem d_M_stays_77 : decode Y_M_stays.2.1 77 = .ok (.aload_n 0, 1) := by decide +kernel
theorem d_M_stays_78 : decode Y_M_stays.2.1 78 = .ok (.dup, 1) := by decide +kernel
theorem d_M_stays_79 : decode Y_M_stays.2.1 79 = .ok (.getfield 330, 3) := by decide +kernel
theorem d_M_stays_82 : decode Y_M_stays.2.1 82 = .ok (.iconst 1, 1) := by decide +kernel
theorem d_M_stays_83 : decode Y_M_stays.2.1 83 = .ok (.isub, 1) := by decide +kernel
theorem d_M_stays_84 : decode Y_M_stays.2.1 84 = .ok (.putfield 330, 3) := by decide +kernel
theorem d_M_stays_87 : decode Y_M_stays.2.1 87 = .ok (.aload_n 0, 1) := by decide +kernel
theorem d_M_stays_88 : decode Y_M_stays.2.1 88 = .ok (.dup, 1) := by decide +kernel
theorem d_M_stays_89 : decode Y_M_stays.2.1 89 = .ok (.getfield 311, 3) := by decide +kernel
theorem d_M_stays_92 : decode Y_M_stays.2.1 92 = .ok (.iconst 1, 1) := by decide +kernel
theorem d_M_stays_93 : decode Y_M_stays.2.1 93 = .ok (.iadd, 1) := by decide +kernel
theorem d_M_stays_94 : decode Y_M_stays.2.1 94 = .ok (.putfield 311, 3) := by decide +kernel
theorem d_M_stays_97 : decode Y_M_stays.2.1 97 = .ok (.aload_n 0, 1) := by decide +kernel
theorem d_M_stays_98 : decode Y_M_stays.2.1 98 = .ok (.iconst 1, 1) := by decide +kernel
theorem d_M_stays_99 : decode Y_M_stays.2.1 99 = .ok (.putfield 374, 3) := by decide +kernel
theorem d_M_stays_102 : decode Y_M_stays.2.1 102 = .ok (.iconst 1, 1) := by decide +kernel
theorem d_M_stays_103 : decode Y_M_stays.2.1 103 = .ok (.ireturn, 1) := by decide +kernel
theorem d_M_value_0 : decode Y_M_value.2.1 0 = .ok (.iconst 1, 1) := by decide +kernel
theorem d_M_value_1 : decode Y_M_value.2.1 1 = .ok (.istore_n 1, 1) := by decide +kernel
theorem d_M_value_2 : decode Y_M_value.2.1 2 = .ok (.aload_n 0, 1) := by decide +kernel
theorem d_M_value_3 : decode Y_M_value.2.1 3 = .ok (.iconst 0, 1) := by decide +kernel
theorem d_M_value_4 : decode Y_M_value.2.1 4 = .ok (.putfield 374, 3) := by decide +kernel
theorem d_M_value_7 : decode Y_M_value.2.1 7 = .ok (.iload_n 1, 1) := by decide +kernel
theorem d_M_value_8 : decode Y_M_value.2.1 8 = .ok (.ifCond .eq 49, 3) := by decide +kernel
theorem d_M_value_11 : decode Y_M_value.2.1 11 = .ok (.aload_n 0, 1) := by decide +kernel
theorem d_M_value_12 : decode Y_M_value.2.1 12 = .ok (.invokevirtual 320, 3) := by decide +kernel
theorem d_M_value_15 : decode Y_M_value.2.1 15 = .ok (.ifCond .eq 42, 3) := by decide +kernel
theorem d_M_value_18 : decode Y_M_value.2.1 18 = .ok (.aload_n 0, 1) := by decide +kernel
theorem d_M_value_19 : decode Y_M_value.2.1 19 = .ok (.getfield 374, 3) := by decide +kernel
theorem d_M_value_22 : decode Y_M_value.2.1 22 = .ok (.ifCond .ne 7, 3) := by decide +kernel
theorem d_M_value_25 : decode Y_M_value.2.1 25 = .ok (.aload_n 0, 1) := by decide +kernel
theorem d_M_value_26 : decode Y_M_value.2.1 26 = .ok (.invokevirtual 378, 3) := by decide +kernel
theorem d_M_value_29 : decode Y_M_value.2.1 29 = .ok (.aload_n 0, 1) := by decide +kernel
theorem d_M_value_30 : decode Y_M_value.2.1 30 = .ok (.iconst 0, 1) := by decide +kernel
theorem d_M_value_31 : decode Y_M_value.2.1 31 = .ok (.putfield 374, 3) := by decide +kernel
theorem d_M_value_34 : decode Y_M_value.2.1 34 = .ok (.aload_n 0, 1) := by decide +kernel
theorem d_M_value_35 : decode Y_M_value.2.1 35 = .ok (.invokevirtual 320, 3) := by decide +kernel
theorem d_M_value_38 : decode Y_M_value.2.1 38 = .ok (.ifCond .eq 14, 3) := by decide +kernel
theorem d_M_value_41 : decode Y_M_value.2.1 41 = .ok (.aload_n 0, 1) := by decide +kernel
theorem d_M_value_42 : decode Y_M_value.2.1 42 = .ok (.invokevirtual 381, 3) := by decide +kernel
theorem d_M_value_45 : decode Y_M_value.2.1 45 = .ok (.ifCond .eq 7, 3) := by decide +kernel
theorem d_M_value_48 : decode Y_M_value.2.1 48 = .ok (.iconst 1, 1) := by decide +kernel
theorem d_M_value_49 : decode Y_M_value.2.1 49 = .ok (.goto 4, 3) := by decide +kernel
theorem d_M_value_52 : decode Y_M_value.2.1 52 = .ok (.iconst 0, 1) := by decide +kernel
theorem d_M_value_53 : decode Y_M_value.2.1 53 = .ok (.istore_n 1, 1) := by decide +kernel
theorem d_M_value_54 : decode Y_M_value.2.1 54 = .ok (.goto (-47), 3) := by decide +kernel
theorem d_M_value_57 : decode Y_M_value.2.1 57 = .ok (.aload_n 0, 1) := by decide +kernel
theorem d_M_value_58 : decode Y_M_value.2.1 58 = .ok (.invokevirtual 320, 3) := by decide +kernel
theorem d_M_value_61 : decode Y_M_value.2.1 61 = .ok (.ifCond .eq 21, 3) := by decide +kernel
theorem d_M_value_64 : decode Y_M_value.2.1 64 = .ok (.aload_n 0, 1) := by decide +kernel
theorem d_M_value_65 : decode Y_M_value.2.1 65 = .ok (.invokevirtual 349, 3) := by decide +kernel
theorem d_M_value_68 : decode Y_M_value.2.1 68 = .ok (.bipush 91, 2) := by decide +kernel
theorem d_M_value_70 : decode Y_M_value.2.1 70 = .ok (.if_icmp .ne 12, 3) := by decide +kernel
theorem d_M_value_73 : decode Y_M_value.2.1 73 = .ok (.aload_n 0, 1) := by decide +kernel
theorem d_M_value_74 : decode Y_M_value.2.1 74 = .ok (.iconst 1, 1) := by decide +kernel
theorem d_M_value_75 : decode Y_M_value.2.1 75 = .ok (.aload_n 0, 1) := by decide +kernel
theorem d_M_value_76 : decode Y_M_value.2.1 76 = .ok (.getfield 311, 3) := by decide +kernel
theorem d_M_value_79 : decode Y_M_value.2.1 79 = .ok (.invokevirtual 333, 3) := by decide +kernel
theorem d_M_value_82 : decode Y_M_value.2.1 82 = .ok (.return_, 1) := by decide +kernel
theorem d_M_isSign_0 : decode Y_M_isSign.2.1 0 = .ok (.iload_n 0, 1) := by decide +kernel
theorem d_M_isSign_1 : decode Y_M_isSign.2.1 1 = .ok (.bipush 60, 2) := by decide +kernel
theorem d_M_isSign_3 : decode Y_M_isSign.2.1 3 = .ok (.if_icmp .eq 15, 3) := by decide +kernel
theorem d_M_isSign_6 : decode Y_M_isSign.2.1 6 = .ok (.iload_n 0, 1) := by decide +kernel
theorem d_M_isSign_7 : decode Y_M_isSign.2.1 7 = .ok (.bipush 62, 2) := by decide +kernel
theorem d_M_isSign_9 : decode Y_M_isSign.2.1 9 = .ok (.if_icmp .eq 9, 3) := by decide +kernel
theorem d_M_isSign_12 : decode Y_M_isSign.2.1 12 = .ok (.iload_n 0, 1) := by decide +kernel
theorem d_M_isSign_13 : decode Y_M_isSign.2.1 13 = .ok (.bipush 61, 2) := by decide +kernel
theorem d_M_isSign_15 : decode Y_M_isSign.2.1 15 = .ok (.if_icmp .ne 7, 3) := by decide +kernel
theorem d_M_isSign_18 : decode Y_M_isSign.2.1 18 = .ok (.iconst 1, 1) := by decide +kernel
theorem d_M_isSign_19 : decode Y_M_isSign.2.1 19 = .ok (.goto 4, 3) := by decide +kernel
theorem d_M_isSign_22 : decode Y_M_isSign.2.1 22 = .ok (.iconst 0, 1) := by decide +kernel
theorem d_M_isSign_23 : decode Y_M_isSign.2.1 23 = .ok (.ireturn, 1) := by decide +kernel
theorem d_M_ends_0 : decode Y_M_ends.2.1 0 = .ok (.aload_n 0, 1) := by decide +kernel
theorem d_M_ends_1 : decode Y_M_ends.2.1 1 = .ok (.invokevirtual 349, 3) := by decide +kernel
theorem d_M_ends_4 : decode Y_M_ends.2.1 4 = .ok (.bipush 33, 2) := by decide +kernel
theorem d_M_ends_6 : decode Y_M_ends.2.1 6 = .ok (.if_icmp .ne 32, 3) := by decide +kernel
theorem d_M_ends_9 : decode Y_M_ends.2.1 9 = .ok (.aload_n 0, 1) := by decide +kernel
theorem d_M_ends_10 : decode Y_M_ends.2.1 10 = .ok (.iconst 2, 1) := by decide +kernel
theorem d_M_ends_11 : decode Y_M_ends.2.1 11 = .ok (.iconst 0, 1) := by decide +kernel
theorem d_M_ends_12 : decode Y_M_ends.2.1 12 = .ok (.invokevirtual 358, 3) := by decide +kernel
theorem d_M_ends_15 : decode Y_M_ends.2.1 15 = .ok (.aload_n 0, 1) := by decide +kernel
theorem d_M_ends_16 : decode Y_M_ends.2.1 16 = .ok (.dup, 1) := by decide +kernel
theorem d_M_ends_17 : decode Y_M_ends.2.1 17 = .ok (.getfield 327, 3) := by decide +kernel
theorem d_M_ends_20 : decode Y_M_ends.2.1 20 = .ok (.iconst 1, 1) := by decide +kernel
theorem d_M_ends_21 : decode Y_M_ends.2.1 21 = .ok (.isub, 1) := by decide +kernel
theorem d_M_ends_22 : decode Y_M_ends.2.1 22 = .ok (.putfield 327, 3) := by decide +kernel
theorem d_M_ends_25 : decode Y_M_ends.2.1 25 = .ok (.aload_n 0, 1) := by decide +kernel
theorem d_M_ends_26 : decode Y_M_ends.2.1 26 = .ok (.dup, 1) := by decide +kernel
theorem d_M_ends_27 : decode Y_M_ends.2.1 27 = .ok (.getfield 330, 3) := by decide +kernel
theorem d_M_ends_30 : decode Y_M_ends.2.1 30 = .ok (.iconst 1, 1) := by decide +kernel
theorem d_M_ends_31 : decode Y_M_ends.2.1 31 = .ok (.isub, 1) := by decide +kernel
theorem d_M_ends_32 : decode Y_M_ends.2.1 32 = .ok (.putfield 330, 3) := by decide +kernel
theorem d_M_ends_35 : decode Y_M_ends.2.1 35 = .ok (.goto (-35), 3) := by decide +kernel
theorem d_M_ends_38 : decode Y_M_ends.2.1 38 = .ok (.return_, 1) := by decide +kernel
theorem d_M_pieceOfC_0 : decode Y_M_pieceOfC.2.1 0 = .ok (.aload_n 0, 1) := by decide +kernel
theorem d_M_pieceOfC_1 : decode Y_M_pieceOfC.2.1 1 = .ok (.invokevirtual 320, 3) := by decide +kernel
theorem d_M_pieceOfC_4 : decode Y_M_pieceOfC.2.1 4 = .ok (.ifCond .eq 28, 3) := by decide +kernel
theorem d_M_pieceOfC_7 : decode Y_M_pieceOfC.2.1 7 = .ok (.aload_n 0, 1) := by decide +kernel
theorem d_M_pieceOfC_8 : decode Y_M_pieceOfC.2.1 8 = .ok (.invokevirtual 336, 3) := by decide +kernel
theorem d_M_pieceOfC_11 : decode Y_M_pieceOfC.2.1 11 = .ok (.bipush 33, 2) := by decide +kernel
theorem d_M_pieceOfC_13 : decode Y_M_pieceOfC.2.1 13 = .ok (.if_icmp .eq 12, 3) := by decide +kernel
theorem d_M_pieceOfC_16 : decode Y_M_pieceOfC.2.1 16 = .ok (.aload_n 0, 1) := by decide +kernel
theorem d_M_pieceOfC_17 : decode Y_M_pieceOfC.2.1 17 = .ok (.invokevirtual 336, 3) := by decide +kernel
theorem d_M_pieceOfC_20 : decode Y_M_pieceOfC.2.1 20 = .ok (.bipush 40, 2) := by decide +kernel
theorem d_M_pieceOfC_22 : decode Y_M_pieceOfC.2.1 22 = .ok (.if_icmp .ne 10, 3) := by decide +kernel
theorem d_M_pieceOfC_25 : decode Y_M_pieceOfC.2.1 25 = .ok (.aload_n 0, 1) := by decide +kernel
theorem d_M_pieceOfC_26 : decode Y_M_pieceOfC.2.1 26 = .ok (.invokevirtual 361, 3) := by decide +kernel
theorem d_M_pieceOfC_29 : decode Y_M_pieceOfC.2.1 29 = .ok (.goto (-29), 3) := by decide +kernel
theorem d_M_pieceOfC_32 : decode Y_M_pieceOfC.2.1 32 = .ok (.aload_n 0, 1) := by decide +kernel
theorem d_M_pieceOfC_33 : decode Y_M_pieceOfC.2.1 33 = .ok (.invokevirtual 320, 3) := by decide +kernel
theorem d_M_pieceOfC_36 : decode Y_M_pieceOfC.2.1 36 = .ok (.ifCond .eq 7, 3) := by decide +kernel
theorem d_M_pieceOfC_39 : decode Y_M_pieceOfC.2.1 39 = .ok (.aload_n 0, 1) := by decide +kernel
theorem d_M_pieceOfC_40 : decode Y_M_pieceOfC.2.1 40 = .ok (.invokevirtual 384, 3) := by decide +kernel
theorem d_M_pieceOfC_43 : decode Y_M_pieceOfC.2.1 43 = .ok (.aload_n 0, 1) := by decide +kernel
theorem d_M_pieceOfC_44 : decode Y_M_pieceOfC.2.1 44 = .ok (.invokevirtual 320, 3) := by decide +kernel
theorem d_M_pieceOfC_47 : decode Y_M_pieceOfC.2.1 47 = .ok (.ifCond .ne 4, 3) := by decide +kernel
theorem d_M_pieceOfC_50 : decode Y_M_pieceOfC.2.1 50 = .ok (.return_, 1) := by decide +kernel
theorem d_M_pieceOfC_51 : decode Y_M_pieceOfC.2.1 51 = .ok (.aload_n 0, 1) := by decide +kernel
theorem d_M_pieceOfC_52 : decode Y_M_pieceOfC.2.1 52 = .ok (.invokevirtual 336, 3) := by decide +kernel
theorem d_M_pieceOfC_55 : decode Y_M_pieceOfC.2.1 55 = .ok (.istore_n 1, 1) := by decide +kernel
theorem d_M_pieceOfC_56 : decode Y_M_pieceOfC.2.1 56 = .ok (.iload_n 1, 1) := by decide +kernel
theorem d_M_pieceOfC_57 : decode Y_M_pieceOfC.2.1 57 = .ok (.invokestatic 387, 3) := by decide +kernel
theorem d_M_pieceOfC_60 : decode Y_M_pieceOfC.2.1 60 = .ok (.ifCond .ne 13, 3) := by decide +kernel
theorem d_M_pieceOfC_63 : decode Y_M_pieceOfC.2.1 63 = .ok (.aload_n 0, 1) := by decide +kernel
theorem d_M_pieceOfC_64 : decode Y_M_pieceOfC.2.1 64 = .ok (.iconst 1, 1) := by decide +kernel
theorem d_M_pieceOfC_65 : decode Y_M_pieceOfC.2.1 65 = .ok (.aload_n 0, 1) := by decide +kernel
theorem d_M_pieceOfC_66 : decode Y_M_pieceOfC.2.1 66 = .ok (.getfield 311, 3) := by decide +kernel
theorem d_M_pieceOfC_69 : decode Y_M_pieceOfC.2.1 69 = .ok (.invokevirtual 333, 3) := by decide +kernel
theorem d_M_pieceOfC_72 : decode Y_M_pieceOfC.2.1 72 = .ok (.return_, 1) := by decide +kernel
theorem d_M_pieceOfC_73 : decode Y_M_pieceOfC.2.1 73 = .ok (.aload_n 0, 1) := by decide +kernel
theorem d_M_pieceOfC_74 : decode Y_M_pieceOfC.2.1 74 = .ok (.iload_n 1, 1) := by decide +kernel
theorem d_M_pieceOfC_75 : decode Y_M_pieceOfC.2.1 75 = .ok (.invokevirtual 339, 3) := by decide +kernel
theorem d_M_pieceOfC_78 : decode Y_M_pieceOfC.2.1 78 = .ok (.aload_n 0, 1) := by decide +kernel
theorem d_M_pieceOfC_79 : decode Y_M_pieceOfC.2.1 79 = .ok (.invokevirtual 384, 3) := by decide +kernel
theorem d_M_pieceOfC_82 : decode Y_M_pieceOfC.2.1 82 = .ok (.aload_n 0, 1) := by decide +kernel
theorem d_M_pieceOfC_83 : decode Y_M_pieceOfC.2.1 83 = .ok (.invokevirtual 320, 3) := by decide +kernel
theorem d_M_pieceOfC_86 : decode Y_M_pieceOfC.2.1 86 = .ok (.ifCond .ne 4, 3) := by decide +kernel
theorem d_M_pieceOfC_89 : decode Y_M_pieceOfC.2.1 89 = .ok (.return_, 1) := by decide +kernel
theorem d_M_pieceOfC_90 : decode Y_M_pieceOfC.2.1 90 = .ok (.aload_n 0, 1) := by decide +kernel
theorem d_M_pieceOfC_91 : decode Y_M_pieceOfC.2.1 91 = .ok (.aload_n 0, 1) := by decide +kernel
theorem d_M_pieceOfC_92 : decode Y_M_pieceOfC.2.1 92 = .ok (.invokevirtual 349, 3) := by decide +kernel
theorem d_M_pieceOfC_95 : decode Y_M_pieceOfC.2.1 95 = .ok (.iconst 0, 1) := by decide +kernel
theorem d_M_pieceOfC_96 : decode Y_M_pieceOfC.2.1 96 = .ok (.invokevirtual 358, 3) := by decide +kernel
theorem d_M_pieceOfC_99 : decode Y_M_pieceOfC.2.1 99 = .ok (.aload_n 0, 1) := by decide +kernel
theorem d_M_pieceOfC_100 : decode Y_M_pieceOfC.2.1 100 = .ok (.dup, 1) := by decide +kernel
theorem d_M_pieceOfC_101 : decode Y_M_pieceOfC.2.1 101 = .ok (.getfield 327, 3) := by decide +kernel
theorem d_M_pieceOfC_104 : decode Y_M_pieceOfC.2.1 104 = .ok (.iconst 1, 1) := by decide +kernel
theorem d_M_pieceOfC_105 : decode Y_M_pieceOfC.2.1 105 = .ok (.isub, 1) := by decide +kernel
theorem d_M_pieceOfC_106 : decode Y_M_pieceOfC.2.1 106 = .ok (.putfield 327, 3) := by decide +kernel
theorem d_M_pieceOfC_109 : decode Y_M_pieceOfC.2.1 109 = .ok (.aload_n 0, 1) := by decide +kernel
theorem d_M_pieceOfC_110 : decode Y_M_pieceOfC.2.1 110 = .ok (.invokevirtual 390, 3) := by decide +kernel
theorem d_M_pieceOfC_113 : decode Y_M_pieceOfC.2.1 113 = .ok (.return_, 1) := by decide +kernel
