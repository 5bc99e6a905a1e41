/-! PRINTED: what each place of the code decodes to -/
theorem d_X_beat_0 : decode Y_X_beat.2.1 0 = .ok (.iload_n 1, 1) := by decide +kernel
theorem d_X_beat_1 : decode Y_X_beat.2.1 1 = .ok (.ifCond .lt 9, 3) := by decide +kernel
theorem d_X_beat_4 : decode Y_X_beat.2.1 4 = .ok (.iload_n 1, 1) := by decide +kernel
theorem d_X_beat_5 : decode Y_X_beat.2.1 5 = .ok (.bipush 24, 2) := by decide +kernel
theorem d_X_beat_7 : decode Y_X_beat.2.1 7 = .ok (.if_icmp .lt 7, 3) := by decide +kernel
theorem d_X_beat_10 : decode Y_X_beat.2.1 10 = .ok (.ldc2_w 239, 3) := by decide +kernel
theorem d_X_beat_13 : decode Y_X_beat.2.1 13 = .ok (.lreturn, 1) := by decide +kernel
theorem d_X_beat_14 : decode Y_X_beat.2.1 14 = .ok (.iload_n 2, 1) := by decide +kernel
theorem d_X_beat_15 : decode Y_X_beat.2.1 15 = .ok (.tableswitch 97 0 3 #[29, 62, 78, 88], 29) := by decide +kernel
theorem d_X_beat_44 : decode Y_X_beat.2.1 44 = .ok (.aload_n 0, 1) := by decide +kernel
theorem d_X_beat_45 : decode Y_X_beat.2.1 45 = .ok (.getfield 30, 3) := by decide +kernel
theorem d_X_beat_48 : decode Y_X_beat.2.1 48 = .ok (.invokevirtual 232, 3) := by decide +kernel
theorem d_X_beat_51 : decode Y_X_beat.2.1 51 = .ok (.aload_n 0, 1) := by decide +kernel
theorem d_X_beat_52 : decode Y_X_beat.2.1 52 = .ok (.getfield 21, 3) := by decide +kernel
theorem d_X_beat_55 : decode Y_X_beat.2.1 55 = .ok (.iload_n 1, 1) := by decide +kernel
theorem d_X_beat_56 : decode Y_X_beat.2.1 56 = .ok (.invokevirtual 241, 3) := by decide +kernel
theorem d_X_beat_59 : decode Y_X_beat.2.1 59 = .ok (.ifCond .ne 9, 3) := by decide +kernel
theorem d_X_beat_62 : decode Y_X_beat.2.1 62 = .ok (.ldc2_w 239, 3) := by decide +kernel
theorem d_X_beat_65 : decode Y_X_beat.2.1 65 = .ok (.goto 11, 3) := by decide +kernel
theorem d_X_beat_68 : decode Y_X_beat.2.1 68 = .ok (.aload_n 0, 1) := by decide +kernel
theorem d_X_beat_69 : decode Y_X_beat.2.1 69 = .ok (.getfield 30, 3) := by decide +kernel
theorem d_X_beat_72 : decode Y_X_beat.2.1 72 = .ok (.iload_n 1, 1) := by decide +kernel
theorem d_X_beat_73 : decode Y_X_beat.2.1 73 = .ok (.invokevirtual 244, 3) := by decide +kernel
theorem d_X_beat_76 : decode Y_X_beat.2.1 76 = .ok (.lreturn, 1) := by decide +kernel
theorem d_X_beat_77 : decode Y_X_beat.2.1 77 = .ok (.aload_n 0, 1) := by decide +kernel
theorem d_X_beat_78 : decode Y_X_beat.2.1 78 = .ok (.getfield 30, 3) := by decide +kernel
theorem d_X_beat_81 : decode Y_X_beat.2.1 81 = .ok (.invokevirtual 232, 3) := by decide +kernel
theorem d_X_beat_84 : decode Y_X_beat.2.1 84 = .ok (.aload_n 0, 1) := by decide +kernel
theorem d_X_beat_85 : decode Y_X_beat.2.1 85 = .ok (.getfield 30, 3) := by decide +kernel
theorem d_X_beat_88 : decode Y_X_beat.2.1 88 = .ok (.iload_n 1, 1) := by decide +kernel
theorem d_X_beat_89 : decode Y_X_beat.2.1 89 = .ok (.invokevirtual 248, 3) := by decide +kernel
theorem d_X_beat_92 : decode Y_X_beat.2.1 92 = .ok (.lreturn, 1) := by decide +kernel
theorem d_X_beat_93 : decode Y_X_beat.2.1 93 = .ok (.aload_n 0, 1) := by decide +kernel
theorem d_X_beat_94 : decode Y_X_beat.2.1 94 = .ok (.getfield 21, 3) := by decide +kernel
theorem d_X_beat_97 : decode Y_X_beat.2.1 97 = .ok (.iload_n 1, 1) := by decide +kernel
theorem d_X_beat_98 : decode Y_X_beat.2.1 98 = .ok (.invokevirtual 241, 3) := by decide +kernel
theorem d_X_beat_101 : decode Y_X_beat.2.1 101 = .ok (.i2l, 1) := by decide +kernel
theorem d_X_beat_102 : decode Y_X_beat.2.1 102 = .ok (.lreturn, 1) := by decide +kernel
theorem d_X_beat_103 : decode Y_X_beat.2.1 103 = .ok (.aload_n 0, 1) := by decide +kernel
theorem d_X_beat_104 : decode Y_X_beat.2.1 104 = .ok (.getfield 21, 3) := by decide +kernel
theorem d_X_beat_107 : decode Y_X_beat.2.1 107 = .ok (.iload_n 1, 1) := by decide +kernel
theorem d_X_beat_108 : decode Y_X_beat.2.1 108 = .ok (.invokevirtual 251, 3) := by decide +kernel
theorem d_X_beat_111 : decode Y_X_beat.2.1 111 = .ok (.lreturn, 1) := by decide +kernel
theorem d_X_beat_112 : decode Y_X_beat.2.1 112 = .ok (.ldc2_w 239, 3) := by decide +kernel
theorem d_X_beat_115 : decode Y_X_beat.2.1 115 = .ok (.lreturn, 1) := by decide +kernel
theorem d_M_offOf_0 : decode Y_M_offOf.2.1 0 = .ok (.lconst 0, 1) := by decide +kernel
theorem d_M_offOf_1 : decode Y_M_offOf.2.1 1 = .ok (.lstore_n 2, 1) := by decide +kernel
theorem d_M_offOf_2 : decode Y_M_offOf.2.1 2 = .ok (.iconst 0, 1) := by decide +kernel
theorem d_M_offOf_3 : decode Y_M_offOf.2.1 3 = .ok (.istore 4, 2) := by decide +kernel
theorem d_M_offOf_5 : decode Y_M_offOf.2.1 5 = .ok (.iload 4, 2) := by decide +kernel
theorem d_M_offOf_7 : decode Y_M_offOf.2.1 7 = .ok (.aload_n 0, 1) := by decide +kernel
theorem d_M_offOf_8 : decode Y_M_offOf.2.1 8 = .ok (.getfield 275, 3) := by decide +kernel
theorem d_M_offOf_11 : decode Y_M_offOf.2.1 11 = .ok (.if_icmp .ge 51, 3) := by decide +kernel
theorem d_M_offOf_14 : decode Y_M_offOf.2.1 14 = .ok (.lload_n 2, 1) := by decide +kernel
theorem d_M_offOf_15 : decode Y_M_offOf.2.1 15 = .ok (.aload_n 0, 1) := by decide +kernel
theorem d_M_offOf_16 : decode Y_M_offOf.2.1 16 = .ok (.iload 4, 2) := by decide +kernel
theorem d_M_offOf_18 : decode Y_M_offOf.2.1 18 = .ok (.iload_n 1, 1) := by decide +kernel
theorem d_M_offOf_19 : decode Y_M_offOf.2.1 19 = .ok (.invokevirtual 423, 3) := by decide +kernel
theorem d_M_offOf_22 : decode Y_M_offOf.2.1 22 = .ok (.ifCond .eq 31, 3) := by decide +kernel
theorem d_M_offOf_25 : decode Y_M_offOf.2.1 25 = .ok (.aload_n 0, 1) := by decide +kernel
theorem d_M_offOf_26 : decode Y_M_offOf.2.1 26 = .ok (.getfield 116, 3) := by decide +kernel
theorem d_M_offOf_29 : decode Y_M_offOf.2.1 29 = .ok (.bipush 24, 2) := by decide +kernel
theorem d_M_offOf_31 : decode Y_M_offOf.2.1 31 = .ok (.iload 4, 2) := by decide +kernel
theorem d_M_offOf_33 : decode Y_M_offOf.2.1 33 = .ok (.imul, 1) := by decide +kernel
theorem d_M_offOf_34 : decode Y_M_offOf.2.1 34 = .ok (.iload_n 1, 1) := by decide +kernel
theorem d_M_offOf_35 : decode Y_M_offOf.2.1 35 = .ok (.iadd, 1) := by decide +kernel
theorem d_M_offOf_36 : decode Y_M_offOf.2.1 36 = .ok (.iaload, 1) := by decide +kernel
theorem d_M_offOf_37 : decode Y_M_offOf.2.1 37 = .ok (.aload_n 0, 1) := by decide +kernel
theorem d_M_offOf_38 : decode Y_M_offOf.2.1 38 = .ok (.aload_n 0, 1) := by decide +kernel
theorem d_M_offOf_39 : decode Y_M_offOf.2.1 39 = .ok (.iload 4, 2) := by decide +kernel
theorem d_M_offOf_41 : decode Y_M_offOf.2.1 41 = .ok (.iload_n 1, 1) := by decide +kernel
theorem d_M_offOf_42 : decode Y_M_offOf.2.1 42 = .ok (.invokevirtual 432, 3) := by decide +kernel
theorem d_M_offOf_45 : decode Y_M_offOf.2.1 45 = .ok (.invokevirtual 441, 3) := by decide +kernel
theorem d_M_offOf_48 : decode Y_M_offOf.2.1 48 = .ok (.isub, 1) := by decide +kernel
theorem d_M_offOf_49 : decode Y_M_offOf.2.1 49 = .ok (.i2l, 1) := by decide +kernel
theorem d_M_offOf_50 : decode Y_M_offOf.2.1 50 = .ok (.goto 4, 3) := by decide +kernel
theorem d_M_offOf_53 : decode Y_M_offOf.2.1 53 = .ok (.lconst 0, 1) := by decide +kernel
theorem d_M_offOf_54 : decode Y_M_offOf.2.1 54 = .ok (.ladd, 1) := by decide +kernel
theorem d_M_offOf_55 : decode Y_M_offOf.2.1 55 = .ok (.lstore_n 2, 1) := by decide +kernel
theorem d_M_offOf_56 : decode Y_M_offOf.2.1 56 = .ok (.iinc 4 1, 3) := by decide +kernel
theorem d_M_offOf_59 : decode Y_M_offOf.2.1 59 = .ok (.goto (-54), 3) := by decide +kernel
theorem d_M_offOf_62 : decode Y_M_offOf.2.1 62 = .ok (.lload_n 2, 1) := by decide +kernel
theorem d_M_offOf_63 : decode Y_M_offOf.2.1 63 = .ok (.aload_n 0, 1) := by decide +kernel
theorem d_M_offOf_64 : decode Y_M_offOf.2.1 64 = .ok (.iload_n 1, 1) := by decide +kernel
theorem d_M_offOf_65 : decode Y_M_offOf.2.1 65 = .ok (.invokevirtual 438, 3) := by decide +kernel
theorem d_M_offOf_68 : decode Y_M_offOf.2.1 68 = .ok (.i2l, 1) := by decide +kernel
theorem d_M_offOf_69 : decode Y_M_offOf.2.1 69 = .ok (.invokestatic 446, 3) := by decide +kernel
theorem d_M_offOf_72 : decode Y_M_offOf.2.1 72 = .ok (.lreturn, 1) := by decide +kernel
theorem d_M_foulOf_0 : decode Y_M_foulOf.2.1 0 = .ok (.lconst 0, 1) := by decide +kernel
theorem d_M_foulOf_1 : decode Y_M_foulOf.2.1 1 = .ok (.lstore_n 2, 1) := by decide +kernel
theorem d_M_foulOf_2 : decode Y_M_foulOf.2.1 2 = .ok (.iconst 0, 1) := by decide +kernel
theorem d_M_foulOf_3 : decode Y_M_foulOf.2.1 3 = .ok (.istore 4, 2) := by decide +kernel
theorem d_M_foulOf_5 : decode Y_M_foulOf.2.1 5 = .ok (.iload 4, 2) := by decide +kernel
theorem d_M_foulOf_7 : decode Y_M_foulOf.2.1 7 = .ok (.aload_n 0, 1) := by decide +kernel
theorem d_M_foulOf_8 : decode Y_M_foulOf.2.1 8 = .ok (.getfield 275, 3) := by decide +kernel
theorem d_M_foulOf_11 : decode Y_M_foulOf.2.1 11 = .ok (.if_icmp .ge 98, 3) := by decide +kernel
theorem d_M_foulOf_14 : decode Y_M_foulOf.2.1 14 = .ok (.iconst 0, 1) := by decide +kernel
theorem d_M_foulOf_15 : decode Y_M_foulOf.2.1 15 = .ok (.istore 5, 2) := by decide +kernel
theorem d_M_foulOf_17 : decode Y_M_foulOf.2.1 17 = .ok (.iload 5, 2) := by decide +kernel
theorem d_M_foulOf_19 : decode Y_M_foulOf.2.1 19 = .ok (.iload 4, 2) := by decide +kernel
theorem d_M_foulOf_21 : decode Y_M_foulOf.2.1 21 = .ok (.if_icmp .ge 82, 3) := by decide +kernel
theorem d_M_foulOf_24 : decode Y_M_foulOf.2.1 24 = .ok (.aload_n 0, 1) := by decide +kernel
theorem d_M_foulOf_25 : decode Y_M_foulOf.2.1 25 = .ok (.iload 4, 2) := by decide +kernel
theorem d_M_foulOf_27 : decode Y_M_foulOf.2.1 27 = .ok (.iload_n 1, 1) := by decide +kernel
theorem d_M_foulOf_28 : decode Y_M_foulOf.2.1 28 = .ok (.invokevirtual 423, 3) := by decide +kernel
theorem d_M_foulOf_31 : decode Y_M_foulOf.2.1 31 = .ok (.ifCond .eq 66, 3) := by decide +kernel
theorem d_M_foulOf_34 : decode Y_M_foulOf.2.1 34 = .ok (.aload_n 0, 1) := by decide +kernel
theorem d_M_foulOf_35 : decode Y_M_foulOf.2.1 35 = .ok (.iload 5, 2) := by decide +kernel
theorem d_M_foulOf_37 : decode Y_M_foulOf.2.1 37 = .ok (.iload_n 1, 1) := by decide +kernel
theorem d_M_foulOf_38 : decode Y_M_foulOf.2.1 38 = .ok (.invokevirtual 423, 3) := by decide +kernel
theorem d_M_foulOf_41 : decode Y_M_foulOf.2.1 41 = .ok (.ifCond .ne 6, 3) := by decide +kernel
theorem d_M_foulOf_44 : decode Y_M_foulOf.2.1 44 = .ok (.goto 53, 3) := by decide +kernel
theorem d_M_foulOf_47 : decode Y_M_foulOf.2.1 47 = .ok (.lload_n 2, 1) := by decide +kernel
theorem d_M_foulOf_48 : decode Y_M_foulOf.2.1 48 = .ok (.aload_n 0, 1) := by decide +kernel
theorem d_M_foulOf_49 : decode Y_M_foulOf.2.1 49 = .ok (.getfield 116, 3) := by decide +kernel
theorem d_M_foulOf_52 : decode Y_M_foulOf.2.1 52 = .ok (.bipush 24, 2) := by decide +kernel
theorem d_M_foulOf_54 : decode Y_M_foulOf.2.1 54 = .ok (.iload 4, 2) := by decide +kernel
theorem d_M_foulOf_56 : decode Y_M_foulOf.2.1 56 = .ok (.imul, 1) := by decide +kernel
theorem d_M_foulOf_57 : decode Y_M_foulOf.2.1 57 = .ok (.iload_n 1, 1) := by decide +kernel
theorem d_M_foulOf_58 : decode Y_M_foulOf.2.1 58 = .ok (.iadd, 1) := by decide +kernel
theorem d_M_foulOf_59 : decode Y_M_foulOf.2.1 59 = .ok (.iaload, 1) := by decide +kernel
theorem d_M_foulOf_60 : decode Y_M_foulOf.2.1 60 = .ok (.i2l, 1) := by decide +kernel
theorem d_M_foulOf_61 : decode Y_M_foulOf.2.1 61 = .ok (.aload_n 0, 1) := by decide +kernel
theorem d_M_foulOf_62 : decode Y_M_foulOf.2.1 62 = .ok (.getfield 116, 3) := by decide +kernel
theorem d_M_foulOf_65 : decode Y_M_foulOf.2.1 65 = .ok (.bipush 24, 2) := by decide +kernel
theorem d_M_foulOf_67 : decode Y_M_foulOf.2.1 67 = .ok (.iload 5, 2) := by decide +kernel
theorem d_M_foulOf_69 : decode Y_M_foulOf.2.1 69 = .ok (.imul, 1) := by decide +kernel
theorem d_M_foulOf_70 : decode Y_M_foulOf.2.1 70 = .ok (.iload_n 1, 1) := by decide +kernel
theorem d_M_foulOf_71 : decode Y_M_foulOf.2.1 71 = .ok (.iadd, 1) := by decide +kernel
theorem d_M_foulOf_72 : decode Y_M_foulOf.2.1 72 = .ok (.iaload, 1) := by decide +kernel
theorem d_M_foulOf_73 : decode Y_M_foulOf.2.1 73 = .ok (.i2l, 1) := by decide +kernel
theorem d_M_foulOf_74 : decode Y_M_foulOf.2.1 74 = .ok (.lsub, 1) := by decide +kernel
theorem d_M_foulOf_75 : decode Y_M_foulOf.2.1 75 = .ok (.aload_n 0, 1) := by decide +kernel
theorem d_M_foulOf_76 : decode Y_M_foulOf.2.1 76 = .ok (.iload 4, 2) := by decide +kernel
theorem d_M_foulOf_78 : decode Y_M_foulOf.2.1 78 = .ok (.iload_n 1, 1) := by decide +kernel
theorem d_M_foulOf_79 : decode Y_M_foulOf.2.1 79 = .ok (.invokevirtual 468, 3) := by decide +kernel
theorem d_M_foulOf_82 : decode Y_M_foulOf.2.1 82 = .ok (.aload_n 0, 1) := by decide +kernel
theorem d_M_foulOf_83 : decode Y_M_foulOf.2.1 83 = .ok (.iload 5, 2) := by decide +kernel
theorem d_M_foulOf_85 : decode Y_M_foulOf.2.1 85 = .ok (.iload_n 1, 1) := by decide +kernel
theorem d_M_foulOf_86 : decode Y_M_foulOf.2.1 86 = .ok (.invokevirtual 468, 3) := by decide +kernel
theorem d_M_foulOf_89 : decode Y_M_foulOf.2.1 89 = .ok (.isub, 1) := by decide +kernel
theorem d_M_foulOf_90 : decode Y_M_foulOf.2.1 90 = .ok (.i2l, 1) := by decide +kernel
theorem d_M_foulOf_91 : decode Y_M_foulOf.2.1 91 = .ok (.lsub, 1) := by decide +kernel
theorem d_M_foulOf_92 : decode Y_M_foulOf.2.1 92 = .ok (.invokestatic 225, 3) := by decide +kernel
theorem d_M_foulOf_95 : decode Y_M_foulOf.2.1 95 = .ok (.ladd, 1) := by decide +kernel
theorem d_M_foulOf_96 : decode Y_M_foulOf.2.1 96 = .ok (.lstore_n 2, 1) := by decide +kernel
theorem d_M_foulOf_97 : decode Y_M_foulOf.2.1 97 = .ok (.iinc 5 1, 3) := by decide +kernel
theorem d_M_foulOf_100 : decode Y_M_foulOf.2.1 100 = .ok (.goto (-83), 3) := by decide +kernel
theorem d_M_foulOf_103 : decode Y_M_foulOf.2.1 103 = .ok (.iinc 4 1, 3) := by decide +kernel
theorem d_M_foulOf_106 : decode Y_M_foulOf.2.1 106 = .ok (.goto (-101), 3) := by decide +kernel
theorem d_M_foulOf_109 : decode Y_M_foulOf.2.1 109 = .ok (.lload_n 2, 1) := by decide +kernel
theorem d_M_foulOf_110 : decode Y_M_foulOf.2.1 110 = .ok (.lreturn, 1) := by decide +kernel
theorem d_M_tableFoul_0 : decode Y_M_tableFoul.2.1 0 = .ok (.lconst 0, 1) := by decide +kernel
theorem d_M_tableFoul_1 : decode Y_M_tableFoul.2.1 1 = .ok (.lstore_n 2, 1) := by decide +kernel
theorem d_M_tableFoul_2 : decode Y_M_tableFoul.2.1 2 = .ok (.iconst 0, 1) := by decide +kernel
theorem d_M_tableFoul_3 : decode Y_M_tableFoul.2.1 3 = .ok (.istore 4, 2) := by decide +kernel
theorem d_M_tableFoul_5 : decode Y_M_tableFoul.2.1 5 = .ok (.iload 4, 2) := by decide +kernel
theorem d_M_tableFoul_7 : decode Y_M_tableFoul.2.1 7 = .ok (.bipush 6, 2) := by decide +kernel
theorem d_M_tableFoul_9 : decode Y_M_tableFoul.2.1 9 = .ok (.if_icmp .ge 104, 3) := by decide +kernel
theorem d_M_tableFoul_12 : decode Y_M_tableFoul.2.1 12 = .ok (.iconst 0, 1) := by decide +kernel
theorem d_M_tableFoul_13 : decode Y_M_tableFoul.2.1 13 = .ok (.istore 5, 2) := by decide +kernel
theorem d_M_tableFoul_15 : decode Y_M_tableFoul.2.1 15 = .ok (.iload 5, 2) := by decide +kernel
theorem d_M_tableFoul_17 : decode Y_M_tableFoul.2.1 17 = .ok (.iload 4, 2) := by decide +kernel
theorem d_M_tableFoul_19 : decode Y_M_tableFoul.2.1 19 = .ok (.if_icmp .ge 88, 3) := by decide +kernel
theorem d_M_tableFoul_22 : decode Y_M_tableFoul.2.1 22 = .ok (.aload_n 0, 1) := by decide +kernel
theorem d_M_tableFoul_23 : decode Y_M_tableFoul.2.1 23 = .ok (.iload 4, 2) := by decide +kernel
theorem d_M_tableFoul_25 : decode Y_M_tableFoul.2.1 25 = .ok (.iload_n 1, 1) := by decide +kernel
theorem d_M_tableFoul_26 : decode Y_M_tableFoul.2.1 26 = .ok (.invokevirtual 162, 3) := by decide +kernel
theorem d_M_tableFoul_29 : decode Y_M_tableFoul.2.1 29 = .ok (.ifCond .eq 72, 3) := by decide +kernel
theorem d_M_tableFoul_32 : decode Y_M_tableFoul.2.1 32 = .ok (.aload_n 0, 1) := by decide +kernel
theorem d_M_tableFoul_33 : decode Y_M_tableFoul.2.1 33 = .ok (.iload 5, 2) := by decide +kernel
theorem d_M_tableFoul_35 : decode Y_M_tableFoul.2.1 35 = .ok (.iload_n 1, 1) := by decide +kernel
theorem d_M_tableFoul_36 : decode Y_M_tableFoul.2.1 36 = .ok (.invokevirtual 162, 3) := by decide +kernel
theorem d_M_tableFoul_39 : decode Y_M_tableFoul.2.1 39 = .ok (.ifCond .ne 6, 3) := by decide +kernel
theorem d_M_tableFoul_42 : decode Y_M_tableFoul.2.1 42 = .ok (.goto 59, 3) := by decide +kernel
theorem d_M_tableFoul_45 : decode Y_M_tableFoul.2.1 45 = .ok (.lload_n 2, 1) := by decide +kernel
theorem d_M_tableFoul_46 : decode Y_M_tableFoul.2.1 46 = .ok (.aload_n 0, 1) := by decide +kernel
theorem d_M_tableFoul_47 : decode Y_M_tableFoul.2.1 47 = .ok (.aload_n 0, 1) := by decide +kernel
theorem d_M_tableFoul_48 : decode Y_M_tableFoul.2.1 48 = .ok (.getfield 13, 3) := by decide +kernel
theorem d_M_tableFoul_51 : decode Y_M_tableFoul.2.1 51 = .ok (.iload 4, 2) := by decide +kernel
theorem d_M_tableFoul_53 : decode Y_M_tableFoul.2.1 53 = .ok (.iload_n 1, 1) := by decide +kernel
theorem d_M_tableFoul_54 : decode Y_M_tableFoul.2.1 54 = .ok (.invokestatic 158, 3) := by decide +kernel
theorem d_M_tableFoul_57 : decode Y_M_tableFoul.2.1 57 = .ok (.iaload, 1) := by decide +kernel
theorem d_M_tableFoul_58 : decode Y_M_tableFoul.2.1 58 = .ok (.invokevirtual 441, 3) := by decide +kernel
theorem d_M_tableFoul_61 : decode Y_M_tableFoul.2.1 61 = .ok (.i2l, 1) := by decide +kernel
theorem d_M_tableFoul_62 : decode Y_M_tableFoul.2.1 62 = .ok (.aload_n 0, 1) := by decide +kernel
theorem d_M_tableFoul_63 : decode Y_M_tableFoul.2.1 63 = .ok (.aload_n 0, 1) := by decide +kernel
theorem d_M_tableFoul_64 : decode Y_M_tableFoul.2.1 64 = .ok (.getfield 13, 3) := by decide +kernel
theorem d_M_tableFoul_67 : decode Y_M_tableFoul.2.1 67 = .ok (.iload 5, 2) := by decide +kernel
theorem d_M_tableFoul_69 : decode Y_M_tableFoul.2.1 69 = .ok (.iload_n 1, 1) := by decide +kernel
theorem d_M_tableFoul_70 : decode Y_M_tableFoul.2.1 70 = .ok (.invokestatic 158, 3) := by decide +kernel
theorem d_M_tableFoul_73 : decode Y_M_tableFoul.2.1 73 = .ok (.iaload, 1) := by decide +kernel
theorem d_M_tableFoul_74 : decode Y_M_tableFoul.2.1 74 = .ok (.invokevirtual 441, 3) := by decide +kernel
theorem d_M_tableFoul_77 : decode Y_M_tableFoul.2.1 77 = .ok (.i2l, 1) := by decide +kernel
theorem d_M_tableFoul_78 : decode Y_M_tableFoul.2.1 78 = .ok (.lsub, 1) := by decide +kernel
theorem d_M_tableFoul_79 : decode Y_M_tableFoul.2.1 79 = .ok (.aload_n 0, 1) := by decide +kernel
theorem d_M_tableFoul_80 : decode Y_M_tableFoul.2.1 80 = .ok (.iload 4, 2) := by decide +kernel
theorem d_M_tableFoul_82 : decode Y_M_tableFoul.2.1 82 = .ok (.iload_n 1, 1) := by decide +kernel
theorem d_M_tableFoul_83 : decode Y_M_tableFoul.2.1 83 = .ok (.invokevirtual 219, 3) := by decide +kernel
theorem d_M_tableFoul_86 : decode Y_M_tableFoul.2.1 86 = .ok (.aload_n 0, 1) := by decide +kernel
theorem d_M_tableFoul_87 : decode Y_M_tableFoul.2.1 87 = .ok (.iload 5, 2) := by decide +kernel
theorem d_M_tableFoul_89 : decode Y_M_tableFoul.2.1 89 = .ok (.iload_n 1, 1) := by decide +kernel
theorem d_M_tableFoul_90 : decode Y_M_tableFoul.2.1 90 = .ok (.invokevirtual 219, 3) := by decide +kernel
theorem d_M_tableFoul_93 : decode Y_M_tableFoul.2.1 93 = .ok (.isub, 1) := by decide +kernel
theorem d_M_tableFoul_94 : decode Y_M_tableFoul.2.1 94 = .ok (.i2l, 1) := by decide +kernel
theorem d_M_tableFoul_95 : decode Y_M_tableFoul.2.1 95 = .ok (.lsub, 1) := by decide +kernel
theorem d_M_tableFoul_96 : decode Y_M_tableFoul.2.1 96 = .ok (.invokestatic 225, 3) := by decide +kernel
theorem d_M_tableFoul_99 : decode Y_M_tableFoul.2.1 99 = .ok (.ladd, 1) := by decide +kernel
theorem d_M_tableFoul_100 : decode Y_M_tableFoul.2.1 100 = .ok (.lstore_n 2, 1) := by decide +kernel
theorem d_M_tableFoul_101 : decode Y_M_tableFoul.2.1 101 = .ok (.iinc 5 1, 3) := by decide +kernel
theorem d_M_tableFoul_104 : decode Y_M_tableFoul.2.1 104 = .ok (.goto (-89), 3) := by decide +kernel
theorem d_M_tableFoul_107 : decode Y_M_tableFoul.2.1 107 = .ok (.iinc 4 1, 3) := by decide +kernel
theorem d_M_tableFoul_110 : decode Y_M_tableFoul.2.1 110 = .ok (.goto (-105), 3) := by decide +kernel
theorem d_M_tableFoul_113 : decode Y_M_tableFoul.2.1 113 = .ok (.lload_n 2, 1) := by decide +kernel
theorem d_M_tableFoul_114 : decode Y_M_tableFoul.2.1 114 = .ok (.lreturn, 1) := by decide +kernel
theorem d_M_beat_0 : decode Y_M_beat.2.1 0 = .ok (.iload_n 1, 1) := by decide +kernel
theorem d_M_beat_1 : decode Y_M_beat.2.1 1 = .ok (.invokestatic 155, 3) := by decide +kernel
theorem d_M_beat_4 : decode Y_M_beat.2.1 4 = .ok (.ifCond .eq 27, 3) := by decide +kernel
theorem d_M_beat_7 : decode Y_M_beat.2.1 7 = .ok (.iload_n 2, 1) := by decide +kernel
theorem d_M_beat_8 : decode Y_M_beat.2.1 8 = .ok (.i2l, 1) := by decide +kernel
theorem d_M_beat_9 : decode Y_M_beat.2.1 9 = .ok (.lconst 0, 1) := by decide +kernel
theorem d_M_beat_10 : decode Y_M_beat.2.1 10 = .ok (.ldc2_w 528, 3) := by decide +kernel
theorem d_M_beat_13 : decode Y_M_beat.2.1 13 = .ok (.invokestatic 145, 3) := by decide +kernel
theorem d_M_beat_16 : decode Y_M_beat.2.1 16 = .ok (.ifCond .eq 15, 3) := by decide +kernel
theorem d_M_beat_19 : decode Y_M_beat.2.1 19 = .ok (.iload_n 2, 1) := by decide +kernel
theorem d_M_beat_20 : decode Y_M_beat.2.1 20 = .ok (.ifCond .ne 15, 3) := by decide +kernel
theorem d_M_beat_23 : decode Y_M_beat.2.1 23 = .ok (.aload_n 0, 1) := by decide +kernel
theorem d_M_beat_24 : decode Y_M_beat.2.1 24 = .ok (.iload_n 1, 1) := by decide +kernel
theorem d_M_beat_25 : decode Y_M_beat.2.1 25 = .ok (.invokevirtual 438, 3) := by decide +kernel
theorem d_M_beat_28 : decode Y_M_beat.2.1 28 = .ok (.ifCond .ne 7, 3) := by decide +kernel
theorem d_M_beat_31 : decode Y_M_beat.2.1 31 = .ok (.ldc2_w 530, 3) := by decide +kernel
theorem d_M_beat_34 : decode Y_M_beat.2.1 34 = .ok (.lreturn, 1) := by decide +kernel
theorem d_M_beat_35 : decode Y_M_beat.2.1 35 = .ok (.aload_n 0, 1) := by decide +kernel
theorem d_M_beat_36 : decode Y_M_beat.2.1 36 = .ok (.invokevirtual 525, 3) := by decide +kernel
theorem d_M_beat_39 : decode Y_M_beat.2.1 39 = .ok (.iload_n 2, 1) := by decide +kernel
theorem d_M_beat_40 : decode Y_M_beat.2.1 40 = .ok (.ifCond .ne 11, 3) := by decide +kernel
theorem d_M_beat_43 : decode Y_M_beat.2.1 43 = .ok (.aload_n 0, 1) := by decide +kernel
theorem d_M_beat_44 : decode Y_M_beat.2.1 44 = .ok (.iload_n 1, 1) := by decide +kernel
theorem d_M_beat_45 : decode Y_M_beat.2.1 45 = .ok (.invokevirtual 519, 3) := by decide +kernel
theorem d_M_beat_48 : decode Y_M_beat.2.1 48 = .ok (.goto 35, 3) := by decide +kernel
theorem d_M_beat_51 : decode Y_M_beat.2.1 51 = .ok (.iload_n 2, 1) := by decide +kernel
theorem d_M_beat_52 : decode Y_M_beat.2.1 52 = .ok (.iconst 1, 1) := by decide +kernel
theorem d_M_beat_53 : decode Y_M_beat.2.1 53 = .ok (.if_icmp .ne 11, 3) := by decide +kernel
theorem d_M_beat_56 : decode Y_M_beat.2.1 56 = .ok (.aload_n 0, 1) := by decide +kernel
theorem d_M_beat_57 : decode Y_M_beat.2.1 57 = .ok (.iload_n 1, 1) := by decide +kernel
theorem d_M_beat_58 : decode Y_M_beat.2.1 58 = .ok (.invokevirtual 512, 3) := by decide +kernel
theorem d_M_beat_61 : decode Y_M_beat.2.1 61 = .ok (.goto 22, 3) := by decide +kernel
theorem d_M_beat_64 : decode Y_M_beat.2.1 64 = .ok (.iload_n 2, 1) := by decide +kernel
theorem d_M_beat_65 : decode Y_M_beat.2.1 65 = .ok (.iconst 2, 1) := by decide +kernel
theorem d_M_beat_66 : decode Y_M_beat.2.1 66 = .ok (.if_icmp .ne 12, 3) := by decide +kernel
theorem d_M_beat_69 : decode Y_M_beat.2.1 69 = .ok (.aload_n 0, 1) := by decide +kernel
theorem d_M_beat_70 : decode Y_M_beat.2.1 70 = .ok (.iload_n 1, 1) := by decide +kernel
theorem d_M_beat_71 : decode Y_M_beat.2.1 71 = .ok (.invokevirtual 438, 3) := by decide +kernel
theorem d_M_beat_74 : decode Y_M_beat.2.1 74 = .ok (.i2l, 1) := by decide +kernel
theorem d_M_beat_75 : decode Y_M_beat.2.1 75 = .ok (.goto 8, 3) := by decide +kernel
theorem d_M_beat_78 : decode Y_M_beat.2.1 78 = .ok (.aload_n 0, 1) := by decide +kernel
theorem d_M_beat_79 : decode Y_M_beat.2.1 79 = .ok (.iload_n 1, 1) := by decide +kernel
theorem d_M_beat_80 : decode Y_M_beat.2.1 80 = .ok (.invokevirtual 532, 3) := by decide +kernel
theorem d_M_beat_83 : decode Y_M_beat.2.1 83 = .ok (.lreturn, 1) := by decide +kernel
theorem d_Ch_firstBeat_0 : decode Y_Ch_firstBeat.2.1 0 = .ok (.iconst 0, 1) := by decide +kernel
theorem d_Ch_firstBeat_1 : decode Y_Ch_firstBeat.2.1 1 = .ok (.istore_n 1, 1) := by decide +kernel
theorem d_Ch_firstBeat_2 : decode Y_Ch_firstBeat.2.1 2 = .ok (.iload_n 1, 1) := by decide +kernel
theorem d_Ch_firstBeat_3 : decode Y_Ch_firstBeat.2.1 3 = .ok (.bipush 24, 2) := by decide +kernel
theorem d_Ch_firstBeat_5 : decode Y_Ch_firstBeat.2.1 5 = .ok (.if_icmp .ge 19, 3) := by decide +kernel
theorem d_Ch_firstBeat_8 : decode Y_Ch_firstBeat.2.1 8 = .ok (.aload_n 0, 1) := by decide +kernel
theorem d_Ch_firstBeat_9 : decode Y_Ch_firstBeat.2.1 9 = .ok (.iload_n 1, 1) := by decide +kernel
theorem d_Ch_firstBeat_10 : decode Y_Ch_firstBeat.2.1 10 = .ok (.invokevirtual 68, 3) := by decide +kernel
theorem d_Ch_firstBeat_13 : decode Y_Ch_firstBeat.2.1 13 = .ok (.ifCond .le 5, 3) := by decide +kernel
theorem d_Ch_firstBeat_16 : decode Y_Ch_firstBeat.2.1 16 = .ok (.iload_n 1, 1) := by decide +kernel
theorem d_Ch_firstBeat_17 : decode Y_Ch_firstBeat.2.1 17 = .ok (.ireturn, 1) := by decide +kernel
theorem d_Ch_firstBeat_18 : decode Y_Ch_firstBeat.2.1 18 = .ok (.iinc 1 1, 3) := by decide +kernel
theorem d_Ch_firstBeat_21 : decode Y_Ch_firstBeat.2.1 21 = .ok (.goto (-19), 3) := by decide +kernel
theorem d_Ch_firstBeat_24 : decode Y_Ch_firstBeat.2.1 24 = .ok (.iconst (-1), 1) := by decide +kernel
theorem d_Ch_firstBeat_25 : decode Y_Ch_firstBeat.2.1 25 = .ok (.ireturn, 1) := by decide +kernel
theorem d_Ch_lastBeat_0 : decode Y_Ch_lastBeat.2.1 0 = .ok (.bipush 23, 2) := by decide +kernel
theorem d_Ch_lastBeat_2 : decode Y_Ch_lastBeat.2.1 2 = .ok (.istore_n 1, 1) := by decide +kernel
theorem d_Ch_lastBeat_3 : decode Y_Ch_lastBeat.2.1 3 = .ok (.iload_n 1, 1) := by decide +kernel
theorem d_Ch_lastBeat_4 : decode Y_Ch_lastBeat.2.1 4 = .ok (.ifCond .lt 19, 3) := by decide +kernel
theorem d_Ch_lastBeat_7 : decode Y_Ch_lastBeat.2.1 7 = .ok (.aload_n 0, 1) := by decide +kernel
theorem d_Ch_lastBeat_8 : decode Y_Ch_lastBeat.2.1 8 = .ok (.iload_n 1, 1) := by decide +kernel
theorem d_Ch_lastBeat_9 : decode Y_Ch_lastBeat.2.1 9 = .ok (.invokevirtual 68, 3) := by decide +kernel
theorem d_Ch_lastBeat_12 : decode Y_Ch_lastBeat.2.1 12 = .ok (.ifCond .le 5, 3) := by decide +kernel
theorem d_Ch_lastBeat_15 : decode Y_Ch_lastBeat.2.1 15 = .ok (.iload_n 1, 1) := by decide +kernel
theorem d_Ch_lastBeat_16 : decode Y_Ch_lastBeat.2.1 16 = .ok (.ireturn, 1) := by decide +kernel
theorem d_Ch_lastBeat_17 : decode Y_Ch_lastBeat.2.1 17 = .ok (.iinc 1 (-1), 3) := by decide +kernel
theorem d_Ch_lastBeat_20 : decode Y_Ch_lastBeat.2.1 20 = .ok (.goto (-17), 3) := by decide +kernel
theorem d_Ch_lastBeat_23 : decode Y_Ch_lastBeat.2.1 23 = .ok (.iconst (-1), 1) := by decide +kernel
theorem d_Ch_lastBeat_24 : decode Y_Ch_lastBeat.2.1 24 = .ok (.ireturn, 1) := by decide +kernel
theorem d_Si_sinking_0 : decode Y_Si_sinking.2.1 0 = .ok (.aload_n 0, 1) := by decide +kernel
theorem d_Si_sinking_1 : decode Y_Si_sinking.2.1 1 = .ok (.aload_n 0, 1) := by decide +kernel
theorem d_Si_sinking_2 : decode Y_Si_sinking.2.1 2 = .ok (.getfield 46, 3) := by decide +kernel
theorem d_Si_sinking_5 : decode Y_Si_sinking.2.1 5 = .ok (.invokevirtual 199, 3) := by decide +kernel
theorem d_Si_sinking_8 : decode Y_Si_sinking.2.1 8 = .ok (.invokevirtual 202, 3) := by decide +kernel
theorem d_Si_sinking_11 : decode Y_Si_sinking.2.1 11 = .ok (.aload_n 0, 1) := by decide +kernel
theorem d_Si_sinking_12 : decode Y_Si_sinking.2.1 12 = .ok (.aload_n 0, 1) := by decide +kernel
theorem d_Si_sinking_13 : decode Y_Si_sinking.2.1 13 = .ok (.getfield 46, 3) := by decide +kernel
theorem d_Si_sinking_16 : decode Y_Si_sinking.2.1 16 = .ok (.invokevirtual 205, 3) := by decide +kernel
theorem d_Si_sinking_19 : decode Y_Si_sinking.2.1 19 = .ok (.invokevirtual 202, 3) := by decide +kernel
theorem d_Si_sinking_22 : decode Y_Si_sinking.2.1 22 = .ok (.lsub, 1) := by decide +kernel
theorem d_Si_sinking_23 : decode Y_Si_sinking.2.1 23 = .ok (.lreturn, 1) := by decide +kernel
theorem d_Ch_howManySing_0 : decode Y_Ch_howManySing.2.1 0 = .ok (.iconst 0, 1) := by decide +kernel
theorem d_Ch_howManySing_1 : decode Y_Ch_howManySing.2.1 1 = .ok (.istore_n 1, 1) := by decide +kernel
theorem d_Ch_howManySing_2 : decode Y_Ch_howManySing.2.1 2 = .ok (.iconst 0, 1) := by decide +kernel
theorem d_Ch_howManySing_3 : decode Y_Ch_howManySing.2.1 3 = .ok (.istore_n 2, 1) := by decide +kernel
theorem d_Ch_howManySing_4 : decode Y_Ch_howManySing.2.1 4 = .ok (.iload_n 2, 1) := by decide +kernel
theorem d_Ch_howManySing_5 : decode Y_Ch_howManySing.2.1 5 = .ok (.aload_n 0, 1) := by decide +kernel
theorem d_Ch_howManySing_6 : decode Y_Ch_howManySing.2.1 6 = .ok (.getfield 48, 3) := by decide +kernel
theorem d_Ch_howManySing_9 : decode Y_Ch_howManySing.2.1 9 = .ok (.if_icmp .ge 28, 3) := by decide +kernel
theorem d_Ch_howManySing_12 : decode Y_Ch_howManySing.2.1 12 = .ok (.iload_n 1, 1) := by decide +kernel
theorem d_Ch_howManySing_13 : decode Y_Ch_howManySing.2.1 13 = .ok (.aload_n 0, 1) := by decide +kernel
theorem d_Ch_howManySing_14 : decode Y_Ch_howManySing.2.1 14 = .ok (.iload_n 2, 1) := by decide +kernel
theorem d_Ch_howManySing_15 : decode Y_Ch_howManySing.2.1 15 = .ok (.bipush 24, 2) := by decide +kernel
theorem d_Ch_howManySing_17 : decode Y_Ch_howManySing.2.1 17 = .ok (.invokevirtual 64, 3) := by decide +kernel
theorem d_Ch_howManySing_20 : decode Y_Ch_howManySing.2.1 20 = .ok (.iconst (-1), 1) := by decide +kernel
theorem d_Ch_howManySing_21 : decode Y_Ch_howManySing.2.1 21 = .ok (.if_icmp .ne 7, 3) := by decide +kernel
theorem d_Ch_howManySing_24 : decode Y_Ch_howManySing.2.1 24 = .ok (.iconst 0, 1) := by decide +kernel
theorem d_Ch_howManySing_25 : decode Y_Ch_howManySing.2.1 25 = .ok (.goto 4, 3) := by decide +kernel
theorem d_Ch_howManySing_28 : decode Y_Ch_howManySing.2.1 28 = .ok (.iconst 1, 1) := by decide +kernel
theorem d_Ch_howManySing_29 : decode Y_Ch_howManySing.2.1 29 = .ok (.iadd, 1) := by decide +kernel
theorem d_Ch_howManySing_30 : decode Y_Ch_howManySing.2.1 30 = .ok (.istore_n 1, 1) := by decide +kernel
theorem d_Ch_howManySing_31 : decode Y_Ch_howManySing.2.1 31 = .ok (.iinc 2 1, 3) := by decide +kernel
theorem d_Ch_howManySing_34 : decode Y_Ch_howManySing.2.1 34 = .ok (.goto (-30), 3) := by decide +kernel
theorem d_Ch_howManySing_37 : decode Y_Ch_howManySing.2.1 37 = .ok (.iload_n 1, 1) := by decide +kernel
theorem d_Ch_howManySing_38 : decode Y_Ch_howManySing.2.1 38 = .ok (.ireturn, 1) := by decide +kernel
theorem d_Si_drifting_0 : decode Y_Si_drifting.2.1 0 = .ok (.aload_n 0, 1) := by decide +kernel
theorem d_Si_drifting_1 : decode Y_Si_drifting.2.1 1 = .ok (.getfield 46, 3) := by decide +kernel
theorem d_Si_drifting_4 : decode Y_Si_drifting.2.1 4 = .ok (.invokevirtual 208, 3) := by decide +kernel
theorem d_Si_drifting_7 : decode Y_Si_drifting.2.1 7 = .ok (.i2l, 1) := by decide +kernel
theorem d_Si_drifting_8 : decode Y_Si_drifting.2.1 8 = .ok (.lstore_n 1, 1) := by decide +kernel
theorem d_Si_drifting_9 : decode Y_Si_drifting.2.1 9 = .ok (.lload_n 1, 1) := by decide +kernel
theorem d_Si_drifting_10 : decode Y_Si_drifting.2.1 10 = .ok (.lconst 0, 1) := by decide +kernel
theorem d_Si_drifting_11 : decode Y_Si_drifting.2.1 11 = .ok (.lcmp, 1) := by decide +kernel
theorem d_Si_drifting_12 : decode Y_Si_drifting.2.1 12 = .ok (.ifCond .le 14, 3) := by decide +kernel
theorem d_Si_drifting_15 : decode Y_Si_drifting.2.1 15 = .ok (.aload_n 0, 1) := by decide +kernel
theorem d_Si_drifting_16 : decode Y_Si_drifting.2.1 16 = .ok (.getfield 76, 3) := by decide +kernel
theorem d_Si_drifting_19 : decode Y_Si_drifting.2.1 19 = .ok (.lload_n 1, 1) := by decide +kernel
theorem d_Si_drifting_20 : decode Y_Si_drifting.2.1 20 = .ok (.invokestatic 164, 3) := by decide +kernel
theorem d_Si_drifting_23 : decode Y_Si_drifting.2.1 23 = .ok (.goto 4, 3) := by decide +kernel
theorem d_Si_drifting_26 : decode Y_Si_drifting.2.1 26 = .ok (.lconst 0, 1) := by decide +kernel
theorem d_Si_drifting_27 : decode Y_Si_drifting.2.1 27 = .ok (.lreturn, 1) := by decide +kernel
theorem d_Si_foulTogether_0 : decode Y_Si_foulTogether.2.1 0 = .ok (.lconst 0, 1) := by decide +kernel
theorem d_Si_foulTogether_1 : decode Y_Si_foulTogether.2.1 1 = .ok (.lstore_n 1, 1) := by decide +kernel
theorem d_Si_foulTogether_2 : decode Y_Si_foulTogether.2.1 2 = .ok (.iconst 0, 1) := by decide +kernel
theorem d_Si_foulTogether_3 : decode Y_Si_foulTogether.2.1 3 = .ok (.istore_n 3, 1) := by decide +kernel
theorem d_Si_foulTogether_4 : decode Y_Si_foulTogether.2.1 4 = .ok (.iload_n 3, 1) := by decide +kernel
theorem d_Si_foulTogether_5 : decode Y_Si_foulTogether.2.1 5 = .ok (.bipush 24, 2) := by decide +kernel
theorem d_Si_foulTogether_7 : decode Y_Si_foulTogether.2.1 7 = .ok (.if_icmp .ge 17, 3) := by decide +kernel
theorem d_Si_foulTogether_10 : decode Y_Si_foulTogether.2.1 10 = .ok (.lload_n 1, 1) := by decide +kernel
theorem d_Si_foulTogether_11 : decode Y_Si_foulTogether.2.1 11 = .ok (.aload_n 0, 1) := by decide +kernel
theorem d_Si_foulTogether_12 : decode Y_Si_foulTogether.2.1 12 = .ok (.iload_n 3, 1) := by decide +kernel
theorem d_Si_foulTogether_13 : decode Y_Si_foulTogether.2.1 13 = .ok (.invokevirtual 195, 3) := by decide +kernel
theorem d_Si_foulTogether_16 : decode Y_Si_foulTogether.2.1 16 = .ok (.ladd, 1) := by decide +kernel
theorem d_Si_foulTogether_17 : decode Y_Si_foulTogether.2.1 17 = .ok (.lstore_n 1, 1) := by decide +kernel
theorem d_Si_foulTogether_18 : decode Y_Si_foulTogether.2.1 18 = .ok (.iinc 3 1, 3) := by decide +kernel
theorem d_Si_foulTogether_21 : decode Y_Si_foulTogether.2.1 21 = .ok (.goto (-17), 3) := by decide +kernel
theorem d_Si_foulTogether_24 : decode Y_Si_foulTogether.2.1 24 = .ok (.lload_n 1, 1) := by decide +kernel
theorem d_Si_foulTogether_25 : decode Y_Si_foulTogether.2.1 25 = .ok (.lreturn, 1) := by decide +kernel
theorem d_X_sunk_0 : decode Y_X_sunk.2.1 0 = .ok (.iload_n 1, 1) := by decide +kernel
theorem d_X_sunk_1 : decode Y_X_sunk.2.1 1 = .ok (.ifCond .lt 19, 3) := by decide +kernel
theorem d_X_sunk_4 : decode Y_X_sunk.2.1 4 = .ok (.iload_n 1, 1) := by decide +kernel
theorem d_X_sunk_5 : decode Y_X_sunk.2.1 5 = .ok (.iconst 4, 1) := by decide +kernel
theorem d_X_sunk_6 : decode Y_X_sunk.2.1 6 = .ok (.if_icmp .gt 14, 3) := by decide +kernel
theorem d_X_sunk_9 : decode Y_X_sunk.2.1 9 = .ok (.aload_n 0, 1) := by decide +kernel
theorem d_X_sunk_10 : decode Y_X_sunk.2.1 10 = .ok (.getfield 21, 3) := by decide +kernel
theorem d_X_sunk_13 : decode Y_X_sunk.2.1 13 = .ok (.invokevirtual 254, 3) := by decide +kernel
theorem d_X_sunk_16 : decode Y_X_sunk.2.1 16 = .ok (.iconst (-1), 1) := by decide +kernel
theorem d_X_sunk_17 : decode Y_X_sunk.2.1 17 = .ok (.if_icmp .ne 7, 3) := by decide +kernel
theorem d_X_sunk_20 : decode Y_X_sunk.2.1 20 = .ok (.ldc2_w 239, 3) := by decide +kernel
theorem d_X_sunk_23 : decode Y_X_sunk.2.1 23 = .ok (.lreturn, 1) := by decide +kernel
theorem d_X_sunk_24 : decode Y_X_sunk.2.1 24 = .ok (.aload_n 0, 1) := by decide +kernel
theorem d_X_sunk_25 : decode Y_X_sunk.2.1 25 = .ok (.getfield 30, 3) := by decide +kernel
theorem d_X_sunk_28 : decode Y_X_sunk.2.1 28 = .ok (.invokevirtual 232, 3) := by decide +kernel
theorem d_X_sunk_31 : decode Y_X_sunk.2.1 31 = .ok (.aload_n 0, 1) := by decide +kernel
theorem d_X_sunk_32 : decode Y_X_sunk.2.1 32 = .ok (.getfield 10, 3) := by decide +kernel
theorem d_X_sunk_35 : decode Y_X_sunk.2.1 35 = .ok (.getfield 114, 3) := by decide +kernel
theorem d_X_sunk_38 : decode Y_X_sunk.2.1 38 = .ok (.aload_n 0, 1) := by decide +kernel
theorem d_X_sunk_39 : decode Y_X_sunk.2.1 39 = .ok (.getfield 21, 3) := by decide +kernel
theorem d_X_sunk_42 : decode Y_X_sunk.2.1 42 = .ok (.invokevirtual 257, 3) := by decide +kernel
theorem d_X_sunk_45 : decode Y_X_sunk.2.1 45 = .ok (.iaload, 1) := by decide +kernel
theorem d_X_sunk_46 : decode Y_X_sunk.2.1 46 = .ok (.aload_n 0, 1) := by decide +kernel
theorem d_X_sunk_47 : decode Y_X_sunk.2.1 47 = .ok (.getfield 10, 3) := by decide +kernel
theorem d_X_sunk_50 : decode Y_X_sunk.2.1 50 = .ok (.getfield 114, 3) := by decide +kernel
theorem d_X_sunk_53 : decode Y_X_sunk.2.1 53 = .ok (.aload_n 0, 1) := by decide +kernel
theorem d_X_sunk_54 : decode Y_X_sunk.2.1 54 = .ok (.getfield 21, 3) := by decide +kernel
theorem d_X_sunk_57 : decode Y_X_sunk.2.1 57 = .ok (.invokevirtual 254, 3) := by decide +kernel
theorem d_X_sunk_60 : decode Y_X_sunk.2.1 60 = .ok (.iaload, 1) := by decide +kernel
theorem d_X_sunk_61 : decode Y_X_sunk.2.1 61 = .ok (.isub, 1) := by decide +kernel
theorem d_X_sunk_62 : decode Y_X_sunk.2.1 62 = .ok (.i2l, 1) := by decide +kernel
theorem d_X_sunk_63 : decode Y_X_sunk.2.1 63 = .ok (.lstore_n 2, 1) := by decide +kernel
theorem d_X_sunk_64 : decode Y_X_sunk.2.1 64 = .ok (.iload_n 1, 1) := by decide +kernel
theorem d_X_sunk_65 : decode Y_X_sunk.2.1 65 = .ok (.tableswitch 67 0 3 #[31, 39, 41, 49], 31) := by decide +kernel
theorem d_X_sunk_96 : decode Y_X_sunk.2.1 96 = .ok (.aload_n 0, 1) := by decide +kernel
theorem d_X_sunk_97 : decode Y_X_sunk.2.1 97 = .ok (.getfield 30, 3) := by decide +kernel
theorem d_X_sunk_100 : decode Y_X_sunk.2.1 100 = .ok (.invokevirtual 258, 3) := by decide +kernel
theorem d_X_sunk_103 : decode Y_X_sunk.2.1 103 = .ok (.lreturn, 1) := by decide +kernel
theorem d_X_sunk_104 : decode Y_X_sunk.2.1 104 = .ok (.lload_n 2, 1) := by decide +kernel
theorem d_X_sunk_105 : decode Y_X_sunk.2.1 105 = .ok (.lreturn, 1) := by decide +kernel
theorem d_X_sunk_106 : decode Y_X_sunk.2.1 106 = .ok (.aload_n 0, 1) := by decide +kernel
theorem d_X_sunk_107 : decode Y_X_sunk.2.1 107 = .ok (.getfield 30, 3) := by decide +kernel
theorem d_X_sunk_110 : decode Y_X_sunk.2.1 110 = .ok (.invokevirtual 262, 3) := by decide +kernel
theorem d_X_sunk_113 : decode Y_X_sunk.2.1 113 = .ok (.lreturn, 1) := by decide +kernel
theorem d_X_sunk_114 : decode Y_X_sunk.2.1 114 = .ok (.aload_n 0, 1) := by decide +kernel
theorem d_X_sunk_115 : decode Y_X_sunk.2.1 115 = .ok (.getfield 30, 3) := by decide +kernel
theorem d_X_sunk_118 : decode Y_X_sunk.2.1 118 = .ok (.invokevirtual 258, 3) := by decide +kernel
theorem d_X_sunk_121 : decode Y_X_sunk.2.1 121 = .ok (.lload_n 2, 1) := by decide +kernel
theorem d_X_sunk_122 : decode Y_X_sunk.2.1 122 = .ok (.lsub, 1) := by decide +kernel
theorem d_X_sunk_123 : decode Y_X_sunk.2.1 123 = .ok (.aload_n 0, 1) := by decide +kernel
theorem d_X_sunk_124 : decode Y_X_sunk.2.1 124 = .ok (.getfield 30, 3) := by decide +kernel
theorem d_X_sunk_127 : decode Y_X_sunk.2.1 127 = .ok (.invokevirtual 262, 3) := by decide +kernel
theorem d_X_sunk_130 : decode Y_X_sunk.2.1 130 = .ok (.lsub, 1) := by decide +kernel
theorem d_X_sunk_131 : decode Y_X_sunk.2.1 131 = .ok (.lreturn, 1) := by decide +kernel
theorem d_X_sunk_132 : decode Y_X_sunk.2.1 132 = .ok (.aload_n 0, 1) := by decide +kernel
theorem d_X_sunk_133 : decode Y_X_sunk.2.1 133 = .ok (.getfield 30, 3) := by decide +kernel
theorem d_X_sunk_136 : decode Y_X_sunk.2.1 136 = .ok (.invokevirtual 265, 3) := by decide +kernel
theorem d_X_sunk_139 : decode Y_X_sunk.2.1 139 = .ok (.lreturn, 1) := by decide +kernel
theorem d_M_firstSung_0 : decode Y_M_firstSung.2.1 0 = .ok (.iconst 0, 1) := by decide +kernel
theorem d_M_firstSung_1 : decode Y_M_firstSung.2.1 1 = .ok (.istore_n 1, 1) := by decide +kernel
theorem d_M_firstSung_2 : decode Y_M_firstSung.2.1 2 = .ok (.iload_n 1, 1) := by decide +kernel
theorem d_M_firstSung_3 : decode Y_M_firstSung.2.1 3 = .ok (.bipush 24, 2) := by decide +kernel
theorem d_M_firstSung_5 : decode Y_M_firstSung.2.1 5 = .ok (.if_icmp .ge 19, 3) := by decide +kernel
theorem d_M_firstSung_8 : decode Y_M_firstSung.2.1 8 = .ok (.aload_n 0, 1) := by decide +kernel
theorem d_M_firstSung_9 : decode Y_M_firstSung.2.1 9 = .ok (.iload_n 1, 1) := by decide +kernel
theorem d_M_firstSung_10 : decode Y_M_firstSung.2.1 10 = .ok (.invokevirtual 438, 3) := by decide +kernel
theorem d_M_firstSung_13 : decode Y_M_firstSung.2.1 13 = .ok (.ifCond .le 5, 3) := by decide +kernel
theorem d_M_firstSung_16 : decode Y_M_firstSung.2.1 16 = .ok (.iload_n 1, 1) := by decide +kernel
theorem d_M_firstSung_17 : decode Y_M_firstSung.2.1 17 = .ok (.ireturn, 1) := by decide +kernel
theorem d_M_firstSung_18 : decode Y_M_firstSung.2.1 18 = .ok (.iinc 1 1, 3) := by decide +kernel
theorem d_M_firstSung_21 : decode Y_M_firstSung.2.1 21 = .ok (.goto (-19), 3) := by decide +kernel
theorem d_M_firstSung_24 : decode Y_M_firstSung.2.1 24 = .ok (.iconst (-1), 1) := by decide +kernel
theorem d_M_firstSung_25 : decode Y_M_firstSung.2.1 25 = .ok (.ireturn, 1) := by decide +kernel
theorem d_M_lastSung_0 : decode Y_M_lastSung.2.1 0 = .ok (.bipush 23, 2) := by decide +kernel
theorem d_M_lastSung_2 : decode Y_M_lastSung.2.1 2 = .ok (.istore_n 1, 1) := by decide +kernel
theorem d_M_lastSung_3 : decode Y_M_lastSung.2.1 3 = .ok (.iload_n 1, 1) := by decide +kernel
theorem d_M_lastSung_4 : decode Y_M_lastSung.2.1 4 = .ok (.ifCond .lt 19, 3) := by decide +kernel
theorem d_M_lastSung_7 : decode Y_M_lastSung.2.1 7 = .ok (.aload_n 0, 1) := by decide +kernel
theorem d_M_lastSung_8 : decode Y_M_lastSung.2.1 8 = .ok (.iload_n 1, 1) := by decide +kernel
theorem d_M_lastSung_9 : decode Y_M_lastSung.2.1 9 = .ok (.invokevirtual 438, 3) := by decide +kernel
theorem d_M_lastSung_12 : decode Y_M_lastSung.2.1 12 = .ok (.ifCond .le 5, 3) := by decide +kernel
theorem d_M_lastSung_15 : decode Y_M_lastSung.2.1 15 = .ok (.iload_n 1, 1) := by decide +kernel
theorem d_M_lastSung_16 : decode Y_M_lastSung.2.1 16 = .ok (.ireturn, 1) := by decide +kernel
theorem d_M_lastSung_17 : decode Y_M_lastSung.2.1 17 = .ok (.iinc 1 (-1), 3) := by decide +kernel
theorem d_M_lastSung_20 : decode Y_M_lastSung.2.1 20 = .ok (.goto (-17), 3) := by decide +kernel
theorem d_M_lastSung_23 : decode Y_M_lastSung.2.1 23 = .ok (.iconst (-1), 1) := by decide +kernel
theorem d_M_lastSung_24 : decode Y_M_lastSung.2.1 24 = .ok (.ireturn, 1) := by decide +kernel
theorem d_M_sunkNow_0 : decode Y_M_sunkNow.2.1 0 = .ok (.aload_n 0, 1) := by decide +kernel
theorem d_M_sunkNow_1 : decode Y_M_sunkNow.2.1 1 = .ok (.aload_n 0, 1) := by decide +kernel
theorem d_M_sunkNow_2 : decode Y_M_sunkNow.2.1 2 = .ok (.invokevirtual 516, 3) := by decide +kernel
theorem d_M_sunkNow_5 : decode Y_M_sunkNow.2.1 5 = .ok (.invokevirtual 519, 3) := by decide +kernel
theorem d_M_sunkNow_8 : decode Y_M_sunkNow.2.1 8 = .ok (.aload_n 0, 1) := by decide +kernel
theorem d_M_sunkNow_9 : decode Y_M_sunkNow.2.1 9 = .ok (.aload_n 0, 1) := by decide +kernel
theorem d_M_sunkNow_10 : decode Y_M_sunkNow.2.1 10 = .ok (.invokevirtual 522, 3) := by decide +kernel
theorem d_M_sunkNow_13 : decode Y_M_sunkNow.2.1 13 = .ok (.invokevirtual 519, 3) := by decide +kernel
theorem d_M_sunkNow_16 : decode Y_M_sunkNow.2.1 16 = .ok (.lsub, 1) := by decide +kernel
theorem d_M_sunkNow_17 : decode Y_M_sunkNow.2.1 17 = .ok (.lreturn, 1) := by decide +kernel
theorem d_M_sungMany_0 : decode Y_M_sungMany.2.1 0 = .ok (.iconst 0, 1) := by decide +kernel
theorem d_M_sungMany_1 : decode Y_M_sungMany.2.1 1 = .ok (.istore_n 1, 1) := by decide +kernel
theorem d_M_sungMany_2 : decode Y_M_sungMany.2.1 2 = .ok (.iconst 0, 1) := by decide +kernel
theorem d_M_sungMany_3 : decode Y_M_sungMany.2.1 3 = .ok (.istore_n 2, 1) := by decide +kernel
theorem d_M_sungMany_4 : decode Y_M_sungMany.2.1 4 = .ok (.iload_n 2, 1) := by decide +kernel
theorem d_M_sungMany_5 : decode Y_M_sungMany.2.1 5 = .ok (.aload_n 0, 1) := by decide +kernel
theorem d_M_sungMany_6 : decode Y_M_sungMany.2.1 6 = .ok (.getfield 275, 3) := by decide +kernel
theorem d_M_sungMany_9 : decode Y_M_sungMany.2.1 9 = .ok (.if_icmp .ge 59, 3) := by decide +kernel
theorem d_M_sungMany_12 : decode Y_M_sungMany.2.1 12 = .ok (.iconst 0, 1) := by decide +kernel
theorem d_M_sungMany_13 : decode Y_M_sungMany.2.1 13 = .ok (.istore_n 3, 1) := by decide +kernel
theorem d_M_sungMany_14 : decode Y_M_sungMany.2.1 14 = .ok (.iconst 0, 1) := by decide +kernel
theorem d_M_sungMany_15 : decode Y_M_sungMany.2.1 15 = .ok (.istore 4, 2) := by decide +kernel
theorem d_M_sungMany_17 : decode Y_M_sungMany.2.1 17 = .ok (.iload 4, 2) := by decide +kernel
theorem d_M_sungMany_19 : decode Y_M_sungMany.2.1 19 = .ok (.bipush 24, 2) := by decide +kernel
theorem d_M_sungMany_21 : decode Y_M_sungMany.2.1 21 = .ok (.if_icmp .ge 29, 3) := by decide +kernel
theorem d_M_sungMany_24 : decode Y_M_sungMany.2.1 24 = .ok (.iload_n 3, 1) := by decide +kernel
theorem d_M_sungMany_25 : decode Y_M_sungMany.2.1 25 = .ok (.ifCond .ne 13, 3) := by decide +kernel
theorem d_M_sungMany_28 : decode Y_M_sungMany.2.1 28 = .ok (.aload_n 0, 1) := by decide +kernel
theorem d_M_sungMany_29 : decode Y_M_sungMany.2.1 29 = .ok (.iload_n 2, 1) := by decide +kernel
theorem d_M_sungMany_30 : decode Y_M_sungMany.2.1 30 = .ok (.iload 4, 2) := by decide +kernel
theorem d_M_sungMany_32 : decode Y_M_sungMany.2.1 32 = .ok (.invokevirtual 423, 3) := by decide +kernel
theorem d_M_sungMany_35 : decode Y_M_sungMany.2.1 35 = .ok (.ifCond .eq 7, 3) := by decide +kernel
theorem d_M_sungMany_38 : decode Y_M_sungMany.2.1 38 = .ok (.iconst 1, 1) := by decide +kernel
theorem d_M_sungMany_39 : decode Y_M_sungMany.2.1 39 = .ok (.goto 4, 3) := by decide +kernel
theorem d_M_sungMany_42 : decode Y_M_sungMany.2.1 42 = .ok (.iconst 0, 1) := by decide +kernel
theorem d_M_sungMany_43 : decode Y_M_sungMany.2.1 43 = .ok (.istore_n 3, 1) := by decide +kernel
theorem d_M_sungMany_44 : decode Y_M_sungMany.2.1 44 = .ok (.iinc 4 1, 3) := by decide +kernel
theorem d_M_sungMany_47 : decode Y_M_sungMany.2.1 47 = .ok (.goto (-30), 3) := by decide +kernel
theorem d_M_sungMany_50 : decode Y_M_sungMany.2.1 50 = .ok (.iload_n 1, 1) := by decide +kernel
theorem d_M_sungMany_51 : decode Y_M_sungMany.2.1 51 = .ok (.iload_n 3, 1) := by decide +kernel
theorem d_M_sungMany_52 : decode Y_M_sungMany.2.1 52 = .ok (.ifCond .eq 7, 3) := by decide +kernel
theorem d_M_sungMany_55 : decode Y_M_sungMany.2.1 55 = .ok (.iconst 1, 1) := by decide +kernel
theorem d_M_sungMany_56 : decode Y_M_sungMany.2.1 56 = .ok (.goto 4, 3) := by decide +kernel
theorem d_M_sungMany_59 : decode Y_M_sungMany.2.1 59 = .ok (.iconst 0, 1) := by decide +kernel
theorem d_M_sungMany_60 : decode Y_M_sungMany.2.1 60 = .ok (.iadd, 1) := by decide +kernel
theorem d_M_sungMany_61 : decode Y_M_sungMany.2.1 61 = .ok (.istore_n 1, 1) := by decide +kernel
theorem d_M_sungMany_62 : decode Y_M_sungMany.2.1 62 = .ok (.iinc 2 1, 3) := by decide +kernel
theorem d_M_sungMany_65 : decode Y_M_sungMany.2.1 65 = .ok (.goto (-61), 3) := by decide +kernel
theorem d_M_sungMany_68 : decode Y_M_sungMany.2.1 68 = .ok (.iload_n 1, 1) := by decide +kernel
theorem d_M_sungMany_69 : decode Y_M_sungMany.2.1 69 = .ok (.ireturn, 1) := by decide +kernel
theorem d_M_allFoul_0 : decode Y_M_allFoul.2.1 0 = .ok (.lconst 0, 1) := by decide +kernel
theorem d_M_allFoul_1 : decode Y_M_allFoul.2.1 1 = .ok (.lstore_n 1, 1) := by decide +kernel
theorem d_M_allFoul_2 : decode Y_M_allFoul.2.1 2 = .ok (.iconst 0, 1) := by decide +kernel
theorem d_M_allFoul_3 : decode Y_M_allFoul.2.1 3 = .ok (.istore_n 3, 1) := by decide +kernel
theorem d_M_allFoul_4 : decode Y_M_allFoul.2.1 4 = .ok (.iload_n 3, 1) := by decide +kernel
theorem d_M_allFoul_5 : decode Y_M_allFoul.2.1 5 = .ok (.bipush 24, 2) := by decide +kernel
theorem d_M_allFoul_7 : decode Y_M_allFoul.2.1 7 = .ok (.if_icmp .ge 17, 3) := by decide +kernel
theorem d_M_allFoul_10 : decode Y_M_allFoul.2.1 10 = .ok (.lload_n 1, 1) := by decide +kernel
theorem d_M_allFoul_11 : decode Y_M_allFoul.2.1 11 = .ok (.aload_n 0, 1) := by decide +kernel
theorem d_M_allFoul_12 : decode Y_M_allFoul.2.1 12 = .ok (.iload_n 3, 1) := by decide +kernel
theorem d_M_allFoul_13 : decode Y_M_allFoul.2.1 13 = .ok (.invokevirtual 512, 3) := by decide +kernel
theorem d_M_allFoul_16 : decode Y_M_allFoul.2.1 16 = .ok (.ladd, 1) := by decide +kernel
theorem d_M_allFoul_17 : decode Y_M_allFoul.2.1 17 = .ok (.lstore_n 1, 1) := by decide +kernel
theorem d_M_allFoul_18 : decode Y_M_allFoul.2.1 18 = .ok (.iinc 3 1, 3) := by decide +kernel
theorem d_M_allFoul_21 : decode Y_M_allFoul.2.1 21 = .ok (.goto (-17), 3) := by decide +kernel
theorem d_M_allFoul_24 : decode Y_M_allFoul.2.1 24 = .ok (.lload_n 1, 1) := by decide +kernel
theorem d_M_allFoul_25 : decode Y_M_allFoul.2.1 25 = .ok (.lreturn, 1) := by decide +kernel
theorem d_M_sunk_0 : decode Y_M_sunk.2.1 0 = .ok (.aload_n 0, 1) := by decide +kernel
theorem d_M_sunk_1 : decode Y_M_sunk.2.1 1 = .ok (.invokevirtual 522, 3) := by decide +kernel
theorem d_M_sunk_4 : decode Y_M_sunk.2.1 4 = .ok (.iconst (-1), 1) := by decide +kernel
theorem d_M_sunk_5 : decode Y_M_sunk.2.1 5 = .ok (.if_icmp .eq 15, 3) := by decide +kernel
theorem d_M_sunk_8 : decode Y_M_sunk.2.1 8 = .ok (.iload_n 1, 1) := by decide +kernel
theorem d_M_sunk_9 : decode Y_M_sunk.2.1 9 = .ok (.i2l, 1) := by decide +kernel
theorem d_M_sunk_10 : decode Y_M_sunk.2.1 10 = .ok (.lconst 0, 1) := by decide +kernel
theorem d_M_sunk_11 : decode Y_M_sunk.2.1 11 = .ok (.ldc2_w 535, 3) := by decide +kernel
theorem d_M_sunk_14 : decode Y_M_sunk.2.1 14 = .ok (.invokestatic 145, 3) := by decide +kernel
theorem d_M_sunk_17 : decode Y_M_sunk.2.1 17 = .ok (.ifCond .ne 7, 3) := by decide +kernel
theorem d_M_sunk_20 : decode Y_M_sunk.2.1 20 = .ok (.ldc2_w 530, 3) := by decide +kernel
theorem d_M_sunk_23 : decode Y_M_sunk.2.1 23 = .ok (.lreturn, 1) := by decide +kernel
theorem d_M_sunk_24 : decode Y_M_sunk.2.1 24 = .ok (.aload_n 0, 1) := by decide +kernel
theorem d_M_sunk_25 : decode Y_M_sunk.2.1 25 = .ok (.invokevirtual 525, 3) := by decide +kernel
theorem d_M_sunk_28 : decode Y_M_sunk.2.1 28 = .ok (.aload_n 0, 1) := by decide +kernel
theorem d_M_sunk_29 : decode Y_M_sunk.2.1 29 = .ok (.invokevirtual 537, 3) := by decide +kernel
theorem d_M_sunk_32 : decode Y_M_sunk.2.1 32 = .ok (.lstore_n 2, 1) := by decide +kernel
theorem d_M_sunk_33 : decode Y_M_sunk.2.1 33 = .ok (.aload_n 0, 1) := by decide +kernel
theorem d_M_sunk_34 : decode Y_M_sunk.2.1 34 = .ok (.aload_n 0, 1) := by decide +kernel
theorem d_M_sunk_35 : decode Y_M_sunk.2.1 35 = .ok (.invokevirtual 516, 3) := by decide +kernel
theorem d_M_sunk_38 : decode Y_M_sunk.2.1 38 = .ok (.invokevirtual 231, 3) := by decide +kernel
theorem d_M_sunk_41 : decode Y_M_sunk.2.1 41 = .ok (.aload_n 0, 1) := by decide +kernel
theorem d_M_sunk_42 : decode Y_M_sunk.2.1 42 = .ok (.aload_n 0, 1) := by decide +kernel
theorem d_M_sunk_43 : decode Y_M_sunk.2.1 43 = .ok (.invokevirtual 522, 3) := by decide +kernel
theorem d_M_sunk_46 : decode Y_M_sunk.2.1 46 = .ok (.invokevirtual 231, 3) := by decide +kernel
theorem d_M_sunk_49 : decode Y_M_sunk.2.1 49 = .ok (.isub, 1) := by decide +kernel
theorem d_M_sunk_50 : decode Y_M_sunk.2.1 50 = .ok (.i2l, 1) := by decide +kernel
theorem d_M_sunk_51 : decode Y_M_sunk.2.1 51 = .ok (.lstore 4, 2) := by decide +kernel
theorem d_M_sunk_53 : decode Y_M_sunk.2.1 53 = .ok (.aload_n 0, 1) := by decide +kernel
theorem d_M_sunk_54 : decode Y_M_sunk.2.1 54 = .ok (.getfield 490, 3) := by decide +kernel
theorem d_M_sunk_57 : decode Y_M_sunk.2.1 57 = .ok (.aload_n 0, 1) := by decide +kernel
theorem d_M_sunk_58 : decode Y_M_sunk.2.1 58 = .ok (.invokevirtual 541, 3) := by decide +kernel
theorem d_M_sunk_61 : decode Y_M_sunk.2.1 61 = .ok (.i2l, 1) := by decide +kernel
theorem d_M_sunk_62 : decode Y_M_sunk.2.1 62 = .ok (.invokestatic 446, 3) := by decide +kernel
theorem d_M_sunk_65 : decode Y_M_sunk.2.1 65 = .ok (.lstore 6, 2) := by decide +kernel
theorem d_M_sunk_67 : decode Y_M_sunk.2.1 67 = .ok (.iload_n 1, 1) := by decide +kernel
theorem d_M_sunk_68 : decode Y_M_sunk.2.1 68 = .ok (.ifCond .ne 7, 3) := by decide +kernel
theorem d_M_sunk_71 : decode Y_M_sunk.2.1 71 = .ok (.lload_n 2, 1) := by decide +kernel
theorem d_M_sunk_72 : decode Y_M_sunk.2.1 72 = .ok (.goto 42, 3) := by decide +kernel
theorem d_M_sunk_75 : decode Y_M_sunk.2.1 75 = .ok (.iload_n 1, 1) := by decide +kernel
theorem d_M_sunk_76 : decode Y_M_sunk.2.1 76 = .ok (.iconst 1, 1) := by decide +kernel
theorem d_M_sunk_77 : decode Y_M_sunk.2.1 77 = .ok (.if_icmp .ne 8, 3) := by decide +kernel
theorem d_M_sunk_80 : decode Y_M_sunk.2.1 80 = .ok (.lload 4, 2) := by decide +kernel
theorem d_M_sunk_82 : decode Y_M_sunk.2.1 82 = .ok (.goto 32, 3) := by decide +kernel
theorem d_M_sunk_85 : decode Y_M_sunk.2.1 85 = .ok (.iload_n 1, 1) := by decide +kernel
theorem d_M_sunk_86 : decode Y_M_sunk.2.1 86 = .ok (.iconst 2, 1) := by decide +kernel
theorem d_M_sunk_87 : decode Y_M_sunk.2.1 87 = .ok (.if_icmp .ne 8, 3) := by decide +kernel
theorem d_M_sunk_90 : decode Y_M_sunk.2.1 90 = .ok (.lload 6, 2) := by decide +kernel
theorem d_M_sunk_92 : decode Y_M_sunk.2.1 92 = .ok (.goto 22, 3) := by decide +kernel
theorem d_M_sunk_95 : decode Y_M_sunk.2.1 95 = .ok (.iload_n 1, 1) := by decide +kernel
theorem d_M_sunk_96 : decode Y_M_sunk.2.1 96 = .ok (.iconst 3, 1) := by decide +kernel
theorem d_M_sunk_97 : decode Y_M_sunk.2.1 97 = .ok (.if_icmp .ne 13, 3) := by decide +kernel
theorem d_M_sunk_100 : decode Y_M_sunk.2.1 100 = .ok (.lload_n 2, 1) := by decide +kernel
theorem d_M_sunk_101 : decode Y_M_sunk.2.1 101 = .ok (.lload 4, 2) := by decide +kernel
theorem d_M_sunk_103 : decode Y_M_sunk.2.1 103 = .ok (.lsub, 1) := by decide +kernel
theorem d_M_sunk_104 : decode Y_M_sunk.2.1 104 = .ok (.lload 6, 2) := by decide +kernel
theorem d_M_sunk_106 : decode Y_M_sunk.2.1 106 = .ok (.lsub, 1) := by decide +kernel
theorem d_M_sunk_107 : decode Y_M_sunk.2.1 107 = .ok (.goto 7, 3) := by decide +kernel
theorem d_M_sunk_110 : decode Y_M_sunk.2.1 110 = .ok (.aload_n 0, 1) := by decide +kernel
theorem d_M_sunk_111 : decode Y_M_sunk.2.1 111 = .ok (.invokevirtual 544, 3) := by decide +kernel
theorem d_M_sunk_114 : decode Y_M_sunk.2.1 114 = .ok (.lreturn, 1) := by decide +kernel
theorem d_X_hears_0 : decode Y_X_hears.2.1 0 = .ok (.aload_n 0, 1) := by decide +kernel
theorem d_X_hears_1 : decode Y_X_hears.2.1 1 = .ok (.getfield 21, 3) := by decide +kernel
theorem d_X_hears_4 : decode Y_X_hears.2.1 4 = .ok (.iload_n 1, 1) := by decide +kernel
theorem d_X_hears_5 : decode Y_X_hears.2.1 5 = .ok (.invokevirtual 179, 3) := by decide +kernel
theorem d_X_hears_8 : decode Y_X_hears.2.1 8 = .ok (.ifCond .eq 52, 3) := by decide +kernel
theorem d_X_hears_11 : decode Y_X_hears.2.1 11 = .ok (.aload_n 0, 1) := by decide +kernel
theorem d_X_hears_12 : decode Y_X_hears.2.1 12 = .ok (.getfield 21, 3) := by decide +kernel
theorem d_X_hears_15 : decode Y_X_hears.2.1 15 = .ok (.iload_n 2, 1) := by decide +kernel
theorem d_X_hears_16 : decode Y_X_hears.2.1 16 = .ok (.invokevirtual 179, 3) := by decide +kernel
theorem d_X_hears_19 : decode Y_X_hears.2.1 19 = .ok (.ifCond .eq 41, 3) := by decide +kernel
theorem d_X_hears_22 : decode Y_X_hears.2.1 22 = .ok (.iload_n 1, 1) := by decide +kernel
theorem d_X_hears_23 : decode Y_X_hears.2.1 23 = .ok (.iload_n 2, 1) := by decide +kernel
theorem d_X_hears_24 : decode Y_X_hears.2.1 24 = .ok (.if_icmp .eq 36, 3) := by decide +kernel
theorem d_X_hears_27 : decode Y_X_hears.2.1 27 = .ok (.aload_n 0, 1) := by decide +kernel
theorem d_X_hears_28 : decode Y_X_hears.2.1 28 = .ok (.getfield 21, 3) := by decide +kernel
theorem d_X_hears_31 : decode Y_X_hears.2.1 31 = .ok (.getfield 173, 3) := by decide +kernel
theorem d_X_hears_34 : decode Y_X_hears.2.1 34 = .ok (.iload_n 2, 1) := by decide +kernel
theorem d_X_hears_35 : decode Y_X_hears.2.1 35 = .ok (.iaload, 1) := by decide +kernel
theorem d_X_hears_36 : decode Y_X_hears.2.1 36 = .ok (.aload_n 0, 1) := by decide +kernel
theorem d_X_hears_37 : decode Y_X_hears.2.1 37 = .ok (.getfield 21, 3) := by decide +kernel
theorem d_X_hears_40 : decode Y_X_hears.2.1 40 = .ok (.getfield 170, 3) := by decide +kernel
theorem d_X_hears_43 : decode Y_X_hears.2.1 43 = .ok (.iload_n 1, 1) := by decide +kernel
theorem d_X_hears_44 : decode Y_X_hears.2.1 44 = .ok (.iaload, 1) := by decide +kernel
theorem d_X_hears_45 : decode Y_X_hears.2.1 45 = .ok (.aload_n 0, 1) := by decide +kernel
theorem d_X_hears_46 : decode Y_X_hears.2.1 46 = .ok (.getfield 21, 3) := by decide +kernel
theorem d_X_hears_49 : decode Y_X_hears.2.1 49 = .ok (.getfield 170, 3) := by decide +kernel
theorem d_X_hears_52 : decode Y_X_hears.2.1 52 = .ok (.iload_n 2, 1) := by decide +kernel
theorem d_X_hears_53 : decode Y_X_hears.2.1 53 = .ok (.iaload, 1) := by decide +kernel
theorem d_X_hears_54 : decode Y_X_hears.2.1 54 = .ok (.invokestatic 268, 3) := by decide +kernel
theorem d_X_hears_57 : decode Y_X_hears.2.1 57 = .ok (.goto 4, 3) := by decide +kernel
theorem d_X_hears_60 : decode Y_X_hears.2.1 60 = .ok (.iconst (-1), 1) := by decide +kernel
theorem d_X_hears_61 : decode Y_X_hears.2.1 61 = .ok (.ireturn, 1) := by decide +kernel
theorem d_M_hears_0 : decode Y_M_hears.2.1 0 = .ok (.aload_n 0, 1) := by decide +kernel
theorem d_M_hears_1 : decode Y_M_hears.2.1 1 = .ok (.iload_n 1, 1) := by decide +kernel
theorem d_M_hears_2 : decode Y_M_hears.2.1 2 = .ok (.invokevirtual 282, 3) := by decide +kernel
theorem d_M_hears_5 : decode Y_M_hears.2.1 5 = .ok (.ifCond .eq 16, 3) := by decide +kernel
theorem d_M_hears_8 : decode Y_M_hears.2.1 8 = .ok (.aload_n 0, 1) := by decide +kernel
theorem d_M_hears_9 : decode Y_M_hears.2.1 9 = .ok (.iload_n 2, 1) := by decide +kernel
theorem d_M_hears_10 : decode Y_M_hears.2.1 10 = .ok (.invokevirtual 282, 3) := by decide +kernel
theorem d_M_hears_13 : decode Y_M_hears.2.1 13 = .ok (.ifCond .eq 8, 3) := by decide +kernel
theorem d_M_hears_16 : decode Y_M_hears.2.1 16 = .ok (.iload_n 1, 1) := by decide +kernel
theorem d_M_hears_17 : decode Y_M_hears.2.1 17 = .ok (.iload_n 2, 1) := by decide +kernel
theorem d_M_hears_18 : decode Y_M_hears.2.1 18 = .ok (.if_icmp .ne 5, 3) := by decide +kernel
theorem d_M_hears_21 : decode Y_M_hears.2.1 21 = .ok (.iconst (-1), 1) := by decide +kernel
theorem d_M_hears_22 : decode Y_M_hears.2.1 22 = .ok (.ireturn, 1) := by decide +kernel
theorem d_M_hears_23 : decode Y_M_hears.2.1 23 = .ok (.aload_n 0, 1) := by decide +kernel
theorem d_M_hears_24 : decode Y_M_hears.2.1 24 = .ok (.invokevirtual 506, 3) := by decide +kernel
theorem d_M_hears_27 : decode Y_M_hears.2.1 27 = .ok (.aload_n 0, 1) := by decide +kernel
theorem d_M_hears_28 : decode Y_M_hears.2.1 28 = .ok (.iload_n 1, 1) := by decide +kernel
theorem d_M_hears_29 : decode Y_M_hears.2.1 29 = .ok (.iload_n 2, 1) := by decide +kernel
theorem d_M_hears_30 : decode Y_M_hears.2.1 30 = .ok (.invokevirtual 465, 3) := by decide +kernel
theorem d_M_hears_33 : decode Y_M_hears.2.1 33 = .ok (.ireturn, 1) := by decide +kernel
theorem d_St_swap_0 : decode Y_St_swap.2.1 0 = .ok (.aload_n 0, 1) := by decide +kernel
theorem d_St_swap_1 : decode Y_St_swap.2.1 1 = .ok (.getfield 9, 3) := by decide +kernel
theorem d_St_swap_4 : decode Y_St_swap.2.1 4 = .ok (.iload_n 1, 1) := by decide +kernel
theorem d_St_swap_5 : decode Y_St_swap.2.1 5 = .ok (.iaload, 1) := by decide +kernel
theorem d_St_swap_6 : decode Y_St_swap.2.1 6 = .ok (.istore_n 3, 1) := by decide +kernel
theorem d_St_swap_7 : decode Y_St_swap.2.1 7 = .ok (.aload_n 0, 1) := by decide +kernel
theorem d_St_swap_8 : decode Y_St_swap.2.1 8 = .ok (.getfield 9, 3) := by decide +kernel
theorem d_St_swap_11 : decode Y_St_swap.2.1 11 = .ok (.iload_n 1, 1) := by decide +kernel
theorem d_St_swap_12 : decode Y_St_swap.2.1 12 = .ok (.aload_n 0, 1) := by decide +kernel
theorem d_St_swap_13 : decode Y_St_swap.2.1 13 = .ok (.getfield 9, 3) := by decide +kernel
theorem d_St_swap_16 : decode Y_St_swap.2.1 16 = .ok (.iload_n 2, 1) := by decide +kernel
theorem d_St_swap_17 : decode Y_St_swap.2.1 17 = .ok (.iaload, 1) := by decide +kernel
theorem d_St_swap_18 : decode Y_St_swap.2.1 18 = .ok (.iastore, 1) := by decide +kernel
theorem d_St_swap_19 : decode Y_St_swap.2.1 19 = .ok (.aload_n 0, 1) := by decide +kernel
theorem d_St_swap_20 : decode Y_St_swap.2.1 20 = .ok (.getfield 9, 3) := by decide +kernel
theorem d_St_swap_23 : decode Y_St_swap.2.1 23 = .ok (.iload_n 2, 1) := by decide +kernel
theorem d_St_swap_24 : decode Y_St_swap.2.1 24 = .ok (.iload_n 3, 1) := by decide +kernel
theorem d_St_swap_25 : decode Y_St_swap.2.1 25 = .ok (.iastore, 1) := by decide +kernel
theorem d_St_swap_26 : decode Y_St_swap.2.1 26 = .ok (.return_, 1) := by decide +kernel
theorem d_St_sort_0 : decode Y_St_sort.2.1 0 = .ok (.iload_n 1, 1) := by decide +kernel
theorem d_St_sort_1 : decode Y_St_sort.2.1 1 = .ok (.istore_n 2, 1) := by decide +kernel
theorem d_St_sort_2 : decode Y_St_sort.2.1 2 = .ok (.iload_n 2, 1) := by decide +kernel
theorem d_St_sort_3 : decode Y_St_sort.2.1 3 = .ok (.aload_n 0, 1) := by decide +kernel
theorem d_St_sort_4 : decode Y_St_sort.2.1 4 = .ok (.getfield 18, 3) := by decide +kernel
theorem d_St_sort_7 : decode Y_St_sort.2.1 7 = .ok (.getfield 75, 3) := by decide +kernel
theorem d_St_sort_10 : decode Y_St_sort.2.1 10 = .ok (.if_icmp .ge 47, 3) := by decide +kernel
theorem d_St_sort_13 : decode Y_St_sort.2.1 13 = .ok (.iload_n 2, 1) := by decide +kernel
theorem d_St_sort_14 : decode Y_St_sort.2.1 14 = .ok (.istore_n 3, 1) := by decide +kernel
theorem d_St_sort_15 : decode Y_St_sort.2.1 15 = .ok (.iload_n 3, 1) := by decide +kernel
theorem d_St_sort_16 : decode Y_St_sort.2.1 16 = .ok (.iload_n 1, 1) := by decide +kernel
theorem d_St_sort_17 : decode Y_St_sort.2.1 17 = .ok (.if_icmp .le 34, 3) := by decide +kernel
theorem d_St_sort_20 : decode Y_St_sort.2.1 20 = .ok (.aload_n 0, 1) := by decide +kernel
theorem d_St_sort_21 : decode Y_St_sort.2.1 21 = .ok (.getfield 9, 3) := by decide +kernel
theorem d_St_sort_24 : decode Y_St_sort.2.1 24 = .ok (.iload_n 3, 1) := by decide +kernel
theorem d_St_sort_25 : decode Y_St_sort.2.1 25 = .ok (.iaload, 1) := by decide +kernel
theorem d_St_sort_26 : decode Y_St_sort.2.1 26 = .ok (.aload_n 0, 1) := by decide +kernel
theorem d_St_sort_27 : decode Y_St_sort.2.1 27 = .ok (.getfield 9, 3) := by decide +kernel
theorem d_St_sort_30 : decode Y_St_sort.2.1 30 = .ok (.iload_n 3, 1) := by decide +kernel
theorem d_St_sort_31 : decode Y_St_sort.2.1 31 = .ok (.iconst 1, 1) := by decide +kernel
theorem d_St_sort_32 : decode Y_St_sort.2.1 32 = .ok (.isub, 1) := by decide +kernel
theorem d_St_sort_33 : decode Y_St_sort.2.1 33 = .ok (.iaload, 1) := by decide +kernel
theorem d_St_sort_34 : decode Y_St_sort.2.1 34 = .ok (.if_icmp .ge 17, 3) := by decide +kernel
theorem d_St_sort_37 : decode Y_St_sort.2.1 37 = .ok (.aload_n 0, 1) := by decide +kernel
theorem d_St_sort_38 : decode Y_St_sort.2.1 38 = .ok (.iload_n 3, 1) := by decide +kernel
theorem d_St_sort_39 : decode Y_St_sort.2.1 39 = .ok (.iload_n 3, 1) := by decide +kernel
theorem d_St_sort_40 : decode Y_St_sort.2.1 40 = .ok (.iconst 1, 1) := by decide +kernel
theorem d_St_sort_41 : decode Y_St_sort.2.1 41 = .ok (.isub, 1) := by decide +kernel
theorem d_St_sort_42 : decode Y_St_sort.2.1 42 = .ok (.invokevirtual 78, 3) := by decide +kernel
theorem d_St_sort_45 : decode Y_St_sort.2.1 45 = .ok (.iinc 3 (-1), 3) := by decide +kernel
theorem d_St_sort_48 : decode Y_St_sort.2.1 48 = .ok (.goto (-33), 3) := by decide +kernel
theorem d_St_sort_51 : decode Y_St_sort.2.1 51 = .ok (.iinc 2 1, 3) := by decide +kernel
theorem d_St_sort_54 : decode Y_St_sort.2.1 54 = .ok (.goto (-52), 3) := by decide +kernel
theorem d_St_sort_57 : decode Y_St_sort.2.1 57 = .ok (.return_, 1) := by decide +kernel
theorem d_St_next_0 : decode Y_St_next.2.1 0 = .ok (.aload_n 0, 1) := by decide +kernel
theorem d_St_next_1 : decode Y_St_next.2.1 1 = .ok (.getfield 18, 3) := by decide +kernel
theorem d_St_next_4 : decode Y_St_next.2.1 4 = .ok (.getfield 75, 3) := by decide +kernel
theorem d_St_next_7 : decode Y_St_next.2.1 7 = .ok (.iconst 2, 1) := by decide +kernel
theorem d_St_next_8 : decode Y_St_next.2.1 8 = .ok (.isub, 1) := by decide +kernel
theorem d_St_next_9 : decode Y_St_next.2.1 9 = .ok (.istore_n 1, 1) := by decide +kernel
theorem d_St_next_10 : decode Y_St_next.2.1 10 = .ok (.iload_n 1, 1) := by decide +kernel
theorem d_St_next_11 : decode Y_St_next.2.1 11 = .ok (.ifCond .lt 26, 3) := by decide +kernel
theorem d_St_next_14 : decode Y_St_next.2.1 14 = .ok (.aload_n 0, 1) := by decide +kernel
theorem d_St_next_15 : decode Y_St_next.2.1 15 = .ok (.getfield 9, 3) := by decide +kernel
theorem d_St_next_18 : decode Y_St_next.2.1 18 = .ok (.iload_n 1, 1) := by decide +kernel
theorem d_St_next_19 : decode Y_St_next.2.1 19 = .ok (.iaload, 1) := by decide +kernel
theorem d_St_next_20 : decode Y_St_next.2.1 20 = .ok (.aload_n 0, 1) := by decide +kernel
theorem d_St_next_21 : decode Y_St_next.2.1 21 = .ok (.getfield 9, 3) := by decide +kernel
theorem d_St_next_24 : decode Y_St_next.2.1 24 = .ok (.iload_n 1, 1) := by decide +kernel
theorem d_St_next_25 : decode Y_St_next.2.1 25 = .ok (.iconst 1, 1) := by decide +kernel
theorem d_St_next_26 : decode Y_St_next.2.1 26 = .ok (.iadd, 1) := by decide +kernel
theorem d_St_next_27 : decode Y_St_next.2.1 27 = .ok (.iaload, 1) := by decide +kernel
theorem d_St_next_28 : decode Y_St_next.2.1 28 = .ok (.if_icmp .lt 9, 3) := by decide +kernel
theorem d_St_next_31 : decode Y_St_next.2.1 31 = .ok (.iinc 1 (-1), 3) := by decide +kernel
theorem d_St_next_34 : decode Y_St_next.2.1 34 = .ok (.goto (-24), 3) := by decide +kernel
theorem d_St_next_37 : decode Y_St_next.2.1 37 = .ok (.iload_n 1, 1) := by decide +kernel
theorem d_St_next_38 : decode Y_St_next.2.1 38 = .ok (.ifCond .ge 5, 3) := by decide +kernel
theorem d_St_next_41 : decode Y_St_next.2.1 41 = .ok (.iconst 0, 1) := by decide +kernel
theorem d_St_next_42 : decode Y_St_next.2.1 42 = .ok (.ireturn, 1) := by decide +kernel
theorem d_St_next_43 : decode Y_St_next.2.1 43 = .ok (.aload_n 0, 1) := by decide +kernel
theorem d_St_next_44 : decode Y_St_next.2.1 44 = .ok (.getfield 18, 3) := by decide +kernel
theorem d_St_next_47 : decode Y_St_next.2.1 47 = .ok (.getfield 75, 3) := by decide +kernel
theorem d_St_next_50 : decode Y_St_next.2.1 50 = .ok (.iconst 1, 1) := by decide +kernel
theorem d_St_next_51 : decode Y_St_next.2.1 51 = .ok (.isub, 1) := by decide +kernel
theorem d_St_next_52 : decode Y_St_next.2.1 52 = .ok (.istore_n 2, 1) := by decide +kernel
theorem d_St_next_53 : decode Y_St_next.2.1 53 = .ok (.iload_n 2, 1) := by decide +kernel
theorem d_St_next_54 : decode Y_St_next.2.1 54 = .ok (.iload_n 1, 1) := by decide +kernel
theorem d_St_next_55 : decode Y_St_next.2.1 55 = .ok (.iconst 1, 1) := by decide +kernel
theorem d_St_next_56 : decode Y_St_next.2.1 56 = .ok (.iadd, 1) := by decide +kernel
theorem d_St_next_57 : decode Y_St_next.2.1 57 = .ok (.if_icmp .le 24, 3) := by decide +kernel
theorem d_St_next_60 : decode Y_St_next.2.1 60 = .ok (.aload_n 0, 1) := by decide +kernel
theorem d_St_next_61 : decode Y_St_next.2.1 61 = .ok (.getfield 9, 3) := by decide +kernel
theorem d_St_next_64 : decode Y_St_next.2.1 64 = .ok (.iload_n 2, 1) := by decide +kernel
theorem d_St_next_65 : decode Y_St_next.2.1 65 = .ok (.iaload, 1) := by decide +kernel
theorem d_St_next_66 : decode Y_St_next.2.1 66 = .ok (.aload_n 0, 1) := by decide +kernel
theorem d_St_next_67 : decode Y_St_next.2.1 67 = .ok (.getfield 9, 3) := by decide +kernel
theorem d_St_next_70 : decode Y_St_next.2.1 70 = .ok (.iload_n 1, 1) := by decide +kernel
theorem d_St_next_71 : decode Y_St_next.2.1 71 = .ok (.iaload, 1) := by decide +kernel
theorem d_St_next_72 : decode Y_St_next.2.1 72 = .ok (.if_icmp .gt 9, 3) := by decide +kernel
theorem d_St_next_75 : decode Y_St_next.2.1 75 = .ok (.iinc 2 (-1), 3) := by decide +kernel
theorem d_St_next_78 : decode Y_St_next.2.1 78 = .ok (.goto (-25), 3) := by decide +kernel
theorem d_St_next_81 : decode Y_St_next.2.1 81 = .ok (.aload_n 0, 1) := by decide +kernel
theorem d_St_next_82 : decode Y_St_next.2.1 82 = .ok (.iload_n 1, 1) := by decide +kernel
theorem d_St_next_83 : decode Y_St_next.2.1 83 = .ok (.iload_n 2, 1) := by decide +kernel
theorem d_St_next_84 : decode Y_St_next.2.1 84 = .ok (.invokevirtual 78, 3) := by decide +kernel
theorem d_St_next_87 : decode Y_St_next.2.1 87 = .ok (.aload_n 0, 1) := by decide +kernel
theorem d_St_next_88 : decode Y_St_next.2.1 88 = .ok (.iload_n 1, 1) := by decide +kernel
theorem d_St_next_89 : decode Y_St_next.2.1 89 = .ok (.iconst 1, 1) := by decide +kernel
theorem d_St_next_90 : decode Y_St_next.2.1 90 = .ok (.iadd, 1) := by decide +kernel
theorem d_St_next_91 : decode Y_St_next.2.1 91 = .ok (.invokevirtual 39, 3) := by decide +kernel
theorem d_St_next_94 : decode Y_St_next.2.1 94 = .ok (.iconst 1, 1) := by decide +kernel
theorem d_St_next_95 : decode Y_St_next.2.1 95 = .ok (.ireturn, 1) := by decide +kernel
theorem d_St_find_0 : decode Y_St_find.2.1 0 = .ok (.aload_n 0, 1) := by decide +kernel
theorem d_St_find_1 : decode Y_St_find.2.1 1 = .ok (.getfield 26, 3) := by decide +kernel
theorem d_St_find_4 : decode Y_St_find.2.1 4 = .ok (.iload_n 1, 1) := by decide +kernel
theorem d_St_find_5 : decode Y_St_find.2.1 5 = .ok (.if_icmp .ne 4, 3) := by decide +kernel
theorem d_St_find_8 : decode Y_St_find.2.1 8 = .ok (.return_, 1) := by decide +kernel
theorem d_St_find_9 : decode Y_St_find.2.1 9 = .ok (.aload_n 0, 1) := by decide +kernel
theorem d_St_find_10 : decode Y_St_find.2.1 10 = .ok (.iload_n 1, 1) := by decide +kernel
theorem d_St_find_11 : decode Y_St_find.2.1 11 = .ok (.putfield 26, 3) := by decide +kernel
theorem d_St_find_14 : decode Y_St_find.2.1 14 = .ok (.aload_n 0, 1) := by decide +kernel
theorem d_St_find_15 : decode Y_St_find.2.1 15 = .ok (.getfield 18, 3) := by decide +kernel
theorem d_St_find_18 : decode Y_St_find.2.1 18 = .ok (.getfield 30, 3) := by decide +kernel
theorem d_St_find_21 : decode Y_St_find.2.1 21 = .ok (.iconst 0, 1) := by decide +kernel
theorem d_St_find_22 : decode Y_St_find.2.1 22 = .ok (.aload_n 0, 1) := by decide +kernel
theorem d_St_find_23 : decode Y_St_find.2.1 23 = .ok (.getfield 9, 3) := by decide +kernel
theorem d_St_find_26 : decode Y_St_find.2.1 26 = .ok (.iconst 0, 1) := by decide +kernel
theorem d_St_find_27 : decode Y_St_find.2.1 27 = .ok (.bipush 8, 2) := by decide +kernel
theorem d_St_find_29 : decode Y_St_find.2.1 29 = .ok (.invokestatic 33, 3) := by decide +kernel
theorem d_St_find_32 : decode Y_St_find.2.1 32 = .ok (.aload_n 0, 1) := by decide +kernel
theorem d_St_find_33 : decode Y_St_find.2.1 33 = .ok (.iconst 0, 1) := by decide +kernel
theorem d_St_find_34 : decode Y_St_find.2.1 34 = .ok (.invokevirtual 39, 3) := by decide +kernel
theorem d_St_find_37 : decode Y_St_find.2.1 37 = .ok (.iconst 1, 1) := by decide +kernel
theorem d_St_find_38 : decode Y_St_find.2.1 38 = .ok (.istore_n 2, 1) := by decide +kernel
theorem d_St_find_39 : decode Y_St_find.2.1 39 = .ok (.iconst 0, 1) := by decide +kernel
theorem d_St_find_40 : decode Y_St_find.2.1 40 = .ok (.istore_n 3, 1) := by decide +kernel
theorem d_St_find_41 : decode Y_St_find.2.1 41 = .ok (.iload_n 3, 1) := by decide +kernel
theorem d_St_find_42 : decode Y_St_find.2.1 42 = .ok (.sipush 720, 3) := by decide +kernel
theorem d_St_find_45 : decode Y_St_find.2.1 45 = .ok (.if_icmp .ge 127, 3) := by decide +kernel
theorem d_St_find_48 : decode Y_St_find.2.1 48 = .ok (.iload_n 2, 1) := by decide +kernel
theorem d_St_find_49 : decode Y_St_find.2.1 49 = .ok (.ifCond .eq 123, 3) := by decide +kernel
theorem d_St_find_52 : decode Y_St_find.2.1 52 = .ok (.aload_n 0, 1) := by decide +kernel
theorem d_St_find_53 : decode Y_St_find.2.1 53 = .ok (.getfield 22, 3) := by decide +kernel
theorem d_St_find_56 : decode Y_St_find.2.1 56 = .ok (.aload_n 0, 1) := by decide +kernel
theorem d_St_find_57 : decode Y_St_find.2.1 57 = .ok (.getfield 9, 3) := by decide +kernel
theorem d_St_find_60 : decode Y_St_find.2.1 60 = .ok (.aload_n 0, 1) := by decide +kernel
theorem d_St_find_61 : decode Y_St_find.2.1 61 = .ok (.getfield 18, 3) := by decide +kernel
theorem d_St_find_64 : decode Y_St_find.2.1 64 = .ok (.getfield 43, 3) := by decide +kernel
theorem d_St_find_67 : decode Y_St_find.2.1 67 = .ok (.iconst 0, 1) := by decide +kernel
theorem d_St_find_68 : decode Y_St_find.2.1 68 = .ok (.iconst 0, 1) := by decide +kernel
theorem d_St_find_69 : decode Y_St_find.2.1 69 = .ok (.invokevirtual 46, 3) := by decide +kernel
theorem d_St_find_72 : decode Y_St_find.2.1 72 = .ok (.aload_n 0, 1) := by decide +kernel
theorem d_St_find_73 : decode Y_St_find.2.1 73 = .ok (.getfield 22, 3) := by decide +kernel
theorem d_St_find_76 : decode Y_St_find.2.1 76 = .ok (.invokevirtual 52, 3) := by decide +kernel
theorem d_St_find_79 : decode Y_St_find.2.1 79 = .ok (.lstore 4, 2) := by decide +kernel
theorem d_St_find_81 : decode Y_St_find.2.1 81 = .ok (.lload 4, 2) := by decide +kernel
theorem d_St_find_83 : decode Y_St_find.2.1 83 = .ok (.invokestatic 56, 3) := by decide +kernel
theorem d_St_find_86 : decode Y_St_find.2.1 86 = .ok (.aload_n 0, 1) := by decide +kernel
theorem d_St_find_87 : decode Y_St_find.2.1 87 = .ok (.getfield 62, 3) := by decide +kernel
theorem d_St_find_90 : decode Y_St_find.2.1 90 = .ok (.invokestatic 56, 3) := by decide +kernel
theorem d_St_find_93 : decode Y_St_find.2.1 93 = .ok (.lsub, 1) := by decide +kernel
theorem d_St_find_94 : decode Y_St_find.2.1 94 = .ok (.lstore 6, 2) := by decide +kernel
theorem d_St_find_96 : decode Y_St_find.2.1 96 = .ok (.iload_n 3, 1) := by decide +kernel
theorem d_St_find_97 : decode Y_St_find.2.1 97 = .ok (.ifCond .eq 32, 3) := by decide +kernel
theorem d_St_find_100 : decode Y_St_find.2.1 100 = .ok (.lload 6, 2) := by decide +kernel
theorem d_St_find_102 : decode Y_St_find.2.1 102 = .ok (.lconst 0, 1) := by decide +kernel
theorem d_St_find_103 : decode Y_St_find.2.1 103 = .ok (.lcmp, 1) := by decide +kernel
theorem d_St_find_104 : decode Y_St_find.2.1 104 = .ok (.ifCond .lt 25, 3) := by decide +kernel
theorem d_St_find_107 : decode Y_St_find.2.1 107 = .ok (.lload 6, 2) := by decide +kernel
theorem d_St_find_109 : decode Y_St_find.2.1 109 = .ok (.lconst 0, 1) := by decide +kernel
theorem d_St_find_110 : decode Y_St_find.2.1 110 = .ok (.lcmp, 1) := by decide +kernel
theorem d_St_find_111 : decode Y_St_find.2.1 111 = .ok (.ifCond .ne 50, 3) := by decide +kernel
theorem d_St_find_114 : decode Y_St_find.2.1 114 = .ok (.aload_n 0, 1) := by decide +kernel
theorem d_St_find_115 : decode Y_St_find.2.1 115 = .ok (.getfield 22, 3) := by decide +kernel
theorem d_St_find_118 : decode Y_St_find.2.1 118 = .ok (.invokevirtual 65, 3) := by decide +kernel
theorem d_St_find_121 : decode Y_St_find.2.1 121 = .ok (.aload_n 0, 1) := by decide +kernel
theorem d_St_find_122 : decode Y_St_find.2.1 122 = .ok (.getfield 68, 3) := by decide +kernel
theorem d_St_find_125 : decode Y_St_find.2.1 125 = .ok (.lcmp, 1) := by decide +kernel
theorem d_St_find_126 : decode Y_St_find.2.1 126 = .ok (.ifCond .ge 35, 3) := by decide +kernel
theorem d_St_find_129 : decode Y_St_find.2.1 129 = .ok (.aload_n 0, 1) := by decide +kernel
theorem d_St_find_130 : decode Y_St_find.2.1 130 = .ok (.lload 4, 2) := by decide +kernel
theorem d_St_find_132 : decode Y_St_find.2.1 132 = .ok (.putfield 62, 3) := by decide +kernel
theorem d_St_find_135 : decode Y_St_find.2.1 135 = .ok (.aload_n 0, 1) := by decide +kernel
theorem d_St_find_136 : decode Y_St_find.2.1 136 = .ok (.aload_n 0, 1) := by decide +kernel
theorem d_St_find_137 : decode Y_St_find.2.1 137 = .ok (.getfield 22, 3) := by decide +kernel
theorem d_St_find_140 : decode Y_St_find.2.1 140 = .ok (.invokevirtual 65, 3) := by decide +kernel
theorem d_St_find_143 : decode Y_St_find.2.1 143 = .ok (.putfield 68, 3) := by decide +kernel
theorem d_St_find_146 : decode Y_St_find.2.1 146 = .ok (.aload_n 0, 1) := by decide +kernel
theorem d_St_find_147 : decode Y_St_find.2.1 147 = .ok (.getfield 9, 3) := by decide +kernel
theorem d_St_find_150 : decode Y_St_find.2.1 150 = .ok (.iconst 0, 1) := by decide +kernel
theorem d_St_find_151 : decode Y_St_find.2.1 151 = .ok (.aload_n 0, 1) := by decide +kernel
theorem d_St_find_152 : decode Y_St_find.2.1 152 = .ok (.getfield 15, 3) := by decide +kernel
theorem d_St_find_155 : decode Y_St_find.2.1 155 = .ok (.iconst 0, 1) := by decide +kernel
theorem d_St_find_156 : decode Y_St_find.2.1 156 = .ok (.bipush 8, 2) := by decide +kernel
theorem d_St_find_158 : decode Y_St_find.2.1 158 = .ok (.invokestatic 33, 3) := by decide +kernel
theorem d_St_find_161 : decode Y_St_find.2.1 161 = .ok (.aload_n 0, 1) := by decide +kernel
theorem d_St_find_162 : decode Y_St_find.2.1 162 = .ok (.invokevirtual 71, 3) := by decide +kernel
theorem d_St_find_165 : decode Y_St_find.2.1 165 = .ok (.istore_n 2, 1) := by decide +kernel
theorem d_St_find_166 : decode Y_St_find.2.1 166 = .ok (.iinc 3 1, 3) := by decide +kernel
theorem d_St_find_169 : decode Y_St_find.2.1 169 = .ok (.goto (-128), 3) := by decide +kernel
theorem d_St_find_172 : decode Y_St_find.2.1 172 = .ok (.return_, 1) := by decide +kernel
theorem d_X_standing_0 : decode Y_X_standing.2.1 0 = .ok (.iload_n 1, 1) := by decide +kernel
theorem d_X_standing_1 : decode Y_X_standing.2.1 1 = .ok (.iconst (-1), 1) := by decide +kernel
theorem d_X_standing_2 : decode Y_X_standing.2.1 2 = .ok (.if_icmp .eq 20, 3) := by decide +kernel
theorem d_X_standing_5 : decode Y_X_standing.2.1 5 = .ok (.iload_n 1, 1) := by decide +kernel
theorem d_X_standing_6 : decode Y_X_standing.2.1 6 = .ok (.bipush 8, 2) := by decide +kernel
theorem d_X_standing_8 : decode Y_X_standing.2.1 8 = .ok (.if_icmp .eq 14, 3) := by decide +kernel
theorem d_X_standing_11 : decode Y_X_standing.2.1 11 = .ok (.aload_n 0, 1) := by decide +kernel
theorem d_X_standing_12 : decode Y_X_standing.2.1 12 = .ok (.getfield 21, 3) := by decide +kernel
theorem d_X_standing_15 : decode Y_X_standing.2.1 15 = .ok (.iload_n 1, 1) := by decide +kernel
theorem d_X_standing_16 : decode Y_X_standing.2.1 16 = .ok (.invokevirtual 179, 3) := by decide +kernel
theorem d_X_standing_19 : decode Y_X_standing.2.1 19 = .ok (.ifCond .eq 7, 3) := by decide +kernel
theorem d_X_standing_22 : decode Y_X_standing.2.1 22 = .ok (.iconst 1, 1) := by decide +kernel
theorem d_X_standing_23 : decode Y_X_standing.2.1 23 = .ok (.goto 4, 3) := by decide +kernel
theorem d_X_standing_26 : decode Y_X_standing.2.1 26 = .ok (.iconst 0, 1) := by decide +kernel
theorem d_X_standing_27 : decode Y_X_standing.2.1 27 = .ok (.istore_n 2, 1) := by decide +kernel
theorem d_X_standing_28 : decode Y_X_standing.2.1 28 = .ok (.iload_n 2, 1) := by decide +kernel
theorem d_X_standing_29 : decode Y_X_standing.2.1 29 = .ok (.ifCond .eq 14, 3) := by decide +kernel
theorem d_X_standing_32 : decode Y_X_standing.2.1 32 = .ok (.aload_n 0, 1) := by decide +kernel
theorem d_X_standing_33 : decode Y_X_standing.2.1 33 = .ok (.getfield 21, 3) := by decide +kernel
theorem d_X_standing_36 : decode Y_X_standing.2.1 36 = .ok (.invokevirtual 254, 3) := by decide +kernel
theorem d_X_standing_39 : decode Y_X_standing.2.1 39 = .ok (.iconst (-1), 1) := by decide +kernel
theorem d_X_standing_40 : decode Y_X_standing.2.1 40 = .ok (.if_icmp .ne 7, 3) := by decide +kernel
theorem d_X_standing_43 : decode Y_X_standing.2.1 43 = .ok (.ldc2_w 239, 3) := by decide +kernel
theorem d_X_standing_46 : decode Y_X_standing.2.1 46 = .ok (.lreturn, 1) := by decide +kernel
theorem d_X_standing_47 : decode Y_X_standing.2.1 47 = .ok (.aload_n 0, 1) := by decide +kernel
theorem d_X_standing_48 : decode Y_X_standing.2.1 48 = .ok (.getfield 21, 3) := by decide +kernel
theorem d_X_standing_51 : decode Y_X_standing.2.1 51 = .ok (.getfield 163, 3) := by decide +kernel
theorem d_X_standing_54 : decode Y_X_standing.2.1 54 = .ok (.bipush 6, 2) := by decide +kernel
theorem d_X_standing_56 : decode Y_X_standing.2.1 56 = .ok (.if_icmp .le 7, 3) := by decide +kernel
theorem d_X_standing_59 : decode Y_X_standing.2.1 59 = .ok (.ldc2_w 272, 3) := by decide +kernel
theorem d_X_standing_62 : decode Y_X_standing.2.1 62 = .ok (.lreturn, 1) := by decide +kernel
theorem d_X_standing_63 : decode Y_X_standing.2.1 63 = .ok (.aload_n 0, 1) := by decide +kernel
theorem d_X_standing_64 : decode Y_X_standing.2.1 64 = .ok (.getfield 39, 3) := by decide +kernel
theorem d_X_standing_67 : decode Y_X_standing.2.1 67 = .ok (.aload_n 0, 1) := by decide +kernel
theorem d_X_standing_68 : decode Y_X_standing.2.1 68 = .ok (.getfield 274, 3) := by decide +kernel
theorem d_X_standing_71 : decode Y_X_standing.2.1 71 = .ok (.invokevirtual 277, 3) := by decide +kernel
theorem d_X_standing_74 : decode Y_X_standing.2.1 74 = .ok (.iload_n 1, 1) := by decide +kernel
theorem d_X_standing_75 : decode Y_X_standing.2.1 75 = .ok (.iconst (-1), 1) := by decide +kernel
theorem d_X_standing_76 : decode Y_X_standing.2.1 76 = .ok (.if_icmp .ne 13, 3) := by decide +kernel
theorem d_X_standing_79 : decode Y_X_standing.2.1 79 = .ok (.aload_n 0, 1) := by decide +kernel
theorem d_X_standing_80 : decode Y_X_standing.2.1 80 = .ok (.getfield 39, 3) := by decide +kernel
theorem d_X_standing_83 : decode Y_X_standing.2.1 83 = .ok (.getfield 280, 3) := by decide +kernel
theorem d_X_standing_86 : decode Y_X_standing.2.1 86 = .ok (.goto 29, 3) := by decide +kernel
theorem d_X_standing_89 : decode Y_X_standing.2.1 89 = .ok (.iload_n 1, 1) := by decide +kernel
theorem d_X_standing_90 : decode Y_X_standing.2.1 90 = .ok (.bipush 8, 2) := by decide +kernel
theorem d_X_standing_92 : decode Y_X_standing.2.1 92 = .ok (.if_icmp .ne 13, 3) := by decide +kernel
theorem d_X_standing_95 : decode Y_X_standing.2.1 95 = .ok (.aload_n 0, 1) := by decide +kernel
theorem d_X_standing_96 : decode Y_X_standing.2.1 96 = .ok (.getfield 39, 3) := by decide +kernel
theorem d_X_standing_99 : decode Y_X_standing.2.1 99 = .ok (.getfield 283, 3) := by decide +kernel
theorem d_X_standing_102 : decode Y_X_standing.2.1 102 = .ok (.goto 13, 3) := by decide +kernel
theorem d_X_standing_105 : decode Y_X_standing.2.1 105 = .ok (.aload_n 0, 1) := by decide +kernel
theorem d_X_standing_106 : decode Y_X_standing.2.1 106 = .ok (.getfield 39, 3) := by decide +kernel
theorem d_X_standing_109 : decode Y_X_standing.2.1 109 = .ok (.getfield 285, 3) := by decide +kernel
theorem d_X_standing_112 : decode Y_X_standing.2.1 112 = .ok (.iload_n 1, 1) := by decide +kernel
theorem d_X_standing_113 : decode Y_X_standing.2.1 113 = .ok (.iaload, 1) := by decide +kernel
theorem d_X_standing_114 : decode Y_X_standing.2.1 114 = .ok (.i2l, 1) := by decide +kernel
theorem d_X_standing_115 : decode Y_X_standing.2.1 115 = .ok (.lreturn, 1) := by decide +kernel
theorem d_M_swaps_0 : decode Y_M_swaps.2.1 0 = .ok (.aload_n 0, 1) := by decide +kernel
theorem d_M_swaps_1 : decode Y_M_swaps.2.1 1 = .ok (.getfield 110, 3) := by decide +kernel
theorem d_M_swaps_4 : decode Y_M_swaps.2.1 4 = .ok (.iload_n 1, 1) := by decide +kernel
theorem d_M_swaps_5 : decode Y_M_swaps.2.1 5 = .ok (.iaload, 1) := by decide +kernel
theorem d_M_swaps_6 : decode Y_M_swaps.2.1 6 = .ok (.istore_n 3, 1) := by decide +kernel
theorem d_M_swaps_7 : decode Y_M_swaps.2.1 7 = .ok (.aload_n 0, 1) := by decide +kernel
theorem d_M_swaps_8 : decode Y_M_swaps.2.1 8 = .ok (.getfield 110, 3) := by decide +kernel
theorem d_M_swaps_11 : decode Y_M_swaps.2.1 11 = .ok (.iload_n 1, 1) := by decide +kernel
theorem d_M_swaps_12 : decode Y_M_swaps.2.1 12 = .ok (.aload_n 0, 1) := by decide +kernel
theorem d_M_swaps_13 : decode Y_M_swaps.2.1 13 = .ok (.getfield 110, 3) := by decide +kernel
theorem d_M_swaps_16 : decode Y_M_swaps.2.1 16 = .ok (.iload_n 2, 1) := by decide +kernel
theorem d_M_swaps_17 : decode Y_M_swaps.2.1 17 = .ok (.iaload, 1) := by decide +kernel
theorem d_M_swaps_18 : decode Y_M_swaps.2.1 18 = .ok (.iastore, 1) := by decide +kernel
theorem d_M_swaps_19 : decode Y_M_swaps.2.1 19 = .ok (.aload_n 0, 1) := by decide +kernel
theorem d_M_swaps_20 : decode Y_M_swaps.2.1 20 = .ok (.getfield 110, 3) := by decide +kernel
theorem d_M_swaps_23 : decode Y_M_swaps.2.1 23 = .ok (.iload_n 2, 1) := by decide +kernel
theorem d_M_swaps_24 : decode Y_M_swaps.2.1 24 = .ok (.iload_n 3, 1) := by decide +kernel
theorem d_M_swaps_25 : decode Y_M_swaps.2.1 25 = .ok (.iastore, 1) := by decide +kernel
theorem d_M_swaps_26 : decode Y_M_swaps.2.1 26 = .ok (.return_, 1) := by decide +kernel
theorem d_M_stepsOn_0 : decode Y_M_stepsOn.2.1 0 = .ok (.aload_n 0, 1) := by decide +kernel
theorem d_M_stepsOn_1 : decode Y_M_stepsOn.2.1 1 = .ok (.getfield 275, 3) := by decide +kernel
theorem d_M_stepsOn_4 : decode Y_M_stepsOn.2.1 4 = .ok (.iconst 2, 1) := by decide +kernel
theorem d_M_stepsOn_5 : decode Y_M_stepsOn.2.1 5 = .ok (.isub, 1) := by decide +kernel
theorem d_M_stepsOn_6 : decode Y_M_stepsOn.2.1 6 = .ok (.istore_n 1, 1) := by decide +kernel
theorem d_M_stepsOn_7 : decode Y_M_stepsOn.2.1 7 = .ok (.iload_n 1, 1) := by decide +kernel
theorem d_M_stepsOn_8 : decode Y_M_stepsOn.2.1 8 = .ok (.ifCond .lt 26, 3) := by decide +kernel
theorem d_M_stepsOn_11 : decode Y_M_stepsOn.2.1 11 = .ok (.aload_n 0, 1) := by decide +kernel
theorem d_M_stepsOn_12 : decode Y_M_stepsOn.2.1 12 = .ok (.getfield 110, 3) := by decide +kernel
theorem d_M_stepsOn_15 : decode Y_M_stepsOn.2.1 15 = .ok (.iload_n 1, 1) := by decide +kernel
theorem d_M_stepsOn_16 : decode Y_M_stepsOn.2.1 16 = .ok (.iaload, 1) := by decide +kernel
theorem d_M_stepsOn_17 : decode Y_M_stepsOn.2.1 17 = .ok (.aload_n 0, 1) := by decide +kernel
theorem d_M_stepsOn_18 : decode Y_M_stepsOn.2.1 18 = .ok (.getfield 110, 3) := by decide +kernel
theorem d_M_stepsOn_21 : decode Y_M_stepsOn.2.1 21 = .ok (.iload_n 1, 1) := by decide +kernel
theorem d_M_stepsOn_22 : decode Y_M_stepsOn.2.1 22 = .ok (.iconst 1, 1) := by decide +kernel
theorem d_M_stepsOn_23 : decode Y_M_stepsOn.2.1 23 = .ok (.iadd, 1) := by decide +kernel
theorem d_M_stepsOn_24 : decode Y_M_stepsOn.2.1 24 = .ok (.iaload, 1) := by decide +kernel
theorem d_M_stepsOn_25 : decode Y_M_stepsOn.2.1 25 = .ok (.if_icmp .lt 9, 3) := by decide +kernel
theorem d_M_stepsOn_28 : decode Y_M_stepsOn.2.1 28 = .ok (.iinc 1 (-1), 3) := by decide +kernel
theorem d_M_stepsOn_31 : decode Y_M_stepsOn.2.1 31 = .ok (.goto (-24), 3) := by decide +kernel
theorem d_M_stepsOn_34 : decode Y_M_stepsOn.2.1 34 = .ok (.iload_n 1, 1) := by decide +kernel
theorem d_M_stepsOn_35 : decode Y_M_stepsOn.2.1 35 = .ok (.ifCond .ge 5, 3) := by decide +kernel
theorem d_M_stepsOn_38 : decode Y_M_stepsOn.2.1 38 = .ok (.iconst 0, 1) := by decide +kernel
theorem d_M_stepsOn_39 : decode Y_M_stepsOn.2.1 39 = .ok (.ireturn, 1) := by decide +kernel
theorem d_M_stepsOn_40 : decode Y_M_stepsOn.2.1 40 = .ok (.aload_n 0, 1) := by decide +kernel
theorem d_M_stepsOn_41 : decode Y_M_stepsOn.2.1 41 = .ok (.getfield 275, 3) := by decide +kernel
theorem d_M_stepsOn_44 : decode Y_M_stepsOn.2.1 44 = .ok (.iconst 1, 1) := by decide +kernel
theorem d_M_stepsOn_45 : decode Y_M_stepsOn.2.1 45 = .ok (.isub, 1) := by decide +kernel
theorem d_M_stepsOn_46 : decode Y_M_stepsOn.2.1 46 = .ok (.istore_n 2, 1) := by decide +kernel
theorem d_M_stepsOn_47 : decode Y_M_stepsOn.2.1 47 = .ok (.aload_n 0, 1) := by decide +kernel
theorem d_M_stepsOn_48 : decode Y_M_stepsOn.2.1 48 = .ok (.getfield 110, 3) := by decide +kernel
theorem d_M_stepsOn_51 : decode Y_M_stepsOn.2.1 51 = .ok (.iload_n 2, 1) := by decide +kernel
theorem d_M_stepsOn_52 : decode Y_M_stepsOn.2.1 52 = .ok (.iaload, 1) := by decide +kernel
theorem d_M_stepsOn_53 : decode Y_M_stepsOn.2.1 53 = .ok (.aload_n 0, 1) := by decide +kernel
theorem d_M_stepsOn_54 : decode Y_M_stepsOn.2.1 54 = .ok (.getfield 110, 3) := by decide +kernel
theorem d_M_stepsOn_57 : decode Y_M_stepsOn.2.1 57 = .ok (.iload_n 1, 1) := by decide +kernel
theorem d_M_stepsOn_58 : decode Y_M_stepsOn.2.1 58 = .ok (.iaload, 1) := by decide +kernel
theorem d_M_stepsOn_59 : decode Y_M_stepsOn.2.1 59 = .ok (.if_icmp .gt 9, 3) := by decide +kernel
theorem d_M_stepsOn_62 : decode Y_M_stepsOn.2.1 62 = .ok (.iinc 2 (-1), 3) := by decide +kernel
theorem d_M_stepsOn_65 : decode Y_M_stepsOn.2.1 65 = .ok (.goto (-18), 3) := by decide +kernel
theorem d_M_stepsOn_68 : decode Y_M_stepsOn.2.1 68 = .ok (.aload_n 0, 1) := by decide +kernel
theorem d_M_stepsOn_69 : decode Y_M_stepsOn.2.1 69 = .ok (.iload_n 1, 1) := by decide +kernel
theorem d_M_stepsOn_70 : decode Y_M_stepsOn.2.1 70 = .ok (.iload_n 2, 1) := by decide +kernel
theorem d_M_stepsOn_71 : decode Y_M_stepsOn.2.1 71 = .ok (.invokevirtual 547, 3) := by decide +kernel
theorem d_M_stepsOn_74 : decode Y_M_stepsOn.2.1 74 = .ok (.iload_n 1, 1) := by decide +kernel
theorem d_M_stepsOn_75 : decode Y_M_stepsOn.2.1 75 = .ok (.iconst 1, 1) := by decide +kernel
theorem d_M_stepsOn_76 : decode Y_M_stepsOn.2.1 76 = .ok (.iadd, 1) := by decide +kernel
theorem d_M_stepsOn_77 : decode Y_M_stepsOn.2.1 77 = .ok (.istore_n 3, 1) := by decide +kernel
theorem d_M_stepsOn_78 : decode Y_M_stepsOn.2.1 78 = .ok (.aload_n 0, 1) := by decide +kernel
theorem d_M_stepsOn_79 : decode Y_M_stepsOn.2.1 79 = .ok (.getfield 275, 3) := by decide +kernel
theorem d_M_stepsOn_82 : decode Y_M_stepsOn.2.1 82 = .ok (.iconst 1, 1) := by decide +kernel
theorem d_M_stepsOn_83 : decode Y_M_stepsOn.2.1 83 = .ok (.isub, 1) := by decide +kernel
theorem d_M_stepsOn_84 : decode Y_M_stepsOn.2.1 84 = .ok (.istore 4, 2) := by decide +kernel
theorem d_M_stepsOn_86 : decode Y_M_stepsOn.2.1 86 = .ok (.iload_n 3, 1) := by decide +kernel
theorem d_M_stepsOn_87 : decode Y_M_stepsOn.2.1 87 = .ok (.iload 4, 2) := by decide +kernel
theorem d_M_stepsOn_89 : decode Y_M_stepsOn.2.1 89 = .ok (.if_icmp .ge 19, 3) := by decide +kernel
theorem d_M_stepsOn_92 : decode Y_M_stepsOn.2.1 92 = .ok (.aload_n 0, 1) := by decide +kernel
theorem d_M_stepsOn_93 : decode Y_M_stepsOn.2.1 93 = .ok (.iload_n 3, 1) := by decide +kernel
theorem d_M_stepsOn_94 : decode Y_M_stepsOn.2.1 94 = .ok (.iload 4, 2) := by decide +kernel
theorem d_M_stepsOn_96 : decode Y_M_stepsOn.2.1 96 = .ok (.invokevirtual 547, 3) := by decide +kernel
theorem d_M_stepsOn_99 : decode Y_M_stepsOn.2.1 99 = .ok (.iinc 3 1, 3) := by decide +kernel
theorem d_M_stepsOn_102 : decode Y_M_stepsOn.2.1 102 = .ok (.iinc 4 (-1), 3) := by decide +kernel
theorem d_M_stepsOn_105 : decode Y_M_stepsOn.2.1 105 = .ok (.goto (-19), 3) := by decide +kernel
theorem d_M_stepsOn_108 : decode Y_M_stepsOn.2.1 108 = .ok (.iconst 1, 1) := by decide +kernel
theorem d_M_stepsOn_109 : decode Y_M_stepsOn.2.1 109 = .ok (.ireturn, 1) := by decide +kernel
theorem d_M_standing_0 : decode Y_M_standing.2.1 0 = .ok (.iload_n 1, 1) := by decide +kernel
theorem d_M_standing_1 : decode Y_M_standing.2.1 1 = .ok (.iconst (-1), 1) := by decide +kernel
theorem d_M_standing_2 : decode Y_M_standing.2.1 2 = .ok (.if_icmp .eq 21, 3) := by decide +kernel
theorem d_M_standing_5 : decode Y_M_standing.2.1 5 = .ok (.iload_n 1, 1) := by decide +kernel
theorem d_M_standing_6 : decode Y_M_standing.2.1 6 = .ok (.bipush 8, 2) := by decide +kernel
theorem d_M_standing_8 : decode Y_M_standing.2.1 8 = .ok (.if_icmp .eq 15, 3) := by decide +kernel
theorem d_M_standing_11 : decode Y_M_standing.2.1 11 = .ok (.aload_n 0, 1) := by decide +kernel
theorem d_M_standing_12 : decode Y_M_standing.2.1 12 = .ok (.iload_n 1, 1) := by decide +kernel
theorem d_M_standing_13 : decode Y_M_standing.2.1 13 = .ok (.invokevirtual 282, 3) := by decide +kernel
theorem d_M_standing_16 : decode Y_M_standing.2.1 16 = .ok (.ifCond .ne 7, 3) := by decide +kernel
theorem d_M_standing_19 : decode Y_M_standing.2.1 19 = .ok (.ldc2_w 530, 3) := by decide +kernel
theorem d_M_standing_22 : decode Y_M_standing.2.1 22 = .ok (.lreturn, 1) := by decide +kernel
theorem d_M_standing_23 : decode Y_M_standing.2.1 23 = .ok (.aload_n 0, 1) := by decide +kernel
theorem d_M_standing_24 : decode Y_M_standing.2.1 24 = .ok (.invokevirtual 522, 3) := by decide +kernel
theorem d_M_standing_27 : decode Y_M_standing.2.1 27 = .ok (.iconst (-1), 1) := by decide +kernel
theorem d_M_standing_28 : decode Y_M_standing.2.1 28 = .ok (.if_icmp .ne 7, 3) := by decide +kernel
theorem d_M_standing_31 : decode Y_M_standing.2.1 31 = .ok (.ldc2_w 530, 3) := by decide +kernel
theorem d_M_standing_34 : decode Y_M_standing.2.1 34 = .ok (.lreturn, 1) := by decide +kernel
theorem d_M_standing_35 : decode Y_M_standing.2.1 35 = .ok (.aload_n 0, 1) := by decide +kernel
theorem d_M_standing_36 : decode Y_M_standing.2.1 36 = .ok (.getfield 275, 3) := by decide +kernel
theorem d_M_standing_39 : decode Y_M_standing.2.1 39 = .ok (.bipush 6, 2) := by decide +kernel
theorem d_M_standing_41 : decode Y_M_standing.2.1 41 = .ok (.if_icmp .le 7, 3) := by decide +kernel
theorem d_M_standing_44 : decode Y_M_standing.2.1 44 = .ok (.ldc2_w 550, 3) := by decide +kernel
theorem d_M_standing_47 : decode Y_M_standing.2.1 47 = .ok (.lreturn, 1) := by decide +kernel
theorem d_M_standing_48 : decode Y_M_standing.2.1 48 = .ok (.aload_n 0, 1) := by decide +kernel
theorem d_M_standing_49 : decode Y_M_standing.2.1 49 = .ok (.invokevirtual 506, 3) := by decide +kernel
theorem d_M_standing_52 : decode Y_M_standing.2.1 52 = .ok (.iconst 1, 1) := by decide +kernel
theorem d_M_standing_53 : decode Y_M_standing.2.1 53 = .ok (.istore_n 2, 1) := by decide +kernel
theorem d_M_standing_54 : decode Y_M_standing.2.1 54 = .ok (.iload_n 2, 1) := by decide +kernel
theorem d_M_standing_55 : decode Y_M_standing.2.1 55 = .ok (.aload_n 0, 1) := by decide +kernel
theorem d_M_standing_56 : decode Y_M_standing.2.1 56 = .ok (.getfield 275, 3) := by decide +kernel
theorem d_M_standing_59 : decode Y_M_standing.2.1 59 = .ok (.if_icmp .ge 46, 3) := by decide +kernel
theorem d_M_standing_62 : decode Y_M_standing.2.1 62 = .ok (.iload_n 2, 1) := by decide +kernel
theorem d_M_standing_63 : decode Y_M_standing.2.1 63 = .ok (.istore_n 3, 1) := by decide +kernel
theorem d_M_standing_64 : decode Y_M_standing.2.1 64 = .ok (.iload_n 3, 1) := by decide +kernel
theorem d_M_standing_65 : decode Y_M_standing.2.1 65 = .ok (.ifCond .le 34, 3) := by decide +kernel
theorem d_M_standing_68 : decode Y_M_standing.2.1 68 = .ok (.aload_n 0, 1) := by decide +kernel
theorem d_M_standing_69 : decode Y_M_standing.2.1 69 = .ok (.getfield 110, 3) := by decide +kernel
theorem d_M_standing_72 : decode Y_M_standing.2.1 72 = .ok (.iload_n 3, 1) := by decide +kernel
theorem d_M_standing_73 : decode Y_M_standing.2.1 73 = .ok (.iconst 1, 1) := by decide +kernel
theorem d_M_standing_74 : decode Y_M_standing.2.1 74 = .ok (.isub, 1) := by decide +kernel
theorem d_M_standing_75 : decode Y_M_standing.2.1 75 = .ok (.iaload, 1) := by decide +kernel
theorem d_M_standing_76 : decode Y_M_standing.2.1 76 = .ok (.aload_n 0, 1) := by decide +kernel
theorem d_M_standing_77 : decode Y_M_standing.2.1 77 = .ok (.getfield 110, 3) := by decide +kernel
theorem d_M_standing_80 : decode Y_M_standing.2.1 80 = .ok (.iload_n 3, 1) := by decide +kernel
theorem d_M_standing_81 : decode Y_M_standing.2.1 81 = .ok (.iaload, 1) := by decide +kernel
theorem d_M_standing_82 : decode Y_M_standing.2.1 82 = .ok (.if_icmp .le 17, 3) := by decide +kernel
theorem d_M_standing_85 : decode Y_M_standing.2.1 85 = .ok (.aload_n 0, 1) := by decide +kernel
theorem d_M_standing_86 : decode Y_M_standing.2.1 86 = .ok (.iload_n 3, 1) := by decide +kernel
theorem d_M_standing_87 : decode Y_M_standing.2.1 87 = .ok (.iconst 1, 1) := by decide +kernel
theorem d_M_standing_88 : decode Y_M_standing.2.1 88 = .ok (.isub, 1) := by decide +kernel
theorem d_M_standing_89 : decode Y_M_standing.2.1 89 = .ok (.iload_n 3, 1) := by decide +kernel
theorem d_M_standing_90 : decode Y_M_standing.2.1 90 = .ok (.invokevirtual 547, 3) := by decide +kernel
theorem d_M_standing_93 : decode Y_M_standing.2.1 93 = .ok (.iinc 3 (-1), 3) := by decide +kernel
theorem d_M_standing_96 : decode Y_M_standing.2.1 96 = .ok (.goto (-32), 3) := by decide +kernel
theorem d_M_standing_99 : decode Y_M_standing.2.1 99 = .ok (.iinc 2 1, 3) := by decide +kernel
theorem d_M_standing_102 : decode Y_M_standing.2.1 102 = .ok (.goto (-48), 3) := by decide +kernel
theorem d_M_standing_105 : decode Y_M_standing.2.1 105 = .ok (.iconst 0, 1) := by decide +kernel
theorem d_M_standing_106 : decode Y_M_standing.2.1 106 = .ok (.istore_n 2, 1) := by decide +kernel
theorem d_M_standing_107 : decode Y_M_standing.2.1 107 = .ok (.lconst 0, 1) := by decide +kernel
theorem d_M_standing_108 : decode Y_M_standing.2.1 108 = .ok (.lstore_n 3, 1) := by decide +kernel
theorem d_M_standing_109 : decode Y_M_standing.2.1 109 = .ok (.lconst 0, 1) := by decide +kernel
theorem d_M_standing_110 : decode Y_M_standing.2.1 110 = .ok (.lstore 5, 2) := by decide +kernel
theorem d_M_standing_112 : decode Y_M_standing.2.1 112 = .ok (.iconst 1, 1) := by decide +kernel
theorem d_M_standing_113 : decode Y_M_standing.2.1 113 = .ok (.istore 7, 2) := by decide +kernel
theorem d_M_standing_115 : decode Y_M_standing.2.1 115 = .ok (.iload 7, 2) := by decide +kernel
theorem d_M_standing_117 : decode Y_M_standing.2.1 117 = .ok (.ifCond .eq 107, 3) := by decide +kernel
theorem d_M_standing_120 : decode Y_M_standing.2.1 120 = .ok (.aload_n 0, 1) := by decide +kernel
theorem d_M_standing_121 : decode Y_M_standing.2.1 121 = .ok (.invokevirtual 509, 3) := by decide +kernel
theorem d_M_standing_124 : decode Y_M_standing.2.1 124 = .ok (.aload_n 0, 1) := by decide +kernel
theorem d_M_standing_125 : decode Y_M_standing.2.1 125 = .ok (.invokevirtual 537, 3) := by decide +kernel
theorem d_M_standing_128 : decode Y_M_standing.2.1 128 = .ok (.lstore 8, 2) := by decide +kernel
theorem d_M_standing_130 : decode Y_M_standing.2.1 130 = .ok (.aload_n 0, 1) := by decide +kernel
theorem d_M_standing_131 : decode Y_M_standing.2.1 131 = .ok (.invokevirtual 544, 3) := by decide +kernel
theorem d_M_standing_134 : decode Y_M_standing.2.1 134 = .ok (.lstore 10, 2) := by decide +kernel
theorem d_M_standing_136 : decode Y_M_standing.2.1 136 = .ok (.iload_n 2, 1) := by decide +kernel
theorem d_M_standing_137 : decode Y_M_standing.2.1 137 = .ok (.ifCond .eq 37, 3) := by decide +kernel
theorem d_M_standing_140 : decode Y_M_standing.2.1 140 = .ok (.lload 8, 2) := by decide +kernel
theorem d_M_standing_142 : decode Y_M_standing.2.1 142 = .ok (.invokestatic 225, 3) := by decide +kernel
theorem d_M_standing_145 : decode Y_M_standing.2.1 145 = .ok (.lload_n 3, 1) := by decide +kernel
theorem d_M_standing_146 : decode Y_M_standing.2.1 146 = .ok (.invokestatic 225, 3) := by decide +kernel
theorem d_M_standing_149 : decode Y_M_standing.2.1 149 = .ok (.lcmp, 1) := by decide +kernel
theorem d_M_standing_150 : decode Y_M_standing.2.1 150 = .ok (.ifCond .lt 24, 3) := by decide +kernel
theorem d_M_standing_153 : decode Y_M_standing.2.1 153 = .ok (.lload 8, 2) := by decide +kernel
theorem d_M_standing_155 : decode Y_M_standing.2.1 155 = .ok (.invokestatic 225, 3) := by decide +kernel
theorem d_M_standing_158 : decode Y_M_standing.2.1 158 = .ok (.lload_n 3, 1) := by decide +kernel
theorem d_M_standing_159 : decode Y_M_standing.2.1 159 = .ok (.invokestatic 225, 3) := by decide +kernel
theorem d_M_standing_162 : decode Y_M_standing.2.1 162 = .ok (.lcmp, 1) := by decide +kernel
theorem d_M_standing_163 : decode Y_M_standing.2.1 163 = .ok (.ifCond .ne 52, 3) := by decide +kernel
theorem d_M_standing_166 : decode Y_M_standing.2.1 166 = .ok (.lload 10, 2) := by decide +kernel
theorem d_M_standing_168 : decode Y_M_standing.2.1 168 = .ok (.lload 5, 2) := by decide +kernel
theorem d_M_standing_170 : decode Y_M_standing.2.1 170 = .ok (.lcmp, 1) := by decide +kernel
theorem d_M_standing_171 : decode Y_M_standing.2.1 171 = .ok (.ifCond .ge 44, 3) := by decide +kernel
theorem d_M_standing_174 : decode Y_M_standing.2.1 174 = .ok (.iconst 1, 1) := by decide +kernel
theorem d_M_standing_175 : decode Y_M_standing.2.1 175 = .ok (.istore_n 2, 1) := by decide +kernel
theorem d_M_standing_176 : decode Y_M_standing.2.1 176 = .ok (.lload 8, 2) := by decide +kernel
theorem d_M_standing_178 : decode Y_M_standing.2.1 178 = .ok (.lstore_n 3, 1) := by decide +kernel
theorem d_M_standing_179 : decode Y_M_standing.2.1 179 = .ok (.lload 10, 2) := by decide +kernel
theorem d_M_standing_181 : decode Y_M_standing.2.1 181 = .ok (.lstore 5, 2) := by decide +kernel
theorem d_M_standing_183 : decode Y_M_standing.2.1 183 = .ok (.iconst 0, 1) := by decide +kernel
theorem d_M_standing_184 : decode Y_M_standing.2.1 184 = .ok (.istore 12, 2) := by decide +kernel
theorem d_M_standing_186 : decode Y_M_standing.2.1 186 = .ok (.iload 12, 2) := by decide +kernel
theorem d_M_standing_188 : decode Y_M_standing.2.1 188 = .ok (.aload_n 0, 1) := by decide +kernel
theorem d_M_standing_189 : decode Y_M_standing.2.1 189 = .ok (.getfield 275, 3) := by decide +kernel
theorem d_M_standing_192 : decode Y_M_standing.2.1 192 = .ok (.if_icmp .ge 23, 3) := by decide +kernel
theorem d_M_standing_195 : decode Y_M_standing.2.1 195 = .ok (.aload_n 0, 1) := by decide +kernel
theorem d_M_standing_196 : decode Y_M_standing.2.1 196 = .ok (.getfield 134, 3) := by decide +kernel
theorem d_M_standing_199 : decode Y_M_standing.2.1 199 = .ok (.iload 12, 2) := by decide +kernel
theorem d_M_standing_201 : decode Y_M_standing.2.1 201 = .ok (.aload_n 0, 1) := by decide +kernel
theorem d_M_standing_202 : decode Y_M_standing.2.1 202 = .ok (.getfield 110, 3) := by decide +kernel
theorem d_M_standing_205 : decode Y_M_standing.2.1 205 = .ok (.iload 12, 2) := by decide +kernel
theorem d_M_standing_207 : decode Y_M_standing.2.1 207 = .ok (.iaload, 1) := by decide +kernel
theorem d_M_standing_208 : decode Y_M_standing.2.1 208 = .ok (.iastore, 1) := by decide +kernel
theorem d_M_standing_209 : decode Y_M_standing.2.1 209 = .ok (.iinc 12 1, 3) := by decide +kernel
theorem d_M_standing_212 : decode Y_M_standing.2.1 212 = .ok (.goto (-26), 3) := by decide +kernel
theorem d_M_standing_215 : decode Y_M_standing.2.1 215 = .ok (.aload_n 0, 1) := by decide +kernel
theorem d_M_standing_216 : decode Y_M_standing.2.1 216 = .ok (.invokevirtual 552, 3) := by decide +kernel
theorem d_M_standing_219 : decode Y_M_standing.2.1 219 = .ok (.istore 7, 2) := by decide +kernel
theorem d_M_standing_221 : decode Y_M_standing.2.1 221 = .ok (.goto (-106), 3) := by decide +kernel
theorem d_M_standing_224 : decode Y_M_standing.2.1 224 = .ok (.iload_n 1, 1) := by decide +kernel
theorem d_M_standing_225 : decode Y_M_standing.2.1 225 = .ok (.iconst (-1), 1) := by decide +kernel
theorem d_M_standing_226 : decode Y_M_standing.2.1 226 = .ok (.if_icmp .ne 7, 3) := by decide +kernel
theorem d_M_standing_229 : decode Y_M_standing.2.1 229 = .ok (.lload_n 3, 1) := by decide +kernel
theorem d_M_standing_230 : decode Y_M_standing.2.1 230 = .ok (.goto 21, 3) := by decide +kernel
theorem d_M_standing_233 : decode Y_M_standing.2.1 233 = .ok (.iload_n 1, 1) := by decide +kernel
theorem d_M_standing_234 : decode Y_M_standing.2.1 234 = .ok (.bipush 8, 2) := by decide +kernel
theorem d_M_standing_236 : decode Y_M_standing.2.1 236 = .ok (.if_icmp .ne 8, 3) := by decide +kernel
theorem d_M_standing_239 : decode Y_M_standing.2.1 239 = .ok (.lload 5, 2) := by decide +kernel
theorem d_M_standing_241 : decode Y_M_standing.2.1 241 = .ok (.goto 10, 3) := by decide +kernel
theorem d_M_standing_244 : decode Y_M_standing.2.1 244 = .ok (.aload_n 0, 1) := by decide +kernel
theorem d_M_standing_245 : decode Y_M_standing.2.1 245 = .ok (.getfield 134, 3) := by decide +kernel
theorem d_M_standing_248 : decode Y_M_standing.2.1 248 = .ok (.iload_n 1, 1) := by decide +kernel
theorem d_M_standing_249 : decode Y_M_standing.2.1 249 = .ok (.iaload, 1) := by decide +kernel
theorem d_M_standing_250 : decode Y_M_standing.2.1 250 = .ok (.i2l, 1) := by decide +kernel
theorem d_M_standing_251 : decode Y_M_standing.2.1 251 = .ok (.lreturn, 1) := by decide +kernel
theorem d_Mt_max_JJ_0 : decode Y_Mt_max_JJ.2.1 0 = .ok (.lload_n 0, 1) := by decide +kernel
theorem d_Mt_max_JJ_1 : decode Y_Mt_max_JJ.2.1 1 = .ok (.lload_n 2, 1) := by decide +kernel
theorem d_Mt_max_JJ_2 : decode Y_Mt_max_JJ.2.1 2 = .ok (.lcmp, 1) := by decide +kernel
theorem d_Mt_max_JJ_3 : decode Y_Mt_max_JJ.2.1 3 = .ok (.ifCond .lt 7, 3) := by decide +kernel
theorem d_Mt_max_JJ_6 : decode Y_Mt_max_JJ.2.1 6 = .ok (.lload_n 0, 1) := by decide +kernel
theorem d_Mt_max_JJ_7 : decode Y_Mt_max_JJ.2.1 7 = .ok (.goto 4, 3) := by decide +kernel
theorem d_Mt_max_JJ_10 : decode Y_Mt_max_JJ.2.1 10 = .ok (.lload_n 2, 1) := by decide +kernel
theorem d_Mt_max_JJ_11 : decode Y_Mt_max_JJ.2.1 11 = .ok (.lreturn, 1) := by decide +kernel
theorem d_Le_chart_0 : decode Y_Le_chart.2.1 0 = .ok (.lconst 0, 1) := by decide +kernel
theorem d_Le_chart_1 : decode Y_Le_chart.2.1 1 = .ok (.lstore_n 3, 1) := by decide +kernel
theorem d_Le_chart_2 : decode Y_Le_chart.2.1 2 = .ok (.iload_n 1, 1) := by decide +kernel
theorem d_Le_chart_3 : decode Y_Le_chart.2.1 3 = .ok (.istore 5, 2) := by decide +kernel
theorem d_Le_chart_5 : decode Y_Le_chart.2.1 5 = .ok (.iload 5, 2) := by decide +kernel
theorem d_Le_chart_7 : decode Y_Le_chart.2.1 7 = .ok (.iload_n 2, 1) := by decide +kernel
theorem d_Le_chart_8 : decode Y_Le_chart.2.1 8 = .ok (.if_icmp .gt 39, 3) := by decide +kernel
theorem d_Le_chart_11 : decode Y_Le_chart.2.1 11 = .ok (.lload_n 3, 1) := by decide +kernel
theorem d_Le_chart_12 : decode Y_Le_chart.2.1 12 = .ok (.aload_n 0, 1) := by decide +kernel
theorem d_Le_chart_13 : decode Y_Le_chart.2.1 13 = .ok (.getfield 19, 3) := by decide +kernel
theorem d_Le_chart_16 : decode Y_Le_chart.2.1 16 = .ok (.iload 5, 2) := by decide +kernel
theorem d_Le_chart_18 : decode Y_Le_chart.2.1 18 = .ok (.invokevirtual 72, 3) := by decide +kernel
theorem d_Le_chart_21 : decode Y_Le_chart.2.1 21 = .ok (.invokestatic 76, 3) := by decide +kernel
theorem d_Le_chart_24 : decode Y_Le_chart.2.1 24 = .ok (.invokestatic 62, 3) := by decide +kernel
theorem d_Le_chart_27 : decode Y_Le_chart.2.1 27 = .ok (.lstore_n 3, 1) := by decide +kernel
theorem d_Le_chart_28 : decode Y_Le_chart.2.1 28 = .ok (.aload_n 0, 1) := by decide +kernel
theorem d_Le_chart_29 : decode Y_Le_chart.2.1 29 = .ok (.getfield 9, 3) := by decide +kernel
theorem d_Le_chart_32 : decode Y_Le_chart.2.1 32 = .ok (.iload_n 1, 1) := by decide +kernel
theorem d_Le_chart_33 : decode Y_Le_chart.2.1 33 = .ok (.bipush 24, 2) := by decide +kernel
theorem d_Le_chart_35 : decode Y_Le_chart.2.1 35 = .ok (.imul, 1) := by decide +kernel
theorem d_Le_chart_36 : decode Y_Le_chart.2.1 36 = .ok (.iload 5, 2) := by decide +kernel
theorem d_Le_chart_38 : decode Y_Le_chart.2.1 38 = .ok (.iadd, 1) := by decide +kernel
theorem d_Le_chart_39 : decode Y_Le_chart.2.1 39 = .ok (.lload_n 3, 1) := by decide +kernel
theorem d_Le_chart_40 : decode Y_Le_chart.2.1 40 = .ok (.lastore, 1) := by decide +kernel
theorem d_Le_chart_41 : decode Y_Le_chart.2.1 41 = .ok (.iinc 5 1, 3) := by decide +kernel
theorem d_Le_chart_44 : decode Y_Le_chart.2.1 44 = .ok (.goto (-39), 3) := by decide +kernel
theorem d_Le_chart_47 : decode Y_Le_chart.2.1 47 = .ok (.return_, 1) := by decide +kernel
theorem d_Le_farthest_0 : decode Y_Le_farthest.2.1 0 = .ok (.iload_n 2, 1) := by decide +kernel
theorem d_Le_farthest_1 : decode Y_Le_farthest.2.1 1 = .ok (.iload_n 1, 1) := by decide +kernel
theorem d_Le_farthest_2 : decode Y_Le_farthest.2.1 2 = .ok (.if_icmp .ge 7, 3) := by decide +kernel
theorem d_Le_farthest_5 : decode Y_Le_farthest.2.1 5 = .ok (.lconst 0, 1) := by decide +kernel
theorem d_Le_farthest_6 : decode Y_Le_farthest.2.1 6 = .ok (.goto 14, 3) := by decide +kernel
theorem d_Le_farthest_9 : decode Y_Le_farthest.2.1 9 = .ok (.aload_n 0, 1) := by decide +kernel
theorem d_Le_farthest_10 : decode Y_Le_farthest.2.1 10 = .ok (.getfield 9, 3) := by decide +kernel
theorem d_Le_farthest_13 : decode Y_Le_farthest.2.1 13 = .ok (.iload_n 1, 1) := by decide +kernel
theorem d_Le_farthest_14 : decode Y_Le_farthest.2.1 14 = .ok (.bipush 24, 2) := by decide +kernel
theorem d_Le_farthest_16 : decode Y_Le_farthest.2.1 16 = .ok (.imul, 1) := by decide +kernel
theorem d_Le_farthest_17 : decode Y_Le_farthest.2.1 17 = .ok (.iload_n 2, 1) := by decide +kernel
theorem d_Le_farthest_18 : decode Y_Le_farthest.2.1 18 = .ok (.iadd, 1) := by decide +kernel
theorem d_Le_farthest_19 : decode Y_Le_farthest.2.1 19 = .ok (.laload, 1) := by decide +kernel
theorem d_Le_farthest_20 : decode Y_Le_farthest.2.1 20 = .ok (.lreturn, 1) := by decide +kernel
theorem d_Le_consider_0 : decode Y_Le_consider.2.1 0 = .ok (.lload_n 2, 1) := by decide +kernel
theorem d_Le_consider_1 : decode Y_Le_consider.2.1 1 = .ok (.aload_n 0, 1) := by decide +kernel
theorem d_Le_consider_2 : decode Y_Le_consider.2.1 2 = .ok (.getfield 54, 3) := by decide +kernel
theorem d_Le_consider_5 : decode Y_Le_consider.2.1 5 = .ok (.lcmp, 1) := by decide +kernel
theorem d_Le_consider_6 : decode Y_Le_consider.2.1 6 = .ok (.ifCond .ge 13, 3) := by decide +kernel
theorem d_Le_consider_9 : decode Y_Le_consider.2.1 9 = .ok (.aload_n 0, 1) := by decide +kernel
theorem d_Le_consider_10 : decode Y_Le_consider.2.1 10 = .ok (.iload_n 1, 1) := by decide +kernel
theorem d_Le_consider_11 : decode Y_Le_consider.2.1 11 = .ok (.putfield 46, 3) := by decide +kernel
theorem d_Le_consider_14 : decode Y_Le_consider.2.1 14 = .ok (.aload_n 0, 1) := by decide +kernel
theorem d_Le_consider_15 : decode Y_Le_consider.2.1 15 = .ok (.lload_n 2, 1) := by decide +kernel
theorem d_Le_consider_16 : decode Y_Le_consider.2.1 16 = .ok (.putfield 54, 3) := by decide +kernel
theorem d_Le_consider_19 : decode Y_Le_consider.2.1 19 = .ok (.return_, 1) := by decide +kernel
theorem d_Le_find_0 : decode Y_Le_find.2.1 0 = .ok (.aload_n 0, 1) := by decide +kernel
theorem d_Le_find_1 : decode Y_Le_find.2.1 1 = .ok (.getfield 15, 3) := by decide +kernel
theorem d_Le_find_4 : decode Y_Le_find.2.1 4 = .ok (.invokevirtual 23, 3) := by decide +kernel
theorem d_Le_find_7 : decode Y_Le_find.2.1 7 = .ok (.istore_n 2, 1) := by decide +kernel
theorem d_Le_find_8 : decode Y_Le_find.2.1 8 = .ok (.aload_n 0, 1) := by decide +kernel
theorem d_Le_find_9 : decode Y_Le_find.2.1 9 = .ok (.getfield 15, 3) := by decide +kernel
theorem d_Le_find_12 : decode Y_Le_find.2.1 12 = .ok (.invokevirtual 29, 3) := by decide +kernel
theorem d_Le_find_15 : decode Y_Le_find.2.1 15 = .ok (.istore_n 3, 1) := by decide +kernel
theorem d_Le_find_16 : decode Y_Le_find.2.1 16 = .ok (.aload_n 0, 1) := by decide +kernel
theorem d_Le_find_17 : decode Y_Le_find.2.1 17 = .ok (.getfield 19, 3) := by decide +kernel
theorem d_Le_find_20 : decode Y_Le_find.2.1 20 = .ok (.aload_n 0, 1) := by decide +kernel
theorem d_Le_find_21 : decode Y_Le_find.2.1 21 = .ok (.getfield 15, 3) := by decide +kernel
theorem d_Le_find_24 : decode Y_Le_find.2.1 24 = .ok (.getfield 32, 3) := by decide +kernel
theorem d_Le_find_27 : decode Y_Le_find.2.1 27 = .ok (.iconst 0, 1) := by decide +kernel
theorem d_Le_find_28 : decode Y_Le_find.2.1 28 = .ok (.iconst 0, 1) := by decide +kernel
theorem d_Le_find_29 : decode Y_Le_find.2.1 29 = .ok (.iconst 0, 1) := by decide +kernel
theorem d_Le_find_30 : decode Y_Le_find.2.1 30 = .ok (.invokevirtual 36, 3) := by decide +kernel
theorem d_Le_find_33 : decode Y_Le_find.2.1 33 = .ok (.aload_n 0, 1) := by decide +kernel
theorem d_Le_find_34 : decode Y_Le_find.2.1 34 = .ok (.iconst 0, 1) := by decide +kernel
theorem d_Le_find_35 : decode Y_Le_find.2.1 35 = .ok (.iload_n 3, 1) := by decide +kernel
theorem d_Le_find_36 : decode Y_Le_find.2.1 36 = .ok (.invokevirtual 42, 3) := by decide +kernel
theorem d_Le_find_39 : decode Y_Le_find.2.1 39 = .ok (.iload_n 2, 1) := by decide +kernel
theorem d_Le_find_40 : decode Y_Le_find.2.1 40 = .ok (.iconst 1, 1) := by decide +kernel
theorem d_Le_find_41 : decode Y_Le_find.2.1 41 = .ok (.iadd, 1) := by decide +kernel
theorem d_Le_find_42 : decode Y_Le_find.2.1 42 = .ok (.istore 4, 2) := by decide +kernel
theorem d_Le_find_44 : decode Y_Le_find.2.1 44 = .ok (.iload 4, 2) := by decide +kernel
theorem d_Le_find_46 : decode Y_Le_find.2.1 46 = .ok (.iload_n 3, 1) := by decide +kernel
theorem d_Le_find_47 : decode Y_Le_find.2.1 47 = .ok (.if_icmp .gt 36, 3) := by decide +kernel
theorem d_Le_find_50 : decode Y_Le_find.2.1 50 = .ok (.aload_n 0, 1) := by decide +kernel
theorem d_Le_find_51 : decode Y_Le_find.2.1 51 = .ok (.getfield 19, 3) := by decide +kernel
theorem d_Le_find_54 : decode Y_Le_find.2.1 54 = .ok (.aload_n 0, 1) := by decide +kernel
theorem d_Le_find_55 : decode Y_Le_find.2.1 55 = .ok (.getfield 15, 3) := by decide +kernel
theorem d_Le_find_58 : decode Y_Le_find.2.1 58 = .ok (.getfield 32, 3) := by decide +kernel
theorem d_Le_find_61 : decode Y_Le_find.2.1 61 = .ok (.iconst 1, 1) := by decide +kernel
theorem d_Le_find_62 : decode Y_Le_find.2.1 62 = .ok (.iload 4, 2) := by decide +kernel
theorem d_Le_find_64 : decode Y_Le_find.2.1 64 = .ok (.ishl, 1) := by decide +kernel
theorem d_Le_find_65 : decode Y_Le_find.2.1 65 = .ok (.iconst 0, 1) := by decide +kernel
theorem d_Le_find_66 : decode Y_Le_find.2.1 66 = .ok (.iconst 0, 1) := by decide +kernel
theorem d_Le_find_67 : decode Y_Le_find.2.1 67 = .ok (.invokevirtual 36, 3) := by decide +kernel
theorem d_Le_find_70 : decode Y_Le_find.2.1 70 = .ok (.aload_n 0, 1) := by decide +kernel
theorem d_Le_find_71 : decode Y_Le_find.2.1 71 = .ok (.iload 4, 2) := by decide +kernel
theorem d_Le_find_73 : decode Y_Le_find.2.1 73 = .ok (.iload_n 3, 1) := by decide +kernel
theorem d_Le_find_74 : decode Y_Le_find.2.1 74 = .ok (.invokevirtual 42, 3) := by decide +kernel
theorem d_Le_find_77 : decode Y_Le_find.2.1 77 = .ok (.iinc 4 1, 3) := by decide +kernel
theorem d_Le_find_80 : decode Y_Le_find.2.1 80 = .ok (.goto (-36), 3) := by decide +kernel
theorem d_Le_find_83 : decode Y_Le_find.2.1 83 = .ok (.aload_n 0, 1) := by decide +kernel
theorem d_Le_find_84 : decode Y_Le_find.2.1 84 = .ok (.iconst 0, 1) := by decide +kernel
theorem d_Le_find_85 : decode Y_Le_find.2.1 85 = .ok (.putfield 46, 3) := by decide +kernel
theorem d_Le_find_88 : decode Y_Le_find.2.1 88 = .ok (.aload_n 0, 1) := by decide +kernel
theorem d_Le_find_89 : decode Y_Le_find.2.1 89 = .ok (.ldc2_w 52, 3) := by decide +kernel
theorem d_Le_find_92 : decode Y_Le_find.2.1 92 = .ok (.putfield 54, 3) := by decide +kernel
theorem d_Le_find_95 : decode Y_Le_find.2.1 95 = .ok (.iload_n 2, 1) := by decide +kernel
theorem d_Le_find_96 : decode Y_Le_find.2.1 96 = .ok (.iconst 1, 1) := by decide +kernel
theorem d_Le_find_97 : decode Y_Le_find.2.1 97 = .ok (.iadd, 1) := by decide +kernel
theorem d_Le_find_98 : decode Y_Le_find.2.1 98 = .ok (.istore 4, 2) := by decide +kernel
theorem d_Le_find_100 : decode Y_Le_find.2.1 100 = .ok (.iload 4, 2) := by decide +kernel
theorem d_Le_find_102 : decode Y_Le_find.2.1 102 = .ok (.iload_n 3, 1) := by decide +kernel
theorem d_Le_find_103 : decode Y_Le_find.2.1 103 = .ok (.if_icmp .gt 168, 3) := by decide +kernel
theorem d_Le_find_106 : decode Y_Le_find.2.1 106 = .ok (.iload_n 1, 1) := by decide +kernel
theorem d_Le_find_107 : decode Y_Le_find.2.1 107 = .ok (.iconst 1, 1) := by decide +kernel
theorem d_Le_find_108 : decode Y_Le_find.2.1 108 = .ok (.if_icmp .le 10, 3) := by decide +kernel
theorem d_Le_find_111 : decode Y_Le_find.2.1 111 = .ok (.iload 4, 2) := by decide +kernel
theorem d_Le_find_113 : decode Y_Le_find.2.1 113 = .ok (.iconst 1, 1) := by decide +kernel
theorem d_Le_find_114 : decode Y_Le_find.2.1 114 = .ok (.isub, 1) := by decide +kernel
theorem d_Le_find_115 : decode Y_Le_find.2.1 115 = .ok (.goto 5, 3) := by decide +kernel
theorem d_Le_find_118 : decode Y_Le_find.2.1 118 = .ok (.iload 4, 2) := by decide +kernel
theorem d_Le_find_120 : decode Y_Le_find.2.1 120 = .ok (.istore 5, 2) := by decide +kernel
theorem d_Le_find_122 : decode Y_Le_find.2.1 122 = .ok (.iload_n 1, 1) := by decide +kernel
theorem d_Le_find_123 : decode Y_Le_find.2.1 123 = .ok (.iconst 1, 1) := by decide +kernel
theorem d_Le_find_124 : decode Y_Le_find.2.1 124 = .ok (.if_icmp .le 9, 3) := by decide +kernel
theorem d_Le_find_127 : decode Y_Le_find.2.1 127 = .ok (.iload_n 2, 1) := by decide +kernel
theorem d_Le_find_128 : decode Y_Le_find.2.1 128 = .ok (.iconst 1, 1) := by decide +kernel
theorem d_Le_find_129 : decode Y_Le_find.2.1 129 = .ok (.iadd, 1) := by decide +kernel
theorem d_Le_find_130 : decode Y_Le_find.2.1 130 = .ok (.goto 5, 3) := by decide +kernel
theorem d_Le_find_133 : decode Y_Le_find.2.1 133 = .ok (.iload 4, 2) := by decide +kernel
theorem d_Le_find_135 : decode Y_Le_find.2.1 135 = .ok (.istore 6, 2) := by decide +kernel
theorem d_Le_find_137 : decode Y_Le_find.2.1 137 = .ok (.iload 6, 2) := by decide +kernel
theorem d_Le_find_139 : decode Y_Le_find.2.1 139 = .ok (.iload 5, 2) := by decide +kernel
theorem d_Le_find_141 : decode Y_Le_find.2.1 141 = .ok (.if_icmp .gt 124, 3) := by decide +kernel
theorem d_Le_find_144 : decode Y_Le_find.2.1 144 = .ok (.iload_n 1, 1) := by decide +kernel
theorem d_Le_find_145 : decode Y_Le_find.2.1 145 = .ok (.iconst 2, 1) := by decide +kernel
theorem d_Le_find_146 : decode Y_Le_find.2.1 146 = .ok (.if_icmp .le 10, 3) := by decide +kernel
theorem d_Le_find_149 : decode Y_Le_find.2.1 149 = .ok (.iload 6, 2) := by decide +kernel
theorem d_Le_find_151 : decode Y_Le_find.2.1 151 = .ok (.iconst 1, 1) := by decide +kernel
theorem d_Le_find_152 : decode Y_Le_find.2.1 152 = .ok (.isub, 1) := by decide +kernel
theorem d_Le_find_153 : decode Y_Le_find.2.1 153 = .ok (.goto 5, 3) := by decide +kernel
theorem d_Le_find_156 : decode Y_Le_find.2.1 156 = .ok (.iload 6, 2) := by decide +kernel
theorem d_Le_find_158 : decode Y_Le_find.2.1 158 = .ok (.istore 7, 2) := by decide +kernel
theorem d_Le_find_160 : decode Y_Le_find.2.1 160 = .ok (.iload_n 1, 1) := by decide +kernel
theorem d_Le_find_161 : decode Y_Le_find.2.1 161 = .ok (.iconst 2, 1) := by decide +kernel
theorem d_Le_find_162 : decode Y_Le_find.2.1 162 = .ok (.if_icmp .le 9, 3) := by decide +kernel
theorem d_Le_find_165 : decode Y_Le_find.2.1 165 = .ok (.iload_n 2, 1) := by decide +kernel
theorem d_Le_find_166 : decode Y_Le_find.2.1 166 = .ok (.iconst 1, 1) := by decide +kernel
theorem d_Le_find_167 : decode Y_Le_find.2.1 167 = .ok (.iadd, 1) := by decide +kernel
theorem d_Le_find_168 : decode Y_Le_find.2.1 168 = .ok (.goto 5, 3) := by decide +kernel
theorem d_Le_find_171 : decode Y_Le_find.2.1 171 = .ok (.iload 6, 2) := by decide +kernel
theorem d_Le_find_173 : decode Y_Le_find.2.1 173 = .ok (.istore 8, 2) := by decide +kernel
theorem d_Le_find_175 : decode Y_Le_find.2.1 175 = .ok (.iload 8, 2) := by decide +kernel
theorem d_Le_find_177 : decode Y_Le_find.2.1 177 = .ok (.iload 7, 2) := by decide +kernel
theorem d_Le_find_179 : decode Y_Le_find.2.1 179 = .ok (.if_icmp .gt 80, 3) := by decide +kernel
theorem d_Le_find_182 : decode Y_Le_find.2.1 182 = .ok (.aload_n 0, 1) := by decide +kernel
theorem d_Le_find_183 : decode Y_Le_find.2.1 183 = .ok (.iconst 0, 1) := by decide +kernel
theorem d_Le_find_184 : decode Y_Le_find.2.1 184 = .ok (.iload 8, 2) := by decide +kernel
theorem d_Le_find_186 : decode Y_Le_find.2.1 186 = .ok (.iconst 1, 1) := by decide +kernel
theorem d_Le_find_187 : decode Y_Le_find.2.1 187 = .ok (.isub, 1) := by decide +kernel
theorem d_Le_find_188 : decode Y_Le_find.2.1 188 = .ok (.invokevirtual 58, 3) := by decide +kernel
theorem d_Le_find_191 : decode Y_Le_find.2.1 191 = .ok (.aload_n 0, 1) := by decide +kernel
theorem d_Le_find_192 : decode Y_Le_find.2.1 192 = .ok (.iload 8, 2) := by decide +kernel
theorem d_Le_find_194 : decode Y_Le_find.2.1 194 = .ok (.iload 6, 2) := by decide +kernel
theorem d_Le_find_196 : decode Y_Le_find.2.1 196 = .ok (.iconst 1, 1) := by decide +kernel
theorem d_Le_find_197 : decode Y_Le_find.2.1 197 = .ok (.isub, 1) := by decide +kernel
theorem d_Le_find_198 : decode Y_Le_find.2.1 198 = .ok (.invokevirtual 58, 3) := by decide +kernel
theorem d_Le_find_201 : decode Y_Le_find.2.1 201 = .ok (.invokestatic 62, 3) := by decide +kernel
theorem d_Le_find_204 : decode Y_Le_find.2.1 204 = .ok (.lstore 9, 2) := by decide +kernel
theorem d_Le_find_206 : decode Y_Le_find.2.1 206 = .ok (.aload_n 0, 1) := by decide +kernel
theorem d_Le_find_207 : decode Y_Le_find.2.1 207 = .ok (.iload 6, 2) := by decide +kernel
theorem d_Le_find_209 : decode Y_Le_find.2.1 209 = .ok (.iload 4, 2) := by decide +kernel
theorem d_Le_find_211 : decode Y_Le_find.2.1 211 = .ok (.iconst 1, 1) := by decide +kernel
theorem d_Le_find_212 : decode Y_Le_find.2.1 212 = .ok (.isub, 1) := by decide +kernel
theorem d_Le_find_213 : decode Y_Le_find.2.1 213 = .ok (.invokevirtual 58, 3) := by decide +kernel
theorem d_Le_find_216 : decode Y_Le_find.2.1 216 = .ok (.aload_n 0, 1) := by decide +kernel
theorem d_Le_find_217 : decode Y_Le_find.2.1 217 = .ok (.iload 4, 2) := by decide +kernel
theorem d_Le_find_219 : decode Y_Le_find.2.1 219 = .ok (.iload_n 3, 1) := by decide +kernel
theorem d_Le_find_220 : decode Y_Le_find.2.1 220 = .ok (.invokevirtual 58, 3) := by decide +kernel
theorem d_Le_find_223 : decode Y_Le_find.2.1 223 = .ok (.invokestatic 62, 3) := by decide +kernel
theorem d_Le_find_226 : decode Y_Le_find.2.1 226 = .ok (.lstore 11, 2) := by decide +kernel
theorem d_Le_find_228 : decode Y_Le_find.2.1 228 = .ok (.aload_n 0, 1) := by decide +kernel
theorem d_Le_find_229 : decode Y_Le_find.2.1 229 = .ok (.iconst 1, 1) := by decide +kernel
theorem d_Le_find_230 : decode Y_Le_find.2.1 230 = .ok (.iload 8, 2) := by decide +kernel
theorem d_Le_find_232 : decode Y_Le_find.2.1 232 = .ok (.ishl, 1) := by decide +kernel
theorem d_Le_find_233 : decode Y_Le_find.2.1 233 = .ok (.iconst 1, 1) := by decide +kernel
theorem d_Le_find_234 : decode Y_Le_find.2.1 234 = .ok (.iload 6, 2) := by decide +kernel
theorem d_Le_find_236 : decode Y_Le_find.2.1 236 = .ok (.ishl, 1) := by decide +kernel
theorem d_Le_find_237 : decode Y_Le_find.2.1 237 = .ok (.ior, 1) := by decide +kernel
theorem d_Le_find_238 : decode Y_Le_find.2.1 238 = .ok (.iconst 1, 1) := by decide +kernel
theorem d_Le_find_239 : decode Y_Le_find.2.1 239 = .ok (.iload 4, 2) := by decide +kernel
theorem d_Le_find_241 : decode Y_Le_find.2.1 241 = .ok (.ishl, 1) := by decide +kernel
theorem d_Le_find_242 : decode Y_Le_find.2.1 242 = .ok (.ior, 1) := by decide +kernel
theorem d_Le_find_243 : decode Y_Le_find.2.1 243 = .ok (.lload 9, 2) := by decide +kernel
theorem d_Le_find_245 : decode Y_Le_find.2.1 245 = .ok (.lload 11, 2) := by decide +kernel
theorem d_Le_find_247 : decode Y_Le_find.2.1 247 = .ok (.invokestatic 62, 3) := by decide +kernel
theorem d_Le_find_250 : decode Y_Le_find.2.1 250 = .ok (.invokevirtual 68, 3) := by decide +kernel
theorem d_Le_find_253 : decode Y_Le_find.2.1 253 = .ok (.iinc 8 1, 3) := by decide +kernel
theorem d_Le_find_256 : decode Y_Le_find.2.1 256 = .ok (.goto (-81), 3) := by decide +kernel
theorem d_Le_find_259 : decode Y_Le_find.2.1 259 = .ok (.iinc 6 1, 3) := by decide +kernel
theorem d_Le_find_262 : decode Y_Le_find.2.1 262 = .ok (.goto (-125), 3) := by decide +kernel
theorem d_Le_find_265 : decode Y_Le_find.2.1 265 = .ok (.iinc 4 1, 3) := by decide +kernel
theorem d_Le_find_268 : decode Y_Le_find.2.1 268 = .ok (.goto (-168), 3) := by decide +kernel
theorem d_Le_find_271 : decode Y_Le_find.2.1 271 = .ok (.return_, 1) := by decide +kernel
theorem d_X_leader_0 : decode Y_X_leader.2.1 0 = .ok (.iload_n 1, 1) := by decide +kernel
theorem d_X_leader_1 : decode Y_X_leader.2.1 1 = .ok (.iconst 1, 1) := by decide +kernel
theorem d_X_leader_2 : decode Y_X_leader.2.1 2 = .ok (.if_icmp .lt 28, 3) := by decide +kernel
theorem d_X_leader_5 : decode Y_X_leader.2.1 5 = .ok (.iload_n 1, 1) := by decide +kernel
theorem d_X_leader_6 : decode Y_X_leader.2.1 6 = .ok (.iconst 3, 1) := by decide +kernel
theorem d_X_leader_7 : decode Y_X_leader.2.1 7 = .ok (.if_icmp .gt 23, 3) := by decide +kernel
theorem d_X_leader_10 : decode Y_X_leader.2.1 10 = .ok (.iload_n 2, 1) := by decide +kernel
theorem d_X_leader_11 : decode Y_X_leader.2.1 11 = .ok (.ifCond .lt 19, 3) := by decide +kernel
theorem d_X_leader_14 : decode Y_X_leader.2.1 14 = .ok (.iload_n 2, 1) := by decide +kernel
theorem d_X_leader_15 : decode Y_X_leader.2.1 15 = .ok (.iconst 1, 1) := by decide +kernel
theorem d_X_leader_16 : decode Y_X_leader.2.1 16 = .ok (.if_icmp .gt 14, 3) := by decide +kernel
theorem d_X_leader_19 : decode Y_X_leader.2.1 19 = .ok (.aload_n 0, 1) := by decide +kernel
theorem d_X_leader_20 : decode Y_X_leader.2.1 20 = .ok (.getfield 21, 3) := by decide +kernel
theorem d_X_leader_23 : decode Y_X_leader.2.1 23 = .ok (.invokevirtual 254, 3) := by decide +kernel
theorem d_X_leader_26 : decode Y_X_leader.2.1 26 = .ok (.iconst (-1), 1) := by decide +kernel
theorem d_X_leader_27 : decode Y_X_leader.2.1 27 = .ok (.if_icmp .ne 7, 3) := by decide +kernel
theorem d_X_leader_30 : decode Y_X_leader.2.1 30 = .ok (.ldc2_w 286, 3) := by decide +kernel
theorem d_X_leader_33 : decode Y_X_leader.2.1 33 = .ok (.lreturn, 1) := by decide +kernel
theorem d_X_leader_34 : decode Y_X_leader.2.1 34 = .ok (.aload_n 0, 1) := by decide +kernel
theorem d_X_leader_35 : decode Y_X_leader.2.1 35 = .ok (.getfield 21, 3) := by decide +kernel
theorem d_X_leader_38 : decode Y_X_leader.2.1 38 = .ok (.invokevirtual 257, 3) := by decide +kernel
theorem d_X_leader_41 : decode Y_X_leader.2.1 41 = .ok (.aload_n 0, 1) := by decide +kernel
theorem d_X_leader_42 : decode Y_X_leader.2.1 42 = .ok (.getfield 21, 3) := by decide +kernel
theorem d_X_leader_45 : decode Y_X_leader.2.1 45 = .ok (.invokevirtual 254, 3) := by decide +kernel
theorem d_X_leader_48 : decode Y_X_leader.2.1 48 = .ok (.isub, 1) := by decide +kernel
theorem d_X_leader_49 : decode Y_X_leader.2.1 49 = .ok (.iload_n 1, 1) := by decide +kernel
theorem d_X_leader_50 : decode Y_X_leader.2.1 50 = .ok (.if_icmp .ge 7, 3) := by decide +kernel
theorem d_X_leader_53 : decode Y_X_leader.2.1 53 = .ok (.ldc2_w 288, 3) := by decide +kernel
theorem d_X_leader_56 : decode Y_X_leader.2.1 56 = .ok (.lreturn, 1) := by decide +kernel
theorem d_X_leader_57 : decode Y_X_leader.2.1 57 = .ok (.aload_n 0, 1) := by decide +kernel
theorem d_X_leader_58 : decode Y_X_leader.2.1 58 = .ok (.getfield 46, 3) := by decide +kernel
theorem d_X_leader_61 : decode Y_X_leader.2.1 61 = .ok (.iload_n 1, 1) := by decide +kernel
theorem d_X_leader_62 : decode Y_X_leader.2.1 62 = .ok (.invokevirtual 290, 3) := by decide +kernel
theorem d_X_leader_65 : decode Y_X_leader.2.1 65 = .ok (.iload_n 2, 1) := by decide +kernel
theorem d_X_leader_66 : decode Y_X_leader.2.1 66 = .ok (.ifCond .ne 14, 3) := by decide +kernel
theorem d_X_leader_69 : decode Y_X_leader.2.1 69 = .ok (.aload_n 0, 1) := by decide +kernel
theorem d_X_leader_70 : decode Y_X_leader.2.1 70 = .ok (.getfield 46, 3) := by decide +kernel
theorem d_X_leader_73 : decode Y_X_leader.2.1 73 = .ok (.getfield 291, 3) := by decide +kernel
theorem d_X_leader_76 : decode Y_X_leader.2.1 76 = .ok (.i2l, 1) := by decide +kernel
theorem d_X_leader_77 : decode Y_X_leader.2.1 77 = .ok (.goto 10, 3) := by decide +kernel
theorem d_X_leader_80 : decode Y_X_leader.2.1 80 = .ok (.aload_n 0, 1) := by decide +kernel
theorem d_X_leader_81 : decode Y_X_leader.2.1 81 = .ok (.getfield 46, 3) := by decide +kernel
theorem d_X_leader_84 : decode Y_X_leader.2.1 84 = .ok (.getfield 294, 3) := by decide +kernel
theorem d_X_leader_87 : decode Y_X_leader.2.1 87 = .ok (.lreturn, 1) := by decide +kernel
theorem d_M_farthest_0 : decode Y_M_farthest.2.1 0 = .ok (.lconst 0, 1) := by decide +kernel
theorem d_M_farthest_1 : decode Y_M_farthest.2.1 1 = .ok (.lstore_n 1, 1) := by decide +kernel
theorem d_M_farthest_2 : decode Y_M_farthest.2.1 2 = .ok (.iconst 0, 1) := by decide +kernel
theorem d_M_farthest_3 : decode Y_M_farthest.2.1 3 = .ok (.istore_n 3, 1) := by decide +kernel
theorem d_M_farthest_4 : decode Y_M_farthest.2.1 4 = .ok (.iload_n 3, 1) := by decide +kernel
theorem d_M_farthest_5 : decode Y_M_farthest.2.1 5 = .ok (.bipush 24, 2) := by decide +kernel
theorem d_M_farthest_7 : decode Y_M_farthest.2.1 7 = .ok (.if_icmp .ge 44, 3) := by decide +kernel
theorem d_M_farthest_10 : decode Y_M_farthest.2.1 10 = .ok (.aload_n 0, 1) := by decide +kernel
theorem d_M_farthest_11 : decode Y_M_farthest.2.1 11 = .ok (.iload_n 3, 1) := by decide +kernel
theorem d_M_farthest_12 : decode Y_M_farthest.2.1 12 = .ok (.invokevirtual 438, 3) := by decide +kernel
theorem d_M_farthest_15 : decode Y_M_farthest.2.1 15 = .ok (.ifCond .ne 6, 3) := by decide +kernel
theorem d_M_farthest_18 : decode Y_M_farthest.2.1 18 = .ok (.goto 27, 3) := by decide +kernel
theorem d_M_farthest_21 : decode Y_M_farthest.2.1 21 = .ok (.aload_n 0, 1) := by decide +kernel
theorem d_M_farthest_22 : decode Y_M_farthest.2.1 22 = .ok (.iload_n 3, 1) := by decide +kernel
theorem d_M_farthest_23 : decode Y_M_farthest.2.1 23 = .ok (.invokevirtual 519, 3) := by decide +kernel
theorem d_M_farthest_26 : decode Y_M_farthest.2.1 26 = .ok (.invokestatic 225, 3) := by decide +kernel
theorem d_M_farthest_29 : decode Y_M_farthest.2.1 29 = .ok (.lstore 4, 2) := by decide +kernel
theorem d_M_farthest_31 : decode Y_M_farthest.2.1 31 = .ok (.lload 4, 2) := by decide +kernel
theorem d_M_farthest_33 : decode Y_M_farthest.2.1 33 = .ok (.lload_n 1, 1) := by decide +kernel
theorem d_M_farthest_34 : decode Y_M_farthest.2.1 34 = .ok (.lcmp, 1) := by decide +kernel
theorem d_M_farthest_35 : decode Y_M_farthest.2.1 35 = .ok (.ifCond .le 8, 3) := by decide +kernel
theorem d_M_farthest_38 : decode Y_M_farthest.2.1 38 = .ok (.lload 4, 2) := by decide +kernel
theorem d_M_farthest_40 : decode Y_M_farthest.2.1 40 = .ok (.goto 4, 3) := by decide +kernel
theorem d_M_farthest_43 : decode Y_M_farthest.2.1 43 = .ok (.lload_n 1, 1) := by decide +kernel
theorem d_M_farthest_44 : decode Y_M_farthest.2.1 44 = .ok (.lstore_n 1, 1) := by decide +kernel
theorem d_M_farthest_45 : decode Y_M_farthest.2.1 45 = .ok (.iinc 3 1, 3) := by decide +kernel
theorem d_M_farthest_48 : decode Y_M_farthest.2.1 48 = .ok (.goto (-44), 3) := by decide +kernel
theorem d_M_farthest_51 : decode Y_M_farthest.2.1 51 = .ok (.lload_n 1, 1) := by decide +kernel
theorem d_M_farthest_52 : decode Y_M_farthest.2.1 52 = .ok (.lreturn, 1) := by decide +kernel
theorem d_M_leader_0 : decode Y_M_leader.2.1 0 = .ok (.iload_n 1, 1) := by decide +kernel
theorem d_M_leader_1 : decode Y_M_leader.2.1 1 = .ok (.i2l, 1) := by decide +kernel
theorem d_M_leader_2 : decode Y_M_leader.2.1 2 = .ok (.lconst 1, 1) := by decide +kernel
theorem d_M_leader_3 : decode Y_M_leader.2.1 3 = .ok (.ldc2_w 528, 3) := by decide +kernel
theorem d_M_leader_6 : decode Y_M_leader.2.1 6 = .ok (.invokestatic 145, 3) := by decide +kernel
theorem d_M_leader_9 : decode Y_M_leader.2.1 9 = .ok (.ifCond .eq 21, 3) := by decide +kernel
theorem d_M_leader_12 : decode Y_M_leader.2.1 12 = .ok (.iload_n 2, 1) := by decide +kernel
theorem d_M_leader_13 : decode Y_M_leader.2.1 13 = .ok (.i2l, 1) := by decide +kernel
theorem d_M_leader_14 : decode Y_M_leader.2.1 14 = .ok (.lconst 0, 1) := by decide +kernel
theorem d_M_leader_15 : decode Y_M_leader.2.1 15 = .ok (.lconst 1, 1) := by decide +kernel
theorem d_M_leader_16 : decode Y_M_leader.2.1 16 = .ok (.invokestatic 145, 3) := by decide +kernel
theorem d_M_leader_19 : decode Y_M_leader.2.1 19 = .ok (.ifCond .eq 11, 3) := by decide +kernel
theorem d_M_leader_22 : decode Y_M_leader.2.1 22 = .ok (.aload_n 0, 1) := by decide +kernel
theorem d_M_leader_23 : decode Y_M_leader.2.1 23 = .ok (.invokevirtual 522, 3) := by decide +kernel
theorem d_M_leader_26 : decode Y_M_leader.2.1 26 = .ok (.iconst (-1), 1) := by decide +kernel
theorem d_M_leader_27 : decode Y_M_leader.2.1 27 = .ok (.if_icmp .ne 7, 3) := by decide +kernel
theorem d_M_leader_30 : decode Y_M_leader.2.1 30 = .ok (.ldc2_w 555, 3) := by decide +kernel
theorem d_M_leader_33 : decode Y_M_leader.2.1 33 = .ok (.lreturn, 1) := by decide +kernel
theorem d_M_leader_34 : decode Y_M_leader.2.1 34 = .ok (.aload_n 0, 1) := by decide +kernel
theorem d_M_leader_35 : decode Y_M_leader.2.1 35 = .ok (.invokevirtual 522, 3) := by decide +kernel
theorem d_M_leader_38 : decode Y_M_leader.2.1 38 = .ok (.iconst 1, 1) := by decide +kernel
theorem d_M_leader_39 : decode Y_M_leader.2.1 39 = .ok (.iadd, 1) := by decide +kernel
theorem d_M_leader_40 : decode Y_M_leader.2.1 40 = .ok (.istore_n 3, 1) := by decide +kernel
theorem d_M_leader_41 : decode Y_M_leader.2.1 41 = .ok (.aload_n 0, 1) := by decide +kernel
theorem d_M_leader_42 : decode Y_M_leader.2.1 42 = .ok (.invokevirtual 516, 3) := by decide +kernel
theorem d_M_leader_45 : decode Y_M_leader.2.1 45 = .ok (.istore 4, 2) := by decide +kernel
theorem d_M_leader_47 : decode Y_M_leader.2.1 47 = .ok (.iload 4, 2) := by decide +kernel
theorem d_M_leader_49 : decode Y_M_leader.2.1 49 = .ok (.iload_n 3, 1) := by decide +kernel
theorem d_M_leader_50 : decode Y_M_leader.2.1 50 = .ok (.isub, 1) := by decide +kernel
theorem d_M_leader_51 : decode Y_M_leader.2.1 51 = .ok (.iconst 1, 1) := by decide +kernel
theorem d_M_leader_52 : decode Y_M_leader.2.1 52 = .ok (.iadd, 1) := by decide +kernel
theorem d_M_leader_53 : decode Y_M_leader.2.1 53 = .ok (.iload_n 1, 1) := by decide +kernel
theorem d_M_leader_54 : decode Y_M_leader.2.1 54 = .ok (.if_icmp .ge 7, 3) := by decide +kernel
theorem d_M_leader_57 : decode Y_M_leader.2.1 57 = .ok (.ldc2_w 557, 3) := by decide +kernel
theorem d_M_leader_60 : decode Y_M_leader.2.1 60 = .ok (.lreturn, 1) := by decide +kernel
theorem d_M_leader_61 : decode Y_M_leader.2.1 61 = .ok (.aload_n 0, 1) := by decide +kernel
theorem d_M_leader_62 : decode Y_M_leader.2.1 62 = .ok (.invokevirtual 506, 3) := by decide +kernel
theorem d_M_leader_65 : decode Y_M_leader.2.1 65 = .ok (.iconst 0, 1) := by decide +kernel
theorem d_M_leader_66 : decode Y_M_leader.2.1 66 = .ok (.istore 5, 2) := by decide +kernel
theorem d_M_leader_68 : decode Y_M_leader.2.1 68 = .ok (.ldc2_w 255, 3) := by decide +kernel
theorem d_M_leader_71 : decode Y_M_leader.2.1 71 = .ok (.lstore 6, 2) := by decide +kernel
theorem d_M_leader_73 : decode Y_M_leader.2.1 73 = .ok (.iload_n 1, 1) := by decide +kernel
theorem d_M_leader_74 : decode Y_M_leader.2.1 74 = .ok (.iconst 2, 1) := by decide +kernel
theorem d_M_leader_75 : decode Y_M_leader.2.1 75 = .ok (.if_icmp .le 9, 3) := by decide +kernel
theorem d_M_leader_78 : decode Y_M_leader.2.1 78 = .ok (.iload_n 3, 1) := by decide +kernel
theorem d_M_leader_79 : decode Y_M_leader.2.1 79 = .ok (.iconst 2, 1) := by decide +kernel
theorem d_M_leader_80 : decode Y_M_leader.2.1 80 = .ok (.iadd, 1) := by decide +kernel
theorem d_M_leader_81 : decode Y_M_leader.2.1 81 = .ok (.goto 4, 3) := by decide +kernel
theorem d_M_leader_84 : decode Y_M_leader.2.1 84 = .ok (.iconst (-1), 1) := by decide +kernel
theorem d_M_leader_85 : decode Y_M_leader.2.1 85 = .ok (.istore 8, 2) := by decide +kernel
theorem d_M_leader_87 : decode Y_M_leader.2.1 87 = .ok (.iload 8, 2) := by decide +kernel
theorem d_M_leader_89 : decode Y_M_leader.2.1 89 = .ok (.iload_n 1, 1) := by decide +kernel
theorem d_M_leader_90 : decode Y_M_leader.2.1 90 = .ok (.iconst 2, 1) := by decide +kernel
theorem d_M_leader_91 : decode Y_M_leader.2.1 91 = .ok (.if_icmp .le 8, 3) := by decide +kernel
theorem d_M_leader_94 : decode Y_M_leader.2.1 94 = .ok (.iload 4, 2) := by decide +kernel
theorem d_M_leader_96 : decode Y_M_leader.2.1 96 = .ok (.goto 4, 3) := by decide +kernel
theorem d_M_leader_99 : decode Y_M_leader.2.1 99 = .ok (.iconst (-1), 1) := by decide +kernel
theorem d_M_leader_100 : decode Y_M_leader.2.1 100 = .ok (.if_icmp .gt 152, 3) := by decide +kernel
theorem d_M_leader_103 : decode Y_M_leader.2.1 103 = .ok (.iload_n 1, 1) := by decide +kernel
theorem d_M_leader_104 : decode Y_M_leader.2.1 104 = .ok (.iconst 1, 1) := by decide +kernel
theorem d_M_leader_105 : decode Y_M_leader.2.1 105 = .ok (.if_icmp .le 9, 3) := by decide +kernel
theorem d_M_leader_108 : decode Y_M_leader.2.1 108 = .ok (.iload_n 3, 1) := by decide +kernel
theorem d_M_leader_109 : decode Y_M_leader.2.1 109 = .ok (.iconst 1, 1) := by decide +kernel
theorem d_M_leader_110 : decode Y_M_leader.2.1 110 = .ok (.iadd, 1) := by decide +kernel
theorem d_M_leader_111 : decode Y_M_leader.2.1 111 = .ok (.goto 4, 3) := by decide +kernel
theorem d_M_leader_114 : decode Y_M_leader.2.1 114 = .ok (.iconst (-1), 1) := by decide +kernel
theorem d_M_leader_115 : decode Y_M_leader.2.1 115 = .ok (.istore 9, 2) := by decide +kernel
theorem d_M_leader_117 : decode Y_M_leader.2.1 117 = .ok (.iload 9, 2) := by decide +kernel
theorem d_M_leader_119 : decode Y_M_leader.2.1 119 = .ok (.iload_n 1, 1) := by decide +kernel
theorem d_M_leader_120 : decode Y_M_leader.2.1 120 = .ok (.iconst 2, 1) := by decide +kernel
theorem d_M_leader_121 : decode Y_M_leader.2.1 121 = .ok (.if_icmp .le 10, 3) := by decide +kernel
theorem d_M_leader_124 : decode Y_M_leader.2.1 124 = .ok (.iload 8, 2) := by decide +kernel
theorem d_M_leader_126 : decode Y_M_leader.2.1 126 = .ok (.iconst 1, 1) := by decide +kernel
theorem d_M_leader_127 : decode Y_M_leader.2.1 127 = .ok (.isub, 1) := by decide +kernel
theorem d_M_leader_128 : decode Y_M_leader.2.1 128 = .ok (.goto 14, 3) := by decide +kernel
theorem d_M_leader_131 : decode Y_M_leader.2.1 131 = .ok (.iload_n 1, 1) := by decide +kernel
theorem d_M_leader_132 : decode Y_M_leader.2.1 132 = .ok (.iconst 1, 1) := by decide +kernel
theorem d_M_leader_133 : decode Y_M_leader.2.1 133 = .ok (.if_icmp .le 8, 3) := by decide +kernel
theorem d_M_leader_136 : decode Y_M_leader.2.1 136 = .ok (.iload 4, 2) := by decide +kernel
theorem d_M_leader_138 : decode Y_M_leader.2.1 138 = .ok (.goto 4, 3) := by decide +kernel
theorem d_M_leader_141 : decode Y_M_leader.2.1 141 = .ok (.iconst (-1), 1) := by decide +kernel
theorem d_M_leader_142 : decode Y_M_leader.2.1 142 = .ok (.if_icmp .gt 104, 3) := by decide +kernel
theorem d_M_leader_145 : decode Y_M_leader.2.1 145 = .ok (.iload_n 3, 1) := by decide +kernel
theorem d_M_leader_146 : decode Y_M_leader.2.1 146 = .ok (.istore 10, 2) := by decide +kernel
theorem d_M_leader_148 : decode Y_M_leader.2.1 148 = .ok (.iload 10, 2) := by decide +kernel
theorem d_M_leader_150 : decode Y_M_leader.2.1 150 = .ok (.iload_n 1, 1) := by decide +kernel
theorem d_M_leader_151 : decode Y_M_leader.2.1 151 = .ok (.iconst 1, 1) := by decide +kernel
theorem d_M_leader_152 : decode Y_M_leader.2.1 152 = .ok (.if_icmp .le 10, 3) := by decide +kernel
theorem d_M_leader_155 : decode Y_M_leader.2.1 155 = .ok (.iload 9, 2) := by decide +kernel
theorem d_M_leader_157 : decode Y_M_leader.2.1 157 = .ok (.iconst 1, 1) := by decide +kernel
theorem d_M_leader_158 : decode Y_M_leader.2.1 158 = .ok (.isub, 1) := by decide +kernel
theorem d_M_leader_159 : decode Y_M_leader.2.1 159 = .ok (.goto 5, 3) := by decide +kernel
theorem d_M_leader_162 : decode Y_M_leader.2.1 162 = .ok (.iload 4, 2) := by decide +kernel
theorem d_M_leader_164 : decode Y_M_leader.2.1 164 = .ok (.if_icmp .gt 76, 3) := by decide +kernel
theorem d_M_leader_167 : decode Y_M_leader.2.1 167 = .ok (.aload_n 0, 1) := by decide +kernel
theorem d_M_leader_168 : decode Y_M_leader.2.1 168 = .ok (.iconst 1, 1) := by decide +kernel
theorem d_M_leader_169 : decode Y_M_leader.2.1 169 = .ok (.iload 10, 2) := by decide +kernel
theorem d_M_leader_171 : decode Y_M_leader.2.1 171 = .ok (.ishl, 1) := by decide +kernel
theorem d_M_leader_172 : decode Y_M_leader.2.1 172 = .ok (.iload_n 1, 1) := by decide +kernel
theorem d_M_leader_173 : decode Y_M_leader.2.1 173 = .ok (.iconst 1, 1) := by decide +kernel
theorem d_M_leader_174 : decode Y_M_leader.2.1 174 = .ok (.if_icmp .le 10, 3) := by decide +kernel
theorem d_M_leader_177 : decode Y_M_leader.2.1 177 = .ok (.iconst 1, 1) := by decide +kernel
theorem d_M_leader_178 : decode Y_M_leader.2.1 178 = .ok (.iload 9, 2) := by decide +kernel
theorem d_M_leader_180 : decode Y_M_leader.2.1 180 = .ok (.ishl, 1) := by decide +kernel
theorem d_M_leader_181 : decode Y_M_leader.2.1 181 = .ok (.goto 4, 3) := by decide +kernel
theorem d_M_leader_184 : decode Y_M_leader.2.1 184 = .ok (.iconst 0, 1) := by decide +kernel
theorem d_M_leader_185 : decode Y_M_leader.2.1 185 = .ok (.ior, 1) := by decide +kernel
theorem d_M_leader_186 : decode Y_M_leader.2.1 186 = .ok (.iload_n 1, 1) := by decide +kernel
theorem d_M_leader_187 : decode Y_M_leader.2.1 187 = .ok (.iconst 2, 1) := by decide +kernel
theorem d_M_leader_188 : decode Y_M_leader.2.1 188 = .ok (.if_icmp .le 10, 3) := by decide +kernel
theorem d_M_leader_191 : decode Y_M_leader.2.1 191 = .ok (.iconst 1, 1) := by decide +kernel
theorem d_M_leader_192 : decode Y_M_leader.2.1 192 = .ok (.iload 8, 2) := by decide +kernel
theorem d_M_leader_194 : decode Y_M_leader.2.1 194 = .ok (.ishl, 1) := by decide +kernel
theorem d_M_leader_195 : decode Y_M_leader.2.1 195 = .ok (.goto 4, 3) := by decide +kernel
theorem d_M_leader_198 : decode Y_M_leader.2.1 198 = .ok (.iconst 0, 1) := by decide +kernel
theorem d_M_leader_199 : decode Y_M_leader.2.1 199 = .ok (.ior, 1) := by decide +kernel
theorem d_M_leader_200 : decode Y_M_leader.2.1 200 = .ok (.putfield 497, 3) := by decide +kernel
theorem d_M_leader_203 : decode Y_M_leader.2.1 203 = .ok (.aload_n 0, 1) := by decide +kernel
theorem d_M_leader_204 : decode Y_M_leader.2.1 204 = .ok (.invokevirtual 509, 3) := by decide +kernel
theorem d_M_leader_207 : decode Y_M_leader.2.1 207 = .ok (.aload_n 0, 1) := by decide +kernel
theorem d_M_leader_208 : decode Y_M_leader.2.1 208 = .ok (.invokevirtual 559, 3) := by decide +kernel
theorem d_M_leader_211 : decode Y_M_leader.2.1 211 = .ok (.lstore 11, 2) := by decide +kernel
theorem d_M_leader_213 : decode Y_M_leader.2.1 213 = .ok (.lload 11, 2) := by decide +kernel
theorem d_M_leader_215 : decode Y_M_leader.2.1 215 = .ok (.lload 6, 2) := by decide +kernel
theorem d_M_leader_217 : decode Y_M_leader.2.1 217 = .ok (.lcmp, 1) := by decide +kernel
theorem d_M_leader_218 : decode Y_M_leader.2.1 218 = .ok (.ifCond .lt 6, 3) := by decide +kernel
theorem d_M_leader_221 : decode Y_M_leader.2.1 221 = .ok (.goto 13, 3) := by decide +kernel
theorem d_M_leader_224 : decode Y_M_leader.2.1 224 = .ok (.aload_n 0, 1) := by decide +kernel
theorem d_M_leader_225 : decode Y_M_leader.2.1 225 = .ok (.getfield 497, 3) := by decide +kernel
theorem d_M_leader_228 : decode Y_M_leader.2.1 228 = .ok (.istore 5, 2) := by decide +kernel
theorem d_M_leader_230 : decode Y_M_leader.2.1 230 = .ok (.lload 11, 2) := by decide +kernel
theorem d_M_leader_232 : decode Y_M_leader.2.1 232 = .ok (.lstore 6, 2) := by decide +kernel
theorem d_M_leader_234 : decode Y_M_leader.2.1 234 = .ok (.iinc 10 1, 3) := by decide +kernel
theorem d_M_leader_237 : decode Y_M_leader.2.1 237 = .ok (.goto (-89), 3) := by decide +kernel
theorem d_M_leader_240 : decode Y_M_leader.2.1 240 = .ok (.iinc 9 1, 3) := by decide +kernel
theorem d_M_leader_243 : decode Y_M_leader.2.1 243 = .ok (.goto (-126), 3) := by decide +kernel
theorem d_M_leader_246 : decode Y_M_leader.2.1 246 = .ok (.iinc 8 1, 3) := by decide +kernel
theorem d_M_leader_249 : decode Y_M_leader.2.1 249 = .ok (.goto (-162), 3) := by decide +kernel
theorem d_M_leader_252 : decode Y_M_leader.2.1 252 = .ok (.iload_n 2, 1) := by decide +kernel
theorem d_M_leader_253 : decode Y_M_leader.2.1 253 = .ok (.ifCond .ne 9, 3) := by decide +kernel
theorem d_M_leader_256 : decode Y_M_leader.2.1 256 = .ok (.iload 5, 2) := by decide +kernel
theorem d_M_leader_258 : decode Y_M_leader.2.1 258 = .ok (.i2l, 1) := by decide +kernel
theorem d_M_leader_259 : decode Y_M_leader.2.1 259 = .ok (.goto 5, 3) := by decide +kernel
theorem d_M_leader_262 : decode Y_M_leader.2.1 262 = .ok (.lload 6, 2) := by decide +kernel
theorem d_M_leader_264 : decode Y_M_leader.2.1 264 = .ok (.lreturn, 1) := by decide +kernel
theorem d_X_worst_0 : decode Y_X_worst.2.1 0 = .ok (.iconst (-1), 1) := by decide +kernel
theorem d_X_worst_1 : decode Y_X_worst.2.1 1 = .ok (.istore_n 1, 1) := by decide +kernel
theorem d_X_worst_2 : decode Y_X_worst.2.1 2 = .ok (.iconst 0, 1) := by decide +kernel
theorem d_X_worst_3 : decode Y_X_worst.2.1 3 = .ok (.istore_n 2, 1) := by decide +kernel
theorem d_X_worst_4 : decode Y_X_worst.2.1 4 = .ok (.iload_n 2, 1) := by decide +kernel
theorem d_X_worst_5 : decode Y_X_worst.2.1 5 = .ok (.bipush 24, 2) := by decide +kernel
theorem d_X_worst_7 : decode Y_X_worst.2.1 7 = .ok (.if_icmp .ge 47, 3) := by decide +kernel
theorem d_X_worst_10 : decode Y_X_worst.2.1 10 = .ok (.aload_n 0, 1) := by decide +kernel
theorem d_X_worst_11 : decode Y_X_worst.2.1 11 = .ok (.getfield 10, 3) := by decide +kernel
theorem d_X_worst_14 : decode Y_X_worst.2.1 14 = .ok (.iload_n 2, 1) := by decide +kernel
theorem d_X_worst_15 : decode Y_X_worst.2.1 15 = .ok (.invokevirtual 297, 3) := by decide +kernel
theorem d_X_worst_18 : decode Y_X_worst.2.1 18 = .ok (.ifCond .eq 30, 3) := by decide +kernel
theorem d_X_worst_21 : decode Y_X_worst.2.1 21 = .ok (.iload_n 1, 1) := by decide +kernel
theorem d_X_worst_22 : decode Y_X_worst.2.1 22 = .ok (.iconst (-1), 1) := by decide +kernel
theorem d_X_worst_23 : decode Y_X_worst.2.1 23 = .ok (.if_icmp .eq 23, 3) := by decide +kernel
theorem d_X_worst_26 : decode Y_X_worst.2.1 26 = .ok (.aload_n 0, 1) := by decide +kernel
theorem d_X_worst_27 : decode Y_X_worst.2.1 27 = .ok (.getfield 21, 3) := by decide +kernel
theorem d_X_worst_30 : decode Y_X_worst.2.1 30 = .ok (.iload_n 2, 1) := by decide +kernel
theorem d_X_worst_31 : decode Y_X_worst.2.1 31 = .ok (.invokevirtual 251, 3) := by decide +kernel
theorem d_X_worst_34 : decode Y_X_worst.2.1 34 = .ok (.aload_n 0, 1) := by decide +kernel
theorem d_X_worst_35 : decode Y_X_worst.2.1 35 = .ok (.getfield 21, 3) := by decide +kernel
theorem d_X_worst_38 : decode Y_X_worst.2.1 38 = .ok (.iload_n 1, 1) := by decide +kernel
theorem d_X_worst_39 : decode Y_X_worst.2.1 39 = .ok (.invokevirtual 251, 3) := by decide +kernel
theorem d_X_worst_42 : decode Y_X_worst.2.1 42 = .ok (.lcmp, 1) := by decide +kernel
theorem d_X_worst_43 : decode Y_X_worst.2.1 43 = .ok (.ifCond .le 5, 3) := by decide +kernel
theorem d_X_worst_46 : decode Y_X_worst.2.1 46 = .ok (.iload_n 2, 1) := by decide +kernel
theorem d_X_worst_47 : decode Y_X_worst.2.1 47 = .ok (.istore_n 1, 1) := by decide +kernel
theorem d_X_worst_48 : decode Y_X_worst.2.1 48 = .ok (.iinc 2 1, 3) := by decide +kernel
theorem d_X_worst_51 : decode Y_X_worst.2.1 51 = .ok (.goto (-47), 3) := by decide +kernel
theorem d_X_worst_54 : decode Y_X_worst.2.1 54 = .ok (.iload_n 1, 1) := by decide +kernel
theorem d_X_worst_55 : decode Y_X_worst.2.1 55 = .ok (.ireturn, 1) := by decide +kernel
theorem d_M_worst_0 : decode Y_M_worst.2.1 0 = .ok (.aload_n 0, 1) := by decide +kernel
theorem d_M_worst_1 : decode Y_M_worst.2.1 1 = .ok (.invokevirtual 506, 3) := by decide +kernel
theorem d_M_worst_4 : decode Y_M_worst.2.1 4 = .ok (.iconst (-1), 1) := by decide +kernel
theorem d_M_worst_5 : decode Y_M_worst.2.1 5 = .ok (.istore_n 1, 1) := by decide +kernel
theorem d_M_worst_6 : decode Y_M_worst.2.1 6 = .ok (.iconst 0, 1) := by decide +kernel
theorem d_M_worst_7 : decode Y_M_worst.2.1 7 = .ok (.istore_n 2, 1) := by decide +kernel
theorem d_M_worst_8 : decode Y_M_worst.2.1 8 = .ok (.iload_n 2, 1) := by decide +kernel
theorem d_M_worst_9 : decode Y_M_worst.2.1 9 = .ok (.bipush 24, 2) := by decide +kernel
theorem d_M_worst_11 : decode Y_M_worst.2.1 11 = .ok (.if_icmp .ge 72, 3) := by decide +kernel
theorem d_M_worst_14 : decode Y_M_worst.2.1 14 = .ok (.iconst 0, 1) := by decide +kernel
theorem d_M_worst_15 : decode Y_M_worst.2.1 15 = .ok (.istore_n 3, 1) := by decide +kernel
theorem d_M_worst_16 : decode Y_M_worst.2.1 16 = .ok (.iconst 0, 1) := by decide +kernel
theorem d_M_worst_17 : decode Y_M_worst.2.1 17 = .ok (.istore 4, 2) := by decide +kernel
theorem d_M_worst_19 : decode Y_M_worst.2.1 19 = .ok (.iload 4, 2) := by decide +kernel
theorem d_M_worst_21 : decode Y_M_worst.2.1 21 = .ok (.bipush 6, 2) := by decide +kernel
theorem d_M_worst_23 : decode Y_M_worst.2.1 23 = .ok (.if_icmp .ge 29, 3) := by decide +kernel
theorem d_M_worst_26 : decode Y_M_worst.2.1 26 = .ok (.iload_n 3, 1) := by decide +kernel
theorem d_M_worst_27 : decode Y_M_worst.2.1 27 = .ok (.ifCond .ne 13, 3) := by decide +kernel
theorem d_M_worst_30 : decode Y_M_worst.2.1 30 = .ok (.aload_n 0, 1) := by decide +kernel
theorem d_M_worst_31 : decode Y_M_worst.2.1 31 = .ok (.iload 4, 2) := by decide +kernel
theorem d_M_worst_33 : decode Y_M_worst.2.1 33 = .ok (.iload_n 2, 1) := by decide +kernel
theorem d_M_worst_34 : decode Y_M_worst.2.1 34 = .ok (.invokevirtual 162, 3) := by decide +kernel
theorem d_M_worst_37 : decode Y_M_worst.2.1 37 = .ok (.ifCond .eq 7, 3) := by decide +kernel
theorem d_M_worst_40 : decode Y_M_worst.2.1 40 = .ok (.iconst 1, 1) := by decide +kernel
theorem d_M_worst_41 : decode Y_M_worst.2.1 41 = .ok (.goto 4, 3) := by decide +kernel
theorem d_M_worst_44 : decode Y_M_worst.2.1 44 = .ok (.iconst 0, 1) := by decide +kernel
theorem d_M_worst_45 : decode Y_M_worst.2.1 45 = .ok (.istore_n 3, 1) := by decide +kernel
theorem d_M_worst_46 : decode Y_M_worst.2.1 46 = .ok (.iinc 4 1, 3) := by decide +kernel
theorem d_M_worst_49 : decode Y_M_worst.2.1 49 = .ok (.goto (-30), 3) := by decide +kernel
theorem d_M_worst_52 : decode Y_M_worst.2.1 52 = .ok (.iload_n 3, 1) := by decide +kernel
theorem d_M_worst_53 : decode Y_M_worst.2.1 53 = .ok (.ifCond .eq 24, 3) := by decide +kernel
theorem d_M_worst_56 : decode Y_M_worst.2.1 56 = .ok (.iload_n 1, 1) := by decide +kernel
theorem d_M_worst_57 : decode Y_M_worst.2.1 57 = .ok (.iconst (-1), 1) := by decide +kernel
theorem d_M_worst_58 : decode Y_M_worst.2.1 58 = .ok (.if_icmp .eq 17, 3) := by decide +kernel
theorem d_M_worst_61 : decode Y_M_worst.2.1 61 = .ok (.aload_n 0, 1) := by decide +kernel
theorem d_M_worst_62 : decode Y_M_worst.2.1 62 = .ok (.iload_n 2, 1) := by decide +kernel
theorem d_M_worst_63 : decode Y_M_worst.2.1 63 = .ok (.invokevirtual 532, 3) := by decide +kernel
theorem d_M_worst_66 : decode Y_M_worst.2.1 66 = .ok (.aload_n 0, 1) := by decide +kernel
theorem d_M_worst_67 : decode Y_M_worst.2.1 67 = .ok (.iload_n 1, 1) := by decide +kernel
theorem d_M_worst_68 : decode Y_M_worst.2.1 68 = .ok (.invokevirtual 532, 3) := by decide +kernel
theorem d_M_worst_71 : decode Y_M_worst.2.1 71 = .ok (.lcmp, 1) := by decide +kernel
theorem d_M_worst_72 : decode Y_M_worst.2.1 72 = .ok (.ifCond .le 5, 3) := by decide +kernel
theorem d_M_worst_75 : decode Y_M_worst.2.1 75 = .ok (.iload_n 2, 1) := by decide +kernel
theorem d_M_worst_76 : decode Y_M_worst.2.1 76 = .ok (.istore_n 1, 1) := by decide +kernel
theorem d_M_worst_77 : decode Y_M_worst.2.1 77 = .ok (.iinc 2 1, 3) := by decide +kernel
theorem d_M_worst_80 : decode Y_M_worst.2.1 80 = .ok (.goto (-72), 3) := by decide +kernel
theorem d_M_worst_83 : decode Y_M_worst.2.1 83 = .ok (.iload_n 1, 1) := by decide +kernel
theorem d_M_worst_84 : decode Y_M_worst.2.1 84 = .ok (.ireturn, 1) := by decide +kernel
theorem d_X_knows_0 : decode Y_X_knows.2.1 0 = .ok (.aload_n 0, 1) := by decide +kernel
theorem d_X_knows_1 : decode Y_X_knows.2.1 1 = .ok (.getfield 21, 3) := by decide +kernel
theorem d_X_knows_4 : decode Y_X_knows.2.1 4 = .ok (.invokevirtual 254, 3) := by decide +kernel
theorem d_X_knows_7 : decode Y_X_knows.2.1 7 = .ok (.iconst (-1), 1) := by decide +kernel
theorem d_X_knows_8 : decode Y_X_knows.2.1 8 = .ok (.if_icmp .ne 7, 3) := by decide +kernel
theorem d_X_knows_11 : decode Y_X_knows.2.1 11 = .ok (.ldc2_w 239, 3) := by decide +kernel
theorem d_X_knows_14 : decode Y_X_knows.2.1 14 = .ok (.lreturn, 1) := by decide +kernel
theorem d_X_knows_15 : decode Y_X_knows.2.1 15 = .ok (.aload_n 0, 1) := by decide +kernel
theorem d_X_knows_16 : decode Y_X_knows.2.1 16 = .ok (.getfield 30, 3) := by decide +kernel
theorem d_X_knows_19 : decode Y_X_knows.2.1 19 = .ok (.invokevirtual 232, 3) := by decide +kernel
theorem d_X_knows_22 : decode Y_X_knows.2.1 22 = .ok (.aload_n 0, 1) := by decide +kernel
theorem d_X_knows_23 : decode Y_X_knows.2.1 23 = .ok (.getfield 30, 3) := by decide +kernel
theorem d_X_knows_26 : decode Y_X_knows.2.1 26 = .ok (.invokevirtual 258, 3) := by decide +kernel
theorem d_X_knows_29 : decode Y_X_knows.2.1 29 = .ok (.lstore_n 1, 1) := by decide +kernel
theorem d_X_knows_30 : decode Y_X_knows.2.1 30 = .ok (.aload_n 0, 1) := by decide +kernel
theorem d_X_knows_31 : decode Y_X_knows.2.1 31 = .ok (.getfield 30, 3) := by decide +kernel
theorem d_X_knows_34 : decode Y_X_knows.2.1 34 = .ok (.aload_n 0, 1) := by decide +kernel
theorem d_X_knows_35 : decode Y_X_knows.2.1 35 = .ok (.getfield 21, 3) := by decide +kernel
theorem d_X_knows_38 : decode Y_X_knows.2.1 38 = .ok (.getfield 170, 3) := by decide +kernel
theorem d_X_knows_41 : decode Y_X_knows.2.1 41 = .ok (.aload_n 0, 1) := by decide +kernel
theorem d_X_knows_42 : decode Y_X_knows.2.1 42 = .ok (.getfield 21, 3) := by decide +kernel
theorem d_X_knows_45 : decode Y_X_knows.2.1 45 = .ok (.getfield 196, 3) := by decide +kernel
theorem d_X_knows_48 : decode Y_X_knows.2.1 48 = .ok (.iconst 0, 1) := by decide +kernel
theorem d_X_knows_49 : decode Y_X_knows.2.1 49 = .ok (.iconst 1, 1) := by decide +kernel
theorem d_X_knows_50 : decode Y_X_knows.2.1 50 = .ok (.invokevirtual 300, 3) := by decide +kernel
theorem d_X_knows_53 : decode Y_X_knows.2.1 53 = .ok (.lload_n 1, 1) := by decide +kernel
theorem d_X_knows_54 : decode Y_X_knows.2.1 54 = .ok (.aload_n 0, 1) := by decide +kernel
theorem d_X_knows_55 : decode Y_X_knows.2.1 55 = .ok (.getfield 30, 3) := by decide +kernel
theorem d_X_knows_58 : decode Y_X_knows.2.1 58 = .ok (.invokevirtual 258, 3) := by decide +kernel
theorem d_X_knows_61 : decode Y_X_knows.2.1 61 = .ok (.lsub, 1) := by decide +kernel
theorem d_X_knows_62 : decode Y_X_knows.2.1 62 = .ok (.lreturn, 1) := by decide +kernel
theorem d_M_knows_0 : decode Y_M_knows.2.1 0 = .ok (.aload_n 0, 1) := by decide +kernel
theorem d_M_knows_1 : decode Y_M_knows.2.1 1 = .ok (.invokevirtual 522, 3) := by decide +kernel
theorem d_M_knows_4 : decode Y_M_knows.2.1 4 = .ok (.iconst (-1), 1) := by decide +kernel
theorem d_M_knows_5 : decode Y_M_knows.2.1 5 = .ok (.if_icmp .ne 7, 3) := by decide +kernel
theorem d_M_knows_8 : decode Y_M_knows.2.1 8 = .ok (.ldc2_w 530, 3) := by decide +kernel
theorem d_M_knows_11 : decode Y_M_knows.2.1 11 = .ok (.lreturn, 1) := by decide +kernel
theorem d_M_knows_12 : decode Y_M_knows.2.1 12 = .ok (.aload_n 0, 1) := by decide +kernel
theorem d_M_knows_13 : decode Y_M_knows.2.1 13 = .ok (.invokevirtual 525, 3) := by decide +kernel
theorem d_M_knows_16 : decode Y_M_knows.2.1 16 = .ok (.aload_n 0, 1) := by decide +kernel
theorem d_M_knows_17 : decode Y_M_knows.2.1 17 = .ok (.invokevirtual 537, 3) := by decide +kernel
theorem d_M_knows_20 : decode Y_M_knows.2.1 20 = .ok (.lstore_n 1, 1) := by decide +kernel
theorem d_M_knows_21 : decode Y_M_knows.2.1 21 = .ok (.iconst 0, 1) := by decide +kernel
theorem d_M_knows_22 : decode Y_M_knows.2.1 22 = .ok (.istore_n 3, 1) := by decide +kernel
theorem d_M_knows_23 : decode Y_M_knows.2.1 23 = .ok (.iload_n 3, 1) := by decide +kernel
theorem d_M_knows_24 : decode Y_M_knows.2.1 24 = .ok (.aload_n 0, 1) := by decide +kernel
theorem d_M_knows_25 : decode Y_M_knows.2.1 25 = .ok (.getfield 275, 3) := by decide +kernel
theorem d_M_knows_28 : decode Y_M_knows.2.1 28 = .ok (.if_icmp .ge 16, 3) := by decide +kernel
theorem d_M_knows_31 : decode Y_M_knows.2.1 31 = .ok (.aload_n 0, 1) := by decide +kernel
theorem d_M_knows_32 : decode Y_M_knows.2.1 32 = .ok (.getfield 113, 3) := by decide +kernel
theorem d_M_knows_35 : decode Y_M_knows.2.1 35 = .ok (.iload_n 3, 1) := by decide +kernel
theorem d_M_knows_36 : decode Y_M_knows.2.1 36 = .ok (.iconst 0, 1) := by decide +kernel
theorem d_M_knows_37 : decode Y_M_knows.2.1 37 = .ok (.iastore, 1) := by decide +kernel
theorem d_M_knows_38 : decode Y_M_knows.2.1 38 = .ok (.iinc 3 1, 3) := by decide +kernel
theorem d_M_knows_41 : decode Y_M_knows.2.1 41 = .ok (.goto (-18), 3) := by decide +kernel
theorem d_M_knows_44 : decode Y_M_knows.2.1 44 = .ok (.aload_n 0, 1) := by decide +kernel
theorem d_M_knows_45 : decode Y_M_knows.2.1 45 = .ok (.invokevirtual 509, 3) := by decide +kernel
theorem d_M_knows_48 : decode Y_M_knows.2.1 48 = .ok (.lload_n 1, 1) := by decide +kernel
theorem d_M_knows_49 : decode Y_M_knows.2.1 49 = .ok (.aload_n 0, 1) := by decide +kernel
theorem d_M_knows_50 : decode Y_M_knows.2.1 50 = .ok (.invokevirtual 537, 3) := by decide +kernel
theorem d_M_knows_53 : decode Y_M_knows.2.1 53 = .ok (.lsub, 1) := by decide +kernel
theorem d_M_knows_54 : decode Y_M_knows.2.1 54 = .ok (.lreturn, 1) := by decide +kernel
theorem d_Ch_putRecord_0 : decode Y_Ch_putRecord.2.1 0 = .ok (.aload_n 0, 1) := by decide +kernel
theorem d_Ch_putRecord_1 : decode Y_Ch_putRecord.2.1 1 = .ok (.iload_n 1, 1) := by decide +kernel
theorem d_Ch_putRecord_2 : decode Y_Ch_putRecord.2.1 2 = .ok (.invokevirtual 51, 3) := by decide +kernel
theorem d_Ch_putRecord_5 : decode Y_Ch_putRecord.2.1 5 = .ok (.ifCond .eq 37, 3) := by decide +kernel
theorem d_Ch_putRecord_8 : decode Y_Ch_putRecord.2.1 8 = .ok (.iload_n 2, 1) := by decide +kernel
theorem d_Ch_putRecord_9 : decode Y_Ch_putRecord.2.1 9 = .ok (.ifCond .lt 33, 3) := by decide +kernel
theorem d_Ch_putRecord_12 : decode Y_Ch_putRecord.2.1 12 = .ok (.iload_n 2, 1) := by decide +kernel
theorem d_Ch_putRecord_13 : decode Y_Ch_putRecord.2.1 13 = .ok (.bipush 24, 2) := by decide +kernel
theorem d_Ch_putRecord_15 : decode Y_Ch_putRecord.2.1 15 = .ok (.if_icmp .ge 27, 3) := by decide +kernel
theorem d_Ch_putRecord_18 : decode Y_Ch_putRecord.2.1 18 = .ok (.aload_n 0, 1) := by decide +kernel
theorem d_Ch_putRecord_19 : decode Y_Ch_putRecord.2.1 19 = .ok (.getfield 24, 3) := by decide +kernel
theorem d_Ch_putRecord_22 : decode Y_Ch_putRecord.2.1 22 = .ok (.iload_n 1, 1) := by decide +kernel
theorem d_Ch_putRecord_23 : decode Y_Ch_putRecord.2.1 23 = .ok (.bipush 24, 2) := by decide +kernel
theorem d_Ch_putRecord_25 : decode Y_Ch_putRecord.2.1 25 = .ok (.imul, 1) := by decide +kernel
theorem d_Ch_putRecord_26 : decode Y_Ch_putRecord.2.1 26 = .ok (.iload_n 2, 1) := by decide +kernel
theorem d_Ch_putRecord_27 : decode Y_Ch_putRecord.2.1 27 = .ok (.iadd, 1) := by decide +kernel
theorem d_Ch_putRecord_28 : decode Y_Ch_putRecord.2.1 28 = .ok (.iload_n 3, 1) := by decide +kernel
theorem d_Ch_putRecord_29 : decode Y_Ch_putRecord.2.1 29 = .ok (.iastore, 1) := by decide +kernel
theorem d_Ch_putRecord_30 : decode Y_Ch_putRecord.2.1 30 = .ok (.aload_n 0, 1) := by decide +kernel
theorem d_Ch_putRecord_31 : decode Y_Ch_putRecord.2.1 31 = .ok (.getfield 27, 3) := by decide +kernel
theorem d_Ch_putRecord_34 : decode Y_Ch_putRecord.2.1 34 = .ok (.iload_n 1, 1) := by decide +kernel
theorem d_Ch_putRecord_35 : decode Y_Ch_putRecord.2.1 35 = .ok (.dup2, 1) := by decide +kernel
theorem d_Ch_putRecord_36 : decode Y_Ch_putRecord.2.1 36 = .ok (.iaload, 1) := by decide +kernel
theorem d_Ch_putRecord_37 : decode Y_Ch_putRecord.2.1 37 = .ok (.iconst 1, 1) := by decide +kernel
theorem d_Ch_putRecord_38 : decode Y_Ch_putRecord.2.1 38 = .ok (.iload_n 2, 1) := by decide +kernel
theorem d_Ch_putRecord_39 : decode Y_Ch_putRecord.2.1 39 = .ok (.ishl, 1) := by decide +kernel
theorem d_Ch_putRecord_40 : decode Y_Ch_putRecord.2.1 40 = .ok (.ior, 1) := by decide +kernel
theorem d_Ch_putRecord_41 : decode Y_Ch_putRecord.2.1 41 = .ok (.iastore, 1) := by decide +kernel
theorem d_Ch_putRecord_42 : decode Y_Ch_putRecord.2.1 42 = .ok (.return_, 1) := by decide +kernel
theorem d_X_tape_0 : decode Y_X_tape.2.1 0 = .ok (.aload_n 0, 1) := by decide +kernel
theorem d_X_tape_1 : decode Y_X_tape.2.1 1 = .ok (.getfield 21, 3) := by decide +kernel
theorem d_X_tape_4 : decode Y_X_tape.2.1 4 = .ok (.iload_n 1, 1) := by decide +kernel
theorem d_X_tape_5 : decode Y_X_tape.2.1 5 = .ok (.invokevirtual 179, 3) := by decide +kernel
theorem d_X_tape_8 : decode Y_X_tape.2.1 8 = .ok (.ifCond .eq 27, 3) := by decide +kernel
theorem d_X_tape_11 : decode Y_X_tape.2.1 11 = .ok (.iload_n 2, 1) := by decide +kernel
theorem d_X_tape_12 : decode Y_X_tape.2.1 12 = .ok (.ifCond .lt 23, 3) := by decide +kernel
theorem d_X_tape_15 : decode Y_X_tape.2.1 15 = .ok (.iload_n 2, 1) := by decide +kernel
theorem d_X_tape_16 : decode Y_X_tape.2.1 16 = .ok (.bipush 24, 2) := by decide +kernel
theorem d_X_tape_18 : decode Y_X_tape.2.1 18 = .ok (.if_icmp .ge 17, 3) := by decide +kernel
theorem d_X_tape_21 : decode Y_X_tape.2.1 21 = .ok (.iload_n 3, 1) := by decide +kernel
theorem d_X_tape_22 : decode Y_X_tape.2.1 22 = .ok (.ldc_w 304, 3) := by decide +kernel
theorem d_X_tape_25 : decode Y_X_tape.2.1 25 = .ok (.if_icmp .lt 10, 3) := by decide +kernel
theorem d_X_tape_28 : decode Y_X_tape.2.1 28 = .ok (.iload_n 3, 1) := by decide +kernel
theorem d_X_tape_29 : decode Y_X_tape.2.1 29 = .ok (.ldc_w 305, 3) := by decide +kernel
theorem d_X_tape_32 : decode Y_X_tape.2.1 32 = .ok (.if_icmp .le 5, 3) := by decide +kernel
theorem d_X_tape_35 : decode Y_X_tape.2.1 35 = .ok (.iconst 0, 1) := by decide +kernel
theorem d_X_tape_36 : decode Y_X_tape.2.1 36 = .ok (.ireturn, 1) := by decide +kernel
theorem d_X_tape_37 : decode Y_X_tape.2.1 37 = .ok (.aload_n 0, 1) := by decide +kernel
theorem d_X_tape_38 : decode Y_X_tape.2.1 38 = .ok (.getfield 21, 3) := by decide +kernel
theorem d_X_tape_41 : decode Y_X_tape.2.1 41 = .ok (.iload_n 1, 1) := by decide +kernel
theorem d_X_tape_42 : decode Y_X_tape.2.1 42 = .ok (.iload_n 2, 1) := by decide +kernel
theorem d_X_tape_43 : decode Y_X_tape.2.1 43 = .ok (.iload_n 3, 1) := by decide +kernel
theorem d_X_tape_44 : decode Y_X_tape.2.1 44 = .ok (.invokevirtual 306, 3) := by decide +kernel
theorem d_X_tape_47 : decode Y_X_tape.2.1 47 = .ok (.iconst 1, 1) := by decide +kernel
theorem d_X_tape_48 : decode Y_X_tape.2.1 48 = .ok (.ireturn, 1) := by decide +kernel
theorem d_M_tape_0 : decode Y_M_tape.2.1 0 = .ok (.aload_n 0, 1) := by decide +kernel
theorem d_M_tape_1 : decode Y_M_tape.2.1 1 = .ok (.iload_n 1, 1) := by decide +kernel
theorem d_M_tape_2 : decode Y_M_tape.2.1 2 = .ok (.invokevirtual 282, 3) := by decide +kernel
theorem d_M_tape_5 : decode Y_M_tape.2.1 5 = .ok (.ifCond .eq 24, 3) := by decide +kernel
theorem d_M_tape_8 : decode Y_M_tape.2.1 8 = .ok (.iload_n 2, 1) := by decide +kernel
theorem d_M_tape_9 : decode Y_M_tape.2.1 9 = .ok (.invokestatic 155, 3) := by decide +kernel
theorem d_M_tape_12 : decode Y_M_tape.2.1 12 = .ok (.ifCond .eq 17, 3) := by decide +kernel
theorem d_M_tape_15 : decode Y_M_tape.2.1 15 = .ok (.iload_n 3, 1) := by decide +kernel
theorem d_M_tape_16 : decode Y_M_tape.2.1 16 = .ok (.i2l, 1) := by decide +kernel
theorem d_M_tape_17 : decode Y_M_tape.2.1 17 = .ok (.ldc2_w 562, 3) := by decide +kernel
theorem d_M_tape_20 : decode Y_M_tape.2.1 20 = .ok (.ldc2_w 564, 3) := by decide +kernel
theorem d_M_tape_23 : decode Y_M_tape.2.1 23 = .ok (.invokestatic 145, 3) := by decide +kernel
theorem d_M_tape_26 : decode Y_M_tape.2.1 26 = .ok (.ifCond .ne 5, 3) := by decide +kernel
theorem d_M_tape_29 : decode Y_M_tape.2.1 29 = .ok (.iconst 0, 1) := by decide +kernel
theorem d_M_tape_30 : decode Y_M_tape.2.1 30 = .ok (.ireturn, 1) := by decide +kernel
theorem d_M_tape_31 : decode Y_M_tape.2.1 31 = .ok (.aload_n 0, 1) := by decide +kernel
theorem d_M_tape_32 : decode Y_M_tape.2.1 32 = .ok (.getfield 137, 3) := by decide +kernel
theorem d_M_tape_35 : decode Y_M_tape.2.1 35 = .ok (.bipush 24, 2) := by decide +kernel
theorem d_M_tape_37 : decode Y_M_tape.2.1 37 = .ok (.iload_n 1, 1) := by decide +kernel
theorem d_M_tape_38 : decode Y_M_tape.2.1 38 = .ok (.imul, 1) := by decide +kernel
theorem d_M_tape_39 : decode Y_M_tape.2.1 39 = .ok (.iload_n 2, 1) := by decide +kernel
theorem d_M_tape_40 : decode Y_M_tape.2.1 40 = .ok (.iadd, 1) := by decide +kernel
theorem d_M_tape_41 : decode Y_M_tape.2.1 41 = .ok (.iload_n 3, 1) := by decide +kernel
theorem d_M_tape_42 : decode Y_M_tape.2.1 42 = .ok (.iastore, 1) := by decide +kernel
theorem d_M_tape_43 : decode Y_M_tape.2.1 43 = .ok (.aload_n 0, 1) := by decide +kernel
theorem d_M_tape_44 : decode Y_M_tape.2.1 44 = .ok (.getfield 140, 3) := by decide +kernel
theorem d_M_tape_47 : decode Y_M_tape.2.1 47 = .ok (.bipush 24, 2) := by decide +kernel
theorem d_M_tape_49 : decode Y_M_tape.2.1 49 = .ok (.iload_n 1, 1) := by decide +kernel
theorem d_M_tape_50 : decode Y_M_tape.2.1 50 = .ok (.imul, 1) := by decide +kernel
theorem d_M_tape_51 : decode Y_M_tape.2.1 51 = .ok (.iload_n 2, 1) := by decide +kernel
theorem d_M_tape_52 : decode Y_M_tape.2.1 52 = .ok (.iadd, 1) := by decide +kernel
theorem d_M_tape_53 : decode Y_M_tape.2.1 53 = .ok (.iconst 1, 1) := by decide +kernel
theorem d_M_tape_54 : decode Y_M_tape.2.1 54 = .ok (.bastore, 1) := by decide +kernel
theorem d_M_tape_55 : decode Y_M_tape.2.1 55 = .ok (.iconst 1, 1) := by decide +kernel
theorem d_M_tape_56 : decode Y_M_tape.2.1 56 = .ok (.ireturn, 1) := by decide +kernel
theorem d_Ar_fill_BJ_0 : decode Y_Ar_fill_BJ.2.1 0 = .ok (.iconst 0, 1) := by decide +kernel
theorem d_Ar_fill_BJ_1 : decode Y_Ar_fill_BJ.2.1 1 = .ok (.istore_n 3, 1) := by decide +kernel
theorem d_Ar_fill_BJ_2 : decode Y_Ar_fill_BJ.2.1 2 = .ok (.aload_n 0, 1) := by decide +kernel
theorem d_Ar_fill_BJ_3 : decode Y_Ar_fill_BJ.2.1 3 = .ok (.arraylength, 1) := by decide +kernel
theorem d_Ar_fill_BJ_4 : decode Y_Ar_fill_BJ.2.1 4 = .ok (.istore 4, 2) := by decide +kernel
theorem d_Ar_fill_BJ_6 : decode Y_Ar_fill_BJ.2.1 6 = .ok (.iload_n 3, 1) := by decide +kernel
theorem d_Ar_fill_BJ_7 : decode Y_Ar_fill_BJ.2.1 7 = .ok (.iload 4, 2) := by decide +kernel
theorem d_Ar_fill_BJ_9 : decode Y_Ar_fill_BJ.2.1 9 = .ok (.if_icmp .ge 13, 3) := by decide +kernel
theorem d_Ar_fill_BJ_12 : decode Y_Ar_fill_BJ.2.1 12 = .ok (.aload_n 0, 1) := by decide +kernel
theorem d_Ar_fill_BJ_13 : decode Y_Ar_fill_BJ.2.1 13 = .ok (.iload_n 3, 1) := by decide +kernel
theorem d_Ar_fill_BJ_14 : decode Y_Ar_fill_BJ.2.1 14 = .ok (.lload_n 1, 1) := by decide +kernel
theorem d_Ar_fill_BJ_15 : decode Y_Ar_fill_BJ.2.1 15 = .ok (.lastore, 1) := by decide +kernel
theorem d_Ar_fill_BJ_16 : decode Y_Ar_fill_BJ.2.1 16 = .ok (.iinc 3 1, 3) := by decide +kernel
theorem d_Ar_fill_BJ_19 : decode Y_Ar_fill_BJ.2.1 19 = .ok (.goto (-13), 3) := by decide +kernel
theorem d_Ar_fill_BJ_22 : decode Y_Ar_fill_BJ.2.1 22 = .ok (.return_, 1) := by decide +kernel
theorem d_Ch_isRecorded_0 : decode Y_Ch_isRecorded.2.1 0 = .ok (.aload_n 0, 1) := by decide +kernel
theorem d_Ch_isRecorded_1 : decode Y_Ch_isRecorded.2.1 1 = .ok (.iload_n 1, 1) := by decide +kernel
theorem d_Ch_isRecorded_2 : decode Y_Ch_isRecorded.2.1 2 = .ok (.iload_n 2, 1) := by decide +kernel
theorem d_Ch_isRecorded_3 : decode Y_Ch_isRecorded.2.1 3 = .ok (.invokevirtual 61, 3) := by decide +kernel
theorem d_Ch_isRecorded_6 : decode Y_Ch_isRecorded.2.1 6 = .ok (.ifCond .eq 21, 3) := by decide +kernel
theorem d_Ch_isRecorded_9 : decode Y_Ch_isRecorded.2.1 9 = .ok (.aload_n 0, 1) := by decide +kernel
theorem d_Ch_isRecorded_10 : decode Y_Ch_isRecorded.2.1 10 = .ok (.getfield 27, 3) := by decide +kernel
theorem d_Ch_isRecorded_13 : decode Y_Ch_isRecorded.2.1 13 = .ok (.iload_n 1, 1) := by decide +kernel
theorem d_Ch_isRecorded_14 : decode Y_Ch_isRecorded.2.1 14 = .ok (.iaload, 1) := by decide +kernel
theorem d_Ch_isRecorded_15 : decode Y_Ch_isRecorded.2.1 15 = .ok (.iload_n 2, 1) := by decide +kernel
theorem d_Ch_isRecorded_16 : decode Y_Ch_isRecorded.2.1 16 = .ok (.ishr, 1) := by decide +kernel
theorem d_Ch_isRecorded_17 : decode Y_Ch_isRecorded.2.1 17 = .ok (.iconst 1, 1) := by decide +kernel
theorem d_Ch_isRecorded_18 : decode Y_Ch_isRecorded.2.1 18 = .ok (.iand, 1) := by decide +kernel
theorem d_Ch_isRecorded_19 : decode Y_Ch_isRecorded.2.1 19 = .ok (.iconst 1, 1) := by decide +kernel
theorem d_Ch_isRecorded_20 : decode Y_Ch_isRecorded.2.1 20 = .ok (.if_icmp .ne 7, 3) := by decide +kernel
theorem d_Ch_isRecorded_23 : decode Y_Ch_isRecorded.2.1 23 = .ok (.iconst 1, 1) := by decide +kernel
theorem d_Ch_isRecorded_24 : decode Y_Ch_isRecorded.2.1 24 = .ok (.goto 4, 3) := by decide +kernel
theorem d_Ch_isRecorded_27 : decode Y_Ch_isRecorded.2.1 27 = .ok (.iconst 0, 1) := by decide +kernel
theorem d_Ch_isRecorded_28 : decode Y_Ch_isRecorded.2.1 28 = .ok (.ireturn, 1) := by decide +kernel
theorem d_Ch_lastRecord_0 : decode Y_Ch_lastRecord.2.1 0 = .ok (.iload_n 2, 1) := by decide +kernel
theorem d_Ch_lastRecord_1 : decode Y_Ch_lastRecord.2.1 1 = .ok (.iconst 1, 1) := by decide +kernel
theorem d_Ch_lastRecord_2 : decode Y_Ch_lastRecord.2.1 2 = .ok (.isub, 1) := by decide +kernel
theorem d_Ch_lastRecord_3 : decode Y_Ch_lastRecord.2.1 3 = .ok (.istore_n 3, 1) := by decide +kernel
theorem d_Ch_lastRecord_4 : decode Y_Ch_lastRecord.2.1 4 = .ok (.iload_n 3, 1) := by decide +kernel
theorem d_Ch_lastRecord_5 : decode Y_Ch_lastRecord.2.1 5 = .ok (.ifCond .lt 20, 3) := by decide +kernel
theorem d_Ch_lastRecord_8 : decode Y_Ch_lastRecord.2.1 8 = .ok (.aload_n 0, 1) := by decide +kernel
theorem d_Ch_lastRecord_9 : decode Y_Ch_lastRecord.2.1 9 = .ok (.iload_n 1, 1) := by decide +kernel
theorem d_Ch_lastRecord_10 : decode Y_Ch_lastRecord.2.1 10 = .ok (.iload_n 3, 1) := by decide +kernel
theorem d_Ch_lastRecord_11 : decode Y_Ch_lastRecord.2.1 11 = .ok (.invokevirtual 96, 3) := by decide +kernel
theorem d_Ch_lastRecord_14 : decode Y_Ch_lastRecord.2.1 14 = .ok (.ifCond .eq 5, 3) := by decide +kernel
theorem d_Ch_lastRecord_17 : decode Y_Ch_lastRecord.2.1 17 = .ok (.iload_n 3, 1) := by decide +kernel
theorem d_Ch_lastRecord_18 : decode Y_Ch_lastRecord.2.1 18 = .ok (.ireturn, 1) := by decide +kernel
theorem d_Ch_lastRecord_19 : decode Y_Ch_lastRecord.2.1 19 = .ok (.iinc 3 (-1), 3) := by decide +kernel
theorem d_Ch_lastRecord_22 : decode Y_Ch_lastRecord.2.1 22 = .ok (.goto (-18), 3) := by decide +kernel
theorem d_Ch_lastRecord_25 : decode Y_Ch_lastRecord.2.1 25 = .ok (.iconst (-1), 1) := by decide +kernel
theorem d_Ch_lastRecord_26 : decode Y_Ch_lastRecord.2.1 26 = .ok (.ireturn, 1) := by decide +kernel
theorem d_Ch_recordOf_0 : decode Y_Ch_recordOf.2.1 0 = .ok (.aload_n 0, 1) := by decide +kernel
theorem d_Ch_recordOf_1 : decode Y_Ch_recordOf.2.1 1 = .ok (.iload_n 1, 1) := by decide +kernel
theorem d_Ch_recordOf_2 : decode Y_Ch_recordOf.2.1 2 = .ok (.iload_n 2, 1) := by decide +kernel
theorem d_Ch_recordOf_3 : decode Y_Ch_recordOf.2.1 3 = .ok (.invokevirtual 96, 3) := by decide +kernel
theorem d_Ch_recordOf_6 : decode Y_Ch_recordOf.2.1 6 = .ok (.ifCond .eq 17, 3) := by decide +kernel
theorem d_Ch_recordOf_9 : decode Y_Ch_recordOf.2.1 9 = .ok (.aload_n 0, 1) := by decide +kernel
theorem d_Ch_recordOf_10 : decode Y_Ch_recordOf.2.1 10 = .ok (.getfield 24, 3) := by decide +kernel
theorem d_Ch_recordOf_13 : decode Y_Ch_recordOf.2.1 13 = .ok (.iload_n 1, 1) := by decide +kernel
theorem d_Ch_recordOf_14 : decode Y_Ch_recordOf.2.1 14 = .ok (.bipush 24, 2) := by decide +kernel
theorem d_Ch_recordOf_16 : decode Y_Ch_recordOf.2.1 16 = .ok (.imul, 1) := by decide +kernel
theorem d_Ch_recordOf_17 : decode Y_Ch_recordOf.2.1 17 = .ok (.iload_n 2, 1) := by decide +kernel
theorem d_Ch_recordOf_18 : decode Y_Ch_recordOf.2.1 18 = .ok (.iadd, 1) := by decide +kernel
theorem d_Ch_recordOf_19 : decode Y_Ch_recordOf.2.1 19 = .ok (.iaload, 1) := by decide +kernel
theorem d_Ch_recordOf_20 : decode Y_Ch_recordOf.2.1 20 = .ok (.goto 4, 3) := by decide +kernel
theorem d_Ch_recordOf_23 : decode Y_Ch_recordOf.2.1 23 = .ok (.iconst 0, 1) := by decide +kernel
theorem d_Ch_recordOf_24 : decode Y_Ch_recordOf.2.1 24 = .ok (.ireturn, 1) := by decide +kernel
theorem d_Fi_addBeat_0 : decode Y_Fi_addBeat.2.1 0 = .ok (.aload_n 0, 1) := by decide +kernel
theorem d_Fi_addBeat_1 : decode Y_Fi_addBeat.2.1 1 = .ok (.getfield 19, 3) := by decide +kernel
theorem d_Fi_addBeat_4 : decode Y_Fi_addBeat.2.1 4 = .ok (.iload_n 1, 1) := by decide +kernel
theorem d_Fi_addBeat_5 : decode Y_Fi_addBeat.2.1 5 = .ok (.iload_n 2, 1) := by decide +kernel
theorem d_Fi_addBeat_6 : decode Y_Fi_addBeat.2.1 6 = .ok (.invokevirtual 47, 3) := by decide +kernel
theorem d_Fi_addBeat_9 : decode Y_Fi_addBeat.2.1 9 = .ok (.istore_n 3, 1) := by decide +kernel
theorem d_Fi_addBeat_10 : decode Y_Fi_addBeat.2.1 10 = .ok (.aload_n 0, 1) := by decide +kernel
theorem d_Fi_addBeat_11 : decode Y_Fi_addBeat.2.1 11 = .ok (.getfield 23, 3) := by decide +kernel
theorem d_Fi_addBeat_14 : decode Y_Fi_addBeat.2.1 14 = .ok (.iload_n 1, 1) := by decide +kernel
theorem d_Fi_addBeat_15 : decode Y_Fi_addBeat.2.1 15 = .ok (.iload_n 2, 1) := by decide +kernel
theorem d_Fi_addBeat_16 : decode Y_Fi_addBeat.2.1 16 = .ok (.iload_n 3, 1) := by decide +kernel
theorem d_Fi_addBeat_17 : decode Y_Fi_addBeat.2.1 17 = .ok (.aload_n 0, 1) := by decide +kernel
theorem d_Fi_addBeat_18 : decode Y_Fi_addBeat.2.1 18 = .ok (.getfield 19, 3) := by decide +kernel
theorem d_Fi_addBeat_21 : decode Y_Fi_addBeat.2.1 21 = .ok (.iload_n 1, 1) := by decide +kernel
theorem d_Fi_addBeat_22 : decode Y_Fi_addBeat.2.1 22 = .ok (.iload_n 3, 1) := by decide +kernel
theorem d_Fi_addBeat_23 : decode Y_Fi_addBeat.2.1 23 = .ok (.invokevirtual 51, 3) := by decide +kernel
theorem d_Fi_addBeat_26 : decode Y_Fi_addBeat.2.1 26 = .ok (.i2l, 1) := by decide +kernel
theorem d_Fi_addBeat_27 : decode Y_Fi_addBeat.2.1 27 = .ok (.invokevirtual 54, 3) := by decide +kernel
theorem d_Fi_addBeat_30 : decode Y_Fi_addBeat.2.1 30 = .ok (.iconst 1, 1) := by decide +kernel
theorem d_Fi_addBeat_31 : decode Y_Fi_addBeat.2.1 31 = .ok (.istore 4, 2) := by decide +kernel
theorem d_Fi_addBeat_33 : decode Y_Fi_addBeat.2.1 33 = .ok (.iload 4, 2) := by decide +kernel
theorem d_Fi_addBeat_35 : decode Y_Fi_addBeat.2.1 35 = .ok (.bipush 64, 2) := by decide +kernel
theorem d_Fi_addBeat_37 : decode Y_Fi_addBeat.2.1 37 = .ok (.if_icmp .ge 59, 3) := by decide +kernel
theorem d_Fi_addBeat_40 : decode Y_Fi_addBeat.2.1 40 = .ok (.aload_n 0, 1) := by decide +kernel
theorem d_Fi_addBeat_41 : decode Y_Fi_addBeat.2.1 41 = .ok (.getfield 23, 3) := by decide +kernel
theorem d_Fi_addBeat_44 : decode Y_Fi_addBeat.2.1 44 = .ok (.iload 4, 2) := by decide +kernel
theorem d_Fi_addBeat_46 : decode Y_Fi_addBeat.2.1 46 = .ok (.iconst 4, 1) := by decide +kernel
theorem d_Fi_addBeat_47 : decode Y_Fi_addBeat.2.1 47 = .ok (.ishr, 1) := by decide +kernel
theorem d_Fi_addBeat_48 : decode Y_Fi_addBeat.2.1 48 = .ok (.iload 4, 2) := by decide +kernel
theorem d_Fi_addBeat_50 : decode Y_Fi_addBeat.2.1 50 = .ok (.iconst 2, 1) := by decide +kernel
theorem d_Fi_addBeat_51 : decode Y_Fi_addBeat.2.1 51 = .ok (.ishr, 1) := by decide +kernel
theorem d_Fi_addBeat_52 : decode Y_Fi_addBeat.2.1 52 = .ok (.iconst 3, 1) := by decide +kernel
theorem d_Fi_addBeat_53 : decode Y_Fi_addBeat.2.1 53 = .ok (.iand, 1) := by decide +kernel
theorem d_Fi_addBeat_54 : decode Y_Fi_addBeat.2.1 54 = .ok (.iload 4, 2) := by decide +kernel
theorem d_Fi_addBeat_56 : decode Y_Fi_addBeat.2.1 56 = .ok (.iconst 3, 1) := by decide +kernel
theorem d_Fi_addBeat_57 : decode Y_Fi_addBeat.2.1 57 = .ok (.iand, 1) := by decide +kernel
theorem d_Fi_addBeat_58 : decode Y_Fi_addBeat.2.1 58 = .ok (.iconst 0, 1) := by decide +kernel
theorem d_Fi_addBeat_59 : decode Y_Fi_addBeat.2.1 59 = .ok (.invokevirtual 60, 3) := by decide +kernel
theorem d_Fi_addBeat_62 : decode Y_Fi_addBeat.2.1 62 = .ok (.lstore 5, 2) := by decide +kernel
theorem d_Fi_addBeat_64 : decode Y_Fi_addBeat.2.1 64 = .ok (.aload_n 0, 1) := by decide +kernel
theorem d_Fi_addBeat_65 : decode Y_Fi_addBeat.2.1 65 = .ok (.getfield 11, 3) := by decide +kernel
theorem d_Fi_addBeat_68 : decode Y_Fi_addBeat.2.1 68 = .ok (.iload 4, 2) := by decide +kernel
theorem d_Fi_addBeat_70 : decode Y_Fi_addBeat.2.1 70 = .ok (.dup2, 1) := by decide +kernel
theorem d_Fi_addBeat_71 : decode Y_Fi_addBeat.2.1 71 = .ok (.laload, 1) := by decide +kernel
theorem d_Fi_addBeat_72 : decode Y_Fi_addBeat.2.1 72 = .ok (.lload 5, 2) := by decide +kernel
theorem d_Fi_addBeat_74 : decode Y_Fi_addBeat.2.1 74 = .ok (.aload_n 0, 1) := by decide +kernel
theorem d_Fi_addBeat_75 : decode Y_Fi_addBeat.2.1 75 = .ok (.getfield 19, 3) := by decide +kernel
theorem d_Fi_addBeat_78 : decode Y_Fi_addBeat.2.1 78 = .ok (.iload_n 1, 1) := by decide +kernel
theorem d_Fi_addBeat_79 : decode Y_Fi_addBeat.2.1 79 = .ok (.iload_n 2, 1) := by decide +kernel
theorem d_Fi_addBeat_80 : decode Y_Fi_addBeat.2.1 80 = .ok (.invokevirtual 51, 3) := by decide +kernel
theorem d_Fi_addBeat_83 : decode Y_Fi_addBeat.2.1 83 = .ok (.i2l, 1) := by decide +kernel
theorem d_Fi_addBeat_84 : decode Y_Fi_addBeat.2.1 84 = .ok (.lsub, 1) := by decide +kernel
theorem d_Fi_addBeat_85 : decode Y_Fi_addBeat.2.1 85 = .ok (.invokestatic 64, 3) := by decide +kernel
theorem d_Fi_addBeat_88 : decode Y_Fi_addBeat.2.1 88 = .ok (.ladd, 1) := by decide +kernel
theorem d_Fi_addBeat_89 : decode Y_Fi_addBeat.2.1 89 = .ok (.lastore, 1) := by decide +kernel
theorem d_Fi_addBeat_90 : decode Y_Fi_addBeat.2.1 90 = .ok (.iinc 4 1, 3) := by decide +kernel
theorem d_Fi_addBeat_93 : decode Y_Fi_addBeat.2.1 93 = .ok (.goto (-60), 3) := by decide +kernel
theorem d_Fi_addBeat_96 : decode Y_Fi_addBeat.2.1 96 = .ok (.return_, 1) := by decide +kernel
theorem d_Fi_find_0 : decode Y_Fi_find.2.1 0 = .ok (.aload_n 0, 1) := by decide +kernel
theorem d_Fi_find_1 : decode Y_Fi_find.2.1 1 = .ok (.getfield 11, 3) := by decide +kernel
theorem d_Fi_find_4 : decode Y_Fi_find.2.1 4 = .ok (.lconst 0, 1) := by decide +kernel
theorem d_Fi_find_5 : decode Y_Fi_find.2.1 5 = .ok (.invokestatic 27, 3) := by decide +kernel
theorem d_Fi_find_8 : decode Y_Fi_find.2.1 8 = .ok (.iconst 0, 1) := by decide +kernel
theorem d_Fi_find_9 : decode Y_Fi_find.2.1 9 = .ok (.istore_n 2, 1) := by decide +kernel
theorem d_Fi_find_10 : decode Y_Fi_find.2.1 10 = .ok (.iload_n 2, 1) := by decide +kernel
theorem d_Fi_find_11 : decode Y_Fi_find.2.1 11 = .ok (.bipush 24, 2) := by decide +kernel
theorem d_Fi_find_13 : decode Y_Fi_find.2.1 13 = .ok (.if_icmp .ge 27, 3) := by decide +kernel
theorem d_Fi_find_16 : decode Y_Fi_find.2.1 16 = .ok (.aload_n 0, 1) := by decide +kernel
theorem d_Fi_find_17 : decode Y_Fi_find.2.1 17 = .ok (.getfield 19, 3) := by decide +kernel
theorem d_Fi_find_20 : decode Y_Fi_find.2.1 20 = .ok (.iload_n 1, 1) := by decide +kernel
theorem d_Fi_find_21 : decode Y_Fi_find.2.1 21 = .ok (.iload_n 2, 1) := by decide +kernel
theorem d_Fi_find_22 : decode Y_Fi_find.2.1 22 = .ok (.invokevirtual 33, 3) := by decide +kernel
theorem d_Fi_find_25 : decode Y_Fi_find.2.1 25 = .ok (.ifCond .eq 9, 3) := by decide +kernel
theorem d_Fi_find_28 : decode Y_Fi_find.2.1 28 = .ok (.aload_n 0, 1) := by decide +kernel
theorem d_Fi_find_29 : decode Y_Fi_find.2.1 29 = .ok (.iload_n 1, 1) := by decide +kernel
theorem d_Fi_find_30 : decode Y_Fi_find.2.1 30 = .ok (.iload_n 2, 1) := by decide +kernel
theorem d_Fi_find_31 : decode Y_Fi_find.2.1 31 = .ok (.invokevirtual 39, 3) := by decide +kernel
theorem d_Fi_find_34 : decode Y_Fi_find.2.1 34 = .ok (.iinc 2 1, 3) := by decide +kernel
theorem d_Fi_find_37 : decode Y_Fi_find.2.1 37 = .ok (.goto (-27), 3) := by decide +kernel
theorem d_Fi_find_40 : decode Y_Fi_find.2.1 40 = .ok (.aload_n 0, 1) := by decide +kernel
theorem d_Fi_find_41 : decode Y_Fi_find.2.1 41 = .ok (.iconst 1, 1) := by decide +kernel
theorem d_Fi_find_42 : decode Y_Fi_find.2.1 42 = .ok (.putfield 43, 3) := by decide +kernel
theorem d_Fi_find_45 : decode Y_Fi_find.2.1 45 = .ok (.iconst 2, 1) := by decide +kernel
theorem d_Fi_find_46 : decode Y_Fi_find.2.1 46 = .ok (.istore_n 2, 1) := by decide +kernel
theorem d_Fi_find_47 : decode Y_Fi_find.2.1 47 = .ok (.iload_n 2, 1) := by decide +kernel
theorem d_Fi_find_48 : decode Y_Fi_find.2.1 48 = .ok (.bipush 64, 2) := by decide +kernel
theorem d_Fi_find_50 : decode Y_Fi_find.2.1 50 = .ok (.if_icmp .ge 33, 3) := by decide +kernel
theorem d_Fi_find_53 : decode Y_Fi_find.2.1 53 = .ok (.aload_n 0, 1) := by decide +kernel
theorem d_Fi_find_54 : decode Y_Fi_find.2.1 54 = .ok (.getfield 11, 3) := by decide +kernel
theorem d_Fi_find_57 : decode Y_Fi_find.2.1 57 = .ok (.iload_n 2, 1) := by decide +kernel
theorem d_Fi_find_58 : decode Y_Fi_find.2.1 58 = .ok (.laload, 1) := by decide +kernel
theorem d_Fi_find_59 : decode Y_Fi_find.2.1 59 = .ok (.aload_n 0, 1) := by decide +kernel
theorem d_Fi_find_60 : decode Y_Fi_find.2.1 60 = .ok (.getfield 11, 3) := by decide +kernel
theorem d_Fi_find_63 : decode Y_Fi_find.2.1 63 = .ok (.aload_n 0, 1) := by decide +kernel
theorem d_Fi_find_64 : decode Y_Fi_find.2.1 64 = .ok (.getfield 43, 3) := by decide +kernel
theorem d_Fi_find_67 : decode Y_Fi_find.2.1 67 = .ok (.laload, 1) := by decide +kernel
theorem d_Fi_find_68 : decode Y_Fi_find.2.1 68 = .ok (.lcmp, 1) := by decide +kernel
theorem d_Fi_find_69 : decode Y_Fi_find.2.1 69 = .ok (.ifCond .ge 8, 3) := by decide +kernel
theorem d_Fi_find_72 : decode Y_Fi_find.2.1 72 = .ok (.aload_n 0, 1) := by decide +kernel
theorem d_Fi_find_73 : decode Y_Fi_find.2.1 73 = .ok (.iload_n 2, 1) := by decide +kernel
theorem d_Fi_find_74 : decode Y_Fi_find.2.1 74 = .ok (.putfield 43, 3) := by decide +kernel
theorem d_Fi_find_77 : decode Y_Fi_find.2.1 77 = .ok (.iinc 2 1, 3) := by decide +kernel
theorem d_Fi_find_80 : decode Y_Fi_find.2.1 80 = .ok (.goto (-33), 3) := by decide +kernel
theorem d_Fi_find_83 : decode Y_Fi_find.2.1 83 = .ok (.aload_n 0, 1) := by decide +kernel
theorem d_Fi_find_84 : decode Y_Fi_find.2.1 84 = .ok (.getfield 19, 3) := by decide +kernel
theorem d_Fi_find_87 : decode Y_Fi_find.2.1 87 = .ok (.iload_n 1, 1) := by decide +kernel
theorem d_Fi_find_88 : decode Y_Fi_find.2.1 88 = .ok (.bipush 24, 2) := by decide +kernel
theorem d_Fi_find_90 : decode Y_Fi_find.2.1 90 = .ok (.invokevirtual 47, 3) := by decide +kernel
theorem d_Fi_find_93 : decode Y_Fi_find.2.1 93 = .ok (.iconst (-1), 1) := by decide +kernel
theorem d_Fi_find_94 : decode Y_Fi_find.2.1 94 = .ok (.if_icmp .eq 7, 3) := by decide +kernel
theorem d_Fi_find_97 : decode Y_Fi_find.2.1 97 = .ok (.iconst 1, 1) := by decide +kernel
theorem d_Fi_find_98 : decode Y_Fi_find.2.1 98 = .ok (.goto 4, 3) := by decide +kernel
theorem d_Fi_find_101 : decode Y_Fi_find.2.1 101 = .ok (.iconst 0, 1) := by decide +kernel
theorem d_Fi_find_102 : decode Y_Fi_find.2.1 102 = .ok (.ireturn, 1) := by decide +kernel
theorem d_Fi_told_0 : decode Y_Fi_told.2.1 0 = .ok (.iload_n 1, 1) := by decide +kernel
theorem d_Fi_told_1 : decode Y_Fi_told.2.1 1 = .ok (.tableswitch 53 0 2 #[27, 35, 45], 27) := by decide +kernel
theorem d_Fi_told_28 : decode Y_Fi_told.2.1 28 = .ok (.aload_n 0, 1) := by decide +kernel
theorem d_Fi_told_29 : decode Y_Fi_told.2.1 29 = .ok (.getfield 43, 3) := by decide +kernel
theorem d_Fi_told_32 : decode Y_Fi_told.2.1 32 = .ok (.iconst 4, 1) := by decide +kernel
theorem d_Fi_told_33 : decode Y_Fi_told.2.1 33 = .ok (.ishr, 1) := by decide +kernel
theorem d_Fi_told_34 : decode Y_Fi_told.2.1 34 = .ok (.i2l, 1) := by decide +kernel
theorem d_Fi_told_35 : decode Y_Fi_told.2.1 35 = .ok (.lreturn, 1) := by decide +kernel
theorem d_Fi_told_36 : decode Y_Fi_told.2.1 36 = .ok (.aload_n 0, 1) := by decide +kernel
theorem d_Fi_told_37 : decode Y_Fi_told.2.1 37 = .ok (.getfield 43, 3) := by decide +kernel
theorem d_Fi_told_40 : decode Y_Fi_told.2.1 40 = .ok (.iconst 2, 1) := by decide +kernel
theorem d_Fi_told_41 : decode Y_Fi_told.2.1 41 = .ok (.ishr, 1) := by decide +kernel
theorem d_Fi_told_42 : decode Y_Fi_told.2.1 42 = .ok (.iconst 3, 1) := by decide +kernel
theorem d_Fi_told_43 : decode Y_Fi_told.2.1 43 = .ok (.iand, 1) := by decide +kernel
theorem d_Fi_told_44 : decode Y_Fi_told.2.1 44 = .ok (.i2l, 1) := by decide +kernel
theorem d_Fi_told_45 : decode Y_Fi_told.2.1 45 = .ok (.lreturn, 1) := by decide +kernel
theorem d_Fi_told_46 : decode Y_Fi_told.2.1 46 = .ok (.aload_n 0, 1) := by decide +kernel
theorem d_Fi_told_47 : decode Y_Fi_told.2.1 47 = .ok (.getfield 43, 3) := by decide +kernel
theorem d_Fi_told_50 : decode Y_Fi_told.2.1 50 = .ok (.iconst 3, 1) := by decide +kernel
theorem d_Fi_told_51 : decode Y_Fi_told.2.1 51 = .ok (.iand, 1) := by decide +kernel
theorem d_Fi_told_52 : decode Y_Fi_told.2.1 52 = .ok (.i2l, 1) := by decide +kernel
theorem d_Fi_told_53 : decode Y_Fi_told.2.1 53 = .ok (.lreturn, 1) := by decide +kernel
theorem d_Fi_told_54 : decode Y_Fi_told.2.1 54 = .ok (.aload_n 0, 1) := by decide +kernel
theorem d_Fi_told_55 : decode Y_Fi_told.2.1 55 = .ok (.getfield 43, 3) := by decide +kernel
theorem d_Fi_told_58 : decode Y_Fi_told.2.1 58 = .ok (.ifCond .lt 24, 3) := by decide +kernel
theorem d_Fi_told_61 : decode Y_Fi_told.2.1 61 = .ok (.aload_n 0, 1) := by decide +kernel
theorem d_Fi_told_62 : decode Y_Fi_told.2.1 62 = .ok (.getfield 43, 3) := by decide +kernel
theorem d_Fi_told_65 : decode Y_Fi_told.2.1 65 = .ok (.bipush 64, 2) := by decide +kernel
theorem d_Fi_told_67 : decode Y_Fi_told.2.1 67 = .ok (.if_icmp .ge 15, 3) := by decide +kernel
theorem d_Fi_told_70 : decode Y_Fi_told.2.1 70 = .ok (.aload_n 0, 1) := by decide +kernel
theorem d_Fi_told_71 : decode Y_Fi_told.2.1 71 = .ok (.getfield 11, 3) := by decide +kernel
theorem d_Fi_told_74 : decode Y_Fi_told.2.1 74 = .ok (.aload_n 0, 1) := by decide +kernel
theorem d_Fi_told_75 : decode Y_Fi_told.2.1 75 = .ok (.getfield 43, 3) := by decide +kernel
theorem d_Fi_told_78 : decode Y_Fi_told.2.1 78 = .ok (.laload, 1) := by decide +kernel
theorem d_Fi_told_79 : decode Y_Fi_told.2.1 79 = .ok (.goto 4, 3) := by decide +kernel
theorem d_Fi_told_82 : decode Y_Fi_told.2.1 82 = .ok (.lconst 0, 1) := by decide +kernel
theorem d_Fi_told_83 : decode Y_Fi_told.2.1 83 = .ok (.lreturn, 1) := by decide +kernel
theorem d_X_fit_0 : decode Y_X_fit.2.1 0 = .ok (.aload_n 0, 1) := by decide +kernel
theorem d_X_fit_1 : decode Y_X_fit.2.1 1 = .ok (.getfield 21, 3) := by decide +kernel
theorem d_X_fit_4 : decode Y_X_fit.2.1 4 = .ok (.iload_n 1, 1) := by decide +kernel
theorem d_X_fit_5 : decode Y_X_fit.2.1 5 = .ok (.invokevirtual 179, 3) := by decide +kernel
theorem d_X_fit_8 : decode Y_X_fit.2.1 8 = .ok (.ifCond .eq 12, 3) := by decide +kernel
theorem d_X_fit_11 : decode Y_X_fit.2.1 11 = .ok (.iload_n 2, 1) := by decide +kernel
theorem d_X_fit_12 : decode Y_X_fit.2.1 12 = .ok (.ifCond .lt 8, 3) := by decide +kernel
theorem d_X_fit_15 : decode Y_X_fit.2.1 15 = .ok (.iload_n 2, 1) := by decide +kernel
theorem d_X_fit_16 : decode Y_X_fit.2.1 16 = .ok (.iconst 3, 1) := by decide +kernel
theorem d_X_fit_17 : decode Y_X_fit.2.1 17 = .ok (.if_icmp .le 7, 3) := by decide +kernel
theorem d_X_fit_20 : decode Y_X_fit.2.1 20 = .ok (.ldc2_w 286, 3) := by decide +kernel
theorem d_X_fit_23 : decode Y_X_fit.2.1 23 = .ok (.lreturn, 1) := by decide +kernel
theorem d_X_fit_24 : decode Y_X_fit.2.1 24 = .ok (.aload_n 0, 1) := by decide +kernel
theorem d_X_fit_25 : decode Y_X_fit.2.1 25 = .ok (.getfield 30, 3) := by decide +kernel
theorem d_X_fit_28 : decode Y_X_fit.2.1 28 = .ok (.invokevirtual 232, 3) := by decide +kernel
theorem d_X_fit_31 : decode Y_X_fit.2.1 31 = .ok (.aload_n 0, 1) := by decide +kernel
theorem d_X_fit_32 : decode Y_X_fit.2.1 32 = .ok (.getfield 55, 3) := by decide +kernel
theorem d_X_fit_35 : decode Y_X_fit.2.1 35 = .ok (.iload_n 1, 1) := by decide +kernel
theorem d_X_fit_36 : decode Y_X_fit.2.1 36 = .ok (.invokevirtual 310, 3) := by decide +kernel
theorem d_X_fit_39 : decode Y_X_fit.2.1 39 = .ok (.ifCond .eq 14, 3) := by decide +kernel
theorem d_X_fit_42 : decode Y_X_fit.2.1 42 = .ok (.aload_n 0, 1) := by decide +kernel
theorem d_X_fit_43 : decode Y_X_fit.2.1 43 = .ok (.getfield 55, 3) := by decide +kernel
theorem d_X_fit_46 : decode Y_X_fit.2.1 46 = .ok (.iload_n 2, 1) := by decide +kernel
theorem d_X_fit_47 : decode Y_X_fit.2.1 47 = .ok (.invokevirtual 312, 3) := by decide +kernel
theorem d_X_fit_50 : decode Y_X_fit.2.1 50 = .ok (.goto 6, 3) := by decide +kernel
theorem d_X_fit_53 : decode Y_X_fit.2.1 53 = .ok (.ldc2_w 288, 3) := by decide +kernel
theorem d_X_fit_56 : decode Y_X_fit.2.1 56 = .ok (.lreturn, 1) := by decide +kernel
theorem d_M_isTaped_0 : decode Y_M_isTaped.2.1 0 = .ok (.aload_n 0, 1) := by decide +kernel
theorem d_M_isTaped_1 : decode Y_M_isTaped.2.1 1 = .ok (.iload_n 1, 1) := by decide +kernel
theorem d_M_isTaped_2 : decode Y_M_isTaped.2.1 2 = .ok (.iload_n 2, 1) := by decide +kernel
theorem d_M_isTaped_3 : decode Y_M_isTaped.2.1 3 = .ok (.invokevirtual 423, 3) := by decide +kernel
theorem d_M_isTaped_6 : decode Y_M_isTaped.2.1 6 = .ok (.ifCond .eq 21, 3) := by decide +kernel
theorem d_M_isTaped_9 : decode Y_M_isTaped.2.1 9 = .ok (.aload_n 0, 1) := by decide +kernel
theorem d_M_isTaped_10 : decode Y_M_isTaped.2.1 10 = .ok (.getfield 140, 3) := by decide +kernel
theorem d_M_isTaped_13 : decode Y_M_isTaped.2.1 13 = .ok (.bipush 24, 2) := by decide +kernel
theorem d_M_isTaped_15 : decode Y_M_isTaped.2.1 15 = .ok (.iload_n 1, 1) := by decide +kernel
theorem d_M_isTaped_16 : decode Y_M_isTaped.2.1 16 = .ok (.imul, 1) := by decide +kernel
theorem d_M_isTaped_17 : decode Y_M_isTaped.2.1 17 = .ok (.iload_n 2, 1) := by decide +kernel
theorem d_M_isTaped_18 : decode Y_M_isTaped.2.1 18 = .ok (.iadd, 1) := by decide +kernel
theorem d_M_isTaped_19 : decode Y_M_isTaped.2.1 19 = .ok (.baload, 1) := by decide +kernel
theorem d_M_isTaped_20 : decode Y_M_isTaped.2.1 20 = .ok (.ifCond .eq 7, 3) := by decide +kernel
theorem d_M_isTaped_23 : decode Y_M_isTaped.2.1 23 = .ok (.iconst 1, 1) := by decide +kernel
theorem d_M_isTaped_24 : decode Y_M_isTaped.2.1 24 = .ok (.goto 4, 3) := by decide +kernel
theorem d_M_isTaped_27 : decode Y_M_isTaped.2.1 27 = .ok (.iconst 0, 1) := by decide +kernel
theorem d_M_isTaped_28 : decode Y_M_isTaped.2.1 28 = .ok (.ireturn, 1) := by decide +kernel
theorem d_M_differs_0 : decode Y_M_differs.2.1 0 = .ok (.lconst 0, 1) := by decide +kernel
theorem d_M_differs_1 : decode Y_M_differs.2.1 1 = .ok (.lstore 5, 2) := by decide +kernel
theorem d_M_differs_3 : decode Y_M_differs.2.1 3 = .ok (.iconst (-1), 1) := by decide +kernel
theorem d_M_differs_4 : decode Y_M_differs.2.1 4 = .ok (.istore 7, 2) := by decide +kernel
theorem d_M_differs_6 : decode Y_M_differs.2.1 6 = .ok (.iconst 0, 1) := by decide +kernel
theorem d_M_differs_7 : decode Y_M_differs.2.1 7 = .ok (.istore 8, 2) := by decide +kernel
theorem d_M_differs_9 : decode Y_M_differs.2.1 9 = .ok (.iload 8, 2) := by decide +kernel
theorem d_M_differs_11 : decode Y_M_differs.2.1 11 = .ok (.bipush 24, 2) := by decide +kernel
theorem d_M_differs_13 : decode Y_M_differs.2.1 13 = .ok (.if_icmp .ge 175, 3) := by decide +kernel
theorem d_M_differs_16 : decode Y_M_differs.2.1 16 = .ok (.aload_n 0, 1) := by decide +kernel
theorem d_M_differs_17 : decode Y_M_differs.2.1 17 = .ok (.iload_n 1, 1) := by decide +kernel
theorem d_M_differs_18 : decode Y_M_differs.2.1 18 = .ok (.iload 8, 2) := by decide +kernel
theorem d_M_differs_20 : decode Y_M_differs.2.1 20 = .ok (.invokevirtual 566, 3) := by decide +kernel
theorem d_M_differs_23 : decode Y_M_differs.2.1 23 = .ok (.ifCond .ne 6, 3) := by decide +kernel
theorem d_M_differs_26 : decode Y_M_differs.2.1 26 = .ok (.goto 156, 3) := by decide +kernel
theorem d_M_differs_29 : decode Y_M_differs.2.1 29 = .ok (.aload_n 0, 1) := by decide +kernel
theorem d_M_differs_30 : decode Y_M_differs.2.1 30 = .ok (.iload_n 1, 1) := by decide +kernel
theorem d_M_differs_31 : decode Y_M_differs.2.1 31 = .ok (.iload 8, 2) := by decide +kernel
theorem d_M_differs_33 : decode Y_M_differs.2.1 33 = .ok (.invokevirtual 484, 3) := by decide +kernel
theorem d_M_differs_36 : decode Y_M_differs.2.1 36 = .ok (.aload_n 0, 1) := by decide +kernel
theorem d_M_differs_37 : decode Y_M_differs.2.1 37 = .ok (.iload 7, 2) := by decide +kernel
theorem d_M_differs_39 : decode Y_M_differs.2.1 39 = .ok (.iconst (-1), 1) := by decide +kernel
theorem d_M_differs_40 : decode Y_M_differs.2.1 40 = .ok (.if_icmp .eq 7, 3) := by decide +kernel
theorem d_M_differs_43 : decode Y_M_differs.2.1 43 = .ok (.iconst 1, 1) := by decide +kernel
theorem d_M_differs_44 : decode Y_M_differs.2.1 44 = .ok (.goto 4, 3) := by decide +kernel
theorem d_M_differs_47 : decode Y_M_differs.2.1 47 = .ok (.iconst 0, 1) := by decide +kernel
theorem d_M_differs_48 : decode Y_M_differs.2.1 48 = .ok (.putfield 477, 3) := by decide +kernel
theorem d_M_differs_51 : decode Y_M_differs.2.1 51 = .ok (.iload 7, 2) := by decide +kernel
theorem d_M_differs_53 : decode Y_M_differs.2.1 53 = .ok (.iconst (-1), 1) := by decide +kernel
theorem d_M_differs_54 : decode Y_M_differs.2.1 54 = .ok (.if_icmp .ne 7, 3) := by decide +kernel
theorem d_M_differs_57 : decode Y_M_differs.2.1 57 = .ok (.iconst 0, 1) := by decide +kernel
theorem d_M_differs_58 : decode Y_M_differs.2.1 58 = .ok (.goto 15, 3) := by decide +kernel
theorem d_M_differs_61 : decode Y_M_differs.2.1 61 = .ok (.aload_n 0, 1) := by decide +kernel
theorem d_M_differs_62 : decode Y_M_differs.2.1 62 = .ok (.getfield 137, 3) := by decide +kernel
theorem d_M_differs_65 : decode Y_M_differs.2.1 65 = .ok (.bipush 24, 2) := by decide +kernel
theorem d_M_differs_67 : decode Y_M_differs.2.1 67 = .ok (.iload_n 1, 1) := by decide +kernel
theorem d_M_differs_68 : decode Y_M_differs.2.1 68 = .ok (.imul, 1) := by decide +kernel
theorem d_M_differs_69 : decode Y_M_differs.2.1 69 = .ok (.iload 7, 2) := by decide +kernel
theorem d_M_differs_71 : decode Y_M_differs.2.1 71 = .ok (.iadd, 1) := by decide +kernel
theorem d_M_differs_72 : decode Y_M_differs.2.1 72 = .ok (.iaload, 1) := by decide +kernel
theorem d_M_differs_73 : decode Y_M_differs.2.1 73 = .ok (.istore 9, 2) := by decide +kernel
theorem d_M_differs_75 : decode Y_M_differs.2.1 75 = .ok (.aload_n 0, 1) := by decide +kernel
theorem d_M_differs_76 : decode Y_M_differs.2.1 76 = .ok (.aload_n 0, 1) := by decide +kernel
theorem d_M_differs_77 : decode Y_M_differs.2.1 77 = .ok (.getfield 477, 3) := by decide +kernel
theorem d_M_differs_80 : decode Y_M_differs.2.1 80 = .ok (.ifCond .ne 7, 3) := by decide +kernel
theorem d_M_differs_83 : decode Y_M_differs.2.1 83 = .ok (.lconst 0, 1) := by decide +kernel
theorem d_M_differs_84 : decode Y_M_differs.2.1 84 = .ok (.goto 54, 3) := by decide +kernel
theorem d_M_differs_87 : decode Y_M_differs.2.1 87 = .ok (.iload 7, 2) := by decide +kernel
theorem d_M_differs_89 : decode Y_M_differs.2.1 89 = .ok (.iload 8, 2) := by decide +kernel
theorem d_M_differs_91 : decode Y_M_differs.2.1 91 = .ok (.iconst 1, 1) := by decide +kernel
theorem d_M_differs_92 : decode Y_M_differs.2.1 92 = .ok (.isub, 1) := by decide +kernel
theorem d_M_differs_93 : decode Y_M_differs.2.1 93 = .ok (.if_icmp .ne 24, 3) := by decide +kernel
theorem d_M_differs_96 : decode Y_M_differs.2.1 96 = .ok (.aload_n 0, 1) := by decide +kernel
theorem d_M_differs_97 : decode Y_M_differs.2.1 97 = .ok (.aload_n 0, 1) := by decide +kernel
theorem d_M_differs_98 : decode Y_M_differs.2.1 98 = .ok (.getfield 56, 3) := by decide +kernel
theorem d_M_differs_101 : decode Y_M_differs.2.1 101 = .ok (.iload_n 1, 1) := by decide +kernel
theorem d_M_differs_102 : decode Y_M_differs.2.1 102 = .ok (.iaload, 1) := by decide +kernel
theorem d_M_differs_103 : decode Y_M_differs.2.1 103 = .ok (.iload 8, 2) := by decide +kernel
theorem d_M_differs_105 : decode Y_M_differs.2.1 105 = .ok (.invokevirtual 193, 3) := by decide +kernel
theorem d_M_differs_108 : decode Y_M_differs.2.1 108 = .ok (.ifCond .eq 9, 3) := by decide +kernel
theorem d_M_differs_111 : decode Y_M_differs.2.1 111 = .ok (.iload 9, 2) := by decide +kernel
theorem d_M_differs_113 : decode Y_M_differs.2.1 113 = .ok (.i2l, 1) := by decide +kernel
theorem d_M_differs_114 : decode Y_M_differs.2.1 114 = .ok (.goto 24, 3) := by decide +kernel
theorem d_M_differs_117 : decode Y_M_differs.2.1 117 = .ok (.iload 9, 2) := by decide +kernel
theorem d_M_differs_119 : decode Y_M_differs.2.1 119 = .ok (.i2l, 1) := by decide +kernel
theorem d_M_differs_120 : decode Y_M_differs.2.1 120 = .ok (.aload_n 0, 1) := by decide +kernel
theorem d_M_differs_121 : decode Y_M_differs.2.1 121 = .ok (.iload_n 1, 1) := by decide +kernel
theorem d_M_differs_122 : decode Y_M_differs.2.1 122 = .ok (.iload 8, 2) := by decide +kernel
theorem d_M_differs_124 : decode Y_M_differs.2.1 124 = .ok (.invokevirtual 468, 3) := by decide +kernel
theorem d_M_differs_127 : decode Y_M_differs.2.1 127 = .ok (.i2l, 1) := by decide +kernel
theorem d_M_differs_128 : decode Y_M_differs.2.1 128 = .ok (.ladd, 1) := by decide +kernel
theorem d_M_differs_129 : decode Y_M_differs.2.1 129 = .ok (.aload_n 0, 1) := by decide +kernel
theorem d_M_differs_130 : decode Y_M_differs.2.1 130 = .ok (.iload_n 1, 1) := by decide +kernel
theorem d_M_differs_131 : decode Y_M_differs.2.1 131 = .ok (.iload 7, 2) := by decide +kernel
theorem d_M_differs_133 : decode Y_M_differs.2.1 133 = .ok (.invokevirtual 468, 3) := by decide +kernel
theorem d_M_differs_136 : decode Y_M_differs.2.1 136 = .ok (.i2l, 1) := by decide +kernel
theorem d_M_differs_137 : decode Y_M_differs.2.1 137 = .ok (.lsub, 1) := by decide +kernel
theorem d_M_differs_138 : decode Y_M_differs.2.1 138 = .ok (.putfield 480, 3) := by decide +kernel
theorem d_M_differs_141 : decode Y_M_differs.2.1 141 = .ok (.lload 5, 2) := by decide +kernel
theorem d_M_differs_143 : decode Y_M_differs.2.1 143 = .ok (.aload_n 0, 1) := by decide +kernel
theorem d_M_differs_144 : decode Y_M_differs.2.1 144 = .ok (.iload_n 1, 1) := by decide +kernel
theorem d_M_differs_145 : decode Y_M_differs.2.1 145 = .ok (.iload 8, 2) := by decide +kernel
theorem d_M_differs_147 : decode Y_M_differs.2.1 147 = .ok (.iload_n 2, 1) := by decide +kernel
theorem d_M_differs_148 : decode Y_M_differs.2.1 148 = .ok (.i2l, 1) := by decide +kernel
theorem d_M_differs_149 : decode Y_M_differs.2.1 149 = .ok (.iload_n 3, 1) := by decide +kernel
theorem d_M_differs_150 : decode Y_M_differs.2.1 150 = .ok (.i2l, 1) := by decide +kernel
theorem d_M_differs_151 : decode Y_M_differs.2.1 151 = .ok (.iload 4, 2) := by decide +kernel
theorem d_M_differs_153 : decode Y_M_differs.2.1 153 = .ok (.i2l, 1) := by decide +kernel
theorem d_M_differs_154 : decode Y_M_differs.2.1 154 = .ok (.lconst 0, 1) := by decide +kernel
theorem d_M_differs_155 : decode Y_M_differs.2.1 155 = .ok (.invokevirtual 493, 3) := by decide +kernel
theorem d_M_differs_158 : decode Y_M_differs.2.1 158 = .ok (.aload_n 0, 1) := by decide +kernel
theorem d_M_differs_159 : decode Y_M_differs.2.1 159 = .ok (.getfield 137, 3) := by decide +kernel
theorem d_M_differs_162 : decode Y_M_differs.2.1 162 = .ok (.bipush 24, 2) := by decide +kernel
theorem d_M_differs_164 : decode Y_M_differs.2.1 164 = .ok (.iload_n 1, 1) := by decide +kernel
theorem d_M_differs_165 : decode Y_M_differs.2.1 165 = .ok (.imul, 1) := by decide +kernel
theorem d_M_differs_166 : decode Y_M_differs.2.1 166 = .ok (.iload 8, 2) := by decide +kernel
theorem d_M_differs_168 : decode Y_M_differs.2.1 168 = .ok (.iadd, 1) := by decide +kernel
theorem d_M_differs_169 : decode Y_M_differs.2.1 169 = .ok (.iaload, 1) := by decide +kernel
theorem d_M_differs_170 : decode Y_M_differs.2.1 170 = .ok (.i2l, 1) := by decide +kernel
theorem d_M_differs_171 : decode Y_M_differs.2.1 171 = .ok (.lsub, 1) := by decide +kernel
theorem d_M_differs_172 : decode Y_M_differs.2.1 172 = .ok (.invokestatic 225, 3) := by decide +kernel
theorem d_M_differs_175 : decode Y_M_differs.2.1 175 = .ok (.ladd, 1) := by decide +kernel
theorem d_M_differs_176 : decode Y_M_differs.2.1 176 = .ok (.lstore 5, 2) := by decide +kernel
theorem d_M_differs_178 : decode Y_M_differs.2.1 178 = .ok (.iload 8, 2) := by decide +kernel
theorem d_M_differs_180 : decode Y_M_differs.2.1 180 = .ok (.istore 7, 2) := by decide +kernel
theorem d_M_differs_182 : decode Y_M_differs.2.1 182 = .ok (.iinc 8 1, 3) := by decide +kernel
theorem d_M_differs_185 : decode Y_M_differs.2.1 185 = .ok (.goto (-176), 3) := by decide +kernel
theorem d_M_differs_188 : decode Y_M_differs.2.1 188 = .ok (.lload 5, 2) := by decide +kernel
theorem d_M_differs_190 : decode Y_M_differs.2.1 190 = .ok (.lreturn, 1) := by decide +kernel
theorem d_M_fit_0 : decode Y_M_fit.2.1 0 = .ok (.aload_n 0, 1) := by decide +kernel
theorem d_M_fit_1 : decode Y_M_fit.2.1 1 = .ok (.iload_n 1, 1) := by decide +kernel
theorem d_M_fit_2 : decode Y_M_fit.2.1 2 = .ok (.invokevirtual 282, 3) := by decide +kernel
theorem d_M_fit_5 : decode Y_M_fit.2.1 5 = .ok (.ifCond .eq 15, 3) := by decide +kernel
theorem d_M_fit_8 : decode Y_M_fit.2.1 8 = .ok (.iload_n 2, 1) := by decide +kernel
theorem d_M_fit_9 : decode Y_M_fit.2.1 9 = .ok (.i2l, 1) := by decide +kernel
theorem d_M_fit_10 : decode Y_M_fit.2.1 10 = .ok (.lconst 0, 1) := by decide +kernel
theorem d_M_fit_11 : decode Y_M_fit.2.1 11 = .ok (.ldc2_w 528, 3) := by decide +kernel
theorem d_M_fit_14 : decode Y_M_fit.2.1 14 = .ok (.invokestatic 145, 3) := by decide +kernel
theorem d_M_fit_17 : decode Y_M_fit.2.1 17 = .ok (.ifCond .ne 7, 3) := by decide +kernel
theorem d_M_fit_20 : decode Y_M_fit.2.1 20 = .ok (.ldc2_w 555, 3) := by decide +kernel
theorem d_M_fit_23 : decode Y_M_fit.2.1 23 = .ok (.lreturn, 1) := by decide +kernel
theorem d_M_fit_24 : decode Y_M_fit.2.1 24 = .ok (.iconst 0, 1) := by decide +kernel
theorem d_M_fit_25 : decode Y_M_fit.2.1 25 = .ok (.istore_n 3, 1) := by decide +kernel
theorem d_M_fit_26 : decode Y_M_fit.2.1 26 = .ok (.iconst 0, 1) := by decide +kernel
theorem d_M_fit_27 : decode Y_M_fit.2.1 27 = .ok (.istore 4, 2) := by decide +kernel
theorem d_M_fit_29 : decode Y_M_fit.2.1 29 = .ok (.iload 4, 2) := by decide +kernel
theorem d_M_fit_31 : decode Y_M_fit.2.1 31 = .ok (.bipush 24, 2) := by decide +kernel
theorem d_M_fit_33 : decode Y_M_fit.2.1 33 = .ok (.if_icmp .ge 29, 3) := by decide +kernel
theorem d_M_fit_36 : decode Y_M_fit.2.1 36 = .ok (.iload_n 3, 1) := by decide +kernel
theorem d_M_fit_37 : decode Y_M_fit.2.1 37 = .ok (.ifCond .ne 13, 3) := by decide +kernel
theorem d_M_fit_40 : decode Y_M_fit.2.1 40 = .ok (.aload_n 0, 1) := by decide +kernel
theorem d_M_fit_41 : decode Y_M_fit.2.1 41 = .ok (.iload_n 1, 1) := by decide +kernel
theorem d_M_fit_42 : decode Y_M_fit.2.1 42 = .ok (.iload 4, 2) := by decide +kernel
theorem d_M_fit_44 : decode Y_M_fit.2.1 44 = .ok (.invokevirtual 566, 3) := by decide +kernel
theorem d_M_fit_47 : decode Y_M_fit.2.1 47 = .ok (.ifCond .eq 7, 3) := by decide +kernel
theorem d_M_fit_50 : decode Y_M_fit.2.1 50 = .ok (.iconst 1, 1) := by decide +kernel
theorem d_M_fit_51 : decode Y_M_fit.2.1 51 = .ok (.goto 4, 3) := by decide +kernel
theorem d_M_fit_54 : decode Y_M_fit.2.1 54 = .ok (.iconst 0, 1) := by decide +kernel
theorem d_M_fit_55 : decode Y_M_fit.2.1 55 = .ok (.istore_n 3, 1) := by decide +kernel
theorem d_M_fit_56 : decode Y_M_fit.2.1 56 = .ok (.iinc 4 1, 3) := by decide +kernel
theorem d_M_fit_59 : decode Y_M_fit.2.1 59 = .ok (.goto (-30), 3) := by decide +kernel
theorem d_M_fit_62 : decode Y_M_fit.2.1 62 = .ok (.iload_n 3, 1) := by decide +kernel
theorem d_M_fit_63 : decode Y_M_fit.2.1 63 = .ok (.ifCond .ne 7, 3) := by decide +kernel
theorem d_M_fit_66 : decode Y_M_fit.2.1 66 = .ok (.ldc2_w 557, 3) := by decide +kernel
theorem d_M_fit_69 : decode Y_M_fit.2.1 69 = .ok (.lreturn, 1) := by decide +kernel
theorem d_M_fit_70 : decode Y_M_fit.2.1 70 = .ok (.aload_n 0, 1) := by decide +kernel
theorem d_M_fit_71 : decode Y_M_fit.2.1 71 = .ok (.invokevirtual 525, 3) := by decide +kernel
theorem d_M_fit_74 : decode Y_M_fit.2.1 74 = .ok (.iconst 0, 1) := by decide +kernel
theorem d_M_fit_75 : decode Y_M_fit.2.1 75 = .ok (.istore 4, 2) := by decide +kernel
theorem d_M_fit_77 : decode Y_M_fit.2.1 77 = .ok (.ldc2_w 255, 3) := by decide +kernel
theorem d_M_fit_80 : decode Y_M_fit.2.1 80 = .ok (.lstore 5, 2) := by decide +kernel
theorem d_M_fit_82 : decode Y_M_fit.2.1 82 = .ok (.iconst 1, 1) := by decide +kernel
theorem d_M_fit_83 : decode Y_M_fit.2.1 83 = .ok (.istore 7, 2) := by decide +kernel
theorem d_M_fit_85 : decode Y_M_fit.2.1 85 = .ok (.iload 7, 2) := by decide +kernel
theorem d_M_fit_87 : decode Y_M_fit.2.1 87 = .ok (.bipush 64, 2) := by decide +kernel
theorem d_M_fit_89 : decode Y_M_fit.2.1 89 = .ok (.if_icmp .ge 50, 3) := by decide +kernel
theorem d_M_fit_92 : decode Y_M_fit.2.1 92 = .ok (.aload_n 0, 1) := by decide +kernel
theorem d_M_fit_93 : decode Y_M_fit.2.1 93 = .ok (.iload_n 1, 1) := by decide +kernel
theorem d_M_fit_94 : decode Y_M_fit.2.1 94 = .ok (.iload 7, 2) := by decide +kernel
theorem d_M_fit_96 : decode Y_M_fit.2.1 96 = .ok (.bipush 16, 2) := by decide +kernel
theorem d_M_fit_98 : decode Y_M_fit.2.1 98 = .ok (.idiv, 1) := by decide +kernel
theorem d_M_fit_99 : decode Y_M_fit.2.1 99 = .ok (.iload 7, 2) := by decide +kernel
theorem d_M_fit_101 : decode Y_M_fit.2.1 101 = .ok (.iconst 4, 1) := by decide +kernel
theorem d_M_fit_102 : decode Y_M_fit.2.1 102 = .ok (.idiv, 1) := by decide +kernel
theorem d_M_fit_103 : decode Y_M_fit.2.1 103 = .ok (.iconst 4, 1) := by decide +kernel
theorem d_M_fit_104 : decode Y_M_fit.2.1 104 = .ok (.irem, 1) := by decide +kernel
theorem d_M_fit_105 : decode Y_M_fit.2.1 105 = .ok (.iload 7, 2) := by decide +kernel
theorem d_M_fit_107 : decode Y_M_fit.2.1 107 = .ok (.iconst 4, 1) := by decide +kernel
theorem d_M_fit_108 : decode Y_M_fit.2.1 108 = .ok (.irem, 1) := by decide +kernel
theorem d_M_fit_109 : decode Y_M_fit.2.1 109 = .ok (.invokevirtual 569, 3) := by decide +kernel
theorem d_M_fit_112 : decode Y_M_fit.2.1 112 = .ok (.lstore 8, 2) := by decide +kernel
theorem d_M_fit_114 : decode Y_M_fit.2.1 114 = .ok (.lload 8, 2) := by decide +kernel
theorem d_M_fit_116 : decode Y_M_fit.2.1 116 = .ok (.lload 5, 2) := by decide +kernel
theorem d_M_fit_118 : decode Y_M_fit.2.1 118 = .ok (.lcmp, 1) := by decide +kernel
theorem d_M_fit_119 : decode Y_M_fit.2.1 119 = .ok (.ifCond .lt 6, 3) := by decide +kernel
theorem d_M_fit_122 : decode Y_M_fit.2.1 122 = .ok (.goto 11, 3) := by decide +kernel
theorem d_M_fit_125 : decode Y_M_fit.2.1 125 = .ok (.iload 7, 2) := by decide +kernel
theorem d_M_fit_127 : decode Y_M_fit.2.1 127 = .ok (.istore 4, 2) := by decide +kernel
theorem d_M_fit_129 : decode Y_M_fit.2.1 129 = .ok (.lload 8, 2) := by decide +kernel
theorem d_M_fit_131 : decode Y_M_fit.2.1 131 = .ok (.lstore 5, 2) := by decide +kernel
theorem d_M_fit_133 : decode Y_M_fit.2.1 133 = .ok (.iinc 7 1, 3) := by decide +kernel
theorem d_M_fit_136 : decode Y_M_fit.2.1 136 = .ok (.goto (-51), 3) := by decide +kernel
theorem d_M_fit_139 : decode Y_M_fit.2.1 139 = .ok (.iload_n 2, 1) := by decide +kernel
theorem d_M_fit_140 : decode Y_M_fit.2.1 140 = .ok (.ifCond .ne 12, 3) := by decide +kernel
theorem d_M_fit_143 : decode Y_M_fit.2.1 143 = .ok (.iload 4, 2) := by decide +kernel
theorem d_M_fit_145 : decode Y_M_fit.2.1 145 = .ok (.bipush 16, 2) := by decide +kernel
theorem d_M_fit_147 : decode Y_M_fit.2.1 147 = .ok (.idiv, 1) := by decide +kernel
theorem d_M_fit_148 : decode Y_M_fit.2.1 148 = .ok (.i2l, 1) := by decide +kernel
theorem d_M_fit_149 : decode Y_M_fit.2.1 149 = .ok (.goto 33, 3) := by decide +kernel
theorem d_M_fit_152 : decode Y_M_fit.2.1 152 = .ok (.iload_n 2, 1) := by decide +kernel
theorem d_M_fit_153 : decode Y_M_fit.2.1 153 = .ok (.iconst 1, 1) := by decide +kernel
theorem d_M_fit_154 : decode Y_M_fit.2.1 154 = .ok (.if_icmp .ne 13, 3) := by decide +kernel
theorem d_M_fit_157 : decode Y_M_fit.2.1 157 = .ok (.iload 4, 2) := by decide +kernel
theorem d_M_fit_159 : decode Y_M_fit.2.1 159 = .ok (.iconst 4, 1) := by decide +kernel
theorem d_M_fit_160 : decode Y_M_fit.2.1 160 = .ok (.idiv, 1) := by decide +kernel
theorem d_M_fit_161 : decode Y_M_fit.2.1 161 = .ok (.iconst 4, 1) := by decide +kernel
theorem d_M_fit_162 : decode Y_M_fit.2.1 162 = .ok (.irem, 1) := by decide +kernel
theorem d_M_fit_163 : decode Y_M_fit.2.1 163 = .ok (.i2l, 1) := by decide +kernel
theorem d_M_fit_164 : decode Y_M_fit.2.1 164 = .ok (.goto 18, 3) := by decide +kernel
theorem d_M_fit_167 : decode Y_M_fit.2.1 167 = .ok (.iload_n 2, 1) := by decide +kernel
theorem d_M_fit_168 : decode Y_M_fit.2.1 168 = .ok (.iconst 2, 1) := by decide +kernel
theorem d_M_fit_169 : decode Y_M_fit.2.1 169 = .ok (.if_icmp .ne 11, 3) := by decide +kernel
theorem d_M_fit_172 : decode Y_M_fit.2.1 172 = .ok (.iload 4, 2) := by decide +kernel
theorem d_M_fit_174 : decode Y_M_fit.2.1 174 = .ok (.iconst 4, 1) := by decide +kernel
theorem d_M_fit_175 : decode Y_M_fit.2.1 175 = .ok (.irem, 1) := by decide +kernel
theorem d_M_fit_176 : decode Y_M_fit.2.1 176 = .ok (.i2l, 1) := by decide +kernel
theorem d_M_fit_177 : decode Y_M_fit.2.1 177 = .ok (.goto 5, 3) := by decide +kernel
theorem d_M_fit_180 : decode Y_M_fit.2.1 180 = .ok (.lload 5, 2) := by decide +kernel
theorem d_M_fit_182 : decode Y_M_fit.2.1 182 = .ok (.lreturn, 1) := by decide +kernel
theorem d_X_minded_0 : decode Y_X_minded.2.1 0 = .ok (.aload_n 0, 1) := by decide +kernel
theorem d_X_minded_1 : decode Y_X_minded.2.1 1 = .ok (.getfield 30, 3) := by decide +kernel
theorem d_X_minded_4 : decode Y_X_minded.2.1 4 = .ok (.aload_n 0, 1) := by decide +kernel
theorem d_X_minded_5 : decode Y_X_minded.2.1 5 = .ok (.getfield 21, 3) := by decide +kernel
theorem d_X_minded_8 : decode Y_X_minded.2.1 8 = .ok (.getfield 170, 3) := by decide +kernel
theorem d_X_minded_11 : decode Y_X_minded.2.1 11 = .ok (.aload_n 0, 1) := by decide +kernel
theorem d_X_minded_12 : decode Y_X_minded.2.1 12 = .ok (.getfield 21, 3) := by decide +kernel
theorem d_X_minded_15 : decode Y_X_minded.2.1 15 = .ok (.getfield 196, 3) := by decide +kernel
theorem d_X_minded_18 : decode Y_X_minded.2.1 18 = .ok (.iload_n 3, 1) := by decide +kernel
theorem d_X_minded_19 : decode Y_X_minded.2.1 19 = .ok (.iconst 0, 1) := by decide +kernel
theorem d_X_minded_20 : decode Y_X_minded.2.1 20 = .ok (.invokevirtual 300, 3) := by decide +kernel
theorem d_X_minded_23 : decode Y_X_minded.2.1 23 = .ok (.iload_n 1, 1) := by decide +kernel
theorem d_X_minded_24 : decode Y_X_minded.2.1 24 = .ok (.i2l, 1) := by decide +kernel
theorem d_X_minded_25 : decode Y_X_minded.2.1 25 = .ok (.aload_n 0, 1) := by decide +kernel
theorem d_X_minded_26 : decode Y_X_minded.2.1 26 = .ok (.getfield 30, 3) := by decide +kernel
theorem d_X_minded_29 : decode Y_X_minded.2.1 29 = .ok (.invokevirtual 258, 3) := by decide +kernel
theorem d_X_minded_32 : decode Y_X_minded.2.1 32 = .ok (.invokestatic 340, 3) := by decide +kernel
theorem d_X_minded_35 : decode Y_X_minded.2.1 35 = .ok (.ldc2_w 346, 3) := by decide +kernel
theorem d_X_minded_38 : decode Y_X_minded.2.1 38 = .ok (.ldiv, 1) := by decide +kernel
theorem d_X_minded_39 : decode Y_X_minded.2.1 39 = .ok (.lmul, 1) := by decide +kernel
theorem d_X_minded_40 : decode Y_X_minded.2.1 40 = .ok (.iload_n 2, 1) := by decide +kernel
theorem d_X_minded_41 : decode Y_X_minded.2.1 41 = .ok (.i2l, 1) := by decide +kernel
theorem d_X_minded_42 : decode Y_X_minded.2.1 42 = .ok (.aload_n 0, 1) := by decide +kernel
theorem d_X_minded_43 : decode Y_X_minded.2.1 43 = .ok (.getfield 30, 3) := by decide +kernel
theorem d_X_minded_46 : decode Y_X_minded.2.1 46 = .ok (.invokevirtual 265, 3) := by decide +kernel
theorem d_X_minded_49 : decode Y_X_minded.2.1 49 = .ok (.ldc2_w 346, 3) := by decide +kernel
theorem d_X_minded_52 : decode Y_X_minded.2.1 52 = .ok (.ldiv, 1) := by decide +kernel
theorem d_X_minded_53 : decode Y_X_minded.2.1 53 = .ok (.lmul, 1) := by decide +kernel
theorem d_X_minded_54 : decode Y_X_minded.2.1 54 = .ok (.ladd, 1) := by decide +kernel
theorem d_X_minded_55 : decode Y_X_minded.2.1 55 = .ok (.lreturn, 1) := by decide +kernel
theorem d_X_mind_0 : decode Y_X_mind.2.1 0 = .ok (.iload_n 1, 1) := by decide +kernel
theorem d_X_mind_1 : decode Y_X_mind.2.1 1 = .ok (.ifCond .lt 32, 3) := by decide +kernel
theorem d_X_mind_4 : decode Y_X_mind.2.1 4 = .ok (.iload_n 1, 1) := by decide +kernel
theorem d_X_mind_5 : decode Y_X_mind.2.1 5 = .ok (.bipush 100, 2) := by decide +kernel
theorem d_X_mind_7 : decode Y_X_mind.2.1 7 = .ok (.if_icmp .gt 26, 3) := by decide +kernel
theorem d_X_mind_10 : decode Y_X_mind.2.1 10 = .ok (.iload_n 2, 1) := by decide +kernel
theorem d_X_mind_11 : decode Y_X_mind.2.1 11 = .ok (.ifCond .lt 22, 3) := by decide +kernel
theorem d_X_mind_14 : decode Y_X_mind.2.1 14 = .ok (.iload_n 2, 1) := by decide +kernel
theorem d_X_mind_15 : decode Y_X_mind.2.1 15 = .ok (.bipush 100, 2) := by decide +kernel
theorem d_X_mind_17 : decode Y_X_mind.2.1 17 = .ok (.if_icmp .gt 16, 3) := by decide +kernel
theorem d_X_mind_20 : decode Y_X_mind.2.1 20 = .ok (.iload_n 3, 1) := by decide +kernel
theorem d_X_mind_21 : decode Y_X_mind.2.1 21 = .ok (.ifCond .lt 12, 3) := by decide +kernel
theorem d_X_mind_24 : decode Y_X_mind.2.1 24 = .ok (.iload_n 3, 1) := by decide +kernel
theorem d_X_mind_25 : decode Y_X_mind.2.1 25 = .ok (.iconst 2, 1) := by decide +kernel
theorem d_X_mind_26 : decode Y_X_mind.2.1 26 = .ok (.if_icmp .gt 7, 3) := by decide +kernel
theorem d_X_mind_29 : decode Y_X_mind.2.1 29 = .ok (.iconst 1, 1) := by decide +kernel
theorem d_X_mind_30 : decode Y_X_mind.2.1 30 = .ok (.goto 4, 3) := by decide +kernel
theorem d_X_mind_33 : decode Y_X_mind.2.1 33 = .ok (.iconst 0, 1) := by decide +kernel
theorem d_X_mind_34 : decode Y_X_mind.2.1 34 = .ok (.istore 4, 2) := by decide +kernel
theorem d_X_mind_36 : decode Y_X_mind.2.1 36 = .ok (.iload 4, 2) := by decide +kernel
theorem d_X_mind_38 : decode Y_X_mind.2.1 38 = .ok (.ifCond .eq 14, 3) := by decide +kernel
theorem d_X_mind_41 : decode Y_X_mind.2.1 41 = .ok (.aload_n 0, 1) := by decide +kernel
theorem d_X_mind_42 : decode Y_X_mind.2.1 42 = .ok (.getfield 21, 3) := by decide +kernel
theorem d_X_mind_45 : decode Y_X_mind.2.1 45 = .ok (.invokevirtual 254, 3) := by decide +kernel
theorem d_X_mind_48 : decode Y_X_mind.2.1 48 = .ok (.iconst (-1), 1) := by decide +kernel
theorem d_X_mind_49 : decode Y_X_mind.2.1 49 = .ok (.if_icmp .ne 7, 3) := by decide +kernel
theorem d_X_mind_52 : decode Y_X_mind.2.1 52 = .ok (.ldc2_w 286, 3) := by decide +kernel
theorem d_X_mind_55 : decode Y_X_mind.2.1 55 = .ok (.lreturn, 1) := by decide +kernel
theorem d_X_mind_56 : decode Y_X_mind.2.1 56 = .ok (.aload_n 0, 1) := by decide +kernel
theorem d_X_mind_57 : decode Y_X_mind.2.1 57 = .ok (.iload_n 1, 1) := by decide +kernel
theorem d_X_mind_58 : decode Y_X_mind.2.1 58 = .ok (.iload_n 2, 1) := by decide +kernel
theorem d_X_mind_59 : decode Y_X_mind.2.1 59 = .ok (.iconst 0, 1) := by decide +kernel
theorem d_X_mind_60 : decode Y_X_mind.2.1 60 = .ok (.invokevirtual 314, 3) := by decide +kernel
theorem d_X_mind_63 : decode Y_X_mind.2.1 63 = .ok (.lstore 5, 2) := by decide +kernel
theorem d_X_mind_65 : decode Y_X_mind.2.1 65 = .ok (.iconst 0, 1) := by decide +kernel
theorem d_X_mind_66 : decode Y_X_mind.2.1 66 = .ok (.istore 7, 2) := by decide +kernel
theorem d_X_mind_68 : decode Y_X_mind.2.1 68 = .ok (.iconst 1, 1) := by decide +kernel
theorem d_X_mind_69 : decode Y_X_mind.2.1 69 = .ok (.istore 8, 2) := by decide +kernel
theorem d_X_mind_71 : decode Y_X_mind.2.1 71 = .ok (.iload 8, 2) := by decide +kernel
theorem d_X_mind_73 : decode Y_X_mind.2.1 73 = .ok (.bipush 12, 2) := by decide +kernel
theorem d_X_mind_75 : decode Y_X_mind.2.1 75 = .ok (.if_icmp .ge 39, 3) := by decide +kernel
theorem d_X_mind_78 : decode Y_X_mind.2.1 78 = .ok (.iload_n 3, 1) := by decide +kernel
theorem d_X_mind_79 : decode Y_X_mind.2.1 79 = .ok (.ifCond .le 35, 3) := by decide +kernel
theorem d_X_mind_82 : decode Y_X_mind.2.1 82 = .ok (.aload_n 0, 1) := by decide +kernel
theorem d_X_mind_83 : decode Y_X_mind.2.1 83 = .ok (.iload_n 1, 1) := by decide +kernel
theorem d_X_mind_84 : decode Y_X_mind.2.1 84 = .ok (.iload_n 2, 1) := by decide +kernel
theorem d_X_mind_85 : decode Y_X_mind.2.1 85 = .ok (.iload 8, 2) := by decide +kernel
theorem d_X_mind_87 : decode Y_X_mind.2.1 87 = .ok (.invokevirtual 314, 3) := by decide +kernel
theorem d_X_mind_90 : decode Y_X_mind.2.1 90 = .ok (.lstore 9, 2) := by decide +kernel
theorem d_X_mind_92 : decode Y_X_mind.2.1 92 = .ok (.lload 9, 2) := by decide +kernel
theorem d_X_mind_94 : decode Y_X_mind.2.1 94 = .ok (.lload 5, 2) := by decide +kernel
theorem d_X_mind_96 : decode Y_X_mind.2.1 96 = .ok (.lcmp, 1) := by decide +kernel
theorem d_X_mind_97 : decode Y_X_mind.2.1 97 = .ok (.ifCond .ge 11, 3) := by decide +kernel
theorem d_X_mind_100 : decode Y_X_mind.2.1 100 = .ok (.lload 9, 2) := by decide +kernel
theorem d_X_mind_102 : decode Y_X_mind.2.1 102 = .ok (.lstore 5, 2) := by decide +kernel
theorem d_X_mind_104 : decode Y_X_mind.2.1 104 = .ok (.iload 8, 2) := by decide +kernel
theorem d_X_mind_106 : decode Y_X_mind.2.1 106 = .ok (.istore 7, 2) := by decide +kernel
theorem d_X_mind_108 : decode Y_X_mind.2.1 108 = .ok (.iinc 8 1, 3) := by decide +kernel
theorem d_X_mind_111 : decode Y_X_mind.2.1 111 = .ok (.goto (-40), 3) := by decide +kernel
theorem d_X_mind_114 : decode Y_X_mind.2.1 114 = .ok (.iload_n 3, 1) := by decide +kernel
theorem d_X_mind_115 : decode Y_X_mind.2.1 115 = .ok (.iconst 2, 1) := by decide +kernel
theorem d_X_mind_116 : decode Y_X_mind.2.1 116 = .ok (.if_icmp .ne 9, 3) := by decide +kernel
theorem d_X_mind_119 : decode Y_X_mind.2.1 119 = .ok (.iload 7, 2) := by decide +kernel
theorem d_X_mind_121 : decode Y_X_mind.2.1 121 = .ok (.i2l, 1) := by decide +kernel
theorem d_X_mind_122 : decode Y_X_mind.2.1 122 = .ok (.goto 5, 3) := by decide +kernel
theorem d_X_mind_125 : decode Y_X_mind.2.1 125 = .ok (.lload 5, 2) := by decide +kernel
theorem d_X_mind_127 : decode Y_X_mind.2.1 127 = .ok (.lreturn, 1) := by decide +kernel
theorem d_M_minds_0 : decode Y_M_minds.2.1 0 = .ok (.iload_n 1, 1) := by decide +kernel
theorem d_M_minds_1 : decode Y_M_minds.2.1 1 = .ok (.i2l, 1) := by decide +kernel
theorem d_M_minds_2 : decode Y_M_minds.2.1 2 = .ok (.aload_n 0, 1) := by decide +kernel
theorem d_M_minds_3 : decode Y_M_minds.2.1 3 = .ok (.invokevirtual 537, 3) := by decide +kernel
theorem d_M_minds_6 : decode Y_M_minds.2.1 6 = .ok (.invokestatic 225, 3) := by decide +kernel
theorem d_M_minds_9 : decode Y_M_minds.2.1 9 = .ok (.ldc2_w 444, 3) := by decide +kernel
theorem d_M_minds_12 : decode Y_M_minds.2.1 12 = .ok (.ldiv, 1) := by decide +kernel
theorem d_M_minds_13 : decode Y_M_minds.2.1 13 = .ok (.lmul, 1) := by decide +kernel
theorem d_M_minds_14 : decode Y_M_minds.2.1 14 = .ok (.iload_n 2, 1) := by decide +kernel
theorem d_M_minds_15 : decode Y_M_minds.2.1 15 = .ok (.i2l, 1) := by decide +kernel
theorem d_M_minds_16 : decode Y_M_minds.2.1 16 = .ok (.aload_n 0, 1) := by decide +kernel
theorem d_M_minds_17 : decode Y_M_minds.2.1 17 = .ok (.invokevirtual 544, 3) := by decide +kernel
theorem d_M_minds_20 : decode Y_M_minds.2.1 20 = .ok (.ldc2_w 444, 3) := by decide +kernel
theorem d_M_minds_23 : decode Y_M_minds.2.1 23 = .ok (.ldiv, 1) := by decide +kernel
theorem d_M_minds_24 : decode Y_M_minds.2.1 24 = .ok (.lmul, 1) := by decide +kernel
theorem d_M_minds_25 : decode Y_M_minds.2.1 25 = .ok (.ladd, 1) := by decide +kernel
theorem d_M_minds_26 : decode Y_M_minds.2.1 26 = .ok (.lreturn, 1) := by decide +kernel
theorem d_M_mind_0 : decode Y_M_mind.2.1 0 = .ok (.iload_n 1, 1) := by decide +kernel
theorem d_M_mind_1 : decode Y_M_mind.2.1 1 = .ok (.i2l, 1) := by decide +kernel
theorem d_M_mind_2 : decode Y_M_mind.2.1 2 = .ok (.lconst 0, 1) := by decide +kernel
theorem d_M_mind_3 : decode Y_M_mind.2.1 3 = .ok (.ldc2_w 573, 3) := by decide +kernel
theorem d_M_mind_6 : decode Y_M_mind.2.1 6 = .ok (.invokestatic 145, 3) := by decide +kernel
theorem d_M_mind_9 : decode Y_M_mind.2.1 9 = .ok (.ifCond .eq 35, 3) := by decide +kernel
theorem d_M_mind_12 : decode Y_M_mind.2.1 12 = .ok (.iload_n 2, 1) := by decide +kernel
theorem d_M_mind_13 : decode Y_M_mind.2.1 13 = .ok (.i2l, 1) := by decide +kernel
theorem d_M_mind_14 : decode Y_M_mind.2.1 14 = .ok (.lconst 0, 1) := by decide +kernel
theorem d_M_mind_15 : decode Y_M_mind.2.1 15 = .ok (.ldc2_w 573, 3) := by decide +kernel
theorem d_M_mind_18 : decode Y_M_mind.2.1 18 = .ok (.invokestatic 145, 3) := by decide +kernel
theorem d_M_mind_21 : decode Y_M_mind.2.1 21 = .ok (.ifCond .eq 23, 3) := by decide +kernel
theorem d_M_mind_24 : decode Y_M_mind.2.1 24 = .ok (.iload_n 3, 1) := by decide +kernel
theorem d_M_mind_25 : decode Y_M_mind.2.1 25 = .ok (.i2l, 1) := by decide +kernel
theorem d_M_mind_26 : decode Y_M_mind.2.1 26 = .ok (.lconst 0, 1) := by decide +kernel
theorem d_M_mind_27 : decode Y_M_mind.2.1 27 = .ok (.ldc2_w 575, 3) := by decide +kernel
theorem d_M_mind_30 : decode Y_M_mind.2.1 30 = .ok (.invokestatic 145, 3) := by decide +kernel
theorem d_M_mind_33 : decode Y_M_mind.2.1 33 = .ok (.ifCond .eq 11, 3) := by decide +kernel
theorem d_M_mind_36 : decode Y_M_mind.2.1 36 = .ok (.aload_n 0, 1) := by decide +kernel
theorem d_M_mind_37 : decode Y_M_mind.2.1 37 = .ok (.invokevirtual 522, 3) := by decide +kernel
theorem d_M_mind_40 : decode Y_M_mind.2.1 40 = .ok (.iconst (-1), 1) := by decide +kernel
theorem d_M_mind_41 : decode Y_M_mind.2.1 41 = .ok (.if_icmp .ne 7, 3) := by decide +kernel
theorem d_M_mind_44 : decode Y_M_mind.2.1 44 = .ok (.ldc2_w 555, 3) := by decide +kernel
theorem d_M_mind_47 : decode Y_M_mind.2.1 47 = .ok (.lreturn, 1) := by decide +kernel
theorem d_M_mind_48 : decode Y_M_mind.2.1 48 = .ok (.aload_n 0, 1) := by decide +kernel
theorem d_M_mind_49 : decode Y_M_mind.2.1 49 = .ok (.invokevirtual 525, 3) := by decide +kernel
theorem d_M_mind_52 : decode Y_M_mind.2.1 52 = .ok (.aload_n 0, 1) := by decide +kernel
theorem d_M_mind_53 : decode Y_M_mind.2.1 53 = .ok (.iload_n 1, 1) := by decide +kernel
theorem d_M_mind_54 : decode Y_M_mind.2.1 54 = .ok (.iload_n 2, 1) := by decide +kernel
theorem d_M_mind_55 : decode Y_M_mind.2.1 55 = .ok (.invokevirtual 577, 3) := by decide +kernel
theorem d_M_mind_58 : decode Y_M_mind.2.1 58 = .ok (.lstore 4, 2) := by decide +kernel
theorem d_M_mind_60 : decode Y_M_mind.2.1 60 = .ok (.iload_n 3, 1) := by decide +kernel
theorem d_M_mind_61 : decode Y_M_mind.2.1 61 = .ok (.ifCond .ne 6, 3) := by decide +kernel
theorem d_M_mind_64 : decode Y_M_mind.2.1 64 = .ok (.lload 4, 2) := by decide +kernel
theorem d_M_mind_66 : decode Y_M_mind.2.1 66 = .ok (.lreturn, 1) := by decide +kernel
theorem d_M_mind_67 : decode Y_M_mind.2.1 67 = .ok (.iconst 0, 1) := by decide +kernel
theorem d_M_mind_68 : decode Y_M_mind.2.1 68 = .ok (.istore 6, 2) := by decide +kernel
theorem d_M_mind_70 : decode Y_M_mind.2.1 70 = .ok (.lload 4, 2) := by decide +kernel
theorem d_M_mind_72 : decode Y_M_mind.2.1 72 = .ok (.lstore 7, 2) := by decide +kernel
theorem d_M_mind_74 : decode Y_M_mind.2.1 74 = .ok (.iconst 1, 1) := by decide +kernel
theorem d_M_mind_75 : decode Y_M_mind.2.1 75 = .ok (.istore 9, 2) := by decide +kernel
theorem d_M_mind_77 : decode Y_M_mind.2.1 77 = .ok (.iload 9, 2) := by decide +kernel
theorem d_M_mind_79 : decode Y_M_mind.2.1 79 = .ok (.bipush 12, 2) := by decide +kernel
theorem d_M_mind_81 : decode Y_M_mind.2.1 81 = .ok (.if_icmp .ge 46, 3) := by decide +kernel
theorem d_M_mind_84 : decode Y_M_mind.2.1 84 = .ok (.aload_n 0, 1) := by decide +kernel
theorem d_M_mind_85 : decode Y_M_mind.2.1 85 = .ok (.iload 9, 2) := by decide +kernel
theorem d_M_mind_87 : decode Y_M_mind.2.1 87 = .ok (.putfield 420, 3) := by decide +kernel
theorem d_M_mind_90 : decode Y_M_mind.2.1 90 = .ok (.aload_n 0, 1) := by decide +kernel
theorem d_M_mind_91 : decode Y_M_mind.2.1 91 = .ok (.invokevirtual 509, 3) := by decide +kernel
theorem d_M_mind_94 : decode Y_M_mind.2.1 94 = .ok (.aload_n 0, 1) := by decide +kernel
theorem d_M_mind_95 : decode Y_M_mind.2.1 95 = .ok (.iload_n 1, 1) := by decide +kernel
theorem d_M_mind_96 : decode Y_M_mind.2.1 96 = .ok (.iload_n 2, 1) := by decide +kernel
theorem d_M_mind_97 : decode Y_M_mind.2.1 97 = .ok (.invokevirtual 577, 3) := by decide +kernel
theorem d_M_mind_100 : decode Y_M_mind.2.1 100 = .ok (.lstore 10, 2) := by decide +kernel
theorem d_M_mind_102 : decode Y_M_mind.2.1 102 = .ok (.lload 10, 2) := by decide +kernel
theorem d_M_mind_104 : decode Y_M_mind.2.1 104 = .ok (.lload 7, 2) := by decide +kernel
theorem d_M_mind_106 : decode Y_M_mind.2.1 106 = .ok (.lcmp, 1) := by decide +kernel
theorem d_M_mind_107 : decode Y_M_mind.2.1 107 = .ok (.ifCond .lt 6, 3) := by decide +kernel
theorem d_M_mind_110 : decode Y_M_mind.2.1 110 = .ok (.goto 11, 3) := by decide +kernel
theorem d_M_mind_113 : decode Y_M_mind.2.1 113 = .ok (.iload 9, 2) := by decide +kernel
theorem d_M_mind_115 : decode Y_M_mind.2.1 115 = .ok (.istore 6, 2) := by decide +kernel
theorem d_M_mind_117 : decode Y_M_mind.2.1 117 = .ok (.lload 10, 2) := by decide +kernel
theorem d_M_mind_119 : decode Y_M_mind.2.1 119 = .ok (.lstore 7, 2) := by decide +kernel
theorem d_M_mind_121 : decode Y_M_mind.2.1 121 = .ok (.iinc 9 1, 3) := by decide +kernel
theorem d_M_mind_124 : decode Y_M_mind.2.1 124 = .ok (.goto (-47), 3) := by decide +kernel
theorem d_M_mind_127 : decode Y_M_mind.2.1 127 = .ok (.aload_n 0, 1) := by decide +kernel
theorem d_M_mind_128 : decode Y_M_mind.2.1 128 = .ok (.iconst 0, 1) := by decide +kernel
theorem d_M_mind_129 : decode Y_M_mind.2.1 129 = .ok (.putfield 420, 3) := by decide +kernel
theorem d_M_mind_132 : decode Y_M_mind.2.1 132 = .ok (.iload_n 3, 1) := by decide +kernel
theorem d_M_mind_133 : decode Y_M_mind.2.1 133 = .ok (.iconst 1, 1) := by decide +kernel
theorem d_M_mind_134 : decode Y_M_mind.2.1 134 = .ok (.if_icmp .ne 8, 3) := by decide +kernel
theorem d_M_mind_137 : decode Y_M_mind.2.1 137 = .ok (.lload 7, 2) := by decide +kernel
theorem d_M_mind_139 : decode Y_M_mind.2.1 139 = .ok (.goto 6, 3) := by decide +kernel
theorem d_M_mind_142 : decode Y_M_mind.2.1 142 = .ok (.iload 6, 2) := by decide +kernel
theorem d_M_mind_144 : decode Y_M_mind.2.1 144 = .ok (.i2l, 1) := by decide +kernel
theorem d_M_mind_145 : decode Y_M_mind.2.1 145 = .ok (.lreturn, 1) := by decide +kernel
theorem d_Rl_number_0 : decode Y_Rl_number.2.1 0 = .ok (.iload_n 1, 1) := by decide +kernel
theorem d_Rl_number_1 : decode Y_Rl_number.2.1 1 = .ok (.ifCond .lt 13, 3) := by decide +kernel
theorem d_Rl_number_4 : decode Y_Rl_number.2.1 4 = .ok (.iload_n 1, 1) := by decide +kernel
theorem d_Rl_number_5 : decode Y_Rl_number.2.1 5 = .ok (.aload_n 0, 1) := by decide +kernel
theorem d_Rl_number_6 : decode Y_Rl_number.2.1 6 = .ok (.getfield 13, 3) := by decide +kernel
theorem d_Rl_number_9 : decode Y_Rl_number.2.1 9 = .ok (.iconst 4, 1) := by decide +kernel
theorem d_Rl_number_10 : decode Y_Rl_number.2.1 10 = .ok (.idiv, 1) := by decide +kernel
theorem d_Rl_number_11 : decode Y_Rl_number.2.1 11 = .ok (.if_icmp .lt 5, 3) := by decide +kernel
theorem d_Rl_number_14 : decode Y_Rl_number.2.1 14 = .ok (.iconst 0, 1) := by decide +kernel
theorem d_Rl_number_15 : decode Y_Rl_number.2.1 15 = .ok (.ireturn, 1) := by decide +kernel
theorem d_Rl_number_16 : decode Y_Rl_number.2.1 16 = .ok (.aload_n 0, 1) := by decide +kernel
theorem d_Rl_number_17 : decode Y_Rl_number.2.1 17 = .ok (.getfield 9, 3) := by decide +kernel
theorem d_Rl_number_20 : decode Y_Rl_number.2.1 20 = .ok (.iconst 4, 1) := by decide +kernel
theorem d_Rl_number_21 : decode Y_Rl_number.2.1 21 = .ok (.iload_n 1, 1) := by decide +kernel
theorem d_Rl_number_22 : decode Y_Rl_number.2.1 22 = .ok (.imul, 1) := by decide +kernel
theorem d_Rl_number_23 : decode Y_Rl_number.2.1 23 = .ok (.iaload, 1) := by decide +kernel
theorem d_Rl_number_24 : decode Y_Rl_number.2.1 24 = .ok (.bipush 24, 2) := by decide +kernel
theorem d_Rl_number_26 : decode Y_Rl_number.2.1 26 = .ok (.ishl, 1) := by decide +kernel
theorem d_Rl_number_27 : decode Y_Rl_number.2.1 27 = .ok (.aload_n 0, 1) := by decide +kernel
theorem d_Rl_number_28 : decode Y_Rl_number.2.1 28 = .ok (.getfield 9, 3) := by decide +kernel
theorem d_Rl_number_31 : decode Y_Rl_number.2.1 31 = .ok (.iconst 4, 1) := by decide +kernel
theorem d_Rl_number_32 : decode Y_Rl_number.2.1 32 = .ok (.iload_n 1, 1) := by decide +kernel
theorem d_Rl_number_33 : decode Y_Rl_number.2.1 33 = .ok (.imul, 1) := by decide +kernel
theorem d_Rl_number_34 : decode Y_Rl_number.2.1 34 = .ok (.iconst 1, 1) := by decide +kernel
theorem d_Rl_number_35 : decode Y_Rl_number.2.1 35 = .ok (.iadd, 1) := by decide +kernel
theorem d_Rl_number_36 : decode Y_Rl_number.2.1 36 = .ok (.iaload, 1) := by decide +kernel
theorem d_Rl_number_37 : decode Y_Rl_number.2.1 37 = .ok (.bipush 16, 2) := by decide +kernel
theorem d_Rl_number_39 : decode Y_Rl_number.2.1 39 = .ok (.ishl, 1) := by decide +kernel
theorem d_Rl_number_40 : decode Y_Rl_number.2.1 40 = .ok (.ior, 1) := by decide +kernel
theorem d_Rl_number_41 : decode Y_Rl_number.2.1 41 = .ok (.aload_n 0, 1) := by decide +kernel
theorem d_Rl_number_42 : decode Y_Rl_number.2.1 42 = .ok (.getfield 9, 3) := by decide +kernel
theorem d_Rl_number_45 : decode Y_Rl_number.2.1 45 = .ok (.iconst 4, 1) := by decide +kernel
theorem d_Rl_number_46 : decode Y_Rl_number.2.1 46 = .ok (.iload_n 1, 1) := by decide +kernel
theorem d_Rl_number_47 : decode Y_Rl_number.2.1 47 = .ok (.imul, 1) := by decide +kernel
theorem d_Rl_number_48 : decode Y_Rl_number.2.1 48 = .ok (.iconst 2, 1) := by decide +kernel
theorem d_Rl_number_49 : decode Y_Rl_number.2.1 49 = .ok (.iadd, 1) := by decide +kernel
theorem d_Rl_number_50 : decode Y_Rl_number.2.1 50 = .ok (.iaload, 1) := by decide +kernel
theorem d_Rl_number_51 : decode Y_Rl_number.2.1 51 = .ok (.bipush 8, 2) := by decide +kernel
theorem d_Rl_number_53 : decode Y_Rl_number.2.1 53 = .ok (.ishl, 1) := by decide +kernel
theorem d_Rl_number_54 : decode Y_Rl_number.2.1 54 = .ok (.ior, 1) := by decide +kernel
theorem d_Rl_number_55 : decode Y_Rl_number.2.1 55 = .ok (.aload_n 0, 1) := by decide +kernel
theorem d_Rl_number_56 : decode Y_Rl_number.2.1 56 = .ok (.getfield 9, 3) := by decide +kernel
theorem d_Rl_number_59 : decode Y_Rl_number.2.1 59 = .ok (.iconst 4, 1) := by decide +kernel
theorem d_Rl_number_60 : decode Y_Rl_number.2.1 60 = .ok (.iload_n 1, 1) := by decide +kernel
theorem d_Rl_number_61 : decode Y_Rl_number.2.1 61 = .ok (.imul, 1) := by decide +kernel
theorem d_Rl_number_62 : decode Y_Rl_number.2.1 62 = .ok (.iconst 3, 1) := by decide +kernel
theorem d_Rl_number_63 : decode Y_Rl_number.2.1 63 = .ok (.iadd, 1) := by decide +kernel
theorem d_Rl_number_64 : decode Y_Rl_number.2.1 64 = .ok (.iaload, 1) := by decide +kernel
theorem d_Rl_number_65 : decode Y_Rl_number.2.1 65 = .ok (.ior, 1) := by decide +kernel
theorem d_Rl_number_66 : decode Y_Rl_number.2.1 66 = .ok (.ireturn, 1) := by decide +kernel
theorem d_X_firstWrong_0 : decode Y_X_firstWrong.2.1 0 = .ok (.iconst 0, 1) := by decide +kernel
theorem d_X_firstWrong_1 : decode Y_X_firstWrong.2.1 1 = .ok (.istore_n 2, 1) := by decide +kernel
theorem d_X_firstWrong_2 : decode Y_X_firstWrong.2.1 2 = .ok (.iconst 0, 1) := by decide +kernel
theorem d_X_firstWrong_3 : decode Y_X_firstWrong.2.1 3 = .ok (.istore_n 3, 1) := by decide +kernel
theorem d_X_firstWrong_4 : decode Y_X_firstWrong.2.1 4 = .ok (.iload_n 3, 1) := by decide +kernel
theorem d_X_firstWrong_5 : decode Y_X_firstWrong.2.1 5 = .ok (.aload_n 0, 1) := by decide +kernel
theorem d_X_firstWrong_6 : decode Y_X_firstWrong.2.1 6 = .ok (.getfield 21, 3) := by decide +kernel
theorem d_X_firstWrong_9 : decode Y_X_firstWrong.2.1 9 = .ok (.getfield 163, 3) := by decide +kernel
theorem d_X_firstWrong_12 : decode Y_X_firstWrong.2.1 12 = .ok (.if_icmp .ge 123, 3) := by decide +kernel
theorem d_X_firstWrong_15 : decode Y_X_firstWrong.2.1 15 = .ok (.iconst 0, 1) := by decide +kernel
theorem d_X_firstWrong_16 : decode Y_X_firstWrong.2.1 16 = .ok (.istore 4, 2) := by decide +kernel
theorem d_X_firstWrong_18 : decode Y_X_firstWrong.2.1 18 = .ok (.iload 4, 2) := by decide +kernel
theorem d_X_firstWrong_20 : decode Y_X_firstWrong.2.1 20 = .ok (.bipush 24, 2) := by decide +kernel
theorem d_X_firstWrong_22 : decode Y_X_firstWrong.2.1 22 = .ok (.if_icmp .ge 107, 3) := by decide +kernel
theorem d_X_firstWrong_25 : decode Y_X_firstWrong.2.1 25 = .ok (.aload_n 0, 1) := by decide +kernel
theorem d_X_firstWrong_26 : decode Y_X_firstWrong.2.1 26 = .ok (.getfield 21, 3) := by decide +kernel
theorem d_X_firstWrong_29 : decode Y_X_firstWrong.2.1 29 = .ok (.iload_n 3, 1) := by decide +kernel
theorem d_X_firstWrong_30 : decode Y_X_firstWrong.2.1 30 = .ok (.iload 4, 2) := by decide +kernel
theorem d_X_firstWrong_32 : decode Y_X_firstWrong.2.1 32 = .ok (.invokevirtual 229, 3) := by decide +kernel
theorem d_X_firstWrong_35 : decode Y_X_firstWrong.2.1 35 = .ok (.ifCond .ne 6, 3) := by decide +kernel
theorem d_X_firstWrong_38 : decode Y_X_firstWrong.2.1 38 = .ok (.goto 85, 3) := by decide +kernel
theorem d_X_firstWrong_41 : decode Y_X_firstWrong.2.1 41 = .ok (.iload_n 2, 1) := by decide +kernel
theorem d_X_firstWrong_42 : decode Y_X_firstWrong.2.1 42 = .ok (.iload_n 1, 1) := by decide +kernel
theorem d_X_firstWrong_43 : decode Y_X_firstWrong.2.1 43 = .ok (.if_icmp .eq 17, 3) := by decide +kernel
theorem d_X_firstWrong_46 : decode Y_X_firstWrong.2.1 46 = .ok (.aload_n 0, 1) := by decide +kernel
theorem d_X_firstWrong_47 : decode Y_X_firstWrong.2.1 47 = .ok (.getfield 62, 3) := by decide +kernel
theorem d_X_firstWrong_50 : decode Y_X_firstWrong.2.1 50 = .ok (.iconst 3, 1) := by decide +kernel
theorem d_X_firstWrong_51 : decode Y_X_firstWrong.2.1 51 = .ok (.iload_n 2, 1) := by decide +kernel
theorem d_X_firstWrong_52 : decode Y_X_firstWrong.2.1 52 = .ok (.imul, 1) := by decide +kernel
theorem d_X_firstWrong_53 : decode Y_X_firstWrong.2.1 53 = .ok (.invokevirtual 348, 3) := by decide +kernel
theorem d_X_firstWrong_56 : decode Y_X_firstWrong.2.1 56 = .ok (.iload_n 3, 1) := by decide +kernel
theorem d_X_firstWrong_57 : decode Y_X_firstWrong.2.1 57 = .ok (.if_icmp .eq 7, 3) := by decide +kernel
theorem d_X_firstWrong_60 : decode Y_X_firstWrong.2.1 60 = .ok (.iconst 3, 1) := by decide +kernel
theorem d_X_firstWrong_61 : decode Y_X_firstWrong.2.1 61 = .ok (.iload_n 2, 1) := by decide +kernel
theorem d_X_firstWrong_62 : decode Y_X_firstWrong.2.1 62 = .ok (.imul, 1) := by decide +kernel
theorem d_X_firstWrong_63 : decode Y_X_firstWrong.2.1 63 = .ok (.ireturn, 1) := by decide +kernel
theorem d_X_firstWrong_64 : decode Y_X_firstWrong.2.1 64 = .ok (.aload_n 0, 1) := by decide +kernel
theorem d_X_firstWrong_65 : decode Y_X_firstWrong.2.1 65 = .ok (.getfield 62, 3) := by decide +kernel
theorem d_X_firstWrong_68 : decode Y_X_firstWrong.2.1 68 = .ok (.iconst 3, 1) := by decide +kernel
theorem d_X_firstWrong_69 : decode Y_X_firstWrong.2.1 69 = .ok (.iload_n 2, 1) := by decide +kernel
theorem d_X_firstWrong_70 : decode Y_X_firstWrong.2.1 70 = .ok (.imul, 1) := by decide +kernel
theorem d_X_firstWrong_71 : decode Y_X_firstWrong.2.1 71 = .ok (.iconst 1, 1) := by decide +kernel
theorem d_X_firstWrong_72 : decode Y_X_firstWrong.2.1 72 = .ok (.iadd, 1) := by decide +kernel
theorem d_X_firstWrong_73 : decode Y_X_firstWrong.2.1 73 = .ok (.invokevirtual 348, 3) := by decide +kernel
theorem d_X_firstWrong_76 : decode Y_X_firstWrong.2.1 76 = .ok (.iload 4, 2) := by decide +kernel
theorem d_X_firstWrong_78 : decode Y_X_firstWrong.2.1 78 = .ok (.if_icmp .eq 9, 3) := by decide +kernel
theorem d_X_firstWrong_81 : decode Y_X_firstWrong.2.1 81 = .ok (.iconst 3, 1) := by decide +kernel
theorem d_X_firstWrong_82 : decode Y_X_firstWrong.2.1 82 = .ok (.iload_n 2, 1) := by decide +kernel
theorem d_X_firstWrong_83 : decode Y_X_firstWrong.2.1 83 = .ok (.imul, 1) := by decide +kernel
theorem d_X_firstWrong_84 : decode Y_X_firstWrong.2.1 84 = .ok (.iconst 1, 1) := by decide +kernel
theorem d_X_firstWrong_85 : decode Y_X_firstWrong.2.1 85 = .ok (.iadd, 1) := by decide +kernel
theorem d_X_firstWrong_86 : decode Y_X_firstWrong.2.1 86 = .ok (.ireturn, 1) := by decide +kernel
theorem d_X_firstWrong_87 : decode Y_X_firstWrong.2.1 87 = .ok (.aload_n 0, 1) := by decide +kernel
theorem d_X_firstWrong_88 : decode Y_X_firstWrong.2.1 88 = .ok (.getfield 62, 3) := by decide +kernel
theorem d_X_firstWrong_91 : decode Y_X_firstWrong.2.1 91 = .ok (.iconst 3, 1) := by decide +kernel
theorem d_X_firstWrong_92 : decode Y_X_firstWrong.2.1 92 = .ok (.iload_n 2, 1) := by decide +kernel
theorem d_X_firstWrong_93 : decode Y_X_firstWrong.2.1 93 = .ok (.imul, 1) := by decide +kernel
theorem d_X_firstWrong_94 : decode Y_X_firstWrong.2.1 94 = .ok (.iconst 2, 1) := by decide +kernel
theorem d_X_firstWrong_95 : decode Y_X_firstWrong.2.1 95 = .ok (.iadd, 1) := by decide +kernel
theorem d_X_firstWrong_96 : decode Y_X_firstWrong.2.1 96 = .ok (.invokevirtual 348, 3) := by decide +kernel
theorem d_X_firstWrong_99 : decode Y_X_firstWrong.2.1 99 = .ok (.i2l, 1) := by decide +kernel
theorem d_X_firstWrong_100 : decode Y_X_firstWrong.2.1 100 = .ok (.aload_n 0, 1) := by decide +kernel
theorem d_X_firstWrong_101 : decode Y_X_firstWrong.2.1 101 = .ok (.getfield 30, 3) := by decide +kernel
theorem d_X_firstWrong_104 : decode Y_X_firstWrong.2.1 104 = .ok (.iload_n 3, 1) := by decide +kernel
theorem d_X_firstWrong_105 : decode Y_X_firstWrong.2.1 105 = .ok (.iload 4, 2) := by decide +kernel
theorem d_X_firstWrong_107 : decode Y_X_firstWrong.2.1 107 = .ok (.invokevirtual 235, 3) := by decide +kernel
theorem d_X_firstWrong_110 : decode Y_X_firstWrong.2.1 110 = .ok (.lcmp, 1) := by decide +kernel
theorem d_X_firstWrong_111 : decode Y_X_firstWrong.2.1 111 = .ok (.ifCond .eq 9, 3) := by decide +kernel
theorem d_X_firstWrong_114 : decode Y_X_firstWrong.2.1 114 = .ok (.iconst 3, 1) := by decide +kernel
theorem d_X_firstWrong_115 : decode Y_X_firstWrong.2.1 115 = .ok (.iload_n 2, 1) := by decide +kernel
theorem d_X_firstWrong_116 : decode Y_X_firstWrong.2.1 116 = .ok (.imul, 1) := by decide +kernel
theorem d_X_firstWrong_117 : decode Y_X_firstWrong.2.1 117 = .ok (.iconst 2, 1) := by decide +kernel
theorem d_X_firstWrong_118 : decode Y_X_firstWrong.2.1 118 = .ok (.iadd, 1) := by decide +kernel
theorem d_X_firstWrong_119 : decode Y_X_firstWrong.2.1 119 = .ok (.ireturn, 1) := by decide +kernel
theorem d_X_firstWrong_120 : decode Y_X_firstWrong.2.1 120 = .ok (.iinc 2 1, 3) := by decide +kernel
theorem d_X_firstWrong_123 : decode Y_X_firstWrong.2.1 123 = .ok (.iinc 4 1, 3) := by decide +kernel
theorem d_X_firstWrong_126 : decode Y_X_firstWrong.2.1 126 = .ok (.goto (-108), 3) := by decide +kernel
theorem d_X_firstWrong_129 : decode Y_X_firstWrong.2.1 129 = .ok (.iinc 3 1, 3) := by decide +kernel
theorem d_X_firstWrong_132 : decode Y_X_firstWrong.2.1 132 = .ok (.goto (-128), 3) := by decide +kernel
theorem d_X_firstWrong_135 : decode Y_X_firstWrong.2.1 135 = .ok (.iload_n 2, 1) := by decide +kernel
theorem d_X_firstWrong_136 : decode Y_X_firstWrong.2.1 136 = .ok (.iload_n 1, 1) := by decide +kernel
theorem d_X_firstWrong_137 : decode Y_X_firstWrong.2.1 137 = .ok (.if_icmp .ne 7, 3) := by decide +kernel
theorem d_X_firstWrong_140 : decode Y_X_firstWrong.2.1 140 = .ok (.iconst (-1), 1) := by decide +kernel
theorem d_X_firstWrong_141 : decode Y_X_firstWrong.2.1 141 = .ok (.goto 6, 3) := by decide +kernel
theorem d_X_firstWrong_144 : decode Y_X_firstWrong.2.1 144 = .ok (.iconst 3, 1) := by decide +kernel
theorem d_X_firstWrong_145 : decode Y_X_firstWrong.2.1 145 = .ok (.iload_n 2, 1) := by decide +kernel
theorem d_X_firstWrong_146 : decode Y_X_firstWrong.2.1 146 = .ok (.imul, 1) := by decide +kernel
theorem d_X_firstWrong_147 : decode Y_X_firstWrong.2.1 147 = .ok (.ireturn, 1) := by decide +kernel
theorem d_X_check_0 : decode Y_X_check.2.1 0 = .ok (.iload_n 1, 1) := by decide +kernel
theorem d_X_check_1 : decode Y_X_check.2.1 1 = .ok (.ifCond .lt 17, 3) := by decide +kernel
theorem d_X_check_4 : decode Y_X_check.2.1 4 = .ok (.iload_n 1, 1) := by decide +kernel
theorem d_X_check_5 : decode Y_X_check.2.1 5 = .ok (.aload_n 0, 1) := by decide +kernel
theorem d_X_check_6 : decode Y_X_check.2.1 6 = .ok (.getfield 62, 3) := by decide +kernel
theorem d_X_check_9 : decode Y_X_check.2.1 9 = .ok (.getfield 206, 3) := by decide +kernel
theorem d_X_check_12 : decode Y_X_check.2.1 12 = .ok (.bipush 12, 2) := by decide +kernel
theorem d_X_check_14 : decode Y_X_check.2.1 14 = .ok (.idiv, 1) := by decide +kernel
theorem d_X_check_15 : decode Y_X_check.2.1 15 = .ok (.if_icmp .le 6, 3) := by decide +kernel
theorem d_X_check_18 : decode Y_X_check.2.1 18 = .ok (.bipush (-2), 2) := by decide +kernel
theorem d_X_check_20 : decode Y_X_check.2.1 20 = .ok (.ireturn, 1) := by decide +kernel
theorem d_X_check_21 : decode Y_X_check.2.1 21 = .ok (.aload_n 0, 1) := by decide +kernel
theorem d_X_check_22 : decode Y_X_check.2.1 22 = .ok (.getfield 30, 3) := by decide +kernel
theorem d_X_check_25 : decode Y_X_check.2.1 25 = .ok (.invokevirtual 232, 3) := by decide +kernel
theorem d_X_check_28 : decode Y_X_check.2.1 28 = .ok (.aload_n 0, 1) := by decide +kernel
theorem d_X_check_29 : decode Y_X_check.2.1 29 = .ok (.iload_n 1, 1) := by decide +kernel
theorem d_X_check_30 : decode Y_X_check.2.1 30 = .ok (.invokevirtual 318, 3) := by decide +kernel
theorem d_X_check_33 : decode Y_X_check.2.1 33 = .ok (.istore_n 2, 1) := by decide +kernel
theorem d_X_check_34 : decode Y_X_check.2.1 34 = .ok (.aload_n 0, 1) := by decide +kernel
theorem d_X_check_35 : decode Y_X_check.2.1 35 = .ok (.getfield 62, 3) := by decide +kernel
theorem d_X_check_38 : decode Y_X_check.2.1 38 = .ok (.iconst 0, 1) := by decide +kernel
theorem d_X_check_39 : decode Y_X_check.2.1 39 = .ok (.putfield 206, 3) := by decide +kernel
theorem d_X_check_42 : decode Y_X_check.2.1 42 = .ok (.iload_n 2, 1) := by decide +kernel
theorem d_X_check_43 : decode Y_X_check.2.1 43 = .ok (.ireturn, 1) := by decide +kernel
theorem d_M_numberAt_0 : decode Y_M_numberAt.2.1 0 = .ok (.iconst 0, 1) := by decide +kernel
theorem d_M_numberAt_1 : decode Y_M_numberAt.2.1 1 = .ok (.istore_n 2, 1) := by decide +kernel
theorem d_M_numberAt_2 : decode Y_M_numberAt.2.1 2 = .ok (.iconst 0, 1) := by decide +kernel
theorem d_M_numberAt_3 : decode Y_M_numberAt.2.1 3 = .ok (.istore_n 3, 1) := by decide +kernel
theorem d_M_numberAt_4 : decode Y_M_numberAt.2.1 4 = .ok (.iload_n 3, 1) := by decide +kernel
theorem d_M_numberAt_5 : decode Y_M_numberAt.2.1 5 = .ok (.iconst 4, 1) := by decide +kernel
theorem d_M_numberAt_6 : decode Y_M_numberAt.2.1 6 = .ok (.if_icmp .ge 29, 3) := by decide +kernel
theorem d_M_numberAt_9 : decode Y_M_numberAt.2.1 9 = .ok (.iload_n 2, 1) := by decide +kernel
theorem d_M_numberAt_10 : decode Y_M_numberAt.2.1 10 = .ok (.bipush 8, 2) := by decide +kernel
theorem d_M_numberAt_12 : decode Y_M_numberAt.2.1 12 = .ok (.ishl, 1) := by decide +kernel
theorem d_M_numberAt_13 : decode Y_M_numberAt.2.1 13 = .ok (.aload_n 0, 1) := by decide +kernel
theorem d_M_numberAt_14 : decode Y_M_numberAt.2.1 14 = .ok (.getfield 7, 3) := by decide +kernel
theorem d_M_numberAt_17 : decode Y_M_numberAt.2.1 17 = .ok (.iconst 4, 1) := by decide +kernel
theorem d_M_numberAt_18 : decode Y_M_numberAt.2.1 18 = .ok (.iload_n 1, 1) := by decide +kernel
theorem d_M_numberAt_19 : decode Y_M_numberAt.2.1 19 = .ok (.imul, 1) := by decide +kernel
theorem d_M_numberAt_20 : decode Y_M_numberAt.2.1 20 = .ok (.iload_n 3, 1) := by decide +kernel
theorem d_M_numberAt_21 : decode Y_M_numberAt.2.1 21 = .ok (.iadd, 1) := by decide +kernel
theorem d_M_numberAt_22 : decode Y_M_numberAt.2.1 22 = .ok (.baload, 1) := by decide +kernel
theorem d_M_numberAt_23 : decode Y_M_numberAt.2.1 23 = .ok (.sipush 255, 3) := by decide +kernel
theorem d_M_numberAt_26 : decode Y_M_numberAt.2.1 26 = .ok (.iand, 1) := by decide +kernel
theorem d_M_numberAt_27 : decode Y_M_numberAt.2.1 27 = .ok (.ior, 1) := by decide +kernel
theorem d_M_numberAt_28 : decode Y_M_numberAt.2.1 28 = .ok (.istore_n 2, 1) := by decide +kernel
theorem d_M_numberAt_29 : decode Y_M_numberAt.2.1 29 = .ok (.iinc 3 1, 3) := by decide +kernel
theorem d_M_numberAt_32 : decode Y_M_numberAt.2.1 32 = .ok (.goto (-28), 3) := by decide +kernel
theorem d_M_numberAt_35 : decode Y_M_numberAt.2.1 35 = .ok (.iload_n 2, 1) := by decide +kernel
theorem d_M_numberAt_36 : decode Y_M_numberAt.2.1 36 = .ok (.ireturn, 1) := by decide +kernel
