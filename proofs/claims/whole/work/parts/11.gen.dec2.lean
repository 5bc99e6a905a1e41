/-! PRINTED: what each place of the code decodes to -/
theorem d_M_joins_0 : decode Y_M_joins.2.1 0 = .ok (.aload_n 0, 1) := by decide +kernel
theorem d_M_joins_1 : decode Y_M_joins.2.1 1 = .ok (.invokevirtual 349, 3) := by decide +kernel
theorem d_M_joins_4 : decode Y_M_joins.2.1 4 = .ok (.bipush 38, 2) := by decide +kernel
theorem d_M_joins_6 : decode Y_M_joins.2.1 6 = .ok (.if_icmp .eq 16, 3) := by decide +kernel
theorem d_M_joins_9 : decode Y_M_joins.2.1 9 = .ok (.iload_n 1, 1) := by decide +kernel
theorem d_M_joins_10 : decode Y_M_joins.2.1 10 = .ok (.ifCond .eq 34, 3) := by decide +kernel
theorem d_M_joins_13 : decode Y_M_joins.2.1 13 = .ok (.aload_n 0, 1) := by decide +kernel
theorem d_M_joins_14 : decode Y_M_joins.2.1 14 = .ok (.invokevirtual 349, 3) := by decide +kernel
theorem d_M_joins_17 : decode Y_M_joins.2.1 17 = .ok (.bipush 124, 2) := by decide +kernel
theorem d_M_joins_19 : decode Y_M_joins.2.1 19 = .ok (.if_icmp .ne 25, 3) := by decide +kernel
theorem d_M_joins_22 : decode Y_M_joins.2.1 22 = .ok (.aload_n 0, 1) := by decide +kernel
theorem d_M_joins_23 : decode Y_M_joins.2.1 23 = .ok (.aload_n 0, 1) := by decide +kernel
theorem d_M_joins_24 : decode Y_M_joins.2.1 24 = .ok (.invokevirtual 349, 3) := by decide +kernel
theorem d_M_joins_27 : decode Y_M_joins.2.1 27 = .ok (.iconst 0, 1) := by decide +kernel
theorem d_M_joins_28 : decode Y_M_joins.2.1 28 = .ok (.invokevirtual 358, 3) := by decide +kernel
theorem d_M_joins_31 : decode Y_M_joins.2.1 31 = .ok (.aload_n 0, 1) := by decide +kernel
theorem d_M_joins_32 : decode Y_M_joins.2.1 32 = .ok (.dup, 1) := by decide +kernel
theorem d_M_joins_33 : decode Y_M_joins.2.1 33 = .ok (.getfield 327, 3) := by decide +kernel
theorem d_M_joins_36 : decode Y_M_joins.2.1 36 = .ok (.iconst 1, 1) := by decide +kernel
theorem d_M_joins_37 : decode Y_M_joins.2.1 37 = .ok (.isub, 1) := by decide +kernel
theorem d_M_joins_38 : decode Y_M_joins.2.1 38 = .ok (.putfield 327, 3) := by decide +kernel
theorem d_M_joins_41 : decode Y_M_joins.2.1 41 = .ok (.goto (-41), 3) := by decide +kernel
theorem d_M_joins_44 : decode Y_M_joins.2.1 44 = .ok (.return_, 1) := by decide +kernel
theorem d_M_goesBehind_0 : decode Y_M_goesBehind.2.1 0 = .ok (.aload_n 0, 1) := by decide +kernel
theorem d_M_goesBehind_1 : decode Y_M_goesBehind.2.1 1 = .ok (.invokevirtual 336, 3) := by decide +kernel
theorem d_M_goesBehind_4 : decode Y_M_goesBehind.2.1 4 = .ok (.istore_n 1, 1) := by decide +kernel
theorem d_M_goesBehind_5 : decode Y_M_goesBehind.2.1 5 = .ok (.iload_n 1, 1) := by decide +kernel
theorem d_M_goesBehind_6 : decode Y_M_goesBehind.2.1 6 = .ok (.bipush 38, 2) := by decide +kernel
theorem d_M_goesBehind_8 : decode Y_M_goesBehind.2.1 8 = .ok (.if_icmp .eq 9, 3) := by decide +kernel
theorem d_M_goesBehind_11 : decode Y_M_goesBehind.2.1 11 = .ok (.iload_n 1, 1) := by decide +kernel
theorem d_M_goesBehind_12 : decode Y_M_goesBehind.2.1 12 = .ok (.bipush 124, 2) := by decide +kernel
theorem d_M_goesBehind_14 : decode Y_M_goesBehind.2.1 14 = .ok (.if_icmp .ne 25, 3) := by decide +kernel
theorem d_M_goesBehind_17 : decode Y_M_goesBehind.2.1 17 = .ok (.aload_n 0, 1) := by decide +kernel
theorem d_M_goesBehind_18 : decode Y_M_goesBehind.2.1 18 = .ok (.iload_n 1, 1) := by decide +kernel
theorem d_M_goesBehind_19 : decode Y_M_goesBehind.2.1 19 = .ok (.bipush 124, 2) := by decide +kernel
theorem d_M_goesBehind_21 : decode Y_M_goesBehind.2.1 21 = .ok (.if_icmp .ne 7, 3) := by decide +kernel
theorem d_M_goesBehind_24 : decode Y_M_goesBehind.2.1 24 = .ok (.iconst 1, 1) := by decide +kernel
theorem d_M_goesBehind_25 : decode Y_M_goesBehind.2.1 25 = .ok (.goto 4, 3) := by decide +kernel
theorem d_M_goesBehind_28 : decode Y_M_goesBehind.2.1 28 = .ok (.iconst 0, 1) := by decide +kernel
theorem d_M_goesBehind_29 : decode Y_M_goesBehind.2.1 29 = .ok (.invokevirtual 393, 3) := by decide +kernel
theorem d_M_goesBehind_32 : decode Y_M_goesBehind.2.1 32 = .ok (.aload_n 0, 1) := by decide +kernel
theorem d_M_goesBehind_33 : decode Y_M_goesBehind.2.1 33 = .ok (.iload_n 1, 1) := by decide +kernel
theorem d_M_goesBehind_34 : decode Y_M_goesBehind.2.1 34 = .ok (.invokevirtual 339, 3) := by decide +kernel
theorem d_M_goesBehind_37 : decode Y_M_goesBehind.2.1 37 = .ok (.iconst 1, 1) := by decide +kernel
theorem d_M_goesBehind_38 : decode Y_M_goesBehind.2.1 38 = .ok (.ireturn, 1) := by decide +kernel
theorem d_M_goesBehind_39 : decode Y_M_goesBehind.2.1 39 = .ok (.iload_n 1, 1) := by decide +kernel
theorem d_M_goesBehind_40 : decode Y_M_goesBehind.2.1 40 = .ok (.bipush 41, 2) := by decide +kernel
theorem d_M_goesBehind_42 : decode Y_M_goesBehind.2.1 42 = .ok (.if_icmp .eq 14, 3) := by decide +kernel
theorem d_M_goesBehind_45 : decode Y_M_goesBehind.2.1 45 = .ok (.aload_n 0, 1) := by decide +kernel
theorem d_M_goesBehind_46 : decode Y_M_goesBehind.2.1 46 = .ok (.iconst 1, 1) := by decide +kernel
theorem d_M_goesBehind_47 : decode Y_M_goesBehind.2.1 47 = .ok (.aload_n 0, 1) := by decide +kernel
theorem d_M_goesBehind_48 : decode Y_M_goesBehind.2.1 48 = .ok (.getfield 311, 3) := by decide +kernel
theorem d_M_goesBehind_51 : decode Y_M_goesBehind.2.1 51 = .ok (.invokevirtual 333, 3) := by decide +kernel
theorem d_M_goesBehind_54 : decode Y_M_goesBehind.2.1 54 = .ok (.iconst 0, 1) := by decide +kernel
theorem d_M_goesBehind_55 : decode Y_M_goesBehind.2.1 55 = .ok (.ireturn, 1) := by decide +kernel
theorem d_M_goesBehind_56 : decode Y_M_goesBehind.2.1 56 = .ok (.aload_n 0, 1) := by decide +kernel
theorem d_M_goesBehind_57 : decode Y_M_goesBehind.2.1 57 = .ok (.iconst 1, 1) := by decide +kernel
theorem d_M_goesBehind_58 : decode Y_M_goesBehind.2.1 58 = .ok (.invokevirtual 393, 3) := by decide +kernel
theorem d_M_goesBehind_61 : decode Y_M_goesBehind.2.1 61 = .ok (.aload_n 0, 1) := by decide +kernel
theorem d_M_goesBehind_62 : decode Y_M_goesBehind.2.1 62 = .ok (.dup, 1) := by decide +kernel
theorem d_M_goesBehind_63 : decode Y_M_goesBehind.2.1 63 = .ok (.getfield 327, 3) := by decide +kernel
theorem d_M_goesBehind_66 : decode Y_M_goesBehind.2.1 66 = .ok (.iconst 1, 1) := by decide +kernel
theorem d_M_goesBehind_67 : decode Y_M_goesBehind.2.1 67 = .ok (.isub, 1) := by decide +kernel
theorem d_M_goesBehind_68 : decode Y_M_goesBehind.2.1 68 = .ok (.putfield 327, 3) := by decide +kernel
theorem d_M_goesBehind_71 : decode Y_M_goesBehind.2.1 71 = .ok (.aload_n 0, 1) := by decide +kernel
theorem d_M_goesBehind_72 : decode Y_M_goesBehind.2.1 72 = .ok (.dup, 1) := by decide +kernel
theorem d_M_goesBehind_73 : decode Y_M_goesBehind.2.1 73 = .ok (.getfield 330, 3) := by decide +kernel
theorem d_M_goesBehind_76 : decode Y_M_goesBehind.2.1 76 = .ok (.iconst 1, 1) := by decide +kernel
theorem d_M_goesBehind_77 : decode Y_M_goesBehind.2.1 77 = .ok (.isub, 1) := by decide +kernel
theorem d_M_goesBehind_78 : decode Y_M_goesBehind.2.1 78 = .ok (.putfield 330, 3) := by decide +kernel
theorem d_M_goesBehind_81 : decode Y_M_goesBehind.2.1 81 = .ok (.aload_n 0, 1) := by decide +kernel
theorem d_M_goesBehind_82 : decode Y_M_goesBehind.2.1 82 = .ok (.dup, 1) := by decide +kernel
theorem d_M_goesBehind_83 : decode Y_M_goesBehind.2.1 83 = .ok (.getfield 311, 3) := by decide +kernel
theorem d_M_goesBehind_86 : decode Y_M_goesBehind.2.1 86 = .ok (.iconst 1, 1) := by decide +kernel
theorem d_M_goesBehind_87 : decode Y_M_goesBehind.2.1 87 = .ok (.iadd, 1) := by decide +kernel
theorem d_M_goesBehind_88 : decode Y_M_goesBehind.2.1 88 = .ok (.putfield 311, 3) := by decide +kernel
theorem d_M_goesBehind_91 : decode Y_M_goesBehind.2.1 91 = .ok (.aload_n 0, 1) := by decide +kernel
theorem d_M_goesBehind_92 : decode Y_M_goesBehind.2.1 92 = .ok (.aload_n 0, 1) := by decide +kernel
theorem d_M_goesBehind_93 : decode Y_M_goesBehind.2.1 93 = .ok (.getfield 327, 3) := by decide +kernel
theorem d_M_goesBehind_96 : decode Y_M_goesBehind.2.1 96 = .ok (.ifCond .ne 7, 3) := by decide +kernel
theorem d_M_goesBehind_99 : decode Y_M_goesBehind.2.1 99 = .ok (.iconst 1, 1) := by decide +kernel
theorem d_M_goesBehind_100 : decode Y_M_goesBehind.2.1 100 = .ok (.goto 4, 3) := by decide +kernel
theorem d_M_goesBehind_103 : decode Y_M_goesBehind.2.1 103 = .ok (.iconst 0, 1) := by decide +kernel
theorem d_M_goesBehind_104 : decode Y_M_goesBehind.2.1 104 = .ok (.putfield 396, 3) := by decide +kernel
theorem d_M_goesBehind_107 : decode Y_M_goesBehind.2.1 107 = .ok (.aload_n 0, 1) := by decide +kernel
theorem d_M_goesBehind_108 : decode Y_M_goesBehind.2.1 108 = .ok (.getfield 396, 3) := by decide +kernel
theorem d_M_goesBehind_111 : decode Y_M_goesBehind.2.1 111 = .ok (.ifCond .ne 7, 3) := by decide +kernel
theorem d_M_goesBehind_114 : decode Y_M_goesBehind.2.1 114 = .ok (.aload_n 0, 1) := by decide +kernel
theorem d_M_goesBehind_115 : decode Y_M_goesBehind.2.1 115 = .ok (.invokevirtual 390, 3) := by decide +kernel
theorem d_M_goesBehind_118 : decode Y_M_goesBehind.2.1 118 = .ok (.iconst 0, 1) := by decide +kernel
theorem d_M_goesBehind_119 : decode Y_M_goesBehind.2.1 119 = .ok (.ireturn, 1) := by decide +kernel
theorem d_M_condition_0 : decode Y_M_condition.2.1 0 = .ok (.aload_n 0, 1) := by decide +kernel
theorem d_M_condition_1 : decode Y_M_condition.2.1 1 = .ok (.iconst 0, 1) := by decide +kernel
theorem d_M_condition_2 : decode Y_M_condition.2.1 2 = .ok (.putfield 396, 3) := by decide +kernel
theorem d_M_condition_5 : decode Y_M_condition.2.1 5 = .ok (.aload_n 0, 1) := by decide +kernel
theorem d_M_condition_6 : decode Y_M_condition.2.1 6 = .ok (.invokevirtual 336, 3) := by decide +kernel
theorem d_M_condition_9 : decode Y_M_condition.2.1 9 = .ok (.bipush 40, 2) := by decide +kernel
theorem d_M_condition_11 : decode Y_M_condition.2.1 11 = .ok (.if_icmp .eq 12, 3) := by decide +kernel
theorem d_M_condition_14 : decode Y_M_condition.2.1 14 = .ok (.aload_n 0, 1) := by decide +kernel
theorem d_M_condition_15 : decode Y_M_condition.2.1 15 = .ok (.iconst 1, 1) := by decide +kernel
theorem d_M_condition_16 : decode Y_M_condition.2.1 16 = .ok (.aload_n 0, 1) := by decide +kernel
theorem d_M_condition_17 : decode Y_M_condition.2.1 17 = .ok (.getfield 311, 3) := by decide +kernel
theorem d_M_condition_20 : decode Y_M_condition.2.1 20 = .ok (.invokevirtual 333, 3) := by decide +kernel
theorem d_M_condition_23 : decode Y_M_condition.2.1 23 = .ok (.aload_n 0, 1) := by decide +kernel
theorem d_M_condition_24 : decode Y_M_condition.2.1 24 = .ok (.invokevirtual 320, 3) := by decide +kernel
theorem d_M_condition_27 : decode Y_M_condition.2.1 27 = .ok (.ifCond .ne 4, 3) := by decide +kernel
theorem d_M_condition_30 : decode Y_M_condition.2.1 30 = .ok (.return_, 1) := by decide +kernel
theorem d_M_condition_31 : decode Y_M_condition.2.1 31 = .ok (.aload_n 0, 1) := by decide +kernel
theorem d_M_condition_32 : decode Y_M_condition.2.1 32 = .ok (.invokevirtual 361, 3) := by decide +kernel
theorem d_M_condition_35 : decode Y_M_condition.2.1 35 = .ok (.iconst 1, 1) := by decide +kernel
theorem d_M_condition_36 : decode Y_M_condition.2.1 36 = .ok (.istore_n 1, 1) := by decide +kernel
theorem d_M_condition_37 : decode Y_M_condition.2.1 37 = .ok (.aload_n 0, 1) := by decide +kernel
theorem d_M_condition_38 : decode Y_M_condition.2.1 38 = .ok (.invokevirtual 320, 3) := by decide +kernel
theorem d_M_condition_41 : decode Y_M_condition.2.1 41 = .ok (.ifCond .eq 33, 3) := by decide +kernel
theorem d_M_condition_44 : decode Y_M_condition.2.1 44 = .ok (.aload_n 0, 1) := by decide +kernel
theorem d_M_condition_45 : decode Y_M_condition.2.1 45 = .ok (.getfield 396, 3) := by decide +kernel
theorem d_M_condition_48 : decode Y_M_condition.2.1 48 = .ok (.ifCond .ne 26, 3) := by decide +kernel
theorem d_M_condition_51 : decode Y_M_condition.2.1 51 = .ok (.iload_n 1, 1) := by decide +kernel
theorem d_M_condition_52 : decode Y_M_condition.2.1 52 = .ok (.ifCond .eq 7, 3) := by decide +kernel
theorem d_M_condition_55 : decode Y_M_condition.2.1 55 = .ok (.aload_n 0, 1) := by decide +kernel
theorem d_M_condition_56 : decode Y_M_condition.2.1 56 = .ok (.invokevirtual 399, 3) := by decide +kernel
theorem d_M_condition_59 : decode Y_M_condition.2.1 59 = .ok (.aload_n 0, 1) := by decide +kernel
theorem d_M_condition_60 : decode Y_M_condition.2.1 60 = .ok (.invokevirtual 320, 3) := by decide +kernel
theorem d_M_condition_63 : decode Y_M_condition.2.1 63 = .ok (.ifCond .eq (-26), 3) := by decide +kernel
theorem d_M_condition_66 : decode Y_M_condition.2.1 66 = .ok (.aload_n 0, 1) := by decide +kernel
theorem d_M_condition_67 : decode Y_M_condition.2.1 67 = .ok (.invokevirtual 402, 3) := by decide +kernel
theorem d_M_condition_70 : decode Y_M_condition.2.1 70 = .ok (.istore_n 1, 1) := by decide +kernel
theorem d_M_condition_71 : decode Y_M_condition.2.1 71 = .ok (.goto (-34), 3) := by decide +kernel
theorem d_M_condition_74 : decode Y_M_condition.2.1 74 = .ok (.return_, 1) := by decide +kernel
theorem d_M_clause_0 : decode Y_M_clause.2.1 0 = .ok (.aload_n 0, 1) := by decide +kernel
theorem d_M_clause_1 : decode Y_M_clause.2.1 1 = .ok (.invokevirtual 336, 3) := by decide +kernel
theorem d_M_clause_4 : decode Y_M_clause.2.1 4 = .ok (.istore_n 1, 1) := by decide +kernel
theorem d_M_clause_5 : decode Y_M_clause.2.1 5 = .ok (.iload_n 1, 1) := by decide +kernel
theorem d_M_clause_6 : decode Y_M_clause.2.1 6 = .ok (.bipush 112, 2) := by decide +kernel
theorem d_M_clause_8 : decode Y_M_clause.2.1 8 = .ok (.if_icmp .eq 39, 3) := by decide +kernel
theorem d_M_clause_11 : decode Y_M_clause.2.1 11 = .ok (.iload_n 1, 1) := by decide +kernel
theorem d_M_clause_12 : decode Y_M_clause.2.1 12 = .ok (.bipush 115, 2) := by decide +kernel
theorem d_M_clause_14 : decode Y_M_clause.2.1 14 = .ok (.if_icmp .eq 33, 3) := by decide +kernel
theorem d_M_clause_17 : decode Y_M_clause.2.1 17 = .ok (.iload_n 1, 1) := by decide +kernel
theorem d_M_clause_18 : decode Y_M_clause.2.1 18 = .ok (.bipush 116, 2) := by decide +kernel
theorem d_M_clause_20 : decode Y_M_clause.2.1 20 = .ok (.if_icmp .eq 27, 3) := by decide +kernel
theorem d_M_clause_23 : decode Y_M_clause.2.1 23 = .ok (.iload_n 1, 1) := by decide +kernel
theorem d_M_clause_24 : decode Y_M_clause.2.1 24 = .ok (.bipush 107, 2) := by decide +kernel
theorem d_M_clause_26 : decode Y_M_clause.2.1 26 = .ok (.if_icmp .eq 21, 3) := by decide +kernel
theorem d_M_clause_29 : decode Y_M_clause.2.1 29 = .ok (.iload_n 1, 1) := by decide +kernel
theorem d_M_clause_30 : decode Y_M_clause.2.1 30 = .ok (.bipush 100, 2) := by decide +kernel
theorem d_M_clause_32 : decode Y_M_clause.2.1 32 = .ok (.if_icmp .eq 15, 3) := by decide +kernel
theorem d_M_clause_35 : decode Y_M_clause.2.1 35 = .ok (.aload_n 0, 1) := by decide +kernel
theorem d_M_clause_36 : decode Y_M_clause.2.1 36 = .ok (.iconst 1, 1) := by decide +kernel
theorem d_M_clause_37 : decode Y_M_clause.2.1 37 = .ok (.aload_n 0, 1) := by decide +kernel
theorem d_M_clause_38 : decode Y_M_clause.2.1 38 = .ok (.getfield 311, 3) := by decide +kernel
theorem d_M_clause_41 : decode Y_M_clause.2.1 41 = .ok (.invokevirtual 333, 3) := by decide +kernel
theorem d_M_clause_44 : decode Y_M_clause.2.1 44 = .ok (.goto 21, 3) := by decide +kernel
theorem d_M_clause_47 : decode Y_M_clause.2.1 47 = .ok (.aload_n 0, 1) := by decide +kernel
theorem d_M_clause_48 : decode Y_M_clause.2.1 48 = .ok (.getfield 405, 3) := by decide +kernel
theorem d_M_clause_51 : decode Y_M_clause.2.1 51 = .ok (.bipush 14, 2) := by decide +kernel
theorem d_M_clause_53 : decode Y_M_clause.2.1 53 = .ok (.if_icmp .ne 12, 3) := by decide +kernel
theorem d_M_clause_56 : decode Y_M_clause.2.1 56 = .ok (.aload_n 0, 1) := by decide +kernel
theorem d_M_clause_57 : decode Y_M_clause.2.1 57 = .ok (.iconst 4, 1) := by decide +kernel
theorem d_M_clause_58 : decode Y_M_clause.2.1 58 = .ok (.aload_n 0, 1) := by decide +kernel
theorem d_M_clause_59 : decode Y_M_clause.2.1 59 = .ok (.getfield 311, 3) := by decide +kernel
theorem d_M_clause_62 : decode Y_M_clause.2.1 62 = .ok (.invokevirtual 333, 3) := by decide +kernel
theorem d_M_clause_65 : decode Y_M_clause.2.1 65 = .ok (.aload_n 0, 1) := by decide +kernel
theorem d_M_clause_66 : decode Y_M_clause.2.1 66 = .ok (.invokevirtual 320, 3) := by decide +kernel
theorem d_M_clause_69 : decode Y_M_clause.2.1 69 = .ok (.ifCond .ne 4, 3) := by decide +kernel
theorem d_M_clause_72 : decode Y_M_clause.2.1 72 = .ok (.return_, 1) := by decide +kernel
theorem d_M_clause_73 : decode Y_M_clause.2.1 73 = .ok (.aload_n 0, 1) := by decide +kernel
theorem d_M_clause_74 : decode Y_M_clause.2.1 74 = .ok (.getfield 89, 3) := by decide +kernel
theorem d_M_clause_77 : decode Y_M_clause.2.1 77 = .ok (.aload_n 0, 1) := by decide +kernel
theorem d_M_clause_78 : decode Y_M_clause.2.1 78 = .ok (.getfield 405, 3) := by decide +kernel
theorem d_M_clause_81 : decode Y_M_clause.2.1 81 = .ok (.iload_n 1, 1) := by decide +kernel
theorem d_M_clause_82 : decode Y_M_clause.2.1 82 = .ok (.iastore, 1) := by decide +kernel
theorem d_M_clause_83 : decode Y_M_clause.2.1 83 = .ok (.aload_n 0, 1) := by decide +kernel
theorem d_M_clause_84 : decode Y_M_clause.2.1 84 = .ok (.getfield 92, 3) := by decide +kernel
theorem d_M_clause_87 : decode Y_M_clause.2.1 87 = .ok (.aload_n 0, 1) := by decide +kernel
theorem d_M_clause_88 : decode Y_M_clause.2.1 88 = .ok (.getfield 405, 3) := by decide +kernel
theorem d_M_clause_91 : decode Y_M_clause.2.1 91 = .ok (.aload_n 0, 1) := by decide +kernel
theorem d_M_clause_92 : decode Y_M_clause.2.1 92 = .ok (.getfield 324, 3) := by decide +kernel
theorem d_M_clause_95 : decode Y_M_clause.2.1 95 = .ok (.iastore, 1) := by decide +kernel
theorem d_M_clause_96 : decode Y_M_clause.2.1 96 = .ok (.aload_n 0, 1) := by decide +kernel
theorem d_M_clause_97 : decode Y_M_clause.2.1 97 = .ok (.dup, 1) := by decide +kernel
theorem d_M_clause_98 : decode Y_M_clause.2.1 98 = .ok (.getfield 311, 3) := by decide +kernel
theorem d_M_clause_101 : decode Y_M_clause.2.1 101 = .ok (.iconst 1, 1) := by decide +kernel
theorem d_M_clause_102 : decode Y_M_clause.2.1 102 = .ok (.iadd, 1) := by decide +kernel
theorem d_M_clause_103 : decode Y_M_clause.2.1 103 = .ok (.putfield 311, 3) := by decide +kernel
theorem d_M_clause_106 : decode Y_M_clause.2.1 106 = .ok (.aload_n 0, 1) := by decide +kernel
theorem d_M_clause_107 : decode Y_M_clause.2.1 107 = .ok (.iconst 0, 1) := by decide +kernel
theorem d_M_clause_108 : decode Y_M_clause.2.1 108 = .ok (.putfield 327, 3) := by decide +kernel
theorem d_M_clause_111 : decode Y_M_clause.2.1 111 = .ok (.aload_n 0, 1) := by decide +kernel
theorem d_M_clause_112 : decode Y_M_clause.2.1 112 = .ok (.iconst 0, 1) := by decide +kernel
theorem d_M_clause_113 : decode Y_M_clause.2.1 113 = .ok (.putfield 330, 3) := by decide +kernel
theorem d_M_clause_116 : decode Y_M_clause.2.1 116 = .ok (.aload_n 0, 1) := by decide +kernel
theorem d_M_clause_117 : decode Y_M_clause.2.1 117 = .ok (.invokevirtual 384, 3) := by decide +kernel
theorem d_M_clause_120 : decode Y_M_clause.2.1 120 = .ok (.aload_n 0, 1) := by decide +kernel
theorem d_M_clause_121 : decode Y_M_clause.2.1 121 = .ok (.getfield 95, 3) := by decide +kernel
theorem d_M_clause_124 : decode Y_M_clause.2.1 124 = .ok (.aload_n 0, 1) := by decide +kernel
theorem d_M_clause_125 : decode Y_M_clause.2.1 125 = .ok (.getfield 405, 3) := by decide +kernel
theorem d_M_clause_128 : decode Y_M_clause.2.1 128 = .ok (.aload_n 0, 1) := by decide +kernel
theorem d_M_clause_129 : decode Y_M_clause.2.1 129 = .ok (.getfield 324, 3) := by decide +kernel
theorem d_M_clause_132 : decode Y_M_clause.2.1 132 = .ok (.iastore, 1) := by decide +kernel
theorem d_M_clause_133 : decode Y_M_clause.2.1 133 = .ok (.aload_n 0, 1) := by decide +kernel
theorem d_M_clause_134 : decode Y_M_clause.2.1 134 = .ok (.invokevirtual 320, 3) := by decide +kernel
theorem d_M_clause_137 : decode Y_M_clause.2.1 137 = .ok (.ifCond .eq 7, 3) := by decide +kernel
theorem d_M_clause_140 : decode Y_M_clause.2.1 140 = .ok (.aload_n 0, 1) := by decide +kernel
theorem d_M_clause_141 : decode Y_M_clause.2.1 141 = .ok (.invokevirtual 408, 3) := by decide +kernel
theorem d_M_clause_144 : decode Y_M_clause.2.1 144 = .ok (.aload_n 0, 1) := by decide +kernel
theorem d_M_clause_145 : decode Y_M_clause.2.1 145 = .ok (.getfield 98, 3) := by decide +kernel
theorem d_M_clause_148 : decode Y_M_clause.2.1 148 = .ok (.aload_n 0, 1) := by decide +kernel
theorem d_M_clause_149 : decode Y_M_clause.2.1 149 = .ok (.getfield 405, 3) := by decide +kernel
theorem d_M_clause_152 : decode Y_M_clause.2.1 152 = .ok (.aload_n 0, 1) := by decide +kernel
theorem d_M_clause_153 : decode Y_M_clause.2.1 153 = .ok (.getfield 324, 3) := by decide +kernel
theorem d_M_clause_156 : decode Y_M_clause.2.1 156 = .ok (.iastore, 1) := by decide +kernel
theorem d_M_clause_157 : decode Y_M_clause.2.1 157 = .ok (.aload_n 0, 1) := by decide +kernel
theorem d_M_clause_158 : decode Y_M_clause.2.1 158 = .ok (.dup, 1) := by decide +kernel
theorem d_M_clause_159 : decode Y_M_clause.2.1 159 = .ok (.getfield 405, 3) := by decide +kernel
theorem d_M_clause_162 : decode Y_M_clause.2.1 162 = .ok (.iconst 1, 1) := by decide +kernel
theorem d_M_clause_163 : decode Y_M_clause.2.1 163 = .ok (.iadd, 1) := by decide +kernel
theorem d_M_clause_164 : decode Y_M_clause.2.1 164 = .ok (.putfield 405, 3) := by decide +kernel
theorem d_M_clause_167 : decode Y_M_clause.2.1 167 = .ok (.return_, 1) := by decide +kernel
theorem d_M_text_0 : decode Y_M_text.2.1 0 = .ok (.iload_n 1, 1) := by decide +kernel
theorem d_M_text_1 : decode Y_M_text.2.1 1 = .ok (.i2l, 1) := by decide +kernel
theorem d_M_text_2 : decode Y_M_text.2.1 2 = .ok (.lconst 1, 1) := by decide +kernel
theorem d_M_text_3 : decode Y_M_text.2.1 3 = .ok (.ldc2_w 411, 3) := by decide +kernel
theorem d_M_text_6 : decode Y_M_text.2.1 6 = .ok (.invokestatic 145, 3) := by decide +kernel
theorem d_M_text_9 : decode Y_M_text.2.1 9 = .ok (.ifCond .eq 11, 3) := by decide +kernel
theorem d_M_text_12 : decode Y_M_text.2.1 12 = .ok (.iload_n 1, 1) := by decide +kernel
theorem d_M_text_13 : decode Y_M_text.2.1 13 = .ok (.aload_n 0, 1) := by decide +kernel
theorem d_M_text_14 : decode Y_M_text.2.1 14 = .ok (.getfield 305, 3) := by decide +kernel
theorem d_M_text_17 : decode Y_M_text.2.1 17 = .ok (.if_icmp .le 5, 3) := by decide +kernel
theorem d_M_text_20 : decode Y_M_text.2.1 20 = .ok (.iconst (-1), 1) := by decide +kernel
theorem d_M_text_21 : decode Y_M_text.2.1 21 = .ok (.ireturn, 1) := by decide +kernel
theorem d_M_text_22 : decode Y_M_text.2.1 22 = .ok (.aload_n 0, 1) := by decide +kernel
theorem d_M_text_23 : decode Y_M_text.2.1 23 = .ok (.iconst 0, 1) := by decide +kernel
theorem d_M_text_24 : decode Y_M_text.2.1 24 = .ok (.putfield 305, 3) := by decide +kernel
theorem d_M_text_27 : decode Y_M_text.2.1 27 = .ok (.aload_n 0, 1) := by decide +kernel
theorem d_M_text_28 : decode Y_M_text.2.1 28 = .ok (.iconst 0, 1) := by decide +kernel
theorem d_M_text_29 : decode Y_M_text.2.1 29 = .ok (.putfield 311, 3) := by decide +kernel
theorem d_M_text_32 : decode Y_M_text.2.1 32 = .ok (.aload_n 0, 1) := by decide +kernel
theorem d_M_text_33 : decode Y_M_text.2.1 33 = .ok (.iload_n 1, 1) := by decide +kernel
theorem d_M_text_34 : decode Y_M_text.2.1 34 = .ok (.putfield 314, 3) := by decide +kernel
theorem d_M_text_37 : decode Y_M_text.2.1 37 = .ok (.aload_n 0, 1) := by decide +kernel
theorem d_M_text_38 : decode Y_M_text.2.1 38 = .ok (.iconst 0, 1) := by decide +kernel
theorem d_M_text_39 : decode Y_M_text.2.1 39 = .ok (.putfield 317, 3) := by decide +kernel
theorem d_M_text_42 : decode Y_M_text.2.1 42 = .ok (.aload_n 0, 1) := by decide +kernel
theorem d_M_text_43 : decode Y_M_text.2.1 43 = .ok (.iconst 0, 1) := by decide +kernel
theorem d_M_text_44 : decode Y_M_text.2.1 44 = .ok (.putfield 405, 3) := by decide +kernel
theorem d_M_text_47 : decode Y_M_text.2.1 47 = .ok (.aload_n 0, 1) := by decide +kernel
theorem d_M_text_48 : decode Y_M_text.2.1 48 = .ok (.iconst 0, 1) := by decide +kernel
theorem d_M_text_49 : decode Y_M_text.2.1 49 = .ok (.putfield 324, 3) := by decide +kernel
theorem d_M_text_52 : decode Y_M_text.2.1 52 = .ok (.iconst 1, 1) := by decide +kernel
theorem d_M_text_53 : decode Y_M_text.2.1 53 = .ok (.istore_n 2, 1) := by decide +kernel
theorem d_M_text_54 : decode Y_M_text.2.1 54 = .ok (.iload_n 2, 1) := by decide +kernel
theorem d_M_text_55 : decode Y_M_text.2.1 55 = .ok (.ifCond .eq 73, 3) := by decide +kernel
theorem d_M_text_58 : decode Y_M_text.2.1 58 = .ok (.aload_n 0, 1) := by decide +kernel
theorem d_M_text_59 : decode Y_M_text.2.1 59 = .ok (.invokevirtual 320, 3) := by decide +kernel
theorem d_M_text_62 : decode Y_M_text.2.1 62 = .ok (.ifCond .eq 66, 3) := by decide +kernel
theorem d_M_text_65 : decode Y_M_text.2.1 65 = .ok (.aload_n 0, 1) := by decide +kernel
theorem d_M_text_66 : decode Y_M_text.2.1 66 = .ok (.invokevirtual 413, 3) := by decide +kernel
theorem d_M_text_69 : decode Y_M_text.2.1 69 = .ok (.aload_n 0, 1) := by decide +kernel
theorem d_M_text_70 : decode Y_M_text.2.1 70 = .ok (.invokevirtual 320, 3) := by decide +kernel
theorem d_M_text_73 : decode Y_M_text.2.1 73 = .ok (.ifCond .eq 18, 3) := by decide +kernel
theorem d_M_text_76 : decode Y_M_text.2.1 76 = .ok (.aload_n 0, 1) := by decide +kernel
theorem d_M_text_77 : decode Y_M_text.2.1 77 = .ok (.getfield 311, 3) := by decide +kernel
theorem d_M_text_80 : decode Y_M_text.2.1 80 = .ok (.aload_n 0, 1) := by decide +kernel
theorem d_M_text_81 : decode Y_M_text.2.1 81 = .ok (.getfield 314, 3) := by decide +kernel
theorem d_M_text_84 : decode Y_M_text.2.1 84 = .ok (.if_icmp .ge 7, 3) := by decide +kernel
theorem d_M_text_87 : decode Y_M_text.2.1 87 = .ok (.iconst 1, 1) := by decide +kernel
theorem d_M_text_88 : decode Y_M_text.2.1 88 = .ok (.goto 4, 3) := by decide +kernel
theorem d_M_text_91 : decode Y_M_text.2.1 91 = .ok (.iconst 0, 1) := by decide +kernel
theorem d_M_text_92 : decode Y_M_text.2.1 92 = .ok (.istore_n 2, 1) := by decide +kernel
theorem d_M_text_93 : decode Y_M_text.2.1 93 = .ok (.iload_n 2, 1) := by decide +kernel
theorem d_M_text_94 : decode Y_M_text.2.1 94 = .ok (.ifCond .eq (-40), 3) := by decide +kernel
theorem d_M_text_97 : decode Y_M_text.2.1 97 = .ok (.aload_n 0, 1) := by decide +kernel
theorem d_M_text_98 : decode Y_M_text.2.1 98 = .ok (.invokevirtual 336, 3) := by decide +kernel
theorem d_M_text_101 : decode Y_M_text.2.1 101 = .ok (.bipush 59, 2) := by decide +kernel
theorem d_M_text_103 : decode Y_M_text.2.1 103 = .ok (.if_icmp .eq 12, 3) := by decide +kernel
theorem d_M_text_106 : decode Y_M_text.2.1 106 = .ok (.aload_n 0, 1) := by decide +kernel
theorem d_M_text_107 : decode Y_M_text.2.1 107 = .ok (.iconst 1, 1) := by decide +kernel
theorem d_M_text_108 : decode Y_M_text.2.1 108 = .ok (.aload_n 0, 1) := by decide +kernel
theorem d_M_text_109 : decode Y_M_text.2.1 109 = .ok (.getfield 311, 3) := by decide +kernel
theorem d_M_text_112 : decode Y_M_text.2.1 112 = .ok (.invokevirtual 333, 3) := by decide +kernel
theorem d_M_text_115 : decode Y_M_text.2.1 115 = .ok (.aload_n 0, 1) := by decide +kernel
theorem d_M_text_116 : decode Y_M_text.2.1 116 = .ok (.dup, 1) := by decide +kernel
theorem d_M_text_117 : decode Y_M_text.2.1 117 = .ok (.getfield 311, 3) := by decide +kernel
theorem d_M_text_120 : decode Y_M_text.2.1 120 = .ok (.iconst 1, 1) := by decide +kernel
theorem d_M_text_121 : decode Y_M_text.2.1 121 = .ok (.iadd, 1) := by decide +kernel
theorem d_M_text_122 : decode Y_M_text.2.1 122 = .ok (.putfield 311, 3) := by decide +kernel
theorem d_M_text_125 : decode Y_M_text.2.1 125 = .ok (.goto (-71), 3) := by decide +kernel
theorem d_M_text_128 : decode Y_M_text.2.1 128 = .ok (.aload_n 0, 1) := by decide +kernel
theorem d_M_text_129 : decode Y_M_text.2.1 129 = .ok (.getfield 317, 3) := by decide +kernel
theorem d_M_text_132 : decode Y_M_text.2.1 132 = .ok (.ifCond .ge 8, 3) := by decide +kernel
theorem d_M_text_135 : decode Y_M_text.2.1 135 = .ok (.aload_n 0, 1) := by decide +kernel
theorem d_M_text_136 : decode Y_M_text.2.1 136 = .ok (.getfield 317, 3) := by decide +kernel
theorem d_M_text_139 : decode Y_M_text.2.1 139 = .ok (.ireturn, 1) := by decide +kernel
theorem d_M_text_140 : decode Y_M_text.2.1 140 = .ok (.iconst 0, 1) := by decide +kernel
theorem d_M_text_141 : decode Y_M_text.2.1 141 = .ok (.istore_n 3, 1) := by decide +kernel
theorem d_M_text_142 : decode Y_M_text.2.1 142 = .ok (.iload_n 3, 1) := by decide +kernel
theorem d_M_text_143 : decode Y_M_text.2.1 143 = .ok (.aload_n 0, 1) := by decide +kernel
theorem d_M_text_144 : decode Y_M_text.2.1 144 = .ok (.getfield 405, 3) := by decide +kernel
theorem d_M_text_147 : decode Y_M_text.2.1 147 = .ok (.if_icmp .ge 57, 3) := by decide +kernel
theorem d_M_text_150 : decode Y_M_text.2.1 150 = .ok (.aload_n 0, 1) := by decide +kernel
theorem d_M_text_151 : decode Y_M_text.2.1 151 = .ok (.getfield 71, 3) := by decide +kernel
theorem d_M_text_154 : decode Y_M_text.2.1 154 = .ok (.iload_n 3, 1) := by decide +kernel
theorem d_M_text_155 : decode Y_M_text.2.1 155 = .ok (.aload_n 0, 1) := by decide +kernel
theorem d_M_text_156 : decode Y_M_text.2.1 156 = .ok (.getfield 89, 3) := by decide +kernel
theorem d_M_text_159 : decode Y_M_text.2.1 159 = .ok (.iload_n 3, 1) := by decide +kernel
theorem d_M_text_160 : decode Y_M_text.2.1 160 = .ok (.iaload, 1) := by decide +kernel
theorem d_M_text_161 : decode Y_M_text.2.1 161 = .ok (.iastore, 1) := by decide +kernel
theorem d_M_text_162 : decode Y_M_text.2.1 162 = .ok (.aload_n 0, 1) := by decide +kernel
theorem d_M_text_163 : decode Y_M_text.2.1 163 = .ok (.getfield 74, 3) := by decide +kernel
theorem d_M_text_166 : decode Y_M_text.2.1 166 = .ok (.iload_n 3, 1) := by decide +kernel
theorem d_M_text_167 : decode Y_M_text.2.1 167 = .ok (.aload_n 0, 1) := by decide +kernel
theorem d_M_text_168 : decode Y_M_text.2.1 168 = .ok (.getfield 92, 3) := by decide +kernel
theorem d_M_text_171 : decode Y_M_text.2.1 171 = .ok (.iload_n 3, 1) := by decide +kernel
theorem d_M_text_172 : decode Y_M_text.2.1 172 = .ok (.iaload, 1) := by decide +kernel
theorem d_M_text_173 : decode Y_M_text.2.1 173 = .ok (.iastore, 1) := by decide +kernel
theorem d_M_text_174 : decode Y_M_text.2.1 174 = .ok (.aload_n 0, 1) := by decide +kernel
theorem d_M_text_175 : decode Y_M_text.2.1 175 = .ok (.getfield 77, 3) := by decide +kernel
theorem d_M_text_178 : decode Y_M_text.2.1 178 = .ok (.iload_n 3, 1) := by decide +kernel
theorem d_M_text_179 : decode Y_M_text.2.1 179 = .ok (.aload_n 0, 1) := by decide +kernel
theorem d_M_text_180 : decode Y_M_text.2.1 180 = .ok (.getfield 95, 3) := by decide +kernel
theorem d_M_text_183 : decode Y_M_text.2.1 183 = .ok (.iload_n 3, 1) := by decide +kernel
theorem d_M_text_184 : decode Y_M_text.2.1 184 = .ok (.iaload, 1) := by decide +kernel
theorem d_M_text_185 : decode Y_M_text.2.1 185 = .ok (.iastore, 1) := by decide +kernel
theorem d_M_text_186 : decode Y_M_text.2.1 186 = .ok (.aload_n 0, 1) := by decide +kernel
theorem d_M_text_187 : decode Y_M_text.2.1 187 = .ok (.getfield 80, 3) := by decide +kernel
theorem d_M_text_190 : decode Y_M_text.2.1 190 = .ok (.iload_n 3, 1) := by decide +kernel
theorem d_M_text_191 : decode Y_M_text.2.1 191 = .ok (.aload_n 0, 1) := by decide +kernel
theorem d_M_text_192 : decode Y_M_text.2.1 192 = .ok (.getfield 98, 3) := by decide +kernel
theorem d_M_text_195 : decode Y_M_text.2.1 195 = .ok (.iload_n 3, 1) := by decide +kernel
theorem d_M_text_196 : decode Y_M_text.2.1 196 = .ok (.iaload, 1) := by decide +kernel
theorem d_M_text_197 : decode Y_M_text.2.1 197 = .ok (.iastore, 1) := by decide +kernel
theorem d_M_text_198 : decode Y_M_text.2.1 198 = .ok (.iinc 3 1, 3) := by decide +kernel
theorem d_M_text_201 : decode Y_M_text.2.1 201 = .ok (.goto (-59), 3) := by decide +kernel
theorem d_M_text_204 : decode Y_M_text.2.1 204 = .ok (.iconst 0, 1) := by decide +kernel
theorem d_M_text_205 : decode Y_M_text.2.1 205 = .ok (.istore_n 3, 1) := by decide +kernel
theorem d_M_text_206 : decode Y_M_text.2.1 206 = .ok (.iload_n 3, 1) := by decide +kernel
theorem d_M_text_207 : decode Y_M_text.2.1 207 = .ok (.aload_n 0, 1) := by decide +kernel
theorem d_M_text_208 : decode Y_M_text.2.1 208 = .ok (.getfield 324, 3) := by decide +kernel
theorem d_M_text_211 : decode Y_M_text.2.1 211 = .ok (.if_icmp .ge 33, 3) := by decide +kernel
theorem d_M_text_214 : decode Y_M_text.2.1 214 = .ok (.aload_n 0, 1) := by decide +kernel
theorem d_M_text_215 : decode Y_M_text.2.1 215 = .ok (.getfield 83, 3) := by decide +kernel
theorem d_M_text_218 : decode Y_M_text.2.1 218 = .ok (.iload_n 3, 1) := by decide +kernel
theorem d_M_text_219 : decode Y_M_text.2.1 219 = .ok (.aload_n 0, 1) := by decide +kernel
theorem d_M_text_220 : decode Y_M_text.2.1 220 = .ok (.getfield 101, 3) := by decide +kernel
theorem d_M_text_223 : decode Y_M_text.2.1 223 = .ok (.iload_n 3, 1) := by decide +kernel
theorem d_M_text_224 : decode Y_M_text.2.1 224 = .ok (.iaload, 1) := by decide +kernel
theorem d_M_text_225 : decode Y_M_text.2.1 225 = .ok (.iastore, 1) := by decide +kernel
theorem d_M_text_226 : decode Y_M_text.2.1 226 = .ok (.aload_n 0, 1) := by decide +kernel
theorem d_M_text_227 : decode Y_M_text.2.1 227 = .ok (.getfield 86, 3) := by decide +kernel
theorem d_M_text_230 : decode Y_M_text.2.1 230 = .ok (.iload_n 3, 1) := by decide +kernel
theorem d_M_text_231 : decode Y_M_text.2.1 231 = .ok (.aload_n 0, 1) := by decide +kernel
theorem d_M_text_232 : decode Y_M_text.2.1 232 = .ok (.getfield 104, 3) := by decide +kernel
theorem d_M_text_235 : decode Y_M_text.2.1 235 = .ok (.iload_n 3, 1) := by decide +kernel
theorem d_M_text_236 : decode Y_M_text.2.1 236 = .ok (.iaload, 1) := by decide +kernel
theorem d_M_text_237 : decode Y_M_text.2.1 237 = .ok (.iastore, 1) := by decide +kernel
theorem d_M_text_238 : decode Y_M_text.2.1 238 = .ok (.iinc 3 1, 3) := by decide +kernel
theorem d_M_text_241 : decode Y_M_text.2.1 241 = .ok (.goto (-35), 3) := by decide +kernel
theorem d_M_text_244 : decode Y_M_text.2.1 244 = .ok (.aload_n 0, 1) := by decide +kernel
theorem d_M_text_245 : decode Y_M_text.2.1 245 = .ok (.aload_n 0, 1) := by decide +kernel
theorem d_M_text_246 : decode Y_M_text.2.1 246 = .ok (.getfield 405, 3) := by decide +kernel
theorem d_M_text_249 : decode Y_M_text.2.1 249 = .ok (.putfield 416, 3) := by decide +kernel
theorem d_M_text_252 : decode Y_M_text.2.1 252 = .ok (.aload_n 0, 1) := by decide +kernel
theorem d_M_text_253 : decode Y_M_text.2.1 253 = .ok (.getfield 416, 3) := by decide +kernel
theorem d_M_text_256 : decode Y_M_text.2.1 256 = .ok (.ireturn, 1) := by decide +kernel
theorem d_Ch_sings_0 : decode Y_Ch_sings.2.1 0 = .ok (.aload_n 0, 1) := by decide +kernel
theorem d_Ch_sings_1 : decode Y_Ch_sings.2.1 1 = .ok (.iload_n 1, 1) := by decide +kernel
theorem d_Ch_sings_2 : decode Y_Ch_sings.2.1 2 = .ok (.invokevirtual 51, 3) := by decide +kernel
theorem d_Ch_sings_5 : decode Y_Ch_sings.2.1 5 = .ok (.ifCond .eq 24, 3) := by decide +kernel
theorem d_Ch_sings_8 : decode Y_Ch_sings.2.1 8 = .ok (.aload_n 0, 1) := by decide +kernel
theorem d_Ch_sings_9 : decode Y_Ch_sings.2.1 9 = .ok (.getfield 33, 3) := by decide +kernel
theorem d_Ch_sings_12 : decode Y_Ch_sings.2.1 12 = .ok (.aload_n 0, 1) := by decide +kernel
theorem d_Ch_sings_13 : decode Y_Ch_sings.2.1 13 = .ok (.getfield 9, 3) := by decide +kernel
theorem d_Ch_sings_16 : decode Y_Ch_sings.2.1 16 = .ok (.iload_n 1, 1) := by decide +kernel
theorem d_Ch_sings_17 : decode Y_Ch_sings.2.1 17 = .ok (.iaload, 1) := by decide +kernel
theorem d_Ch_sings_18 : decode Y_Ch_sings.2.1 18 = .ok (.iload_n 2, 1) := by decide +kernel
theorem d_Ch_sings_19 : decode Y_Ch_sings.2.1 19 = .ok (.invokevirtual 55, 3) := by decide +kernel
theorem d_Ch_sings_22 : decode Y_Ch_sings.2.1 22 = .ok (.ifCond .eq 7, 3) := by decide +kernel
theorem d_Ch_sings_25 : decode Y_Ch_sings.2.1 25 = .ok (.iconst 1, 1) := by decide +kernel
theorem d_Ch_sings_26 : decode Y_Ch_sings.2.1 26 = .ok (.goto 4, 3) := by decide +kernel
theorem d_Ch_sings_29 : decode Y_Ch_sings.2.1 29 = .ok (.iconst 0, 1) := by decide +kernel
theorem d_Ch_sings_30 : decode Y_Ch_sings.2.1 30 = .ok (.ireturn, 1) := by decide +kernel
theorem d_Ch_howMany_0 : decode Y_Ch_howMany.2.1 0 = .ok (.iconst 0, 1) := by decide +kernel
theorem d_Ch_howMany_1 : decode Y_Ch_howMany.2.1 1 = .ok (.istore_n 2, 1) := by decide +kernel
theorem d_Ch_howMany_2 : decode Y_Ch_howMany.2.1 2 = .ok (.iconst 0, 1) := by decide +kernel
theorem d_Ch_howMany_3 : decode Y_Ch_howMany.2.1 3 = .ok (.istore_n 3, 1) := by decide +kernel
theorem d_Ch_howMany_4 : decode Y_Ch_howMany.2.1 4 = .ok (.iload_n 3, 1) := by decide +kernel
theorem d_Ch_howMany_5 : decode Y_Ch_howMany.2.1 5 = .ok (.aload_n 0, 1) := by decide +kernel
theorem d_Ch_howMany_6 : decode Y_Ch_howMany.2.1 6 = .ok (.getfield 48, 3) := by decide +kernel
theorem d_Ch_howMany_9 : decode Y_Ch_howMany.2.1 9 = .ok (.if_icmp .ge 26, 3) := by decide +kernel
theorem d_Ch_howMany_12 : decode Y_Ch_howMany.2.1 12 = .ok (.iload_n 2, 1) := by decide +kernel
theorem d_Ch_howMany_13 : decode Y_Ch_howMany.2.1 13 = .ok (.aload_n 0, 1) := by decide +kernel
theorem d_Ch_howMany_14 : decode Y_Ch_howMany.2.1 14 = .ok (.iload_n 3, 1) := by decide +kernel
theorem d_Ch_howMany_15 : decode Y_Ch_howMany.2.1 15 = .ok (.iload_n 1, 1) := by decide +kernel
theorem d_Ch_howMany_16 : decode Y_Ch_howMany.2.1 16 = .ok (.invokevirtual 61, 3) := by decide +kernel
theorem d_Ch_howMany_19 : decode Y_Ch_howMany.2.1 19 = .ok (.ifCond .eq 7, 3) := by decide +kernel
theorem d_Ch_howMany_22 : decode Y_Ch_howMany.2.1 22 = .ok (.iconst 1, 1) := by decide +kernel
theorem d_Ch_howMany_23 : decode Y_Ch_howMany.2.1 23 = .ok (.goto 4, 3) := by decide +kernel
theorem d_Ch_howMany_26 : decode Y_Ch_howMany.2.1 26 = .ok (.iconst 0, 1) := by decide +kernel
theorem d_Ch_howMany_27 : decode Y_Ch_howMany.2.1 27 = .ok (.iadd, 1) := by decide +kernel
theorem d_Ch_howMany_28 : decode Y_Ch_howMany.2.1 28 = .ok (.istore_n 2, 1) := by decide +kernel
theorem d_Ch_howMany_29 : decode Y_Ch_howMany.2.1 29 = .ok (.iinc 3 1, 3) := by decide +kernel
theorem d_Ch_howMany_32 : decode Y_Ch_howMany.2.1 32 = .ok (.goto (-28), 3) := by decide +kernel
theorem d_Ch_howMany_35 : decode Y_Ch_howMany.2.1 35 = .ok (.iload_n 2, 1) := by decide +kernel
theorem d_Ch_howMany_36 : decode Y_Ch_howMany.2.1 36 = .ok (.ireturn, 1) := by decide +kernel
theorem d_Ch_lastNote_0 : decode Y_Ch_lastNote.2.1 0 = .ok (.iload_n 2, 1) := by decide +kernel
theorem d_Ch_lastNote_1 : decode Y_Ch_lastNote.2.1 1 = .ok (.iconst 1, 1) := by decide +kernel
theorem d_Ch_lastNote_2 : decode Y_Ch_lastNote.2.1 2 = .ok (.isub, 1) := by decide +kernel
theorem d_Ch_lastNote_3 : decode Y_Ch_lastNote.2.1 3 = .ok (.istore_n 3, 1) := by decide +kernel
theorem d_Ch_lastNote_4 : decode Y_Ch_lastNote.2.1 4 = .ok (.iload_n 3, 1) := by decide +kernel
theorem d_Ch_lastNote_5 : decode Y_Ch_lastNote.2.1 5 = .ok (.ifCond .lt 20, 3) := by decide +kernel
theorem d_Ch_lastNote_8 : decode Y_Ch_lastNote.2.1 8 = .ok (.aload_n 0, 1) := by decide +kernel
theorem d_Ch_lastNote_9 : decode Y_Ch_lastNote.2.1 9 = .ok (.iload_n 1, 1) := by decide +kernel
theorem d_Ch_lastNote_10 : decode Y_Ch_lastNote.2.1 10 = .ok (.iload_n 3, 1) := by decide +kernel
theorem d_Ch_lastNote_11 : decode Y_Ch_lastNote.2.1 11 = .ok (.invokevirtual 61, 3) := by decide +kernel
theorem d_Ch_lastNote_14 : decode Y_Ch_lastNote.2.1 14 = .ok (.ifCond .eq 5, 3) := by decide +kernel
theorem d_Ch_lastNote_17 : decode Y_Ch_lastNote.2.1 17 = .ok (.iload_n 3, 1) := by decide +kernel
theorem d_Ch_lastNote_18 : decode Y_Ch_lastNote.2.1 18 = .ok (.ireturn, 1) := by decide +kernel
theorem d_Ch_lastNote_19 : decode Y_Ch_lastNote.2.1 19 = .ok (.iinc 3 (-1), 3) := by decide +kernel
theorem d_Ch_lastNote_22 : decode Y_Ch_lastNote.2.1 22 = .ok (.goto (-18), 3) := by decide +kernel
theorem d_Ch_lastNote_25 : decode Y_Ch_lastNote.2.1 25 = .ok (.iconst (-1), 1) := by decide +kernel
theorem d_Ch_lastNote_26 : decode Y_Ch_lastNote.2.1 26 = .ok (.ireturn, 1) := by decide +kernel
theorem d_Mt_floorMod_0 : decode Y_Mt_floorMod.2.1 0 = .ok (.iload_n 0, 1) := by decide +kernel
theorem d_Mt_floorMod_1 : decode Y_Mt_floorMod.2.1 1 = .ok (.iload_n 1, 1) := by decide +kernel
theorem d_Mt_floorMod_2 : decode Y_Mt_floorMod.2.1 2 = .ok (.irem, 1) := by decide +kernel
theorem d_Mt_floorMod_3 : decode Y_Mt_floorMod.2.1 3 = .ok (.istore_n 2, 1) := by decide +kernel
theorem d_Mt_floorMod_4 : decode Y_Mt_floorMod.2.1 4 = .ok (.iload_n 0, 1) := by decide +kernel
theorem d_Mt_floorMod_5 : decode Y_Mt_floorMod.2.1 5 = .ok (.iload_n 1, 1) := by decide +kernel
theorem d_Mt_floorMod_6 : decode Y_Mt_floorMod.2.1 6 = .ok (.ixor, 1) := by decide +kernel
theorem d_Mt_floorMod_7 : decode Y_Mt_floorMod.2.1 7 = .ok (.ifCond .ge 11, 3) := by decide +kernel
theorem d_Mt_floorMod_10 : decode Y_Mt_floorMod.2.1 10 = .ok (.iload_n 2, 1) := by decide +kernel
theorem d_Mt_floorMod_11 : decode Y_Mt_floorMod.2.1 11 = .ok (.ifCond .eq 7, 3) := by decide +kernel
theorem d_Mt_floorMod_14 : decode Y_Mt_floorMod.2.1 14 = .ok (.iload_n 2, 1) := by decide +kernel
theorem d_Mt_floorMod_15 : decode Y_Mt_floorMod.2.1 15 = .ok (.iload_n 1, 1) := by decide +kernel
theorem d_Mt_floorMod_16 : decode Y_Mt_floorMod.2.1 16 = .ok (.iadd, 1) := by decide +kernel
theorem d_Mt_floorMod_17 : decode Y_Mt_floorMod.2.1 17 = .ok (.ireturn, 1) := by decide +kernel
theorem d_Mt_floorMod_18 : decode Y_Mt_floorMod.2.1 18 = .ok (.iload_n 2, 1) := by decide +kernel
theorem d_Mt_floorMod_19 : decode Y_Mt_floorMod.2.1 19 = .ok (.ireturn, 1) := by decide +kernel
theorem d_Ch_tableOf_0 : decode Y_Ch_tableOf.2.1 0 = .ok (.ldc 77, 2) := by decide +kernel
theorem d_Ch_tableOf_2 : decode Y_Ch_tableOf.2.1 2 = .ok (.iload_n 1, 1) := by decide +kernel
theorem d_Ch_tableOf_3 : decode Y_Ch_tableOf.2.1 3 = .ok (.imul, 1) := by decide +kernel
theorem d_Ch_tableOf_4 : decode Y_Ch_tableOf.2.1 4 = .ok (.aload_n 0, 1) := by decide +kernel
theorem d_Ch_tableOf_5 : decode Y_Ch_tableOf.2.1 5 = .ok (.getfield 30, 3) := by decide +kernel
theorem d_Ch_tableOf_8 : decode Y_Ch_tableOf.2.1 8 = .ok (.iload_n 1, 1) := by decide +kernel
theorem d_Ch_tableOf_9 : decode Y_Ch_tableOf.2.1 9 = .ok (.iload_n 2, 1) := by decide +kernel
theorem d_Ch_tableOf_10 : decode Y_Ch_tableOf.2.1 10 = .ok (.isub, 1) := by decide +kernel
theorem d_Ch_tableOf_11 : decode Y_Ch_tableOf.2.1 11 = .ok (.bipush 12, 2) := by decide +kernel
theorem d_Ch_tableOf_13 : decode Y_Ch_tableOf.2.1 13 = .ok (.invokestatic 78, 3) := by decide +kernel
theorem d_Ch_tableOf_16 : decode Y_Ch_tableOf.2.1 16 = .ok (.iaload, 1) := by decide +kernel
theorem d_Ch_tableOf_17 : decode Y_Ch_tableOf.2.1 17 = .ok (.iadd, 1) := by decide +kernel
theorem d_Ch_tableOf_18 : decode Y_Ch_tableOf.2.1 18 = .ok (.ireturn, 1) := by decide +kernel
theorem d_Si_tableOf_0 : decode Y_Si_tableOf.2.1 0 = .ok (.aload_n 0, 1) := by decide +kernel
theorem d_Si_tableOf_1 : decode Y_Si_tableOf.2.1 1 = .ok (.getfield 46, 3) := by decide +kernel
theorem d_Si_tableOf_4 : decode Y_Si_tableOf.2.1 4 = .ok (.aload_n 0, 1) := by decide +kernel
theorem d_Si_tableOf_5 : decode Y_Si_tableOf.2.1 5 = .ok (.getfield 42, 3) := by decide +kernel
theorem d_Si_tableOf_8 : decode Y_Si_tableOf.2.1 8 = .ok (.getfield 136, 3) := by decide +kernel
theorem d_Si_tableOf_11 : decode Y_Si_tableOf.2.1 11 = .ok (.aload_n 0, 1) := by decide +kernel
theorem d_Si_tableOf_12 : decode Y_Si_tableOf.2.1 12 = .ok (.getfield 46, 3) := by decide +kernel
theorem d_Si_tableOf_15 : decode Y_Si_tableOf.2.1 15 = .ok (.getfield 133, 3) := by decide +kernel
theorem d_Si_tableOf_18 : decode Y_Si_tableOf.2.1 18 = .ok (.iload_n 1, 1) := by decide +kernel
theorem d_Si_tableOf_19 : decode Y_Si_tableOf.2.1 19 = .ok (.iaload, 1) := by decide +kernel
theorem d_Si_tableOf_20 : decode Y_Si_tableOf.2.1 20 = .ok (.iload_n 2, 1) := by decide +kernel
theorem d_Si_tableOf_21 : decode Y_Si_tableOf.2.1 21 = .ok (.invokestatic 141, 3) := by decide +kernel
theorem d_Si_tableOf_24 : decode Y_Si_tableOf.2.1 24 = .ok (.iaload, 1) := by decide +kernel
theorem d_Si_tableOf_25 : decode Y_Si_tableOf.2.1 25 = .ok (.aload_n 0, 1) := by decide +kernel
theorem d_Si_tableOf_26 : decode Y_Si_tableOf.2.1 26 = .ok (.getfield 65, 3) := by decide +kernel
theorem d_Si_tableOf_29 : decode Y_Si_tableOf.2.1 29 = .ok (.invokevirtual 171, 3) := by decide +kernel
theorem d_Si_tableOf_32 : decode Y_Si_tableOf.2.1 32 = .ok (.i2l, 1) := by decide +kernel
theorem d_Si_tableOf_33 : decode Y_Si_tableOf.2.1 33 = .ok (.lreturn, 1) := by decide +kernel
theorem d_Si_giveAgain_0 : decode Y_Si_giveAgain.2.1 0 = .ok (.iconst 0, 1) := by decide +kernel
theorem d_Si_giveAgain_1 : decode Y_Si_giveAgain.2.1 1 = .ok (.istore_n 2, 1) := by decide +kernel
theorem d_Si_giveAgain_2 : decode Y_Si_giveAgain.2.1 2 = .ok (.iload_n 2, 1) := by decide +kernel
theorem d_Si_giveAgain_3 : decode Y_Si_giveAgain.2.1 3 = .ok (.aload_n 0, 1) := by decide +kernel
theorem d_Si_giveAgain_4 : decode Y_Si_giveAgain.2.1 4 = .ok (.getfield 46, 3) := by decide +kernel
theorem d_Si_giveAgain_7 : decode Y_Si_giveAgain.2.1 7 = .ok (.getfield 91, 3) := by decide +kernel
theorem d_Si_giveAgain_10 : decode Y_Si_giveAgain.2.1 10 = .ok (.if_icmp .ge 36, 3) := by decide +kernel
theorem d_Si_giveAgain_13 : decode Y_Si_giveAgain.2.1 13 = .ok (.aload_n 0, 1) := by decide +kernel
theorem d_Si_giveAgain_14 : decode Y_Si_giveAgain.2.1 14 = .ok (.getfield 46, 3) := by decide +kernel
theorem d_Si_giveAgain_17 : decode Y_Si_giveAgain.2.1 17 = .ok (.iload_n 2, 1) := by decide +kernel
theorem d_Si_giveAgain_18 : decode Y_Si_giveAgain.2.1 18 = .ok (.iload_n 1, 1) := by decide +kernel
theorem d_Si_giveAgain_19 : decode Y_Si_giveAgain.2.1 19 = .ok (.invokevirtual 102, 3) := by decide +kernel
theorem d_Si_giveAgain_22 : decode Y_Si_giveAgain.2.1 22 = .ok (.istore_n 3, 1) := by decide +kernel
theorem d_Si_giveAgain_23 : decode Y_Si_giveAgain.2.1 23 = .ok (.iload_n 3, 1) := by decide +kernel
theorem d_Si_giveAgain_24 : decode Y_Si_giveAgain.2.1 24 = .ok (.iconst (-1), 1) := by decide +kernel
theorem d_Si_giveAgain_25 : decode Y_Si_giveAgain.2.1 25 = .ok (.if_icmp .eq 15, 3) := by decide +kernel
theorem d_Si_giveAgain_28 : decode Y_Si_giveAgain.2.1 28 = .ok (.aload_n 0, 1) := by decide +kernel
theorem d_Si_giveAgain_29 : decode Y_Si_giveAgain.2.1 29 = .ok (.getfield 15, 3) := by decide +kernel
theorem d_Si_giveAgain_32 : decode Y_Si_giveAgain.2.1 32 = .ok (.iload_n 2, 1) := by decide +kernel
theorem d_Si_giveAgain_33 : decode Y_Si_giveAgain.2.1 33 = .ok (.aload_n 0, 1) := by decide +kernel
theorem d_Si_giveAgain_34 : decode Y_Si_giveAgain.2.1 34 = .ok (.iload_n 2, 1) := by decide +kernel
theorem d_Si_giveAgain_35 : decode Y_Si_giveAgain.2.1 35 = .ok (.iload_n 3, 1) := by decide +kernel
theorem d_Si_giveAgain_36 : decode Y_Si_giveAgain.2.1 36 = .ok (.invokevirtual 106, 3) := by decide +kernel
theorem d_Si_giveAgain_39 : decode Y_Si_giveAgain.2.1 39 = .ok (.lastore, 1) := by decide +kernel
theorem d_Si_giveAgain_40 : decode Y_Si_giveAgain.2.1 40 = .ok (.iinc 2 1, 3) := by decide +kernel
theorem d_Si_giveAgain_43 : decode Y_Si_giveAgain.2.1 43 = .ok (.goto (-41), 3) := by decide +kernel
theorem d_Si_giveAgain_46 : decode Y_Si_giveAgain.2.1 46 = .ok (.return_, 1) := by decide +kernel
theorem d_Si_isKnowing_0 : decode Y_Si_isKnowing.2.1 0 = .ok (.aload_n 0, 1) := by decide +kernel
theorem d_Si_isKnowing_1 : decode Y_Si_isKnowing.2.1 1 = .ok (.getfield 46, 3) := by decide +kernel
theorem d_Si_isKnowing_4 : decode Y_Si_isKnowing.2.1 4 = .ok (.getfield 168, 3) := by decide +kernel
theorem d_Si_isKnowing_7 : decode Y_Si_isKnowing.2.1 7 = .ok (.iload_n 1, 1) := by decide +kernel
theorem d_Si_isKnowing_8 : decode Y_Si_isKnowing.2.1 8 = .ok (.iaload, 1) := by decide +kernel
theorem d_Si_isKnowing_9 : decode Y_Si_isKnowing.2.1 9 = .ok (.iconst 1, 1) := by decide +kernel
theorem d_Si_isKnowing_10 : decode Y_Si_isKnowing.2.1 10 = .ok (.if_icmp .ne 14, 3) := by decide +kernel
theorem d_Si_isKnowing_13 : decode Y_Si_isKnowing.2.1 13 = .ok (.aload_n 0, 1) := by decide +kernel
theorem d_Si_isKnowing_14 : decode Y_Si_isKnowing.2.1 14 = .ok (.getfield 68, 3) := by decide +kernel
theorem d_Si_isKnowing_17 : decode Y_Si_isKnowing.2.1 17 = .ok (.ifCond .ne 7, 3) := by decide +kernel
theorem d_Si_isKnowing_20 : decode Y_Si_isKnowing.2.1 20 = .ok (.iconst 1, 1) := by decide +kernel
theorem d_Si_isKnowing_21 : decode Y_Si_isKnowing.2.1 21 = .ok (.goto 4, 3) := by decide +kernel
theorem d_Si_isKnowing_24 : decode Y_Si_isKnowing.2.1 24 = .ok (.iconst 0, 1) := by decide +kernel
theorem d_Si_isKnowing_25 : decode Y_Si_isKnowing.2.1 25 = .ok (.ireturn, 1) := by decide +kernel
theorem d_Mt_floorDiv_0 : decode Y_Mt_floorDiv.2.1 0 = .ok (.lload_n 0, 1) := by decide +kernel
theorem d_Mt_floorDiv_1 : decode Y_Mt_floorDiv.2.1 1 = .ok (.lload_n 2, 1) := by decide +kernel
theorem d_Mt_floorDiv_2 : decode Y_Mt_floorDiv.2.1 2 = .ok (.ldiv, 1) := by decide +kernel
theorem d_Mt_floorDiv_3 : decode Y_Mt_floorDiv.2.1 3 = .ok (.lstore 4, 2) := by decide +kernel
theorem d_Mt_floorDiv_5 : decode Y_Mt_floorDiv.2.1 5 = .ok (.lload_n 0, 1) := by decide +kernel
theorem d_Mt_floorDiv_6 : decode Y_Mt_floorDiv.2.1 6 = .ok (.lload_n 2, 1) := by decide +kernel
theorem d_Mt_floorDiv_7 : decode Y_Mt_floorDiv.2.1 7 = .ok (.lxor, 1) := by decide +kernel
theorem d_Mt_floorDiv_8 : decode Y_Mt_floorDiv.2.1 8 = .ok (.lconst 0, 1) := by decide +kernel
theorem d_Mt_floorDiv_9 : decode Y_Mt_floorDiv.2.1 9 = .ok (.lcmp, 1) := by decide +kernel
theorem d_Mt_floorDiv_10 : decode Y_Mt_floorDiv.2.1 10 = .ok (.ifCond .ge 17, 3) := by decide +kernel
theorem d_Mt_floorDiv_13 : decode Y_Mt_floorDiv.2.1 13 = .ok (.lload 4, 2) := by decide +kernel
theorem d_Mt_floorDiv_15 : decode Y_Mt_floorDiv.2.1 15 = .ok (.lload_n 2, 1) := by decide +kernel
theorem d_Mt_floorDiv_16 : decode Y_Mt_floorDiv.2.1 16 = .ok (.lmul, 1) := by decide +kernel
theorem d_Mt_floorDiv_17 : decode Y_Mt_floorDiv.2.1 17 = .ok (.lload_n 0, 1) := by decide +kernel
theorem d_Mt_floorDiv_18 : decode Y_Mt_floorDiv.2.1 18 = .ok (.lcmp, 1) := by decide +kernel
theorem d_Mt_floorDiv_19 : decode Y_Mt_floorDiv.2.1 19 = .ok (.ifCond .eq 8, 3) := by decide +kernel
theorem d_Mt_floorDiv_22 : decode Y_Mt_floorDiv.2.1 22 = .ok (.lload 4, 2) := by decide +kernel
theorem d_Mt_floorDiv_24 : decode Y_Mt_floorDiv.2.1 24 = .ok (.lconst 1, 1) := by decide +kernel
theorem d_Mt_floorDiv_25 : decode Y_Mt_floorDiv.2.1 25 = .ok (.lsub, 1) := by decide +kernel
theorem d_Mt_floorDiv_26 : decode Y_Mt_floorDiv.2.1 26 = .ok (.lreturn, 1) := by decide +kernel
theorem d_Mt_floorDiv_27 : decode Y_Mt_floorDiv.2.1 27 = .ok (.lload 4, 2) := by decide +kernel
theorem d_Mt_floorDiv_29 : decode Y_Mt_floorDiv.2.1 29 = .ok (.lreturn, 1) := by decide +kernel
theorem d_Si_tellLetters_0 : decode Y_Si_tellLetters.2.1 0 = .ok (.aload_n 0, 1) := by decide +kernel
theorem d_Si_tellLetters_1 : decode Y_Si_tellLetters.2.1 1 = .ok (.getfield 46, 3) := by decide +kernel
theorem d_Si_tellLetters_4 : decode Y_Si_tellLetters.2.1 4 = .ok (.getfield 133, 3) := by decide +kernel
theorem d_Si_tellLetters_7 : decode Y_Si_tellLetters.2.1 7 = .ok (.iload_n 1, 1) := by decide +kernel
theorem d_Si_tellLetters_8 : decode Y_Si_tellLetters.2.1 8 = .ok (.iaload, 1) := by decide +kernel
theorem d_Si_tellLetters_9 : decode Y_Si_tellLetters.2.1 9 = .ok (.istore 4, 2) := by decide +kernel
theorem d_Si_tellLetters_11 : decode Y_Si_tellLetters.2.1 11 = .ok (.iload_n 3, 1) := by decide +kernel
theorem d_Si_tellLetters_12 : decode Y_Si_tellLetters.2.1 12 = .ok (.iconst (-1), 1) := by decide +kernel
theorem d_Si_tellLetters_13 : decode Y_Si_tellLetters.2.1 13 = .ok (.if_icmp .ne 7, 3) := by decide +kernel
theorem d_Si_tellLetters_16 : decode Y_Si_tellLetters.2.1 16 = .ok (.iconst 0, 1) := by decide +kernel
theorem d_Si_tellLetters_17 : decode Y_Si_tellLetters.2.1 17 = .ok (.goto 32, 3) := by decide +kernel
theorem d_Si_tellLetters_20 : decode Y_Si_tellLetters.2.1 20 = .ok (.aload_n 0, 1) := by decide +kernel
theorem d_Si_tellLetters_21 : decode Y_Si_tellLetters.2.1 21 = .ok (.getfield 42, 3) := by decide +kernel
theorem d_Si_tellLetters_24 : decode Y_Si_tellLetters.2.1 24 = .ok (.getfield 136, 3) := by decide +kernel
theorem d_Si_tellLetters_27 : decode Y_Si_tellLetters.2.1 27 = .ok (.iload 4, 2) := by decide +kernel
theorem d_Si_tellLetters_29 : decode Y_Si_tellLetters.2.1 29 = .ok (.iload_n 2, 1) := by decide +kernel
theorem d_Si_tellLetters_30 : decode Y_Si_tellLetters.2.1 30 = .ok (.invokestatic 141, 3) := by decide +kernel
theorem d_Si_tellLetters_33 : decode Y_Si_tellLetters.2.1 33 = .ok (.iaload, 1) := by decide +kernel
theorem d_Si_tellLetters_34 : decode Y_Si_tellLetters.2.1 34 = .ok (.aload_n 0, 1) := by decide +kernel
theorem d_Si_tellLetters_35 : decode Y_Si_tellLetters.2.1 35 = .ok (.getfield 42, 3) := by decide +kernel
theorem d_Si_tellLetters_38 : decode Y_Si_tellLetters.2.1 38 = .ok (.getfield 136, 3) := by decide +kernel
theorem d_Si_tellLetters_41 : decode Y_Si_tellLetters.2.1 41 = .ok (.iload 4, 2) := by decide +kernel
theorem d_Si_tellLetters_43 : decode Y_Si_tellLetters.2.1 43 = .ok (.iload_n 3, 1) := by decide +kernel
theorem d_Si_tellLetters_44 : decode Y_Si_tellLetters.2.1 44 = .ok (.invokestatic 141, 3) := by decide +kernel
theorem d_Si_tellLetters_47 : decode Y_Si_tellLetters.2.1 47 = .ok (.iaload, 1) := by decide +kernel
theorem d_Si_tellLetters_48 : decode Y_Si_tellLetters.2.1 48 = .ok (.isub, 1) := by decide +kernel
theorem d_Si_tellLetters_49 : decode Y_Si_tellLetters.2.1 49 = .ok (.istore 5, 2) := by decide +kernel
theorem d_Si_tellLetters_51 : decode Y_Si_tellLetters.2.1 51 = .ok (.aload_n 0, 1) := by decide +kernel
theorem d_Si_tellLetters_52 : decode Y_Si_tellLetters.2.1 52 = .ok (.getfield 28, 3) := by decide +kernel
theorem d_Si_tellLetters_55 : decode Y_Si_tellLetters.2.1 55 = .ok (.iconst 0, 1) := by decide +kernel
theorem d_Si_tellLetters_56 : decode Y_Si_tellLetters.2.1 56 = .ok (.iload_n 2, 1) := by decide +kernel
theorem d_Si_tellLetters_57 : decode Y_Si_tellLetters.2.1 57 = .ok (.iastore, 1) := by decide +kernel
theorem d_Si_tellLetters_58 : decode Y_Si_tellLetters.2.1 58 = .ok (.aload_n 0, 1) := by decide +kernel
theorem d_Si_tellLetters_59 : decode Y_Si_tellLetters.2.1 59 = .ok (.getfield 28, 3) := by decide +kernel
theorem d_Si_tellLetters_62 : decode Y_Si_tellLetters.2.1 62 = .ok (.iconst 1, 1) := by decide +kernel
theorem d_Si_tellLetters_63 : decode Y_Si_tellLetters.2.1 63 = .ok (.iload 4, 2) := by decide +kernel
theorem d_Si_tellLetters_65 : decode Y_Si_tellLetters.2.1 65 = .ok (.iastore, 1) := by decide +kernel
theorem d_Si_tellLetters_66 : decode Y_Si_tellLetters.2.1 66 = .ok (.aload_n 0, 1) := by decide +kernel
theorem d_Si_tellLetters_67 : decode Y_Si_tellLetters.2.1 67 = .ok (.getfield 28, 3) := by decide +kernel
theorem d_Si_tellLetters_70 : decode Y_Si_tellLetters.2.1 70 = .ok (.iconst 2, 1) := by decide +kernel
theorem d_Si_tellLetters_71 : decode Y_Si_tellLetters.2.1 71 = .ok (.iload_n 1, 1) := by decide +kernel
theorem d_Si_tellLetters_72 : decode Y_Si_tellLetters.2.1 72 = .ok (.iastore, 1) := by decide +kernel
theorem d_Si_tellLetters_73 : decode Y_Si_tellLetters.2.1 73 = .ok (.aload_n 0, 1) := by decide +kernel
theorem d_Si_tellLetters_74 : decode Y_Si_tellLetters.2.1 74 = .ok (.getfield 28, 3) := by decide +kernel
theorem d_Si_tellLetters_77 : decode Y_Si_tellLetters.2.1 77 = .ok (.iconst 3, 1) := by decide +kernel
theorem d_Si_tellLetters_78 : decode Y_Si_tellLetters.2.1 78 = .ok (.aload_n 0, 1) := by decide +kernel
theorem d_Si_tellLetters_79 : decode Y_Si_tellLetters.2.1 79 = .ok (.iload_n 1, 1) := by decide +kernel
theorem d_Si_tellLetters_80 : decode Y_Si_tellLetters.2.1 80 = .ok (.invokevirtual 144, 3) := by decide +kernel
theorem d_Si_tellLetters_83 : decode Y_Si_tellLetters.2.1 83 = .ok (.ifCond .eq 7, 3) := by decide +kernel
theorem d_Si_tellLetters_86 : decode Y_Si_tellLetters.2.1 86 = .ok (.iconst 1, 1) := by decide +kernel
theorem d_Si_tellLetters_87 : decode Y_Si_tellLetters.2.1 87 = .ok (.goto 4, 3) := by decide +kernel
theorem d_Si_tellLetters_90 : decode Y_Si_tellLetters.2.1 90 = .ok (.iconst 0, 1) := by decide +kernel
theorem d_Si_tellLetters_91 : decode Y_Si_tellLetters.2.1 91 = .ok (.iastore, 1) := by decide +kernel
theorem d_Si_tellLetters_92 : decode Y_Si_tellLetters.2.1 92 = .ok (.aload_n 0, 1) := by decide +kernel
theorem d_Si_tellLetters_93 : decode Y_Si_tellLetters.2.1 93 = .ok (.getfield 28, 3) := by decide +kernel
theorem d_Si_tellLetters_96 : decode Y_Si_tellLetters.2.1 96 = .ok (.iconst 4, 1) := by decide +kernel
theorem d_Si_tellLetters_97 : decode Y_Si_tellLetters.2.1 97 = .ok (.aload_n 0, 1) := by decide +kernel
theorem d_Si_tellLetters_98 : decode Y_Si_tellLetters.2.1 98 = .ok (.getfield 46, 3) := by decide +kernel
theorem d_Si_tellLetters_101 : decode Y_Si_tellLetters.2.1 101 = .ok (.getfield 148, 3) := by decide +kernel
theorem d_Si_tellLetters_104 : decode Y_Si_tellLetters.2.1 104 = .ok (.iload_n 1, 1) := by decide +kernel
theorem d_Si_tellLetters_105 : decode Y_Si_tellLetters.2.1 105 = .ok (.iaload, 1) := by decide +kernel
theorem d_Si_tellLetters_106 : decode Y_Si_tellLetters.2.1 106 = .ok (.iastore, 1) := by decide +kernel
theorem d_Si_tellLetters_107 : decode Y_Si_tellLetters.2.1 107 = .ok (.aload_n 0, 1) := by decide +kernel
theorem d_Si_tellLetters_108 : decode Y_Si_tellLetters.2.1 108 = .ok (.getfield 28, 3) := by decide +kernel
theorem d_Si_tellLetters_111 : decode Y_Si_tellLetters.2.1 111 = .ok (.iconst 5, 1) := by decide +kernel
theorem d_Si_tellLetters_112 : decode Y_Si_tellLetters.2.1 112 = .ok (.aload_n 0, 1) := by decide +kernel
theorem d_Si_tellLetters_113 : decode Y_Si_tellLetters.2.1 113 = .ok (.getfield 42, 3) := by decide +kernel
theorem d_Si_tellLetters_116 : decode Y_Si_tellLetters.2.1 116 = .ok (.iload 4, 2) := by decide +kernel
theorem d_Si_tellLetters_118 : decode Y_Si_tellLetters.2.1 118 = .ok (.iload_n 2, 1) := by decide +kernel
theorem d_Si_tellLetters_119 : decode Y_Si_tellLetters.2.1 119 = .ok (.invokevirtual 151, 3) := by decide +kernel
theorem d_Si_tellLetters_122 : decode Y_Si_tellLetters.2.1 122 = .ok (.ifCond .eq 7, 3) := by decide +kernel
theorem d_Si_tellLetters_125 : decode Y_Si_tellLetters.2.1 125 = .ok (.iconst 1, 1) := by decide +kernel
theorem d_Si_tellLetters_126 : decode Y_Si_tellLetters.2.1 126 = .ok (.goto 4, 3) := by decide +kernel
theorem d_Si_tellLetters_129 : decode Y_Si_tellLetters.2.1 129 = .ok (.iconst 0, 1) := by decide +kernel
theorem d_Si_tellLetters_130 : decode Y_Si_tellLetters.2.1 130 = .ok (.iastore, 1) := by decide +kernel
theorem d_Si_tellLetters_131 : decode Y_Si_tellLetters.2.1 131 = .ok (.aload_n 0, 1) := by decide +kernel
theorem d_Si_tellLetters_132 : decode Y_Si_tellLetters.2.1 132 = .ok (.getfield 28, 3) := by decide +kernel
theorem d_Si_tellLetters_135 : decode Y_Si_tellLetters.2.1 135 = .ok (.bipush 6, 2) := by decide +kernel
theorem d_Si_tellLetters_137 : decode Y_Si_tellLetters.2.1 137 = .ok (.iload 5, 2) := by decide +kernel
theorem d_Si_tellLetters_139 : decode Y_Si_tellLetters.2.1 139 = .ok (.invokestatic 154, 3) := by decide +kernel
theorem d_Si_tellLetters_142 : decode Y_Si_tellLetters.2.1 142 = .ok (.iastore, 1) := by decide +kernel
theorem d_Si_tellLetters_143 : decode Y_Si_tellLetters.2.1 143 = .ok (.aload_n 0, 1) := by decide +kernel
theorem d_Si_tellLetters_144 : decode Y_Si_tellLetters.2.1 144 = .ok (.getfield 28, 3) := by decide +kernel
theorem d_Si_tellLetters_147 : decode Y_Si_tellLetters.2.1 147 = .ok (.bipush 7, 2) := by decide +kernel
theorem d_Si_tellLetters_149 : decode Y_Si_tellLetters.2.1 149 = .ok (.iload 5, 2) := by decide +kernel
theorem d_Si_tellLetters_151 : decode Y_Si_tellLetters.2.1 151 = .ok (.ifCond .le 7, 3) := by decide +kernel
theorem d_Si_tellLetters_154 : decode Y_Si_tellLetters.2.1 154 = .ok (.iconst 1, 1) := by decide +kernel
theorem d_Si_tellLetters_155 : decode Y_Si_tellLetters.2.1 155 = .ok (.goto 4, 3) := by decide +kernel
theorem d_Si_tellLetters_158 : decode Y_Si_tellLetters.2.1 158 = .ok (.iconst 0, 1) := by decide +kernel
theorem d_Si_tellLetters_159 : decode Y_Si_tellLetters.2.1 159 = .ok (.iastore, 1) := by decide +kernel
theorem d_Si_tellLetters_160 : decode Y_Si_tellLetters.2.1 160 = .ok (.aload_n 0, 1) := by decide +kernel
theorem d_Si_tellLetters_161 : decode Y_Si_tellLetters.2.1 161 = .ok (.getfield 28, 3) := by decide +kernel
theorem d_Si_tellLetters_164 : decode Y_Si_tellLetters.2.1 164 = .ok (.bipush 8, 2) := by decide +kernel
theorem d_Si_tellLetters_166 : decode Y_Si_tellLetters.2.1 166 = .ok (.aload_n 0, 1) := by decide +kernel
theorem d_Si_tellLetters_167 : decode Y_Si_tellLetters.2.1 167 = .ok (.getfield 42, 3) := by decide +kernel
theorem d_Si_tellLetters_170 : decode Y_Si_tellLetters.2.1 170 = .ok (.iload 4, 2) := by decide +kernel
theorem d_Si_tellLetters_172 : decode Y_Si_tellLetters.2.1 172 = .ok (.iload_n 2, 1) := by decide +kernel
theorem d_Si_tellLetters_173 : decode Y_Si_tellLetters.2.1 173 = .ok (.invokevirtual 159, 3) := by decide +kernel
theorem d_Si_tellLetters_176 : decode Y_Si_tellLetters.2.1 176 = .ok (.ifCond .eq 7, 3) := by decide +kernel
theorem d_Si_tellLetters_179 : decode Y_Si_tellLetters.2.1 179 = .ok (.iconst 1, 1) := by decide +kernel
theorem d_Si_tellLetters_180 : decode Y_Si_tellLetters.2.1 180 = .ok (.goto 4, 3) := by decide +kernel
theorem d_Si_tellLetters_183 : decode Y_Si_tellLetters.2.1 183 = .ok (.iconst 0, 1) := by decide +kernel
theorem d_Si_tellLetters_184 : decode Y_Si_tellLetters.2.1 184 = .ok (.iastore, 1) := by decide +kernel
theorem d_Si_tellLetters_185 : decode Y_Si_tellLetters.2.1 185 = .ok (.aload_n 0, 1) := by decide +kernel
theorem d_Si_tellLetters_186 : decode Y_Si_tellLetters.2.1 186 = .ok (.getfield 28, 3) := by decide +kernel
theorem d_Si_tellLetters_189 : decode Y_Si_tellLetters.2.1 189 = .ok (.bipush 9, 2) := by decide +kernel
theorem d_Si_tellLetters_191 : decode Y_Si_tellLetters.2.1 191 = .ok (.aload_n 0, 1) := by decide +kernel
theorem d_Si_tellLetters_192 : decode Y_Si_tellLetters.2.1 192 = .ok (.getfield 84, 3) := by decide +kernel
theorem d_Si_tellLetters_195 : decode Y_Si_tellLetters.2.1 195 = .ok (.iastore, 1) := by decide +kernel
theorem d_Si_tellLetters_196 : decode Y_Si_tellLetters.2.1 196 = .ok (.aload_n 0, 1) := by decide +kernel
theorem d_Si_tellLetters_197 : decode Y_Si_tellLetters.2.1 197 = .ok (.getfield 28, 3) := by decide +kernel
theorem d_Si_tellLetters_200 : decode Y_Si_tellLetters.2.1 200 = .ok (.bipush 10, 2) := by decide +kernel
theorem d_Si_tellLetters_202 : decode Y_Si_tellLetters.2.1 202 = .ok (.iload_n 3, 1) := by decide +kernel
theorem d_Si_tellLetters_203 : decode Y_Si_tellLetters.2.1 203 = .ok (.iconst (-1), 1) := by decide +kernel
theorem d_Si_tellLetters_204 : decode Y_Si_tellLetters.2.1 204 = .ok (.if_icmp .ne 7, 3) := by decide +kernel
theorem d_Si_tellLetters_207 : decode Y_Si_tellLetters.2.1 207 = .ok (.iconst 0, 1) := by decide +kernel
theorem d_Si_tellLetters_208 : decode Y_Si_tellLetters.2.1 208 = .ok (.goto 23, 3) := by decide +kernel
theorem d_Si_tellLetters_211 : decode Y_Si_tellLetters.2.1 211 = .ok (.aload_n 0, 1) := by decide +kernel
theorem d_Si_tellLetters_212 : decode Y_Si_tellLetters.2.1 212 = .ok (.iload_n 1, 1) := by decide +kernel
theorem d_Si_tellLetters_213 : decode Y_Si_tellLetters.2.1 213 = .ok (.iload_n 3, 1) := by decide +kernel
theorem d_Si_tellLetters_214 : decode Y_Si_tellLetters.2.1 214 = .ok (.invokevirtual 106, 3) := by decide +kernel
theorem d_Si_tellLetters_217 : decode Y_Si_tellLetters.2.1 217 = .ok (.aload_n 0, 1) := by decide +kernel
theorem d_Si_tellLetters_218 : decode Y_Si_tellLetters.2.1 218 = .ok (.getfield 15, 3) := by decide +kernel
theorem d_Si_tellLetters_221 : decode Y_Si_tellLetters.2.1 221 = .ok (.iload_n 1, 1) := by decide +kernel
theorem d_Si_tellLetters_222 : decode Y_Si_tellLetters.2.1 222 = .ok (.laload, 1) := by decide +kernel
theorem d_Si_tellLetters_223 : decode Y_Si_tellLetters.2.1 223 = .ok (.lsub, 1) := by decide +kernel
theorem d_Si_tellLetters_224 : decode Y_Si_tellLetters.2.1 224 = .ok (.ldc2_w 162, 3) := by decide +kernel
theorem d_Si_tellLetters_227 : decode Y_Si_tellLetters.2.1 227 = .ok (.invokestatic 164, 3) := by decide +kernel
theorem d_Si_tellLetters_230 : decode Y_Si_tellLetters.2.1 230 = .ok (.l2i, 1) := by decide +kernel
theorem d_Si_tellLetters_231 : decode Y_Si_tellLetters.2.1 231 = .ok (.iastore, 1) := by decide +kernel
theorem d_Si_tellLetters_232 : decode Y_Si_tellLetters.2.1 232 = .ok (.aload_n 0, 1) := by decide +kernel
theorem d_Si_tellLetters_233 : decode Y_Si_tellLetters.2.1 233 = .ok (.getfield 28, 3) := by decide +kernel
theorem d_Si_tellLetters_236 : decode Y_Si_tellLetters.2.1 236 = .ok (.bipush 11, 2) := by decide +kernel
theorem d_Si_tellLetters_238 : decode Y_Si_tellLetters.2.1 238 = .ok (.aload_n 0, 1) := by decide +kernel
theorem d_Si_tellLetters_239 : decode Y_Si_tellLetters.2.1 239 = .ok (.getfield 75, 3) := by decide +kernel
theorem d_Si_tellLetters_242 : decode Y_Si_tellLetters.2.1 242 = .ok (.bipush 100, 2) := by decide +kernel
theorem d_Si_tellLetters_244 : decode Y_Si_tellLetters.2.1 244 = .ok (.irem, 1) := by decide +kernel
theorem d_Si_tellLetters_245 : decode Y_Si_tellLetters.2.1 245 = .ok (.iastore, 1) := by decide +kernel
theorem d_Si_tellLetters_246 : decode Y_Si_tellLetters.2.1 246 = .ok (.return_, 1) := by decide +kernel
theorem d_Pr_reckoned_0 : decode Y_Pr_reckoned.2.1 0 = .ok (.iload_n 0, 1) := by decide +kernel
theorem d_Pr_reckoned_1 : decode Y_Pr_reckoned.2.1 1 = .ok (.tableswitch 101 2 8 #[43, 47, 51, 55, 67, 79, 90], 43) := by decide +kernel
theorem d_Pr_reckoned_44 : decode Y_Pr_reckoned.2.1 44 = .ok (.iload_n 1, 1) := by decide +kernel
theorem d_Pr_reckoned_45 : decode Y_Pr_reckoned.2.1 45 = .ok (.iload_n 2, 1) := by decide +kernel
theorem d_Pr_reckoned_46 : decode Y_Pr_reckoned.2.1 46 = .ok (.iadd, 1) := by decide +kernel
theorem d_Pr_reckoned_47 : decode Y_Pr_reckoned.2.1 47 = .ok (.ireturn, 1) := by decide +kernel
theorem d_Pr_reckoned_48 : decode Y_Pr_reckoned.2.1 48 = .ok (.iload_n 1, 1) := by decide +kernel
theorem d_Pr_reckoned_49 : decode Y_Pr_reckoned.2.1 49 = .ok (.iload_n 2, 1) := by decide +kernel
theorem d_Pr_reckoned_50 : decode Y_Pr_reckoned.2.1 50 = .ok (.isub, 1) := by decide +kernel
theorem d_Pr_reckoned_51 : decode Y_Pr_reckoned.2.1 51 = .ok (.ireturn, 1) := by decide +kernel
theorem d_Pr_reckoned_52 : decode Y_Pr_reckoned.2.1 52 = .ok (.iload_n 1, 1) := by decide +kernel
theorem d_Pr_reckoned_53 : decode Y_Pr_reckoned.2.1 53 = .ok (.iload_n 2, 1) := by decide +kernel
theorem d_Pr_reckoned_54 : decode Y_Pr_reckoned.2.1 54 = .ok (.imul, 1) := by decide +kernel
theorem d_Pr_reckoned_55 : decode Y_Pr_reckoned.2.1 55 = .ok (.ireturn, 1) := by decide +kernel
theorem d_Pr_reckoned_56 : decode Y_Pr_reckoned.2.1 56 = .ok (.iload_n 2, 1) := by decide +kernel
theorem d_Pr_reckoned_57 : decode Y_Pr_reckoned.2.1 57 = .ok (.ifCond .ne 7, 3) := by decide +kernel
theorem d_Pr_reckoned_60 : decode Y_Pr_reckoned.2.1 60 = .ok (.iconst 0, 1) := by decide +kernel
theorem d_Pr_reckoned_61 : decode Y_Pr_reckoned.2.1 61 = .ok (.goto 6, 3) := by decide +kernel
theorem d_Pr_reckoned_64 : decode Y_Pr_reckoned.2.1 64 = .ok (.iload_n 1, 1) := by decide +kernel
theorem d_Pr_reckoned_65 : decode Y_Pr_reckoned.2.1 65 = .ok (.iload_n 2, 1) := by decide +kernel
theorem d_Pr_reckoned_66 : decode Y_Pr_reckoned.2.1 66 = .ok (.idiv, 1) := by decide +kernel
theorem d_Pr_reckoned_67 : decode Y_Pr_reckoned.2.1 67 = .ok (.ireturn, 1) := by decide +kernel
theorem d_Pr_reckoned_68 : decode Y_Pr_reckoned.2.1 68 = .ok (.iload_n 2, 1) := by decide +kernel
theorem d_Pr_reckoned_69 : decode Y_Pr_reckoned.2.1 69 = .ok (.ifCond .ne 7, 3) := by decide +kernel
theorem d_Pr_reckoned_72 : decode Y_Pr_reckoned.2.1 72 = .ok (.iconst 0, 1) := by decide +kernel
theorem d_Pr_reckoned_73 : decode Y_Pr_reckoned.2.1 73 = .ok (.goto 6, 3) := by decide +kernel
theorem d_Pr_reckoned_76 : decode Y_Pr_reckoned.2.1 76 = .ok (.iload_n 1, 1) := by decide +kernel
theorem d_Pr_reckoned_77 : decode Y_Pr_reckoned.2.1 77 = .ok (.iload_n 2, 1) := by decide +kernel
theorem d_Pr_reckoned_78 : decode Y_Pr_reckoned.2.1 78 = .ok (.irem, 1) := by decide +kernel
theorem d_Pr_reckoned_79 : decode Y_Pr_reckoned.2.1 79 = .ok (.ireturn, 1) := by decide +kernel
theorem d_Pr_reckoned_80 : decode Y_Pr_reckoned.2.1 80 = .ok (.iload_n 1, 1) := by decide +kernel
theorem d_Pr_reckoned_81 : decode Y_Pr_reckoned.2.1 81 = .ok (.iload_n 2, 1) := by decide +kernel
theorem d_Pr_reckoned_82 : decode Y_Pr_reckoned.2.1 82 = .ok (.if_icmp .ge 7, 3) := by decide +kernel
theorem d_Pr_reckoned_85 : decode Y_Pr_reckoned.2.1 85 = .ok (.iconst 1, 1) := by decide +kernel
theorem d_Pr_reckoned_86 : decode Y_Pr_reckoned.2.1 86 = .ok (.goto 4, 3) := by decide +kernel
theorem d_Pr_reckoned_89 : decode Y_Pr_reckoned.2.1 89 = .ok (.iconst 0, 1) := by decide +kernel
theorem d_Pr_reckoned_90 : decode Y_Pr_reckoned.2.1 90 = .ok (.ireturn, 1) := by decide +kernel
theorem d_Pr_reckoned_91 : decode Y_Pr_reckoned.2.1 91 = .ok (.iload_n 1, 1) := by decide +kernel
theorem d_Pr_reckoned_92 : decode Y_Pr_reckoned.2.1 92 = .ok (.iload_n 2, 1) := by decide +kernel
theorem d_Pr_reckoned_93 : decode Y_Pr_reckoned.2.1 93 = .ok (.if_icmp .le 7, 3) := by decide +kernel
theorem d_Pr_reckoned_96 : decode Y_Pr_reckoned.2.1 96 = .ok (.iconst 1, 1) := by decide +kernel
theorem d_Pr_reckoned_97 : decode Y_Pr_reckoned.2.1 97 = .ok (.goto 4, 3) := by decide +kernel
theorem d_Pr_reckoned_100 : decode Y_Pr_reckoned.2.1 100 = .ok (.iconst 0, 1) := by decide +kernel
theorem d_Pr_reckoned_101 : decode Y_Pr_reckoned.2.1 101 = .ok (.ireturn, 1) := by decide +kernel
theorem d_Pr_reckoned_102 : decode Y_Pr_reckoned.2.1 102 = .ok (.iload_n 1, 1) := by decide +kernel
theorem d_Pr_reckoned_103 : decode Y_Pr_reckoned.2.1 103 = .ok (.iload_n 2, 1) := by decide +kernel
theorem d_Pr_reckoned_104 : decode Y_Pr_reckoned.2.1 104 = .ok (.if_icmp .ne 7, 3) := by decide +kernel
theorem d_Pr_reckoned_107 : decode Y_Pr_reckoned.2.1 107 = .ok (.iconst 1, 1) := by decide +kernel
theorem d_Pr_reckoned_108 : decode Y_Pr_reckoned.2.1 108 = .ok (.goto 4, 3) := by decide +kernel
theorem d_Pr_reckoned_111 : decode Y_Pr_reckoned.2.1 111 = .ok (.iconst 0, 1) := by decide +kernel
theorem d_Pr_reckoned_112 : decode Y_Pr_reckoned.2.1 112 = .ok (.ireturn, 1) := by decide +kernel
theorem d_Pr_reckon_0 : decode Y_Pr_reckon.2.1 0 = .ok (.iconst (-1), 1) := by decide +kernel
theorem d_Pr_reckon_1 : decode Y_Pr_reckon.2.1 1 = .ok (.istore 4, 2) := by decide +kernel
theorem d_Pr_reckon_3 : decode Y_Pr_reckon.2.1 3 = .ok (.iload_n 1, 1) := by decide +kernel
theorem d_Pr_reckon_4 : decode Y_Pr_reckon.2.1 4 = .ok (.istore 5, 2) := by decide +kernel
theorem d_Pr_reckon_6 : decode Y_Pr_reckon.2.1 6 = .ok (.iload 5, 2) := by decide +kernel
theorem d_Pr_reckon_8 : decode Y_Pr_reckon.2.1 8 = .ok (.iload_n 2, 1) := by decide +kernel
theorem d_Pr_reckon_9 : decode Y_Pr_reckon.2.1 9 = .ok (.if_icmp .ge 260, 3) := by decide +kernel
theorem d_Pr_reckon_12 : decode Y_Pr_reckon.2.1 12 = .ok (.iload 5, 2) := by decide +kernel
theorem d_Pr_reckon_14 : decode Y_Pr_reckon.2.1 14 = .ok (.aload_n 0, 1) := by decide +kernel
theorem d_Pr_reckon_15 : decode Y_Pr_reckon.2.1 15 = .ok (.getfield 32, 3) := by decide +kernel
theorem d_Pr_reckon_18 : decode Y_Pr_reckon.2.1 18 = .ok (.if_icmp .ge 251, 3) := by decide +kernel
theorem d_Pr_reckon_21 : decode Y_Pr_reckon.2.1 21 = .ok (.aload_n 0, 1) := by decide +kernel
theorem d_Pr_reckon_22 : decode Y_Pr_reckon.2.1 22 = .ok (.getfield 11, 3) := by decide +kernel
theorem d_Pr_reckon_25 : decode Y_Pr_reckon.2.1 25 = .ok (.iload 5, 2) := by decide +kernel
theorem d_Pr_reckon_27 : decode Y_Pr_reckon.2.1 27 = .ok (.iaload, 1) := by decide +kernel
theorem d_Pr_reckon_28 : decode Y_Pr_reckon.2.1 28 = .ok (.istore 6, 2) := by decide +kernel
theorem d_Pr_reckon_30 : decode Y_Pr_reckon.2.1 30 = .ok (.aload_n 0, 1) := by decide +kernel
theorem d_Pr_reckon_31 : decode Y_Pr_reckon.2.1 31 = .ok (.getfield 17, 3) := by decide +kernel
theorem d_Pr_reckon_34 : decode Y_Pr_reckon.2.1 34 = .ok (.iload 5, 2) := by decide +kernel
theorem d_Pr_reckon_36 : decode Y_Pr_reckon.2.1 36 = .ok (.iaload, 1) := by decide +kernel
theorem d_Pr_reckon_37 : decode Y_Pr_reckon.2.1 37 = .ok (.istore 7, 2) := by decide +kernel
theorem d_Pr_reckon_39 : decode Y_Pr_reckon.2.1 39 = .ok (.iload 6, 2) := by decide +kernel
theorem d_Pr_reckon_41 : decode Y_Pr_reckon.2.1 41 = .ok (.ifCond .eq 9, 3) := by decide +kernel
theorem d_Pr_reckon_44 : decode Y_Pr_reckon.2.1 44 = .ok (.iload 6, 2) := by decide +kernel
theorem d_Pr_reckon_46 : decode Y_Pr_reckon.2.1 46 = .ok (.iconst 1, 1) := by decide +kernel
theorem d_Pr_reckon_47 : decode Y_Pr_reckon.2.1 47 = .ok (.if_icmp .ne 57, 3) := by decide +kernel
theorem d_Pr_reckon_50 : decode Y_Pr_reckon.2.1 50 = .ok (.iinc 4 1, 3) := by decide +kernel
theorem d_Pr_reckon_53 : decode Y_Pr_reckon.2.1 53 = .ok (.iload 4, 2) := by decide +kernel
theorem d_Pr_reckon_55 : decode Y_Pr_reckon.2.1 55 = .ok (.bipush 64, 2) := by decide +kernel
theorem d_Pr_reckon_57 : decode Y_Pr_reckon.2.1 57 = .ok (.if_icmp .ge 21, 3) := by decide +kernel
theorem d_Pr_reckon_60 : decode Y_Pr_reckon.2.1 60 = .ok (.iload 6, 2) := by decide +kernel
theorem d_Pr_reckon_62 : decode Y_Pr_reckon.2.1 62 = .ok (.iconst 1, 1) := by decide +kernel
theorem d_Pr_reckon_63 : decode Y_Pr_reckon.2.1 63 = .ok (.if_icmp .ne 17, 3) := by decide +kernel
theorem d_Pr_reckon_66 : decode Y_Pr_reckon.2.1 66 = .ok (.iload 7, 2) := by decide +kernel
theorem d_Pr_reckon_68 : decode Y_Pr_reckon.2.1 68 = .ok (.ifCond .lt 10, 3) := by decide +kernel
theorem d_Pr_reckon_71 : decode Y_Pr_reckon.2.1 71 = .ok (.iload 7, 2) := by decide +kernel
theorem d_Pr_reckon_73 : decode Y_Pr_reckon.2.1 73 = .ok (.aload_n 3, 1) := by decide +kernel
theorem d_Pr_reckon_74 : decode Y_Pr_reckon.2.1 74 = .ok (.arraylength, 1) := by decide +kernel
theorem d_Pr_reckon_75 : decode Y_Pr_reckon.2.1 75 = .ok (.if_icmp .lt 5, 3) := by decide +kernel
theorem d_Pr_reckon_78 : decode Y_Pr_reckon.2.1 78 = .ok (.iconst 0, 1) := by decide +kernel
theorem d_Pr_reckon_79 : decode Y_Pr_reckon.2.1 79 = .ok (.ireturn, 1) := by decide +kernel
theorem d_Pr_reckon_80 : decode Y_Pr_reckon.2.1 80 = .ok (.aload_n 0, 1) := by decide +kernel
theorem d_Pr_reckon_81 : decode Y_Pr_reckon.2.1 81 = .ok (.getfield 20, 3) := by decide +kernel
theorem d_Pr_reckon_84 : decode Y_Pr_reckon.2.1 84 = .ok (.iload 4, 2) := by decide +kernel
theorem d_Pr_reckon_86 : decode Y_Pr_reckon.2.1 86 = .ok (.iload 6, 2) := by decide +kernel
theorem d_Pr_reckon_88 : decode Y_Pr_reckon.2.1 88 = .ok (.ifCond .ne 8, 3) := by decide +kernel
theorem d_Pr_reckon_91 : decode Y_Pr_reckon.2.1 91 = .ok (.iload 7, 2) := by decide +kernel
theorem d_Pr_reckon_93 : decode Y_Pr_reckon.2.1 93 = .ok (.goto 7, 3) := by decide +kernel
theorem d_Pr_reckon_96 : decode Y_Pr_reckon.2.1 96 = .ok (.aload_n 3, 1) := by decide +kernel
theorem d_Pr_reckon_97 : decode Y_Pr_reckon.2.1 97 = .ok (.iload 7, 2) := by decide +kernel
theorem d_Pr_reckon_99 : decode Y_Pr_reckon.2.1 99 = .ok (.iaload, 1) := by decide +kernel
theorem d_Pr_reckon_100 : decode Y_Pr_reckon.2.1 100 = .ok (.iastore, 1) := by decide +kernel
theorem d_Pr_reckon_101 : decode Y_Pr_reckon.2.1 101 = .ok (.goto 162, 3) := by decide +kernel
theorem d_Pr_reckon_104 : decode Y_Pr_reckon.2.1 104 = .ok (.iload 4, 2) := by decide +kernel
theorem d_Pr_reckon_106 : decode Y_Pr_reckon.2.1 106 = .ok (.ifCond .ge 5, 3) := by decide +kernel
theorem d_Pr_reckon_109 : decode Y_Pr_reckon.2.1 109 = .ok (.iconst 0, 1) := by decide +kernel
theorem d_Pr_reckon_110 : decode Y_Pr_reckon.2.1 110 = .ok (.ireturn, 1) := by decide +kernel
theorem d_Pr_reckon_111 : decode Y_Pr_reckon.2.1 111 = .ok (.iload 6, 2) := by decide +kernel
theorem d_Pr_reckon_113 : decode Y_Pr_reckon.2.1 113 = .ok (.bipush 10, 2) := by decide +kernel
theorem d_Pr_reckon_115 : decode Y_Pr_reckon.2.1 115 = .ok (.if_icmp .ne 22, 3) := by decide +kernel
theorem d_Pr_reckon_118 : decode Y_Pr_reckon.2.1 118 = .ok (.aload_n 0, 1) := by decide +kernel
theorem d_Pr_reckon_119 : decode Y_Pr_reckon.2.1 119 = .ok (.getfield 20, 3) := by decide +kernel
theorem d_Pr_reckon_122 : decode Y_Pr_reckon.2.1 122 = .ok (.iload 4, 2) := by decide +kernel
theorem d_Pr_reckon_124 : decode Y_Pr_reckon.2.1 124 = .ok (.iconst 1, 1) := by decide +kernel
theorem d_Pr_reckon_125 : decode Y_Pr_reckon.2.1 125 = .ok (.aload_n 0, 1) := by decide +kernel
theorem d_Pr_reckon_126 : decode Y_Pr_reckon.2.1 126 = .ok (.getfield 20, 3) := by decide +kernel
theorem d_Pr_reckon_129 : decode Y_Pr_reckon.2.1 129 = .ok (.iload 4, 2) := by decide +kernel
theorem d_Pr_reckon_131 : decode Y_Pr_reckon.2.1 131 = .ok (.iaload, 1) := by decide +kernel
theorem d_Pr_reckon_132 : decode Y_Pr_reckon.2.1 132 = .ok (.isub, 1) := by decide +kernel
theorem d_Pr_reckon_133 : decode Y_Pr_reckon.2.1 133 = .ok (.iastore, 1) := by decide +kernel
theorem d_Pr_reckon_134 : decode Y_Pr_reckon.2.1 134 = .ok (.goto 129, 3) := by decide +kernel
theorem d_Pr_reckon_137 : decode Y_Pr_reckon.2.1 137 = .ok (.iload 6, 2) := by decide +kernel
theorem d_Pr_reckon_139 : decode Y_Pr_reckon.2.1 139 = .ok (.bipush 11, 2) := by decide +kernel
theorem d_Pr_reckon_141 : decode Y_Pr_reckon.2.1 141 = .ok (.if_icmp .eq 10, 3) := by decide +kernel
theorem d_Pr_reckon_144 : decode Y_Pr_reckon.2.1 144 = .ok (.iload 6, 2) := by decide +kernel
theorem d_Pr_reckon_146 : decode Y_Pr_reckon.2.1 146 = .ok (.bipush 12, 2) := by decide +kernel
theorem d_Pr_reckon_148 : decode Y_Pr_reckon.2.1 148 = .ok (.if_icmp .ne 53, 3) := by decide +kernel
theorem d_Pr_reckon_151 : decode Y_Pr_reckon.2.1 151 = .ok (.aload_n 0, 1) := by decide +kernel
theorem d_Pr_reckon_152 : decode Y_Pr_reckon.2.1 152 = .ok (.getfield 20, 3) := by decide +kernel
theorem d_Pr_reckon_155 : decode Y_Pr_reckon.2.1 155 = .ok (.iload 4, 2) := by decide +kernel
theorem d_Pr_reckon_157 : decode Y_Pr_reckon.2.1 157 = .ok (.iaload, 1) := by decide +kernel
theorem d_Pr_reckon_158 : decode Y_Pr_reckon.2.1 158 = .ok (.ifCond .ne 7, 3) := by decide +kernel
theorem d_Pr_reckon_161 : decode Y_Pr_reckon.2.1 161 = .ok (.iconst 1, 1) := by decide +kernel
theorem d_Pr_reckon_162 : decode Y_Pr_reckon.2.1 162 = .ok (.goto 4, 3) := by decide +kernel
theorem d_Pr_reckon_165 : decode Y_Pr_reckon.2.1 165 = .ok (.iconst 0, 1) := by decide +kernel
theorem d_Pr_reckon_166 : decode Y_Pr_reckon.2.1 166 = .ok (.iload 6, 2) := by decide +kernel
theorem d_Pr_reckon_168 : decode Y_Pr_reckon.2.1 168 = .ok (.bipush 11, 2) := by decide +kernel
theorem d_Pr_reckon_170 : decode Y_Pr_reckon.2.1 170 = .ok (.if_icmp .ne 7, 3) := by decide +kernel
theorem d_Pr_reckon_173 : decode Y_Pr_reckon.2.1 173 = .ok (.iconst 1, 1) := by decide +kernel
theorem d_Pr_reckon_174 : decode Y_Pr_reckon.2.1 174 = .ok (.goto 4, 3) := by decide +kernel
theorem d_Pr_reckon_177 : decode Y_Pr_reckon.2.1 177 = .ok (.iconst 0, 1) := by decide +kernel
theorem d_Pr_reckon_178 : decode Y_Pr_reckon.2.1 178 = .ok (.if_icmp .ne 17, 3) := by decide +kernel
theorem d_Pr_reckon_181 : decode Y_Pr_reckon.2.1 181 = .ok (.iload 5, 2) := by decide +kernel
theorem d_Pr_reckon_183 : decode Y_Pr_reckon.2.1 183 = .ok (.iload 7, 2) := by decide +kernel
theorem d_Pr_reckon_185 : decode Y_Pr_reckon.2.1 185 = .ok (.iconst 1, 1) := by decide +kernel
theorem d_Pr_reckon_186 : decode Y_Pr_reckon.2.1 186 = .ok (.isub, 1) := by decide +kernel
theorem d_Pr_reckon_187 : decode Y_Pr_reckon.2.1 187 = .ok (.invokestatic 53, 3) := by decide +kernel
theorem d_Pr_reckon_190 : decode Y_Pr_reckon.2.1 190 = .ok (.istore 5, 2) := by decide +kernel
theorem d_Pr_reckon_192 : decode Y_Pr_reckon.2.1 192 = .ok (.goto 71, 3) := by decide +kernel
theorem d_Pr_reckon_195 : decode Y_Pr_reckon.2.1 195 = .ok (.iinc 4 (-1), 3) := by decide +kernel
theorem d_Pr_reckon_198 : decode Y_Pr_reckon.2.1 198 = .ok (.goto 65, 3) := by decide +kernel
theorem d_Pr_reckon_201 : decode Y_Pr_reckon.2.1 201 = .ok (.iload 4, 2) := by decide +kernel
theorem d_Pr_reckon_203 : decode Y_Pr_reckon.2.1 203 = .ok (.iconst 1, 1) := by decide +kernel
theorem d_Pr_reckon_204 : decode Y_Pr_reckon.2.1 204 = .ok (.if_icmp .lt 26, 3) := by decide +kernel
theorem d_Pr_reckon_207 : decode Y_Pr_reckon.2.1 207 = .ok (.aload_n 0, 1) := by decide +kernel
theorem d_Pr_reckon_208 : decode Y_Pr_reckon.2.1 208 = .ok (.getfield 20, 3) := by decide +kernel
theorem d_Pr_reckon_211 : decode Y_Pr_reckon.2.1 211 = .ok (.iload 4, 2) := by decide +kernel
theorem d_Pr_reckon_213 : decode Y_Pr_reckon.2.1 213 = .ok (.iaload, 1) := by decide +kernel
theorem d_Pr_reckon_214 : decode Y_Pr_reckon.2.1 214 = .ok (.ifCond .ne 18, 3) := by decide +kernel
theorem d_Pr_reckon_217 : decode Y_Pr_reckon.2.1 217 = .ok (.iload 6, 2) := by decide +kernel
theorem d_Pr_reckon_219 : decode Y_Pr_reckon.2.1 219 = .ok (.iconst 5, 1) := by decide +kernel
theorem d_Pr_reckon_220 : decode Y_Pr_reckon.2.1 220 = .ok (.if_icmp .eq 10, 3) := by decide +kernel
theorem d_Pr_reckon_223 : decode Y_Pr_reckon.2.1 223 = .ok (.iload 6, 2) := by decide +kernel
theorem d_Pr_reckon_225 : decode Y_Pr_reckon.2.1 225 = .ok (.bipush 6, 2) := by decide +kernel
theorem d_Pr_reckon_227 : decode Y_Pr_reckon.2.1 227 = .ok (.if_icmp .ne 5, 3) := by decide +kernel
theorem d_Pr_reckon_230 : decode Y_Pr_reckon.2.1 230 = .ok (.iconst 0, 1) := by decide +kernel
theorem d_Pr_reckon_231 : decode Y_Pr_reckon.2.1 231 = .ok (.ireturn, 1) := by decide +kernel
theorem d_Pr_reckon_232 : decode Y_Pr_reckon.2.1 232 = .ok (.iinc 4 (-1), 3) := by decide +kernel
theorem d_Pr_reckon_235 : decode Y_Pr_reckon.2.1 235 = .ok (.aload_n 0, 1) := by decide +kernel
theorem d_Pr_reckon_236 : decode Y_Pr_reckon.2.1 236 = .ok (.getfield 20, 3) := by decide +kernel
theorem d_Pr_reckon_239 : decode Y_Pr_reckon.2.1 239 = .ok (.iload 4, 2) := by decide +kernel
theorem d_Pr_reckon_241 : decode Y_Pr_reckon.2.1 241 = .ok (.iload 6, 2) := by decide +kernel
theorem d_Pr_reckon_243 : decode Y_Pr_reckon.2.1 243 = .ok (.aload_n 0, 1) := by decide +kernel
theorem d_Pr_reckon_244 : decode Y_Pr_reckon.2.1 244 = .ok (.getfield 20, 3) := by decide +kernel
theorem d_Pr_reckon_247 : decode Y_Pr_reckon.2.1 247 = .ok (.iload 4, 2) := by decide +kernel
theorem d_Pr_reckon_249 : decode Y_Pr_reckon.2.1 249 = .ok (.iaload, 1) := by decide +kernel
theorem d_Pr_reckon_250 : decode Y_Pr_reckon.2.1 250 = .ok (.aload_n 0, 1) := by decide +kernel
theorem d_Pr_reckon_251 : decode Y_Pr_reckon.2.1 251 = .ok (.getfield 20, 3) := by decide +kernel
theorem d_Pr_reckon_254 : decode Y_Pr_reckon.2.1 254 = .ok (.iload 4, 2) := by decide +kernel
theorem d_Pr_reckon_256 : decode Y_Pr_reckon.2.1 256 = .ok (.iconst 1, 1) := by decide +kernel
theorem d_Pr_reckon_257 : decode Y_Pr_reckon.2.1 257 = .ok (.iadd, 1) := by decide +kernel
theorem d_Pr_reckon_258 : decode Y_Pr_reckon.2.1 258 = .ok (.iaload, 1) := by decide +kernel
theorem d_Pr_reckon_259 : decode Y_Pr_reckon.2.1 259 = .ok (.invokestatic 58, 3) := by decide +kernel
theorem d_Pr_reckon_262 : decode Y_Pr_reckon.2.1 262 = .ok (.iastore, 1) := by decide +kernel
theorem d_Pr_reckon_263 : decode Y_Pr_reckon.2.1 263 = .ok (.iinc 5 1, 3) := by decide +kernel
theorem d_Pr_reckon_266 : decode Y_Pr_reckon.2.1 266 = .ok (.goto (-260), 3) := by decide +kernel
theorem d_Pr_reckon_269 : decode Y_Pr_reckon.2.1 269 = .ok (.iload 4, 2) := by decide +kernel
theorem d_Pr_reckon_271 : decode Y_Pr_reckon.2.1 271 = .ok (.ifCond .ne 7, 3) := by decide +kernel
theorem d_Pr_reckon_274 : decode Y_Pr_reckon.2.1 274 = .ok (.iconst 1, 1) := by decide +kernel
theorem d_Pr_reckon_275 : decode Y_Pr_reckon.2.1 275 = .ok (.goto 4, 3) := by decide +kernel
theorem d_Pr_reckon_278 : decode Y_Pr_reckon.2.1 278 = .ok (.iconst 0, 1) := by decide +kernel
theorem d_Pr_reckon_279 : decode Y_Pr_reckon.2.1 279 = .ok (.ireturn, 1) := by decide +kernel
theorem d_Pr_within_0 : decode Y_Pr_within.2.1 0 = .ok (.iload_n 0, 1) := by decide +kernel
theorem d_Pr_within_1 : decode Y_Pr_within.2.1 1 = .ok (.iconst 4, 1) := by decide +kernel
theorem d_Pr_within_2 : decode Y_Pr_within.2.1 2 = .ok (.if_icmp .ne 9, 3) := by decide +kernel
theorem d_Pr_within_5 : decode Y_Pr_within.2.1 5 = .ok (.sipush (-20000), 3) := by decide +kernel
theorem d_Pr_within_8 : decode Y_Pr_within.2.1 8 = .ok (.goto 4, 3) := by decide +kernel
theorem d_Pr_within_11 : decode Y_Pr_within.2.1 11 = .ok (.iconst 0, 1) := by decide +kernel
theorem d_Pr_within_12 : decode Y_Pr_within.2.1 12 = .ok (.istore_n 2, 1) := by decide +kernel
theorem d_Pr_within_13 : decode Y_Pr_within.2.1 13 = .ok (.iload_n 0, 1) := by decide +kernel
theorem d_Pr_within_14 : decode Y_Pr_within.2.1 14 = .ok (.iconst 4, 1) := by decide +kernel
theorem d_Pr_within_15 : decode Y_Pr_within.2.1 15 = .ok (.if_icmp .ne 9, 3) := by decide +kernel
theorem d_Pr_within_18 : decode Y_Pr_within.2.1 18 = .ok (.sipush 20000, 3) := by decide +kernel
theorem d_Pr_within_21 : decode Y_Pr_within.2.1 21 = .ok (.goto 5, 3) := by decide +kernel
theorem d_Pr_within_24 : decode Y_Pr_within.2.1 24 = .ok (.bipush 100, 2) := by decide +kernel
theorem d_Pr_within_26 : decode Y_Pr_within.2.1 26 = .ok (.istore_n 3, 1) := by decide +kernel
theorem d_Pr_within_27 : decode Y_Pr_within.2.1 27 = .ok (.iload_n 1, 1) := by decide +kernel
theorem d_Pr_within_28 : decode Y_Pr_within.2.1 28 = .ok (.iload_n 2, 1) := by decide +kernel
theorem d_Pr_within_29 : decode Y_Pr_within.2.1 29 = .ok (.if_icmp .ge 7, 3) := by decide +kernel
theorem d_Pr_within_32 : decode Y_Pr_within.2.1 32 = .ok (.iload_n 2, 1) := by decide +kernel
theorem d_Pr_within_33 : decode Y_Pr_within.2.1 33 = .ok (.goto 13, 3) := by decide +kernel
theorem d_Pr_within_36 : decode Y_Pr_within.2.1 36 = .ok (.iload_n 1, 1) := by decide +kernel
theorem d_Pr_within_37 : decode Y_Pr_within.2.1 37 = .ok (.iload_n 3, 1) := by decide +kernel
theorem d_Pr_within_38 : decode Y_Pr_within.2.1 38 = .ok (.if_icmp .le 7, 3) := by decide +kernel
theorem d_Pr_within_41 : decode Y_Pr_within.2.1 41 = .ok (.iload_n 3, 1) := by decide +kernel
theorem d_Pr_within_42 : decode Y_Pr_within.2.1 42 = .ok (.goto 4, 3) := by decide +kernel
theorem d_Pr_within_45 : decode Y_Pr_within.2.1 45 = .ok (.iload_n 1, 1) := by decide +kernel
theorem d_Pr_within_46 : decode Y_Pr_within.2.1 46 = .ok (.ireturn, 1) := by decide +kernel
theorem d_Pr_weigh_0 : decode Y_Pr_weigh.2.1 0 = .ok (.iconst 0, 1) := by decide +kernel
theorem d_Pr_weigh_1 : decode Y_Pr_weigh.2.1 1 = .ok (.istore_n 3, 1) := by decide +kernel
theorem d_Pr_weigh_2 : decode Y_Pr_weigh.2.1 2 = .ok (.aload_n 2, 1) := by decide +kernel
theorem d_Pr_weigh_3 : decode Y_Pr_weigh.2.1 3 = .ok (.iconst 0, 1) := by decide +kernel
theorem d_Pr_weigh_4 : decode Y_Pr_weigh.2.1 4 = .ok (.invokestatic 39, 3) := by decide +kernel
theorem d_Pr_weigh_7 : decode Y_Pr_weigh.2.1 7 = .ok (.iconst 0, 1) := by decide +kernel
theorem d_Pr_weigh_8 : decode Y_Pr_weigh.2.1 8 = .ok (.istore 4, 2) := by decide +kernel
theorem d_Pr_weigh_10 : decode Y_Pr_weigh.2.1 10 = .ok (.iload 4, 2) := by decide +kernel
theorem d_Pr_weigh_12 : decode Y_Pr_weigh.2.1 12 = .ok (.aload_n 0, 1) := by decide +kernel
theorem d_Pr_weigh_13 : decode Y_Pr_weigh.2.1 13 = .ok (.getfield 36, 3) := by decide +kernel
theorem d_Pr_weigh_16 : decode Y_Pr_weigh.2.1 16 = .ok (.if_icmp .ge 132, 3) := by decide +kernel
theorem d_Pr_weigh_19 : decode Y_Pr_weigh.2.1 19 = .ok (.aload_n 0, 1) := by decide +kernel
theorem d_Pr_weigh_20 : decode Y_Pr_weigh.2.1 20 = .ok (.getfield 23, 3) := by decide +kernel
theorem d_Pr_weigh_23 : decode Y_Pr_weigh.2.1 23 = .ok (.iload 4, 2) := by decide +kernel
theorem d_Pr_weigh_25 : decode Y_Pr_weigh.2.1 25 = .ok (.iaload, 1) := by decide +kernel
theorem d_Pr_weigh_26 : decode Y_Pr_weigh.2.1 26 = .ok (.istore 5, 2) := by decide +kernel
theorem d_Pr_weigh_28 : decode Y_Pr_weigh.2.1 28 = .ok (.iload 5, 2) := by decide +kernel
theorem d_Pr_weigh_30 : decode Y_Pr_weigh.2.1 30 = .ok (.ifCond .lt 23, 3) := by decide +kernel
theorem d_Pr_weigh_33 : decode Y_Pr_weigh.2.1 33 = .ok (.iload 5, 2) := by decide +kernel
theorem d_Pr_weigh_35 : decode Y_Pr_weigh.2.1 35 = .ok (.aload_n 2, 1) := by decide +kernel
theorem d_Pr_weigh_36 : decode Y_Pr_weigh.2.1 36 = .ok (.arraylength, 1) := by decide +kernel
theorem d_Pr_weigh_37 : decode Y_Pr_weigh.2.1 37 = .ok (.if_icmp .ge 16, 3) := by decide +kernel
theorem d_Pr_weigh_40 : decode Y_Pr_weigh.2.1 40 = .ok (.iload_n 3, 1) := by decide +kernel
theorem d_Pr_weigh_41 : decode Y_Pr_weigh.2.1 41 = .ok (.iload 5, 2) := by decide +kernel
theorem d_Pr_weigh_43 : decode Y_Pr_weigh.2.1 43 = .ok (.ishr, 1) := by decide +kernel
theorem d_Pr_weigh_44 : decode Y_Pr_weigh.2.1 44 = .ok (.iconst 1, 1) := by decide +kernel
theorem d_Pr_weigh_45 : decode Y_Pr_weigh.2.1 45 = .ok (.iand, 1) := by decide +kernel
theorem d_Pr_weigh_46 : decode Y_Pr_weigh.2.1 46 = .ok (.ifCond .ne 7, 3) := by decide +kernel
theorem d_Pr_weigh_49 : decode Y_Pr_weigh.2.1 49 = .ok (.iconst 1, 1) := by decide +kernel
theorem d_Pr_weigh_50 : decode Y_Pr_weigh.2.1 50 = .ok (.goto 4, 3) := by decide +kernel
theorem d_Pr_weigh_53 : decode Y_Pr_weigh.2.1 53 = .ok (.iconst 0, 1) := by decide +kernel
theorem d_Pr_weigh_54 : decode Y_Pr_weigh.2.1 54 = .ok (.istore 6, 2) := by decide +kernel
theorem d_Pr_weigh_56 : decode Y_Pr_weigh.2.1 56 = .ok (.iload 6, 2) := by decide +kernel
theorem d_Pr_weigh_58 : decode Y_Pr_weigh.2.1 58 = .ok (.ifCond .eq 84, 3) := by decide +kernel
theorem d_Pr_weigh_61 : decode Y_Pr_weigh.2.1 61 = .ok (.aload_n 0, 1) := by decide +kernel
theorem d_Pr_weigh_62 : decode Y_Pr_weigh.2.1 62 = .ok (.aload_n 0, 1) := by decide +kernel
theorem d_Pr_weigh_63 : decode Y_Pr_weigh.2.1 63 = .ok (.getfield 29, 3) := by decide +kernel
theorem d_Pr_weigh_66 : decode Y_Pr_weigh.2.1 66 = .ok (.iload 4, 2) := by decide +kernel
theorem d_Pr_weigh_68 : decode Y_Pr_weigh.2.1 68 = .ok (.iaload, 1) := by decide +kernel
theorem d_Pr_weigh_69 : decode Y_Pr_weigh.2.1 69 = .ok (.aload_n 0, 1) := by decide +kernel
theorem d_Pr_weigh_70 : decode Y_Pr_weigh.2.1 70 = .ok (.getfield 26, 3) := by decide +kernel
theorem d_Pr_weigh_73 : decode Y_Pr_weigh.2.1 73 = .ok (.iload 4, 2) := by decide +kernel
theorem d_Pr_weigh_75 : decode Y_Pr_weigh.2.1 75 = .ok (.iconst 1, 1) := by decide +kernel
theorem d_Pr_weigh_76 : decode Y_Pr_weigh.2.1 76 = .ok (.iadd, 1) := by decide +kernel
theorem d_Pr_weigh_77 : decode Y_Pr_weigh.2.1 77 = .ok (.iaload, 1) := by decide +kernel
theorem d_Pr_weigh_78 : decode Y_Pr_weigh.2.1 78 = .ok (.aload_n 1, 1) := by decide +kernel
theorem d_Pr_weigh_79 : decode Y_Pr_weigh.2.1 79 = .ok (.invokevirtual 45, 3) := by decide +kernel
theorem d_Pr_weigh_82 : decode Y_Pr_weigh.2.1 82 = .ok (.ifCond .eq 60, 3) := by decide +kernel
theorem d_Pr_weigh_85 : decode Y_Pr_weigh.2.1 85 = .ok (.aload_n 0, 1) := by decide +kernel
theorem d_Pr_weigh_86 : decode Y_Pr_weigh.2.1 86 = .ok (.getfield 20, 3) := by decide +kernel
theorem d_Pr_weigh_89 : decode Y_Pr_weigh.2.1 89 = .ok (.iconst 0, 1) := by decide +kernel
theorem d_Pr_weigh_90 : decode Y_Pr_weigh.2.1 90 = .ok (.iaload, 1) := by decide +kernel
theorem d_Pr_weigh_91 : decode Y_Pr_weigh.2.1 91 = .ok (.ifCond .eq 51, 3) := by decide +kernel
theorem d_Pr_weigh_94 : decode Y_Pr_weigh.2.1 94 = .ok (.iload_n 3, 1) := by decide +kernel
theorem d_Pr_weigh_95 : decode Y_Pr_weigh.2.1 95 = .ok (.iconst 1, 1) := by decide +kernel
theorem d_Pr_weigh_96 : decode Y_Pr_weigh.2.1 96 = .ok (.iload 5, 2) := by decide +kernel
theorem d_Pr_weigh_98 : decode Y_Pr_weigh.2.1 98 = .ok (.ishl, 1) := by decide +kernel
theorem d_Pr_weigh_99 : decode Y_Pr_weigh.2.1 99 = .ok (.ior, 1) := by decide +kernel
theorem d_Pr_weigh_100 : decode Y_Pr_weigh.2.1 100 = .ok (.istore_n 3, 1) := by decide +kernel
theorem d_Pr_weigh_101 : decode Y_Pr_weigh.2.1 101 = .ok (.aload_n 2, 1) := by decide +kernel
theorem d_Pr_weigh_102 : decode Y_Pr_weigh.2.1 102 = .ok (.iload 5, 2) := by decide +kernel
theorem d_Pr_weigh_104 : decode Y_Pr_weigh.2.1 104 = .ok (.aload_n 0, 1) := by decide +kernel
theorem d_Pr_weigh_105 : decode Y_Pr_weigh.2.1 105 = .ok (.aload_n 0, 1) := by decide +kernel
theorem d_Pr_weigh_106 : decode Y_Pr_weigh.2.1 106 = .ok (.getfield 26, 3) := by decide +kernel
theorem d_Pr_weigh_109 : decode Y_Pr_weigh.2.1 109 = .ok (.iload 4, 2) := by decide +kernel
theorem d_Pr_weigh_111 : decode Y_Pr_weigh.2.1 111 = .ok (.iaload, 1) := by decide +kernel
theorem d_Pr_weigh_112 : decode Y_Pr_weigh.2.1 112 = .ok (.aload_n 0, 1) := by decide +kernel
theorem d_Pr_weigh_113 : decode Y_Pr_weigh.2.1 113 = .ok (.getfield 29, 3) := by decide +kernel
theorem d_Pr_weigh_116 : decode Y_Pr_weigh.2.1 116 = .ok (.iload 4, 2) := by decide +kernel
theorem d_Pr_weigh_118 : decode Y_Pr_weigh.2.1 118 = .ok (.iaload, 1) := by decide +kernel
theorem d_Pr_weigh_119 : decode Y_Pr_weigh.2.1 119 = .ok (.aload_n 1, 1) := by decide +kernel
theorem d_Pr_weigh_120 : decode Y_Pr_weigh.2.1 120 = .ok (.invokevirtual 45, 3) := by decide +kernel
theorem d_Pr_weigh_123 : decode Y_Pr_weigh.2.1 123 = .ok (.ifCond .eq 17, 3) := by decide +kernel
theorem d_Pr_weigh_126 : decode Y_Pr_weigh.2.1 126 = .ok (.iload 5, 2) := by decide +kernel
theorem d_Pr_weigh_128 : decode Y_Pr_weigh.2.1 128 = .ok (.aload_n 0, 1) := by decide +kernel
theorem d_Pr_weigh_129 : decode Y_Pr_weigh.2.1 129 = .ok (.getfield 20, 3) := by decide +kernel
theorem d_Pr_weigh_132 : decode Y_Pr_weigh.2.1 132 = .ok (.iconst 0, 1) := by decide +kernel
theorem d_Pr_weigh_133 : decode Y_Pr_weigh.2.1 133 = .ok (.iaload, 1) := by decide +kernel
theorem d_Pr_weigh_134 : decode Y_Pr_weigh.2.1 134 = .ok (.invokestatic 49, 3) := by decide +kernel
theorem d_Pr_weigh_137 : decode Y_Pr_weigh.2.1 137 = .ok (.goto 4, 3) := by decide +kernel
theorem d_Pr_weigh_140 : decode Y_Pr_weigh.2.1 140 = .ok (.iconst 0, 1) := by decide +kernel
theorem d_Pr_weigh_141 : decode Y_Pr_weigh.2.1 141 = .ok (.iastore, 1) := by decide +kernel
theorem d_Pr_weigh_142 : decode Y_Pr_weigh.2.1 142 = .ok (.iinc 4 1, 3) := by decide +kernel
theorem d_Pr_weigh_145 : decode Y_Pr_weigh.2.1 145 = .ok (.goto (-135), 3) := by decide +kernel
theorem d_Pr_weigh_148 : decode Y_Pr_weigh.2.1 148 = .ok (.return_, 1) := by decide +kernel
theorem d_Ch_heard_0 : decode Y_Ch_heard.2.1 0 = .ok (.bipush 8, 2) := by decide +kernel
theorem d_Ch_heard_2 : decode Y_Ch_heard.2.1 2 = .ok (.iload_n 1, 1) := by decide +kernel
theorem d_Ch_heard_3 : decode Y_Ch_heard.2.1 3 = .ok (.iload_n 2, 1) := by decide +kernel
theorem d_Ch_heard_4 : decode Y_Ch_heard.2.1 4 = .ok (.isub, 1) := by decide +kernel
theorem d_Ch_heard_5 : decode Y_Ch_heard.2.1 5 = .ok (.invokestatic 72, 3) := by decide +kernel
theorem d_Ch_heard_8 : decode Y_Ch_heard.2.1 8 = .ok (.isub, 1) := by decide +kernel
theorem d_Ch_heard_9 : decode Y_Ch_heard.2.1 9 = .ok (.istore_n 3, 1) := by decide +kernel
theorem d_Ch_heard_10 : decode Y_Ch_heard.2.1 10 = .ok (.iload_n 3, 1) := by decide +kernel
theorem d_Ch_heard_11 : decode Y_Ch_heard.2.1 11 = .ok (.ifCond .le 9, 3) := by decide +kernel
theorem d_Ch_heard_14 : decode Y_Ch_heard.2.1 14 = .ok (.iload_n 0, 1) := by decide +kernel
theorem d_Ch_heard_15 : decode Y_Ch_heard.2.1 15 = .ok (.iload_n 3, 1) := by decide +kernel
theorem d_Ch_heard_16 : decode Y_Ch_heard.2.1 16 = .ok (.imul, 1) := by decide +kernel
theorem d_Ch_heard_17 : decode Y_Ch_heard.2.1 17 = .ok (.goto 4, 3) := by decide +kernel
theorem d_Ch_heard_20 : decode Y_Ch_heard.2.1 20 = .ok (.iconst 0, 1) := by decide +kernel
theorem d_Ch_heard_21 : decode Y_Ch_heard.2.1 21 = .ok (.ireturn, 1) := by decide +kernel
theorem d_Si_millsOf_0 : decode Y_Si_millsOf.2.1 0 = .ok (.aload_n 0, 1) := by decide +kernel
theorem d_Si_millsOf_1 : decode Y_Si_millsOf.2.1 1 = .ok (.getfield 42, 3) := by decide +kernel
theorem d_Si_millsOf_4 : decode Y_Si_millsOf.2.1 4 = .ok (.getfield 173, 3) := by decide +kernel
theorem d_Si_millsOf_7 : decode Y_Si_millsOf.2.1 7 = .ok (.aload_n 0, 1) := by decide +kernel
theorem d_Si_millsOf_8 : decode Y_Si_millsOf.2.1 8 = .ok (.getfield 46, 3) := by decide +kernel
theorem d_Si_millsOf_11 : decode Y_Si_millsOf.2.1 11 = .ok (.getfield 133, 3) := by decide +kernel
theorem d_Si_millsOf_14 : decode Y_Si_millsOf.2.1 14 = .ok (.iload_n 1, 1) := by decide +kernel
theorem d_Si_millsOf_15 : decode Y_Si_millsOf.2.1 15 = .ok (.iaload, 1) := by decide +kernel
theorem d_Si_millsOf_16 : decode Y_Si_millsOf.2.1 16 = .ok (.iload_n 2, 1) := by decide +kernel
theorem d_Si_millsOf_17 : decode Y_Si_millsOf.2.1 17 = .ok (.invokestatic 141, 3) := by decide +kernel
theorem d_Si_millsOf_20 : decode Y_Si_millsOf.2.1 20 = .ok (.iaload, 1) := by decide +kernel
theorem d_Si_millsOf_21 : decode Y_Si_millsOf.2.1 21 = .ok (.i2l, 1) := by decide +kernel
theorem d_Si_millsOf_22 : decode Y_Si_millsOf.2.1 22 = .ok (.lreturn, 1) := by decide +kernel
theorem d_Si_givenIn_0 : decode Y_Si_givenIn.2.1 0 = .ok (.aload_n 0, 1) := by decide +kernel
theorem d_Si_givenIn_1 : decode Y_Si_givenIn.2.1 1 = .ok (.getfield 64, 3) := by decide +kernel
theorem d_Si_givenIn_4 : decode Y_Si_givenIn.2.1 4 = .ok (.iconst 2, 1) := by decide +kernel
theorem d_Si_givenIn_5 : decode Y_Si_givenIn.2.1 5 = .ok (.iload_n 1, 1) := by decide +kernel
theorem d_Si_givenIn_6 : decode Y_Si_givenIn.2.1 6 = .ok (.ishl, 1) := by decide +kernel
theorem d_Si_givenIn_7 : decode Y_Si_givenIn.2.1 7 = .ok (.iconst 1, 1) := by decide +kernel
theorem d_Si_givenIn_8 : decode Y_Si_givenIn.2.1 8 = .ok (.isub, 1) := by decide +kernel
theorem d_Si_givenIn_9 : decode Y_Si_givenIn.2.1 9 = .ok (.iand, 1) := by decide +kernel
theorem d_Si_givenIn_10 : decode Y_Si_givenIn.2.1 10 = .ok (.istore_n 2, 1) := by decide +kernel
theorem d_Si_givenIn_11 : decode Y_Si_givenIn.2.1 11 = .ok (.iload_n 2, 1) := by decide +kernel
theorem d_Si_givenIn_12 : decode Y_Si_givenIn.2.1 12 = .ok (.ifCond .ne 13, 3) := by decide +kernel
theorem d_Si_givenIn_15 : decode Y_Si_givenIn.2.1 15 = .ok (.aload_n 0, 1) := by decide +kernel
theorem d_Si_givenIn_16 : decode Y_Si_givenIn.2.1 16 = .ok (.getfield 46, 3) := by decide +kernel
theorem d_Si_givenIn_19 : decode Y_Si_givenIn.2.1 19 = .ok (.getfield 176, 3) := by decide +kernel
theorem d_Si_givenIn_22 : decode Y_Si_givenIn.2.1 22 = .ok (.goto 4, 3) := by decide +kernel
theorem d_Si_givenIn_25 : decode Y_Si_givenIn.2.1 25 = .ok (.iconst 0, 1) := by decide +kernel
theorem d_Si_givenIn_26 : decode Y_Si_givenIn.2.1 26 = .ok (.ireturn, 1) := by decide +kernel
theorem d_Si_aim_0 : decode Y_Si_aim.2.1 0 = .ok (.lconst 0, 1) := by decide +kernel
theorem d_Si_aim_1 : decode Y_Si_aim.2.1 1 = .ok (.lstore 6, 2) := by decide +kernel
theorem d_Si_aim_3 : decode Y_Si_aim.2.1 3 = .ok (.lconst 0, 1) := by decide +kernel
theorem d_Si_aim_4 : decode Y_Si_aim.2.1 4 = .ok (.lstore 8, 2) := by decide +kernel
theorem d_Si_aim_6 : decode Y_Si_aim.2.1 6 = .ok (.iconst 0, 1) := by decide +kernel
theorem d_Si_aim_7 : decode Y_Si_aim.2.1 7 = .ok (.istore 10, 2) := by decide +kernel
theorem d_Si_aim_9 : decode Y_Si_aim.2.1 9 = .ok (.iload 10, 2) := by decide +kernel
theorem d_Si_aim_11 : decode Y_Si_aim.2.1 11 = .ok (.iload_n 1, 1) := by decide +kernel
theorem d_Si_aim_12 : decode Y_Si_aim.2.1 12 = .ok (.if_icmp .ge 94, 3) := by decide +kernel
theorem d_Si_aim_15 : decode Y_Si_aim.2.1 15 = .ok (.aload_n 0, 1) := by decide +kernel
theorem d_Si_aim_16 : decode Y_Si_aim.2.1 16 = .ok (.getfield 46, 3) := by decide +kernel
theorem d_Si_aim_19 : decode Y_Si_aim.2.1 19 = .ok (.iload 10, 2) := by decide +kernel
theorem d_Si_aim_21 : decode Y_Si_aim.2.1 21 = .ok (.iload_n 2, 1) := by decide +kernel
theorem d_Si_aim_22 : decode Y_Si_aim.2.1 22 = .ok (.invokevirtual 94, 3) := by decide +kernel
theorem d_Si_aim_25 : decode Y_Si_aim.2.1 25 = .ok (.ifCond .eq 75, 3) := by decide +kernel
theorem d_Si_aim_28 : decode Y_Si_aim.2.1 28 = .ok (.aload_n 0, 1) := by decide +kernel
theorem d_Si_aim_29 : decode Y_Si_aim.2.1 29 = .ok (.getfield 46, 3) := by decide +kernel
theorem d_Si_aim_32 : decode Y_Si_aim.2.1 32 = .ok (.getfield 148, 3) := by decide +kernel
theorem d_Si_aim_35 : decode Y_Si_aim.2.1 35 = .ok (.iload 10, 2) := by decide +kernel
theorem d_Si_aim_37 : decode Y_Si_aim.2.1 37 = .ok (.iaload, 1) := by decide +kernel
theorem d_Si_aim_38 : decode Y_Si_aim.2.1 38 = .ok (.aload_n 0, 1) := by decide +kernel
theorem d_Si_aim_39 : decode Y_Si_aim.2.1 39 = .ok (.getfield 55, 3) := by decide +kernel
theorem d_Si_aim_42 : decode Y_Si_aim.2.1 42 = .ok (.iload_n 1, 1) := by decide +kernel
theorem d_Si_aim_43 : decode Y_Si_aim.2.1 43 = .ok (.iaload, 1) := by decide +kernel
theorem d_Si_aim_44 : decode Y_Si_aim.2.1 44 = .ok (.aload_n 0, 1) := by decide +kernel
theorem d_Si_aim_45 : decode Y_Si_aim.2.1 45 = .ok (.getfield 55, 3) := by decide +kernel
theorem d_Si_aim_48 : decode Y_Si_aim.2.1 48 = .ok (.iload 10, 2) := by decide +kernel
theorem d_Si_aim_50 : decode Y_Si_aim.2.1 50 = .ok (.iaload, 1) := by decide +kernel
theorem d_Si_aim_51 : decode Y_Si_aim.2.1 51 = .ok (.invokestatic 179, 3) := by decide +kernel
theorem d_Si_aim_54 : decode Y_Si_aim.2.1 54 = .ok (.istore 11, 2) := by decide +kernel
theorem d_Si_aim_56 : decode Y_Si_aim.2.1 56 = .ok (.lload 6, 2) := by decide +kernel
theorem d_Si_aim_58 : decode Y_Si_aim.2.1 58 = .ok (.iload 11, 2) := by decide +kernel
theorem d_Si_aim_60 : decode Y_Si_aim.2.1 60 = .ok (.i2l, 1) := by decide +kernel
theorem d_Si_aim_61 : decode Y_Si_aim.2.1 61 = .ok (.ladd, 1) := by decide +kernel
theorem d_Si_aim_62 : decode Y_Si_aim.2.1 62 = .ok (.lstore 6, 2) := by decide +kernel
theorem d_Si_aim_64 : decode Y_Si_aim.2.1 64 = .ok (.lload 8, 2) := by decide +kernel
theorem d_Si_aim_66 : decode Y_Si_aim.2.1 66 = .ok (.iload 11, 2) := by decide +kernel
theorem d_Si_aim_68 : decode Y_Si_aim.2.1 68 = .ok (.i2l, 1) := by decide +kernel
theorem d_Si_aim_69 : decode Y_Si_aim.2.1 69 = .ok (.aload_n 0, 1) := by decide +kernel
theorem d_Si_aim_70 : decode Y_Si_aim.2.1 70 = .ok (.getfield 9, 3) := by decide +kernel
theorem d_Si_aim_73 : decode Y_Si_aim.2.1 73 = .ok (.iload 10, 2) := by decide +kernel
theorem d_Si_aim_75 : decode Y_Si_aim.2.1 75 = .ok (.bipush 24, 2) := by decide +kernel
theorem d_Si_aim_77 : decode Y_Si_aim.2.1 77 = .ok (.imul, 1) := by decide +kernel
theorem d_Si_aim_78 : decode Y_Si_aim.2.1 78 = .ok (.iload_n 2, 1) := by decide +kernel
theorem d_Si_aim_79 : decode Y_Si_aim.2.1 79 = .ok (.iadd, 1) := by decide +kernel
theorem d_Si_aim_80 : decode Y_Si_aim.2.1 80 = .ok (.laload, 1) := by decide +kernel
theorem d_Si_aim_81 : decode Y_Si_aim.2.1 81 = .ok (.aload_n 0, 1) := by decide +kernel
theorem d_Si_aim_82 : decode Y_Si_aim.2.1 82 = .ok (.iload_n 1, 1) := by decide +kernel
theorem d_Si_aim_83 : decode Y_Si_aim.2.1 83 = .ok (.iload_n 2, 1) := by decide +kernel
theorem d_Si_aim_84 : decode Y_Si_aim.2.1 84 = .ok (.invokevirtual 183, 3) := by decide +kernel
theorem d_Si_aim_87 : decode Y_Si_aim.2.1 87 = .ok (.ladd, 1) := by decide +kernel
theorem d_Si_aim_88 : decode Y_Si_aim.2.1 88 = .ok (.aload_n 0, 1) := by decide +kernel
theorem d_Si_aim_89 : decode Y_Si_aim.2.1 89 = .ok (.iload 10, 2) := by decide +kernel
theorem d_Si_aim_91 : decode Y_Si_aim.2.1 91 = .ok (.iload_n 2, 1) := by decide +kernel
theorem d_Si_aim_92 : decode Y_Si_aim.2.1 92 = .ok (.invokevirtual 183, 3) := by decide +kernel
theorem d_Si_aim_95 : decode Y_Si_aim.2.1 95 = .ok (.lsub, 1) := by decide +kernel
theorem d_Si_aim_96 : decode Y_Si_aim.2.1 96 = .ok (.lmul, 1) := by decide +kernel
theorem d_Si_aim_97 : decode Y_Si_aim.2.1 97 = .ok (.ladd, 1) := by decide +kernel
theorem d_Si_aim_98 : decode Y_Si_aim.2.1 98 = .ok (.lstore 8, 2) := by decide +kernel
theorem d_Si_aim_100 : decode Y_Si_aim.2.1 100 = .ok (.iinc 10 1, 3) := by decide +kernel
theorem d_Si_aim_103 : decode Y_Si_aim.2.1 103 = .ok (.goto (-94), 3) := by decide +kernel
theorem d_Si_aim_106 : decode Y_Si_aim.2.1 106 = .ok (.aload_n 0, 1) := by decide +kernel
theorem d_Si_aim_107 : decode Y_Si_aim.2.1 107 = .ok (.getfield 38, 3) := by decide +kernel
theorem d_Si_aim_110 : decode Y_Si_aim.2.1 110 = .ok (.iconst 0, 1) := by decide +kernel
theorem d_Si_aim_111 : decode Y_Si_aim.2.1 111 = .ok (.lload 6, 2) := by decide +kernel
theorem d_Si_aim_113 : decode Y_Si_aim.2.1 113 = .ok (.lconst 0, 1) := by decide +kernel
theorem d_Si_aim_114 : decode Y_Si_aim.2.1 114 = .ok (.lcmp, 1) := by decide +kernel
theorem d_Si_aim_115 : decode Y_Si_aim.2.1 115 = .ok (.ifCond .le 7, 3) := by decide +kernel
theorem d_Si_aim_118 : decode Y_Si_aim.2.1 118 = .ok (.iconst 1, 1) := by decide +kernel
theorem d_Si_aim_119 : decode Y_Si_aim.2.1 119 = .ok (.goto 4, 3) := by decide +kernel
theorem d_Si_aim_122 : decode Y_Si_aim.2.1 122 = .ok (.iconst 0, 1) := by decide +kernel
theorem d_Si_aim_123 : decode Y_Si_aim.2.1 123 = .ok (.bastore, 1) := by decide +kernel
theorem d_Si_aim_124 : decode Y_Si_aim.2.1 124 = .ok (.aload_n 0, 1) := by decide +kernel
theorem d_Si_aim_125 : decode Y_Si_aim.2.1 125 = .ok (.getfield 35, 3) := by decide +kernel
theorem d_Si_aim_128 : decode Y_Si_aim.2.1 128 = .ok (.iconst 0, 1) := by decide +kernel
theorem d_Si_aim_129 : decode Y_Si_aim.2.1 129 = .ok (.lload 6, 2) := by decide +kernel
theorem d_Si_aim_131 : decode Y_Si_aim.2.1 131 = .ok (.lconst 0, 1) := by decide +kernel
theorem d_Si_aim_132 : decode Y_Si_aim.2.1 132 = .ok (.lcmp, 1) := by decide +kernel
theorem d_Si_aim_133 : decode Y_Si_aim.2.1 133 = .ok (.ifCond .le 13, 3) := by decide +kernel
theorem d_Si_aim_136 : decode Y_Si_aim.2.1 136 = .ok (.lload 8, 2) := by decide +kernel
theorem d_Si_aim_138 : decode Y_Si_aim.2.1 138 = .ok (.lload 6, 2) := by decide +kernel
theorem d_Si_aim_140 : decode Y_Si_aim.2.1 140 = .ok (.invokestatic 164, 3) := by decide +kernel
theorem d_Si_aim_143 : decode Y_Si_aim.2.1 143 = .ok (.goto 4, 3) := by decide +kernel
theorem d_Si_aim_146 : decode Y_Si_aim.2.1 146 = .ok (.lconst 0, 1) := by decide +kernel
theorem d_Si_aim_147 : decode Y_Si_aim.2.1 147 = .ok (.lastore, 1) := by decide +kernel
theorem d_Si_aim_148 : decode Y_Si_aim.2.1 148 = .ok (.aload_n 0, 1) := by decide +kernel
theorem d_Si_aim_149 : decode Y_Si_aim.2.1 149 = .ok (.getfield 38, 3) := by decide +kernel
theorem d_Si_aim_152 : decode Y_Si_aim.2.1 152 = .ok (.iconst 1, 1) := by decide +kernel
theorem d_Si_aim_153 : decode Y_Si_aim.2.1 153 = .ok (.iload_n 3, 1) := by decide +kernel
theorem d_Si_aim_154 : decode Y_Si_aim.2.1 154 = .ok (.iconst (-1), 1) := by decide +kernel
theorem d_Si_aim_155 : decode Y_Si_aim.2.1 155 = .ok (.if_icmp .eq 7, 3) := by decide +kernel
theorem d_Si_aim_158 : decode Y_Si_aim.2.1 158 = .ok (.iconst 1, 1) := by decide +kernel
theorem d_Si_aim_159 : decode Y_Si_aim.2.1 159 = .ok (.goto 4, 3) := by decide +kernel
theorem d_Si_aim_162 : decode Y_Si_aim.2.1 162 = .ok (.iconst 0, 1) := by decide +kernel
theorem d_Si_aim_163 : decode Y_Si_aim.2.1 163 = .ok (.bastore, 1) := by decide +kernel
theorem d_Si_aim_164 : decode Y_Si_aim.2.1 164 = .ok (.iload_n 3, 1) := by decide +kernel
theorem d_Si_aim_165 : decode Y_Si_aim.2.1 165 = .ok (.iload_n 2, 1) := by decide +kernel
theorem d_Si_aim_166 : decode Y_Si_aim.2.1 166 = .ok (.iconst 1, 1) := by decide +kernel
theorem d_Si_aim_167 : decode Y_Si_aim.2.1 167 = .ok (.isub, 1) := by decide +kernel
theorem d_Si_aim_168 : decode Y_Si_aim.2.1 168 = .ok (.if_icmp .ne 27, 3) := by decide +kernel
theorem d_Si_aim_171 : decode Y_Si_aim.2.1 171 = .ok (.aload_n 0, 1) := by decide +kernel
theorem d_Si_aim_172 : decode Y_Si_aim.2.1 172 = .ok (.getfield 42, 3) := by decide +kernel
theorem d_Si_aim_175 : decode Y_Si_aim.2.1 175 = .ok (.aload_n 0, 1) := by decide +kernel
theorem d_Si_aim_176 : decode Y_Si_aim.2.1 176 = .ok (.getfield 46, 3) := by decide +kernel
theorem d_Si_aim_179 : decode Y_Si_aim.2.1 179 = .ok (.getfield 133, 3) := by decide +kernel
theorem d_Si_aim_182 : decode Y_Si_aim.2.1 182 = .ok (.iload_n 1, 1) := by decide +kernel
theorem d_Si_aim_183 : decode Y_Si_aim.2.1 183 = .ok (.iaload, 1) := by decide +kernel
theorem d_Si_aim_184 : decode Y_Si_aim.2.1 184 = .ok (.iload_n 2, 1) := by decide +kernel
theorem d_Si_aim_185 : decode Y_Si_aim.2.1 185 = .ok (.invokevirtual 151, 3) := by decide +kernel
theorem d_Si_aim_188 : decode Y_Si_aim.2.1 188 = .ok (.ifCond .eq 7, 3) := by decide +kernel
theorem d_Si_aim_191 : decode Y_Si_aim.2.1 191 = .ok (.iconst 1, 1) := by decide +kernel
theorem d_Si_aim_192 : decode Y_Si_aim.2.1 192 = .ok (.goto 4, 3) := by decide +kernel
theorem d_Si_aim_195 : decode Y_Si_aim.2.1 195 = .ok (.iconst 0, 1) := by decide +kernel
theorem d_Si_aim_196 : decode Y_Si_aim.2.1 196 = .ok (.istore 10, 2) := by decide +kernel
theorem d_Si_aim_198 : decode Y_Si_aim.2.1 198 = .ok (.aload_n 0, 1) := by decide +kernel
theorem d_Si_aim_199 : decode Y_Si_aim.2.1 199 = .ok (.getfield 35, 3) := by decide +kernel
theorem d_Si_aim_202 : decode Y_Si_aim.2.1 202 = .ok (.iconst 1, 1) := by decide +kernel
theorem d_Si_aim_203 : decode Y_Si_aim.2.1 203 = .ok (.iload_n 3, 1) := by decide +kernel
theorem d_Si_aim_204 : decode Y_Si_aim.2.1 204 = .ok (.iconst (-1), 1) := by decide +kernel
theorem d_Si_aim_205 : decode Y_Si_aim.2.1 205 = .ok (.if_icmp .ne 7, 3) := by decide +kernel
theorem d_Si_aim_208 : decode Y_Si_aim.2.1 208 = .ok (.lconst 0, 1) := by decide +kernel
theorem d_Si_aim_209 : decode Y_Si_aim.2.1 209 = .ok (.goto 29, 3) := by decide +kernel
theorem d_Si_aim_212 : decode Y_Si_aim.2.1 212 = .ok (.iload 10, 2) := by decide +kernel
theorem d_Si_aim_214 : decode Y_Si_aim.2.1 214 = .ok (.ifCond .eq 8, 3) := by decide +kernel
theorem d_Si_aim_217 : decode Y_Si_aim.2.1 217 = .ok (.lload 4, 2) := by decide +kernel
theorem d_Si_aim_219 : decode Y_Si_aim.2.1 219 = .ok (.goto 19, 3) := by decide +kernel
theorem d_Si_aim_222 : decode Y_Si_aim.2.1 222 = .ok (.lload 4, 2) := by decide +kernel
theorem d_Si_aim_224 : decode Y_Si_aim.2.1 224 = .ok (.aload_n 0, 1) := by decide +kernel
theorem d_Si_aim_225 : decode Y_Si_aim.2.1 225 = .ok (.iload_n 1, 1) := by decide +kernel
theorem d_Si_aim_226 : decode Y_Si_aim.2.1 226 = .ok (.iload_n 2, 1) := by decide +kernel
theorem d_Si_aim_227 : decode Y_Si_aim.2.1 227 = .ok (.invokevirtual 183, 3) := by decide +kernel
theorem d_Si_aim_230 : decode Y_Si_aim.2.1 230 = .ok (.ladd, 1) := by decide +kernel
theorem d_Si_aim_231 : decode Y_Si_aim.2.1 231 = .ok (.aload_n 0, 1) := by decide +kernel
theorem d_Si_aim_232 : decode Y_Si_aim.2.1 232 = .ok (.iload_n 1, 1) := by decide +kernel
theorem d_Si_aim_233 : decode Y_Si_aim.2.1 233 = .ok (.iload_n 3, 1) := by decide +kernel
theorem d_Si_aim_234 : decode Y_Si_aim.2.1 234 = .ok (.invokevirtual 183, 3) := by decide +kernel
theorem d_Si_aim_237 : decode Y_Si_aim.2.1 237 = .ok (.lsub, 1) := by decide +kernel
theorem d_Si_aim_238 : decode Y_Si_aim.2.1 238 = .ok (.lastore, 1) := by decide +kernel
theorem d_Si_aim_239 : decode Y_Si_aim.2.1 239 = .ok (.aload_n 0, 1) := by decide +kernel
theorem d_Si_aim_240 : decode Y_Si_aim.2.1 240 = .ok (.getfield 38, 3) := by decide +kernel
theorem d_Si_aim_243 : decode Y_Si_aim.2.1 243 = .ok (.iconst 2, 1) := by decide +kernel
theorem d_Si_aim_244 : decode Y_Si_aim.2.1 244 = .ok (.iconst 1, 1) := by decide +kernel
theorem d_Si_aim_245 : decode Y_Si_aim.2.1 245 = .ok (.bastore, 1) := by decide +kernel
theorem d_Si_aim_246 : decode Y_Si_aim.2.1 246 = .ok (.aload_n 0, 1) := by decide +kernel
theorem d_Si_aim_247 : decode Y_Si_aim.2.1 247 = .ok (.getfield 35, 3) := by decide +kernel
theorem d_Si_aim_250 : decode Y_Si_aim.2.1 250 = .ok (.iconst 2, 1) := by decide +kernel
theorem d_Si_aim_251 : decode Y_Si_aim.2.1 251 = .ok (.aload_n 0, 1) := by decide +kernel
theorem d_Si_aim_252 : decode Y_Si_aim.2.1 252 = .ok (.iload_n 1, 1) := by decide +kernel
theorem d_Si_aim_253 : decode Y_Si_aim.2.1 253 = .ok (.iload_n 2, 1) := by decide +kernel
theorem d_Si_aim_254 : decode Y_Si_aim.2.1 254 = .ok (.invokevirtual 106, 3) := by decide +kernel
theorem d_Si_aim_257 : decode Y_Si_aim.2.1 257 = .ok (.aload_n 0, 1) := by decide +kernel
theorem d_Si_aim_258 : decode Y_Si_aim.2.1 258 = .ok (.iload_n 2, 1) := by decide +kernel
theorem d_Si_aim_259 : decode Y_Si_aim.2.1 259 = .ok (.invokevirtual 186, 3) := by decide +kernel
theorem d_Si_aim_262 : decode Y_Si_aim.2.1 262 = .ok (.i2l, 1) := by decide +kernel
theorem d_Si_aim_263 : decode Y_Si_aim.2.1 263 = .ok (.ladd, 1) := by decide +kernel
theorem d_Si_aim_264 : decode Y_Si_aim.2.1 264 = .ok (.lastore, 1) := by decide +kernel
theorem d_Si_aim_265 : decode Y_Si_aim.2.1 265 = .ok (.aload_n 0, 1) := by decide +kernel
theorem d_Si_aim_266 : decode Y_Si_aim.2.1 266 = .ok (.getfield 38, 3) := by decide +kernel
theorem d_Si_aim_269 : decode Y_Si_aim.2.1 269 = .ok (.iconst 3, 1) := by decide +kernel
theorem d_Si_aim_270 : decode Y_Si_aim.2.1 270 = .ok (.aload_n 0, 1) := by decide +kernel
theorem d_Si_aim_271 : decode Y_Si_aim.2.1 271 = .ok (.iload_n 1, 1) := by decide +kernel
theorem d_Si_aim_272 : decode Y_Si_aim.2.1 272 = .ok (.invokevirtual 144, 3) := by decide +kernel
theorem d_Si_aim_275 : decode Y_Si_aim.2.1 275 = .ok (.bastore, 1) := by decide +kernel
theorem d_Si_aim_276 : decode Y_Si_aim.2.1 276 = .ok (.aload_n 0, 1) := by decide +kernel
theorem d_Si_aim_277 : decode Y_Si_aim.2.1 277 = .ok (.getfield 35, 3) := by decide +kernel
theorem d_Si_aim_280 : decode Y_Si_aim.2.1 280 = .ok (.iconst 3, 1) := by decide +kernel
theorem d_Si_aim_281 : decode Y_Si_aim.2.1 281 = .ok (.aload_n 0, 1) := by decide +kernel
theorem d_Si_aim_282 : decode Y_Si_aim.2.1 282 = .ok (.iload_n 1, 1) := by decide +kernel
theorem d_Si_aim_283 : decode Y_Si_aim.2.1 283 = .ok (.iload_n 2, 1) := by decide +kernel
theorem d_Si_aim_284 : decode Y_Si_aim.2.1 284 = .ok (.invokevirtual 106, 3) := by decide +kernel
theorem d_Si_aim_287 : decode Y_Si_aim.2.1 287 = .ok (.lastore, 1) := by decide +kernel
theorem d_Si_aim_288 : decode Y_Si_aim.2.1 288 = .ok (.return_, 1) := by decide +kernel
theorem d_Si_blend_0 : decode Y_Si_blend.2.1 0 = .ok (.lconst 0, 1) := by decide +kernel
theorem d_Si_blend_1 : decode Y_Si_blend.2.1 1 = .ok (.lstore 5, 2) := by decide +kernel
theorem d_Si_blend_3 : decode Y_Si_blend.2.1 3 = .ok (.lconst 0, 1) := by decide +kernel
theorem d_Si_blend_4 : decode Y_Si_blend.2.1 4 = .ok (.lstore 7, 2) := by decide +kernel
theorem d_Si_blend_6 : decode Y_Si_blend.2.1 6 = .ok (.iconst 0, 1) := by decide +kernel
theorem d_Si_blend_7 : decode Y_Si_blend.2.1 7 = .ok (.istore 9, 2) := by decide +kernel
theorem d_Si_blend_9 : decode Y_Si_blend.2.1 9 = .ok (.iload 9, 2) := by decide +kernel
theorem d_Si_blend_11 : decode Y_Si_blend.2.1 11 = .ok (.aload_n 0, 1) := by decide +kernel
theorem d_Si_blend_12 : decode Y_Si_blend.2.1 12 = .ok (.getfield 35, 3) := by decide +kernel
theorem d_Si_blend_15 : decode Y_Si_blend.2.1 15 = .ok (.arraylength, 1) := by decide +kernel
theorem d_Si_blend_16 : decode Y_Si_blend.2.1 16 = .ok (.if_icmp .ge 76, 3) := by decide +kernel
theorem d_Si_blend_19 : decode Y_Si_blend.2.1 19 = .ok (.iload 9, 2) := by decide +kernel
theorem d_Si_blend_21 : decode Y_Si_blend.2.1 21 = .ok (.ifCond .ne 7, 3) := by decide +kernel
theorem d_Si_blend_24 : decode Y_Si_blend.2.1 24 = .ok (.iload_n 1, 1) := by decide +kernel
theorem d_Si_blend_25 : decode Y_Si_blend.2.1 25 = .ok (.goto 25, 3) := by decide +kernel
theorem d_Si_blend_28 : decode Y_Si_blend.2.1 28 = .ok (.iload 9, 2) := by decide +kernel
theorem d_Si_blend_30 : decode Y_Si_blend.2.1 30 = .ok (.iconst 1, 1) := by decide +kernel
theorem d_Si_blend_31 : decode Y_Si_blend.2.1 31 = .ok (.if_icmp .ne 7, 3) := by decide +kernel
theorem d_Si_blend_34 : decode Y_Si_blend.2.1 34 = .ok (.iload_n 2, 1) := by decide +kernel
theorem d_Si_blend_35 : decode Y_Si_blend.2.1 35 = .ok (.goto 15, 3) := by decide +kernel
theorem d_Si_blend_38 : decode Y_Si_blend.2.1 38 = .ok (.iload 9, 2) := by decide +kernel
theorem d_Si_blend_40 : decode Y_Si_blend.2.1 40 = .ok (.iconst 2, 1) := by decide +kernel
theorem d_Si_blend_41 : decode Y_Si_blend.2.1 41 = .ok (.if_icmp .ne 7, 3) := by decide +kernel
theorem d_Si_blend_44 : decode Y_Si_blend.2.1 44 = .ok (.iload_n 3, 1) := by decide +kernel
theorem d_Si_blend_45 : decode Y_Si_blend.2.1 45 = .ok (.goto 5, 3) := by decide +kernel
theorem d_Si_blend_48 : decode Y_Si_blend.2.1 48 = .ok (.iload 4, 2) := by decide +kernel
theorem d_Si_blend_50 : decode Y_Si_blend.2.1 50 = .ok (.istore 10, 2) := by decide +kernel
theorem d_Si_blend_52 : decode Y_Si_blend.2.1 52 = .ok (.aload_n 0, 1) := by decide +kernel
theorem d_Si_blend_53 : decode Y_Si_blend.2.1 53 = .ok (.getfield 38, 3) := by decide +kernel
theorem d_Si_blend_56 : decode Y_Si_blend.2.1 56 = .ok (.iload 9, 2) := by decide +kernel
theorem d_Si_blend_58 : decode Y_Si_blend.2.1 58 = .ok (.baload, 1) := by decide +kernel
theorem d_Si_blend_59 : decode Y_Si_blend.2.1 59 = .ok (.ifCond .eq 27, 3) := by decide +kernel
theorem d_Si_blend_62 : decode Y_Si_blend.2.1 62 = .ok (.lload 5, 2) := by decide +kernel
theorem d_Si_blend_64 : decode Y_Si_blend.2.1 64 = .ok (.iload 10, 2) := by decide +kernel
theorem d_Si_blend_66 : decode Y_Si_blend.2.1 66 = .ok (.i2l, 1) := by decide +kernel
theorem d_Si_blend_67 : decode Y_Si_blend.2.1 67 = .ok (.aload_n 0, 1) := by decide +kernel
theorem d_Si_blend_68 : decode Y_Si_blend.2.1 68 = .ok (.getfield 35, 3) := by decide +kernel
theorem d_Si_blend_71 : decode Y_Si_blend.2.1 71 = .ok (.iload 9, 2) := by decide +kernel
theorem d_Si_blend_73 : decode Y_Si_blend.2.1 73 = .ok (.laload, 1) := by decide +kernel
theorem d_Si_blend_74 : decode Y_Si_blend.2.1 74 = .ok (.lmul, 1) := by decide +kernel
theorem d_Si_blend_75 : decode Y_Si_blend.2.1 75 = .ok (.ladd, 1) := by decide +kernel
theorem d_Si_blend_76 : decode Y_Si_blend.2.1 76 = .ok (.lstore 5, 2) := by decide +kernel
theorem d_Si_blend_78 : decode Y_Si_blend.2.1 78 = .ok (.lload 7, 2) := by decide +kernel
theorem d_Si_blend_80 : decode Y_Si_blend.2.1 80 = .ok (.iload 10, 2) := by decide +kernel
theorem d_Si_blend_82 : decode Y_Si_blend.2.1 82 = .ok (.i2l, 1) := by decide +kernel
theorem d_Si_blend_83 : decode Y_Si_blend.2.1 83 = .ok (.ladd, 1) := by decide +kernel
theorem d_Si_blend_84 : decode Y_Si_blend.2.1 84 = .ok (.lstore 7, 2) := by decide +kernel
theorem d_Si_blend_86 : decode Y_Si_blend.2.1 86 = .ok (.iinc 9 1, 3) := by decide +kernel
theorem d_Si_blend_89 : decode Y_Si_blend.2.1 89 = .ok (.goto (-80), 3) := by decide +kernel
theorem d_Si_blend_92 : decode Y_Si_blend.2.1 92 = .ok (.lload 7, 2) := by decide +kernel
theorem d_Si_blend_94 : decode Y_Si_blend.2.1 94 = .ok (.lconst 0, 1) := by decide +kernel
theorem d_Si_blend_95 : decode Y_Si_blend.2.1 95 = .ok (.lcmp, 1) := by decide +kernel
theorem d_Si_blend_96 : decode Y_Si_blend.2.1 96 = .ok (.ifCond .le 13, 3) := by decide +kernel
theorem d_Si_blend_99 : decode Y_Si_blend.2.1 99 = .ok (.lload 5, 2) := by decide +kernel
theorem d_Si_blend_101 : decode Y_Si_blend.2.1 101 = .ok (.lload 7, 2) := by decide +kernel
theorem d_Si_blend_103 : decode Y_Si_blend.2.1 103 = .ok (.invokestatic 164, 3) := by decide +kernel
theorem d_Si_blend_106 : decode Y_Si_blend.2.1 106 = .ok (.goto 9, 3) := by decide +kernel
theorem d_Si_blend_109 : decode Y_Si_blend.2.1 109 = .ok (.aload_n 0, 1) := by decide +kernel
theorem d_Si_blend_110 : decode Y_Si_blend.2.1 110 = .ok (.getfield 35, 3) := by decide +kernel
theorem d_Si_blend_113 : decode Y_Si_blend.2.1 113 = .ok (.iconst 2, 1) := by decide +kernel
theorem d_Si_blend_114 : decode Y_Si_blend.2.1 114 = .ok (.laload, 1) := by decide +kernel
theorem d_Si_blend_115 : decode Y_Si_blend.2.1 115 = .ok (.lreturn, 1) := by decide +kernel
theorem d_Si_singNote_0 : decode Y_Si_singNote.2.1 0 = .ok (.aload_n 0, 1) := by decide +kernel
theorem d_Si_singNote_1 : decode Y_Si_singNote.2.1 1 = .ok (.getfield 46, 3) := by decide +kernel
theorem d_Si_singNote_4 : decode Y_Si_singNote.2.1 4 = .ok (.iload_n 1, 1) := by decide +kernel
theorem d_Si_singNote_5 : decode Y_Si_singNote.2.1 5 = .ok (.iload_n 2, 1) := by decide +kernel
theorem d_Si_singNote_6 : decode Y_Si_singNote.2.1 6 = .ok (.invokevirtual 102, 3) := by decide +kernel
theorem d_Si_singNote_9 : decode Y_Si_singNote.2.1 9 = .ok (.istore_n 3, 1) := by decide +kernel
theorem d_Si_singNote_10 : decode Y_Si_singNote.2.1 10 = .ok (.aload_n 0, 1) := by decide +kernel
theorem d_Si_singNote_11 : decode Y_Si_singNote.2.1 11 = .ok (.sipush 25173, 3) := by decide +kernel
theorem d_Si_singNote_14 : decode Y_Si_singNote.2.1 14 = .ok (.aload_n 0, 1) := by decide +kernel
theorem d_Si_singNote_15 : decode Y_Si_singNote.2.1 15 = .ok (.getfield 75, 3) := by decide +kernel
theorem d_Si_singNote_18 : decode Y_Si_singNote.2.1 18 = .ok (.imul, 1) := by decide +kernel
theorem d_Si_singNote_19 : decode Y_Si_singNote.2.1 19 = .ok (.sipush 13849, 3) := by decide +kernel
theorem d_Si_singNote_22 : decode Y_Si_singNote.2.1 22 = .ok (.iadd, 1) := by decide +kernel
theorem d_Si_singNote_23 : decode Y_Si_singNote.2.1 23 = .ok (.ldc 110, 2) := by decide +kernel
theorem d_Si_singNote_25 : decode Y_Si_singNote.2.1 25 = .ok (.iand, 1) := by decide +kernel
theorem d_Si_singNote_26 : decode Y_Si_singNote.2.1 26 = .ok (.putfield 75, 3) := by decide +kernel
theorem d_Si_singNote_29 : decode Y_Si_singNote.2.1 29 = .ok (.aload_n 0, 1) := by decide +kernel
theorem d_Si_singNote_30 : decode Y_Si_singNote.2.1 30 = .ok (.iload_n 1, 1) := by decide +kernel
theorem d_Si_singNote_31 : decode Y_Si_singNote.2.1 31 = .ok (.iload_n 2, 1) := by decide +kernel
theorem d_Si_singNote_32 : decode Y_Si_singNote.2.1 32 = .ok (.iload_n 3, 1) := by decide +kernel
theorem d_Si_singNote_33 : decode Y_Si_singNote.2.1 33 = .ok (.invokevirtual 111, 3) := by decide +kernel
theorem d_Si_singNote_36 : decode Y_Si_singNote.2.1 36 = .ok (.aload_n 0, 1) := by decide +kernel
theorem d_Si_singNote_37 : decode Y_Si_singNote.2.1 37 = .ok (.getfield 46, 3) := by decide +kernel
theorem d_Si_singNote_40 : decode Y_Si_singNote.2.1 40 = .ok (.getfield 115, 3) := by decide +kernel
theorem d_Si_singNote_43 : decode Y_Si_singNote.2.1 43 = .ok (.aload_n 0, 1) := by decide +kernel
theorem d_Si_singNote_44 : decode Y_Si_singNote.2.1 44 = .ok (.getfield 28, 3) := by decide +kernel
theorem d_Si_singNote_47 : decode Y_Si_singNote.2.1 47 = .ok (.aload_n 0, 1) := by decide +kernel
theorem d_Si_singNote_48 : decode Y_Si_singNote.2.1 48 = .ok (.getfield 32, 3) := by decide +kernel
theorem d_Si_singNote_51 : decode Y_Si_singNote.2.1 51 = .ok (.invokevirtual 119, 3) := by decide +kernel
theorem d_Si_singNote_54 : decode Y_Si_singNote.2.1 54 = .ok (.aload_n 0, 1) := by decide +kernel
theorem d_Si_singNote_55 : decode Y_Si_singNote.2.1 55 = .ok (.iload_n 1, 1) := by decide +kernel
theorem d_Si_singNote_56 : decode Y_Si_singNote.2.1 56 = .ok (.iload_n 2, 1) := by decide +kernel
theorem d_Si_singNote_57 : decode Y_Si_singNote.2.1 57 = .ok (.iload_n 3, 1) := by decide +kernel
theorem d_Si_singNote_58 : decode Y_Si_singNote.2.1 58 = .ok (.aload_n 0, 1) := by decide +kernel
theorem d_Si_singNote_59 : decode Y_Si_singNote.2.1 59 = .ok (.getfield 15, 3) := by decide +kernel
theorem d_Si_singNote_62 : decode Y_Si_singNote.2.1 62 = .ok (.iload_n 1, 1) := by decide +kernel
theorem d_Si_singNote_63 : decode Y_Si_singNote.2.1 63 = .ok (.laload, 1) := by decide +kernel
theorem d_Si_singNote_64 : decode Y_Si_singNote.2.1 64 = .ok (.invokevirtual 125, 3) := by decide +kernel
theorem d_Si_singNote_67 : decode Y_Si_singNote.2.1 67 = .ok (.aload_n 0, 1) := by decide +kernel
theorem d_Si_singNote_68 : decode Y_Si_singNote.2.1 68 = .ok (.aload_n 0, 1) := by decide +kernel
theorem d_Si_singNote_69 : decode Y_Si_singNote.2.1 69 = .ok (.getfield 32, 3) := by decide +kernel
theorem d_Si_singNote_72 : decode Y_Si_singNote.2.1 72 = .ok (.iconst 0, 1) := by decide +kernel
theorem d_Si_singNote_73 : decode Y_Si_singNote.2.1 73 = .ok (.iaload, 1) := by decide +kernel
theorem d_Si_singNote_74 : decode Y_Si_singNote.2.1 74 = .ok (.aload_n 0, 1) := by decide +kernel
theorem d_Si_singNote_75 : decode Y_Si_singNote.2.1 75 = .ok (.getfield 32, 3) := by decide +kernel
theorem d_Si_singNote_78 : decode Y_Si_singNote.2.1 78 = .ok (.iconst 1, 1) := by decide +kernel
theorem d_Si_singNote_79 : decode Y_Si_singNote.2.1 79 = .ok (.iaload, 1) := by decide +kernel
theorem d_Si_singNote_80 : decode Y_Si_singNote.2.1 80 = .ok (.aload_n 0, 1) := by decide +kernel
theorem d_Si_singNote_81 : decode Y_Si_singNote.2.1 81 = .ok (.getfield 32, 3) := by decide +kernel
theorem d_Si_singNote_84 : decode Y_Si_singNote.2.1 84 = .ok (.iconst 2, 1) := by decide +kernel
theorem d_Si_singNote_85 : decode Y_Si_singNote.2.1 85 = .ok (.iaload, 1) := by decide +kernel
theorem d_Si_singNote_86 : decode Y_Si_singNote.2.1 86 = .ok (.aload_n 0, 1) := by decide +kernel
theorem d_Si_singNote_87 : decode Y_Si_singNote.2.1 87 = .ok (.getfield 32, 3) := by decide +kernel
theorem d_Si_singNote_90 : decode Y_Si_singNote.2.1 90 = .ok (.iconst 3, 1) := by decide +kernel
theorem d_Si_singNote_91 : decode Y_Si_singNote.2.1 91 = .ok (.iaload, 1) := by decide +kernel
theorem d_Si_singNote_92 : decode Y_Si_singNote.2.1 92 = .ok (.invokevirtual 129, 3) := by decide +kernel
theorem d_Si_singNote_95 : decode Y_Si_singNote.2.1 95 = .ok (.aload_n 0, 1) := by decide +kernel
theorem d_Si_singNote_96 : decode Y_Si_singNote.2.1 96 = .ok (.getfield 32, 3) := by decide +kernel
theorem d_Si_singNote_99 : decode Y_Si_singNote.2.1 99 = .ok (.iconst 4, 1) := by decide +kernel
theorem d_Si_singNote_100 : decode Y_Si_singNote.2.1 100 = .ok (.iaload, 1) := by decide +kernel
theorem d_Si_singNote_101 : decode Y_Si_singNote.2.1 101 = .ok (.i2l, 1) := by decide +kernel
theorem d_Si_singNote_102 : decode Y_Si_singNote.2.1 102 = .ok (.ladd, 1) := by decide +kernel
theorem d_Si_singNote_103 : decode Y_Si_singNote.2.1 103 = .ok (.lstore 4, 2) := by decide +kernel
theorem d_Si_singNote_105 : decode Y_Si_singNote.2.1 105 = .ok (.aload_n 0, 1) := by decide +kernel
theorem d_Si_singNote_106 : decode Y_Si_singNote.2.1 106 = .ok (.dup, 1) := by decide +kernel
theorem d_Si_singNote_107 : decode Y_Si_singNote.2.1 107 = .ok (.getfield 76, 3) := by decide +kernel
theorem d_Si_singNote_110 : decode Y_Si_singNote.2.1 110 = .ok (.aload_n 0, 1) := by decide +kernel
theorem d_Si_singNote_111 : decode Y_Si_singNote.2.1 111 = .ok (.getfield 32, 3) := by decide +kernel
theorem d_Si_singNote_114 : decode Y_Si_singNote.2.1 114 = .ok (.iconst 4, 1) := by decide +kernel
theorem d_Si_singNote_115 : decode Y_Si_singNote.2.1 115 = .ok (.iaload, 1) := by decide +kernel
theorem d_Si_singNote_116 : decode Y_Si_singNote.2.1 116 = .ok (.i2l, 1) := by decide +kernel
theorem d_Si_singNote_117 : decode Y_Si_singNote.2.1 117 = .ok (.ladd, 1) := by decide +kernel
theorem d_Si_singNote_118 : decode Y_Si_singNote.2.1 118 = .ok (.putfield 76, 3) := by decide +kernel
theorem d_Si_singNote_121 : decode Y_Si_singNote.2.1 121 = .ok (.aload_n 0, 1) := by decide +kernel
theorem d_Si_singNote_122 : decode Y_Si_singNote.2.1 122 = .ok (.getfield 9, 3) := by decide +kernel
theorem d_Si_singNote_125 : decode Y_Si_singNote.2.1 125 = .ok (.iload_n 1, 1) := by decide +kernel
theorem d_Si_singNote_126 : decode Y_Si_singNote.2.1 126 = .ok (.bipush 24, 2) := by decide +kernel
theorem d_Si_singNote_128 : decode Y_Si_singNote.2.1 128 = .ok (.imul, 1) := by decide +kernel
theorem d_Si_singNote_129 : decode Y_Si_singNote.2.1 129 = .ok (.iload_n 2, 1) := by decide +kernel
theorem d_Si_singNote_130 : decode Y_Si_singNote.2.1 130 = .ok (.iadd, 1) := by decide +kernel
theorem d_Si_singNote_131 : decode Y_Si_singNote.2.1 131 = .ok (.lload 4, 2) := by decide +kernel
theorem d_Si_singNote_133 : decode Y_Si_singNote.2.1 133 = .ok (.lastore, 1) := by decide +kernel
theorem d_Si_singNote_134 : decode Y_Si_singNote.2.1 134 = .ok (.aload_n 0, 1) := by decide +kernel
theorem d_Si_singNote_135 : decode Y_Si_singNote.2.1 135 = .ok (.getfield 15, 3) := by decide +kernel
theorem d_Si_singNote_138 : decode Y_Si_singNote.2.1 138 = .ok (.iload_n 1, 1) := by decide +kernel
theorem d_Si_singNote_139 : decode Y_Si_singNote.2.1 139 = .ok (.lload 4, 2) := by decide +kernel
theorem d_Si_singNote_141 : decode Y_Si_singNote.2.1 141 = .ok (.lastore, 1) := by decide +kernel
theorem d_Si_singNote_142 : decode Y_Si_singNote.2.1 142 = .ok (.return_, 1) := by decide +kernel
theorem d_Si_sing_0 : decode Y_Si_sing.2.1 0 = .ok (.aload_n 0, 1) := by decide +kernel
theorem d_Si_sing_1 : decode Y_Si_sing.2.1 1 = .ok (.aload_n 1, 1) := by decide +kernel
theorem d_Si_sing_2 : decode Y_Si_sing.2.1 2 = .ok (.putfield 55, 3) := by decide +kernel
theorem d_Si_sing_5 : decode Y_Si_sing.2.1 5 = .ok (.aload_n 0, 1) := by decide +kernel
theorem d_Si_sing_6 : decode Y_Si_sing.2.1 6 = .ok (.iload_n 2, 1) := by decide +kernel
theorem d_Si_sing_7 : decode Y_Si_sing.2.1 7 = .ok (.putfield 64, 3) := by decide +kernel
theorem d_Si_sing_10 : decode Y_Si_sing.2.1 10 = .ok (.aload_n 0, 1) := by decide +kernel
theorem d_Si_sing_11 : decode Y_Si_sing.2.1 11 = .ok (.iload_n 3, 1) := by decide +kernel
theorem d_Si_sing_12 : decode Y_Si_sing.2.1 12 = .ok (.putfield 65, 3) := by decide +kernel
theorem d_Si_sing_15 : decode Y_Si_sing.2.1 15 = .ok (.aload_n 0, 1) := by decide +kernel
theorem d_Si_sing_16 : decode Y_Si_sing.2.1 16 = .ok (.iload 4, 2) := by decide +kernel
theorem d_Si_sing_18 : decode Y_Si_sing.2.1 18 = .ok (.putfield 68, 3) := by decide +kernel
theorem d_Si_sing_21 : decode Y_Si_sing.2.1 21 = .ok (.aload_n 0, 1) := by decide +kernel
theorem d_Si_sing_22 : decode Y_Si_sing.2.1 22 = .ok (.aload_n 0, 1) := by decide +kernel
theorem d_Si_sing_23 : decode Y_Si_sing.2.1 23 = .ok (.getfield 46, 3) := by decide +kernel
theorem d_Si_sing_26 : decode Y_Si_sing.2.1 26 = .ok (.getfield 72, 3) := by decide +kernel
theorem d_Si_sing_29 : decode Y_Si_sing.2.1 29 = .ok (.putfield 75, 3) := by decide +kernel
theorem d_Si_sing_32 : decode Y_Si_sing.2.1 32 = .ok (.aload_n 0, 1) := by decide +kernel
theorem d_Si_sing_33 : decode Y_Si_sing.2.1 33 = .ok (.lconst 0, 1) := by decide +kernel
theorem d_Si_sing_34 : decode Y_Si_sing.2.1 34 = .ok (.putfield 76, 3) := by decide +kernel
theorem d_Si_sing_37 : decode Y_Si_sing.2.1 37 = .ok (.iconst 0, 1) := by decide +kernel
theorem d_Si_sing_38 : decode Y_Si_sing.2.1 38 = .ok (.istore 5, 2) := by decide +kernel
theorem d_Si_sing_40 : decode Y_Si_sing.2.1 40 = .ok (.iload 5, 2) := by decide +kernel
theorem d_Si_sing_42 : decode Y_Si_sing.2.1 42 = .ok (.bipush 24, 2) := by decide +kernel
theorem d_Si_sing_44 : decode Y_Si_sing.2.1 44 = .ok (.if_icmp .ge 91, 3) := by decide +kernel
theorem d_Si_sing_47 : decode Y_Si_sing.2.1 47 = .ok (.aload_n 0, 1) := by decide +kernel
theorem d_Si_sing_48 : decode Y_Si_sing.2.1 48 = .ok (.aload_n 0, 1) := by decide +kernel
theorem d_Si_sing_49 : decode Y_Si_sing.2.1 49 = .ok (.getfield 46, 3) := by decide +kernel
theorem d_Si_sing_52 : decode Y_Si_sing.2.1 52 = .ok (.iload 5, 2) := by decide +kernel
theorem d_Si_sing_54 : decode Y_Si_sing.2.1 54 = .ok (.invokevirtual 80, 3) := by decide +kernel
theorem d_Si_sing_57 : decode Y_Si_sing.2.1 57 = .ok (.putfield 84, 3) := by decide +kernel
theorem d_Si_sing_60 : decode Y_Si_sing.2.1 60 = .ok (.aload_n 0, 1) := by decide +kernel
theorem d_Si_sing_61 : decode Y_Si_sing.2.1 61 = .ok (.getfield 64, 3) := by decide +kernel
theorem d_Si_sing_64 : decode Y_Si_sing.2.1 64 = .ok (.iload 5, 2) := by decide +kernel
theorem d_Si_sing_66 : decode Y_Si_sing.2.1 66 = .ok (.ishr, 1) := by decide +kernel
theorem d_Si_sing_67 : decode Y_Si_sing.2.1 67 = .ok (.iconst 1, 1) := by decide +kernel
theorem d_Si_sing_68 : decode Y_Si_sing.2.1 68 = .ok (.iand, 1) := by decide +kernel
theorem d_Si_sing_69 : decode Y_Si_sing.2.1 69 = .ok (.iconst 1, 1) := by decide +kernel
theorem d_Si_sing_70 : decode Y_Si_sing.2.1 70 = .ok (.if_icmp .ne 9, 3) := by decide +kernel
theorem d_Si_sing_73 : decode Y_Si_sing.2.1 73 = .ok (.aload_n 0, 1) := by decide +kernel
theorem d_Si_sing_74 : decode Y_Si_sing.2.1 74 = .ok (.iload 5, 2) := by decide +kernel
theorem d_Si_sing_76 : decode Y_Si_sing.2.1 76 = .ok (.invokevirtual 87, 3) := by decide +kernel
theorem d_Si_sing_79 : decode Y_Si_sing.2.1 79 = .ok (.iconst 0, 1) := by decide +kernel
theorem d_Si_sing_80 : decode Y_Si_sing.2.1 80 = .ok (.istore 6, 2) := by decide +kernel
theorem d_Si_sing_82 : decode Y_Si_sing.2.1 82 = .ok (.iload 6, 2) := by decide +kernel
theorem d_Si_sing_84 : decode Y_Si_sing.2.1 84 = .ok (.aload_n 0, 1) := by decide +kernel
theorem d_Si_sing_85 : decode Y_Si_sing.2.1 85 = .ok (.getfield 46, 3) := by decide +kernel
theorem d_Si_sing_88 : decode Y_Si_sing.2.1 88 = .ok (.getfield 91, 3) := by decide +kernel
theorem d_Si_sing_91 : decode Y_Si_sing.2.1 91 = .ok (.if_icmp .ge 38, 3) := by decide +kernel
theorem d_Si_sing_94 : decode Y_Si_sing.2.1 94 = .ok (.aload_n 0, 1) := by decide +kernel
theorem d_Si_sing_95 : decode Y_Si_sing.2.1 95 = .ok (.getfield 84, 3) := by decide +kernel
theorem d_Si_sing_98 : decode Y_Si_sing.2.1 98 = .ok (.ifCond .le 31, 3) := by decide +kernel
theorem d_Si_sing_101 : decode Y_Si_sing.2.1 101 = .ok (.aload_n 0, 1) := by decide +kernel
theorem d_Si_sing_102 : decode Y_Si_sing.2.1 102 = .ok (.getfield 46, 3) := by decide +kernel
theorem d_Si_sing_105 : decode Y_Si_sing.2.1 105 = .ok (.iload 6, 2) := by decide +kernel
theorem d_Si_sing_107 : decode Y_Si_sing.2.1 107 = .ok (.iload 5, 2) := by decide +kernel
theorem d_Si_sing_109 : decode Y_Si_sing.2.1 109 = .ok (.invokevirtual 94, 3) := by decide +kernel
theorem d_Si_sing_112 : decode Y_Si_sing.2.1 112 = .ok (.ifCond .eq 11, 3) := by decide +kernel
theorem d_Si_sing_115 : decode Y_Si_sing.2.1 115 = .ok (.aload_n 0, 1) := by decide +kernel
theorem d_Si_sing_116 : decode Y_Si_sing.2.1 116 = .ok (.iload 6, 2) := by decide +kernel
theorem d_Si_sing_118 : decode Y_Si_sing.2.1 118 = .ok (.iload 5, 2) := by decide +kernel
theorem d_Si_sing_120 : decode Y_Si_sing.2.1 120 = .ok (.invokevirtual 98, 3) := by decide +kernel
theorem d_Si_sing_123 : decode Y_Si_sing.2.1 123 = .ok (.iinc 6 1, 3) := by decide +kernel
theorem d_Si_sing_126 : decode Y_Si_sing.2.1 126 = .ok (.goto (-44), 3) := by decide +kernel
theorem d_Si_sing_129 : decode Y_Si_sing.2.1 129 = .ok (.iinc 5 1, 3) := by decide +kernel
theorem d_Si_sing_132 : decode Y_Si_sing.2.1 132 = .ok (.goto (-92), 3) := by decide +kernel
theorem d_Si_sing_135 : decode Y_Si_sing.2.1 135 = .ok (.return_, 1) := by decide +kernel
theorem d_Si_asTold_0 : decode Y_Si_asTold.2.1 0 = .ok (.aload_n 0, 1) := by decide +kernel
theorem d_Si_asTold_1 : decode Y_Si_asTold.2.1 1 = .ok (.aload_n 0, 1) := by decide +kernel
theorem d_Si_asTold_2 : decode Y_Si_asTold.2.1 2 = .ok (.getfield 46, 3) := by decide +kernel
theorem d_Si_asTold_5 : decode Y_Si_asTold.2.1 5 = .ok (.getfield 50, 3) := by decide +kernel
theorem d_Si_asTold_8 : decode Y_Si_asTold.2.1 8 = .ok (.aload_n 0, 1) := by decide +kernel
theorem d_Si_asTold_9 : decode Y_Si_asTold.2.1 9 = .ok (.getfield 46, 3) := by decide +kernel
theorem d_Si_asTold_12 : decode Y_Si_asTold.2.1 12 = .ok (.getfield 56, 3) := by decide +kernel
theorem d_Si_asTold_15 : decode Y_Si_asTold.2.1 15 = .ok (.iconst 0, 1) := by decide +kernel
theorem d_Si_asTold_16 : decode Y_Si_asTold.2.1 16 = .ok (.iconst 0, 1) := by decide +kernel
theorem d_Si_asTold_17 : decode Y_Si_asTold.2.1 17 = .ok (.invokevirtual 60, 3) := by decide +kernel
theorem d_Si_asTold_20 : decode Y_Si_asTold.2.1 20 = .ok (.return_, 1) := by decide +kernel
theorem d_Si_sung_0 : decode Y_Si_sung.2.1 0 = .ok (.aload_n 0, 1) := by decide +kernel
theorem d_Si_sung_1 : decode Y_Si_sung.2.1 1 = .ok (.getfield 46, 3) := by decide +kernel
theorem d_Si_sung_4 : decode Y_Si_sung.2.1 4 = .ok (.iload_n 1, 1) := by decide +kernel
theorem d_Si_sung_5 : decode Y_Si_sung.2.1 5 = .ok (.iload_n 2, 1) := by decide +kernel
theorem d_Si_sung_6 : decode Y_Si_sung.2.1 6 = .ok (.invokevirtual 94, 3) := by decide +kernel
theorem d_Si_sung_9 : decode Y_Si_sung.2.1 9 = .ok (.ifCond .eq 17, 3) := by decide +kernel
theorem d_Si_sung_12 : decode Y_Si_sung.2.1 12 = .ok (.aload_n 0, 1) := by decide +kernel
theorem d_Si_sung_13 : decode Y_Si_sung.2.1 13 = .ok (.getfield 9, 3) := by decide +kernel
theorem d_Si_sung_16 : decode Y_Si_sung.2.1 16 = .ok (.iload_n 1, 1) := by decide +kernel
theorem d_Si_sung_17 : decode Y_Si_sung.2.1 17 = .ok (.bipush 24, 2) := by decide +kernel
theorem d_Si_sung_19 : decode Y_Si_sung.2.1 19 = .ok (.imul, 1) := by decide +kernel
theorem d_Si_sung_20 : decode Y_Si_sung.2.1 20 = .ok (.iload_n 2, 1) := by decide +kernel
theorem d_Si_sung_21 : decode Y_Si_sung.2.1 21 = .ok (.iadd, 1) := by decide +kernel
theorem d_Si_sung_22 : decode Y_Si_sung.2.1 22 = .ok (.laload, 1) := by decide +kernel
theorem d_Si_sung_23 : decode Y_Si_sung.2.1 23 = .ok (.goto 4, 3) := by decide +kernel
theorem d_Si_sung_26 : decode Y_Si_sung.2.1 26 = .ok (.lconst 0, 1) := by decide +kernel
theorem d_Si_sung_27 : decode Y_Si_sung.2.1 27 = .ok (.lreturn, 1) := by decide +kernel
theorem d_X_pitch_0 : decode Y_X_pitch.2.1 0 = .ok (.aload_n 0, 1) := by decide +kernel
theorem d_X_pitch_1 : decode Y_X_pitch.2.1 1 = .ok (.getfield 21, 3) := by decide +kernel
theorem d_X_pitch_4 : decode Y_X_pitch.2.1 4 = .ok (.iload_n 1, 1) := by decide +kernel
theorem d_X_pitch_5 : decode Y_X_pitch.2.1 5 = .ok (.iload_n 2, 1) := by decide +kernel
theorem d_X_pitch_6 : decode Y_X_pitch.2.1 6 = .ok (.invokevirtual 229, 3) := by decide +kernel
theorem d_X_pitch_9 : decode Y_X_pitch.2.1 9 = .ok (.ifCond .ne 6, 3) := by decide +kernel
theorem d_X_pitch_12 : decode Y_X_pitch.2.1 12 = .ok (.ldc 102, 2) := by decide +kernel
theorem d_X_pitch_14 : decode Y_X_pitch.2.1 14 = .ok (.ireturn, 1) := by decide +kernel
theorem d_X_pitch_15 : decode Y_X_pitch.2.1 15 = .ok (.aload_n 0, 1) := by decide +kernel
theorem d_X_pitch_16 : decode Y_X_pitch.2.1 16 = .ok (.getfield 30, 3) := by decide +kernel
theorem d_X_pitch_19 : decode Y_X_pitch.2.1 19 = .ok (.invokevirtual 232, 3) := by decide +kernel
theorem d_X_pitch_22 : decode Y_X_pitch.2.1 22 = .ok (.aload_n 0, 1) := by decide +kernel
theorem d_X_pitch_23 : decode Y_X_pitch.2.1 23 = .ok (.getfield 30, 3) := by decide +kernel
theorem d_X_pitch_26 : decode Y_X_pitch.2.1 26 = .ok (.iload_n 1, 1) := by decide +kernel
theorem d_X_pitch_27 : decode Y_X_pitch.2.1 27 = .ok (.iload_n 2, 1) := by decide +kernel
theorem d_X_pitch_28 : decode Y_X_pitch.2.1 28 = .ok (.invokevirtual 235, 3) := by decide +kernel
theorem d_X_pitch_31 : decode Y_X_pitch.2.1 31 = .ok (.l2i, 1) := by decide +kernel
theorem d_X_pitch_32 : decode Y_X_pitch.2.1 32 = .ok (.ireturn, 1) := by decide +kernel
theorem d_M_sings_0 : decode Y_M_sings.2.1 0 = .ok (.aload_n 0, 1) := by decide +kernel
theorem d_M_sings_1 : decode Y_M_sings.2.1 1 = .ok (.aload_n 0, 1) := by decide +kernel
theorem d_M_sings_2 : decode Y_M_sings.2.1 2 = .ok (.getfield 56, 3) := by decide +kernel
theorem d_M_sings_5 : decode Y_M_sings.2.1 5 = .ok (.iload_n 1, 1) := by decide +kernel
theorem d_M_sings_6 : decode Y_M_sings.2.1 6 = .ok (.iaload, 1) := by decide +kernel
theorem d_M_sings_7 : decode Y_M_sings.2.1 7 = .ok (.iload_n 2, 1) := by decide +kernel
theorem d_M_sings_8 : decode Y_M_sings.2.1 8 = .ok (.invokevirtual 162, 3) := by decide +kernel
theorem d_M_sings_11 : decode Y_M_sings.2.1 11 = .ok (.ireturn, 1) := by decide +kernel
theorem d_M_readies_0 : decode Y_M_readies.2.1 0 = .ok (.iconst 0, 1) := by decide +kernel
theorem d_M_readies_1 : decode Y_M_readies.2.1 1 = .ok (.istore_n 1, 1) := by decide +kernel
theorem d_M_readies_2 : decode Y_M_readies.2.1 2 = .ok (.iload_n 1, 1) := by decide +kernel
theorem d_M_readies_3 : decode Y_M_readies.2.1 3 = .ok (.aload_n 0, 1) := by decide +kernel
theorem d_M_readies_4 : decode Y_M_readies.2.1 4 = .ok (.getfield 275, 3) := by decide +kernel
theorem d_M_readies_7 : decode Y_M_readies.2.1 7 = .ok (.if_icmp .ge 33, 3) := by decide +kernel
theorem d_M_readies_10 : decode Y_M_readies.2.1 10 = .ok (.aload_n 0, 1) := by decide +kernel
theorem d_M_readies_11 : decode Y_M_readies.2.1 11 = .ok (.getfield 110, 3) := by decide +kernel
theorem d_M_readies_14 : decode Y_M_readies.2.1 14 = .ok (.iload_n 1, 1) := by decide +kernel
theorem d_M_readies_15 : decode Y_M_readies.2.1 15 = .ok (.aload_n 0, 1) := by decide +kernel
theorem d_M_readies_16 : decode Y_M_readies.2.1 16 = .ok (.getfield 59, 3) := by decide +kernel
theorem d_M_readies_19 : decode Y_M_readies.2.1 19 = .ok (.iload_n 1, 1) := by decide +kernel
theorem d_M_readies_20 : decode Y_M_readies.2.1 20 = .ok (.iaload, 1) := by decide +kernel
theorem d_M_readies_21 : decode Y_M_readies.2.1 21 = .ok (.iastore, 1) := by decide +kernel
theorem d_M_readies_22 : decode Y_M_readies.2.1 22 = .ok (.aload_n 0, 1) := by decide +kernel
theorem d_M_readies_23 : decode Y_M_readies.2.1 23 = .ok (.getfield 113, 3) := by decide +kernel
theorem d_M_readies_26 : decode Y_M_readies.2.1 26 = .ok (.iload_n 1, 1) := by decide +kernel
theorem d_M_readies_27 : decode Y_M_readies.2.1 27 = .ok (.aload_n 0, 1) := by decide +kernel
theorem d_M_readies_28 : decode Y_M_readies.2.1 28 = .ok (.getfield 65, 3) := by decide +kernel
theorem d_M_readies_31 : decode Y_M_readies.2.1 31 = .ok (.iload_n 1, 1) := by decide +kernel
theorem d_M_readies_32 : decode Y_M_readies.2.1 32 = .ok (.iaload, 1) := by decide +kernel
theorem d_M_readies_33 : decode Y_M_readies.2.1 33 = .ok (.iastore, 1) := by decide +kernel
theorem d_M_readies_34 : decode Y_M_readies.2.1 34 = .ok (.iinc 1 1, 3) := by decide +kernel
theorem d_M_readies_37 : decode Y_M_readies.2.1 37 = .ok (.goto (-35), 3) := by decide +kernel
theorem d_M_readies_40 : decode Y_M_readies.2.1 40 = .ok (.aload_n 0, 1) := by decide +kernel
theorem d_M_readies_41 : decode Y_M_readies.2.1 41 = .ok (.aload_n 0, 1) := by decide +kernel
theorem d_M_readies_42 : decode Y_M_readies.2.1 42 = .ok (.getfield 302, 3) := by decide +kernel
theorem d_M_readies_45 : decode Y_M_readies.2.1 45 = .ok (.putfield 497, 3) := by decide +kernel
theorem d_M_readies_48 : decode Y_M_readies.2.1 48 = .ok (.aload_n 0, 1) := by decide +kernel
theorem d_M_readies_49 : decode Y_M_readies.2.1 49 = .ok (.iconst 0, 1) := by decide +kernel
theorem d_M_readies_50 : decode Y_M_readies.2.1 50 = .ok (.putfield 420, 3) := by decide +kernel
theorem d_M_readies_53 : decode Y_M_readies.2.1 53 = .ok (.return_, 1) := by decide +kernel
theorem d_M_has_0 : decode Y_M_has.2.1 0 = .ok (.iload_n 0, 1) := by decide +kernel
theorem d_M_has_1 : decode Y_M_has.2.1 1 = .ok (.iload_n 1, 1) := by decide +kernel
theorem d_M_has_2 : decode Y_M_has.2.1 2 = .ok (.ishr, 1) := by decide +kernel
theorem d_M_has_3 : decode Y_M_has.2.1 3 = .ok (.iconst 1, 1) := by decide +kernel
theorem d_M_has_4 : decode Y_M_has.2.1 4 = .ok (.iand, 1) := by decide +kernel
theorem d_M_has_5 : decode Y_M_has.2.1 5 = .ok (.iconst 1, 1) := by decide +kernel
theorem d_M_has_6 : decode Y_M_has.2.1 6 = .ok (.if_icmp .ne 7, 3) := by decide +kernel
theorem d_M_has_9 : decode Y_M_has.2.1 9 = .ok (.iconst 1, 1) := by decide +kernel
theorem d_M_has_10 : decode Y_M_has.2.1 10 = .ok (.goto 4, 3) := by decide +kernel
theorem d_M_has_13 : decode Y_M_has.2.1 13 = .ok (.iconst 0, 1) := by decide +kernel
theorem d_M_has_14 : decode Y_M_has.2.1 14 = .ok (.ireturn, 1) := by decide +kernel
theorem d_M_keyOf_0 : decode Y_M_keyOf.2.1 0 = .ok (.aload_n 0, 1) := by decide +kernel
theorem d_M_keyOf_1 : decode Y_M_keyOf.2.1 1 = .ok (.getfield 13, 3) := by decide +kernel
theorem d_M_keyOf_4 : decode Y_M_keyOf.2.1 4 = .ok (.aload_n 0, 1) := by decide +kernel
theorem d_M_keyOf_5 : decode Y_M_keyOf.2.1 5 = .ok (.getfield 56, 3) := by decide +kernel
theorem d_M_keyOf_8 : decode Y_M_keyOf.2.1 8 = .ok (.iload_n 1, 1) := by decide +kernel
theorem d_M_keyOf_9 : decode Y_M_keyOf.2.1 9 = .ok (.iaload, 1) := by decide +kernel
theorem d_M_keyOf_10 : decode Y_M_keyOf.2.1 10 = .ok (.iload_n 2, 1) := by decide +kernel
theorem d_M_keyOf_11 : decode Y_M_keyOf.2.1 11 = .ok (.invokestatic 158, 3) := by decide +kernel
theorem d_M_keyOf_14 : decode Y_M_keyOf.2.1 14 = .ok (.iaload, 1) := by decide +kernel
theorem d_M_keyOf_15 : decode Y_M_keyOf.2.1 15 = .ok (.ireturn, 1) := by decide +kernel
theorem d_M_tableOf_0 : decode Y_M_tableOf.2.1 0 = .ok (.ldc_w 419, 3) := by decide +kernel
theorem d_M_tableOf_3 : decode Y_M_tableOf.2.1 3 = .ok (.iload_n 1, 1) := by decide +kernel
theorem d_M_tableOf_4 : decode Y_M_tableOf.2.1 4 = .ok (.imul, 1) := by decide +kernel
theorem d_M_tableOf_5 : decode Y_M_tableOf.2.1 5 = .ok (.aload_n 0, 1) := by decide +kernel
theorem d_M_tableOf_6 : decode Y_M_tableOf.2.1 6 = .ok (.getfield 68, 3) := by decide +kernel
theorem d_M_tableOf_9 : decode Y_M_tableOf.2.1 9 = .ok (.iload_n 1, 1) := by decide +kernel
theorem d_M_tableOf_10 : decode Y_M_tableOf.2.1 10 = .ok (.bipush 12, 2) := by decide +kernel
theorem d_M_tableOf_12 : decode Y_M_tableOf.2.1 12 = .ok (.irem, 1) := by decide +kernel
theorem d_M_tableOf_13 : decode Y_M_tableOf.2.1 13 = .ok (.aload_n 0, 1) := by decide +kernel
theorem d_M_tableOf_14 : decode Y_M_tableOf.2.1 14 = .ok (.getfield 420, 3) := by decide +kernel
theorem d_M_tableOf_17 : decode Y_M_tableOf.2.1 17 = .ok (.isub, 1) := by decide +kernel
theorem d_M_tableOf_18 : decode Y_M_tableOf.2.1 18 = .ok (.bipush 12, 2) := by decide +kernel
theorem d_M_tableOf_20 : decode Y_M_tableOf.2.1 20 = .ok (.iadd, 1) := by decide +kernel
theorem d_M_tableOf_21 : decode Y_M_tableOf.2.1 21 = .ok (.bipush 12, 2) := by decide +kernel
theorem d_M_tableOf_23 : decode Y_M_tableOf.2.1 23 = .ok (.irem, 1) := by decide +kernel
theorem d_M_tableOf_24 : decode Y_M_tableOf.2.1 24 = .ok (.iaload, 1) := by decide +kernel
theorem d_M_tableOf_25 : decode Y_M_tableOf.2.1 25 = .ok (.iadd, 1) := by decide +kernel
theorem d_M_tableOf_26 : decode Y_M_tableOf.2.1 26 = .ok (.ireturn, 1) := by decide +kernel
theorem d_M_hearsOf_0 : decode Y_M_hearsOf.2.1 0 = .ok (.aload_n 0, 1) := by decide +kernel
theorem d_M_hearsOf_1 : decode Y_M_hearsOf.2.1 1 = .ok (.getfield 110, 3) := by decide +kernel
theorem d_M_hearsOf_4 : decode Y_M_hearsOf.2.1 4 = .ok (.iload_n 1, 1) := by decide +kernel
theorem d_M_hearsOf_5 : decode Y_M_hearsOf.2.1 5 = .ok (.iaload, 1) := by decide +kernel
theorem d_M_hearsOf_6 : decode Y_M_hearsOf.2.1 6 = .ok (.aload_n 0, 1) := by decide +kernel
theorem d_M_hearsOf_7 : decode Y_M_hearsOf.2.1 7 = .ok (.getfield 110, 3) := by decide +kernel
theorem d_M_hearsOf_10 : decode Y_M_hearsOf.2.1 10 = .ok (.iload_n 2, 1) := by decide +kernel
theorem d_M_hearsOf_11 : decode Y_M_hearsOf.2.1 11 = .ok (.iaload, 1) := by decide +kernel
theorem d_M_hearsOf_12 : decode Y_M_hearsOf.2.1 12 = .ok (.if_icmp .ge 19, 3) := by decide +kernel
theorem d_M_hearsOf_15 : decode Y_M_hearsOf.2.1 15 = .ok (.aload_n 0, 1) := by decide +kernel
theorem d_M_hearsOf_16 : decode Y_M_hearsOf.2.1 16 = .ok (.getfield 110, 3) := by decide +kernel
theorem d_M_hearsOf_19 : decode Y_M_hearsOf.2.1 19 = .ok (.iload_n 2, 1) := by decide +kernel
theorem d_M_hearsOf_20 : decode Y_M_hearsOf.2.1 20 = .ok (.iaload, 1) := by decide +kernel
theorem d_M_hearsOf_21 : decode Y_M_hearsOf.2.1 21 = .ok (.aload_n 0, 1) := by decide +kernel
theorem d_M_hearsOf_22 : decode Y_M_hearsOf.2.1 22 = .ok (.getfield 110, 3) := by decide +kernel
theorem d_M_hearsOf_25 : decode Y_M_hearsOf.2.1 25 = .ok (.iload_n 1, 1) := by decide +kernel
theorem d_M_hearsOf_26 : decode Y_M_hearsOf.2.1 26 = .ok (.iaload, 1) := by decide +kernel
theorem d_M_hearsOf_27 : decode Y_M_hearsOf.2.1 27 = .ok (.isub, 1) := by decide +kernel
theorem d_M_hearsOf_28 : decode Y_M_hearsOf.2.1 28 = .ok (.goto 16, 3) := by decide +kernel
theorem d_M_hearsOf_31 : decode Y_M_hearsOf.2.1 31 = .ok (.aload_n 0, 1) := by decide +kernel
theorem d_M_hearsOf_32 : decode Y_M_hearsOf.2.1 32 = .ok (.getfield 110, 3) := by decide +kernel
theorem d_M_hearsOf_35 : decode Y_M_hearsOf.2.1 35 = .ok (.iload_n 1, 1) := by decide +kernel
theorem d_M_hearsOf_36 : decode Y_M_hearsOf.2.1 36 = .ok (.iaload, 1) := by decide +kernel
theorem d_M_hearsOf_37 : decode Y_M_hearsOf.2.1 37 = .ok (.aload_n 0, 1) := by decide +kernel
theorem d_M_hearsOf_38 : decode Y_M_hearsOf.2.1 38 = .ok (.getfield 110, 3) := by decide +kernel
theorem d_M_hearsOf_41 : decode Y_M_hearsOf.2.1 41 = .ok (.iload_n 2, 1) := by decide +kernel
theorem d_M_hearsOf_42 : decode Y_M_hearsOf.2.1 42 = .ok (.iaload, 1) := by decide +kernel
theorem d_M_hearsOf_43 : decode Y_M_hearsOf.2.1 43 = .ok (.isub, 1) := by decide +kernel
theorem d_M_hearsOf_44 : decode Y_M_hearsOf.2.1 44 = .ok (.istore_n 3, 1) := by decide +kernel
theorem d_M_hearsOf_45 : decode Y_M_hearsOf.2.1 45 = .ok (.iload_n 3, 1) := by decide +kernel
theorem d_M_hearsOf_46 : decode Y_M_hearsOf.2.1 46 = .ok (.bipush 8, 2) := by decide +kernel
theorem d_M_hearsOf_48 : decode Y_M_hearsOf.2.1 48 = .ok (.if_icmp .ge 17, 3) := by decide +kernel
theorem d_M_hearsOf_51 : decode Y_M_hearsOf.2.1 51 = .ok (.aload_n 0, 1) := by decide +kernel
theorem d_M_hearsOf_52 : decode Y_M_hearsOf.2.1 52 = .ok (.getfield 62, 3) := by decide +kernel
theorem d_M_hearsOf_55 : decode Y_M_hearsOf.2.1 55 = .ok (.iload_n 2, 1) := by decide +kernel
theorem d_M_hearsOf_56 : decode Y_M_hearsOf.2.1 56 = .ok (.iaload, 1) := by decide +kernel
theorem d_M_hearsOf_57 : decode Y_M_hearsOf.2.1 57 = .ok (.bipush 8, 2) := by decide +kernel
theorem d_M_hearsOf_59 : decode Y_M_hearsOf.2.1 59 = .ok (.iload_n 3, 1) := by decide +kernel
theorem d_M_hearsOf_60 : decode Y_M_hearsOf.2.1 60 = .ok (.isub, 1) := by decide +kernel
theorem d_M_hearsOf_61 : decode Y_M_hearsOf.2.1 61 = .ok (.imul, 1) := by decide +kernel
theorem d_M_hearsOf_62 : decode Y_M_hearsOf.2.1 62 = .ok (.goto 4, 3) := by decide +kernel
theorem d_M_hearsOf_65 : decode Y_M_hearsOf.2.1 65 = .ok (.iconst 0, 1) := by decide +kernel
theorem d_M_hearsOf_66 : decode Y_M_hearsOf.2.1 66 = .ok (.ireturn, 1) := by decide +kernel
theorem d_M_sizeFor_0 : decode Y_M_sizeFor.2.1 0 = .ok (.aload_n 0, 1) := by decide +kernel
theorem d_M_sizeFor_1 : decode Y_M_sizeFor.2.1 1 = .ok (.aload_n 0, 1) := by decide +kernel
theorem d_M_sizeFor_2 : decode Y_M_sizeFor.2.1 2 = .ok (.getfield 56, 3) := by decide +kernel
theorem d_M_sizeFor_5 : decode Y_M_sizeFor.2.1 5 = .ok (.iload_n 1, 1) := by decide +kernel
theorem d_M_sizeFor_6 : decode Y_M_sizeFor.2.1 6 = .ok (.iaload, 1) := by decide +kernel
theorem d_M_sizeFor_7 : decode Y_M_sizeFor.2.1 7 = .ok (.iload_n 2, 1) := by decide +kernel
theorem d_M_sizeFor_8 : decode Y_M_sizeFor.2.1 8 = .ok (.invokevirtual 219, 3) := by decide +kernel
theorem d_M_sizeFor_11 : decode Y_M_sizeFor.2.1 11 = .ok (.ireturn, 1) := by decide +kernel
theorem d_M_floor_0 : decode Y_M_floor.2.1 0 = .ok (.lload_n 0, 1) := by decide +kernel
theorem d_M_floor_1 : decode Y_M_floor.2.1 1 = .ok (.lconst 0, 1) := by decide +kernel
theorem d_M_floor_2 : decode Y_M_floor.2.1 2 = .ok (.lcmp, 1) := by decide +kernel
theorem d_M_floor_3 : decode Y_M_floor.2.1 3 = .ok (.ifCond .lt 9, 3) := by decide +kernel
theorem d_M_floor_6 : decode Y_M_floor.2.1 6 = .ok (.lload_n 0, 1) := by decide +kernel
theorem d_M_floor_7 : decode Y_M_floor.2.1 7 = .ok (.lload_n 2, 1) := by decide +kernel
theorem d_M_floor_8 : decode Y_M_floor.2.1 8 = .ok (.ldiv, 1) := by decide +kernel
theorem d_M_floor_9 : decode Y_M_floor.2.1 9 = .ok (.goto 11, 3) := by decide +kernel
theorem d_M_floor_12 : decode Y_M_floor.2.1 12 = .ok (.lload_n 2, 1) := by decide +kernel
theorem d_M_floor_13 : decode Y_M_floor.2.1 13 = .ok (.lconst 1, 1) := by decide +kernel
theorem d_M_floor_14 : decode Y_M_floor.2.1 14 = .ok (.lsub, 1) := by decide +kernel
theorem d_M_floor_15 : decode Y_M_floor.2.1 15 = .ok (.lload_n 0, 1) := by decide +kernel
theorem d_M_floor_16 : decode Y_M_floor.2.1 16 = .ok (.lsub, 1) := by decide +kernel
theorem d_M_floor_17 : decode Y_M_floor.2.1 17 = .ok (.lload_n 2, 1) := by decide +kernel
theorem d_M_floor_18 : decode Y_M_floor.2.1 18 = .ok (.ldiv, 1) := by decide +kernel
theorem d_M_floor_19 : decode Y_M_floor.2.1 19 = .ok (.lneg, 1) := by decide +kernel
theorem d_M_floor_20 : decode Y_M_floor.2.1 20 = .ok (.lreturn, 1) := by decide +kernel
theorem d_M_listens_0 : decode Y_M_listens.2.1 0 = .ok (.lconst 0, 1) := by decide +kernel
theorem d_M_listens_1 : decode Y_M_listens.2.1 1 = .ok (.lstore_n 3, 1) := by decide +kernel
theorem d_M_listens_2 : decode Y_M_listens.2.1 2 = .ok (.lconst 0, 1) := by decide +kernel
theorem d_M_listens_3 : decode Y_M_listens.2.1 3 = .ok (.lstore 5, 2) := by decide +kernel
theorem d_M_listens_5 : decode Y_M_listens.2.1 5 = .ok (.iconst 0, 1) := by decide +kernel
theorem d_M_listens_6 : decode Y_M_listens.2.1 6 = .ok (.istore 7, 2) := by decide +kernel
theorem d_M_listens_8 : decode Y_M_listens.2.1 8 = .ok (.iload 7, 2) := by decide +kernel
theorem d_M_listens_10 : decode Y_M_listens.2.1 10 = .ok (.iload_n 1, 1) := by decide +kernel
theorem d_M_listens_11 : decode Y_M_listens.2.1 11 = .ok (.if_icmp .ge 75, 3) := by decide +kernel
theorem d_M_listens_14 : decode Y_M_listens.2.1 14 = .ok (.aload_n 0, 1) := by decide +kernel
theorem d_M_listens_15 : decode Y_M_listens.2.1 15 = .ok (.iload 7, 2) := by decide +kernel
theorem d_M_listens_17 : decode Y_M_listens.2.1 17 = .ok (.iload_n 2, 1) := by decide +kernel
theorem d_M_listens_18 : decode Y_M_listens.2.1 18 = .ok (.invokevirtual 423, 3) := by decide +kernel
theorem d_M_listens_21 : decode Y_M_listens.2.1 21 = .ok (.ifCond .ne 6, 3) := by decide +kernel
theorem d_M_listens_24 : decode Y_M_listens.2.1 24 = .ok (.goto 56, 3) := by decide +kernel
theorem d_M_listens_27 : decode Y_M_listens.2.1 27 = .ok (.aload_n 0, 1) := by decide +kernel
theorem d_M_listens_28 : decode Y_M_listens.2.1 28 = .ok (.iload_n 1, 1) := by decide +kernel
theorem d_M_listens_29 : decode Y_M_listens.2.1 29 = .ok (.iload 7, 2) := by decide +kernel
theorem d_M_listens_31 : decode Y_M_listens.2.1 31 = .ok (.invokevirtual 465, 3) := by decide +kernel
theorem d_M_listens_34 : decode Y_M_listens.2.1 34 = .ok (.i2l, 1) := by decide +kernel
theorem d_M_listens_35 : decode Y_M_listens.2.1 35 = .ok (.lstore 8, 2) := by decide +kernel
theorem d_M_listens_37 : decode Y_M_listens.2.1 37 = .ok (.lload_n 3, 1) := by decide +kernel
theorem d_M_listens_38 : decode Y_M_listens.2.1 38 = .ok (.lload 8, 2) := by decide +kernel
theorem d_M_listens_40 : decode Y_M_listens.2.1 40 = .ok (.aload_n 0, 1) := by decide +kernel
theorem d_M_listens_41 : decode Y_M_listens.2.1 41 = .ok (.getfield 116, 3) := by decide +kernel
theorem d_M_listens_44 : decode Y_M_listens.2.1 44 = .ok (.bipush 24, 2) := by decide +kernel
theorem d_M_listens_46 : decode Y_M_listens.2.1 46 = .ok (.iload 7, 2) := by decide +kernel
theorem d_M_listens_48 : decode Y_M_listens.2.1 48 = .ok (.imul, 1) := by decide +kernel
theorem d_M_listens_49 : decode Y_M_listens.2.1 49 = .ok (.iload_n 2, 1) := by decide +kernel
theorem d_M_listens_50 : decode Y_M_listens.2.1 50 = .ok (.iadd, 1) := by decide +kernel
theorem d_M_listens_51 : decode Y_M_listens.2.1 51 = .ok (.iaload, 1) := by decide +kernel
theorem d_M_listens_52 : decode Y_M_listens.2.1 52 = .ok (.i2l, 1) := by decide +kernel
theorem d_M_listens_53 : decode Y_M_listens.2.1 53 = .ok (.aload_n 0, 1) := by decide +kernel
theorem d_M_listens_54 : decode Y_M_listens.2.1 54 = .ok (.iload_n 1, 1) := by decide +kernel
theorem d_M_listens_55 : decode Y_M_listens.2.1 55 = .ok (.iload_n 2, 1) := by decide +kernel
theorem d_M_listens_56 : decode Y_M_listens.2.1 56 = .ok (.invokevirtual 468, 3) := by decide +kernel
theorem d_M_listens_59 : decode Y_M_listens.2.1 59 = .ok (.i2l, 1) := by decide +kernel
theorem d_M_listens_60 : decode Y_M_listens.2.1 60 = .ok (.ladd, 1) := by decide +kernel
theorem d_M_listens_61 : decode Y_M_listens.2.1 61 = .ok (.aload_n 0, 1) := by decide +kernel
theorem d_M_listens_62 : decode Y_M_listens.2.1 62 = .ok (.iload 7, 2) := by decide +kernel
theorem d_M_listens_64 : decode Y_M_listens.2.1 64 = .ok (.iload_n 2, 1) := by decide +kernel
theorem d_M_listens_65 : decode Y_M_listens.2.1 65 = .ok (.invokevirtual 468, 3) := by decide +kernel
theorem d_M_listens_68 : decode Y_M_listens.2.1 68 = .ok (.i2l, 1) := by decide +kernel
theorem d_M_listens_69 : decode Y_M_listens.2.1 69 = .ok (.lsub, 1) := by decide +kernel
theorem d_M_listens_70 : decode Y_M_listens.2.1 70 = .ok (.lmul, 1) := by decide +kernel
theorem d_M_listens_71 : decode Y_M_listens.2.1 71 = .ok (.ladd, 1) := by decide +kernel
theorem d_M_listens_72 : decode Y_M_listens.2.1 72 = .ok (.lstore_n 3, 1) := by decide +kernel
theorem d_M_listens_73 : decode Y_M_listens.2.1 73 = .ok (.lload 5, 2) := by decide +kernel
theorem d_M_listens_75 : decode Y_M_listens.2.1 75 = .ok (.lload 8, 2) := by decide +kernel
theorem d_M_listens_77 : decode Y_M_listens.2.1 77 = .ok (.ladd, 1) := by decide +kernel
theorem d_M_listens_78 : decode Y_M_listens.2.1 78 = .ok (.lstore 5, 2) := by decide +kernel
theorem d_M_listens_80 : decode Y_M_listens.2.1 80 = .ok (.iinc 7 1, 3) := by decide +kernel
theorem d_M_listens_83 : decode Y_M_listens.2.1 83 = .ok (.goto (-75), 3) := by decide +kernel
theorem d_M_listens_86 : decode Y_M_listens.2.1 86 = .ok (.aload_n 0, 1) := by decide +kernel
theorem d_M_listens_87 : decode Y_M_listens.2.1 87 = .ok (.lload 5, 2) := by decide +kernel
theorem d_M_listens_89 : decode Y_M_listens.2.1 89 = .ok (.lconst 0, 1) := by decide +kernel
theorem d_M_listens_90 : decode Y_M_listens.2.1 90 = .ok (.lcmp, 1) := by decide +kernel
theorem d_M_listens_91 : decode Y_M_listens.2.1 91 = .ok (.ifCond .le 7, 3) := by decide +kernel
theorem d_M_listens_94 : decode Y_M_listens.2.1 94 = .ok (.iconst 1, 1) := by decide +kernel
theorem d_M_listens_95 : decode Y_M_listens.2.1 95 = .ok (.goto 4, 3) := by decide +kernel
theorem d_M_listens_98 : decode Y_M_listens.2.1 98 = .ok (.iconst 0, 1) := by decide +kernel
theorem d_M_listens_99 : decode Y_M_listens.2.1 99 = .ok (.putfield 471, 3) := by decide +kernel
theorem d_M_listens_102 : decode Y_M_listens.2.1 102 = .ok (.aload_n 0, 1) := by decide +kernel
theorem d_M_listens_103 : decode Y_M_listens.2.1 103 = .ok (.aload_n 0, 1) := by decide +kernel
theorem d_M_listens_104 : decode Y_M_listens.2.1 104 = .ok (.getfield 471, 3) := by decide +kernel
theorem d_M_listens_107 : decode Y_M_listens.2.1 107 = .ok (.ifCond .eq 12, 3) := by decide +kernel
theorem d_M_listens_110 : decode Y_M_listens.2.1 110 = .ok (.lload_n 3, 1) := by decide +kernel
theorem d_M_listens_111 : decode Y_M_listens.2.1 111 = .ok (.lload 5, 2) := by decide +kernel
theorem d_M_listens_113 : decode Y_M_listens.2.1 113 = .ok (.invokestatic 446, 3) := by decide +kernel
theorem d_M_listens_116 : decode Y_M_listens.2.1 116 = .ok (.goto 4, 3) := by decide +kernel
theorem d_M_listens_119 : decode Y_M_listens.2.1 119 = .ok (.lconst 0, 1) := by decide +kernel
theorem d_M_listens_120 : decode Y_M_listens.2.1 120 = .ok (.putfield 474, 3) := by decide +kernel
theorem d_M_listens_123 : decode Y_M_listens.2.1 123 = .ok (.return_, 1) := by decide +kernel
theorem d_M_worked_0 : decode Y_M_worked.2.1 0 = .ok (.iload_n 0, 1) := by decide +kernel
theorem d_M_worked_1 : decode Y_M_worked.2.1 1 = .ok (.lookupswitch 125 #[(37, 91), (42, 75), (43, 67), (45, 71), (47, 79), (60, 103), (62, 114)], 67) := by decide +kernel
theorem d_M_worked_68 : decode Y_M_worked.2.1 68 = .ok (.iload_n 1, 1) := by decide +kernel
theorem d_M_worked_69 : decode Y_M_worked.2.1 69 = .ok (.iload_n 2, 1) := by decide +kernel
theorem d_M_worked_70 : decode Y_M_worked.2.1 70 = .ok (.iadd, 1) := by decide +kernel
theorem d_M_worked_71 : decode Y_M_worked.2.1 71 = .ok (.ireturn, 1) := by decide +kernel
theorem d_M_worked_72 : decode Y_M_worked.2.1 72 = .ok (.iload_n 1, 1) := by decide +kernel
theorem d_M_worked_73 : decode Y_M_worked.2.1 73 = .ok (.iload_n 2, 1) := by decide +kernel
theorem d_M_worked_74 : decode Y_M_worked.2.1 74 = .ok (.isub, 1) := by decide +kernel
theorem d_M_worked_75 : decode Y_M_worked.2.1 75 = .ok (.ireturn, 1) := by decide +kernel
theorem d_M_worked_76 : decode Y_M_worked.2.1 76 = .ok (.iload_n 1, 1) := by decide +kernel
theorem d_M_worked_77 : decode Y_M_worked.2.1 77 = .ok (.iload_n 2, 1) := by decide +kernel
theorem d_M_worked_78 : decode Y_M_worked.2.1 78 = .ok (.imul, 1) := by decide +kernel
theorem d_M_worked_79 : decode Y_M_worked.2.1 79 = .ok (.ireturn, 1) := by decide +kernel
theorem d_M_worked_80 : decode Y_M_worked.2.1 80 = .ok (.iload_n 2, 1) := by decide +kernel
theorem d_M_worked_81 : decode Y_M_worked.2.1 81 = .ok (.ifCond .ne 7, 3) := by decide +kernel
theorem d_M_worked_84 : decode Y_M_worked.2.1 84 = .ok (.iconst 0, 1) := by decide +kernel
theorem d_M_worked_85 : decode Y_M_worked.2.1 85 = .ok (.goto 6, 3) := by decide +kernel
theorem d_M_worked_88 : decode Y_M_worked.2.1 88 = .ok (.iload_n 1, 1) := by decide +kernel
theorem d_M_worked_89 : decode Y_M_worked.2.1 89 = .ok (.iload_n 2, 1) := by decide +kernel
theorem d_M_worked_90 : decode Y_M_worked.2.1 90 = .ok (.idiv, 1) := by decide +kernel
theorem d_M_worked_91 : decode Y_M_worked.2.1 91 = .ok (.ireturn, 1) := by decide +kernel
theorem d_M_worked_92 : decode Y_M_worked.2.1 92 = .ok (.iload_n 2, 1) := by decide +kernel
theorem d_M_worked_93 : decode Y_M_worked.2.1 93 = .ok (.ifCond .ne 7, 3) := by decide +kernel
theorem d_M_worked_96 : decode Y_M_worked.2.1 96 = .ok (.iconst 0, 1) := by decide +kernel
theorem d_M_worked_97 : decode Y_M_worked.2.1 97 = .ok (.goto 6, 3) := by decide +kernel
theorem d_M_worked_100 : decode Y_M_worked.2.1 100 = .ok (.iload_n 1, 1) := by decide +kernel
theorem d_M_worked_101 : decode Y_M_worked.2.1 101 = .ok (.iload_n 2, 1) := by decide +kernel
theorem d_M_worked_102 : decode Y_M_worked.2.1 102 = .ok (.irem, 1) := by decide +kernel
theorem d_M_worked_103 : decode Y_M_worked.2.1 103 = .ok (.ireturn, 1) := by decide +kernel
theorem d_M_worked_104 : decode Y_M_worked.2.1 104 = .ok (.iload_n 1, 1) := by decide +kernel
theorem d_M_worked_105 : decode Y_M_worked.2.1 105 = .ok (.iload_n 2, 1) := by decide +kernel
theorem d_M_worked_106 : decode Y_M_worked.2.1 106 = .ok (.if_icmp .ge 7, 3) := by decide +kernel
theorem d_M_worked_109 : decode Y_M_worked.2.1 109 = .ok (.iconst 1, 1) := by decide +kernel
theorem d_M_worked_110 : decode Y_M_worked.2.1 110 = .ok (.goto 4, 3) := by decide +kernel
theorem d_M_worked_113 : decode Y_M_worked.2.1 113 = .ok (.iconst 0, 1) := by decide +kernel
theorem d_M_worked_114 : decode Y_M_worked.2.1 114 = .ok (.ireturn, 1) := by decide +kernel
theorem d_M_worked_115 : decode Y_M_worked.2.1 115 = .ok (.iload_n 1, 1) := by decide +kernel
theorem d_M_worked_116 : decode Y_M_worked.2.1 116 = .ok (.iload_n 2, 1) := by decide +kernel
theorem d_M_worked_117 : decode Y_M_worked.2.1 117 = .ok (.if_icmp .le 7, 3) := by decide +kernel
theorem d_M_worked_120 : decode Y_M_worked.2.1 120 = .ok (.iconst 1, 1) := by decide +kernel
theorem d_M_worked_121 : decode Y_M_worked.2.1 121 = .ok (.goto 4, 3) := by decide +kernel
theorem d_M_worked_124 : decode Y_M_worked.2.1 124 = .ok (.iconst 0, 1) := by decide +kernel
theorem d_M_worked_125 : decode Y_M_worked.2.1 125 = .ok (.ireturn, 1) := by decide +kernel
theorem d_M_worked_126 : decode Y_M_worked.2.1 126 = .ok (.iload_n 1, 1) := by decide +kernel
theorem d_M_worked_127 : decode Y_M_worked.2.1 127 = .ok (.iload_n 2, 1) := by decide +kernel
theorem d_M_worked_128 : decode Y_M_worked.2.1 128 = .ok (.if_icmp .ne 7, 3) := by decide +kernel
theorem d_M_worked_131 : decode Y_M_worked.2.1 131 = .ok (.iconst 1, 1) := by decide +kernel
theorem d_M_worked_132 : decode Y_M_worked.2.1 132 = .ok (.goto 4, 3) := by decide +kernel
theorem d_M_worked_135 : decode Y_M_worked.2.1 135 = .ok (.iconst 0, 1) := by decide +kernel
theorem d_M_worked_136 : decode Y_M_worked.2.1 136 = .ok (.ireturn, 1) := by decide +kernel
theorem d_M_does_0 : decode Y_M_does.2.1 0 = .ok (.iload_n 2, 1) := by decide +kernel
theorem d_M_does_1 : decode Y_M_does.2.1 1 = .ok (.iconst 1, 1) := by decide +kernel
theorem d_M_does_2 : decode Y_M_does.2.1 2 = .ok (.iadd, 1) := by decide +kernel
theorem d_M_does_3 : decode Y_M_does.2.1 3 = .ok (.istore_n 3, 1) := by decide +kernel
theorem d_M_does_4 : decode Y_M_does.2.1 4 = .ok (.iload_n 1, 1) := by decide +kernel
theorem d_M_does_5 : decode Y_M_does.2.1 5 = .ok (.bipush 38, 2) := by decide +kernel
theorem d_M_does_7 : decode Y_M_does.2.1 7 = .ok (.if_icmp .eq 9, 3) := by decide +kernel
theorem d_M_does_10 : decode Y_M_does.2.1 10 = .ok (.iload_n 1, 1) := by decide +kernel
theorem d_M_does_11 : decode Y_M_does.2.1 11 = .ok (.bipush 124, 2) := by decide +kernel
theorem d_M_does_13 : decode Y_M_does.2.1 13 = .ok (.if_icmp .ne 58, 3) := by decide +kernel
theorem d_M_does_16 : decode Y_M_does.2.1 16 = .ok (.aload_n 0, 1) := by decide +kernel
theorem d_M_does_17 : decode Y_M_does.2.1 17 = .ok (.getfield 131, 3) := by decide +kernel
theorem d_M_does_20 : decode Y_M_does.2.1 20 = .ok (.iload_n 2, 1) := by decide +kernel
theorem d_M_does_21 : decode Y_M_does.2.1 21 = .ok (.baload, 1) := by decide +kernel
theorem d_M_does_22 : decode Y_M_does.2.1 22 = .ok (.ifCond .ne 23, 3) := by decide +kernel
theorem d_M_does_25 : decode Y_M_does.2.1 25 = .ok (.aload_n 0, 1) := by decide +kernel
theorem d_M_does_26 : decode Y_M_does.2.1 26 = .ok (.getfield 128, 3) := by decide +kernel
theorem d_M_does_29 : decode Y_M_does.2.1 29 = .ok (.iload_n 2, 1) := by decide +kernel
theorem d_M_does_30 : decode Y_M_does.2.1 30 = .ok (.iaload, 1) := by decide +kernel
theorem d_M_does_31 : decode Y_M_does.2.1 31 = .ok (.iload_n 1, 1) := by decide +kernel
theorem d_M_does_32 : decode Y_M_does.2.1 32 = .ok (.bipush 38, 2) := by decide +kernel
theorem d_M_does_34 : decode Y_M_does.2.1 34 = .ok (.if_icmp .ne 7, 3) := by decide +kernel
theorem d_M_does_37 : decode Y_M_does.2.1 37 = .ok (.iconst 1, 1) := by decide +kernel
theorem d_M_does_38 : decode Y_M_does.2.1 38 = .ok (.goto 4, 3) := by decide +kernel
theorem d_M_does_41 : decode Y_M_does.2.1 41 = .ok (.iconst 0, 1) := by decide +kernel
theorem d_M_does_42 : decode Y_M_does.2.1 42 = .ok (.if_icmp .eq 4, 3) := by decide +kernel
theorem d_M_does_45 : decode Y_M_does.2.1 45 = .ok (.return_, 1) := by decide +kernel
theorem d_M_does_46 : decode Y_M_does.2.1 46 = .ok (.aload_n 0, 1) := by decide +kernel
theorem d_M_does_47 : decode Y_M_does.2.1 47 = .ok (.getfield 128, 3) := by decide +kernel
theorem d_M_does_50 : decode Y_M_does.2.1 50 = .ok (.iload_n 2, 1) := by decide +kernel
theorem d_M_does_51 : decode Y_M_does.2.1 51 = .ok (.aload_n 0, 1) := by decide +kernel
theorem d_M_does_52 : decode Y_M_does.2.1 52 = .ok (.getfield 128, 3) := by decide +kernel
theorem d_M_does_55 : decode Y_M_does.2.1 55 = .ok (.iload_n 3, 1) := by decide +kernel
theorem d_M_does_56 : decode Y_M_does.2.1 56 = .ok (.iaload, 1) := by decide +kernel
theorem d_M_does_57 : decode Y_M_does.2.1 57 = .ok (.iastore, 1) := by decide +kernel
theorem d_M_does_58 : decode Y_M_does.2.1 58 = .ok (.aload_n 0, 1) := by decide +kernel
theorem d_M_does_59 : decode Y_M_does.2.1 59 = .ok (.getfield 131, 3) := by decide +kernel
theorem d_M_does_62 : decode Y_M_does.2.1 62 = .ok (.iload_n 2, 1) := by decide +kernel
theorem d_M_does_63 : decode Y_M_does.2.1 63 = .ok (.aload_n 0, 1) := by decide +kernel
theorem d_M_does_64 : decode Y_M_does.2.1 64 = .ok (.getfield 131, 3) := by decide +kernel
theorem d_M_does_67 : decode Y_M_does.2.1 67 = .ok (.iload_n 3, 1) := by decide +kernel
theorem d_M_does_68 : decode Y_M_does.2.1 68 = .ok (.baload, 1) := by decide +kernel
theorem d_M_does_69 : decode Y_M_does.2.1 69 = .ok (.bastore, 1) := by decide +kernel
theorem d_M_does_70 : decode Y_M_does.2.1 70 = .ok (.return_, 1) := by decide +kernel
theorem d_M_does_71 : decode Y_M_does.2.1 71 = .ok (.aload_n 0, 1) := by decide +kernel
theorem d_M_does_72 : decode Y_M_does.2.1 72 = .ok (.getfield 131, 3) := by decide +kernel
theorem d_M_does_75 : decode Y_M_does.2.1 75 = .ok (.iload_n 2, 1) := by decide +kernel
theorem d_M_does_76 : decode Y_M_does.2.1 76 = .ok (.aload_n 0, 1) := by decide +kernel
theorem d_M_does_77 : decode Y_M_does.2.1 77 = .ok (.getfield 131, 3) := by decide +kernel
theorem d_M_does_80 : decode Y_M_does.2.1 80 = .ok (.iload_n 2, 1) := by decide +kernel
theorem d_M_does_81 : decode Y_M_does.2.1 81 = .ok (.baload, 1) := by decide +kernel
theorem d_M_does_82 : decode Y_M_does.2.1 82 = .ok (.ifCond .ne 33, 3) := by decide +kernel
theorem d_M_does_85 : decode Y_M_does.2.1 85 = .ok (.aload_n 0, 1) := by decide +kernel
theorem d_M_does_86 : decode Y_M_does.2.1 86 = .ok (.getfield 131, 3) := by decide +kernel
theorem d_M_does_89 : decode Y_M_does.2.1 89 = .ok (.iload_n 3, 1) := by decide +kernel
theorem d_M_does_90 : decode Y_M_does.2.1 90 = .ok (.baload, 1) := by decide +kernel
theorem d_M_does_91 : decode Y_M_does.2.1 91 = .ok (.ifCond .ne 24, 3) := by decide +kernel
theorem d_M_does_94 : decode Y_M_does.2.1 94 = .ok (.iload_n 1, 1) := by decide +kernel
theorem d_M_does_95 : decode Y_M_does.2.1 95 = .ok (.bipush 47, 2) := by decide +kernel
theorem d_M_does_97 : decode Y_M_does.2.1 97 = .ok (.if_icmp .eq 9, 3) := by decide +kernel
theorem d_M_does_100 : decode Y_M_does.2.1 100 = .ok (.iload_n 1, 1) := by decide +kernel
theorem d_M_does_101 : decode Y_M_does.2.1 101 = .ok (.bipush 37, 2) := by decide +kernel
theorem d_M_does_103 : decode Y_M_does.2.1 103 = .ok (.if_icmp .ne 16, 3) := by decide +kernel
theorem d_M_does_106 : decode Y_M_does.2.1 106 = .ok (.aload_n 0, 1) := by decide +kernel
theorem d_M_does_107 : decode Y_M_does.2.1 107 = .ok (.getfield 128, 3) := by decide +kernel
theorem d_M_does_110 : decode Y_M_does.2.1 110 = .ok (.iload_n 3, 1) := by decide +kernel
theorem d_M_does_111 : decode Y_M_does.2.1 111 = .ok (.iaload, 1) := by decide +kernel
theorem d_M_does_112 : decode Y_M_does.2.1 112 = .ok (.ifCond .ne 7, 3) := by decide +kernel
theorem d_M_does_115 : decode Y_M_does.2.1 115 = .ok (.iconst 1, 1) := by decide +kernel
theorem d_M_does_116 : decode Y_M_does.2.1 116 = .ok (.goto 4, 3) := by decide +kernel
theorem d_M_does_119 : decode Y_M_does.2.1 119 = .ok (.iconst 0, 1) := by decide +kernel
theorem d_M_does_120 : decode Y_M_does.2.1 120 = .ok (.bastore, 1) := by decide +kernel
theorem d_M_does_121 : decode Y_M_does.2.1 121 = .ok (.aload_n 0, 1) := by decide +kernel
theorem d_M_does_122 : decode Y_M_does.2.1 122 = .ok (.getfield 128, 3) := by decide +kernel
theorem d_M_does_125 : decode Y_M_does.2.1 125 = .ok (.iload_n 2, 1) := by decide +kernel
theorem d_M_does_126 : decode Y_M_does.2.1 126 = .ok (.iload_n 1, 1) := by decide +kernel
theorem d_M_does_127 : decode Y_M_does.2.1 127 = .ok (.aload_n 0, 1) := by decide +kernel
theorem d_M_does_128 : decode Y_M_does.2.1 128 = .ok (.getfield 128, 3) := by decide +kernel
theorem d_M_does_131 : decode Y_M_does.2.1 131 = .ok (.iload_n 2, 1) := by decide +kernel
theorem d_M_does_132 : decode Y_M_does.2.1 132 = .ok (.iaload, 1) := by decide +kernel
theorem d_M_does_133 : decode Y_M_does.2.1 133 = .ok (.aload_n 0, 1) := by decide +kernel
theorem d_M_does_134 : decode Y_M_does.2.1 134 = .ok (.getfield 128, 3) := by decide +kernel
theorem d_M_does_137 : decode Y_M_does.2.1 137 = .ok (.iload_n 3, 1) := by decide +kernel
theorem d_M_does_138 : decode Y_M_does.2.1 138 = .ok (.iaload, 1) := by decide +kernel
theorem d_M_does_139 : decode Y_M_does.2.1 139 = .ok (.invokestatic 453, 3) := by decide +kernel
theorem d_M_does_142 : decode Y_M_does.2.1 142 = .ok (.iastore, 1) := by decide +kernel
theorem d_M_does_143 : decode Y_M_does.2.1 143 = .ok (.return_, 1) := by decide +kernel
theorem d_M_leapOf_0 : decode Y_M_leapOf.2.1 0 = .ok (.aload_n 0, 1) := by decide +kernel
theorem d_M_leapOf_1 : decode Y_M_leapOf.2.1 1 = .ok (.getfield 122, 3) := by decide +kernel
theorem d_M_leapOf_4 : decode Y_M_leapOf.2.1 4 = .ok (.aload_n 0, 1) := by decide +kernel
theorem d_M_leapOf_5 : decode Y_M_leapOf.2.1 5 = .ok (.getfield 426, 3) := by decide +kernel
theorem d_M_leapOf_8 : decode Y_M_leapOf.2.1 8 = .ok (.iaload, 1) := by decide +kernel
theorem d_M_leapOf_9 : decode Y_M_leapOf.2.1 9 = .ok (.istore_n 1, 1) := by decide +kernel
theorem d_M_leapOf_10 : decode Y_M_leapOf.2.1 10 = .ok (.iload_n 1, 1) := by decide +kernel
theorem d_M_leapOf_11 : decode Y_M_leapOf.2.1 11 = .ok (.iconst (-1), 1) := by decide +kernel
theorem d_M_leapOf_12 : decode Y_M_leapOf.2.1 12 = .ok (.if_icmp .ne 7, 3) := by decide +kernel
theorem d_M_leapOf_15 : decode Y_M_leapOf.2.1 15 = .ok (.iconst 0, 1) := by decide +kernel
theorem d_M_leapOf_16 : decode Y_M_leapOf.2.1 16 = .ok (.goto 25, 3) := by decide +kernel
theorem d_M_leapOf_19 : decode Y_M_leapOf.2.1 19 = .ok (.aload_n 0, 1) := by decide +kernel
theorem d_M_leapOf_20 : decode Y_M_leapOf.2.1 20 = .ok (.aload_n 0, 1) := by decide +kernel
theorem d_M_leapOf_21 : decode Y_M_leapOf.2.1 21 = .ok (.getfield 426, 3) := by decide +kernel
theorem d_M_leapOf_24 : decode Y_M_leapOf.2.1 24 = .ok (.aload_n 0, 1) := by decide +kernel
theorem d_M_leapOf_25 : decode Y_M_leapOf.2.1 25 = .ok (.getfield 429, 3) := by decide +kernel
theorem d_M_leapOf_28 : decode Y_M_leapOf.2.1 28 = .ok (.invokevirtual 432, 3) := by decide +kernel
theorem d_M_leapOf_31 : decode Y_M_leapOf.2.1 31 = .ok (.aload_n 0, 1) := by decide +kernel
theorem d_M_leapOf_32 : decode Y_M_leapOf.2.1 32 = .ok (.aload_n 0, 1) := by decide +kernel
theorem d_M_leapOf_33 : decode Y_M_leapOf.2.1 33 = .ok (.getfield 426, 3) := by decide +kernel
theorem d_M_leapOf_36 : decode Y_M_leapOf.2.1 36 = .ok (.iload_n 1, 1) := by decide +kernel
theorem d_M_leapOf_37 : decode Y_M_leapOf.2.1 37 = .ok (.invokevirtual 432, 3) := by decide +kernel
theorem d_M_leapOf_40 : decode Y_M_leapOf.2.1 40 = .ok (.isub, 1) := by decide +kernel
theorem d_M_leapOf_41 : decode Y_M_leapOf.2.1 41 = .ok (.ireturn, 1) := by decide +kernel
theorem d_M_singing_0 : decode Y_M_singing.2.1 0 = .ok (.iconst 0, 1) := by decide +kernel
theorem d_M_singing_1 : decode Y_M_singing.2.1 1 = .ok (.istore_n 2, 1) := by decide +kernel
theorem d_M_singing_2 : decode Y_M_singing.2.1 2 = .ok (.iconst 0, 1) := by decide +kernel
theorem d_M_singing_3 : decode Y_M_singing.2.1 3 = .ok (.istore_n 3, 1) := by decide +kernel
theorem d_M_singing_4 : decode Y_M_singing.2.1 4 = .ok (.iload_n 3, 1) := by decide +kernel
theorem d_M_singing_5 : decode Y_M_singing.2.1 5 = .ok (.aload_n 0, 1) := by decide +kernel
theorem d_M_singing_6 : decode Y_M_singing.2.1 6 = .ok (.getfield 275, 3) := by decide +kernel
theorem d_M_singing_9 : decode Y_M_singing.2.1 9 = .ok (.if_icmp .ge 26, 3) := by decide +kernel
theorem d_M_singing_12 : decode Y_M_singing.2.1 12 = .ok (.iload_n 2, 1) := by decide +kernel
theorem d_M_singing_13 : decode Y_M_singing.2.1 13 = .ok (.aload_n 0, 1) := by decide +kernel
theorem d_M_singing_14 : decode Y_M_singing.2.1 14 = .ok (.iload_n 3, 1) := by decide +kernel
theorem d_M_singing_15 : decode Y_M_singing.2.1 15 = .ok (.iload_n 1, 1) := by decide +kernel
theorem d_M_singing_16 : decode Y_M_singing.2.1 16 = .ok (.invokevirtual 423, 3) := by decide +kernel
theorem d_M_singing_19 : decode Y_M_singing.2.1 19 = .ok (.ifCond .eq 7, 3) := by decide +kernel
theorem d_M_singing_22 : decode Y_M_singing.2.1 22 = .ok (.iconst 1, 1) := by decide +kernel
theorem d_M_singing_23 : decode Y_M_singing.2.1 23 = .ok (.goto 4, 3) := by decide +kernel
theorem d_M_singing_26 : decode Y_M_singing.2.1 26 = .ok (.iconst 0, 1) := by decide +kernel
theorem d_M_singing_27 : decode Y_M_singing.2.1 27 = .ok (.iadd, 1) := by decide +kernel
theorem d_M_singing_28 : decode Y_M_singing.2.1 28 = .ok (.istore_n 2, 1) := by decide +kernel
theorem d_M_singing_29 : decode Y_M_singing.2.1 29 = .ok (.iinc 3 1, 3) := by decide +kernel
theorem d_M_singing_32 : decode Y_M_singing.2.1 32 = .ok (.goto (-28), 3) := by decide +kernel
theorem d_M_singing_35 : decode Y_M_singing.2.1 35 = .ok (.iload_n 2, 1) := by decide +kernel
theorem d_M_singing_36 : decode Y_M_singing.2.1 36 = .ok (.ireturn, 1) := by decide +kernel
theorem d_M_valueOf_0 : decode Y_M_valueOf.2.1 0 = .ok (.aload_n 0, 1) := by decide +kernel
theorem d_M_valueOf_1 : decode Y_M_valueOf.2.1 1 = .ok (.getfield 56, 3) := by decide +kernel
theorem d_M_valueOf_4 : decode Y_M_valueOf.2.1 4 = .ok (.aload_n 0, 1) := by decide +kernel
theorem d_M_valueOf_5 : decode Y_M_valueOf.2.1 5 = .ok (.getfield 426, 3) := by decide +kernel
theorem d_M_valueOf_8 : decode Y_M_valueOf.2.1 8 = .ok (.iaload, 1) := by decide +kernel
theorem d_M_valueOf_9 : decode Y_M_valueOf.2.1 9 = .ok (.istore_n 2, 1) := by decide +kernel
theorem d_M_valueOf_10 : decode Y_M_valueOf.2.1 10 = .ok (.iload_n 1, 1) := by decide +kernel
theorem d_M_valueOf_11 : decode Y_M_valueOf.2.1 11 = .ok (.tableswitch 268 98 118 #[97, 268, 268, 268, 119, 268, 129, 104, 147, 109, 268, 268, 202, 211, 268, 268, 180, 268, 268, 167, 102], 97) := by decide +kernel
theorem d_M_valueOf_108 : decode Y_M_valueOf.2.1 108 = .ok (.aload_n 0, 1) := by decide +kernel
theorem d_M_valueOf_109 : decode Y_M_valueOf.2.1 109 = .ok (.getfield 429, 3) := by decide +kernel
theorem d_M_valueOf_112 : decode Y_M_valueOf.2.1 112 = .ok (.ireturn, 1) := by decide +kernel
theorem d_M_valueOf_113 : decode Y_M_valueOf.2.1 113 = .ok (.iload_n 2, 1) := by decide +kernel
theorem d_M_valueOf_114 : decode Y_M_valueOf.2.1 114 = .ok (.ireturn, 1) := by decide +kernel
theorem d_M_valueOf_115 : decode Y_M_valueOf.2.1 115 = .ok (.aload_n 0, 1) := by decide +kernel
theorem d_M_valueOf_116 : decode Y_M_valueOf.2.1 116 = .ok (.getfield 426, 3) := by decide +kernel
theorem d_M_valueOf_119 : decode Y_M_valueOf.2.1 119 = .ok (.ireturn, 1) := by decide +kernel
theorem d_M_valueOf_120 : decode Y_M_valueOf.2.1 120 = .ok (.aload_n 0, 1) := by decide +kernel
theorem d_M_valueOf_121 : decode Y_M_valueOf.2.1 121 = .ok (.getfield 113, 3) := by decide +kernel
theorem d_M_valueOf_124 : decode Y_M_valueOf.2.1 124 = .ok (.aload_n 0, 1) := by decide +kernel
theorem d_M_valueOf_125 : decode Y_M_valueOf.2.1 125 = .ok (.getfield 426, 3) := by decide +kernel
theorem d_M_valueOf_128 : decode Y_M_valueOf.2.1 128 = .ok (.iaload, 1) := by decide +kernel
theorem d_M_valueOf_129 : decode Y_M_valueOf.2.1 129 = .ok (.ireturn, 1) := by decide +kernel
theorem d_M_valueOf_130 : decode Y_M_valueOf.2.1 130 = .ok (.aload_n 0, 1) := by decide +kernel
theorem d_M_valueOf_131 : decode Y_M_valueOf.2.1 131 = .ok (.getfield 62, 3) := by decide +kernel
theorem d_M_valueOf_134 : decode Y_M_valueOf.2.1 134 = .ok (.aload_n 0, 1) := by decide +kernel
theorem d_M_valueOf_135 : decode Y_M_valueOf.2.1 135 = .ok (.getfield 426, 3) := by decide +kernel
theorem d_M_valueOf_138 : decode Y_M_valueOf.2.1 138 = .ok (.iaload, 1) := by decide +kernel
theorem d_M_valueOf_139 : decode Y_M_valueOf.2.1 139 = .ok (.ireturn, 1) := by decide +kernel
theorem d_M_valueOf_140 : decode Y_M_valueOf.2.1 140 = .ok (.aload_n 0, 1) := by decide +kernel
theorem d_M_valueOf_141 : decode Y_M_valueOf.2.1 141 = .ok (.iload_n 2, 1) := by decide +kernel
theorem d_M_valueOf_142 : decode Y_M_valueOf.2.1 142 = .ok (.aload_n 0, 1) := by decide +kernel
theorem d_M_valueOf_143 : decode Y_M_valueOf.2.1 143 = .ok (.getfield 429, 3) := by decide +kernel
theorem d_M_valueOf_146 : decode Y_M_valueOf.2.1 146 = .ok (.invokevirtual 193, 3) := by decide +kernel
theorem d_M_valueOf_149 : decode Y_M_valueOf.2.1 149 = .ok (.ifCond .eq 7, 3) := by decide +kernel
theorem d_M_valueOf_152 : decode Y_M_valueOf.2.1 152 = .ok (.iconst 1, 1) := by decide +kernel
theorem d_M_valueOf_153 : decode Y_M_valueOf.2.1 153 = .ok (.goto 4, 3) := by decide +kernel
theorem d_M_valueOf_156 : decode Y_M_valueOf.2.1 156 = .ok (.iconst 0, 1) := by decide +kernel
theorem d_M_valueOf_157 : decode Y_M_valueOf.2.1 157 = .ok (.ireturn, 1) := by decide +kernel
theorem d_M_valueOf_158 : decode Y_M_valueOf.2.1 158 = .ok (.aload_n 0, 1) := by decide +kernel
theorem d_M_valueOf_159 : decode Y_M_valueOf.2.1 159 = .ok (.invokevirtual 435, 3) := by decide +kernel
theorem d_M_valueOf_162 : decode Y_M_valueOf.2.1 162 = .ok (.ifCond .ge 11, 3) := by decide +kernel
theorem d_M_valueOf_165 : decode Y_M_valueOf.2.1 165 = .ok (.aload_n 0, 1) := by decide +kernel
theorem d_M_valueOf_166 : decode Y_M_valueOf.2.1 166 = .ok (.invokevirtual 435, 3) := by decide +kernel
theorem d_M_valueOf_169 : decode Y_M_valueOf.2.1 169 = .ok (.ineg, 1) := by decide +kernel
theorem d_M_valueOf_170 : decode Y_M_valueOf.2.1 170 = .ok (.goto 7, 3) := by decide +kernel
theorem d_M_valueOf_173 : decode Y_M_valueOf.2.1 173 = .ok (.aload_n 0, 1) := by decide +kernel
theorem d_M_valueOf_174 : decode Y_M_valueOf.2.1 174 = .ok (.invokevirtual 435, 3) := by decide +kernel
theorem d_M_valueOf_177 : decode Y_M_valueOf.2.1 177 = .ok (.ireturn, 1) := by decide +kernel
theorem d_M_valueOf_178 : decode Y_M_valueOf.2.1 178 = .ok (.aload_n 0, 1) := by decide +kernel
theorem d_M_valueOf_179 : decode Y_M_valueOf.2.1 179 = .ok (.invokevirtual 435, 3) := by decide +kernel
theorem d_M_valueOf_182 : decode Y_M_valueOf.2.1 182 = .ok (.ifCond .le 7, 3) := by decide +kernel
theorem d_M_valueOf_185 : decode Y_M_valueOf.2.1 185 = .ok (.iconst 1, 1) := by decide +kernel
theorem d_M_valueOf_186 : decode Y_M_valueOf.2.1 186 = .ok (.goto 4, 3) := by decide +kernel
theorem d_M_valueOf_189 : decode Y_M_valueOf.2.1 189 = .ok (.iconst 0, 1) := by decide +kernel
theorem d_M_valueOf_190 : decode Y_M_valueOf.2.1 190 = .ok (.ireturn, 1) := by decide +kernel
theorem d_M_valueOf_191 : decode Y_M_valueOf.2.1 191 = .ok (.aload_n 0, 1) := by decide +kernel
theorem d_M_valueOf_192 : decode Y_M_valueOf.2.1 192 = .ok (.getfield 26, 3) := by decide +kernel
theorem d_M_valueOf_195 : decode Y_M_valueOf.2.1 195 = .ok (.iload_n 2, 1) := by decide +kernel
theorem d_M_valueOf_196 : decode Y_M_valueOf.2.1 196 = .ok (.aload_n 0, 1) := by decide +kernel
theorem d_M_valueOf_197 : decode Y_M_valueOf.2.1 197 = .ok (.getfield 429, 3) := by decide +kernel
theorem d_M_valueOf_200 : decode Y_M_valueOf.2.1 200 = .ok (.invokestatic 158, 3) := by decide +kernel
theorem d_M_valueOf_203 : decode Y_M_valueOf.2.1 203 = .ok (.baload, 1) := by decide +kernel
theorem d_M_valueOf_204 : decode Y_M_valueOf.2.1 204 = .ok (.ifCond .eq 7, 3) := by decide +kernel
theorem d_M_valueOf_207 : decode Y_M_valueOf.2.1 207 = .ok (.iconst 1, 1) := by decide +kernel
theorem d_M_valueOf_208 : decode Y_M_valueOf.2.1 208 = .ok (.goto 4, 3) := by decide +kernel
theorem d_M_valueOf_211 : decode Y_M_valueOf.2.1 211 = .ok (.iconst 0, 1) := by decide +kernel
theorem d_M_valueOf_212 : decode Y_M_valueOf.2.1 212 = .ok (.ireturn, 1) := by decide +kernel
theorem d_M_valueOf_213 : decode Y_M_valueOf.2.1 213 = .ok (.aload_n 0, 1) := by decide +kernel
theorem d_M_valueOf_214 : decode Y_M_valueOf.2.1 214 = .ok (.aload_n 0, 1) := by decide +kernel
theorem d_M_valueOf_215 : decode Y_M_valueOf.2.1 215 = .ok (.getfield 429, 3) := by decide +kernel
theorem d_M_valueOf_218 : decode Y_M_valueOf.2.1 218 = .ok (.invokevirtual 438, 3) := by decide +kernel
theorem d_M_valueOf_221 : decode Y_M_valueOf.2.1 221 = .ok (.ireturn, 1) := by decide +kernel
theorem d_M_valueOf_222 : decode Y_M_valueOf.2.1 222 = .ok (.aload_n 0, 1) := by decide +kernel
theorem d_M_valueOf_223 : decode Y_M_valueOf.2.1 223 = .ok (.getfield 122, 3) := by decide +kernel
theorem d_M_valueOf_226 : decode Y_M_valueOf.2.1 226 = .ok (.aload_n 0, 1) := by decide +kernel
theorem d_M_valueOf_227 : decode Y_M_valueOf.2.1 227 = .ok (.getfield 426, 3) := by decide +kernel
theorem d_M_valueOf_230 : decode Y_M_valueOf.2.1 230 = .ok (.iaload, 1) := by decide +kernel
theorem d_M_valueOf_231 : decode Y_M_valueOf.2.1 231 = .ok (.iconst (-1), 1) := by decide +kernel
theorem d_M_valueOf_232 : decode Y_M_valueOf.2.1 232 = .ok (.if_icmp .ne 7, 3) := by decide +kernel
theorem d_M_valueOf_235 : decode Y_M_valueOf.2.1 235 = .ok (.iconst 0, 1) := by decide +kernel
theorem d_M_valueOf_236 : decode Y_M_valueOf.2.1 236 = .ok (.goto 42, 3) := by decide +kernel
theorem d_M_valueOf_239 : decode Y_M_valueOf.2.1 239 = .ok (.aload_n 0, 1) := by decide +kernel
theorem d_M_valueOf_240 : decode Y_M_valueOf.2.1 240 = .ok (.aload_n 0, 1) := by decide +kernel
theorem d_M_valueOf_241 : decode Y_M_valueOf.2.1 241 = .ok (.aload_n 0, 1) := by decide +kernel
theorem d_M_valueOf_242 : decode Y_M_valueOf.2.1 242 = .ok (.getfield 426, 3) := by decide +kernel
theorem d_M_valueOf_245 : decode Y_M_valueOf.2.1 245 = .ok (.aload_n 0, 1) := by decide +kernel
theorem d_M_valueOf_246 : decode Y_M_valueOf.2.1 246 = .ok (.getfield 122, 3) := by decide +kernel
theorem d_M_valueOf_249 : decode Y_M_valueOf.2.1 249 = .ok (.aload_n 0, 1) := by decide +kernel
theorem d_M_valueOf_250 : decode Y_M_valueOf.2.1 250 = .ok (.getfield 426, 3) := by decide +kernel
theorem d_M_valueOf_253 : decode Y_M_valueOf.2.1 253 = .ok (.iaload, 1) := by decide +kernel
theorem d_M_valueOf_254 : decode Y_M_valueOf.2.1 254 = .ok (.invokevirtual 432, 3) := by decide +kernel
theorem d_M_valueOf_257 : decode Y_M_valueOf.2.1 257 = .ok (.invokevirtual 441, 3) := by decide +kernel
theorem d_M_valueOf_260 : decode Y_M_valueOf.2.1 260 = .ok (.aload_n 0, 1) := by decide +kernel
theorem d_M_valueOf_261 : decode Y_M_valueOf.2.1 261 = .ok (.getfield 119, 3) := by decide +kernel
theorem d_M_valueOf_264 : decode Y_M_valueOf.2.1 264 = .ok (.aload_n 0, 1) := by decide +kernel
theorem d_M_valueOf_265 : decode Y_M_valueOf.2.1 265 = .ok (.getfield 426, 3) := by decide +kernel
theorem d_M_valueOf_268 : decode Y_M_valueOf.2.1 268 = .ok (.iaload, 1) := by decide +kernel
theorem d_M_valueOf_269 : decode Y_M_valueOf.2.1 269 = .ok (.isub, 1) := by decide +kernel
theorem d_M_valueOf_270 : decode Y_M_valueOf.2.1 270 = .ok (.i2l, 1) := by decide +kernel
theorem d_M_valueOf_271 : decode Y_M_valueOf.2.1 271 = .ok (.ldc2_w 444, 3) := by decide +kernel
theorem d_M_valueOf_274 : decode Y_M_valueOf.2.1 274 = .ok (.invokestatic 446, 3) := by decide +kernel
theorem d_M_valueOf_277 : decode Y_M_valueOf.2.1 277 = .ok (.l2i, 1) := by decide +kernel
theorem d_M_valueOf_278 : decode Y_M_valueOf.2.1 278 = .ok (.ireturn, 1) := by decide +kernel
theorem d_M_valueOf_279 : decode Y_M_valueOf.2.1 279 = .ok (.aload_n 0, 1) := by decide +kernel
theorem d_M_valueOf_280 : decode Y_M_valueOf.2.1 280 = .ok (.getfield 450, 3) := by decide +kernel
theorem d_M_valueOf_283 : decode Y_M_valueOf.2.1 283 = .ok (.bipush 100, 2) := by decide +kernel
theorem d_M_valueOf_285 : decode Y_M_valueOf.2.1 285 = .ok (.irem, 1) := by decide +kernel
theorem d_M_valueOf_286 : decode Y_M_valueOf.2.1 286 = .ok (.ireturn, 1) := by decide +kernel
theorem d_M_works_0 : decode Y_M_works.2.1 0 = .ok (.iconst 0, 1) := by decide +kernel
theorem d_M_works_1 : decode Y_M_works.2.1 1 = .ok (.istore_n 3, 1) := by decide +kernel
theorem d_M_works_2 : decode Y_M_works.2.1 2 = .ok (.iload_n 1, 1) := by decide +kernel
theorem d_M_works_3 : decode Y_M_works.2.1 3 = .ok (.istore 4, 2) := by decide +kernel
theorem d_M_works_5 : decode Y_M_works.2.1 5 = .ok (.iload 4, 2) := by decide +kernel
theorem d_M_works_7 : decode Y_M_works.2.1 7 = .ok (.iload_n 2, 1) := by decide +kernel
theorem d_M_works_8 : decode Y_M_works.2.1 8 = .ok (.if_icmp .ge 119, 3) := by decide +kernel
theorem d_M_works_11 : decode Y_M_works.2.1 11 = .ok (.aload_n 0, 1) := by decide +kernel
theorem d_M_works_12 : decode Y_M_works.2.1 12 = .ok (.getfield 83, 3) := by decide +kernel
theorem d_M_works_15 : decode Y_M_works.2.1 15 = .ok (.iload 4, 2) := by decide +kernel
theorem d_M_works_17 : decode Y_M_works.2.1 17 = .ok (.iaload, 1) := by decide +kernel
theorem d_M_works_18 : decode Y_M_works.2.1 18 = .ok (.iconst 2, 1) := by decide +kernel
theorem d_M_works_19 : decode Y_M_works.2.1 19 = .ok (.if_icmp .le 23, 3) := by decide +kernel
theorem d_M_works_22 : decode Y_M_works.2.1 22 = .ok (.iinc 3 (-1), 3) := by decide +kernel
theorem d_M_works_25 : decode Y_M_works.2.1 25 = .ok (.aload_n 0, 1) := by decide +kernel
theorem d_M_works_26 : decode Y_M_works.2.1 26 = .ok (.aload_n 0, 1) := by decide +kernel
theorem d_M_works_27 : decode Y_M_works.2.1 27 = .ok (.getfield 83, 3) := by decide +kernel
theorem d_M_works_30 : decode Y_M_works.2.1 30 = .ok (.iload 4, 2) := by decide +kernel
theorem d_M_works_32 : decode Y_M_works.2.1 32 = .ok (.iaload, 1) := by decide +kernel
theorem d_M_works_33 : decode Y_M_works.2.1 33 = .ok (.iload_n 3, 1) := by decide +kernel
theorem d_M_works_34 : decode Y_M_works.2.1 34 = .ok (.iconst 1, 1) := by decide +kernel
theorem d_M_works_35 : decode Y_M_works.2.1 35 = .ok (.isub, 1) := by decide +kernel
theorem d_M_works_36 : decode Y_M_works.2.1 36 = .ok (.invokevirtual 456, 3) := by decide +kernel
theorem d_M_works_39 : decode Y_M_works.2.1 39 = .ok (.goto 82, 3) := by decide +kernel
theorem d_M_works_42 : decode Y_M_works.2.1 42 = .ok (.aload_n 0, 1) := by decide +kernel
theorem d_M_works_43 : decode Y_M_works.2.1 43 = .ok (.getfield 83, 3) := by decide +kernel
theorem d_M_works_46 : decode Y_M_works.2.1 46 = .ok (.iload 4, 2) := by decide +kernel
theorem d_M_works_48 : decode Y_M_works.2.1 48 = .ok (.iaload, 1) := by decide +kernel
theorem d_M_works_49 : decode Y_M_works.2.1 49 = .ok (.iconst 2, 1) := by decide +kernel
theorem d_M_works_50 : decode Y_M_works.2.1 50 = .ok (.if_icmp .ne 24, 3) := by decide +kernel
theorem d_M_works_53 : decode Y_M_works.2.1 53 = .ok (.aload_n 0, 1) := by decide +kernel
theorem d_M_works_54 : decode Y_M_works.2.1 54 = .ok (.getfield 128, 3) := by decide +kernel
theorem d_M_works_57 : decode Y_M_works.2.1 57 = .ok (.iload_n 3, 1) := by decide +kernel
theorem d_M_works_58 : decode Y_M_works.2.1 58 = .ok (.iconst 1, 1) := by decide +kernel
theorem d_M_works_59 : decode Y_M_works.2.1 59 = .ok (.isub, 1) := by decide +kernel
theorem d_M_works_60 : decode Y_M_works.2.1 60 = .ok (.iconst 1, 1) := by decide +kernel
theorem d_M_works_61 : decode Y_M_works.2.1 61 = .ok (.aload_n 0, 1) := by decide +kernel
theorem d_M_works_62 : decode Y_M_works.2.1 62 = .ok (.getfield 128, 3) := by decide +kernel
theorem d_M_works_65 : decode Y_M_works.2.1 65 = .ok (.iload_n 3, 1) := by decide +kernel
theorem d_M_works_66 : decode Y_M_works.2.1 66 = .ok (.iconst 1, 1) := by decide +kernel
theorem d_M_works_67 : decode Y_M_works.2.1 67 = .ok (.isub, 1) := by decide +kernel
theorem d_M_works_68 : decode Y_M_works.2.1 68 = .ok (.iaload, 1) := by decide +kernel
theorem d_M_works_69 : decode Y_M_works.2.1 69 = .ok (.isub, 1) := by decide +kernel
theorem d_M_works_70 : decode Y_M_works.2.1 70 = .ok (.iastore, 1) := by decide +kernel
theorem d_M_works_71 : decode Y_M_works.2.1 71 = .ok (.goto 50, 3) := by decide +kernel
theorem d_M_works_74 : decode Y_M_works.2.1 74 = .ok (.aload_n 0, 1) := by decide +kernel
theorem d_M_works_75 : decode Y_M_works.2.1 75 = .ok (.getfield 131, 3) := by decide +kernel
theorem d_M_works_78 : decode Y_M_works.2.1 78 = .ok (.iload_n 3, 1) := by decide +kernel
theorem d_M_works_79 : decode Y_M_works.2.1 79 = .ok (.iconst 0, 1) := by decide +kernel
theorem d_M_works_80 : decode Y_M_works.2.1 80 = .ok (.bastore, 1) := by decide +kernel
theorem d_M_works_81 : decode Y_M_works.2.1 81 = .ok (.aload_n 0, 1) := by decide +kernel
theorem d_M_works_82 : decode Y_M_works.2.1 82 = .ok (.getfield 128, 3) := by decide +kernel
theorem d_M_works_85 : decode Y_M_works.2.1 85 = .ok (.iload_n 3, 1) := by decide +kernel
theorem d_M_works_86 : decode Y_M_works.2.1 86 = .ok (.aload_n 0, 1) := by decide +kernel
theorem d_M_works_87 : decode Y_M_works.2.1 87 = .ok (.getfield 83, 3) := by decide +kernel
theorem d_M_works_90 : decode Y_M_works.2.1 90 = .ok (.iload 4, 2) := by decide +kernel
theorem d_M_works_92 : decode Y_M_works.2.1 92 = .ok (.iaload, 1) := by decide +kernel
theorem d_M_works_93 : decode Y_M_works.2.1 93 = .ok (.ifCond .ne 13, 3) := by decide +kernel
theorem d_M_works_96 : decode Y_M_works.2.1 96 = .ok (.aload_n 0, 1) := by decide +kernel
theorem d_M_works_97 : decode Y_M_works.2.1 97 = .ok (.getfield 86, 3) := by decide +kernel
theorem d_M_works_100 : decode Y_M_works.2.1 100 = .ok (.iload 4, 2) := by decide +kernel
theorem d_M_works_102 : decode Y_M_works.2.1 102 = .ok (.iaload, 1) := by decide +kernel
theorem d_M_works_103 : decode Y_M_works.2.1 103 = .ok (.goto 14, 3) := by decide +kernel
theorem d_M_works_106 : decode Y_M_works.2.1 106 = .ok (.aload_n 0, 1) := by decide +kernel
theorem d_M_works_107 : decode Y_M_works.2.1 107 = .ok (.aload_n 0, 1) := by decide +kernel
theorem d_M_works_108 : decode Y_M_works.2.1 108 = .ok (.getfield 86, 3) := by decide +kernel
theorem d_M_works_111 : decode Y_M_works.2.1 111 = .ok (.iload 4, 2) := by decide +kernel
theorem d_M_works_113 : decode Y_M_works.2.1 113 = .ok (.iaload, 1) := by decide +kernel
theorem d_M_works_114 : decode Y_M_works.2.1 114 = .ok (.invokevirtual 459, 3) := by decide +kernel
theorem d_M_works_117 : decode Y_M_works.2.1 117 = .ok (.iastore, 1) := by decide +kernel
theorem d_M_works_118 : decode Y_M_works.2.1 118 = .ok (.iinc 3 1, 3) := by decide +kernel
theorem d_M_works_121 : decode Y_M_works.2.1 121 = .ok (.iinc 4 1, 3) := by decide +kernel
theorem d_M_works_124 : decode Y_M_works.2.1 124 = .ok (.goto (-119), 3) := by decide +kernel
theorem d_M_works_127 : decode Y_M_works.2.1 127 = .ok (.return_, 1) := by decide +kernel
theorem d_M_tells_0 : decode Y_M_tells.2.1 0 = .ok (.iconst 0, 1) := by decide +kernel
theorem d_M_tells_1 : decode Y_M_tells.2.1 1 = .ok (.istore 4, 2) := by decide +kernel
theorem d_M_tells_3 : decode Y_M_tells.2.1 3 = .ok (.iload 4, 2) := by decide +kernel
theorem d_M_tells_5 : decode Y_M_tells.2.1 5 = .ok (.aload_n 0, 1) := by decide +kernel
theorem d_M_tells_6 : decode Y_M_tells.2.1 6 = .ok (.getfield 416, 3) := by decide +kernel
theorem d_M_tells_9 : decode Y_M_tells.2.1 9 = .ok (.if_icmp .ge 125, 3) := by decide +kernel
theorem d_M_tells_12 : decode Y_M_tells.2.1 12 = .ok (.aload_n 0, 1) := by decide +kernel
theorem d_M_tells_13 : decode Y_M_tells.2.1 13 = .ok (.getfield 71, 3) := by decide +kernel
theorem d_M_tells_16 : decode Y_M_tells.2.1 16 = .ok (.iload 4, 2) := by decide +kernel
theorem d_M_tells_18 : decode Y_M_tells.2.1 18 = .ok (.iaload, 1) := by decide +kernel
theorem d_M_tells_19 : decode Y_M_tells.2.1 19 = .ok (.iload_n 1, 1) := by decide +kernel
theorem d_M_tells_20 : decode Y_M_tells.2.1 20 = .ok (.if_icmp .eq 6, 3) := by decide +kernel
theorem d_M_tells_23 : decode Y_M_tells.2.1 23 = .ok (.goto 105, 3) := by decide +kernel
theorem d_M_tells_26 : decode Y_M_tells.2.1 26 = .ok (.aload_n 0, 1) := by decide +kernel
theorem d_M_tells_27 : decode Y_M_tells.2.1 27 = .ok (.aload_n 0, 1) := by decide +kernel
theorem d_M_tells_28 : decode Y_M_tells.2.1 28 = .ok (.getfield 77, 3) := by decide +kernel
theorem d_M_tells_31 : decode Y_M_tells.2.1 31 = .ok (.iload 4, 2) := by decide +kernel
theorem d_M_tells_33 : decode Y_M_tells.2.1 33 = .ok (.iaload, 1) := by decide +kernel
theorem d_M_tells_34 : decode Y_M_tells.2.1 34 = .ok (.aload_n 0, 1) := by decide +kernel
theorem d_M_tells_35 : decode Y_M_tells.2.1 35 = .ok (.getfield 80, 3) := by decide +kernel
theorem d_M_tells_38 : decode Y_M_tells.2.1 38 = .ok (.iload 4, 2) := by decide +kernel
theorem d_M_tells_40 : decode Y_M_tells.2.1 40 = .ok (.iaload, 1) := by decide +kernel
theorem d_M_tells_41 : decode Y_M_tells.2.1 41 = .ok (.invokevirtual 462, 3) := by decide +kernel
theorem d_M_tells_44 : decode Y_M_tells.2.1 44 = .ok (.aload_n 0, 1) := by decide +kernel
theorem d_M_tells_45 : decode Y_M_tells.2.1 45 = .ok (.getfield 131, 3) := by decide +kernel
theorem d_M_tells_48 : decode Y_M_tells.2.1 48 = .ok (.iconst 0, 1) := by decide +kernel
theorem d_M_tells_49 : decode Y_M_tells.2.1 49 = .ok (.baload, 1) := by decide +kernel
theorem d_M_tells_50 : decode Y_M_tells.2.1 50 = .ok (.ifCond .ne 78, 3) := by decide +kernel
theorem d_M_tells_53 : decode Y_M_tells.2.1 53 = .ok (.aload_n 0, 1) := by decide +kernel
theorem d_M_tells_54 : decode Y_M_tells.2.1 54 = .ok (.getfield 128, 3) := by decide +kernel
theorem d_M_tells_57 : decode Y_M_tells.2.1 57 = .ok (.iconst 0, 1) := by decide +kernel
theorem d_M_tells_58 : decode Y_M_tells.2.1 58 = .ok (.iaload, 1) := by decide +kernel
theorem d_M_tells_59 : decode Y_M_tells.2.1 59 = .ok (.iconst 1, 1) := by decide +kernel
theorem d_M_tells_60 : decode Y_M_tells.2.1 60 = .ok (.if_icmp .eq 6, 3) := by decide +kernel
theorem d_M_tells_63 : decode Y_M_tells.2.1 63 = .ok (.goto 65, 3) := by decide +kernel
theorem d_M_tells_66 : decode Y_M_tells.2.1 66 = .ok (.aload_n 0, 1) := by decide +kernel
theorem d_M_tells_67 : decode Y_M_tells.2.1 67 = .ok (.aload_n 0, 1) := by decide +kernel
theorem d_M_tells_68 : decode Y_M_tells.2.1 68 = .ok (.getfield 74, 3) := by decide +kernel
theorem d_M_tells_71 : decode Y_M_tells.2.1 71 = .ok (.iload 4, 2) := by decide +kernel
theorem d_M_tells_73 : decode Y_M_tells.2.1 73 = .ok (.iaload, 1) := by decide +kernel
theorem d_M_tells_74 : decode Y_M_tells.2.1 74 = .ok (.aload_n 0, 1) := by decide +kernel
theorem d_M_tells_75 : decode Y_M_tells.2.1 75 = .ok (.getfield 77, 3) := by decide +kernel
theorem d_M_tells_78 : decode Y_M_tells.2.1 78 = .ok (.iload 4, 2) := by decide +kernel
theorem d_M_tells_80 : decode Y_M_tells.2.1 80 = .ok (.iaload, 1) := by decide +kernel
theorem d_M_tells_81 : decode Y_M_tells.2.1 81 = .ok (.invokevirtual 462, 3) := by decide +kernel
theorem d_M_tells_84 : decode Y_M_tells.2.1 84 = .ok (.aload_n 0, 1) := by decide +kernel
theorem d_M_tells_85 : decode Y_M_tells.2.1 85 = .ok (.getfield 131, 3) := by decide +kernel
theorem d_M_tells_88 : decode Y_M_tells.2.1 88 = .ok (.iconst 0, 1) := by decide +kernel
theorem d_M_tells_89 : decode Y_M_tells.2.1 89 = .ok (.baload, 1) := by decide +kernel
theorem d_M_tells_90 : decode Y_M_tells.2.1 90 = .ok (.ifCond .eq 7, 3) := by decide +kernel
theorem d_M_tells_93 : decode Y_M_tells.2.1 93 = .ok (.iconst 0, 1) := by decide +kernel
theorem d_M_tells_94 : decode Y_M_tells.2.1 94 = .ok (.goto 9, 3) := by decide +kernel
theorem d_M_tells_97 : decode Y_M_tells.2.1 97 = .ok (.aload_n 0, 1) := by decide +kernel
theorem d_M_tells_98 : decode Y_M_tells.2.1 98 = .ok (.getfield 128, 3) := by decide +kernel
theorem d_M_tells_101 : decode Y_M_tells.2.1 101 = .ok (.iconst 0, 1) := by decide +kernel
theorem d_M_tells_102 : decode Y_M_tells.2.1 102 = .ok (.iaload, 1) := by decide +kernel
theorem d_M_tells_103 : decode Y_M_tells.2.1 103 = .ok (.istore 5, 2) := by decide +kernel
theorem d_M_tells_105 : decode Y_M_tells.2.1 105 = .ok (.iload 5, 2) := by decide +kernel
theorem d_M_tells_107 : decode Y_M_tells.2.1 107 = .ok (.iload_n 2, 1) := by decide +kernel
theorem d_M_tells_108 : decode Y_M_tells.2.1 108 = .ok (.if_icmp .ge 7, 3) := by decide +kernel
theorem d_M_tells_111 : decode Y_M_tells.2.1 111 = .ok (.iload_n 2, 1) := by decide +kernel
theorem d_M_tells_112 : decode Y_M_tells.2.1 112 = .ok (.goto 15, 3) := by decide +kernel
theorem d_M_tells_115 : decode Y_M_tells.2.1 115 = .ok (.iload 5, 2) := by decide +kernel
theorem d_M_tells_117 : decode Y_M_tells.2.1 117 = .ok (.iload_n 3, 1) := by decide +kernel
theorem d_M_tells_118 : decode Y_M_tells.2.1 118 = .ok (.if_icmp .le 7, 3) := by decide +kernel
theorem d_M_tells_121 : decode Y_M_tells.2.1 121 = .ok (.iload_n 3, 1) := by decide +kernel
theorem d_M_tells_122 : decode Y_M_tells.2.1 122 = .ok (.goto 5, 3) := by decide +kernel
theorem d_M_tells_125 : decode Y_M_tells.2.1 125 = .ok (.iload 5, 2) := by decide +kernel
theorem d_M_tells_127 : decode Y_M_tells.2.1 127 = .ok (.ireturn, 1) := by decide +kernel
theorem d_M_tells_128 : decode Y_M_tells.2.1 128 = .ok (.iinc 4 1, 3) := by decide +kernel
theorem d_M_tells_131 : decode Y_M_tells.2.1 131 = .ok (.goto (-128), 3) := by decide +kernel
theorem d_M_tells_134 : decode Y_M_tells.2.1 134 = .ok (.iconst 0, 1) := by decide +kernel
theorem d_M_tells_135 : decode Y_M_tells.2.1 135 = .ok (.ireturn, 1) := by decide +kernel
theorem d_M_aimOf_0 : decode Y_M_aimOf.2.1 0 = .ok (.aload_n 0, 1) := by decide +kernel
theorem d_M_aimOf_1 : decode Y_M_aimOf.2.1 1 = .ok (.getfield 471, 3) := by decide +kernel
theorem d_M_aimOf_4 : decode Y_M_aimOf.2.1 4 = .ok (.ifCond .eq 7, 3) := by decide +kernel
theorem d_M_aimOf_7 : decode Y_M_aimOf.2.1 7 = .ok (.lload_n 3, 1) := by decide +kernel
theorem d_M_aimOf_8 : decode Y_M_aimOf.2.1 8 = .ok (.goto 4, 3) := by decide +kernel
theorem d_M_aimOf_11 : decode Y_M_aimOf.2.1 11 = .ok (.lconst 0, 1) := by decide +kernel
theorem d_M_aimOf_12 : decode Y_M_aimOf.2.1 12 = .ok (.lstore 11, 2) := by decide +kernel
theorem d_M_aimOf_14 : decode Y_M_aimOf.2.1 14 = .ok (.aload_n 0, 1) := by decide +kernel
theorem d_M_aimOf_15 : decode Y_M_aimOf.2.1 15 = .ok (.getfield 477, 3) := by decide +kernel
theorem d_M_aimOf_18 : decode Y_M_aimOf.2.1 18 = .ok (.ifCond .eq 8, 3) := by decide +kernel
theorem d_M_aimOf_21 : decode Y_M_aimOf.2.1 21 = .ok (.lload 5, 2) := by decide +kernel
theorem d_M_aimOf_23 : decode Y_M_aimOf.2.1 23 = .ok (.goto 4, 3) := by decide +kernel
theorem d_M_aimOf_26 : decode Y_M_aimOf.2.1 26 = .ok (.lconst 0, 1) := by decide +kernel
theorem d_M_aimOf_27 : decode Y_M_aimOf.2.1 27 = .ok (.lstore 13, 2) := by decide +kernel
theorem d_M_aimOf_29 : decode Y_M_aimOf.2.1 29 = .ok (.aload_n 0, 1) := by decide +kernel
theorem d_M_aimOf_30 : decode Y_M_aimOf.2.1 30 = .ok (.aload_n 0, 1) := by decide +kernel
theorem d_M_aimOf_31 : decode Y_M_aimOf.2.1 31 = .ok (.iload_n 1, 1) := by decide +kernel
theorem d_M_aimOf_32 : decode Y_M_aimOf.2.1 32 = .ok (.iload_n 2, 1) := by decide +kernel
theorem d_M_aimOf_33 : decode Y_M_aimOf.2.1 33 = .ok (.invokevirtual 432, 3) := by decide +kernel
theorem d_M_aimOf_36 : decode Y_M_aimOf.2.1 36 = .ok (.invokevirtual 441, 3) := by decide +kernel
theorem d_M_aimOf_39 : decode Y_M_aimOf.2.1 39 = .ok (.i2l, 1) := by decide +kernel
theorem d_M_aimOf_40 : decode Y_M_aimOf.2.1 40 = .ok (.lstore 15, 2) := by decide +kernel
theorem d_M_aimOf_42 : decode Y_M_aimOf.2.1 42 = .ok (.lload 15, 2) := by decide +kernel
theorem d_M_aimOf_44 : decode Y_M_aimOf.2.1 44 = .ok (.aload_n 0, 1) := by decide +kernel
theorem d_M_aimOf_45 : decode Y_M_aimOf.2.1 45 = .ok (.getfield 125, 3) := by decide +kernel
theorem d_M_aimOf_48 : decode Y_M_aimOf.2.1 48 = .ok (.iload_n 2, 1) := by decide +kernel
theorem d_M_aimOf_49 : decode Y_M_aimOf.2.1 49 = .ok (.iaload, 1) := by decide +kernel
theorem d_M_aimOf_50 : decode Y_M_aimOf.2.1 50 = .ok (.i2l, 1) := by decide +kernel
theorem d_M_aimOf_51 : decode Y_M_aimOf.2.1 51 = .ok (.ladd, 1) := by decide +kernel
theorem d_M_aimOf_52 : decode Y_M_aimOf.2.1 52 = .ok (.lstore 17, 2) := by decide +kernel
theorem d_M_aimOf_54 : decode Y_M_aimOf.2.1 54 = .ok (.lload 11, 2) := by decide +kernel
theorem d_M_aimOf_56 : decode Y_M_aimOf.2.1 56 = .ok (.lload 13, 2) := by decide +kernel
theorem d_M_aimOf_58 : decode Y_M_aimOf.2.1 58 = .ok (.ladd, 1) := by decide +kernel
theorem d_M_aimOf_59 : decode Y_M_aimOf.2.1 59 = .ok (.lload 7, 2) := by decide +kernel
theorem d_M_aimOf_61 : decode Y_M_aimOf.2.1 61 = .ok (.ladd, 1) := by decide +kernel
theorem d_M_aimOf_62 : decode Y_M_aimOf.2.1 62 = .ok (.lload 9, 2) := by decide +kernel
theorem d_M_aimOf_64 : decode Y_M_aimOf.2.1 64 = .ok (.ladd, 1) := by decide +kernel
theorem d_M_aimOf_65 : decode Y_M_aimOf.2.1 65 = .ok (.lstore 19, 2) := by decide +kernel
theorem d_M_aimOf_67 : decode Y_M_aimOf.2.1 67 = .ok (.lload 19, 2) := by decide +kernel
theorem d_M_aimOf_69 : decode Y_M_aimOf.2.1 69 = .ok (.lconst 0, 1) := by decide +kernel
theorem d_M_aimOf_70 : decode Y_M_aimOf.2.1 70 = .ok (.lcmp, 1) := by decide +kernel
theorem d_M_aimOf_71 : decode Y_M_aimOf.2.1 71 = .ok (.ifCond .ne 8, 3) := by decide +kernel
theorem d_M_aimOf_74 : decode Y_M_aimOf.2.1 74 = .ok (.lload 17, 2) := by decide +kernel
theorem d_M_aimOf_76 : decode Y_M_aimOf.2.1 76 = .ok (.goto 35, 3) := by decide +kernel
theorem d_M_aimOf_79 : decode Y_M_aimOf.2.1 79 = .ok (.lload 11, 2) := by decide +kernel
theorem d_M_aimOf_81 : decode Y_M_aimOf.2.1 81 = .ok (.aload_n 0, 1) := by decide +kernel
theorem d_M_aimOf_82 : decode Y_M_aimOf.2.1 82 = .ok (.getfield 474, 3) := by decide +kernel
theorem d_M_aimOf_85 : decode Y_M_aimOf.2.1 85 = .ok (.lmul, 1) := by decide +kernel
theorem d_M_aimOf_86 : decode Y_M_aimOf.2.1 86 = .ok (.lload 13, 2) := by decide +kernel
theorem d_M_aimOf_88 : decode Y_M_aimOf.2.1 88 = .ok (.aload_n 0, 1) := by decide +kernel
theorem d_M_aimOf_89 : decode Y_M_aimOf.2.1 89 = .ok (.getfield 480, 3) := by decide +kernel
theorem d_M_aimOf_92 : decode Y_M_aimOf.2.1 92 = .ok (.lmul, 1) := by decide +kernel
theorem d_M_aimOf_93 : decode Y_M_aimOf.2.1 93 = .ok (.ladd, 1) := by decide +kernel
theorem d_M_aimOf_94 : decode Y_M_aimOf.2.1 94 = .ok (.lload 7, 2) := by decide +kernel
theorem d_M_aimOf_96 : decode Y_M_aimOf.2.1 96 = .ok (.lload 17, 2) := by decide +kernel
theorem d_M_aimOf_98 : decode Y_M_aimOf.2.1 98 = .ok (.lmul, 1) := by decide +kernel
theorem d_M_aimOf_99 : decode Y_M_aimOf.2.1 99 = .ok (.ladd, 1) := by decide +kernel
theorem d_M_aimOf_100 : decode Y_M_aimOf.2.1 100 = .ok (.lload 9, 2) := by decide +kernel
theorem d_M_aimOf_102 : decode Y_M_aimOf.2.1 102 = .ok (.lload 15, 2) := by decide +kernel
theorem d_M_aimOf_104 : decode Y_M_aimOf.2.1 104 = .ok (.lmul, 1) := by decide +kernel
theorem d_M_aimOf_105 : decode Y_M_aimOf.2.1 105 = .ok (.ladd, 1) := by decide +kernel
theorem d_M_aimOf_106 : decode Y_M_aimOf.2.1 106 = .ok (.lload 19, 2) := by decide +kernel
theorem d_M_aimOf_108 : decode Y_M_aimOf.2.1 108 = .ok (.invokestatic 446, 3) := by decide +kernel
theorem d_M_aimOf_111 : decode Y_M_aimOf.2.1 111 = .ok (.lreturn, 1) := by decide +kernel
theorem d_M_singsNote_0 : decode Y_M_singsNote.2.1 0 = .ok (.aload_n 0, 1) := by decide +kernel
theorem d_M_singsNote_1 : decode Y_M_singsNote.2.1 1 = .ok (.sipush 25173, 3) := by decide +kernel
theorem d_M_singsNote_4 : decode Y_M_singsNote.2.1 4 = .ok (.aload_n 0, 1) := by decide +kernel
theorem d_M_singsNote_5 : decode Y_M_singsNote.2.1 5 = .ok (.getfield 450, 3) := by decide +kernel
theorem d_M_singsNote_8 : decode Y_M_singsNote.2.1 8 = .ok (.imul, 1) := by decide +kernel
theorem d_M_singsNote_9 : decode Y_M_singsNote.2.1 9 = .ok (.sipush 13849, 3) := by decide +kernel
theorem d_M_singsNote_12 : decode Y_M_singsNote.2.1 12 = .ok (.iadd, 1) := by decide +kernel
theorem d_M_singsNote_13 : decode Y_M_singsNote.2.1 13 = .ok (.ldc_w 483, 3) := by decide +kernel
theorem d_M_singsNote_16 : decode Y_M_singsNote.2.1 16 = .ok (.irem, 1) := by decide +kernel
theorem d_M_singsNote_17 : decode Y_M_singsNote.2.1 17 = .ok (.putfield 450, 3) := by decide +kernel
theorem d_M_singsNote_20 : decode Y_M_singsNote.2.1 20 = .ok (.aload_n 0, 1) := by decide +kernel
theorem d_M_singsNote_21 : decode Y_M_singsNote.2.1 21 = .ok (.iload_n 1, 1) := by decide +kernel
theorem d_M_singsNote_22 : decode Y_M_singsNote.2.1 22 = .ok (.putfield 426, 3) := by decide +kernel
theorem d_M_singsNote_25 : decode Y_M_singsNote.2.1 25 = .ok (.aload_n 0, 1) := by decide +kernel
theorem d_M_singsNote_26 : decode Y_M_singsNote.2.1 26 = .ok (.iload_n 2, 1) := by decide +kernel
theorem d_M_singsNote_27 : decode Y_M_singsNote.2.1 27 = .ok (.putfield 429, 3) := by decide +kernel
theorem d_M_singsNote_30 : decode Y_M_singsNote.2.1 30 = .ok (.aload_n 0, 1) := by decide +kernel
theorem d_M_singsNote_31 : decode Y_M_singsNote.2.1 31 = .ok (.iload_n 1, 1) := by decide +kernel
theorem d_M_singsNote_32 : decode Y_M_singsNote.2.1 32 = .ok (.iload_n 2, 1) := by decide +kernel
theorem d_M_singsNote_33 : decode Y_M_singsNote.2.1 33 = .ok (.invokevirtual 484, 3) := by decide +kernel
theorem d_M_singsNote_36 : decode Y_M_singsNote.2.1 36 = .ok (.aload_n 0, 1) := by decide +kernel
theorem d_M_singsNote_37 : decode Y_M_singsNote.2.1 37 = .ok (.getfield 122, 3) := by decide +kernel
theorem d_M_singsNote_40 : decode Y_M_singsNote.2.1 40 = .ok (.iload_n 1, 1) := by decide +kernel
theorem d_M_singsNote_41 : decode Y_M_singsNote.2.1 41 = .ok (.iaload, 1) := by decide +kernel
theorem d_M_singsNote_42 : decode Y_M_singsNote.2.1 42 = .ok (.istore_n 3, 1) := by decide +kernel
theorem d_M_singsNote_43 : decode Y_M_singsNote.2.1 43 = .ok (.aload_n 0, 1) := by decide +kernel
theorem d_M_singsNote_44 : decode Y_M_singsNote.2.1 44 = .ok (.iload_n 3, 1) := by decide +kernel
theorem d_M_singsNote_45 : decode Y_M_singsNote.2.1 45 = .ok (.iconst (-1), 1) := by decide +kernel
theorem d_M_singsNote_46 : decode Y_M_singsNote.2.1 46 = .ok (.if_icmp .eq 7, 3) := by decide +kernel
theorem d_M_singsNote_49 : decode Y_M_singsNote.2.1 49 = .ok (.iconst 1, 1) := by decide +kernel
theorem d_M_singsNote_50 : decode Y_M_singsNote.2.1 50 = .ok (.goto 4, 3) := by decide +kernel
theorem d_M_singsNote_53 : decode Y_M_singsNote.2.1 53 = .ok (.iconst 0, 1) := by decide +kernel
theorem d_M_singsNote_54 : decode Y_M_singsNote.2.1 54 = .ok (.putfield 477, 3) := by decide +kernel
theorem d_M_singsNote_57 : decode Y_M_singsNote.2.1 57 = .ok (.aload_n 0, 1) := by decide +kernel
theorem d_M_singsNote_58 : decode Y_M_singsNote.2.1 58 = .ok (.aload_n 0, 1) := by decide +kernel
theorem d_M_singsNote_59 : decode Y_M_singsNote.2.1 59 = .ok (.getfield 477, 3) := by decide +kernel
theorem d_M_singsNote_62 : decode Y_M_singsNote.2.1 62 = .ok (.ifCond .ne 7, 3) := by decide +kernel
theorem d_M_singsNote_65 : decode Y_M_singsNote.2.1 65 = .ok (.lconst 0, 1) := by decide +kernel
theorem d_M_singsNote_66 : decode Y_M_singsNote.2.1 66 = .ok (.goto 50, 3) := by decide +kernel
theorem d_M_singsNote_69 : decode Y_M_singsNote.2.1 69 = .ok (.aload_n 0, 1) := by decide +kernel
theorem d_M_singsNote_70 : decode Y_M_singsNote.2.1 70 = .ok (.aload_n 0, 1) := by decide +kernel
theorem d_M_singsNote_71 : decode Y_M_singsNote.2.1 71 = .ok (.getfield 56, 3) := by decide +kernel
theorem d_M_singsNote_74 : decode Y_M_singsNote.2.1 74 = .ok (.iload_n 1, 1) := by decide +kernel
theorem d_M_singsNote_75 : decode Y_M_singsNote.2.1 75 = .ok (.iaload, 1) := by decide +kernel
theorem d_M_singsNote_76 : decode Y_M_singsNote.2.1 76 = .ok (.iload_n 2, 1) := by decide +kernel
theorem d_M_singsNote_77 : decode Y_M_singsNote.2.1 77 = .ok (.invokevirtual 193, 3) := by decide +kernel
theorem d_M_singsNote_80 : decode Y_M_singsNote.2.1 80 = .ok (.ifCond .eq 13, 3) := by decide +kernel
theorem d_M_singsNote_83 : decode Y_M_singsNote.2.1 83 = .ok (.aload_n 0, 1) := by decide +kernel
theorem d_M_singsNote_84 : decode Y_M_singsNote.2.1 84 = .ok (.getfield 119, 3) := by decide +kernel
theorem d_M_singsNote_87 : decode Y_M_singsNote.2.1 87 = .ok (.iload_n 1, 1) := by decide +kernel
theorem d_M_singsNote_88 : decode Y_M_singsNote.2.1 88 = .ok (.iaload, 1) := by decide +kernel
theorem d_M_singsNote_89 : decode Y_M_singsNote.2.1 89 = .ok (.i2l, 1) := by decide +kernel
theorem d_M_singsNote_90 : decode Y_M_singsNote.2.1 90 = .ok (.goto 26, 3) := by decide +kernel
theorem d_M_singsNote_93 : decode Y_M_singsNote.2.1 93 = .ok (.aload_n 0, 1) := by decide +kernel
theorem d_M_singsNote_94 : decode Y_M_singsNote.2.1 94 = .ok (.getfield 119, 3) := by decide +kernel
theorem d_M_singsNote_97 : decode Y_M_singsNote.2.1 97 = .ok (.iload_n 1, 1) := by decide +kernel
theorem d_M_singsNote_98 : decode Y_M_singsNote.2.1 98 = .ok (.iaload, 1) := by decide +kernel
theorem d_M_singsNote_99 : decode Y_M_singsNote.2.1 99 = .ok (.i2l, 1) := by decide +kernel
theorem d_M_singsNote_100 : decode Y_M_singsNote.2.1 100 = .ok (.aload_n 0, 1) := by decide +kernel
theorem d_M_singsNote_101 : decode Y_M_singsNote.2.1 101 = .ok (.iload_n 1, 1) := by decide +kernel
theorem d_M_singsNote_102 : decode Y_M_singsNote.2.1 102 = .ok (.iload_n 2, 1) := by decide +kernel
theorem d_M_singsNote_103 : decode Y_M_singsNote.2.1 103 = .ok (.invokevirtual 468, 3) := by decide +kernel
theorem d_M_singsNote_106 : decode Y_M_singsNote.2.1 106 = .ok (.i2l, 1) := by decide +kernel
theorem d_M_singsNote_107 : decode Y_M_singsNote.2.1 107 = .ok (.ladd, 1) := by decide +kernel
theorem d_M_singsNote_108 : decode Y_M_singsNote.2.1 108 = .ok (.aload_n 0, 1) := by decide +kernel
theorem d_M_singsNote_109 : decode Y_M_singsNote.2.1 109 = .ok (.iload_n 1, 1) := by decide +kernel
theorem d_M_singsNote_110 : decode Y_M_singsNote.2.1 110 = .ok (.iload_n 3, 1) := by decide +kernel
theorem d_M_singsNote_111 : decode Y_M_singsNote.2.1 111 = .ok (.invokevirtual 468, 3) := by decide +kernel
theorem d_M_singsNote_114 : decode Y_M_singsNote.2.1 114 = .ok (.i2l, 1) := by decide +kernel
theorem d_M_singsNote_115 : decode Y_M_singsNote.2.1 115 = .ok (.lsub, 1) := by decide +kernel
theorem d_M_singsNote_116 : decode Y_M_singsNote.2.1 116 = .ok (.putfield 480, 3) := by decide +kernel
theorem d_M_singsNote_119 : decode Y_M_singsNote.2.1 119 = .ok (.aload_n 0, 1) := by decide +kernel
theorem d_M_singsNote_120 : decode Y_M_singsNote.2.1 120 = .ok (.bipush 112, 2) := by decide +kernel
theorem d_M_singsNote_122 : decode Y_M_singsNote.2.1 122 = .ok (.iconst 0, 1) := by decide +kernel
theorem d_M_singsNote_123 : decode Y_M_singsNote.2.1 123 = .ok (.bipush 100, 2) := by decide +kernel
theorem d_M_singsNote_125 : decode Y_M_singsNote.2.1 125 = .ok (.invokevirtual 487, 3) := by decide +kernel
theorem d_M_singsNote_128 : decode Y_M_singsNote.2.1 128 = .ok (.istore 4, 2) := by decide +kernel
theorem d_M_singsNote_130 : decode Y_M_singsNote.2.1 130 = .ok (.aload_n 0, 1) := by decide +kernel
theorem d_M_singsNote_131 : decode Y_M_singsNote.2.1 131 = .ok (.bipush 115, 2) := by decide +kernel
theorem d_M_singsNote_133 : decode Y_M_singsNote.2.1 133 = .ok (.iconst 0, 1) := by decide +kernel
theorem d_M_singsNote_134 : decode Y_M_singsNote.2.1 134 = .ok (.bipush 100, 2) := by decide +kernel
theorem d_M_singsNote_136 : decode Y_M_singsNote.2.1 136 = .ok (.invokevirtual 487, 3) := by decide +kernel
theorem d_M_singsNote_139 : decode Y_M_singsNote.2.1 139 = .ok (.istore 5, 2) := by decide +kernel
theorem d_M_singsNote_141 : decode Y_M_singsNote.2.1 141 = .ok (.aload_n 0, 1) := by decide +kernel
theorem d_M_singsNote_142 : decode Y_M_singsNote.2.1 142 = .ok (.bipush 116, 2) := by decide +kernel
theorem d_M_singsNote_144 : decode Y_M_singsNote.2.1 144 = .ok (.iconst 0, 1) := by decide +kernel
theorem d_M_singsNote_145 : decode Y_M_singsNote.2.1 145 = .ok (.bipush 100, 2) := by decide +kernel
theorem d_M_singsNote_147 : decode Y_M_singsNote.2.1 147 = .ok (.invokevirtual 487, 3) := by decide +kernel
theorem d_M_singsNote_150 : decode Y_M_singsNote.2.1 150 = .ok (.istore 6, 2) := by decide +kernel
theorem d_M_singsNote_152 : decode Y_M_singsNote.2.1 152 = .ok (.aload_n 0, 1) := by decide +kernel
theorem d_M_singsNote_153 : decode Y_M_singsNote.2.1 153 = .ok (.bipush 107, 2) := by decide +kernel
theorem d_M_singsNote_155 : decode Y_M_singsNote.2.1 155 = .ok (.iconst 0, 1) := by decide +kernel
theorem d_M_singsNote_156 : decode Y_M_singsNote.2.1 156 = .ok (.bipush 100, 2) := by decide +kernel
theorem d_M_singsNote_158 : decode Y_M_singsNote.2.1 158 = .ok (.invokevirtual 487, 3) := by decide +kernel
theorem d_M_singsNote_161 : decode Y_M_singsNote.2.1 161 = .ok (.istore 7, 2) := by decide +kernel
theorem d_M_singsNote_163 : decode Y_M_singsNote.2.1 163 = .ok (.aload_n 0, 1) := by decide +kernel
theorem d_M_singsNote_164 : decode Y_M_singsNote.2.1 164 = .ok (.bipush 100, 2) := by decide +kernel
theorem d_M_singsNote_166 : decode Y_M_singsNote.2.1 166 = .ok (.sipush (-20000), 3) := by decide +kernel
theorem d_M_singsNote_169 : decode Y_M_singsNote.2.1 169 = .ok (.sipush 20000, 3) := by decide +kernel
theorem d_M_singsNote_172 : decode Y_M_singsNote.2.1 172 = .ok (.invokevirtual 487, 3) := by decide +kernel
theorem d_M_singsNote_175 : decode Y_M_singsNote.2.1 175 = .ok (.istore 8, 2) := by decide +kernel
theorem d_M_singsNote_177 : decode Y_M_singsNote.2.1 177 = .ok (.aload_n 0, 1) := by decide +kernel
theorem d_M_singsNote_178 : decode Y_M_singsNote.2.1 178 = .ok (.dup, 1) := by decide +kernel
theorem d_M_singsNote_179 : decode Y_M_singsNote.2.1 179 = .ok (.getfield 490, 3) := by decide +kernel
theorem d_M_singsNote_182 : decode Y_M_singsNote.2.1 182 = .ok (.iload 8, 2) := by decide +kernel
theorem d_M_singsNote_184 : decode Y_M_singsNote.2.1 184 = .ok (.i2l, 1) := by decide +kernel
theorem d_M_singsNote_185 : decode Y_M_singsNote.2.1 185 = .ok (.ladd, 1) := by decide +kernel
theorem d_M_singsNote_186 : decode Y_M_singsNote.2.1 186 = .ok (.putfield 490, 3) := by decide +kernel
theorem d_M_singsNote_189 : decode Y_M_singsNote.2.1 189 = .ok (.aload_n 0, 1) := by decide +kernel
theorem d_M_singsNote_190 : decode Y_M_singsNote.2.1 190 = .ok (.iload_n 1, 1) := by decide +kernel
theorem d_M_singsNote_191 : decode Y_M_singsNote.2.1 191 = .ok (.iload_n 2, 1) := by decide +kernel
theorem d_M_singsNote_192 : decode Y_M_singsNote.2.1 192 = .ok (.iload 4, 2) := by decide +kernel
theorem d_M_singsNote_194 : decode Y_M_singsNote.2.1 194 = .ok (.i2l, 1) := by decide +kernel
theorem d_M_singsNote_195 : decode Y_M_singsNote.2.1 195 = .ok (.iload 5, 2) := by decide +kernel
theorem d_M_singsNote_197 : decode Y_M_singsNote.2.1 197 = .ok (.i2l, 1) := by decide +kernel
theorem d_M_singsNote_198 : decode Y_M_singsNote.2.1 198 = .ok (.iload 6, 2) := by decide +kernel
theorem d_M_singsNote_200 : decode Y_M_singsNote.2.1 200 = .ok (.i2l, 1) := by decide +kernel
theorem d_M_singsNote_201 : decode Y_M_singsNote.2.1 201 = .ok (.aload_n 0, 1) := by decide +kernel
theorem d_M_singsNote_202 : decode Y_M_singsNote.2.1 202 = .ok (.getfield 113, 3) := by decide +kernel
theorem d_M_singsNote_205 : decode Y_M_singsNote.2.1 205 = .ok (.iload_n 1, 1) := by decide +kernel
theorem d_M_singsNote_206 : decode Y_M_singsNote.2.1 206 = .ok (.iaload, 1) := by decide +kernel
theorem d_M_singsNote_207 : decode Y_M_singsNote.2.1 207 = .ok (.iconst 1, 1) := by decide +kernel
theorem d_M_singsNote_208 : decode Y_M_singsNote.2.1 208 = .ok (.if_icmp .ne 9, 3) := by decide +kernel
theorem d_M_singsNote_211 : decode Y_M_singsNote.2.1 211 = .ok (.iload 7, 2) := by decide +kernel
theorem d_M_singsNote_213 : decode Y_M_singsNote.2.1 213 = .ok (.i2l, 1) := by decide +kernel
theorem d_M_singsNote_214 : decode Y_M_singsNote.2.1 214 = .ok (.goto 4, 3) := by decide +kernel
theorem d_M_singsNote_217 : decode Y_M_singsNote.2.1 217 = .ok (.lconst 0, 1) := by decide +kernel
theorem d_M_singsNote_218 : decode Y_M_singsNote.2.1 218 = .ok (.invokevirtual 493, 3) := by decide +kernel
theorem d_M_singsNote_221 : decode Y_M_singsNote.2.1 221 = .ok (.iload 8, 2) := by decide +kernel
theorem d_M_singsNote_223 : decode Y_M_singsNote.2.1 223 = .ok (.i2l, 1) := by decide +kernel
theorem d_M_singsNote_224 : decode Y_M_singsNote.2.1 224 = .ok (.ladd, 1) := by decide +kernel
theorem d_M_singsNote_225 : decode Y_M_singsNote.2.1 225 = .ok (.l2i, 1) := by decide +kernel
theorem d_M_singsNote_226 : decode Y_M_singsNote.2.1 226 = .ok (.istore 9, 2) := by decide +kernel
theorem d_M_singsNote_228 : decode Y_M_singsNote.2.1 228 = .ok (.aload_n 0, 1) := by decide +kernel
theorem d_M_singsNote_229 : decode Y_M_singsNote.2.1 229 = .ok (.getfield 116, 3) := by decide +kernel
theorem d_M_singsNote_232 : decode Y_M_singsNote.2.1 232 = .ok (.bipush 24, 2) := by decide +kernel
theorem d_M_singsNote_234 : decode Y_M_singsNote.2.1 234 = .ok (.iload_n 1, 1) := by decide +kernel
theorem d_M_singsNote_235 : decode Y_M_singsNote.2.1 235 = .ok (.imul, 1) := by decide +kernel
theorem d_M_singsNote_236 : decode Y_M_singsNote.2.1 236 = .ok (.iload_n 2, 1) := by decide +kernel
theorem d_M_singsNote_237 : decode Y_M_singsNote.2.1 237 = .ok (.iadd, 1) := by decide +kernel
theorem d_M_singsNote_238 : decode Y_M_singsNote.2.1 238 = .ok (.iload 9, 2) := by decide +kernel
theorem d_M_singsNote_240 : decode Y_M_singsNote.2.1 240 = .ok (.iastore, 1) := by decide +kernel
theorem d_M_singsNote_241 : decode Y_M_singsNote.2.1 241 = .ok (.aload_n 0, 1) := by decide +kernel
theorem d_M_singsNote_242 : decode Y_M_singsNote.2.1 242 = .ok (.getfield 119, 3) := by decide +kernel
theorem d_M_singsNote_245 : decode Y_M_singsNote.2.1 245 = .ok (.iload_n 1, 1) := by decide +kernel
theorem d_M_singsNote_246 : decode Y_M_singsNote.2.1 246 = .ok (.iload 9, 2) := by decide +kernel
theorem d_M_singsNote_248 : decode Y_M_singsNote.2.1 248 = .ok (.iastore, 1) := by decide +kernel
theorem d_M_singsNote_249 : decode Y_M_singsNote.2.1 249 = .ok (.aload_n 0, 1) := by decide +kernel
theorem d_M_singsNote_250 : decode Y_M_singsNote.2.1 250 = .ok (.getfield 122, 3) := by decide +kernel
theorem d_M_singsNote_253 : decode Y_M_singsNote.2.1 253 = .ok (.iload_n 1, 1) := by decide +kernel
theorem d_M_singsNote_254 : decode Y_M_singsNote.2.1 254 = .ok (.iload_n 2, 1) := by decide +kernel
theorem d_M_singsNote_255 : decode Y_M_singsNote.2.1 255 = .ok (.iastore, 1) := by decide +kernel
theorem d_M_singsNote_256 : decode Y_M_singsNote.2.1 256 = .ok (.return_, 1) := by decide +kernel
theorem d_M_isSung_0 : decode Y_M_isSung.2.1 0 = .ok (.aload_n 0, 1) := by decide +kernel
theorem d_M_isSung_1 : decode Y_M_isSung.2.1 1 = .ok (.aload_n 0, 1) := by decide +kernel
theorem d_M_isSung_2 : decode Y_M_isSung.2.1 2 = .ok (.getfield 52, 3) := by decide +kernel
theorem d_M_isSung_5 : decode Y_M_isSung.2.1 5 = .ok (.putfield 450, 3) := by decide +kernel
theorem d_M_isSung_8 : decode Y_M_isSung.2.1 8 = .ok (.aload_n 0, 1) := by decide +kernel
theorem d_M_isSung_9 : decode Y_M_isSung.2.1 9 = .ok (.lconst 0, 1) := by decide +kernel
theorem d_M_isSung_10 : decode Y_M_isSung.2.1 10 = .ok (.putfield 490, 3) := by decide +kernel
theorem d_M_isSung_13 : decode Y_M_isSung.2.1 13 = .ok (.aload_n 0, 1) := by decide +kernel
theorem d_M_isSung_14 : decode Y_M_isSung.2.1 14 = .ok (.getfield 297, 3) := by decide +kernel
theorem d_M_isSung_17 : decode Y_M_isSung.2.1 17 = .ok (.istore_n 1, 1) := by decide +kernel
theorem d_M_isSung_18 : decode Y_M_isSung.2.1 18 = .ok (.iconst 0, 1) := by decide +kernel
theorem d_M_isSung_19 : decode Y_M_isSung.2.1 19 = .ok (.istore_n 2, 1) := by decide +kernel
theorem d_M_isSung_20 : decode Y_M_isSung.2.1 20 = .ok (.iload_n 2, 1) := by decide +kernel
theorem d_M_isSung_21 : decode Y_M_isSung.2.1 21 = .ok (.aload_n 0, 1) := by decide +kernel
theorem d_M_isSung_22 : decode Y_M_isSung.2.1 22 = .ok (.getfield 275, 3) := by decide +kernel
theorem d_M_isSung_25 : decode Y_M_isSung.2.1 25 = .ok (.if_icmp .ge 16, 3) := by decide +kernel
theorem d_M_isSung_28 : decode Y_M_isSung.2.1 28 = .ok (.aload_n 0, 1) := by decide +kernel
theorem d_M_isSung_29 : decode Y_M_isSung.2.1 29 = .ok (.getfield 122, 3) := by decide +kernel
theorem d_M_isSung_32 : decode Y_M_isSung.2.1 32 = .ok (.iload_n 2, 1) := by decide +kernel
theorem d_M_isSung_33 : decode Y_M_isSung.2.1 33 = .ok (.iconst (-1), 1) := by decide +kernel
theorem d_M_isSung_34 : decode Y_M_isSung.2.1 34 = .ok (.iastore, 1) := by decide +kernel
theorem d_M_isSung_35 : decode Y_M_isSung.2.1 35 = .ok (.iinc 2 1, 3) := by decide +kernel
theorem d_M_isSung_38 : decode Y_M_isSung.2.1 38 = .ok (.goto (-18), 3) := by decide +kernel
theorem d_M_isSung_41 : decode Y_M_isSung.2.1 41 = .ok (.iconst 0, 1) := by decide +kernel
theorem d_M_isSung_42 : decode Y_M_isSung.2.1 42 = .ok (.istore_n 2, 1) := by decide +kernel
theorem d_M_isSung_43 : decode Y_M_isSung.2.1 43 = .ok (.iload_n 2, 1) := by decide +kernel
theorem d_M_isSung_44 : decode Y_M_isSung.2.1 44 = .ok (.bipush 24, 2) := by decide +kernel
theorem d_M_isSung_46 : decode Y_M_isSung.2.1 46 = .ok (.if_icmp .ge 107, 3) := by decide +kernel
theorem d_M_isSung_49 : decode Y_M_isSung.2.1 49 = .ok (.aload_n 0, 1) := by decide +kernel
theorem d_M_isSung_50 : decode Y_M_isSung.2.1 50 = .ok (.getfield 497, 3) := by decide +kernel
theorem d_M_isSung_53 : decode Y_M_isSung.2.1 53 = .ok (.iload_n 2, 1) := by decide +kernel
theorem d_M_isSung_54 : decode Y_M_isSung.2.1 54 = .ok (.invokestatic 500, 3) := by decide +kernel
theorem d_M_isSung_57 : decode Y_M_isSung.2.1 57 = .ok (.ifCond .eq 52, 3) := by decide +kernel
theorem d_M_isSung_60 : decode Y_M_isSung.2.1 60 = .ok (.iconst 0, 1) := by decide +kernel
theorem d_M_isSung_61 : decode Y_M_isSung.2.1 61 = .ok (.istore_n 1, 1) := by decide +kernel
theorem d_M_isSung_62 : decode Y_M_isSung.2.1 62 = .ok (.iconst 0, 1) := by decide +kernel
theorem d_M_isSung_63 : decode Y_M_isSung.2.1 63 = .ok (.istore_n 3, 1) := by decide +kernel
theorem d_M_isSung_64 : decode Y_M_isSung.2.1 64 = .ok (.iload_n 3, 1) := by decide +kernel
theorem d_M_isSung_65 : decode Y_M_isSung.2.1 65 = .ok (.aload_n 0, 1) := by decide +kernel
theorem d_M_isSung_66 : decode Y_M_isSung.2.1 66 = .ok (.getfield 275, 3) := by decide +kernel
theorem d_M_isSung_69 : decode Y_M_isSung.2.1 69 = .ok (.if_icmp .ge 40, 3) := by decide +kernel
theorem d_M_isSung_72 : decode Y_M_isSung.2.1 72 = .ok (.aload_n 0, 1) := by decide +kernel
theorem d_M_isSung_73 : decode Y_M_isSung.2.1 73 = .ok (.getfield 122, 3) := by decide +kernel
theorem d_M_isSung_76 : decode Y_M_isSung.2.1 76 = .ok (.iload_n 3, 1) := by decide +kernel
theorem d_M_isSung_77 : decode Y_M_isSung.2.1 77 = .ok (.iaload, 1) := by decide +kernel
theorem d_M_isSung_78 : decode Y_M_isSung.2.1 78 = .ok (.iconst (-1), 1) := by decide +kernel
theorem d_M_isSung_79 : decode Y_M_isSung.2.1 79 = .ok (.if_icmp .eq 24, 3) := by decide +kernel
theorem d_M_isSung_82 : decode Y_M_isSung.2.1 82 = .ok (.aload_n 0, 1) := by decide +kernel
theorem d_M_isSung_83 : decode Y_M_isSung.2.1 83 = .ok (.getfield 119, 3) := by decide +kernel
theorem d_M_isSung_86 : decode Y_M_isSung.2.1 86 = .ok (.iload_n 3, 1) := by decide +kernel
theorem d_M_isSung_87 : decode Y_M_isSung.2.1 87 = .ok (.aload_n 0, 1) := by decide +kernel
theorem d_M_isSung_88 : decode Y_M_isSung.2.1 88 = .ok (.aload_n 0, 1) := by decide +kernel
theorem d_M_isSung_89 : decode Y_M_isSung.2.1 89 = .ok (.iload_n 3, 1) := by decide +kernel
theorem d_M_isSung_90 : decode Y_M_isSung.2.1 90 = .ok (.aload_n 0, 1) := by decide +kernel
theorem d_M_isSung_91 : decode Y_M_isSung.2.1 91 = .ok (.getfield 122, 3) := by decide +kernel
theorem d_M_isSung_94 : decode Y_M_isSung.2.1 94 = .ok (.iload_n 3, 1) := by decide +kernel
theorem d_M_isSung_95 : decode Y_M_isSung.2.1 95 = .ok (.iaload, 1) := by decide +kernel
theorem d_M_isSung_96 : decode Y_M_isSung.2.1 96 = .ok (.invokevirtual 432, 3) := by decide +kernel
theorem d_M_isSung_99 : decode Y_M_isSung.2.1 99 = .ok (.invokevirtual 441, 3) := by decide +kernel
theorem d_M_isSung_102 : decode Y_M_isSung.2.1 102 = .ok (.iastore, 1) := by decide +kernel
theorem d_M_isSung_103 : decode Y_M_isSung.2.1 103 = .ok (.iinc 3 1, 3) := by decide +kernel
theorem d_M_isSung_106 : decode Y_M_isSung.2.1 106 = .ok (.goto (-42), 3) := by decide +kernel
theorem d_M_isSung_109 : decode Y_M_isSung.2.1 109 = .ok (.aload_n 0, 1) := by decide +kernel
theorem d_M_isSung_110 : decode Y_M_isSung.2.1 110 = .ok (.getfield 125, 3) := by decide +kernel
theorem d_M_isSung_113 : decode Y_M_isSung.2.1 113 = .ok (.iload_n 2, 1) := by decide +kernel
theorem d_M_isSung_114 : decode Y_M_isSung.2.1 114 = .ok (.iload_n 1, 1) := by decide +kernel
theorem d_M_isSung_115 : decode Y_M_isSung.2.1 115 = .ok (.iastore, 1) := by decide +kernel
theorem d_M_isSung_116 : decode Y_M_isSung.2.1 116 = .ok (.iconst 0, 1) := by decide +kernel
theorem d_M_isSung_117 : decode Y_M_isSung.2.1 117 = .ok (.istore_n 3, 1) := by decide +kernel
theorem d_M_isSung_118 : decode Y_M_isSung.2.1 118 = .ok (.iload_n 3, 1) := by decide +kernel
theorem d_M_isSung_119 : decode Y_M_isSung.2.1 119 = .ok (.aload_n 0, 1) := by decide +kernel
theorem d_M_isSung_120 : decode Y_M_isSung.2.1 120 = .ok (.getfield 275, 3) := by decide +kernel
theorem d_M_isSung_123 : decode Y_M_isSung.2.1 123 = .ok (.if_icmp .ge 24, 3) := by decide +kernel
theorem d_M_isSung_126 : decode Y_M_isSung.2.1 126 = .ok (.aload_n 0, 1) := by decide +kernel
theorem d_M_isSung_127 : decode Y_M_isSung.2.1 127 = .ok (.iload_n 3, 1) := by decide +kernel
theorem d_M_isSung_128 : decode Y_M_isSung.2.1 128 = .ok (.iload_n 2, 1) := by decide +kernel
theorem d_M_isSung_129 : decode Y_M_isSung.2.1 129 = .ok (.invokevirtual 423, 3) := by decide +kernel
theorem d_M_isSung_132 : decode Y_M_isSung.2.1 132 = .ok (.ifCond .eq 9, 3) := by decide +kernel
theorem d_M_isSung_135 : decode Y_M_isSung.2.1 135 = .ok (.aload_n 0, 1) := by decide +kernel
theorem d_M_isSung_136 : decode Y_M_isSung.2.1 136 = .ok (.iload_n 3, 1) := by decide +kernel
theorem d_M_isSung_137 : decode Y_M_isSung.2.1 137 = .ok (.iload_n 2, 1) := by decide +kernel
theorem d_M_isSung_138 : decode Y_M_isSung.2.1 138 = .ok (.invokevirtual 503, 3) := by decide +kernel
theorem d_M_isSung_141 : decode Y_M_isSung.2.1 141 = .ok (.iinc 3 1, 3) := by decide +kernel
theorem d_M_isSung_144 : decode Y_M_isSung.2.1 144 = .ok (.goto (-26), 3) := by decide +kernel
theorem d_M_isSung_147 : decode Y_M_isSung.2.1 147 = .ok (.iinc 2 1, 3) := by decide +kernel
theorem d_M_isSung_150 : decode Y_M_isSung.2.1 150 = .ok (.goto (-107), 3) := by decide +kernel
theorem d_M_isSung_153 : decode Y_M_isSung.2.1 153 = .ok (.return_, 1) := by decide +kernel
theorem d_M_plainly_0 : decode Y_M_plainly.2.1 0 = .ok (.aload_n 0, 1) := by decide +kernel
theorem d_M_plainly_1 : decode Y_M_plainly.2.1 1 = .ok (.invokevirtual 506, 3) := by decide +kernel
theorem d_M_plainly_4 : decode Y_M_plainly.2.1 4 = .ok (.aload_n 0, 1) := by decide +kernel
theorem d_M_plainly_5 : decode Y_M_plainly.2.1 5 = .ok (.invokevirtual 509, 3) := by decide +kernel
theorem d_M_plainly_8 : decode Y_M_plainly.2.1 8 = .ok (.return_, 1) := by decide +kernel
theorem d_M_pitch_0 : decode Y_M_pitch.2.1 0 = .ok (.aload_n 0, 1) := by decide +kernel
theorem d_M_pitch_1 : decode Y_M_pitch.2.1 1 = .ok (.iload_n 1, 1) := by decide +kernel
theorem d_M_pitch_2 : decode Y_M_pitch.2.1 2 = .ok (.invokevirtual 282, 3) := by decide +kernel
theorem d_M_pitch_5 : decode Y_M_pitch.2.1 5 = .ok (.ifCond .eq 19, 3) := by decide +kernel
theorem d_M_pitch_8 : decode Y_M_pitch.2.1 8 = .ok (.iload_n 2, 1) := by decide +kernel
theorem d_M_pitch_9 : decode Y_M_pitch.2.1 9 = .ok (.invokestatic 155, 3) := by decide +kernel
theorem d_M_pitch_12 : decode Y_M_pitch.2.1 12 = .ok (.ifCond .eq 12, 3) := by decide +kernel
theorem d_M_pitch_15 : decode Y_M_pitch.2.1 15 = .ok (.aload_n 0, 1) := by decide +kernel
theorem d_M_pitch_16 : decode Y_M_pitch.2.1 16 = .ok (.iload_n 1, 1) := by decide +kernel
theorem d_M_pitch_17 : decode Y_M_pitch.2.1 17 = .ok (.iload_n 2, 1) := by decide +kernel
theorem d_M_pitch_18 : decode Y_M_pitch.2.1 18 = .ok (.invokevirtual 423, 3) := by decide +kernel
theorem d_M_pitch_21 : decode Y_M_pitch.2.1 21 = .ok (.ifCond .ne 6, 3) := by decide +kernel
theorem d_M_pitch_24 : decode Y_M_pitch.2.1 24 = .ok (.ldc 192, 2) := by decide +kernel
theorem d_M_pitch_26 : decode Y_M_pitch.2.1 26 = .ok (.ireturn, 1) := by decide +kernel
theorem d_M_pitch_27 : decode Y_M_pitch.2.1 27 = .ok (.aload_n 0, 1) := by decide +kernel
theorem d_M_pitch_28 : decode Y_M_pitch.2.1 28 = .ok (.invokevirtual 525, 3) := by decide +kernel
theorem d_M_pitch_31 : decode Y_M_pitch.2.1 31 = .ok (.aload_n 0, 1) := by decide +kernel
theorem d_M_pitch_32 : decode Y_M_pitch.2.1 32 = .ok (.getfield 116, 3) := by decide +kernel
theorem d_M_pitch_35 : decode Y_M_pitch.2.1 35 = .ok (.bipush 24, 2) := by decide +kernel
theorem d_M_pitch_37 : decode Y_M_pitch.2.1 37 = .ok (.iload_n 1, 1) := by decide +kernel
theorem d_M_pitch_38 : decode Y_M_pitch.2.1 38 = .ok (.imul, 1) := by decide +kernel
theorem d_M_pitch_39 : decode Y_M_pitch.2.1 39 = .ok (.iload_n 2, 1) := by decide +kernel
theorem d_M_pitch_40 : decode Y_M_pitch.2.1 40 = .ok (.iadd, 1) := by decide +kernel
theorem d_M_pitch_41 : decode Y_M_pitch.2.1 41 = .ok (.iaload, 1) := by decide +kernel
theorem d_M_pitch_42 : decode Y_M_pitch.2.1 42 = .ok (.ireturn, 1) := by decide +kernel
theorem d_Si_off_0 : decode Y_Si_off.2.1 0 = .ok (.lconst 0, 1) := by decide +kernel
theorem d_Si_off_1 : decode Y_Si_off.2.1 1 = .ok (.lstore_n 2, 1) := by decide +kernel
theorem d_Si_off_2 : decode Y_Si_off.2.1 2 = .ok (.lconst 0, 1) := by decide +kernel
theorem d_Si_off_3 : decode Y_Si_off.2.1 3 = .ok (.lstore 4, 2) := by decide +kernel
theorem d_Si_off_5 : decode Y_Si_off.2.1 5 = .ok (.iconst 0, 1) := by decide +kernel
theorem d_Si_off_6 : decode Y_Si_off.2.1 6 = .ok (.istore 6, 2) := by decide +kernel
theorem d_Si_off_8 : decode Y_Si_off.2.1 8 = .ok (.iload 6, 2) := by decide +kernel
theorem d_Si_off_10 : decode Y_Si_off.2.1 10 = .ok (.aload_n 0, 1) := by decide +kernel
theorem d_Si_off_11 : decode Y_Si_off.2.1 11 = .ok (.getfield 46, 3) := by decide +kernel
theorem d_Si_off_14 : decode Y_Si_off.2.1 14 = .ok (.getfield 91, 3) := by decide +kernel
theorem d_Si_off_17 : decode Y_Si_off.2.1 17 = .ok (.if_icmp .ge 46, 3) := by decide +kernel
theorem d_Si_off_20 : decode Y_Si_off.2.1 20 = .ok (.aload_n 0, 1) := by decide +kernel
theorem d_Si_off_21 : decode Y_Si_off.2.1 21 = .ok (.getfield 46, 3) := by decide +kernel
theorem d_Si_off_24 : decode Y_Si_off.2.1 24 = .ok (.iload 6, 2) := by decide +kernel
theorem d_Si_off_26 : decode Y_Si_off.2.1 26 = .ok (.iload_n 1, 1) := by decide +kernel
theorem d_Si_off_27 : decode Y_Si_off.2.1 27 = .ok (.invokevirtual 94, 3) := by decide +kernel
theorem d_Si_off_30 : decode Y_Si_off.2.1 30 = .ok (.ifCond .eq 27, 3) := by decide +kernel
theorem d_Si_off_33 : decode Y_Si_off.2.1 33 = .ok (.lload_n 2, 1) := by decide +kernel
theorem d_Si_off_34 : decode Y_Si_off.2.1 34 = .ok (.aload_n 0, 1) := by decide +kernel
theorem d_Si_off_35 : decode Y_Si_off.2.1 35 = .ok (.iload 6, 2) := by decide +kernel
theorem d_Si_off_37 : decode Y_Si_off.2.1 37 = .ok (.iload_n 1, 1) := by decide +kernel
theorem d_Si_off_38 : decode Y_Si_off.2.1 38 = .ok (.invokevirtual 189, 3) := by decide +kernel
theorem d_Si_off_41 : decode Y_Si_off.2.1 41 = .ok (.aload_n 0, 1) := by decide +kernel
theorem d_Si_off_42 : decode Y_Si_off.2.1 42 = .ok (.iload 6, 2) := by decide +kernel
theorem d_Si_off_44 : decode Y_Si_off.2.1 44 = .ok (.iload_n 1, 1) := by decide +kernel
theorem d_Si_off_45 : decode Y_Si_off.2.1 45 = .ok (.invokevirtual 106, 3) := by decide +kernel
theorem d_Si_off_48 : decode Y_Si_off.2.1 48 = .ok (.lsub, 1) := by decide +kernel
theorem d_Si_off_49 : decode Y_Si_off.2.1 49 = .ok (.ladd, 1) := by decide +kernel
theorem d_Si_off_50 : decode Y_Si_off.2.1 50 = .ok (.lstore_n 2, 1) := by decide +kernel
theorem d_Si_off_51 : decode Y_Si_off.2.1 51 = .ok (.lload 4, 2) := by decide +kernel
theorem d_Si_off_53 : decode Y_Si_off.2.1 53 = .ok (.lconst 1, 1) := by decide +kernel
theorem d_Si_off_54 : decode Y_Si_off.2.1 54 = .ok (.ladd, 1) := by decide +kernel
theorem d_Si_off_55 : decode Y_Si_off.2.1 55 = .ok (.lstore 4, 2) := by decide +kernel
theorem d_Si_off_57 : decode Y_Si_off.2.1 57 = .ok (.iinc 6 1, 3) := by decide +kernel
theorem d_Si_off_60 : decode Y_Si_off.2.1 60 = .ok (.goto (-52), 3) := by decide +kernel
theorem d_Si_off_63 : decode Y_Si_off.2.1 63 = .ok (.lload 4, 2) := by decide +kernel
theorem d_Si_off_65 : decode Y_Si_off.2.1 65 = .ok (.lconst 0, 1) := by decide +kernel
theorem d_Si_off_66 : decode Y_Si_off.2.1 66 = .ok (.lcmp, 1) := by decide +kernel
theorem d_Si_off_67 : decode Y_Si_off.2.1 67 = .ok (.ifCond .le 12, 3) := by decide +kernel
theorem d_Si_off_70 : decode Y_Si_off.2.1 70 = .ok (.lload_n 2, 1) := by decide +kernel
theorem d_Si_off_71 : decode Y_Si_off.2.1 71 = .ok (.lload 4, 2) := by decide +kernel
theorem d_Si_off_73 : decode Y_Si_off.2.1 73 = .ok (.invokestatic 164, 3) := by decide +kernel
theorem d_Si_off_76 : decode Y_Si_off.2.1 76 = .ok (.goto 4, 3) := by decide +kernel
theorem d_Si_off_79 : decode Y_Si_off.2.1 79 = .ok (.lconst 0, 1) := by decide +kernel
theorem d_Si_off_80 : decode Y_Si_off.2.1 80 = .ok (.lreturn, 1) := by decide +kernel
theorem d_Mt_abs_J_0 : decode Y_Mt_abs_J.2.1 0 = .ok (.lload_n 0, 1) := by decide +kernel
theorem d_Mt_abs_J_1 : decode Y_Mt_abs_J.2.1 1 = .ok (.lconst 0, 1) := by decide +kernel
theorem d_Mt_abs_J_2 : decode Y_Mt_abs_J.2.1 2 = .ok (.lcmp, 1) := by decide +kernel
theorem d_Mt_abs_J_3 : decode Y_Mt_abs_J.2.1 3 = .ok (.ifCond .ge 8, 3) := by decide +kernel
theorem d_Mt_abs_J_6 : decode Y_Mt_abs_J.2.1 6 = .ok (.lload_n 0, 1) := by decide +kernel
theorem d_Mt_abs_J_7 : decode Y_Mt_abs_J.2.1 7 = .ok (.lneg, 1) := by decide +kernel
theorem d_Mt_abs_J_8 : decode Y_Mt_abs_J.2.1 8 = .ok (.goto 4, 3) := by decide +kernel
theorem d_Mt_abs_J_11 : decode Y_Mt_abs_J.2.1 11 = .ok (.lload_n 0, 1) := by decide +kernel
theorem d_Mt_abs_J_12 : decode Y_Mt_abs_J.2.1 12 = .ok (.lreturn, 1) := by decide +kernel
theorem d_Si_foul_0 : decode Y_Si_foul.2.1 0 = .ok (.lconst 0, 1) := by decide +kernel
theorem d_Si_foul_1 : decode Y_Si_foul.2.1 1 = .ok (.lstore_n 2, 1) := by decide +kernel
theorem d_Si_foul_2 : decode Y_Si_foul.2.1 2 = .ok (.iconst 0, 1) := by decide +kernel
theorem d_Si_foul_3 : decode Y_Si_foul.2.1 3 = .ok (.istore 4, 2) := by decide +kernel
theorem d_Si_foul_5 : decode Y_Si_foul.2.1 5 = .ok (.iload 4, 2) := by decide +kernel
theorem d_Si_foul_7 : decode Y_Si_foul.2.1 7 = .ok (.aload_n 0, 1) := by decide +kernel
theorem d_Si_foul_8 : decode Y_Si_foul.2.1 8 = .ok (.getfield 46, 3) := by decide +kernel
theorem d_Si_foul_11 : decode Y_Si_foul.2.1 11 = .ok (.getfield 91, 3) := by decide +kernel
theorem d_Si_foul_14 : decode Y_Si_foul.2.1 14 = .ok (.if_icmp .ge 92, 3) := by decide +kernel
theorem d_Si_foul_17 : decode Y_Si_foul.2.1 17 = .ok (.iconst 0, 1) := by decide +kernel
theorem d_Si_foul_18 : decode Y_Si_foul.2.1 18 = .ok (.istore 5, 2) := by decide +kernel
theorem d_Si_foul_20 : decode Y_Si_foul.2.1 20 = .ok (.iload 5, 2) := by decide +kernel
theorem d_Si_foul_22 : decode Y_Si_foul.2.1 22 = .ok (.iload 4, 2) := by decide +kernel
theorem d_Si_foul_24 : decode Y_Si_foul.2.1 24 = .ok (.if_icmp .ge 76, 3) := by decide +kernel
theorem d_Si_foul_27 : decode Y_Si_foul.2.1 27 = .ok (.aload_n 0, 1) := by decide +kernel
theorem d_Si_foul_28 : decode Y_Si_foul.2.1 28 = .ok (.getfield 46, 3) := by decide +kernel
theorem d_Si_foul_31 : decode Y_Si_foul.2.1 31 = .ok (.iload 4, 2) := by decide +kernel
theorem d_Si_foul_33 : decode Y_Si_foul.2.1 33 = .ok (.iload_n 1, 1) := by decide +kernel
theorem d_Si_foul_34 : decode Y_Si_foul.2.1 34 = .ok (.invokevirtual 94, 3) := by decide +kernel
theorem d_Si_foul_37 : decode Y_Si_foul.2.1 37 = .ok (.ifCond .eq 57, 3) := by decide +kernel
theorem d_Si_foul_40 : decode Y_Si_foul.2.1 40 = .ok (.aload_n 0, 1) := by decide +kernel
theorem d_Si_foul_41 : decode Y_Si_foul.2.1 41 = .ok (.getfield 46, 3) := by decide +kernel
theorem d_Si_foul_44 : decode Y_Si_foul.2.1 44 = .ok (.iload 5, 2) := by decide +kernel
theorem d_Si_foul_46 : decode Y_Si_foul.2.1 46 = .ok (.iload_n 1, 1) := by decide +kernel
theorem d_Si_foul_47 : decode Y_Si_foul.2.1 47 = .ok (.invokevirtual 94, 3) := by decide +kernel
theorem d_Si_foul_50 : decode Y_Si_foul.2.1 50 = .ok (.ifCond .eq 44, 3) := by decide +kernel
theorem d_Si_foul_53 : decode Y_Si_foul.2.1 53 = .ok (.aload_n 0, 1) := by decide +kernel
theorem d_Si_foul_54 : decode Y_Si_foul.2.1 54 = .ok (.iload 4, 2) := by decide +kernel
theorem d_Si_foul_56 : decode Y_Si_foul.2.1 56 = .ok (.iload_n 1, 1) := by decide +kernel
theorem d_Si_foul_57 : decode Y_Si_foul.2.1 57 = .ok (.invokevirtual 189, 3) := by decide +kernel
theorem d_Si_foul_60 : decode Y_Si_foul.2.1 60 = .ok (.aload_n 0, 1) := by decide +kernel
theorem d_Si_foul_61 : decode Y_Si_foul.2.1 61 = .ok (.iload 5, 2) := by decide +kernel
theorem d_Si_foul_63 : decode Y_Si_foul.2.1 63 = .ok (.iload_n 1, 1) := by decide +kernel
theorem d_Si_foul_64 : decode Y_Si_foul.2.1 64 = .ok (.invokevirtual 189, 3) := by decide +kernel
theorem d_Si_foul_67 : decode Y_Si_foul.2.1 67 = .ok (.lsub, 1) := by decide +kernel
theorem d_Si_foul_68 : decode Y_Si_foul.2.1 68 = .ok (.lstore 6, 2) := by decide +kernel
theorem d_Si_foul_70 : decode Y_Si_foul.2.1 70 = .ok (.lload_n 2, 1) := by decide +kernel
theorem d_Si_foul_71 : decode Y_Si_foul.2.1 71 = .ok (.lload 6, 2) := by decide +kernel
theorem d_Si_foul_73 : decode Y_Si_foul.2.1 73 = .ok (.aload_n 0, 1) := by decide +kernel
theorem d_Si_foul_74 : decode Y_Si_foul.2.1 74 = .ok (.iload 4, 2) := by decide +kernel
theorem d_Si_foul_76 : decode Y_Si_foul.2.1 76 = .ok (.iload_n 1, 1) := by decide +kernel
theorem d_Si_foul_77 : decode Y_Si_foul.2.1 77 = .ok (.invokevirtual 183, 3) := by decide +kernel
theorem d_Si_foul_80 : decode Y_Si_foul.2.1 80 = .ok (.aload_n 0, 1) := by decide +kernel
theorem d_Si_foul_81 : decode Y_Si_foul.2.1 81 = .ok (.iload 5, 2) := by decide +kernel
theorem d_Si_foul_83 : decode Y_Si_foul.2.1 83 = .ok (.iload_n 1, 1) := by decide +kernel
theorem d_Si_foul_84 : decode Y_Si_foul.2.1 84 = .ok (.invokevirtual 183, 3) := by decide +kernel
theorem d_Si_foul_87 : decode Y_Si_foul.2.1 87 = .ok (.lsub, 1) := by decide +kernel
theorem d_Si_foul_88 : decode Y_Si_foul.2.1 88 = .ok (.lsub, 1) := by decide +kernel
theorem d_Si_foul_89 : decode Y_Si_foul.2.1 89 = .ok (.invokestatic 192, 3) := by decide +kernel
theorem d_Si_foul_92 : decode Y_Si_foul.2.1 92 = .ok (.ladd, 1) := by decide +kernel
theorem d_Si_foul_93 : decode Y_Si_foul.2.1 93 = .ok (.lstore_n 2, 1) := by decide +kernel
theorem d_Si_foul_94 : decode Y_Si_foul.2.1 94 = .ok (.iinc 5 1, 3) := by decide +kernel
theorem d_Si_foul_97 : decode Y_Si_foul.2.1 97 = .ok (.goto (-77), 3) := by decide +kernel
theorem d_Si_foul_100 : decode Y_Si_foul.2.1 100 = .ok (.iinc 4 1, 3) := by decide +kernel
theorem d_Si_foul_103 : decode Y_Si_foul.2.1 103 = .ok (.goto (-98), 3) := by decide +kernel
theorem d_Si_foul_106 : decode Y_Si_foul.2.1 106 = .ok (.lload_n 2, 1) := by decide +kernel
theorem d_Si_foul_107 : decode Y_Si_foul.2.1 107 = .ok (.lreturn, 1) := by decide +kernel
theorem d_Ch_above_0 : decode Y_Ch_above.2.1 0 = .ok (.iload_n 1, 1) := by decide +kernel
theorem d_Ch_above_1 : decode Y_Ch_above.2.1 1 = .ok (.iload_n 2, 1) := by decide +kernel
theorem d_Ch_above_2 : decode Y_Ch_above.2.1 2 = .ok (.invokestatic 84, 3) := by decide +kernel
theorem d_Ch_above_5 : decode Y_Ch_above.2.1 5 = .ok (.istore_n 3, 1) := by decide +kernel
theorem d_Ch_above_6 : decode Y_Ch_above.2.1 6 = .ok (.aload_n 0, 1) := by decide +kernel
theorem d_Ch_above_7 : decode Y_Ch_above.2.1 7 = .ok (.aload_n 0, 1) := by decide +kernel
theorem d_Ch_above_8 : decode Y_Ch_above.2.1 8 = .ok (.getfield 33, 3) := by decide +kernel
theorem d_Ch_above_11 : decode Y_Ch_above.2.1 11 = .ok (.getfield 87, 3) := by decide +kernel
theorem d_Ch_above_14 : decode Y_Ch_above.2.1 14 = .ok (.iload_n 3, 1) := by decide +kernel
theorem d_Ch_above_15 : decode Y_Ch_above.2.1 15 = .ok (.iaload, 1) := by decide +kernel
theorem d_Ch_above_16 : decode Y_Ch_above.2.1 16 = .ok (.iconst 0, 1) := by decide +kernel
theorem d_Ch_above_17 : decode Y_Ch_above.2.1 17 = .ok (.invokevirtual 90, 3) := by decide +kernel
theorem d_Ch_above_20 : decode Y_Ch_above.2.1 20 = .ok (.aload_n 0, 1) := by decide +kernel
theorem d_Ch_above_21 : decode Y_Ch_above.2.1 21 = .ok (.getfield 33, 3) := by decide +kernel
theorem d_Ch_above_24 : decode Y_Ch_above.2.1 24 = .ok (.getfield 93, 3) := by decide +kernel
theorem d_Ch_above_27 : decode Y_Ch_above.2.1 27 = .ok (.iload_n 3, 1) := by decide +kernel
theorem d_Ch_above_28 : decode Y_Ch_above.2.1 28 = .ok (.iaload, 1) := by decide +kernel
theorem d_Ch_above_29 : decode Y_Ch_above.2.1 29 = .ok (.isub, 1) := by decide +kernel
theorem d_Ch_above_30 : decode Y_Ch_above.2.1 30 = .ok (.ireturn, 1) := by decide +kernel
theorem d_Ch_tableFoul_0 : decode Y_Ch_tableFoul.2.1 0 = .ok (.lconst 0, 1) := by decide +kernel
theorem d_Ch_tableFoul_1 : decode Y_Ch_tableFoul.2.1 1 = .ok (.lstore_n 2, 1) := by decide +kernel
theorem d_Ch_tableFoul_2 : decode Y_Ch_tableFoul.2.1 2 = .ok (.iconst 0, 1) := by decide +kernel
theorem d_Ch_tableFoul_3 : decode Y_Ch_tableFoul.2.1 3 = .ok (.istore 4, 2) := by decide +kernel
theorem d_Ch_tableFoul_5 : decode Y_Ch_tableFoul.2.1 5 = .ok (.iload 4, 2) := by decide +kernel
theorem d_Ch_tableFoul_7 : decode Y_Ch_tableFoul.2.1 7 = .ok (.bipush 6, 2) := by decide +kernel
theorem d_Ch_tableFoul_9 : decode Y_Ch_tableFoul.2.1 9 = .ok (.if_icmp .ge 73, 3) := by decide +kernel
theorem d_Ch_tableFoul_12 : decode Y_Ch_tableFoul.2.1 12 = .ok (.iconst 0, 1) := by decide +kernel
theorem d_Ch_tableFoul_13 : decode Y_Ch_tableFoul.2.1 13 = .ok (.istore 5, 2) := by decide +kernel
theorem d_Ch_tableFoul_15 : decode Y_Ch_tableFoul.2.1 15 = .ok (.iload 5, 2) := by decide +kernel
theorem d_Ch_tableFoul_17 : decode Y_Ch_tableFoul.2.1 17 = .ok (.iload 4, 2) := by decide +kernel
theorem d_Ch_tableFoul_19 : decode Y_Ch_tableFoul.2.1 19 = .ok (.if_icmp .ge 57, 3) := by decide +kernel
theorem d_Ch_tableFoul_22 : decode Y_Ch_tableFoul.2.1 22 = .ok (.aload_n 0, 1) := by decide +kernel
theorem d_Ch_tableFoul_23 : decode Y_Ch_tableFoul.2.1 23 = .ok (.getfield 33, 3) := by decide +kernel
theorem d_Ch_tableFoul_26 : decode Y_Ch_tableFoul.2.1 26 = .ok (.iload 4, 2) := by decide +kernel
theorem d_Ch_tableFoul_28 : decode Y_Ch_tableFoul.2.1 28 = .ok (.iload_n 1, 1) := by decide +kernel
theorem d_Ch_tableFoul_29 : decode Y_Ch_tableFoul.2.1 29 = .ok (.invokevirtual 55, 3) := by decide +kernel
theorem d_Ch_tableFoul_32 : decode Y_Ch_tableFoul.2.1 32 = .ok (.ifCond .eq 38, 3) := by decide +kernel
theorem d_Ch_tableFoul_35 : decode Y_Ch_tableFoul.2.1 35 = .ok (.aload_n 0, 1) := by decide +kernel
theorem d_Ch_tableFoul_36 : decode Y_Ch_tableFoul.2.1 36 = .ok (.getfield 33, 3) := by decide +kernel
theorem d_Ch_tableFoul_39 : decode Y_Ch_tableFoul.2.1 39 = .ok (.iload 5, 2) := by decide +kernel
theorem d_Ch_tableFoul_41 : decode Y_Ch_tableFoul.2.1 41 = .ok (.iload_n 1, 1) := by decide +kernel
theorem d_Ch_tableFoul_42 : decode Y_Ch_tableFoul.2.1 42 = .ok (.invokevirtual 55, 3) := by decide +kernel
theorem d_Ch_tableFoul_45 : decode Y_Ch_tableFoul.2.1 45 = .ok (.ifCond .eq 25, 3) := by decide +kernel
theorem d_Ch_tableFoul_48 : decode Y_Ch_tableFoul.2.1 48 = .ok (.lload_n 2, 1) := by decide +kernel
theorem d_Ch_tableFoul_49 : decode Y_Ch_tableFoul.2.1 49 = .ok (.aload_n 0, 1) := by decide +kernel
theorem d_Ch_tableFoul_50 : decode Y_Ch_tableFoul.2.1 50 = .ok (.iload 4, 2) := by decide +kernel
theorem d_Ch_tableFoul_52 : decode Y_Ch_tableFoul.2.1 52 = .ok (.iload_n 1, 1) := by decide +kernel
theorem d_Ch_tableFoul_53 : decode Y_Ch_tableFoul.2.1 53 = .ok (.invokevirtual 81, 3) := by decide +kernel
theorem d_Ch_tableFoul_56 : decode Y_Ch_tableFoul.2.1 56 = .ok (.aload_n 0, 1) := by decide +kernel
theorem d_Ch_tableFoul_57 : decode Y_Ch_tableFoul.2.1 57 = .ok (.iload 5, 2) := by decide +kernel
theorem d_Ch_tableFoul_59 : decode Y_Ch_tableFoul.2.1 59 = .ok (.iload_n 1, 1) := by decide +kernel
theorem d_Ch_tableFoul_60 : decode Y_Ch_tableFoul.2.1 60 = .ok (.invokevirtual 81, 3) := by decide +kernel
theorem d_Ch_tableFoul_63 : decode Y_Ch_tableFoul.2.1 63 = .ok (.isub, 1) := by decide +kernel
theorem d_Ch_tableFoul_64 : decode Y_Ch_tableFoul.2.1 64 = .ok (.invokestatic 72, 3) := by decide +kernel
theorem d_Ch_tableFoul_67 : decode Y_Ch_tableFoul.2.1 67 = .ok (.i2l, 1) := by decide +kernel
theorem d_Ch_tableFoul_68 : decode Y_Ch_tableFoul.2.1 68 = .ok (.ladd, 1) := by decide +kernel
theorem d_Ch_tableFoul_69 : decode Y_Ch_tableFoul.2.1 69 = .ok (.lstore_n 2, 1) := by decide +kernel
theorem d_Ch_tableFoul_70 : decode Y_Ch_tableFoul.2.1 70 = .ok (.iinc 5 1, 3) := by decide +kernel
theorem d_Ch_tableFoul_73 : decode Y_Ch_tableFoul.2.1 73 = .ok (.goto (-58), 3) := by decide +kernel
theorem d_Ch_tableFoul_76 : decode Y_Ch_tableFoul.2.1 76 = .ok (.iinc 4 1, 3) := by decide +kernel
theorem d_Ch_tableFoul_79 : decode Y_Ch_tableFoul.2.1 79 = .ok (.goto (-74), 3) := by decide +kernel
theorem d_Ch_tableFoul_82 : decode Y_Ch_tableFoul.2.1 82 = .ok (.lload_n 2, 1) := by decide +kernel
theorem d_Ch_tableFoul_83 : decode Y_Ch_tableFoul.2.1 83 = .ok (.lreturn, 1) := by decide +kernel
