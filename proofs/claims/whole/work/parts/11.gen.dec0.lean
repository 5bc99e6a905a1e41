/-! PRINTED: what each place of the code decodes to -/
theorem d_Ar_fill_AI_0 : decode Y_Ar_fill_AI.2.1 0 = .ok (.iconst 0, 1) := by decide +kernel
theorem d_Ar_fill_AI_1 : decode Y_Ar_fill_AI.2.1 1 = .ok (.istore_n 2, 1) := by decide +kernel
theorem d_Ar_fill_AI_2 : decode Y_Ar_fill_AI.2.1 2 = .ok (.aload_n 0, 1) := by decide +kernel
theorem d_Ar_fill_AI_3 : decode Y_Ar_fill_AI.2.1 3 = .ok (.arraylength, 1) := by decide +kernel
theorem d_Ar_fill_AI_4 : decode Y_Ar_fill_AI.2.1 4 = .ok (.istore_n 3, 1) := by decide +kernel
theorem d_Ar_fill_AI_5 : decode Y_Ar_fill_AI.2.1 5 = .ok (.iload_n 2, 1) := by decide +kernel
theorem d_Ar_fill_AI_6 : decode Y_Ar_fill_AI.2.1 6 = .ok (.iload_n 3, 1) := by decide +kernel
theorem d_Ar_fill_AI_7 : decode Y_Ar_fill_AI.2.1 7 = .ok (.if_icmp .ge 13, 3) := by decide +kernel
theorem d_Ar_fill_AI_10 : decode Y_Ar_fill_AI.2.1 10 = .ok (.aload_n 0, 1) := by decide +kernel
theorem d_Ar_fill_AI_11 : decode Y_Ar_fill_AI.2.1 11 = .ok (.iload_n 2, 1) := by decide +kernel
theorem d_Ar_fill_AI_12 : decode Y_Ar_fill_AI.2.1 12 = .ok (.iload_n 1, 1) := by decide +kernel
theorem d_Ar_fill_AI_13 : decode Y_Ar_fill_AI.2.1 13 = .ok (.iastore, 1) := by decide +kernel
theorem d_Ar_fill_AI_14 : decode Y_Ar_fill_AI.2.1 14 = .ok (.iinc 2 1, 3) := by decide +kernel
theorem d_Ar_fill_AI_17 : decode Y_Ar_fill_AI.2.1 17 = .ok (.goto (-12), 3) := by decide +kernel
theorem d_Ar_fill_AI_20 : decode Y_Ar_fill_AI.2.1 20 = .ok (.return_, 1) := by decide +kernel
theorem d_Sc_init_0 : decode Y_Sc_init.2.1 0 = .ok (.aload_n 0, 1) := by decide +kernel
theorem d_Sc_init_1 : decode Y_Sc_init.2.1 1 = .ok (.invokespecial 3, 3) := by decide +kernel
theorem d_Sc_init_4 : decode Y_Sc_init.2.1 4 = .ok (.aload_n 0, 1) := by decide +kernel
theorem d_Sc_init_5 : decode Y_Sc_init.2.1 5 = .ok (.sipush 144, 3) := by decide +kernel
theorem d_Sc_init_8 : decode Y_Sc_init.2.1 8 = .ok (.newarray .int, 2) := by decide +kernel
theorem d_Sc_init_10 : decode Y_Sc_init.2.1 10 = .ok (.putfield 9, 3) := by decide +kernel
theorem d_Sc_init_13 : decode Y_Sc_init.2.1 13 = .ok (.aload_n 0, 1) := by decide +kernel
theorem d_Sc_init_14 : decode Y_Sc_init.2.1 14 = .ok (.sipush 144, 3) := by decide +kernel
theorem d_Sc_init_17 : decode Y_Sc_init.2.1 17 = .ok (.newarray .int, 2) := by decide +kernel
theorem d_Sc_init_19 : decode Y_Sc_init.2.1 19 = .ok (.putfield 15, 3) := by decide +kernel
theorem d_Sc_init_22 : decode Y_Sc_init.2.1 22 = .ok (.aload_n 0, 1) := by decide +kernel
theorem d_Sc_init_23 : decode Y_Sc_init.2.1 23 = .ok (.sipush 144, 3) := by decide +kernel
theorem d_Sc_init_26 : decode Y_Sc_init.2.1 26 = .ok (.newarray .int, 2) := by decide +kernel
theorem d_Sc_init_28 : decode Y_Sc_init.2.1 28 = .ok (.putfield 18, 3) := by decide +kernel
theorem d_Sc_init_31 : decode Y_Sc_init.2.1 31 = .ok (.aload_n 0, 1) := by decide +kernel
theorem d_Sc_init_32 : decode Y_Sc_init.2.1 32 = .ok (.bipush 6, 2) := by decide +kernel
theorem d_Sc_init_34 : decode Y_Sc_init.2.1 34 = .ok (.newarray .int, 2) := by decide +kernel
theorem d_Sc_init_36 : decode Y_Sc_init.2.1 36 = .ok (.putfield 21, 3) := by decide +kernel
theorem d_Sc_init_39 : decode Y_Sc_init.2.1 39 = .ok (.aload_n 0, 1) := by decide +kernel
theorem d_Sc_init_40 : decode Y_Sc_init.2.1 40 = .ok (.bipush 24, 2) := by decide +kernel
theorem d_Sc_init_42 : decode Y_Sc_init.2.1 42 = .ok (.newarray .int, 2) := by decide +kernel
theorem d_Sc_init_44 : decode Y_Sc_init.2.1 44 = .ok (.putfield 24, 3) := by decide +kernel
theorem d_Sc_init_47 : decode Y_Sc_init.2.1 47 = .ok (.aload_n 0, 1) := by decide +kernel
theorem d_Sc_init_48 : decode Y_Sc_init.2.1 48 = .ok (.bipush 24, 2) := by decide +kernel
theorem d_Sc_init_50 : decode Y_Sc_init.2.1 50 = .ok (.newarray .int, 2) := by decide +kernel
theorem d_Sc_init_52 : decode Y_Sc_init.2.1 52 = .ok (.putfield 27, 3) := by decide +kernel
theorem d_Sc_init_55 : decode Y_Sc_init.2.1 55 = .ok (.aload_n 0, 1) := by decide +kernel
theorem d_Sc_init_56 : decode Y_Sc_init.2.1 56 = .ok (.bipush 24, 2) := by decide +kernel
theorem d_Sc_init_58 : decode Y_Sc_init.2.1 58 = .ok (.newarray .int, 2) := by decide +kernel
theorem d_Sc_init_60 : decode Y_Sc_init.2.1 60 = .ok (.putfield 30, 3) := by decide +kernel
theorem d_Sc_init_63 : decode Y_Sc_init.2.1 63 = .ok (.aload_n 0, 1) := by decide +kernel
theorem d_Sc_init_64 : decode Y_Sc_init.2.1 64 = .ok (.getfield 9, 3) := by decide +kernel
theorem d_Sc_init_67 : decode Y_Sc_init.2.1 67 = .ok (.iconst (-1), 1) := by decide +kernel
theorem d_Sc_init_68 : decode Y_Sc_init.2.1 68 = .ok (.invokestatic 33, 3) := by decide +kernel
theorem d_Sc_init_71 : decode Y_Sc_init.2.1 71 = .ok (.aload_n 0, 1) := by decide +kernel
theorem d_Sc_init_72 : decode Y_Sc_init.2.1 72 = .ok (.getfield 24, 3) := by decide +kernel
theorem d_Sc_init_75 : decode Y_Sc_init.2.1 75 = .ok (.iconst (-1), 1) := by decide +kernel
theorem d_Sc_init_76 : decode Y_Sc_init.2.1 76 = .ok (.invokestatic 33, 3) := by decide +kernel
theorem d_Sc_init_79 : decode Y_Sc_init.2.1 79 = .ok (.return_, 1) := by decide +kernel
theorem d_Pr_init_0 : decode Y_Pr_init.2.1 0 = .ok (.aload_n 0, 1) := by decide +kernel
theorem d_Pr_init_1 : decode Y_Pr_init.2.1 1 = .ok (.invokespecial 3, 3) := by decide +kernel
theorem d_Pr_init_4 : decode Y_Pr_init.2.1 4 = .ok (.aload_n 0, 1) := by decide +kernel
theorem d_Pr_init_5 : decode Y_Pr_init.2.1 5 = .ok (.sipush 200, 3) := by decide +kernel
theorem d_Pr_init_8 : decode Y_Pr_init.2.1 8 = .ok (.newarray .int, 2) := by decide +kernel
theorem d_Pr_init_10 : decode Y_Pr_init.2.1 10 = .ok (.putfield 11, 3) := by decide +kernel
theorem d_Pr_init_13 : decode Y_Pr_init.2.1 13 = .ok (.aload_n 0, 1) := by decide +kernel
theorem d_Pr_init_14 : decode Y_Pr_init.2.1 14 = .ok (.sipush 200, 3) := by decide +kernel
theorem d_Pr_init_17 : decode Y_Pr_init.2.1 17 = .ok (.newarray .int, 2) := by decide +kernel
theorem d_Pr_init_19 : decode Y_Pr_init.2.1 19 = .ok (.putfield 17, 3) := by decide +kernel
theorem d_Pr_init_22 : decode Y_Pr_init.2.1 22 = .ok (.aload_n 0, 1) := by decide +kernel
theorem d_Pr_init_23 : decode Y_Pr_init.2.1 23 = .ok (.bipush 64, 2) := by decide +kernel
theorem d_Pr_init_25 : decode Y_Pr_init.2.1 25 = .ok (.newarray .int, 2) := by decide +kernel
theorem d_Pr_init_27 : decode Y_Pr_init.2.1 27 = .ok (.putfield 20, 3) := by decide +kernel
theorem d_Pr_init_30 : decode Y_Pr_init.2.1 30 = .ok (.aload_n 0, 1) := by decide +kernel
theorem d_Pr_init_31 : decode Y_Pr_init.2.1 31 = .ok (.bipush 14, 2) := by decide +kernel
theorem d_Pr_init_33 : decode Y_Pr_init.2.1 33 = .ok (.newarray .int, 2) := by decide +kernel
theorem d_Pr_init_35 : decode Y_Pr_init.2.1 35 = .ok (.putfield 23, 3) := by decide +kernel
theorem d_Pr_init_38 : decode Y_Pr_init.2.1 38 = .ok (.aload_n 0, 1) := by decide +kernel
theorem d_Pr_init_39 : decode Y_Pr_init.2.1 39 = .ok (.bipush 15, 2) := by decide +kernel
theorem d_Pr_init_41 : decode Y_Pr_init.2.1 41 = .ok (.newarray .int, 2) := by decide +kernel
theorem d_Pr_init_43 : decode Y_Pr_init.2.1 43 = .ok (.putfield 26, 3) := by decide +kernel
theorem d_Pr_init_46 : decode Y_Pr_init.2.1 46 = .ok (.aload_n 0, 1) := by decide +kernel
theorem d_Pr_init_47 : decode Y_Pr_init.2.1 47 = .ok (.bipush 14, 2) := by decide +kernel
theorem d_Pr_init_49 : decode Y_Pr_init.2.1 49 = .ok (.newarray .int, 2) := by decide +kernel
theorem d_Pr_init_51 : decode Y_Pr_init.2.1 51 = .ok (.putfield 29, 3) := by decide +kernel
theorem d_Pr_init_54 : decode Y_Pr_init.2.1 54 = .ok (.return_, 1) := by decide +kernel
theorem d_Ch_init_0 : decode Y_Ch_init.2.1 0 = .ok (.aload_n 0, 1) := by decide +kernel
theorem d_Ch_init_1 : decode Y_Ch_init.2.1 1 = .ok (.invokespecial 3, 3) := by decide +kernel
theorem d_Ch_init_4 : decode Y_Ch_init.2.1 4 = .ok (.aload_n 0, 1) := by decide +kernel
theorem d_Ch_init_5 : decode Y_Ch_init.2.1 5 = .ok (.bipush 8, 2) := by decide +kernel
theorem d_Ch_init_7 : decode Y_Ch_init.2.1 7 = .ok (.newarray .int, 2) := by decide +kernel
theorem d_Ch_init_9 : decode Y_Ch_init.2.1 9 = .ok (.putfield 9, 3) := by decide +kernel
theorem d_Ch_init_12 : decode Y_Ch_init.2.1 12 = .ok (.aload_n 0, 1) := by decide +kernel
theorem d_Ch_init_13 : decode Y_Ch_init.2.1 13 = .ok (.bipush 8, 2) := by decide +kernel
theorem d_Ch_init_15 : decode Y_Ch_init.2.1 15 = .ok (.newarray .int, 2) := by decide +kernel
theorem d_Ch_init_17 : decode Y_Ch_init.2.1 17 = .ok (.putfield 15, 3) := by decide +kernel
theorem d_Ch_init_20 : decode Y_Ch_init.2.1 20 = .ok (.aload_n 0, 1) := by decide +kernel
theorem d_Ch_init_21 : decode Y_Ch_init.2.1 21 = .ok (.bipush 8, 2) := by decide +kernel
theorem d_Ch_init_23 : decode Y_Ch_init.2.1 23 = .ok (.newarray .int, 2) := by decide +kernel
theorem d_Ch_init_25 : decode Y_Ch_init.2.1 25 = .ok (.putfield 18, 3) := by decide +kernel
theorem d_Ch_init_28 : decode Y_Ch_init.2.1 28 = .ok (.aload_n 0, 1) := by decide +kernel
theorem d_Ch_init_29 : decode Y_Ch_init.2.1 29 = .ok (.bipush 8, 2) := by decide +kernel
theorem d_Ch_init_31 : decode Y_Ch_init.2.1 31 = .ok (.newarray .int, 2) := by decide +kernel
theorem d_Ch_init_33 : decode Y_Ch_init.2.1 33 = .ok (.putfield 21, 3) := by decide +kernel
theorem d_Ch_init_36 : decode Y_Ch_init.2.1 36 = .ok (.aload_n 0, 1) := by decide +kernel
theorem d_Ch_init_37 : decode Y_Ch_init.2.1 37 = .ok (.sipush 192, 3) := by decide +kernel
theorem d_Ch_init_40 : decode Y_Ch_init.2.1 40 = .ok (.newarray .int, 2) := by decide +kernel
theorem d_Ch_init_42 : decode Y_Ch_init.2.1 42 = .ok (.putfield 24, 3) := by decide +kernel
theorem d_Ch_init_45 : decode Y_Ch_init.2.1 45 = .ok (.aload_n 0, 1) := by decide +kernel
theorem d_Ch_init_46 : decode Y_Ch_init.2.1 46 = .ok (.bipush 8, 2) := by decide +kernel
theorem d_Ch_init_48 : decode Y_Ch_init.2.1 48 = .ok (.newarray .int, 2) := by decide +kernel
theorem d_Ch_init_50 : decode Y_Ch_init.2.1 50 = .ok (.putfield 27, 3) := by decide +kernel
theorem d_Ch_init_53 : decode Y_Ch_init.2.1 53 = .ok (.aload_n 0, 1) := by decide +kernel
theorem d_Ch_init_54 : decode Y_Ch_init.2.1 54 = .ok (.bipush 12, 2) := by decide +kernel
theorem d_Ch_init_56 : decode Y_Ch_init.2.1 56 = .ok (.newarray .int, 2) := by decide +kernel
theorem d_Ch_init_58 : decode Y_Ch_init.2.1 58 = .ok (.putfield 30, 3) := by decide +kernel
theorem d_Ch_init_61 : decode Y_Ch_init.2.1 61 = .ok (.aload_n 0, 1) := by decide +kernel
theorem d_Ch_init_62 : decode Y_Ch_init.2.1 62 = .ok (.aload_n 1, 1) := by decide +kernel
theorem d_Ch_init_63 : decode Y_Ch_init.2.1 63 = .ok (.putfield 33, 3) := by decide +kernel
theorem d_Ch_init_66 : decode Y_Ch_init.2.1 66 = .ok (.aload_n 0, 1) := by decide +kernel
theorem d_Ch_init_67 : decode Y_Ch_init.2.1 67 = .ok (.new 37, 3) := by decide +kernel
theorem d_Ch_init_70 : decode Y_Ch_init.2.1 70 = .ok (.dup, 1) := by decide +kernel
theorem d_Ch_init_71 : decode Y_Ch_init.2.1 71 = .ok (.invokespecial 39, 3) := by decide +kernel
theorem d_Ch_init_74 : decode Y_Ch_init.2.1 74 = .ok (.putfield 40, 3) := by decide +kernel
theorem d_Ch_init_77 : decode Y_Ch_init.2.1 77 = .ok (.aload_n 0, 1) := by decide +kernel
theorem d_Ch_init_78 : decode Y_Ch_init.2.1 78 = .ok (.iconst 1, 1) := by decide +kernel
theorem d_Ch_init_79 : decode Y_Ch_init.2.1 79 = .ok (.putfield 44, 3) := by decide +kernel
theorem d_Ch_init_82 : decode Y_Ch_init.2.1 82 = .ok (.return_, 1) := by decide +kernel
theorem d_Str_coder_0 : decode Y_Str_coder.2.1 0 = .ok (.getstatic 38, 3) := by decide +kernel
theorem d_Str_coder_3 : decode Y_Str_coder.2.1 3 = .ok (.ifCond .eq 10, 3) := by decide +kernel
theorem d_Str_coder_6 : decode Y_Str_coder.2.1 6 = .ok (.aload_n 0, 1) := by decide +kernel
theorem d_Str_coder_7 : decode Y_Str_coder.2.1 7 = .ok (.getfield 15, 3) := by decide +kernel
theorem d_Str_coder_10 : decode Y_Str_coder.2.1 10 = .ok (.goto 4, 3) := by decide +kernel
theorem d_Str_coder_13 : decode Y_Str_coder.2.1 13 = .ok (.iconst 1, 1) := by decide +kernel
theorem d_Str_coder_14 : decode Y_Str_coder.2.1 14 = .ok (.ireturn, 1) := by decide +kernel
theorem d_Str_length_0 : decode Y_Str_length.2.1 0 = .ok (.aload_n 0, 1) := by decide +kernel
theorem d_Str_length_1 : decode Y_Str_length.2.1 1 = .ok (.getfield 9, 3) := by decide +kernel
theorem d_Str_length_4 : decode Y_Str_length.2.1 4 = .ok (.arraylength, 1) := by decide +kernel
theorem d_Str_length_5 : decode Y_Str_length.2.1 5 = .ok (.aload_n 0, 1) := by decide +kernel
theorem d_Str_length_6 : decode Y_Str_length.2.1 6 = .ok (.invokevirtual 335, 3) := by decide +kernel
theorem d_Str_length_9 : decode Y_Str_length.2.1 9 = .ok (.ishr, 1) := by decide +kernel
theorem d_Str_length_10 : decode Y_Str_length.2.1 10 = .ok (.ireturn, 1) := by decide +kernel
theorem d_Si_init_0 : decode Y_Si_init.2.1 0 = .ok (.aload_n 0, 1) := by decide +kernel
theorem d_Si_init_1 : decode Y_Si_init.2.1 1 = .ok (.invokespecial 3, 3) := by decide +kernel
theorem d_Si_init_4 : decode Y_Si_init.2.1 4 = .ok (.aload_n 0, 1) := by decide +kernel
theorem d_Si_init_5 : decode Y_Si_init.2.1 5 = .ok (.sipush 192, 3) := by decide +kernel
theorem d_Si_init_8 : decode Y_Si_init.2.1 8 = .ok (.newarray .long, 2) := by decide +kernel
theorem d_Si_init_10 : decode Y_Si_init.2.1 10 = .ok (.putfield 9, 3) := by decide +kernel
theorem d_Si_init_13 : decode Y_Si_init.2.1 13 = .ok (.aload_n 0, 1) := by decide +kernel
theorem d_Si_init_14 : decode Y_Si_init.2.1 14 = .ok (.bipush 8, 2) := by decide +kernel
theorem d_Si_init_16 : decode Y_Si_init.2.1 16 = .ok (.newarray .long, 2) := by decide +kernel
theorem d_Si_init_18 : decode Y_Si_init.2.1 18 = .ok (.putfield 15, 3) := by decide +kernel
theorem d_Si_init_21 : decode Y_Si_init.2.1 21 = .ok (.aload_n 0, 1) := by decide +kernel
theorem d_Si_init_22 : decode Y_Si_init.2.1 22 = .ok (.ldc 20, 2) := by decide +kernel
theorem d_Si_init_24 : decode Y_Si_init.2.1 24 = .ok (.invokevirtual 22, 3) := by decide +kernel
theorem d_Si_init_27 : decode Y_Si_init.2.1 27 = .ok (.newarray .int, 2) := by decide +kernel
theorem d_Si_init_29 : decode Y_Si_init.2.1 29 = .ok (.putfield 28, 3) := by decide +kernel
theorem d_Si_init_32 : decode Y_Si_init.2.1 32 = .ok (.aload_n 0, 1) := by decide +kernel
theorem d_Si_init_33 : decode Y_Si_init.2.1 33 = .ok (.iconst 5, 1) := by decide +kernel
theorem d_Si_init_34 : decode Y_Si_init.2.1 34 = .ok (.newarray .int, 2) := by decide +kernel
theorem d_Si_init_36 : decode Y_Si_init.2.1 36 = .ok (.putfield 32, 3) := by decide +kernel
theorem d_Si_init_39 : decode Y_Si_init.2.1 39 = .ok (.aload_n 0, 1) := by decide +kernel
theorem d_Si_init_40 : decode Y_Si_init.2.1 40 = .ok (.iconst 4, 1) := by decide +kernel
theorem d_Si_init_41 : decode Y_Si_init.2.1 41 = .ok (.newarray .long, 2) := by decide +kernel
theorem d_Si_init_43 : decode Y_Si_init.2.1 43 = .ok (.putfield 35, 3) := by decide +kernel
theorem d_Si_init_46 : decode Y_Si_init.2.1 46 = .ok (.aload_n 0, 1) := by decide +kernel
theorem d_Si_init_47 : decode Y_Si_init.2.1 47 = .ok (.iconst 4, 1) := by decide +kernel
theorem d_Si_init_48 : decode Y_Si_init.2.1 48 = .ok (.newarray .boolean, 2) := by decide +kernel
theorem d_Si_init_50 : decode Y_Si_init.2.1 50 = .ok (.putfield 38, 3) := by decide +kernel
theorem d_Si_init_53 : decode Y_Si_init.2.1 53 = .ok (.aload_n 0, 1) := by decide +kernel
theorem d_Si_init_54 : decode Y_Si_init.2.1 54 = .ok (.aload_n 1, 1) := by decide +kernel
theorem d_Si_init_55 : decode Y_Si_init.2.1 55 = .ok (.putfield 42, 3) := by decide +kernel
theorem d_Si_init_58 : decode Y_Si_init.2.1 58 = .ok (.aload_n 0, 1) := by decide +kernel
theorem d_Si_init_59 : decode Y_Si_init.2.1 59 = .ok (.aload_n 2, 1) := by decide +kernel
theorem d_Si_init_60 : decode Y_Si_init.2.1 60 = .ok (.putfield 46, 3) := by decide +kernel
theorem d_Si_init_63 : decode Y_Si_init.2.1 63 = .ok (.aload_n 0, 1) := by decide +kernel
theorem d_Si_init_64 : decode Y_Si_init.2.1 64 = .ok (.aload_n 2, 1) := by decide +kernel
theorem d_Si_init_65 : decode Y_Si_init.2.1 65 = .ok (.getfield 50, 3) := by decide +kernel
theorem d_Si_init_68 : decode Y_Si_init.2.1 68 = .ok (.putfield 55, 3) := by decide +kernel
theorem d_Si_init_71 : decode Y_Si_init.2.1 71 = .ok (.return_, 1) := by decide +kernel
theorem d_St_init_0 : decode Y_St_init.2.1 0 = .ok (.aload_n 0, 1) := by decide +kernel
theorem d_St_init_1 : decode Y_St_init.2.1 1 = .ok (.invokespecial 3, 3) := by decide +kernel
theorem d_St_init_4 : decode Y_St_init.2.1 4 = .ok (.aload_n 0, 1) := by decide +kernel
theorem d_St_init_5 : decode Y_St_init.2.1 5 = .ok (.bipush 8, 2) := by decide +kernel
theorem d_St_init_7 : decode Y_St_init.2.1 7 = .ok (.newarray .int, 2) := by decide +kernel
theorem d_St_init_9 : decode Y_St_init.2.1 9 = .ok (.putfield 9, 3) := by decide +kernel
theorem d_St_init_12 : decode Y_St_init.2.1 12 = .ok (.aload_n 0, 1) := by decide +kernel
theorem d_St_init_13 : decode Y_St_init.2.1 13 = .ok (.bipush 8, 2) := by decide +kernel
theorem d_St_init_15 : decode Y_St_init.2.1 15 = .ok (.newarray .int, 2) := by decide +kernel
theorem d_St_init_17 : decode Y_St_init.2.1 17 = .ok (.putfield 15, 3) := by decide +kernel
theorem d_St_init_20 : decode Y_St_init.2.1 20 = .ok (.aload_n 0, 1) := by decide +kernel
theorem d_St_init_21 : decode Y_St_init.2.1 21 = .ok (.aload_n 1, 1) := by decide +kernel
theorem d_St_init_22 : decode Y_St_init.2.1 22 = .ok (.putfield 18, 3) := by decide +kernel
theorem d_St_init_25 : decode Y_St_init.2.1 25 = .ok (.aload_n 0, 1) := by decide +kernel
theorem d_St_init_26 : decode Y_St_init.2.1 26 = .ok (.aload_n 2, 1) := by decide +kernel
theorem d_St_init_27 : decode Y_St_init.2.1 27 = .ok (.putfield 22, 3) := by decide +kernel
theorem d_St_init_30 : decode Y_St_init.2.1 30 = .ok (.aload_n 0, 1) := by decide +kernel
theorem d_St_init_31 : decode Y_St_init.2.1 31 = .ok (.iconst (-1), 1) := by decide +kernel
theorem d_St_init_32 : decode Y_St_init.2.1 32 = .ok (.putfield 26, 3) := by decide +kernel
theorem d_St_init_35 : decode Y_St_init.2.1 35 = .ok (.return_, 1) := by decide +kernel
theorem d_Le_init_0 : decode Y_Le_init.2.1 0 = .ok (.aload_n 0, 1) := by decide +kernel
theorem d_Le_init_1 : decode Y_Le_init.2.1 1 = .ok (.invokespecial 3, 3) := by decide +kernel
theorem d_Le_init_4 : decode Y_Le_init.2.1 4 = .ok (.aload_n 0, 1) := by decide +kernel
theorem d_Le_init_5 : decode Y_Le_init.2.1 5 = .ok (.sipush 576, 3) := by decide +kernel
theorem d_Le_init_8 : decode Y_Le_init.2.1 8 = .ok (.newarray .long, 2) := by decide +kernel
theorem d_Le_init_10 : decode Y_Le_init.2.1 10 = .ok (.putfield 9, 3) := by decide +kernel
theorem d_Le_init_13 : decode Y_Le_init.2.1 13 = .ok (.aload_n 0, 1) := by decide +kernel
theorem d_Le_init_14 : decode Y_Le_init.2.1 14 = .ok (.aload_n 1, 1) := by decide +kernel
theorem d_Le_init_15 : decode Y_Le_init.2.1 15 = .ok (.putfield 15, 3) := by decide +kernel
theorem d_Le_init_18 : decode Y_Le_init.2.1 18 = .ok (.aload_n 0, 1) := by decide +kernel
theorem d_Le_init_19 : decode Y_Le_init.2.1 19 = .ok (.aload_n 2, 1) := by decide +kernel
theorem d_Le_init_20 : decode Y_Le_init.2.1 20 = .ok (.putfield 19, 3) := by decide +kernel
theorem d_Le_init_23 : decode Y_Le_init.2.1 23 = .ok (.return_, 1) := by decide +kernel
theorem d_Fi_init_0 : decode Y_Fi_init.2.1 0 = .ok (.aload_n 0, 1) := by decide +kernel
theorem d_Fi_init_1 : decode Y_Fi_init.2.1 1 = .ok (.invokespecial 3, 3) := by decide +kernel
theorem d_Fi_init_4 : decode Y_Fi_init.2.1 4 = .ok (.aload_n 0, 1) := by decide +kernel
theorem d_Fi_init_5 : decode Y_Fi_init.2.1 5 = .ok (.bipush 64, 2) := by decide +kernel
theorem d_Fi_init_7 : decode Y_Fi_init.2.1 7 = .ok (.newarray .long, 2) := by decide +kernel
theorem d_Fi_init_9 : decode Y_Fi_init.2.1 9 = .ok (.putfield 11, 3) := by decide +kernel
theorem d_Fi_init_12 : decode Y_Fi_init.2.1 12 = .ok (.aload_n 0, 1) := by decide +kernel
theorem d_Fi_init_13 : decode Y_Fi_init.2.1 13 = .ok (.aload_n 1, 1) := by decide +kernel
theorem d_Fi_init_14 : decode Y_Fi_init.2.1 14 = .ok (.putfield 15, 3) := by decide +kernel
theorem d_Fi_init_17 : decode Y_Fi_init.2.1 17 = .ok (.aload_n 0, 1) := by decide +kernel
theorem d_Fi_init_18 : decode Y_Fi_init.2.1 18 = .ok (.aload_n 2, 1) := by decide +kernel
theorem d_Fi_init_19 : decode Y_Fi_init.2.1 19 = .ok (.putfield 19, 3) := by decide +kernel
theorem d_Fi_init_22 : decode Y_Fi_init.2.1 22 = .ok (.aload_n 0, 1) := by decide +kernel
theorem d_Fi_init_23 : decode Y_Fi_init.2.1 23 = .ok (.aload_n 3, 1) := by decide +kernel
theorem d_Fi_init_24 : decode Y_Fi_init.2.1 24 = .ok (.putfield 23, 3) := by decide +kernel
theorem d_Fi_init_27 : decode Y_Fi_init.2.1 27 = .ok (.return_, 1) := by decide +kernel
theorem d_Rl_init_0 : decode Y_Rl_init.2.1 0 = .ok (.aload_n 0, 1) := by decide +kernel
theorem d_Rl_init_1 : decode Y_Rl_init.2.1 1 = .ok (.invokespecial 1, 3) := by decide +kernel
theorem d_Rl_init_4 : decode Y_Rl_init.2.1 4 = .ok (.aload_n 0, 1) := by decide +kernel
theorem d_Rl_init_5 : decode Y_Rl_init.2.1 5 = .ok (.sipush 220, 3) := by decide +kernel
theorem d_Rl_init_8 : decode Y_Rl_init.2.1 8 = .ok (.newarray .int, 2) := by decide +kernel
theorem d_Rl_init_10 : decode Y_Rl_init.2.1 10 = .ok (.putfield 9, 3) := by decide +kernel
theorem d_Rl_init_13 : decode Y_Rl_init.2.1 13 = .ok (.return_, 1) := by decide +kernel
theorem d_Re_init_0 : decode Y_Re_init.2.1 0 = .ok (.aload_n 0, 1) := by decide +kernel
theorem d_Re_init_1 : decode Y_Re_init.2.1 1 = .ok (.invokespecial 3, 3) := by decide +kernel
theorem d_Re_init_4 : decode Y_Re_init.2.1 4 = .ok (.aload_n 0, 1) := by decide +kernel
theorem d_Re_init_5 : decode Y_Re_init.2.1 5 = .ok (.sipush 200, 3) := by decide +kernel
theorem d_Re_init_8 : decode Y_Re_init.2.1 8 = .ok (.newarray .int, 2) := by decide +kernel
theorem d_Re_init_10 : decode Y_Re_init.2.1 10 = .ok (.putfield 11, 3) := by decide +kernel
theorem d_Re_init_13 : decode Y_Re_init.2.1 13 = .ok (.aload_n 0, 1) := by decide +kernel
theorem d_Re_init_14 : decode Y_Re_init.2.1 14 = .ok (.new 15, 3) := by decide +kernel
theorem d_Re_init_17 : decode Y_Re_init.2.1 17 = .ok (.dup, 1) := by decide +kernel
theorem d_Re_init_18 : decode Y_Re_init.2.1 18 = .ok (.invokespecial 17, 3) := by decide +kernel
theorem d_Re_init_21 : decode Y_Re_init.2.1 21 = .ok (.putfield 18, 3) := by decide +kernel
theorem d_Re_init_24 : decode Y_Re_init.2.1 24 = .ok (.return_, 1) := by decide +kernel
theorem d_X_init_0 : decode Y_X_init.2.1 0 = .ok (.aload_n 0, 1) := by decide +kernel
theorem d_X_init_1 : decode Y_X_init.2.1 1 = .ok (.invokespecial 1, 3) := by decide +kernel
theorem d_X_init_4 : decode Y_X_init.2.1 4 = .ok (.aload_n 0, 1) := by decide +kernel
theorem d_X_init_5 : decode Y_X_init.2.1 5 = .ok (.new 7, 3) := by decide +kernel
theorem d_X_init_8 : decode Y_X_init.2.1 8 = .ok (.dup, 1) := by decide +kernel
theorem d_X_init_9 : decode Y_X_init.2.1 9 = .ok (.invokespecial 9, 3) := by decide +kernel
theorem d_X_init_12 : decode Y_X_init.2.1 12 = .ok (.putfield 10, 3) := by decide +kernel
theorem d_X_init_15 : decode Y_X_init.2.1 15 = .ok (.aload_n 0, 1) := by decide +kernel
theorem d_X_init_16 : decode Y_X_init.2.1 16 = .ok (.new 16, 3) := by decide +kernel
theorem d_X_init_19 : decode Y_X_init.2.1 19 = .ok (.dup, 1) := by decide +kernel
theorem d_X_init_20 : decode Y_X_init.2.1 20 = .ok (.aload_n 0, 1) := by decide +kernel
theorem d_X_init_21 : decode Y_X_init.2.1 21 = .ok (.getfield 10, 3) := by decide +kernel
theorem d_X_init_24 : decode Y_X_init.2.1 24 = .ok (.invokespecial 18, 3) := by decide +kernel
theorem d_X_init_27 : decode Y_X_init.2.1 27 = .ok (.putfield 21, 3) := by decide +kernel
theorem d_X_init_30 : decode Y_X_init.2.1 30 = .ok (.aload_n 0, 1) := by decide +kernel
theorem d_X_init_31 : decode Y_X_init.2.1 31 = .ok (.new 25, 3) := by decide +kernel
theorem d_X_init_34 : decode Y_X_init.2.1 34 = .ok (.dup, 1) := by decide +kernel
theorem d_X_init_35 : decode Y_X_init.2.1 35 = .ok (.aload_n 0, 1) := by decide +kernel
theorem d_X_init_36 : decode Y_X_init.2.1 36 = .ok (.getfield 10, 3) := by decide +kernel
theorem d_X_init_39 : decode Y_X_init.2.1 39 = .ok (.aload_n 0, 1) := by decide +kernel
theorem d_X_init_40 : decode Y_X_init.2.1 40 = .ok (.getfield 21, 3) := by decide +kernel
theorem d_X_init_43 : decode Y_X_init.2.1 43 = .ok (.invokespecial 27, 3) := by decide +kernel
theorem d_X_init_46 : decode Y_X_init.2.1 46 = .ok (.putfield 30, 3) := by decide +kernel
theorem d_X_init_49 : decode Y_X_init.2.1 49 = .ok (.aload_n 0, 1) := by decide +kernel
theorem d_X_init_50 : decode Y_X_init.2.1 50 = .ok (.new 34, 3) := by decide +kernel
theorem d_X_init_53 : decode Y_X_init.2.1 53 = .ok (.dup, 1) := by decide +kernel
theorem d_X_init_54 : decode Y_X_init.2.1 54 = .ok (.aload_n 0, 1) := by decide +kernel
theorem d_X_init_55 : decode Y_X_init.2.1 55 = .ok (.getfield 21, 3) := by decide +kernel
theorem d_X_init_58 : decode Y_X_init.2.1 58 = .ok (.aload_n 0, 1) := by decide +kernel
theorem d_X_init_59 : decode Y_X_init.2.1 59 = .ok (.getfield 30, 3) := by decide +kernel
theorem d_X_init_62 : decode Y_X_init.2.1 62 = .ok (.invokespecial 36, 3) := by decide +kernel
theorem d_X_init_65 : decode Y_X_init.2.1 65 = .ok (.putfield 39, 3) := by decide +kernel
theorem d_X_init_68 : decode Y_X_init.2.1 68 = .ok (.aload_n 0, 1) := by decide +kernel
theorem d_X_init_69 : decode Y_X_init.2.1 69 = .ok (.new 43, 3) := by decide +kernel
theorem d_X_init_72 : decode Y_X_init.2.1 72 = .ok (.dup, 1) := by decide +kernel
theorem d_X_init_73 : decode Y_X_init.2.1 73 = .ok (.aload_n 0, 1) := by decide +kernel
theorem d_X_init_74 : decode Y_X_init.2.1 74 = .ok (.getfield 21, 3) := by decide +kernel
theorem d_X_init_77 : decode Y_X_init.2.1 77 = .ok (.aload_n 0, 1) := by decide +kernel
theorem d_X_init_78 : decode Y_X_init.2.1 78 = .ok (.getfield 30, 3) := by decide +kernel
theorem d_X_init_81 : decode Y_X_init.2.1 81 = .ok (.invokespecial 45, 3) := by decide +kernel
theorem d_X_init_84 : decode Y_X_init.2.1 84 = .ok (.putfield 46, 3) := by decide +kernel
theorem d_X_init_87 : decode Y_X_init.2.1 87 = .ok (.aload_n 0, 1) := by decide +kernel
theorem d_X_init_88 : decode Y_X_init.2.1 88 = .ok (.new 50, 3) := by decide +kernel
theorem d_X_init_91 : decode Y_X_init.2.1 91 = .ok (.dup, 1) := by decide +kernel
theorem d_X_init_92 : decode Y_X_init.2.1 92 = .ok (.aload_n 0, 1) := by decide +kernel
theorem d_X_init_93 : decode Y_X_init.2.1 93 = .ok (.getfield 10, 3) := by decide +kernel
theorem d_X_init_96 : decode Y_X_init.2.1 96 = .ok (.aload_n 0, 1) := by decide +kernel
theorem d_X_init_97 : decode Y_X_init.2.1 97 = .ok (.getfield 21, 3) := by decide +kernel
theorem d_X_init_100 : decode Y_X_init.2.1 100 = .ok (.aload_n 0, 1) := by decide +kernel
theorem d_X_init_101 : decode Y_X_init.2.1 101 = .ok (.getfield 30, 3) := by decide +kernel
theorem d_X_init_104 : decode Y_X_init.2.1 104 = .ok (.invokespecial 52, 3) := by decide +kernel
theorem d_X_init_107 : decode Y_X_init.2.1 107 = .ok (.putfield 55, 3) := by decide +kernel
theorem d_X_init_110 : decode Y_X_init.2.1 110 = .ok (.aload_n 0, 1) := by decide +kernel
theorem d_X_init_111 : decode Y_X_init.2.1 111 = .ok (.new 59, 3) := by decide +kernel
theorem d_X_init_114 : decode Y_X_init.2.1 114 = .ok (.dup, 1) := by decide +kernel
theorem d_X_init_115 : decode Y_X_init.2.1 115 = .ok (.invokespecial 61, 3) := by decide +kernel
theorem d_X_init_118 : decode Y_X_init.2.1 118 = .ok (.putfield 62, 3) := by decide +kernel
theorem d_X_init_121 : decode Y_X_init.2.1 121 = .ok (.aload_n 0, 1) := by decide +kernel
theorem d_X_init_122 : decode Y_X_init.2.1 122 = .ok (.new 66, 3) := by decide +kernel
theorem d_X_init_125 : decode Y_X_init.2.1 125 = .ok (.dup, 1) := by decide +kernel
theorem d_X_init_126 : decode Y_X_init.2.1 126 = .ok (.invokespecial 68, 3) := by decide +kernel
theorem d_X_init_129 : decode Y_X_init.2.1 129 = .ok (.putfield 69, 3) := by decide +kernel
theorem d_X_init_132 : decode Y_X_init.2.1 132 = .ok (.return_, 1) := by decide +kernel
theorem d_M_init_0 : decode Y_M_init.2.1 0 = .ok (.aload_n 0, 1) := by decide +kernel
theorem d_M_init_1 : decode Y_M_init.2.1 1 = .ok (.invokespecial 1, 3) := by decide +kernel
theorem d_M_init_4 : decode Y_M_init.2.1 4 = .ok (.aload_n 0, 1) := by decide +kernel
theorem d_M_init_5 : decode Y_M_init.2.1 5 = .ok (.sipush 220, 3) := by decide +kernel
theorem d_M_init_8 : decode Y_M_init.2.1 8 = .ok (.newarray .byte, 2) := by decide +kernel
theorem d_M_init_10 : decode Y_M_init.2.1 10 = .ok (.putfield 7, 3) := by decide +kernel
theorem d_M_init_13 : decode Y_M_init.2.1 13 = .ok (.aload_n 0, 1) := by decide +kernel
theorem d_M_init_14 : decode Y_M_init.2.1 14 = .ok (.sipush 144, 3) := by decide +kernel
theorem d_M_init_17 : decode Y_M_init.2.1 17 = .ok (.newarray .int, 2) := by decide +kernel
theorem d_M_init_19 : decode Y_M_init.2.1 19 = .ok (.putfield 13, 3) := by decide +kernel
theorem d_M_init_22 : decode Y_M_init.2.1 22 = .ok (.aload_n 0, 1) := by decide +kernel
theorem d_M_init_23 : decode Y_M_init.2.1 23 = .ok (.sipush 144, 3) := by decide +kernel
theorem d_M_init_26 : decode Y_M_init.2.1 26 = .ok (.newarray .int, 2) := by decide +kernel
theorem d_M_init_28 : decode Y_M_init.2.1 28 = .ok (.putfield 17, 3) := by decide +kernel
theorem d_M_init_31 : decode Y_M_init.2.1 31 = .ok (.aload_n 0, 1) := by decide +kernel
theorem d_M_init_32 : decode Y_M_init.2.1 32 = .ok (.sipush 144, 3) := by decide +kernel
theorem d_M_init_35 : decode Y_M_init.2.1 35 = .ok (.newarray .int, 2) := by decide +kernel
theorem d_M_init_37 : decode Y_M_init.2.1 37 = .ok (.putfield 20, 3) := by decide +kernel
theorem d_M_init_40 : decode Y_M_init.2.1 40 = .ok (.aload_n 0, 1) := by decide +kernel
theorem d_M_init_41 : decode Y_M_init.2.1 41 = .ok (.sipush 144, 3) := by decide +kernel
theorem d_M_init_44 : decode Y_M_init.2.1 44 = .ok (.newarray .int, 2) := by decide +kernel
theorem d_M_init_46 : decode Y_M_init.2.1 46 = .ok (.putfield 23, 3) := by decide +kernel
theorem d_M_init_49 : decode Y_M_init.2.1 49 = .ok (.aload_n 0, 1) := by decide +kernel
theorem d_M_init_50 : decode Y_M_init.2.1 50 = .ok (.sipush 144, 3) := by decide +kernel
theorem d_M_init_53 : decode Y_M_init.2.1 53 = .ok (.newarray .boolean, 2) := by decide +kernel
theorem d_M_init_55 : decode Y_M_init.2.1 55 = .ok (.putfield 26, 3) := by decide +kernel
theorem d_M_init_58 : decode Y_M_init.2.1 58 = .ok (.aload_n 0, 1) := by decide +kernel
theorem d_M_init_59 : decode Y_M_init.2.1 59 = .ok (.bipush 24, 2) := by decide +kernel
theorem d_M_init_61 : decode Y_M_init.2.1 61 = .ok (.newarray .int, 2) := by decide +kernel
theorem d_M_init_63 : decode Y_M_init.2.1 63 = .ok (.putfield 30, 3) := by decide +kernel
theorem d_M_init_66 : decode Y_M_init.2.1 66 = .ok (.aload_n 0, 1) := by decide +kernel
theorem d_M_init_67 : decode Y_M_init.2.1 67 = .ok (.bipush 24, 2) := by decide +kernel
theorem d_M_init_69 : decode Y_M_init.2.1 69 = .ok (.newarray .int, 2) := by decide +kernel
theorem d_M_init_71 : decode Y_M_init.2.1 71 = .ok (.putfield 33, 3) := by decide +kernel
theorem d_M_init_74 : decode Y_M_init.2.1 74 = .ok (.aload_n 0, 1) := by decide +kernel
theorem d_M_init_75 : decode Y_M_init.2.1 75 = .ok (.sipush 7200, 3) := by decide +kernel
theorem d_M_init_78 : decode Y_M_init.2.1 78 = .ok (.newarray .int, 2) := by decide +kernel
theorem d_M_init_80 : decode Y_M_init.2.1 80 = .ok (.putfield 36, 3) := by decide +kernel
theorem d_M_init_83 : decode Y_M_init.2.1 83 = .ok (.aload_n 0, 1) := by decide +kernel
theorem d_M_init_84 : decode Y_M_init.2.1 84 = .ok (.sipush 7200, 3) := by decide +kernel
theorem d_M_init_87 : decode Y_M_init.2.1 87 = .ok (.newarray .int, 2) := by decide +kernel
theorem d_M_init_89 : decode Y_M_init.2.1 89 = .ok (.putfield 39, 3) := by decide +kernel
theorem d_M_init_92 : decode Y_M_init.2.1 92 = .ok (.aload_n 0, 1) := by decide +kernel
theorem d_M_init_93 : decode Y_M_init.2.1 93 = .ok (.sipush 7200, 3) := by decide +kernel
theorem d_M_init_96 : decode Y_M_init.2.1 96 = .ok (.newarray .int, 2) := by decide +kernel
theorem d_M_init_98 : decode Y_M_init.2.1 98 = .ok (.putfield 42, 3) := by decide +kernel
theorem d_M_init_101 : decode Y_M_init.2.1 101 = .ok (.aload_n 0, 1) := by decide +kernel
theorem d_M_init_102 : decode Y_M_init.2.1 102 = .ok (.sipush 7200, 3) := by decide +kernel
theorem d_M_init_105 : decode Y_M_init.2.1 105 = .ok (.newarray .long, 2) := by decide +kernel
theorem d_M_init_107 : decode Y_M_init.2.1 107 = .ok (.putfield 45, 3) := by decide +kernel
theorem d_M_init_110 : decode Y_M_init.2.1 110 = .ok (.aload_n 0, 1) := by decide +kernel
theorem d_M_init_111 : decode Y_M_init.2.1 111 = .ok (.bipush 24, 2) := by decide +kernel
theorem d_M_init_113 : decode Y_M_init.2.1 113 = .ok (.newarray .int, 2) := by decide +kernel
theorem d_M_init_115 : decode Y_M_init.2.1 115 = .ok (.putfield 49, 3) := by decide +kernel
theorem d_M_init_118 : decode Y_M_init.2.1 118 = .ok (.aload_n 0, 1) := by decide +kernel
theorem d_M_init_119 : decode Y_M_init.2.1 119 = .ok (.iconst 1, 1) := by decide +kernel
theorem d_M_init_120 : decode Y_M_init.2.1 120 = .ok (.putfield 52, 3) := by decide +kernel
theorem d_M_init_123 : decode Y_M_init.2.1 123 = .ok (.aload_n 0, 1) := by decide +kernel
theorem d_M_init_124 : decode Y_M_init.2.1 124 = .ok (.bipush 8, 2) := by decide +kernel
theorem d_M_init_126 : decode Y_M_init.2.1 126 = .ok (.newarray .int, 2) := by decide +kernel
theorem d_M_init_128 : decode Y_M_init.2.1 128 = .ok (.putfield 56, 3) := by decide +kernel
theorem d_M_init_131 : decode Y_M_init.2.1 131 = .ok (.aload_n 0, 1) := by decide +kernel
theorem d_M_init_132 : decode Y_M_init.2.1 132 = .ok (.bipush 8, 2) := by decide +kernel
theorem d_M_init_134 : decode Y_M_init.2.1 134 = .ok (.newarray .int, 2) := by decide +kernel
theorem d_M_init_136 : decode Y_M_init.2.1 136 = .ok (.putfield 59, 3) := by decide +kernel
theorem d_M_init_139 : decode Y_M_init.2.1 139 = .ok (.aload_n 0, 1) := by decide +kernel
theorem d_M_init_140 : decode Y_M_init.2.1 140 = .ok (.bipush 8, 2) := by decide +kernel
theorem d_M_init_142 : decode Y_M_init.2.1 142 = .ok (.newarray .int, 2) := by decide +kernel
theorem d_M_init_144 : decode Y_M_init.2.1 144 = .ok (.putfield 62, 3) := by decide +kernel
theorem d_M_init_147 : decode Y_M_init.2.1 147 = .ok (.aload_n 0, 1) := by decide +kernel
theorem d_M_init_148 : decode Y_M_init.2.1 148 = .ok (.bipush 8, 2) := by decide +kernel
theorem d_M_init_150 : decode Y_M_init.2.1 150 = .ok (.newarray .int, 2) := by decide +kernel
theorem d_M_init_152 : decode Y_M_init.2.1 152 = .ok (.putfield 65, 3) := by decide +kernel
theorem d_M_init_155 : decode Y_M_init.2.1 155 = .ok (.aload_n 0, 1) := by decide +kernel
theorem d_M_init_156 : decode Y_M_init.2.1 156 = .ok (.bipush 12, 2) := by decide +kernel
theorem d_M_init_158 : decode Y_M_init.2.1 158 = .ok (.newarray .int, 2) := by decide +kernel
theorem d_M_init_160 : decode Y_M_init.2.1 160 = .ok (.putfield 68, 3) := by decide +kernel
theorem d_M_init_163 : decode Y_M_init.2.1 163 = .ok (.aload_n 0, 1) := by decide +kernel
theorem d_M_init_164 : decode Y_M_init.2.1 164 = .ok (.bipush 14, 2) := by decide +kernel
theorem d_M_init_166 : decode Y_M_init.2.1 166 = .ok (.newarray .int, 2) := by decide +kernel
theorem d_M_init_168 : decode Y_M_init.2.1 168 = .ok (.putfield 71, 3) := by decide +kernel
theorem d_M_init_171 : decode Y_M_init.2.1 171 = .ok (.aload_n 0, 1) := by decide +kernel
theorem d_M_init_172 : decode Y_M_init.2.1 172 = .ok (.bipush 14, 2) := by decide +kernel
theorem d_M_init_174 : decode Y_M_init.2.1 174 = .ok (.newarray .int, 2) := by decide +kernel
theorem d_M_init_176 : decode Y_M_init.2.1 176 = .ok (.putfield 74, 3) := by decide +kernel
theorem d_M_init_179 : decode Y_M_init.2.1 179 = .ok (.aload_n 0, 1) := by decide +kernel
theorem d_M_init_180 : decode Y_M_init.2.1 180 = .ok (.bipush 14, 2) := by decide +kernel
theorem d_M_init_182 : decode Y_M_init.2.1 182 = .ok (.newarray .int, 2) := by decide +kernel
theorem d_M_init_184 : decode Y_M_init.2.1 184 = .ok (.putfield 77, 3) := by decide +kernel
theorem d_M_init_187 : decode Y_M_init.2.1 187 = .ok (.aload_n 0, 1) := by decide +kernel
theorem d_M_init_188 : decode Y_M_init.2.1 188 = .ok (.bipush 14, 2) := by decide +kernel
theorem d_M_init_190 : decode Y_M_init.2.1 190 = .ok (.newarray .int, 2) := by decide +kernel
theorem d_M_init_192 : decode Y_M_init.2.1 192 = .ok (.putfield 80, 3) := by decide +kernel
theorem d_M_init_195 : decode Y_M_init.2.1 195 = .ok (.aload_n 0, 1) := by decide +kernel
theorem d_M_init_196 : decode Y_M_init.2.1 196 = .ok (.sipush 200, 3) := by decide +kernel
theorem d_M_init_199 : decode Y_M_init.2.1 199 = .ok (.newarray .int, 2) := by decide +kernel
theorem d_M_init_201 : decode Y_M_init.2.1 201 = .ok (.putfield 83, 3) := by decide +kernel
theorem d_M_init_204 : decode Y_M_init.2.1 204 = .ok (.aload_n 0, 1) := by decide +kernel
theorem d_M_init_205 : decode Y_M_init.2.1 205 = .ok (.sipush 200, 3) := by decide +kernel
theorem d_M_init_208 : decode Y_M_init.2.1 208 = .ok (.newarray .int, 2) := by decide +kernel
theorem d_M_init_210 : decode Y_M_init.2.1 210 = .ok (.putfield 86, 3) := by decide +kernel
theorem d_M_init_213 : decode Y_M_init.2.1 213 = .ok (.aload_n 0, 1) := by decide +kernel
theorem d_M_init_214 : decode Y_M_init.2.1 214 = .ok (.bipush 14, 2) := by decide +kernel
theorem d_M_init_216 : decode Y_M_init.2.1 216 = .ok (.newarray .int, 2) := by decide +kernel
theorem d_M_init_218 : decode Y_M_init.2.1 218 = .ok (.putfield 89, 3) := by decide +kernel
theorem d_M_init_221 : decode Y_M_init.2.1 221 = .ok (.aload_n 0, 1) := by decide +kernel
theorem d_M_init_222 : decode Y_M_init.2.1 222 = .ok (.bipush 14, 2) := by decide +kernel
theorem d_M_init_224 : decode Y_M_init.2.1 224 = .ok (.newarray .int, 2) := by decide +kernel
theorem d_M_init_226 : decode Y_M_init.2.1 226 = .ok (.putfield 92, 3) := by decide +kernel
theorem d_M_init_229 : decode Y_M_init.2.1 229 = .ok (.aload_n 0, 1) := by decide +kernel
theorem d_M_init_230 : decode Y_M_init.2.1 230 = .ok (.bipush 14, 2) := by decide +kernel
theorem d_M_init_232 : decode Y_M_init.2.1 232 = .ok (.newarray .int, 2) := by decide +kernel
theorem d_M_init_234 : decode Y_M_init.2.1 234 = .ok (.putfield 95, 3) := by decide +kernel
theorem d_M_init_237 : decode Y_M_init.2.1 237 = .ok (.aload_n 0, 1) := by decide +kernel
theorem d_M_init_238 : decode Y_M_init.2.1 238 = .ok (.bipush 14, 2) := by decide +kernel
theorem d_M_init_240 : decode Y_M_init.2.1 240 = .ok (.newarray .int, 2) := by decide +kernel
theorem d_M_init_242 : decode Y_M_init.2.1 242 = .ok (.putfield 98, 3) := by decide +kernel
theorem d_M_init_245 : decode Y_M_init.2.1 245 = .ok (.aload_n 0, 1) := by decide +kernel
theorem d_M_init_246 : decode Y_M_init.2.1 246 = .ok (.sipush 200, 3) := by decide +kernel
theorem d_M_init_249 : decode Y_M_init.2.1 249 = .ok (.newarray .int, 2) := by decide +kernel
theorem d_M_init_251 : decode Y_M_init.2.1 251 = .ok (.putfield 101, 3) := by decide +kernel
theorem d_M_init_254 : decode Y_M_init.2.1 254 = .ok (.aload_n 0, 1) := by decide +kernel
theorem d_M_init_255 : decode Y_M_init.2.1 255 = .ok (.sipush 200, 3) := by decide +kernel
theorem d_M_init_258 : decode Y_M_init.2.1 258 = .ok (.newarray .int, 2) := by decide +kernel
theorem d_M_init_260 : decode Y_M_init.2.1 260 = .ok (.putfield 104, 3) := by decide +kernel
theorem d_M_init_263 : decode Y_M_init.2.1 263 = .ok (.aload_n 0, 1) := by decide +kernel
theorem d_M_init_264 : decode Y_M_init.2.1 264 = .ok (.sipush 240, 3) := by decide +kernel
theorem d_M_init_267 : decode Y_M_init.2.1 267 = .ok (.newarray .int, 2) := by decide +kernel
theorem d_M_init_269 : decode Y_M_init.2.1 269 = .ok (.putfield 107, 3) := by decide +kernel
theorem d_M_init_272 : decode Y_M_init.2.1 272 = .ok (.aload_n 0, 1) := by decide +kernel
theorem d_M_init_273 : decode Y_M_init.2.1 273 = .ok (.bipush 8, 2) := by decide +kernel
theorem d_M_init_275 : decode Y_M_init.2.1 275 = .ok (.newarray .int, 2) := by decide +kernel
theorem d_M_init_277 : decode Y_M_init.2.1 277 = .ok (.putfield 110, 3) := by decide +kernel
theorem d_M_init_280 : decode Y_M_init.2.1 280 = .ok (.aload_n 0, 1) := by decide +kernel
theorem d_M_init_281 : decode Y_M_init.2.1 281 = .ok (.bipush 8, 2) := by decide +kernel
theorem d_M_init_283 : decode Y_M_init.2.1 283 = .ok (.newarray .int, 2) := by decide +kernel
theorem d_M_init_285 : decode Y_M_init.2.1 285 = .ok (.putfield 113, 3) := by decide +kernel
theorem d_M_init_288 : decode Y_M_init.2.1 288 = .ok (.aload_n 0, 1) := by decide +kernel
theorem d_M_init_289 : decode Y_M_init.2.1 289 = .ok (.sipush 192, 3) := by decide +kernel
theorem d_M_init_292 : decode Y_M_init.2.1 292 = .ok (.newarray .int, 2) := by decide +kernel
theorem d_M_init_294 : decode Y_M_init.2.1 294 = .ok (.putfield 116, 3) := by decide +kernel
theorem d_M_init_297 : decode Y_M_init.2.1 297 = .ok (.aload_n 0, 1) := by decide +kernel
theorem d_M_init_298 : decode Y_M_init.2.1 298 = .ok (.bipush 8, 2) := by decide +kernel
theorem d_M_init_300 : decode Y_M_init.2.1 300 = .ok (.newarray .int, 2) := by decide +kernel
theorem d_M_init_302 : decode Y_M_init.2.1 302 = .ok (.putfield 119, 3) := by decide +kernel
theorem d_M_init_305 : decode Y_M_init.2.1 305 = .ok (.aload_n 0, 1) := by decide +kernel
theorem d_M_init_306 : decode Y_M_init.2.1 306 = .ok (.bipush 8, 2) := by decide +kernel
theorem d_M_init_308 : decode Y_M_init.2.1 308 = .ok (.newarray .int, 2) := by decide +kernel
theorem d_M_init_310 : decode Y_M_init.2.1 310 = .ok (.putfield 122, 3) := by decide +kernel
theorem d_M_init_313 : decode Y_M_init.2.1 313 = .ok (.aload_n 0, 1) := by decide +kernel
theorem d_M_init_314 : decode Y_M_init.2.1 314 = .ok (.bipush 24, 2) := by decide +kernel
theorem d_M_init_316 : decode Y_M_init.2.1 316 = .ok (.newarray .int, 2) := by decide +kernel
theorem d_M_init_318 : decode Y_M_init.2.1 318 = .ok (.putfield 125, 3) := by decide +kernel
theorem d_M_init_321 : decode Y_M_init.2.1 321 = .ok (.aload_n 0, 1) := by decide +kernel
theorem d_M_init_322 : decode Y_M_init.2.1 322 = .ok (.sipush 240, 3) := by decide +kernel
theorem d_M_init_325 : decode Y_M_init.2.1 325 = .ok (.newarray .int, 2) := by decide +kernel
theorem d_M_init_327 : decode Y_M_init.2.1 327 = .ok (.putfield 128, 3) := by decide +kernel
theorem d_M_init_330 : decode Y_M_init.2.1 330 = .ok (.aload_n 0, 1) := by decide +kernel
theorem d_M_init_331 : decode Y_M_init.2.1 331 = .ok (.sipush 240, 3) := by decide +kernel
theorem d_M_init_334 : decode Y_M_init.2.1 334 = .ok (.newarray .boolean, 2) := by decide +kernel
theorem d_M_init_336 : decode Y_M_init.2.1 336 = .ok (.putfield 131, 3) := by decide +kernel
theorem d_M_init_339 : decode Y_M_init.2.1 339 = .ok (.aload_n 0, 1) := by decide +kernel
theorem d_M_init_340 : decode Y_M_init.2.1 340 = .ok (.bipush 8, 2) := by decide +kernel
theorem d_M_init_342 : decode Y_M_init.2.1 342 = .ok (.newarray .int, 2) := by decide +kernel
theorem d_M_init_344 : decode Y_M_init.2.1 344 = .ok (.putfield 134, 3) := by decide +kernel
theorem d_M_init_347 : decode Y_M_init.2.1 347 = .ok (.aload_n 0, 1) := by decide +kernel
theorem d_M_init_348 : decode Y_M_init.2.1 348 = .ok (.sipush 192, 3) := by decide +kernel
theorem d_M_init_351 : decode Y_M_init.2.1 351 = .ok (.newarray .int, 2) := by decide +kernel
theorem d_M_init_353 : decode Y_M_init.2.1 353 = .ok (.putfield 137, 3) := by decide +kernel
theorem d_M_init_356 : decode Y_M_init.2.1 356 = .ok (.aload_n 0, 1) := by decide +kernel
theorem d_M_init_357 : decode Y_M_init.2.1 357 = .ok (.sipush 192, 3) := by decide +kernel
theorem d_M_init_360 : decode Y_M_init.2.1 360 = .ok (.newarray .boolean, 2) := by decide +kernel
theorem d_M_init_362 : decode Y_M_init.2.1 362 = .ok (.putfield 140, 3) := by decide +kernel
theorem d_M_init_365 : decode Y_M_init.2.1 365 = .ok (.iconst 0, 1) := by decide +kernel
theorem d_M_init_366 : decode Y_M_init.2.1 366 = .ok (.istore_n 1, 1) := by decide +kernel
theorem d_M_init_367 : decode Y_M_init.2.1 367 = .ok (.iload_n 1, 1) := by decide +kernel
theorem d_M_init_368 : decode Y_M_init.2.1 368 = .ok (.sipush 144, 3) := by decide +kernel
theorem d_M_init_371 : decode Y_M_init.2.1 371 = .ok (.if_icmp .ge 16, 3) := by decide +kernel
theorem d_M_init_374 : decode Y_M_init.2.1 374 = .ok (.aload_n 0, 1) := by decide +kernel
theorem d_M_init_375 : decode Y_M_init.2.1 375 = .ok (.getfield 13, 3) := by decide +kernel
theorem d_M_init_378 : decode Y_M_init.2.1 378 = .ok (.iload_n 1, 1) := by decide +kernel
theorem d_M_init_379 : decode Y_M_init.2.1 379 = .ok (.iconst (-1), 1) := by decide +kernel
theorem d_M_init_380 : decode Y_M_init.2.1 380 = .ok (.iastore, 1) := by decide +kernel
theorem d_M_init_381 : decode Y_M_init.2.1 381 = .ok (.iinc 1 1, 3) := by decide +kernel
theorem d_M_init_384 : decode Y_M_init.2.1 384 = .ok (.goto (-17), 3) := by decide +kernel
theorem d_M_init_387 : decode Y_M_init.2.1 387 = .ok (.iconst 0, 1) := by decide +kernel
theorem d_M_init_388 : decode Y_M_init.2.1 388 = .ok (.istore_n 1, 1) := by decide +kernel
theorem d_M_init_389 : decode Y_M_init.2.1 389 = .ok (.iload_n 1, 1) := by decide +kernel
theorem d_M_init_390 : decode Y_M_init.2.1 390 = .ok (.bipush 24, 2) := by decide +kernel
theorem d_M_init_392 : decode Y_M_init.2.1 392 = .ok (.if_icmp .ge 16, 3) := by decide +kernel
theorem d_M_init_395 : decode Y_M_init.2.1 395 = .ok (.aload_n 0, 1) := by decide +kernel
theorem d_M_init_396 : decode Y_M_init.2.1 396 = .ok (.getfield 30, 3) := by decide +kernel
theorem d_M_init_399 : decode Y_M_init.2.1 399 = .ok (.iload_n 1, 1) := by decide +kernel
theorem d_M_init_400 : decode Y_M_init.2.1 400 = .ok (.iconst (-1), 1) := by decide +kernel
theorem d_M_init_401 : decode Y_M_init.2.1 401 = .ok (.iastore, 1) := by decide +kernel
theorem d_M_init_402 : decode Y_M_init.2.1 402 = .ok (.iinc 1 1, 3) := by decide +kernel
theorem d_M_init_405 : decode Y_M_init.2.1 405 = .ok (.goto (-16), 3) := by decide +kernel
theorem d_M_init_408 : decode Y_M_init.2.1 408 = .ok (.iconst 0, 1) := by decide +kernel
theorem d_M_init_409 : decode Y_M_init.2.1 409 = .ok (.istore_n 1, 1) := by decide +kernel
theorem d_M_init_410 : decode Y_M_init.2.1 410 = .ok (.iload_n 1, 1) := by decide +kernel
theorem d_M_init_411 : decode Y_M_init.2.1 411 = .ok (.sipush 192, 3) := by decide +kernel
theorem d_M_init_414 : decode Y_M_init.2.1 414 = .ok (.if_icmp .ge 16, 3) := by decide +kernel
theorem d_M_init_417 : decode Y_M_init.2.1 417 = .ok (.aload_n 0, 1) := by decide +kernel
theorem d_M_init_418 : decode Y_M_init.2.1 418 = .ok (.getfield 140, 3) := by decide +kernel
theorem d_M_init_421 : decode Y_M_init.2.1 421 = .ok (.iload_n 1, 1) := by decide +kernel
theorem d_M_init_422 : decode Y_M_init.2.1 422 = .ok (.iconst 0, 1) := by decide +kernel
theorem d_M_init_423 : decode Y_M_init.2.1 423 = .ok (.bastore, 1) := by decide +kernel
theorem d_M_init_424 : decode Y_M_init.2.1 424 = .ok (.iinc 1 1, 3) := by decide +kernel
theorem d_M_init_427 : decode Y_M_init.2.1 427 = .ok (.goto (-17), 3) := by decide +kernel
theorem d_M_init_430 : decode Y_M_init.2.1 430 = .ok (.return_, 1) := by decide +kernel
theorem d_Fr_ofNumber_0 : decode Y_Fr_ofNumber.2.1 0 = .ok (.iload_n 0, 1) := by decide +kernel
theorem d_Fr_ofNumber_1 : decode Y_Fr_ofNumber.2.1 1 = .ok (.iconst 1, 1) := by decide +kernel
theorem d_Fr_ofNumber_2 : decode Y_Fr_ofNumber.2.1 2 = .ok (.if_icmp .lt 10, 3) := by decide +kernel
theorem d_Fr_ofNumber_5 : decode Y_Fr_ofNumber.2.1 5 = .ok (.iload_n 0, 1) := by decide +kernel
theorem d_Fr_ofNumber_6 : decode Y_Fr_ofNumber.2.1 6 = .ok (.sipush 2000, 3) := by decide +kernel
theorem d_Fr_ofNumber_9 : decode Y_Fr_ofNumber.2.1 9 = .ok (.if_icmp .le 6, 3) := by decide +kernel
theorem d_Fr_ofNumber_12 : decode Y_Fr_ofNumber.2.1 12 = .ok (.ldc 15, 2) := by decide +kernel
theorem d_Fr_ofNumber_14 : decode Y_Fr_ofNumber.2.1 14 = .ok (.ireturn, 1) := by decide +kernel
theorem d_Fr_ofNumber_15 : decode Y_Fr_ofNumber.2.1 15 = .ok (.iload_n 0, 1) := by decide +kernel
theorem d_Fr_ofNumber_16 : decode Y_Fr_ofNumber.2.1 16 = .ok (.istore_n 1, 1) := by decide +kernel
theorem d_Fr_ofNumber_17 : decode Y_Fr_ofNumber.2.1 17 = .ok (.iconst 0, 1) := by decide +kernel
theorem d_Fr_ofNumber_18 : decode Y_Fr_ofNumber.2.1 18 = .ok (.istore_n 2, 1) := by decide +kernel
theorem d_Fr_ofNumber_19 : decode Y_Fr_ofNumber.2.1 19 = .ok (.iconst 0, 1) := by decide +kernel
theorem d_Fr_ofNumber_20 : decode Y_Fr_ofNumber.2.1 20 = .ok (.istore_n 3, 1) := by decide +kernel
theorem d_Fr_ofNumber_21 : decode Y_Fr_ofNumber.2.1 21 = .ok (.iload_n 3, 1) := by decide +kernel
theorem d_Fr_ofNumber_22 : decode Y_Fr_ofNumber.2.1 22 = .ok (.sipush 2000, 3) := by decide +kernel
theorem d_Fr_ofNumber_25 : decode Y_Fr_ofNumber.2.1 25 = .ok (.if_icmp .ge 70, 3) := by decide +kernel
theorem d_Fr_ofNumber_28 : decode Y_Fr_ofNumber.2.1 28 = .ok (.iload_n 1, 1) := by decide +kernel
theorem d_Fr_ofNumber_29 : decode Y_Fr_ofNumber.2.1 29 = .ok (.iconst 1, 1) := by decide +kernel
theorem d_Fr_ofNumber_30 : decode Y_Fr_ofNumber.2.1 30 = .ok (.if_icmp .le 65, 3) := by decide +kernel
theorem d_Fr_ofNumber_33 : decode Y_Fr_ofNumber.2.1 33 = .ok (.iload_n 1, 1) := by decide +kernel
theorem d_Fr_ofNumber_34 : decode Y_Fr_ofNumber.2.1 34 = .ok (.iconst 2, 1) := by decide +kernel
theorem d_Fr_ofNumber_35 : decode Y_Fr_ofNumber.2.1 35 = .ok (.irem, 1) := by decide +kernel
theorem d_Fr_ofNumber_36 : decode Y_Fr_ofNumber.2.1 36 = .ok (.ifCond .ne 15, 3) := by decide +kernel
theorem d_Fr_ofNumber_39 : decode Y_Fr_ofNumber.2.1 39 = .ok (.iload_n 1, 1) := by decide +kernel
theorem d_Fr_ofNumber_40 : decode Y_Fr_ofNumber.2.1 40 = .ok (.iconst 2, 1) := by decide +kernel
theorem d_Fr_ofNumber_41 : decode Y_Fr_ofNumber.2.1 41 = .ok (.idiv, 1) := by decide +kernel
theorem d_Fr_ofNumber_42 : decode Y_Fr_ofNumber.2.1 42 = .ok (.istore_n 1, 1) := by decide +kernel
theorem d_Fr_ofNumber_43 : decode Y_Fr_ofNumber.2.1 43 = .ok (.iload_n 2, 1) := by decide +kernel
theorem d_Fr_ofNumber_44 : decode Y_Fr_ofNumber.2.1 44 = .ok (.ldc 29, 2) := by decide +kernel
theorem d_Fr_ofNumber_46 : decode Y_Fr_ofNumber.2.1 46 = .ok (.iadd, 1) := by decide +kernel
theorem d_Fr_ofNumber_47 : decode Y_Fr_ofNumber.2.1 47 = .ok (.istore_n 2, 1) := by decide +kernel
theorem d_Fr_ofNumber_48 : decode Y_Fr_ofNumber.2.1 48 = .ok (.goto 41, 3) := by decide +kernel
theorem d_Fr_ofNumber_51 : decode Y_Fr_ofNumber.2.1 51 = .ok (.iload_n 1, 1) := by decide +kernel
theorem d_Fr_ofNumber_52 : decode Y_Fr_ofNumber.2.1 52 = .ok (.iconst 3, 1) := by decide +kernel
theorem d_Fr_ofNumber_53 : decode Y_Fr_ofNumber.2.1 53 = .ok (.irem, 1) := by decide +kernel
theorem d_Fr_ofNumber_54 : decode Y_Fr_ofNumber.2.1 54 = .ok (.ifCond .ne 16, 3) := by decide +kernel
theorem d_Fr_ofNumber_57 : decode Y_Fr_ofNumber.2.1 57 = .ok (.iload_n 1, 1) := by decide +kernel
theorem d_Fr_ofNumber_58 : decode Y_Fr_ofNumber.2.1 58 = .ok (.iconst 3, 1) := by decide +kernel
theorem d_Fr_ofNumber_59 : decode Y_Fr_ofNumber.2.1 59 = .ok (.idiv, 1) := by decide +kernel
theorem d_Fr_ofNumber_60 : decode Y_Fr_ofNumber.2.1 60 = .ok (.istore_n 1, 1) := by decide +kernel
theorem d_Fr_ofNumber_61 : decode Y_Fr_ofNumber.2.1 61 = .ok (.iinc 2 1024, 6) := by decide +kernel
theorem d_Fr_ofNumber_67 : decode Y_Fr_ofNumber.2.1 67 = .ok (.goto 22, 3) := by decide +kernel
theorem d_Fr_ofNumber_70 : decode Y_Fr_ofNumber.2.1 70 = .ok (.iload_n 1, 1) := by decide +kernel
theorem d_Fr_ofNumber_71 : decode Y_Fr_ofNumber.2.1 71 = .ok (.iconst 5, 1) := by decide +kernel
theorem d_Fr_ofNumber_72 : decode Y_Fr_ofNumber.2.1 72 = .ok (.irem, 1) := by decide +kernel
theorem d_Fr_ofNumber_73 : decode Y_Fr_ofNumber.2.1 73 = .ok (.ifCond .ne 13, 3) := by decide +kernel
theorem d_Fr_ofNumber_76 : decode Y_Fr_ofNumber.2.1 76 = .ok (.iload_n 1, 1) := by decide +kernel
theorem d_Fr_ofNumber_77 : decode Y_Fr_ofNumber.2.1 77 = .ok (.iconst 5, 1) := by decide +kernel
theorem d_Fr_ofNumber_78 : decode Y_Fr_ofNumber.2.1 78 = .ok (.idiv, 1) := by decide +kernel
theorem d_Fr_ofNumber_79 : decode Y_Fr_ofNumber.2.1 79 = .ok (.istore_n 1, 1) := by decide +kernel
theorem d_Fr_ofNumber_80 : decode Y_Fr_ofNumber.2.1 80 = .ok (.iinc 2 1, 3) := by decide +kernel
theorem d_Fr_ofNumber_83 : decode Y_Fr_ofNumber.2.1 83 = .ok (.goto 6, 3) := by decide +kernel
theorem d_Fr_ofNumber_86 : decode Y_Fr_ofNumber.2.1 86 = .ok (.ldc 15, 2) := by decide +kernel
theorem d_Fr_ofNumber_88 : decode Y_Fr_ofNumber.2.1 88 = .ok (.ireturn, 1) := by decide +kernel
theorem d_Fr_ofNumber_89 : decode Y_Fr_ofNumber.2.1 89 = .ok (.iinc 3 1, 3) := by decide +kernel
theorem d_Fr_ofNumber_92 : decode Y_Fr_ofNumber.2.1 92 = .ok (.goto (-71), 3) := by decide +kernel
theorem d_Fr_ofNumber_95 : decode Y_Fr_ofNumber.2.1 95 = .ok (.iload_n 2, 1) := by decide +kernel
theorem d_Fr_ofNumber_96 : decode Y_Fr_ofNumber.2.1 96 = .ok (.ireturn, 1) := by decide +kernel
theorem d_Fr_exponent_0 : decode Y_Fr_exponent.2.1 0 = .ok (.iload_n 0, 1) := by decide +kernel
theorem d_Fr_exponent_1 : decode Y_Fr_exponent.2.1 1 = .ok (.ldc 21, 2) := by decide +kernel
theorem d_Fr_exponent_3 : decode Y_Fr_exponent.2.1 3 = .ok (.iadd, 1) := by decide +kernel
theorem d_Fr_exponent_4 : decode Y_Fr_exponent.2.1 4 = .ok (.bipush 10, 2) := by decide +kernel
theorem d_Fr_exponent_6 : decode Y_Fr_exponent.2.1 6 = .ok (.iconst 3, 1) := by decide +kernel
theorem d_Fr_exponent_7 : decode Y_Fr_exponent.2.1 7 = .ok (.iload_n 1, 1) := by decide +kernel
theorem d_Fr_exponent_8 : decode Y_Fr_exponent.2.1 8 = .ok (.isub, 1) := by decide +kernel
theorem d_Fr_exponent_9 : decode Y_Fr_exponent.2.1 9 = .ok (.imul, 1) := by decide +kernel
theorem d_Fr_exponent_10 : decode Y_Fr_exponent.2.1 10 = .ok (.ishr, 1) := by decide +kernel
theorem d_Fr_exponent_11 : decode Y_Fr_exponent.2.1 11 = .ok (.istore_n 2, 1) := by decide +kernel
theorem d_Fr_exponent_12 : decode Y_Fr_exponent.2.1 12 = .ok (.iload_n 2, 1) := by decide +kernel
theorem d_Fr_exponent_13 : decode Y_Fr_exponent.2.1 13 = .ok (.sipush 1023, 3) := by decide +kernel
theorem d_Fr_exponent_16 : decode Y_Fr_exponent.2.1 16 = .ok (.iand, 1) := by decide +kernel
theorem d_Fr_exponent_17 : decode Y_Fr_exponent.2.1 17 = .ok (.sipush 512, 3) := by decide +kernel
theorem d_Fr_exponent_20 : decode Y_Fr_exponent.2.1 20 = .ok (.isub, 1) := by decide +kernel
theorem d_Fr_exponent_21 : decode Y_Fr_exponent.2.1 21 = .ok (.ireturn, 1) := by decide +kernel
theorem d_Fr_mills_0 : decode Y_Fr_mills.2.1 0 = .ok (.ldc 22, 2) := by decide +kernel
theorem d_Fr_mills_2 : decode Y_Fr_mills.2.1 2 = .ok (.iload_n 0, 1) := by decide +kernel
theorem d_Fr_mills_3 : decode Y_Fr_mills.2.1 3 = .ok (.iconst 1, 1) := by decide +kernel
theorem d_Fr_mills_4 : decode Y_Fr_mills.2.1 4 = .ok (.invokestatic 23, 3) := by decide +kernel
theorem d_Fr_mills_7 : decode Y_Fr_mills.2.1 7 = .ok (.imul, 1) := by decide +kernel
theorem d_Fr_mills_8 : decode Y_Fr_mills.2.1 8 = .ok (.ldc 27, 2) := by decide +kernel
theorem d_Fr_mills_10 : decode Y_Fr_mills.2.1 10 = .ok (.iload_n 0, 1) := by decide +kernel
theorem d_Fr_mills_11 : decode Y_Fr_mills.2.1 11 = .ok (.iconst 2, 1) := by decide +kernel
theorem d_Fr_mills_12 : decode Y_Fr_mills.2.1 12 = .ok (.invokestatic 23, 3) := by decide +kernel
theorem d_Fr_mills_15 : decode Y_Fr_mills.2.1 15 = .ok (.imul, 1) := by decide +kernel
theorem d_Fr_mills_16 : decode Y_Fr_mills.2.1 16 = .ok (.iadd, 1) := by decide +kernel
theorem d_Fr_mills_17 : decode Y_Fr_mills.2.1 17 = .ok (.ldc 28, 2) := by decide +kernel
theorem d_Fr_mills_19 : decode Y_Fr_mills.2.1 19 = .ok (.iload_n 0, 1) := by decide +kernel
theorem d_Fr_mills_20 : decode Y_Fr_mills.2.1 20 = .ok (.iconst 3, 1) := by decide +kernel
theorem d_Fr_mills_21 : decode Y_Fr_mills.2.1 21 = .ok (.invokestatic 23, 3) := by decide +kernel
theorem d_Fr_mills_24 : decode Y_Fr_mills.2.1 24 = .ok (.imul, 1) := by decide +kernel
theorem d_Fr_mills_25 : decode Y_Fr_mills.2.1 25 = .ok (.iadd, 1) := by decide +kernel
theorem d_Fr_mills_26 : decode Y_Fr_mills.2.1 26 = .ok (.ireturn, 1) := by decide +kernel
theorem d_Fr_of_0 : decode Y_Fr_of.2.1 0 = .ok (.iload_n 0, 1) := by decide +kernel
theorem d_Fr_of_1 : decode Y_Fr_of.2.1 1 = .ok (.invokestatic 11, 3) := by decide +kernel
theorem d_Fr_of_4 : decode Y_Fr_of.2.1 4 = .ok (.istore_n 2, 1) := by decide +kernel
theorem d_Fr_of_5 : decode Y_Fr_of.2.1 5 = .ok (.iload_n 1, 1) := by decide +kernel
theorem d_Fr_of_6 : decode Y_Fr_of.2.1 6 = .ok (.invokestatic 11, 3) := by decide +kernel
theorem d_Fr_of_9 : decode Y_Fr_of.2.1 9 = .ok (.istore_n 3, 1) := by decide +kernel
theorem d_Fr_of_10 : decode Y_Fr_of.2.1 10 = .ok (.iload_n 2, 1) := by decide +kernel
theorem d_Fr_of_11 : decode Y_Fr_of.2.1 11 = .ok (.ldc 15, 2) := by decide +kernel
theorem d_Fr_of_13 : decode Y_Fr_of.2.1 13 = .ok (.if_icmp .eq 9, 3) := by decide +kernel
theorem d_Fr_of_16 : decode Y_Fr_of.2.1 16 = .ok (.iload_n 3, 1) := by decide +kernel
theorem d_Fr_of_17 : decode Y_Fr_of.2.1 17 = .ok (.ldc 15, 2) := by decide +kernel
theorem d_Fr_of_19 : decode Y_Fr_of.2.1 19 = .ok (.if_icmp .ne 6, 3) := by decide +kernel
theorem d_Fr_of_22 : decode Y_Fr_of.2.1 22 = .ok (.ldc 15, 2) := by decide +kernel
theorem d_Fr_of_24 : decode Y_Fr_of.2.1 24 = .ok (.ireturn, 1) := by decide +kernel
theorem d_Fr_of_25 : decode Y_Fr_of.2.1 25 = .ok (.iload_n 2, 1) := by decide +kernel
theorem d_Fr_of_26 : decode Y_Fr_of.2.1 26 = .ok (.iload_n 3, 1) := by decide +kernel
theorem d_Fr_of_27 : decode Y_Fr_of.2.1 27 = .ok (.isub, 1) := by decide +kernel
theorem d_Fr_of_28 : decode Y_Fr_of.2.1 28 = .ok (.istore 4, 2) := by decide +kernel
theorem d_Fr_of_30 : decode Y_Fr_of.2.1 30 = .ok (.iload 4, 2) := by decide +kernel
theorem d_Fr_of_32 : decode Y_Fr_of.2.1 32 = .ok (.invokestatic 16, 3) := by decide +kernel
theorem d_Fr_of_35 : decode Y_Fr_of.2.1 35 = .ok (.istore 5, 2) := by decide +kernel
theorem d_Fr_of_37 : decode Y_Fr_of.2.1 37 = .ok (.iload 5, 2) := by decide +kernel
theorem d_Fr_of_39 : decode Y_Fr_of.2.1 39 = .ok (.ldc 19, 2) := by decide +kernel
theorem d_Fr_of_41 : decode Y_Fr_of.2.1 41 = .ok (.if_icmp .lt 10, 3) := by decide +kernel
theorem d_Fr_of_44 : decode Y_Fr_of.2.1 44 = .ok (.iload 5, 2) := by decide +kernel
theorem d_Fr_of_46 : decode Y_Fr_of.2.1 46 = .ok (.ldc 20, 2) := by decide +kernel
theorem d_Fr_of_48 : decode Y_Fr_of.2.1 48 = .ok (.if_icmp .le 8, 3) := by decide +kernel
theorem d_Fr_of_51 : decode Y_Fr_of.2.1 51 = .ok (.ldc 15, 2) := by decide +kernel
theorem d_Fr_of_53 : decode Y_Fr_of.2.1 53 = .ok (.goto 5, 3) := by decide +kernel
theorem d_Fr_of_56 : decode Y_Fr_of.2.1 56 = .ok (.iload 4, 2) := by decide +kernel
theorem d_Fr_of_58 : decode Y_Fr_of.2.1 58 = .ok (.ireturn, 1) := by decide +kernel
theorem d_Sc_has_0 : decode Y_Sc_has.2.1 0 = .ok (.iload_n 0, 1) := by decide +kernel
theorem d_Sc_has_1 : decode Y_Sc_has.2.1 1 = .ok (.ifCond .lt 23, 3) := by decide +kernel
theorem d_Sc_has_4 : decode Y_Sc_has.2.1 4 = .ok (.iload_n 0, 1) := by decide +kernel
theorem d_Sc_has_5 : decode Y_Sc_has.2.1 5 = .ok (.bipush 6, 2) := by decide +kernel
theorem d_Sc_has_7 : decode Y_Sc_has.2.1 7 = .ok (.if_icmp .ge 17, 3) := by decide +kernel
theorem d_Sc_has_10 : decode Y_Sc_has.2.1 10 = .ok (.iload_n 1, 1) := by decide +kernel
theorem d_Sc_has_11 : decode Y_Sc_has.2.1 11 = .ok (.ifCond .lt 13, 3) := by decide +kernel
theorem d_Sc_has_14 : decode Y_Sc_has.2.1 14 = .ok (.iload_n 1, 1) := by decide +kernel
theorem d_Sc_has_15 : decode Y_Sc_has.2.1 15 = .ok (.bipush 24, 2) := by decide +kernel
theorem d_Sc_has_17 : decode Y_Sc_has.2.1 17 = .ok (.if_icmp .ge 7, 3) := by decide +kernel
theorem d_Sc_has_20 : decode Y_Sc_has.2.1 20 = .ok (.iconst 1, 1) := by decide +kernel
theorem d_Sc_has_21 : decode Y_Sc_has.2.1 21 = .ok (.goto 4, 3) := by decide +kernel
theorem d_Sc_has_24 : decode Y_Sc_has.2.1 24 = .ok (.iconst 0, 1) := by decide +kernel
theorem d_Sc_has_25 : decode Y_Sc_has.2.1 25 = .ok (.ireturn, 1) := by decide +kernel
theorem d_Sc_cell_0 : decode Y_Sc_cell.2.1 0 = .ok (.iload_n 0, 1) := by decide +kernel
theorem d_Sc_cell_1 : decode Y_Sc_cell.2.1 1 = .ok (.bipush 24, 2) := by decide +kernel
theorem d_Sc_cell_3 : decode Y_Sc_cell.2.1 3 = .ok (.imul, 1) := by decide +kernel
theorem d_Sc_cell_4 : decode Y_Sc_cell.2.1 4 = .ok (.iload_n 1, 1) := by decide +kernel
theorem d_Sc_cell_5 : decode Y_Sc_cell.2.1 5 = .ok (.iadd, 1) := by decide +kernel
theorem d_Sc_cell_6 : decode Y_Sc_cell.2.1 6 = .ok (.ireturn, 1) := by decide +kernel
theorem d_Sc_sounds_0 : decode Y_Sc_sounds.2.1 0 = .ok (.iload_n 1, 1) := by decide +kernel
theorem d_Sc_sounds_1 : decode Y_Sc_sounds.2.1 1 = .ok (.ifCond .lt 38, 3) := by decide +kernel
theorem d_Sc_sounds_4 : decode Y_Sc_sounds.2.1 4 = .ok (.iload_n 1, 1) := by decide +kernel
theorem d_Sc_sounds_5 : decode Y_Sc_sounds.2.1 5 = .ok (.bipush 6, 2) := by decide +kernel
theorem d_Sc_sounds_7 : decode Y_Sc_sounds.2.1 7 = .ok (.if_icmp .ge 32, 3) := by decide +kernel
theorem d_Sc_sounds_10 : decode Y_Sc_sounds.2.1 10 = .ok (.iload_n 2, 1) := by decide +kernel
theorem d_Sc_sounds_11 : decode Y_Sc_sounds.2.1 11 = .ok (.ifCond .lt 28, 3) := by decide +kernel
theorem d_Sc_sounds_14 : decode Y_Sc_sounds.2.1 14 = .ok (.iload_n 2, 1) := by decide +kernel
theorem d_Sc_sounds_15 : decode Y_Sc_sounds.2.1 15 = .ok (.bipush 24, 2) := by decide +kernel
theorem d_Sc_sounds_17 : decode Y_Sc_sounds.2.1 17 = .ok (.if_icmp .ge 22, 3) := by decide +kernel
theorem d_Sc_sounds_20 : decode Y_Sc_sounds.2.1 20 = .ok (.aload_n 0, 1) := by decide +kernel
theorem d_Sc_sounds_21 : decode Y_Sc_sounds.2.1 21 = .ok (.getfield 9, 3) := by decide +kernel
theorem d_Sc_sounds_24 : decode Y_Sc_sounds.2.1 24 = .ok (.iload_n 1, 1) := by decide +kernel
theorem d_Sc_sounds_25 : decode Y_Sc_sounds.2.1 25 = .ok (.bipush 24, 2) := by decide +kernel
theorem d_Sc_sounds_27 : decode Y_Sc_sounds.2.1 27 = .ok (.imul, 1) := by decide +kernel
theorem d_Sc_sounds_28 : decode Y_Sc_sounds.2.1 28 = .ok (.iload_n 2, 1) := by decide +kernel
theorem d_Sc_sounds_29 : decode Y_Sc_sounds.2.1 29 = .ok (.iadd, 1) := by decide +kernel
theorem d_Sc_sounds_30 : decode Y_Sc_sounds.2.1 30 = .ok (.iaload, 1) := by decide +kernel
theorem d_Sc_sounds_31 : decode Y_Sc_sounds.2.1 31 = .ok (.iconst (-1), 1) := by decide +kernel
theorem d_Sc_sounds_32 : decode Y_Sc_sounds.2.1 32 = .ok (.if_icmp .eq 7, 3) := by decide +kernel
theorem d_Sc_sounds_35 : decode Y_Sc_sounds.2.1 35 = .ok (.iconst 1, 1) := by decide +kernel
theorem d_Sc_sounds_36 : decode Y_Sc_sounds.2.1 36 = .ok (.goto 4, 3) := by decide +kernel
theorem d_Sc_sounds_39 : decode Y_Sc_sounds.2.1 39 = .ok (.iconst 0, 1) := by decide +kernel
theorem d_Sc_sounds_40 : decode Y_Sc_sounds.2.1 40 = .ok (.ireturn, 1) := by decide +kernel
theorem d_Sc_holds_0 : decode Y_Sc_holds.2.1 0 = .ok (.aload_n 0, 1) := by decide +kernel
theorem d_Sc_holds_1 : decode Y_Sc_holds.2.1 1 = .ok (.iload_n 1, 1) := by decide +kernel
theorem d_Sc_holds_2 : decode Y_Sc_holds.2.1 2 = .ok (.iload_n 2, 1) := by decide +kernel
theorem d_Sc_holds_3 : decode Y_Sc_holds.2.1 3 = .ok (.invokevirtual 39, 3) := by decide +kernel
theorem d_Sc_holds_6 : decode Y_Sc_holds.2.1 6 = .ok (.ifCond .eq 45, 3) := by decide +kernel
theorem d_Sc_holds_9 : decode Y_Sc_holds.2.1 9 = .ok (.aload_n 0, 1) := by decide +kernel
theorem d_Sc_holds_10 : decode Y_Sc_holds.2.1 10 = .ok (.iload_n 1, 1) := by decide +kernel
theorem d_Sc_holds_11 : decode Y_Sc_holds.2.1 11 = .ok (.iload_n 2, 1) := by decide +kernel
theorem d_Sc_holds_12 : decode Y_Sc_holds.2.1 12 = .ok (.iconst 1, 1) := by decide +kernel
theorem d_Sc_holds_13 : decode Y_Sc_holds.2.1 13 = .ok (.isub, 1) := by decide +kernel
theorem d_Sc_holds_14 : decode Y_Sc_holds.2.1 14 = .ok (.invokevirtual 39, 3) := by decide +kernel
theorem d_Sc_holds_17 : decode Y_Sc_holds.2.1 17 = .ok (.ifCond .eq 34, 3) := by decide +kernel
theorem d_Sc_holds_20 : decode Y_Sc_holds.2.1 20 = .ok (.aload_n 0, 1) := by decide +kernel
theorem d_Sc_holds_21 : decode Y_Sc_holds.2.1 21 = .ok (.getfield 9, 3) := by decide +kernel
theorem d_Sc_holds_24 : decode Y_Sc_holds.2.1 24 = .ok (.iload_n 1, 1) := by decide +kernel
theorem d_Sc_holds_25 : decode Y_Sc_holds.2.1 25 = .ok (.bipush 24, 2) := by decide +kernel
theorem d_Sc_holds_27 : decode Y_Sc_holds.2.1 27 = .ok (.imul, 1) := by decide +kernel
theorem d_Sc_holds_28 : decode Y_Sc_holds.2.1 28 = .ok (.iload_n 2, 1) := by decide +kernel
theorem d_Sc_holds_29 : decode Y_Sc_holds.2.1 29 = .ok (.iadd, 1) := by decide +kernel
theorem d_Sc_holds_30 : decode Y_Sc_holds.2.1 30 = .ok (.iaload, 1) := by decide +kernel
theorem d_Sc_holds_31 : decode Y_Sc_holds.2.1 31 = .ok (.aload_n 0, 1) := by decide +kernel
theorem d_Sc_holds_32 : decode Y_Sc_holds.2.1 32 = .ok (.getfield 9, 3) := by decide +kernel
theorem d_Sc_holds_35 : decode Y_Sc_holds.2.1 35 = .ok (.iload_n 1, 1) := by decide +kernel
theorem d_Sc_holds_36 : decode Y_Sc_holds.2.1 36 = .ok (.bipush 24, 2) := by decide +kernel
theorem d_Sc_holds_38 : decode Y_Sc_holds.2.1 38 = .ok (.imul, 1) := by decide +kernel
theorem d_Sc_holds_39 : decode Y_Sc_holds.2.1 39 = .ok (.iload_n 2, 1) := by decide +kernel
theorem d_Sc_holds_40 : decode Y_Sc_holds.2.1 40 = .ok (.iadd, 1) := by decide +kernel
theorem d_Sc_holds_41 : decode Y_Sc_holds.2.1 41 = .ok (.iconst 1, 1) := by decide +kernel
theorem d_Sc_holds_42 : decode Y_Sc_holds.2.1 42 = .ok (.isub, 1) := by decide +kernel
theorem d_Sc_holds_43 : decode Y_Sc_holds.2.1 43 = .ok (.iaload, 1) := by decide +kernel
theorem d_Sc_holds_44 : decode Y_Sc_holds.2.1 44 = .ok (.if_icmp .ne 7, 3) := by decide +kernel
theorem d_Sc_holds_47 : decode Y_Sc_holds.2.1 47 = .ok (.iconst 1, 1) := by decide +kernel
theorem d_Sc_holds_48 : decode Y_Sc_holds.2.1 48 = .ok (.goto 4, 3) := by decide +kernel
theorem d_Sc_holds_51 : decode Y_Sc_holds.2.1 51 = .ok (.iconst 0, 1) := by decide +kernel
theorem d_Sc_holds_52 : decode Y_Sc_holds.2.1 52 = .ok (.ireturn, 1) := by decide +kernel
theorem d_Sc_shift_0 : decode Y_Sc_shift.2.1 0 = .ok (.aload_n 0, 1) := by decide +kernel
theorem d_Sc_shift_1 : decode Y_Sc_shift.2.1 1 = .ok (.iload_n 1, 1) := by decide +kernel
theorem d_Sc_shift_2 : decode Y_Sc_shift.2.1 2 = .ok (.iload_n 2, 1) := by decide +kernel
theorem d_Sc_shift_3 : decode Y_Sc_shift.2.1 3 = .ok (.invokevirtual 55, 3) := by decide +kernel
theorem d_Sc_shift_6 : decode Y_Sc_shift.2.1 6 = .ok (.ifCond .eq 29, 3) := by decide +kernel
theorem d_Sc_shift_9 : decode Y_Sc_shift.2.1 9 = .ok (.aload_n 0, 1) := by decide +kernel
theorem d_Sc_shift_10 : decode Y_Sc_shift.2.1 10 = .ok (.getfield 15, 3) := by decide +kernel
theorem d_Sc_shift_13 : decode Y_Sc_shift.2.1 13 = .ok (.iload_n 1, 1) := by decide +kernel
theorem d_Sc_shift_14 : decode Y_Sc_shift.2.1 14 = .ok (.iload_n 2, 1) := by decide +kernel
theorem d_Sc_shift_15 : decode Y_Sc_shift.2.1 15 = .ok (.iconst 1, 1) := by decide +kernel
theorem d_Sc_shift_16 : decode Y_Sc_shift.2.1 16 = .ok (.isub, 1) := by decide +kernel
theorem d_Sc_shift_17 : decode Y_Sc_shift.2.1 17 = .ok (.invokestatic 46, 3) := by decide +kernel
theorem d_Sc_shift_20 : decode Y_Sc_shift.2.1 20 = .ok (.iaload, 1) := by decide +kernel
theorem d_Sc_shift_21 : decode Y_Sc_shift.2.1 21 = .ok (.aload_n 0, 1) := by decide +kernel
theorem d_Sc_shift_22 : decode Y_Sc_shift.2.1 22 = .ok (.getfield 15, 3) := by decide +kernel
theorem d_Sc_shift_25 : decode Y_Sc_shift.2.1 25 = .ok (.iload_n 1, 1) := by decide +kernel
theorem d_Sc_shift_26 : decode Y_Sc_shift.2.1 26 = .ok (.iload_n 2, 1) := by decide +kernel
theorem d_Sc_shift_27 : decode Y_Sc_shift.2.1 27 = .ok (.invokestatic 46, 3) := by decide +kernel
theorem d_Sc_shift_30 : decode Y_Sc_shift.2.1 30 = .ok (.iaload, 1) := by decide +kernel
theorem d_Sc_shift_31 : decode Y_Sc_shift.2.1 31 = .ok (.isub, 1) := by decide +kernel
theorem d_Sc_shift_32 : decode Y_Sc_shift.2.1 32 = .ok (.goto 4, 3) := by decide +kernel
theorem d_Sc_shift_35 : decode Y_Sc_shift.2.1 35 = .ok (.iconst 0, 1) := by decide +kernel
theorem d_Sc_shift_36 : decode Y_Sc_shift.2.1 36 = .ok (.ireturn, 1) := by decide +kernel
theorem d_Sc_tune_0 : decode Y_Sc_tune.2.1 0 = .ok (.iconst 1, 1) := by decide +kernel
theorem d_Sc_tune_1 : decode Y_Sc_tune.2.1 1 = .ok (.istore_n 1, 1) := by decide +kernel
theorem d_Sc_tune_2 : decode Y_Sc_tune.2.1 2 = .ok (.iload_n 1, 1) := by decide +kernel
theorem d_Sc_tune_3 : decode Y_Sc_tune.2.1 3 = .ok (.bipush 24, 2) := by decide +kernel
theorem d_Sc_tune_5 : decode Y_Sc_tune.2.1 5 = .ok (.if_icmp .ge 50, 3) := by decide +kernel
theorem d_Sc_tune_8 : decode Y_Sc_tune.2.1 8 = .ok (.aload_n 0, 1) := by decide +kernel
theorem d_Sc_tune_9 : decode Y_Sc_tune.2.1 9 = .ok (.getfield 30, 3) := by decide +kernel
theorem d_Sc_tune_12 : decode Y_Sc_tune.2.1 12 = .ok (.iload_n 1, 1) := by decide +kernel
theorem d_Sc_tune_13 : decode Y_Sc_tune.2.1 13 = .ok (.aload_n 0, 1) := by decide +kernel
theorem d_Sc_tune_14 : decode Y_Sc_tune.2.1 14 = .ok (.getfield 30, 3) := by decide +kernel
theorem d_Sc_tune_17 : decode Y_Sc_tune.2.1 17 = .ok (.iload_n 1, 1) := by decide +kernel
theorem d_Sc_tune_18 : decode Y_Sc_tune.2.1 18 = .ok (.iconst 1, 1) := by decide +kernel
theorem d_Sc_tune_19 : decode Y_Sc_tune.2.1 19 = .ok (.isub, 1) := by decide +kernel
theorem d_Sc_tune_20 : decode Y_Sc_tune.2.1 20 = .ok (.iaload, 1) := by decide +kernel
theorem d_Sc_tune_21 : decode Y_Sc_tune.2.1 21 = .ok (.aload_n 0, 1) := by decide +kernel
theorem d_Sc_tune_22 : decode Y_Sc_tune.2.1 22 = .ok (.aload_n 0, 1) := by decide +kernel
theorem d_Sc_tune_23 : decode Y_Sc_tune.2.1 23 = .ok (.getfield 24, 3) := by decide +kernel
theorem d_Sc_tune_26 : decode Y_Sc_tune.2.1 26 = .ok (.iload_n 1, 1) := by decide +kernel
theorem d_Sc_tune_27 : decode Y_Sc_tune.2.1 27 = .ok (.iaload, 1) := by decide +kernel
theorem d_Sc_tune_28 : decode Y_Sc_tune.2.1 28 = .ok (.iload_n 1, 1) := by decide +kernel
theorem d_Sc_tune_29 : decode Y_Sc_tune.2.1 29 = .ok (.invokevirtual 61, 3) := by decide +kernel
theorem d_Sc_tune_32 : decode Y_Sc_tune.2.1 32 = .ok (.iadd, 1) := by decide +kernel
theorem d_Sc_tune_33 : decode Y_Sc_tune.2.1 33 = .ok (.iastore, 1) := by decide +kernel
theorem d_Sc_tune_34 : decode Y_Sc_tune.2.1 34 = .ok (.aload_n 0, 1) := by decide +kernel
theorem d_Sc_tune_35 : decode Y_Sc_tune.2.1 35 = .ok (.getfield 27, 3) := by decide +kernel
theorem d_Sc_tune_38 : decode Y_Sc_tune.2.1 38 = .ok (.iload_n 1, 1) := by decide +kernel
theorem d_Sc_tune_39 : decode Y_Sc_tune.2.1 39 = .ok (.aload_n 0, 1) := by decide +kernel
theorem d_Sc_tune_40 : decode Y_Sc_tune.2.1 40 = .ok (.getfield 30, 3) := by decide +kernel
theorem d_Sc_tune_43 : decode Y_Sc_tune.2.1 43 = .ok (.iload_n 1, 1) := by decide +kernel
theorem d_Sc_tune_44 : decode Y_Sc_tune.2.1 44 = .ok (.iaload, 1) := by decide +kernel
theorem d_Sc_tune_45 : decode Y_Sc_tune.2.1 45 = .ok (.invokestatic 50, 3) := by decide +kernel
theorem d_Sc_tune_48 : decode Y_Sc_tune.2.1 48 = .ok (.iastore, 1) := by decide +kernel
theorem d_Sc_tune_49 : decode Y_Sc_tune.2.1 49 = .ok (.iinc 1 1, 3) := by decide +kernel
theorem d_Sc_tune_52 : decode Y_Sc_tune.2.1 52 = .ok (.goto (-50), 3) := by decide +kernel
theorem d_Sc_tune_55 : decode Y_Sc_tune.2.1 55 = .ok (.return_, 1) := by decide +kernel
theorem d_Sc_put_0 : decode Y_Sc_put.2.1 0 = .ok (.iload_n 1, 1) := by decide +kernel
theorem d_Sc_put_1 : decode Y_Sc_put.2.1 1 = .ok (.iload_n 2, 1) := by decide +kernel
theorem d_Sc_put_2 : decode Y_Sc_put.2.1 2 = .ok (.invokestatic 43, 3) := by decide +kernel
theorem d_Sc_put_5 : decode Y_Sc_put.2.1 5 = .ok (.ifCond .ne 4, 3) := by decide +kernel
theorem d_Sc_put_8 : decode Y_Sc_put.2.1 8 = .ok (.return_, 1) := by decide +kernel
theorem d_Sc_put_9 : decode Y_Sc_put.2.1 9 = .ok (.aload_n 0, 1) := by decide +kernel
theorem d_Sc_put_10 : decode Y_Sc_put.2.1 10 = .ok (.getfield 9, 3) := by decide +kernel
theorem d_Sc_put_13 : decode Y_Sc_put.2.1 13 = .ok (.iload_n 1, 1) := by decide +kernel
theorem d_Sc_put_14 : decode Y_Sc_put.2.1 14 = .ok (.iload_n 2, 1) := by decide +kernel
theorem d_Sc_put_15 : decode Y_Sc_put.2.1 15 = .ok (.invokestatic 46, 3) := by decide +kernel
theorem d_Sc_put_18 : decode Y_Sc_put.2.1 18 = .ok (.iload_n 3, 1) := by decide +kernel
theorem d_Sc_put_19 : decode Y_Sc_put.2.1 19 = .ok (.iastore, 1) := by decide +kernel
theorem d_Sc_put_20 : decode Y_Sc_put.2.1 20 = .ok (.aload_n 0, 1) := by decide +kernel
theorem d_Sc_put_21 : decode Y_Sc_put.2.1 21 = .ok (.getfield 15, 3) := by decide +kernel
theorem d_Sc_put_24 : decode Y_Sc_put.2.1 24 = .ok (.iload_n 1, 1) := by decide +kernel
theorem d_Sc_put_25 : decode Y_Sc_put.2.1 25 = .ok (.iload_n 2, 1) := by decide +kernel
theorem d_Sc_put_26 : decode Y_Sc_put.2.1 26 = .ok (.invokestatic 46, 3) := by decide +kernel
theorem d_Sc_put_29 : decode Y_Sc_put.2.1 29 = .ok (.iload 4, 2) := by decide +kernel
theorem d_Sc_put_31 : decode Y_Sc_put.2.1 31 = .ok (.iastore, 1) := by decide +kernel
theorem d_Sc_put_32 : decode Y_Sc_put.2.1 32 = .ok (.aload_n 0, 1) := by decide +kernel
theorem d_Sc_put_33 : decode Y_Sc_put.2.1 33 = .ok (.getfield 18, 3) := by decide +kernel
theorem d_Sc_put_36 : decode Y_Sc_put.2.1 36 = .ok (.iload_n 1, 1) := by decide +kernel
theorem d_Sc_put_37 : decode Y_Sc_put.2.1 37 = .ok (.iload_n 2, 1) := by decide +kernel
theorem d_Sc_put_38 : decode Y_Sc_put.2.1 38 = .ok (.invokestatic 46, 3) := by decide +kernel
theorem d_Sc_put_41 : decode Y_Sc_put.2.1 41 = .ok (.iload 4, 2) := by decide +kernel
theorem d_Sc_put_43 : decode Y_Sc_put.2.1 43 = .ok (.invokestatic 50, 3) := by decide +kernel
theorem d_Sc_put_46 : decode Y_Sc_put.2.1 46 = .ok (.iastore, 1) := by decide +kernel
theorem d_Sc_put_47 : decode Y_Sc_put.2.1 47 = .ok (.iload_n 2, 1) := by decide +kernel
theorem d_Sc_put_48 : decode Y_Sc_put.2.1 48 = .ok (.istore 5, 2) := by decide +kernel
theorem d_Sc_put_50 : decode Y_Sc_put.2.1 50 = .ok (.iload 5, 2) := by decide +kernel
theorem d_Sc_put_52 : decode Y_Sc_put.2.1 52 = .ok (.iload_n 2, 1) := by decide +kernel
theorem d_Sc_put_53 : decode Y_Sc_put.2.1 53 = .ok (.iconst 1, 1) := by decide +kernel
theorem d_Sc_put_54 : decode Y_Sc_put.2.1 54 = .ok (.iadd, 1) := by decide +kernel
theorem d_Sc_put_55 : decode Y_Sc_put.2.1 55 = .ok (.if_icmp .gt 45, 3) := by decide +kernel
theorem d_Sc_put_58 : decode Y_Sc_put.2.1 58 = .ok (.iload 5, 2) := by decide +kernel
theorem d_Sc_put_60 : decode Y_Sc_put.2.1 60 = .ok (.bipush 24, 2) := by decide +kernel
theorem d_Sc_put_62 : decode Y_Sc_put.2.1 62 = .ok (.if_icmp .ge 38, 3) := by decide +kernel
theorem d_Sc_put_65 : decode Y_Sc_put.2.1 65 = .ok (.aload_n 0, 1) := by decide +kernel
theorem d_Sc_put_66 : decode Y_Sc_put.2.1 66 = .ok (.getfield 24, 3) := by decide +kernel
theorem d_Sc_put_69 : decode Y_Sc_put.2.1 69 = .ok (.iload 5, 2) := by decide +kernel
theorem d_Sc_put_71 : decode Y_Sc_put.2.1 71 = .ok (.iaload, 1) := by decide +kernel
theorem d_Sc_put_72 : decode Y_Sc_put.2.1 72 = .ok (.iload_n 1, 1) := by decide +kernel
theorem d_Sc_put_73 : decode Y_Sc_put.2.1 73 = .ok (.if_icmp .ne 21, 3) := by decide +kernel
theorem d_Sc_put_76 : decode Y_Sc_put.2.1 76 = .ok (.aload_n 0, 1) := by decide +kernel
theorem d_Sc_put_77 : decode Y_Sc_put.2.1 77 = .ok (.iload_n 1, 1) := by decide +kernel
theorem d_Sc_put_78 : decode Y_Sc_put.2.1 78 = .ok (.iload 5, 2) := by decide +kernel
theorem d_Sc_put_80 : decode Y_Sc_put.2.1 80 = .ok (.invokevirtual 55, 3) := by decide +kernel
theorem d_Sc_put_83 : decode Y_Sc_put.2.1 83 = .ok (.ifCond .ne 11, 3) := by decide +kernel
theorem d_Sc_put_86 : decode Y_Sc_put.2.1 86 = .ok (.aload_n 0, 1) := by decide +kernel
theorem d_Sc_put_87 : decode Y_Sc_put.2.1 87 = .ok (.getfield 24, 3) := by decide +kernel
theorem d_Sc_put_90 : decode Y_Sc_put.2.1 90 = .ok (.iload 5, 2) := by decide +kernel
theorem d_Sc_put_92 : decode Y_Sc_put.2.1 92 = .ok (.iconst (-1), 1) := by decide +kernel
theorem d_Sc_put_93 : decode Y_Sc_put.2.1 93 = .ok (.iastore, 1) := by decide +kernel
theorem d_Sc_put_94 : decode Y_Sc_put.2.1 94 = .ok (.iinc 5 1, 3) := by decide +kernel
theorem d_Sc_put_97 : decode Y_Sc_put.2.1 97 = .ok (.goto (-47), 3) := by decide +kernel
theorem d_Sc_put_100 : decode Y_Sc_put.2.1 100 = .ok (.aload_n 0, 1) := by decide +kernel
theorem d_Sc_put_101 : decode Y_Sc_put.2.1 101 = .ok (.invokevirtual 58, 3) := by decide +kernel
theorem d_Sc_put_104 : decode Y_Sc_put.2.1 104 = .ok (.return_, 1) := by decide +kernel
theorem d_X_changed_0 : decode Y_X_changed.2.1 0 = .ok (.aload_n 0, 1) := by decide +kernel
theorem d_X_changed_1 : decode Y_X_changed.2.1 1 = .ok (.dup, 1) := by decide +kernel
theorem d_X_changed_2 : decode Y_X_changed.2.1 2 = .ok (.getfield 274, 3) := by decide +kernel
theorem d_X_changed_5 : decode Y_X_changed.2.1 5 = .ok (.iconst 1, 1) := by decide +kernel
theorem d_X_changed_6 : decode Y_X_changed.2.1 6 = .ok (.iadd, 1) := by decide +kernel
theorem d_X_changed_7 : decode Y_X_changed.2.1 7 = .ok (.putfield 274, 3) := by decide +kernel
theorem d_X_changed_10 : decode Y_X_changed.2.1 10 = .ok (.iconst 1, 1) := by decide +kernel
theorem d_X_changed_11 : decode Y_X_changed.2.1 11 = .ok (.ireturn, 1) := by decide +kernel
theorem d_X_note_0 : decode Y_X_note.2.1 0 = .ok (.iload 4, 2) := by decide +kernel
theorem d_X_note_2 : decode Y_X_note.2.1 2 = .ok (.iload 5, 2) := by decide +kernel
theorem d_X_note_4 : decode Y_X_note.2.1 4 = .ok (.invokestatic 73, 3) := by decide +kernel
theorem d_X_note_7 : decode Y_X_note.2.1 7 = .ok (.istore 6, 2) := by decide +kernel
theorem d_X_note_9 : decode Y_X_note.2.1 9 = .ok (.iload_n 1, 1) := by decide +kernel
theorem d_X_note_10 : decode Y_X_note.2.1 10 = .ok (.iload_n 2, 1) := by decide +kernel
theorem d_X_note_11 : decode Y_X_note.2.1 11 = .ok (.invokestatic 79, 3) := by decide +kernel
theorem d_X_note_14 : decode Y_X_note.2.1 14 = .ok (.ifCond .eq 20, 3) := by decide +kernel
theorem d_X_note_17 : decode Y_X_note.2.1 17 = .ok (.iload_n 3, 1) := by decide +kernel
theorem d_X_note_18 : decode Y_X_note.2.1 18 = .ok (.ifCond .lt 16, 3) := by decide +kernel
theorem d_X_note_21 : decode Y_X_note.2.1 21 = .ok (.iload_n 3, 1) := by decide +kernel
theorem d_X_note_22 : decode Y_X_note.2.1 22 = .ok (.bipush 60, 2) := by decide +kernel
theorem d_X_note_24 : decode Y_X_note.2.1 24 = .ok (.if_icmp .gt 10, 3) := by decide +kernel
theorem d_X_note_27 : decode Y_X_note.2.1 27 = .ok (.iload 6, 2) := by decide +kernel
theorem d_X_note_29 : decode Y_X_note.2.1 29 = .ok (.ldc 83, 2) := by decide +kernel
theorem d_X_note_31 : decode Y_X_note.2.1 31 = .ok (.if_icmp .ne 5, 3) := by decide +kernel
theorem d_X_note_34 : decode Y_X_note.2.1 34 = .ok (.iconst 0, 1) := by decide +kernel
theorem d_X_note_35 : decode Y_X_note.2.1 35 = .ok (.ireturn, 1) := by decide +kernel
theorem d_X_note_36 : decode Y_X_note.2.1 36 = .ok (.aload_n 0, 1) := by decide +kernel
theorem d_X_note_37 : decode Y_X_note.2.1 37 = .ok (.getfield 10, 3) := by decide +kernel
theorem d_X_note_40 : decode Y_X_note.2.1 40 = .ok (.iload_n 1, 1) := by decide +kernel
theorem d_X_note_41 : decode Y_X_note.2.1 41 = .ok (.iload_n 2, 1) := by decide +kernel
theorem d_X_note_42 : decode Y_X_note.2.1 42 = .ok (.iload_n 3, 1) := by decide +kernel
theorem d_X_note_43 : decode Y_X_note.2.1 43 = .ok (.iload 6, 2) := by decide +kernel
theorem d_X_note_45 : decode Y_X_note.2.1 45 = .ok (.invokevirtual 84, 3) := by decide +kernel
theorem d_X_note_48 : decode Y_X_note.2.1 48 = .ok (.aload_n 0, 1) := by decide +kernel
theorem d_X_note_49 : decode Y_X_note.2.1 49 = .ok (.invokevirtual 88, 3) := by decide +kernel
theorem d_X_note_52 : decode Y_X_note.2.1 52 = .ok (.ireturn, 1) := by decide +kernel
theorem d_M_lies_0 : decode Y_M_lies.2.1 0 = .ok (.lload_n 0, 1) := by decide +kernel
theorem d_M_lies_1 : decode Y_M_lies.2.1 1 = .ok (.lload_n 2, 1) := by decide +kernel
theorem d_M_lies_2 : decode Y_M_lies.2.1 2 = .ok (.lcmp, 1) := by decide +kernel
theorem d_M_lies_3 : decode Y_M_lies.2.1 3 = .ok (.ifCond .lt 14, 3) := by decide +kernel
theorem d_M_lies_6 : decode Y_M_lies.2.1 6 = .ok (.lload_n 0, 1) := by decide +kernel
theorem d_M_lies_7 : decode Y_M_lies.2.1 7 = .ok (.lload 4, 2) := by decide +kernel
theorem d_M_lies_9 : decode Y_M_lies.2.1 9 = .ok (.lcmp, 1) := by decide +kernel
theorem d_M_lies_10 : decode Y_M_lies.2.1 10 = .ok (.ifCond .gt 7, 3) := by decide +kernel
theorem d_M_lies_13 : decode Y_M_lies.2.1 13 = .ok (.iconst 1, 1) := by decide +kernel
theorem d_M_lies_14 : decode Y_M_lies.2.1 14 = .ok (.goto 4, 3) := by decide +kernel
theorem d_M_lies_17 : decode Y_M_lies.2.1 17 = .ok (.iconst 0, 1) := by decide +kernel
theorem d_M_lies_18 : decode Y_M_lies.2.1 18 = .ok (.ireturn, 1) := by decide +kernel
theorem d_M_isVoice_0 : decode Y_M_isVoice.2.1 0 = .ok (.iload_n 0, 1) := by decide +kernel
theorem d_M_isVoice_1 : decode Y_M_isVoice.2.1 1 = .ok (.i2l, 1) := by decide +kernel
theorem d_M_isVoice_2 : decode Y_M_isVoice.2.1 2 = .ok (.lconst 0, 1) := by decide +kernel
theorem d_M_isVoice_3 : decode Y_M_isVoice.2.1 3 = .ok (.ldc2_w 143, 3) := by decide +kernel
theorem d_M_isVoice_6 : decode Y_M_isVoice.2.1 6 = .ok (.invokestatic 145, 3) := by decide +kernel
theorem d_M_isVoice_9 : decode Y_M_isVoice.2.1 9 = .ok (.ireturn, 1) := by decide +kernel
theorem d_M_isBeat_0 : decode Y_M_isBeat.2.1 0 = .ok (.iload_n 0, 1) := by decide +kernel
theorem d_M_isBeat_1 : decode Y_M_isBeat.2.1 1 = .ok (.i2l, 1) := by decide +kernel
theorem d_M_isBeat_2 : decode Y_M_isBeat.2.1 2 = .ok (.lconst 0, 1) := by decide +kernel
theorem d_M_isBeat_3 : decode Y_M_isBeat.2.1 3 = .ok (.ldc2_w 149, 3) := by decide +kernel
theorem d_M_isBeat_6 : decode Y_M_isBeat.2.1 6 = .ok (.invokestatic 145, 3) := by decide +kernel
theorem d_M_isBeat_9 : decode Y_M_isBeat.2.1 9 = .ok (.ireturn, 1) := by decide +kernel
theorem d_M_bare_0 : decode Y_M_bare.2.1 0 = .ok (.iload_n 0, 1) := by decide +kernel
theorem d_M_bare_1 : decode Y_M_bare.2.1 1 = .ok (.istore_n 1, 1) := by decide +kernel
theorem d_M_bare_2 : decode Y_M_bare.2.1 2 = .ok (.iload_n 1, 1) := by decide +kernel
theorem d_M_bare_3 : decode Y_M_bare.2.1 3 = .ok (.iconst 2, 1) := by decide +kernel
theorem d_M_bare_4 : decode Y_M_bare.2.1 4 = .ok (.irem, 1) := by decide +kernel
theorem d_M_bare_5 : decode Y_M_bare.2.1 5 = .ok (.ifCond .ne 10, 3) := by decide +kernel
theorem d_M_bare_8 : decode Y_M_bare.2.1 8 = .ok (.iload_n 1, 1) := by decide +kernel
theorem d_M_bare_9 : decode Y_M_bare.2.1 9 = .ok (.iconst 2, 1) := by decide +kernel
theorem d_M_bare_10 : decode Y_M_bare.2.1 10 = .ok (.idiv, 1) := by decide +kernel
theorem d_M_bare_11 : decode Y_M_bare.2.1 11 = .ok (.istore_n 1, 1) := by decide +kernel
theorem d_M_bare_12 : decode Y_M_bare.2.1 12 = .ok (.goto (-10), 3) := by decide +kernel
theorem d_M_bare_15 : decode Y_M_bare.2.1 15 = .ok (.iload_n 1, 1) := by decide +kernel
theorem d_M_bare_16 : decode Y_M_bare.2.1 16 = .ok (.iconst 3, 1) := by decide +kernel
theorem d_M_bare_17 : decode Y_M_bare.2.1 17 = .ok (.irem, 1) := by decide +kernel
theorem d_M_bare_18 : decode Y_M_bare.2.1 18 = .ok (.ifCond .ne 10, 3) := by decide +kernel
theorem d_M_bare_21 : decode Y_M_bare.2.1 21 = .ok (.iload_n 1, 1) := by decide +kernel
theorem d_M_bare_22 : decode Y_M_bare.2.1 22 = .ok (.iconst 3, 1) := by decide +kernel
theorem d_M_bare_23 : decode Y_M_bare.2.1 23 = .ok (.idiv, 1) := by decide +kernel
theorem d_M_bare_24 : decode Y_M_bare.2.1 24 = .ok (.istore_n 1, 1) := by decide +kernel
theorem d_M_bare_25 : decode Y_M_bare.2.1 25 = .ok (.goto (-10), 3) := by decide +kernel
theorem d_M_bare_28 : decode Y_M_bare.2.1 28 = .ok (.iload_n 1, 1) := by decide +kernel
theorem d_M_bare_29 : decode Y_M_bare.2.1 29 = .ok (.iconst 5, 1) := by decide +kernel
theorem d_M_bare_30 : decode Y_M_bare.2.1 30 = .ok (.irem, 1) := by decide +kernel
theorem d_M_bare_31 : decode Y_M_bare.2.1 31 = .ok (.ifCond .ne 10, 3) := by decide +kernel
theorem d_M_bare_34 : decode Y_M_bare.2.1 34 = .ok (.iload_n 1, 1) := by decide +kernel
theorem d_M_bare_35 : decode Y_M_bare.2.1 35 = .ok (.iconst 5, 1) := by decide +kernel
theorem d_M_bare_36 : decode Y_M_bare.2.1 36 = .ok (.idiv, 1) := by decide +kernel
theorem d_M_bare_37 : decode Y_M_bare.2.1 37 = .ok (.istore_n 1, 1) := by decide +kernel
theorem d_M_bare_38 : decode Y_M_bare.2.1 38 = .ok (.goto (-10), 3) := by decide +kernel
theorem d_M_bare_41 : decode Y_M_bare.2.1 41 = .ok (.iload_n 1, 1) := by decide +kernel
theorem d_M_bare_42 : decode Y_M_bare.2.1 42 = .ok (.ireturn, 1) := by decide +kernel
theorem d_M_powerOf_0 : decode Y_M_powerOf.2.1 0 = .ok (.iconst 0, 1) := by decide +kernel
theorem d_M_powerOf_1 : decode Y_M_powerOf.2.1 1 = .ok (.istore_n 2, 1) := by decide +kernel
theorem d_M_powerOf_2 : decode Y_M_powerOf.2.1 2 = .ok (.iload_n 0, 1) := by decide +kernel
theorem d_M_powerOf_3 : decode Y_M_powerOf.2.1 3 = .ok (.istore_n 3, 1) := by decide +kernel
theorem d_M_powerOf_4 : decode Y_M_powerOf.2.1 4 = .ok (.iload_n 3, 1) := by decide +kernel
theorem d_M_powerOf_5 : decode Y_M_powerOf.2.1 5 = .ok (.iload_n 1, 1) := by decide +kernel
theorem d_M_powerOf_6 : decode Y_M_powerOf.2.1 6 = .ok (.irem, 1) := by decide +kernel
theorem d_M_powerOf_7 : decode Y_M_powerOf.2.1 7 = .ok (.ifCond .ne 13, 3) := by decide +kernel
theorem d_M_powerOf_10 : decode Y_M_powerOf.2.1 10 = .ok (.iload_n 3, 1) := by decide +kernel
theorem d_M_powerOf_11 : decode Y_M_powerOf.2.1 11 = .ok (.iload_n 1, 1) := by decide +kernel
theorem d_M_powerOf_12 : decode Y_M_powerOf.2.1 12 = .ok (.idiv, 1) := by decide +kernel
theorem d_M_powerOf_13 : decode Y_M_powerOf.2.1 13 = .ok (.istore_n 3, 1) := by decide +kernel
theorem d_M_powerOf_14 : decode Y_M_powerOf.2.1 14 = .ok (.iinc 2 1, 3) := by decide +kernel
theorem d_M_powerOf_17 : decode Y_M_powerOf.2.1 17 = .ok (.goto (-13), 3) := by decide +kernel
theorem d_M_powerOf_20 : decode Y_M_powerOf.2.1 20 = .ok (.iload_n 2, 1) := by decide +kernel
theorem d_M_powerOf_21 : decode Y_M_powerOf.2.1 21 = .ok (.ireturn, 1) := by decide +kernel
theorem d_M_mills_0 : decode Y_M_mills.2.1 0 = .ok (.ldc 166, 2) := by decide +kernel
theorem d_M_mills_2 : decode Y_M_mills.2.1 2 = .ok (.iload_n 0, 1) := by decide +kernel
theorem d_M_mills_3 : decode Y_M_mills.2.1 3 = .ok (.imul, 1) := by decide +kernel
theorem d_M_mills_4 : decode Y_M_mills.2.1 4 = .ok (.ldc 167, 2) := by decide +kernel
theorem d_M_mills_6 : decode Y_M_mills.2.1 6 = .ok (.iload_n 1, 1) := by decide +kernel
theorem d_M_mills_7 : decode Y_M_mills.2.1 7 = .ok (.imul, 1) := by decide +kernel
theorem d_M_mills_8 : decode Y_M_mills.2.1 8 = .ok (.iadd, 1) := by decide +kernel
theorem d_M_mills_9 : decode Y_M_mills.2.1 9 = .ok (.ldc 168, 2) := by decide +kernel
theorem d_M_mills_11 : decode Y_M_mills.2.1 11 = .ok (.iload_n 2, 1) := by decide +kernel
theorem d_M_mills_12 : decode Y_M_mills.2.1 12 = .ok (.imul, 1) := by decide +kernel
theorem d_M_mills_13 : decode Y_M_mills.2.1 13 = .ok (.iadd, 1) := by decide +kernel
theorem d_M_mills_14 : decode Y_M_mills.2.1 14 = .ok (.ireturn, 1) := by decide +kernel
theorem d_M_fraction_0 : decode Y_M_fraction.2.1 0 = .ok (.iload_n 0, 1) := by decide +kernel
theorem d_M_fraction_1 : decode Y_M_fraction.2.1 1 = .ok (.iconst 2, 1) := by decide +kernel
theorem d_M_fraction_2 : decode Y_M_fraction.2.1 2 = .ok (.invokestatic 169, 3) := by decide +kernel
theorem d_M_fraction_5 : decode Y_M_fraction.2.1 5 = .ok (.iload_n 1, 1) := by decide +kernel
theorem d_M_fraction_6 : decode Y_M_fraction.2.1 6 = .ok (.iconst 2, 1) := by decide +kernel
theorem d_M_fraction_7 : decode Y_M_fraction.2.1 7 = .ok (.invokestatic 169, 3) := by decide +kernel
theorem d_M_fraction_10 : decode Y_M_fraction.2.1 10 = .ok (.isub, 1) := by decide +kernel
theorem d_M_fraction_11 : decode Y_M_fraction.2.1 11 = .ok (.iload_n 0, 1) := by decide +kernel
theorem d_M_fraction_12 : decode Y_M_fraction.2.1 12 = .ok (.iconst 3, 1) := by decide +kernel
theorem d_M_fraction_13 : decode Y_M_fraction.2.1 13 = .ok (.invokestatic 169, 3) := by decide +kernel
theorem d_M_fraction_16 : decode Y_M_fraction.2.1 16 = .ok (.iload_n 1, 1) := by decide +kernel
theorem d_M_fraction_17 : decode Y_M_fraction.2.1 17 = .ok (.iconst 3, 1) := by decide +kernel
theorem d_M_fraction_18 : decode Y_M_fraction.2.1 18 = .ok (.invokestatic 169, 3) := by decide +kernel
theorem d_M_fraction_21 : decode Y_M_fraction.2.1 21 = .ok (.isub, 1) := by decide +kernel
theorem d_M_fraction_22 : decode Y_M_fraction.2.1 22 = .ok (.iload_n 0, 1) := by decide +kernel
theorem d_M_fraction_23 : decode Y_M_fraction.2.1 23 = .ok (.iconst 5, 1) := by decide +kernel
theorem d_M_fraction_24 : decode Y_M_fraction.2.1 24 = .ok (.invokestatic 169, 3) := by decide +kernel
theorem d_M_fraction_27 : decode Y_M_fraction.2.1 27 = .ok (.iload_n 1, 1) := by decide +kernel
theorem d_M_fraction_28 : decode Y_M_fraction.2.1 28 = .ok (.iconst 5, 1) := by decide +kernel
theorem d_M_fraction_29 : decode Y_M_fraction.2.1 29 = .ok (.invokestatic 169, 3) := by decide +kernel
theorem d_M_fraction_32 : decode Y_M_fraction.2.1 32 = .ok (.isub, 1) := by decide +kernel
theorem d_M_fraction_33 : decode Y_M_fraction.2.1 33 = .ok (.invokestatic 172, 3) := by decide +kernel
theorem d_M_fraction_36 : decode Y_M_fraction.2.1 36 = .ok (.ireturn, 1) := by decide +kernel
theorem d_M_isFraction_0 : decode Y_M_isFraction.2.1 0 = .ok (.iload_n 0, 1) := by decide +kernel
theorem d_M_isFraction_1 : decode Y_M_isFraction.2.1 1 = .ok (.i2l, 1) := by decide +kernel
theorem d_M_isFraction_2 : decode Y_M_isFraction.2.1 2 = .ok (.lconst 1, 1) := by decide +kernel
theorem d_M_isFraction_3 : decode Y_M_isFraction.2.1 3 = .ok (.ldc2_w 176, 3) := by decide +kernel
theorem d_M_isFraction_6 : decode Y_M_isFraction.2.1 6 = .ok (.invokestatic 145, 3) := by decide +kernel
theorem d_M_isFraction_9 : decode Y_M_isFraction.2.1 9 = .ok (.ifCond .eq 53, 3) := by decide +kernel
theorem d_M_isFraction_12 : decode Y_M_isFraction.2.1 12 = .ok (.iload_n 1, 1) := by decide +kernel
theorem d_M_isFraction_13 : decode Y_M_isFraction.2.1 13 = .ok (.i2l, 1) := by decide +kernel
theorem d_M_isFraction_14 : decode Y_M_isFraction.2.1 14 = .ok (.lconst 1, 1) := by decide +kernel
theorem d_M_isFraction_15 : decode Y_M_isFraction.2.1 15 = .ok (.ldc2_w 176, 3) := by decide +kernel
theorem d_M_isFraction_18 : decode Y_M_isFraction.2.1 18 = .ok (.invokestatic 145, 3) := by decide +kernel
theorem d_M_isFraction_21 : decode Y_M_isFraction.2.1 21 = .ok (.ifCond .eq 41, 3) := by decide +kernel
theorem d_M_isFraction_24 : decode Y_M_isFraction.2.1 24 = .ok (.iload_n 0, 1) := by decide +kernel
theorem d_M_isFraction_25 : decode Y_M_isFraction.2.1 25 = .ok (.invokestatic 178, 3) := by decide +kernel
theorem d_M_isFraction_28 : decode Y_M_isFraction.2.1 28 = .ok (.iconst 1, 1) := by decide +kernel
theorem d_M_isFraction_29 : decode Y_M_isFraction.2.1 29 = .ok (.if_icmp .ne 33, 3) := by decide +kernel
theorem d_M_isFraction_32 : decode Y_M_isFraction.2.1 32 = .ok (.iload_n 1, 1) := by decide +kernel
theorem d_M_isFraction_33 : decode Y_M_isFraction.2.1 33 = .ok (.invokestatic 178, 3) := by decide +kernel
theorem d_M_isFraction_36 : decode Y_M_isFraction.2.1 36 = .ok (.iconst 1, 1) := by decide +kernel
theorem d_M_isFraction_37 : decode Y_M_isFraction.2.1 37 = .ok (.if_icmp .ne 25, 3) := by decide +kernel
theorem d_M_isFraction_40 : decode Y_M_isFraction.2.1 40 = .ok (.iload_n 0, 1) := by decide +kernel
theorem d_M_isFraction_41 : decode Y_M_isFraction.2.1 41 = .ok (.iload_n 1, 1) := by decide +kernel
theorem d_M_isFraction_42 : decode Y_M_isFraction.2.1 42 = .ok (.invokestatic 182, 3) := by decide +kernel
theorem d_M_isFraction_45 : decode Y_M_isFraction.2.1 45 = .ok (.i2l, 1) := by decide +kernel
theorem d_M_isFraction_46 : decode Y_M_isFraction.2.1 46 = .ok (.ldc2_w 185, 3) := by decide +kernel
theorem d_M_isFraction_49 : decode Y_M_isFraction.2.1 49 = .ok (.ldc2_w 187, 3) := by decide +kernel
theorem d_M_isFraction_52 : decode Y_M_isFraction.2.1 52 = .ok (.invokestatic 145, 3) := by decide +kernel
theorem d_M_isFraction_55 : decode Y_M_isFraction.2.1 55 = .ok (.ifCond .eq 7, 3) := by decide +kernel
theorem d_M_isFraction_58 : decode Y_M_isFraction.2.1 58 = .ok (.iconst 1, 1) := by decide +kernel
theorem d_M_isFraction_59 : decode Y_M_isFraction.2.1 59 = .ok (.goto 4, 3) := by decide +kernel
theorem d_M_isFraction_62 : decode Y_M_isFraction.2.1 62 = .ok (.iconst 0, 1) := by decide +kernel
theorem d_M_isFraction_63 : decode Y_M_isFraction.2.1 63 = .ok (.ireturn, 1) := by decide +kernel
theorem d_M_cellOf_0 : decode Y_M_cellOf.2.1 0 = .ok (.bipush 24, 2) := by decide +kernel
theorem d_M_cellOf_2 : decode Y_M_cellOf.2.1 2 = .ok (.iload_n 0, 1) := by decide +kernel
theorem d_M_cellOf_3 : decode Y_M_cellOf.2.1 3 = .ok (.imul, 1) := by decide +kernel
theorem d_M_cellOf_4 : decode Y_M_cellOf.2.1 4 = .ok (.iload_n 1, 1) := by decide +kernel
theorem d_M_cellOf_5 : decode Y_M_cellOf.2.1 5 = .ok (.iadd, 1) := by decide +kernel
theorem d_M_cellOf_6 : decode Y_M_cellOf.2.1 6 = .ok (.ireturn, 1) := by decide +kernel
theorem d_M_isNote_0 : decode Y_M_isNote.2.1 0 = .ok (.iload_n 1, 1) := by decide +kernel
theorem d_M_isNote_1 : decode Y_M_isNote.2.1 1 = .ok (.invokestatic 151, 3) := by decide +kernel
theorem d_M_isNote_4 : decode Y_M_isNote.2.1 4 = .ok (.ifCond .eq 28, 3) := by decide +kernel
theorem d_M_isNote_7 : decode Y_M_isNote.2.1 7 = .ok (.iload_n 2, 1) := by decide +kernel
theorem d_M_isNote_8 : decode Y_M_isNote.2.1 8 = .ok (.invokestatic 155, 3) := by decide +kernel
theorem d_M_isNote_11 : decode Y_M_isNote.2.1 11 = .ok (.ifCond .eq 21, 3) := by decide +kernel
theorem d_M_isNote_14 : decode Y_M_isNote.2.1 14 = .ok (.aload_n 0, 1) := by decide +kernel
theorem d_M_isNote_15 : decode Y_M_isNote.2.1 15 = .ok (.getfield 13, 3) := by decide +kernel
theorem d_M_isNote_18 : decode Y_M_isNote.2.1 18 = .ok (.iload_n 1, 1) := by decide +kernel
theorem d_M_isNote_19 : decode Y_M_isNote.2.1 19 = .ok (.iload_n 2, 1) := by decide +kernel
theorem d_M_isNote_20 : decode Y_M_isNote.2.1 20 = .ok (.invokestatic 158, 3) := by decide +kernel
theorem d_M_isNote_23 : decode Y_M_isNote.2.1 23 = .ok (.iaload, 1) := by decide +kernel
theorem d_M_isNote_24 : decode Y_M_isNote.2.1 24 = .ok (.iconst (-1), 1) := by decide +kernel
theorem d_M_isNote_25 : decode Y_M_isNote.2.1 25 = .ok (.if_icmp .eq 7, 3) := by decide +kernel
theorem d_M_isNote_28 : decode Y_M_isNote.2.1 28 = .ok (.iconst 1, 1) := by decide +kernel
theorem d_M_isNote_29 : decode Y_M_isNote.2.1 29 = .ok (.goto 4, 3) := by decide +kernel
theorem d_M_isNote_32 : decode Y_M_isNote.2.1 32 = .ok (.iconst 0, 1) := by decide +kernel
theorem d_M_isNote_33 : decode Y_M_isNote.2.1 33 = .ok (.ireturn, 1) := by decide +kernel
theorem d_M_isHeld_0 : decode Y_M_isHeld.2.1 0 = .ok (.aload_n 0, 1) := by decide +kernel
theorem d_M_isHeld_1 : decode Y_M_isHeld.2.1 1 = .ok (.iload_n 1, 1) := by decide +kernel
theorem d_M_isHeld_2 : decode Y_M_isHeld.2.1 2 = .ok (.iload_n 2, 1) := by decide +kernel
theorem d_M_isHeld_3 : decode Y_M_isHeld.2.1 3 = .ok (.invokevirtual 162, 3) := by decide +kernel
theorem d_M_isHeld_6 : decode Y_M_isHeld.2.1 6 = .ok (.ifCond .eq 43, 3) := by decide +kernel
theorem d_M_isHeld_9 : decode Y_M_isHeld.2.1 9 = .ok (.aload_n 0, 1) := by decide +kernel
theorem d_M_isHeld_10 : decode Y_M_isHeld.2.1 10 = .ok (.iload_n 1, 1) := by decide +kernel
theorem d_M_isHeld_11 : decode Y_M_isHeld.2.1 11 = .ok (.iload_n 2, 1) := by decide +kernel
theorem d_M_isHeld_12 : decode Y_M_isHeld.2.1 12 = .ok (.iconst 1, 1) := by decide +kernel
theorem d_M_isHeld_13 : decode Y_M_isHeld.2.1 13 = .ok (.isub, 1) := by decide +kernel
theorem d_M_isHeld_14 : decode Y_M_isHeld.2.1 14 = .ok (.invokevirtual 162, 3) := by decide +kernel
theorem d_M_isHeld_17 : decode Y_M_isHeld.2.1 17 = .ok (.ifCond .eq 32, 3) := by decide +kernel
theorem d_M_isHeld_20 : decode Y_M_isHeld.2.1 20 = .ok (.aload_n 0, 1) := by decide +kernel
theorem d_M_isHeld_21 : decode Y_M_isHeld.2.1 21 = .ok (.getfield 13, 3) := by decide +kernel
theorem d_M_isHeld_24 : decode Y_M_isHeld.2.1 24 = .ok (.iload_n 1, 1) := by decide +kernel
theorem d_M_isHeld_25 : decode Y_M_isHeld.2.1 25 = .ok (.iload_n 2, 1) := by decide +kernel
theorem d_M_isHeld_26 : decode Y_M_isHeld.2.1 26 = .ok (.invokestatic 158, 3) := by decide +kernel
theorem d_M_isHeld_29 : decode Y_M_isHeld.2.1 29 = .ok (.iaload, 1) := by decide +kernel
theorem d_M_isHeld_30 : decode Y_M_isHeld.2.1 30 = .ok (.aload_n 0, 1) := by decide +kernel
theorem d_M_isHeld_31 : decode Y_M_isHeld.2.1 31 = .ok (.getfield 13, 3) := by decide +kernel
theorem d_M_isHeld_34 : decode Y_M_isHeld.2.1 34 = .ok (.iload_n 1, 1) := by decide +kernel
theorem d_M_isHeld_35 : decode Y_M_isHeld.2.1 35 = .ok (.iload_n 2, 1) := by decide +kernel
theorem d_M_isHeld_36 : decode Y_M_isHeld.2.1 36 = .ok (.iconst 1, 1) := by decide +kernel
theorem d_M_isHeld_37 : decode Y_M_isHeld.2.1 37 = .ok (.isub, 1) := by decide +kernel
theorem d_M_isHeld_38 : decode Y_M_isHeld.2.1 38 = .ok (.invokestatic 158, 3) := by decide +kernel
theorem d_M_isHeld_41 : decode Y_M_isHeld.2.1 41 = .ok (.iaload, 1) := by decide +kernel
theorem d_M_isHeld_42 : decode Y_M_isHeld.2.1 42 = .ok (.if_icmp .ne 7, 3) := by decide +kernel
theorem d_M_isHeld_45 : decode Y_M_isHeld.2.1 45 = .ok (.iconst 1, 1) := by decide +kernel
theorem d_M_isHeld_46 : decode Y_M_isHeld.2.1 46 = .ok (.goto 4, 3) := by decide +kernel
theorem d_M_isHeld_49 : decode Y_M_isHeld.2.1 49 = .ok (.iconst 0, 1) := by decide +kernel
theorem d_M_isHeld_50 : decode Y_M_isHeld.2.1 50 = .ok (.ireturn, 1) := by decide +kernel
theorem d_M_falls_0 : decode Y_M_falls.2.1 0 = .ok (.iload_n 2, 1) := by decide +kernel
theorem d_M_falls_1 : decode Y_M_falls.2.1 1 = .ok (.istore_n 3, 1) := by decide +kernel
theorem d_M_falls_2 : decode Y_M_falls.2.1 2 = .ok (.iload_n 3, 1) := by decide +kernel
theorem d_M_falls_3 : decode Y_M_falls.2.1 3 = .ok (.bipush 24, 2) := by decide +kernel
theorem d_M_falls_5 : decode Y_M_falls.2.1 5 = .ok (.if_icmp .ge 42, 3) := by decide +kernel
theorem d_M_falls_8 : decode Y_M_falls.2.1 8 = .ok (.iload_n 3, 1) := by decide +kernel
theorem d_M_falls_9 : decode Y_M_falls.2.1 9 = .ok (.iload_n 2, 1) := by decide +kernel
theorem d_M_falls_10 : decode Y_M_falls.2.1 10 = .ok (.iconst 1, 1) := by decide +kernel
theorem d_M_falls_11 : decode Y_M_falls.2.1 11 = .ok (.iadd, 1) := by decide +kernel
theorem d_M_falls_12 : decode Y_M_falls.2.1 12 = .ok (.if_icmp .gt 35, 3) := by decide +kernel
theorem d_M_falls_15 : decode Y_M_falls.2.1 15 = .ok (.aload_n 0, 1) := by decide +kernel
theorem d_M_falls_16 : decode Y_M_falls.2.1 16 = .ok (.getfield 30, 3) := by decide +kernel
theorem d_M_falls_19 : decode Y_M_falls.2.1 19 = .ok (.iload_n 3, 1) := by decide +kernel
theorem d_M_falls_20 : decode Y_M_falls.2.1 20 = .ok (.iaload, 1) := by decide +kernel
theorem d_M_falls_21 : decode Y_M_falls.2.1 21 = .ok (.iload_n 1, 1) := by decide +kernel
theorem d_M_falls_22 : decode Y_M_falls.2.1 22 = .ok (.if_icmp .ne 19, 3) := by decide +kernel
theorem d_M_falls_25 : decode Y_M_falls.2.1 25 = .ok (.aload_n 0, 1) := by decide +kernel
theorem d_M_falls_26 : decode Y_M_falls.2.1 26 = .ok (.iload_n 1, 1) := by decide +kernel
theorem d_M_falls_27 : decode Y_M_falls.2.1 27 = .ok (.iload_n 3, 1) := by decide +kernel
theorem d_M_falls_28 : decode Y_M_falls.2.1 28 = .ok (.invokevirtual 193, 3) := by decide +kernel
theorem d_M_falls_31 : decode Y_M_falls.2.1 31 = .ok (.ifCond .ne 10, 3) := by decide +kernel
theorem d_M_falls_34 : decode Y_M_falls.2.1 34 = .ok (.aload_n 0, 1) := by decide +kernel
theorem d_M_falls_35 : decode Y_M_falls.2.1 35 = .ok (.getfield 30, 3) := by decide +kernel
theorem d_M_falls_38 : decode Y_M_falls.2.1 38 = .ok (.iload_n 3, 1) := by decide +kernel
theorem d_M_falls_39 : decode Y_M_falls.2.1 39 = .ok (.iconst (-1), 1) := by decide +kernel
theorem d_M_falls_40 : decode Y_M_falls.2.1 40 = .ok (.iastore, 1) := by decide +kernel
theorem d_M_falls_41 : decode Y_M_falls.2.1 41 = .ok (.iinc 3 1, 3) := by decide +kernel
theorem d_M_falls_44 : decode Y_M_falls.2.1 44 = .ok (.goto (-42), 3) := by decide +kernel
theorem d_M_falls_47 : decode Y_M_falls.2.1 47 = .ok (.return_, 1) := by decide +kernel
theorem d_M_note_0 : decode Y_M_note.2.1 0 = .ok (.iload_n 1, 1) := by decide +kernel
theorem d_M_note_1 : decode Y_M_note.2.1 1 = .ok (.invokestatic 151, 3) := by decide +kernel
theorem d_M_note_4 : decode Y_M_note.2.1 4 = .ok (.ifCond .eq 32, 3) := by decide +kernel
theorem d_M_note_7 : decode Y_M_note.2.1 7 = .ok (.iload_n 2, 1) := by decide +kernel
theorem d_M_note_8 : decode Y_M_note.2.1 8 = .ok (.invokestatic 155, 3) := by decide +kernel
theorem d_M_note_11 : decode Y_M_note.2.1 11 = .ok (.ifCond .eq 25, 3) := by decide +kernel
theorem d_M_note_14 : decode Y_M_note.2.1 14 = .ok (.iload_n 3, 1) := by decide +kernel
theorem d_M_note_15 : decode Y_M_note.2.1 15 = .ok (.i2l, 1) := by decide +kernel
theorem d_M_note_16 : decode Y_M_note.2.1 16 = .ok (.lconst 0, 1) := by decide +kernel
theorem d_M_note_17 : decode Y_M_note.2.1 17 = .ok (.ldc2_w 196, 3) := by decide +kernel
theorem d_M_note_20 : decode Y_M_note.2.1 20 = .ok (.invokestatic 145, 3) := by decide +kernel
theorem d_M_note_23 : decode Y_M_note.2.1 23 = .ok (.ifCond .eq 13, 3) := by decide +kernel
theorem d_M_note_26 : decode Y_M_note.2.1 26 = .ok (.iload 4, 2) := by decide +kernel
theorem d_M_note_28 : decode Y_M_note.2.1 28 = .ok (.iload 5, 2) := by decide +kernel
theorem d_M_note_30 : decode Y_M_note.2.1 30 = .ok (.invokestatic 189, 3) := by decide +kernel
theorem d_M_note_33 : decode Y_M_note.2.1 33 = .ok (.ifCond .ne 5, 3) := by decide +kernel
theorem d_M_note_36 : decode Y_M_note.2.1 36 = .ok (.iconst 0, 1) := by decide +kernel
theorem d_M_note_37 : decode Y_M_note.2.1 37 = .ok (.ireturn, 1) := by decide +kernel
theorem d_M_note_38 : decode Y_M_note.2.1 38 = .ok (.iload_n 1, 1) := by decide +kernel
theorem d_M_note_39 : decode Y_M_note.2.1 39 = .ok (.iload_n 2, 1) := by decide +kernel
theorem d_M_note_40 : decode Y_M_note.2.1 40 = .ok (.invokestatic 158, 3) := by decide +kernel
theorem d_M_note_43 : decode Y_M_note.2.1 43 = .ok (.istore 6, 2) := by decide +kernel
theorem d_M_note_45 : decode Y_M_note.2.1 45 = .ok (.aload_n 0, 1) := by decide +kernel
theorem d_M_note_46 : decode Y_M_note.2.1 46 = .ok (.getfield 13, 3) := by decide +kernel
theorem d_M_note_49 : decode Y_M_note.2.1 49 = .ok (.iload 6, 2) := by decide +kernel
theorem d_M_note_51 : decode Y_M_note.2.1 51 = .ok (.iload_n 3, 1) := by decide +kernel
theorem d_M_note_52 : decode Y_M_note.2.1 52 = .ok (.iastore, 1) := by decide +kernel
theorem d_M_note_53 : decode Y_M_note.2.1 53 = .ok (.aload_n 0, 1) := by decide +kernel
theorem d_M_note_54 : decode Y_M_note.2.1 54 = .ok (.getfield 17, 3) := by decide +kernel
theorem d_M_note_57 : decode Y_M_note.2.1 57 = .ok (.iload 6, 2) := by decide +kernel
theorem d_M_note_59 : decode Y_M_note.2.1 59 = .ok (.iload 4, 2) := by decide +kernel
theorem d_M_note_61 : decode Y_M_note.2.1 61 = .ok (.iconst 2, 1) := by decide +kernel
theorem d_M_note_62 : decode Y_M_note.2.1 62 = .ok (.invokestatic 169, 3) := by decide +kernel
theorem d_M_note_65 : decode Y_M_note.2.1 65 = .ok (.iload 5, 2) := by decide +kernel
theorem d_M_note_67 : decode Y_M_note.2.1 67 = .ok (.iconst 2, 1) := by decide +kernel
theorem d_M_note_68 : decode Y_M_note.2.1 68 = .ok (.invokestatic 169, 3) := by decide +kernel
theorem d_M_note_71 : decode Y_M_note.2.1 71 = .ok (.isub, 1) := by decide +kernel
theorem d_M_note_72 : decode Y_M_note.2.1 72 = .ok (.iastore, 1) := by decide +kernel
theorem d_M_note_73 : decode Y_M_note.2.1 73 = .ok (.aload_n 0, 1) := by decide +kernel
theorem d_M_note_74 : decode Y_M_note.2.1 74 = .ok (.getfield 20, 3) := by decide +kernel
theorem d_M_note_77 : decode Y_M_note.2.1 77 = .ok (.iload 6, 2) := by decide +kernel
theorem d_M_note_79 : decode Y_M_note.2.1 79 = .ok (.iload 4, 2) := by decide +kernel
theorem d_M_note_81 : decode Y_M_note.2.1 81 = .ok (.iconst 3, 1) := by decide +kernel
theorem d_M_note_82 : decode Y_M_note.2.1 82 = .ok (.invokestatic 169, 3) := by decide +kernel
theorem d_M_note_85 : decode Y_M_note.2.1 85 = .ok (.iload 5, 2) := by decide +kernel
theorem d_M_note_87 : decode Y_M_note.2.1 87 = .ok (.iconst 3, 1) := by decide +kernel
theorem d_M_note_88 : decode Y_M_note.2.1 88 = .ok (.invokestatic 169, 3) := by decide +kernel
theorem d_M_note_91 : decode Y_M_note.2.1 91 = .ok (.isub, 1) := by decide +kernel
theorem d_M_note_92 : decode Y_M_note.2.1 92 = .ok (.iastore, 1) := by decide +kernel
theorem d_M_note_93 : decode Y_M_note.2.1 93 = .ok (.aload_n 0, 1) := by decide +kernel
theorem d_M_note_94 : decode Y_M_note.2.1 94 = .ok (.getfield 23, 3) := by decide +kernel
theorem d_M_note_97 : decode Y_M_note.2.1 97 = .ok (.iload 6, 2) := by decide +kernel
theorem d_M_note_99 : decode Y_M_note.2.1 99 = .ok (.iload 4, 2) := by decide +kernel
theorem d_M_note_101 : decode Y_M_note.2.1 101 = .ok (.iconst 5, 1) := by decide +kernel
theorem d_M_note_102 : decode Y_M_note.2.1 102 = .ok (.invokestatic 169, 3) := by decide +kernel
theorem d_M_note_105 : decode Y_M_note.2.1 105 = .ok (.iload 5, 2) := by decide +kernel
theorem d_M_note_107 : decode Y_M_note.2.1 107 = .ok (.iconst 5, 1) := by decide +kernel
theorem d_M_note_108 : decode Y_M_note.2.1 108 = .ok (.invokestatic 169, 3) := by decide +kernel
theorem d_M_note_111 : decode Y_M_note.2.1 111 = .ok (.isub, 1) := by decide +kernel
theorem d_M_note_112 : decode Y_M_note.2.1 112 = .ok (.iastore, 1) := by decide +kernel
theorem d_M_note_113 : decode Y_M_note.2.1 113 = .ok (.aload_n 0, 1) := by decide +kernel
theorem d_M_note_114 : decode Y_M_note.2.1 114 = .ok (.iload_n 1, 1) := by decide +kernel
theorem d_M_note_115 : decode Y_M_note.2.1 115 = .ok (.iload_n 2, 1) := by decide +kernel
theorem d_M_note_116 : decode Y_M_note.2.1 116 = .ok (.invokevirtual 198, 3) := by decide +kernel
theorem d_M_note_119 : decode Y_M_note.2.1 119 = .ok (.iconst 1, 1) := by decide +kernel
theorem d_M_note_120 : decode Y_M_note.2.1 120 = .ok (.ireturn, 1) := by decide +kernel
theorem d_X_silent_0 : decode Y_X_silent.2.1 0 = .ok (.aload_n 0, 1) := by decide +kernel
theorem d_X_silent_1 : decode Y_X_silent.2.1 1 = .ok (.getfield 10, 3) := by decide +kernel
theorem d_X_silent_4 : decode Y_X_silent.2.1 4 = .ok (.iload_n 1, 1) := by decide +kernel
theorem d_X_silent_5 : decode Y_X_silent.2.1 5 = .ok (.iload_n 2, 1) := by decide +kernel
theorem d_X_silent_6 : decode Y_X_silent.2.1 6 = .ok (.invokevirtual 92, 3) := by decide +kernel
theorem d_X_silent_9 : decode Y_X_silent.2.1 9 = .ok (.ifCond .ne 5, 3) := by decide +kernel
theorem d_X_silent_12 : decode Y_X_silent.2.1 12 = .ok (.iconst 0, 1) := by decide +kernel
theorem d_X_silent_13 : decode Y_X_silent.2.1 13 = .ok (.ireturn, 1) := by decide +kernel
theorem d_X_silent_14 : decode Y_X_silent.2.1 14 = .ok (.aload_n 0, 1) := by decide +kernel
theorem d_X_silent_15 : decode Y_X_silent.2.1 15 = .ok (.getfield 10, 3) := by decide +kernel
theorem d_X_silent_18 : decode Y_X_silent.2.1 18 = .ok (.iload_n 1, 1) := by decide +kernel
theorem d_X_silent_19 : decode Y_X_silent.2.1 19 = .ok (.iload_n 2, 1) := by decide +kernel
theorem d_X_silent_20 : decode Y_X_silent.2.1 20 = .ok (.iconst (-1), 1) := by decide +kernel
theorem d_X_silent_21 : decode Y_X_silent.2.1 21 = .ok (.iconst 0, 1) := by decide +kernel
theorem d_X_silent_22 : decode Y_X_silent.2.1 22 = .ok (.invokevirtual 84, 3) := by decide +kernel
theorem d_X_silent_25 : decode Y_X_silent.2.1 25 = .ok (.aload_n 0, 1) := by decide +kernel
theorem d_X_silent_26 : decode Y_X_silent.2.1 26 = .ok (.invokevirtual 88, 3) := by decide +kernel
theorem d_X_silent_29 : decode Y_X_silent.2.1 29 = .ok (.ireturn, 1) := by decide +kernel
theorem d_M_silent_0 : decode Y_M_silent.2.1 0 = .ok (.aload_n 0, 1) := by decide +kernel
theorem d_M_silent_1 : decode Y_M_silent.2.1 1 = .ok (.iload_n 1, 1) := by decide +kernel
theorem d_M_silent_2 : decode Y_M_silent.2.1 2 = .ok (.iload_n 2, 1) := by decide +kernel
theorem d_M_silent_3 : decode Y_M_silent.2.1 3 = .ok (.invokevirtual 162, 3) := by decide +kernel
theorem d_M_silent_6 : decode Y_M_silent.2.1 6 = .ok (.ifCond .ne 5, 3) := by decide +kernel
theorem d_M_silent_9 : decode Y_M_silent.2.1 9 = .ok (.iconst 0, 1) := by decide +kernel
theorem d_M_silent_10 : decode Y_M_silent.2.1 10 = .ok (.ireturn, 1) := by decide +kernel
theorem d_M_silent_11 : decode Y_M_silent.2.1 11 = .ok (.aload_n 0, 1) := by decide +kernel
theorem d_M_silent_12 : decode Y_M_silent.2.1 12 = .ok (.getfield 13, 3) := by decide +kernel
theorem d_M_silent_15 : decode Y_M_silent.2.1 15 = .ok (.iload_n 1, 1) := by decide +kernel
theorem d_M_silent_16 : decode Y_M_silent.2.1 16 = .ok (.iload_n 2, 1) := by decide +kernel
theorem d_M_silent_17 : decode Y_M_silent.2.1 17 = .ok (.invokestatic 158, 3) := by decide +kernel
theorem d_M_silent_20 : decode Y_M_silent.2.1 20 = .ok (.iconst (-1), 1) := by decide +kernel
theorem d_M_silent_21 : decode Y_M_silent.2.1 21 = .ok (.iastore, 1) := by decide +kernel
theorem d_M_silent_22 : decode Y_M_silent.2.1 22 = .ok (.aload_n 0, 1) := by decide +kernel
theorem d_M_silent_23 : decode Y_M_silent.2.1 23 = .ok (.iload_n 1, 1) := by decide +kernel
theorem d_M_silent_24 : decode Y_M_silent.2.1 24 = .ok (.iload_n 2, 1) := by decide +kernel
theorem d_M_silent_25 : decode Y_M_silent.2.1 25 = .ok (.invokevirtual 198, 3) := by decide +kernel
theorem d_M_silent_28 : decode Y_M_silent.2.1 28 = .ok (.iconst 1, 1) := by decide +kernel
theorem d_M_silent_29 : decode Y_M_silent.2.1 29 = .ok (.ireturn, 1) := by decide +kernel
theorem d_Sc_breathes_0 : decode Y_Sc_breathes.2.1 0 = .ok (.iload_n 1, 1) := by decide +kernel
theorem d_Sc_breathes_1 : decode Y_Sc_breathes.2.1 1 = .ok (.iload_n 2, 1) := by decide +kernel
theorem d_Sc_breathes_2 : decode Y_Sc_breathes.2.1 2 = .ok (.invokestatic 43, 3) := by decide +kernel
theorem d_Sc_breathes_5 : decode Y_Sc_breathes.2.1 5 = .ok (.ifCond .eq 21, 3) := by decide +kernel
theorem d_Sc_breathes_8 : decode Y_Sc_breathes.2.1 8 = .ok (.aload_n 0, 1) := by decide +kernel
theorem d_Sc_breathes_9 : decode Y_Sc_breathes.2.1 9 = .ok (.getfield 21, 3) := by decide +kernel
theorem d_Sc_breathes_12 : decode Y_Sc_breathes.2.1 12 = .ok (.iload_n 1, 1) := by decide +kernel
theorem d_Sc_breathes_13 : decode Y_Sc_breathes.2.1 13 = .ok (.iaload, 1) := by decide +kernel
theorem d_Sc_breathes_14 : decode Y_Sc_breathes.2.1 14 = .ok (.iload_n 2, 1) := by decide +kernel
theorem d_Sc_breathes_15 : decode Y_Sc_breathes.2.1 15 = .ok (.ishr, 1) := by decide +kernel
theorem d_Sc_breathes_16 : decode Y_Sc_breathes.2.1 16 = .ok (.iconst 1, 1) := by decide +kernel
theorem d_Sc_breathes_17 : decode Y_Sc_breathes.2.1 17 = .ok (.iand, 1) := by decide +kernel
theorem d_Sc_breathes_18 : decode Y_Sc_breathes.2.1 18 = .ok (.iconst 1, 1) := by decide +kernel
theorem d_Sc_breathes_19 : decode Y_Sc_breathes.2.1 19 = .ok (.if_icmp .ne 7, 3) := by decide +kernel
theorem d_Sc_breathes_22 : decode Y_Sc_breathes.2.1 22 = .ok (.iconst 1, 1) := by decide +kernel
theorem d_Sc_breathes_23 : decode Y_Sc_breathes.2.1 23 = .ok (.goto 4, 3) := by decide +kernel
theorem d_Sc_breathes_26 : decode Y_Sc_breathes.2.1 26 = .ok (.iconst 0, 1) := by decide +kernel
theorem d_Sc_breathes_27 : decode Y_Sc_breathes.2.1 27 = .ok (.ireturn, 1) := by decide +kernel
theorem d_X_breath_0 : decode Y_X_breath.2.1 0 = .ok (.iload_n 1, 1) := by decide +kernel
theorem d_X_breath_1 : decode Y_X_breath.2.1 1 = .ok (.iload_n 2, 1) := by decide +kernel
theorem d_X_breath_2 : decode Y_X_breath.2.1 2 = .ok (.invokestatic 79, 3) := by decide +kernel
theorem d_X_breath_5 : decode Y_X_breath.2.1 5 = .ok (.ifCond .eq 16, 3) := by decide +kernel
theorem d_X_breath_8 : decode Y_X_breath.2.1 8 = .ok (.aload_n 0, 1) := by decide +kernel
theorem d_X_breath_9 : decode Y_X_breath.2.1 9 = .ok (.getfield 10, 3) := by decide +kernel
theorem d_X_breath_12 : decode Y_X_breath.2.1 12 = .ok (.iload_n 1, 1) := by decide +kernel
theorem d_X_breath_13 : decode Y_X_breath.2.1 13 = .ok (.iload_n 2, 1) := by decide +kernel
theorem d_X_breath_14 : decode Y_X_breath.2.1 14 = .ok (.invokevirtual 95, 3) := by decide +kernel
theorem d_X_breath_17 : decode Y_X_breath.2.1 17 = .ok (.iload_n 3, 1) := by decide +kernel
theorem d_X_breath_18 : decode Y_X_breath.2.1 18 = .ok (.if_icmp .ne 5, 3) := by decide +kernel
theorem d_X_breath_21 : decode Y_X_breath.2.1 21 = .ok (.iconst 0, 1) := by decide +kernel
theorem d_X_breath_22 : decode Y_X_breath.2.1 22 = .ok (.ireturn, 1) := by decide +kernel
theorem d_X_breath_23 : decode Y_X_breath.2.1 23 = .ok (.aload_n 0, 1) := by decide +kernel
theorem d_X_breath_24 : decode Y_X_breath.2.1 24 = .ok (.getfield 10, 3) := by decide +kernel
theorem d_X_breath_27 : decode Y_X_breath.2.1 27 = .ok (.getfield 98, 3) := by decide +kernel
theorem d_X_breath_30 : decode Y_X_breath.2.1 30 = .ok (.iload_n 1, 1) := by decide +kernel
theorem d_X_breath_31 : decode Y_X_breath.2.1 31 = .ok (.dup2, 1) := by decide +kernel
theorem d_X_breath_32 : decode Y_X_breath.2.1 32 = .ok (.iaload, 1) := by decide +kernel
theorem d_X_breath_33 : decode Y_X_breath.2.1 33 = .ok (.iconst 1, 1) := by decide +kernel
theorem d_X_breath_34 : decode Y_X_breath.2.1 34 = .ok (.iload_n 2, 1) := by decide +kernel
theorem d_X_breath_35 : decode Y_X_breath.2.1 35 = .ok (.ishl, 1) := by decide +kernel
theorem d_X_breath_36 : decode Y_X_breath.2.1 36 = .ok (.ixor, 1) := by decide +kernel
theorem d_X_breath_37 : decode Y_X_breath.2.1 37 = .ok (.iastore, 1) := by decide +kernel
theorem d_X_breath_38 : decode Y_X_breath.2.1 38 = .ok (.aload_n 0, 1) := by decide +kernel
theorem d_X_breath_39 : decode Y_X_breath.2.1 39 = .ok (.invokevirtual 88, 3) := by decide +kernel
theorem d_X_breath_42 : decode Y_X_breath.2.1 42 = .ok (.ireturn, 1) := by decide +kernel
theorem d_M_breath_0 : decode Y_M_breath.2.1 0 = .ok (.iload_n 1, 1) := by decide +kernel
theorem d_M_breath_1 : decode Y_M_breath.2.1 1 = .ok (.invokestatic 151, 3) := by decide +kernel
theorem d_M_breath_4 : decode Y_M_breath.2.1 4 = .ok (.ifCond .eq 24, 3) := by decide +kernel
theorem d_M_breath_7 : decode Y_M_breath.2.1 7 = .ok (.iload_n 2, 1) := by decide +kernel
theorem d_M_breath_8 : decode Y_M_breath.2.1 8 = .ok (.invokestatic 155, 3) := by decide +kernel
theorem d_M_breath_11 : decode Y_M_breath.2.1 11 = .ok (.ifCond .eq 17, 3) := by decide +kernel
theorem d_M_breath_14 : decode Y_M_breath.2.1 14 = .ok (.aload_n 0, 1) := by decide +kernel
theorem d_M_breath_15 : decode Y_M_breath.2.1 15 = .ok (.getfield 26, 3) := by decide +kernel
theorem d_M_breath_18 : decode Y_M_breath.2.1 18 = .ok (.iload_n 1, 1) := by decide +kernel
theorem d_M_breath_19 : decode Y_M_breath.2.1 19 = .ok (.iload_n 2, 1) := by decide +kernel
theorem d_M_breath_20 : decode Y_M_breath.2.1 20 = .ok (.invokestatic 158, 3) := by decide +kernel
theorem d_M_breath_23 : decode Y_M_breath.2.1 23 = .ok (.baload, 1) := by decide +kernel
theorem d_M_breath_24 : decode Y_M_breath.2.1 24 = .ok (.iload_n 3, 1) := by decide +kernel
theorem d_M_breath_25 : decode Y_M_breath.2.1 25 = .ok (.if_icmp .ne 5, 3) := by decide +kernel
theorem d_M_breath_28 : decode Y_M_breath.2.1 28 = .ok (.iconst 0, 1) := by decide +kernel
theorem d_M_breath_29 : decode Y_M_breath.2.1 29 = .ok (.ireturn, 1) := by decide +kernel
theorem d_M_breath_30 : decode Y_M_breath.2.1 30 = .ok (.aload_n 0, 1) := by decide +kernel
theorem d_M_breath_31 : decode Y_M_breath.2.1 31 = .ok (.getfield 26, 3) := by decide +kernel
theorem d_M_breath_34 : decode Y_M_breath.2.1 34 = .ok (.iload_n 1, 1) := by decide +kernel
theorem d_M_breath_35 : decode Y_M_breath.2.1 35 = .ok (.iload_n 2, 1) := by decide +kernel
theorem d_M_breath_36 : decode Y_M_breath.2.1 36 = .ok (.invokestatic 158, 3) := by decide +kernel
theorem d_M_breath_39 : decode Y_M_breath.2.1 39 = .ok (.iload_n 3, 1) := by decide +kernel
theorem d_M_breath_40 : decode Y_M_breath.2.1 40 = .ok (.bastore, 1) := by decide +kernel
theorem d_M_breath_41 : decode Y_M_breath.2.1 41 = .ok (.iconst 1, 1) := by decide +kernel
theorem d_M_breath_42 : decode Y_M_breath.2.1 42 = .ok (.ireturn, 1) := by decide +kernel
theorem d_X_size_0 : decode Y_X_size.2.1 0 = .ok (.iload_n 1, 1) := by decide +kernel
theorem d_X_size_1 : decode Y_X_size.2.1 1 = .ok (.iload_n 2, 1) := by decide +kernel
theorem d_X_size_2 : decode Y_X_size.2.1 2 = .ok (.invokestatic 73, 3) := by decide +kernel
theorem d_X_size_5 : decode Y_X_size.2.1 5 = .ok (.istore_n 3, 1) := by decide +kernel
theorem d_X_size_6 : decode Y_X_size.2.1 6 = .ok (.iload_n 3, 1) := by decide +kernel
theorem d_X_size_7 : decode Y_X_size.2.1 7 = .ok (.ldc 83, 2) := by decide +kernel
theorem d_X_size_9 : decode Y_X_size.2.1 9 = .ok (.if_icmp .ne 8, 3) := by decide +kernel
theorem d_X_size_12 : decode Y_X_size.2.1 12 = .ok (.ldc 102, 2) := by decide +kernel
theorem d_X_size_14 : decode Y_X_size.2.1 14 = .ok (.goto 7, 3) := by decide +kernel
theorem d_X_size_17 : decode Y_X_size.2.1 17 = .ok (.iload_n 3, 1) := by decide +kernel
theorem d_X_size_18 : decode Y_X_size.2.1 18 = .ok (.invokestatic 103, 3) := by decide +kernel
theorem d_X_size_21 : decode Y_X_size.2.1 21 = .ok (.ireturn, 1) := by decide +kernel
theorem d_M_size_0 : decode Y_M_size.2.1 0 = .ok (.iload_n 1, 1) := by decide +kernel
theorem d_M_size_1 : decode Y_M_size.2.1 1 = .ok (.iload_n 2, 1) := by decide +kernel
theorem d_M_size_2 : decode Y_M_size.2.1 2 = .ok (.invokestatic 189, 3) := by decide +kernel
theorem d_M_size_5 : decode Y_M_size.2.1 5 = .ok (.ifCond .eq 11, 3) := by decide +kernel
theorem d_M_size_8 : decode Y_M_size.2.1 8 = .ok (.iload_n 1, 1) := by decide +kernel
theorem d_M_size_9 : decode Y_M_size.2.1 9 = .ok (.iload_n 2, 1) := by decide +kernel
theorem d_M_size_10 : decode Y_M_size.2.1 10 = .ok (.invokestatic 182, 3) := by decide +kernel
theorem d_M_size_13 : decode Y_M_size.2.1 13 = .ok (.goto 5, 3) := by decide +kernel
theorem d_M_size_16 : decode Y_M_size.2.1 16 = .ok (.ldc 192, 2) := by decide +kernel
theorem d_M_size_18 : decode Y_M_size.2.1 18 = .ok (.ireturn, 1) := by decide +kernel
theorem d_Sc_bind_0 : decode Y_Sc_bind.2.1 0 = .ok (.iload_n 1, 1) := by decide +kernel
theorem d_Sc_bind_1 : decode Y_Sc_bind.2.1 1 = .ok (.ifCond .le 20, 3) := by decide +kernel
theorem d_Sc_bind_4 : decode Y_Sc_bind.2.1 4 = .ok (.iload_n 1, 1) := by decide +kernel
theorem d_Sc_bind_5 : decode Y_Sc_bind.2.1 5 = .ok (.bipush 24, 2) := by decide +kernel
theorem d_Sc_bind_7 : decode Y_Sc_bind.2.1 7 = .ok (.if_icmp .ge 14, 3) := by decide +kernel
theorem d_Sc_bind_10 : decode Y_Sc_bind.2.1 10 = .ok (.aload_n 0, 1) := by decide +kernel
theorem d_Sc_bind_11 : decode Y_Sc_bind.2.1 11 = .ok (.getfield 24, 3) := by decide +kernel
theorem d_Sc_bind_14 : decode Y_Sc_bind.2.1 14 = .ok (.iload_n 1, 1) := by decide +kernel
theorem d_Sc_bind_15 : decode Y_Sc_bind.2.1 15 = .ok (.iload_n 2, 1) := by decide +kernel
theorem d_Sc_bind_16 : decode Y_Sc_bind.2.1 16 = .ok (.iastore, 1) := by decide +kernel
theorem d_Sc_bind_17 : decode Y_Sc_bind.2.1 17 = .ok (.aload_n 0, 1) := by decide +kernel
theorem d_Sc_bind_18 : decode Y_Sc_bind.2.1 18 = .ok (.invokevirtual 58, 3) := by decide +kernel
theorem d_Sc_bind_21 : decode Y_Sc_bind.2.1 21 = .ok (.return_, 1) := by decide +kernel
theorem d_X_link_0 : decode Y_X_link.2.1 0 = .ok (.iload_n 1, 1) := by decide +kernel
theorem d_X_link_1 : decode Y_X_link.2.1 1 = .ok (.iconst 1, 1) := by decide +kernel
theorem d_X_link_2 : decode Y_X_link.2.1 2 = .ok (.if_icmp .lt 26, 3) := by decide +kernel
theorem d_X_link_5 : decode Y_X_link.2.1 5 = .ok (.iload_n 1, 1) := by decide +kernel
theorem d_X_link_6 : decode Y_X_link.2.1 6 = .ok (.bipush 24, 2) := by decide +kernel
theorem d_X_link_8 : decode Y_X_link.2.1 8 = .ok (.if_icmp .ge 20, 3) := by decide +kernel
theorem d_X_link_11 : decode Y_X_link.2.1 11 = .ok (.iload_n 2, 1) := by decide +kernel
theorem d_X_link_12 : decode Y_X_link.2.1 12 = .ok (.iconst (-1), 1) := by decide +kernel
theorem d_X_link_13 : decode Y_X_link.2.1 13 = .ok (.if_icmp .eq 17, 3) := by decide +kernel
theorem d_X_link_16 : decode Y_X_link.2.1 16 = .ok (.aload_n 0, 1) := by decide +kernel
theorem d_X_link_17 : decode Y_X_link.2.1 17 = .ok (.getfield 10, 3) := by decide +kernel
theorem d_X_link_20 : decode Y_X_link.2.1 20 = .ok (.iload_n 2, 1) := by decide +kernel
theorem d_X_link_21 : decode Y_X_link.2.1 21 = .ok (.iload_n 1, 1) := by decide +kernel
theorem d_X_link_22 : decode Y_X_link.2.1 22 = .ok (.invokevirtual 107, 3) := by decide +kernel
theorem d_X_link_25 : decode Y_X_link.2.1 25 = .ok (.ifCond .ne 5, 3) := by decide +kernel
theorem d_X_link_28 : decode Y_X_link.2.1 28 = .ok (.iconst 0, 1) := by decide +kernel
theorem d_X_link_29 : decode Y_X_link.2.1 29 = .ok (.ireturn, 1) := by decide +kernel
theorem d_X_link_30 : decode Y_X_link.2.1 30 = .ok (.aload_n 0, 1) := by decide +kernel
theorem d_X_link_31 : decode Y_X_link.2.1 31 = .ok (.getfield 10, 3) := by decide +kernel
theorem d_X_link_34 : decode Y_X_link.2.1 34 = .ok (.iload_n 1, 1) := by decide +kernel
theorem d_X_link_35 : decode Y_X_link.2.1 35 = .ok (.iload_n 2, 1) := by decide +kernel
theorem d_X_link_36 : decode Y_X_link.2.1 36 = .ok (.invokevirtual 110, 3) := by decide +kernel
theorem d_X_link_39 : decode Y_X_link.2.1 39 = .ok (.aload_n 0, 1) := by decide +kernel
theorem d_X_link_40 : decode Y_X_link.2.1 40 = .ok (.invokevirtual 88, 3) := by decide +kernel
theorem d_X_link_43 : decode Y_X_link.2.1 43 = .ok (.ireturn, 1) := by decide +kernel
theorem d_M_link_0 : decode Y_M_link.2.1 0 = .ok (.iload_n 1, 1) := by decide +kernel
theorem d_M_link_1 : decode Y_M_link.2.1 1 = .ok (.i2l, 1) := by decide +kernel
theorem d_M_link_2 : decode Y_M_link.2.1 2 = .ok (.lconst 1, 1) := by decide +kernel
theorem d_M_link_3 : decode Y_M_link.2.1 3 = .ok (.ldc2_w 149, 3) := by decide +kernel
theorem d_M_link_6 : decode Y_M_link.2.1 6 = .ok (.invokestatic 145, 3) := by decide +kernel
theorem d_M_link_9 : decode Y_M_link.2.1 9 = .ok (.ifCond .eq 17, 3) := by decide +kernel
theorem d_M_link_12 : decode Y_M_link.2.1 12 = .ok (.iload_n 2, 1) := by decide +kernel
theorem d_M_link_13 : decode Y_M_link.2.1 13 = .ok (.iconst (-1), 1) := by decide +kernel
theorem d_M_link_14 : decode Y_M_link.2.1 14 = .ok (.if_icmp .eq 14, 3) := by decide +kernel
theorem d_M_link_17 : decode Y_M_link.2.1 17 = .ok (.aload_n 0, 1) := by decide +kernel
theorem d_M_link_18 : decode Y_M_link.2.1 18 = .ok (.iload_n 2, 1) := by decide +kernel
theorem d_M_link_19 : decode Y_M_link.2.1 19 = .ok (.iload_n 1, 1) := by decide +kernel
theorem d_M_link_20 : decode Y_M_link.2.1 20 = .ok (.invokevirtual 193, 3) := by decide +kernel
theorem d_M_link_23 : decode Y_M_link.2.1 23 = .ok (.ifCond .ne 5, 3) := by decide +kernel
theorem d_M_link_26 : decode Y_M_link.2.1 26 = .ok (.iconst 0, 1) := by decide +kernel
theorem d_M_link_27 : decode Y_M_link.2.1 27 = .ok (.ireturn, 1) := by decide +kernel
theorem d_M_link_28 : decode Y_M_link.2.1 28 = .ok (.aload_n 0, 1) := by decide +kernel
theorem d_M_link_29 : decode Y_M_link.2.1 29 = .ok (.getfield 30, 3) := by decide +kernel
theorem d_M_link_32 : decode Y_M_link.2.1 32 = .ok (.iload_n 1, 1) := by decide +kernel
theorem d_M_link_33 : decode Y_M_link.2.1 33 = .ok (.iload_n 2, 1) := by decide +kernel
theorem d_M_link_34 : decode Y_M_link.2.1 34 = .ok (.iastore, 1) := by decide +kernel
theorem d_M_link_35 : decode Y_M_link.2.1 35 = .ok (.iconst 1, 1) := by decide +kernel
theorem d_M_link_36 : decode Y_M_link.2.1 36 = .ok (.ireturn, 1) := by decide +kernel
theorem d_Sc_heldIn_0 : decode Y_Sc_heldIn.2.1 0 = .ok (.iconst 0, 1) := by decide +kernel
theorem d_Sc_heldIn_1 : decode Y_Sc_heldIn.2.1 1 = .ok (.istore_n 2, 1) := by decide +kernel
theorem d_Sc_heldIn_2 : decode Y_Sc_heldIn.2.1 2 = .ok (.iconst 0, 1) := by decide +kernel
theorem d_Sc_heldIn_3 : decode Y_Sc_heldIn.2.1 3 = .ok (.istore_n 3, 1) := by decide +kernel
theorem d_Sc_heldIn_4 : decode Y_Sc_heldIn.2.1 4 = .ok (.iload_n 3, 1) := by decide +kernel
theorem d_Sc_heldIn_5 : decode Y_Sc_heldIn.2.1 5 = .ok (.bipush 6, 2) := by decide +kernel
theorem d_Sc_heldIn_7 : decode Y_Sc_heldIn.2.1 7 = .ok (.if_icmp .ge 28, 3) := by decide +kernel
theorem d_Sc_heldIn_10 : decode Y_Sc_heldIn.2.1 10 = .ok (.iload_n 2, 1) := by decide +kernel
theorem d_Sc_heldIn_11 : decode Y_Sc_heldIn.2.1 11 = .ok (.aload_n 0, 1) := by decide +kernel
theorem d_Sc_heldIn_12 : decode Y_Sc_heldIn.2.1 12 = .ok (.iload_n 3, 1) := by decide +kernel
theorem d_Sc_heldIn_13 : decode Y_Sc_heldIn.2.1 13 = .ok (.iload_n 1, 1) := by decide +kernel
theorem d_Sc_heldIn_14 : decode Y_Sc_heldIn.2.1 14 = .ok (.invokevirtual 55, 3) := by decide +kernel
theorem d_Sc_heldIn_17 : decode Y_Sc_heldIn.2.1 17 = .ok (.ifCond .eq 9, 3) := by decide +kernel
theorem d_Sc_heldIn_20 : decode Y_Sc_heldIn.2.1 20 = .ok (.iconst 1, 1) := by decide +kernel
theorem d_Sc_heldIn_21 : decode Y_Sc_heldIn.2.1 21 = .ok (.iload_n 3, 1) := by decide +kernel
theorem d_Sc_heldIn_22 : decode Y_Sc_heldIn.2.1 22 = .ok (.ishl, 1) := by decide +kernel
theorem d_Sc_heldIn_23 : decode Y_Sc_heldIn.2.1 23 = .ok (.goto 4, 3) := by decide +kernel
theorem d_Sc_heldIn_26 : decode Y_Sc_heldIn.2.1 26 = .ok (.iconst 0, 1) := by decide +kernel
theorem d_Sc_heldIn_27 : decode Y_Sc_heldIn.2.1 27 = .ok (.ior, 1) := by decide +kernel
theorem d_Sc_heldIn_28 : decode Y_Sc_heldIn.2.1 28 = .ok (.istore_n 2, 1) := by decide +kernel
theorem d_Sc_heldIn_29 : decode Y_Sc_heldIn.2.1 29 = .ok (.iinc 3 1, 3) := by decide +kernel
theorem d_Sc_heldIn_32 : decode Y_Sc_heldIn.2.1 32 = .ok (.goto (-28), 3) := by decide +kernel
theorem d_Sc_heldIn_35 : decode Y_Sc_heldIn.2.1 35 = .ok (.iload_n 2, 1) := by decide +kernel
theorem d_Sc_heldIn_36 : decode Y_Sc_heldIn.2.1 36 = .ok (.ireturn, 1) := by decide +kernel
theorem d_Sc_tearBy_0 : decode Y_Sc_tearBy.2.1 0 = .ok (.aload_n 0, 1) := by decide +kernel
theorem d_Sc_tearBy_1 : decode Y_Sc_tearBy.2.1 1 = .ok (.iload_n 1, 1) := by decide +kernel
theorem d_Sc_tearBy_2 : decode Y_Sc_tearBy.2.1 2 = .ok (.iload_n 2, 1) := by decide +kernel
theorem d_Sc_tearBy_3 : decode Y_Sc_tearBy.2.1 3 = .ok (.invokevirtual 55, 3) := by decide +kernel
theorem d_Sc_tearBy_6 : decode Y_Sc_tearBy.2.1 6 = .ok (.ifCond .eq 31, 3) := by decide +kernel
theorem d_Sc_tearBy_9 : decode Y_Sc_tearBy.2.1 9 = .ok (.aload_n 0, 1) := by decide +kernel
theorem d_Sc_tearBy_10 : decode Y_Sc_tearBy.2.1 10 = .ok (.getfield 18, 3) := by decide +kernel
theorem d_Sc_tearBy_13 : decode Y_Sc_tearBy.2.1 13 = .ok (.iload_n 1, 1) := by decide +kernel
theorem d_Sc_tearBy_14 : decode Y_Sc_tearBy.2.1 14 = .ok (.iload_n 2, 1) := by decide +kernel
theorem d_Sc_tearBy_15 : decode Y_Sc_tearBy.2.1 15 = .ok (.invokestatic 46, 3) := by decide +kernel
theorem d_Sc_tearBy_18 : decode Y_Sc_tearBy.2.1 18 = .ok (.iaload, 1) := by decide +kernel
theorem d_Sc_tearBy_19 : decode Y_Sc_tearBy.2.1 19 = .ok (.aload_n 0, 1) := by decide +kernel
theorem d_Sc_tearBy_20 : decode Y_Sc_tearBy.2.1 20 = .ok (.getfield 18, 3) := by decide +kernel
theorem d_Sc_tearBy_23 : decode Y_Sc_tearBy.2.1 23 = .ok (.iload_n 1, 1) := by decide +kernel
theorem d_Sc_tearBy_24 : decode Y_Sc_tearBy.2.1 24 = .ok (.iload_n 2, 1) := by decide +kernel
theorem d_Sc_tearBy_25 : decode Y_Sc_tearBy.2.1 25 = .ok (.iconst 1, 1) := by decide +kernel
theorem d_Sc_tearBy_26 : decode Y_Sc_tearBy.2.1 26 = .ok (.isub, 1) := by decide +kernel
theorem d_Sc_tearBy_27 : decode Y_Sc_tearBy.2.1 27 = .ok (.invokestatic 46, 3) := by decide +kernel
theorem d_Sc_tearBy_30 : decode Y_Sc_tearBy.2.1 30 = .ok (.iaload, 1) := by decide +kernel
theorem d_Sc_tearBy_31 : decode Y_Sc_tearBy.2.1 31 = .ok (.isub, 1) := by decide +kernel
theorem d_Sc_tearBy_32 : decode Y_Sc_tearBy.2.1 32 = .ok (.iload_n 3, 1) := by decide +kernel
theorem d_Sc_tearBy_33 : decode Y_Sc_tearBy.2.1 33 = .ok (.iadd, 1) := by decide +kernel
theorem d_Sc_tearBy_34 : decode Y_Sc_tearBy.2.1 34 = .ok (.goto 4, 3) := by decide +kernel
theorem d_Sc_tearBy_37 : decode Y_Sc_tearBy.2.1 37 = .ok (.iconst 0, 1) := by decide +kernel
theorem d_Sc_tearBy_38 : decode Y_Sc_tearBy.2.1 38 = .ok (.ireturn, 1) := by decide +kernel
theorem d_Sc_tear_0 : decode Y_Sc_tear.2.1 0 = .ok (.aload_n 0, 1) := by decide +kernel
theorem d_Sc_tear_1 : decode Y_Sc_tear.2.1 1 = .ok (.iload_n 1, 1) := by decide +kernel
theorem d_Sc_tear_2 : decode Y_Sc_tear.2.1 2 = .ok (.iload_n 2, 1) := by decide +kernel
theorem d_Sc_tear_3 : decode Y_Sc_tear.2.1 3 = .ok (.invokevirtual 55, 3) := by decide +kernel
theorem d_Sc_tear_6 : decode Y_Sc_tear.2.1 6 = .ok (.ifCond .eq 27, 3) := by decide +kernel
theorem d_Sc_tear_9 : decode Y_Sc_tear.2.1 9 = .ok (.aload_n 0, 1) := by decide +kernel
theorem d_Sc_tear_10 : decode Y_Sc_tear.2.1 10 = .ok (.iload_n 1, 1) := by decide +kernel
theorem d_Sc_tear_11 : decode Y_Sc_tear.2.1 11 = .ok (.iload_n 2, 1) := by decide +kernel
theorem d_Sc_tear_12 : decode Y_Sc_tear.2.1 12 = .ok (.aload_n 0, 1) := by decide +kernel
theorem d_Sc_tear_13 : decode Y_Sc_tear.2.1 13 = .ok (.getfield 27, 3) := by decide +kernel
theorem d_Sc_tear_16 : decode Y_Sc_tear.2.1 16 = .ok (.iload_n 2, 1) := by decide +kernel
theorem d_Sc_tear_17 : decode Y_Sc_tear.2.1 17 = .ok (.iaload, 1) := by decide +kernel
theorem d_Sc_tear_18 : decode Y_Sc_tear.2.1 18 = .ok (.aload_n 0, 1) := by decide +kernel
theorem d_Sc_tear_19 : decode Y_Sc_tear.2.1 19 = .ok (.getfield 27, 3) := by decide +kernel
theorem d_Sc_tear_22 : decode Y_Sc_tear.2.1 22 = .ok (.iload_n 2, 1) := by decide +kernel
theorem d_Sc_tear_23 : decode Y_Sc_tear.2.1 23 = .ok (.iconst 1, 1) := by decide +kernel
theorem d_Sc_tear_24 : decode Y_Sc_tear.2.1 24 = .ok (.isub, 1) := by decide +kernel
theorem d_Sc_tear_25 : decode Y_Sc_tear.2.1 25 = .ok (.iaload, 1) := by decide +kernel
theorem d_Sc_tear_26 : decode Y_Sc_tear.2.1 26 = .ok (.isub, 1) := by decide +kernel
theorem d_Sc_tear_27 : decode Y_Sc_tear.2.1 27 = .ok (.invokevirtual 64, 3) := by decide +kernel
theorem d_Sc_tear_30 : decode Y_Sc_tear.2.1 30 = .ok (.goto 4, 3) := by decide +kernel
theorem d_Sc_tear_33 : decode Y_Sc_tear.2.1 33 = .ok (.iconst 0, 1) := by decide +kernel
theorem d_Sc_tear_34 : decode Y_Sc_tear.2.1 34 = .ok (.ireturn, 1) := by decide +kernel
theorem d_Sc_tornIn_0 : decode Y_Sc_tornIn.2.1 0 = .ok (.iconst 0, 1) := by decide +kernel
theorem d_Sc_tornIn_1 : decode Y_Sc_tornIn.2.1 1 = .ok (.istore_n 2, 1) := by decide +kernel
theorem d_Sc_tornIn_2 : decode Y_Sc_tornIn.2.1 2 = .ok (.iconst 0, 1) := by decide +kernel
theorem d_Sc_tornIn_3 : decode Y_Sc_tornIn.2.1 3 = .ok (.istore_n 3, 1) := by decide +kernel
theorem d_Sc_tornIn_4 : decode Y_Sc_tornIn.2.1 4 = .ok (.iload_n 3, 1) := by decide +kernel
theorem d_Sc_tornIn_5 : decode Y_Sc_tornIn.2.1 5 = .ok (.bipush 6, 2) := by decide +kernel
theorem d_Sc_tornIn_7 : decode Y_Sc_tornIn.2.1 7 = .ok (.if_icmp .ge 28, 3) := by decide +kernel
theorem d_Sc_tornIn_10 : decode Y_Sc_tornIn.2.1 10 = .ok (.iload_n 2, 1) := by decide +kernel
theorem d_Sc_tornIn_11 : decode Y_Sc_tornIn.2.1 11 = .ok (.aload_n 0, 1) := by decide +kernel
theorem d_Sc_tornIn_12 : decode Y_Sc_tornIn.2.1 12 = .ok (.iload_n 3, 1) := by decide +kernel
theorem d_Sc_tornIn_13 : decode Y_Sc_tornIn.2.1 13 = .ok (.iload_n 1, 1) := by decide +kernel
theorem d_Sc_tornIn_14 : decode Y_Sc_tornIn.2.1 14 = .ok (.invokevirtual 76, 3) := by decide +kernel
theorem d_Sc_tornIn_17 : decode Y_Sc_tornIn.2.1 17 = .ok (.ifCond .eq 9, 3) := by decide +kernel
theorem d_Sc_tornIn_20 : decode Y_Sc_tornIn.2.1 20 = .ok (.iconst 1, 1) := by decide +kernel
theorem d_Sc_tornIn_21 : decode Y_Sc_tornIn.2.1 21 = .ok (.iload_n 3, 1) := by decide +kernel
theorem d_Sc_tornIn_22 : decode Y_Sc_tornIn.2.1 22 = .ok (.ishl, 1) := by decide +kernel
theorem d_Sc_tornIn_23 : decode Y_Sc_tornIn.2.1 23 = .ok (.goto 4, 3) := by decide +kernel
theorem d_Sc_tornIn_26 : decode Y_Sc_tornIn.2.1 26 = .ok (.iconst 0, 1) := by decide +kernel
theorem d_Sc_tornIn_27 : decode Y_Sc_tornIn.2.1 27 = .ok (.ior, 1) := by decide +kernel
theorem d_Sc_tornIn_28 : decode Y_Sc_tornIn.2.1 28 = .ok (.istore_n 2, 1) := by decide +kernel
theorem d_Sc_tornIn_29 : decode Y_Sc_tornIn.2.1 29 = .ok (.iinc 3 1, 3) := by decide +kernel
theorem d_Sc_tornIn_32 : decode Y_Sc_tornIn.2.1 32 = .ok (.goto (-28), 3) := by decide +kernel
theorem d_Sc_tornIn_35 : decode Y_Sc_tornIn.2.1 35 = .ok (.iload_n 2, 1) := by decide +kernel
theorem d_Sc_tornIn_36 : decode Y_Sc_tornIn.2.1 36 = .ok (.ireturn, 1) := by decide +kernel
theorem d_X_keynote_0 : decode Y_X_keynote.2.1 0 = .ok (.iload_n 1, 1) := by decide +kernel
theorem d_X_keynote_1 : decode Y_X_keynote.2.1 1 = .ok (.ifCond .lt 9, 3) := by decide +kernel
theorem d_X_keynote_4 : decode Y_X_keynote.2.1 4 = .ok (.iload_n 1, 1) := by decide +kernel
theorem d_X_keynote_5 : decode Y_X_keynote.2.1 5 = .ok (.bipush 24, 2) := by decide +kernel
theorem d_X_keynote_7 : decode Y_X_keynote.2.1 7 = .ok (.if_icmp .lt 6, 3) := by decide +kernel
theorem d_X_keynote_10 : decode Y_X_keynote.2.1 10 = .ok (.ldc 102, 2) := by decide +kernel
theorem d_X_keynote_12 : decode Y_X_keynote.2.1 12 = .ok (.ireturn, 1) := by decide +kernel
theorem d_X_keynote_13 : decode Y_X_keynote.2.1 13 = .ok (.iload_n 2, 1) := by decide +kernel
theorem d_X_keynote_14 : decode Y_X_keynote.2.1 14 = .ok (.tableswitch 94 0 6 #[42, 52, 52, 52, 66, 76, 85], 42) := by decide +kernel
theorem d_X_keynote_56 : decode Y_X_keynote.2.1 56 = .ok (.aload_n 0, 1) := by decide +kernel
theorem d_X_keynote_57 : decode Y_X_keynote.2.1 57 = .ok (.getfield 10, 3) := by decide +kernel
theorem d_X_keynote_60 : decode Y_X_keynote.2.1 60 = .ok (.getfield 114, 3) := by decide +kernel
theorem d_X_keynote_63 : decode Y_X_keynote.2.1 63 = .ok (.iload_n 1, 1) := by decide +kernel
theorem d_X_keynote_64 : decode Y_X_keynote.2.1 64 = .ok (.iaload, 1) := by decide +kernel
theorem d_X_keynote_65 : decode Y_X_keynote.2.1 65 = .ok (.ireturn, 1) := by decide +kernel
theorem d_X_keynote_66 : decode Y_X_keynote.2.1 66 = .ok (.aload_n 0, 1) := by decide +kernel
theorem d_X_keynote_67 : decode Y_X_keynote.2.1 67 = .ok (.getfield 10, 3) := by decide +kernel
theorem d_X_keynote_70 : decode Y_X_keynote.2.1 70 = .ok (.getfield 117, 3) := by decide +kernel
theorem d_X_keynote_73 : decode Y_X_keynote.2.1 73 = .ok (.iload_n 1, 1) := by decide +kernel
theorem d_X_keynote_74 : decode Y_X_keynote.2.1 74 = .ok (.iaload, 1) := by decide +kernel
theorem d_X_keynote_75 : decode Y_X_keynote.2.1 75 = .ok (.iload_n 2, 1) := by decide +kernel
theorem d_X_keynote_76 : decode Y_X_keynote.2.1 76 = .ok (.invokestatic 120, 3) := by decide +kernel
theorem d_X_keynote_79 : decode Y_X_keynote.2.1 79 = .ok (.ireturn, 1) := by decide +kernel
theorem d_X_keynote_80 : decode Y_X_keynote.2.1 80 = .ok (.aload_n 0, 1) := by decide +kernel
theorem d_X_keynote_81 : decode Y_X_keynote.2.1 81 = .ok (.getfield 10, 3) := by decide +kernel
theorem d_X_keynote_84 : decode Y_X_keynote.2.1 84 = .ok (.getfield 123, 3) := by decide +kernel
theorem d_X_keynote_87 : decode Y_X_keynote.2.1 87 = .ok (.iload_n 1, 1) := by decide +kernel
theorem d_X_keynote_88 : decode Y_X_keynote.2.1 88 = .ok (.iaload, 1) := by decide +kernel
theorem d_X_keynote_89 : decode Y_X_keynote.2.1 89 = .ok (.ireturn, 1) := by decide +kernel
theorem d_X_keynote_90 : decode Y_X_keynote.2.1 90 = .ok (.aload_n 0, 1) := by decide +kernel
theorem d_X_keynote_91 : decode Y_X_keynote.2.1 91 = .ok (.getfield 10, 3) := by decide +kernel
theorem d_X_keynote_94 : decode Y_X_keynote.2.1 94 = .ok (.iload_n 1, 1) := by decide +kernel
theorem d_X_keynote_95 : decode Y_X_keynote.2.1 95 = .ok (.invokevirtual 126, 3) := by decide +kernel
theorem d_X_keynote_98 : decode Y_X_keynote.2.1 98 = .ok (.ireturn, 1) := by decide +kernel
theorem d_X_keynote_99 : decode Y_X_keynote.2.1 99 = .ok (.aload_n 0, 1) := by decide +kernel
theorem d_X_keynote_100 : decode Y_X_keynote.2.1 100 = .ok (.getfield 10, 3) := by decide +kernel
theorem d_X_keynote_103 : decode Y_X_keynote.2.1 103 = .ok (.iload_n 1, 1) := by decide +kernel
theorem d_X_keynote_104 : decode Y_X_keynote.2.1 104 = .ok (.invokevirtual 129, 3) := by decide +kernel
theorem d_X_keynote_107 : decode Y_X_keynote.2.1 107 = .ok (.ireturn, 1) := by decide +kernel
theorem d_X_keynote_108 : decode Y_X_keynote.2.1 108 = .ok (.ldc 102, 2) := by decide +kernel
theorem d_X_keynote_110 : decode Y_X_keynote.2.1 110 = .ok (.ireturn, 1) := by decide +kernel
theorem d_M_leap_0 : decode Y_M_leap.2.1 0 = .ok (.iload_n 2, 1) := by decide +kernel
theorem d_M_leap_1 : decode Y_M_leap.2.1 1 = .ok (.iconst (-1), 1) := by decide +kernel
theorem d_M_leap_2 : decode Y_M_leap.2.1 2 = .ok (.if_icmp .ne 7, 3) := by decide +kernel
theorem d_M_leap_5 : decode Y_M_leap.2.1 5 = .ok (.iconst 0, 1) := by decide +kernel
theorem d_M_leap_6 : decode Y_M_leap.2.1 6 = .ok (.goto 20, 3) := by decide +kernel
theorem d_M_leap_9 : decode Y_M_leap.2.1 9 = .ok (.aload_n 1, 1) := by decide +kernel
theorem d_M_leap_10 : decode Y_M_leap.2.1 10 = .ok (.iload_n 2, 1) := by decide +kernel
theorem d_M_leap_11 : decode Y_M_leap.2.1 11 = .ok (.iload_n 3, 1) := by decide +kernel
theorem d_M_leap_12 : decode Y_M_leap.2.1 12 = .ok (.iconst 1, 1) := by decide +kernel
theorem d_M_leap_13 : decode Y_M_leap.2.1 13 = .ok (.isub, 1) := by decide +kernel
theorem d_M_leap_14 : decode Y_M_leap.2.1 14 = .ok (.invokestatic 158, 3) := by decide +kernel
theorem d_M_leap_17 : decode Y_M_leap.2.1 17 = .ok (.iaload, 1) := by decide +kernel
theorem d_M_leap_18 : decode Y_M_leap.2.1 18 = .ok (.aload_n 1, 1) := by decide +kernel
theorem d_M_leap_19 : decode Y_M_leap.2.1 19 = .ok (.iload_n 2, 1) := by decide +kernel
theorem d_M_leap_20 : decode Y_M_leap.2.1 20 = .ok (.iload_n 3, 1) := by decide +kernel
theorem d_M_leap_21 : decode Y_M_leap.2.1 21 = .ok (.invokestatic 158, 3) := by decide +kernel
theorem d_M_leap_24 : decode Y_M_leap.2.1 24 = .ok (.iaload, 1) := by decide +kernel
theorem d_M_leap_25 : decode Y_M_leap.2.1 25 = .ok (.isub, 1) := by decide +kernel
theorem d_M_leap_26 : decode Y_M_leap.2.1 26 = .ok (.ireturn, 1) := by decide +kernel
theorem d_M_goesTo_0 : decode Y_M_goesTo.2.1 0 = .ok (.aload_n 0, 1) := by decide +kernel
theorem d_M_goesTo_1 : decode Y_M_goesTo.2.1 1 = .ok (.iconst 0, 1) := by decide +kernel
theorem d_M_goesTo_2 : decode Y_M_goesTo.2.1 2 = .ok (.putfield 202, 3) := by decide +kernel
theorem d_M_goesTo_5 : decode Y_M_goesTo.2.1 5 = .ok (.aload_n 0, 1) := by decide +kernel
theorem d_M_goesTo_6 : decode Y_M_goesTo.2.1 6 = .ok (.iconst 0, 1) := by decide +kernel
theorem d_M_goesTo_7 : decode Y_M_goesTo.2.1 7 = .ok (.putfield 205, 3) := by decide +kernel
theorem d_M_goesTo_10 : decode Y_M_goesTo.2.1 10 = .ok (.aload_n 0, 1) := by decide +kernel
theorem d_M_goesTo_11 : decode Y_M_goesTo.2.1 11 = .ok (.iconst 0, 1) := by decide +kernel
theorem d_M_goesTo_12 : decode Y_M_goesTo.2.1 12 = .ok (.putfield 208, 3) := by decide +kernel
theorem d_M_goesTo_15 : decode Y_M_goesTo.2.1 15 = .ok (.iconst 1, 1) := by decide +kernel
theorem d_M_goesTo_16 : decode Y_M_goesTo.2.1 16 = .ok (.istore_n 2, 1) := by decide +kernel
theorem d_M_goesTo_17 : decode Y_M_goesTo.2.1 17 = .ok (.iload_n 2, 1) := by decide +kernel
theorem d_M_goesTo_18 : decode Y_M_goesTo.2.1 18 = .ok (.iload_n 1, 1) := by decide +kernel
theorem d_M_goesTo_19 : decode Y_M_goesTo.2.1 19 = .ok (.if_icmp .gt 81, 3) := by decide +kernel
theorem d_M_goesTo_22 : decode Y_M_goesTo.2.1 22 = .ok (.aload_n 0, 1) := by decide +kernel
theorem d_M_goesTo_23 : decode Y_M_goesTo.2.1 23 = .ok (.dup, 1) := by decide +kernel
theorem d_M_goesTo_24 : decode Y_M_goesTo.2.1 24 = .ok (.getfield 202, 3) := by decide +kernel
theorem d_M_goesTo_27 : decode Y_M_goesTo.2.1 27 = .ok (.aload_n 0, 1) := by decide +kernel
theorem d_M_goesTo_28 : decode Y_M_goesTo.2.1 28 = .ok (.aload_n 0, 1) := by decide +kernel
theorem d_M_goesTo_29 : decode Y_M_goesTo.2.1 29 = .ok (.getfield 17, 3) := by decide +kernel
theorem d_M_goesTo_32 : decode Y_M_goesTo.2.1 32 = .ok (.aload_n 0, 1) := by decide +kernel
theorem d_M_goesTo_33 : decode Y_M_goesTo.2.1 33 = .ok (.getfield 30, 3) := by decide +kernel
theorem d_M_goesTo_36 : decode Y_M_goesTo.2.1 36 = .ok (.iload_n 2, 1) := by decide +kernel
theorem d_M_goesTo_37 : decode Y_M_goesTo.2.1 37 = .ok (.iaload, 1) := by decide +kernel
theorem d_M_goesTo_38 : decode Y_M_goesTo.2.1 38 = .ok (.iload_n 2, 1) := by decide +kernel
theorem d_M_goesTo_39 : decode Y_M_goesTo.2.1 39 = .ok (.invokevirtual 211, 3) := by decide +kernel
theorem d_M_goesTo_42 : decode Y_M_goesTo.2.1 42 = .ok (.iadd, 1) := by decide +kernel
theorem d_M_goesTo_43 : decode Y_M_goesTo.2.1 43 = .ok (.putfield 202, 3) := by decide +kernel
theorem d_M_goesTo_46 : decode Y_M_goesTo.2.1 46 = .ok (.aload_n 0, 1) := by decide +kernel
theorem d_M_goesTo_47 : decode Y_M_goesTo.2.1 47 = .ok (.dup, 1) := by decide +kernel
theorem d_M_goesTo_48 : decode Y_M_goesTo.2.1 48 = .ok (.getfield 205, 3) := by decide +kernel
theorem d_M_goesTo_51 : decode Y_M_goesTo.2.1 51 = .ok (.aload_n 0, 1) := by decide +kernel
theorem d_M_goesTo_52 : decode Y_M_goesTo.2.1 52 = .ok (.aload_n 0, 1) := by decide +kernel
theorem d_M_goesTo_53 : decode Y_M_goesTo.2.1 53 = .ok (.getfield 20, 3) := by decide +kernel
theorem d_M_goesTo_56 : decode Y_M_goesTo.2.1 56 = .ok (.aload_n 0, 1) := by decide +kernel
theorem d_M_goesTo_57 : decode Y_M_goesTo.2.1 57 = .ok (.getfield 30, 3) := by decide +kernel
theorem d_M_goesTo_60 : decode Y_M_goesTo.2.1 60 = .ok (.iload_n 2, 1) := by decide +kernel
theorem d_M_goesTo_61 : decode Y_M_goesTo.2.1 61 = .ok (.iaload, 1) := by decide +kernel
theorem d_M_goesTo_62 : decode Y_M_goesTo.2.1 62 = .ok (.iload_n 2, 1) := by decide +kernel
theorem d_M_goesTo_63 : decode Y_M_goesTo.2.1 63 = .ok (.invokevirtual 211, 3) := by decide +kernel
theorem d_M_goesTo_66 : decode Y_M_goesTo.2.1 66 = .ok (.iadd, 1) := by decide +kernel
theorem d_M_goesTo_67 : decode Y_M_goesTo.2.1 67 = .ok (.putfield 205, 3) := by decide +kernel
theorem d_M_goesTo_70 : decode Y_M_goesTo.2.1 70 = .ok (.aload_n 0, 1) := by decide +kernel
theorem d_M_goesTo_71 : decode Y_M_goesTo.2.1 71 = .ok (.dup, 1) := by decide +kernel
theorem d_M_goesTo_72 : decode Y_M_goesTo.2.1 72 = .ok (.getfield 208, 3) := by decide +kernel
theorem d_M_goesTo_75 : decode Y_M_goesTo.2.1 75 = .ok (.aload_n 0, 1) := by decide +kernel
theorem d_M_goesTo_76 : decode Y_M_goesTo.2.1 76 = .ok (.aload_n 0, 1) := by decide +kernel
theorem d_M_goesTo_77 : decode Y_M_goesTo.2.1 77 = .ok (.getfield 23, 3) := by decide +kernel
theorem d_M_goesTo_80 : decode Y_M_goesTo.2.1 80 = .ok (.aload_n 0, 1) := by decide +kernel
theorem d_M_goesTo_81 : decode Y_M_goesTo.2.1 81 = .ok (.getfield 30, 3) := by decide +kernel
theorem d_M_goesTo_84 : decode Y_M_goesTo.2.1 84 = .ok (.iload_n 2, 1) := by decide +kernel
theorem d_M_goesTo_85 : decode Y_M_goesTo.2.1 85 = .ok (.iaload, 1) := by decide +kernel
theorem d_M_goesTo_86 : decode Y_M_goesTo.2.1 86 = .ok (.iload_n 2, 1) := by decide +kernel
theorem d_M_goesTo_87 : decode Y_M_goesTo.2.1 87 = .ok (.invokevirtual 211, 3) := by decide +kernel
theorem d_M_goesTo_90 : decode Y_M_goesTo.2.1 90 = .ok (.iadd, 1) := by decide +kernel
theorem d_M_goesTo_91 : decode Y_M_goesTo.2.1 91 = .ok (.putfield 208, 3) := by decide +kernel
theorem d_M_goesTo_94 : decode Y_M_goesTo.2.1 94 = .ok (.iinc 2 1, 3) := by decide +kernel
theorem d_M_goesTo_97 : decode Y_M_goesTo.2.1 97 = .ok (.goto (-80), 3) := by decide +kernel
theorem d_M_goesTo_100 : decode Y_M_goesTo.2.1 100 = .ok (.return_, 1) := by decide +kernel
theorem d_M_keynoteOf_0 : decode Y_M_keynoteOf.2.1 0 = .ok (.aload_n 0, 1) := by decide +kernel
theorem d_M_keynoteOf_1 : decode Y_M_keynoteOf.2.1 1 = .ok (.iload_n 1, 1) := by decide +kernel
theorem d_M_keynoteOf_2 : decode Y_M_keynoteOf.2.1 2 = .ok (.invokevirtual 215, 3) := by decide +kernel
theorem d_M_keynoteOf_5 : decode Y_M_keynoteOf.2.1 5 = .ok (.aload_n 0, 1) := by decide +kernel
theorem d_M_keynoteOf_6 : decode Y_M_keynoteOf.2.1 6 = .ok (.getfield 202, 3) := by decide +kernel
theorem d_M_keynoteOf_9 : decode Y_M_keynoteOf.2.1 9 = .ok (.aload_n 0, 1) := by decide +kernel
theorem d_M_keynoteOf_10 : decode Y_M_keynoteOf.2.1 10 = .ok (.getfield 205, 3) := by decide +kernel
theorem d_M_keynoteOf_13 : decode Y_M_keynoteOf.2.1 13 = .ok (.aload_n 0, 1) := by decide +kernel
theorem d_M_keynoteOf_14 : decode Y_M_keynoteOf.2.1 14 = .ok (.getfield 208, 3) := by decide +kernel
theorem d_M_keynoteOf_17 : decode Y_M_keynoteOf.2.1 17 = .ok (.invokestatic 172, 3) := by decide +kernel
theorem d_M_keynoteOf_20 : decode Y_M_keynoteOf.2.1 20 = .ok (.ireturn, 1) := by decide +kernel
theorem d_M_sizeAt_0 : decode Y_M_sizeAt.2.1 0 = .ok (.aload_n 0, 1) := by decide +kernel
theorem d_M_sizeAt_1 : decode Y_M_sizeAt.2.1 1 = .ok (.getfield 17, 3) := by decide +kernel
theorem d_M_sizeAt_4 : decode Y_M_sizeAt.2.1 4 = .ok (.iload_n 1, 1) := by decide +kernel
theorem d_M_sizeAt_5 : decode Y_M_sizeAt.2.1 5 = .ok (.iload_n 2, 1) := by decide +kernel
theorem d_M_sizeAt_6 : decode Y_M_sizeAt.2.1 6 = .ok (.invokestatic 158, 3) := by decide +kernel
theorem d_M_sizeAt_9 : decode Y_M_sizeAt.2.1 9 = .ok (.iaload, 1) := by decide +kernel
theorem d_M_sizeAt_10 : decode Y_M_sizeAt.2.1 10 = .ok (.aload_n 0, 1) := by decide +kernel
theorem d_M_sizeAt_11 : decode Y_M_sizeAt.2.1 11 = .ok (.getfield 20, 3) := by decide +kernel
theorem d_M_sizeAt_14 : decode Y_M_sizeAt.2.1 14 = .ok (.iload_n 1, 1) := by decide +kernel
theorem d_M_sizeAt_15 : decode Y_M_sizeAt.2.1 15 = .ok (.iload_n 2, 1) := by decide +kernel
theorem d_M_sizeAt_16 : decode Y_M_sizeAt.2.1 16 = .ok (.invokestatic 158, 3) := by decide +kernel
theorem d_M_sizeAt_19 : decode Y_M_sizeAt.2.1 19 = .ok (.iaload, 1) := by decide +kernel
theorem d_M_sizeAt_20 : decode Y_M_sizeAt.2.1 20 = .ok (.aload_n 0, 1) := by decide +kernel
theorem d_M_sizeAt_21 : decode Y_M_sizeAt.2.1 21 = .ok (.getfield 23, 3) := by decide +kernel
theorem d_M_sizeAt_24 : decode Y_M_sizeAt.2.1 24 = .ok (.iload_n 1, 1) := by decide +kernel
theorem d_M_sizeAt_25 : decode Y_M_sizeAt.2.1 25 = .ok (.iload_n 2, 1) := by decide +kernel
theorem d_M_sizeAt_26 : decode Y_M_sizeAt.2.1 26 = .ok (.invokestatic 158, 3) := by decide +kernel
theorem d_M_sizeAt_29 : decode Y_M_sizeAt.2.1 29 = .ok (.iaload, 1) := by decide +kernel
theorem d_M_sizeAt_30 : decode Y_M_sizeAt.2.1 30 = .ok (.invokestatic 172, 3) := by decide +kernel
theorem d_M_sizeAt_33 : decode Y_M_sizeAt.2.1 33 = .ok (.ireturn, 1) := by decide +kernel
theorem d_M_tornBy_0 : decode Y_M_tornBy.2.1 0 = .ok (.iload_n 3, 1) := by decide +kernel
theorem d_M_tornBy_1 : decode Y_M_tornBy.2.1 1 = .ok (.iconst (-1), 1) := by decide +kernel
theorem d_M_tornBy_2 : decode Y_M_tornBy.2.1 2 = .ok (.if_icmp .ne 7, 3) := by decide +kernel
theorem d_M_tornBy_5 : decode Y_M_tornBy.2.1 5 = .ok (.iconst 0, 1) := by decide +kernel
theorem d_M_tornBy_6 : decode Y_M_tornBy.2.1 6 = .ok (.goto 18, 3) := by decide +kernel
theorem d_M_tornBy_9 : decode Y_M_tornBy.2.1 9 = .ok (.aload_n 0, 1) := by decide +kernel
theorem d_M_tornBy_10 : decode Y_M_tornBy.2.1 10 = .ok (.iload_n 3, 1) := by decide +kernel
theorem d_M_tornBy_11 : decode Y_M_tornBy.2.1 11 = .ok (.iload_n 2, 1) := by decide +kernel
theorem d_M_tornBy_12 : decode Y_M_tornBy.2.1 12 = .ok (.iconst 1, 1) := by decide +kernel
theorem d_M_tornBy_13 : decode Y_M_tornBy.2.1 13 = .ok (.isub, 1) := by decide +kernel
theorem d_M_tornBy_14 : decode Y_M_tornBy.2.1 14 = .ok (.invokevirtual 219, 3) := by decide +kernel
theorem d_M_tornBy_17 : decode Y_M_tornBy.2.1 17 = .ok (.aload_n 0, 1) := by decide +kernel
theorem d_M_tornBy_18 : decode Y_M_tornBy.2.1 18 = .ok (.iload_n 3, 1) := by decide +kernel
theorem d_M_tornBy_19 : decode Y_M_tornBy.2.1 19 = .ok (.iload_n 2, 1) := by decide +kernel
theorem d_M_tornBy_20 : decode Y_M_tornBy.2.1 20 = .ok (.invokevirtual 219, 3) := by decide +kernel
theorem d_M_tornBy_23 : decode Y_M_tornBy.2.1 23 = .ok (.isub, 1) := by decide +kernel
theorem d_M_tornBy_24 : decode Y_M_tornBy.2.1 24 = .ok (.istore 4, 2) := by decide +kernel
theorem d_M_tornBy_26 : decode Y_M_tornBy.2.1 26 = .ok (.aload_n 0, 1) := by decide +kernel
theorem d_M_tornBy_27 : decode Y_M_tornBy.2.1 27 = .ok (.iload_n 1, 1) := by decide +kernel
theorem d_M_tornBy_28 : decode Y_M_tornBy.2.1 28 = .ok (.iload_n 2, 1) := by decide +kernel
theorem d_M_tornBy_29 : decode Y_M_tornBy.2.1 29 = .ok (.invokevirtual 219, 3) := by decide +kernel
theorem d_M_tornBy_32 : decode Y_M_tornBy.2.1 32 = .ok (.aload_n 0, 1) := by decide +kernel
theorem d_M_tornBy_33 : decode Y_M_tornBy.2.1 33 = .ok (.iload_n 1, 1) := by decide +kernel
theorem d_M_tornBy_34 : decode Y_M_tornBy.2.1 34 = .ok (.iload_n 2, 1) := by decide +kernel
theorem d_M_tornBy_35 : decode Y_M_tornBy.2.1 35 = .ok (.iconst 1, 1) := by decide +kernel
theorem d_M_tornBy_36 : decode Y_M_tornBy.2.1 36 = .ok (.isub, 1) := by decide +kernel
theorem d_M_tornBy_37 : decode Y_M_tornBy.2.1 37 = .ok (.invokevirtual 219, 3) := by decide +kernel
theorem d_M_tornBy_40 : decode Y_M_tornBy.2.1 40 = .ok (.isub, 1) := by decide +kernel
theorem d_M_tornBy_41 : decode Y_M_tornBy.2.1 41 = .ok (.iload 4, 2) := by decide +kernel
theorem d_M_tornBy_43 : decode Y_M_tornBy.2.1 43 = .ok (.iadd, 1) := by decide +kernel
theorem d_M_tornBy_44 : decode Y_M_tornBy.2.1 44 = .ok (.ireturn, 1) := by decide +kernel
theorem d_M_keynote_0 : decode Y_M_keynote.2.1 0 = .ok (.iload_n 1, 1) := by decide +kernel
theorem d_M_keynote_1 : decode Y_M_keynote.2.1 1 = .ok (.invokestatic 155, 3) := by decide +kernel
theorem d_M_keynote_4 : decode Y_M_keynote.2.1 4 = .ok (.ifCond .eq 15, 3) := by decide +kernel
theorem d_M_keynote_7 : decode Y_M_keynote.2.1 7 = .ok (.iload_n 2, 1) := by decide +kernel
theorem d_M_keynote_8 : decode Y_M_keynote.2.1 8 = .ok (.i2l, 1) := by decide +kernel
theorem d_M_keynote_9 : decode Y_M_keynote.2.1 9 = .ok (.lconst 0, 1) := by decide +kernel
theorem d_M_keynote_10 : decode Y_M_keynote.2.1 10 = .ok (.ldc2_w 229, 3) := by decide +kernel
theorem d_M_keynote_13 : decode Y_M_keynote.2.1 13 = .ok (.invokestatic 145, 3) := by decide +kernel
theorem d_M_keynote_16 : decode Y_M_keynote.2.1 16 = .ok (.ifCond .ne 6, 3) := by decide +kernel
theorem d_M_keynote_19 : decode Y_M_keynote.2.1 19 = .ok (.ldc 192, 2) := by decide +kernel
theorem d_M_keynote_21 : decode Y_M_keynote.2.1 21 = .ok (.ireturn, 1) := by decide +kernel
theorem d_M_keynote_22 : decode Y_M_keynote.2.1 22 = .ok (.aload_n 0, 1) := by decide +kernel
theorem d_M_keynote_23 : decode Y_M_keynote.2.1 23 = .ok (.iload_n 1, 1) := by decide +kernel
theorem d_M_keynote_24 : decode Y_M_keynote.2.1 24 = .ok (.invokevirtual 231, 3) := by decide +kernel
theorem d_M_keynote_27 : decode Y_M_keynote.2.1 27 = .ok (.istore_n 3, 1) := by decide +kernel
theorem d_M_keynote_28 : decode Y_M_keynote.2.1 28 = .ok (.iconst 0, 1) := by decide +kernel
theorem d_M_keynote_29 : decode Y_M_keynote.2.1 29 = .ok (.istore 4, 2) := by decide +kernel
theorem d_M_keynote_31 : decode Y_M_keynote.2.1 31 = .ok (.iconst 0, 1) := by decide +kernel
theorem d_M_keynote_32 : decode Y_M_keynote.2.1 32 = .ok (.istore 5, 2) := by decide +kernel
theorem d_M_keynote_34 : decode Y_M_keynote.2.1 34 = .ok (.iconst 0, 1) := by decide +kernel
theorem d_M_keynote_35 : decode Y_M_keynote.2.1 35 = .ok (.istore 6, 2) := by decide +kernel
theorem d_M_keynote_37 : decode Y_M_keynote.2.1 37 = .ok (.iload 6, 2) := by decide +kernel
theorem d_M_keynote_39 : decode Y_M_keynote.2.1 39 = .ok (.bipush 6, 2) := by decide +kernel
theorem d_M_keynote_41 : decode Y_M_keynote.2.1 41 = .ok (.if_icmp .ge 60, 3) := by decide +kernel
theorem d_M_keynote_44 : decode Y_M_keynote.2.1 44 = .ok (.aload_n 0, 1) := by decide +kernel
theorem d_M_keynote_45 : decode Y_M_keynote.2.1 45 = .ok (.iload 6, 2) := by decide +kernel
theorem d_M_keynote_47 : decode Y_M_keynote.2.1 47 = .ok (.iload_n 1, 1) := by decide +kernel
theorem d_M_keynote_48 : decode Y_M_keynote.2.1 48 = .ok (.invokevirtual 193, 3) := by decide +kernel
theorem d_M_keynote_51 : decode Y_M_keynote.2.1 51 = .ok (.ifCond .ne 6, 3) := by decide +kernel
theorem d_M_keynote_54 : decode Y_M_keynote.2.1 54 = .ok (.goto 41, 3) := by decide +kernel
theorem d_M_keynote_57 : decode Y_M_keynote.2.1 57 = .ok (.iload 4, 2) := by decide +kernel
theorem d_M_keynote_59 : decode Y_M_keynote.2.1 59 = .ok (.iconst 1, 1) := by decide +kernel
theorem d_M_keynote_60 : decode Y_M_keynote.2.1 60 = .ok (.iload 6, 2) := by decide +kernel
theorem d_M_keynote_62 : decode Y_M_keynote.2.1 62 = .ok (.ishl, 1) := by decide +kernel
theorem d_M_keynote_63 : decode Y_M_keynote.2.1 63 = .ok (.ior, 1) := by decide +kernel
theorem d_M_keynote_64 : decode Y_M_keynote.2.1 64 = .ok (.istore 4, 2) := by decide +kernel
theorem d_M_keynote_66 : decode Y_M_keynote.2.1 66 = .ok (.iload 5, 2) := by decide +kernel
theorem d_M_keynote_68 : decode Y_M_keynote.2.1 68 = .ok (.aload_n 0, 1) := by decide +kernel
theorem d_M_keynote_69 : decode Y_M_keynote.2.1 69 = .ok (.iload 6, 2) := by decide +kernel
theorem d_M_keynote_71 : decode Y_M_keynote.2.1 71 = .ok (.iload_n 1, 1) := by decide +kernel
theorem d_M_keynote_72 : decode Y_M_keynote.2.1 72 = .ok (.aload_n 0, 1) := by decide +kernel
theorem d_M_keynote_73 : decode Y_M_keynote.2.1 73 = .ok (.getfield 30, 3) := by decide +kernel
theorem d_M_keynote_76 : decode Y_M_keynote.2.1 76 = .ok (.iload_n 1, 1) := by decide +kernel
theorem d_M_keynote_77 : decode Y_M_keynote.2.1 77 = .ok (.iaload, 1) := by decide +kernel
theorem d_M_keynote_78 : decode Y_M_keynote.2.1 78 = .ok (.invokevirtual 222, 3) := by decide +kernel
theorem d_M_keynote_81 : decode Y_M_keynote.2.1 81 = .ok (.ifCond .eq 10, 3) := by decide +kernel
theorem d_M_keynote_84 : decode Y_M_keynote.2.1 84 = .ok (.iconst 1, 1) := by decide +kernel
theorem d_M_keynote_85 : decode Y_M_keynote.2.1 85 = .ok (.iload 6, 2) := by decide +kernel
theorem d_M_keynote_87 : decode Y_M_keynote.2.1 87 = .ok (.ishl, 1) := by decide +kernel
theorem d_M_keynote_88 : decode Y_M_keynote.2.1 88 = .ok (.goto 4, 3) := by decide +kernel
theorem d_M_keynote_91 : decode Y_M_keynote.2.1 91 = .ok (.iconst 0, 1) := by decide +kernel
theorem d_M_keynote_92 : decode Y_M_keynote.2.1 92 = .ok (.ior, 1) := by decide +kernel
theorem d_M_keynote_93 : decode Y_M_keynote.2.1 93 = .ok (.istore 5, 2) := by decide +kernel
theorem d_M_keynote_95 : decode Y_M_keynote.2.1 95 = .ok (.iinc 6 1, 3) := by decide +kernel
theorem d_M_keynote_98 : decode Y_M_keynote.2.1 98 = .ok (.goto (-61), 3) := by decide +kernel
theorem d_M_keynote_101 : decode Y_M_keynote.2.1 101 = .ok (.iload_n 2, 1) := by decide +kernel
theorem d_M_keynote_102 : decode Y_M_keynote.2.1 102 = .ok (.tableswitch 65 0 5 #[38, 40, 45, 50, 55, 62], 38) := by decide +kernel
theorem d_M_keynote_140 : decode Y_M_keynote.2.1 140 = .ok (.iload_n 3, 1) := by decide +kernel
theorem d_M_keynote_141 : decode Y_M_keynote.2.1 141 = .ok (.ireturn, 1) := by decide +kernel
theorem d_M_keynote_142 : decode Y_M_keynote.2.1 142 = .ok (.aload_n 0, 1) := by decide +kernel
theorem d_M_keynote_143 : decode Y_M_keynote.2.1 143 = .ok (.getfield 202, 3) := by decide +kernel
theorem d_M_keynote_146 : decode Y_M_keynote.2.1 146 = .ok (.ireturn, 1) := by decide +kernel
theorem d_M_keynote_147 : decode Y_M_keynote.2.1 147 = .ok (.aload_n 0, 1) := by decide +kernel
theorem d_M_keynote_148 : decode Y_M_keynote.2.1 148 = .ok (.getfield 205, 3) := by decide +kernel
theorem d_M_keynote_151 : decode Y_M_keynote.2.1 151 = .ok (.ireturn, 1) := by decide +kernel
theorem d_M_keynote_152 : decode Y_M_keynote.2.1 152 = .ok (.aload_n 0, 1) := by decide +kernel
theorem d_M_keynote_153 : decode Y_M_keynote.2.1 153 = .ok (.getfield 208, 3) := by decide +kernel
theorem d_M_keynote_156 : decode Y_M_keynote.2.1 156 = .ok (.ireturn, 1) := by decide +kernel
theorem d_M_keynote_157 : decode Y_M_keynote.2.1 157 = .ok (.aload_n 0, 1) := by decide +kernel
theorem d_M_keynote_158 : decode Y_M_keynote.2.1 158 = .ok (.getfield 30, 3) := by decide +kernel
theorem d_M_keynote_161 : decode Y_M_keynote.2.1 161 = .ok (.iload_n 1, 1) := by decide +kernel
theorem d_M_keynote_162 : decode Y_M_keynote.2.1 162 = .ok (.iaload, 1) := by decide +kernel
theorem d_M_keynote_163 : decode Y_M_keynote.2.1 163 = .ok (.ireturn, 1) := by decide +kernel
theorem d_M_keynote_164 : decode Y_M_keynote.2.1 164 = .ok (.iload 4, 2) := by decide +kernel
theorem d_M_keynote_166 : decode Y_M_keynote.2.1 166 = .ok (.ireturn, 1) := by decide +kernel
theorem d_M_keynote_167 : decode Y_M_keynote.2.1 167 = .ok (.iload 5, 2) := by decide +kernel
theorem d_M_keynote_169 : decode Y_M_keynote.2.1 169 = .ok (.ireturn, 1) := by decide +kernel
theorem d_X_torn_0 : decode Y_X_torn.2.1 0 = .ok (.aload_n 0, 1) := by decide +kernel
theorem d_X_torn_1 : decode Y_X_torn.2.1 1 = .ok (.getfield 10, 3) := by decide +kernel
theorem d_X_torn_4 : decode Y_X_torn.2.1 4 = .ok (.iload_n 1, 1) := by decide +kernel
theorem d_X_torn_5 : decode Y_X_torn.2.1 5 = .ok (.iload_n 2, 1) := by decide +kernel
theorem d_X_torn_6 : decode Y_X_torn.2.1 6 = .ok (.invokevirtual 107, 3) := by decide +kernel
theorem d_X_torn_9 : decode Y_X_torn.2.1 9 = .ok (.ifCond .eq 15, 3) := by decide +kernel
theorem d_X_torn_12 : decode Y_X_torn.2.1 12 = .ok (.aload_n 0, 1) := by decide +kernel
theorem d_X_torn_13 : decode Y_X_torn.2.1 13 = .ok (.getfield 10, 3) := by decide +kernel
theorem d_X_torn_16 : decode Y_X_torn.2.1 16 = .ok (.iload_n 1, 1) := by decide +kernel
theorem d_X_torn_17 : decode Y_X_torn.2.1 17 = .ok (.iload_n 2, 1) := by decide +kernel
theorem d_X_torn_18 : decode Y_X_torn.2.1 18 = .ok (.invokevirtual 132, 3) := by decide +kernel
theorem d_X_torn_21 : decode Y_X_torn.2.1 21 = .ok (.goto 5, 3) := by decide +kernel
theorem d_X_torn_24 : decode Y_X_torn.2.1 24 = .ok (.ldc 102, 2) := by decide +kernel
theorem d_X_torn_26 : decode Y_X_torn.2.1 26 = .ok (.ireturn, 1) := by decide +kernel
theorem d_M_torn_0 : decode Y_M_torn.2.1 0 = .ok (.aload_n 0, 1) := by decide +kernel
theorem d_M_torn_1 : decode Y_M_torn.2.1 1 = .ok (.iload_n 1, 1) := by decide +kernel
theorem d_M_torn_2 : decode Y_M_torn.2.1 2 = .ok (.iload_n 2, 1) := by decide +kernel
theorem d_M_torn_3 : decode Y_M_torn.2.1 3 = .ok (.invokevirtual 193, 3) := by decide +kernel
theorem d_M_torn_6 : decode Y_M_torn.2.1 6 = .ok (.ifCond .eq 18, 3) := by decide +kernel
theorem d_M_torn_9 : decode Y_M_torn.2.1 9 = .ok (.aload_n 0, 1) := by decide +kernel
theorem d_M_torn_10 : decode Y_M_torn.2.1 10 = .ok (.iload_n 1, 1) := by decide +kernel
theorem d_M_torn_11 : decode Y_M_torn.2.1 11 = .ok (.iload_n 2, 1) := by decide +kernel
theorem d_M_torn_12 : decode Y_M_torn.2.1 12 = .ok (.aload_n 0, 1) := by decide +kernel
theorem d_M_torn_13 : decode Y_M_torn.2.1 13 = .ok (.getfield 30, 3) := by decide +kernel
theorem d_M_torn_16 : decode Y_M_torn.2.1 16 = .ok (.iload_n 2, 1) := by decide +kernel
theorem d_M_torn_17 : decode Y_M_torn.2.1 17 = .ok (.iaload, 1) := by decide +kernel
theorem d_M_torn_18 : decode Y_M_torn.2.1 18 = .ok (.invokevirtual 222, 3) := by decide +kernel
theorem d_M_torn_21 : decode Y_M_torn.2.1 21 = .ok (.goto 5, 3) := by decide +kernel
theorem d_M_torn_24 : decode Y_M_torn.2.1 24 = .ok (.ldc 192, 2) := by decide +kernel
theorem d_M_torn_26 : decode Y_M_torn.2.1 26 = .ok (.ireturn, 1) := by decide +kernel
theorem d_Sc_soundsIn_0 : decode Y_Sc_soundsIn.2.1 0 = .ok (.iconst 0, 1) := by decide +kernel
theorem d_Sc_soundsIn_1 : decode Y_Sc_soundsIn.2.1 1 = .ok (.istore_n 2, 1) := by decide +kernel
theorem d_Sc_soundsIn_2 : decode Y_Sc_soundsIn.2.1 2 = .ok (.iload_n 2, 1) := by decide +kernel
theorem d_Sc_soundsIn_3 : decode Y_Sc_soundsIn.2.1 3 = .ok (.bipush 6, 2) := by decide +kernel
theorem d_Sc_soundsIn_5 : decode Y_Sc_soundsIn.2.1 5 = .ok (.if_icmp .ge 20, 3) := by decide +kernel
theorem d_Sc_soundsIn_8 : decode Y_Sc_soundsIn.2.1 8 = .ok (.aload_n 0, 1) := by decide +kernel
theorem d_Sc_soundsIn_9 : decode Y_Sc_soundsIn.2.1 9 = .ok (.iload_n 2, 1) := by decide +kernel
theorem d_Sc_soundsIn_10 : decode Y_Sc_soundsIn.2.1 10 = .ok (.iload_n 1, 1) := by decide +kernel
theorem d_Sc_soundsIn_11 : decode Y_Sc_soundsIn.2.1 11 = .ok (.invokevirtual 39, 3) := by decide +kernel
theorem d_Sc_soundsIn_14 : decode Y_Sc_soundsIn.2.1 14 = .ok (.ifCond .eq 5, 3) := by decide +kernel
theorem d_Sc_soundsIn_17 : decode Y_Sc_soundsIn.2.1 17 = .ok (.iconst 1, 1) := by decide +kernel
theorem d_Sc_soundsIn_18 : decode Y_Sc_soundsIn.2.1 18 = .ok (.ireturn, 1) := by decide +kernel
theorem d_Sc_soundsIn_19 : decode Y_Sc_soundsIn.2.1 19 = .ok (.iinc 2 1, 3) := by decide +kernel
theorem d_Sc_soundsIn_22 : decode Y_Sc_soundsIn.2.1 22 = .ok (.goto (-20), 3) := by decide +kernel
theorem d_Sc_soundsIn_25 : decode Y_Sc_soundsIn.2.1 25 = .ok (.iconst 0, 1) := by decide +kernel
theorem d_Sc_soundsIn_26 : decode Y_Sc_soundsIn.2.1 26 = .ok (.ireturn, 1) := by decide +kernel
theorem d_Sc_lastBeat_0 : decode Y_Sc_lastBeat.2.1 0 = .ok (.bipush 23, 2) := by decide +kernel
theorem d_Sc_lastBeat_2 : decode Y_Sc_lastBeat.2.1 2 = .ok (.istore_n 1, 1) := by decide +kernel
theorem d_Sc_lastBeat_3 : decode Y_Sc_lastBeat.2.1 3 = .ok (.iload_n 1, 1) := by decide +kernel
theorem d_Sc_lastBeat_4 : decode Y_Sc_lastBeat.2.1 4 = .ok (.ifCond .lt 19, 3) := by decide +kernel
theorem d_Sc_lastBeat_7 : decode Y_Sc_lastBeat.2.1 7 = .ok (.aload_n 0, 1) := by decide +kernel
theorem d_Sc_lastBeat_8 : decode Y_Sc_lastBeat.2.1 8 = .ok (.iload_n 1, 1) := by decide +kernel
theorem d_Sc_lastBeat_9 : decode Y_Sc_lastBeat.2.1 9 = .ok (.invokevirtual 79, 3) := by decide +kernel
theorem d_Sc_lastBeat_12 : decode Y_Sc_lastBeat.2.1 12 = .ok (.ifCond .eq 5, 3) := by decide +kernel
theorem d_Sc_lastBeat_15 : decode Y_Sc_lastBeat.2.1 15 = .ok (.iload_n 1, 1) := by decide +kernel
theorem d_Sc_lastBeat_16 : decode Y_Sc_lastBeat.2.1 16 = .ok (.ireturn, 1) := by decide +kernel
theorem d_Sc_lastBeat_17 : decode Y_Sc_lastBeat.2.1 17 = .ok (.iinc 1 (-1), 3) := by decide +kernel
theorem d_Sc_lastBeat_20 : decode Y_Sc_lastBeat.2.1 20 = .ok (.goto (-17), 3) := by decide +kernel
theorem d_Sc_lastBeat_23 : decode Y_Sc_lastBeat.2.1 23 = .ok (.iconst (-1), 1) := by decide +kernel
theorem d_Sc_lastBeat_24 : decode Y_Sc_lastBeat.2.1 24 = .ok (.ireturn, 1) := by decide +kernel
theorem d_Mt_abs_I_0 : decode Y_Mt_abs_I.2.1 0 = .ok (.iload_n 0, 1) := by decide +kernel
theorem d_Mt_abs_I_1 : decode Y_Mt_abs_I.2.1 1 = .ok (.ifCond .ge 8, 3) := by decide +kernel
theorem d_Mt_abs_I_4 : decode Y_Mt_abs_I.2.1 4 = .ok (.iload_n 0, 1) := by decide +kernel
theorem d_Mt_abs_I_5 : decode Y_Mt_abs_I.2.1 5 = .ok (.ineg, 1) := by decide +kernel
theorem d_Mt_abs_I_6 : decode Y_Mt_abs_I.2.1 6 = .ok (.goto 4, 3) := by decide +kernel
theorem d_Mt_abs_I_9 : decode Y_Mt_abs_I.2.1 9 = .ok (.iload_n 0, 1) := by decide +kernel
theorem d_Mt_abs_I_10 : decode Y_Mt_abs_I.2.1 10 = .ok (.ireturn, 1) := by decide +kernel
theorem d_Sc_foulnessBy_0 : decode Y_Sc_foulnessBy.2.1 0 = .ok (.iconst 0, 1) := by decide +kernel
theorem d_Sc_foulnessBy_1 : decode Y_Sc_foulnessBy.2.1 1 = .ok (.istore_n 3, 1) := by decide +kernel
theorem d_Sc_foulnessBy_2 : decode Y_Sc_foulnessBy.2.1 2 = .ok (.iconst 0, 1) := by decide +kernel
theorem d_Sc_foulnessBy_3 : decode Y_Sc_foulnessBy.2.1 3 = .ok (.istore 4, 2) := by decide +kernel
theorem d_Sc_foulnessBy_5 : decode Y_Sc_foulnessBy.2.1 5 = .ok (.iload 4, 2) := by decide +kernel
theorem d_Sc_foulnessBy_7 : decode Y_Sc_foulnessBy.2.1 7 = .ok (.bipush 6, 2) := by decide +kernel
theorem d_Sc_foulnessBy_9 : decode Y_Sc_foulnessBy.2.1 9 = .ok (.if_icmp .ge 23, 3) := by decide +kernel
theorem d_Sc_foulnessBy_12 : decode Y_Sc_foulnessBy.2.1 12 = .ok (.iload_n 3, 1) := by decide +kernel
theorem d_Sc_foulnessBy_13 : decode Y_Sc_foulnessBy.2.1 13 = .ok (.aload_n 0, 1) := by decide +kernel
theorem d_Sc_foulnessBy_14 : decode Y_Sc_foulnessBy.2.1 14 = .ok (.iload 4, 2) := by decide +kernel
theorem d_Sc_foulnessBy_16 : decode Y_Sc_foulnessBy.2.1 16 = .ok (.iload_n 1, 1) := by decide +kernel
theorem d_Sc_foulnessBy_17 : decode Y_Sc_foulnessBy.2.1 17 = .ok (.iload_n 2, 1) := by decide +kernel
theorem d_Sc_foulnessBy_18 : decode Y_Sc_foulnessBy.2.1 18 = .ok (.invokevirtual 64, 3) := by decide +kernel
theorem d_Sc_foulnessBy_21 : decode Y_Sc_foulnessBy.2.1 21 = .ok (.invokestatic 68, 3) := by decide +kernel
theorem d_Sc_foulnessBy_24 : decode Y_Sc_foulnessBy.2.1 24 = .ok (.iadd, 1) := by decide +kernel
theorem d_Sc_foulnessBy_25 : decode Y_Sc_foulnessBy.2.1 25 = .ok (.istore_n 3, 1) := by decide +kernel
theorem d_Sc_foulnessBy_26 : decode Y_Sc_foulnessBy.2.1 26 = .ok (.iinc 4 1, 3) := by decide +kernel
theorem d_Sc_foulnessBy_29 : decode Y_Sc_foulnessBy.2.1 29 = .ok (.goto (-24), 3) := by decide +kernel
theorem d_Sc_foulnessBy_32 : decode Y_Sc_foulnessBy.2.1 32 = .ok (.iload_n 3, 1) := by decide +kernel
theorem d_Sc_foulnessBy_33 : decode Y_Sc_foulnessBy.2.1 33 = .ok (.ireturn, 1) := by decide +kernel
theorem d_Sc_foulness_0 : decode Y_Sc_foulness.2.1 0 = .ok (.iconst 0, 1) := by decide +kernel
theorem d_Sc_foulness_1 : decode Y_Sc_foulness.2.1 1 = .ok (.istore_n 1, 1) := by decide +kernel
theorem d_Sc_foulness_2 : decode Y_Sc_foulness.2.1 2 = .ok (.iconst 1, 1) := by decide +kernel
theorem d_Sc_foulness_3 : decode Y_Sc_foulness.2.1 3 = .ok (.istore_n 2, 1) := by decide +kernel
theorem d_Sc_foulness_4 : decode Y_Sc_foulness.2.1 4 = .ok (.iload_n 2, 1) := by decide +kernel
theorem d_Sc_foulness_5 : decode Y_Sc_foulness.2.1 5 = .ok (.bipush 24, 2) := by decide +kernel
theorem d_Sc_foulness_7 : decode Y_Sc_foulness.2.1 7 = .ok (.if_icmp .ge 32, 3) := by decide +kernel
theorem d_Sc_foulness_10 : decode Y_Sc_foulness.2.1 10 = .ok (.iload_n 1, 1) := by decide +kernel
theorem d_Sc_foulness_11 : decode Y_Sc_foulness.2.1 11 = .ok (.aload_n 0, 1) := by decide +kernel
theorem d_Sc_foulness_12 : decode Y_Sc_foulness.2.1 12 = .ok (.iload_n 2, 1) := by decide +kernel
theorem d_Sc_foulness_13 : decode Y_Sc_foulness.2.1 13 = .ok (.aload_n 0, 1) := by decide +kernel
theorem d_Sc_foulness_14 : decode Y_Sc_foulness.2.1 14 = .ok (.getfield 27, 3) := by decide +kernel
theorem d_Sc_foulness_17 : decode Y_Sc_foulness.2.1 17 = .ok (.iload_n 2, 1) := by decide +kernel
theorem d_Sc_foulness_18 : decode Y_Sc_foulness.2.1 18 = .ok (.iaload, 1) := by decide +kernel
theorem d_Sc_foulness_19 : decode Y_Sc_foulness.2.1 19 = .ok (.aload_n 0, 1) := by decide +kernel
theorem d_Sc_foulness_20 : decode Y_Sc_foulness.2.1 20 = .ok (.getfield 27, 3) := by decide +kernel
theorem d_Sc_foulness_23 : decode Y_Sc_foulness.2.1 23 = .ok (.iload_n 2, 1) := by decide +kernel
theorem d_Sc_foulness_24 : decode Y_Sc_foulness.2.1 24 = .ok (.iconst 1, 1) := by decide +kernel
theorem d_Sc_foulness_25 : decode Y_Sc_foulness.2.1 25 = .ok (.isub, 1) := by decide +kernel
theorem d_Sc_foulness_26 : decode Y_Sc_foulness.2.1 26 = .ok (.iaload, 1) := by decide +kernel
theorem d_Sc_foulness_27 : decode Y_Sc_foulness.2.1 27 = .ok (.isub, 1) := by decide +kernel
theorem d_Sc_foulness_28 : decode Y_Sc_foulness.2.1 28 = .ok (.invokevirtual 73, 3) := by decide +kernel
theorem d_Sc_foulness_31 : decode Y_Sc_foulness.2.1 31 = .ok (.iadd, 1) := by decide +kernel
theorem d_Sc_foulness_32 : decode Y_Sc_foulness.2.1 32 = .ok (.istore_n 1, 1) := by decide +kernel
theorem d_Sc_foulness_33 : decode Y_Sc_foulness.2.1 33 = .ok (.iinc 2 1, 3) := by decide +kernel
theorem d_Sc_foulness_36 : decode Y_Sc_foulness.2.1 36 = .ok (.goto (-32), 3) := by decide +kernel
theorem d_Sc_foulness_39 : decode Y_Sc_foulness.2.1 39 = .ok (.iload_n 1, 1) := by decide +kernel
theorem d_Sc_foulness_40 : decode Y_Sc_foulness.2.1 40 = .ok (.ireturn, 1) := by decide +kernel
theorem d_X_sink_0 : decode Y_X_sink.2.1 0 = .ok (.aload_n 0, 1) := by decide +kernel
theorem d_X_sink_1 : decode Y_X_sink.2.1 1 = .ok (.getfield 10, 3) := by decide +kernel
theorem d_X_sink_4 : decode Y_X_sink.2.1 4 = .ok (.invokevirtual 135, 3) := by decide +kernel
theorem d_X_sink_7 : decode Y_X_sink.2.1 7 = .ok (.istore_n 2, 1) := by decide +kernel
theorem d_X_sink_8 : decode Y_X_sink.2.1 8 = .ok (.iload_n 2, 1) := by decide +kernel
theorem d_X_sink_9 : decode Y_X_sink.2.1 9 = .ok (.iconst (-1), 1) := by decide +kernel
theorem d_X_sink_10 : decode Y_X_sink.2.1 10 = .ok (.if_icmp .ne 6, 3) := by decide +kernel
theorem d_X_sink_13 : decode Y_X_sink.2.1 13 = .ok (.ldc 102, 2) := by decide +kernel
theorem d_X_sink_15 : decode Y_X_sink.2.1 15 = .ok (.ireturn, 1) := by decide +kernel
theorem d_X_sink_16 : decode Y_X_sink.2.1 16 = .ok (.iload_n 1, 1) := by decide +kernel
theorem d_X_sink_17 : decode Y_X_sink.2.1 17 = .ok (.tableswitch 73 0 5 #[39, 49, 49, 49, 63, 71], 39) := by decide +kernel
theorem d_X_sink_56 : decode Y_X_sink.2.1 56 = .ok (.aload_n 0, 1) := by decide +kernel
theorem d_X_sink_57 : decode Y_X_sink.2.1 57 = .ok (.getfield 10, 3) := by decide +kernel
theorem d_X_sink_60 : decode Y_X_sink.2.1 60 = .ok (.getfield 114, 3) := by decide +kernel
theorem d_X_sink_63 : decode Y_X_sink.2.1 63 = .ok (.iload_n 2, 1) := by decide +kernel
theorem d_X_sink_64 : decode Y_X_sink.2.1 64 = .ok (.iaload, 1) := by decide +kernel
theorem d_X_sink_65 : decode Y_X_sink.2.1 65 = .ok (.ireturn, 1) := by decide +kernel
theorem d_X_sink_66 : decode Y_X_sink.2.1 66 = .ok (.aload_n 0, 1) := by decide +kernel
theorem d_X_sink_67 : decode Y_X_sink.2.1 67 = .ok (.getfield 10, 3) := by decide +kernel
theorem d_X_sink_70 : decode Y_X_sink.2.1 70 = .ok (.getfield 117, 3) := by decide +kernel
theorem d_X_sink_73 : decode Y_X_sink.2.1 73 = .ok (.iload_n 2, 1) := by decide +kernel
theorem d_X_sink_74 : decode Y_X_sink.2.1 74 = .ok (.iaload, 1) := by decide +kernel
theorem d_X_sink_75 : decode Y_X_sink.2.1 75 = .ok (.iload_n 1, 1) := by decide +kernel
theorem d_X_sink_76 : decode Y_X_sink.2.1 76 = .ok (.invokestatic 120, 3) := by decide +kernel
theorem d_X_sink_79 : decode Y_X_sink.2.1 79 = .ok (.ireturn, 1) := by decide +kernel
theorem d_X_sink_80 : decode Y_X_sink.2.1 80 = .ok (.aload_n 0, 1) := by decide +kernel
theorem d_X_sink_81 : decode Y_X_sink.2.1 81 = .ok (.getfield 10, 3) := by decide +kernel
theorem d_X_sink_84 : decode Y_X_sink.2.1 84 = .ok (.invokevirtual 139, 3) := by decide +kernel
theorem d_X_sink_87 : decode Y_X_sink.2.1 87 = .ok (.ireturn, 1) := by decide +kernel
theorem d_X_sink_88 : decode Y_X_sink.2.1 88 = .ok (.iload_n 2, 1) := by decide +kernel
theorem d_X_sink_89 : decode Y_X_sink.2.1 89 = .ok (.ireturn, 1) := by decide +kernel
theorem d_X_sink_90 : decode Y_X_sink.2.1 90 = .ok (.ldc 102, 2) := by decide +kernel
theorem d_X_sink_92 : decode Y_X_sink.2.1 92 = .ok (.ireturn, 1) := by decide +kernel
theorem d_M_lastBeat_0 : decode Y_M_lastBeat.2.1 0 = .ok (.iconst (-1), 1) := by decide +kernel
theorem d_M_lastBeat_1 : decode Y_M_lastBeat.2.1 1 = .ok (.istore_n 1, 1) := by decide +kernel
theorem d_M_lastBeat_2 : decode Y_M_lastBeat.2.1 2 = .ok (.iconst 0, 1) := by decide +kernel
theorem d_M_lastBeat_3 : decode Y_M_lastBeat.2.1 3 = .ok (.istore_n 2, 1) := by decide +kernel
theorem d_M_lastBeat_4 : decode Y_M_lastBeat.2.1 4 = .ok (.iload_n 2, 1) := by decide +kernel
theorem d_M_lastBeat_5 : decode Y_M_lastBeat.2.1 5 = .ok (.bipush 24, 2) := by decide +kernel
theorem d_M_lastBeat_7 : decode Y_M_lastBeat.2.1 7 = .ok (.if_icmp .ge 34, 3) := by decide +kernel
theorem d_M_lastBeat_10 : decode Y_M_lastBeat.2.1 10 = .ok (.iconst 0, 1) := by decide +kernel
theorem d_M_lastBeat_11 : decode Y_M_lastBeat.2.1 11 = .ok (.istore_n 3, 1) := by decide +kernel
theorem d_M_lastBeat_12 : decode Y_M_lastBeat.2.1 12 = .ok (.iload_n 3, 1) := by decide +kernel
theorem d_M_lastBeat_13 : decode Y_M_lastBeat.2.1 13 = .ok (.bipush 6, 2) := by decide +kernel
theorem d_M_lastBeat_15 : decode Y_M_lastBeat.2.1 15 = .ok (.if_icmp .ge 20, 3) := by decide +kernel
theorem d_M_lastBeat_18 : decode Y_M_lastBeat.2.1 18 = .ok (.aload_n 0, 1) := by decide +kernel
theorem d_M_lastBeat_19 : decode Y_M_lastBeat.2.1 19 = .ok (.iload_n 3, 1) := by decide +kernel
theorem d_M_lastBeat_20 : decode Y_M_lastBeat.2.1 20 = .ok (.iload_n 2, 1) := by decide +kernel
theorem d_M_lastBeat_21 : decode Y_M_lastBeat.2.1 21 = .ok (.invokevirtual 162, 3) := by decide +kernel
theorem d_M_lastBeat_24 : decode Y_M_lastBeat.2.1 24 = .ok (.ifCond .eq 5, 3) := by decide +kernel
theorem d_M_lastBeat_27 : decode Y_M_lastBeat.2.1 27 = .ok (.iload_n 2, 1) := by decide +kernel
theorem d_M_lastBeat_28 : decode Y_M_lastBeat.2.1 28 = .ok (.istore_n 1, 1) := by decide +kernel
theorem d_M_lastBeat_29 : decode Y_M_lastBeat.2.1 29 = .ok (.iinc 3 1, 3) := by decide +kernel
theorem d_M_lastBeat_32 : decode Y_M_lastBeat.2.1 32 = .ok (.goto (-20), 3) := by decide +kernel
theorem d_M_lastBeat_35 : decode Y_M_lastBeat.2.1 35 = .ok (.iinc 2 1, 3) := by decide +kernel
theorem d_M_lastBeat_38 : decode Y_M_lastBeat.2.1 38 = .ok (.goto (-34), 3) := by decide +kernel
theorem d_M_lastBeat_41 : decode Y_M_lastBeat.2.1 41 = .ok (.iload_n 1, 1) := by decide +kernel
theorem d_M_lastBeat_42 : decode Y_M_lastBeat.2.1 42 = .ok (.ireturn, 1) := by decide +kernel
theorem d_M_plain_0 : decode Y_M_plain.2.1 0 = .ok (.lload_n 0, 1) := by decide +kernel
theorem d_M_plain_1 : decode Y_M_plain.2.1 1 = .ok (.lconst 0, 1) := by decide +kernel
theorem d_M_plain_2 : decode Y_M_plain.2.1 2 = .ok (.lcmp, 1) := by decide +kernel
theorem d_M_plain_3 : decode Y_M_plain.2.1 3 = .ok (.ifCond .ge 8, 3) := by decide +kernel
theorem d_M_plain_6 : decode Y_M_plain.2.1 6 = .ok (.lload_n 0, 1) := by decide +kernel
theorem d_M_plain_7 : decode Y_M_plain.2.1 7 = .ok (.lneg, 1) := by decide +kernel
theorem d_M_plain_8 : decode Y_M_plain.2.1 8 = .ok (.goto 4, 3) := by decide +kernel
theorem d_M_plain_11 : decode Y_M_plain.2.1 11 = .ok (.lload_n 0, 1) := by decide +kernel
theorem d_M_plain_12 : decode Y_M_plain.2.1 12 = .ok (.lreturn, 1) := by decide +kernel
theorem d_M_foulBy_0 : decode Y_M_foulBy.2.1 0 = .ok (.lconst 0, 1) := by decide +kernel
theorem d_M_foulBy_1 : decode Y_M_foulBy.2.1 1 = .ok (.lstore_n 3, 1) := by decide +kernel
theorem d_M_foulBy_2 : decode Y_M_foulBy.2.1 2 = .ok (.iconst 0, 1) := by decide +kernel
theorem d_M_foulBy_3 : decode Y_M_foulBy.2.1 3 = .ok (.istore 5, 2) := by decide +kernel
theorem d_M_foulBy_5 : decode Y_M_foulBy.2.1 5 = .ok (.iload 5, 2) := by decide +kernel
theorem d_M_foulBy_7 : decode Y_M_foulBy.2.1 7 = .ok (.bipush 6, 2) := by decide +kernel
theorem d_M_foulBy_9 : decode Y_M_foulBy.2.1 9 = .ok (.if_icmp .ge 34, 3) := by decide +kernel
theorem d_M_foulBy_12 : decode Y_M_foulBy.2.1 12 = .ok (.aload_n 0, 1) := by decide +kernel
theorem d_M_foulBy_13 : decode Y_M_foulBy.2.1 13 = .ok (.iload 5, 2) := by decide +kernel
theorem d_M_foulBy_15 : decode Y_M_foulBy.2.1 15 = .ok (.iload_n 1, 1) := by decide +kernel
theorem d_M_foulBy_16 : decode Y_M_foulBy.2.1 16 = .ok (.invokevirtual 193, 3) := by decide +kernel
theorem d_M_foulBy_19 : decode Y_M_foulBy.2.1 19 = .ok (.ifCond .eq 18, 3) := by decide +kernel
theorem d_M_foulBy_22 : decode Y_M_foulBy.2.1 22 = .ok (.lload_n 3, 1) := by decide +kernel
theorem d_M_foulBy_23 : decode Y_M_foulBy.2.1 23 = .ok (.aload_n 0, 1) := by decide +kernel
theorem d_M_foulBy_24 : decode Y_M_foulBy.2.1 24 = .ok (.iload 5, 2) := by decide +kernel
theorem d_M_foulBy_26 : decode Y_M_foulBy.2.1 26 = .ok (.iload_n 1, 1) := by decide +kernel
theorem d_M_foulBy_27 : decode Y_M_foulBy.2.1 27 = .ok (.iload_n 2, 1) := by decide +kernel
theorem d_M_foulBy_28 : decode Y_M_foulBy.2.1 28 = .ok (.invokevirtual 222, 3) := by decide +kernel
theorem d_M_foulBy_31 : decode Y_M_foulBy.2.1 31 = .ok (.i2l, 1) := by decide +kernel
theorem d_M_foulBy_32 : decode Y_M_foulBy.2.1 32 = .ok (.invokestatic 225, 3) := by decide +kernel
theorem d_M_foulBy_35 : decode Y_M_foulBy.2.1 35 = .ok (.ladd, 1) := by decide +kernel
theorem d_M_foulBy_36 : decode Y_M_foulBy.2.1 36 = .ok (.lstore_n 3, 1) := by decide +kernel
theorem d_M_foulBy_37 : decode Y_M_foulBy.2.1 37 = .ok (.iinc 5 1, 3) := by decide +kernel
theorem d_M_foulBy_40 : decode Y_M_foulBy.2.1 40 = .ok (.goto (-35), 3) := by decide +kernel
theorem d_M_foulBy_43 : decode Y_M_foulBy.2.1 43 = .ok (.lload_n 3, 1) := by decide +kernel
theorem d_M_foulBy_44 : decode Y_M_foulBy.2.1 44 = .ok (.lreturn, 1) := by decide +kernel
theorem d_M_sink_0 : decode Y_M_sink.2.1 0 = .ok (.aload_n 0, 1) := by decide +kernel
theorem d_M_sink_1 : decode Y_M_sink.2.1 1 = .ok (.invokevirtual 234, 3) := by decide +kernel
theorem d_M_sink_4 : decode Y_M_sink.2.1 4 = .ok (.istore_n 2, 1) := by decide +kernel
theorem d_M_sink_5 : decode Y_M_sink.2.1 5 = .ok (.iload_n 2, 1) := by decide +kernel
theorem d_M_sink_6 : decode Y_M_sink.2.1 6 = .ok (.iconst (-1), 1) := by decide +kernel
theorem d_M_sink_7 : decode Y_M_sink.2.1 7 = .ok (.if_icmp .eq 15, 3) := by decide +kernel
theorem d_M_sink_10 : decode Y_M_sink.2.1 10 = .ok (.iload_n 1, 1) := by decide +kernel
theorem d_M_sink_11 : decode Y_M_sink.2.1 11 = .ok (.i2l, 1) := by decide +kernel
theorem d_M_sink_12 : decode Y_M_sink.2.1 12 = .ok (.lconst 0, 1) := by decide +kernel
theorem d_M_sink_13 : decode Y_M_sink.2.1 13 = .ok (.ldc2_w 143, 3) := by decide +kernel
theorem d_M_sink_16 : decode Y_M_sink.2.1 16 = .ok (.invokestatic 145, 3) := by decide +kernel
theorem d_M_sink_19 : decode Y_M_sink.2.1 19 = .ok (.ifCond .ne 6, 3) := by decide +kernel
theorem d_M_sink_22 : decode Y_M_sink.2.1 22 = .ok (.ldc 192, 2) := by decide +kernel
theorem d_M_sink_24 : decode Y_M_sink.2.1 24 = .ok (.ireturn, 1) := by decide +kernel
theorem d_M_sink_25 : decode Y_M_sink.2.1 25 = .ok (.iload_n 1, 1) := by decide +kernel
theorem d_M_sink_26 : decode Y_M_sink.2.1 26 = .ok (.iconst 5, 1) := by decide +kernel
theorem d_M_sink_27 : decode Y_M_sink.2.1 27 = .ok (.if_icmp .ne 5, 3) := by decide +kernel
theorem d_M_sink_30 : decode Y_M_sink.2.1 30 = .ok (.iload_n 2, 1) := by decide +kernel
theorem d_M_sink_31 : decode Y_M_sink.2.1 31 = .ok (.ireturn, 1) := by decide +kernel
theorem d_M_sink_32 : decode Y_M_sink.2.1 32 = .ok (.iload_n 1, 1) := by decide +kernel
theorem d_M_sink_33 : decode Y_M_sink.2.1 33 = .ok (.iconst 4, 1) := by decide +kernel
theorem d_M_sink_34 : decode Y_M_sink.2.1 34 = .ok (.if_icmp .ne 39, 3) := by decide +kernel
theorem d_M_sink_37 : decode Y_M_sink.2.1 37 = .ok (.lconst 0, 1) := by decide +kernel
theorem d_M_sink_38 : decode Y_M_sink.2.1 38 = .ok (.lstore_n 3, 1) := by decide +kernel
theorem d_M_sink_39 : decode Y_M_sink.2.1 39 = .ok (.iconst 1, 1) := by decide +kernel
theorem d_M_sink_40 : decode Y_M_sink.2.1 40 = .ok (.istore 5, 2) := by decide +kernel
theorem d_M_sink_42 : decode Y_M_sink.2.1 42 = .ok (.iload 5, 2) := by decide +kernel
theorem d_M_sink_44 : decode Y_M_sink.2.1 44 = .ok (.iload_n 2, 1) := by decide +kernel
theorem d_M_sink_45 : decode Y_M_sink.2.1 45 = .ok (.if_icmp .gt 25, 3) := by decide +kernel
theorem d_M_sink_48 : decode Y_M_sink.2.1 48 = .ok (.lload_n 3, 1) := by decide +kernel
theorem d_M_sink_49 : decode Y_M_sink.2.1 49 = .ok (.aload_n 0, 1) := by decide +kernel
theorem d_M_sink_50 : decode Y_M_sink.2.1 50 = .ok (.iload 5, 2) := by decide +kernel
theorem d_M_sink_52 : decode Y_M_sink.2.1 52 = .ok (.aload_n 0, 1) := by decide +kernel
theorem d_M_sink_53 : decode Y_M_sink.2.1 53 = .ok (.getfield 30, 3) := by decide +kernel
theorem d_M_sink_56 : decode Y_M_sink.2.1 56 = .ok (.iload 5, 2) := by decide +kernel
theorem d_M_sink_58 : decode Y_M_sink.2.1 58 = .ok (.iaload, 1) := by decide +kernel
theorem d_M_sink_59 : decode Y_M_sink.2.1 59 = .ok (.invokevirtual 238, 3) := by decide +kernel
theorem d_M_sink_62 : decode Y_M_sink.2.1 62 = .ok (.ladd, 1) := by decide +kernel
theorem d_M_sink_63 : decode Y_M_sink.2.1 63 = .ok (.lstore_n 3, 1) := by decide +kernel
theorem d_M_sink_64 : decode Y_M_sink.2.1 64 = .ok (.iinc 5 1, 3) := by decide +kernel
theorem d_M_sink_67 : decode Y_M_sink.2.1 67 = .ok (.goto (-25), 3) := by decide +kernel
theorem d_M_sink_70 : decode Y_M_sink.2.1 70 = .ok (.lload_n 3, 1) := by decide +kernel
theorem d_M_sink_71 : decode Y_M_sink.2.1 71 = .ok (.l2i, 1) := by decide +kernel
theorem d_M_sink_72 : decode Y_M_sink.2.1 72 = .ok (.ireturn, 1) := by decide +kernel
theorem d_M_sink_73 : decode Y_M_sink.2.1 73 = .ok (.aload_n 0, 1) := by decide +kernel
theorem d_M_sink_74 : decode Y_M_sink.2.1 74 = .ok (.iload_n 2, 1) := by decide +kernel
theorem d_M_sink_75 : decode Y_M_sink.2.1 75 = .ok (.invokevirtual 231, 3) := by decide +kernel
theorem d_M_sink_78 : decode Y_M_sink.2.1 78 = .ok (.istore_n 3, 1) := by decide +kernel
theorem d_M_sink_79 : decode Y_M_sink.2.1 79 = .ok (.iload_n 1, 1) := by decide +kernel
theorem d_M_sink_80 : decode Y_M_sink.2.1 80 = .ok (.ifCond .ne 7, 3) := by decide +kernel
theorem d_M_sink_83 : decode Y_M_sink.2.1 83 = .ok (.iload_n 3, 1) := by decide +kernel
theorem d_M_sink_84 : decode Y_M_sink.2.1 84 = .ok (.goto 31, 3) := by decide +kernel
theorem d_M_sink_87 : decode Y_M_sink.2.1 87 = .ok (.iload_n 1, 1) := by decide +kernel
theorem d_M_sink_88 : decode Y_M_sink.2.1 88 = .ok (.iconst 1, 1) := by decide +kernel
theorem d_M_sink_89 : decode Y_M_sink.2.1 89 = .ok (.if_icmp .ne 10, 3) := by decide +kernel
theorem d_M_sink_92 : decode Y_M_sink.2.1 92 = .ok (.aload_n 0, 1) := by decide +kernel
theorem d_M_sink_93 : decode Y_M_sink.2.1 93 = .ok (.getfield 202, 3) := by decide +kernel
theorem d_M_sink_96 : decode Y_M_sink.2.1 96 = .ok (.goto 19, 3) := by decide +kernel
theorem d_M_sink_99 : decode Y_M_sink.2.1 99 = .ok (.iload_n 1, 1) := by decide +kernel
theorem d_M_sink_100 : decode Y_M_sink.2.1 100 = .ok (.iconst 2, 1) := by decide +kernel
theorem d_M_sink_101 : decode Y_M_sink.2.1 101 = .ok (.if_icmp .ne 10, 3) := by decide +kernel
theorem d_M_sink_104 : decode Y_M_sink.2.1 104 = .ok (.aload_n 0, 1) := by decide +kernel
theorem d_M_sink_105 : decode Y_M_sink.2.1 105 = .ok (.getfield 205, 3) := by decide +kernel
theorem d_M_sink_108 : decode Y_M_sink.2.1 108 = .ok (.goto 7, 3) := by decide +kernel
theorem d_M_sink_111 : decode Y_M_sink.2.1 111 = .ok (.aload_n 0, 1) := by decide +kernel
theorem d_M_sink_112 : decode Y_M_sink.2.1 112 = .ok (.getfield 208, 3) := by decide +kernel
theorem d_M_sink_115 : decode Y_M_sink.2.1 115 = .ok (.ireturn, 1) := by decide +kernel
theorem d_X_asksRow_0 : decode Y_X_asksRow.2.1 0 = .ok (.iload_n 1, 1) := by decide +kernel
theorem d_X_asksRow_1 : decode Y_X_asksRow.2.1 1 = .ok (.iconst (-1), 1) := by decide +kernel
theorem d_X_asksRow_2 : decode Y_X_asksRow.2.1 2 = .ok (.if_icmp .eq 14, 3) := by decide +kernel
theorem d_X_asksRow_5 : decode Y_X_asksRow.2.1 5 = .ok (.iload_n 1, 1) := by decide +kernel
theorem d_X_asksRow_6 : decode Y_X_asksRow.2.1 6 = .ok (.iconst 1, 1) := by decide +kernel
theorem d_X_asksRow_7 : decode Y_X_asksRow.2.1 7 = .ok (.if_icmp .lt 24, 3) := by decide +kernel
theorem d_X_asksRow_10 : decode Y_X_asksRow.2.1 10 = .ok (.iload_n 1, 1) := by decide +kernel
theorem d_X_asksRow_11 : decode Y_X_asksRow.2.1 11 = .ok (.bipush 24, 2) := by decide +kernel
theorem d_X_asksRow_13 : decode Y_X_asksRow.2.1 13 = .ok (.if_icmp .ge 18, 3) := by decide +kernel
theorem d_X_asksRow_16 : decode Y_X_asksRow.2.1 16 = .ok (.aload_n 0, 1) := by decide +kernel
theorem d_X_asksRow_17 : decode Y_X_asksRow.2.1 17 = .ok (.getfield 10, 3) := by decide +kernel
theorem d_X_asksRow_20 : decode Y_X_asksRow.2.1 20 = .ok (.invokevirtual 135, 3) := by decide +kernel
theorem d_X_asksRow_23 : decode Y_X_asksRow.2.1 23 = .ok (.iconst (-1), 1) := by decide +kernel
theorem d_X_asksRow_24 : decode Y_X_asksRow.2.1 24 = .ok (.if_icmp .eq 7, 3) := by decide +kernel
theorem d_X_asksRow_27 : decode Y_X_asksRow.2.1 27 = .ok (.iconst 1, 1) := by decide +kernel
theorem d_X_asksRow_28 : decode Y_X_asksRow.2.1 28 = .ok (.goto 4, 3) := by decide +kernel
theorem d_X_asksRow_31 : decode Y_X_asksRow.2.1 31 = .ok (.iconst 0, 1) := by decide +kernel
theorem d_X_asksRow_32 : decode Y_X_asksRow.2.1 32 = .ok (.ireturn, 1) := by decide +kernel
theorem d_Wa_init_0 : decode Y_Wa_init.2.1 0 = .ok (.aload_n 0, 1) := by decide +kernel
theorem d_Wa_init_1 : decode Y_Wa_init.2.1 1 = .ok (.invokespecial 5, 3) := by decide +kernel
theorem d_Wa_init_4 : decode Y_Wa_init.2.1 4 = .ok (.aload_n 0, 1) := by decide +kernel
theorem d_Wa_init_5 : decode Y_Wa_init.2.1 5 = .ok (.sipush 7200, 3) := by decide +kernel
theorem d_Wa_init_8 : decode Y_Wa_init.2.1 8 = .ok (.newarray .int, 2) := by decide +kernel
theorem d_Wa_init_10 : decode Y_Wa_init.2.1 10 = .ok (.putfield 13, 3) := by decide +kernel
theorem d_Wa_init_13 : decode Y_Wa_init.2.1 13 = .ok (.aload_n 0, 1) := by decide +kernel
theorem d_Wa_init_14 : decode Y_Wa_init.2.1 14 = .ok (.sipush 7200, 3) := by decide +kernel
theorem d_Wa_init_17 : decode Y_Wa_init.2.1 17 = .ok (.newarray .int, 2) := by decide +kernel
theorem d_Wa_init_19 : decode Y_Wa_init.2.1 19 = .ok (.putfield 17, 3) := by decide +kernel
theorem d_Wa_init_22 : decode Y_Wa_init.2.1 22 = .ok (.aload_n 0, 1) := by decide +kernel
theorem d_Wa_init_23 : decode Y_Wa_init.2.1 23 = .ok (.bipush 24, 2) := by decide +kernel
theorem d_Wa_init_25 : decode Y_Wa_init.2.1 25 = .ok (.newarray .int, 2) := by decide +kernel
theorem d_Wa_init_27 : decode Y_Wa_init.2.1 27 = .ok (.putfield 20, 3) := by decide +kernel
theorem d_Wa_init_30 : decode Y_Wa_init.2.1 30 = .ok (.aload_n 0, 1) := by decide +kernel
theorem d_Wa_init_31 : decode Y_Wa_init.2.1 31 = .ok (.sipush 300, 3) := by decide +kernel
theorem d_Wa_init_34 : decode Y_Wa_init.2.1 34 = .ok (.newarray .int, 2) := by decide +kernel
theorem d_Wa_init_36 : decode Y_Wa_init.2.1 36 = .ok (.putfield 23, 3) := by decide +kernel
theorem d_Wa_init_39 : decode Y_Wa_init.2.1 39 = .ok (.aload_n 0, 1) := by decide +kernel
theorem d_Wa_init_40 : decode Y_Wa_init.2.1 40 = .ok (.sipush 168, 3) := by decide +kernel
theorem d_Wa_init_43 : decode Y_Wa_init.2.1 43 = .ok (.newarray .int, 2) := by decide +kernel
theorem d_Wa_init_45 : decode Y_Wa_init.2.1 45 = .ok (.putfield 26, 3) := by decide +kernel
theorem d_Wa_init_48 : decode Y_Wa_init.2.1 48 = .ok (.aload_n 0, 1) := by decide +kernel
theorem d_Wa_init_49 : decode Y_Wa_init.2.1 49 = .ok (.sipush 168, 3) := by decide +kernel
theorem d_Wa_init_52 : decode Y_Wa_init.2.1 52 = .ok (.newarray .int, 2) := by decide +kernel
theorem d_Wa_init_54 : decode Y_Wa_init.2.1 54 = .ok (.putfield 29, 3) := by decide +kernel
theorem d_Wa_init_57 : decode Y_Wa_init.2.1 57 = .ok (.aload_n 0, 1) := by decide +kernel
theorem d_Wa_init_58 : decode Y_Wa_init.2.1 58 = .ok (.bipush 24, 2) := by decide +kernel
theorem d_Wa_init_60 : decode Y_Wa_init.2.1 60 = .ok (.newarray .int, 2) := by decide +kernel
theorem d_Wa_init_62 : decode Y_Wa_init.2.1 62 = .ok (.putfield 32, 3) := by decide +kernel
theorem d_Wa_init_65 : decode Y_Wa_init.2.1 65 = .ok (.aload_n 0, 1) := by decide +kernel
theorem d_Wa_init_66 : decode Y_Wa_init.2.1 66 = .ok (.aload_n 1, 1) := by decide +kernel
theorem d_Wa_init_67 : decode Y_Wa_init.2.1 67 = .ok (.putfield 35, 3) := by decide +kernel
theorem d_Wa_init_70 : decode Y_Wa_init.2.1 70 = .ok (.return_, 1) := by decide +kernel
theorem d_Mt_min_0 : decode Y_Mt_min.2.1 0 = .ok (.iload_n 0, 1) := by decide +kernel
theorem d_Mt_min_1 : decode Y_Mt_min.2.1 1 = .ok (.iload_n 1, 1) := by decide +kernel
theorem d_Mt_min_2 : decode Y_Mt_min.2.1 2 = .ok (.if_icmp .gt 7, 3) := by decide +kernel
theorem d_Mt_min_5 : decode Y_Mt_min.2.1 5 = .ok (.iload_n 0, 1) := by decide +kernel
theorem d_Mt_min_6 : decode Y_Mt_min.2.1 6 = .ok (.goto 4, 3) := by decide +kernel
theorem d_Mt_min_9 : decode Y_Mt_min.2.1 9 = .ok (.iload_n 1, 1) := by decide +kernel
theorem d_Mt_min_10 : decode Y_Mt_min.2.1 10 = .ok (.ireturn, 1) := by decide +kernel
theorem d_Wa_spread_0 : decode Y_Wa_spread.2.1 0 = .ok (.iload_n 1, 1) := by decide +kernel
theorem d_Wa_spread_1 : decode Y_Wa_spread.2.1 1 = .ok (.iconst 1, 1) := by decide +kernel
theorem d_Wa_spread_2 : decode Y_Wa_spread.2.1 2 = .ok (.isub, 1) := by decide +kernel
theorem d_Wa_spread_3 : decode Y_Wa_spread.2.1 3 = .ok (.sipush 300, 3) := by decide +kernel
theorem d_Wa_spread_6 : decode Y_Wa_spread.2.1 6 = .ok (.imul, 1) := by decide +kernel
theorem d_Wa_spread_7 : decode Y_Wa_spread.2.1 7 = .ok (.istore_n 3, 1) := by decide +kernel
theorem d_Wa_spread_8 : decode Y_Wa_spread.2.1 8 = .ok (.iload_n 1, 1) := by decide +kernel
theorem d_Wa_spread_9 : decode Y_Wa_spread.2.1 9 = .ok (.sipush 300, 3) := by decide +kernel
theorem d_Wa_spread_12 : decode Y_Wa_spread.2.1 12 = .ok (.imul, 1) := by decide +kernel
theorem d_Wa_spread_13 : decode Y_Wa_spread.2.1 13 = .ok (.istore 4, 2) := by decide +kernel
theorem d_Wa_spread_15 : decode Y_Wa_spread.2.1 15 = .ok (.iconst 0, 1) := by decide +kernel
theorem d_Wa_spread_16 : decode Y_Wa_spread.2.1 16 = .ok (.istore 5, 2) := by decide +kernel
theorem d_Wa_spread_18 : decode Y_Wa_spread.2.1 18 = .ok (.iconst 0, 1) := by decide +kernel
theorem d_Wa_spread_19 : decode Y_Wa_spread.2.1 19 = .ok (.istore 6, 2) := by decide +kernel
theorem d_Wa_spread_21 : decode Y_Wa_spread.2.1 21 = .ok (.iconst 0, 1) := by decide +kernel
theorem d_Wa_spread_22 : decode Y_Wa_spread.2.1 22 = .ok (.istore 7, 2) := by decide +kernel
theorem d_Wa_spread_24 : decode Y_Wa_spread.2.1 24 = .ok (.iload 7, 2) := by decide +kernel
theorem d_Wa_spread_26 : decode Y_Wa_spread.2.1 26 = .ok (.sipush 300, 3) := by decide +kernel
theorem d_Wa_spread_29 : decode Y_Wa_spread.2.1 29 = .ok (.if_icmp .ge 150, 3) := by decide +kernel
theorem d_Wa_spread_32 : decode Y_Wa_spread.2.1 32 = .ok (.iload 5, 2) := by decide +kernel
theorem d_Wa_spread_34 : decode Y_Wa_spread.2.1 34 = .ok (.aload_n 0, 1) := by decide +kernel
theorem d_Wa_spread_35 : decode Y_Wa_spread.2.1 35 = .ok (.getfield 20, 3) := by decide +kernel
theorem d_Wa_spread_38 : decode Y_Wa_spread.2.1 38 = .ok (.iload_n 1, 1) := by decide +kernel
theorem d_Wa_spread_39 : decode Y_Wa_spread.2.1 39 = .ok (.iconst 1, 1) := by decide +kernel
theorem d_Wa_spread_40 : decode Y_Wa_spread.2.1 40 = .ok (.isub, 1) := by decide +kernel
theorem d_Wa_spread_41 : decode Y_Wa_spread.2.1 41 = .ok (.iaload, 1) := by decide +kernel
theorem d_Wa_spread_42 : decode Y_Wa_spread.2.1 42 = .ok (.if_icmp .lt 14, 3) := by decide +kernel
theorem d_Wa_spread_45 : decode Y_Wa_spread.2.1 45 = .ok (.iload 6, 2) := by decide +kernel
theorem d_Wa_spread_47 : decode Y_Wa_spread.2.1 47 = .ok (.aload_n 0, 1) := by decide +kernel
theorem d_Wa_spread_48 : decode Y_Wa_spread.2.1 48 = .ok (.getfield 20, 3) := by decide +kernel
theorem d_Wa_spread_51 : decode Y_Wa_spread.2.1 51 = .ok (.iload_n 1, 1) := by decide +kernel
theorem d_Wa_spread_52 : decode Y_Wa_spread.2.1 52 = .ok (.iaload, 1) := by decide +kernel
theorem d_Wa_spread_53 : decode Y_Wa_spread.2.1 53 = .ok (.if_icmp .ge 126, 3) := by decide +kernel
theorem d_Wa_spread_56 : decode Y_Wa_spread.2.1 56 = .ok (.iload 5, 2) := by decide +kernel
theorem d_Wa_spread_58 : decode Y_Wa_spread.2.1 58 = .ok (.aload_n 0, 1) := by decide +kernel
theorem d_Wa_spread_59 : decode Y_Wa_spread.2.1 59 = .ok (.getfield 20, 3) := by decide +kernel
theorem d_Wa_spread_62 : decode Y_Wa_spread.2.1 62 = .ok (.iload_n 1, 1) := by decide +kernel
theorem d_Wa_spread_63 : decode Y_Wa_spread.2.1 63 = .ok (.iconst 1, 1) := by decide +kernel
theorem d_Wa_spread_64 : decode Y_Wa_spread.2.1 64 = .ok (.isub, 1) := by decide +kernel
theorem d_Wa_spread_65 : decode Y_Wa_spread.2.1 65 = .ok (.iaload, 1) := by decide +kernel
theorem d_Wa_spread_66 : decode Y_Wa_spread.2.1 66 = .ok (.if_icmp .ge 17, 3) := by decide +kernel
theorem d_Wa_spread_69 : decode Y_Wa_spread.2.1 69 = .ok (.aload_n 0, 1) := by decide +kernel
theorem d_Wa_spread_70 : decode Y_Wa_spread.2.1 70 = .ok (.getfield 13, 3) := by decide +kernel
theorem d_Wa_spread_73 : decode Y_Wa_spread.2.1 73 = .ok (.iload_n 3, 1) := by decide +kernel
theorem d_Wa_spread_74 : decode Y_Wa_spread.2.1 74 = .ok (.iload 5, 2) := by decide +kernel
theorem d_Wa_spread_76 : decode Y_Wa_spread.2.1 76 = .ok (.iadd, 1) := by decide +kernel
theorem d_Wa_spread_77 : decode Y_Wa_spread.2.1 77 = .ok (.iaload, 1) := by decide +kernel
theorem d_Wa_spread_78 : decode Y_Wa_spread.2.1 78 = .ok (.iload_n 2, 1) := by decide +kernel
theorem d_Wa_spread_79 : decode Y_Wa_spread.2.1 79 = .ok (.iadd, 1) := by decide +kernel
theorem d_Wa_spread_80 : decode Y_Wa_spread.2.1 80 = .ok (.goto 5, 3) := by decide +kernel
theorem d_Wa_spread_83 : decode Y_Wa_spread.2.1 83 = .ok (.ldc 66, 2) := by decide +kernel
theorem d_Wa_spread_85 : decode Y_Wa_spread.2.1 85 = .ok (.istore 8, 2) := by decide +kernel
theorem d_Wa_spread_87 : decode Y_Wa_spread.2.1 87 = .ok (.iload 6, 2) := by decide +kernel
theorem d_Wa_spread_89 : decode Y_Wa_spread.2.1 89 = .ok (.aload_n 0, 1) := by decide +kernel
theorem d_Wa_spread_90 : decode Y_Wa_spread.2.1 90 = .ok (.getfield 20, 3) := by decide +kernel
theorem d_Wa_spread_93 : decode Y_Wa_spread.2.1 93 = .ok (.iload_n 1, 1) := by decide +kernel
theorem d_Wa_spread_94 : decode Y_Wa_spread.2.1 94 = .ok (.iaload, 1) := by decide +kernel
theorem d_Wa_spread_95 : decode Y_Wa_spread.2.1 95 = .ok (.if_icmp .ge 16, 3) := by decide +kernel
theorem d_Wa_spread_98 : decode Y_Wa_spread.2.1 98 = .ok (.aload_n 0, 1) := by decide +kernel
theorem d_Wa_spread_99 : decode Y_Wa_spread.2.1 99 = .ok (.getfield 13, 3) := by decide +kernel
theorem d_Wa_spread_102 : decode Y_Wa_spread.2.1 102 = .ok (.iload 4, 2) := by decide +kernel
theorem d_Wa_spread_104 : decode Y_Wa_spread.2.1 104 = .ok (.iload 6, 2) := by decide +kernel
theorem d_Wa_spread_106 : decode Y_Wa_spread.2.1 106 = .ok (.iadd, 1) := by decide +kernel
theorem d_Wa_spread_107 : decode Y_Wa_spread.2.1 107 = .ok (.iaload, 1) := by decide +kernel
theorem d_Wa_spread_108 : decode Y_Wa_spread.2.1 108 = .ok (.goto 5, 3) := by decide +kernel
theorem d_Wa_spread_111 : decode Y_Wa_spread.2.1 111 = .ok (.ldc 66, 2) := by decide +kernel
theorem d_Wa_spread_113 : decode Y_Wa_spread.2.1 113 = .ok (.istore 9, 2) := by decide +kernel
theorem d_Wa_spread_115 : decode Y_Wa_spread.2.1 115 = .ok (.aload_n 0, 1) := by decide +kernel
theorem d_Wa_spread_116 : decode Y_Wa_spread.2.1 116 = .ok (.getfield 23, 3) := by decide +kernel
theorem d_Wa_spread_119 : decode Y_Wa_spread.2.1 119 = .ok (.iload 7, 2) := by decide +kernel
theorem d_Wa_spread_121 : decode Y_Wa_spread.2.1 121 = .ok (.iload 8, 2) := by decide +kernel
theorem d_Wa_spread_123 : decode Y_Wa_spread.2.1 123 = .ok (.iload 9, 2) := by decide +kernel
theorem d_Wa_spread_125 : decode Y_Wa_spread.2.1 125 = .ok (.invokestatic 67, 3) := by decide +kernel
theorem d_Wa_spread_128 : decode Y_Wa_spread.2.1 128 = .ok (.iastore, 1) := by decide +kernel
theorem d_Wa_spread_129 : decode Y_Wa_spread.2.1 129 = .ok (.iload 5, 2) := by decide +kernel
theorem d_Wa_spread_131 : decode Y_Wa_spread.2.1 131 = .ok (.iload 8, 2) := by decide +kernel
theorem d_Wa_spread_133 : decode Y_Wa_spread.2.1 133 = .ok (.aload_n 0, 1) := by decide +kernel
theorem d_Wa_spread_134 : decode Y_Wa_spread.2.1 134 = .ok (.getfield 23, 3) := by decide +kernel
theorem d_Wa_spread_137 : decode Y_Wa_spread.2.1 137 = .ok (.iload 7, 2) := by decide +kernel
theorem d_Wa_spread_139 : decode Y_Wa_spread.2.1 139 = .ok (.iaload, 1) := by decide +kernel
theorem d_Wa_spread_140 : decode Y_Wa_spread.2.1 140 = .ok (.if_icmp .ne 7, 3) := by decide +kernel
theorem d_Wa_spread_143 : decode Y_Wa_spread.2.1 143 = .ok (.iconst 1, 1) := by decide +kernel
theorem d_Wa_spread_144 : decode Y_Wa_spread.2.1 144 = .ok (.goto 4, 3) := by decide +kernel
theorem d_Wa_spread_147 : decode Y_Wa_spread.2.1 147 = .ok (.iconst 0, 1) := by decide +kernel
theorem d_Wa_spread_148 : decode Y_Wa_spread.2.1 148 = .ok (.iadd, 1) := by decide +kernel
theorem d_Wa_spread_149 : decode Y_Wa_spread.2.1 149 = .ok (.istore 5, 2) := by decide +kernel
theorem d_Wa_spread_151 : decode Y_Wa_spread.2.1 151 = .ok (.iload 6, 2) := by decide +kernel
theorem d_Wa_spread_153 : decode Y_Wa_spread.2.1 153 = .ok (.iload 9, 2) := by decide +kernel
theorem d_Wa_spread_155 : decode Y_Wa_spread.2.1 155 = .ok (.aload_n 0, 1) := by decide +kernel
theorem d_Wa_spread_156 : decode Y_Wa_spread.2.1 156 = .ok (.getfield 23, 3) := by decide +kernel
theorem d_Wa_spread_159 : decode Y_Wa_spread.2.1 159 = .ok (.iload 7, 2) := by decide +kernel
theorem d_Wa_spread_161 : decode Y_Wa_spread.2.1 161 = .ok (.iaload, 1) := by decide +kernel
theorem d_Wa_spread_162 : decode Y_Wa_spread.2.1 162 = .ok (.if_icmp .ne 7, 3) := by decide +kernel
theorem d_Wa_spread_165 : decode Y_Wa_spread.2.1 165 = .ok (.iconst 1, 1) := by decide +kernel
theorem d_Wa_spread_166 : decode Y_Wa_spread.2.1 166 = .ok (.goto 4, 3) := by decide +kernel
theorem d_Wa_spread_169 : decode Y_Wa_spread.2.1 169 = .ok (.iconst 0, 1) := by decide +kernel
theorem d_Wa_spread_170 : decode Y_Wa_spread.2.1 170 = .ok (.iadd, 1) := by decide +kernel
theorem d_Wa_spread_171 : decode Y_Wa_spread.2.1 171 = .ok (.istore 6, 2) := by decide +kernel
theorem d_Wa_spread_173 : decode Y_Wa_spread.2.1 173 = .ok (.iinc 7 1, 3) := by decide +kernel
theorem d_Wa_spread_176 : decode Y_Wa_spread.2.1 176 = .ok (.goto (-152), 3) := by decide +kernel
theorem d_Wa_spread_179 : decode Y_Wa_spread.2.1 179 = .ok (.iload 5, 2) := by decide +kernel
theorem d_Wa_spread_181 : decode Y_Wa_spread.2.1 181 = .ok (.aload_n 0, 1) := by decide +kernel
theorem d_Wa_spread_182 : decode Y_Wa_spread.2.1 182 = .ok (.getfield 20, 3) := by decide +kernel
theorem d_Wa_spread_185 : decode Y_Wa_spread.2.1 185 = .ok (.iload_n 1, 1) := by decide +kernel
theorem d_Wa_spread_186 : decode Y_Wa_spread.2.1 186 = .ok (.iconst 1, 1) := by decide +kernel
theorem d_Wa_spread_187 : decode Y_Wa_spread.2.1 187 = .ok (.isub, 1) := by decide +kernel
theorem d_Wa_spread_188 : decode Y_Wa_spread.2.1 188 = .ok (.iaload, 1) := by decide +kernel
theorem d_Wa_spread_189 : decode Y_Wa_spread.2.1 189 = .ok (.if_icmp .lt 14, 3) := by decide +kernel
theorem d_Wa_spread_192 : decode Y_Wa_spread.2.1 192 = .ok (.iload 6, 2) := by decide +kernel
theorem d_Wa_spread_194 : decode Y_Wa_spread.2.1 194 = .ok (.aload_n 0, 1) := by decide +kernel
theorem d_Wa_spread_195 : decode Y_Wa_spread.2.1 195 = .ok (.getfield 20, 3) := by decide +kernel
theorem d_Wa_spread_198 : decode Y_Wa_spread.2.1 198 = .ok (.iload_n 1, 1) := by decide +kernel
theorem d_Wa_spread_199 : decode Y_Wa_spread.2.1 199 = .ok (.iaload, 1) := by decide +kernel
theorem d_Wa_spread_200 : decode Y_Wa_spread.2.1 200 = .ok (.if_icmp .ge 5, 3) := by decide +kernel
theorem d_Wa_spread_203 : decode Y_Wa_spread.2.1 203 = .ok (.iconst 0, 1) := by decide +kernel
theorem d_Wa_spread_204 : decode Y_Wa_spread.2.1 204 = .ok (.ireturn, 1) := by decide +kernel
theorem d_Wa_spread_205 : decode Y_Wa_spread.2.1 205 = .ok (.aload_n 0, 1) := by decide +kernel
theorem d_Wa_spread_206 : decode Y_Wa_spread.2.1 206 = .ok (.getfield 23, 3) := by decide +kernel
theorem d_Wa_spread_209 : decode Y_Wa_spread.2.1 209 = .ok (.iconst 0, 1) := by decide +kernel
theorem d_Wa_spread_210 : decode Y_Wa_spread.2.1 210 = .ok (.aload_n 0, 1) := by decide +kernel
theorem d_Wa_spread_211 : decode Y_Wa_spread.2.1 211 = .ok (.getfield 13, 3) := by decide +kernel
theorem d_Wa_spread_214 : decode Y_Wa_spread.2.1 214 = .ok (.iload 4, 2) := by decide +kernel
theorem d_Wa_spread_216 : decode Y_Wa_spread.2.1 216 = .ok (.iload 7, 2) := by decide +kernel
theorem d_Wa_spread_218 : decode Y_Wa_spread.2.1 218 = .ok (.invokestatic 49, 3) := by decide +kernel
theorem d_Wa_spread_221 : decode Y_Wa_spread.2.1 221 = .ok (.aload_n 0, 1) := by decide +kernel
theorem d_Wa_spread_222 : decode Y_Wa_spread.2.1 222 = .ok (.getfield 20, 3) := by decide +kernel
theorem d_Wa_spread_225 : decode Y_Wa_spread.2.1 225 = .ok (.iload_n 1, 1) := by decide +kernel
theorem d_Wa_spread_226 : decode Y_Wa_spread.2.1 226 = .ok (.iload 7, 2) := by decide +kernel
theorem d_Wa_spread_228 : decode Y_Wa_spread.2.1 228 = .ok (.iastore, 1) := by decide +kernel
theorem d_Wa_spread_229 : decode Y_Wa_spread.2.1 229 = .ok (.iconst 1, 1) := by decide +kernel
theorem d_Wa_spread_230 : decode Y_Wa_spread.2.1 230 = .ok (.ireturn, 1) := by decide +kernel
theorem d_Wa_explore_0 : decode Y_Wa_explore.2.1 0 = .ok (.aload_n 0, 1) := by decide +kernel
theorem d_Wa_explore_1 : decode Y_Wa_explore.2.1 1 = .ok (.aload_n 0, 1) := by decide +kernel
theorem d_Wa_explore_2 : decode Y_Wa_explore.2.1 2 = .ok (.getfield 35, 3) := by decide +kernel
theorem d_Wa_explore_5 : decode Y_Wa_explore.2.1 5 = .ok (.invokevirtual 39, 3) := by decide +kernel
theorem d_Wa_explore_8 : decode Y_Wa_explore.2.1 8 = .ok (.putfield 45, 3) := by decide +kernel
theorem d_Wa_explore_11 : decode Y_Wa_explore.2.1 11 = .ok (.aload_n 0, 1) := by decide +kernel
theorem d_Wa_explore_12 : decode Y_Wa_explore.2.1 12 = .ok (.getfield 13, 3) := by decide +kernel
theorem d_Wa_explore_15 : decode Y_Wa_explore.2.1 15 = .ok (.iconst 0, 1) := by decide +kernel
theorem d_Wa_explore_16 : decode Y_Wa_explore.2.1 16 = .ok (.iconst 0, 1) := by decide +kernel
theorem d_Wa_explore_17 : decode Y_Wa_explore.2.1 17 = .ok (.iastore, 1) := by decide +kernel
theorem d_Wa_explore_18 : decode Y_Wa_explore.2.1 18 = .ok (.aload_n 0, 1) := by decide +kernel
theorem d_Wa_explore_19 : decode Y_Wa_explore.2.1 19 = .ok (.getfield 20, 3) := by decide +kernel
theorem d_Wa_explore_22 : decode Y_Wa_explore.2.1 22 = .ok (.iconst 0, 1) := by decide +kernel
theorem d_Wa_explore_23 : decode Y_Wa_explore.2.1 23 = .ok (.iconst 1, 1) := by decide +kernel
theorem d_Wa_explore_24 : decode Y_Wa_explore.2.1 24 = .ok (.iastore, 1) := by decide +kernel
theorem d_Wa_explore_25 : decode Y_Wa_explore.2.1 25 = .ok (.iconst 1, 1) := by decide +kernel
theorem d_Wa_explore_26 : decode Y_Wa_explore.2.1 26 = .ok (.istore_n 1, 1) := by decide +kernel
theorem d_Wa_explore_27 : decode Y_Wa_explore.2.1 27 = .ok (.iload_n 1, 1) := by decide +kernel
theorem d_Wa_explore_28 : decode Y_Wa_explore.2.1 28 = .ok (.aload_n 0, 1) := by decide +kernel
theorem d_Wa_explore_29 : decode Y_Wa_explore.2.1 29 = .ok (.getfield 45, 3) := by decide +kernel
theorem d_Wa_explore_32 : decode Y_Wa_explore.2.1 32 = .ok (.if_icmp .gt 113, 3) := by decide +kernel
theorem d_Wa_explore_35 : decode Y_Wa_explore.2.1 35 = .ok (.aload_n 0, 1) := by decide +kernel
theorem d_Wa_explore_36 : decode Y_Wa_explore.2.1 36 = .ok (.getfield 20, 3) := by decide +kernel
theorem d_Wa_explore_39 : decode Y_Wa_explore.2.1 39 = .ok (.iload_n 1, 1) := by decide +kernel
theorem d_Wa_explore_40 : decode Y_Wa_explore.2.1 40 = .ok (.aload_n 0, 1) := by decide +kernel
theorem d_Wa_explore_41 : decode Y_Wa_explore.2.1 41 = .ok (.getfield 20, 3) := by decide +kernel
theorem d_Wa_explore_44 : decode Y_Wa_explore.2.1 44 = .ok (.iload_n 1, 1) := by decide +kernel
theorem d_Wa_explore_45 : decode Y_Wa_explore.2.1 45 = .ok (.iconst 1, 1) := by decide +kernel
theorem d_Wa_explore_46 : decode Y_Wa_explore.2.1 46 = .ok (.isub, 1) := by decide +kernel
theorem d_Wa_explore_47 : decode Y_Wa_explore.2.1 47 = .ok (.iaload, 1) := by decide +kernel
theorem d_Wa_explore_48 : decode Y_Wa_explore.2.1 48 = .ok (.iastore, 1) := by decide +kernel
theorem d_Wa_explore_49 : decode Y_Wa_explore.2.1 49 = .ok (.aload_n 0, 1) := by decide +kernel
theorem d_Wa_explore_50 : decode Y_Wa_explore.2.1 50 = .ok (.getfield 13, 3) := by decide +kernel
theorem d_Wa_explore_53 : decode Y_Wa_explore.2.1 53 = .ok (.iload_n 1, 1) := by decide +kernel
theorem d_Wa_explore_54 : decode Y_Wa_explore.2.1 54 = .ok (.iconst 1, 1) := by decide +kernel
theorem d_Wa_explore_55 : decode Y_Wa_explore.2.1 55 = .ok (.isub, 1) := by decide +kernel
theorem d_Wa_explore_56 : decode Y_Wa_explore.2.1 56 = .ok (.sipush 300, 3) := by decide +kernel
theorem d_Wa_explore_59 : decode Y_Wa_explore.2.1 59 = .ok (.imul, 1) := by decide +kernel
theorem d_Wa_explore_60 : decode Y_Wa_explore.2.1 60 = .ok (.aload_n 0, 1) := by decide +kernel
theorem d_Wa_explore_61 : decode Y_Wa_explore.2.1 61 = .ok (.getfield 13, 3) := by decide +kernel
theorem d_Wa_explore_64 : decode Y_Wa_explore.2.1 64 = .ok (.iload_n 1, 1) := by decide +kernel
theorem d_Wa_explore_65 : decode Y_Wa_explore.2.1 65 = .ok (.sipush 300, 3) := by decide +kernel
theorem d_Wa_explore_68 : decode Y_Wa_explore.2.1 68 = .ok (.imul, 1) := by decide +kernel
theorem d_Wa_explore_69 : decode Y_Wa_explore.2.1 69 = .ok (.aload_n 0, 1) := by decide +kernel
theorem d_Wa_explore_70 : decode Y_Wa_explore.2.1 70 = .ok (.getfield 20, 3) := by decide +kernel
theorem d_Wa_explore_73 : decode Y_Wa_explore.2.1 73 = .ok (.iload_n 1, 1) := by decide +kernel
theorem d_Wa_explore_74 : decode Y_Wa_explore.2.1 74 = .ok (.iaload, 1) := by decide +kernel
theorem d_Wa_explore_75 : decode Y_Wa_explore.2.1 75 = .ok (.invokestatic 49, 3) := by decide +kernel
theorem d_Wa_explore_78 : decode Y_Wa_explore.2.1 78 = .ok (.iconst 0, 1) := by decide +kernel
theorem d_Wa_explore_79 : decode Y_Wa_explore.2.1 79 = .ok (.istore_n 2, 1) := by decide +kernel
theorem d_Wa_explore_80 : decode Y_Wa_explore.2.1 80 = .ok (.iload_n 2, 1) := by decide +kernel
theorem d_Wa_explore_81 : decode Y_Wa_explore.2.1 81 = .ok (.bipush 6, 2) := by decide +kernel
theorem d_Wa_explore_83 : decode Y_Wa_explore.2.1 83 = .ok (.if_icmp .ge 56, 3) := by decide +kernel
theorem d_Wa_explore_86 : decode Y_Wa_explore.2.1 86 = .ok (.aload_n 0, 1) := by decide +kernel
theorem d_Wa_explore_87 : decode Y_Wa_explore.2.1 87 = .ok (.getfield 35, 3) := by decide +kernel
theorem d_Wa_explore_90 : decode Y_Wa_explore.2.1 90 = .ok (.iload_n 2, 1) := by decide +kernel
theorem d_Wa_explore_91 : decode Y_Wa_explore.2.1 91 = .ok (.iload_n 1, 1) := by decide +kernel
theorem d_Wa_explore_92 : decode Y_Wa_explore.2.1 92 = .ok (.invokevirtual 55, 3) := by decide +kernel
theorem d_Wa_explore_95 : decode Y_Wa_explore.2.1 95 = .ok (.istore_n 3, 1) := by decide +kernel
theorem d_Wa_explore_96 : decode Y_Wa_explore.2.1 96 = .ok (.aload_n 0, 1) := by decide +kernel
theorem d_Wa_explore_97 : decode Y_Wa_explore.2.1 97 = .ok (.getfield 26, 3) := by decide +kernel
theorem d_Wa_explore_100 : decode Y_Wa_explore.2.1 100 = .ok (.iload_n 1, 1) := by decide +kernel
theorem d_Wa_explore_101 : decode Y_Wa_explore.2.1 101 = .ok (.bipush 7, 2) := by decide +kernel
theorem d_Wa_explore_103 : decode Y_Wa_explore.2.1 103 = .ok (.imul, 1) := by decide +kernel
theorem d_Wa_explore_104 : decode Y_Wa_explore.2.1 104 = .ok (.iload_n 2, 1) := by decide +kernel
theorem d_Wa_explore_105 : decode Y_Wa_explore.2.1 105 = .ok (.iadd, 1) := by decide +kernel
theorem d_Wa_explore_106 : decode Y_Wa_explore.2.1 106 = .ok (.iconst 1, 1) := by decide +kernel
theorem d_Wa_explore_107 : decode Y_Wa_explore.2.1 107 = .ok (.iadd, 1) := by decide +kernel
theorem d_Wa_explore_108 : decode Y_Wa_explore.2.1 108 = .ok (.iload_n 3, 1) := by decide +kernel
theorem d_Wa_explore_109 : decode Y_Wa_explore.2.1 109 = .ok (.iastore, 1) := by decide +kernel
theorem d_Wa_explore_110 : decode Y_Wa_explore.2.1 110 = .ok (.aload_n 0, 1) := by decide +kernel
theorem d_Wa_explore_111 : decode Y_Wa_explore.2.1 111 = .ok (.getfield 35, 3) := by decide +kernel
theorem d_Wa_explore_114 : decode Y_Wa_explore.2.1 114 = .ok (.iload_n 2, 1) := by decide +kernel
theorem d_Wa_explore_115 : decode Y_Wa_explore.2.1 115 = .ok (.iload_n 1, 1) := by decide +kernel
theorem d_Wa_explore_116 : decode Y_Wa_explore.2.1 116 = .ok (.invokevirtual 59, 3) := by decide +kernel
theorem d_Wa_explore_119 : decode Y_Wa_explore.2.1 119 = .ok (.ifCond .eq 14, 3) := by decide +kernel
theorem d_Wa_explore_122 : decode Y_Wa_explore.2.1 122 = .ok (.aload_n 0, 1) := by decide +kernel
theorem d_Wa_explore_123 : decode Y_Wa_explore.2.1 123 = .ok (.iload_n 1, 1) := by decide +kernel
theorem d_Wa_explore_124 : decode Y_Wa_explore.2.1 124 = .ok (.iload_n 3, 1) := by decide +kernel
theorem d_Wa_explore_125 : decode Y_Wa_explore.2.1 125 = .ok (.invokevirtual 63, 3) := by decide +kernel
theorem d_Wa_explore_128 : decode Y_Wa_explore.2.1 128 = .ok (.ifCond .ne 5, 3) := by decide +kernel
theorem d_Wa_explore_131 : decode Y_Wa_explore.2.1 131 = .ok (.iconst 0, 1) := by decide +kernel
theorem d_Wa_explore_132 : decode Y_Wa_explore.2.1 132 = .ok (.ireturn, 1) := by decide +kernel
theorem d_Wa_explore_133 : decode Y_Wa_explore.2.1 133 = .ok (.iinc 2 1, 3) := by decide +kernel
theorem d_Wa_explore_136 : decode Y_Wa_explore.2.1 136 = .ok (.goto (-56), 3) := by decide +kernel
theorem d_Wa_explore_139 : decode Y_Wa_explore.2.1 139 = .ok (.iinc 1 1, 3) := by decide +kernel
theorem d_Wa_explore_142 : decode Y_Wa_explore.2.1 142 = .ok (.goto (-115), 3) := by decide +kernel
theorem d_Wa_explore_145 : decode Y_Wa_explore.2.1 145 = .ok (.aload_n 0, 1) := by decide +kernel
theorem d_Wa_explore_146 : decode Y_Wa_explore.2.1 146 = .ok (.getfield 45, 3) := by decide +kernel
theorem d_Wa_explore_149 : decode Y_Wa_explore.2.1 149 = .ok (.iconst (-1), 1) := by decide +kernel
theorem d_Wa_explore_150 : decode Y_Wa_explore.2.1 150 = .ok (.if_icmp .eq 7, 3) := by decide +kernel
theorem d_Wa_explore_153 : decode Y_Wa_explore.2.1 153 = .ok (.iconst 1, 1) := by decide +kernel
theorem d_Wa_explore_154 : decode Y_Wa_explore.2.1 154 = .ok (.goto 4, 3) := by decide +kernel
theorem d_Wa_explore_157 : decode Y_Wa_explore.2.1 157 = .ok (.iconst 0, 1) := by decide +kernel
theorem d_Wa_explore_158 : decode Y_Wa_explore.2.1 158 = .ok (.ireturn, 1) := by decide +kernel
theorem d_X_explored_0 : decode Y_X_explored.2.1 0 = .ok (.aload_n 0, 1) := by decide +kernel
theorem d_X_explored_1 : decode Y_X_explored.2.1 1 = .ok (.getfield 332, 3) := by decide +kernel
theorem d_X_explored_4 : decode Y_X_explored.2.1 4 = .ok (.ifnonnull 18, 3) := by decide +kernel
theorem d_X_explored_7 : decode Y_X_explored.2.1 7 = .ok (.aload_n 0, 1) := by decide +kernel
theorem d_X_explored_8 : decode Y_X_explored.2.1 8 = .ok (.new 151, 3) := by decide +kernel
theorem d_X_explored_11 : decode Y_X_explored.2.1 11 = .ok (.dup, 1) := by decide +kernel
theorem d_X_explored_12 : decode Y_X_explored.2.1 12 = .ok (.aload_n 0, 1) := by decide +kernel
theorem d_X_explored_13 : decode Y_X_explored.2.1 13 = .ok (.getfield 10, 3) := by decide +kernel
theorem d_X_explored_16 : decode Y_X_explored.2.1 16 = .ok (.invokespecial 336, 3) := by decide +kernel
theorem d_X_explored_19 : decode Y_X_explored.2.1 19 = .ok (.putfield 332, 3) := by decide +kernel
theorem d_X_explored_22 : decode Y_X_explored.2.1 22 = .ok (.aload_n 0, 1) := by decide +kernel
theorem d_X_explored_23 : decode Y_X_explored.2.1 23 = .ok (.getfield 332, 3) := by decide +kernel
theorem d_X_explored_26 : decode Y_X_explored.2.1 26 = .ok (.invokevirtual 337, 3) := by decide +kernel
theorem d_X_explored_29 : decode Y_X_explored.2.1 29 = .ok (.ifCond .eq 10, 3) := by decide +kernel
theorem d_X_explored_32 : decode Y_X_explored.2.1 32 = .ok (.aload_n 0, 1) := by decide +kernel
theorem d_X_explored_33 : decode Y_X_explored.2.1 33 = .ok (.getfield 332, 3) := by decide +kernel
theorem d_X_explored_36 : decode Y_X_explored.2.1 36 = .ok (.goto 4, 3) := by decide +kernel
theorem d_X_explored_39 : decode Y_X_explored.2.1 39 = .ok (.aconst_null, 1) := by decide +kernel
theorem d_X_explored_40 : decode Y_X_explored.2.1 40 = .ok (.areturn, 1) := by decide +kernel
theorem d_Wa_find_0 : decode Y_Wa_find.2.1 0 = .ok (.iconst 0, 1) := by decide +kernel
theorem d_Wa_find_1 : decode Y_Wa_find.2.1 1 = .ok (.istore_n 3, 1) := by decide +kernel
theorem d_Wa_find_2 : decode Y_Wa_find.2.1 2 = .ok (.iload_n 1, 1) := by decide +kernel
theorem d_Wa_find_3 : decode Y_Wa_find.2.1 3 = .ok (.ifCond .lt 49, 3) := by decide +kernel
theorem d_Wa_find_6 : decode Y_Wa_find.2.1 6 = .ok (.iload_n 1, 1) := by decide +kernel
theorem d_Wa_find_7 : decode Y_Wa_find.2.1 7 = .ok (.bipush 24, 2) := by decide +kernel
theorem d_Wa_find_9 : decode Y_Wa_find.2.1 9 = .ok (.if_icmp .ge 43, 3) := by decide +kernel
theorem d_Wa_find_12 : decode Y_Wa_find.2.1 12 = .ok (.iload_n 3, 1) := by decide +kernel
theorem d_Wa_find_13 : decode Y_Wa_find.2.1 13 = .ok (.aload_n 0, 1) := by decide +kernel
theorem d_Wa_find_14 : decode Y_Wa_find.2.1 14 = .ok (.getfield 20, 3) := by decide +kernel
theorem d_Wa_find_17 : decode Y_Wa_find.2.1 17 = .ok (.iload_n 1, 1) := by decide +kernel
theorem d_Wa_find_18 : decode Y_Wa_find.2.1 18 = .ok (.iaload, 1) := by decide +kernel
theorem d_Wa_find_19 : decode Y_Wa_find.2.1 19 = .ok (.if_icmp .ge 33, 3) := by decide +kernel
theorem d_Wa_find_22 : decode Y_Wa_find.2.1 22 = .ok (.aload_n 0, 1) := by decide +kernel
theorem d_Wa_find_23 : decode Y_Wa_find.2.1 23 = .ok (.getfield 13, 3) := by decide +kernel
theorem d_Wa_find_26 : decode Y_Wa_find.2.1 26 = .ok (.iload_n 1, 1) := by decide +kernel
theorem d_Wa_find_27 : decode Y_Wa_find.2.1 27 = .ok (.sipush 300, 3) := by decide +kernel
theorem d_Wa_find_30 : decode Y_Wa_find.2.1 30 = .ok (.imul, 1) := by decide +kernel
theorem d_Wa_find_31 : decode Y_Wa_find.2.1 31 = .ok (.iload_n 3, 1) := by decide +kernel
theorem d_Wa_find_32 : decode Y_Wa_find.2.1 32 = .ok (.iadd, 1) := by decide +kernel
theorem d_Wa_find_33 : decode Y_Wa_find.2.1 33 = .ok (.iaload, 1) := by decide +kernel
theorem d_Wa_find_34 : decode Y_Wa_find.2.1 34 = .ok (.iload_n 2, 1) := by decide +kernel
theorem d_Wa_find_35 : decode Y_Wa_find.2.1 35 = .ok (.if_icmp .ne 11, 3) := by decide +kernel
theorem d_Wa_find_38 : decode Y_Wa_find.2.1 38 = .ok (.iload_n 1, 1) := by decide +kernel
theorem d_Wa_find_39 : decode Y_Wa_find.2.1 39 = .ok (.sipush 300, 3) := by decide +kernel
theorem d_Wa_find_42 : decode Y_Wa_find.2.1 42 = .ok (.imul, 1) := by decide +kernel
theorem d_Wa_find_43 : decode Y_Wa_find.2.1 43 = .ok (.iload_n 3, 1) := by decide +kernel
theorem d_Wa_find_44 : decode Y_Wa_find.2.1 44 = .ok (.iadd, 1) := by decide +kernel
theorem d_Wa_find_45 : decode Y_Wa_find.2.1 45 = .ok (.ireturn, 1) := by decide +kernel
theorem d_Wa_find_46 : decode Y_Wa_find.2.1 46 = .ok (.iinc 3 1, 3) := by decide +kernel
theorem d_Wa_find_49 : decode Y_Wa_find.2.1 49 = .ok (.goto (-47), 3) := by decide +kernel
theorem d_Wa_find_52 : decode Y_Wa_find.2.1 52 = .ok (.iconst (-1), 1) := by decide +kernel
theorem d_Wa_find_53 : decode Y_Wa_find.2.1 53 = .ok (.ireturn, 1) := by decide +kernel
theorem d_Wa_price_0 : decode Y_Wa_price.2.1 0 = .ok (.iconst 1, 1) := by decide +kernel
theorem d_Wa_price_1 : decode Y_Wa_price.2.1 1 = .ok (.istore_n 2, 1) := by decide +kernel
theorem d_Wa_price_2 : decode Y_Wa_price.2.1 2 = .ok (.iload_n 2, 1) := by decide +kernel
theorem d_Wa_price_3 : decode Y_Wa_price.2.1 3 = .ok (.aload_n 0, 1) := by decide +kernel
theorem d_Wa_price_4 : decode Y_Wa_price.2.1 4 = .ok (.getfield 45, 3) := by decide +kernel
theorem d_Wa_price_7 : decode Y_Wa_price.2.1 7 = .ok (.if_icmp .gt 124, 3) := by decide +kernel
theorem d_Wa_price_10 : decode Y_Wa_price.2.1 10 = .ok (.iconst 0, 1) := by decide +kernel
theorem d_Wa_price_11 : decode Y_Wa_price.2.1 11 = .ok (.istore_n 3, 1) := by decide +kernel
theorem d_Wa_price_12 : decode Y_Wa_price.2.1 12 = .ok (.iload_n 3, 1) := by decide +kernel
theorem d_Wa_price_13 : decode Y_Wa_price.2.1 13 = .ok (.bipush 7, 2) := by decide +kernel
theorem d_Wa_price_15 : decode Y_Wa_price.2.1 15 = .ok (.if_icmp .ge 110, 3) := by decide +kernel
theorem d_Wa_price_18 : decode Y_Wa_price.2.1 18 = .ok (.iload_n 3, 1) := by decide +kernel
theorem d_Wa_price_19 : decode Y_Wa_price.2.1 19 = .ok (.ifCond .ne 7, 3) := by decide +kernel
theorem d_Wa_price_22 : decode Y_Wa_price.2.1 22 = .ok (.iconst (-1), 1) := by decide +kernel
theorem d_Wa_price_23 : decode Y_Wa_price.2.1 23 = .ok (.goto 6, 3) := by decide +kernel
theorem d_Wa_price_26 : decode Y_Wa_price.2.1 26 = .ok (.iload_n 3, 1) := by decide +kernel
theorem d_Wa_price_27 : decode Y_Wa_price.2.1 27 = .ok (.iconst 1, 1) := by decide +kernel
theorem d_Wa_price_28 : decode Y_Wa_price.2.1 28 = .ok (.isub, 1) := by decide +kernel
theorem d_Wa_price_29 : decode Y_Wa_price.2.1 29 = .ok (.istore 4, 2) := by decide +kernel
theorem d_Wa_price_31 : decode Y_Wa_price.2.1 31 = .ok (.ldc 66, 2) := by decide +kernel
theorem d_Wa_price_33 : decode Y_Wa_price.2.1 33 = .ok (.istore 5, 2) := by decide +kernel
theorem d_Wa_price_35 : decode Y_Wa_price.2.1 35 = .ok (.iload_n 3, 1) := by decide +kernel
theorem d_Wa_price_36 : decode Y_Wa_price.2.1 36 = .ok (.ifCond .eq 16, 3) := by decide +kernel
theorem d_Wa_price_39 : decode Y_Wa_price.2.1 39 = .ok (.aload_n 0, 1) := by decide +kernel
theorem d_Wa_price_40 : decode Y_Wa_price.2.1 40 = .ok (.getfield 35, 3) := by decide +kernel
theorem d_Wa_price_43 : decode Y_Wa_price.2.1 43 = .ok (.iload 4, 2) := by decide +kernel
theorem d_Wa_price_45 : decode Y_Wa_price.2.1 45 = .ok (.iload_n 2, 1) := by decide +kernel
theorem d_Wa_price_46 : decode Y_Wa_price.2.1 46 = .ok (.invokevirtual 59, 3) := by decide +kernel
theorem d_Wa_price_49 : decode Y_Wa_price.2.1 49 = .ok (.ifCond .eq 57, 3) := by decide +kernel
theorem d_Wa_price_52 : decode Y_Wa_price.2.1 52 = .ok (.iload 4, 2) := by decide +kernel
theorem d_Wa_price_54 : decode Y_Wa_price.2.1 54 = .ok (.aload_n 0, 1) := by decide +kernel
theorem d_Wa_price_55 : decode Y_Wa_price.2.1 55 = .ok (.getfield 35, 3) := by decide +kernel
theorem d_Wa_price_58 : decode Y_Wa_price.2.1 58 = .ok (.getfield 72, 3) := by decide +kernel
theorem d_Wa_price_61 : decode Y_Wa_price.2.1 61 = .ok (.iload_n 2, 1) := by decide +kernel
theorem d_Wa_price_62 : decode Y_Wa_price.2.1 62 = .ok (.iaload, 1) := by decide +kernel
theorem d_Wa_price_63 : decode Y_Wa_price.2.1 63 = .ok (.if_icmp .ne 7, 3) := by decide +kernel
theorem d_Wa_price_66 : decode Y_Wa_price.2.1 66 = .ok (.iconst 0, 1) := by decide +kernel
theorem d_Wa_price_67 : decode Y_Wa_price.2.1 67 = .ok (.goto 4, 3) := by decide +kernel
theorem d_Wa_price_70 : decode Y_Wa_price.2.1 70 = .ok (.iconst 1, 1) := by decide +kernel
theorem d_Wa_price_71 : decode Y_Wa_price.2.1 71 = .ok (.istore 6, 2) := by decide +kernel
theorem d_Wa_price_73 : decode Y_Wa_price.2.1 73 = .ok (.iload_n 1, 1) := by decide +kernel
theorem d_Wa_price_74 : decode Y_Wa_price.2.1 74 = .ok (.ifCond .eq 8, 3) := by decide +kernel
theorem d_Wa_price_77 : decode Y_Wa_price.2.1 77 = .ok (.iload 6, 2) := by decide +kernel
theorem d_Wa_price_79 : decode Y_Wa_price.2.1 79 = .ok (.goto 25, 3) := by decide +kernel
theorem d_Wa_price_82 : decode Y_Wa_price.2.1 82 = .ok (.aload_n 0, 1) := by decide +kernel
theorem d_Wa_price_83 : decode Y_Wa_price.2.1 83 = .ok (.getfield 35, 3) := by decide +kernel
theorem d_Wa_price_86 : decode Y_Wa_price.2.1 86 = .ok (.iload_n 2, 1) := by decide +kernel
theorem d_Wa_price_87 : decode Y_Wa_price.2.1 87 = .ok (.aload_n 0, 1) := by decide +kernel
theorem d_Wa_price_88 : decode Y_Wa_price.2.1 88 = .ok (.getfield 26, 3) := by decide +kernel
theorem d_Wa_price_91 : decode Y_Wa_price.2.1 91 = .ok (.iload_n 2, 1) := by decide +kernel
theorem d_Wa_price_92 : decode Y_Wa_price.2.1 92 = .ok (.bipush 7, 2) := by decide +kernel
theorem d_Wa_price_94 : decode Y_Wa_price.2.1 94 = .ok (.imul, 1) := by decide +kernel
theorem d_Wa_price_95 : decode Y_Wa_price.2.1 95 = .ok (.iload_n 3, 1) := by decide +kernel
theorem d_Wa_price_96 : decode Y_Wa_price.2.1 96 = .ok (.iadd, 1) := by decide +kernel
theorem d_Wa_price_97 : decode Y_Wa_price.2.1 97 = .ok (.iaload, 1) := by decide +kernel
theorem d_Wa_price_98 : decode Y_Wa_price.2.1 98 = .ok (.invokestatic 75, 3) := by decide +kernel
theorem d_Wa_price_101 : decode Y_Wa_price.2.1 101 = .ok (.invokevirtual 81, 3) := by decide +kernel
theorem d_Wa_price_104 : decode Y_Wa_price.2.1 104 = .ok (.istore 5, 2) := by decide +kernel
theorem d_Wa_price_106 : decode Y_Wa_price.2.1 106 = .ok (.aload_n 0, 1) := by decide +kernel
theorem d_Wa_price_107 : decode Y_Wa_price.2.1 107 = .ok (.getfield 29, 3) := by decide +kernel
theorem d_Wa_price_110 : decode Y_Wa_price.2.1 110 = .ok (.iload_n 2, 1) := by decide +kernel
theorem d_Wa_price_111 : decode Y_Wa_price.2.1 111 = .ok (.bipush 7, 2) := by decide +kernel
theorem d_Wa_price_113 : decode Y_Wa_price.2.1 113 = .ok (.imul, 1) := by decide +kernel
theorem d_Wa_price_114 : decode Y_Wa_price.2.1 114 = .ok (.iload_n 3, 1) := by decide +kernel
theorem d_Wa_price_115 : decode Y_Wa_price.2.1 115 = .ok (.iadd, 1) := by decide +kernel
theorem d_Wa_price_116 : decode Y_Wa_price.2.1 116 = .ok (.iload 5, 2) := by decide +kernel
theorem d_Wa_price_118 : decode Y_Wa_price.2.1 118 = .ok (.iastore, 1) := by decide +kernel
theorem d_Wa_price_119 : decode Y_Wa_price.2.1 119 = .ok (.iinc 3 1, 3) := by decide +kernel
theorem d_Wa_price_122 : decode Y_Wa_price.2.1 122 = .ok (.goto (-110), 3) := by decide +kernel
theorem d_Wa_price_125 : decode Y_Wa_price.2.1 125 = .ok (.iinc 2 1, 3) := by decide +kernel
theorem d_Wa_price_128 : decode Y_Wa_price.2.1 128 = .ok (.goto (-126), 3) := by decide +kernel
theorem d_Wa_price_131 : decode Y_Wa_price.2.1 131 = .ok (.return_, 1) := by decide +kernel
theorem d_Wa_relax_0 : decode Y_Wa_relax.2.1 0 = .ok (.aload_n 0, 1) := by decide +kernel
theorem d_Wa_relax_1 : decode Y_Wa_relax.2.1 1 = .ok (.getfield 29, 3) := by decide +kernel
theorem d_Wa_relax_4 : decode Y_Wa_relax.2.1 4 = .ok (.iload_n 1, 1) := by decide +kernel
theorem d_Wa_relax_5 : decode Y_Wa_relax.2.1 5 = .ok (.bipush 7, 2) := by decide +kernel
theorem d_Wa_relax_7 : decode Y_Wa_relax.2.1 7 = .ok (.imul, 1) := by decide +kernel
theorem d_Wa_relax_8 : decode Y_Wa_relax.2.1 8 = .ok (.iload_n 2, 1) := by decide +kernel
theorem d_Wa_relax_9 : decode Y_Wa_relax.2.1 9 = .ok (.iadd, 1) := by decide +kernel
theorem d_Wa_relax_10 : decode Y_Wa_relax.2.1 10 = .ok (.iaload, 1) := by decide +kernel
theorem d_Wa_relax_11 : decode Y_Wa_relax.2.1 11 = .ok (.istore 4, 2) := by decide +kernel
theorem d_Wa_relax_13 : decode Y_Wa_relax.2.1 13 = .ok (.iconst 0, 1) := by decide +kernel
theorem d_Wa_relax_14 : decode Y_Wa_relax.2.1 14 = .ok (.istore 5, 2) := by decide +kernel
theorem d_Wa_relax_16 : decode Y_Wa_relax.2.1 16 = .ok (.iconst 0, 1) := by decide +kernel
theorem d_Wa_relax_17 : decode Y_Wa_relax.2.1 17 = .ok (.istore 6, 2) := by decide +kernel
theorem d_Wa_relax_19 : decode Y_Wa_relax.2.1 19 = .ok (.iload 6, 2) := by decide +kernel
theorem d_Wa_relax_21 : decode Y_Wa_relax.2.1 21 = .ok (.aload_n 0, 1) := by decide +kernel
theorem d_Wa_relax_22 : decode Y_Wa_relax.2.1 22 = .ok (.getfield 20, 3) := by decide +kernel
theorem d_Wa_relax_25 : decode Y_Wa_relax.2.1 25 = .ok (.iload_n 1, 1) := by decide +kernel
theorem d_Wa_relax_26 : decode Y_Wa_relax.2.1 26 = .ok (.iconst 1, 1) := by decide +kernel
theorem d_Wa_relax_27 : decode Y_Wa_relax.2.1 27 = .ok (.isub, 1) := by decide +kernel
theorem d_Wa_relax_28 : decode Y_Wa_relax.2.1 28 = .ok (.iaload, 1) := by decide +kernel
theorem d_Wa_relax_29 : decode Y_Wa_relax.2.1 29 = .ok (.if_icmp .ge 173, 3) := by decide +kernel
theorem d_Wa_relax_32 : decode Y_Wa_relax.2.1 32 = .ok (.iload 4, 2) := by decide +kernel
theorem d_Wa_relax_34 : decode Y_Wa_relax.2.1 34 = .ok (.ldc 66, 2) := by decide +kernel
theorem d_Wa_relax_36 : decode Y_Wa_relax.2.1 36 = .ok (.if_icmp .eq 166, 3) := by decide +kernel
theorem d_Wa_relax_39 : decode Y_Wa_relax.2.1 39 = .ok (.iload_n 1, 1) := by decide +kernel
theorem d_Wa_relax_40 : decode Y_Wa_relax.2.1 40 = .ok (.iconst 1, 1) := by decide +kernel
theorem d_Wa_relax_41 : decode Y_Wa_relax.2.1 41 = .ok (.isub, 1) := by decide +kernel
theorem d_Wa_relax_42 : decode Y_Wa_relax.2.1 42 = .ok (.sipush 300, 3) := by decide +kernel
theorem d_Wa_relax_45 : decode Y_Wa_relax.2.1 45 = .ok (.imul, 1) := by decide +kernel
theorem d_Wa_relax_46 : decode Y_Wa_relax.2.1 46 = .ok (.iload 6, 2) := by decide +kernel
theorem d_Wa_relax_48 : decode Y_Wa_relax.2.1 48 = .ok (.iadd, 1) := by decide +kernel
theorem d_Wa_relax_49 : decode Y_Wa_relax.2.1 49 = .ok (.istore 7, 2) := by decide +kernel
theorem d_Wa_relax_51 : decode Y_Wa_relax.2.1 51 = .ok (.aload_n 0, 1) := by decide +kernel
theorem d_Wa_relax_52 : decode Y_Wa_relax.2.1 52 = .ok (.getfield 13, 3) := by decide +kernel
theorem d_Wa_relax_55 : decode Y_Wa_relax.2.1 55 = .ok (.iload 7, 2) := by decide +kernel
theorem d_Wa_relax_57 : decode Y_Wa_relax.2.1 57 = .ok (.iaload, 1) := by decide +kernel
theorem d_Wa_relax_58 : decode Y_Wa_relax.2.1 58 = .ok (.aload_n 0, 1) := by decide +kernel
theorem d_Wa_relax_59 : decode Y_Wa_relax.2.1 59 = .ok (.getfield 26, 3) := by decide +kernel
theorem d_Wa_relax_62 : decode Y_Wa_relax.2.1 62 = .ok (.iload_n 1, 1) := by decide +kernel
theorem d_Wa_relax_63 : decode Y_Wa_relax.2.1 63 = .ok (.bipush 7, 2) := by decide +kernel
theorem d_Wa_relax_65 : decode Y_Wa_relax.2.1 65 = .ok (.imul, 1) := by decide +kernel
theorem d_Wa_relax_66 : decode Y_Wa_relax.2.1 66 = .ok (.iload_n 2, 1) := by decide +kernel
theorem d_Wa_relax_67 : decode Y_Wa_relax.2.1 67 = .ok (.iadd, 1) := by decide +kernel
theorem d_Wa_relax_68 : decode Y_Wa_relax.2.1 68 = .ok (.iaload, 1) := by decide +kernel
theorem d_Wa_relax_69 : decode Y_Wa_relax.2.1 69 = .ok (.iadd, 1) := by decide +kernel
theorem d_Wa_relax_70 : decode Y_Wa_relax.2.1 70 = .ok (.istore 8, 2) := by decide +kernel
theorem d_Wa_relax_72 : decode Y_Wa_relax.2.1 72 = .ok (.iload 5, 2) := by decide +kernel
theorem d_Wa_relax_74 : decode Y_Wa_relax.2.1 74 = .ok (.aload_n 0, 1) := by decide +kernel
theorem d_Wa_relax_75 : decode Y_Wa_relax.2.1 75 = .ok (.getfield 20, 3) := by decide +kernel
theorem d_Wa_relax_78 : decode Y_Wa_relax.2.1 78 = .ok (.iload_n 1, 1) := by decide +kernel
theorem d_Wa_relax_79 : decode Y_Wa_relax.2.1 79 = .ok (.iaload, 1) := by decide +kernel
theorem d_Wa_relax_80 : decode Y_Wa_relax.2.1 80 = .ok (.iconst 1, 1) := by decide +kernel
theorem d_Wa_relax_81 : decode Y_Wa_relax.2.1 81 = .ok (.isub, 1) := by decide +kernel
theorem d_Wa_relax_82 : decode Y_Wa_relax.2.1 82 = .ok (.if_icmp .ge 27, 3) := by decide +kernel
theorem d_Wa_relax_85 : decode Y_Wa_relax.2.1 85 = .ok (.aload_n 0, 1) := by decide +kernel
theorem d_Wa_relax_86 : decode Y_Wa_relax.2.1 86 = .ok (.getfield 13, 3) := by decide +kernel
theorem d_Wa_relax_89 : decode Y_Wa_relax.2.1 89 = .ok (.iload_n 1, 1) := by decide +kernel
theorem d_Wa_relax_90 : decode Y_Wa_relax.2.1 90 = .ok (.sipush 300, 3) := by decide +kernel
theorem d_Wa_relax_93 : decode Y_Wa_relax.2.1 93 = .ok (.imul, 1) := by decide +kernel
theorem d_Wa_relax_94 : decode Y_Wa_relax.2.1 94 = .ok (.iload 5, 2) := by decide +kernel
theorem d_Wa_relax_96 : decode Y_Wa_relax.2.1 96 = .ok (.iadd, 1) := by decide +kernel
theorem d_Wa_relax_97 : decode Y_Wa_relax.2.1 97 = .ok (.iaload, 1) := by decide +kernel
theorem d_Wa_relax_98 : decode Y_Wa_relax.2.1 98 = .ok (.iload 8, 2) := by decide +kernel
theorem d_Wa_relax_100 : decode Y_Wa_relax.2.1 100 = .ok (.if_icmp .ge 9, 3) := by decide +kernel
theorem d_Wa_relax_103 : decode Y_Wa_relax.2.1 103 = .ok (.iinc 5 1, 3) := by decide +kernel
theorem d_Wa_relax_106 : decode Y_Wa_relax.2.1 106 = .ok (.goto (-34), 3) := by decide +kernel
theorem d_Wa_relax_109 : decode Y_Wa_relax.2.1 109 = .ok (.iload_n 1, 1) := by decide +kernel
theorem d_Wa_relax_110 : decode Y_Wa_relax.2.1 110 = .ok (.sipush 300, 3) := by decide +kernel
theorem d_Wa_relax_113 : decode Y_Wa_relax.2.1 113 = .ok (.imul, 1) := by decide +kernel
theorem d_Wa_relax_114 : decode Y_Wa_relax.2.1 114 = .ok (.iload 5, 2) := by decide +kernel
theorem d_Wa_relax_116 : decode Y_Wa_relax.2.1 116 = .ok (.iadd, 1) := by decide +kernel
theorem d_Wa_relax_117 : decode Y_Wa_relax.2.1 117 = .ok (.istore 9, 2) := by decide +kernel
theorem d_Wa_relax_119 : decode Y_Wa_relax.2.1 119 = .ok (.iload_n 3, 1) := by decide +kernel
theorem d_Wa_relax_120 : decode Y_Wa_relax.2.1 120 = .ok (.ifCond .eq 8, 3) := by decide +kernel
theorem d_Wa_relax_123 : decode Y_Wa_relax.2.1 123 = .ok (.iload 7, 2) := by decide +kernel
theorem d_Wa_relax_125 : decode Y_Wa_relax.2.1 125 = .ok (.goto 5, 3) := by decide +kernel
theorem d_Wa_relax_128 : decode Y_Wa_relax.2.1 128 = .ok (.iload 9, 2) := by decide +kernel
theorem d_Wa_relax_130 : decode Y_Wa_relax.2.1 130 = .ok (.istore 10, 2) := by decide +kernel
theorem d_Wa_relax_132 : decode Y_Wa_relax.2.1 132 = .ok (.iload_n 3, 1) := by decide +kernel
theorem d_Wa_relax_133 : decode Y_Wa_relax.2.1 133 = .ok (.ifCond .eq 8, 3) := by decide +kernel
theorem d_Wa_relax_136 : decode Y_Wa_relax.2.1 136 = .ok (.iload 9, 2) := by decide +kernel
theorem d_Wa_relax_138 : decode Y_Wa_relax.2.1 138 = .ok (.goto 5, 3) := by decide +kernel
theorem d_Wa_relax_141 : decode Y_Wa_relax.2.1 141 = .ok (.iload 7, 2) := by decide +kernel
theorem d_Wa_relax_143 : decode Y_Wa_relax.2.1 143 = .ok (.istore 11, 2) := by decide +kernel
theorem d_Wa_relax_145 : decode Y_Wa_relax.2.1 145 = .ok (.aload_n 0, 1) := by decide +kernel
theorem d_Wa_relax_146 : decode Y_Wa_relax.2.1 146 = .ok (.getfield 13, 3) := by decide +kernel
theorem d_Wa_relax_149 : decode Y_Wa_relax.2.1 149 = .ok (.iload 9, 2) := by decide +kernel
theorem d_Wa_relax_151 : decode Y_Wa_relax.2.1 151 = .ok (.iaload, 1) := by decide +kernel
theorem d_Wa_relax_152 : decode Y_Wa_relax.2.1 152 = .ok (.iload 8, 2) := by decide +kernel
theorem d_Wa_relax_154 : decode Y_Wa_relax.2.1 154 = .ok (.if_icmp .ne 42, 3) := by decide +kernel
theorem d_Wa_relax_157 : decode Y_Wa_relax.2.1 157 = .ok (.aload_n 0, 1) := by decide +kernel
theorem d_Wa_relax_158 : decode Y_Wa_relax.2.1 158 = .ok (.getfield 17, 3) := by decide +kernel
theorem d_Wa_relax_161 : decode Y_Wa_relax.2.1 161 = .ok (.iload 10, 2) := by decide +kernel
theorem d_Wa_relax_163 : decode Y_Wa_relax.2.1 163 = .ok (.iaload, 1) := by decide +kernel
theorem d_Wa_relax_164 : decode Y_Wa_relax.2.1 164 = .ok (.ldc 66, 2) := by decide +kernel
theorem d_Wa_relax_166 : decode Y_Wa_relax.2.1 166 = .ok (.if_icmp .eq 30, 3) := by decide +kernel
theorem d_Wa_relax_169 : decode Y_Wa_relax.2.1 169 = .ok (.aload_n 0, 1) := by decide +kernel
theorem d_Wa_relax_170 : decode Y_Wa_relax.2.1 170 = .ok (.getfield 17, 3) := by decide +kernel
theorem d_Wa_relax_173 : decode Y_Wa_relax.2.1 173 = .ok (.iload 11, 2) := by decide +kernel
theorem d_Wa_relax_175 : decode Y_Wa_relax.2.1 175 = .ok (.aload_n 0, 1) := by decide +kernel
theorem d_Wa_relax_176 : decode Y_Wa_relax.2.1 176 = .ok (.getfield 17, 3) := by decide +kernel
theorem d_Wa_relax_179 : decode Y_Wa_relax.2.1 179 = .ok (.iload 11, 2) := by decide +kernel
theorem d_Wa_relax_181 : decode Y_Wa_relax.2.1 181 = .ok (.iaload, 1) := by decide +kernel
theorem d_Wa_relax_182 : decode Y_Wa_relax.2.1 182 = .ok (.aload_n 0, 1) := by decide +kernel
theorem d_Wa_relax_183 : decode Y_Wa_relax.2.1 183 = .ok (.getfield 17, 3) := by decide +kernel
theorem d_Wa_relax_186 : decode Y_Wa_relax.2.1 186 = .ok (.iload 10, 2) := by decide +kernel
theorem d_Wa_relax_188 : decode Y_Wa_relax.2.1 188 = .ok (.iaload, 1) := by decide +kernel
theorem d_Wa_relax_189 : decode Y_Wa_relax.2.1 189 = .ok (.iload 4, 2) := by decide +kernel
theorem d_Wa_relax_191 : decode Y_Wa_relax.2.1 191 = .ok (.iadd, 1) := by decide +kernel
theorem d_Wa_relax_192 : decode Y_Wa_relax.2.1 192 = .ok (.invokestatic 67, 3) := by decide +kernel
theorem d_Wa_relax_195 : decode Y_Wa_relax.2.1 195 = .ok (.iastore, 1) := by decide +kernel
theorem d_Wa_relax_196 : decode Y_Wa_relax.2.1 196 = .ok (.iinc 6 1, 3) := by decide +kernel
theorem d_Wa_relax_199 : decode Y_Wa_relax.2.1 199 = .ok (.goto (-180), 3) := by decide +kernel
theorem d_Wa_relax_202 : decode Y_Wa_relax.2.1 202 = .ok (.return_, 1) := by decide +kernel
theorem d_Wa_follow_0 : decode Y_Wa_follow.2.1 0 = .ok (.iconst 0, 1) := by decide +kernel
theorem d_Wa_follow_1 : decode Y_Wa_follow.2.1 1 = .ok (.istore_n 1, 1) := by decide +kernel
theorem d_Wa_follow_2 : decode Y_Wa_follow.2.1 2 = .ok (.aload_n 0, 1) := by decide +kernel
theorem d_Wa_follow_3 : decode Y_Wa_follow.2.1 3 = .ok (.getfield 32, 3) := by decide +kernel
theorem d_Wa_follow_6 : decode Y_Wa_follow.2.1 6 = .ok (.iconst (-1), 1) := by decide +kernel
theorem d_Wa_follow_7 : decode Y_Wa_follow.2.1 7 = .ok (.invokestatic 91, 3) := by decide +kernel
theorem d_Wa_follow_10 : decode Y_Wa_follow.2.1 10 = .ok (.iconst 1, 1) := by decide +kernel
theorem d_Wa_follow_11 : decode Y_Wa_follow.2.1 11 = .ok (.istore_n 2, 1) := by decide +kernel
theorem d_Wa_follow_12 : decode Y_Wa_follow.2.1 12 = .ok (.iload_n 2, 1) := by decide +kernel
theorem d_Wa_follow_13 : decode Y_Wa_follow.2.1 13 = .ok (.aload_n 0, 1) := by decide +kernel
theorem d_Wa_follow_14 : decode Y_Wa_follow.2.1 14 = .ok (.getfield 45, 3) := by decide +kernel
theorem d_Wa_follow_17 : decode Y_Wa_follow.2.1 17 = .ok (.if_icmp .gt 151, 3) := by decide +kernel
theorem d_Wa_follow_20 : decode Y_Wa_follow.2.1 20 = .ok (.iconst (-1), 1) := by decide +kernel
theorem d_Wa_follow_21 : decode Y_Wa_follow.2.1 21 = .ok (.istore_n 3, 1) := by decide +kernel
theorem d_Wa_follow_22 : decode Y_Wa_follow.2.1 22 = .ok (.iconst 0, 1) := by decide +kernel
theorem d_Wa_follow_23 : decode Y_Wa_follow.2.1 23 = .ok (.istore 4, 2) := by decide +kernel
theorem d_Wa_follow_25 : decode Y_Wa_follow.2.1 25 = .ok (.iload 4, 2) := by decide +kernel
theorem d_Wa_follow_27 : decode Y_Wa_follow.2.1 27 = .ok (.bipush 7, 2) := by decide +kernel
theorem d_Wa_follow_29 : decode Y_Wa_follow.2.1 29 = .ok (.if_icmp .ge 124, 3) := by decide +kernel
theorem d_Wa_follow_32 : decode Y_Wa_follow.2.1 32 = .ok (.iload_n 3, 1) := by decide +kernel
theorem d_Wa_follow_33 : decode Y_Wa_follow.2.1 33 = .ok (.iconst (-1), 1) := by decide +kernel
theorem d_Wa_follow_34 : decode Y_Wa_follow.2.1 34 = .ok (.if_icmp .ne 119, 3) := by decide +kernel
theorem d_Wa_follow_37 : decode Y_Wa_follow.2.1 37 = .ok (.aload_n 0, 1) := by decide +kernel
theorem d_Wa_follow_38 : decode Y_Wa_follow.2.1 38 = .ok (.getfield 29, 3) := by decide +kernel
theorem d_Wa_follow_41 : decode Y_Wa_follow.2.1 41 = .ok (.iload_n 2, 1) := by decide +kernel
theorem d_Wa_follow_42 : decode Y_Wa_follow.2.1 42 = .ok (.bipush 7, 2) := by decide +kernel
theorem d_Wa_follow_44 : decode Y_Wa_follow.2.1 44 = .ok (.imul, 1) := by decide +kernel
theorem d_Wa_follow_45 : decode Y_Wa_follow.2.1 45 = .ok (.iload 4, 2) := by decide +kernel
theorem d_Wa_follow_47 : decode Y_Wa_follow.2.1 47 = .ok (.iadd, 1) := by decide +kernel
theorem d_Wa_follow_48 : decode Y_Wa_follow.2.1 48 = .ok (.iaload, 1) := by decide +kernel
theorem d_Wa_follow_49 : decode Y_Wa_follow.2.1 49 = .ok (.istore 5, 2) := by decide +kernel
theorem d_Wa_follow_51 : decode Y_Wa_follow.2.1 51 = .ok (.iload 5, 2) := by decide +kernel
theorem d_Wa_follow_53 : decode Y_Wa_follow.2.1 53 = .ok (.ldc 66, 2) := by decide +kernel
theorem d_Wa_follow_55 : decode Y_Wa_follow.2.1 55 = .ok (.if_icmp .ne 7, 3) := by decide +kernel
theorem d_Wa_follow_58 : decode Y_Wa_follow.2.1 58 = .ok (.iconst (-1), 1) := by decide +kernel
theorem d_Wa_follow_59 : decode Y_Wa_follow.2.1 59 = .ok (.goto 27, 3) := by decide +kernel
theorem d_Wa_follow_62 : decode Y_Wa_follow.2.1 62 = .ok (.aload_n 0, 1) := by decide +kernel
theorem d_Wa_follow_63 : decode Y_Wa_follow.2.1 63 = .ok (.iload_n 2, 1) := by decide +kernel
theorem d_Wa_follow_64 : decode Y_Wa_follow.2.1 64 = .ok (.aload_n 0, 1) := by decide +kernel
theorem d_Wa_follow_65 : decode Y_Wa_follow.2.1 65 = .ok (.getfield 13, 3) := by decide +kernel
theorem d_Wa_follow_68 : decode Y_Wa_follow.2.1 68 = .ok (.iload_n 1, 1) := by decide +kernel
theorem d_Wa_follow_69 : decode Y_Wa_follow.2.1 69 = .ok (.iaload, 1) := by decide +kernel
theorem d_Wa_follow_70 : decode Y_Wa_follow.2.1 70 = .ok (.aload_n 0, 1) := by decide +kernel
theorem d_Wa_follow_71 : decode Y_Wa_follow.2.1 71 = .ok (.getfield 26, 3) := by decide +kernel
theorem d_Wa_follow_74 : decode Y_Wa_follow.2.1 74 = .ok (.iload_n 2, 1) := by decide +kernel
theorem d_Wa_follow_75 : decode Y_Wa_follow.2.1 75 = .ok (.bipush 7, 2) := by decide +kernel
theorem d_Wa_follow_77 : decode Y_Wa_follow.2.1 77 = .ok (.imul, 1) := by decide +kernel
theorem d_Wa_follow_78 : decode Y_Wa_follow.2.1 78 = .ok (.iload 4, 2) := by decide +kernel
theorem d_Wa_follow_80 : decode Y_Wa_follow.2.1 80 = .ok (.iadd, 1) := by decide +kernel
theorem d_Wa_follow_81 : decode Y_Wa_follow.2.1 81 = .ok (.iaload, 1) := by decide +kernel
theorem d_Wa_follow_82 : decode Y_Wa_follow.2.1 82 = .ok (.iadd, 1) := by decide +kernel
theorem d_Wa_follow_83 : decode Y_Wa_follow.2.1 83 = .ok (.invokevirtual 84, 3) := by decide +kernel
theorem d_Wa_follow_86 : decode Y_Wa_follow.2.1 86 = .ok (.istore 6, 2) := by decide +kernel
theorem d_Wa_follow_88 : decode Y_Wa_follow.2.1 88 = .ok (.iload 6, 2) := by decide +kernel
theorem d_Wa_follow_90 : decode Y_Wa_follow.2.1 90 = .ok (.iconst (-1), 1) := by decide +kernel
theorem d_Wa_follow_91 : decode Y_Wa_follow.2.1 91 = .ok (.if_icmp .eq 56, 3) := by decide +kernel
theorem d_Wa_follow_94 : decode Y_Wa_follow.2.1 94 = .ok (.aload_n 0, 1) := by decide +kernel
theorem d_Wa_follow_95 : decode Y_Wa_follow.2.1 95 = .ok (.getfield 17, 3) := by decide +kernel
theorem d_Wa_follow_98 : decode Y_Wa_follow.2.1 98 = .ok (.iload 6, 2) := by decide +kernel
theorem d_Wa_follow_100 : decode Y_Wa_follow.2.1 100 = .ok (.iaload, 1) := by decide +kernel
theorem d_Wa_follow_101 : decode Y_Wa_follow.2.1 101 = .ok (.ldc 66, 2) := by decide +kernel
theorem d_Wa_follow_103 : decode Y_Wa_follow.2.1 103 = .ok (.if_icmp .eq 44, 3) := by decide +kernel
theorem d_Wa_follow_106 : decode Y_Wa_follow.2.1 106 = .ok (.aload_n 0, 1) := by decide +kernel
theorem d_Wa_follow_107 : decode Y_Wa_follow.2.1 107 = .ok (.getfield 17, 3) := by decide +kernel
theorem d_Wa_follow_110 : decode Y_Wa_follow.2.1 110 = .ok (.iload_n 1, 1) := by decide +kernel
theorem d_Wa_follow_111 : decode Y_Wa_follow.2.1 111 = .ok (.iaload, 1) := by decide +kernel
theorem d_Wa_follow_112 : decode Y_Wa_follow.2.1 112 = .ok (.iload 5, 2) := by decide +kernel
theorem d_Wa_follow_114 : decode Y_Wa_follow.2.1 114 = .ok (.aload_n 0, 1) := by decide +kernel
theorem d_Wa_follow_115 : decode Y_Wa_follow.2.1 115 = .ok (.getfield 17, 3) := by decide +kernel
theorem d_Wa_follow_118 : decode Y_Wa_follow.2.1 118 = .ok (.iload 6, 2) := by decide +kernel
theorem d_Wa_follow_120 : decode Y_Wa_follow.2.1 120 = .ok (.iaload, 1) := by decide +kernel
theorem d_Wa_follow_121 : decode Y_Wa_follow.2.1 121 = .ok (.iadd, 1) := by decide +kernel
theorem d_Wa_follow_122 : decode Y_Wa_follow.2.1 122 = .ok (.if_icmp .ne 25, 3) := by decide +kernel
theorem d_Wa_follow_125 : decode Y_Wa_follow.2.1 125 = .ok (.iload 6, 2) := by decide +kernel
theorem d_Wa_follow_127 : decode Y_Wa_follow.2.1 127 = .ok (.istore_n 3, 1) := by decide +kernel
theorem d_Wa_follow_128 : decode Y_Wa_follow.2.1 128 = .ok (.aload_n 0, 1) := by decide +kernel
theorem d_Wa_follow_129 : decode Y_Wa_follow.2.1 129 = .ok (.getfield 32, 3) := by decide +kernel
theorem d_Wa_follow_132 : decode Y_Wa_follow.2.1 132 = .ok (.iload_n 2, 1) := by decide +kernel
theorem d_Wa_follow_133 : decode Y_Wa_follow.2.1 133 = .ok (.iload 4, 2) := by decide +kernel
theorem d_Wa_follow_135 : decode Y_Wa_follow.2.1 135 = .ok (.ifCond .ne 7, 3) := by decide +kernel
theorem d_Wa_follow_138 : decode Y_Wa_follow.2.1 138 = .ok (.iconst (-1), 1) := by decide +kernel
theorem d_Wa_follow_139 : decode Y_Wa_follow.2.1 139 = .ok (.goto 7, 3) := by decide +kernel
theorem d_Wa_follow_142 : decode Y_Wa_follow.2.1 142 = .ok (.iload 4, 2) := by decide +kernel
theorem d_Wa_follow_144 : decode Y_Wa_follow.2.1 144 = .ok (.iconst 1, 1) := by decide +kernel
theorem d_Wa_follow_145 : decode Y_Wa_follow.2.1 145 = .ok (.isub, 1) := by decide +kernel
theorem d_Wa_follow_146 : decode Y_Wa_follow.2.1 146 = .ok (.iastore, 1) := by decide +kernel
theorem d_Wa_follow_147 : decode Y_Wa_follow.2.1 147 = .ok (.iinc 4 1, 3) := by decide +kernel
theorem d_Wa_follow_150 : decode Y_Wa_follow.2.1 150 = .ok (.goto (-125), 3) := by decide +kernel
theorem d_Wa_follow_153 : decode Y_Wa_follow.2.1 153 = .ok (.iload_n 3, 1) := by decide +kernel
theorem d_Wa_follow_154 : decode Y_Wa_follow.2.1 154 = .ok (.iconst (-1), 1) := by decide +kernel
theorem d_Wa_follow_155 : decode Y_Wa_follow.2.1 155 = .ok (.if_icmp .ne 5, 3) := by decide +kernel
theorem d_Wa_follow_158 : decode Y_Wa_follow.2.1 158 = .ok (.iconst 0, 1) := by decide +kernel
theorem d_Wa_follow_159 : decode Y_Wa_follow.2.1 159 = .ok (.ireturn, 1) := by decide +kernel
theorem d_Wa_follow_160 : decode Y_Wa_follow.2.1 160 = .ok (.iload_n 3, 1) := by decide +kernel
theorem d_Wa_follow_161 : decode Y_Wa_follow.2.1 161 = .ok (.istore_n 1, 1) := by decide +kernel
theorem d_Wa_follow_162 : decode Y_Wa_follow.2.1 162 = .ok (.iinc 2 1, 3) := by decide +kernel
theorem d_Wa_follow_165 : decode Y_Wa_follow.2.1 165 = .ok (.goto (-153), 3) := by decide +kernel
theorem d_Wa_follow_168 : decode Y_Wa_follow.2.1 168 = .ok (.iconst 1, 1) := by decide +kernel
theorem d_Wa_follow_169 : decode Y_Wa_follow.2.1 169 = .ok (.ireturn, 1) := by decide +kernel
