theorem dX6_does_334 : decode cX6_does 334 = .ok (.goto 4, 3) := by decide +kernel
theorem dX6_does_337 : decode cX6_does 337 = .ok (.iconst 0, 1) := by decide +kernel
theorem dX6_does_338 : decode cX6_does 338 = .ok (.ireturn, 1) := by decide +kernel
theorem dX6_does_339 : decode cX6_does 339 = .ok (.iconst 0, 1) := by decide +kernel
theorem dX6_does_340 : decode cX6_does 340 = .ok (.ireturn, 1) := by decide +kernel
theorem dX6_longPower_0 : decode cX6_longPower 0 = .ok (.lconst 1, 1) := by decide +kernel
theorem dX6_longPower_1 : decode cX6_longPower 1 = .ok (.lstore_n 3, 1) := by decide +kernel
theorem dX6_longPower_2 : decode cX6_longPower 2 = .ok (.iconst 0, 1) := by decide +kernel
theorem dX6_longPower_3 : decode cX6_longPower 3 = .ok (.istore 5, 2) := by decide +kernel
theorem dX6_longPower_5 : decode cX6_longPower 5 = .ok (.iload 5, 2) := by decide +kernel
theorem dX6_longPower_7 : decode cX6_longPower 7 = .ok (.iload_n 2, 1) := by decide +kernel
theorem dX6_longPower_8 : decode cX6_longPower 8 = .ok (.if_icmp .ge 13, 3) := by decide +kernel
theorem dX6_longPower_11 : decode cX6_longPower 11 = .ok (.lload_n 3, 1) := by decide +kernel
theorem dX6_longPower_12 : decode cX6_longPower 12 = .ok (.lload_n 0, 1) := by decide +kernel
theorem dX6_longPower_13 : decode cX6_longPower 13 = .ok (.lmul, 1) := by decide +kernel
theorem dX6_longPower_14 : decode cX6_longPower 14 = .ok (.lstore_n 3, 1) := by decide +kernel
theorem dX6_longPower_15 : decode cX6_longPower 15 = .ok (.iinc 5 1, 3) := by decide +kernel
theorem dX6_longPower_18 : decode cX6_longPower 18 = .ok (.goto (-13), 3) := by decide +kernel
theorem dX6_longPower_21 : decode cX6_longPower 21 = .ok (.lload_n 3, 1) := by decide +kernel
theorem dX6_longPower_22 : decode cX6_longPower 22 = .ok (.lreturn, 1) := by decide +kernel
theorem dX6_judge_0 : decode cX6_judge 0 = .ok (.aload_n 0, 1) := by decide +kernel
theorem dX6_judge_1 : decode cX6_judge 1 = .ok (.iconst 0, 1) := by decide +kernel
theorem dX6_judge_2 : decode cX6_judge 2 = .ok (.putfield 48, 3) := by decide +kernel
theorem dX6_judge_5 : decode cX6_judge 5 = .ok (.iload_n 1, 1) := by decide +kernel
theorem dX6_judge_6 : decode cX6_judge 6 = .ok (.i2l, 1) := by decide +kernel
theorem dX6_judge_7 : decode cX6_judge 7 = .ok (.lconst 1, 1) := by decide +kernel
theorem dX6_judge_8 : decode cX6_judge 8 = .ok (.ldc2_w 209, 3) := by decide +kernel
theorem dX6_judge_11 : decode cX6_judge 11 = .ok (.invokestatic 58, 3) := by decide +kernel
theorem dX6_judge_14 : decode cX6_judge 14 = .ok (.ifCond .eq 20, 3) := by decide +kernel
theorem dX6_judge_17 : decode cX6_judge 17 = .ok (.lload_n 2, 1) := by decide +kernel
theorem dX6_judge_18 : decode cX6_judge 18 = .ok (.lconst 0, 1) := by decide +kernel
theorem dX6_judge_19 : decode cX6_judge 19 = .ok (.ldc2_w 211, 3) := by decide +kernel
theorem dX6_judge_22 : decode cX6_judge 22 = .ok (.iload_n 1, 1) := by decide +kernel
theorem dX6_judge_23 : decode cX6_judge 23 = .ok (.invokestatic 213, 3) := by decide +kernel
theorem dX6_judge_26 : decode cX6_judge 26 = .ok (.lconst 1, 1) := by decide +kernel
theorem dX6_judge_27 : decode cX6_judge 27 = .ok (.lsub, 1) := by decide +kernel
theorem dX6_judge_28 : decode cX6_judge 28 = .ok (.invokestatic 58, 3) := by decide +kernel
theorem dX6_judge_31 : decode cX6_judge 31 = .ok (.ifCond .ne 6, 3) := by decide +kernel
theorem dX6_judge_34 : decode cX6_judge 34 = .ok (.bipush (-2), 2) := by decide +kernel
theorem dX6_judge_36 : decode cX6_judge 36 = .ok (.ireturn, 1) := by decide +kernel
theorem dX6_judge_37 : decode cX6_judge 37 = .ok (.aload_n 0, 1) := by decide +kernel
theorem dX6_judge_38 : decode cX6_judge 38 = .ok (.invokevirtual 194, 3) := by decide +kernel
theorem dX6_judge_41 : decode cX6_judge 41 = .ok (.iconst 0, 1) := by decide +kernel
theorem dX6_judge_42 : decode cX6_judge 42 = .ok (.istore 4, 2) := by decide +kernel
theorem dX6_judge_44 : decode cX6_judge 44 = .ok (.iload 4, 2) := by decide +kernel
theorem dX6_judge_46 : decode cX6_judge 46 = .ok (.iload_n 1, 1) := by decide +kernel
theorem dX6_judge_47 : decode cX6_judge 47 = .ok (.if_icmp .ge 58, 3) := by decide +kernel
theorem dX6_judge_50 : decode cX6_judge 50 = .ok (.lload_n 2, 1) := by decide +kernel
theorem dX6_judge_51 : decode cX6_judge 51 = .ok (.ldc2_w 211, 3) := by decide +kernel
theorem dX6_judge_54 : decode cX6_judge 54 = .ok (.iload_n 1, 1) := by decide +kernel
theorem dX6_judge_55 : decode cX6_judge 55 = .ok (.iconst 1, 1) := by decide +kernel
theorem dX6_judge_56 : decode cX6_judge 56 = .ok (.isub, 1) := by decide +kernel
theorem dX6_judge_57 : decode cX6_judge 57 = .ok (.iload 4, 2) := by decide +kernel
theorem dX6_judge_59 : decode cX6_judge 59 = .ok (.isub, 1) := by decide +kernel
theorem dX6_judge_60 : decode cX6_judge 60 = .ok (.invokestatic 213, 3) := by decide +kernel
theorem dX6_judge_63 : decode cX6_judge 63 = .ok (.ldiv, 1) := by decide +kernel
theorem dX6_judge_64 : decode cX6_judge 64 = .ok (.ldc2_w 211, 3) := by decide +kernel
theorem dX6_judge_67 : decode cX6_judge 67 = .ok (.lrem, 1) := by decide +kernel
theorem dX6_judge_68 : decode cX6_judge 68 = .ok (.l2i, 1) := by decide +kernel
theorem dX6_judge_69 : decode cX6_judge 69 = .ok (.istore 5, 2) := by decide +kernel
theorem dX6_judge_71 : decode cX6_judge 71 = .ok (.aload_n 0, 1) := by decide +kernel
theorem dX6_judge_72 : decode cX6_judge 72 = .ok (.iload 5, 2) := by decide +kernel
theorem dX6_judge_74 : decode cX6_judge 74 = .ok (.bipush 100, 2) := by decide +kernel
theorem dX6_judge_76 : decode cX6_judge 76 = .ok (.idiv, 1) := by decide +kernel
theorem dX6_judge_77 : decode cX6_judge 77 = .ok (.iload 5, 2) := by decide +kernel
theorem dX6_judge_79 : decode cX6_judge 79 = .ok (.bipush 10, 2) := by decide +kernel
theorem dX6_judge_81 : decode cX6_judge 81 = .ok (.idiv, 1) := by decide +kernel
theorem dX6_judge_82 : decode cX6_judge 82 = .ok (.bipush 10, 2) := by decide +kernel
theorem dX6_judge_84 : decode cX6_judge 84 = .ok (.irem, 1) := by decide +kernel
theorem dX6_judge_85 : decode cX6_judge 85 = .ok (.iload 5, 2) := by decide +kernel
theorem dX6_judge_87 : decode cX6_judge 87 = .ok (.bipush 10, 2) := by decide +kernel
theorem dX6_judge_89 : decode cX6_judge 89 = .ok (.irem, 1) := by decide +kernel
theorem dX6_judge_90 : decode cX6_judge 90 = .ok (.invokevirtual 217, 3) := by decide +kernel
theorem dX6_judge_93 : decode cX6_judge 93 = .ok (.ifCond .ne 6, 3) := by decide +kernel
theorem dX6_judge_96 : decode cX6_judge 96 = .ok (.iload 4, 2) := by decide +kernel
theorem dX6_judge_98 : decode cX6_judge 98 = .ok (.ireturn, 1) := by decide +kernel
theorem dX6_judge_99 : decode cX6_judge 99 = .ok (.iinc 4 1, 3) := by decide +kernel
theorem dX6_judge_102 : decode cX6_judge 102 = .ok (.goto (-58), 3) := by decide +kernel
theorem dX6_judge_105 : decode cX6_judge 105 = .ok (.bipush (-9), 2) := by decide +kernel
theorem dX6_judge_107 : decode cX6_judge 107 = .ok (.ireturn, 1) := by decide +kernel
theorem dX6_see_0 : decode cX6_see 0 = .ok (.aload_n 0, 1) := by decide +kernel
theorem dX6_see_1 : decode cX6_see 1 = .ok (.iconst 0, 1) := by decide +kernel
theorem dX6_see_2 : decode cX6_see 2 = .ok (.putfield 48, 3) := by decide +kernel
theorem dX6_see_5 : decode cX6_see 5 = .ok (.iload_n 1, 1) := by decide +kernel
theorem dX6_see_6 : decode cX6_see 6 = .ok (.i2l, 1) := by decide +kernel
theorem dX6_see_7 : decode cX6_see 7 = .ok (.lconst 0, 1) := by decide +kernel
theorem dX6_see_8 : decode cX6_see 8 = .ok (.ldc2_w 221, 3) := by decide +kernel
theorem dX6_see_11 : decode cX6_see 11 = .ok (.invokestatic 58, 3) := by decide +kernel
theorem dX6_see_14 : decode cX6_see 14 = .ok (.ifCond .eq 25, 3) := by decide +kernel
theorem dX6_see_17 : decode cX6_see 17 = .ok (.iload_n 2, 1) := by decide +kernel
theorem dX6_see_18 : decode cX6_see 18 = .ok (.i2l, 1) := by decide +kernel
theorem dX6_see_19 : decode cX6_see 19 = .ok (.lconst 0, 1) := by decide +kernel
theorem dX6_see_20 : decode cX6_see 20 = .ok (.ldc2_w 189, 3) := by decide +kernel
theorem dX6_see_23 : decode cX6_see 23 = .ok (.invokestatic 58, 3) := by decide +kernel
theorem dX6_see_26 : decode cX6_see 26 = .ok (.ifCond .eq 13, 3) := by decide +kernel
theorem dX6_see_29 : decode cX6_see 29 = .ok (.iload_n 3, 1) := by decide +kernel
theorem dX6_see_30 : decode cX6_see 30 = .ok (.i2l, 1) := by decide +kernel
theorem dX6_see_31 : decode cX6_see 31 = .ok (.lconst 0, 1) := by decide +kernel
theorem dX6_see_32 : decode cX6_see 32 = .ok (.lconst 1, 1) := by decide +kernel
theorem dX6_see_33 : decode cX6_see 33 = .ok (.invokestatic 58, 3) := by decide +kernel
theorem dX6_see_36 : decode cX6_see 36 = .ok (.ifCond .ne 6, 3) := by decide +kernel
theorem dX6_see_39 : decode cX6_see 39 = .ok (.bipush (-2), 2) := by decide +kernel
theorem dX6_see_41 : decode cX6_see 41 = .ok (.ireturn, 1) := by decide +kernel
theorem dX6_see_42 : decode cX6_see 42 = .ok (.aload_n 0, 1) := by decide +kernel
theorem dX6_see_43 : decode cX6_see 43 = .ok (.getfield 223, 3) := by decide +kernel
theorem dX6_see_46 : decode cX6_see 46 = .ok (.bipush 6, 2) := by decide +kernel
theorem dX6_see_48 : decode cX6_see 48 = .ok (.if_icmp .ne 6, 3) := by decide +kernel
theorem dX6_see_51 : decode cX6_see 51 = .ok (.bipush (-4), 2) := by decide +kernel
theorem dX6_see_53 : decode cX6_see 53 = .ok (.ireturn, 1) := by decide +kernel
theorem dX6_see_54 : decode cX6_see 54 = .ok (.aload_n 0, 1) := by decide +kernel
theorem dX6_see_55 : decode cX6_see 55 = .ok (.getfield 39, 3) := by decide +kernel
theorem dX6_see_58 : decode cX6_see 58 = .ok (.aload_n 0, 1) := by decide +kernel
theorem dX6_see_59 : decode cX6_see 59 = .ok (.getfield 223, 3) := by decide +kernel
theorem dX6_see_62 : decode cX6_see 62 = .ok (.iload_n 1, 1) := by decide +kernel
theorem dX6_see_63 : decode cX6_see 63 = .ok (.iastore, 1) := by decide +kernel
theorem dX6_see_64 : decode cX6_see 64 = .ok (.aload_n 0, 1) := by decide +kernel
theorem dX6_see_65 : decode cX6_see 65 = .ok (.getfield 42, 3) := by decide +kernel
theorem dX6_see_68 : decode cX6_see 68 = .ok (.aload_n 0, 1) := by decide +kernel
theorem dX6_see_69 : decode cX6_see 69 = .ok (.getfield 223, 3) := by decide +kernel
theorem dX6_see_72 : decode cX6_see 72 = .ok (.iload_n 2, 1) := by decide +kernel
theorem dX6_see_73 : decode cX6_see 73 = .ok (.iastore, 1) := by decide +kernel
theorem dX6_see_74 : decode cX6_see 74 = .ok (.aload_n 0, 1) := by decide +kernel
theorem dX6_see_75 : decode cX6_see 75 = .ok (.getfield 45, 3) := by decide +kernel
theorem dX6_see_78 : decode cX6_see 78 = .ok (.aload_n 0, 1) := by decide +kernel
theorem dX6_see_79 : decode cX6_see 79 = .ok (.getfield 223, 3) := by decide +kernel
theorem dX6_see_82 : decode cX6_see 82 = .ok (.iload_n 3, 1) := by decide +kernel
theorem dX6_see_83 : decode cX6_see 83 = .ok (.iastore, 1) := by decide +kernel
theorem dX6_see_84 : decode cX6_see 84 = .ok (.aload_n 0, 1) := by decide +kernel
theorem dX6_see_85 : decode cX6_see 85 = .ok (.dup, 1) := by decide +kernel
theorem dX6_see_86 : decode cX6_see 86 = .ok (.getfield 223, 3) := by decide +kernel
theorem dX6_see_89 : decode cX6_see 89 = .ok (.iconst 1, 1) := by decide +kernel
theorem dX6_see_90 : decode cX6_see 90 = .ok (.iadd, 1) := by decide +kernel
theorem dX6_see_91 : decode cX6_see 91 = .ok (.putfield 223, 3) := by decide +kernel
theorem dX6_see_94 : decode cX6_see 94 = .ok (.aload_n 0, 1) := by decide +kernel
theorem dX6_see_95 : decode cX6_see 95 = .ok (.getfield 223, 3) := by decide +kernel
theorem dX6_see_98 : decode cX6_see 98 = .ok (.ireturn, 1) := by decide +kernel
theorem dX6_unsee_0 : decode cX6_unsee 0 = .ok (.aload_n 0, 1) := by decide +kernel
theorem dX6_unsee_1 : decode cX6_unsee 1 = .ok (.iconst 0, 1) := by decide +kernel
theorem dX6_unsee_2 : decode cX6_unsee 2 = .ok (.putfield 48, 3) := by decide +kernel
theorem dX6_unsee_5 : decode cX6_unsee 5 = .ok (.aload_n 0, 1) := by decide +kernel
theorem dX6_unsee_6 : decode cX6_unsee 6 = .ok (.getfield 223, 3) := by decide +kernel
theorem dX6_unsee_9 : decode cX6_unsee 9 = .ok (.istore_n 1, 1) := by decide +kernel
theorem dX6_unsee_10 : decode cX6_unsee 10 = .ok (.aload_n 0, 1) := by decide +kernel
theorem dX6_unsee_11 : decode cX6_unsee 11 = .ok (.iconst 0, 1) := by decide +kernel
theorem dX6_unsee_12 : decode cX6_unsee 12 = .ok (.putfield 223, 3) := by decide +kernel
theorem dX6_unsee_15 : decode cX6_unsee 15 = .ok (.iload_n 1, 1) := by decide +kernel
theorem dX6_unsee_16 : decode cX6_unsee 16 = .ok (.ireturn, 1) := by decide +kernel
theorem dX6_isSo_0 : decode cX6_isSo 0 = .ok (.aload_n 0, 1) := by decide +kernel
theorem dX6_isSo_1 : decode cX6_isSo 1 = .ok (.invokevirtual 194, 3) := by decide +kernel
theorem dX6_isSo_4 : decode cX6_isSo 4 = .ok (.aload_n 0, 1) := by decide +kernel
theorem dX6_isSo_5 : decode cX6_isSo 5 = .ok (.getfield 26, 3) := by decide +kernel
theorem dX6_isSo_8 : decode cX6_isSo 8 = .ok (.bipush 6, 2) := by decide +kernel
theorem dX6_isSo_10 : decode cX6_isSo 10 = .ok (.iload_n 1, 1) := by decide +kernel
theorem dX6_isSo_11 : decode cX6_isSo 11 = .ok (.imul, 1) := by decide +kernel
theorem dX6_isSo_12 : decode cX6_isSo 12 = .ok (.iconst 1, 1) := by decide +kernel
theorem dX6_isSo_13 : decode cX6_isSo 13 = .ok (.iadd, 1) := by decide +kernel
theorem dX6_isSo_14 : decode cX6_isSo 14 = .ok (.iconst 1, 1) := by decide +kernel
theorem dX6_isSo_15 : decode cX6_isSo 15 = .ok (.iastore, 1) := by decide +kernel
theorem dX6_isSo_16 : decode cX6_isSo 16 = .ok (.aload_n 0, 1) := by decide +kernel
theorem dX6_isSo_17 : decode cX6_isSo 17 = .ok (.aload_n 0, 1) := by decide +kernel
theorem dX6_isSo_18 : decode cX6_isSo 18 = .ok (.getfield 26, 3) := by decide +kernel
theorem dX6_isSo_21 : decode cX6_isSo 21 = .ok (.aload_n 0, 1) := by decide +kernel
theorem dX6_isSo_22 : decode cX6_isSo 22 = .ok (.getfield 39, 3) := by decide +kernel
theorem dX6_isSo_25 : decode cX6_isSo 25 = .ok (.iload_n 2, 1) := by decide +kernel
theorem dX6_isSo_26 : decode cX6_isSo 26 = .ok (.iaload, 1) := by decide +kernel
theorem dX6_isSo_27 : decode cX6_isSo 27 = .ok (.invokevirtual 191, 3) := by decide +kernel
theorem dX6_isSo_30 : decode cX6_isSo 30 = .ok (.aload_n 0, 1) := by decide +kernel
theorem dX6_isSo_31 : decode cX6_isSo 31 = .ok (.getfield 26, 3) := by decide +kernel
theorem dX6_isSo_34 : decode cX6_isSo 34 = .ok (.bipush 77, 2) := by decide +kernel
theorem dX6_isSo_36 : decode cX6_isSo 36 = .ok (.iaload, 1) := by decide +kernel
theorem dX6_isSo_37 : decode cX6_isSo 37 = .ok (.aload_n 0, 1) := by decide +kernel
theorem dX6_isSo_38 : decode cX6_isSo 38 = .ok (.getfield 42, 3) := by decide +kernel
theorem dX6_isSo_41 : decode cX6_isSo 41 = .ok (.iload_n 2, 1) := by decide +kernel
theorem dX6_isSo_42 : decode cX6_isSo 42 = .ok (.iaload, 1) := by decide +kernel
theorem dX6_isSo_43 : decode cX6_isSo 43 = .ok (.if_icmp .ne 7, 3) := by decide +kernel
theorem dX6_isSo_46 : decode cX6_isSo 46 = .ok (.iconst 1, 1) := by decide +kernel
theorem dX6_isSo_47 : decode cX6_isSo 47 = .ok (.goto 4, 3) := by decide +kernel
theorem dX6_isSo_50 : decode cX6_isSo 50 = .ok (.iconst 0, 1) := by decide +kernel
theorem dX6_isSo_51 : decode cX6_isSo 51 = .ok (.aload_n 0, 1) := by decide +kernel
theorem dX6_isSo_52 : decode cX6_isSo 52 = .ok (.getfield 45, 3) := by decide +kernel
theorem dX6_isSo_55 : decode cX6_isSo 55 = .ok (.iload_n 2, 1) := by decide +kernel
theorem dX6_isSo_56 : decode cX6_isSo 56 = .ok (.iaload, 1) := by decide +kernel
theorem dX6_isSo_57 : decode cX6_isSo 57 = .ok (.iconst 1, 1) := by decide +kernel
theorem dX6_isSo_58 : decode cX6_isSo 58 = .ok (.if_icmp .ne 7, 3) := by decide +kernel
theorem dX6_isSo_61 : decode cX6_isSo 61 = .ok (.iconst 1, 1) := by decide +kernel
theorem dX6_isSo_62 : decode cX6_isSo 62 = .ok (.goto 4, 3) := by decide +kernel
theorem dX6_isSo_65 : decode cX6_isSo 65 = .ok (.iconst 0, 1) := by decide +kernel
theorem dX6_isSo_66 : decode cX6_isSo 66 = .ok (.if_icmp .ne 7, 3) := by decide +kernel
theorem dX6_isSo_69 : decode cX6_isSo 69 = .ok (.iconst 1, 1) := by decide +kernel
theorem dX6_isSo_70 : decode cX6_isSo 70 = .ok (.goto 4, 3) := by decide +kernel
theorem dX6_isSo_73 : decode cX6_isSo 73 = .ok (.iconst 0, 1) := by decide +kernel
theorem dX6_isSo_74 : decode cX6_isSo 74 = .ok (.ireturn, 1) := by decide +kernel
theorem dX6_which_0 : decode cX6_which 0 = .ok (.aload_n 0, 1) := by decide +kernel
theorem dX6_which_1 : decode cX6_which 1 = .ok (.iconst 0, 1) := by decide +kernel
theorem dX6_which_2 : decode cX6_which 2 = .ok (.putfield 48, 3) := by decide +kernel
theorem dX6_which_5 : decode cX6_which 5 = .ok (.iconst 0, 1) := by decide +kernel
theorem dX6_which_6 : decode cX6_which 6 = .ok (.istore_n 1, 1) := by decide +kernel
theorem dX6_which_7 : decode cX6_which 7 = .ok (.iconst 0, 1) := by decide +kernel
theorem dX6_which_8 : decode cX6_which 8 = .ok (.istore_n 2, 1) := by decide +kernel
theorem dX6_which_9 : decode cX6_which 9 = .ok (.iload_n 2, 1) := by decide +kernel
theorem dX6_which_10 : decode cX6_which 10 = .ok (.aload_n 0, 1) := by decide +kernel
theorem dX6_which_11 : decode cX6_which 11 = .ok (.invokevirtual 54, 3) := by decide +kernel
theorem dX6_which_14 : decode cX6_which 14 = .ok (.if_icmp .ge 81, 3) := by decide +kernel
theorem dX6_which_17 : decode cX6_which 17 = .ok (.aload_n 0, 1) := by decide +kernel
theorem dX6_which_18 : decode cX6_which 18 = .ok (.getfield 23, 3) := by decide +kernel
theorem dX6_which_21 : decode cX6_which 21 = .ok (.bipush 6, 2) := by decide +kernel
theorem dX6_which_23 : decode cX6_which 23 = .ok (.iload_n 2, 1) := by decide +kernel
theorem dX6_which_24 : decode cX6_which 24 = .ok (.imul, 1) := by decide +kernel
theorem dX6_which_25 : decode cX6_which 25 = .ok (.iconst 1, 1) := by decide +kernel
theorem dX6_which_26 : decode cX6_which 26 = .ok (.iadd, 1) := by decide +kernel
theorem dX6_which_27 : decode cX6_which 27 = .ok (.iaload, 1) := by decide +kernel
theorem dX6_which_28 : decode cX6_which 28 = .ok (.ifCond .ne 7, 3) := by decide +kernel
theorem dX6_which_31 : decode cX6_which 31 = .ok (.iconst 1, 1) := by decide +kernel
theorem dX6_which_32 : decode cX6_which 32 = .ok (.goto 4, 3) := by decide +kernel
theorem dX6_which_35 : decode cX6_which 35 = .ok (.iconst 0, 1) := by decide +kernel
theorem dX6_which_36 : decode cX6_which 36 = .ok (.istore_n 3, 1) := by decide +kernel
theorem dX6_which_37 : decode cX6_which 37 = .ok (.iconst 0, 1) := by decide +kernel
theorem dX6_which_38 : decode cX6_which 38 = .ok (.istore 4, 2) := by decide +kernel
theorem dX6_which_40 : decode cX6_which 40 = .ok (.iload 4, 2) := by decide +kernel
theorem dX6_which_42 : decode cX6_which 42 = .ok (.aload_n 0, 1) := by decide +kernel
theorem dX6_which_43 : decode cX6_which 43 = .ok (.getfield 223, 3) := by decide +kernel
theorem dX6_which_46 : decode cX6_which 46 = .ok (.if_icmp .ge 29, 3) := by decide +kernel
theorem dX6_which_49 : decode cX6_which 49 = .ok (.iload_n 3, 1) := by decide +kernel
theorem dX6_which_50 : decode cX6_which 50 = .ok (.ifCond .eq 17, 3) := by decide +kernel
theorem dX6_which_53 : decode cX6_which 53 = .ok (.aload_n 0, 1) := by decide +kernel
theorem dX6_which_54 : decode cX6_which 54 = .ok (.iload_n 2, 1) := by decide +kernel
theorem dX6_which_55 : decode cX6_which 55 = .ok (.iload 4, 2) := by decide +kernel
theorem dX6_which_57 : decode cX6_which 57 = .ok (.invokevirtual 226, 3) := by decide +kernel
theorem dX6_which_60 : decode cX6_which 60 = .ok (.ifCond .eq 7, 3) := by decide +kernel
theorem dX6_which_63 : decode cX6_which 63 = .ok (.iconst 1, 1) := by decide +kernel
theorem dX6_which_64 : decode cX6_which 64 = .ok (.goto 4, 3) := by decide +kernel
theorem dX6_which_67 : decode cX6_which 67 = .ok (.iconst 0, 1) := by decide +kernel
theorem dX6_which_68 : decode cX6_which 68 = .ok (.istore_n 3, 1) := by decide +kernel
theorem dX6_which_69 : decode cX6_which 69 = .ok (.iinc 4 1, 3) := by decide +kernel
theorem dX6_which_72 : decode cX6_which 72 = .ok (.goto (-32), 3) := by decide +kernel
theorem dX6_which_75 : decode cX6_which 75 = .ok (.iload_n 1, 1) := by decide +kernel
theorem dX6_which_76 : decode cX6_which 76 = .ok (.iload_n 3, 1) := by decide +kernel
theorem dX6_which_77 : decode cX6_which 77 = .ok (.ifCond .eq 9, 3) := by decide +kernel
theorem dX6_which_80 : decode cX6_which 80 = .ok (.iconst 1, 1) := by decide +kernel
theorem dX6_which_81 : decode cX6_which 81 = .ok (.iload_n 2, 1) := by decide +kernel
theorem dX6_which_82 : decode cX6_which 82 = .ok (.ishl, 1) := by decide +kernel
theorem dX6_which_83 : decode cX6_which 83 = .ok (.goto 4, 3) := by decide +kernel
theorem dX6_which_86 : decode cX6_which 86 = .ok (.iconst 0, 1) := by decide +kernel
theorem dX6_which_87 : decode cX6_which 87 = .ok (.ior, 1) := by decide +kernel
theorem dX6_which_88 : decode cX6_which 88 = .ok (.istore_n 1, 1) := by decide +kernel
theorem dX6_which_89 : decode cX6_which 89 = .ok (.iinc 2 1, 3) := by decide +kernel
theorem dX6_which_92 : decode cX6_which 92 = .ok (.goto (-83), 3) := by decide +kernel
theorem dX6_which_95 : decode cX6_which 95 = .ok (.iload_n 1, 1) := by decide +kernel
theorem dX6_which_96 : decode cX6_which 96 = .ok (.ireturn, 1) := by decide +kernel
theorem dX6_divisor_0 : decode cX6_divisor 0 = .ok (.iload_n 0, 1) := by decide +kernel
theorem dX6_divisor_1 : decode cX6_divisor 1 = .ok (.ifCond .ge 8, 3) := by decide +kernel
theorem dX6_divisor_4 : decode cX6_divisor 4 = .ok (.iload_n 0, 1) := by decide +kernel
theorem dX6_divisor_5 : decode cX6_divisor 5 = .ok (.ineg, 1) := by decide +kernel
theorem dX6_divisor_6 : decode cX6_divisor 6 = .ok (.goto 4, 3) := by decide +kernel
theorem dX6_divisor_9 : decode cX6_divisor 9 = .ok (.iload_n 0, 1) := by decide +kernel
theorem dX6_divisor_10 : decode cX6_divisor 10 = .ok (.istore_n 2, 1) := by decide +kernel
theorem dX6_divisor_11 : decode cX6_divisor 11 = .ok (.iload_n 1, 1) := by decide +kernel
theorem dX6_divisor_12 : decode cX6_divisor 12 = .ok (.istore_n 3, 1) := by decide +kernel
theorem dX6_divisor_13 : decode cX6_divisor 13 = .ok (.iload_n 3, 1) := by decide +kernel
theorem dX6_divisor_14 : decode cX6_divisor 14 = .ok (.ifCond .eq 16, 3) := by decide +kernel
theorem dX6_divisor_17 : decode cX6_divisor 17 = .ok (.iload_n 2, 1) := by decide +kernel
theorem dX6_divisor_18 : decode cX6_divisor 18 = .ok (.iload_n 3, 1) := by decide +kernel
theorem dX6_divisor_19 : decode cX6_divisor 19 = .ok (.irem, 1) := by decide +kernel
theorem dX6_divisor_20 : decode cX6_divisor 20 = .ok (.istore 4, 2) := by decide +kernel
theorem dX6_divisor_22 : decode cX6_divisor 22 = .ok (.iload_n 3, 1) := by decide +kernel
theorem dX6_divisor_23 : decode cX6_divisor 23 = .ok (.istore_n 2, 1) := by decide +kernel
theorem dX6_divisor_24 : decode cX6_divisor 24 = .ok (.iload 4, 2) := by decide +kernel
theorem dX6_divisor_26 : decode cX6_divisor 26 = .ok (.istore_n 3, 1) := by decide +kernel
theorem dX6_divisor_27 : decode cX6_divisor 27 = .ok (.goto (-14), 3) := by decide +kernel
theorem dX6_divisor_30 : decode cX6_divisor 30 = .ok (.iload_n 2, 1) := by decide +kernel
theorem dX6_divisor_31 : decode cX6_divisor 31 = .ok (.ireturn, 1) := by decide +kernel
theorem dX6_fraction_0 : decode cX6_fraction 0 = .ok (.iload_n 0, 1) := by decide +kernel
theorem dX6_fraction_1 : decode cX6_fraction 1 = .ok (.iload_n 1, 1) := by decide +kernel
theorem dX6_fraction_2 : decode cX6_fraction 2 = .ok (.invokestatic 229, 3) := by decide +kernel
theorem dX6_fraction_5 : decode cX6_fraction 5 = .ok (.istore_n 3, 1) := by decide +kernel
theorem dX6_fraction_6 : decode cX6_fraction 6 = .ok (.iload_n 2, 1) := by decide +kernel
theorem dX6_fraction_7 : decode cX6_fraction 7 = .ok (.ifCond .eq 9, 3) := by decide +kernel
theorem dX6_fraction_10 : decode cX6_fraction 10 = .ok (.iload_n 0, 1) := by decide +kernel
theorem dX6_fraction_11 : decode cX6_fraction 11 = .ok (.iload_n 3, 1) := by decide +kernel
theorem dX6_fraction_12 : decode cX6_fraction 12 = .ok (.idiv, 1) := by decide +kernel
theorem dX6_fraction_13 : decode cX6_fraction 13 = .ok (.goto 6, 3) := by decide +kernel
theorem dX6_fraction_16 : decode cX6_fraction 16 = .ok (.iload_n 1, 1) := by decide +kernel
theorem dX6_fraction_17 : decode cX6_fraction 17 = .ok (.iload_n 3, 1) := by decide +kernel
theorem dX6_fraction_18 : decode cX6_fraction 18 = .ok (.idiv, 1) := by decide +kernel
theorem dX6_fraction_19 : decode cX6_fraction 19 = .ok (.ireturn, 1) := by decide +kernel
theorem dX6_factorial_0 : decode cX6_factorial 0 = .ok (.iconst 1, 1) := by decide +kernel
theorem dX6_factorial_1 : decode cX6_factorial 1 = .ok (.istore_n 1, 1) := by decide +kernel
theorem dX6_factorial_2 : decode cX6_factorial 2 = .ok (.iconst 2, 1) := by decide +kernel
theorem dX6_factorial_3 : decode cX6_factorial 3 = .ok (.istore_n 2, 1) := by decide +kernel
theorem dX6_factorial_4 : decode cX6_factorial 4 = .ok (.iload_n 2, 1) := by decide +kernel
theorem dX6_factorial_5 : decode cX6_factorial 5 = .ok (.iload_n 0, 1) := by decide +kernel
theorem dX6_factorial_6 : decode cX6_factorial 6 = .ok (.if_icmp .gt 13, 3) := by decide +kernel
theorem dX6_factorial_9 : decode cX6_factorial 9 = .ok (.iload_n 1, 1) := by decide +kernel
theorem dX6_factorial_10 : decode cX6_factorial 10 = .ok (.iload_n 2, 1) := by decide +kernel
theorem dX6_factorial_11 : decode cX6_factorial 11 = .ok (.imul, 1) := by decide +kernel
theorem dX6_factorial_12 : decode cX6_factorial 12 = .ok (.istore_n 1, 1) := by decide +kernel
theorem dX6_factorial_13 : decode cX6_factorial 13 = .ok (.iinc 2 1, 3) := by decide +kernel
theorem dX6_factorial_16 : decode cX6_factorial 16 = .ok (.goto (-12), 3) := by decide +kernel
theorem dX6_factorial_19 : decode cX6_factorial 19 = .ok (.iload_n 1, 1) := by decide +kernel
theorem dX6_factorial_20 : decode cX6_factorial 20 = .ok (.ireturn, 1) := by decide +kernel
theorem dX6_goneBy_0 : decode cX6_goneBy 0 = .ok (.aload_n 0, 1) := by decide +kernel
theorem dX6_goneBy_1 : decode cX6_goneBy 1 = .ok (.invokevirtual 194, 3) := by decide +kernel
theorem dX6_goneBy_4 : decode cX6_goneBy 4 = .ok (.iconst 0, 1) := by decide +kernel
theorem dX6_goneBy_5 : decode cX6_goneBy 5 = .ok (.istore_n 2, 1) := by decide +kernel
theorem dX6_goneBy_6 : decode cX6_goneBy 6 = .ok (.iload_n 2, 1) := by decide +kernel
theorem dX6_goneBy_7 : decode cX6_goneBy 7 = .ok (.aload_n 0, 1) := by decide +kernel
theorem dX6_goneBy_8 : decode cX6_goneBy 8 = .ok (.invokevirtual 54, 3) := by decide +kernel
theorem dX6_goneBy_11 : decode cX6_goneBy 11 = .ok (.if_icmp .ge 43, 3) := by decide +kernel
theorem dX6_goneBy_14 : decode cX6_goneBy 14 = .ok (.aload_n 0, 1) := by decide +kernel
theorem dX6_goneBy_15 : decode cX6_goneBy 15 = .ok (.getfield 26, 3) := by decide +kernel
theorem dX6_goneBy_18 : decode cX6_goneBy 18 = .ok (.bipush 6, 2) := by decide +kernel
theorem dX6_goneBy_20 : decode cX6_goneBy 20 = .ok (.iload_n 2, 1) := by decide +kernel
theorem dX6_goneBy_21 : decode cX6_goneBy 21 = .ok (.imul, 1) := by decide +kernel
theorem dX6_goneBy_22 : decode cX6_goneBy 22 = .ok (.iconst 1, 1) := by decide +kernel
theorem dX6_goneBy_23 : decode cX6_goneBy 23 = .ok (.iadd, 1) := by decide +kernel
theorem dX6_goneBy_24 : decode cX6_goneBy 24 = .ok (.iload_n 1, 1) := by decide +kernel
theorem dX6_goneBy_25 : decode cX6_goneBy 25 = .ok (.iload_n 2, 1) := by decide +kernel
theorem dX6_goneBy_26 : decode cX6_goneBy 26 = .ok (.invokestatic 119, 3) := by decide +kernel
theorem dX6_goneBy_29 : decode cX6_goneBy 29 = .ok (.ifCond .eq 7, 3) := by decide +kernel
theorem dX6_goneBy_32 : decode cX6_goneBy 32 = .ok (.iconst 0, 1) := by decide +kernel
theorem dX6_goneBy_33 : decode cX6_goneBy 33 = .ok (.goto 14, 3) := by decide +kernel
theorem dX6_goneBy_36 : decode cX6_goneBy 36 = .ok (.aload_n 0, 1) := by decide +kernel
theorem dX6_goneBy_37 : decode cX6_goneBy 37 = .ok (.getfield 26, 3) := by decide +kernel
theorem dX6_goneBy_40 : decode cX6_goneBy 40 = .ok (.bipush 6, 2) := by decide +kernel
theorem dX6_goneBy_42 : decode cX6_goneBy 42 = .ok (.iload_n 2, 1) := by decide +kernel
theorem dX6_goneBy_43 : decode cX6_goneBy 43 = .ok (.imul, 1) := by decide +kernel
theorem dX6_goneBy_44 : decode cX6_goneBy 44 = .ok (.iconst 1, 1) := by decide +kernel
theorem dX6_goneBy_45 : decode cX6_goneBy 45 = .ok (.iadd, 1) := by decide +kernel
theorem dX6_goneBy_46 : decode cX6_goneBy 46 = .ok (.iaload, 1) := by decide +kernel
theorem dX6_goneBy_47 : decode cX6_goneBy 47 = .ok (.iastore, 1) := by decide +kernel
theorem dX6_goneBy_48 : decode cX6_goneBy 48 = .ok (.iinc 2 1, 3) := by decide +kernel
theorem dX6_goneBy_51 : decode cX6_goneBy 51 = .ok (.goto (-45), 3) := by decide +kernel
theorem dX6_goneBy_54 : decode cX6_goneBy 54 = .ok (.aload_n 0, 1) := by decide +kernel
theorem dX6_goneBy_55 : decode cX6_goneBy 55 = .ok (.aload_n 0, 1) := by decide +kernel
theorem dX6_goneBy_56 : decode cX6_goneBy 56 = .ok (.getfield 26, 3) := by decide +kernel
theorem dX6_goneBy_59 : decode cX6_goneBy 59 = .ok (.bipush 20, 2) := by decide +kernel
theorem dX6_goneBy_61 : decode cX6_goneBy 61 = .ok (.invokevirtual 191, 3) := by decide +kernel
theorem dX6_goneBy_64 : decode cX6_goneBy 64 = .ok (.aload_n 0, 1) := by decide +kernel
theorem dX6_goneBy_65 : decode cX6_goneBy 65 = .ok (.getfield 26, 3) := by decide +kernel
theorem dX6_goneBy_68 : decode cX6_goneBy 68 = .ok (.bipush 77, 2) := by decide +kernel
theorem dX6_goneBy_70 : decode cX6_goneBy 70 = .ok (.iaload, 1) := by decide +kernel
theorem dX6_goneBy_71 : decode cX6_goneBy 71 = .ok (.ireturn, 1) := by decide +kernel
theorem dX6_share_0 : decode cX6_share 0 = .ok (.aload_n 0, 1) := by decide +kernel
theorem dX6_share_1 : decode cX6_share 1 = .ok (.iconst 0, 1) := by decide +kernel
theorem dX6_share_2 : decode cX6_share 2 = .ok (.putfield 48, 3) := by decide +kernel
theorem dX6_share_5 : decode cX6_share 5 = .ok (.aload_n 0, 1) := by decide +kernel
theorem dX6_share_6 : decode cX6_share 6 = .ok (.iload_n 1, 1) := by decide +kernel
theorem dX6_share_7 : decode cX6_share 7 = .ok (.invokevirtual 156, 3) := by decide +kernel
theorem dX6_share_10 : decode cX6_share 10 = .ok (.ifCond .eq 5, 3) := by decide +kernel
theorem dX6_share_13 : decode cX6_share 13 = .ok (.iconst (-1), 1) := by decide +kernel
theorem dX6_share_14 : decode cX6_share 14 = .ok (.ireturn, 1) := by decide +kernel
theorem dX6_share_15 : decode cX6_share 15 = .ok (.aload_n 0, 1) := by decide +kernel
theorem dX6_share_16 : decode cX6_share 16 = .ok (.aload_n 0, 1) := by decide +kernel
theorem dX6_share_17 : decode cX6_share 17 = .ok (.getfield 23, 3) := by decide +kernel
theorem dX6_share_20 : decode cX6_share 20 = .ok (.iconst 1, 1) := by decide +kernel
theorem dX6_share_21 : decode cX6_share 21 = .ok (.invokevirtual 183, 3) := by decide +kernel
theorem dX6_share_24 : decode cX6_share 24 = .ok (.istore_n 3, 1) := by decide +kernel
theorem dX6_share_25 : decode cX6_share 25 = .ok (.iload_n 3, 1) := by decide +kernel
theorem dX6_share_26 : decode cX6_share 26 = .ok (.invokestatic 186, 3) := by decide +kernel
theorem dX6_share_29 : decode cX6_share 29 = .ok (.istore 4, 2) := by decide +kernel
theorem dX6_share_31 : decode cX6_share 31 = .ok (.iload_n 3, 1) := by decide +kernel
theorem dX6_share_32 : decode cX6_share 32 = .ok (.iload_n 1, 1) := by decide +kernel
theorem dX6_share_33 : decode cX6_share 33 = .ok (.invokestatic 119, 3) := by decide +kernel
theorem dX6_share_36 : decode cX6_share 36 = .ok (.ifCond .eq 10, 3) := by decide +kernel
theorem dX6_share_39 : decode cX6_share 39 = .ok (.iload 4, 2) := by decide +kernel
theorem dX6_share_41 : decode cX6_share 41 = .ok (.bipush 6, 2) := by decide +kernel
theorem dX6_share_43 : decode cX6_share 43 = .ok (.if_icmp .le 6, 3) := by decide +kernel
theorem dX6_share_46 : decode cX6_share 46 = .ok (.bipush (-3), 2) := by decide +kernel
theorem dX6_share_48 : decode cX6_share 48 = .ok (.ireturn, 1) := by decide +kernel
theorem dX6_share_49 : decode cX6_share 49 = .ok (.iconst 0, 1) := by decide +kernel
theorem dX6_share_50 : decode cX6_share 50 = .ok (.istore 5, 2) := by decide +kernel
theorem dX6_share_52 : decode cX6_share 52 = .ok (.iconst 0, 1) := by decide +kernel
theorem dX6_share_53 : decode cX6_share 53 = .ok (.istore 6, 2) := by decide +kernel
theorem dX6_share_55 : decode cX6_share 55 = .ok (.iload 6, 2) := by decide +kernel
theorem dX6_share_57 : decode cX6_share 57 = .ok (.iload_n 3, 1) := by decide +kernel
theorem dX6_share_58 : decode cX6_share 58 = .ok (.if_icmp .gt 73, 3) := by decide +kernel
theorem dX6_share_61 : decode cX6_share 61 = .ok (.iload 6, 2) := by decide +kernel
theorem dX6_share_63 : decode cX6_share 63 = .ok (.iload_n 3, 1) := by decide +kernel
theorem dX6_share_64 : decode cX6_share 64 = .ok (.iconst (-1), 1) := by decide +kernel
theorem dX6_share_65 : decode cX6_share 65 = .ok (.ixor, 1) := by decide +kernel
theorem dX6_share_66 : decode cX6_share 66 = .ok (.iand, 1) := by decide +kernel
theorem dX6_share_67 : decode cX6_share 67 = .ok (.ifCond .ne 58, 3) := by decide +kernel
theorem dX6_share_70 : decode cX6_share 70 = .ok (.iload 6, 2) := by decide +kernel
theorem dX6_share_72 : decode cX6_share 72 = .ok (.iload_n 1, 1) := by decide +kernel
theorem dX6_share_73 : decode cX6_share 73 = .ok (.invokestatic 119, 3) := by decide +kernel
theorem dX6_share_76 : decode cX6_share 76 = .ok (.ifCond .ne 49, 3) := by decide +kernel
theorem dX6_share_79 : decode cX6_share 79 = .ok (.iload 6, 2) := by decide +kernel
theorem dX6_share_81 : decode cX6_share 81 = .ok (.invokestatic 186, 3) := by decide +kernel
theorem dX6_share_84 : decode cX6_share 84 = .ok (.istore 7, 2) := by decide +kernel
theorem dX6_share_86 : decode cX6_share 86 = .ok (.iload 5, 2) := by decide +kernel
theorem dX6_share_88 : decode cX6_share 88 = .ok (.iload 7, 2) := by decide +kernel
theorem dX6_share_90 : decode cX6_share 90 = .ok (.invokestatic 232, 3) := by decide +kernel
theorem dX6_share_93 : decode cX6_share 93 = .ok (.iload 4, 2) := by decide +kernel
theorem dX6_share_95 : decode cX6_share 95 = .ok (.iconst 1, 1) := by decide +kernel
theorem dX6_share_96 : decode cX6_share 96 = .ok (.isub, 1) := by decide +kernel
theorem dX6_share_97 : decode cX6_share 97 = .ok (.iload 7, 2) := by decide +kernel
theorem dX6_share_99 : decode cX6_share 99 = .ok (.isub, 1) := by decide +kernel
theorem dX6_share_100 : decode cX6_share 100 = .ok (.invokestatic 232, 3) := by decide +kernel
theorem dX6_share_103 : decode cX6_share 103 = .ok (.imul, 1) := by decide +kernel
theorem dX6_share_104 : decode cX6_share 104 = .ok (.aload_n 0, 1) := by decide +kernel
theorem dX6_share_105 : decode cX6_share 105 = .ok (.iload 6, 2) := by decide +kernel
theorem dX6_share_107 : decode cX6_share 107 = .ok (.iconst 1, 1) := by decide +kernel
theorem dX6_share_108 : decode cX6_share 108 = .ok (.iload_n 1, 1) := by decide +kernel
theorem dX6_share_109 : decode cX6_share 109 = .ok (.ishl, 1) := by decide +kernel
theorem dX6_share_110 : decode cX6_share 110 = .ok (.ior, 1) := by decide +kernel
theorem dX6_share_111 : decode cX6_share 111 = .ok (.invokevirtual 235, 3) := by decide +kernel
theorem dX6_share_114 : decode cX6_share 114 = .ok (.aload_n 0, 1) := by decide +kernel
theorem dX6_share_115 : decode cX6_share 115 = .ok (.iload 6, 2) := by decide +kernel
theorem dX6_share_117 : decode cX6_share 117 = .ok (.invokevirtual 235, 3) := by decide +kernel
theorem dX6_share_120 : decode cX6_share 120 = .ok (.isub, 1) := by decide +kernel
theorem dX6_share_121 : decode cX6_share 121 = .ok (.imul, 1) := by decide +kernel
theorem dX6_share_122 : decode cX6_share 122 = .ok (.iadd, 1) := by decide +kernel
theorem dX6_share_123 : decode cX6_share 123 = .ok (.istore 5, 2) := by decide +kernel
theorem dX6_share_125 : decode cX6_share 125 = .ok (.iinc 6 1, 3) := by decide +kernel
theorem dX6_share_128 : decode cX6_share 128 = .ok (.goto (-73), 3) := by decide +kernel
theorem dX6_share_131 : decode cX6_share 131 = .ok (.iload 5, 2) := by decide +kernel
theorem dX6_share_133 : decode cX6_share 133 = .ok (.iload 4, 2) := by decide +kernel
theorem dX6_share_135 : decode cX6_share 135 = .ok (.invokestatic 232, 3) := by decide +kernel
theorem dX6_share_138 : decode cX6_share 138 = .ok (.iload_n 2, 1) := by decide +kernel
theorem dX6_share_139 : decode cX6_share 139 = .ok (.invokestatic 238, 3) := by decide +kernel
theorem dX6_share_142 : decode cX6_share 142 = .ok (.ireturn, 1) := by decide +kernel
theorem dX6_shut_0 : decode cX6_shut 0 = .ok (.aload_n 0, 1) := by decide +kernel
theorem dX6_shut_1 : decode cX6_shut 1 = .ok (.iconst 0, 1) := by decide +kernel
theorem dX6_shut_2 : decode cX6_shut 2 = .ok (.putfield 48, 3) := by decide +kernel
theorem dX6_shut_5 : decode cX6_shut 5 = .ok (.iload_n 1, 1) := by decide +kernel
theorem dX6_shut_6 : decode cX6_shut 6 = .ok (.i2l, 1) := by decide +kernel
theorem dX6_shut_7 : decode cX6_shut 7 = .ok (.lconst 1, 1) := by decide +kernel
theorem dX6_shut_8 : decode cX6_shut 8 = .ok (.ldc2_w 242, 3) := by decide +kernel
theorem dX6_shut_11 : decode cX6_shut 11 = .ok (.invokestatic 58, 3) := by decide +kernel
theorem dX6_shut_14 : decode cX6_shut 14 = .ok (.ifCond .eq 15, 3) := by decide +kernel
theorem dX6_shut_17 : decode cX6_shut 17 = .ok (.iload_n 2, 1) := by decide +kernel
theorem dX6_shut_18 : decode cX6_shut 18 = .ok (.i2l, 1) := by decide +kernel
theorem dX6_shut_19 : decode cX6_shut 19 = .ok (.lconst 0, 1) := by decide +kernel
theorem dX6_shut_20 : decode cX6_shut 20 = .ok (.ldc2_w 244, 3) := by decide +kernel
theorem dX6_shut_23 : decode cX6_shut 23 = .ok (.invokestatic 58, 3) := by decide +kernel
theorem dX6_shut_26 : decode cX6_shut 26 = .ok (.ifCond .ne 6, 3) := by decide +kernel
theorem dX6_shut_29 : decode cX6_shut 29 = .ok (.bipush (-2), 2) := by decide +kernel
theorem dX6_shut_31 : decode cX6_shut 31 = .ok (.ireturn, 1) := by decide +kernel
theorem dX6_shut_32 : decode cX6_shut 32 = .ok (.iconst 0, 1) := by decide +kernel
theorem dX6_shut_33 : decode cX6_shut 33 = .ok (.istore 4, 2) := by decide +kernel
theorem dX6_shut_35 : decode cX6_shut 35 = .ok (.iconst 0, 1) := by decide +kernel
theorem dX6_shut_36 : decode cX6_shut 36 = .ok (.istore 5, 2) := by decide +kernel
theorem dX6_shut_38 : decode cX6_shut 38 = .ok (.iload 5, 2) := by decide +kernel
theorem dX6_shut_40 : decode cX6_shut 40 = .ok (.iconst 1, 1) := by decide +kernel
theorem dX6_shut_41 : decode cX6_shut 41 = .ok (.iload_n 1, 1) := by decide +kernel
theorem dX6_shut_42 : decode cX6_shut 42 = .ok (.ishl, 1) := by decide +kernel
theorem dX6_shut_43 : decode cX6_shut 43 = .ok (.if_icmp .ge 103, 3) := by decide +kernel
theorem dX6_shut_46 : decode cX6_shut 46 = .ok (.aload_n 0, 1) := by decide +kernel
theorem dX6_shut_47 : decode cX6_shut 47 = .ok (.invokevirtual 194, 3) := by decide +kernel
theorem dX6_shut_50 : decode cX6_shut 50 = .ok (.iconst 0, 1) := by decide +kernel
theorem dX6_shut_51 : decode cX6_shut 51 = .ok (.istore 6, 2) := by decide +kernel
theorem dX6_shut_53 : decode cX6_shut 53 = .ok (.iload 6, 2) := by decide +kernel
theorem dX6_shut_55 : decode cX6_shut 55 = .ok (.iload_n 1, 1) := by decide +kernel
theorem dX6_shut_56 : decode cX6_shut 56 = .ok (.if_icmp .ge 39, 3) := by decide +kernel
theorem dX6_shut_59 : decode cX6_shut 59 = .ok (.aload_n 0, 1) := by decide +kernel
theorem dX6_shut_60 : decode cX6_shut 60 = .ok (.getfield 26, 3) := by decide +kernel
theorem dX6_shut_63 : decode cX6_shut 63 = .ok (.bipush 72, 2) := by decide +kernel
theorem dX6_shut_65 : decode cX6_shut 65 = .ok (.iload 5, 2) := by decide +kernel
theorem dX6_shut_67 : decode cX6_shut 67 = .ok (.iload 6, 2) := by decide +kernel
theorem dX6_shut_69 : decode cX6_shut 69 = .ok (.invokestatic 119, 3) := by decide +kernel
theorem dX6_shut_72 : decode cX6_shut 72 = .ok (.ifCond .eq 7, 3) := by decide +kernel
theorem dX6_shut_75 : decode cX6_shut 75 = .ok (.iconst 0, 1) := by decide +kernel
theorem dX6_shut_76 : decode cX6_shut 76 = .ok (.goto 4, 3) := by decide +kernel
theorem dX6_shut_79 : decode cX6_shut 79 = .ok (.iconst 1, 1) := by decide +kernel
theorem dX6_shut_80 : decode cX6_shut 80 = .ok (.iastore, 1) := by decide +kernel
theorem dX6_shut_81 : decode cX6_shut 81 = .ok (.aload_n 0, 1) := by decide +kernel
theorem dX6_shut_82 : decode cX6_shut 82 = .ok (.aload_n 0, 1) := by decide +kernel
theorem dX6_shut_83 : decode cX6_shut 83 = .ok (.getfield 26, 3) := by decide +kernel
theorem dX6_shut_86 : decode cX6_shut 86 = .ok (.invokevirtual 153, 3) := by decide +kernel
theorem dX6_shut_89 : decode cX6_shut 89 = .ok (.iinc 6 1, 3) := by decide +kernel
theorem dX6_shut_92 : decode cX6_shut 92 = .ok (.goto (-39), 3) := by decide +kernel
theorem dX6_shut_95 : decode cX6_shut 95 = .ok (.iload 4, 2) := by decide +kernel
theorem dX6_shut_97 : decode cX6_shut 97 = .ok (.aload_n 0, 1) := by decide +kernel
theorem dX6_shut_98 : decode cX6_shut 98 = .ok (.aload_n 0, 1) := by decide +kernel
theorem dX6_shut_99 : decode cX6_shut 99 = .ok (.getfield 26, 3) := by decide +kernel
theorem dX6_shut_102 : decode cX6_shut 102 = .ok (.iconst 0, 1) := by decide +kernel
theorem dX6_shut_103 : decode cX6_shut 103 = .ok (.invokevirtual 183, 3) := by decide +kernel
theorem dX6_shut_106 : decode cX6_shut 106 = .ok (.ifCond .ne 30, 3) := by decide +kernel
theorem dX6_shut_109 : decode cX6_shut 109 = .ok (.iload_n 2, 1) := by decide +kernel
theorem dX6_shut_110 : decode cX6_shut 110 = .ok (.iload 5, 2) := by decide +kernel
theorem dX6_shut_112 : decode cX6_shut 112 = .ok (.invokestatic 186, 3) := by decide +kernel
theorem dX6_shut_115 : decode cX6_shut 115 = .ok (.invokestatic 246, 3) := by decide +kernel
theorem dX6_shut_118 : decode cX6_shut 118 = .ok (.bipush 10, 2) := by decide +kernel
theorem dX6_shut_120 : decode cX6_shut 120 = .ok (.iload_n 2, 1) := by decide +kernel
theorem dX6_shut_121 : decode cX6_shut 121 = .ok (.isub, 1) := by decide +kernel
theorem dX6_shut_122 : decode cX6_shut 122 = .ok (.iload_n 1, 1) := by decide +kernel
theorem dX6_shut_123 : decode cX6_shut 123 = .ok (.iload 5, 2) := by decide +kernel
theorem dX6_shut_125 : decode cX6_shut 125 = .ok (.invokestatic 186, 3) := by decide +kernel
theorem dX6_shut_128 : decode cX6_shut 128 = .ok (.isub, 1) := by decide +kernel
theorem dX6_shut_129 : decode cX6_shut 129 = .ok (.invokestatic 246, 3) := by decide +kernel
theorem dX6_shut_132 : decode cX6_shut 132 = .ok (.imul, 1) := by decide +kernel
theorem dX6_shut_133 : decode cX6_shut 133 = .ok (.goto 4, 3) := by decide +kernel
theorem dX6_shut_136 : decode cX6_shut 136 = .ok (.iconst 0, 1) := by decide +kernel
theorem dX6_shut_137 : decode cX6_shut 137 = .ok (.iadd, 1) := by decide +kernel
theorem dX6_shut_138 : decode cX6_shut 138 = .ok (.istore 4, 2) := by decide +kernel
theorem dX6_shut_140 : decode cX6_shut 140 = .ok (.iinc 5 1, 3) := by decide +kernel
theorem dX6_shut_143 : decode cX6_shut 143 = .ok (.goto (-105), 3) := by decide +kernel
theorem dX6_shut_146 : decode cX6_shut 146 = .ok (.iload 4, 2) := by decide +kernel
theorem dX6_shut_148 : decode cX6_shut 148 = .ok (.bipush 10, 2) := by decide +kernel
theorem dX6_shut_150 : decode cX6_shut 150 = .ok (.iload_n 1, 1) := by decide +kernel
theorem dX6_shut_151 : decode cX6_shut 151 = .ok (.invokestatic 246, 3) := by decide +kernel
theorem dX6_shut_154 : decode cX6_shut 154 = .ok (.iload_n 3, 1) := by decide +kernel
theorem dX6_shut_155 : decode cX6_shut 155 = .ok (.invokestatic 238, 3) := by decide +kernel
theorem dX6_shut_158 : decode cX6_shut 158 = .ok (.ireturn, 1) := by decide +kernel
theorem dX6_seed_0 : decode cX6_seed 0 = .ok (.aload_n 0, 1) := by decide +kernel
theorem dX6_seed_1 : decode cX6_seed 1 = .ok (.iconst 0, 1) := by decide +kernel
theorem dX6_seed_2 : decode cX6_seed 2 = .ok (.putfield 48, 3) := by decide +kernel
theorem dX6_seed_5 : decode cX6_seed 5 = .ok (.aload_n 0, 1) := by decide +kernel
theorem dX6_seed_6 : decode cX6_seed 6 = .ok (.getfield 249, 3) := by decide +kernel
theorem dX6_seed_9 : decode cX6_seed 9 = .ok (.lstore_n 3, 1) := by decide +kernel
theorem dX6_seed_10 : decode cX6_seed 10 = .ok (.aload_n 0, 1) := by decide +kernel
theorem dX6_seed_11 : decode cX6_seed 11 = .ok (.lload_n 1, 1) := by decide +kernel
theorem dX6_seed_12 : decode cX6_seed 12 = .ok (.putfield 249, 3) := by decide +kernel
theorem dX6_seed_15 : decode cX6_seed 15 = .ok (.lload_n 3, 1) := by decide +kernel
theorem dX6_seed_16 : decode cX6_seed 16 = .ok (.lreturn, 1) := by decide +kernel
theorem dX6_drawn_0 : decode cX6_drawn 0 = .ok (.aload_n 0, 1) := by decide +kernel
theorem dX6_drawn_1 : decode cX6_drawn 1 = .ok (.iconst 0, 1) := by decide +kernel
theorem dX6_drawn_2 : decode cX6_drawn 2 = .ok (.putfield 48, 3) := by decide +kernel
theorem dX6_drawn_5 : decode cX6_drawn 5 = .ok (.iload_n 1, 1) := by decide +kernel
theorem dX6_drawn_6 : decode cX6_drawn 6 = .ok (.i2l, 1) := by decide +kernel
theorem dX6_drawn_7 : decode cX6_drawn 7 = .ok (.lconst 1, 1) := by decide +kernel
theorem dX6_drawn_8 : decode cX6_drawn 8 = .ok (.ldc2_w 253, 3) := by decide +kernel
theorem dX6_drawn_11 : decode cX6_drawn 11 = .ok (.invokestatic 58, 3) := by decide +kernel
theorem dX6_drawn_14 : decode cX6_drawn 14 = .ok (.ifCond .ne 6, 3) := by decide +kernel
theorem dX6_drawn_17 : decode cX6_drawn 17 = .ok (.bipush (-2), 2) := by decide +kernel
theorem dX6_drawn_19 : decode cX6_drawn 19 = .ok (.ireturn, 1) := by decide +kernel
theorem dX6_drawn_20 : decode cX6_drawn 20 = .ok (.aload_n 0, 1) := by decide +kernel
theorem dX6_drawn_21 : decode cX6_drawn 21 = .ok (.invokevirtual 194, 3) := by decide +kernel
theorem dX6_drawn_24 : decode cX6_drawn 24 = .ok (.iconst 0, 1) := by decide +kernel
theorem dX6_drawn_25 : decode cX6_drawn 25 = .ok (.istore_n 2, 1) := by decide +kernel
theorem dX6_drawn_26 : decode cX6_drawn 26 = .ok (.iload_n 2, 1) := by decide +kernel
theorem dX6_drawn_27 : decode cX6_drawn 27 = .ok (.iload_n 1, 1) := by decide +kernel
theorem dX6_drawn_28 : decode cX6_drawn 28 = .ok (.if_icmp .ge 91, 3) := by decide +kernel
theorem dX6_drawn_31 : decode cX6_drawn 31 = .ok (.aload_n 0, 1) := by decide +kernel
theorem dX6_drawn_32 : decode cX6_drawn 32 = .ok (.aload_n 0, 1) := by decide +kernel
theorem dX6_drawn_33 : decode cX6_drawn 33 = .ok (.getfield 249, 3) := by decide +kernel
theorem dX6_drawn_36 : decode cX6_drawn 36 = .ok (.ldc2_w 255, 3) := by decide +kernel
theorem dX6_drawn_39 : decode cX6_drawn 39 = .ok (.lmul, 1) := by decide +kernel
theorem dX6_drawn_40 : decode cX6_drawn 40 = .ok (.ldc2_w 257, 3) := by decide +kernel
theorem dX6_drawn_43 : decode cX6_drawn 43 = .ok (.ladd, 1) := by decide +kernel
theorem dX6_drawn_44 : decode cX6_drawn 44 = .ok (.putfield 249, 3) := by decide +kernel
theorem dX6_drawn_47 : decode cX6_drawn 47 = .ok (.aload_n 0, 1) := by decide +kernel
theorem dX6_drawn_48 : decode cX6_drawn 48 = .ok (.getfield 249, 3) := by decide +kernel
theorem dX6_drawn_51 : decode cX6_drawn 51 = .ok (.bipush 33, 2) := by decide +kernel
theorem dX6_drawn_53 : decode cX6_drawn 53 = .ok (.lushr, 1) := by decide +kernel
theorem dX6_drawn_54 : decode cX6_drawn 54 = .ok (.l2i, 1) := by decide +kernel
theorem dX6_drawn_55 : decode cX6_drawn 55 = .ok (.iconst 3, 1) := by decide +kernel
theorem dX6_drawn_56 : decode cX6_drawn 56 = .ok (.irem, 1) := by decide +kernel
theorem dX6_drawn_57 : decode cX6_drawn 57 = .ok (.istore_n 3, 1) := by decide +kernel
theorem dX6_drawn_58 : decode cX6_drawn 58 = .ok (.aload_n 0, 1) := by decide +kernel
theorem dX6_drawn_59 : decode cX6_drawn 59 = .ok (.iload_n 3, 1) := by decide +kernel
theorem dX6_drawn_60 : decode cX6_drawn 60 = .ok (.invokevirtual 168, 3) := by decide +kernel
theorem dX6_drawn_63 : decode cX6_drawn 63 = .ok (.ifCond .ne 42, 3) := by decide +kernel
theorem dX6_drawn_66 : decode cX6_drawn 66 = .ok (.aload_n 0, 1) := by decide +kernel
theorem dX6_drawn_67 : decode cX6_drawn 67 = .ok (.getfield 26, 3) := by decide +kernel
theorem dX6_drawn_70 : decode cX6_drawn 70 = .ok (.bipush 6, 2) := by decide +kernel
theorem dX6_drawn_72 : decode cX6_drawn 72 = .ok (.aload_n 0, 1) := by decide +kernel
theorem dX6_drawn_73 : decode cX6_drawn 73 = .ok (.iload_n 3, 1) := by decide +kernel
theorem dX6_drawn_74 : decode cX6_drawn 74 = .ok (.invokevirtual 165, 3) := by decide +kernel
theorem dX6_drawn_77 : decode cX6_drawn 77 = .ok (.imul, 1) := by decide +kernel
theorem dX6_drawn_78 : decode cX6_drawn 78 = .ok (.iconst 0, 1) := by decide +kernel
theorem dX6_drawn_79 : decode cX6_drawn 79 = .ok (.iadd, 1) := by decide +kernel
theorem dX6_drawn_80 : decode cX6_drawn 80 = .ok (.iaload, 1) := by decide +kernel
theorem dX6_drawn_81 : decode cX6_drawn 81 = .ok (.ifCond .ne 24, 3) := by decide +kernel
theorem dX6_drawn_84 : decode cX6_drawn 84 = .ok (.aload_n 0, 1) := by decide +kernel
theorem dX6_drawn_85 : decode cX6_drawn 85 = .ok (.getfield 26, 3) := by decide +kernel
theorem dX6_drawn_88 : decode cX6_drawn 88 = .ok (.bipush 76, 2) := by decide +kernel
theorem dX6_drawn_90 : decode cX6_drawn 90 = .ok (.iaload, 1) := by decide +kernel
theorem dX6_drawn_91 : decode cX6_drawn 91 = .ok (.bipush 99, 2) := by decide +kernel
theorem dX6_drawn_93 : decode cX6_drawn 93 = .ok (.if_icmp .ge 12, 3) := by decide +kernel
theorem dX6_drawn_96 : decode cX6_drawn 96 = .ok (.aload_n 0, 1) := by decide +kernel
theorem dX6_drawn_97 : decode cX6_drawn 97 = .ok (.aload_n 0, 1) := by decide +kernel
theorem dX6_drawn_98 : decode cX6_drawn 98 = .ok (.getfield 26, 3) := by decide +kernel
theorem dX6_drawn_101 : decode cX6_drawn 101 = .ok (.iload_n 3, 1) := by decide +kernel
theorem dX6_drawn_102 : decode cX6_drawn 102 = .ok (.invokevirtual 174, 3) := by decide +kernel
theorem dX6_drawn_105 : decode cX6_drawn 105 = .ok (.aload_n 0, 1) := by decide +kernel
theorem dX6_drawn_106 : decode cX6_drawn 106 = .ok (.aload_n 0, 1) := by decide +kernel
theorem dX6_drawn_107 : decode cX6_drawn 107 = .ok (.getfield 26, 3) := by decide +kernel
theorem dX6_drawn_110 : decode cX6_drawn 110 = .ok (.invokevirtual 153, 3) := by decide +kernel
theorem dX6_drawn_113 : decode cX6_drawn 113 = .ok (.iinc 2 1, 3) := by decide +kernel
theorem dX6_drawn_116 : decode cX6_drawn 116 = .ok (.goto (-90), 3) := by decide +kernel
theorem dX6_drawn_119 : decode cX6_drawn 119 = .ok (.aload_n 0, 1) := by decide +kernel
theorem dX6_drawn_120 : decode cX6_drawn 120 = .ok (.getfield 26, 3) := by decide +kernel
theorem dX6_drawn_123 : decode cX6_drawn 123 = .ok (.bipush 77, 2) := by decide +kernel
theorem dX6_drawn_125 : decode cX6_drawn 125 = .ok (.iaload, 1) := by decide +kernel
theorem dX6_drawn_126 : decode cX6_drawn 126 = .ok (.aload_n 0, 1) := by decide +kernel
theorem dX6_drawn_127 : decode cX6_drawn 127 = .ok (.getfield 23, 3) := by decide +kernel
theorem dX6_drawn_130 : decode cX6_drawn 130 = .ok (.bipush 77, 2) := by decide +kernel
theorem dX6_drawn_132 : decode cX6_drawn 132 = .ok (.iaload, 1) := by decide +kernel
theorem dX6_drawn_133 : decode cX6_drawn 133 = .ok (.isub, 1) := by decide +kernel
theorem dX6_drawn_134 : decode cX6_drawn 134 = .ok (.ireturn, 1) := by decide +kernel
theorem dX6_keep_0 : decode cX6_keep 0 = .ok (.aload_n 0, 1) := by decide +kernel
theorem dX6_keep_1 : decode cX6_keep 1 = .ok (.iconst 0, 1) := by decide +kernel
theorem dX6_keep_2 : decode cX6_keep 2 = .ok (.putfield 48, 3) := by decide +kernel
theorem dX6_keep_5 : decode cX6_keep 5 = .ok (.iload_n 1, 1) := by decide +kernel
theorem dX6_keep_6 : decode cX6_keep 6 = .ok (.i2l, 1) := by decide +kernel
theorem dX6_keep_7 : decode cX6_keep 7 = .ok (.lconst 0, 1) := by decide +kernel
theorem dX6_keep_8 : decode cX6_keep 8 = .ok (.lconst 1, 1) := by decide +kernel
theorem dX6_keep_9 : decode cX6_keep 9 = .ok (.invokestatic 58, 3) := by decide +kernel
theorem dX6_keep_12 : decode cX6_keep 12 = .ok (.ifCond .ne 5, 3) := by decide +kernel
theorem dX6_keep_15 : decode cX6_keep 15 = .ok (.iconst (-1), 1) := by decide +kernel
theorem dX6_keep_16 : decode cX6_keep 16 = .ok (.ireturn, 1) := by decide +kernel
theorem dX6_keep_17 : decode cX6_keep 17 = .ok (.aload_n 0, 1) := by decide +kernel
theorem dX6_keep_18 : decode cX6_keep 18 = .ok (.getfield 35, 3) := by decide +kernel
theorem dX6_keep_21 : decode cX6_keep 21 = .ok (.iload_n 1, 1) := by decide +kernel
theorem dX6_keep_22 : decode cX6_keep 22 = .ok (.iconst 1, 1) := by decide +kernel
theorem dX6_keep_23 : decode cX6_keep 23 = .ok (.bastore, 1) := by decide +kernel
theorem dX6_keep_24 : decode cX6_keep 24 = .ok (.iconst 0, 1) := by decide +kernel
theorem dX6_keep_25 : decode cX6_keep 25 = .ok (.istore_n 2, 1) := by decide +kernel
theorem dX6_keep_26 : decode cX6_keep 26 = .ok (.iload_n 2, 1) := by decide +kernel
theorem dX6_keep_27 : decode cX6_keep 27 = .ok (.bipush 79, 2) := by decide +kernel
theorem dX6_keep_29 : decode cX6_keep 29 = .ok (.if_icmp .ge 26, 3) := by decide +kernel
theorem dX6_keep_32 : decode cX6_keep 32 = .ok (.aload_n 0, 1) := by decide +kernel
theorem dX6_keep_33 : decode cX6_keep 33 = .ok (.getfield 32, 3) := by decide +kernel
theorem dX6_keep_36 : decode cX6_keep 36 = .ok (.bipush 79, 2) := by decide +kernel
theorem dX6_keep_38 : decode cX6_keep 38 = .ok (.iload_n 1, 1) := by decide +kernel
theorem dX6_keep_39 : decode cX6_keep 39 = .ok (.imul, 1) := by decide +kernel
theorem dX6_keep_40 : decode cX6_keep 40 = .ok (.iload_n 2, 1) := by decide +kernel
theorem dX6_keep_41 : decode cX6_keep 41 = .ok (.iadd, 1) := by decide +kernel
theorem dX6_keep_42 : decode cX6_keep 42 = .ok (.aload_n 0, 1) := by decide +kernel
theorem dX6_keep_43 : decode cX6_keep 43 = .ok (.getfield 23, 3) := by decide +kernel
theorem dX6_keep_46 : decode cX6_keep 46 = .ok (.iload_n 2, 1) := by decide +kernel
theorem dX6_keep_47 : decode cX6_keep 47 = .ok (.iaload, 1) := by decide +kernel
theorem dX6_keep_48 : decode cX6_keep 48 = .ok (.iastore, 1) := by decide +kernel
theorem dX6_keep_49 : decode cX6_keep 49 = .ok (.iinc 2 1, 3) := by decide +kernel
theorem dX6_keep_52 : decode cX6_keep 52 = .ok (.goto (-26), 3) := by decide +kernel
theorem dX6_keep_55 : decode cX6_keep 55 = .ok (.aload_n 0, 1) := by decide +kernel
theorem dX6_keep_56 : decode cX6_keep 56 = .ok (.getfield 23, 3) := by decide +kernel
theorem dX6_keep_59 : decode cX6_keep 59 = .ok (.bipush 78, 2) := by decide +kernel
theorem dX6_keep_61 : decode cX6_keep 61 = .ok (.iaload, 1) := by decide +kernel
theorem dX6_keep_62 : decode cX6_keep 62 = .ok (.ireturn, 1) := by decide +kernel
theorem dX6_again_0 : decode cX6_again 0 = .ok (.aload_n 0, 1) := by decide +kernel
theorem dX6_again_1 : decode cX6_again 1 = .ok (.iconst 0, 1) := by decide +kernel
theorem dX6_again_2 : decode cX6_again 2 = .ok (.putfield 48, 3) := by decide +kernel
theorem dX6_again_5 : decode cX6_again 5 = .ok (.iload_n 1, 1) := by decide +kernel
theorem dX6_again_6 : decode cX6_again 6 = .ok (.i2l, 1) := by decide +kernel
theorem dX6_again_7 : decode cX6_again 7 = .ok (.lconst 0, 1) := by decide +kernel
theorem dX6_again_8 : decode cX6_again 8 = .ok (.lconst 1, 1) := by decide +kernel
theorem dX6_again_9 : decode cX6_again 9 = .ok (.invokestatic 58, 3) := by decide +kernel
theorem dX6_again_12 : decode cX6_again 12 = .ok (.ifCond .ne 5, 3) := by decide +kernel
theorem dX6_again_15 : decode cX6_again 15 = .ok (.iconst (-1), 1) := by decide +kernel
theorem dX6_again_16 : decode cX6_again 16 = .ok (.ireturn, 1) := by decide +kernel
theorem dX6_again_17 : decode cX6_again 17 = .ok (.aload_n 0, 1) := by decide +kernel
theorem dX6_again_18 : decode cX6_again 18 = .ok (.getfield 35, 3) := by decide +kernel
theorem dX6_again_21 : decode cX6_again 21 = .ok (.iload_n 1, 1) := by decide +kernel
theorem dX6_again_22 : decode cX6_again 22 = .ok (.baload, 1) := by decide +kernel
theorem dX6_again_23 : decode cX6_again 23 = .ok (.ifCond .ne 6, 3) := by decide +kernel
theorem dX6_again_26 : decode cX6_again 26 = .ok (.bipush (-3), 2) := by decide +kernel
theorem dX6_again_28 : decode cX6_again 28 = .ok (.ireturn, 1) := by decide +kernel
theorem dX6_again_29 : decode cX6_again 29 = .ok (.iconst 0, 1) := by decide +kernel
theorem dX6_again_30 : decode cX6_again 30 = .ok (.istore_n 2, 1) := by decide +kernel
theorem dX6_again_31 : decode cX6_again 31 = .ok (.iload_n 2, 1) := by decide +kernel
theorem dX6_again_32 : decode cX6_again 32 = .ok (.bipush 79, 2) := by decide +kernel
theorem dX6_again_34 : decode cX6_again 34 = .ok (.if_icmp .ge 26, 3) := by decide +kernel
theorem dX6_again_37 : decode cX6_again 37 = .ok (.aload_n 0, 1) := by decide +kernel
theorem dX6_again_38 : decode cX6_again 38 = .ok (.getfield 23, 3) := by decide +kernel
theorem dX6_again_41 : decode cX6_again 41 = .ok (.iload_n 2, 1) := by decide +kernel
theorem dX6_again_42 : decode cX6_again 42 = .ok (.aload_n 0, 1) := by decide +kernel
theorem dX6_again_43 : decode cX6_again 43 = .ok (.getfield 32, 3) := by decide +kernel
theorem dX6_again_46 : decode cX6_again 46 = .ok (.bipush 79, 2) := by decide +kernel
theorem dX6_again_48 : decode cX6_again 48 = .ok (.iload_n 1, 1) := by decide +kernel
theorem dX6_again_49 : decode cX6_again 49 = .ok (.imul, 1) := by decide +kernel
theorem dX6_again_50 : decode cX6_again 50 = .ok (.iload_n 2, 1) := by decide +kernel
theorem dX6_again_51 : decode cX6_again 51 = .ok (.iadd, 1) := by decide +kernel
theorem dX6_again_52 : decode cX6_again 52 = .ok (.iaload, 1) := by decide +kernel
theorem dX6_again_53 : decode cX6_again 53 = .ok (.iastore, 1) := by decide +kernel
theorem dX6_again_54 : decode cX6_again 54 = .ok (.iinc 2 1, 3) := by decide +kernel
theorem dX6_again_57 : decode cX6_again 57 = .ok (.goto (-26), 3) := by decide +kernel
theorem dX6_again_60 : decode cX6_again 60 = .ok (.aload_n 0, 1) := by decide +kernel
theorem dX6_again_61 : decode cX6_again 61 = .ok (.iconst 0, 1) := by decide +kernel
theorem dX6_again_62 : decode cX6_again 62 = .ok (.putfield 99, 3) := by decide +kernel
theorem dX6_again_65 : decode cX6_again 65 = .ok (.aload_n 0, 1) := by decide +kernel
theorem dX6_again_66 : decode cX6_again 66 = .ok (.getfield 23, 3) := by decide +kernel
theorem dX6_again_69 : decode cX6_again 69 = .ok (.bipush 78, 2) := by decide +kernel
theorem dX6_again_71 : decode cX6_again 71 = .ok (.iaload, 1) := by decide +kernel
theorem dX6_again_72 : decode cX6_again 72 = .ok (.ireturn, 1) := by decide +kernel
theorem dX6_count_0 : decode cX6_count 0 = .ok (.aload_n 0, 1) := by decide +kernel
theorem dX6_count_1 : decode cX6_count 1 = .ok (.iconst 0, 1) := by decide +kernel
theorem dX6_count_2 : decode cX6_count 2 = .ok (.putfield 48, 3) := by decide +kernel
theorem dX6_count_5 : decode cX6_count 5 = .ok (.iload_n 1, 1) := by decide +kernel
theorem dX6_count_6 : decode cX6_count 6 = .ok (.tableswitch 178 0 14 #[74, 79, 84, 89, 94, 94, 106, 114, 122, 130, 138, 148, 158, 168, 173], 74) := by decide +kernel
theorem dX6_count_80 : decode cX6_count 80 = .ok (.aload_n 0, 1) := by decide +kernel
theorem dX6_count_81 : decode cX6_count 81 = .ok (.getfield 64, 3) := by decide +kernel
theorem dX6_count_84 : decode cX6_count 84 = .ok (.ireturn, 1) := by decide +kernel
theorem dX6_count_85 : decode cX6_count 85 = .ok (.aload_n 0, 1) := by decide +kernel
theorem dX6_count_86 : decode cX6_count 86 = .ok (.getfield 13, 3) := by decide +kernel
theorem dX6_count_89 : decode cX6_count 89 = .ok (.ireturn, 1) := by decide +kernel
theorem dX6_count_90 : decode cX6_count 90 = .ok (.aload_n 0, 1) := by decide +kernel
theorem dX6_count_91 : decode cX6_count 91 = .ok (.getfield 51, 3) := by decide +kernel
theorem dX6_count_94 : decode cX6_count 94 = .ok (.ireturn, 1) := by decide +kernel
theorem dX6_count_95 : decode cX6_count 95 = .ok (.aload_n 0, 1) := by decide +kernel
theorem dX6_count_96 : decode cX6_count 96 = .ok (.getfield 17, 3) := by decide +kernel
theorem dX6_count_99 : decode cX6_count 99 = .ok (.ireturn, 1) := by decide +kernel
theorem dX6_count_100 : decode cX6_count 100 = .ok (.aload_n 0, 1) := by decide +kernel
theorem dX6_count_101 : decode cX6_count 101 = .ok (.getfield 23, 3) := by decide +kernel
theorem dX6_count_104 : decode cX6_count 104 = .ok (.bipush 73, 2) := by decide +kernel
theorem dX6_count_106 : decode cX6_count 106 = .ok (.iload_n 1, 1) := by decide +kernel
theorem dX6_count_107 : decode cX6_count 107 = .ok (.iadd, 1) := by decide +kernel
theorem dX6_count_108 : decode cX6_count 108 = .ok (.iconst 4, 1) := by decide +kernel
theorem dX6_count_109 : decode cX6_count 109 = .ok (.isub, 1) := by decide +kernel
theorem dX6_count_110 : decode cX6_count 110 = .ok (.iaload, 1) := by decide +kernel
theorem dX6_count_111 : decode cX6_count 111 = .ok (.ireturn, 1) := by decide +kernel
theorem dX6_count_112 : decode cX6_count 112 = .ok (.aload_n 0, 1) := by decide +kernel
theorem dX6_count_113 : decode cX6_count 113 = .ok (.getfield 23, 3) := by decide +kernel
theorem dX6_count_116 : decode cX6_count 116 = .ok (.bipush 72, 2) := by decide +kernel
theorem dX6_count_118 : decode cX6_count 118 = .ok (.iaload, 1) := by decide +kernel
theorem dX6_count_119 : decode cX6_count 119 = .ok (.ireturn, 1) := by decide +kernel
theorem dX6_count_120 : decode cX6_count 120 = .ok (.aload_n 0, 1) := by decide +kernel
theorem dX6_count_121 : decode cX6_count 121 = .ok (.getfield 23, 3) := by decide +kernel
theorem dX6_count_124 : decode cX6_count 124 = .ok (.bipush 78, 2) := by decide +kernel
theorem dX6_count_126 : decode cX6_count 126 = .ok (.iaload, 1) := by decide +kernel
theorem dX6_count_127 : decode cX6_count 127 = .ok (.ireturn, 1) := by decide +kernel
theorem dX6_count_128 : decode cX6_count 128 = .ok (.aload_n 0, 1) := by decide +kernel
theorem dX6_count_129 : decode cX6_count 129 = .ok (.getfield 23, 3) := by decide +kernel
theorem dX6_count_132 : decode cX6_count 132 = .ok (.bipush 76, 2) := by decide +kernel
theorem dX6_count_134 : decode cX6_count 134 = .ok (.iaload, 1) := by decide +kernel
theorem dX6_count_135 : decode cX6_count 135 = .ok (.ireturn, 1) := by decide +kernel
theorem dX6_count_136 : decode cX6_count 136 = .ok (.aload_n 0, 1) := by decide +kernel
theorem dX6_count_137 : decode cX6_count 137 = .ok (.getfield 23, 3) := by decide +kernel
theorem dX6_count_140 : decode cX6_count 140 = .ok (.bipush 77, 2) := by decide +kernel
theorem dX6_count_142 : decode cX6_count 142 = .ok (.iaload, 1) := by decide +kernel
theorem dX6_count_143 : decode cX6_count 143 = .ok (.ireturn, 1) := by decide +kernel
theorem dX6_count_144 : decode cX6_count 144 = .ok (.aload_n 0, 1) := by decide +kernel
theorem dX6_count_145 : decode cX6_count 145 = .ok (.aload_n 0, 1) := by decide +kernel
theorem dX6_count_146 : decode cX6_count 146 = .ok (.getfield 23, 3) := by decide +kernel
theorem dX6_count_149 : decode cX6_count 149 = .ok (.iconst 0, 1) := by decide +kernel
theorem dX6_count_150 : decode cX6_count 150 = .ok (.invokevirtual 183, 3) := by decide +kernel
theorem dX6_count_153 : decode cX6_count 153 = .ok (.ireturn, 1) := by decide +kernel
theorem dX6_count_154 : decode cX6_count 154 = .ok (.aload_n 0, 1) := by decide +kernel
theorem dX6_count_155 : decode cX6_count 155 = .ok (.aload_n 0, 1) := by decide +kernel
theorem dX6_count_156 : decode cX6_count 156 = .ok (.getfield 23, 3) := by decide +kernel
theorem dX6_count_159 : decode cX6_count 159 = .ok (.iconst 2, 1) := by decide +kernel
theorem dX6_count_160 : decode cX6_count 160 = .ok (.invokevirtual 183, 3) := by decide +kernel
theorem dX6_count_163 : decode cX6_count 163 = .ok (.ireturn, 1) := by decide +kernel
theorem dX6_count_164 : decode cX6_count 164 = .ok (.aload_n 0, 1) := by decide +kernel
theorem dX6_count_165 : decode cX6_count 165 = .ok (.aload_n 0, 1) := by decide +kernel
theorem dX6_count_166 : decode cX6_count 166 = .ok (.getfield 23, 3) := by decide +kernel
theorem dX6_count_169 : decode cX6_count 169 = .ok (.iconst 3, 1) := by decide +kernel
theorem dX6_count_170 : decode cX6_count 170 = .ok (.invokevirtual 183, 3) := by decide +kernel
theorem dX6_count_173 : decode cX6_count 173 = .ok (.ireturn, 1) := by decide +kernel
theorem dX6_count_174 : decode cX6_count 174 = .ok (.aload_n 0, 1) := by decide +kernel
theorem dX6_count_175 : decode cX6_count 175 = .ok (.getfield 99, 3) := by decide +kernel
theorem dX6_count_178 : decode cX6_count 178 = .ok (.ireturn, 1) := by decide +kernel
theorem dX6_count_179 : decode cX6_count 179 = .ok (.aload_n 0, 1) := by decide +kernel
theorem dX6_count_180 : decode cX6_count 180 = .ok (.getfield 223, 3) := by decide +kernel
theorem dX6_count_183 : decode cX6_count 183 = .ok (.ireturn, 1) := by decide +kernel
theorem dX6_count_184 : decode cX6_count 184 = .ok (.bipush (-2), 2) := by decide +kernel
theorem dX6_count_186 : decode cX6_count 186 = .ok (.ireturn, 1) := by decide +kernel
theorem dJ6_bitCount_0f7a4_0 : decode cJ6_bitCount_0f7a4 0 = .ok (.iload_n 0, 1) := by decide +kernel
theorem dJ6_bitCount_0f7a4_1 : decode cJ6_bitCount_0f7a4 1 = .ok (.iload_n 0, 1) := by decide +kernel
theorem dJ6_bitCount_0f7a4_2 : decode cJ6_bitCount_0f7a4 2 = .ok (.iconst 1, 1) := by decide +kernel
theorem dJ6_bitCount_0f7a4_3 : decode cJ6_bitCount_0f7a4 3 = .ok (.iushr, 1) := by decide +kernel
theorem dJ6_bitCount_0f7a4_4 : decode cJ6_bitCount_0f7a4 4 = .ok (.ldc_w 265, 3) := by decide +kernel
theorem dJ6_bitCount_0f7a4_7 : decode cJ6_bitCount_0f7a4 7 = .ok (.iand, 1) := by decide +kernel
theorem dJ6_bitCount_0f7a4_8 : decode cJ6_bitCount_0f7a4 8 = .ok (.isub, 1) := by decide +kernel
theorem dJ6_bitCount_0f7a4_9 : decode cJ6_bitCount_0f7a4 9 = .ok (.istore_n 0, 1) := by decide +kernel
theorem dJ6_bitCount_0f7a4_10 : decode cJ6_bitCount_0f7a4 10 = .ok (.iload_n 0, 1) := by decide +kernel
theorem dJ6_bitCount_0f7a4_11 : decode cJ6_bitCount_0f7a4 11 = .ok (.ldc_w 266, 3) := by decide +kernel
theorem dJ6_bitCount_0f7a4_14 : decode cJ6_bitCount_0f7a4 14 = .ok (.iand, 1) := by decide +kernel
theorem dJ6_bitCount_0f7a4_15 : decode cJ6_bitCount_0f7a4 15 = .ok (.iload_n 0, 1) := by decide +kernel
theorem dJ6_bitCount_0f7a4_16 : decode cJ6_bitCount_0f7a4 16 = .ok (.iconst 2, 1) := by decide +kernel
theorem dJ6_bitCount_0f7a4_17 : decode cJ6_bitCount_0f7a4 17 = .ok (.iushr, 1) := by decide +kernel
theorem dJ6_bitCount_0f7a4_18 : decode cJ6_bitCount_0f7a4 18 = .ok (.ldc_w 266, 3) := by decide +kernel
theorem dJ6_bitCount_0f7a4_21 : decode cJ6_bitCount_0f7a4 21 = .ok (.iand, 1) := by decide +kernel
theorem dJ6_bitCount_0f7a4_22 : decode cJ6_bitCount_0f7a4 22 = .ok (.iadd, 1) := by decide +kernel
theorem dJ6_bitCount_0f7a4_23 : decode cJ6_bitCount_0f7a4 23 = .ok (.istore_n 0, 1) := by decide +kernel
theorem dJ6_bitCount_0f7a4_24 : decode cJ6_bitCount_0f7a4 24 = .ok (.iload_n 0, 1) := by decide +kernel
theorem dJ6_bitCount_0f7a4_25 : decode cJ6_bitCount_0f7a4 25 = .ok (.iload_n 0, 1) := by decide +kernel
theorem dJ6_bitCount_0f7a4_26 : decode cJ6_bitCount_0f7a4 26 = .ok (.iconst 4, 1) := by decide +kernel
theorem dJ6_bitCount_0f7a4_27 : decode cJ6_bitCount_0f7a4 27 = .ok (.iushr, 1) := by decide +kernel
theorem dJ6_bitCount_0f7a4_28 : decode cJ6_bitCount_0f7a4 28 = .ok (.iadd, 1) := by decide +kernel
theorem dJ6_bitCount_0f7a4_29 : decode cJ6_bitCount_0f7a4 29 = .ok (.ldc_w 267, 3) := by decide +kernel
theorem dJ6_bitCount_0f7a4_32 : decode cJ6_bitCount_0f7a4 32 = .ok (.iand, 1) := by decide +kernel
theorem dJ6_bitCount_0f7a4_33 : decode cJ6_bitCount_0f7a4 33 = .ok (.istore_n 0, 1) := by decide +kernel
theorem dJ6_bitCount_0f7a4_34 : decode cJ6_bitCount_0f7a4 34 = .ok (.iload_n 0, 1) := by decide +kernel
theorem dJ6_bitCount_0f7a4_35 : decode cJ6_bitCount_0f7a4 35 = .ok (.iload_n 0, 1) := by decide +kernel
theorem dJ6_bitCount_0f7a4_36 : decode cJ6_bitCount_0f7a4 36 = .ok (.bipush 8, 2) := by decide +kernel
theorem dJ6_bitCount_0f7a4_38 : decode cJ6_bitCount_0f7a4 38 = .ok (.iushr, 1) := by decide +kernel
theorem dJ6_bitCount_0f7a4_39 : decode cJ6_bitCount_0f7a4 39 = .ok (.iadd, 1) := by decide +kernel
theorem dJ6_bitCount_0f7a4_40 : decode cJ6_bitCount_0f7a4 40 = .ok (.istore_n 0, 1) := by decide +kernel
theorem dJ6_bitCount_0f7a4_41 : decode cJ6_bitCount_0f7a4 41 = .ok (.iload_n 0, 1) := by decide +kernel
theorem dJ6_bitCount_0f7a4_42 : decode cJ6_bitCount_0f7a4 42 = .ok (.iload_n 0, 1) := by decide +kernel
theorem dJ6_bitCount_0f7a4_43 : decode cJ6_bitCount_0f7a4 43 = .ok (.bipush 16, 2) := by decide +kernel
theorem dJ6_bitCount_0f7a4_45 : decode cJ6_bitCount_0f7a4 45 = .ok (.iushr, 1) := by decide +kernel
theorem dJ6_bitCount_0f7a4_46 : decode cJ6_bitCount_0f7a4 46 = .ok (.iadd, 1) := by decide +kernel
theorem dJ6_bitCount_0f7a4_47 : decode cJ6_bitCount_0f7a4 47 = .ok (.istore_n 0, 1) := by decide +kernel
theorem dJ6_bitCount_0f7a4_48 : decode cJ6_bitCount_0f7a4 48 = .ok (.iload_n 0, 1) := by decide +kernel
theorem dJ6_bitCount_0f7a4_49 : decode cJ6_bitCount_0f7a4 49 = .ok (.bipush 63, 2) := by decide +kernel
theorem dJ6_bitCount_0f7a4_51 : decode cJ6_bitCount_0f7a4 51 = .ok (.iand, 1) := by decide +kernel
theorem dJ6_bitCount_0f7a4_52 : decode cJ6_bitCount_0f7a4 52 = .ok (.ireturn, 1) := by decide +kernel
theorem dJ9_abs_0f7a4_0 : decode cJ9_abs_0f7a4 0 = .ok (.iload_n 0, 1) := by decide +kernel
theorem dJ9_abs_0f7a4_1 : decode cJ9_abs_0f7a4 1 = .ok (.ifCond .ge 8, 3) := by decide +kernel
theorem dJ9_abs_0f7a4_4 : decode cJ9_abs_0f7a4 4 = .ok (.iload_n 0, 1) := by decide +kernel
theorem dJ9_abs_0f7a4_5 : decode cJ9_abs_0f7a4 5 = .ok (.ineg, 1) := by decide +kernel
theorem dJ9_abs_0f7a4_6 : decode cJ9_abs_0f7a4 6 = .ok (.goto 4, 3) := by decide +kernel
theorem dJ9_abs_0f7a4_9 : decode cJ9_abs_0f7a4 9 = .ok (.iload_n 0, 1) := by decide +kernel
theorem dJ9_abs_0f7a4_10 : decode cJ9_abs_0f7a4 10 = .ok (.ireturn, 1) := by decide +kernel
theorem dJ9_max_7cf53_0 : decode cJ9_max_7cf53 0 = .ok (.iload_n 0, 1) := by decide +kernel
theorem dJ9_max_7cf53_1 : decode cJ9_max_7cf53 1 = .ok (.iload_n 1, 1) := by decide +kernel
theorem dJ9_max_7cf53_2 : decode cJ9_max_7cf53 2 = .ok (.if_icmp .lt 7, 3) := by decide +kernel
theorem dJ9_max_7cf53_5 : decode cJ9_max_7cf53 5 = .ok (.iload_n 0, 1) := by decide +kernel
theorem dJ9_max_7cf53_6 : decode cJ9_max_7cf53 6 = .ok (.goto 4, 3) := by decide +kernel
theorem dJ9_max_7cf53_9 : decode cJ9_max_7cf53 9 = .ok (.iload_n 1, 1) := by decide +kernel
theorem dJ9_max_7cf53_10 : decode cJ9_max_7cf53 10 = .ok (.ireturn, 1) := by decide +kernel
theorem dJ9_min_7cf53_0 : decode cJ9_min_7cf53 0 = .ok (.iload_n 0, 1) := by decide +kernel
theorem dJ9_min_7cf53_1 : decode cJ9_min_7cf53 1 = .ok (.iload_n 1, 1) := by decide +kernel
theorem dJ9_min_7cf53_2 : decode cJ9_min_7cf53 2 = .ok (.if_icmp .gt 7, 3) := by decide +kernel
theorem dJ9_min_7cf53_5 : decode cJ9_min_7cf53 5 = .ok (.iload_n 0, 1) := by decide +kernel
theorem dJ9_min_7cf53_6 : decode cJ9_min_7cf53 6 = .ok (.goto 4, 3) := by decide +kernel
theorem dJ9_min_7cf53_9 : decode cJ9_min_7cf53 9 = .ok (.iload_n 1, 1) := by decide +kernel
theorem dJ9_min_7cf53_10 : decode cJ9_min_7cf53 10 = .ok (.ireturn, 1) := by decide +kernel
theorem dL_law_0 : decode cL_law 0 = .ok (.new 7, 3) := by decide +kernel
theorem dL_law_3 : decode cL_law 3 = .ok (.dup, 1) := by decide +kernel
theorem dL_law_4 : decode cL_law 4 = .ok (.invokespecial 9, 3) := by decide +kernel
theorem dL_law_7 : decode cL_law 7 = .ok (.astore_n 1, 1) := by decide +kernel
theorem dL_law_8 : decode cL_law 8 = .ok (.new 10, 3) := by decide +kernel
theorem dL_law_11 : decode cL_law 11 = .ok (.dup, 1) := by decide +kernel
theorem dL_law_12 : decode cL_law 12 = .ok (.invokespecial 12, 3) := by decide +kernel
theorem dL_law_15 : decode cL_law 15 = .ok (.astore_n 2, 1) := by decide +kernel
theorem dL_law_16 : decode cL_law 16 = .ok (.iconst 0, 1) := by decide +kernel
theorem dL_law_17 : decode cL_law 17 = .ok (.istore_n 3, 1) := by decide +kernel
theorem dL_law_18 : decode cL_law 18 = .ok (.iload_n 3, 1) := by decide +kernel
theorem dL_law_19 : decode cL_law 19 = .ok (.aload_n 0, 1) := by decide +kernel
theorem dL_law_20 : decode cL_law 20 = .ok (.arraylength, 1) := by decide +kernel
theorem dL_law_21 : decode cL_law 21 = .ok (.iconst 4, 1) := by decide +kernel
theorem dL_law_22 : decode cL_law 22 = .ok (.isub, 1) := by decide +kernel
theorem dL_law_23 : decode cL_law 23 = .ok (.if_icmp .gt 893, 3) := by decide +kernel
theorem dL_law_26 : decode cL_law 26 = .ok (.aload_n 0, 1) := by decide +kernel
theorem dL_law_27 : decode cL_law 27 = .ok (.iload_n 3, 1) := by decide +kernel
theorem dL_law_28 : decode cL_law 28 = .ok (.iaload, 1) := by decide +kernel
theorem dL_law_29 : decode cL_law 29 = .ok (.bipush 31, 2) := by decide +kernel
theorem dL_law_31 : decode cL_law 31 = .ok (.iand, 1) := by decide +kernel
theorem dL_law_32 : decode cL_law 32 = .ok (.tableswitch 878 0 26 #[124, 147, 160, 173, 186, 219, 242, 265, 278, 311, 344, 367, 390, 403, 446, 469, 492, 555, 598, 611, 624, 673, 732, 786, 809, 832, 855], 124) := by decide +kernel
theorem dL_law_156 : decode cL_law 156 = .ok (.aload_n 1, 1) := by decide +kernel
theorem dL_law_157 : decode cL_law 157 = .ok (.aload_n 0, 1) := by decide +kernel
theorem dL_law_158 : decode cL_law 158 = .ok (.iload_n 3, 1) := by decide +kernel
theorem dL_law_159 : decode cL_law 159 = .ok (.iconst 1, 1) := by decide +kernel
theorem dL_law_160 : decode cL_law 160 = .ok (.iadd, 1) := by decide +kernel
theorem dL_law_161 : decode cL_law 161 = .ok (.iaload, 1) := by decide +kernel
theorem dL_law_162 : decode cL_law 162 = .ok (.invokevirtual 13, 3) := by decide +kernel
theorem dL_law_165 : decode cL_law 165 = .ok (.aload_n 2, 1) := by decide +kernel
theorem dL_law_166 : decode cL_law 166 = .ok (.aload_n 0, 1) := by decide +kernel
theorem dL_law_167 : decode cL_law 167 = .ok (.iload_n 3, 1) := by decide +kernel
theorem dL_law_168 : decode cL_law 168 = .ok (.iconst 1, 1) := by decide +kernel
theorem dL_law_169 : decode cL_law 169 = .ok (.iadd, 1) := by decide +kernel
theorem dL_law_170 : decode cL_law 170 = .ok (.iaload, 1) := by decide +kernel
theorem dL_law_171 : decode cL_law 171 = .ok (.invokevirtual 17, 3) := by decide +kernel
theorem dL_law_174 : decode cL_law 174 = .ok (.if_icmp .eq 736, 3) := by decide +kernel
theorem dL_law_177 : decode cL_law 177 = .ok (.iconst 0, 1) := by decide +kernel
theorem dL_law_178 : decode cL_law 178 = .ok (.ireturn, 1) := by decide +kernel
theorem dL_law_179 : decode cL_law 179 = .ok (.aload_n 1, 1) := by decide +kernel
theorem dL_law_180 : decode cL_law 180 = .ok (.invokevirtual 18, 3) := by decide +kernel
theorem dL_law_183 : decode cL_law 183 = .ok (.aload_n 2, 1) := by decide +kernel
theorem dL_law_184 : decode cL_law 184 = .ok (.invokevirtual 22, 3) := by decide +kernel
theorem dL_law_187 : decode cL_law 187 = .ok (.if_icmp .eq 723, 3) := by decide +kernel
theorem dL_law_190 : decode cL_law 190 = .ok (.iconst 0, 1) := by decide +kernel
theorem dL_law_191 : decode cL_law 191 = .ok (.ireturn, 1) := by decide +kernel
theorem dL_law_192 : decode cL_law 192 = .ok (.aload_n 1, 1) := by decide +kernel
theorem dL_law_193 : decode cL_law 193 = .ok (.invokevirtual 23, 3) := by decide +kernel
theorem dL_law_196 : decode cL_law 196 = .ok (.aload_n 2, 1) := by decide +kernel
theorem dL_law_197 : decode cL_law 197 = .ok (.invokevirtual 26, 3) := by decide +kernel
theorem dL_law_200 : decode cL_law 200 = .ok (.if_icmp .eq 710, 3) := by decide +kernel
theorem dL_law_203 : decode cL_law 203 = .ok (.iconst 0, 1) := by decide +kernel
theorem dL_law_204 : decode cL_law 204 = .ok (.ireturn, 1) := by decide +kernel
theorem dL_law_205 : decode cL_law 205 = .ok (.aload_n 1, 1) := by decide +kernel
theorem dL_law_206 : decode cL_law 206 = .ok (.invokevirtual 27, 3) := by decide +kernel
theorem dL_law_209 : decode cL_law 209 = .ok (.aload_n 2, 1) := by decide +kernel
theorem dL_law_210 : decode cL_law 210 = .ok (.invokevirtual 30, 3) := by decide +kernel
theorem dL_law_213 : decode cL_law 213 = .ok (.if_icmp .eq 697, 3) := by decide +kernel
theorem dL_law_216 : decode cL_law 216 = .ok (.iconst 0, 1) := by decide +kernel
theorem dL_law_217 : decode cL_law 217 = .ok (.ireturn, 1) := by decide +kernel
theorem dL_law_218 : decode cL_law 218 = .ok (.aload_n 1, 1) := by decide +kernel
theorem dL_law_219 : decode cL_law 219 = .ok (.aload_n 0, 1) := by decide +kernel
theorem dL_law_220 : decode cL_law 220 = .ok (.iload_n 3, 1) := by decide +kernel
theorem dL_law_221 : decode cL_law 221 = .ok (.iconst 1, 1) := by decide +kernel
theorem dL_law_222 : decode cL_law 222 = .ok (.iadd, 1) := by decide +kernel
theorem dL_law_223 : decode cL_law 223 = .ok (.iaload, 1) := by decide +kernel
theorem dL_law_224 : decode cL_law 224 = .ok (.aload_n 0, 1) := by decide +kernel
theorem dL_law_225 : decode cL_law 225 = .ok (.iload_n 3, 1) := by decide +kernel
theorem dL_law_226 : decode cL_law 226 = .ok (.iconst 2, 1) := by decide +kernel
theorem dL_law_227 : decode cL_law 227 = .ok (.iadd, 1) := by decide +kernel
theorem dL_law_228 : decode cL_law 228 = .ok (.iaload, 1) := by decide +kernel
theorem dL_law_229 : decode cL_law 229 = .ok (.invokevirtual 31, 3) := by decide +kernel
theorem dL_law_232 : decode cL_law 232 = .ok (.aload_n 2, 1) := by decide +kernel
theorem dL_law_233 : decode cL_law 233 = .ok (.aload_n 0, 1) := by decide +kernel
theorem dL_law_234 : decode cL_law 234 = .ok (.iload_n 3, 1) := by decide +kernel
theorem dL_law_235 : decode cL_law 235 = .ok (.iconst 1, 1) := by decide +kernel
theorem dL_law_236 : decode cL_law 236 = .ok (.iadd, 1) := by decide +kernel
theorem dL_law_237 : decode cL_law 237 = .ok (.iaload, 1) := by decide +kernel
theorem dL_law_238 : decode cL_law 238 = .ok (.aload_n 0, 1) := by decide +kernel
theorem dL_law_239 : decode cL_law 239 = .ok (.iload_n 3, 1) := by decide +kernel
theorem dL_law_240 : decode cL_law 240 = .ok (.iconst 2, 1) := by decide +kernel
theorem dL_law_241 : decode cL_law 241 = .ok (.iadd, 1) := by decide +kernel
theorem dL_law_242 : decode cL_law 242 = .ok (.iaload, 1) := by decide +kernel
theorem dL_law_243 : decode cL_law 243 = .ok (.invokevirtual 35, 3) := by decide +kernel
theorem dL_law_246 : decode cL_law 246 = .ok (.if_icmp .eq 664, 3) := by decide +kernel
theorem dL_law_249 : decode cL_law 249 = .ok (.iconst 0, 1) := by decide +kernel
theorem dL_law_250 : decode cL_law 250 = .ok (.ireturn, 1) := by decide +kernel
theorem dL_law_251 : decode cL_law 251 = .ok (.aload_n 1, 1) := by decide +kernel
theorem dL_law_252 : decode cL_law 252 = .ok (.aload_n 0, 1) := by decide +kernel
theorem dL_law_253 : decode cL_law 253 = .ok (.iload_n 3, 1) := by decide +kernel
theorem dL_law_254 : decode cL_law 254 = .ok (.iconst 1, 1) := by decide +kernel
theorem dL_law_255 : decode cL_law 255 = .ok (.iadd, 1) := by decide +kernel
theorem dL_law_256 : decode cL_law 256 = .ok (.iaload, 1) := by decide +kernel
theorem dL_law_257 : decode cL_law 257 = .ok (.invokevirtual 36, 3) := by decide +kernel
theorem dL_law_260 : decode cL_law 260 = .ok (.aload_n 2, 1) := by decide +kernel
theorem dL_law_261 : decode cL_law 261 = .ok (.aload_n 0, 1) := by decide +kernel
theorem dL_law_262 : decode cL_law 262 = .ok (.iload_n 3, 1) := by decide +kernel
theorem dL_law_263 : decode cL_law 263 = .ok (.iconst 1, 1) := by decide +kernel
theorem dL_law_264 : decode cL_law 264 = .ok (.iadd, 1) := by decide +kernel
theorem dL_law_265 : decode cL_law 265 = .ok (.iaload, 1) := by decide +kernel
theorem dL_law_266 : decode cL_law 266 = .ok (.invokevirtual 39, 3) := by decide +kernel
theorem dL_law_269 : decode cL_law 269 = .ok (.if_icmp .eq 641, 3) := by decide +kernel
theorem dL_law_272 : decode cL_law 272 = .ok (.iconst 0, 1) := by decide +kernel
theorem dL_law_273 : decode cL_law 273 = .ok (.ireturn, 1) := by decide +kernel
theorem dL_law_274 : decode cL_law 274 = .ok (.aload_n 1, 1) := by decide +kernel
theorem dL_law_275 : decode cL_law 275 = .ok (.aload_n 0, 1) := by decide +kernel
theorem dL_law_276 : decode cL_law 276 = .ok (.iload_n 3, 1) := by decide +kernel
theorem dL_law_277 : decode cL_law 277 = .ok (.iconst 1, 1) := by decide +kernel
theorem dL_law_278 : decode cL_law 278 = .ok (.iadd, 1) := by decide +kernel
theorem dL_law_279 : decode cL_law 279 = .ok (.iaload, 1) := by decide +kernel
theorem dL_law_280 : decode cL_law 280 = .ok (.invokevirtual 40, 3) := by decide +kernel
theorem dL_law_283 : decode cL_law 283 = .ok (.aload_n 2, 1) := by decide +kernel
theorem dL_law_284 : decode cL_law 284 = .ok (.aload_n 0, 1) := by decide +kernel
theorem dL_law_285 : decode cL_law 285 = .ok (.iload_n 3, 1) := by decide +kernel
theorem dL_law_286 : decode cL_law 286 = .ok (.iconst 1, 1) := by decide +kernel
theorem dL_law_287 : decode cL_law 287 = .ok (.iadd, 1) := by decide +kernel
theorem dL_law_288 : decode cL_law 288 = .ok (.iaload, 1) := by decide +kernel
theorem dL_law_289 : decode cL_law 289 = .ok (.invokevirtual 43, 3) := by decide +kernel
theorem dL_law_292 : decode cL_law 292 = .ok (.if_icmp .eq 618, 3) := by decide +kernel
theorem dL_law_295 : decode cL_law 295 = .ok (.iconst 0, 1) := by decide +kernel
theorem dL_law_296 : decode cL_law 296 = .ok (.ireturn, 1) := by decide +kernel
theorem dL_law_297 : decode cL_law 297 = .ok (.aload_n 1, 1) := by decide +kernel
theorem dL_law_298 : decode cL_law 298 = .ok (.invokevirtual 44, 3) := by decide +kernel
theorem dL_law_301 : decode cL_law 301 = .ok (.aload_n 2, 1) := by decide +kernel
theorem dL_law_302 : decode cL_law 302 = .ok (.invokevirtual 47, 3) := by decide +kernel
theorem dL_law_305 : decode cL_law 305 = .ok (.if_icmp .eq 605, 3) := by decide +kernel
theorem dL_law_308 : decode cL_law 308 = .ok (.iconst 0, 1) := by decide +kernel
theorem dL_law_309 : decode cL_law 309 = .ok (.ireturn, 1) := by decide +kernel
theorem dL_law_310 : decode cL_law 310 = .ok (.aload_n 1, 1) := by decide +kernel
theorem dL_law_311 : decode cL_law 311 = .ok (.aload_n 0, 1) := by decide +kernel
theorem dL_law_312 : decode cL_law 312 = .ok (.iload_n 3, 1) := by decide +kernel
theorem dL_law_313 : decode cL_law 313 = .ok (.iconst 1, 1) := by decide +kernel
theorem dL_law_314 : decode cL_law 314 = .ok (.iadd, 1) := by decide +kernel
theorem dL_law_315 : decode cL_law 315 = .ok (.iaload, 1) := by decide +kernel
theorem dL_law_316 : decode cL_law 316 = .ok (.aload_n 0, 1) := by decide +kernel
theorem dL_law_317 : decode cL_law 317 = .ok (.iload_n 3, 1) := by decide +kernel
theorem dL_law_318 : decode cL_law 318 = .ok (.iconst 2, 1) := by decide +kernel
theorem dL_law_319 : decode cL_law 319 = .ok (.iadd, 1) := by decide +kernel
theorem dL_law_320 : decode cL_law 320 = .ok (.iaload, 1) := by decide +kernel
theorem dL_law_321 : decode cL_law 321 = .ok (.invokevirtual 48, 3) := by decide +kernel
theorem dL_law_324 : decode cL_law 324 = .ok (.aload_n 2, 1) := by decide +kernel
theorem dL_law_325 : decode cL_law 325 = .ok (.aload_n 0, 1) := by decide +kernel
theorem dL_law_326 : decode cL_law 326 = .ok (.iload_n 3, 1) := by decide +kernel
theorem dL_law_327 : decode cL_law 327 = .ok (.iconst 1, 1) := by decide +kernel
theorem dL_law_328 : decode cL_law 328 = .ok (.iadd, 1) := by decide +kernel
theorem dL_law_329 : decode cL_law 329 = .ok (.iaload, 1) := by decide +kernel
theorem dL_law_330 : decode cL_law 330 = .ok (.aload_n 0, 1) := by decide +kernel
theorem dL_law_331 : decode cL_law 331 = .ok (.iload_n 3, 1) := by decide +kernel
theorem dL_law_332 : decode cL_law 332 = .ok (.iconst 2, 1) := by decide +kernel
theorem dL_law_333 : decode cL_law 333 = .ok (.iadd, 1) := by decide +kernel
theorem dL_law_334 : decode cL_law 334 = .ok (.iaload, 1) := by decide +kernel
theorem dL_law_335 : decode cL_law 335 = .ok (.invokevirtual 51, 3) := by decide +kernel
theorem dL_law_338 : decode cL_law 338 = .ok (.if_icmp .eq 572, 3) := by decide +kernel
theorem dL_law_341 : decode cL_law 341 = .ok (.iconst 0, 1) := by decide +kernel
theorem dL_law_342 : decode cL_law 342 = .ok (.ireturn, 1) := by decide +kernel
theorem dL_law_343 : decode cL_law 343 = .ok (.aload_n 1, 1) := by decide +kernel
theorem dL_law_344 : decode cL_law 344 = .ok (.aload_n 0, 1) := by decide +kernel
theorem dL_law_345 : decode cL_law 345 = .ok (.iload_n 3, 1) := by decide +kernel
theorem dL_law_346 : decode cL_law 346 = .ok (.iconst 1, 1) := by decide +kernel
theorem dL_law_347 : decode cL_law 347 = .ok (.iadd, 1) := by decide +kernel
theorem dL_law_348 : decode cL_law 348 = .ok (.iaload, 1) := by decide +kernel
theorem dL_law_349 : decode cL_law 349 = .ok (.aload_n 0, 1) := by decide +kernel
theorem dL_law_350 : decode cL_law 350 = .ok (.iload_n 3, 1) := by decide +kernel
theorem dL_law_351 : decode cL_law 351 = .ok (.iconst 2, 1) := by decide +kernel
theorem dL_law_352 : decode cL_law 352 = .ok (.iadd, 1) := by decide +kernel
theorem dL_law_353 : decode cL_law 353 = .ok (.iaload, 1) := by decide +kernel
theorem dL_law_354 : decode cL_law 354 = .ok (.invokevirtual 52, 3) := by decide +kernel
theorem dL_law_357 : decode cL_law 357 = .ok (.aload_n 2, 1) := by decide +kernel
theorem dL_law_358 : decode cL_law 358 = .ok (.aload_n 0, 1) := by decide +kernel
theorem dL_law_359 : decode cL_law 359 = .ok (.iload_n 3, 1) := by decide +kernel
theorem dL_law_360 : decode cL_law 360 = .ok (.iconst 1, 1) := by decide +kernel
theorem dL_law_361 : decode cL_law 361 = .ok (.iadd, 1) := by decide +kernel
theorem dL_law_362 : decode cL_law 362 = .ok (.iaload, 1) := by decide +kernel
theorem dL_law_363 : decode cL_law 363 = .ok (.aload_n 0, 1) := by decide +kernel
theorem dL_law_364 : decode cL_law 364 = .ok (.iload_n 3, 1) := by decide +kernel
theorem dL_law_365 : decode cL_law 365 = .ok (.iconst 2, 1) := by decide +kernel
theorem dL_law_366 : decode cL_law 366 = .ok (.iadd, 1) := by decide +kernel
theorem dL_law_367 : decode cL_law 367 = .ok (.iaload, 1) := by decide +kernel
theorem dL_law_368 : decode cL_law 368 = .ok (.invokevirtual 55, 3) := by decide +kernel
theorem dL_law_371 : decode cL_law 371 = .ok (.if_icmp .eq 539, 3) := by decide +kernel
theorem dL_law_374 : decode cL_law 374 = .ok (.iconst 0, 1) := by decide +kernel
theorem dL_law_375 : decode cL_law 375 = .ok (.ireturn, 1) := by decide +kernel
theorem dL_law_376 : decode cL_law 376 = .ok (.aload_n 1, 1) := by decide +kernel
theorem dL_law_377 : decode cL_law 377 = .ok (.aload_n 0, 1) := by decide +kernel
theorem dL_law_378 : decode cL_law 378 = .ok (.iload_n 3, 1) := by decide +kernel
theorem dL_law_379 : decode cL_law 379 = .ok (.iconst 1, 1) := by decide +kernel
theorem dL_law_380 : decode cL_law 380 = .ok (.iadd, 1) := by decide +kernel
theorem dL_law_381 : decode cL_law 381 = .ok (.iaload, 1) := by decide +kernel
theorem dL_law_382 : decode cL_law 382 = .ok (.invokevirtual 56, 3) := by decide +kernel
theorem dL_law_385 : decode cL_law 385 = .ok (.aload_n 2, 1) := by decide +kernel
theorem dL_law_386 : decode cL_law 386 = .ok (.aload_n 0, 1) := by decide +kernel
theorem dL_law_387 : decode cL_law 387 = .ok (.iload_n 3, 1) := by decide +kernel
theorem dL_law_388 : decode cL_law 388 = .ok (.iconst 1, 1) := by decide +kernel
theorem dL_law_389 : decode cL_law 389 = .ok (.iadd, 1) := by decide +kernel
theorem dL_law_390 : decode cL_law 390 = .ok (.iaload, 1) := by decide +kernel
theorem dL_law_391 : decode cL_law 391 = .ok (.invokevirtual 59, 3) := by decide +kernel
theorem dL_law_394 : decode cL_law 394 = .ok (.if_icmp .eq 516, 3) := by decide +kernel
theorem dL_law_397 : decode cL_law 397 = .ok (.iconst 0, 1) := by decide +kernel
theorem dL_law_398 : decode cL_law 398 = .ok (.ireturn, 1) := by decide +kernel
theorem dL_law_399 : decode cL_law 399 = .ok (.aload_n 1, 1) := by decide +kernel
theorem dL_law_400 : decode cL_law 400 = .ok (.aload_n 0, 1) := by decide +kernel
theorem dL_law_401 : decode cL_law 401 = .ok (.iload_n 3, 1) := by decide +kernel
theorem dL_law_402 : decode cL_law 402 = .ok (.iconst 1, 1) := by decide +kernel
theorem dL_law_403 : decode cL_law 403 = .ok (.iadd, 1) := by decide +kernel
theorem dL_law_404 : decode cL_law 404 = .ok (.iaload, 1) := by decide +kernel
theorem dL_law_405 : decode cL_law 405 = .ok (.invokevirtual 60, 3) := by decide +kernel
theorem dL_law_408 : decode cL_law 408 = .ok (.aload_n 2, 1) := by decide +kernel
theorem dL_law_409 : decode cL_law 409 = .ok (.aload_n 0, 1) := by decide +kernel
theorem dL_law_410 : decode cL_law 410 = .ok (.iload_n 3, 1) := by decide +kernel
theorem dL_law_411 : decode cL_law 411 = .ok (.iconst 1, 1) := by decide +kernel
theorem dL_law_412 : decode cL_law 412 = .ok (.iadd, 1) := by decide +kernel
theorem dL_law_413 : decode cL_law 413 = .ok (.iaload, 1) := by decide +kernel
theorem dL_law_414 : decode cL_law 414 = .ok (.invokevirtual 63, 3) := by decide +kernel
theorem dL_law_417 : decode cL_law 417 = .ok (.if_icmp .eq 493, 3) := by decide +kernel
theorem dL_law_420 : decode cL_law 420 = .ok (.iconst 0, 1) := by decide +kernel
theorem dL_law_421 : decode cL_law 421 = .ok (.ireturn, 1) := by decide +kernel
theorem dL_law_422 : decode cL_law 422 = .ok (.aload_n 1, 1) := by decide +kernel
theorem dL_law_423 : decode cL_law 423 = .ok (.invokevirtual 64, 3) := by decide +kernel
theorem dL_law_426 : decode cL_law 426 = .ok (.aload_n 2, 1) := by decide +kernel
theorem dL_law_427 : decode cL_law 427 = .ok (.invokevirtual 67, 3) := by decide +kernel
theorem dL_law_430 : decode cL_law 430 = .ok (.if_icmp .eq 480, 3) := by decide +kernel
theorem dL_law_433 : decode cL_law 433 = .ok (.iconst 0, 1) := by decide +kernel
theorem dL_law_434 : decode cL_law 434 = .ok (.ireturn, 1) := by decide +kernel
theorem dL_law_435 : decode cL_law 435 = .ok (.aload_n 1, 1) := by decide +kernel
theorem dL_law_436 : decode cL_law 436 = .ok (.aload_n 0, 1) := by decide +kernel
theorem dL_law_437 : decode cL_law 437 = .ok (.iload_n 3, 1) := by decide +kernel
theorem dL_law_438 : decode cL_law 438 = .ok (.iconst 1, 1) := by decide +kernel
theorem dL_law_439 : decode cL_law 439 = .ok (.iadd, 1) := by decide +kernel
theorem dL_law_440 : decode cL_law 440 = .ok (.iaload, 1) := by decide +kernel
theorem dL_law_441 : decode cL_law 441 = .ok (.aload_n 0, 1) := by decide +kernel
theorem dL_law_442 : decode cL_law 442 = .ok (.iload_n 3, 1) := by decide +kernel
theorem dL_law_443 : decode cL_law 443 = .ok (.iconst 2, 1) := by decide +kernel
theorem dL_law_444 : decode cL_law 444 = .ok (.iadd, 1) := by decide +kernel
theorem dL_law_445 : decode cL_law 445 = .ok (.iaload, 1) := by decide +kernel
theorem dL_law_446 : decode cL_law 446 = .ok (.aload_n 0, 1) := by decide +kernel
theorem dL_law_447 : decode cL_law 447 = .ok (.iload_n 3, 1) := by decide +kernel
theorem dL_law_448 : decode cL_law 448 = .ok (.iconst 3, 1) := by decide +kernel
theorem dL_law_449 : decode cL_law 449 = .ok (.iadd, 1) := by decide +kernel
theorem dL_law_450 : decode cL_law 450 = .ok (.iaload, 1) := by decide +kernel
theorem dL_law_451 : decode cL_law 451 = .ok (.invokevirtual 68, 3) := by decide +kernel
theorem dL_law_454 : decode cL_law 454 = .ok (.aload_n 2, 1) := by decide +kernel
theorem dL_law_455 : decode cL_law 455 = .ok (.aload_n 0, 1) := by decide +kernel
theorem dL_law_456 : decode cL_law 456 = .ok (.iload_n 3, 1) := by decide +kernel
theorem dL_law_457 : decode cL_law 457 = .ok (.iconst 1, 1) := by decide +kernel
theorem dL_law_458 : decode cL_law 458 = .ok (.iadd, 1) := by decide +kernel
theorem dL_law_459 : decode cL_law 459 = .ok (.iaload, 1) := by decide +kernel
theorem dL_law_460 : decode cL_law 460 = .ok (.aload_n 0, 1) := by decide +kernel
theorem dL_law_461 : decode cL_law 461 = .ok (.iload_n 3, 1) := by decide +kernel
theorem dL_law_462 : decode cL_law 462 = .ok (.iconst 2, 1) := by decide +kernel
theorem dL_law_463 : decode cL_law 463 = .ok (.iadd, 1) := by decide +kernel
theorem dL_law_464 : decode cL_law 464 = .ok (.iaload, 1) := by decide +kernel
theorem dL_law_465 : decode cL_law 465 = .ok (.aload_n 0, 1) := by decide +kernel
theorem dL_law_466 : decode cL_law 466 = .ok (.iload_n 3, 1) := by decide +kernel
theorem dL_law_467 : decode cL_law 467 = .ok (.iconst 3, 1) := by decide +kernel
theorem dL_law_468 : decode cL_law 468 = .ok (.iadd, 1) := by decide +kernel
theorem dL_law_469 : decode cL_law 469 = .ok (.iaload, 1) := by decide +kernel
theorem dL_law_470 : decode cL_law 470 = .ok (.invokevirtual 72, 3) := by decide +kernel
theorem dL_law_473 : decode cL_law 473 = .ok (.if_icmp .eq 437, 3) := by decide +kernel
theorem dL_law_476 : decode cL_law 476 = .ok (.iconst 0, 1) := by decide +kernel
theorem dL_law_477 : decode cL_law 477 = .ok (.ireturn, 1) := by decide +kernel
theorem dL_law_478 : decode cL_law 478 = .ok (.aload_n 1, 1) := by decide +kernel
theorem dL_law_479 : decode cL_law 479 = .ok (.aload_n 0, 1) := by decide +kernel
theorem dL_law_480 : decode cL_law 480 = .ok (.iload_n 3, 1) := by decide +kernel
theorem dL_law_481 : decode cL_law 481 = .ok (.iconst 1, 1) := by decide +kernel
theorem dL_law_482 : decode cL_law 482 = .ok (.iadd, 1) := by decide +kernel
theorem dL_law_483 : decode cL_law 483 = .ok (.iaload, 1) := by decide +kernel
theorem dL_law_484 : decode cL_law 484 = .ok (.invokevirtual 73, 3) := by decide +kernel
theorem dL_law_487 : decode cL_law 487 = .ok (.aload_n 2, 1) := by decide +kernel
theorem dL_law_488 : decode cL_law 488 = .ok (.aload_n 0, 1) := by decide +kernel
theorem dL_law_489 : decode cL_law 489 = .ok (.iload_n 3, 1) := by decide +kernel
theorem dL_law_490 : decode cL_law 490 = .ok (.iconst 1, 1) := by decide +kernel
theorem dL_law_491 : decode cL_law 491 = .ok (.iadd, 1) := by decide +kernel
theorem dL_law_492 : decode cL_law 492 = .ok (.iaload, 1) := by decide +kernel
theorem dL_law_493 : decode cL_law 493 = .ok (.invokevirtual 76, 3) := by decide +kernel
theorem dL_law_496 : decode cL_law 496 = .ok (.if_icmp .eq 414, 3) := by decide +kernel
theorem dL_law_499 : decode cL_law 499 = .ok (.iconst 0, 1) := by decide +kernel
theorem dL_law_500 : decode cL_law 500 = .ok (.ireturn, 1) := by decide +kernel
theorem dL_law_501 : decode cL_law 501 = .ok (.aload_n 1, 1) := by decide +kernel
theorem dL_law_502 : decode cL_law 502 = .ok (.aload_n 0, 1) := by decide +kernel
theorem dL_law_503 : decode cL_law 503 = .ok (.iload_n 3, 1) := by decide +kernel
theorem dL_law_504 : decode cL_law 504 = .ok (.iconst 1, 1) := by decide +kernel
theorem dL_law_505 : decode cL_law 505 = .ok (.iadd, 1) := by decide +kernel
theorem dL_law_506 : decode cL_law 506 = .ok (.iaload, 1) := by decide +kernel
theorem dL_law_507 : decode cL_law 507 = .ok (.invokevirtual 77, 3) := by decide +kernel
theorem dL_law_510 : decode cL_law 510 = .ok (.aload_n 2, 1) := by decide +kernel
theorem dL_law_511 : decode cL_law 511 = .ok (.aload_n 0, 1) := by decide +kernel
theorem dL_law_512 : decode cL_law 512 = .ok (.iload_n 3, 1) := by decide +kernel
theorem dL_law_513 : decode cL_law 513 = .ok (.iconst 1, 1) := by decide +kernel
theorem dL_law_514 : decode cL_law 514 = .ok (.iadd, 1) := by decide +kernel
theorem dL_law_515 : decode cL_law 515 = .ok (.iaload, 1) := by decide +kernel
theorem dL_law_516 : decode cL_law 516 = .ok (.invokevirtual 80, 3) := by decide +kernel
theorem dL_law_519 : decode cL_law 519 = .ok (.if_icmp .eq 391, 3) := by decide +kernel
theorem dL_law_522 : decode cL_law 522 = .ok (.iconst 0, 1) := by decide +kernel
theorem dL_law_523 : decode cL_law 523 = .ok (.ireturn, 1) := by decide +kernel
theorem dL_law_524 : decode cL_law 524 = .ok (.aload_n 1, 1) := by decide +kernel
theorem dL_law_525 : decode cL_law 525 = .ok (.aload_n 0, 1) := by decide +kernel
theorem dL_law_526 : decode cL_law 526 = .ok (.iload_n 3, 1) := by decide +kernel
theorem dL_law_527 : decode cL_law 527 = .ok (.iconst 1, 1) := by decide +kernel
theorem dL_law_528 : decode cL_law 528 = .ok (.iadd, 1) := by decide +kernel
theorem dL_law_529 : decode cL_law 529 = .ok (.iaload, 1) := by decide +kernel
theorem dL_law_530 : decode cL_law 530 = .ok (.aload_n 0, 1) := by decide +kernel
theorem dL_law_531 : decode cL_law 531 = .ok (.iload_n 3, 1) := by decide +kernel
theorem dL_law_532 : decode cL_law 532 = .ok (.iconst 2, 1) := by decide +kernel
theorem dL_law_533 : decode cL_law 533 = .ok (.iadd, 1) := by decide +kernel
theorem dL_law_534 : decode cL_law 534 = .ok (.iaload, 1) := by decide +kernel
theorem dL_law_535 : decode cL_law 535 = .ok (.i2l, 1) := by decide +kernel
theorem dL_law_536 : decode cL_law 536 = .ok (.bipush 32, 2) := by decide +kernel
theorem dL_law_538 : decode cL_law 538 = .ok (.lshl, 1) := by decide +kernel
theorem dL_law_539 : decode cL_law 539 = .ok (.aload_n 0, 1) := by decide +kernel
theorem dL_law_540 : decode cL_law 540 = .ok (.iload_n 3, 1) := by decide +kernel
theorem dL_law_541 : decode cL_law 541 = .ok (.iconst 3, 1) := by decide +kernel
theorem dL_law_542 : decode cL_law 542 = .ok (.iadd, 1) := by decide +kernel
theorem dL_law_543 : decode cL_law 543 = .ok (.iaload, 1) := by decide +kernel
theorem dL_law_544 : decode cL_law 544 = .ok (.i2l, 1) := by decide +kernel
theorem dL_law_545 : decode cL_law 545 = .ok (.ldc2_w 81, 3) := by decide +kernel
theorem dL_law_548 : decode cL_law 548 = .ok (.land, 1) := by decide +kernel
theorem dL_law_549 : decode cL_law 549 = .ok (.lor, 1) := by decide +kernel
theorem dL_law_550 : decode cL_law 550 = .ok (.invokevirtual 83, 3) := by decide +kernel
theorem dL_law_553 : decode cL_law 553 = .ok (.aload_n 2, 1) := by decide +kernel
theorem dL_law_554 : decode cL_law 554 = .ok (.aload_n 0, 1) := by decide +kernel
theorem dL_law_555 : decode cL_law 555 = .ok (.iload_n 3, 1) := by decide +kernel
theorem dL_law_556 : decode cL_law 556 = .ok (.iconst 1, 1) := by decide +kernel
theorem dL_law_557 : decode cL_law 557 = .ok (.iadd, 1) := by decide +kernel
theorem dL_law_558 : decode cL_law 558 = .ok (.iaload, 1) := by decide +kernel
theorem dL_law_559 : decode cL_law 559 = .ok (.aload_n 0, 1) := by decide +kernel
theorem dL_law_560 : decode cL_law 560 = .ok (.iload_n 3, 1) := by decide +kernel
theorem dL_law_561 : decode cL_law 561 = .ok (.iconst 2, 1) := by decide +kernel
theorem dL_law_562 : decode cL_law 562 = .ok (.iadd, 1) := by decide +kernel
theorem dL_law_563 : decode cL_law 563 = .ok (.iaload, 1) := by decide +kernel
theorem dL_law_564 : decode cL_law 564 = .ok (.i2l, 1) := by decide +kernel
theorem dL_law_565 : decode cL_law 565 = .ok (.bipush 32, 2) := by decide +kernel
theorem dL_law_567 : decode cL_law 567 = .ok (.lshl, 1) := by decide +kernel
theorem dL_law_568 : decode cL_law 568 = .ok (.aload_n 0, 1) := by decide +kernel
theorem dL_law_569 : decode cL_law 569 = .ok (.iload_n 3, 1) := by decide +kernel
theorem dL_law_570 : decode cL_law 570 = .ok (.iconst 3, 1) := by decide +kernel
theorem dL_law_571 : decode cL_law 571 = .ok (.iadd, 1) := by decide +kernel
theorem dL_law_572 : decode cL_law 572 = .ok (.iaload, 1) := by decide +kernel
theorem dL_law_573 : decode cL_law 573 = .ok (.i2l, 1) := by decide +kernel
theorem dL_law_574 : decode cL_law 574 = .ok (.ldc2_w 81, 3) := by decide +kernel
theorem dL_law_577 : decode cL_law 577 = .ok (.land, 1) := by decide +kernel
theorem dL_law_578 : decode cL_law 578 = .ok (.lor, 1) := by decide +kernel
theorem dL_law_579 : decode cL_law 579 = .ok (.invokevirtual 87, 3) := by decide +kernel
theorem dL_law_582 : decode cL_law 582 = .ok (.if_icmp .eq 328, 3) := by decide +kernel
theorem dL_law_585 : decode cL_law 585 = .ok (.iconst 0, 1) := by decide +kernel
theorem dL_law_586 : decode cL_law 586 = .ok (.ireturn, 1) := by decide +kernel
theorem dL_law_587 : decode cL_law 587 = .ok (.aload_n 1, 1) := by decide +kernel
theorem dL_law_588 : decode cL_law 588 = .ok (.aload_n 0, 1) := by decide +kernel
theorem dL_law_589 : decode cL_law 589 = .ok (.iload_n 3, 1) := by decide +kernel
theorem dL_law_590 : decode cL_law 590 = .ok (.iconst 1, 1) := by decide +kernel
theorem dL_law_591 : decode cL_law 591 = .ok (.iadd, 1) := by decide +kernel
theorem dL_law_592 : decode cL_law 592 = .ok (.iaload, 1) := by decide +kernel
theorem dL_law_593 : decode cL_law 593 = .ok (.aload_n 0, 1) := by decide +kernel
theorem dL_law_594 : decode cL_law 594 = .ok (.iload_n 3, 1) := by decide +kernel
theorem dL_law_595 : decode cL_law 595 = .ok (.iconst 2, 1) := by decide +kernel
theorem dL_law_596 : decode cL_law 596 = .ok (.iadd, 1) := by decide +kernel
theorem dL_law_597 : decode cL_law 597 = .ok (.iaload, 1) := by decide +kernel
theorem dL_law_598 : decode cL_law 598 = .ok (.aload_n 0, 1) := by decide +kernel
theorem dL_law_599 : decode cL_law 599 = .ok (.iload_n 3, 1) := by decide +kernel
theorem dL_law_600 : decode cL_law 600 = .ok (.iconst 3, 1) := by decide +kernel
theorem dL_law_601 : decode cL_law 601 = .ok (.iadd, 1) := by decide +kernel
theorem dL_law_602 : decode cL_law 602 = .ok (.iaload, 1) := by decide +kernel
theorem dL_law_603 : decode cL_law 603 = .ok (.invokevirtual 88, 3) := by decide +kernel
theorem dL_law_606 : decode cL_law 606 = .ok (.aload_n 2, 1) := by decide +kernel
theorem dL_law_607 : decode cL_law 607 = .ok (.aload_n 0, 1) := by decide +kernel
theorem dL_law_608 : decode cL_law 608 = .ok (.iload_n 3, 1) := by decide +kernel
theorem dL_law_609 : decode cL_law 609 = .ok (.iconst 1, 1) := by decide +kernel
theorem dL_law_610 : decode cL_law 610 = .ok (.iadd, 1) := by decide +kernel
theorem dL_law_611 : decode cL_law 611 = .ok (.iaload, 1) := by decide +kernel
theorem dL_law_612 : decode cL_law 612 = .ok (.aload_n 0, 1) := by decide +kernel
theorem dL_law_613 : decode cL_law 613 = .ok (.iload_n 3, 1) := by decide +kernel
theorem dL_law_614 : decode cL_law 614 = .ok (.iconst 2, 1) := by decide +kernel
theorem dL_law_615 : decode cL_law 615 = .ok (.iadd, 1) := by decide +kernel
theorem dL_law_616 : decode cL_law 616 = .ok (.iaload, 1) := by decide +kernel
theorem dL_law_617 : decode cL_law 617 = .ok (.aload_n 0, 1) := by decide +kernel
theorem dL_law_618 : decode cL_law 618 = .ok (.iload_n 3, 1) := by decide +kernel
theorem dL_law_619 : decode cL_law 619 = .ok (.iconst 3, 1) := by decide +kernel
theorem dL_law_620 : decode cL_law 620 = .ok (.iadd, 1) := by decide +kernel
theorem dL_law_621 : decode cL_law 621 = .ok (.iaload, 1) := by decide +kernel
theorem dL_law_622 : decode cL_law 622 = .ok (.invokevirtual 91, 3) := by decide +kernel
theorem dL_law_625 : decode cL_law 625 = .ok (.if_icmp .eq 285, 3) := by decide +kernel
theorem dL_law_628 : decode cL_law 628 = .ok (.iconst 0, 1) := by decide +kernel
theorem dL_law_629 : decode cL_law 629 = .ok (.ireturn, 1) := by decide +kernel
theorem dL_law_630 : decode cL_law 630 = .ok (.aload_n 1, 1) := by decide +kernel
theorem dL_law_631 : decode cL_law 631 = .ok (.invokevirtual 92, 3) := by decide +kernel
theorem dL_law_634 : decode cL_law 634 = .ok (.aload_n 2, 1) := by decide +kernel
theorem dL_law_635 : decode cL_law 635 = .ok (.invokevirtual 95, 3) := by decide +kernel
theorem dL_law_638 : decode cL_law 638 = .ok (.if_icmp .eq 272, 3) := by decide +kernel
theorem dL_law_641 : decode cL_law 641 = .ok (.iconst 0, 1) := by decide +kernel
theorem dL_law_642 : decode cL_law 642 = .ok (.ireturn, 1) := by decide +kernel
theorem dL_law_643 : decode cL_law 643 = .ok (.aload_n 1, 1) := by decide +kernel
theorem dL_law_644 : decode cL_law 644 = .ok (.invokevirtual 96, 3) := by decide +kernel
theorem dL_law_647 : decode cL_law 647 = .ok (.aload_n 2, 1) := by decide +kernel
theorem dL_law_648 : decode cL_law 648 = .ok (.invokevirtual 99, 3) := by decide +kernel
theorem dL_law_651 : decode cL_law 651 = .ok (.if_icmp .eq 259, 3) := by decide +kernel
theorem dL_law_654 : decode cL_law 654 = .ok (.iconst 0, 1) := by decide +kernel
theorem dL_law_655 : decode cL_law 655 = .ok (.ireturn, 1) := by decide +kernel
theorem dL_law_656 : decode cL_law 656 = .ok (.aload_n 1, 1) := by decide +kernel
theorem dL_law_657 : decode cL_law 657 = .ok (.aload_n 0, 1) := by decide +kernel
theorem dL_law_658 : decode cL_law 658 = .ok (.iload_n 3, 1) := by decide +kernel
theorem dL_law_659 : decode cL_law 659 = .ok (.iconst 1, 1) := by decide +kernel
theorem dL_law_660 : decode cL_law 660 = .ok (.iadd, 1) := by decide +kernel
theorem dL_law_661 : decode cL_law 661 = .ok (.iaload, 1) := by decide +kernel
theorem dL_law_662 : decode cL_law 662 = .ok (.aload_n 0, 1) := by decide +kernel
theorem dL_law_663 : decode cL_law 663 = .ok (.iload_n 3, 1) := by decide +kernel
theorem dL_law_664 : decode cL_law 664 = .ok (.iconst 2, 1) := by decide +kernel
theorem dL_law_665 : decode cL_law 665 = .ok (.iadd, 1) := by decide +kernel
theorem dL_law_666 : decode cL_law 666 = .ok (.iaload, 1) := by decide +kernel
theorem dL_law_667 : decode cL_law 667 = .ok (.ifCond .eq 7, 3) := by decide +kernel
theorem dL_law_670 : decode cL_law 670 = .ok (.iconst 1, 1) := by decide +kernel
theorem dL_law_671 : decode cL_law 671 = .ok (.goto 4, 3) := by decide +kernel
theorem dL_law_674 : decode cL_law 674 = .ok (.iconst 0, 1) := by decide +kernel
theorem dL_law_675 : decode cL_law 675 = .ok (.invokevirtual 100, 3) := by decide +kernel
theorem dL_law_678 : decode cL_law 678 = .ok (.aload_n 2, 1) := by decide +kernel
theorem dL_law_679 : decode cL_law 679 = .ok (.aload_n 0, 1) := by decide +kernel
theorem dL_law_680 : decode cL_law 680 = .ok (.iload_n 3, 1) := by decide +kernel
theorem dL_law_681 : decode cL_law 681 = .ok (.iconst 1, 1) := by decide +kernel
theorem dL_law_682 : decode cL_law 682 = .ok (.iadd, 1) := by decide +kernel
theorem dL_law_683 : decode cL_law 683 = .ok (.iaload, 1) := by decide +kernel
theorem dL_law_684 : decode cL_law 684 = .ok (.aload_n 0, 1) := by decide +kernel
theorem dL_law_685 : decode cL_law 685 = .ok (.iload_n 3, 1) := by decide +kernel
theorem dL_law_686 : decode cL_law 686 = .ok (.iconst 2, 1) := by decide +kernel
theorem dL_law_687 : decode cL_law 687 = .ok (.iadd, 1) := by decide +kernel
theorem dL_law_688 : decode cL_law 688 = .ok (.iaload, 1) := by decide +kernel
theorem dL_law_689 : decode cL_law 689 = .ok (.ifCond .eq 7, 3) := by decide +kernel
theorem dL_law_692 : decode cL_law 692 = .ok (.iconst 1, 1) := by decide +kernel
theorem dL_law_693 : decode cL_law 693 = .ok (.goto 4, 3) := by decide +kernel
theorem dL_law_696 : decode cL_law 696 = .ok (.iconst 0, 1) := by decide +kernel
theorem dL_law_697 : decode cL_law 697 = .ok (.invokevirtual 104, 3) := by decide +kernel
theorem dL_law_700 : decode cL_law 700 = .ok (.if_icmp .eq 210, 3) := by decide +kernel
theorem dL_law_703 : decode cL_law 703 = .ok (.iconst 0, 1) := by decide +kernel
theorem dL_law_704 : decode cL_law 704 = .ok (.ireturn, 1) := by decide +kernel
theorem dL_law_705 : decode cL_law 705 = .ok (.aload_n 1, 1) := by decide +kernel
theorem dL_law_706 : decode cL_law 706 = .ok (.aload_n 0, 1) := by decide +kernel
theorem dL_law_707 : decode cL_law 707 = .ok (.iload_n 3, 1) := by decide +kernel
theorem dL_law_708 : decode cL_law 708 = .ok (.iconst 1, 1) := by decide +kernel
theorem dL_law_709 : decode cL_law 709 = .ok (.iadd, 1) := by decide +kernel
theorem dL_law_710 : decode cL_law 710 = .ok (.iaload, 1) := by decide +kernel
theorem dL_law_711 : decode cL_law 711 = .ok (.aload_n 0, 1) := by decide +kernel
theorem dL_law_712 : decode cL_law 712 = .ok (.iload_n 3, 1) := by decide +kernel
theorem dL_law_713 : decode cL_law 713 = .ok (.iconst 2, 1) := by decide +kernel
theorem dL_law_714 : decode cL_law 714 = .ok (.iadd, 1) := by decide +kernel
theorem dL_law_715 : decode cL_law 715 = .ok (.iaload, 1) := by decide +kernel
theorem dL_law_716 : decode cL_law 716 = .ok (.aload_n 0, 1) := by decide +kernel
theorem dL_law_717 : decode cL_law 717 = .ok (.iload_n 3, 1) := by decide +kernel
theorem dL_law_718 : decode cL_law 718 = .ok (.iconst 3, 1) := by decide +kernel
theorem dL_law_719 : decode cL_law 719 = .ok (.iadd, 1) := by decide +kernel
theorem dL_law_720 : decode cL_law 720 = .ok (.iaload, 1) := by decide +kernel
theorem dL_law_721 : decode cL_law 721 = .ok (.ifCond .eq 7, 3) := by decide +kernel
theorem dL_law_724 : decode cL_law 724 = .ok (.iconst 1, 1) := by decide +kernel
theorem dL_law_725 : decode cL_law 725 = .ok (.goto 4, 3) := by decide +kernel
theorem dL_law_728 : decode cL_law 728 = .ok (.iconst 0, 1) := by decide +kernel
theorem dL_law_729 : decode cL_law 729 = .ok (.invokevirtual 105, 3) := by decide +kernel
theorem dL_law_732 : decode cL_law 732 = .ok (.aload_n 2, 1) := by decide +kernel
theorem dL_law_733 : decode cL_law 733 = .ok (.aload_n 0, 1) := by decide +kernel
theorem dL_law_734 : decode cL_law 734 = .ok (.iload_n 3, 1) := by decide +kernel
theorem dL_law_735 : decode cL_law 735 = .ok (.iconst 1, 1) := by decide +kernel
theorem dL_law_736 : decode cL_law 736 = .ok (.iadd, 1) := by decide +kernel
theorem dL_law_737 : decode cL_law 737 = .ok (.iaload, 1) := by decide +kernel
theorem dL_law_738 : decode cL_law 738 = .ok (.aload_n 0, 1) := by decide +kernel
theorem dL_law_739 : decode cL_law 739 = .ok (.iload_n 3, 1) := by decide +kernel
theorem dL_law_740 : decode cL_law 740 = .ok (.iconst 2, 1) := by decide +kernel
theorem dL_law_741 : decode cL_law 741 = .ok (.iadd, 1) := by decide +kernel
theorem dL_law_742 : decode cL_law 742 = .ok (.iaload, 1) := by decide +kernel
theorem dL_law_743 : decode cL_law 743 = .ok (.aload_n 0, 1) := by decide +kernel
theorem dL_law_744 : decode cL_law 744 = .ok (.iload_n 3, 1) := by decide +kernel
theorem dL_law_745 : decode cL_law 745 = .ok (.iconst 3, 1) := by decide +kernel
theorem dL_law_746 : decode cL_law 746 = .ok (.iadd, 1) := by decide +kernel
theorem dL_law_747 : decode cL_law 747 = .ok (.iaload, 1) := by decide +kernel
theorem dL_law_748 : decode cL_law 748 = .ok (.ifCond .eq 7, 3) := by decide +kernel
theorem dL_law_751 : decode cL_law 751 = .ok (.iconst 1, 1) := by decide +kernel
theorem dL_law_752 : decode cL_law 752 = .ok (.goto 4, 3) := by decide +kernel
theorem dL_law_755 : decode cL_law 755 = .ok (.iconst 0, 1) := by decide +kernel
theorem dL_law_756 : decode cL_law 756 = .ok (.invokevirtual 109, 3) := by decide +kernel
theorem dL_law_759 : decode cL_law 759 = .ok (.if_icmp .eq 151, 3) := by decide +kernel
theorem dL_law_762 : decode cL_law 762 = .ok (.iconst 0, 1) := by decide +kernel
theorem dL_law_763 : decode cL_law 763 = .ok (.ireturn, 1) := by decide +kernel
theorem dL_law_764 : decode cL_law 764 = .ok (.aload_n 1, 1) := by decide +kernel
theorem dL_law_765 : decode cL_law 765 = .ok (.aload_n 0, 1) := by decide +kernel
theorem dL_law_766 : decode cL_law 766 = .ok (.iload_n 3, 1) := by decide +kernel
theorem dL_law_767 : decode cL_law 767 = .ok (.iconst 1, 1) := by decide +kernel
theorem dL_law_768 : decode cL_law 768 = .ok (.iadd, 1) := by decide +kernel
theorem dL_law_769 : decode cL_law 769 = .ok (.iaload, 1) := by decide +kernel
theorem dL_law_770 : decode cL_law 770 = .ok (.i2l, 1) := by decide +kernel
theorem dL_law_771 : decode cL_law 771 = .ok (.bipush 32, 2) := by decide +kernel
theorem dL_law_773 : decode cL_law 773 = .ok (.lshl, 1) := by decide +kernel
theorem dL_law_774 : decode cL_law 774 = .ok (.aload_n 0, 1) := by decide +kernel
theorem dL_law_775 : decode cL_law 775 = .ok (.iload_n 3, 1) := by decide +kernel
theorem dL_law_776 : decode cL_law 776 = .ok (.iconst 2, 1) := by decide +kernel
theorem dL_law_777 : decode cL_law 777 = .ok (.iadd, 1) := by decide +kernel
theorem dL_law_778 : decode cL_law 778 = .ok (.iaload, 1) := by decide +kernel
theorem dL_law_779 : decode cL_law 779 = .ok (.i2l, 1) := by decide +kernel
theorem dL_law_780 : decode cL_law 780 = .ok (.ldc2_w 81, 3) := by decide +kernel
theorem dL_law_783 : decode cL_law 783 = .ok (.land, 1) := by decide +kernel
theorem dL_law_784 : decode cL_law 784 = .ok (.lor, 1) := by decide +kernel
theorem dL_law_785 : decode cL_law 785 = .ok (.invokevirtual 110, 3) := by decide +kernel
theorem dL_law_788 : decode cL_law 788 = .ok (.aload_n 2, 1) := by decide +kernel
theorem dL_law_789 : decode cL_law 789 = .ok (.aload_n 0, 1) := by decide +kernel
theorem dL_law_790 : decode cL_law 790 = .ok (.iload_n 3, 1) := by decide +kernel
theorem dL_law_791 : decode cL_law 791 = .ok (.iconst 1, 1) := by decide +kernel
theorem dL_law_792 : decode cL_law 792 = .ok (.iadd, 1) := by decide +kernel
theorem dL_law_793 : decode cL_law 793 = .ok (.iaload, 1) := by decide +kernel
theorem dL_law_794 : decode cL_law 794 = .ok (.i2l, 1) := by decide +kernel
theorem dL_law_795 : decode cL_law 795 = .ok (.bipush 32, 2) := by decide +kernel
theorem dL_law_797 : decode cL_law 797 = .ok (.lshl, 1) := by decide +kernel
theorem dL_law_798 : decode cL_law 798 = .ok (.aload_n 0, 1) := by decide +kernel
theorem dL_law_799 : decode cL_law 799 = .ok (.iload_n 3, 1) := by decide +kernel
theorem dL_law_800 : decode cL_law 800 = .ok (.iconst 2, 1) := by decide +kernel
theorem dL_law_801 : decode cL_law 801 = .ok (.iadd, 1) := by decide +kernel
theorem dL_law_802 : decode cL_law 802 = .ok (.iaload, 1) := by decide +kernel
theorem dL_law_803 : decode cL_law 803 = .ok (.i2l, 1) := by decide +kernel
theorem dL_law_804 : decode cL_law 804 = .ok (.ldc2_w 81, 3) := by decide +kernel
theorem dL_law_807 : decode cL_law 807 = .ok (.land, 1) := by decide +kernel
theorem dL_law_808 : decode cL_law 808 = .ok (.lor, 1) := by decide +kernel
theorem dL_law_809 : decode cL_law 809 = .ok (.invokevirtual 114, 3) := by decide +kernel
theorem dL_law_812 : decode cL_law 812 = .ok (.lcmp, 1) := by decide +kernel
theorem dL_law_813 : decode cL_law 813 = .ok (.ifCond .eq 97, 3) := by decide +kernel
theorem dL_law_816 : decode cL_law 816 = .ok (.iconst 0, 1) := by decide +kernel
theorem dL_law_817 : decode cL_law 817 = .ok (.ireturn, 1) := by decide +kernel
theorem dL_law_818 : decode cL_law 818 = .ok (.aload_n 1, 1) := by decide +kernel
theorem dL_law_819 : decode cL_law 819 = .ok (.aload_n 0, 1) := by decide +kernel
theorem dL_law_820 : decode cL_law 820 = .ok (.iload_n 3, 1) := by decide +kernel
theorem dL_law_821 : decode cL_law 821 = .ok (.iconst 1, 1) := by decide +kernel
theorem dL_law_822 : decode cL_law 822 = .ok (.iadd, 1) := by decide +kernel
theorem dL_law_823 : decode cL_law 823 = .ok (.iaload, 1) := by decide +kernel
theorem dL_law_824 : decode cL_law 824 = .ok (.invokevirtual 115, 3) := by decide +kernel
theorem dL_law_827 : decode cL_law 827 = .ok (.aload_n 2, 1) := by decide +kernel
theorem dL_law_828 : decode cL_law 828 = .ok (.aload_n 0, 1) := by decide +kernel
theorem dL_law_829 : decode cL_law 829 = .ok (.iload_n 3, 1) := by decide +kernel
theorem dL_law_830 : decode cL_law 830 = .ok (.iconst 1, 1) := by decide +kernel
theorem dL_law_831 : decode cL_law 831 = .ok (.iadd, 1) := by decide +kernel
theorem dL_law_832 : decode cL_law 832 = .ok (.iaload, 1) := by decide +kernel
theorem dL_law_833 : decode cL_law 833 = .ok (.invokevirtual 118, 3) := by decide +kernel
theorem dL_law_836 : decode cL_law 836 = .ok (.if_icmp .eq 74, 3) := by decide +kernel
theorem dL_law_839 : decode cL_law 839 = .ok (.iconst 0, 1) := by decide +kernel
theorem dL_law_840 : decode cL_law 840 = .ok (.ireturn, 1) := by decide +kernel
theorem dL_law_841 : decode cL_law 841 = .ok (.aload_n 1, 1) := by decide +kernel
theorem dL_law_842 : decode cL_law 842 = .ok (.aload_n 0, 1) := by decide +kernel
theorem dL_law_843 : decode cL_law 843 = .ok (.iload_n 3, 1) := by decide +kernel
theorem dL_law_844 : decode cL_law 844 = .ok (.iconst 1, 1) := by decide +kernel
theorem dL_law_845 : decode cL_law 845 = .ok (.iadd, 1) := by decide +kernel
theorem dL_law_846 : decode cL_law 846 = .ok (.iaload, 1) := by decide +kernel
theorem dL_law_847 : decode cL_law 847 = .ok (.invokevirtual 119, 3) := by decide +kernel
theorem dL_law_850 : decode cL_law 850 = .ok (.aload_n 2, 1) := by decide +kernel
theorem dL_law_851 : decode cL_law 851 = .ok (.aload_n 0, 1) := by decide +kernel
theorem dL_law_852 : decode cL_law 852 = .ok (.iload_n 3, 1) := by decide +kernel
theorem dL_law_853 : decode cL_law 853 = .ok (.iconst 1, 1) := by decide +kernel
theorem dL_law_854 : decode cL_law 854 = .ok (.iadd, 1) := by decide +kernel
theorem dL_law_855 : decode cL_law 855 = .ok (.iaload, 1) := by decide +kernel
theorem dL_law_856 : decode cL_law 856 = .ok (.invokevirtual 122, 3) := by decide +kernel
theorem dL_law_859 : decode cL_law 859 = .ok (.if_icmp .eq 51, 3) := by decide +kernel
theorem dL_law_862 : decode cL_law 862 = .ok (.iconst 0, 1) := by decide +kernel
theorem dL_law_863 : decode cL_law 863 = .ok (.ireturn, 1) := by decide +kernel
theorem dL_law_864 : decode cL_law 864 = .ok (.aload_n 1, 1) := by decide +kernel
theorem dL_law_865 : decode cL_law 865 = .ok (.aload_n 0, 1) := by decide +kernel
theorem dL_law_866 : decode cL_law 866 = .ok (.iload_n 3, 1) := by decide +kernel
theorem dL_law_867 : decode cL_law 867 = .ok (.iconst 1, 1) := by decide +kernel
theorem dL_law_868 : decode cL_law 868 = .ok (.iadd, 1) := by decide +kernel
theorem dL_law_869 : decode cL_law 869 = .ok (.iaload, 1) := by decide +kernel
theorem dL_law_870 : decode cL_law 870 = .ok (.invokevirtual 123, 3) := by decide +kernel
theorem dL_law_873 : decode cL_law 873 = .ok (.aload_n 2, 1) := by decide +kernel
theorem dL_law_874 : decode cL_law 874 = .ok (.aload_n 0, 1) := by decide +kernel
theorem dL_law_875 : decode cL_law 875 = .ok (.iload_n 3, 1) := by decide +kernel
theorem dL_law_876 : decode cL_law 876 = .ok (.iconst 1, 1) := by decide +kernel
theorem dL_law_877 : decode cL_law 877 = .ok (.iadd, 1) := by decide +kernel
theorem dL_law_878 : decode cL_law 878 = .ok (.iaload, 1) := by decide +kernel
theorem dL_law_879 : decode cL_law 879 = .ok (.invokevirtual 126, 3) := by decide +kernel
theorem dL_law_882 : decode cL_law 882 = .ok (.if_icmp .eq 28, 3) := by decide +kernel
theorem dL_law_885 : decode cL_law 885 = .ok (.iconst 0, 1) := by decide +kernel
theorem dL_law_886 : decode cL_law 886 = .ok (.ireturn, 1) := by decide +kernel
theorem dL_law_887 : decode cL_law 887 = .ok (.aload_n 1, 1) := by decide +kernel
theorem dL_law_888 : decode cL_law 888 = .ok (.aload_n 0, 1) := by decide +kernel
theorem dL_law_889 : decode cL_law 889 = .ok (.iload_n 3, 1) := by decide +kernel
theorem dL_law_890 : decode cL_law 890 = .ok (.iconst 1, 1) := by decide +kernel
theorem dL_law_891 : decode cL_law 891 = .ok (.iadd, 1) := by decide +kernel
theorem dL_law_892 : decode cL_law 892 = .ok (.iaload, 1) := by decide +kernel
theorem dL_law_893 : decode cL_law 893 = .ok (.invokevirtual 127, 3) := by decide +kernel
theorem dL_law_896 : decode cL_law 896 = .ok (.aload_n 2, 1) := by decide +kernel
theorem dL_law_897 : decode cL_law 897 = .ok (.aload_n 0, 1) := by decide +kernel
theorem dL_law_898 : decode cL_law 898 = .ok (.iload_n 3, 1) := by decide +kernel
theorem dL_law_899 : decode cL_law 899 = .ok (.iconst 1, 1) := by decide +kernel
theorem dL_law_900 : decode cL_law 900 = .ok (.iadd, 1) := by decide +kernel
theorem dL_law_901 : decode cL_law 901 = .ok (.iaload, 1) := by decide +kernel
theorem dL_law_902 : decode cL_law 902 = .ok (.invokevirtual 130, 3) := by decide +kernel
theorem dL_law_905 : decode cL_law 905 = .ok (.if_icmp .eq 5, 3) := by decide +kernel
theorem dL_law_908 : decode cL_law 908 = .ok (.iconst 0, 1) := by decide +kernel
theorem dL_law_909 : decode cL_law 909 = .ok (.ireturn, 1) := by decide +kernel
theorem dL_law_910 : decode cL_law 910 = .ok (.iinc 3 4, 3) := by decide +kernel
theorem dL_law_913 : decode cL_law 913 = .ok (.goto (-895), 3) := by decide +kernel
theorem dL_law_916 : decode cL_law 916 = .ok (.iconst 1, 1) := by decide +kernel
theorem dL_law_917 : decode cL_law 917 = .ok (.ireturn, 1) := by decide +kernel
