theorem dX5_make_60 : decode cX5_make 60 = .ok (.ireturn, 1) := by decide +kernel
theorem dX5_clear_0 : decode cX5_clear 0 = .ok (.aload_n 0, 1) := by decide +kernel
theorem dX5_clear_1 : decode cX5_clear 1 = .ok (.getfield 19, 3) := by decide +kernel
theorem dX5_clear_4 : decode cX5_clear 4 = .ok (.iload_n 1, 1) := by decide +kernel
theorem dX5_clear_5 : decode cX5_clear 5 = .ok (.invokevirtual 91, 3) := by decide +kernel
theorem dX5_clear_8 : decode cX5_clear 8 = .ok (.ifCond .ne 5, 3) := by decide +kernel
theorem dX5_clear_11 : decode cX5_clear 11 = .ok (.iconst (-1), 1) := by decide +kernel
theorem dX5_clear_12 : decode cX5_clear 12 = .ok (.ireturn, 1) := by decide +kernel
theorem dX5_clear_13 : decode cX5_clear 13 = .ok (.aload_n 0, 1) := by decide +kernel
theorem dX5_clear_14 : decode cX5_clear 14 = .ok (.getfield 19, 3) := by decide +kernel
theorem dX5_clear_17 : decode cX5_clear 17 = .ok (.iload_n 1, 1) := by decide +kernel
theorem dX5_clear_18 : decode cX5_clear 18 = .ok (.invokevirtual 130, 3) := by decide +kernel
theorem dX5_clear_21 : decode cX5_clear 21 = .ok (.ifCond .ne 6, 3) := by decide +kernel
theorem dX5_clear_24 : decode cX5_clear 24 = .ok (.bipush (-3), 2) := by decide +kernel
theorem dX5_clear_26 : decode cX5_clear 26 = .ok (.ireturn, 1) := by decide +kernel
theorem dX5_clear_27 : decode cX5_clear 27 = .ok (.aload_n 0, 1) := by decide +kernel
theorem dX5_clear_28 : decode cX5_clear 28 = .ok (.getfield 29, 3) := by decide +kernel
theorem dX5_clear_31 : decode cX5_clear 31 = .ok (.aload_n 0, 1) := by decide +kernel
theorem dX5_clear_32 : decode cX5_clear 32 = .ok (.getfield 19, 3) := by decide +kernel
theorem dX5_clear_35 : decode cX5_clear 35 = .ok (.invokevirtual 111, 3) := by decide +kernel
theorem dX5_clear_38 : decode cX5_clear 38 = .ok (.aload_n 0, 1) := by decide +kernel
theorem dX5_clear_39 : decode cX5_clear 39 = .ok (.getfield 19, 3) := by decide +kernel
theorem dX5_clear_42 : decode cX5_clear 42 = .ok (.iload_n 1, 1) := by decide +kernel
theorem dX5_clear_43 : decode cX5_clear 43 = .ok (.invokevirtual 133, 3) := by decide +kernel
theorem dX5_clear_46 : decode cX5_clear 46 = .ok (.aload_n 0, 1) := by decide +kernel
theorem dX5_clear_47 : decode cX5_clear 47 = .ok (.getfield 19, 3) := by decide +kernel
theorem dX5_clear_50 : decode cX5_clear 50 = .ok (.getfield 136, 3) := by decide +kernel
theorem dX5_clear_53 : decode cX5_clear 53 = .ok (.bipush 48, 2) := by decide +kernel
theorem dX5_clear_55 : decode cX5_clear 55 = .ok (.iaload, 1) := by decide +kernel
theorem dX5_clear_56 : decode cX5_clear 56 = .ok (.invokestatic 139, 3) := by decide +kernel
theorem dX5_clear_59 : decode cX5_clear 59 = .ok (.ireturn, 1) := by decide +kernel
theorem dX5_step_0 : decode cX5_step 0 = .ok (.iload_n 1, 1) := by decide +kernel
theorem dX5_step_1 : decode cX5_step 1 = .ok (.iconst 1, 1) := by decide +kernel
theorem dX5_step_2 : decode cX5_step 2 = .ok (.if_icmp .lt 9, 3) := by decide +kernel
theorem dX5_step_5 : decode cX5_step 5 = .ok (.iload_n 1, 1) := by decide +kernel
theorem dX5_step_6 : decode cX5_step 6 = .ok (.bipush 99, 2) := by decide +kernel
theorem dX5_step_8 : decode cX5_step 8 = .ok (.if_icmp .le 6, 3) := by decide +kernel
theorem dX5_step_11 : decode cX5_step 11 = .ok (.bipush (-2), 2) := by decide +kernel
theorem dX5_step_13 : decode cX5_step 13 = .ok (.ireturn, 1) := by decide +kernel
theorem dX5_step_14 : decode cX5_step 14 = .ok (.aload_n 0, 1) := by decide +kernel
theorem dX5_step_15 : decode cX5_step 15 = .ok (.getfield 29, 3) := by decide +kernel
theorem dX5_step_18 : decode cX5_step 18 = .ok (.aload_n 0, 1) := by decide +kernel
theorem dX5_step_19 : decode cX5_step 19 = .ok (.getfield 19, 3) := by decide +kernel
theorem dX5_step_22 : decode cX5_step 22 = .ok (.invokevirtual 111, 3) := by decide +kernel
theorem dX5_step_25 : decode cX5_step 25 = .ok (.aload_n 0, 1) := by decide +kernel
theorem dX5_step_26 : decode cX5_step 26 = .ok (.getfield 19, 3) := by decide +kernel
theorem dX5_step_29 : decode cX5_step 29 = .ok (.getfield 136, 3) := by decide +kernel
theorem dX5_step_32 : decode cX5_step 32 = .ok (.bipush 55, 2) := by decide +kernel
theorem dX5_step_34 : decode cX5_step 34 = .ok (.iaload, 1) := by decide +kernel
theorem dX5_step_35 : decode cX5_step 35 = .ok (.istore_n 2, 1) := by decide +kernel
theorem dX5_step_36 : decode cX5_step 36 = .ok (.aload_n 0, 1) := by decide +kernel
theorem dX5_step_37 : decode cX5_step 37 = .ok (.getfield 19, 3) := by decide +kernel
theorem dX5_step_40 : decode cX5_step 40 = .ok (.iload_n 1, 1) := by decide +kernel
theorem dX5_step_41 : decode cX5_step 41 = .ok (.invokevirtual 144, 3) := by decide +kernel
theorem dX5_step_44 : decode cX5_step 44 = .ok (.aload_n 0, 1) := by decide +kernel
theorem dX5_step_45 : decode cX5_step 45 = .ok (.getfield 19, 3) := by decide +kernel
theorem dX5_step_48 : decode cX5_step 48 = .ok (.getfield 136, 3) := by decide +kernel
theorem dX5_step_51 : decode cX5_step 51 = .ok (.bipush 55, 2) := by decide +kernel
theorem dX5_step_53 : decode cX5_step 53 = .ok (.iaload, 1) := by decide +kernel
theorem dX5_step_54 : decode cX5_step 54 = .ok (.iload_n 2, 1) := by decide +kernel
theorem dX5_step_55 : decode cX5_step 55 = .ok (.isub, 1) := by decide +kernel
theorem dX5_step_56 : decode cX5_step 56 = .ok (.ireturn, 1) := by decide +kernel
theorem dX5_undo_0 : decode cX5_undo 0 = .ok (.aload_n 0, 1) := by decide +kernel
theorem dX5_undo_1 : decode cX5_undo 1 = .ok (.getfield 29, 3) := by decide +kernel
theorem dX5_undo_4 : decode cX5_undo 4 = .ok (.aload_n 0, 1) := by decide +kernel
theorem dX5_undo_5 : decode cX5_undo 5 = .ok (.getfield 19, 3) := by decide +kernel
theorem dX5_undo_8 : decode cX5_undo 8 = .ok (.invokevirtual 147, 3) := by decide +kernel
theorem dX5_undo_11 : decode cX5_undo 11 = .ok (.ifCond .eq 13, 3) := by decide +kernel
theorem dX5_undo_14 : decode cX5_undo 14 = .ok (.aload_n 0, 1) := by decide +kernel
theorem dX5_undo_15 : decode cX5_undo 15 = .ok (.getfield 29, 3) := by decide +kernel
theorem dX5_undo_18 : decode cX5_undo 18 = .ok (.getfield 151, 3) := by decide +kernel
theorem dX5_undo_21 : decode cX5_undo 21 = .ok (.goto 5, 3) := by decide +kernel
theorem dX5_undo_24 : decode cX5_undo 24 = .ok (.bipush (-3), 2) := by decide +kernel
theorem dX5_undo_26 : decode cX5_undo 26 = .ok (.ireturn, 1) := by decide +kernel
theorem dX5_ahead_0 : decode cX5_ahead 0 = .ok (.aload_n 0, 1) := by decide +kernel
theorem dX5_ahead_1 : decode cX5_ahead 1 = .ok (.getfield 19, 3) := by decide +kernel
theorem dX5_ahead_4 : decode cX5_ahead 4 = .ok (.iload_n 2, 1) := by decide +kernel
theorem dX5_ahead_5 : decode cX5_ahead 5 = .ok (.invokevirtual 91, 3) := by decide +kernel
theorem dX5_ahead_8 : decode cX5_ahead 8 = .ok (.ifCond .ne 5, 3) := by decide +kernel
theorem dX5_ahead_11 : decode cX5_ahead 11 = .ok (.iconst (-1), 1) := by decide +kernel
theorem dX5_ahead_12 : decode cX5_ahead 12 = .ok (.ireturn, 1) := by decide +kernel
theorem dX5_ahead_13 : decode cX5_ahead 13 = .ok (.iload_n 1, 1) := by decide +kernel
theorem dX5_ahead_14 : decode cX5_ahead 14 = .ok (.ifCond .lt 19, 3) := by decide +kernel
theorem dX5_ahead_17 : decode cX5_ahead 17 = .ok (.iload_n 1, 1) := by decide +kernel
theorem dX5_ahead_18 : decode cX5_ahead 18 = .ok (.bipush 99, 2) := by decide +kernel
theorem dX5_ahead_20 : decode cX5_ahead 20 = .ok (.if_icmp .gt 13, 3) := by decide +kernel
theorem dX5_ahead_23 : decode cX5_ahead 23 = .ok (.iload_n 3, 1) := by decide +kernel
theorem dX5_ahead_24 : decode cX5_ahead 24 = .ok (.ifCond .lt 9, 3) := by decide +kernel
theorem dX5_ahead_27 : decode cX5_ahead 27 = .ok (.iload_n 3, 1) := by decide +kernel
theorem dX5_ahead_28 : decode cX5_ahead 28 = .ok (.bipush 7, 2) := by decide +kernel
theorem dX5_ahead_30 : decode cX5_ahead 30 = .ok (.if_icmp .lt 6, 3) := by decide +kernel
theorem dX5_ahead_33 : decode cX5_ahead 33 = .ok (.bipush (-2), 2) := by decide +kernel
theorem dX5_ahead_35 : decode cX5_ahead 35 = .ok (.ireturn, 1) := by decide +kernel
theorem dX5_ahead_36 : decode cX5_ahead 36 = .ok (.aload_n 0, 1) := by decide +kernel
theorem dX5_ahead_37 : decode cX5_ahead 37 = .ok (.getfield 23, 3) := by decide +kernel
theorem dX5_ahead_40 : decode cX5_ahead 40 = .ok (.aload_n 0, 1) := by decide +kernel
theorem dX5_ahead_41 : decode cX5_ahead 41 = .ok (.getfield 19, 3) := by decide +kernel
theorem dX5_ahead_44 : decode cX5_ahead 44 = .ok (.invokevirtual 154, 3) := by decide +kernel
theorem dX5_ahead_47 : decode cX5_ahead 47 = .ok (.aload_n 0, 1) := by decide +kernel
theorem dX5_ahead_48 : decode cX5_ahead 48 = .ok (.getfield 23, 3) := by decide +kernel
theorem dX5_ahead_51 : decode cX5_ahead 51 = .ok (.iload_n 1, 1) := by decide +kernel
theorem dX5_ahead_52 : decode cX5_ahead 52 = .ok (.invokevirtual 144, 3) := by decide +kernel
theorem dX5_ahead_55 : decode cX5_ahead 55 = .ok (.aload_n 0, 1) := by decide +kernel
theorem dX5_ahead_56 : decode cX5_ahead 56 = .ok (.getfield 23, 3) := by decide +kernel
theorem dX5_ahead_59 : decode cX5_ahead 59 = .ok (.iload_n 2, 1) := by decide +kernel
theorem dX5_ahead_60 : decode cX5_ahead 60 = .ok (.iload_n 3, 1) := by decide +kernel
theorem dX5_ahead_61 : decode cX5_ahead 61 = .ok (.invokestatic 94, 3) := by decide +kernel
theorem dX5_ahead_64 : decode cX5_ahead 64 = .ok (.ireturn, 1) := by decide +kernel
theorem dX5_ask_0 : decode cX5_ask 0 = .ok (.iload_n 1, 1) := by decide +kernel
theorem dX5_ask_1 : decode cX5_ask 1 = .ok (.tableswitch 90 0 2 #[27, 43, 48], 27) := by decide +kernel
theorem dX5_ask_28 : decode cX5_ask 28 = .ok (.aload_n 0, 1) := by decide +kernel
theorem dX5_ask_29 : decode cX5_ask 29 = .ok (.getfield 23, 3) := by decide +kernel
theorem dX5_ask_32 : decode cX5_ask 32 = .ok (.aload_n 0, 1) := by decide +kernel
theorem dX5_ask_33 : decode cX5_ask 33 = .ok (.getfield 19, 3) := by decide +kernel
theorem dX5_ask_36 : decode cX5_ask 36 = .ok (.invokevirtual 154, 3) := by decide +kernel
theorem dX5_ask_39 : decode cX5_ask 39 = .ok (.aload_n 0, 1) := by decide +kernel
theorem dX5_ask_40 : decode cX5_ask 40 = .ok (.invokevirtual 157, 3) := by decide +kernel
theorem dX5_ask_43 : decode cX5_ask 43 = .ok (.ireturn, 1) := by decide +kernel
theorem dX5_ask_44 : decode cX5_ask 44 = .ok (.aload_n 0, 1) := by decide +kernel
theorem dX5_ask_45 : decode cX5_ask 45 = .ok (.invokevirtual 160, 3) := by decide +kernel
theorem dX5_ask_48 : decode cX5_ask 48 = .ok (.ireturn, 1) := by decide +kernel
theorem dX5_ask_49 : decode cX5_ask 49 = .ok (.aload_n 0, 1) := by decide +kernel
theorem dX5_ask_50 : decode cX5_ask 50 = .ok (.getfield 23, 3) := by decide +kernel
theorem dX5_ask_53 : decode cX5_ask 53 = .ok (.aload_n 0, 1) := by decide +kernel
theorem dX5_ask_54 : decode cX5_ask 54 = .ok (.getfield 19, 3) := by decide +kernel
theorem dX5_ask_57 : decode cX5_ask 57 = .ok (.invokevirtual 154, 3) := by decide +kernel
theorem dX5_ask_60 : decode cX5_ask 60 = .ok (.aload_n 0, 1) := by decide +kernel
theorem dX5_ask_61 : decode cX5_ask 61 = .ok (.getfield 23, 3) := by decide +kernel
theorem dX5_ask_64 : decode cX5_ask 64 = .ok (.bipush 60, 2) := by decide +kernel
theorem dX5_ask_66 : decode cX5_ask 66 = .ok (.invokevirtual 144, 3) := by decide +kernel
theorem dX5_ask_69 : decode cX5_ask 69 = .ok (.aload_n 0, 1) := by decide +kernel
theorem dX5_ask_70 : decode cX5_ask 70 = .ok (.getfield 23, 3) := by decide +kernel
theorem dX5_ask_73 : decode cX5_ask 73 = .ok (.getfield 136, 3) := by decide +kernel
theorem dX5_ask_76 : decode cX5_ask 76 = .ok (.bipush 55, 2) := by decide +kernel
theorem dX5_ask_78 : decode cX5_ask 78 = .ok (.iaload, 1) := by decide +kernel
theorem dX5_ask_79 : decode cX5_ask 79 = .ok (.aload_n 0, 1) := by decide +kernel
theorem dX5_ask_80 : decode cX5_ask 80 = .ok (.getfield 19, 3) := by decide +kernel
theorem dX5_ask_83 : decode cX5_ask 83 = .ok (.getfield 136, 3) := by decide +kernel
theorem dX5_ask_86 : decode cX5_ask 86 = .ok (.bipush 55, 2) := by decide +kernel
theorem dX5_ask_88 : decode cX5_ask 88 = .ok (.iaload, 1) := by decide +kernel
theorem dX5_ask_89 : decode cX5_ask 89 = .ok (.isub, 1) := by decide +kernel
theorem dX5_ask_90 : decode cX5_ask 90 = .ok (.ireturn, 1) := by decide +kernel
theorem dX5_ask_91 : decode cX5_ask 91 = .ok (.bipush (-2), 2) := by decide +kernel
theorem dX5_ask_93 : decode cX5_ask 93 = .ok (.ireturn, 1) := by decide +kernel
theorem dX5_row_0 : decode cX5_row 0 = .ok (.iload_n 1, 1) := by decide +kernel
theorem dX5_row_1 : decode cX5_row 1 = .ok (.ifCond .lt 9, 3) := by decide +kernel
theorem dX5_row_4 : decode cX5_row 4 = .ok (.iload_n 1, 1) := by decide +kernel
theorem dX5_row_5 : decode cX5_row 5 = .ok (.bipush 60, 2) := by decide +kernel
theorem dX5_row_7 : decode cX5_row 7 = .ok (.if_icmp .lt 6, 3) := by decide +kernel
theorem dX5_row_10 : decode cX5_row 10 = .ok (.bipush (-9), 2) := by decide +kernel
theorem dX5_row_12 : decode cX5_row 12 = .ok (.ireturn, 1) := by decide +kernel
theorem dX5_row_13 : decode cX5_row 13 = .ok (.aload_n 0, 1) := by decide +kernel
theorem dX5_row_14 : decode cX5_row 14 = .ok (.getfield 19, 3) := by decide +kernel
theorem dX5_row_17 : decode cX5_row 17 = .ok (.getfield 136, 3) := by decide +kernel
theorem dX5_row_20 : decode cX5_row 20 = .ok (.bipush 55, 2) := by decide +kernel
theorem dX5_row_22 : decode cX5_row 22 = .ok (.iaload, 1) := by decide +kernel
theorem dX5_row_23 : decode cX5_row 23 = .ok (.iload_n 1, 1) := by decide +kernel
theorem dX5_row_24 : decode cX5_row 24 = .ok (.iadd, 1) := by decide +kernel
theorem dX5_row_25 : decode cX5_row 25 = .ok (.iconst 1, 1) := by decide +kernel
theorem dX5_row_26 : decode cX5_row 26 = .ok (.iadd, 1) := by decide +kernel
theorem dX5_row_27 : decode cX5_row 27 = .ok (.istore_n 2, 1) := by decide +kernel
theorem dX5_row_28 : decode cX5_row 28 = .ok (.aload_n 0, 1) := by decide +kernel
theorem dX5_row_29 : decode cX5_row 29 = .ok (.getfield 23, 3) := by decide +kernel
theorem dX5_row_32 : decode cX5_row 32 = .ok (.aload_n 0, 1) := by decide +kernel
theorem dX5_row_33 : decode cX5_row 33 = .ok (.getfield 19, 3) := by decide +kernel
theorem dX5_row_36 : decode cX5_row 36 = .ok (.invokevirtual 154, 3) := by decide +kernel
theorem dX5_row_39 : decode cX5_row 39 = .ok (.iconst 0, 1) := by decide +kernel
theorem dX5_row_40 : decode cX5_row 40 = .ok (.istore_n 3, 1) := by decide +kernel
theorem dX5_row_41 : decode cX5_row 41 = .ok (.iload_n 3, 1) := by decide +kernel
theorem dX5_row_42 : decode cX5_row 42 = .ok (.bipush 60, 2) := by decide +kernel
theorem dX5_row_44 : decode cX5_row 44 = .ok (.if_icmp .ge 38, 3) := by decide +kernel
theorem dX5_row_47 : decode cX5_row 47 = .ok (.aload_n 0, 1) := by decide +kernel
theorem dX5_row_48 : decode cX5_row 48 = .ok (.getfield 23, 3) := by decide +kernel
theorem dX5_row_51 : decode cX5_row 51 = .ok (.invokevirtual 163, 3) := by decide +kernel
theorem dX5_row_54 : decode cX5_row 54 = .ok (.aload_n 0, 1) := by decide +kernel
theorem dX5_row_55 : decode cX5_row 55 = .ok (.getfield 23, 3) := by decide +kernel
theorem dX5_row_58 : decode cX5_row 58 = .ok (.getfield 136, 3) := by decide +kernel
theorem dX5_row_61 : decode cX5_row 61 = .ok (.bipush 55, 2) := by decide +kernel
theorem dX5_row_63 : decode cX5_row 63 = .ok (.iaload, 1) := by decide +kernel
theorem dX5_row_64 : decode cX5_row 64 = .ok (.iload_n 2, 1) := by decide +kernel
theorem dX5_row_65 : decode cX5_row 65 = .ok (.if_icmp .ne 11, 3) := by decide +kernel
theorem dX5_row_68 : decode cX5_row 68 = .ok (.aload_n 0, 1) := by decide +kernel
theorem dX5_row_69 : decode cX5_row 69 = .ok (.getfield 23, 3) := by decide +kernel
theorem dX5_row_72 : decode cX5_row 72 = .ok (.getfield 166, 3) := by decide +kernel
theorem dX5_row_75 : decode cX5_row 75 = .ok (.ireturn, 1) := by decide +kernel
theorem dX5_row_76 : decode cX5_row 76 = .ok (.iinc 3 1, 3) := by decide +kernel
theorem dX5_row_79 : decode cX5_row 79 = .ok (.goto (-38), 3) := by decide +kernel
theorem dX5_row_82 : decode cX5_row 82 = .ok (.bipush (-9), 2) := by decide +kernel
theorem dX5_row_84 : decode cX5_row 84 = .ok (.ireturn, 1) := by decide +kernel
theorem dX5_judge_0 : decode cX5_judge 0 = .ok (.iload_n 1, 1) := by decide +kernel
theorem dX5_judge_1 : decode cX5_judge 1 = .ok (.iconst 1, 1) := by decide +kernel
theorem dX5_judge_2 : decode cX5_judge 2 = .ok (.if_icmp .lt 24, 3) := by decide +kernel
theorem dX5_judge_5 : decode cX5_judge 5 = .ok (.iload_n 1, 1) := by decide +kernel
theorem dX5_judge_6 : decode cX5_judge 6 = .ok (.iconst 4, 1) := by decide +kernel
theorem dX5_judge_7 : decode cX5_judge 7 = .ok (.if_icmp .gt 19, 3) := by decide +kernel
theorem dX5_judge_10 : decode cX5_judge 10 = .ok (.lload_n 2, 1) := by decide +kernel
theorem dX5_judge_11 : decode cX5_judge 11 = .ok (.lconst 0, 1) := by decide +kernel
theorem dX5_judge_12 : decode cX5_judge 12 = .ok (.lcmp, 1) := by decide +kernel
theorem dX5_judge_13 : decode cX5_judge 13 = .ok (.ifCond .lt 13, 3) := by decide +kernel
theorem dX5_judge_16 : decode cX5_judge 16 = .ok (.lload_n 2, 1) := by decide +kernel
theorem dX5_judge_17 : decode cX5_judge 17 = .ok (.getstatic 169, 3) := by decide +kernel
theorem dX5_judge_20 : decode cX5_judge 20 = .ok (.iload_n 1, 1) := by decide +kernel
theorem dX5_judge_21 : decode cX5_judge 21 = .ok (.laload, 1) := by decide +kernel
theorem dX5_judge_22 : decode cX5_judge 22 = .ok (.lcmp, 1) := by decide +kernel
theorem dX5_judge_23 : decode cX5_judge 23 = .ok (.ifCond .lt 6, 3) := by decide +kernel
theorem dX5_judge_26 : decode cX5_judge 26 = .ok (.bipush (-2), 2) := by decide +kernel
theorem dX5_judge_28 : decode cX5_judge 28 = .ok (.ireturn, 1) := by decide +kernel
theorem dX5_judge_29 : decode cX5_judge 29 = .ok (.lload_n 2, 1) := by decide +kernel
theorem dX5_judge_30 : decode cX5_judge 30 = .ok (.lstore 4, 2) := by decide +kernel
theorem dX5_judge_32 : decode cX5_judge 32 = .ok (.iload_n 1, 1) := by decide +kernel
theorem dX5_judge_33 : decode cX5_judge 33 = .ok (.iconst 1, 1) := by decide +kernel
theorem dX5_judge_34 : decode cX5_judge 34 = .ok (.isub, 1) := by decide +kernel
theorem dX5_judge_35 : decode cX5_judge 35 = .ok (.istore 6, 2) := by decide +kernel
theorem dX5_judge_37 : decode cX5_judge 37 = .ok (.iload 6, 2) := by decide +kernel
theorem dX5_judge_39 : decode cX5_judge 39 = .ok (.ifCond .lt 31, 3) := by decide +kernel
theorem dX5_judge_42 : decode cX5_judge 42 = .ok (.aload_n 0, 1) := by decide +kernel
theorem dX5_judge_43 : decode cX5_judge 43 = .ok (.getfield 56, 3) := by decide +kernel
theorem dX5_judge_46 : decode cX5_judge 46 = .ok (.iload 6, 2) := by decide +kernel
theorem dX5_judge_48 : decode cX5_judge 48 = .ok (.lload 4, 2) := by decide +kernel
theorem dX5_judge_50 : decode cX5_judge 50 = .ok (.ldc2_w 173, 3) := by decide +kernel
theorem dX5_judge_53 : decode cX5_judge 53 = .ok (.lrem, 1) := by decide +kernel
theorem dX5_judge_54 : decode cX5_judge 54 = .ok (.l2i, 1) := by decide +kernel
theorem dX5_judge_55 : decode cX5_judge 55 = .ok (.iastore, 1) := by decide +kernel
theorem dX5_judge_56 : decode cX5_judge 56 = .ok (.lload 4, 2) := by decide +kernel
theorem dX5_judge_58 : decode cX5_judge 58 = .ok (.ldc2_w 173, 3) := by decide +kernel
theorem dX5_judge_61 : decode cX5_judge 61 = .ok (.ldiv, 1) := by decide +kernel
theorem dX5_judge_62 : decode cX5_judge 62 = .ok (.lstore 4, 2) := by decide +kernel
theorem dX5_judge_64 : decode cX5_judge 64 = .ok (.iinc 6 (-1), 3) := by decide +kernel
theorem dX5_judge_67 : decode cX5_judge 67 = .ok (.goto (-30), 3) := by decide +kernel
theorem dX5_judge_70 : decode cX5_judge 70 = .ok (.aload_n 0, 1) := by decide +kernel
theorem dX5_judge_71 : decode cX5_judge 71 = .ok (.getfield 23, 3) := by decide +kernel
theorem dX5_judge_74 : decode cX5_judge 74 = .ok (.aload_n 0, 1) := by decide +kernel
theorem dX5_judge_75 : decode cX5_judge 75 = .ok (.getfield 19, 3) := by decide +kernel
theorem dX5_judge_78 : decode cX5_judge 78 = .ok (.invokevirtual 154, 3) := by decide +kernel
theorem dX5_judge_81 : decode cX5_judge 81 = .ok (.iconst 0, 1) := by decide +kernel
theorem dX5_judge_82 : decode cX5_judge 82 = .ok (.istore 6, 2) := by decide +kernel
theorem dX5_judge_84 : decode cX5_judge 84 = .ok (.iload 6, 2) := by decide +kernel
theorem dX5_judge_86 : decode cX5_judge 86 = .ok (.iload_n 1, 1) := by decide +kernel
theorem dX5_judge_87 : decode cX5_judge 87 = .ok (.if_icmp .ge 29, 3) := by decide +kernel
theorem dX5_judge_90 : decode cX5_judge 90 = .ok (.aload_n 0, 1) := by decide +kernel
theorem dX5_judge_91 : decode cX5_judge 91 = .ok (.getfield 23, 3) := by decide +kernel
theorem dX5_judge_94 : decode cX5_judge 94 = .ok (.aload_n 0, 1) := by decide +kernel
theorem dX5_judge_95 : decode cX5_judge 95 = .ok (.getfield 56, 3) := by decide +kernel
theorem dX5_judge_98 : decode cX5_judge 98 = .ok (.iload 6, 2) := by decide +kernel
theorem dX5_judge_100 : decode cX5_judge 100 = .ok (.iaload, 1) := by decide +kernel
theorem dX5_judge_101 : decode cX5_judge 101 = .ok (.invokestatic 175, 3) := by decide +kernel
theorem dX5_judge_104 : decode cX5_judge 104 = .ok (.ifCond .ne 6, 3) := by decide +kernel
theorem dX5_judge_107 : decode cX5_judge 107 = .ok (.iload 6, 2) := by decide +kernel
theorem dX5_judge_109 : decode cX5_judge 109 = .ok (.ireturn, 1) := by decide +kernel
theorem dX5_judge_110 : decode cX5_judge 110 = .ok (.iinc 6 1, 3) := by decide +kernel
theorem dX5_judge_113 : decode cX5_judge 113 = .ok (.goto (-29), 3) := by decide +kernel
theorem dX5_judge_116 : decode cX5_judge 116 = .ok (.bipush (-9), 2) := by decide +kernel
theorem dX5_judge_118 : decode cX5_judge 118 = .ok (.ireturn, 1) := by decide +kernel
theorem dX5_see_0 : decode cX5_see 0 = .ok (.iload_n 1, 1) := by decide +kernel
theorem dX5_see_1 : decode cX5_see 1 = .ok (.ifCond .lt 28, 3) := by decide +kernel
theorem dX5_see_4 : decode cX5_see 4 = .ok (.iload_n 1, 1) := by decide +kernel
theorem dX5_see_5 : decode cX5_see 5 = .ok (.bipush 30, 2) := by decide +kernel
theorem dX5_see_7 : decode cX5_see 7 = .ok (.if_icmp .gt 22, 3) := by decide +kernel
theorem dX5_see_10 : decode cX5_see 10 = .ok (.iload_n 2, 1) := by decide +kernel
theorem dX5_see_11 : decode cX5_see 11 = .ok (.ifCond .lt 18, 3) := by decide +kernel
theorem dX5_see_14 : decode cX5_see 14 = .ok (.iload_n 2, 1) := by decide +kernel
theorem dX5_see_15 : decode cX5_see 15 = .ok (.bipush 99, 2) := by decide +kernel
theorem dX5_see_17 : decode cX5_see 17 = .ok (.if_icmp .gt 12, 3) := by decide +kernel
theorem dX5_see_20 : decode cX5_see 20 = .ok (.iload_n 3, 1) := by decide +kernel
theorem dX5_see_21 : decode cX5_see 21 = .ok (.ifCond .lt 8, 3) := by decide +kernel
theorem dX5_see_24 : decode cX5_see 24 = .ok (.iload_n 3, 1) := by decide +kernel
theorem dX5_see_25 : decode cX5_see 25 = .ok (.iconst 1, 1) := by decide +kernel
theorem dX5_see_26 : decode cX5_see 26 = .ok (.if_icmp .le 6, 3) := by decide +kernel
theorem dX5_see_29 : decode cX5_see 29 = .ok (.bipush (-2), 2) := by decide +kernel
theorem dX5_see_31 : decode cX5_see 31 = .ok (.ireturn, 1) := by decide +kernel
theorem dX5_see_32 : decode cX5_see 32 = .ok (.aload_n 0, 1) := by decide +kernel
theorem dX5_see_33 : decode cX5_see 33 = .ok (.getfield 52, 3) := by decide +kernel
theorem dX5_see_36 : decode cX5_see 36 = .ok (.iload_n 1, 1) := by decide +kernel
theorem dX5_see_37 : decode cX5_see 37 = .ok (.iload_n 2, 1) := by decide +kernel
theorem dX5_see_38 : decode cX5_see 38 = .ok (.iload_n 3, 1) := by decide +kernel
theorem dX5_see_39 : decode cX5_see 39 = .ok (.invokevirtual 179, 3) := by decide +kernel
theorem dX5_see_42 : decode cX5_see 42 = .ok (.ifCond .eq 13, 3) := by decide +kernel
theorem dX5_see_45 : decode cX5_see 45 = .ok (.aload_n 0, 1) := by decide +kernel
theorem dX5_see_46 : decode cX5_see 46 = .ok (.getfield 52, 3) := by decide +kernel
theorem dX5_see_49 : decode cX5_see 49 = .ok (.getfield 182, 3) := by decide +kernel
theorem dX5_see_52 : decode cX5_see 52 = .ok (.goto 5, 3) := by decide +kernel
theorem dX5_see_55 : decode cX5_see 55 = .ok (.bipush (-4), 2) := by decide +kernel
theorem dX5_see_57 : decode cX5_see 57 = .ok (.ireturn, 1) := by decide +kernel
theorem dX5_unsee_0 : decode cX5_unsee 0 = .ok (.aload_n 0, 1) := by decide +kernel
theorem dX5_unsee_1 : decode cX5_unsee 1 = .ok (.getfield 52, 3) := by decide +kernel
theorem dX5_unsee_4 : decode cX5_unsee 4 = .ok (.getfield 182, 3) := by decide +kernel
theorem dX5_unsee_7 : decode cX5_unsee 7 = .ok (.istore_n 1, 1) := by decide +kernel
theorem dX5_unsee_8 : decode cX5_unsee 8 = .ok (.aload_n 0, 1) := by decide +kernel
theorem dX5_unsee_9 : decode cX5_unsee 9 = .ok (.getfield 52, 3) := by decide +kernel
theorem dX5_unsee_12 : decode cX5_unsee 12 = .ok (.iconst 0, 1) := by decide +kernel
theorem dX5_unsee_13 : decode cX5_unsee 13 = .ok (.putfield 182, 3) := by decide +kernel
theorem dX5_unsee_16 : decode cX5_unsee 16 = .ok (.iload_n 1, 1) := by decide +kernel
theorem dX5_unsee_17 : decode cX5_unsee 17 = .ok (.ireturn, 1) := by decide +kernel
theorem dX5_which_0 : decode cX5_which 0 = .ok (.iconst 0, 1) := by decide +kernel
theorem dX5_which_1 : decode cX5_which 1 = .ok (.istore_n 1, 1) := by decide +kernel
theorem dX5_which_2 : decode cX5_which 2 = .ok (.iconst 0, 1) := by decide +kernel
theorem dX5_which_3 : decode cX5_which 3 = .ok (.istore_n 2, 1) := by decide +kernel
theorem dX5_which_4 : decode cX5_which 4 = .ok (.iload_n 2, 1) := by decide +kernel
theorem dX5_which_5 : decode cX5_which 5 = .ok (.aload_n 0, 1) := by decide +kernel
theorem dX5_which_6 : decode cX5_which 6 = .ok (.getfield 19, 3) := by decide +kernel
theorem dX5_which_9 : decode cX5_which 9 = .ok (.getfield 88, 3) := by decide +kernel
theorem dX5_which_12 : decode cX5_which 12 = .ok (.if_icmp .ge 68, 3) := by decide +kernel
theorem dX5_which_15 : decode cX5_which 15 = .ok (.aload_n 0, 1) := by decide +kernel
theorem dX5_which_16 : decode cX5_which 16 = .ok (.getfield 19, 3) := by decide +kernel
theorem dX5_which_19 : decode cX5_which 19 = .ok (.getfield 136, 3) := by decide +kernel
theorem dX5_which_22 : decode cX5_which 22 = .ok (.bipush 12, 2) := by decide +kernel
theorem dX5_which_24 : decode cX5_which 24 = .ok (.iload_n 2, 1) := by decide +kernel
theorem dX5_which_25 : decode cX5_which 25 = .ok (.iadd, 1) := by decide +kernel
theorem dX5_which_26 : decode cX5_which 26 = .ok (.iaload, 1) := by decide +kernel
theorem dX5_which_27 : decode cX5_which 27 = .ok (.ifCond .ne 47, 3) := by decide +kernel
theorem dX5_which_30 : decode cX5_which 30 = .ok (.aload_n 0, 1) := by decide +kernel
theorem dX5_which_31 : decode cX5_which 31 = .ok (.getfield 23, 3) := by decide +kernel
theorem dX5_which_34 : decode cX5_which 34 = .ok (.aload_n 0, 1) := by decide +kernel
theorem dX5_which_35 : decode cX5_which 35 = .ok (.getfield 19, 3) := by decide +kernel
theorem dX5_which_38 : decode cX5_which 38 = .ok (.invokevirtual 154, 3) := by decide +kernel
theorem dX5_which_41 : decode cX5_which 41 = .ok (.aload_n 0, 1) := by decide +kernel
theorem dX5_which_42 : decode cX5_which 42 = .ok (.getfield 23, 3) := by decide +kernel
theorem dX5_which_45 : decode cX5_which 45 = .ok (.getfield 136, 3) := by decide +kernel
theorem dX5_which_48 : decode cX5_which 48 = .ok (.bipush 12, 2) := by decide +kernel
theorem dX5_which_50 : decode cX5_which 50 = .ok (.iload_n 2, 1) := by decide +kernel
theorem dX5_which_51 : decode cX5_which 51 = .ok (.iadd, 1) := by decide +kernel
theorem dX5_which_52 : decode cX5_which 52 = .ok (.iconst 1, 1) := by decide +kernel
theorem dX5_which_53 : decode cX5_which 53 = .ok (.iastore, 1) := by decide +kernel
theorem dX5_which_54 : decode cX5_which 54 = .ok (.aload_n 0, 1) := by decide +kernel
theorem dX5_which_55 : decode cX5_which 55 = .ok (.getfield 52, 3) := by decide +kernel
theorem dX5_which_58 : decode cX5_which 58 = .ok (.aload_n 0, 1) := by decide +kernel
theorem dX5_which_59 : decode cX5_which 59 = .ok (.getfield 23, 3) := by decide +kernel
theorem dX5_which_62 : decode cX5_which 62 = .ok (.invokevirtual 183, 3) := by decide +kernel
theorem dX5_which_65 : decode cX5_which 65 = .ok (.ifCond .eq 9, 3) := by decide +kernel
theorem dX5_which_68 : decode cX5_which 68 = .ok (.iload_n 1, 1) := by decide +kernel
theorem dX5_which_69 : decode cX5_which 69 = .ok (.iconst 1, 1) := by decide +kernel
theorem dX5_which_70 : decode cX5_which 70 = .ok (.iload_n 2, 1) := by decide +kernel
theorem dX5_which_71 : decode cX5_which 71 = .ok (.ishl, 1) := by decide +kernel
theorem dX5_which_72 : decode cX5_which 72 = .ok (.ior, 1) := by decide +kernel
theorem dX5_which_73 : decode cX5_which 73 = .ok (.istore_n 1, 1) := by decide +kernel
theorem dX5_which_74 : decode cX5_which 74 = .ok (.iinc 2 1, 3) := by decide +kernel
theorem dX5_which_77 : decode cX5_which 77 = .ok (.goto (-73), 3) := by decide +kernel
theorem dX5_which_80 : decode cX5_which 80 = .ok (.iload_n 1, 1) := by decide +kernel
theorem dX5_which_81 : decode cX5_which 81 = .ok (.ireturn, 1) := by decide +kernel
theorem dX5_share_0 : decode cX5_share 0 = .ok (.aload_n 0, 1) := by decide +kernel
theorem dX5_share_1 : decode cX5_share 1 = .ok (.getfield 19, 3) := by decide +kernel
theorem dX5_share_4 : decode cX5_share 4 = .ok (.iload_n 1, 1) := by decide +kernel
theorem dX5_share_5 : decode cX5_share 5 = .ok (.invokevirtual 91, 3) := by decide +kernel
theorem dX5_share_8 : decode cX5_share 8 = .ok (.ifCond .ne 5, 3) := by decide +kernel
theorem dX5_share_11 : decode cX5_share 11 = .ok (.iconst (-1), 1) := by decide +kernel
theorem dX5_share_12 : decode cX5_share 12 = .ok (.ireturn, 1) := by decide +kernel
theorem dX5_share_13 : decode cX5_share 13 = .ok (.aload_n 0, 1) := by decide +kernel
theorem dX5_share_14 : decode cX5_share 14 = .ok (.getfield 19, 3) := by decide +kernel
theorem dX5_share_17 : decode cX5_share 17 = .ok (.invokevirtual 186, 3) := by decide +kernel
theorem dX5_share_20 : decode cX5_share 20 = .ok (.istore_n 3, 1) := by decide +kernel
theorem dX5_share_21 : decode cX5_share 21 = .ok (.aload_n 0, 1) := by decide +kernel
theorem dX5_share_22 : decode cX5_share 22 = .ok (.getfield 19, 3) := by decide +kernel
theorem dX5_share_25 : decode cX5_share 25 = .ok (.getfield 136, 3) := by decide +kernel
theorem dX5_share_28 : decode cX5_share 28 = .ok (.bipush 12, 2) := by decide +kernel
theorem dX5_share_30 : decode cX5_share 30 = .ok (.iload_n 1, 1) := by decide +kernel
theorem dX5_share_31 : decode cX5_share 31 = .ok (.iadd, 1) := by decide +kernel
theorem dX5_share_32 : decode cX5_share 32 = .ok (.iaload, 1) := by decide +kernel
theorem dX5_share_33 : decode cX5_share 33 = .ok (.ifCond .eq 9, 3) := by decide +kernel
theorem dX5_share_36 : decode cX5_share 36 = .ok (.iload_n 3, 1) := by decide +kernel
theorem dX5_share_37 : decode cX5_share 37 = .ok (.bipush 6, 2) := by decide +kernel
theorem dX5_share_39 : decode cX5_share 39 = .ok (.if_icmp .le 6, 3) := by decide +kernel
theorem dX5_share_42 : decode cX5_share 42 = .ok (.bipush (-3), 2) := by decide +kernel
theorem dX5_share_44 : decode cX5_share 44 = .ok (.ireturn, 1) := by decide +kernel
theorem dX5_share_45 : decode cX5_share 45 = .ok (.aload_n 0, 1) := by decide +kernel
theorem dX5_share_46 : decode cX5_share 46 = .ok (.iload_n 1, 1) := by decide +kernel
theorem dX5_share_47 : decode cX5_share 47 = .ok (.invokevirtual 189, 3) := by decide +kernel
theorem dX5_share_50 : decode cX5_share 50 = .ok (.istore 4, 2) := by decide +kernel
theorem dX5_share_52 : decode cX5_share 52 = .ok (.iconst 0, 1) := by decide +kernel
theorem dX5_share_53 : decode cX5_share 53 = .ok (.istore 5, 2) := by decide +kernel
theorem dX5_share_55 : decode cX5_share 55 = .ok (.iload 5, 2) := by decide +kernel
theorem dX5_share_57 : decode cX5_share 57 = .ok (.iconst 1, 1) := by decide +kernel
theorem dX5_share_58 : decode cX5_share 58 = .ok (.iload_n 3, 1) := by decide +kernel
theorem dX5_share_59 : decode cX5_share 59 = .ok (.ishl, 1) := by decide +kernel
theorem dX5_share_60 : decode cX5_share 60 = .ok (.if_icmp .ge 23, 3) := by decide +kernel
theorem dX5_share_63 : decode cX5_share 63 = .ok (.aload_n 0, 1) := by decide +kernel
theorem dX5_share_64 : decode cX5_share 64 = .ok (.getfield 63, 3) := by decide +kernel
theorem dX5_share_67 : decode cX5_share 67 = .ok (.iload 5, 2) := by decide +kernel
theorem dX5_share_69 : decode cX5_share 69 = .ok (.aload_n 0, 1) := by decide +kernel
theorem dX5_share_70 : decode cX5_share 70 = .ok (.iload 5, 2) := by decide +kernel
theorem dX5_share_72 : decode cX5_share 72 = .ok (.iload_n 3, 1) := by decide +kernel
theorem dX5_share_73 : decode cX5_share 73 = .ok (.invokevirtual 192, 3) := by decide +kernel
theorem dX5_share_76 : decode cX5_share 76 = .ok (.iastore, 1) := by decide +kernel
theorem dX5_share_77 : decode cX5_share 77 = .ok (.iinc 5 1, 3) := by decide +kernel
theorem dX5_share_80 : decode cX5_share 80 = .ok (.goto (-25), 3) := by decide +kernel
theorem dX5_share_83 : decode cX5_share 83 = .ok (.aload_n 0, 1) := by decide +kernel
theorem dX5_share_84 : decode cX5_share 84 = .ok (.iload 4, 2) := by decide +kernel
theorem dX5_share_86 : decode cX5_share 86 = .ok (.iload_n 3, 1) := by decide +kernel
theorem dX5_share_87 : decode cX5_share 87 = .ok (.invokevirtual 195, 3) := by decide +kernel
theorem dX5_share_90 : decode cX5_share 90 = .ok (.getstatic 198, 3) := by decide +kernel
theorem dX5_share_93 : decode cX5_share 93 = .ok (.iload_n 3, 1) := by decide +kernel
theorem dX5_share_94 : decode cX5_share 94 = .ok (.iaload, 1) := by decide +kernel
theorem dX5_share_95 : decode cX5_share 95 = .ok (.iload_n 2, 1) := by decide +kernel
theorem dX5_share_96 : decode cX5_share 96 = .ok (.invokestatic 201, 3) := by decide +kernel
theorem dX5_share_99 : decode cX5_share 99 = .ok (.ireturn, 1) := by decide +kernel
theorem dX5_shut_0 : decode cX5_shut 0 = .ok (.iload_n 1, 1) := by decide +kernel
theorem dX5_shut_1 : decode cX5_shut 1 = .ok (.iconst 1, 1) := by decide +kernel
theorem dX5_shut_2 : decode cX5_shut 2 = .ok (.if_icmp .lt 19, 3) := by decide +kernel
theorem dX5_shut_5 : decode cX5_shut 5 = .ok (.iload_n 1, 1) := by decide +kernel
theorem dX5_shut_6 : decode cX5_shut 6 = .ok (.bipush 8, 2) := by decide +kernel
theorem dX5_shut_8 : decode cX5_shut 8 = .ok (.if_icmp .gt 13, 3) := by decide +kernel
theorem dX5_shut_11 : decode cX5_shut 11 = .ok (.iload_n 2, 1) := by decide +kernel
theorem dX5_shut_12 : decode cX5_shut 12 = .ok (.ifCond .lt 9, 3) := by decide +kernel
theorem dX5_shut_15 : decode cX5_shut 15 = .ok (.iload_n 2, 1) := by decide +kernel
theorem dX5_shut_16 : decode cX5_shut 16 = .ok (.bipush 10, 2) := by decide +kernel
theorem dX5_shut_18 : decode cX5_shut 18 = .ok (.if_icmp .le 6, 3) := by decide +kernel
theorem dX5_shut_21 : decode cX5_shut 21 = .ok (.bipush (-2), 2) := by decide +kernel
theorem dX5_shut_23 : decode cX5_shut 23 = .ok (.ireturn, 1) := by decide +kernel
theorem dX5_shut_24 : decode cX5_shut 24 = .ok (.aload_n 0, 1) := by decide +kernel
theorem dX5_shut_25 : decode cX5_shut 25 = .ok (.getfield 23, 3) := by decide +kernel
theorem dX5_shut_28 : decode cX5_shut 28 = .ok (.aload_n 0, 1) := by decide +kernel
theorem dX5_shut_29 : decode cX5_shut 29 = .ok (.getfield 19, 3) := by decide +kernel
theorem dX5_shut_32 : decode cX5_shut 32 = .ok (.invokevirtual 154, 3) := by decide +kernel
theorem dX5_shut_35 : decode cX5_shut 35 = .ok (.aload_n 0, 1) := by decide +kernel
theorem dX5_shut_36 : decode cX5_shut 36 = .ok (.getfield 23, 3) := by decide +kernel
theorem dX5_shut_39 : decode cX5_shut 39 = .ok (.aload_n 0, 1) := by decide +kernel
theorem dX5_shut_40 : decode cX5_shut 40 = .ok (.getfield 46, 3) := by decide +kernel
theorem dX5_shut_43 : decode cX5_shut 43 = .ok (.iload_n 1, 1) := by decide +kernel
theorem dX5_shut_44 : decode cX5_shut 44 = .ok (.iload_n 2, 1) := by decide +kernel
theorem dX5_shut_45 : decode cX5_shut 45 = .ok (.invokestatic 205, 3) := by decide +kernel
theorem dX5_shut_48 : decode cX5_shut 48 = .ok (.iload_n 1, 1) := by decide +kernel
theorem dX5_shut_49 : decode cX5_shut 49 = .ok (.invokestatic 209, 3) := by decide +kernel
theorem dX5_shut_52 : decode cX5_shut 52 = .ok (.iload_n 3, 1) := by decide +kernel
theorem dX5_shut_53 : decode cX5_shut 53 = .ok (.invokestatic 201, 3) := by decide +kernel
theorem dX5_shut_56 : decode cX5_shut 56 = .ok (.ireturn, 1) := by decide +kernel
theorem dX5_seed_0 : decode cX5_seed 0 = .ok (.aload_n 0, 1) := by decide +kernel
theorem dX5_seed_1 : decode cX5_seed 1 = .ok (.getfield 66, 3) := by decide +kernel
theorem dX5_seed_4 : decode cX5_seed 4 = .ok (.lstore_n 3, 1) := by decide +kernel
theorem dX5_seed_5 : decode cX5_seed 5 = .ok (.aload_n 0, 1) := by decide +kernel
theorem dX5_seed_6 : decode cX5_seed 6 = .ok (.lload_n 1, 1) := by decide +kernel
theorem dX5_seed_7 : decode cX5_seed 7 = .ok (.putfield 66, 3) := by decide +kernel
theorem dX5_seed_10 : decode cX5_seed 10 = .ok (.lload_n 3, 1) := by decide +kernel
theorem dX5_seed_11 : decode cX5_seed 11 = .ok (.lreturn, 1) := by decide +kernel
theorem dX5_drawn_0 : decode cX5_drawn 0 = .ok (.iload_n 1, 1) := by decide +kernel
theorem dX5_drawn_1 : decode cX5_drawn 1 = .ok (.iconst 1, 1) := by decide +kernel
theorem dX5_drawn_2 : decode cX5_drawn 2 = .ok (.if_icmp .lt 9, 3) := by decide +kernel
theorem dX5_drawn_5 : decode cX5_drawn 5 = .ok (.iload_n 1, 1) := by decide +kernel
theorem dX5_drawn_6 : decode cX5_drawn 6 = .ok (.bipush 40, 2) := by decide +kernel
theorem dX5_drawn_8 : decode cX5_drawn 8 = .ok (.if_icmp .le 6, 3) := by decide +kernel
theorem dX5_drawn_11 : decode cX5_drawn 11 = .ok (.bipush (-2), 2) := by decide +kernel
theorem dX5_drawn_13 : decode cX5_drawn 13 = .ok (.ireturn, 1) := by decide +kernel
theorem dX5_drawn_14 : decode cX5_drawn 14 = .ok (.aload_n 0, 1) := by decide +kernel
theorem dX5_drawn_15 : decode cX5_drawn 15 = .ok (.getfield 23, 3) := by decide +kernel
theorem dX5_drawn_18 : decode cX5_drawn 18 = .ok (.aload_n 0, 1) := by decide +kernel
theorem dX5_drawn_19 : decode cX5_drawn 19 = .ok (.getfield 19, 3) := by decide +kernel
theorem dX5_drawn_22 : decode cX5_drawn 22 = .ok (.invokevirtual 154, 3) := by decide +kernel
theorem dX5_drawn_25 : decode cX5_drawn 25 = .ok (.iconst 0, 1) := by decide +kernel
theorem dX5_drawn_26 : decode cX5_drawn 26 = .ok (.istore_n 2, 1) := by decide +kernel
theorem dX5_drawn_27 : decode cX5_drawn 27 = .ok (.iload_n 2, 1) := by decide +kernel
theorem dX5_drawn_28 : decode cX5_drawn 28 = .ok (.iload_n 1, 1) := by decide +kernel
theorem dX5_drawn_29 : decode cX5_drawn 29 = .ok (.if_icmp .ge 70, 3) := by decide +kernel
theorem dX5_drawn_32 : decode cX5_drawn 32 = .ok (.aload_n 0, 1) := by decide +kernel
theorem dX5_drawn_33 : decode cX5_drawn 33 = .ok (.aload_n 0, 1) := by decide +kernel
theorem dX5_drawn_34 : decode cX5_drawn 34 = .ok (.getfield 66, 3) := by decide +kernel
theorem dX5_drawn_37 : decode cX5_drawn 37 = .ok (.ldc2_w 212, 3) := by decide +kernel
theorem dX5_drawn_40 : decode cX5_drawn 40 = .ok (.lmul, 1) := by decide +kernel
theorem dX5_drawn_41 : decode cX5_drawn 41 = .ok (.ldc2_w 214, 3) := by decide +kernel
theorem dX5_drawn_44 : decode cX5_drawn 44 = .ok (.ladd, 1) := by decide +kernel
theorem dX5_drawn_45 : decode cX5_drawn 45 = .ok (.putfield 66, 3) := by decide +kernel
theorem dX5_drawn_48 : decode cX5_drawn 48 = .ok (.aload_n 0, 1) := by decide +kernel
theorem dX5_drawn_49 : decode cX5_drawn 49 = .ok (.getfield 66, 3) := by decide +kernel
theorem dX5_drawn_52 : decode cX5_drawn 52 = .ok (.bipush 33, 2) := by decide +kernel
theorem dX5_drawn_54 : decode cX5_drawn 54 = .ok (.lushr, 1) := by decide +kernel
theorem dX5_drawn_55 : decode cX5_drawn 55 = .ok (.l2i, 1) := by decide +kernel
theorem dX5_drawn_56 : decode cX5_drawn 56 = .ok (.iconst 3, 1) := by decide +kernel
theorem dX5_drawn_57 : decode cX5_drawn 57 = .ok (.irem, 1) := by decide +kernel
theorem dX5_drawn_58 : decode cX5_drawn 58 = .ok (.istore_n 3, 1) := by decide +kernel
theorem dX5_drawn_59 : decode cX5_drawn 59 = .ok (.aload_n 0, 1) := by decide +kernel
theorem dX5_drawn_60 : decode cX5_drawn 60 = .ok (.getfield 23, 3) := by decide +kernel
theorem dX5_drawn_63 : decode cX5_drawn 63 = .ok (.iload_n 3, 1) := by decide +kernel
theorem dX5_drawn_64 : decode cX5_drawn 64 = .ok (.invokevirtual 108, 3) := by decide +kernel
theorem dX5_drawn_67 : decode cX5_drawn 67 = .ok (.ifCond .eq 19, 3) := by decide +kernel
theorem dX5_drawn_70 : decode cX5_drawn 70 = .ok (.aload_n 0, 1) := by decide +kernel
theorem dX5_drawn_71 : decode cX5_drawn 71 = .ok (.getfield 23, 3) := by decide +kernel
theorem dX5_drawn_74 : decode cX5_drawn 74 = .ok (.aload_n 0, 1) := by decide +kernel
theorem dX5_drawn_75 : decode cX5_drawn 75 = .ok (.getfield 23, 3) := by decide +kernel
theorem dX5_drawn_78 : decode cX5_drawn 78 = .ok (.iload_n 3, 1) := by decide +kernel
theorem dX5_drawn_79 : decode cX5_drawn 79 = .ok (.invokevirtual 101, 3) := by decide +kernel
theorem dX5_drawn_82 : decode cX5_drawn 82 = .ok (.invokevirtual 114, 3) := by decide +kernel
theorem dX5_drawn_85 : decode cX5_drawn 85 = .ok (.pop, 1) := by decide +kernel
theorem dX5_drawn_86 : decode cX5_drawn 86 = .ok (.aload_n 0, 1) := by decide +kernel
theorem dX5_drawn_87 : decode cX5_drawn 87 = .ok (.getfield 23, 3) := by decide +kernel
theorem dX5_drawn_90 : decode cX5_drawn 90 = .ok (.invokevirtual 163, 3) := by decide +kernel
theorem dX5_drawn_93 : decode cX5_drawn 93 = .ok (.iinc 2 1, 3) := by decide +kernel
theorem dX5_drawn_96 : decode cX5_drawn 96 = .ok (.goto (-69), 3) := by decide +kernel
theorem dX5_drawn_99 : decode cX5_drawn 99 = .ok (.aload_n 0, 1) := by decide +kernel
theorem dX5_drawn_100 : decode cX5_drawn 100 = .ok (.getfield 23, 3) := by decide +kernel
theorem dX5_drawn_103 : decode cX5_drawn 103 = .ok (.getfield 136, 3) := by decide +kernel
theorem dX5_drawn_106 : decode cX5_drawn 106 = .ok (.bipush 55, 2) := by decide +kernel
theorem dX5_drawn_108 : decode cX5_drawn 108 = .ok (.iaload, 1) := by decide +kernel
theorem dX5_drawn_109 : decode cX5_drawn 109 = .ok (.aload_n 0, 1) := by decide +kernel
theorem dX5_drawn_110 : decode cX5_drawn 110 = .ok (.getfield 19, 3) := by decide +kernel
theorem dX5_drawn_113 : decode cX5_drawn 113 = .ok (.getfield 136, 3) := by decide +kernel
theorem dX5_drawn_116 : decode cX5_drawn 116 = .ok (.bipush 55, 2) := by decide +kernel
theorem dX5_drawn_118 : decode cX5_drawn 118 = .ok (.iaload, 1) := by decide +kernel
theorem dX5_drawn_119 : decode cX5_drawn 119 = .ok (.isub, 1) := by decide +kernel
theorem dX5_drawn_120 : decode cX5_drawn 120 = .ok (.ireturn, 1) := by decide +kernel
theorem dX5_keep_0 : decode cX5_keep 0 = .ok (.iload_n 1, 1) := by decide +kernel
theorem dX5_keep_1 : decode cX5_keep 1 = .ok (.ifCond .lt 8, 3) := by decide +kernel
theorem dX5_keep_4 : decode cX5_keep 4 = .ok (.iload_n 1, 1) := by decide +kernel
theorem dX5_keep_5 : decode cX5_keep 5 = .ok (.iconst 2, 1) := by decide +kernel
theorem dX5_keep_6 : decode cX5_keep 6 = .ok (.if_icmp .lt 5, 3) := by decide +kernel
theorem dX5_keep_9 : decode cX5_keep 9 = .ok (.iconst (-1), 1) := by decide +kernel
theorem dX5_keep_10 : decode cX5_keep 10 = .ok (.ireturn, 1) := by decide +kernel
theorem dX5_keep_11 : decode cX5_keep 11 = .ok (.aload_n 0, 1) := by decide +kernel
theorem dX5_keep_12 : decode cX5_keep 12 = .ok (.getfield 38, 3) := by decide +kernel
theorem dX5_keep_15 : decode cX5_keep 15 = .ok (.iload_n 1, 1) := by decide +kernel
theorem dX5_keep_16 : decode cX5_keep 16 = .ok (.aload_n 0, 1) := by decide +kernel
theorem dX5_keep_17 : decode cX5_keep 17 = .ok (.getfield 19, 3) := by decide +kernel
theorem dX5_keep_20 : decode cX5_keep 20 = .ok (.invokevirtual 216, 3) := by decide +kernel
theorem dX5_keep_23 : decode cX5_keep 23 = .ok (.aload_n 0, 1) := by decide +kernel
theorem dX5_keep_24 : decode cX5_keep 24 = .ok (.dup, 1) := by decide +kernel
theorem dX5_keep_25 : decode cX5_keep 25 = .ok (.getfield 42, 3) := by decide +kernel
theorem dX5_keep_28 : decode cX5_keep 28 = .ok (.iconst 1, 1) := by decide +kernel
theorem dX5_keep_29 : decode cX5_keep 29 = .ok (.iload_n 1, 1) := by decide +kernel
theorem dX5_keep_30 : decode cX5_keep 30 = .ok (.ishl, 1) := by decide +kernel
theorem dX5_keep_31 : decode cX5_keep 31 = .ok (.ior, 1) := by decide +kernel
theorem dX5_keep_32 : decode cX5_keep 32 = .ok (.putfield 42, 3) := by decide +kernel
theorem dX5_keep_35 : decode cX5_keep 35 = .ok (.aload_n 0, 1) := by decide +kernel
theorem dX5_keep_36 : decode cX5_keep 36 = .ok (.getfield 19, 3) := by decide +kernel
theorem dX5_keep_39 : decode cX5_keep 39 = .ok (.getfield 136, 3) := by decide +kernel
theorem dX5_keep_42 : decode cX5_keep 42 = .ok (.bipush 56, 2) := by decide +kernel
theorem dX5_keep_44 : decode cX5_keep 44 = .ok (.iaload, 1) := by decide +kernel
theorem dX5_keep_45 : decode cX5_keep 45 = .ok (.ireturn, 1) := by decide +kernel
theorem dX5_again_0 : decode cX5_again 0 = .ok (.iload_n 1, 1) := by decide +kernel
theorem dX5_again_1 : decode cX5_again 1 = .ok (.ifCond .lt 8, 3) := by decide +kernel
theorem dX5_again_4 : decode cX5_again 4 = .ok (.iload_n 1, 1) := by decide +kernel
theorem dX5_again_5 : decode cX5_again 5 = .ok (.iconst 2, 1) := by decide +kernel
theorem dX5_again_6 : decode cX5_again 6 = .ok (.if_icmp .lt 5, 3) := by decide +kernel
theorem dX5_again_9 : decode cX5_again 9 = .ok (.iconst (-1), 1) := by decide +kernel
theorem dX5_again_10 : decode cX5_again 10 = .ok (.ireturn, 1) := by decide +kernel
theorem dX5_again_11 : decode cX5_again 11 = .ok (.aload_n 0, 1) := by decide +kernel
theorem dX5_again_12 : decode cX5_again 12 = .ok (.getfield 42, 3) := by decide +kernel
theorem dX5_again_15 : decode cX5_again 15 = .ok (.iload_n 1, 1) := by decide +kernel
theorem dX5_again_16 : decode cX5_again 16 = .ok (.invokestatic 220, 3) := by decide +kernel
theorem dX5_again_19 : decode cX5_again 19 = .ok (.ifCond .ne 6, 3) := by decide +kernel
theorem dX5_again_22 : decode cX5_again 22 = .ok (.bipush (-3), 2) := by decide +kernel
theorem dX5_again_24 : decode cX5_again 24 = .ok (.ireturn, 1) := by decide +kernel
theorem dX5_again_25 : decode cX5_again 25 = .ok (.aload_n 0, 1) := by decide +kernel
theorem dX5_again_26 : decode cX5_again 26 = .ok (.getfield 38, 3) := by decide +kernel
theorem dX5_again_29 : decode cX5_again 29 = .ok (.iload_n 1, 1) := by decide +kernel
theorem dX5_again_30 : decode cX5_again 30 = .ok (.aload_n 0, 1) := by decide +kernel
theorem dX5_again_31 : decode cX5_again 31 = .ok (.getfield 19, 3) := by decide +kernel
theorem dX5_again_34 : decode cX5_again 34 = .ok (.invokevirtual 224, 3) := by decide +kernel
theorem dX5_again_37 : decode cX5_again 37 = .ok (.aload_n 0, 1) := by decide +kernel
theorem dX5_again_38 : decode cX5_again 38 = .ok (.getfield 29, 3) := by decide +kernel
theorem dX5_again_41 : decode cX5_again 41 = .ok (.invokevirtual 85, 3) := by decide +kernel
theorem dX5_again_44 : decode cX5_again 44 = .ok (.aload_n 0, 1) := by decide +kernel
theorem dX5_again_45 : decode cX5_again 45 = .ok (.getfield 19, 3) := by decide +kernel
theorem dX5_again_48 : decode cX5_again 48 = .ok (.getfield 136, 3) := by decide +kernel
theorem dX5_again_51 : decode cX5_again 51 = .ok (.bipush 56, 2) := by decide +kernel
theorem dX5_again_53 : decode cX5_again 53 = .ok (.iaload, 1) := by decide +kernel
theorem dX5_again_54 : decode cX5_again 54 = .ok (.ireturn, 1) := by decide +kernel
theorem dX5_count_0 : decode cX5_count 0 = .ok (.iload_n 1, 1) := by decide +kernel
theorem dX5_count_1 : decode cX5_count 1 = .ok (.tableswitch 219 0 14 #[75, 83, 91, 99, 107, 118, 129, 140, 151, 162, 173, 181, 192, 203, 211], 75) := by decide +kernel
theorem dX5_count_76 : decode cX5_count 76 = .ok (.aload_n 0, 1) := by decide +kernel
theorem dX5_count_77 : decode cX5_count 77 = .ok (.getfield 10, 3) := by decide +kernel
theorem dX5_count_80 : decode cX5_count 80 = .ok (.getfield 74, 3) := by decide +kernel
theorem dX5_count_83 : decode cX5_count 83 = .ok (.ireturn, 1) := by decide +kernel
theorem dX5_count_84 : decode cX5_count 84 = .ok (.aload_n 0, 1) := by decide +kernel
theorem dX5_count_85 : decode cX5_count 85 = .ok (.getfield 19, 3) := by decide +kernel
theorem dX5_count_88 : decode cX5_count 88 = .ok (.getfield 227, 3) := by decide +kernel
theorem dX5_count_91 : decode cX5_count 91 = .ok (.ireturn, 1) := by decide +kernel
theorem dX5_count_92 : decode cX5_count 92 = .ok (.aload_n 0, 1) := by decide +kernel
theorem dX5_count_93 : decode cX5_count 93 = .ok (.getfield 19, 3) := by decide +kernel
theorem dX5_count_96 : decode cX5_count 96 = .ok (.getfield 230, 3) := by decide +kernel
theorem dX5_count_99 : decode cX5_count 99 = .ok (.ireturn, 1) := by decide +kernel
theorem dX5_count_100 : decode cX5_count 100 = .ok (.aload_n 0, 1) := by decide +kernel
theorem dX5_count_101 : decode cX5_count 101 = .ok (.getfield 19, 3) := by decide +kernel
theorem dX5_count_104 : decode cX5_count 104 = .ok (.getfield 233, 3) := by decide +kernel
theorem dX5_count_107 : decode cX5_count 107 = .ok (.ireturn, 1) := by decide +kernel
theorem dX5_count_108 : decode cX5_count 108 = .ok (.aload_n 0, 1) := by decide +kernel
theorem dX5_count_109 : decode cX5_count 109 = .ok (.getfield 19, 3) := by decide +kernel
theorem dX5_count_112 : decode cX5_count 112 = .ok (.getfield 136, 3) := by decide +kernel
theorem dX5_count_115 : decode cX5_count 115 = .ok (.bipush 51, 2) := by decide +kernel
theorem dX5_count_117 : decode cX5_count 117 = .ok (.iaload, 1) := by decide +kernel
theorem dX5_count_118 : decode cX5_count 118 = .ok (.ireturn, 1) := by decide +kernel
theorem dX5_count_119 : decode cX5_count 119 = .ok (.aload_n 0, 1) := by decide +kernel
theorem dX5_count_120 : decode cX5_count 120 = .ok (.getfield 19, 3) := by decide +kernel
theorem dX5_count_123 : decode cX5_count 123 = .ok (.getfield 136, 3) := by decide +kernel
theorem dX5_count_126 : decode cX5_count 126 = .ok (.bipush 52, 2) := by decide +kernel
theorem dX5_count_128 : decode cX5_count 128 = .ok (.iaload, 1) := by decide +kernel
theorem dX5_count_129 : decode cX5_count 129 = .ok (.ireturn, 1) := by decide +kernel
theorem dX5_count_130 : decode cX5_count 130 = .ok (.aload_n 0, 1) := by decide +kernel
theorem dX5_count_131 : decode cX5_count 131 = .ok (.getfield 19, 3) := by decide +kernel
theorem dX5_count_134 : decode cX5_count 134 = .ok (.getfield 136, 3) := by decide +kernel
theorem dX5_count_137 : decode cX5_count 137 = .ok (.bipush 50, 2) := by decide +kernel
theorem dX5_count_139 : decode cX5_count 139 = .ok (.iaload, 1) := by decide +kernel
theorem dX5_count_140 : decode cX5_count 140 = .ok (.ireturn, 1) := by decide +kernel
theorem dX5_count_141 : decode cX5_count 141 = .ok (.aload_n 0, 1) := by decide +kernel
theorem dX5_count_142 : decode cX5_count 142 = .ok (.getfield 19, 3) := by decide +kernel
theorem dX5_count_145 : decode cX5_count 145 = .ok (.getfield 136, 3) := by decide +kernel
theorem dX5_count_148 : decode cX5_count 148 = .ok (.bipush 56, 2) := by decide +kernel
theorem dX5_count_150 : decode cX5_count 150 = .ok (.iaload, 1) := by decide +kernel
theorem dX5_count_151 : decode cX5_count 151 = .ok (.ireturn, 1) := by decide +kernel
theorem dX5_count_152 : decode cX5_count 152 = .ok (.aload_n 0, 1) := by decide +kernel
theorem dX5_count_153 : decode cX5_count 153 = .ok (.getfield 19, 3) := by decide +kernel
theorem dX5_count_156 : decode cX5_count 156 = .ok (.getfield 136, 3) := by decide +kernel
theorem dX5_count_159 : decode cX5_count 159 = .ok (.bipush 54, 2) := by decide +kernel
theorem dX5_count_161 : decode cX5_count 161 = .ok (.iaload, 1) := by decide +kernel
theorem dX5_count_162 : decode cX5_count 162 = .ok (.ireturn, 1) := by decide +kernel
theorem dX5_count_163 : decode cX5_count 163 = .ok (.aload_n 0, 1) := by decide +kernel
theorem dX5_count_164 : decode cX5_count 164 = .ok (.getfield 19, 3) := by decide +kernel
theorem dX5_count_167 : decode cX5_count 167 = .ok (.getfield 136, 3) := by decide +kernel
theorem dX5_count_170 : decode cX5_count 170 = .ok (.bipush 55, 2) := by decide +kernel
theorem dX5_count_172 : decode cX5_count 172 = .ok (.iaload, 1) := by decide +kernel
theorem dX5_count_173 : decode cX5_count 173 = .ok (.ireturn, 1) := by decide +kernel
theorem dX5_count_174 : decode cX5_count 174 = .ok (.aload_n 0, 1) := by decide +kernel
theorem dX5_count_175 : decode cX5_count 175 = .ok (.getfield 19, 3) := by decide +kernel
theorem dX5_count_178 : decode cX5_count 178 = .ok (.invokevirtual 236, 3) := by decide +kernel
theorem dX5_count_181 : decode cX5_count 181 = .ok (.ireturn, 1) := by decide +kernel
theorem dX5_count_182 : decode cX5_count 182 = .ok (.aload_n 0, 1) := by decide +kernel
theorem dX5_count_183 : decode cX5_count 183 = .ok (.getfield 19, 3) := by decide +kernel
theorem dX5_count_186 : decode cX5_count 186 = .ok (.getfield 136, 3) := by decide +kernel
theorem dX5_count_189 : decode cX5_count 189 = .ok (.bipush 48, 2) := by decide +kernel
theorem dX5_count_191 : decode cX5_count 191 = .ok (.iaload, 1) := by decide +kernel
theorem dX5_count_192 : decode cX5_count 192 = .ok (.ireturn, 1) := by decide +kernel
theorem dX5_count_193 : decode cX5_count 193 = .ok (.aload_n 0, 1) := by decide +kernel
theorem dX5_count_194 : decode cX5_count 194 = .ok (.getfield 19, 3) := by decide +kernel
theorem dX5_count_197 : decode cX5_count 197 = .ok (.getfield 136, 3) := by decide +kernel
theorem dX5_count_200 : decode cX5_count 200 = .ok (.bipush 49, 2) := by decide +kernel
theorem dX5_count_202 : decode cX5_count 202 = .ok (.iaload, 1) := by decide +kernel
theorem dX5_count_203 : decode cX5_count 203 = .ok (.ireturn, 1) := by decide +kernel
theorem dX5_count_204 : decode cX5_count 204 = .ok (.aload_n 0, 1) := by decide +kernel
theorem dX5_count_205 : decode cX5_count 205 = .ok (.getfield 29, 3) := by decide +kernel
theorem dX5_count_208 : decode cX5_count 208 = .ok (.getfield 151, 3) := by decide +kernel
theorem dX5_count_211 : decode cX5_count 211 = .ok (.ireturn, 1) := by decide +kernel
theorem dX5_count_212 : decode cX5_count 212 = .ok (.aload_n 0, 1) := by decide +kernel
theorem dX5_count_213 : decode cX5_count 213 = .ok (.getfield 52, 3) := by decide +kernel
theorem dX5_count_216 : decode cX5_count 216 = .ok (.getfield 182, 3) := by decide +kernel
theorem dX5_count_219 : decode cX5_count 219 = .ok (.ireturn, 1) := by decide +kernel
theorem dX5_count_220 : decode cX5_count 220 = .ok (.bipush (-2), 2) := by decide +kernel
theorem dX5_count_222 : decode cX5_count 222 = .ok (.ireturn, 1) := by decide +kernel
theorem dX5_factOf_0 : decode cX5_factOf 0 = .ok (.iload_n 2, 1) := by decide +kernel
theorem dX5_factOf_1 : decode cX5_factOf 1 = .ok (.tableswitch 146 0 6 #[43, 65, 75, 92, 106, 126, 136], 43) := by decide +kernel
theorem dX5_factOf_44 : decode cX5_factOf 44 = .ok (.aload_n 0, 1) := by decide +kernel
theorem dX5_factOf_45 : decode cX5_factOf 45 = .ok (.iload_n 1, 1) := by decide +kernel
theorem dX5_factOf_46 : decode cX5_factOf 46 = .ok (.invokevirtual 105, 3) := by decide +kernel
theorem dX5_factOf_49 : decode cX5_factOf 49 = .ok (.ifCond .eq 14, 3) := by decide +kernel
theorem dX5_factOf_52 : decode cX5_factOf 52 = .ok (.aload_n 0, 1) := by decide +kernel
theorem dX5_factOf_53 : decode cX5_factOf 53 = .ok (.getfield 136, 3) := by decide +kernel
theorem dX5_factOf_56 : decode cX5_factOf 56 = .ok (.iconst 0, 1) := by decide +kernel
theorem dX5_factOf_57 : decode cX5_factOf 57 = .ok (.iload_n 1, 1) := by decide +kernel
theorem dX5_factOf_58 : decode cX5_factOf 58 = .ok (.iadd, 1) := by decide +kernel
theorem dX5_factOf_59 : decode cX5_factOf 59 = .ok (.iaload, 1) := by decide +kernel
theorem dX5_factOf_60 : decode cX5_factOf 60 = .ok (.goto 5, 3) := by decide +kernel
theorem dX5_factOf_63 : decode cX5_factOf 63 = .ok (.bipush (-9), 2) := by decide +kernel
theorem dX5_factOf_65 : decode cX5_factOf 65 = .ok (.ireturn, 1) := by decide +kernel
theorem dX5_factOf_66 : decode cX5_factOf 66 = .ok (.aload_n 0, 1) := by decide +kernel
theorem dX5_factOf_67 : decode cX5_factOf 67 = .ok (.getfield 136, 3) := by decide +kernel
theorem dX5_factOf_70 : decode cX5_factOf 70 = .ok (.bipush 12, 2) := by decide +kernel
theorem dX5_factOf_72 : decode cX5_factOf 72 = .ok (.iload_n 1, 1) := by decide +kernel
theorem dX5_factOf_73 : decode cX5_factOf 73 = .ok (.iadd, 1) := by decide +kernel
theorem dX5_factOf_74 : decode cX5_factOf 74 = .ok (.iaload, 1) := by decide +kernel
theorem dX5_factOf_75 : decode cX5_factOf 75 = .ok (.ireturn, 1) := by decide +kernel
theorem dX5_factOf_76 : decode cX5_factOf 76 = .ok (.aload_n 0, 1) := by decide +kernel
theorem dX5_factOf_77 : decode cX5_factOf 77 = .ok (.invokevirtual 239, 3) := by decide +kernel
theorem dX5_factOf_80 : decode cX5_factOf 80 = .ok (.iload_n 1, 1) := by decide +kernel
theorem dX5_factOf_81 : decode cX5_factOf 81 = .ok (.invokestatic 220, 3) := by decide +kernel
theorem dX5_factOf_84 : decode cX5_factOf 84 = .ok (.ifCond .eq 7, 3) := by decide +kernel
theorem dX5_factOf_87 : decode cX5_factOf 87 = .ok (.iconst 1, 1) := by decide +kernel
theorem dX5_factOf_88 : decode cX5_factOf 88 = .ok (.goto 4, 3) := by decide +kernel
theorem dX5_factOf_91 : decode cX5_factOf 91 = .ok (.iconst 0, 1) := by decide +kernel
theorem dX5_factOf_92 : decode cX5_factOf 92 = .ok (.ireturn, 1) := by decide +kernel
theorem dX5_factOf_93 : decode cX5_factOf 93 = .ok (.aload_n 0, 1) := by decide +kernel
theorem dX5_factOf_94 : decode cX5_factOf 94 = .ok (.iload_n 1, 1) := by decide +kernel
theorem dX5_factOf_95 : decode cX5_factOf 95 = .ok (.invokevirtual 130, 3) := by decide +kernel
theorem dX5_factOf_98 : decode cX5_factOf 98 = .ok (.ifCond .eq 7, 3) := by decide +kernel
theorem dX5_factOf_101 : decode cX5_factOf 101 = .ok (.iconst 1, 1) := by decide +kernel
theorem dX5_factOf_102 : decode cX5_factOf 102 = .ok (.goto 4, 3) := by decide +kernel
theorem dX5_factOf_105 : decode cX5_factOf 105 = .ok (.iconst 0, 1) := by decide +kernel
theorem dX5_factOf_106 : decode cX5_factOf 106 = .ok (.ireturn, 1) := by decide +kernel
theorem dX5_factOf_107 : decode cX5_factOf 107 = .ok (.aload_n 0, 1) := by decide +kernel
theorem dX5_factOf_108 : decode cX5_factOf 108 = .ok (.getfield 136, 3) := by decide +kernel
theorem dX5_factOf_111 : decode cX5_factOf 111 = .ok (.bipush 49, 2) := by decide +kernel
theorem dX5_factOf_113 : decode cX5_factOf 113 = .ok (.iaload, 1) := by decide +kernel
theorem dX5_factOf_114 : decode cX5_factOf 114 = .ok (.iload_n 1, 1) := by decide +kernel
theorem dX5_factOf_115 : decode cX5_factOf 115 = .ok (.invokestatic 220, 3) := by decide +kernel
theorem dX5_factOf_118 : decode cX5_factOf 118 = .ok (.ifCond .eq 7, 3) := by decide +kernel
theorem dX5_factOf_121 : decode cX5_factOf 121 = .ok (.iconst 1, 1) := by decide +kernel
theorem dX5_factOf_122 : decode cX5_factOf 122 = .ok (.goto 4, 3) := by decide +kernel
theorem dX5_factOf_125 : decode cX5_factOf 125 = .ok (.iconst 0, 1) := by decide +kernel
theorem dX5_factOf_126 : decode cX5_factOf 126 = .ok (.ireturn, 1) := by decide +kernel
theorem dX5_factOf_127 : decode cX5_factOf 127 = .ok (.aload_n 0, 1) := by decide +kernel
theorem dX5_factOf_128 : decode cX5_factOf 128 = .ok (.getfield 136, 3) := by decide +kernel
theorem dX5_factOf_131 : decode cX5_factOf 131 = .ok (.bipush 24, 2) := by decide +kernel
theorem dX5_factOf_133 : decode cX5_factOf 133 = .ok (.iload_n 1, 1) := by decide +kernel
theorem dX5_factOf_134 : decode cX5_factOf 134 = .ok (.iadd, 1) := by decide +kernel
theorem dX5_factOf_135 : decode cX5_factOf 135 = .ok (.iaload, 1) := by decide +kernel
theorem dX5_factOf_136 : decode cX5_factOf 136 = .ok (.ireturn, 1) := by decide +kernel
theorem dX5_factOf_137 : decode cX5_factOf 137 = .ok (.aload_n 0, 1) := by decide +kernel
theorem dX5_factOf_138 : decode cX5_factOf 138 = .ok (.getfield 136, 3) := by decide +kernel
theorem dX5_factOf_141 : decode cX5_factOf 141 = .ok (.bipush 36, 2) := by decide +kernel
theorem dX5_factOf_143 : decode cX5_factOf 143 = .ok (.iload_n 1, 1) := by decide +kernel
theorem dX5_factOf_144 : decode cX5_factOf 144 = .ok (.iadd, 1) := by decide +kernel
theorem dX5_factOf_145 : decode cX5_factOf 145 = .ok (.iaload, 1) := by decide +kernel
theorem dX5_factOf_146 : decode cX5_factOf 146 = .ok (.ireturn, 1) := by decide +kernel
theorem dX5_factOf_147 : decode cX5_factOf 147 = .ok (.bipush (-2), 2) := by decide +kernel
theorem dX5_factOf_149 : decode cX5_factOf 149 = .ok (.ireturn, 1) := by decide +kernel
theorem dX5_stepsTillEmpty_0 : decode cX5_stepsTillEmpty 0 = .ok (.iconst 0, 1) := by decide +kernel
theorem dX5_stepsTillEmpty_1 : decode cX5_stepsTillEmpty 1 = .ok (.istore_n 1, 1) := by decide +kernel
theorem dX5_stepsTillEmpty_2 : decode cX5_stepsTillEmpty 2 = .ok (.iload_n 1, 1) := by decide +kernel
theorem dX5_stepsTillEmpty_3 : decode cX5_stepsTillEmpty 3 = .ok (.bipush 60, 2) := by decide +kernel
theorem dX5_stepsTillEmpty_5 : decode cX5_stepsTillEmpty 5 = .ok (.if_icmp .ge 28, 3) := by decide +kernel
theorem dX5_stepsTillEmpty_8 : decode cX5_stepsTillEmpty 8 = .ok (.aload_n 0, 1) := by decide +kernel
theorem dX5_stepsTillEmpty_9 : decode cX5_stepsTillEmpty 9 = .ok (.getfield 23, 3) := by decide +kernel
theorem dX5_stepsTillEmpty_12 : decode cX5_stepsTillEmpty 12 = .ok (.invokevirtual 236, 3) := by decide +kernel
theorem dX5_stepsTillEmpty_15 : decode cX5_stepsTillEmpty 15 = .ok (.ifCond .ne 5, 3) := by decide +kernel
theorem dX5_stepsTillEmpty_18 : decode cX5_stepsTillEmpty 18 = .ok (.iload_n 1, 1) := by decide +kernel
theorem dX5_stepsTillEmpty_19 : decode cX5_stepsTillEmpty 19 = .ok (.ireturn, 1) := by decide +kernel
theorem dX5_stepsTillEmpty_20 : decode cX5_stepsTillEmpty 20 = .ok (.aload_n 0, 1) := by decide +kernel
theorem dX5_stepsTillEmpty_21 : decode cX5_stepsTillEmpty 21 = .ok (.getfield 23, 3) := by decide +kernel
theorem dX5_stepsTillEmpty_24 : decode cX5_stepsTillEmpty 24 = .ok (.invokevirtual 163, 3) := by decide +kernel
theorem dX5_stepsTillEmpty_27 : decode cX5_stepsTillEmpty 27 = .ok (.iinc 1 1, 3) := by decide +kernel
theorem dX5_stepsTillEmpty_30 : decode cX5_stepsTillEmpty 30 = .ok (.goto (-28), 3) := by decide +kernel
theorem dX5_stepsTillEmpty_33 : decode cX5_stepsTillEmpty 33 = .ok (.aload_n 0, 1) := by decide +kernel
theorem dX5_stepsTillEmpty_34 : decode cX5_stepsTillEmpty 34 = .ok (.getfield 23, 3) := by decide +kernel
theorem dX5_stepsTillEmpty_37 : decode cX5_stepsTillEmpty 37 = .ok (.invokevirtual 236, 3) := by decide +kernel
theorem dX5_stepsTillEmpty_40 : decode cX5_stepsTillEmpty 40 = .ok (.ifCond .ne 8, 3) := by decide +kernel
theorem dX5_stepsTillEmpty_43 : decode cX5_stepsTillEmpty 43 = .ok (.bipush 60, 2) := by decide +kernel
theorem dX5_stepsTillEmpty_45 : decode cX5_stepsTillEmpty 45 = .ok (.goto 5, 3) := by decide +kernel
theorem dX5_stepsTillEmpty_48 : decode cX5_stepsTillEmpty 48 = .ok (.bipush (-9), 2) := by decide +kernel
theorem dX5_stepsTillEmpty_50 : decode cX5_stepsTillEmpty 50 = .ok (.ireturn, 1) := by decide +kernel
theorem dX5_bestRest_0 : decode cX5_bestRest 0 = .ok (.iconst 0, 1) := by decide +kernel
theorem dX5_bestRest_1 : decode cX5_bestRest 1 = .ok (.istore_n 1, 1) := by decide +kernel
theorem dX5_bestRest_2 : decode cX5_bestRest 2 = .ok (.bipush 61, 2) := by decide +kernel
theorem dX5_bestRest_4 : decode cX5_bestRest 4 = .ok (.istore_n 2, 1) := by decide +kernel
theorem dX5_bestRest_5 : decode cX5_bestRest 5 = .ok (.iconst 0, 1) := by decide +kernel
theorem dX5_bestRest_6 : decode cX5_bestRest 6 = .ok (.istore_n 3, 1) := by decide +kernel
theorem dX5_bestRest_7 : decode cX5_bestRest 7 = .ok (.iload_n 3, 1) := by decide +kernel
theorem dX5_bestRest_8 : decode cX5_bestRest 8 = .ok (.bipush 9, 2) := by decide +kernel
theorem dX5_bestRest_10 : decode cX5_bestRest 10 = .ok (.if_icmp .gt 55, 3) := by decide +kernel
theorem dX5_bestRest_13 : decode cX5_bestRest 13 = .ok (.aload_n 0, 1) := by decide +kernel
theorem dX5_bestRest_14 : decode cX5_bestRest 14 = .ok (.getfield 23, 3) := by decide +kernel
theorem dX5_bestRest_17 : decode cX5_bestRest 17 = .ok (.aload_n 0, 1) := by decide +kernel
theorem dX5_bestRest_18 : decode cX5_bestRest 18 = .ok (.getfield 19, 3) := by decide +kernel
theorem dX5_bestRest_21 : decode cX5_bestRest 21 = .ok (.invokevirtual 154, 3) := by decide +kernel
theorem dX5_bestRest_24 : decode cX5_bestRest 24 = .ok (.aload_n 0, 1) := by decide +kernel
theorem dX5_bestRest_25 : decode cX5_bestRest 25 = .ok (.getfield 23, 3) := by decide +kernel
theorem dX5_bestRest_28 : decode cX5_bestRest 28 = .ok (.getfield 136, 3) := by decide +kernel
theorem dX5_bestRest_31 : decode cX5_bestRest 31 = .ok (.bipush 52, 2) := by decide +kernel
theorem dX5_bestRest_33 : decode cX5_bestRest 33 = .ok (.iload_n 3, 1) := by decide +kernel
theorem dX5_bestRest_34 : decode cX5_bestRest 34 = .ok (.iastore, 1) := by decide +kernel
theorem dX5_bestRest_35 : decode cX5_bestRest 35 = .ok (.aload_n 0, 1) := by decide +kernel
theorem dX5_bestRest_36 : decode cX5_bestRest 36 = .ok (.invokevirtual 157, 3) := by decide +kernel
theorem dX5_bestRest_39 : decode cX5_bestRest 39 = .ok (.istore 4, 2) := by decide +kernel
theorem dX5_bestRest_41 : decode cX5_bestRest 41 = .ok (.iload 4, 2) := by decide +kernel
theorem dX5_bestRest_43 : decode cX5_bestRest 43 = .ok (.bipush (-9), 2) := by decide +kernel
theorem dX5_bestRest_45 : decode cX5_bestRest 45 = .ok (.if_icmp .eq 14, 3) := by decide +kernel
theorem dX5_bestRest_48 : decode cX5_bestRest 48 = .ok (.iload 4, 2) := by decide +kernel
theorem dX5_bestRest_50 : decode cX5_bestRest 50 = .ok (.iload_n 2, 1) := by decide +kernel
theorem dX5_bestRest_51 : decode cX5_bestRest 51 = .ok (.if_icmp .ge 8, 3) := by decide +kernel
theorem dX5_bestRest_54 : decode cX5_bestRest 54 = .ok (.iload 4, 2) := by decide +kernel
theorem dX5_bestRest_56 : decode cX5_bestRest 56 = .ok (.istore_n 2, 1) := by decide +kernel
theorem dX5_bestRest_57 : decode cX5_bestRest 57 = .ok (.iload_n 3, 1) := by decide +kernel
theorem dX5_bestRest_58 : decode cX5_bestRest 58 = .ok (.istore_n 1, 1) := by decide +kernel
theorem dX5_bestRest_59 : decode cX5_bestRest 59 = .ok (.iinc 3 1, 3) := by decide +kernel
theorem dX5_bestRest_62 : decode cX5_bestRest 62 = .ok (.goto (-55), 3) := by decide +kernel
theorem dX5_bestRest_65 : decode cX5_bestRest 65 = .ok (.iload_n 1, 1) := by decide +kernel
theorem dX5_bestRest_66 : decode cX5_bestRest 66 = .ok (.ireturn, 1) := by decide +kernel
theorem dX5_holds_0 : decode cX5_holds 0 = .ok (.iload_n 1, 1) := by decide +kernel
theorem dX5_holds_1 : decode cX5_holds 1 = .ok (.bipush 100, 2) := by decide +kernel
theorem dX5_holds_3 : decode cX5_holds 3 = .ok (.idiv, 1) := by decide +kernel
theorem dX5_holds_4 : decode cX5_holds 4 = .ok (.istore_n 2, 1) := by decide +kernel
theorem dX5_holds_5 : decode cX5_holds 5 = .ok (.iload_n 1, 1) := by decide +kernel
theorem dX5_holds_6 : decode cX5_holds 6 = .ok (.bipush 10, 2) := by decide +kernel
theorem dX5_holds_8 : decode cX5_holds 8 = .ok (.idiv, 1) := by decide +kernel
theorem dX5_holds_9 : decode cX5_holds 9 = .ok (.bipush 10, 2) := by decide +kernel
theorem dX5_holds_11 : decode cX5_holds 11 = .ok (.irem, 1) := by decide +kernel
theorem dX5_holds_12 : decode cX5_holds 12 = .ok (.istore_n 3, 1) := by decide +kernel
theorem dX5_holds_13 : decode cX5_holds 13 = .ok (.iload_n 1, 1) := by decide +kernel
theorem dX5_holds_14 : decode cX5_holds 14 = .ok (.bipush 10, 2) := by decide +kernel
theorem dX5_holds_16 : decode cX5_holds 16 = .ok (.irem, 1) := by decide +kernel
theorem dX5_holds_17 : decode cX5_holds 17 = .ok (.istore 4, 2) := by decide +kernel
theorem dX5_holds_19 : decode cX5_holds 19 = .ok (.iload_n 2, 1) := by decide +kernel
theorem dX5_holds_20 : decode cX5_holds 20 = .ok (.tableswitch 218 1 8 #[48, 69, 88, 107, 126, 134, 166, 186], 48) := by decide +kernel
theorem dX5_holds_68 : decode cX5_holds 68 = .ok (.aload_n 0, 1) := by decide +kernel
theorem dX5_holds_69 : decode cX5_holds 69 = .ok (.iload_n 1, 1) := by decide +kernel
theorem dX5_holds_70 : decode cX5_holds 70 = .ok (.bipush 100, 2) := by decide +kernel
theorem dX5_holds_72 : decode cX5_holds 72 = .ok (.irem, 1) := by decide +kernel
theorem dX5_holds_73 : decode cX5_holds 73 = .ok (.invokevirtual 144, 3) := by decide +kernel
theorem dX5_holds_76 : decode cX5_holds 76 = .ok (.iload_n 1, 1) := by decide +kernel
theorem dX5_holds_77 : decode cX5_holds 77 = .ok (.bipush 100, 2) := by decide +kernel
theorem dX5_holds_79 : decode cX5_holds 79 = .ok (.irem, 1) := by decide +kernel
theorem dX5_holds_80 : decode cX5_holds 80 = .ok (.ifCond .le 7, 3) := by decide +kernel
theorem dX5_holds_83 : decode cX5_holds 83 = .ok (.iconst 1, 1) := by decide +kernel
theorem dX5_holds_84 : decode cX5_holds 84 = .ok (.goto 4, 3) := by decide +kernel
theorem dX5_holds_87 : decode cX5_holds 87 = .ok (.iconst 0, 1) := by decide +kernel
theorem dX5_holds_88 : decode cX5_holds 88 = .ok (.ireturn, 1) := by decide +kernel
theorem dX5_holds_89 : decode cX5_holds 89 = .ok (.iload_n 3, 1) := by decide +kernel
theorem dX5_holds_90 : decode cX5_holds 90 = .ok (.ifCond .ne 16, 3) := by decide +kernel
theorem dX5_holds_93 : decode cX5_holds 93 = .ok (.aload_n 0, 1) := by decide +kernel
theorem dX5_holds_94 : decode cX5_holds 94 = .ok (.iload 4, 2) := by decide +kernel
theorem dX5_holds_96 : decode cX5_holds 96 = .ok (.invokestatic 242, 3) := by decide +kernel
theorem dX5_holds_99 : decode cX5_holds 99 = .ok (.ifCond .eq 7, 3) := by decide +kernel
theorem dX5_holds_102 : decode cX5_holds 102 = .ok (.iconst 1, 1) := by decide +kernel
theorem dX5_holds_103 : decode cX5_holds 103 = .ok (.goto 4, 3) := by decide +kernel
theorem dX5_holds_106 : decode cX5_holds 106 = .ok (.iconst 0, 1) := by decide +kernel
theorem dX5_holds_107 : decode cX5_holds 107 = .ok (.ireturn, 1) := by decide +kernel
theorem dX5_holds_108 : decode cX5_holds 108 = .ok (.iload_n 3, 1) := by decide +kernel
theorem dX5_holds_109 : decode cX5_holds 109 = .ok (.ifCond .ne 16, 3) := by decide +kernel
theorem dX5_holds_112 : decode cX5_holds 112 = .ok (.aload_n 0, 1) := by decide +kernel
theorem dX5_holds_113 : decode cX5_holds 113 = .ok (.iload 4, 2) := by decide +kernel
theorem dX5_holds_115 : decode cX5_holds 115 = .ok (.invokestatic 245, 3) := by decide +kernel
theorem dX5_holds_118 : decode cX5_holds 118 = .ok (.ifCond .eq 7, 3) := by decide +kernel
theorem dX5_holds_121 : decode cX5_holds 121 = .ok (.iconst 1, 1) := by decide +kernel
theorem dX5_holds_122 : decode cX5_holds 122 = .ok (.goto 4, 3) := by decide +kernel
theorem dX5_holds_125 : decode cX5_holds 125 = .ok (.iconst 0, 1) := by decide +kernel
theorem dX5_holds_126 : decode cX5_holds 126 = .ok (.ireturn, 1) := by decide +kernel
theorem dX5_holds_127 : decode cX5_holds 127 = .ok (.iload_n 3, 1) := by decide +kernel
theorem dX5_holds_128 : decode cX5_holds 128 = .ok (.ifCond .ne 16, 3) := by decide +kernel
theorem dX5_holds_131 : decode cX5_holds 131 = .ok (.aload_n 0, 1) := by decide +kernel
theorem dX5_holds_132 : decode cX5_holds 132 = .ok (.iload 4, 2) := by decide +kernel
theorem dX5_holds_134 : decode cX5_holds 134 = .ok (.invokestatic 248, 3) := by decide +kernel
theorem dX5_holds_137 : decode cX5_holds 137 = .ok (.ifCond .eq 7, 3) := by decide +kernel
theorem dX5_holds_140 : decode cX5_holds 140 = .ok (.iconst 1, 1) := by decide +kernel
theorem dX5_holds_141 : decode cX5_holds 141 = .ok (.goto 4, 3) := by decide +kernel
theorem dX5_holds_144 : decode cX5_holds 144 = .ok (.iconst 0, 1) := by decide +kernel
theorem dX5_holds_145 : decode cX5_holds 145 = .ok (.ireturn, 1) := by decide +kernel
theorem dX5_holds_146 : decode cX5_holds 146 = .ok (.aload_n 0, 1) := by decide +kernel
theorem dX5_holds_147 : decode cX5_holds 147 = .ok (.iload_n 3, 1) := by decide +kernel
theorem dX5_holds_148 : decode cX5_holds 148 = .ok (.iload 4, 2) := by decide +kernel
theorem dX5_holds_150 : decode cX5_holds 150 = .ok (.invokestatic 251, 3) := by decide +kernel
theorem dX5_holds_153 : decode cX5_holds 153 = .ok (.ireturn, 1) := by decide +kernel
theorem dX5_holds_154 : decode cX5_holds 154 = .ok (.aload_n 0, 1) := by decide +kernel
theorem dX5_holds_155 : decode cX5_holds 155 = .ok (.iload_n 3, 1) := by decide +kernel
theorem dX5_holds_156 : decode cX5_holds 156 = .ok (.invokevirtual 91, 3) := by decide +kernel
theorem dX5_holds_159 : decode cX5_holds 159 = .ok (.ifCond .eq 25, 3) := by decide +kernel
theorem dX5_holds_162 : decode cX5_holds 162 = .ok (.iload 4, 2) := by decide +kernel
theorem dX5_holds_164 : decode cX5_holds 164 = .ok (.aload_n 0, 1) := by decide +kernel
theorem dX5_holds_165 : decode cX5_holds 165 = .ok (.iload_n 3, 1) := by decide +kernel
theorem dX5_holds_166 : decode cX5_holds 166 = .ok (.invokevirtual 105, 3) := by decide +kernel
theorem dX5_holds_169 : decode cX5_holds 169 = .ok (.ifCond .eq 7, 3) := by decide +kernel
theorem dX5_holds_172 : decode cX5_holds 172 = .ok (.iconst 1, 1) := by decide +kernel
theorem dX5_holds_173 : decode cX5_holds 173 = .ok (.goto 4, 3) := by decide +kernel
theorem dX5_holds_176 : decode cX5_holds 176 = .ok (.iconst 0, 1) := by decide +kernel
theorem dX5_holds_177 : decode cX5_holds 177 = .ok (.if_icmp .ne 7, 3) := by decide +kernel
theorem dX5_holds_180 : decode cX5_holds 180 = .ok (.iconst 1, 1) := by decide +kernel
theorem dX5_holds_181 : decode cX5_holds 181 = .ok (.goto 4, 3) := by decide +kernel
theorem dX5_holds_184 : decode cX5_holds 184 = .ok (.iconst 0, 1) := by decide +kernel
theorem dX5_holds_185 : decode cX5_holds 185 = .ok (.ireturn, 1) := by decide +kernel
theorem dX5_holds_186 : decode cX5_holds 186 = .ok (.aload_n 0, 1) := by decide +kernel
theorem dX5_holds_187 : decode cX5_holds 187 = .ok (.getfield 136, 3) := by decide +kernel
theorem dX5_holds_190 : decode cX5_holds 190 = .ok (.bipush 55, 2) := by decide +kernel
theorem dX5_holds_192 : decode cX5_holds 192 = .ok (.iaload, 1) := by decide +kernel
theorem dX5_holds_193 : decode cX5_holds 193 = .ok (.iload_n 1, 1) := by decide +kernel
theorem dX5_holds_194 : decode cX5_holds 194 = .ok (.bipush 100, 2) := by decide +kernel
theorem dX5_holds_196 : decode cX5_holds 196 = .ok (.irem, 1) := by decide +kernel
theorem dX5_holds_197 : decode cX5_holds 197 = .ok (.if_icmp .ne 7, 3) := by decide +kernel
theorem dX5_holds_200 : decode cX5_holds 200 = .ok (.iconst 1, 1) := by decide +kernel
theorem dX5_holds_201 : decode cX5_holds 201 = .ok (.goto 4, 3) := by decide +kernel
theorem dX5_holds_204 : decode cX5_holds 204 = .ok (.iconst 0, 1) := by decide +kernel
theorem dX5_holds_205 : decode cX5_holds 205 = .ok (.ireturn, 1) := by decide +kernel
theorem dX5_holds_206 : decode cX5_holds 206 = .ok (.aload_n 0, 1) := by decide +kernel
theorem dX5_holds_207 : decode cX5_holds 207 = .ok (.iload_n 3, 1) := by decide +kernel
theorem dX5_holds_208 : decode cX5_holds 208 = .ok (.invokevirtual 91, 3) := by decide +kernel
theorem dX5_holds_211 : decode cX5_holds 211 = .ok (.ifCond .eq 25, 3) := by decide +kernel
theorem dX5_holds_214 : decode cX5_holds 214 = .ok (.iload 4, 2) := by decide +kernel
theorem dX5_holds_216 : decode cX5_holds 216 = .ok (.aload_n 0, 1) := by decide +kernel
theorem dX5_holds_217 : decode cX5_holds 217 = .ok (.iload_n 3, 1) := by decide +kernel
theorem dX5_holds_218 : decode cX5_holds 218 = .ok (.invokevirtual 130, 3) := by decide +kernel
theorem dX5_holds_221 : decode cX5_holds 221 = .ok (.ifCond .eq 7, 3) := by decide +kernel
theorem dX5_holds_224 : decode cX5_holds 224 = .ok (.iconst 1, 1) := by decide +kernel
theorem dX5_holds_225 : decode cX5_holds 225 = .ok (.goto 4, 3) := by decide +kernel
theorem dX5_holds_228 : decode cX5_holds 228 = .ok (.iconst 0, 1) := by decide +kernel
theorem dX5_holds_229 : decode cX5_holds 229 = .ok (.if_icmp .ne 7, 3) := by decide +kernel
theorem dX5_holds_232 : decode cX5_holds 232 = .ok (.iconst 1, 1) := by decide +kernel
theorem dX5_holds_233 : decode cX5_holds 233 = .ok (.goto 4, 3) := by decide +kernel
theorem dX5_holds_236 : decode cX5_holds 236 = .ok (.iconst 0, 1) := by decide +kernel
theorem dX5_holds_237 : decode cX5_holds 237 = .ok (.ireturn, 1) := by decide +kernel
theorem dX5_holds_238 : decode cX5_holds 238 = .ok (.iconst 0, 1) := by decide +kernel
theorem dX5_holds_239 : decode cX5_holds 239 = .ok (.ireturn, 1) := by decide +kernel
theorem dX5_turnTold_0 : decode cX5_turnTold 0 = .ok (.iload_n 1, 1) := by decide +kernel
theorem dX5_turnTold_1 : decode cX5_turnTold 1 = .ok (.ifCond .eq 5, 3) := by decide +kernel
theorem dX5_turnTold_4 : decode cX5_turnTold 4 = .ok (.iconst 0, 1) := by decide +kernel
theorem dX5_turnTold_5 : decode cX5_turnTold 5 = .ok (.ireturn, 1) := by decide +kernel
theorem dX5_turnTold_6 : decode cX5_turnTold 6 = .ok (.aload_n 0, 1) := by decide +kernel
theorem dX5_turnTold_7 : decode cX5_turnTold 7 = .ok (.invokevirtual 120, 3) := by decide +kernel
theorem dX5_turnTold_10 : decode cX5_turnTold 10 = .ok (.pop, 1) := by decide +kernel
theorem dX5_turnTold_11 : decode cX5_turnTold 11 = .ok (.iconst 1, 1) := by decide +kernel
theorem dX5_turnTold_12 : decode cX5_turnTold 12 = .ok (.ireturn, 1) := by decide +kernel
theorem dX5_feedTold_0 : decode cX5_feedTold 0 = .ok (.aload_n 0, 1) := by decide +kernel
theorem dX5_feedTold_1 : decode cX5_feedTold 1 = .ok (.iload_n 1, 1) := by decide +kernel
theorem dX5_feedTold_2 : decode cX5_feedTold 2 = .ok (.invokevirtual 108, 3) := by decide +kernel
theorem dX5_feedTold_5 : decode cX5_feedTold 5 = .ok (.ifCond .ne 5, 3) := by decide +kernel
theorem dX5_feedTold_8 : decode cX5_feedTold 8 = .ok (.iconst 0, 1) := by decide +kernel
theorem dX5_feedTold_9 : decode cX5_feedTold 9 = .ok (.ireturn, 1) := by decide +kernel
theorem dX5_feedTold_10 : decode cX5_feedTold 10 = .ok (.aload_n 0, 1) := by decide +kernel
theorem dX5_feedTold_11 : decode cX5_feedTold 11 = .ok (.aload_n 0, 1) := by decide +kernel
theorem dX5_feedTold_12 : decode cX5_feedTold 12 = .ok (.iload_n 1, 1) := by decide +kernel
theorem dX5_feedTold_13 : decode cX5_feedTold 13 = .ok (.invokevirtual 101, 3) := by decide +kernel
theorem dX5_feedTold_16 : decode cX5_feedTold 16 = .ok (.invokevirtual 114, 3) := by decide +kernel
theorem dX5_feedTold_19 : decode cX5_feedTold 19 = .ok (.pop, 1) := by decide +kernel
theorem dX5_feedTold_20 : decode cX5_feedTold 20 = .ok (.iconst 1, 1) := by decide +kernel
theorem dX5_feedTold_21 : decode cX5_feedTold 21 = .ok (.ireturn, 1) := by decide +kernel
theorem dX5_liftTold_0 : decode cX5_liftTold 0 = .ok (.aload_n 0, 1) := by decide +kernel
theorem dX5_liftTold_1 : decode cX5_liftTold 1 = .ok (.iload_n 1, 1) := by decide +kernel
theorem dX5_liftTold_2 : decode cX5_liftTold 2 = .ok (.invokevirtual 91, 3) := by decide +kernel
theorem dX5_liftTold_5 : decode cX5_liftTold 5 = .ok (.ifCond .eq 11, 3) := by decide +kernel
theorem dX5_liftTold_8 : decode cX5_liftTold 8 = .ok (.aload_n 0, 1) := by decide +kernel
theorem dX5_liftTold_9 : decode cX5_liftTold 9 = .ok (.iload_n 1, 1) := by decide +kernel
theorem dX5_liftTold_10 : decode cX5_liftTold 10 = .ok (.invokevirtual 105, 3) := by decide +kernel
theorem dX5_liftTold_13 : decode cX5_liftTold 13 = .ok (.ifCond .ne 5, 3) := by decide +kernel
theorem dX5_liftTold_16 : decode cX5_liftTold 16 = .ok (.iconst 0, 1) := by decide +kernel
theorem dX5_liftTold_17 : decode cX5_liftTold 17 = .ok (.ireturn, 1) := by decide +kernel
theorem dX5_liftTold_18 : decode cX5_liftTold 18 = .ok (.aload_n 0, 1) := by decide +kernel
theorem dX5_liftTold_19 : decode cX5_liftTold 19 = .ok (.iload_n 1, 1) := by decide +kernel
theorem dX5_liftTold_20 : decode cX5_liftTold 20 = .ok (.invokevirtual 117, 3) := by decide +kernel
theorem dX5_liftTold_23 : decode cX5_liftTold 23 = .ok (.pop, 1) := by decide +kernel
theorem dX5_liftTold_24 : decode cX5_liftTold 24 = .ok (.iconst 1, 1) := by decide +kernel
theorem dX5_liftTold_25 : decode cX5_liftTold 25 = .ok (.ireturn, 1) := by decide +kernel
theorem dX5_eyeTold_0 : decode cX5_eyeTold 0 = .ok (.aload_n 0, 1) := by decide +kernel
theorem dX5_eyeTold_1 : decode cX5_eyeTold 1 = .ok (.iload_n 1, 1) := by decide +kernel
theorem dX5_eyeTold_2 : decode cX5_eyeTold 2 = .ok (.invokevirtual 91, 3) := by decide +kernel
theorem dX5_eyeTold_5 : decode cX5_eyeTold 5 = .ok (.ifCond .eq 10, 3) := by decide +kernel
theorem dX5_eyeTold_8 : decode cX5_eyeTold 8 = .ok (.iload_n 2, 1) := by decide +kernel
theorem dX5_eyeTold_9 : decode cX5_eyeTold 9 = .ok (.invokestatic 123, 3) := by decide +kernel
theorem dX5_eyeTold_12 : decode cX5_eyeTold 12 = .ok (.ifCond .ne 5, 3) := by decide +kernel
theorem dX5_eyeTold_15 : decode cX5_eyeTold 15 = .ok (.iconst 0, 1) := by decide +kernel
theorem dX5_eyeTold_16 : decode cX5_eyeTold 16 = .ok (.ireturn, 1) := by decide +kernel
theorem dX5_eyeTold_17 : decode cX5_eyeTold 17 = .ok (.aload_n 0, 1) := by decide +kernel
theorem dX5_eyeTold_18 : decode cX5_eyeTold 18 = .ok (.getfield 136, 3) := by decide +kernel
theorem dX5_eyeTold_21 : decode cX5_eyeTold 21 = .ok (.bipush 12, 2) := by decide +kernel
theorem dX5_eyeTold_23 : decode cX5_eyeTold 23 = .ok (.iload_n 1, 1) := by decide +kernel
theorem dX5_eyeTold_24 : decode cX5_eyeTold 24 = .ok (.iadd, 1) := by decide +kernel
theorem dX5_eyeTold_25 : decode cX5_eyeTold 25 = .ok (.iload_n 2, 1) := by decide +kernel
theorem dX5_eyeTold_26 : decode cX5_eyeTold 26 = .ok (.iastore, 1) := by decide +kernel
theorem dX5_eyeTold_27 : decode cX5_eyeTold 27 = .ok (.iconst 1, 1) := by decide +kernel
theorem dX5_eyeTold_28 : decode cX5_eyeTold 28 = .ok (.ireturn, 1) := by decide +kernel
theorem dX5_listUnsound_0 : decode cX5_listUnsound 0 = .ok (.iconst 0, 1) := by decide +kernel
theorem dX5_listUnsound_1 : decode cX5_listUnsound 1 = .ok (.istore_n 2, 1) := by decide +kernel
theorem dX5_listUnsound_2 : decode cX5_listUnsound 2 = .ok (.iconst 0, 1) := by decide +kernel
theorem dX5_listUnsound_3 : decode cX5_listUnsound 3 = .ok (.istore_n 3, 1) := by decide +kernel
theorem dX5_listUnsound_4 : decode cX5_listUnsound 4 = .ok (.iconst 0, 1) := by decide +kernel
theorem dX5_listUnsound_5 : decode cX5_listUnsound 5 = .ok (.istore 4, 2) := by decide +kernel
theorem dX5_listUnsound_7 : decode cX5_listUnsound 7 = .ok (.iload 4, 2) := by decide +kernel
theorem dX5_listUnsound_9 : decode cX5_listUnsound 9 = .ok (.aload_n 0, 1) := by decide +kernel
theorem dX5_listUnsound_10 : decode cX5_listUnsound 10 = .ok (.getfield 19, 3) := by decide +kernel
theorem dX5_listUnsound_13 : decode cX5_listUnsound 13 = .ok (.getfield 88, 3) := by decide +kernel
theorem dX5_listUnsound_16 : decode cX5_listUnsound 16 = .ok (.if_icmp .ge 50, 3) := by decide +kernel
theorem dX5_listUnsound_19 : decode cX5_listUnsound 19 = .ok (.iload_n 2, 1) := by decide +kernel
theorem dX5_listUnsound_20 : decode cX5_listUnsound 20 = .ok (.bipush 6, 2) := by decide +kernel
theorem dX5_listUnsound_22 : decode cX5_listUnsound 22 = .ok (.if_icmp .ge 44, 3) := by decide +kernel
theorem dX5_listUnsound_25 : decode cX5_listUnsound 25 = .ok (.aload_n 0, 1) := by decide +kernel
theorem dX5_listUnsound_26 : decode cX5_listUnsound 26 = .ok (.getfield 19, 3) := by decide +kernel
theorem dX5_listUnsound_29 : decode cX5_listUnsound 29 = .ok (.getfield 136, 3) := by decide +kernel
theorem dX5_listUnsound_32 : decode cX5_listUnsound 32 = .ok (.bipush 12, 2) := by decide +kernel
theorem dX5_listUnsound_34 : decode cX5_listUnsound 34 = .ok (.iload 4, 2) := by decide +kernel
theorem dX5_listUnsound_36 : decode cX5_listUnsound 36 = .ok (.iadd, 1) := by decide +kernel
theorem dX5_listUnsound_37 : decode cX5_listUnsound 37 = .ok (.iaload, 1) := by decide +kernel
theorem dX5_listUnsound_38 : decode cX5_listUnsound 38 = .ok (.ifCond .eq 22, 3) := by decide +kernel
theorem dX5_listUnsound_41 : decode cX5_listUnsound 41 = .ok (.iload 4, 2) := by decide +kernel
theorem dX5_listUnsound_43 : decode cX5_listUnsound 43 = .ok (.iload_n 1, 1) := by decide +kernel
theorem dX5_listUnsound_44 : decode cX5_listUnsound 44 = .ok (.if_icmp .ne 5, 3) := by decide +kernel
theorem dX5_listUnsound_47 : decode cX5_listUnsound 47 = .ok (.iload_n 2, 1) := by decide +kernel
theorem dX5_listUnsound_48 : decode cX5_listUnsound 48 = .ok (.istore_n 3, 1) := by decide +kernel
theorem dX5_listUnsound_49 : decode cX5_listUnsound 49 = .ok (.aload_n 0, 1) := by decide +kernel
theorem dX5_listUnsound_50 : decode cX5_listUnsound 50 = .ok (.getfield 60, 3) := by decide +kernel
theorem dX5_listUnsound_53 : decode cX5_listUnsound 53 = .ok (.iload_n 2, 1) := by decide +kernel
theorem dX5_listUnsound_54 : decode cX5_listUnsound 54 = .ok (.iload 4, 2) := by decide +kernel
theorem dX5_listUnsound_56 : decode cX5_listUnsound 56 = .ok (.iastore, 1) := by decide +kernel
theorem dX5_listUnsound_57 : decode cX5_listUnsound 57 = .ok (.iinc 2 1, 3) := by decide +kernel
theorem dX5_listUnsound_60 : decode cX5_listUnsound 60 = .ok (.iinc 4 1, 3) := by decide +kernel
theorem dX5_listUnsound_63 : decode cX5_listUnsound 63 = .ok (.goto (-56), 3) := by decide +kernel
theorem dX5_listUnsound_66 : decode cX5_listUnsound 66 = .ok (.iload_n 3, 1) := by decide +kernel
theorem dX5_listUnsound_67 : decode cX5_listUnsound 67 = .ok (.ireturn, 1) := by decide +kernel
theorem dX5_outWith_0 : decode cX5_outWith 0 = .ok (.aload_n 0, 1) := by decide +kernel
theorem dX5_outWith_1 : decode cX5_outWith 1 = .ok (.getfield 23, 3) := by decide +kernel
theorem dX5_outWith_4 : decode cX5_outWith 4 = .ok (.aload_n 0, 1) := by decide +kernel
theorem dX5_outWith_5 : decode cX5_outWith 5 = .ok (.getfield 19, 3) := by decide +kernel
theorem dX5_outWith_8 : decode cX5_outWith 8 = .ok (.invokevirtual 154, 3) := by decide +kernel
theorem dX5_outWith_11 : decode cX5_outWith 11 = .ok (.iconst 0, 1) := by decide +kernel
theorem dX5_outWith_12 : decode cX5_outWith 12 = .ok (.istore_n 3, 1) := by decide +kernel
theorem dX5_outWith_13 : decode cX5_outWith 13 = .ok (.iload_n 3, 1) := by decide +kernel
theorem dX5_outWith_14 : decode cX5_outWith 14 = .ok (.iload_n 2, 1) := by decide +kernel
theorem dX5_outWith_15 : decode cX5_outWith 15 = .ok (.if_icmp .ge 35, 3) := by decide +kernel
theorem dX5_outWith_18 : decode cX5_outWith 18 = .ok (.iload_n 1, 1) := by decide +kernel
theorem dX5_outWith_19 : decode cX5_outWith 19 = .ok (.iload_n 3, 1) := by decide +kernel
theorem dX5_outWith_20 : decode cX5_outWith 20 = .ok (.invokestatic 220, 3) := by decide +kernel
theorem dX5_outWith_23 : decode cX5_outWith 23 = .ok (.ifCond .eq 21, 3) := by decide +kernel
theorem dX5_outWith_26 : decode cX5_outWith 26 = .ok (.aload_n 0, 1) := by decide +kernel
theorem dX5_outWith_27 : decode cX5_outWith 27 = .ok (.getfield 23, 3) := by decide +kernel
theorem dX5_outWith_30 : decode cX5_outWith 30 = .ok (.getfield 136, 3) := by decide +kernel
theorem dX5_outWith_33 : decode cX5_outWith 33 = .ok (.bipush 12, 2) := by decide +kernel
theorem dX5_outWith_35 : decode cX5_outWith 35 = .ok (.aload_n 0, 1) := by decide +kernel
theorem dX5_outWith_36 : decode cX5_outWith 36 = .ok (.getfield 60, 3) := by decide +kernel
theorem dX5_outWith_39 : decode cX5_outWith 39 = .ok (.iload_n 3, 1) := by decide +kernel
theorem dX5_outWith_40 : decode cX5_outWith 40 = .ok (.iaload, 1) := by decide +kernel
theorem dX5_outWith_41 : decode cX5_outWith 41 = .ok (.iadd, 1) := by decide +kernel
theorem dX5_outWith_42 : decode cX5_outWith 42 = .ok (.iconst 0, 1) := by decide +kernel
theorem dX5_outWith_43 : decode cX5_outWith 43 = .ok (.iastore, 1) := by decide +kernel
theorem dX5_outWith_44 : decode cX5_outWith 44 = .ok (.iinc 3 1, 3) := by decide +kernel
theorem dX5_outWith_47 : decode cX5_outWith 47 = .ok (.goto (-34), 3) := by decide +kernel
theorem dX5_outWith_50 : decode cX5_outWith 50 = .ok (.iconst 0, 1) := by decide +kernel
theorem dX5_outWith_51 : decode cX5_outWith 51 = .ok (.istore_n 3, 1) := by decide +kernel
theorem dX5_outWith_52 : decode cX5_outWith 52 = .ok (.iload_n 3, 1) := by decide +kernel
theorem dX5_outWith_53 : decode cX5_outWith 53 = .ok (.bipush 20, 2) := by decide +kernel
theorem dX5_outWith_55 : decode cX5_outWith 55 = .ok (.if_icmp .ge 26, 3) := by decide +kernel
theorem dX5_outWith_58 : decode cX5_outWith 58 = .ok (.aload_n 0, 1) := by decide +kernel
theorem dX5_outWith_59 : decode cX5_outWith 59 = .ok (.getfield 23, 3) := by decide +kernel
theorem dX5_outWith_62 : decode cX5_outWith 62 = .ok (.invokevirtual 236, 3) := by decide +kernel
theorem dX5_outWith_65 : decode cX5_outWith 65 = .ok (.ifCond .eq 16, 3) := by decide +kernel
theorem dX5_outWith_68 : decode cX5_outWith 68 = .ok (.aload_n 0, 1) := by decide +kernel
theorem dX5_outWith_69 : decode cX5_outWith 69 = .ok (.getfield 23, 3) := by decide +kernel
theorem dX5_outWith_72 : decode cX5_outWith 72 = .ok (.invokevirtual 163, 3) := by decide +kernel
theorem dX5_outWith_75 : decode cX5_outWith 75 = .ok (.iinc 3 1, 3) := by decide +kernel
theorem dX5_outWith_78 : decode cX5_outWith 78 = .ok (.goto (-26), 3) := by decide +kernel
theorem dX5_outWith_81 : decode cX5_outWith 81 = .ok (.aload_n 0, 1) := by decide +kernel
theorem dX5_outWith_82 : decode cX5_outWith 82 = .ok (.getfield 23, 3) := by decide +kernel
theorem dX5_outWith_85 : decode cX5_outWith 85 = .ok (.getfield 136, 3) := by decide +kernel
theorem dX5_outWith_88 : decode cX5_outWith 88 = .ok (.bipush 55, 2) := by decide +kernel
theorem dX5_outWith_90 : decode cX5_outWith 90 = .ok (.iaload, 1) := by decide +kernel
theorem dX5_outWith_91 : decode cX5_outWith 91 = .ok (.ireturn, 1) := by decide +kernel
theorem dX5_gainInAllOrders_0 : decode cX5_gainInAllOrders 0 = .ok (.iconst 0, 1) := by decide +kernel
theorem dX5_gainInAllOrders_1 : decode cX5_gainInAllOrders 1 = .ok (.istore_n 3, 1) := by decide +kernel
theorem dX5_gainInAllOrders_2 : decode cX5_gainInAllOrders 2 = .ok (.iconst 0, 1) := by decide +kernel
theorem dX5_gainInAllOrders_3 : decode cX5_gainInAllOrders 3 = .ok (.istore 4, 2) := by decide +kernel
theorem dX5_gainInAllOrders_5 : decode cX5_gainInAllOrders 5 = .ok (.iload 4, 2) := by decide +kernel
theorem dX5_gainInAllOrders_7 : decode cX5_gainInAllOrders 7 = .ok (.iconst 1, 1) := by decide +kernel
theorem dX5_gainInAllOrders_8 : decode cX5_gainInAllOrders 8 = .ok (.iload_n 2, 1) := by decide +kernel
theorem dX5_gainInAllOrders_9 : decode cX5_gainInAllOrders 9 = .ok (.ishl, 1) := by decide +kernel
theorem dX5_gainInAllOrders_10 : decode cX5_gainInAllOrders 10 = .ok (.if_icmp .ge 69, 3) := by decide +kernel
theorem dX5_gainInAllOrders_13 : decode cX5_gainInAllOrders 13 = .ok (.iload 4, 2) := by decide +kernel
theorem dX5_gainInAllOrders_15 : decode cX5_gainInAllOrders 15 = .ok (.iload_n 1, 1) := by decide +kernel
theorem dX5_gainInAllOrders_16 : decode cX5_gainInAllOrders 16 = .ok (.invokestatic 220, 3) := by decide +kernel
theorem dX5_gainInAllOrders_19 : decode cX5_gainInAllOrders 19 = .ok (.ifCond .ne 54, 3) := by decide +kernel
theorem dX5_gainInAllOrders_22 : decode cX5_gainInAllOrders 22 = .ok (.iload 4, 2) := by decide +kernel
theorem dX5_gainInAllOrders_24 : decode cX5_gainInAllOrders 24 = .ok (.invokestatic 139, 3) := by decide +kernel
theorem dX5_gainInAllOrders_27 : decode cX5_gainInAllOrders 27 = .ok (.istore 5, 2) := by decide +kernel
theorem dX5_gainInAllOrders_29 : decode cX5_gainInAllOrders 29 = .ok (.getstatic 198, 3) := by decide +kernel
theorem dX5_gainInAllOrders_32 : decode cX5_gainInAllOrders 32 = .ok (.iload 5, 2) := by decide +kernel
theorem dX5_gainInAllOrders_34 : decode cX5_gainInAllOrders 34 = .ok (.iaload, 1) := by decide +kernel
theorem dX5_gainInAllOrders_35 : decode cX5_gainInAllOrders 35 = .ok (.getstatic 198, 3) := by decide +kernel
theorem dX5_gainInAllOrders_38 : decode cX5_gainInAllOrders 38 = .ok (.iload_n 2, 1) := by decide +kernel
theorem dX5_gainInAllOrders_39 : decode cX5_gainInAllOrders 39 = .ok (.iconst 1, 1) := by decide +kernel
theorem dX5_gainInAllOrders_40 : decode cX5_gainInAllOrders 40 = .ok (.isub, 1) := by decide +kernel
theorem dX5_gainInAllOrders_41 : decode cX5_gainInAllOrders 41 = .ok (.iload 5, 2) := by decide +kernel
theorem dX5_gainInAllOrders_43 : decode cX5_gainInAllOrders 43 = .ok (.isub, 1) := by decide +kernel
theorem dX5_gainInAllOrders_44 : decode cX5_gainInAllOrders 44 = .ok (.iaload, 1) := by decide +kernel
theorem dX5_gainInAllOrders_45 : decode cX5_gainInAllOrders 45 = .ok (.imul, 1) := by decide +kernel
theorem dX5_gainInAllOrders_46 : decode cX5_gainInAllOrders 46 = .ok (.istore 6, 2) := by decide +kernel
theorem dX5_gainInAllOrders_48 : decode cX5_gainInAllOrders 48 = .ok (.iload_n 3, 1) := by decide +kernel
theorem dX5_gainInAllOrders_49 : decode cX5_gainInAllOrders 49 = .ok (.iload 6, 2) := by decide +kernel
theorem dX5_gainInAllOrders_51 : decode cX5_gainInAllOrders 51 = .ok (.aload_n 0, 1) := by decide +kernel
theorem dX5_gainInAllOrders_52 : decode cX5_gainInAllOrders 52 = .ok (.getfield 63, 3) := by decide +kernel
theorem dX5_gainInAllOrders_55 : decode cX5_gainInAllOrders 55 = .ok (.iload 4, 2) := by decide +kernel
theorem dX5_gainInAllOrders_57 : decode cX5_gainInAllOrders 57 = .ok (.iconst 1, 1) := by decide +kernel
theorem dX5_gainInAllOrders_58 : decode cX5_gainInAllOrders 58 = .ok (.iload_n 1, 1) := by decide +kernel
theorem dX5_gainInAllOrders_59 : decode cX5_gainInAllOrders 59 = .ok (.ishl, 1) := by decide +kernel
theorem dX5_gainInAllOrders_60 : decode cX5_gainInAllOrders 60 = .ok (.ior, 1) := by decide +kernel
theorem dX5_gainInAllOrders_61 : decode cX5_gainInAllOrders 61 = .ok (.iaload, 1) := by decide +kernel
theorem dX5_gainInAllOrders_62 : decode cX5_gainInAllOrders 62 = .ok (.aload_n 0, 1) := by decide +kernel
theorem dX5_gainInAllOrders_63 : decode cX5_gainInAllOrders 63 = .ok (.getfield 63, 3) := by decide +kernel
theorem dX5_gainInAllOrders_66 : decode cX5_gainInAllOrders 66 = .ok (.iload 4, 2) := by decide +kernel
theorem dX5_gainInAllOrders_68 : decode cX5_gainInAllOrders 68 = .ok (.iaload, 1) := by decide +kernel
theorem dX5_gainInAllOrders_69 : decode cX5_gainInAllOrders 69 = .ok (.isub, 1) := by decide +kernel
theorem dX5_gainInAllOrders_70 : decode cX5_gainInAllOrders 70 = .ok (.imul, 1) := by decide +kernel
theorem dX5_gainInAllOrders_71 : decode cX5_gainInAllOrders 71 = .ok (.iadd, 1) := by decide +kernel
theorem dX5_gainInAllOrders_72 : decode cX5_gainInAllOrders 72 = .ok (.istore_n 3, 1) := by decide +kernel
theorem dX5_gainInAllOrders_73 : decode cX5_gainInAllOrders 73 = .ok (.iinc 4 1, 3) := by decide +kernel
theorem dX5_gainInAllOrders_76 : decode cX5_gainInAllOrders 76 = .ok (.goto (-71), 3) := by decide +kernel
theorem dX5_gainInAllOrders_79 : decode cX5_gainInAllOrders 79 = .ok (.iload_n 3, 1) := by decide +kernel
theorem dX5_gainInAllOrders_80 : decode cX5_gainInAllOrders 80 = .ok (.ireturn, 1) := by decide +kernel
theorem dX5_waysToEmpty_0 : decode cX5_waysToEmpty 0 = .ok (.aload_n 0, 1) := by decide +kernel
theorem dX5_waysToEmpty_1 : decode cX5_waysToEmpty 1 = .ok (.invokevirtual 236, 3) := by decide +kernel
theorem dX5_waysToEmpty_4 : decode cX5_waysToEmpty 4 = .ok (.ifCond .ne 8, 3) := by decide +kernel
theorem dX5_waysToEmpty_7 : decode cX5_waysToEmpty 7 = .ok (.iload_n 2, 1) := by decide +kernel
theorem dX5_waysToEmpty_8 : decode cX5_waysToEmpty 8 = .ok (.invokestatic 209, 3) := by decide +kernel
theorem dX5_waysToEmpty_11 : decode cX5_waysToEmpty 11 = .ok (.ireturn, 1) := by decide +kernel
theorem dX5_waysToEmpty_12 : decode cX5_waysToEmpty 12 = .ok (.iload_n 2, 1) := by decide +kernel
theorem dX5_waysToEmpty_13 : decode cX5_waysToEmpty 13 = .ok (.iconst 1, 1) := by decide +kernel
theorem dX5_waysToEmpty_14 : decode cX5_waysToEmpty 14 = .ok (.if_icmp .lt 9, 3) := by decide +kernel
theorem dX5_waysToEmpty_17 : decode cX5_waysToEmpty 17 = .ok (.iload_n 2, 1) := by decide +kernel
theorem dX5_waysToEmpty_18 : decode cX5_waysToEmpty 18 = .ok (.bipush 8, 2) := by decide +kernel
theorem dX5_waysToEmpty_20 : decode cX5_waysToEmpty 20 = .ok (.if_icmp .le 5, 3) := by decide +kernel
theorem dX5_waysToEmpty_23 : decode cX5_waysToEmpty 23 = .ok (.iconst 0, 1) := by decide +kernel
theorem dX5_waysToEmpty_24 : decode cX5_waysToEmpty 24 = .ok (.ireturn, 1) := by decide +kernel
theorem dX5_waysToEmpty_25 : decode cX5_waysToEmpty 25 = .ok (.iconst 0, 1) := by decide +kernel
theorem dX5_waysToEmpty_26 : decode cX5_waysToEmpty 26 = .ok (.istore 4, 2) := by decide +kernel
theorem dX5_waysToEmpty_28 : decode cX5_waysToEmpty 28 = .ok (.aload_n 1, 1) := by decide +kernel
theorem dX5_waysToEmpty_29 : decode cX5_waysToEmpty 29 = .ok (.iload_n 2, 1) := by decide +kernel
theorem dX5_waysToEmpty_30 : decode cX5_waysToEmpty 30 = .ok (.aload_n 0, 1) := by decide +kernel
theorem dX5_waysToEmpty_31 : decode cX5_waysToEmpty 31 = .ok (.invokevirtual 216, 3) := by decide +kernel
theorem dX5_waysToEmpty_34 : decode cX5_waysToEmpty 34 = .ok (.iconst 0, 1) := by decide +kernel
theorem dX5_waysToEmpty_35 : decode cX5_waysToEmpty 35 = .ok (.istore 5, 2) := by decide +kernel
theorem dX5_waysToEmpty_37 : decode cX5_waysToEmpty 37 = .ok (.iload 5, 2) := by decide +kernel
theorem dX5_waysToEmpty_39 : decode cX5_waysToEmpty 39 = .ok (.iconst 1, 1) := by decide +kernel
theorem dX5_waysToEmpty_40 : decode cX5_waysToEmpty 40 = .ok (.if_icmp .gt 65, 3) := by decide +kernel
theorem dX5_waysToEmpty_43 : decode cX5_waysToEmpty 43 = .ok (.iload 5, 2) := by decide +kernel
theorem dX5_waysToEmpty_45 : decode cX5_waysToEmpty 45 = .ok (.ifCond .ne 7, 3) := by decide +kernel
theorem dX5_waysToEmpty_48 : decode cX5_waysToEmpty 48 = .ok (.iload_n 3, 1) := by decide +kernel
theorem dX5_waysToEmpty_49 : decode cX5_waysToEmpty 49 = .ok (.goto 7, 3) := by decide +kernel
theorem dX5_waysToEmpty_52 : decode cX5_waysToEmpty 52 = .ok (.bipush 10, 2) := by decide +kernel
theorem dX5_waysToEmpty_54 : decode cX5_waysToEmpty 54 = .ok (.iload_n 3, 1) := by decide +kernel
theorem dX5_waysToEmpty_55 : decode cX5_waysToEmpty 55 = .ok (.isub, 1) := by decide +kernel
theorem dX5_waysToEmpty_56 : decode cX5_waysToEmpty 56 = .ok (.istore 6, 2) := by decide +kernel
theorem dX5_waysToEmpty_58 : decode cX5_waysToEmpty 58 = .ok (.iload 6, 2) := by decide +kernel
theorem dX5_waysToEmpty_60 : decode cX5_waysToEmpty 60 = .ok (.ifCond .le 39, 3) := by decide +kernel
theorem dX5_waysToEmpty_63 : decode cX5_waysToEmpty 63 = .ok (.aload_n 1, 1) := by decide +kernel
theorem dX5_waysToEmpty_64 : decode cX5_waysToEmpty 64 = .ok (.iload_n 2, 1) := by decide +kernel
theorem dX5_waysToEmpty_65 : decode cX5_waysToEmpty 65 = .ok (.aload_n 0, 1) := by decide +kernel
theorem dX5_waysToEmpty_66 : decode cX5_waysToEmpty 66 = .ok (.invokevirtual 224, 3) := by decide +kernel
theorem dX5_waysToEmpty_69 : decode cX5_waysToEmpty 69 = .ok (.aload_n 0, 1) := by decide +kernel
theorem dX5_waysToEmpty_70 : decode cX5_waysToEmpty 70 = .ok (.getfield 136, 3) := by decide +kernel
theorem dX5_waysToEmpty_73 : decode cX5_waysToEmpty 73 = .ok (.bipush 50, 2) := by decide +kernel
theorem dX5_waysToEmpty_75 : decode cX5_waysToEmpty 75 = .ok (.iload 5, 2) := by decide +kernel
theorem dX5_waysToEmpty_77 : decode cX5_waysToEmpty 77 = .ok (.iastore, 1) := by decide +kernel
theorem dX5_waysToEmpty_78 : decode cX5_waysToEmpty 78 = .ok (.aload_n 0, 1) := by decide +kernel
theorem dX5_waysToEmpty_79 : decode cX5_waysToEmpty 79 = .ok (.invokevirtual 163, 3) := by decide +kernel
theorem dX5_waysToEmpty_82 : decode cX5_waysToEmpty 82 = .ok (.iload 4, 2) := by decide +kernel
theorem dX5_waysToEmpty_84 : decode cX5_waysToEmpty 84 = .ok (.iload 6, 2) := by decide +kernel
theorem dX5_waysToEmpty_86 : decode cX5_waysToEmpty 86 = .ok (.aload_n 0, 1) := by decide +kernel
theorem dX5_waysToEmpty_87 : decode cX5_waysToEmpty 87 = .ok (.aload_n 1, 1) := by decide +kernel
theorem dX5_waysToEmpty_88 : decode cX5_waysToEmpty 88 = .ok (.iload_n 2, 1) := by decide +kernel
theorem dX5_waysToEmpty_89 : decode cX5_waysToEmpty 89 = .ok (.iconst 1, 1) := by decide +kernel
theorem dX5_waysToEmpty_90 : decode cX5_waysToEmpty 90 = .ok (.isub, 1) := by decide +kernel
theorem dX5_waysToEmpty_91 : decode cX5_waysToEmpty 91 = .ok (.iload_n 3, 1) := by decide +kernel
theorem dX5_waysToEmpty_92 : decode cX5_waysToEmpty 92 = .ok (.invokestatic 205, 3) := by decide +kernel
theorem dX5_waysToEmpty_95 : decode cX5_waysToEmpty 95 = .ok (.imul, 1) := by decide +kernel
theorem dX5_waysToEmpty_96 : decode cX5_waysToEmpty 96 = .ok (.iadd, 1) := by decide +kernel
theorem dX5_waysToEmpty_97 : decode cX5_waysToEmpty 97 = .ok (.istore 4, 2) := by decide +kernel
theorem dX5_waysToEmpty_99 : decode cX5_waysToEmpty 99 = .ok (.iinc 5 1, 3) := by decide +kernel
theorem dX5_waysToEmpty_102 : decode cX5_waysToEmpty 102 = .ok (.goto (-65), 3) := by decide +kernel
theorem dX5_waysToEmpty_105 : decode cX5_waysToEmpty 105 = .ok (.iload 4, 2) := by decide +kernel
theorem dX5_waysToEmpty_107 : decode cX5_waysToEmpty 107 = .ok (.ireturn, 1) := by decide +kernel
theorem dX5_tenToThe_0 : decode cX5_tenToThe 0 = .ok (.iconst 1, 1) := by decide +kernel
theorem dX5_tenToThe_1 : decode cX5_tenToThe 1 = .ok (.istore_n 1, 1) := by decide +kernel
theorem dX5_tenToThe_2 : decode cX5_tenToThe 2 = .ok (.iconst 0, 1) := by decide +kernel
theorem dX5_tenToThe_3 : decode cX5_tenToThe 3 = .ok (.istore_n 2, 1) := by decide +kernel
theorem dX5_tenToThe_4 : decode cX5_tenToThe 4 = .ok (.iload_n 2, 1) := by decide +kernel
theorem dX5_tenToThe_5 : decode cX5_tenToThe 5 = .ok (.iload_n 0, 1) := by decide +kernel
theorem dX5_tenToThe_6 : decode cX5_tenToThe 6 = .ok (.if_icmp .ge 20, 3) := by decide +kernel
theorem dX5_tenToThe_9 : decode cX5_tenToThe 9 = .ok (.iload_n 2, 1) := by decide +kernel
theorem dX5_tenToThe_10 : decode cX5_tenToThe 10 = .ok (.bipush 8, 2) := by decide +kernel
theorem dX5_tenToThe_12 : decode cX5_tenToThe 12 = .ok (.if_icmp .ge 14, 3) := by decide +kernel
theorem dX5_tenToThe_15 : decode cX5_tenToThe 15 = .ok (.iload_n 1, 1) := by decide +kernel
theorem dX5_tenToThe_16 : decode cX5_tenToThe 16 = .ok (.bipush 10, 2) := by decide +kernel
theorem dX5_tenToThe_18 : decode cX5_tenToThe 18 = .ok (.imul, 1) := by decide +kernel
theorem dX5_tenToThe_19 : decode cX5_tenToThe 19 = .ok (.istore_n 1, 1) := by decide +kernel
theorem dX5_tenToThe_20 : decode cX5_tenToThe 20 = .ok (.iinc 2 1, 3) := by decide +kernel
theorem dX5_tenToThe_23 : decode cX5_tenToThe 23 = .ok (.goto (-19), 3) := by decide +kernel
theorem dX5_tenToThe_26 : decode cX5_tenToThe 26 = .ok (.iload_n 1, 1) := by decide +kernel
theorem dX5_tenToThe_27 : decode cX5_tenToThe 27 = .ok (.ireturn, 1) := by decide +kernel
theorem dX5_fraction_0 : decode cX5_fraction 0 = .ok (.iload_n 0, 1) := by decide +kernel
theorem dX5_fraction_1 : decode cX5_fraction 1 = .ok (.invokestatic 255, 3) := by decide +kernel
theorem dX5_fraction_4 : decode cX5_fraction 4 = .ok (.iload_n 1, 1) := by decide +kernel
theorem dX5_fraction_5 : decode cX5_fraction 5 = .ok (.invokestatic 260, 3) := by decide +kernel
theorem dX5_fraction_8 : decode cX5_fraction 8 = .ok (.istore_n 3, 1) := by decide +kernel
theorem dX5_fraction_9 : decode cX5_fraction 9 = .ok (.iload_n 3, 1) := by decide +kernel
theorem dX5_fraction_10 : decode cX5_fraction 10 = .ok (.iconst 1, 1) := by decide +kernel
theorem dX5_fraction_11 : decode cX5_fraction 11 = .ok (.if_icmp .ge 5, 3) := by decide +kernel
theorem dX5_fraction_14 : decode cX5_fraction 14 = .ok (.iconst 0, 1) := by decide +kernel
theorem dX5_fraction_15 : decode cX5_fraction 15 = .ok (.ireturn, 1) := by decide +kernel
theorem dX5_fraction_16 : decode cX5_fraction 16 = .ok (.iload_n 2, 1) := by decide +kernel
theorem dX5_fraction_17 : decode cX5_fraction 17 = .ok (.ifCond .eq 9, 3) := by decide +kernel
theorem dX5_fraction_20 : decode cX5_fraction 20 = .ok (.iload_n 0, 1) := by decide +kernel
theorem dX5_fraction_21 : decode cX5_fraction 21 = .ok (.iload_n 3, 1) := by decide +kernel
theorem dX5_fraction_22 : decode cX5_fraction 22 = .ok (.idiv, 1) := by decide +kernel
theorem dX5_fraction_23 : decode cX5_fraction 23 = .ok (.goto 6, 3) := by decide +kernel
theorem dX5_fraction_26 : decode cX5_fraction 26 = .ok (.iload_n 1, 1) := by decide +kernel
theorem dX5_fraction_27 : decode cX5_fraction 27 = .ok (.iload_n 3, 1) := by decide +kernel
theorem dX5_fraction_28 : decode cX5_fraction 28 = .ok (.idiv, 1) := by decide +kernel
theorem dX5_fraction_29 : decode cX5_fraction 29 = .ok (.ireturn, 1) := by decide +kernel
theorem dX5_commonDivisor_0 : decode cX5_commonDivisor 0 = .ok (.iload_n 0, 1) := by decide +kernel
theorem dX5_commonDivisor_1 : decode cX5_commonDivisor 1 = .ok (.istore_n 2, 1) := by decide +kernel
theorem dX5_commonDivisor_2 : decode cX5_commonDivisor 2 = .ok (.iload_n 1, 1) := by decide +kernel
theorem dX5_commonDivisor_3 : decode cX5_commonDivisor 3 = .ok (.istore_n 3, 1) := by decide +kernel
theorem dX5_commonDivisor_4 : decode cX5_commonDivisor 4 = .ok (.iconst 0, 1) := by decide +kernel
theorem dX5_commonDivisor_5 : decode cX5_commonDivisor 5 = .ok (.istore 4, 2) := by decide +kernel
theorem dX5_commonDivisor_7 : decode cX5_commonDivisor 7 = .ok (.iload 4, 2) := by decide +kernel
theorem dX5_commonDivisor_9 : decode cX5_commonDivisor 9 = .ok (.bipush 64, 2) := by decide +kernel
theorem dX5_commonDivisor_11 : decode cX5_commonDivisor 11 = .ok (.if_icmp .ge 23, 3) := by decide +kernel
theorem dX5_commonDivisor_14 : decode cX5_commonDivisor 14 = .ok (.iload_n 3, 1) := by decide +kernel
theorem dX5_commonDivisor_15 : decode cX5_commonDivisor 15 = .ok (.ifCond .eq 19, 3) := by decide +kernel
theorem dX5_commonDivisor_18 : decode cX5_commonDivisor 18 = .ok (.iload_n 2, 1) := by decide +kernel
theorem dX5_commonDivisor_19 : decode cX5_commonDivisor 19 = .ok (.iload_n 3, 1) := by decide +kernel
theorem dX5_commonDivisor_20 : decode cX5_commonDivisor 20 = .ok (.irem, 1) := by decide +kernel
theorem dX5_commonDivisor_21 : decode cX5_commonDivisor 21 = .ok (.istore 5, 2) := by decide +kernel
theorem dX5_commonDivisor_23 : decode cX5_commonDivisor 23 = .ok (.iload_n 3, 1) := by decide +kernel
theorem dX5_commonDivisor_24 : decode cX5_commonDivisor 24 = .ok (.istore_n 2, 1) := by decide +kernel
theorem dX5_commonDivisor_25 : decode cX5_commonDivisor 25 = .ok (.iload 5, 2) := by decide +kernel
theorem dX5_commonDivisor_27 : decode cX5_commonDivisor 27 = .ok (.istore_n 3, 1) := by decide +kernel
theorem dX5_commonDivisor_28 : decode cX5_commonDivisor 28 = .ok (.iinc 4 1, 3) := by decide +kernel
theorem dX5_commonDivisor_31 : decode cX5_commonDivisor 31 = .ok (.goto (-24), 3) := by decide +kernel
theorem dX5_commonDivisor_34 : decode cX5_commonDivisor 34 = .ok (.iload_n 2, 1) := by decide +kernel
theorem dX5_commonDivisor_35 : decode cX5_commonDivisor 35 = .ok (.ireturn, 1) := by decide +kernel
theorem dX6_init_0 : decode cX6_init 0 = .ok (.aload_n 0, 1) := by decide +kernel
theorem dX6_init_1 : decode cX6_init 1 = .ok (.invokespecial 1, 3) := by decide +kernel
theorem dX6_init_4 : decode cX6_init 4 = .ok (.aload_n 0, 1) := by decide +kernel
theorem dX6_init_5 : decode cX6_init 5 = .ok (.bipush 40, 2) := by decide +kernel
theorem dX6_init_7 : decode cX6_init 7 = .ok (.newarray .int, 2) := by decide +kernel
theorem dX6_init_9 : decode cX6_init 9 = .ok (.putfield 7, 3) := by decide +kernel
theorem dX6_init_12 : decode cX6_init 12 = .ok (.aload_n 0, 1) := by decide +kernel
theorem dX6_init_13 : decode cX6_init 13 = .ok (.iconst 2, 1) := by decide +kernel
theorem dX6_init_14 : decode cX6_init 14 = .ok (.putfield 13, 3) := by decide +kernel
theorem dX6_init_17 : decode cX6_init 17 = .ok (.aload_n 0, 1) := by decide +kernel
theorem dX6_init_18 : decode cX6_init 18 = .ok (.iconst 1, 1) := by decide +kernel
theorem dX6_init_19 : decode cX6_init 19 = .ok (.putfield 17, 3) := by decide +kernel
theorem dX6_init_22 : decode cX6_init 22 = .ok (.aload_n 0, 1) := by decide +kernel
theorem dX6_init_23 : decode cX6_init 23 = .ok (.bipush 79, 2) := by decide +kernel
theorem dX6_init_25 : decode cX6_init 25 = .ok (.newarray .int, 2) := by decide +kernel
theorem dX6_init_27 : decode cX6_init 27 = .ok (.putfield 20, 3) := by decide +kernel
theorem dX6_init_30 : decode cX6_init 30 = .ok (.aload_n 0, 1) := by decide +kernel
theorem dX6_init_31 : decode cX6_init 31 = .ok (.bipush 79, 2) := by decide +kernel
theorem dX6_init_33 : decode cX6_init 33 = .ok (.newarray .int, 2) := by decide +kernel
theorem dX6_init_35 : decode cX6_init 35 = .ok (.putfield 23, 3) := by decide +kernel
theorem dX6_init_38 : decode cX6_init 38 = .ok (.aload_n 0, 1) := by decide +kernel
theorem dX6_init_39 : decode cX6_init 39 = .ok (.bipush 79, 2) := by decide +kernel
theorem dX6_init_41 : decode cX6_init 41 = .ok (.newarray .int, 2) := by decide +kernel
theorem dX6_init_43 : decode cX6_init 43 = .ok (.putfield 26, 3) := by decide +kernel
theorem dX6_init_46 : decode cX6_init 46 = .ok (.aload_n 0, 1) := by decide +kernel
theorem dX6_init_47 : decode cX6_init 47 = .ok (.sipush 1106, 3) := by decide +kernel
theorem dX6_init_50 : decode cX6_init 50 = .ok (.newarray .int, 2) := by decide +kernel
theorem dX6_init_52 : decode cX6_init 52 = .ok (.putfield 29, 3) := by decide +kernel
theorem dX6_init_55 : decode cX6_init 55 = .ok (.aload_n 0, 1) := by decide +kernel
theorem dX6_init_56 : decode cX6_init 56 = .ok (.sipush 158, 3) := by decide +kernel
theorem dX6_init_59 : decode cX6_init 59 = .ok (.newarray .int, 2) := by decide +kernel
theorem dX6_init_61 : decode cX6_init 61 = .ok (.putfield 32, 3) := by decide +kernel
theorem dX6_init_64 : decode cX6_init 64 = .ok (.aload_n 0, 1) := by decide +kernel
theorem dX6_init_65 : decode cX6_init 65 = .ok (.iconst 2, 1) := by decide +kernel
theorem dX6_init_66 : decode cX6_init 66 = .ok (.newarray .boolean, 2) := by decide +kernel
theorem dX6_init_68 : decode cX6_init 68 = .ok (.putfield 35, 3) := by decide +kernel
theorem dX6_init_71 : decode cX6_init 71 = .ok (.aload_n 0, 1) := by decide +kernel
theorem dX6_init_72 : decode cX6_init 72 = .ok (.bipush 6, 2) := by decide +kernel
theorem dX6_init_74 : decode cX6_init 74 = .ok (.newarray .int, 2) := by decide +kernel
theorem dX6_init_76 : decode cX6_init 76 = .ok (.putfield 39, 3) := by decide +kernel
theorem dX6_init_79 : decode cX6_init 79 = .ok (.aload_n 0, 1) := by decide +kernel
theorem dX6_init_80 : decode cX6_init 80 = .ok (.bipush 6, 2) := by decide +kernel
theorem dX6_init_82 : decode cX6_init 82 = .ok (.newarray .int, 2) := by decide +kernel
theorem dX6_init_84 : decode cX6_init 84 = .ok (.putfield 42, 3) := by decide +kernel
theorem dX6_init_87 : decode cX6_init 87 = .ok (.aload_n 0, 1) := by decide +kernel
theorem dX6_init_88 : decode cX6_init 88 = .ok (.bipush 6, 2) := by decide +kernel
theorem dX6_init_90 : decode cX6_init 90 = .ok (.newarray .int, 2) := by decide +kernel
theorem dX6_init_92 : decode cX6_init 92 = .ok (.putfield 45, 3) := by decide +kernel
theorem dX6_init_95 : decode cX6_init 95 = .ok (.aload_n 0, 1) := by decide +kernel
theorem dX6_init_96 : decode cX6_init 96 = .ok (.getfield 23, 3) := by decide +kernel
theorem dX6_init_99 : decode cX6_init 99 = .ok (.bipush 72, 2) := by decide +kernel
theorem dX6_init_101 : decode cX6_init 101 = .ok (.iconst 1, 1) := by decide +kernel
theorem dX6_init_102 : decode cX6_init 102 = .ok (.iastore, 1) := by decide +kernel
theorem dX6_init_103 : decode cX6_init 103 = .ok (.return_, 1) := by decide +kernel
theorem dX6_in_0 : decode cX6_in 0 = .ok (.lload_n 0, 1) := by decide +kernel
theorem dX6_in_1 : decode cX6_in 1 = .ok (.lload_n 2, 1) := by decide +kernel
theorem dX6_in_2 : decode cX6_in 2 = .ok (.lcmp, 1) := by decide +kernel
theorem dX6_in_3 : decode cX6_in 3 = .ok (.ifCond .lt 14, 3) := by decide +kernel
theorem dX6_in_6 : decode cX6_in 6 = .ok (.lload_n 0, 1) := by decide +kernel
theorem dX6_in_7 : decode cX6_in 7 = .ok (.lload 4, 2) := by decide +kernel
theorem dX6_in_9 : decode cX6_in 9 = .ok (.lcmp, 1) := by decide +kernel
theorem dX6_in_10 : decode cX6_in 10 = .ok (.ifCond .gt 7, 3) := by decide +kernel
theorem dX6_in_13 : decode cX6_in 13 = .ok (.iconst 1, 1) := by decide +kernel
theorem dX6_in_14 : decode cX6_in 14 = .ok (.goto 4, 3) := by decide +kernel
theorem dX6_in_17 : decode cX6_in 17 = .ok (.iconst 0, 1) := by decide +kernel
theorem dX6_in_18 : decode cX6_in 18 = .ok (.ireturn, 1) := by decide +kernel
theorem dX6_has_0 : decode cX6_has 0 = .ok (.iload_n 0, 1) := by decide +kernel
theorem dX6_has_1 : decode cX6_has 1 = .ok (.iload_n 1, 1) := by decide +kernel
theorem dX6_has_2 : decode cX6_has 2 = .ok (.ishr, 1) := by decide +kernel
theorem dX6_has_3 : decode cX6_has 3 = .ok (.iconst 1, 1) := by decide +kernel
theorem dX6_has_4 : decode cX6_has 4 = .ok (.iand, 1) := by decide +kernel
theorem dX6_has_5 : decode cX6_has 5 = .ok (.iconst 1, 1) := by decide +kernel
theorem dX6_has_6 : decode cX6_has 6 = .ok (.if_icmp .ne 7, 3) := by decide +kernel
theorem dX6_has_9 : decode cX6_has 9 = .ok (.iconst 1, 1) := by decide +kernel
theorem dX6_has_10 : decode cX6_has 10 = .ok (.goto 4, 3) := by decide +kernel
theorem dX6_has_13 : decode cX6_has 13 = .ok (.iconst 0, 1) := by decide +kernel
theorem dX6_has_14 : decode cX6_has 14 = .ok (.ireturn, 1) := by decide +kernel
theorem dX6_ones_0 : decode cX6_ones 0 = .ok (.iconst 0, 1) := by decide +kernel
theorem dX6_ones_1 : decode cX6_ones 1 = .ok (.istore_n 1, 1) := by decide +kernel
theorem dX6_ones_2 : decode cX6_ones 2 = .ok (.iconst 0, 1) := by decide +kernel
theorem dX6_ones_3 : decode cX6_ones 3 = .ok (.istore_n 2, 1) := by decide +kernel
theorem dX6_ones_4 : decode cX6_ones 4 = .ok (.iload_n 2, 1) := by decide +kernel
theorem dX6_ones_5 : decode cX6_ones 5 = .ok (.bipush 12, 2) := by decide +kernel
theorem dX6_ones_7 : decode cX6_ones 7 = .ok (.if_icmp .ge 17, 3) := by decide +kernel
theorem dX6_ones_10 : decode cX6_ones 10 = .ok (.iload_n 1, 1) := by decide +kernel
theorem dX6_ones_11 : decode cX6_ones 11 = .ok (.iload_n 0, 1) := by decide +kernel
theorem dX6_ones_12 : decode cX6_ones 12 = .ok (.iload_n 2, 1) := by decide +kernel
theorem dX6_ones_13 : decode cX6_ones 13 = .ok (.ishr, 1) := by decide +kernel
theorem dX6_ones_14 : decode cX6_ones 14 = .ok (.iconst 1, 1) := by decide +kernel
theorem dX6_ones_15 : decode cX6_ones 15 = .ok (.iand, 1) := by decide +kernel
theorem dX6_ones_16 : decode cX6_ones 16 = .ok (.iadd, 1) := by decide +kernel
theorem dX6_ones_17 : decode cX6_ones 17 = .ok (.istore_n 1, 1) := by decide +kernel
theorem dX6_ones_18 : decode cX6_ones 18 = .ok (.iinc 2 1, 3) := by decide +kernel
theorem dX6_ones_21 : decode cX6_ones 21 = .ok (.goto (-17), 3) := by decide +kernel
theorem dX6_ones_24 : decode cX6_ones 24 = .ok (.iload_n 1, 1) := by decide +kernel
theorem dX6_ones_25 : decode cX6_ones 25 = .ok (.ireturn, 1) := by decide +kernel
theorem dX6_power_0 : decode cX6_power 0 = .ok (.iconst 1, 1) := by decide +kernel
theorem dX6_power_1 : decode cX6_power 1 = .ok (.istore_n 2, 1) := by decide +kernel
theorem dX6_power_2 : decode cX6_power 2 = .ok (.iconst 0, 1) := by decide +kernel
theorem dX6_power_3 : decode cX6_power 3 = .ok (.istore_n 3, 1) := by decide +kernel
theorem dX6_power_4 : decode cX6_power 4 = .ok (.iload_n 3, 1) := by decide +kernel
theorem dX6_power_5 : decode cX6_power 5 = .ok (.iload_n 1, 1) := by decide +kernel
theorem dX6_power_6 : decode cX6_power 6 = .ok (.if_icmp .ge 13, 3) := by decide +kernel
theorem dX6_power_9 : decode cX6_power 9 = .ok (.iload_n 2, 1) := by decide +kernel
theorem dX6_power_10 : decode cX6_power 10 = .ok (.iload_n 0, 1) := by decide +kernel
theorem dX6_power_11 : decode cX6_power 11 = .ok (.imul, 1) := by decide +kernel
theorem dX6_power_12 : decode cX6_power 12 = .ok (.istore_n 2, 1) := by decide +kernel
theorem dX6_power_13 : decode cX6_power 13 = .ok (.iinc 3 1, 3) := by decide +kernel
theorem dX6_power_16 : decode cX6_power 16 = .ok (.goto (-12), 3) := by decide +kernel
theorem dX6_power_19 : decode cX6_power 19 = .ok (.iload_n 2, 1) := by decide +kernel
theorem dX6_power_20 : decode cX6_power 20 = .ok (.ireturn, 1) := by decide +kernel
theorem dX6_layTrial_0 : decode cX6_layTrial 0 = .ok (.iconst 0, 1) := by decide +kernel
theorem dX6_layTrial_1 : decode cX6_layTrial 1 = .ok (.istore_n 1, 1) := by decide +kernel
theorem dX6_layTrial_2 : decode cX6_layTrial 2 = .ok (.iload_n 1, 1) := by decide +kernel
theorem dX6_layTrial_3 : decode cX6_layTrial 3 = .ok (.bipush 79, 2) := by decide +kernel
theorem dX6_layTrial_5 : decode cX6_layTrial 5 = .ok (.if_icmp .ge 21, 3) := by decide +kernel
theorem dX6_layTrial_8 : decode cX6_layTrial 8 = .ok (.aload_n 0, 1) := by decide +kernel
theorem dX6_layTrial_9 : decode cX6_layTrial 9 = .ok (.getfield 26, 3) := by decide +kernel
theorem dX6_layTrial_12 : decode cX6_layTrial 12 = .ok (.iload_n 1, 1) := by decide +kernel
theorem dX6_layTrial_13 : decode cX6_layTrial 13 = .ok (.aload_n 0, 1) := by decide +kernel
theorem dX6_layTrial_14 : decode cX6_layTrial 14 = .ok (.getfield 23, 3) := by decide +kernel
theorem dX6_layTrial_17 : decode cX6_layTrial 17 = .ok (.iload_n 1, 1) := by decide +kernel
theorem dX6_layTrial_18 : decode cX6_layTrial 18 = .ok (.iaload, 1) := by decide +kernel
theorem dX6_layTrial_19 : decode cX6_layTrial 19 = .ok (.iastore, 1) := by decide +kernel
theorem dX6_layTrial_20 : decode cX6_layTrial 20 = .ok (.iinc 1 1, 3) := by decide +kernel
theorem dX6_layTrial_23 : decode cX6_layTrial 23 = .ok (.goto (-21), 3) := by decide +kernel
theorem dX6_layTrial_26 : decode cX6_layTrial 26 = .ok (.return_, 1) := by decide +kernel
theorem dX6_zones_0 : decode cX6_zones 0 = .ok (.aload_n 0, 1) := by decide +kernel
theorem dX6_zones_1 : decode cX6_zones 1 = .ok (.getfield 13, 3) := by decide +kernel
theorem dX6_zones_4 : decode cX6_zones 4 = .ok (.aload_n 0, 1) := by decide +kernel
theorem dX6_zones_5 : decode cX6_zones 5 = .ok (.getfield 51, 3) := by decide +kernel
theorem dX6_zones_8 : decode cX6_zones 8 = .ok (.iadd, 1) := by decide +kernel
theorem dX6_zones_9 : decode cX6_zones 9 = .ok (.ireturn, 1) := by decide +kernel
theorem dX6_noZone_0 : decode cX6_noZone 0 = .ok (.iload_n 1, 1) := by decide +kernel
theorem dX6_noZone_1 : decode cX6_noZone 1 = .ok (.i2l, 1) := by decide +kernel
theorem dX6_noZone_2 : decode cX6_noZone 2 = .ok (.lconst 0, 1) := by decide +kernel
theorem dX6_noZone_3 : decode cX6_noZone 3 = .ok (.aload_n 0, 1) := by decide +kernel
theorem dX6_noZone_4 : decode cX6_noZone 4 = .ok (.invokevirtual 54, 3) := by decide +kernel
theorem dX6_noZone_7 : decode cX6_noZone 7 = .ok (.iconst 1, 1) := by decide +kernel
theorem dX6_noZone_8 : decode cX6_noZone 8 = .ok (.isub, 1) := by decide +kernel
theorem dX6_noZone_9 : decode cX6_noZone 9 = .ok (.i2l, 1) := by decide +kernel
theorem dX6_noZone_10 : decode cX6_noZone 10 = .ok (.invokestatic 58, 3) := by decide +kernel
theorem dX6_noZone_13 : decode cX6_noZone 13 = .ok (.ifCond .ne 7, 3) := by decide +kernel
theorem dX6_noZone_16 : decode cX6_noZone 16 = .ok (.iconst 1, 1) := by decide +kernel
theorem dX6_noZone_17 : decode cX6_noZone 17 = .ok (.goto 4, 3) := by decide +kernel
theorem dX6_noZone_20 : decode cX6_noZone 20 = .ok (.iconst 0, 1) := by decide +kernel
theorem dX6_noZone_21 : decode cX6_noZone 21 = .ok (.ireturn, 1) := by decide +kernel
theorem dX6_write_0 : decode cX6_write 0 = .ok (.aload_n 0, 1) := by decide +kernel
theorem dX6_write_1 : decode cX6_write 1 = .ok (.iconst 0, 1) := by decide +kernel
theorem dX6_write_2 : decode cX6_write 2 = .ok (.putfield 48, 3) := by decide +kernel
theorem dX6_write_5 : decode cX6_write 5 = .ok (.iload_n 1, 1) := by decide +kernel
theorem dX6_write_6 : decode cX6_write 6 = .ok (.i2l, 1) := by decide +kernel
theorem dX6_write_7 : decode cX6_write 7 = .ok (.lconst 0, 1) := by decide +kernel
theorem dX6_write_8 : decode cX6_write 8 = .ok (.ldc2_w 62, 3) := by decide +kernel
theorem dX6_write_11 : decode cX6_write 11 = .ok (.invokestatic 58, 3) := by decide +kernel
theorem dX6_write_14 : decode cX6_write 14 = .ok (.ifCond .ne 6, 3) := by decide +kernel
theorem dX6_write_17 : decode cX6_write 17 = .ok (.bipush (-2), 2) := by decide +kernel
theorem dX6_write_19 : decode cX6_write 19 = .ok (.ireturn, 1) := by decide +kernel
theorem dX6_write_20 : decode cX6_write 20 = .ok (.aload_n 0, 1) := by decide +kernel
theorem dX6_write_21 : decode cX6_write 21 = .ok (.getfield 64, 3) := by decide +kernel
theorem dX6_write_24 : decode cX6_write 24 = .ok (.bipush 40, 2) := by decide +kernel
theorem dX6_write_26 : decode cX6_write 26 = .ok (.if_icmp .ne 6, 3) := by decide +kernel
theorem dX6_write_29 : decode cX6_write 29 = .ok (.bipush (-4), 2) := by decide +kernel
theorem dX6_write_31 : decode cX6_write 31 = .ok (.ireturn, 1) := by decide +kernel
theorem dX6_write_32 : decode cX6_write 32 = .ok (.aload_n 0, 1) := by decide +kernel
theorem dX6_write_33 : decode cX6_write 33 = .ok (.getfield 7, 3) := by decide +kernel
theorem dX6_write_36 : decode cX6_write 36 = .ok (.aload_n 0, 1) := by decide +kernel
theorem dX6_write_37 : decode cX6_write 37 = .ok (.getfield 64, 3) := by decide +kernel
theorem dX6_write_40 : decode cX6_write 40 = .ok (.iload_n 1, 1) := by decide +kernel
theorem dX6_write_41 : decode cX6_write 41 = .ok (.iastore, 1) := by decide +kernel
theorem dX6_write_42 : decode cX6_write 42 = .ok (.aload_n 0, 1) := by decide +kernel
theorem dX6_write_43 : decode cX6_write 43 = .ok (.dup, 1) := by decide +kernel
theorem dX6_write_44 : decode cX6_write 44 = .ok (.getfield 64, 3) := by decide +kernel
theorem dX6_write_47 : decode cX6_write 47 = .ok (.iconst 1, 1) := by decide +kernel
theorem dX6_write_48 : decode cX6_write 48 = .ok (.iadd, 1) := by decide +kernel
theorem dX6_write_49 : decode cX6_write 49 = .ok (.putfield 64, 3) := by decide +kernel
theorem dX6_write_52 : decode cX6_write 52 = .ok (.aload_n 0, 1) := by decide +kernel
theorem dX6_write_53 : decode cX6_write 53 = .ok (.getfield 64, 3) := by decide +kernel
theorem dX6_write_56 : decode cX6_write 56 = .ok (.ireturn, 1) := by decide +kernel
theorem dX6_wipe_0 : decode cX6_wipe 0 = .ok (.aload_n 0, 1) := by decide +kernel
theorem dX6_wipe_1 : decode cX6_wipe 1 = .ok (.iconst 0, 1) := by decide +kernel
theorem dX6_wipe_2 : decode cX6_wipe 2 = .ok (.putfield 48, 3) := by decide +kernel
theorem dX6_wipe_5 : decode cX6_wipe 5 = .ok (.aload_n 0, 1) := by decide +kernel
theorem dX6_wipe_6 : decode cX6_wipe 6 = .ok (.getfield 64, 3) := by decide +kernel
theorem dX6_wipe_9 : decode cX6_wipe 9 = .ok (.istore_n 1, 1) := by decide +kernel
theorem dX6_wipe_10 : decode cX6_wipe 10 = .ok (.aload_n 0, 1) := by decide +kernel
theorem dX6_wipe_11 : decode cX6_wipe 11 = .ok (.iconst 0, 1) := by decide +kernel
theorem dX6_wipe_12 : decode cX6_wipe 12 = .ok (.putfield 64, 3) := by decide +kernel
theorem dX6_wipe_15 : decode cX6_wipe 15 = .ok (.iload_n 1, 1) := by decide +kernel
theorem dX6_wipe_16 : decode cX6_wipe 16 = .ok (.ireturn, 1) := by decide +kernel
theorem dX6_figure_0 : decode cX6_figure 0 = .ok (.aload_n 0, 1) := by decide +kernel
theorem dX6_figure_1 : decode cX6_figure 1 = .ok (.getfield 67, 3) := by decide +kernel
theorem dX6_figure_4 : decode cX6_figure 4 = .ok (.aload_n 0, 1) := by decide +kernel
theorem dX6_figure_5 : decode cX6_figure 5 = .ok (.getfield 64, 3) := by decide +kernel
theorem dX6_figure_8 : decode cX6_figure 8 = .ok (.if_icmp .ge 18, 3) := by decide +kernel
theorem dX6_figure_11 : decode cX6_figure 11 = .ok (.aload_n 0, 1) := by decide +kernel
theorem dX6_figure_12 : decode cX6_figure 12 = .ok (.getfield 7, 3) := by decide +kernel
theorem dX6_figure_15 : decode cX6_figure 15 = .ok (.aload_n 0, 1) := by decide +kernel
theorem dX6_figure_16 : decode cX6_figure 16 = .ok (.getfield 67, 3) := by decide +kernel
theorem dX6_figure_19 : decode cX6_figure 19 = .ok (.iaload, 1) := by decide +kernel
theorem dX6_figure_20 : decode cX6_figure 20 = .ok (.bipush 48, 2) := by decide +kernel
theorem dX6_figure_22 : decode cX6_figure 22 = .ok (.isub, 1) := by decide +kernel
theorem dX6_figure_23 : decode cX6_figure 23 = .ok (.goto 5, 3) := by decide +kernel
theorem dX6_figure_26 : decode cX6_figure 26 = .ok (.bipush (-9), 2) := by decide +kernel
theorem dX6_figure_28 : decode cX6_figure 28 = .ok (.istore_n 3, 1) := by decide +kernel
theorem dX6_figure_29 : decode cX6_figure 29 = .ok (.iload_n 3, 1) := by decide +kernel
theorem dX6_figure_30 : decode cX6_figure 30 = .ok (.i2l, 1) := by decide +kernel
theorem dX6_figure_31 : decode cX6_figure 31 = .ok (.iload_n 1, 1) := by decide +kernel
theorem dX6_figure_32 : decode cX6_figure 32 = .ok (.i2l, 1) := by decide +kernel
theorem dX6_figure_33 : decode cX6_figure 33 = .ok (.iload_n 2, 1) := by decide +kernel
theorem dX6_figure_34 : decode cX6_figure 34 = .ok (.i2l, 1) := by decide +kernel
theorem dX6_figure_35 : decode cX6_figure 35 = .ok (.invokestatic 58, 3) := by decide +kernel
theorem dX6_figure_38 : decode cX6_figure 38 = .ok (.ifCond .ne 6, 3) := by decide +kernel
theorem dX6_figure_41 : decode cX6_figure 41 = .ok (.bipush (-9), 2) := by decide +kernel
theorem dX6_figure_43 : decode cX6_figure 43 = .ok (.ireturn, 1) := by decide +kernel
theorem dX6_figure_44 : decode cX6_figure 44 = .ok (.aload_n 0, 1) := by decide +kernel
theorem dX6_figure_45 : decode cX6_figure 45 = .ok (.dup, 1) := by decide +kernel
theorem dX6_figure_46 : decode cX6_figure 46 = .ok (.getfield 67, 3) := by decide +kernel
theorem dX6_figure_49 : decode cX6_figure 49 = .ok (.iconst 1, 1) := by decide +kernel
theorem dX6_figure_50 : decode cX6_figure 50 = .ok (.iadd, 1) := by decide +kernel
theorem dX6_figure_51 : decode cX6_figure 51 = .ok (.putfield 67, 3) := by decide +kernel
theorem dX6_figure_54 : decode cX6_figure 54 = .ok (.iload_n 3, 1) := by decide +kernel
theorem dX6_figure_55 : decode cX6_figure 55 = .ok (.ireturn, 1) := by decide +kernel
theorem dX6_readHead_0 : decode cX6_readHead 0 = .ok (.aload_n 0, 1) := by decide +kernel
theorem dX6_readHead_1 : decode cX6_readHead 1 = .ok (.aload_n 0, 1) := by decide +kernel
theorem dX6_readHead_2 : decode cX6_readHead 2 = .ok (.iconst 2, 1) := by decide +kernel
theorem dX6_readHead_3 : decode cX6_readHead 3 = .ok (.bipush 8, 2) := by decide +kernel
theorem dX6_readHead_5 : decode cX6_readHead 5 = .ok (.invokevirtual 70, 3) := by decide +kernel
theorem dX6_readHead_8 : decode cX6_readHead 8 = .ok (.putfield 74, 3) := by decide +kernel
theorem dX6_readHead_11 : decode cX6_readHead 11 = .ok (.aload_n 0, 1) := by decide +kernel
theorem dX6_readHead_12 : decode cX6_readHead 12 = .ok (.aload_n 0, 1) := by decide +kernel
theorem dX6_readHead_13 : decode cX6_readHead 13 = .ok (.getfield 74, 3) := by decide +kernel
theorem dX6_readHead_16 : decode cX6_readHead 16 = .ok (.bipush (-9), 2) := by decide +kernel
theorem dX6_readHead_18 : decode cX6_readHead 18 = .ok (.if_icmp .ne 8, 3) := by decide +kernel
theorem dX6_readHead_21 : decode cX6_readHead 21 = .ok (.bipush (-9), 2) := by decide +kernel
theorem dX6_readHead_23 : decode cX6_readHead 23 = .ok (.goto 9, 3) := by decide +kernel
theorem dX6_readHead_26 : decode cX6_readHead 26 = .ok (.aload_n 0, 1) := by decide +kernel
theorem dX6_readHead_27 : decode cX6_readHead 27 = .ok (.iconst 0, 1) := by decide +kernel
theorem dX6_readHead_28 : decode cX6_readHead 28 = .ok (.iconst 4, 1) := by decide +kernel
theorem dX6_readHead_29 : decode cX6_readHead 29 = .ok (.invokevirtual 70, 3) := by decide +kernel
theorem dX6_readHead_32 : decode cX6_readHead 32 = .ok (.putfield 77, 3) := by decide +kernel
theorem dX6_readHead_35 : decode cX6_readHead 35 = .ok (.aload_n 0, 1) := by decide +kernel
theorem dX6_readHead_36 : decode cX6_readHead 36 = .ok (.aload_n 0, 1) := by decide +kernel
theorem dX6_readHead_37 : decode cX6_readHead 37 = .ok (.getfield 77, 3) := by decide +kernel
theorem dX6_readHead_40 : decode cX6_readHead 40 = .ok (.bipush (-9), 2) := by decide +kernel
theorem dX6_readHead_42 : decode cX6_readHead 42 = .ok (.if_icmp .ne 8, 3) := by decide +kernel
theorem dX6_readHead_45 : decode cX6_readHead 45 = .ok (.bipush (-9), 2) := by decide +kernel
theorem dX6_readHead_47 : decode cX6_readHead 47 = .ok (.goto 14, 3) := by decide +kernel
theorem dX6_readHead_50 : decode cX6_readHead 50 = .ok (.aload_n 0, 1) := by decide +kernel
theorem dX6_readHead_51 : decode cX6_readHead 51 = .ok (.iconst 1, 1) := by decide +kernel
theorem dX6_readHead_52 : decode cX6_readHead 52 = .ok (.aload_n 0, 1) := by decide +kernel
theorem dX6_readHead_53 : decode cX6_readHead 53 = .ok (.getfield 74, 3) := by decide +kernel
theorem dX6_readHead_56 : decode cX6_readHead 56 = .ok (.iconst 1, 1) := by decide +kernel
theorem dX6_readHead_57 : decode cX6_readHead 57 = .ok (.isub, 1) := by decide +kernel
theorem dX6_readHead_58 : decode cX6_readHead 58 = .ok (.invokevirtual 70, 3) := by decide +kernel
theorem dX6_readHead_61 : decode cX6_readHead 61 = .ok (.putfield 80, 3) := by decide +kernel
theorem dX6_readHead_64 : decode cX6_readHead 64 = .ok (.aload_n 0, 1) := by decide +kernel
theorem dX6_readHead_65 : decode cX6_readHead 65 = .ok (.getfield 20, 3) := by decide +kernel
theorem dX6_readHead_68 : decode cX6_readHead 68 = .ok (.bipush 73, 2) := by decide +kernel
theorem dX6_readHead_70 : decode cX6_readHead 70 = .ok (.aload_n 0, 1) := by decide +kernel
theorem dX6_readHead_71 : decode cX6_readHead 71 = .ok (.getfield 80, 3) := by decide +kernel
theorem dX6_readHead_74 : decode cX6_readHead 74 = .ok (.bipush (-9), 2) := by decide +kernel
theorem dX6_readHead_76 : decode cX6_readHead 76 = .ok (.if_icmp .ne 8, 3) := by decide +kernel
theorem dX6_readHead_79 : decode cX6_readHead 79 = .ok (.bipush (-9), 2) := by decide +kernel
theorem dX6_readHead_81 : decode cX6_readHead 81 = .ok (.goto 9, 3) := by decide +kernel
theorem dX6_readHead_84 : decode cX6_readHead 84 = .ok (.aload_n 0, 1) := by decide +kernel
theorem dX6_readHead_85 : decode cX6_readHead 85 = .ok (.iconst 0, 1) := by decide +kernel
theorem dX6_readHead_86 : decode cX6_readHead 86 = .ok (.iconst 1, 1) := by decide +kernel
theorem dX6_readHead_87 : decode cX6_readHead 87 = .ok (.invokevirtual 70, 3) := by decide +kernel
theorem dX6_readHead_90 : decode cX6_readHead 90 = .ok (.iastore, 1) := by decide +kernel
theorem dX6_readHead_91 : decode cX6_readHead 91 = .ok (.aload_n 0, 1) := by decide +kernel
theorem dX6_readHead_92 : decode cX6_readHead 92 = .ok (.getfield 20, 3) := by decide +kernel
theorem dX6_readHead_95 : decode cX6_readHead 95 = .ok (.bipush 74, 2) := by decide +kernel
theorem dX6_readHead_97 : decode cX6_readHead 97 = .ok (.aload_n 0, 1) := by decide +kernel
theorem dX6_readHead_98 : decode cX6_readHead 98 = .ok (.getfield 20, 3) := by decide +kernel
theorem dX6_readHead_101 : decode cX6_readHead 101 = .ok (.bipush 73, 2) := by decide +kernel
theorem dX6_readHead_103 : decode cX6_readHead 103 = .ok (.iaload, 1) := by decide +kernel
theorem dX6_readHead_104 : decode cX6_readHead 104 = .ok (.bipush (-9), 2) := by decide +kernel
theorem dX6_readHead_106 : decode cX6_readHead 106 = .ok (.if_icmp .ne 8, 3) := by decide +kernel
theorem dX6_readHead_109 : decode cX6_readHead 109 = .ok (.bipush (-9), 2) := by decide +kernel
theorem dX6_readHead_111 : decode cX6_readHead 111 = .ok (.goto 10, 3) := by decide +kernel
theorem dX6_readHead_114 : decode cX6_readHead 114 = .ok (.aload_n 0, 1) := by decide +kernel
theorem dX6_readHead_115 : decode cX6_readHead 115 = .ok (.iconst 0, 1) := by decide +kernel
theorem dX6_readHead_116 : decode cX6_readHead 116 = .ok (.bipush 9, 2) := by decide +kernel
theorem dX6_readHead_118 : decode cX6_readHead 118 = .ok (.invokevirtual 70, 3) := by decide +kernel
theorem dX6_readHead_121 : decode cX6_readHead 121 = .ok (.iastore, 1) := by decide +kernel
theorem dX6_readHead_122 : decode cX6_readHead 122 = .ok (.aload_n 0, 1) := by decide +kernel
theorem dX6_readHead_123 : decode cX6_readHead 123 = .ok (.getfield 20, 3) := by decide +kernel
theorem dX6_readHead_126 : decode cX6_readHead 126 = .ok (.bipush 74, 2) := by decide +kernel
theorem dX6_readHead_128 : decode cX6_readHead 128 = .ok (.iaload, 1) := by decide +kernel
theorem dX6_readHead_129 : decode cX6_readHead 129 = .ok (.bipush (-9), 2) := by decide +kernel
theorem dX6_readHead_131 : decode cX6_readHead 131 = .ok (.if_icmp .eq 7, 3) := by decide +kernel
theorem dX6_readHead_134 : decode cX6_readHead 134 = .ok (.iconst 1, 1) := by decide +kernel
theorem dX6_readHead_135 : decode cX6_readHead 135 = .ok (.goto 4, 3) := by decide +kernel
theorem dX6_readHead_138 : decode cX6_readHead 138 = .ok (.iconst 0, 1) := by decide +kernel
theorem dX6_readHead_139 : decode cX6_readHead 139 = .ok (.ireturn, 1) := by decide +kernel
theorem dX6_isFree_0 : decode cX6_isFree 0 = .ok (.iload_n 1, 1) := by decide +kernel
theorem dX6_isFree_1 : decode cX6_isFree 1 = .ok (.i2l, 1) := by decide +kernel
theorem dX6_isFree_2 : decode cX6_isFree 2 = .ok (.lconst 0, 1) := by decide +kernel
theorem dX6_isFree_3 : decode cX6_isFree 3 = .ok (.aload_n 0, 1) := by decide +kernel
theorem dX6_isFree_4 : decode cX6_isFree 4 = .ok (.getfield 74, 3) := by decide +kernel
theorem dX6_isFree_7 : decode cX6_isFree 7 = .ok (.aload_n 0, 1) := by decide +kernel
theorem dX6_isFree_8 : decode cX6_isFree 8 = .ok (.getfield 77, 3) := by decide +kernel
theorem dX6_isFree_11 : decode cX6_isFree 11 = .ok (.iadd, 1) := by decide +kernel
theorem dX6_isFree_12 : decode cX6_isFree 12 = .ok (.iconst 1, 1) := by decide +kernel
theorem dX6_isFree_13 : decode cX6_isFree 13 = .ok (.isub, 1) := by decide +kernel
theorem dX6_isFree_14 : decode cX6_isFree 14 = .ok (.i2l, 1) := by decide +kernel
theorem dX6_isFree_15 : decode cX6_isFree 15 = .ok (.invokestatic 58, 3) := by decide +kernel
theorem dX6_isFree_18 : decode cX6_isFree 18 = .ok (.ifCond .eq 21, 3) := by decide +kernel
theorem dX6_isFree_21 : decode cX6_isFree 21 = .ok (.aload_n 0, 1) := by decide +kernel
theorem dX6_isFree_22 : decode cX6_isFree 22 = .ok (.getfield 20, 3) := by decide +kernel
theorem dX6_isFree_25 : decode cX6_isFree 25 = .ok (.bipush 6, 2) := by decide +kernel
theorem dX6_isFree_27 : decode cX6_isFree 27 = .ok (.iload_n 1, 1) := by decide +kernel
theorem dX6_isFree_28 : decode cX6_isFree 28 = .ok (.imul, 1) := by decide +kernel
theorem dX6_isFree_29 : decode cX6_isFree 29 = .ok (.iconst 0, 1) := by decide +kernel
theorem dX6_isFree_30 : decode cX6_isFree 30 = .ok (.iadd, 1) := by decide +kernel
theorem dX6_isFree_31 : decode cX6_isFree 31 = .ok (.iaload, 1) := by decide +kernel
theorem dX6_isFree_32 : decode cX6_isFree 32 = .ok (.ifCond .ne 7, 3) := by decide +kernel
theorem dX6_isFree_35 : decode cX6_isFree 35 = .ok (.iconst 1, 1) := by decide +kernel
theorem dX6_isFree_36 : decode cX6_isFree 36 = .ok (.goto 4, 3) := by decide +kernel
theorem dX6_isFree_39 : decode cX6_isFree 39 = .ok (.iconst 0, 1) := by decide +kernel
theorem dX6_isFree_40 : decode cX6_isFree 40 = .ok (.ireturn, 1) := by decide +kernel
theorem dX6_readCarton_0 : decode cX6_readCarton 0 = .ok (.aload_n 0, 1) := by decide +kernel
theorem dX6_readCarton_1 : decode cX6_readCarton 1 = .ok (.getfield 7, 3) := by decide +kernel
theorem dX6_readCarton_4 : decode cX6_readCarton 4 = .ok (.aload_n 0, 1) := by decide +kernel
theorem dX6_readCarton_5 : decode cX6_readCarton 5 = .ok (.getfield 67, 3) := by decide +kernel
theorem dX6_readCarton_8 : decode cX6_readCarton 8 = .ok (.iaload, 1) := by decide +kernel
theorem dX6_readCarton_9 : decode cX6_readCarton 9 = .ok (.bipush 99, 2) := by decide +kernel
theorem dX6_readCarton_11 : decode cX6_readCarton 11 = .ok (.if_icmp .ne 22, 3) := by decide +kernel
theorem dX6_readCarton_14 : decode cX6_readCarton 14 = .ok (.aload_n 0, 1) := by decide +kernel
theorem dX6_readCarton_15 : decode cX6_readCarton 15 = .ok (.getfield 20, 3) := by decide +kernel
theorem dX6_readCarton_18 : decode cX6_readCarton 18 = .ok (.bipush 76, 2) := by decide +kernel
theorem dX6_readCarton_20 : decode cX6_readCarton 20 = .ok (.iaload, 1) := by decide +kernel
theorem dX6_readCarton_21 : decode cX6_readCarton 21 = .ok (.aload_n 0, 1) := by decide +kernel
theorem dX6_readCarton_22 : decode cX6_readCarton 22 = .ok (.getfield 74, 3) := by decide +kernel
theorem dX6_readCarton_25 : decode cX6_readCarton 25 = .ok (.aload_n 0, 1) := by decide +kernel
theorem dX6_readCarton_26 : decode cX6_readCarton 26 = .ok (.getfield 77, 3) := by decide +kernel
theorem dX6_readCarton_29 : decode cX6_readCarton 29 = .ok (.iadd, 1) := by decide +kernel
theorem dX6_readCarton_30 : decode cX6_readCarton 30 = .ok (.if_icmp .ne 5, 3) := by decide +kernel
theorem dX6_readCarton_33 : decode cX6_readCarton 33 = .ok (.iconst 0, 1) := by decide +kernel
theorem dX6_readCarton_34 : decode cX6_readCarton 34 = .ok (.ireturn, 1) := by decide +kernel
theorem dX6_readCarton_35 : decode cX6_readCarton 35 = .ok (.aload_n 0, 1) := by decide +kernel
theorem dX6_readCarton_36 : decode cX6_readCarton 36 = .ok (.dup, 1) := by decide +kernel
theorem dX6_readCarton_37 : decode cX6_readCarton 37 = .ok (.getfield 67, 3) := by decide +kernel
theorem dX6_readCarton_40 : decode cX6_readCarton 40 = .ok (.iconst 1, 1) := by decide +kernel
theorem dX6_readCarton_41 : decode cX6_readCarton 41 = .ok (.iadd, 1) := by decide +kernel
theorem dX6_readCarton_42 : decode cX6_readCarton 42 = .ok (.putfield 67, 3) := by decide +kernel
theorem dX6_readCarton_45 : decode cX6_readCarton 45 = .ok (.aload_n 0, 1) := by decide +kernel
theorem dX6_readCarton_46 : decode cX6_readCarton 46 = .ok (.getfield 67, 3) := by decide +kernel
theorem dX6_readCarton_49 : decode cX6_readCarton 49 = .ok (.aload_n 0, 1) := by decide +kernel
theorem dX6_readCarton_50 : decode cX6_readCarton 50 = .ok (.getfield 64, 3) := by decide +kernel
theorem dX6_readCarton_53 : decode cX6_readCarton 53 = .ok (.if_icmp .ge 18, 3) := by decide +kernel
theorem dX6_readCarton_56 : decode cX6_readCarton 56 = .ok (.aload_n 0, 1) := by decide +kernel
theorem dX6_readCarton_57 : decode cX6_readCarton 57 = .ok (.getfield 7, 3) := by decide +kernel
theorem dX6_readCarton_60 : decode cX6_readCarton 60 = .ok (.aload_n 0, 1) := by decide +kernel
theorem dX6_readCarton_61 : decode cX6_readCarton 61 = .ok (.getfield 67, 3) := by decide +kernel
theorem dX6_readCarton_64 : decode cX6_readCarton 64 = .ok (.iaload, 1) := by decide +kernel
theorem dX6_readCarton_65 : decode cX6_readCarton 65 = .ok (.bipush 48, 2) := by decide +kernel
theorem dX6_readCarton_67 : decode cX6_readCarton 67 = .ok (.isub, 1) := by decide +kernel
theorem dX6_readCarton_68 : decode cX6_readCarton 68 = .ok (.goto 5, 3) := by decide +kernel
theorem dX6_readCarton_71 : decode cX6_readCarton 71 = .ok (.bipush (-9), 2) := by decide +kernel
theorem dX6_readCarton_73 : decode cX6_readCarton 73 = .ok (.istore_n 1, 1) := by decide +kernel
theorem dX6_readCarton_74 : decode cX6_readCarton 74 = .ok (.iconst 0, 1) := by decide +kernel
theorem dX6_readCarton_75 : decode cX6_readCarton 75 = .ok (.istore_n 2, 1) := by decide +kernel
theorem dX6_readCarton_76 : decode cX6_readCarton 76 = .ok (.iconst 0, 1) := by decide +kernel
theorem dX6_readCarton_77 : decode cX6_readCarton 77 = .ok (.istore_n 3, 1) := by decide +kernel
theorem dX6_readCarton_78 : decode cX6_readCarton 78 = .ok (.iload_n 3, 1) := by decide +kernel
theorem dX6_readCarton_79 : decode cX6_readCarton 79 = .ok (.bipush 10, 2) := by decide +kernel
theorem dX6_readCarton_81 : decode cX6_readCarton 81 = .ok (.if_icmp .ge 42, 3) := by decide +kernel
theorem dX6_readCarton_84 : decode cX6_readCarton 84 = .ok (.iload_n 2, 1) := by decide +kernel
theorem dX6_readCarton_85 : decode cX6_readCarton 85 = .ok (.ifCond .ne 26, 3) := by decide +kernel
theorem dX6_readCarton_88 : decode cX6_readCarton 88 = .ok (.iload_n 1, 1) := by decide +kernel
theorem dX6_readCarton_89 : decode cX6_readCarton 89 = .ok (.i2l, 1) := by decide +kernel
theorem dX6_readCarton_90 : decode cX6_readCarton 90 = .ok (.lconst 0, 1) := by decide +kernel
theorem dX6_readCarton_91 : decode cX6_readCarton 91 = .ok (.lconst 1, 1) := by decide +kernel
theorem dX6_readCarton_92 : decode cX6_readCarton 92 = .ok (.invokestatic 58, 3) := by decide +kernel
theorem dX6_readCarton_95 : decode cX6_readCarton 95 = .ok (.ifCond .eq 20, 3) := by decide +kernel
theorem dX6_readCarton_98 : decode cX6_readCarton 98 = .ok (.aload_n 0, 1) := by decide +kernel
theorem dX6_readCarton_99 : decode cX6_readCarton 99 = .ok (.bipush 10, 2) := by decide +kernel
theorem dX6_readCarton_101 : decode cX6_readCarton 101 = .ok (.iload_n 1, 1) := by decide +kernel
theorem dX6_readCarton_102 : decode cX6_readCarton 102 = .ok (.imul, 1) := by decide +kernel
theorem dX6_readCarton_103 : decode cX6_readCarton 103 = .ok (.iload_n 3, 1) := by decide +kernel
theorem dX6_readCarton_104 : decode cX6_readCarton 104 = .ok (.iadd, 1) := by decide +kernel
theorem dX6_readCarton_105 : decode cX6_readCarton 105 = .ok (.invokevirtual 83, 3) := by decide +kernel
theorem dX6_readCarton_108 : decode cX6_readCarton 108 = .ok (.ifCond .eq 7, 3) := by decide +kernel
theorem dX6_readCarton_111 : decode cX6_readCarton 111 = .ok (.iconst 1, 1) := by decide +kernel
theorem dX6_readCarton_112 : decode cX6_readCarton 112 = .ok (.goto 4, 3) := by decide +kernel
theorem dX6_readCarton_115 : decode cX6_readCarton 115 = .ok (.iconst 0, 1) := by decide +kernel
theorem dX6_readCarton_116 : decode cX6_readCarton 116 = .ok (.istore_n 2, 1) := by decide +kernel
theorem dX6_readCarton_117 : decode cX6_readCarton 117 = .ok (.iinc 3 1, 3) := by decide +kernel
theorem dX6_readCarton_120 : decode cX6_readCarton 120 = .ok (.goto (-42), 3) := by decide +kernel
theorem dX6_readCarton_123 : decode cX6_readCarton 123 = .ok (.iload_n 2, 1) := by decide +kernel
theorem dX6_readCarton_124 : decode cX6_readCarton 124 = .ok (.ifCond .ne 5, 3) := by decide +kernel
theorem dX6_readCarton_127 : decode cX6_readCarton 127 = .ok (.iconst 0, 1) := by decide +kernel
theorem dX6_readCarton_128 : decode cX6_readCarton 128 = .ok (.ireturn, 1) := by decide +kernel
theorem dX6_readCarton_129 : decode cX6_readCarton 129 = .ok (.aload_n 0, 1) := by decide +kernel
theorem dX6_readCarton_130 : decode cX6_readCarton 130 = .ok (.dup, 1) := by decide +kernel
theorem dX6_readCarton_131 : decode cX6_readCarton 131 = .ok (.getfield 67, 3) := by decide +kernel
theorem dX6_readCarton_134 : decode cX6_readCarton 134 = .ok (.iconst 1, 1) := by decide +kernel
theorem dX6_readCarton_135 : decode cX6_readCarton 135 = .ok (.iadd, 1) := by decide +kernel
theorem dX6_readCarton_136 : decode cX6_readCarton 136 = .ok (.putfield 67, 3) := by decide +kernel
theorem dX6_readCarton_139 : decode cX6_readCarton 139 = .ok (.aload_n 0, 1) := by decide +kernel
theorem dX6_readCarton_140 : decode cX6_readCarton 140 = .ok (.getfield 67, 3) := by decide +kernel
theorem dX6_readCarton_143 : decode cX6_readCarton 143 = .ok (.aload_n 0, 1) := by decide +kernel
theorem dX6_readCarton_144 : decode cX6_readCarton 144 = .ok (.getfield 64, 3) := by decide +kernel
theorem dX6_readCarton_147 : decode cX6_readCarton 147 = .ok (.if_icmp .ge 18, 3) := by decide +kernel
theorem dX6_readCarton_150 : decode cX6_readCarton 150 = .ok (.aload_n 0, 1) := by decide +kernel
theorem dX6_readCarton_151 : decode cX6_readCarton 151 = .ok (.getfield 7, 3) := by decide +kernel
theorem dX6_readCarton_154 : decode cX6_readCarton 154 = .ok (.aload_n 0, 1) := by decide +kernel
theorem dX6_readCarton_155 : decode cX6_readCarton 155 = .ok (.getfield 67, 3) := by decide +kernel
theorem dX6_readCarton_158 : decode cX6_readCarton 158 = .ok (.iaload, 1) := by decide +kernel
theorem dX6_readCarton_159 : decode cX6_readCarton 159 = .ok (.bipush 48, 2) := by decide +kernel
theorem dX6_readCarton_161 : decode cX6_readCarton 161 = .ok (.isub, 1) := by decide +kernel
theorem dX6_readCarton_162 : decode cX6_readCarton 162 = .ok (.goto 5, 3) := by decide +kernel
theorem dX6_readCarton_165 : decode cX6_readCarton 165 = .ok (.bipush (-9), 2) := by decide +kernel
