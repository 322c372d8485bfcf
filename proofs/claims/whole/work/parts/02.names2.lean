theorem dX0_init_0 : decode cX0_init 0 = .ok (.aload_n 0, 1) := by decide +kernel
theorem dX0_init_1 : decode cX0_init 1 = .ok (.invokespecial 3, 3) := by decide +kernel
theorem dX0_init_4 : decode cX0_init 4 = .ok (.aload_n 0, 1) := by decide +kernel
theorem dX0_init_5 : decode cX0_init 5 = .ok (.new 9, 3) := by decide +kernel
theorem dX0_init_8 : decode cX0_init 8 = .ok (.dup, 1) := by decide +kernel
theorem dX0_init_9 : decode cX0_init 9 = .ok (.bipush 14, 2) := by decide +kernel
theorem dX0_init_11 : decode cX0_init 11 = .ok (.invokespecial 11, 3) := by decide +kernel
theorem dX0_init_14 : decode cX0_init 14 = .ok (.putfield 14, 3) := by decide +kernel
theorem dX0_init_17 : decode cX0_init 17 = .ok (.aload_n 0, 1) := by decide +kernel
theorem dX0_init_18 : decode cX0_init 18 = .ok (.iconst 0, 1) := by decide +kernel
theorem dX0_init_19 : decode cX0_init 19 = .ok (.putfield 20, 3) := by decide +kernel
theorem dX0_init_22 : decode cX0_init 22 = .ok (.aload_n 0, 1) := by decide +kernel
theorem dX0_init_23 : decode cX0_init 23 = .ok (.iconst 0, 1) := by decide +kernel
theorem dX0_init_24 : decode cX0_init 24 = .ok (.putfield 24, 3) := by decide +kernel
theorem dX0_init_27 : decode cX0_init 27 = .ok (.return_, 1) := by decide +kernel
theorem dX0_remember_0 : decode cX0_remember 0 = .ok (.aload_n 0, 1) := by decide +kernel
theorem dX0_remember_1 : decode cX0_remember 1 = .ok (.getfield 14, 3) := by decide +kernel
theorem dX0_remember_4 : decode cX0_remember 4 = .ok (.aload_n 0, 1) := by decide +kernel
theorem dX0_remember_5 : decode cX0_remember 5 = .ok (.getfield 20, 3) := by decide +kernel
theorem dX0_remember_8 : decode cX0_remember 8 = .ok (.aload_n 1, 1) := by decide +kernel
theorem dX0_remember_9 : decode cX0_remember 9 = .ok (.invokevirtual 27, 3) := by decide +kernel
theorem dX0_remember_12 : decode cX0_remember 12 = .ok (.aload_n 0, 1) := by decide +kernel
theorem dX0_remember_13 : decode cX0_remember 13 = .ok (.aload_n 0, 1) := by decide +kernel
theorem dX0_remember_14 : decode cX0_remember 14 = .ok (.getfield 20, 3) := by decide +kernel
theorem dX0_remember_17 : decode cX0_remember 17 = .ok (.iconst 1, 1) := by decide +kernel
theorem dX0_remember_18 : decode cX0_remember 18 = .ok (.iadd, 1) := by decide +kernel
theorem dX0_remember_19 : decode cX0_remember 19 = .ok (.bipush 14, 2) := by decide +kernel
theorem dX0_remember_21 : decode cX0_remember 21 = .ok (.irem, 1) := by decide +kernel
theorem dX0_remember_22 : decode cX0_remember 22 = .ok (.putfield 20, 3) := by decide +kernel
theorem dX0_remember_25 : decode cX0_remember 25 = .ok (.aload_n 0, 1) := by decide +kernel
theorem dX0_remember_26 : decode cX0_remember 26 = .ok (.aload_n 0, 1) := by decide +kernel
theorem dX0_remember_27 : decode cX0_remember 27 = .ok (.getfield 24, 3) := by decide +kernel
theorem dX0_remember_30 : decode cX0_remember 30 = .ok (.iconst 1, 1) := by decide +kernel
theorem dX0_remember_31 : decode cX0_remember 31 = .ok (.iadd, 1) := by decide +kernel
theorem dX0_remember_32 : decode cX0_remember 32 = .ok (.bipush 14, 2) := by decide +kernel
theorem dX0_remember_34 : decode cX0_remember 34 = .ok (.invokestatic 31, 3) := by decide +kernel
theorem dX0_remember_37 : decode cX0_remember 37 = .ok (.putfield 24, 3) := by decide +kernel
theorem dX0_remember_40 : decode cX0_remember 40 = .ok (.return_, 1) := by decide +kernel
theorem dX0_takeBack_0 : decode cX0_takeBack 0 = .ok (.aload_n 0, 1) := by decide +kernel
theorem dX0_takeBack_1 : decode cX0_takeBack 1 = .ok (.getfield 24, 3) := by decide +kernel
theorem dX0_takeBack_4 : decode cX0_takeBack 4 = .ok (.ifCond .ne 5, 3) := by decide +kernel
theorem dX0_takeBack_7 : decode cX0_takeBack 7 = .ok (.iconst 0, 1) := by decide +kernel
theorem dX0_takeBack_8 : decode cX0_takeBack 8 = .ok (.ireturn, 1) := by decide +kernel
theorem dX0_takeBack_9 : decode cX0_takeBack 9 = .ok (.aload_n 0, 1) := by decide +kernel
theorem dX0_takeBack_10 : decode cX0_takeBack 10 = .ok (.aload_n 0, 1) := by decide +kernel
theorem dX0_takeBack_11 : decode cX0_takeBack 11 = .ok (.getfield 20, 3) := by decide +kernel
theorem dX0_takeBack_14 : decode cX0_takeBack 14 = .ok (.bipush 14, 2) := by decide +kernel
theorem dX0_takeBack_16 : decode cX0_takeBack 16 = .ok (.iadd, 1) := by decide +kernel
theorem dX0_takeBack_17 : decode cX0_takeBack 17 = .ok (.iconst 1, 1) := by decide +kernel
theorem dX0_takeBack_18 : decode cX0_takeBack 18 = .ok (.isub, 1) := by decide +kernel
theorem dX0_takeBack_19 : decode cX0_takeBack 19 = .ok (.bipush 14, 2) := by decide +kernel
theorem dX0_takeBack_21 : decode cX0_takeBack 21 = .ok (.irem, 1) := by decide +kernel
theorem dX0_takeBack_22 : decode cX0_takeBack 22 = .ok (.putfield 20, 3) := by decide +kernel
theorem dX0_takeBack_25 : decode cX0_takeBack 25 = .ok (.aload_n 0, 1) := by decide +kernel
theorem dX0_takeBack_26 : decode cX0_takeBack 26 = .ok (.dup, 1) := by decide +kernel
theorem dX0_takeBack_27 : decode cX0_takeBack 27 = .ok (.getfield 24, 3) := by decide +kernel
theorem dX0_takeBack_30 : decode cX0_takeBack 30 = .ok (.iconst 1, 1) := by decide +kernel
theorem dX0_takeBack_31 : decode cX0_takeBack 31 = .ok (.isub, 1) := by decide +kernel
theorem dX0_takeBack_32 : decode cX0_takeBack 32 = .ok (.putfield 24, 3) := by decide +kernel
theorem dX0_takeBack_35 : decode cX0_takeBack 35 = .ok (.aload_n 0, 1) := by decide +kernel
theorem dX0_takeBack_36 : decode cX0_takeBack 36 = .ok (.getfield 14, 3) := by decide +kernel
theorem dX0_takeBack_39 : decode cX0_takeBack 39 = .ok (.aload_n 0, 1) := by decide +kernel
theorem dX0_takeBack_40 : decode cX0_takeBack 40 = .ok (.getfield 20, 3) := by decide +kernel
theorem dX0_takeBack_43 : decode cX0_takeBack 43 = .ok (.aload_n 1, 1) := by decide +kernel
theorem dX0_takeBack_44 : decode cX0_takeBack 44 = .ok (.invokevirtual 37, 3) := by decide +kernel
theorem dX0_takeBack_47 : decode cX0_takeBack 47 = .ok (.iconst 1, 1) := by decide +kernel
theorem dX0_takeBack_48 : decode cX0_takeBack 48 = .ok (.ireturn, 1) := by decide +kernel
theorem dX0_forgetAll_0 : decode cX0_forgetAll 0 = .ok (.aload_n 0, 1) := by decide +kernel
theorem dX0_forgetAll_1 : decode cX0_forgetAll 1 = .ok (.iconst 0, 1) := by decide +kernel
theorem dX0_forgetAll_2 : decode cX0_forgetAll 2 = .ok (.putfield 24, 3) := by decide +kernel
theorem dX0_forgetAll_5 : decode cX0_forgetAll 5 = .ok (.return_, 1) := by decide +kernel
theorem dX1_init_0 : decode cX1_init 0 = .ok (.aload_n 0, 1) := by decide +kernel
theorem dX1_init_1 : decode cX1_init 1 = .ok (.invokespecial 3, 3) := by decide +kernel
theorem dX1_init_4 : decode cX1_init 4 = .ok (.aload_n 0, 1) := by decide +kernel
theorem dX1_init_5 : decode cX1_init 5 = .ok (.iconst 2, 1) := by decide +kernel
theorem dX1_init_6 : decode cX1_init 6 = .ok (.putfield 9, 3) := by decide +kernel
theorem dX1_init_9 : decode cX1_init 9 = .ok (.aload_n 0, 1) := by decide +kernel
theorem dX1_init_10 : decode cX1_init 10 = .ok (.iconst 0, 1) := by decide +kernel
theorem dX1_init_11 : decode cX1_init 11 = .ok (.putfield 15, 3) := by decide +kernel
theorem dX1_init_14 : decode cX1_init 14 = .ok (.aload_n 0, 1) := by decide +kernel
theorem dX1_init_15 : decode cX1_init 15 = .ok (.iconst 2, 1) := by decide +kernel
theorem dX1_init_16 : decode cX1_init 16 = .ok (.putfield 18, 3) := by decide +kernel
theorem dX1_init_19 : decode cX1_init 19 = .ok (.aload_n 0, 1) := by decide +kernel
theorem dX1_init_20 : decode cX1_init 20 = .ok (.iconst 1, 1) := by decide +kernel
theorem dX1_init_21 : decode cX1_init 21 = .ok (.putfield 21, 3) := by decide +kernel
theorem dX1_init_24 : decode cX1_init 24 = .ok (.aload_n 0, 1) := by decide +kernel
theorem dX1_init_25 : decode cX1_init 25 = .ok (.bipush 57, 2) := by decide +kernel
theorem dX1_init_27 : decode cX1_init 27 = .ok (.newarray .int, 2) := by decide +kernel
theorem dX1_init_29 : decode cX1_init 29 = .ok (.putfield 24, 3) := by decide +kernel
theorem dX1_init_32 : decode cX1_init 32 = .ok (.aload_n 0, 1) := by decide +kernel
theorem dX1_init_33 : decode cX1_init 33 = .ok (.getfield 24, 3) := by decide +kernel
theorem dX1_init_36 : decode cX1_init 36 = .ok (.bipush 50, 2) := by decide +kernel
theorem dX1_init_38 : decode cX1_init 38 = .ok (.iconst 1, 1) := by decide +kernel
theorem dX1_init_39 : decode cX1_init 39 = .ok (.iastore, 1) := by decide +kernel
theorem dX1_init_40 : decode cX1_init 40 = .ok (.aload_n 0, 1) := by decide +kernel
theorem dX1_init_41 : decode cX1_init 41 = .ok (.iconst 0, 1) := by decide +kernel
theorem dX1_init_42 : decode cX1_init 42 = .ok (.putfield 28, 3) := by decide +kernel
theorem dX1_init_45 : decode cX1_init 45 = .ok (.return_, 1) := by decide +kernel
theorem dX1_in_0 : decode cX1_in 0 = .ok (.iload_n 0, 1) := by decide +kernel
theorem dX1_in_1 : decode cX1_in 1 = .ok (.iload_n 1, 1) := by decide +kernel
theorem dX1_in_2 : decode cX1_in 2 = .ok (.ishr, 1) := by decide +kernel
theorem dX1_in_3 : decode cX1_in 3 = .ok (.iconst 1, 1) := by decide +kernel
theorem dX1_in_4 : decode cX1_in 4 = .ok (.iand, 1) := by decide +kernel
theorem dX1_in_5 : decode cX1_in 5 = .ok (.iconst 1, 1) := by decide +kernel
theorem dX1_in_6 : decode cX1_in 6 = .ok (.if_icmp .ne 7, 3) := by decide +kernel
theorem dX1_in_9 : decode cX1_in 9 = .ok (.iconst 1, 1) := by decide +kernel
theorem dX1_in_10 : decode cX1_in 10 = .ok (.goto 4, 3) := by decide +kernel
theorem dX1_in_13 : decode cX1_in 13 = .ok (.iconst 0, 1) := by decide +kernel
theorem dX1_in_14 : decode cX1_in 14 = .ok (.ireturn, 1) := by decide +kernel
theorem dX1_isEye_0 : decode cX1_isEye 0 = .ok (.iload_n 0, 1) := by decide +kernel
theorem dX1_isEye_1 : decode cX1_isEye 1 = .ok (.ifCond .lt 12, 3) := by decide +kernel
theorem dX1_isEye_4 : decode cX1_isEye 4 = .ok (.iload_n 0, 1) := by decide +kernel
theorem dX1_isEye_5 : decode cX1_isEye 5 = .ok (.iconst 2, 1) := by decide +kernel
theorem dX1_isEye_6 : decode cX1_isEye 6 = .ok (.if_icmp .gt 7, 3) := by decide +kernel
theorem dX1_isEye_9 : decode cX1_isEye 9 = .ok (.iconst 1, 1) := by decide +kernel
theorem dX1_isEye_10 : decode cX1_isEye 10 = .ok (.goto 4, 3) := by decide +kernel
theorem dX1_isEye_13 : decode cX1_isEye 13 = .ok (.iconst 0, 1) := by decide +kernel
theorem dX1_isEye_14 : decode cX1_isEye 14 = .ok (.ireturn, 1) := by decide +kernel
theorem dX1_begin_0 : decode cX1_begin 0 = .ok (.aload_n 0, 1) := by decide +kernel
theorem dX1_begin_1 : decode cX1_begin 1 = .ok (.iload_n 1, 1) := by decide +kernel
theorem dX1_begin_2 : decode cX1_begin 2 = .ok (.putfield 9, 3) := by decide +kernel
theorem dX1_begin_5 : decode cX1_begin 5 = .ok (.aload_n 0, 1) := by decide +kernel
theorem dX1_begin_6 : decode cX1_begin 6 = .ok (.iload_n 2, 1) := by decide +kernel
theorem dX1_begin_7 : decode cX1_begin 7 = .ok (.putfield 15, 3) := by decide +kernel
theorem dX1_begin_10 : decode cX1_begin 10 = .ok (.aload_n 0, 1) := by decide +kernel
theorem dX1_begin_11 : decode cX1_begin 11 = .ok (.iload_n 1, 1) := by decide +kernel
theorem dX1_begin_12 : decode cX1_begin 12 = .ok (.iload_n 2, 1) := by decide +kernel
theorem dX1_begin_13 : decode cX1_begin 13 = .ok (.iadd, 1) := by decide +kernel
theorem dX1_begin_14 : decode cX1_begin 14 = .ok (.putfield 18, 3) := by decide +kernel
theorem dX1_begin_17 : decode cX1_begin 17 = .ok (.aload_n 0, 1) := by decide +kernel
theorem dX1_begin_18 : decode cX1_begin 18 = .ok (.iload_n 3, 1) := by decide +kernel
theorem dX1_begin_19 : decode cX1_begin 19 = .ok (.putfield 21, 3) := by decide +kernel
theorem dX1_begin_22 : decode cX1_begin 22 = .ok (.iconst 0, 1) := by decide +kernel
theorem dX1_begin_23 : decode cX1_begin 23 = .ok (.istore 4, 2) := by decide +kernel
theorem dX1_begin_25 : decode cX1_begin 25 = .ok (.iload 4, 2) := by decide +kernel
theorem dX1_begin_27 : decode cX1_begin 27 = .ok (.bipush 57, 2) := by decide +kernel
theorem dX1_begin_29 : decode cX1_begin 29 = .ok (.if_icmp .ge 17, 3) := by decide +kernel
theorem dX1_begin_32 : decode cX1_begin 32 = .ok (.aload_n 0, 1) := by decide +kernel
theorem dX1_begin_33 : decode cX1_begin 33 = .ok (.getfield 24, 3) := by decide +kernel
theorem dX1_begin_36 : decode cX1_begin 36 = .ok (.iload 4, 2) := by decide +kernel
theorem dX1_begin_38 : decode cX1_begin 38 = .ok (.iconst 0, 1) := by decide +kernel
theorem dX1_begin_39 : decode cX1_begin 39 = .ok (.iastore, 1) := by decide +kernel
theorem dX1_begin_40 : decode cX1_begin 40 = .ok (.iinc 4 1, 3) := by decide +kernel
theorem dX1_begin_43 : decode cX1_begin 43 = .ok (.goto (-18), 3) := by decide +kernel
theorem dX1_begin_46 : decode cX1_begin 46 = .ok (.aload_n 0, 1) := by decide +kernel
theorem dX1_begin_47 : decode cX1_begin 47 = .ok (.getfield 24, 3) := by decide +kernel
theorem dX1_begin_50 : decode cX1_begin 50 = .ok (.bipush 50, 2) := by decide +kernel
theorem dX1_begin_52 : decode cX1_begin 52 = .ok (.iconst 1, 1) := by decide +kernel
theorem dX1_begin_53 : decode cX1_begin 53 = .ok (.iastore, 1) := by decide +kernel
theorem dX1_begin_54 : decode cX1_begin 54 = .ok (.return_, 1) := by decide +kernel
theorem dX1_copy_0 : decode cX1_copy 0 = .ok (.aload_n 0, 1) := by decide +kernel
theorem dX1_copy_1 : decode cX1_copy 1 = .ok (.aload_n 1, 1) := by decide +kernel
theorem dX1_copy_2 : decode cX1_copy 2 = .ok (.getfield 9, 3) := by decide +kernel
theorem dX1_copy_5 : decode cX1_copy 5 = .ok (.putfield 9, 3) := by decide +kernel
theorem dX1_copy_8 : decode cX1_copy 8 = .ok (.aload_n 0, 1) := by decide +kernel
theorem dX1_copy_9 : decode cX1_copy 9 = .ok (.aload_n 1, 1) := by decide +kernel
theorem dX1_copy_10 : decode cX1_copy 10 = .ok (.getfield 15, 3) := by decide +kernel
theorem dX1_copy_13 : decode cX1_copy 13 = .ok (.putfield 15, 3) := by decide +kernel
theorem dX1_copy_16 : decode cX1_copy 16 = .ok (.aload_n 0, 1) := by decide +kernel
theorem dX1_copy_17 : decode cX1_copy 17 = .ok (.aload_n 1, 1) := by decide +kernel
theorem dX1_copy_18 : decode cX1_copy 18 = .ok (.getfield 18, 3) := by decide +kernel
theorem dX1_copy_21 : decode cX1_copy 21 = .ok (.putfield 18, 3) := by decide +kernel
theorem dX1_copy_24 : decode cX1_copy 24 = .ok (.aload_n 0, 1) := by decide +kernel
theorem dX1_copy_25 : decode cX1_copy 25 = .ok (.aload_n 1, 1) := by decide +kernel
theorem dX1_copy_26 : decode cX1_copy 26 = .ok (.getfield 21, 3) := by decide +kernel
theorem dX1_copy_29 : decode cX1_copy 29 = .ok (.putfield 21, 3) := by decide +kernel
theorem dX1_copy_32 : decode cX1_copy 32 = .ok (.aload_n 1, 1) := by decide +kernel
theorem dX1_copy_33 : decode cX1_copy 33 = .ok (.getfield 24, 3) := by decide +kernel
theorem dX1_copy_36 : decode cX1_copy 36 = .ok (.iconst 0, 1) := by decide +kernel
theorem dX1_copy_37 : decode cX1_copy 37 = .ok (.aload_n 0, 1) := by decide +kernel
theorem dX1_copy_38 : decode cX1_copy 38 = .ok (.getfield 24, 3) := by decide +kernel
theorem dX1_copy_41 : decode cX1_copy 41 = .ok (.iconst 0, 1) := by decide +kernel
theorem dX1_copy_42 : decode cX1_copy 42 = .ok (.bipush 57, 2) := by decide +kernel
theorem dX1_copy_44 : decode cX1_copy 44 = .ok (.invokestatic 31, 3) := by decide +kernel
theorem dX1_copy_47 : decode cX1_copy 47 = .ok (.return_, 1) := by decide +kernel
theorem dX1_hasZone_0 : decode cX1_hasZone 0 = .ok (.iload_n 1, 1) := by decide +kernel
theorem dX1_hasZone_1 : decode cX1_hasZone 1 = .ok (.ifCond .lt 21, 3) := by decide +kernel
theorem dX1_hasZone_4 : decode cX1_hasZone 4 = .ok (.iload_n 1, 1) := by decide +kernel
theorem dX1_hasZone_5 : decode cX1_hasZone 5 = .ok (.aload_n 0, 1) := by decide +kernel
theorem dX1_hasZone_6 : decode cX1_hasZone 6 = .ok (.getfield 18, 3) := by decide +kernel
theorem dX1_hasZone_9 : decode cX1_hasZone 9 = .ok (.if_icmp .ge 13, 3) := by decide +kernel
theorem dX1_hasZone_12 : decode cX1_hasZone 12 = .ok (.iload_n 1, 1) := by decide +kernel
theorem dX1_hasZone_13 : decode cX1_hasZone 13 = .ok (.bipush 12, 2) := by decide +kernel
theorem dX1_hasZone_15 : decode cX1_hasZone 15 = .ok (.if_icmp .ge 7, 3) := by decide +kernel
theorem dX1_hasZone_18 : decode cX1_hasZone 18 = .ok (.iconst 1, 1) := by decide +kernel
theorem dX1_hasZone_19 : decode cX1_hasZone 19 = .ok (.goto 4, 3) := by decide +kernel
theorem dX1_hasZone_22 : decode cX1_hasZone 22 = .ok (.iconst 0, 1) := by decide +kernel
theorem dX1_hasZone_23 : decode cX1_hasZone 23 = .ok (.ireturn, 1) := by decide +kernel
theorem dX1_hasLine_0 : decode cX1_hasLine 0 = .ok (.iload_n 1, 1) := by decide +kernel
theorem dX1_hasLine_1 : decode cX1_hasLine 1 = .ok (.ifCond .eq 15, 3) := by decide +kernel
theorem dX1_hasLine_4 : decode cX1_hasLine 4 = .ok (.iload_n 1, 1) := by decide +kernel
theorem dX1_hasLine_5 : decode cX1_hasLine 5 = .ok (.iconst 1, 1) := by decide +kernel
theorem dX1_hasLine_6 : decode cX1_hasLine 6 = .ok (.if_icmp .ne 14, 3) := by decide +kernel
theorem dX1_hasLine_9 : decode cX1_hasLine 9 = .ok (.aload_n 0, 1) := by decide +kernel
theorem dX1_hasLine_10 : decode cX1_hasLine 10 = .ok (.getfield 15, 3) := by decide +kernel
theorem dX1_hasLine_13 : decode cX1_hasLine 13 = .ok (.ifCond .le 7, 3) := by decide +kernel
theorem dX1_hasLine_16 : decode cX1_hasLine 16 = .ok (.iconst 1, 1) := by decide +kernel
theorem dX1_hasLine_17 : decode cX1_hasLine 17 = .ok (.goto 4, 3) := by decide +kernel
theorem dX1_hasLine_20 : decode cX1_hasLine 20 = .ok (.iconst 0, 1) := by decide +kernel
theorem dX1_hasLine_21 : decode cX1_hasLine 21 = .ok (.ireturn, 1) := by decide +kernel
theorem dX1_entryOf_0 : decode cX1_entryOf 0 = .ok (.iload_n 1, 1) := by decide +kernel
theorem dX1_entryOf_1 : decode cX1_entryOf 1 = .ok (.ifCond .ne 7, 3) := by decide +kernel
theorem dX1_entryOf_4 : decode cX1_entryOf 4 = .ok (.iconst 0, 1) := by decide +kernel
theorem dX1_entryOf_5 : decode cX1_entryOf 5 = .ok (.goto 7, 3) := by decide +kernel
theorem dX1_entryOf_8 : decode cX1_entryOf 8 = .ok (.aload_n 0, 1) := by decide +kernel
theorem dX1_entryOf_9 : decode cX1_entryOf 9 = .ok (.getfield 9, 3) := by decide +kernel
theorem dX1_entryOf_12 : decode cX1_entryOf 12 = .ok (.ireturn, 1) := by decide +kernel
theorem dX1_hasCarton_0 : decode cX1_hasCarton 0 = .ok (.aload_n 0, 1) := by decide +kernel
theorem dX1_hasCarton_1 : decode cX1_hasCarton 1 = .ok (.getfield 24, 3) := by decide +kernel
theorem dX1_hasCarton_4 : decode cX1_hasCarton 4 = .ok (.iconst 0, 1) := by decide +kernel
theorem dX1_hasCarton_5 : decode cX1_hasCarton 5 = .ok (.iload_n 1, 1) := by decide +kernel
theorem dX1_hasCarton_6 : decode cX1_hasCarton 6 = .ok (.iadd, 1) := by decide +kernel
theorem dX1_hasCarton_7 : decode cX1_hasCarton 7 = .ok (.iaload, 1) := by decide +kernel
theorem dX1_hasCarton_8 : decode cX1_hasCarton 8 = .ok (.ifCond .eq 7, 3) := by decide +kernel
theorem dX1_hasCarton_11 : decode cX1_hasCarton 11 = .ok (.iconst 1, 1) := by decide +kernel
theorem dX1_hasCarton_12 : decode cX1_hasCarton 12 = .ok (.goto 4, 3) := by decide +kernel
theorem dX1_hasCarton_15 : decode cX1_hasCarton 15 = .ok (.iconst 0, 1) := by decide +kernel
theorem dX1_hasCarton_16 : decode cX1_hasCarton 16 = .ok (.ireturn, 1) := by decide +kernel
theorem dX1_isJammed_0 : decode cX1_isJammed 0 = .ok (.aload_n 0, 1) := by decide +kernel
theorem dX1_isJammed_1 : decode cX1_isJammed 1 = .ok (.getfield 24, 3) := by decide +kernel
theorem dX1_isJammed_4 : decode cX1_isJammed 4 = .ok (.bipush 48, 2) := by decide +kernel
theorem dX1_isJammed_6 : decode cX1_isJammed 6 = .ok (.iaload, 1) := by decide +kernel
theorem dX1_isJammed_7 : decode cX1_isJammed 7 = .ok (.iload_n 1, 1) := by decide +kernel
theorem dX1_isJammed_8 : decode cX1_isJammed 8 = .ok (.invokestatic 37, 3) := by decide +kernel
theorem dX1_isJammed_11 : decode cX1_isJammed 11 = .ok (.ireturn, 1) := by decide +kernel
theorem dX1_canFeed_0 : decode cX1_canFeed 0 = .ok (.aload_n 0, 1) := by decide +kernel
theorem dX1_canFeed_1 : decode cX1_canFeed 1 = .ok (.iload_n 1, 1) := by decide +kernel
theorem dX1_canFeed_2 : decode cX1_canFeed 2 = .ok (.invokevirtual 41, 3) := by decide +kernel
theorem dX1_canFeed_5 : decode cX1_canFeed 5 = .ok (.ifCond .eq 31, 3) := by decide +kernel
theorem dX1_canFeed_8 : decode cX1_canFeed 8 = .ok (.aload_n 0, 1) := by decide +kernel
theorem dX1_canFeed_9 : decode cX1_canFeed 9 = .ok (.aload_n 0, 1) := by decide +kernel
theorem dX1_canFeed_10 : decode cX1_canFeed 10 = .ok (.iload_n 1, 1) := by decide +kernel
theorem dX1_canFeed_11 : decode cX1_canFeed 11 = .ok (.invokevirtual 45, 3) := by decide +kernel
theorem dX1_canFeed_14 : decode cX1_canFeed 14 = .ok (.invokevirtual 49, 3) := by decide +kernel
theorem dX1_canFeed_17 : decode cX1_canFeed 17 = .ok (.ifCond .ne 19, 3) := by decide +kernel
theorem dX1_canFeed_20 : decode cX1_canFeed 20 = .ok (.aload_n 0, 1) := by decide +kernel
theorem dX1_canFeed_21 : decode cX1_canFeed 21 = .ok (.getfield 24, 3) := by decide +kernel
theorem dX1_canFeed_24 : decode cX1_canFeed 24 = .ok (.bipush 54, 2) := by decide +kernel
theorem dX1_canFeed_26 : decode cX1_canFeed 26 = .ok (.iaload, 1) := by decide +kernel
theorem dX1_canFeed_27 : decode cX1_canFeed 27 = .ok (.bipush 99, 2) := by decide +kernel
theorem dX1_canFeed_29 : decode cX1_canFeed 29 = .ok (.if_icmp .ge 7, 3) := by decide +kernel
theorem dX1_canFeed_32 : decode cX1_canFeed 32 = .ok (.iconst 1, 1) := by decide +kernel
theorem dX1_canFeed_33 : decode cX1_canFeed 33 = .ok (.goto 4, 3) := by decide +kernel
theorem dX1_canFeed_36 : decode cX1_canFeed 36 = .ok (.iconst 0, 1) := by decide +kernel
theorem dX1_canFeed_37 : decode cX1_canFeed 37 = .ok (.ireturn, 1) := by decide +kernel
theorem dX1_change_0 : decode cX1_change 0 = .ok (.aload_n 0, 1) := by decide +kernel
theorem dX1_change_1 : decode cX1_change 1 = .ok (.getfield 24, 3) := by decide +kernel
theorem dX1_change_4 : decode cX1_change 4 = .ok (.iload_n 1, 1) := by decide +kernel
theorem dX1_change_5 : decode cX1_change 5 = .ok (.iaload, 1) := by decide +kernel
theorem dX1_change_6 : decode cX1_change 6 = .ok (.istore_n 3, 1) := by decide +kernel
theorem dX1_change_7 : decode cX1_change 7 = .ok (.aload_n 0, 1) := by decide +kernel
theorem dX1_change_8 : decode cX1_change 8 = .ok (.getfield 24, 3) := by decide +kernel
theorem dX1_change_11 : decode cX1_change 11 = .ok (.iload_n 1, 1) := by decide +kernel
theorem dX1_change_12 : decode cX1_change 12 = .ok (.iload_n 2, 1) := by decide +kernel
theorem dX1_change_13 : decode cX1_change 13 = .ok (.iastore, 1) := by decide +kernel
theorem dX1_change_14 : decode cX1_change 14 = .ok (.iload_n 3, 1) := by decide +kernel
theorem dX1_change_15 : decode cX1_change 15 = .ok (.ireturn, 1) := by decide +kernel
theorem dX1_putNext_0 : decode cX1_putNext 0 = .ok (.aload_n 0, 1) := by decide +kernel
theorem dX1_putNext_1 : decode cX1_putNext 1 = .ok (.getfield 24, 3) := by decide +kernel
theorem dX1_putNext_4 : decode cX1_putNext 4 = .ok (.bipush 54, 2) := by decide +kernel
theorem dX1_putNext_6 : decode cX1_putNext 6 = .ok (.dup2, 1) := by decide +kernel
theorem dX1_putNext_7 : decode cX1_putNext 7 = .ok (.iaload, 1) := by decide +kernel
theorem dX1_putNext_8 : decode cX1_putNext 8 = .ok (.iconst 1, 1) := by decide +kernel
theorem dX1_putNext_9 : decode cX1_putNext 9 = .ok (.iadd, 1) := by decide +kernel
theorem dX1_putNext_10 : decode cX1_putNext 10 = .ok (.iastore, 1) := by decide +kernel
theorem dX1_putNext_11 : decode cX1_putNext 11 = .ok (.aload_n 0, 1) := by decide +kernel
theorem dX1_putNext_12 : decode cX1_putNext 12 = .ok (.getfield 24, 3) := by decide +kernel
theorem dX1_putNext_15 : decode cX1_putNext 15 = .ok (.iconst 0, 1) := by decide +kernel
theorem dX1_putNext_16 : decode cX1_putNext 16 = .ok (.iload_n 1, 1) := by decide +kernel
theorem dX1_putNext_17 : decode cX1_putNext 17 = .ok (.iadd, 1) := by decide +kernel
theorem dX1_putNext_18 : decode cX1_putNext 18 = .ok (.aload_n 0, 1) := by decide +kernel
theorem dX1_putNext_19 : decode cX1_putNext 19 = .ok (.getfield 24, 3) := by decide +kernel
theorem dX1_putNext_22 : decode cX1_putNext 22 = .ok (.bipush 54, 2) := by decide +kernel
theorem dX1_putNext_24 : decode cX1_putNext 24 = .ok (.iaload, 1) := by decide +kernel
theorem dX1_putNext_25 : decode cX1_putNext 25 = .ok (.iastore, 1) := by decide +kernel
theorem dX1_putNext_26 : decode cX1_putNext 26 = .ok (.aload_n 0, 1) := by decide +kernel
theorem dX1_putNext_27 : decode cX1_putNext 27 = .ok (.getfield 24, 3) := by decide +kernel
theorem dX1_putNext_30 : decode cX1_putNext 30 = .ok (.bipush 54, 2) := by decide +kernel
theorem dX1_putNext_32 : decode cX1_putNext 32 = .ok (.iaload, 1) := by decide +kernel
theorem dX1_putNext_33 : decode cX1_putNext 33 = .ok (.ireturn, 1) := by decide +kernel
theorem dX1_takeAway_0 : decode cX1_takeAway 0 = .ok (.aload_n 0, 1) := by decide +kernel
theorem dX1_takeAway_1 : decode cX1_takeAway 1 = .ok (.iload_n 1, 1) := by decide +kernel
theorem dX1_takeAway_2 : decode cX1_takeAway 2 = .ok (.invokevirtual 52, 3) := by decide +kernel
theorem dX1_takeAway_5 : decode cX1_takeAway 5 = .ok (.aload_n 0, 1) := by decide +kernel
theorem dX1_takeAway_6 : decode cX1_takeAway 6 = .ok (.iconst 0, 1) := by decide +kernel
theorem dX1_takeAway_7 : decode cX1_takeAway 7 = .ok (.iload_n 1, 1) := by decide +kernel
theorem dX1_takeAway_8 : decode cX1_takeAway 8 = .ok (.iadd, 1) := by decide +kernel
theorem dX1_takeAway_9 : decode cX1_takeAway 9 = .ok (.iconst 0, 1) := by decide +kernel
theorem dX1_takeAway_10 : decode cX1_takeAway 10 = .ok (.invokevirtual 56, 3) := by decide +kernel
theorem dX1_takeAway_13 : decode cX1_takeAway 13 = .ok (.ireturn, 1) := by decide +kernel
theorem dX1_freeJam_0 : decode cX1_freeJam 0 = .ok (.aload_n 0, 1) := by decide +kernel
theorem dX1_freeJam_1 : decode cX1_freeJam 1 = .ok (.getfield 24, 3) := by decide +kernel
theorem dX1_freeJam_4 : decode cX1_freeJam 4 = .ok (.bipush 48, 2) := by decide +kernel
theorem dX1_freeJam_6 : decode cX1_freeJam 6 = .ok (.dup2, 1) := by decide +kernel
theorem dX1_freeJam_7 : decode cX1_freeJam 7 = .ok (.iaload, 1) := by decide +kernel
theorem dX1_freeJam_8 : decode cX1_freeJam 8 = .ok (.iconst 1, 1) := by decide +kernel
theorem dX1_freeJam_9 : decode cX1_freeJam 9 = .ok (.iload_n 1, 1) := by decide +kernel
theorem dX1_freeJam_10 : decode cX1_freeJam 10 = .ok (.ishl, 1) := by decide +kernel
theorem dX1_freeJam_11 : decode cX1_freeJam 11 = .ok (.iconst (-1), 1) := by decide +kernel
theorem dX1_freeJam_12 : decode cX1_freeJam 12 = .ok (.ixor, 1) := by decide +kernel
theorem dX1_freeJam_13 : decode cX1_freeJam 13 = .ok (.iand, 1) := by decide +kernel
theorem dX1_freeJam_14 : decode cX1_freeJam 14 = .ok (.iastore, 1) := by decide +kernel
theorem dX1_freeJam_15 : decode cX1_freeJam 15 = .ok (.return_, 1) := by decide +kernel
theorem dX1_turnExit_0 : decode cX1_turnExit 0 = .ok (.aload_n 0, 1) := by decide +kernel
theorem dX1_turnExit_1 : decode cX1_turnExit 1 = .ok (.getfield 24, 3) := by decide +kernel
theorem dX1_turnExit_4 : decode cX1_turnExit 4 = .ok (.bipush 50, 2) := by decide +kernel
theorem dX1_turnExit_6 : decode cX1_turnExit 6 = .ok (.iconst 1, 1) := by decide +kernel
theorem dX1_turnExit_7 : decode cX1_turnExit 7 = .ok (.aload_n 0, 1) := by decide +kernel
theorem dX1_turnExit_8 : decode cX1_turnExit 8 = .ok (.getfield 24, 3) := by decide +kernel
theorem dX1_turnExit_11 : decode cX1_turnExit 11 = .ok (.bipush 50, 2) := by decide +kernel
theorem dX1_turnExit_13 : decode cX1_turnExit 13 = .ok (.iaload, 1) := by decide +kernel
theorem dX1_turnExit_14 : decode cX1_turnExit 14 = .ok (.isub, 1) := by decide +kernel
theorem dX1_turnExit_15 : decode cX1_turnExit 15 = .ok (.iastore, 1) := by decide +kernel
theorem dX1_turnExit_16 : decode cX1_turnExit 16 = .ok (.aload_n 0, 1) := by decide +kernel
theorem dX1_turnExit_17 : decode cX1_turnExit 17 = .ok (.getfield 24, 3) := by decide +kernel
theorem dX1_turnExit_20 : decode cX1_turnExit 20 = .ok (.bipush 50, 2) := by decide +kernel
theorem dX1_turnExit_22 : decode cX1_turnExit 22 = .ok (.iaload, 1) := by decide +kernel
theorem dX1_turnExit_23 : decode cX1_turnExit 23 = .ok (.ireturn, 1) := by decide +kernel
theorem dX1_loaded_0 : decode cX1_loaded 0 = .ok (.iconst 0, 1) := by decide +kernel
theorem dX1_loaded_1 : decode cX1_loaded 1 = .ok (.istore_n 1, 1) := by decide +kernel
theorem dX1_loaded_2 : decode cX1_loaded 2 = .ok (.iconst 0, 1) := by decide +kernel
theorem dX1_loaded_3 : decode cX1_loaded 3 = .ok (.istore_n 2, 1) := by decide +kernel
theorem dX1_loaded_4 : decode cX1_loaded 4 = .ok (.iload_n 2, 1) := by decide +kernel
theorem dX1_loaded_5 : decode cX1_loaded 5 = .ok (.aload_n 0, 1) := by decide +kernel
theorem dX1_loaded_6 : decode cX1_loaded 6 = .ok (.getfield 18, 3) := by decide +kernel
theorem dX1_loaded_9 : decode cX1_loaded 9 = .ok (.if_icmp .ge 23, 3) := by decide +kernel
theorem dX1_loaded_12 : decode cX1_loaded 12 = .ok (.aload_n 0, 1) := by decide +kernel
theorem dX1_loaded_13 : decode cX1_loaded 13 = .ok (.iload_n 2, 1) := by decide +kernel
theorem dX1_loaded_14 : decode cX1_loaded 14 = .ok (.invokevirtual 49, 3) := by decide +kernel
theorem dX1_loaded_17 : decode cX1_loaded 17 = .ok (.ifCond .eq 9, 3) := by decide +kernel
theorem dX1_loaded_20 : decode cX1_loaded 20 = .ok (.iload_n 1, 1) := by decide +kernel
theorem dX1_loaded_21 : decode cX1_loaded 21 = .ok (.iconst 1, 1) := by decide +kernel
theorem dX1_loaded_22 : decode cX1_loaded 22 = .ok (.iload_n 2, 1) := by decide +kernel
theorem dX1_loaded_23 : decode cX1_loaded 23 = .ok (.ishl, 1) := by decide +kernel
theorem dX1_loaded_24 : decode cX1_loaded 24 = .ok (.ior, 1) := by decide +kernel
theorem dX1_loaded_25 : decode cX1_loaded 25 = .ok (.istore_n 1, 1) := by decide +kernel
theorem dX1_loaded_26 : decode cX1_loaded 26 = .ok (.iinc 2 1, 3) := by decide +kernel
theorem dX1_loaded_29 : decode cX1_loaded 29 = .ok (.goto (-25), 3) := by decide +kernel
theorem dX1_loaded_32 : decode cX1_loaded 32 = .ok (.iload_n 1, 1) := by decide +kernel
theorem dX1_loaded_33 : decode cX1_loaded 33 = .ok (.ireturn, 1) := by decide +kernel
theorem dX1_seeing_0 : decode cX1_seeing 0 = .ok (.iconst 0, 1) := by decide +kernel
theorem dX1_seeing_1 : decode cX1_seeing 1 = .ok (.istore_n 1, 1) := by decide +kernel
theorem dX1_seeing_2 : decode cX1_seeing 2 = .ok (.iconst 0, 1) := by decide +kernel
theorem dX1_seeing_3 : decode cX1_seeing 3 = .ok (.istore_n 2, 1) := by decide +kernel
theorem dX1_seeing_4 : decode cX1_seeing 4 = .ok (.iload_n 2, 1) := by decide +kernel
theorem dX1_seeing_5 : decode cX1_seeing 5 = .ok (.aload_n 0, 1) := by decide +kernel
theorem dX1_seeing_6 : decode cX1_seeing 6 = .ok (.getfield 18, 3) := by decide +kernel
theorem dX1_seeing_9 : decode cX1_seeing 9 = .ok (.if_icmp .ge 42, 3) := by decide +kernel
theorem dX1_seeing_12 : decode cX1_seeing 12 = .ok (.aload_n 0, 1) := by decide +kernel
theorem dX1_seeing_13 : decode cX1_seeing 13 = .ok (.getfield 24, 3) := by decide +kernel
theorem dX1_seeing_16 : decode cX1_seeing 16 = .ok (.bipush 12, 2) := by decide +kernel
theorem dX1_seeing_18 : decode cX1_seeing 18 = .ok (.iload_n 2, 1) := by decide +kernel
theorem dX1_seeing_19 : decode cX1_seeing 19 = .ok (.iadd, 1) := by decide +kernel
theorem dX1_seeing_20 : decode cX1_seeing 20 = .ok (.iaload, 1) := by decide +kernel
theorem dX1_seeing_21 : decode cX1_seeing 21 = .ok (.istore_n 3, 1) := by decide +kernel
theorem dX1_seeing_22 : decode cX1_seeing 22 = .ok (.iload_n 3, 1) := by decide +kernel
theorem dX1_seeing_23 : decode cX1_seeing 23 = .ok (.iconst 2, 1) := by decide +kernel
theorem dX1_seeing_24 : decode cX1_seeing 24 = .ok (.if_icmp .eq 15, 3) := by decide +kernel
theorem dX1_seeing_27 : decode cX1_seeing 27 = .ok (.iload_n 3, 1) := by decide +kernel
theorem dX1_seeing_28 : decode cX1_seeing 28 = .ok (.ifCond .ne 17, 3) := by decide +kernel
theorem dX1_seeing_31 : decode cX1_seeing 31 = .ok (.aload_n 0, 1) := by decide +kernel
theorem dX1_seeing_32 : decode cX1_seeing 32 = .ok (.iload_n 2, 1) := by decide +kernel
theorem dX1_seeing_33 : decode cX1_seeing 33 = .ok (.invokevirtual 49, 3) := by decide +kernel
theorem dX1_seeing_36 : decode cX1_seeing 36 = .ok (.ifCond .eq 9, 3) := by decide +kernel
theorem dX1_seeing_39 : decode cX1_seeing 39 = .ok (.iload_n 1, 1) := by decide +kernel
theorem dX1_seeing_40 : decode cX1_seeing 40 = .ok (.iconst 1, 1) := by decide +kernel
theorem dX1_seeing_41 : decode cX1_seeing 41 = .ok (.iload_n 2, 1) := by decide +kernel
theorem dX1_seeing_42 : decode cX1_seeing 42 = .ok (.ishl, 1) := by decide +kernel
theorem dX1_seeing_43 : decode cX1_seeing 43 = .ok (.ior, 1) := by decide +kernel
theorem dX1_seeing_44 : decode cX1_seeing 44 = .ok (.istore_n 1, 1) := by decide +kernel
theorem dX1_seeing_45 : decode cX1_seeing 45 = .ok (.iinc 2 1, 3) := by decide +kernel
theorem dX1_seeing_48 : decode cX1_seeing 48 = .ok (.goto (-44), 3) := by decide +kernel
theorem dX1_seeing_51 : decode cX1_seeing 51 = .ok (.iload_n 1, 1) := by decide +kernel
theorem dX1_seeing_52 : decode cX1_seeing 52 = .ok (.ireturn, 1) := by decide +kernel
theorem dX1_countUnsound_0 : decode cX1_countUnsound 0 = .ok (.iconst 0, 1) := by decide +kernel
theorem dX1_countUnsound_1 : decode cX1_countUnsound 1 = .ok (.istore_n 1, 1) := by decide +kernel
theorem dX1_countUnsound_2 : decode cX1_countUnsound 2 = .ok (.iconst 0, 1) := by decide +kernel
theorem dX1_countUnsound_3 : decode cX1_countUnsound 3 = .ok (.istore_n 2, 1) := by decide +kernel
theorem dX1_countUnsound_4 : decode cX1_countUnsound 4 = .ok (.iload_n 2, 1) := by decide +kernel
theorem dX1_countUnsound_5 : decode cX1_countUnsound 5 = .ok (.aload_n 0, 1) := by decide +kernel
theorem dX1_countUnsound_6 : decode cX1_countUnsound 6 = .ok (.getfield 18, 3) := by decide +kernel
theorem dX1_countUnsound_9 : decode cX1_countUnsound 9 = .ok (.if_icmp .ge 24, 3) := by decide +kernel
theorem dX1_countUnsound_12 : decode cX1_countUnsound 12 = .ok (.aload_n 0, 1) := by decide +kernel
theorem dX1_countUnsound_13 : decode cX1_countUnsound 13 = .ok (.getfield 24, 3) := by decide +kernel
theorem dX1_countUnsound_16 : decode cX1_countUnsound 16 = .ok (.bipush 12, 2) := by decide +kernel
theorem dX1_countUnsound_18 : decode cX1_countUnsound 18 = .ok (.iload_n 2, 1) := by decide +kernel
theorem dX1_countUnsound_19 : decode cX1_countUnsound 19 = .ok (.iadd, 1) := by decide +kernel
theorem dX1_countUnsound_20 : decode cX1_countUnsound 20 = .ok (.iaload, 1) := by decide +kernel
theorem dX1_countUnsound_21 : decode cX1_countUnsound 21 = .ok (.ifCond .eq 6, 3) := by decide +kernel
theorem dX1_countUnsound_24 : decode cX1_countUnsound 24 = .ok (.iinc 1 1, 3) := by decide +kernel
theorem dX1_countUnsound_27 : decode cX1_countUnsound 27 = .ok (.iinc 2 1, 3) := by decide +kernel
theorem dX1_countUnsound_30 : decode cX1_countUnsound 30 = .ok (.goto (-26), 3) := by decide +kernel
theorem dX1_countUnsound_33 : decode cX1_countUnsound 33 = .ok (.iload_n 1, 1) := by decide +kernel
theorem dX1_countUnsound_34 : decode cX1_countUnsound 34 = .ok (.ireturn, 1) := by decide +kernel
theorem dX1_advance_0 : decode cX1_advance 0 = .ok (.iconst 0, 1) := by decide +kernel
theorem dX1_advance_1 : decode cX1_advance 1 = .ok (.istore_n 2, 1) := by decide +kernel
theorem dX1_advance_2 : decode cX1_advance 2 = .ok (.iload_n 2, 1) := by decide +kernel
theorem dX1_advance_3 : decode cX1_advance 3 = .ok (.iload_n 1, 1) := by decide +kernel
theorem dX1_advance_4 : decode cX1_advance 4 = .ok (.if_icmp .ge 19, 3) := by decide +kernel
theorem dX1_advance_7 : decode cX1_advance 7 = .ok (.iload_n 2, 1) := by decide +kernel
theorem dX1_advance_8 : decode cX1_advance 8 = .ok (.bipush 99, 2) := by decide +kernel
theorem dX1_advance_10 : decode cX1_advance 10 = .ok (.if_icmp .ge 13, 3) := by decide +kernel
theorem dX1_advance_13 : decode cX1_advance 13 = .ok (.aload_n 0, 1) := by decide +kernel
theorem dX1_advance_14 : decode cX1_advance 14 = .ok (.invokevirtual 60, 3) := by decide +kernel
theorem dX1_advance_17 : decode cX1_advance 17 = .ok (.iinc 2 1, 3) := by decide +kernel
theorem dX1_advance_20 : decode cX1_advance 20 = .ok (.goto (-18), 3) := by decide +kernel
theorem dX1_advance_23 : decode cX1_advance 23 = .ok (.return_, 1) := by decide +kernel
theorem dX1_advanceOnce_0 : decode cX1_advanceOnce 0 = .ok (.aload_n 0, 1) := by decide +kernel
theorem dX1_advanceOnce_1 : decode cX1_advanceOnce 1 = .ok (.invokevirtual 63, 3) := by decide +kernel
theorem dX1_advanceOnce_4 : decode cX1_advanceOnce 4 = .ok (.istore_n 1, 1) := by decide +kernel
theorem dX1_advanceOnce_5 : decode cX1_advanceOnce 5 = .ok (.aload_n 0, 1) := by decide +kernel
theorem dX1_advanceOnce_6 : decode cX1_advanceOnce 6 = .ok (.getfield 24, 3) := by decide +kernel
theorem dX1_advanceOnce_9 : decode cX1_advanceOnce 9 = .ok (.bipush 49, 2) := by decide +kernel
theorem dX1_advanceOnce_11 : decode cX1_advanceOnce 11 = .ok (.iaload, 1) := by decide +kernel
theorem dX1_advanceOnce_12 : decode cX1_advanceOnce 12 = .ok (.istore_n 2, 1) := by decide +kernel
theorem dX1_advanceOnce_13 : decode cX1_advanceOnce 13 = .ok (.iload_n 1, 1) := by decide +kernel
theorem dX1_advanceOnce_14 : decode cX1_advanceOnce 14 = .ok (.aload_n 0, 1) := by decide +kernel
theorem dX1_advanceOnce_15 : decode cX1_advanceOnce 15 = .ok (.getfield 24, 3) := by decide +kernel
theorem dX1_advanceOnce_18 : decode cX1_advanceOnce 18 = .ok (.bipush 48, 2) := by decide +kernel
theorem dX1_advanceOnce_20 : decode cX1_advanceOnce 20 = .ok (.iaload, 1) := by decide +kernel
theorem dX1_advanceOnce_21 : decode cX1_advanceOnce 21 = .ok (.iconst (-1), 1) := by decide +kernel
theorem dX1_advanceOnce_22 : decode cX1_advanceOnce 22 = .ok (.ixor, 1) := by decide +kernel
theorem dX1_advanceOnce_23 : decode cX1_advanceOnce 23 = .ok (.iand, 1) := by decide +kernel
theorem dX1_advanceOnce_24 : decode cX1_advanceOnce 24 = .ok (.iload_n 2, 1) := by decide +kernel
theorem dX1_advanceOnce_25 : decode cX1_advanceOnce 25 = .ok (.iconst (-1), 1) := by decide +kernel
theorem dX1_advanceOnce_26 : decode cX1_advanceOnce 26 = .ok (.ixor, 1) := by decide +kernel
theorem dX1_advanceOnce_27 : decode cX1_advanceOnce 27 = .ok (.iand, 1) := by decide +kernel
theorem dX1_advanceOnce_28 : decode cX1_advanceOnce 28 = .ok (.istore_n 3, 1) := by decide +kernel
theorem dX1_advanceOnce_29 : decode cX1_advanceOnce 29 = .ok (.aload_n 0, 1) := by decide +kernel
theorem dX1_advanceOnce_30 : decode cX1_advanceOnce 30 = .ok (.getfield 24, 3) := by decide +kernel
theorem dX1_advanceOnce_33 : decode cX1_advanceOnce 33 = .ok (.bipush 49, 2) := by decide +kernel
theorem dX1_advanceOnce_35 : decode cX1_advanceOnce 35 = .ok (.iload_n 2, 1) := by decide +kernel
theorem dX1_advanceOnce_36 : decode cX1_advanceOnce 36 = .ok (.iload_n 1, 1) := by decide +kernel
theorem dX1_advanceOnce_37 : decode cX1_advanceOnce 37 = .ok (.iconst (-1), 1) := by decide +kernel
theorem dX1_advanceOnce_38 : decode cX1_advanceOnce 38 = .ok (.ixor, 1) := by decide +kernel
theorem dX1_advanceOnce_39 : decode cX1_advanceOnce 39 = .ok (.iand, 1) := by decide +kernel
theorem dX1_advanceOnce_40 : decode cX1_advanceOnce 40 = .ok (.aload_n 0, 1) := by decide +kernel
theorem dX1_advanceOnce_41 : decode cX1_advanceOnce 41 = .ok (.iload_n 3, 1) := by decide +kernel
theorem dX1_advanceOnce_42 : decode cX1_advanceOnce 42 = .ok (.invokevirtual 67, 3) := by decide +kernel
theorem dX1_advanceOnce_45 : decode cX1_advanceOnce 45 = .ok (.iconst (-1), 1) := by decide +kernel
theorem dX1_advanceOnce_46 : decode cX1_advanceOnce 46 = .ok (.ixor, 1) := by decide +kernel
theorem dX1_advanceOnce_47 : decode cX1_advanceOnce 47 = .ok (.iand, 1) := by decide +kernel
theorem dX1_advanceOnce_48 : decode cX1_advanceOnce 48 = .ok (.iastore, 1) := by decide +kernel
theorem dX1_advanceOnce_49 : decode cX1_advanceOnce 49 = .ok (.aload_n 0, 1) := by decide +kernel
theorem dX1_advanceOnce_50 : decode cX1_advanceOnce 50 = .ok (.iload_n 3, 1) := by decide +kernel
theorem dX1_advanceOnce_51 : decode cX1_advanceOnce 51 = .ok (.invokevirtual 70, 3) := by decide +kernel
theorem dX1_advanceOnce_54 : decode cX1_advanceOnce 54 = .ok (.aload_n 0, 1) := by decide +kernel
theorem dX1_advanceOnce_55 : decode cX1_advanceOnce 55 = .ok (.aload_n 0, 1) := by decide +kernel
theorem dX1_advanceOnce_56 : decode cX1_advanceOnce 56 = .ok (.iload_n 3, 1) := by decide +kernel
theorem dX1_advanceOnce_57 : decode cX1_advanceOnce 57 = .ok (.aload_n 0, 1) := by decide +kernel
theorem dX1_advanceOnce_58 : decode cX1_advanceOnce 58 = .ok (.iload_n 3, 1) := by decide +kernel
theorem dX1_advanceOnce_59 : decode cX1_advanceOnce 59 = .ok (.invokevirtual 73, 3) := by decide +kernel
theorem dX1_advanceOnce_62 : decode cX1_advanceOnce 62 = .ok (.iconst (-1), 1) := by decide +kernel
theorem dX1_advanceOnce_63 : decode cX1_advanceOnce 63 = .ok (.ixor, 1) := by decide +kernel
theorem dX1_advanceOnce_64 : decode cX1_advanceOnce 64 = .ok (.iand, 1) := by decide +kernel
theorem dX1_advanceOnce_65 : decode cX1_advanceOnce 65 = .ok (.iload_n 1, 1) := by decide +kernel
theorem dX1_advanceOnce_66 : decode cX1_advanceOnce 66 = .ok (.iconst (-1), 1) := by decide +kernel
theorem dX1_advanceOnce_67 : decode cX1_advanceOnce 67 = .ok (.ixor, 1) := by decide +kernel
theorem dX1_advanceOnce_68 : decode cX1_advanceOnce 68 = .ok (.iload_n 2, 1) := by decide +kernel
theorem dX1_advanceOnce_69 : decode cX1_advanceOnce 69 = .ok (.iconst (-1), 1) := by decide +kernel
theorem dX1_advanceOnce_70 : decode cX1_advanceOnce 70 = .ok (.ixor, 1) := by decide +kernel
theorem dX1_advanceOnce_71 : decode cX1_advanceOnce 71 = .ok (.iand, 1) := by decide +kernel
theorem dX1_advanceOnce_72 : decode cX1_advanceOnce 72 = .ok (.invokevirtual 76, 3) := by decide +kernel
theorem dX1_advanceOnce_75 : decode cX1_advanceOnce 75 = .ok (.invokevirtual 79, 3) := by decide +kernel
theorem dX1_advanceOnce_78 : decode cX1_advanceOnce 78 = .ok (.aload_n 0, 1) := by decide +kernel
theorem dX1_advanceOnce_79 : decode cX1_advanceOnce 79 = .ok (.invokevirtual 82, 3) := by decide +kernel
theorem dX1_advanceOnce_82 : decode cX1_advanceOnce 82 = .ok (.aload_n 0, 1) := by decide +kernel
theorem dX1_advanceOnce_83 : decode cX1_advanceOnce 83 = .ok (.getfield 24, 3) := by decide +kernel
theorem dX1_advanceOnce_86 : decode cX1_advanceOnce 86 = .ok (.bipush 56, 2) := by decide +kernel
theorem dX1_advanceOnce_88 : decode cX1_advanceOnce 88 = .ok (.dup2, 1) := by decide +kernel
theorem dX1_advanceOnce_89 : decode cX1_advanceOnce 89 = .ok (.iaload, 1) := by decide +kernel
theorem dX1_advanceOnce_90 : decode cX1_advanceOnce 90 = .ok (.iconst 1, 1) := by decide +kernel
theorem dX1_advanceOnce_91 : decode cX1_advanceOnce 91 = .ok (.iadd, 1) := by decide +kernel
theorem dX1_advanceOnce_92 : decode cX1_advanceOnce 92 = .ok (.iastore, 1) := by decide +kernel
theorem dX1_advanceOnce_93 : decode cX1_advanceOnce 93 = .ok (.return_, 1) := by decide +kernel
theorem dX1_behind_0 : decode cX1_behind 0 = .ok (.iload_n 1, 1) := by decide +kernel
theorem dX1_behind_1 : decode cX1_behind 1 = .ok (.aload_n 0, 1) := by decide +kernel
theorem dX1_behind_2 : decode cX1_behind 2 = .ok (.getfield 18, 3) := by decide +kernel
theorem dX1_behind_5 : decode cX1_behind 5 = .ok (.iconst 1, 1) := by decide +kernel
theorem dX1_behind_6 : decode cX1_behind 6 = .ok (.isub, 1) := by decide +kernel
theorem dX1_behind_7 : decode cX1_behind 7 = .ok (.if_icmp .ne 10, 3) := by decide +kernel
theorem dX1_behind_10 : decode cX1_behind 10 = .ok (.aload_n 0, 1) := by decide +kernel
theorem dX1_behind_11 : decode cX1_behind 11 = .ok (.getfield 21, 3) := by decide +kernel
theorem dX1_behind_14 : decode cX1_behind 14 = .ok (.goto 6, 3) := by decide +kernel
theorem dX1_behind_17 : decode cX1_behind 17 = .ok (.iload_n 1, 1) := by decide +kernel
theorem dX1_behind_18 : decode cX1_behind 18 = .ok (.iconst 1, 1) := by decide +kernel
theorem dX1_behind_19 : decode cX1_behind 19 = .ok (.iadd, 1) := by decide +kernel
theorem dX1_behind_20 : decode cX1_behind 20 = .ok (.ireturn, 1) := by decide +kernel
theorem dX1_behindThose_0 : decode cX1_behindThose 0 = .ok (.iconst 0, 1) := by decide +kernel
theorem dX1_behindThose_1 : decode cX1_behindThose 1 = .ok (.istore_n 2, 1) := by decide +kernel
theorem dX1_behindThose_2 : decode cX1_behindThose 2 = .ok (.iconst 0, 1) := by decide +kernel
theorem dX1_behindThose_3 : decode cX1_behindThose 3 = .ok (.istore_n 3, 1) := by decide +kernel
theorem dX1_behindThose_4 : decode cX1_behindThose 4 = .ok (.iload_n 3, 1) := by decide +kernel
theorem dX1_behindThose_5 : decode cX1_behindThose 5 = .ok (.aload_n 0, 1) := by decide +kernel
theorem dX1_behindThose_6 : decode cX1_behindThose 6 = .ok (.getfield 18, 3) := by decide +kernel
theorem dX1_behindThose_9 : decode cX1_behindThose 9 = .ok (.if_icmp .ge 37, 3) := by decide +kernel
theorem dX1_behindThose_12 : decode cX1_behindThose 12 = .ok (.iload_n 1, 1) := by decide +kernel
theorem dX1_behindThose_13 : decode cX1_behindThose 13 = .ok (.iload_n 3, 1) := by decide +kernel
theorem dX1_behindThose_14 : decode cX1_behindThose 14 = .ok (.invokestatic 37, 3) := by decide +kernel
theorem dX1_behindThose_17 : decode cX1_behindThose 17 = .ok (.ifCond .eq 23, 3) := by decide +kernel
theorem dX1_behindThose_20 : decode cX1_behindThose 20 = .ok (.iload_n 3, 1) := by decide +kernel
theorem dX1_behindThose_21 : decode cX1_behindThose 21 = .ok (.aload_n 0, 1) := by decide +kernel
theorem dX1_behindThose_22 : decode cX1_behindThose 22 = .ok (.getfield 9, 3) := by decide +kernel
theorem dX1_behindThose_25 : decode cX1_behindThose 25 = .ok (.iconst 1, 1) := by decide +kernel
theorem dX1_behindThose_26 : decode cX1_behindThose 26 = .ok (.isub, 1) := by decide +kernel
theorem dX1_behindThose_27 : decode cX1_behindThose 27 = .ok (.if_icmp .eq 13, 3) := by decide +kernel
theorem dX1_behindThose_30 : decode cX1_behindThose 30 = .ok (.iload_n 2, 1) := by decide +kernel
theorem dX1_behindThose_31 : decode cX1_behindThose 31 = .ok (.iconst 1, 1) := by decide +kernel
theorem dX1_behindThose_32 : decode cX1_behindThose 32 = .ok (.aload_n 0, 1) := by decide +kernel
theorem dX1_behindThose_33 : decode cX1_behindThose 33 = .ok (.iload_n 3, 1) := by decide +kernel
theorem dX1_behindThose_34 : decode cX1_behindThose 34 = .ok (.invokevirtual 85, 3) := by decide +kernel
theorem dX1_behindThose_37 : decode cX1_behindThose 37 = .ok (.ishl, 1) := by decide +kernel
theorem dX1_behindThose_38 : decode cX1_behindThose 38 = .ok (.ior, 1) := by decide +kernel
theorem dX1_behindThose_39 : decode cX1_behindThose 39 = .ok (.istore_n 2, 1) := by decide +kernel
theorem dX1_behindThose_40 : decode cX1_behindThose 40 = .ok (.iinc 3 1, 3) := by decide +kernel
theorem dX1_behindThose_43 : decode cX1_behindThose 43 = .ok (.goto (-39), 3) := by decide +kernel
theorem dX1_behindThose_46 : decode cX1_behindThose 46 = .ok (.iload_n 2, 1) := by decide +kernel
theorem dX1_behindThose_47 : decode cX1_behindThose 47 = .ok (.ireturn, 1) := by decide +kernel
theorem dX1_feedersOf_0 : decode cX1_feedersOf 0 = .ok (.iload_n 1, 1) := by decide +kernel
theorem dX1_feedersOf_1 : decode cX1_feedersOf 1 = .ok (.ifCond .eq 11, 3) := by decide +kernel
theorem dX1_feedersOf_4 : decode cX1_feedersOf 4 = .ok (.iload_n 1, 1) := by decide +kernel
theorem dX1_feedersOf_5 : decode cX1_feedersOf 5 = .ok (.aload_n 0, 1) := by decide +kernel
theorem dX1_feedersOf_6 : decode cX1_feedersOf 6 = .ok (.getfield 9, 3) := by decide +kernel
theorem dX1_feedersOf_9 : decode cX1_feedersOf 9 = .ok (.if_icmp .ne 7, 3) := by decide +kernel
theorem dX1_feedersOf_12 : decode cX1_feedersOf 12 = .ok (.iconst 0, 1) := by decide +kernel
theorem dX1_feedersOf_13 : decode cX1_feedersOf 13 = .ok (.goto 8, 3) := by decide +kernel
theorem dX1_feedersOf_16 : decode cX1_feedersOf 16 = .ok (.iconst 1, 1) := by decide +kernel
theorem dX1_feedersOf_17 : decode cX1_feedersOf 17 = .ok (.iload_n 1, 1) := by decide +kernel
theorem dX1_feedersOf_18 : decode cX1_feedersOf 18 = .ok (.iconst 1, 1) := by decide +kernel
theorem dX1_feedersOf_19 : decode cX1_feedersOf 19 = .ok (.isub, 1) := by decide +kernel
theorem dX1_feedersOf_20 : decode cX1_feedersOf 20 = .ok (.ishl, 1) := by decide +kernel
theorem dX1_feedersOf_21 : decode cX1_feedersOf 21 = .ok (.istore_n 2, 1) := by decide +kernel
theorem dX1_feedersOf_22 : decode cX1_feedersOf 22 = .ok (.iload_n 1, 1) := by decide +kernel
theorem dX1_feedersOf_23 : decode cX1_feedersOf 23 = .ok (.aload_n 0, 1) := by decide +kernel
theorem dX1_feedersOf_24 : decode cX1_feedersOf 24 = .ok (.getfield 21, 3) := by decide +kernel
theorem dX1_feedersOf_27 : decode cX1_feedersOf 27 = .ok (.if_icmp .ne 21, 3) := by decide +kernel
theorem dX1_feedersOf_30 : decode cX1_feedersOf 30 = .ok (.aload_n 0, 1) := by decide +kernel
theorem dX1_feedersOf_31 : decode cX1_feedersOf 31 = .ok (.getfield 15, 3) := by decide +kernel
theorem dX1_feedersOf_34 : decode cX1_feedersOf 34 = .ok (.ifCond .le 14, 3) := by decide +kernel
theorem dX1_feedersOf_37 : decode cX1_feedersOf 37 = .ok (.iload_n 2, 1) := by decide +kernel
theorem dX1_feedersOf_38 : decode cX1_feedersOf 38 = .ok (.iconst 1, 1) := by decide +kernel
theorem dX1_feedersOf_39 : decode cX1_feedersOf 39 = .ok (.aload_n 0, 1) := by decide +kernel
theorem dX1_feedersOf_40 : decode cX1_feedersOf 40 = .ok (.getfield 18, 3) := by decide +kernel
theorem dX1_feedersOf_43 : decode cX1_feedersOf 43 = .ok (.iconst 1, 1) := by decide +kernel
theorem dX1_feedersOf_44 : decode cX1_feedersOf 44 = .ok (.isub, 1) := by decide +kernel
theorem dX1_feedersOf_45 : decode cX1_feedersOf 45 = .ok (.ishl, 1) := by decide +kernel
theorem dX1_feedersOf_46 : decode cX1_feedersOf 46 = .ok (.ior, 1) := by decide +kernel
theorem dX1_feedersOf_47 : decode cX1_feedersOf 47 = .ok (.istore_n 2, 1) := by decide +kernel
theorem dX1_feedersOf_48 : decode cX1_feedersOf 48 = .ok (.iload_n 2, 1) := by decide +kernel
theorem dX1_feedersOf_49 : decode cX1_feedersOf 49 = .ok (.ireturn, 1) := by decide +kernel
theorem dX1_giveTickets_0 : decode cX1_giveTickets 0 = .ok (.aload_n 0, 1) := by decide +kernel
theorem dX1_giveTickets_1 : decode cX1_giveTickets 1 = .ok (.iload_n 1, 1) := by decide +kernel
theorem dX1_giveTickets_2 : decode cX1_giveTickets 2 = .ok (.aload_n 0, 1) := by decide +kernel
theorem dX1_giveTickets_3 : decode cX1_giveTickets 3 = .ok (.getfield 21, 3) := by decide +kernel
theorem dX1_giveTickets_6 : decode cX1_giveTickets 6 = .ok (.iconst 1, 1) := by decide +kernel
theorem dX1_giveTickets_7 : decode cX1_giveTickets 7 = .ok (.isub, 1) := by decide +kernel
theorem dX1_giveTickets_8 : decode cX1_giveTickets 8 = .ok (.invokevirtual 88, 3) := by decide +kernel
theorem dX1_giveTickets_11 : decode cX1_giveTickets 11 = .ok (.aload_n 0, 1) := by decide +kernel
theorem dX1_giveTickets_12 : decode cX1_giveTickets 12 = .ok (.getfield 15, 3) := by decide +kernel
theorem dX1_giveTickets_15 : decode cX1_giveTickets 15 = .ok (.ifCond .le 14, 3) := by decide +kernel
theorem dX1_giveTickets_18 : decode cX1_giveTickets 18 = .ok (.aload_n 0, 1) := by decide +kernel
theorem dX1_giveTickets_19 : decode cX1_giveTickets 19 = .ok (.iload_n 1, 1) := by decide +kernel
theorem dX1_giveTickets_20 : decode cX1_giveTickets 20 = .ok (.aload_n 0, 1) := by decide +kernel
theorem dX1_giveTickets_21 : decode cX1_giveTickets 21 = .ok (.getfield 18, 3) := by decide +kernel
theorem dX1_giveTickets_24 : decode cX1_giveTickets 24 = .ok (.iconst 1, 1) := by decide +kernel
theorem dX1_giveTickets_25 : decode cX1_giveTickets 25 = .ok (.isub, 1) := by decide +kernel
theorem dX1_giveTickets_26 : decode cX1_giveTickets 26 = .ok (.invokevirtual 88, 3) := by decide +kernel
theorem dX1_giveTickets_29 : decode cX1_giveTickets 29 = .ok (.return_, 1) := by decide +kernel
theorem dX1_giveTicket_0 : decode cX1_giveTicket 0 = .ok (.iload_n 1, 1) := by decide +kernel
theorem dX1_giveTicket_1 : decode cX1_giveTicket 1 = .ok (.iload_n 2, 1) := by decide +kernel
theorem dX1_giveTicket_2 : decode cX1_giveTicket 2 = .ok (.invokestatic 37, 3) := by decide +kernel
theorem dX1_giveTicket_5 : decode cX1_giveTicket 5 = .ok (.ifCond .eq 42, 3) := by decide +kernel
theorem dX1_giveTicket_8 : decode cX1_giveTicket 8 = .ok (.aload_n 0, 1) := by decide +kernel
theorem dX1_giveTicket_9 : decode cX1_giveTicket 9 = .ok (.getfield 24, 3) := by decide +kernel
theorem dX1_giveTicket_12 : decode cX1_giveTicket 12 = .ok (.bipush 36, 2) := by decide +kernel
theorem dX1_giveTicket_14 : decode cX1_giveTicket 14 = .ok (.iload_n 2, 1) := by decide +kernel
theorem dX1_giveTicket_15 : decode cX1_giveTicket 15 = .ok (.iadd, 1) := by decide +kernel
theorem dX1_giveTicket_16 : decode cX1_giveTicket 16 = .ok (.iaload, 1) := by decide +kernel
theorem dX1_giveTicket_17 : decode cX1_giveTicket 17 = .ok (.ifCond .ne 30, 3) := by decide +kernel
theorem dX1_giveTicket_20 : decode cX1_giveTicket 20 = .ok (.aload_n 0, 1) := by decide +kernel
theorem dX1_giveTicket_21 : decode cX1_giveTicket 21 = .ok (.getfield 24, 3) := by decide +kernel
theorem dX1_giveTicket_24 : decode cX1_giveTicket 24 = .ok (.bipush 53, 2) := by decide +kernel
theorem dX1_giveTicket_26 : decode cX1_giveTicket 26 = .ok (.dup2, 1) := by decide +kernel
theorem dX1_giveTicket_27 : decode cX1_giveTicket 27 = .ok (.iaload, 1) := by decide +kernel
theorem dX1_giveTicket_28 : decode cX1_giveTicket 28 = .ok (.iconst 1, 1) := by decide +kernel
theorem dX1_giveTicket_29 : decode cX1_giveTicket 29 = .ok (.iadd, 1) := by decide +kernel
theorem dX1_giveTicket_30 : decode cX1_giveTicket 30 = .ok (.iastore, 1) := by decide +kernel
theorem dX1_giveTicket_31 : decode cX1_giveTicket 31 = .ok (.aload_n 0, 1) := by decide +kernel
theorem dX1_giveTicket_32 : decode cX1_giveTicket 32 = .ok (.getfield 24, 3) := by decide +kernel
theorem dX1_giveTicket_35 : decode cX1_giveTicket 35 = .ok (.bipush 36, 2) := by decide +kernel
theorem dX1_giveTicket_37 : decode cX1_giveTicket 37 = .ok (.iload_n 2, 1) := by decide +kernel
theorem dX1_giveTicket_38 : decode cX1_giveTicket 38 = .ok (.iadd, 1) := by decide +kernel
theorem dX1_giveTicket_39 : decode cX1_giveTicket 39 = .ok (.aload_n 0, 1) := by decide +kernel
theorem dX1_giveTicket_40 : decode cX1_giveTicket 40 = .ok (.getfield 24, 3) := by decide +kernel
theorem dX1_giveTicket_43 : decode cX1_giveTicket 43 = .ok (.bipush 53, 2) := by decide +kernel
theorem dX1_giveTicket_45 : decode cX1_giveTicket 45 = .ok (.iaload, 1) := by decide +kernel
theorem dX1_giveTicket_46 : decode cX1_giveTicket 46 = .ok (.iastore, 1) := by decide +kernel
theorem dX1_giveTicket_47 : decode cX1_giveTicket 47 = .ok (.return_, 1) := by decide +kernel
theorem dX1_yielding_0 : decode cX1_yielding 0 = .ok (.aload_n 0, 1) := by decide +kernel
theorem dX1_yielding_1 : decode cX1_yielding 1 = .ok (.getfield 21, 3) := by decide +kernel
theorem dX1_yielding_4 : decode cX1_yielding 4 = .ok (.iconst 1, 1) := by decide +kernel
theorem dX1_yielding_5 : decode cX1_yielding 5 = .ok (.isub, 1) := by decide +kernel
theorem dX1_yielding_6 : decode cX1_yielding 6 = .ok (.istore_n 2, 1) := by decide +kernel
theorem dX1_yielding_7 : decode cX1_yielding 7 = .ok (.aload_n 0, 1) := by decide +kernel
theorem dX1_yielding_8 : decode cX1_yielding 8 = .ok (.getfield 18, 3) := by decide +kernel
theorem dX1_yielding_11 : decode cX1_yielding 11 = .ok (.iconst 1, 1) := by decide +kernel
theorem dX1_yielding_12 : decode cX1_yielding 12 = .ok (.isub, 1) := by decide +kernel
theorem dX1_yielding_13 : decode cX1_yielding 13 = .ok (.istore_n 3, 1) := by decide +kernel
theorem dX1_yielding_14 : decode cX1_yielding 14 = .ok (.aload_n 0, 1) := by decide +kernel
theorem dX1_yielding_15 : decode cX1_yielding 15 = .ok (.getfield 15, 3) := by decide +kernel
theorem dX1_yielding_18 : decode cX1_yielding 18 = .ok (.ifCond .eq 19, 3) := by decide +kernel
theorem dX1_yielding_21 : decode cX1_yielding 21 = .ok (.iload_n 1, 1) := by decide +kernel
theorem dX1_yielding_22 : decode cX1_yielding 22 = .ok (.iload_n 2, 1) := by decide +kernel
theorem dX1_yielding_23 : decode cX1_yielding 23 = .ok (.invokestatic 37, 3) := by decide +kernel
theorem dX1_yielding_26 : decode cX1_yielding 26 = .ok (.ifCond .eq 11, 3) := by decide +kernel
theorem dX1_yielding_29 : decode cX1_yielding 29 = .ok (.iload_n 1, 1) := by decide +kernel
theorem dX1_yielding_30 : decode cX1_yielding 30 = .ok (.iload_n 3, 1) := by decide +kernel
theorem dX1_yielding_31 : decode cX1_yielding 31 = .ok (.invokestatic 37, 3) := by decide +kernel
theorem dX1_yielding_34 : decode cX1_yielding 34 = .ok (.ifCond .ne 5, 3) := by decide +kernel
theorem dX1_yielding_37 : decode cX1_yielding 37 = .ok (.iconst 0, 1) := by decide +kernel
theorem dX1_yielding_38 : decode cX1_yielding 38 = .ok (.ireturn, 1) := by decide +kernel
theorem dX1_yielding_39 : decode cX1_yielding 39 = .ok (.aload_n 0, 1) := by decide +kernel
theorem dX1_yielding_40 : decode cX1_yielding 40 = .ok (.getfield 24, 3) := by decide +kernel
theorem dX1_yielding_43 : decode cX1_yielding 43 = .ok (.bipush 36, 2) := by decide +kernel
theorem dX1_yielding_45 : decode cX1_yielding 45 = .ok (.iload_n 2, 1) := by decide +kernel
theorem dX1_yielding_46 : decode cX1_yielding 46 = .ok (.iadd, 1) := by decide +kernel
theorem dX1_yielding_47 : decode cX1_yielding 47 = .ok (.iaload, 1) := by decide +kernel
theorem dX1_yielding_48 : decode cX1_yielding 48 = .ok (.aload_n 0, 1) := by decide +kernel
theorem dX1_yielding_49 : decode cX1_yielding 49 = .ok (.getfield 24, 3) := by decide +kernel
theorem dX1_yielding_52 : decode cX1_yielding 52 = .ok (.bipush 36, 2) := by decide +kernel
theorem dX1_yielding_54 : decode cX1_yielding 54 = .ok (.iload_n 3, 1) := by decide +kernel
theorem dX1_yielding_55 : decode cX1_yielding 55 = .ok (.iadd, 1) := by decide +kernel
theorem dX1_yielding_56 : decode cX1_yielding 56 = .ok (.iaload, 1) := by decide +kernel
theorem dX1_yielding_57 : decode cX1_yielding 57 = .ok (.if_icmp .ge 9, 3) := by decide +kernel
theorem dX1_yielding_60 : decode cX1_yielding 60 = .ok (.iconst 1, 1) := by decide +kernel
theorem dX1_yielding_61 : decode cX1_yielding 61 = .ok (.iload_n 3, 1) := by decide +kernel
theorem dX1_yielding_62 : decode cX1_yielding 62 = .ok (.ishl, 1) := by decide +kernel
theorem dX1_yielding_63 : decode cX1_yielding 63 = .ok (.goto 6, 3) := by decide +kernel
theorem dX1_yielding_66 : decode cX1_yielding 66 = .ok (.iconst 1, 1) := by decide +kernel
theorem dX1_yielding_67 : decode cX1_yielding 67 = .ok (.iload_n 2, 1) := by decide +kernel
theorem dX1_yielding_68 : decode cX1_yielding 68 = .ok (.ishl, 1) := by decide +kernel
theorem dX1_yielding_69 : decode cX1_yielding 69 = .ok (.ireturn, 1) := by decide +kernel
theorem dX1_settle_0 : decode cX1_settle 0 = .ok (.aload_n 0, 1) := by decide +kernel
theorem dX1_settle_1 : decode cX1_settle 1 = .ok (.getfield 9, 3) := by decide +kernel
theorem dX1_settle_4 : decode cX1_settle 4 = .ok (.iconst 1, 1) := by decide +kernel
theorem dX1_settle_5 : decode cX1_settle 5 = .ok (.isub, 1) := by decide +kernel
theorem dX1_settle_6 : decode cX1_settle 6 = .ok (.istore_n 3, 1) := by decide +kernel
theorem dX1_settle_7 : decode cX1_settle 7 = .ok (.aload_n 0, 1) := by decide +kernel
theorem dX1_settle_8 : decode cX1_settle 8 = .ok (.getfield 24, 3) := by decide +kernel
theorem dX1_settle_11 : decode cX1_settle 11 = .ok (.bipush 50, 2) := by decide +kernel
theorem dX1_settle_13 : decode cX1_settle 13 = .ok (.iaload, 1) := by decide +kernel
theorem dX1_settle_14 : decode cX1_settle 14 = .ok (.iconst 1, 1) := by decide +kernel
theorem dX1_settle_15 : decode cX1_settle 15 = .ok (.if_icmp .ne 11, 3) := by decide +kernel
theorem dX1_settle_18 : decode cX1_settle 18 = .ok (.iload_n 1, 1) := by decide +kernel
theorem dX1_settle_19 : decode cX1_settle 19 = .ok (.iconst 1, 1) := by decide +kernel
theorem dX1_settle_20 : decode cX1_settle 20 = .ok (.iload_n 3, 1) := by decide +kernel
theorem dX1_settle_21 : decode cX1_settle 21 = .ok (.ishl, 1) := by decide +kernel
theorem dX1_settle_22 : decode cX1_settle 22 = .ok (.iand, 1) := by decide +kernel
theorem dX1_settle_23 : decode cX1_settle 23 = .ok (.goto 4, 3) := by decide +kernel
theorem dX1_settle_26 : decode cX1_settle 26 = .ok (.iconst 0, 1) := by decide +kernel
theorem dX1_settle_27 : decode cX1_settle 27 = .ok (.istore 4, 2) := by decide +kernel
theorem dX1_settle_29 : decode cX1_settle 29 = .ok (.iload_n 3, 1) := by decide +kernel
theorem dX1_settle_30 : decode cX1_settle 30 = .ok (.iconst 1, 1) := by decide +kernel
theorem dX1_settle_31 : decode cX1_settle 31 = .ok (.isub, 1) := by decide +kernel
theorem dX1_settle_32 : decode cX1_settle 32 = .ok (.istore 5, 2) := by decide +kernel
theorem dX1_settle_34 : decode cX1_settle 34 = .ok (.iload 5, 2) := by decide +kernel
theorem dX1_settle_36 : decode cX1_settle 36 = .ok (.ifCond .lt 28, 3) := by decide +kernel
theorem dX1_settle_39 : decode cX1_settle 39 = .ok (.iload 4, 2) := by decide +kernel
theorem dX1_settle_41 : decode cX1_settle 41 = .ok (.aload_n 0, 1) := by decide +kernel
theorem dX1_settle_42 : decode cX1_settle 42 = .ok (.iload 5, 2) := by decide +kernel
theorem dX1_settle_44 : decode cX1_settle 44 = .ok (.iload_n 1, 1) := by decide +kernel
theorem dX1_settle_45 : decode cX1_settle 45 = .ok (.aload_n 0, 1) := by decide +kernel
theorem dX1_settle_46 : decode cX1_settle 46 = .ok (.iload 4, 2) := by decide +kernel
theorem dX1_settle_48 : decode cX1_settle 48 = .ok (.iload_n 2, 1) := by decide +kernel
theorem dX1_settle_49 : decode cX1_settle 49 = .ok (.invokevirtual 92, 3) := by decide +kernel
theorem dX1_settle_52 : decode cX1_settle 52 = .ok (.invokevirtual 95, 3) := by decide +kernel
theorem dX1_settle_55 : decode cX1_settle 55 = .ok (.ior, 1) := by decide +kernel
theorem dX1_settle_56 : decode cX1_settle 56 = .ok (.istore 4, 2) := by decide +kernel
theorem dX1_settle_58 : decode cX1_settle 58 = .ok (.iinc 5 (-1), 3) := by decide +kernel
theorem dX1_settle_61 : decode cX1_settle 61 = .ok (.goto (-27), 3) := by decide +kernel
theorem dX1_settle_64 : decode cX1_settle 64 = .ok (.aload_n 0, 1) := by decide +kernel
theorem dX1_settle_65 : decode cX1_settle 65 = .ok (.getfield 18, 3) := by decide +kernel
theorem dX1_settle_68 : decode cX1_settle 68 = .ok (.iconst 1, 1) := by decide +kernel
theorem dX1_settle_69 : decode cX1_settle 69 = .ok (.isub, 1) := by decide +kernel
theorem dX1_settle_70 : decode cX1_settle 70 = .ok (.istore 5, 2) := by decide +kernel
theorem dX1_settle_72 : decode cX1_settle 72 = .ok (.iload 5, 2) := by decide +kernel
theorem dX1_settle_74 : decode cX1_settle 74 = .ok (.aload_n 0, 1) := by decide +kernel
theorem dX1_settle_75 : decode cX1_settle 75 = .ok (.getfield 9, 3) := by decide +kernel
theorem dX1_settle_78 : decode cX1_settle 78 = .ok (.if_icmp .lt 28, 3) := by decide +kernel
theorem dX1_settle_81 : decode cX1_settle 81 = .ok (.iload 4, 2) := by decide +kernel
theorem dX1_settle_83 : decode cX1_settle 83 = .ok (.aload_n 0, 1) := by decide +kernel
theorem dX1_settle_84 : decode cX1_settle 84 = .ok (.iload 5, 2) := by decide +kernel
theorem dX1_settle_86 : decode cX1_settle 86 = .ok (.iload_n 1, 1) := by decide +kernel
theorem dX1_settle_87 : decode cX1_settle 87 = .ok (.aload_n 0, 1) := by decide +kernel
theorem dX1_settle_88 : decode cX1_settle 88 = .ok (.iload 4, 2) := by decide +kernel
theorem dX1_settle_90 : decode cX1_settle 90 = .ok (.iload_n 2, 1) := by decide +kernel
theorem dX1_settle_91 : decode cX1_settle 91 = .ok (.invokevirtual 92, 3) := by decide +kernel
theorem dX1_settle_94 : decode cX1_settle 94 = .ok (.invokevirtual 95, 3) := by decide +kernel
theorem dX1_settle_97 : decode cX1_settle 97 = .ok (.ior, 1) := by decide +kernel
theorem dX1_settle_98 : decode cX1_settle 98 = .ok (.istore 4, 2) := by decide +kernel
theorem dX1_settle_100 : decode cX1_settle 100 = .ok (.iinc 5 (-1), 3) := by decide +kernel
theorem dX1_settle_103 : decode cX1_settle 103 = .ok (.goto (-31), 3) := by decide +kernel
theorem dX1_settle_106 : decode cX1_settle 106 = .ok (.iload 4, 2) := by decide +kernel
theorem dX1_settle_108 : decode cX1_settle 108 = .ok (.ireturn, 1) := by decide +kernel
theorem dX1_roomWith_0 : decode cX1_roomWith 0 = .ok (.aload_n 0, 1) := by decide +kernel
theorem dX1_roomWith_1 : decode cX1_roomWith 1 = .ok (.getfield 24, 3) := by decide +kernel
theorem dX1_roomWith_4 : decode cX1_roomWith 4 = .ok (.bipush 51, 2) := by decide +kernel
theorem dX1_roomWith_6 : decode cX1_roomWith 6 = .ok (.iaload, 1) := by decide +kernel
theorem dX1_roomWith_7 : decode cX1_roomWith 7 = .ok (.iconst 1, 1) := by decide +kernel
theorem dX1_roomWith_8 : decode cX1_roomWith 8 = .ok (.if_icmp .ne 9, 3) := by decide +kernel
theorem dX1_roomWith_11 : decode cX1_roomWith 11 = .ok (.iload_n 2, 1) := by decide +kernel
theorem dX1_roomWith_12 : decode cX1_roomWith 12 = .ok (.iload_n 1, 1) := by decide +kernel
theorem dX1_roomWith_13 : decode cX1_roomWith 13 = .ok (.ior, 1) := by decide +kernel
theorem dX1_roomWith_14 : decode cX1_roomWith 14 = .ok (.goto 4, 3) := by decide +kernel
theorem dX1_roomWith_17 : decode cX1_roomWith 17 = .ok (.iload_n 2, 1) := by decide +kernel
theorem dX1_roomWith_18 : decode cX1_roomWith 18 = .ok (.ireturn, 1) := by decide +kernel
theorem dX1_goer_0 : decode cX1_goer 0 = .ok (.iload_n 2, 1) := by decide +kernel
theorem dX1_goer_1 : decode cX1_goer 1 = .ok (.iload_n 1, 1) := by decide +kernel
theorem dX1_goer_2 : decode cX1_goer 2 = .ok (.invokestatic 37, 3) := by decide +kernel
theorem dX1_goer_5 : decode cX1_goer 5 = .ok (.ifCond .eq 21, 3) := by decide +kernel
theorem dX1_goer_8 : decode cX1_goer 8 = .ok (.iload_n 3, 1) := by decide +kernel
theorem dX1_goer_9 : decode cX1_goer 9 = .ok (.aload_n 0, 1) := by decide +kernel
theorem dX1_goer_10 : decode cX1_goer 10 = .ok (.iload_n 1, 1) := by decide +kernel
theorem dX1_goer_11 : decode cX1_goer 11 = .ok (.invokevirtual 85, 3) := by decide +kernel
theorem dX1_goer_14 : decode cX1_goer 14 = .ok (.invokestatic 37, 3) := by decide +kernel
theorem dX1_goer_17 : decode cX1_goer 17 = .ok (.ifCond .eq 9, 3) := by decide +kernel
theorem dX1_goer_20 : decode cX1_goer 20 = .ok (.iconst 1, 1) := by decide +kernel
theorem dX1_goer_21 : decode cX1_goer 21 = .ok (.iload_n 1, 1) := by decide +kernel
theorem dX1_goer_22 : decode cX1_goer 22 = .ok (.ishl, 1) := by decide +kernel
theorem dX1_goer_23 : decode cX1_goer 23 = .ok (.goto 4, 3) := by decide +kernel
theorem dX1_goer_26 : decode cX1_goer 26 = .ok (.iconst 0, 1) := by decide +kernel
theorem dX1_goer_27 : decode cX1_goer 27 = .ok (.ireturn, 1) := by decide +kernel
theorem dX1_moveThose_0 : decode cX1_moveThose 0 = .ok (.aload_n 0, 1) := by decide +kernel
theorem dX1_moveThose_1 : decode cX1_moveThose 1 = .ok (.iconst 0, 1) := by decide +kernel
theorem dX1_moveThose_2 : decode cX1_moveThose 2 = .ok (.putfield 28, 3) := by decide +kernel
theorem dX1_moveThose_5 : decode cX1_moveThose 5 = .ok (.aload_n 0, 1) := by decide +kernel
theorem dX1_moveThose_6 : decode cX1_moveThose 6 = .ok (.getfield 9, 3) := by decide +kernel
theorem dX1_moveThose_9 : decode cX1_moveThose 9 = .ok (.iconst 1, 1) := by decide +kernel
theorem dX1_moveThose_10 : decode cX1_moveThose 10 = .ok (.isub, 1) := by decide +kernel
theorem dX1_moveThose_11 : decode cX1_moveThose 11 = .ok (.istore_n 2, 1) := by decide +kernel
theorem dX1_moveThose_12 : decode cX1_moveThose 12 = .ok (.iload_n 2, 1) := by decide +kernel
theorem dX1_moveThose_13 : decode cX1_moveThose 13 = .ok (.ifCond .lt 22, 3) := by decide +kernel
theorem dX1_moveThose_16 : decode cX1_moveThose 16 = .ok (.iload_n 1, 1) := by decide +kernel
theorem dX1_moveThose_17 : decode cX1_moveThose 17 = .ok (.iload_n 2, 1) := by decide +kernel
theorem dX1_moveThose_18 : decode cX1_moveThose 18 = .ok (.invokestatic 37, 3) := by decide +kernel
theorem dX1_moveThose_21 : decode cX1_moveThose 21 = .ok (.ifCond .eq 8, 3) := by decide +kernel
theorem dX1_moveThose_24 : decode cX1_moveThose 24 = .ok (.aload_n 0, 1) := by decide +kernel
theorem dX1_moveThose_25 : decode cX1_moveThose 25 = .ok (.iload_n 2, 1) := by decide +kernel
theorem dX1_moveThose_26 : decode cX1_moveThose 26 = .ok (.invokevirtual 99, 3) := by decide +kernel
theorem dX1_moveThose_29 : decode cX1_moveThose 29 = .ok (.iinc 2 (-1), 3) := by decide +kernel
theorem dX1_moveThose_32 : decode cX1_moveThose 32 = .ok (.goto (-20), 3) := by decide +kernel
theorem dX1_moveThose_35 : decode cX1_moveThose 35 = .ok (.aload_n 0, 1) := by decide +kernel
theorem dX1_moveThose_36 : decode cX1_moveThose 36 = .ok (.getfield 18, 3) := by decide +kernel
theorem dX1_moveThose_39 : decode cX1_moveThose 39 = .ok (.iconst 1, 1) := by decide +kernel
theorem dX1_moveThose_40 : decode cX1_moveThose 40 = .ok (.isub, 1) := by decide +kernel
theorem dX1_moveThose_41 : decode cX1_moveThose 41 = .ok (.istore_n 2, 1) := by decide +kernel
theorem dX1_moveThose_42 : decode cX1_moveThose 42 = .ok (.iload_n 2, 1) := by decide +kernel
theorem dX1_moveThose_43 : decode cX1_moveThose 43 = .ok (.aload_n 0, 1) := by decide +kernel
theorem dX1_moveThose_44 : decode cX1_moveThose 44 = .ok (.getfield 9, 3) := by decide +kernel
theorem dX1_moveThose_47 : decode cX1_moveThose 47 = .ok (.if_icmp .lt 22, 3) := by decide +kernel
theorem dX1_moveThose_50 : decode cX1_moveThose 50 = .ok (.iload_n 1, 1) := by decide +kernel
theorem dX1_moveThose_51 : decode cX1_moveThose 51 = .ok (.iload_n 2, 1) := by decide +kernel
theorem dX1_moveThose_52 : decode cX1_moveThose 52 = .ok (.invokestatic 37, 3) := by decide +kernel
theorem dX1_moveThose_55 : decode cX1_moveThose 55 = .ok (.ifCond .eq 8, 3) := by decide +kernel
theorem dX1_moveThose_58 : decode cX1_moveThose 58 = .ok (.aload_n 0, 1) := by decide +kernel
theorem dX1_moveThose_59 : decode cX1_moveThose 59 = .ok (.iload_n 2, 1) := by decide +kernel
theorem dX1_moveThose_60 : decode cX1_moveThose 60 = .ok (.invokevirtual 99, 3) := by decide +kernel
theorem dX1_moveThose_63 : decode cX1_moveThose 63 = .ok (.iinc 2 (-1), 3) := by decide +kernel
theorem dX1_moveThose_66 : decode cX1_moveThose 66 = .ok (.goto (-24), 3) := by decide +kernel
theorem dX1_moveThose_69 : decode cX1_moveThose 69 = .ok (.return_, 1) := by decide +kernel
theorem dX1_handOn_0 : decode cX1_handOn 0 = .ok (.aload_n 0, 1) := by decide +kernel
theorem dX1_handOn_1 : decode cX1_handOn 1 = .ok (.getfield 24, 3) := by decide +kernel
theorem dX1_handOn_4 : decode cX1_handOn 4 = .ok (.bipush 36, 2) := by decide +kernel
theorem dX1_handOn_6 : decode cX1_handOn 6 = .ok (.iload_n 1, 1) := by decide +kernel
theorem dX1_handOn_7 : decode cX1_handOn 7 = .ok (.iadd, 1) := by decide +kernel
theorem dX1_handOn_8 : decode cX1_handOn 8 = .ok (.iconst 0, 1) := by decide +kernel
theorem dX1_handOn_9 : decode cX1_handOn 9 = .ok (.iastore, 1) := by decide +kernel
theorem dX1_handOn_10 : decode cX1_handOn 10 = .ok (.aload_n 0, 1) := by decide +kernel
theorem dX1_handOn_11 : decode cX1_handOn 11 = .ok (.iload_n 1, 1) := by decide +kernel
theorem dX1_handOn_12 : decode cX1_handOn 12 = .ok (.invokevirtual 49, 3) := by decide +kernel
theorem dX1_handOn_15 : decode cX1_handOn 15 = .ok (.ifCond .ne 4, 3) := by decide +kernel
theorem dX1_handOn_18 : decode cX1_handOn 18 = .ok (.return_, 1) := by decide +kernel
theorem dX1_handOn_19 : decode cX1_handOn 19 = .ok (.iload_n 1, 1) := by decide +kernel
theorem dX1_handOn_20 : decode cX1_handOn 20 = .ok (.aload_n 0, 1) := by decide +kernel
theorem dX1_handOn_21 : decode cX1_handOn 21 = .ok (.getfield 9, 3) := by decide +kernel
theorem dX1_handOn_24 : decode cX1_handOn 24 = .ok (.iconst 1, 1) := by decide +kernel
theorem dX1_handOn_25 : decode cX1_handOn 25 = .ok (.isub, 1) := by decide +kernel
theorem dX1_handOn_26 : decode cX1_handOn 26 = .ok (.if_icmp .ne 29, 3) := by decide +kernel
theorem dX1_handOn_29 : decode cX1_handOn 29 = .ok (.aload_n 0, 1) := by decide +kernel
theorem dX1_handOn_30 : decode cX1_handOn 30 = .ok (.aload_n 0, 1) := by decide +kernel
theorem dX1_handOn_31 : decode cX1_handOn 31 = .ok (.iconst 0, 1) := by decide +kernel
theorem dX1_handOn_32 : decode cX1_handOn 32 = .ok (.iload_n 1, 1) := by decide +kernel
theorem dX1_handOn_33 : decode cX1_handOn 33 = .ok (.iadd, 1) := by decide +kernel
theorem dX1_handOn_34 : decode cX1_handOn 34 = .ok (.iconst 0, 1) := by decide +kernel
theorem dX1_handOn_35 : decode cX1_handOn 35 = .ok (.invokevirtual 56, 3) := by decide +kernel
theorem dX1_handOn_38 : decode cX1_handOn 38 = .ok (.putfield 28, 3) := by decide +kernel
theorem dX1_handOn_41 : decode cX1_handOn 41 = .ok (.aload_n 0, 1) := by decide +kernel
theorem dX1_handOn_42 : decode cX1_handOn 42 = .ok (.getfield 24, 3) := by decide +kernel
theorem dX1_handOn_45 : decode cX1_handOn 45 = .ok (.bipush 55, 2) := by decide +kernel
theorem dX1_handOn_47 : decode cX1_handOn 47 = .ok (.dup2, 1) := by decide +kernel
theorem dX1_handOn_48 : decode cX1_handOn 48 = .ok (.iaload, 1) := by decide +kernel
theorem dX1_handOn_49 : decode cX1_handOn 49 = .ok (.iconst 1, 1) := by decide +kernel
theorem dX1_handOn_50 : decode cX1_handOn 50 = .ok (.iadd, 1) := by decide +kernel
theorem dX1_handOn_51 : decode cX1_handOn 51 = .ok (.iastore, 1) := by decide +kernel
theorem dX1_handOn_52 : decode cX1_handOn 52 = .ok (.goto 51, 3) := by decide +kernel
theorem dX1_handOn_55 : decode cX1_handOn 55 = .ok (.aload_n 0, 1) := by decide +kernel
theorem dX1_handOn_56 : decode cX1_handOn 56 = .ok (.aload_n 0, 1) := by decide +kernel
theorem dX1_handOn_57 : decode cX1_handOn 57 = .ok (.iload_n 1, 1) := by decide +kernel
theorem dX1_handOn_58 : decode cX1_handOn 58 = .ok (.invokevirtual 85, 3) := by decide +kernel
theorem dX1_handOn_61 : decode cX1_handOn 61 = .ok (.invokevirtual 49, 3) := by decide +kernel
theorem dX1_handOn_64 : decode cX1_handOn 64 = .ok (.ifCond .eq 19, 3) := by decide +kernel
theorem dX1_handOn_67 : decode cX1_handOn 67 = .ok (.aload_n 0, 1) := by decide +kernel
theorem dX1_handOn_68 : decode cX1_handOn 68 = .ok (.getfield 24, 3) := by decide +kernel
theorem dX1_handOn_71 : decode cX1_handOn 71 = .ok (.bipush 48, 2) := by decide +kernel
theorem dX1_handOn_73 : decode cX1_handOn 73 = .ok (.dup2, 1) := by decide +kernel
theorem dX1_handOn_74 : decode cX1_handOn 74 = .ok (.iaload, 1) := by decide +kernel
theorem dX1_handOn_75 : decode cX1_handOn 75 = .ok (.iconst 1, 1) := by decide +kernel
theorem dX1_handOn_76 : decode cX1_handOn 76 = .ok (.iload_n 1, 1) := by decide +kernel
theorem dX1_handOn_77 : decode cX1_handOn 77 = .ok (.ishl, 1) := by decide +kernel
theorem dX1_handOn_78 : decode cX1_handOn 78 = .ok (.ior, 1) := by decide +kernel
theorem dX1_handOn_79 : decode cX1_handOn 79 = .ok (.iastore, 1) := by decide +kernel
theorem dX1_handOn_80 : decode cX1_handOn 80 = .ok (.goto 23, 3) := by decide +kernel
theorem dX1_handOn_83 : decode cX1_handOn 83 = .ok (.aload_n 0, 1) := by decide +kernel
theorem dX1_handOn_84 : decode cX1_handOn 84 = .ok (.getfield 24, 3) := by decide +kernel
theorem dX1_handOn_87 : decode cX1_handOn 87 = .ok (.iconst 0, 1) := by decide +kernel
theorem dX1_handOn_88 : decode cX1_handOn 88 = .ok (.aload_n 0, 1) := by decide +kernel
theorem dX1_handOn_89 : decode cX1_handOn 89 = .ok (.iload_n 1, 1) := by decide +kernel
theorem dX1_handOn_90 : decode cX1_handOn 90 = .ok (.invokevirtual 85, 3) := by decide +kernel
theorem dX1_handOn_93 : decode cX1_handOn 93 = .ok (.iadd, 1) := by decide +kernel
theorem dX1_handOn_94 : decode cX1_handOn 94 = .ok (.aload_n 0, 1) := by decide +kernel
theorem dX1_handOn_95 : decode cX1_handOn 95 = .ok (.iconst 0, 1) := by decide +kernel
theorem dX1_handOn_96 : decode cX1_handOn 96 = .ok (.iload_n 1, 1) := by decide +kernel
theorem dX1_handOn_97 : decode cX1_handOn 97 = .ok (.iadd, 1) := by decide +kernel
theorem dX1_handOn_98 : decode cX1_handOn 98 = .ok (.iconst 0, 1) := by decide +kernel
theorem dX1_handOn_99 : decode cX1_handOn 99 = .ok (.invokevirtual 56, 3) := by decide +kernel
theorem dX1_handOn_102 : decode cX1_handOn 102 = .ok (.iastore, 1) := by decide +kernel
theorem dX1_handOn_103 : decode cX1_handOn 103 = .ok (.return_, 1) := by decide +kernel
theorem dX1_tellIdle_0 : decode cX1_tellIdle 0 = .ok (.aload_n 0, 1) := by decide +kernel
theorem dX1_tellIdle_1 : decode cX1_tellIdle 1 = .ok (.invokevirtual 63, 3) := by decide +kernel
theorem dX1_tellIdle_4 : decode cX1_tellIdle 4 = .ok (.istore_n 1, 1) := by decide +kernel
theorem dX1_tellIdle_5 : decode cX1_tellIdle 5 = .ok (.iconst 0, 1) := by decide +kernel
theorem dX1_tellIdle_6 : decode cX1_tellIdle 6 = .ok (.istore_n 2, 1) := by decide +kernel
theorem dX1_tellIdle_7 : decode cX1_tellIdle 7 = .ok (.iload_n 2, 1) := by decide +kernel
theorem dX1_tellIdle_8 : decode cX1_tellIdle 8 = .ok (.aload_n 0, 1) := by decide +kernel
theorem dX1_tellIdle_9 : decode cX1_tellIdle 9 = .ok (.getfield 18, 3) := by decide +kernel
theorem dX1_tellIdle_12 : decode cX1_tellIdle 12 = .ok (.if_icmp .ge 91, 3) := by decide +kernel
theorem dX1_tellIdle_15 : decode cX1_tellIdle 15 = .ok (.iload_n 1, 1) := by decide +kernel
theorem dX1_tellIdle_16 : decode cX1_tellIdle 16 = .ok (.iconst 1, 1) := by decide +kernel
theorem dX1_tellIdle_17 : decode cX1_tellIdle 17 = .ok (.iload_n 2, 1) := by decide +kernel
theorem dX1_tellIdle_18 : decode cX1_tellIdle 18 = .ok (.ishl, 1) := by decide +kernel
theorem dX1_tellIdle_19 : decode cX1_tellIdle 19 = .ok (.aload_n 0, 1) := by decide +kernel
theorem dX1_tellIdle_20 : decode cX1_tellIdle 20 = .ok (.iload_n 2, 1) := by decide +kernel
theorem dX1_tellIdle_21 : decode cX1_tellIdle 21 = .ok (.invokevirtual 102, 3) := by decide +kernel
theorem dX1_tellIdle_24 : decode cX1_tellIdle 24 = .ok (.ior, 1) := by decide +kernel
theorem dX1_tellIdle_25 : decode cX1_tellIdle 25 = .ok (.iand, 1) := by decide +kernel
theorem dX1_tellIdle_26 : decode cX1_tellIdle 26 = .ok (.ifCond .eq 16, 3) := by decide +kernel
theorem dX1_tellIdle_29 : decode cX1_tellIdle 29 = .ok (.aload_n 0, 1) := by decide +kernel
theorem dX1_tellIdle_30 : decode cX1_tellIdle 30 = .ok (.getfield 24, 3) := by decide +kernel
theorem dX1_tellIdle_33 : decode cX1_tellIdle 33 = .ok (.bipush 24, 2) := by decide +kernel
theorem dX1_tellIdle_35 : decode cX1_tellIdle 35 = .ok (.iload_n 2, 1) := by decide +kernel
theorem dX1_tellIdle_36 : decode cX1_tellIdle 36 = .ok (.iadd, 1) := by decide +kernel
theorem dX1_tellIdle_37 : decode cX1_tellIdle 37 = .ok (.iconst 0, 1) := by decide +kernel
theorem dX1_tellIdle_38 : decode cX1_tellIdle 38 = .ok (.iastore, 1) := by decide +kernel
theorem dX1_tellIdle_39 : decode cX1_tellIdle 39 = .ok (.goto 58, 3) := by decide +kernel
theorem dX1_tellIdle_42 : decode cX1_tellIdle 42 = .ok (.aload_n 0, 1) := by decide +kernel
theorem dX1_tellIdle_43 : decode cX1_tellIdle 43 = .ok (.getfield 24, 3) := by decide +kernel
theorem dX1_tellIdle_46 : decode cX1_tellIdle 46 = .ok (.bipush 24, 2) := by decide +kernel
theorem dX1_tellIdle_48 : decode cX1_tellIdle 48 = .ok (.iload_n 2, 1) := by decide +kernel
theorem dX1_tellIdle_49 : decode cX1_tellIdle 49 = .ok (.iadd, 1) := by decide +kernel
theorem dX1_tellIdle_50 : decode cX1_tellIdle 50 = .ok (.dup2, 1) := by decide +kernel
theorem dX1_tellIdle_51 : decode cX1_tellIdle 51 = .ok (.iaload, 1) := by decide +kernel
theorem dX1_tellIdle_52 : decode cX1_tellIdle 52 = .ok (.iconst 1, 1) := by decide +kernel
theorem dX1_tellIdle_53 : decode cX1_tellIdle 53 = .ok (.iadd, 1) := by decide +kernel
theorem dX1_tellIdle_54 : decode cX1_tellIdle 54 = .ok (.iastore, 1) := by decide +kernel
theorem dX1_tellIdle_55 : decode cX1_tellIdle 55 = .ok (.aload_n 0, 1) := by decide +kernel
theorem dX1_tellIdle_56 : decode cX1_tellIdle 56 = .ok (.getfield 24, 3) := by decide +kernel
theorem dX1_tellIdle_59 : decode cX1_tellIdle 59 = .ok (.bipush 52, 2) := by decide +kernel
theorem dX1_tellIdle_61 : decode cX1_tellIdle 61 = .ok (.iaload, 1) := by decide +kernel
theorem dX1_tellIdle_62 : decode cX1_tellIdle 62 = .ok (.ifCond .le 35, 3) := by decide +kernel
theorem dX1_tellIdle_65 : decode cX1_tellIdle 65 = .ok (.aload_n 0, 1) := by decide +kernel
theorem dX1_tellIdle_66 : decode cX1_tellIdle 66 = .ok (.getfield 24, 3) := by decide +kernel
theorem dX1_tellIdle_69 : decode cX1_tellIdle 69 = .ok (.bipush 24, 2) := by decide +kernel
theorem dX1_tellIdle_71 : decode cX1_tellIdle 71 = .ok (.iload_n 2, 1) := by decide +kernel
theorem dX1_tellIdle_72 : decode cX1_tellIdle 72 = .ok (.iadd, 1) := by decide +kernel
theorem dX1_tellIdle_73 : decode cX1_tellIdle 73 = .ok (.iaload, 1) := by decide +kernel
theorem dX1_tellIdle_74 : decode cX1_tellIdle 74 = .ok (.aload_n 0, 1) := by decide +kernel
theorem dX1_tellIdle_75 : decode cX1_tellIdle 75 = .ok (.getfield 24, 3) := by decide +kernel
theorem dX1_tellIdle_78 : decode cX1_tellIdle 78 = .ok (.bipush 52, 2) := by decide +kernel
theorem dX1_tellIdle_80 : decode cX1_tellIdle 80 = .ok (.iaload, 1) := by decide +kernel
theorem dX1_tellIdle_81 : decode cX1_tellIdle 81 = .ok (.if_icmp .lt 16, 3) := by decide +kernel
theorem dX1_tellIdle_84 : decode cX1_tellIdle 84 = .ok (.aload_n 0, 1) := by decide +kernel
theorem dX1_tellIdle_85 : decode cX1_tellIdle 85 = .ok (.getfield 24, 3) := by decide +kernel
theorem dX1_tellIdle_88 : decode cX1_tellIdle 88 = .ok (.bipush 49, 2) := by decide +kernel
theorem dX1_tellIdle_90 : decode cX1_tellIdle 90 = .ok (.dup2, 1) := by decide +kernel
theorem dX1_tellIdle_91 : decode cX1_tellIdle 91 = .ok (.iaload, 1) := by decide +kernel
theorem dX1_tellIdle_92 : decode cX1_tellIdle 92 = .ok (.iconst 1, 1) := by decide +kernel
theorem dX1_tellIdle_93 : decode cX1_tellIdle 93 = .ok (.iload_n 2, 1) := by decide +kernel
theorem dX1_tellIdle_94 : decode cX1_tellIdle 94 = .ok (.ishl, 1) := by decide +kernel
theorem dX1_tellIdle_95 : decode cX1_tellIdle 95 = .ok (.ior, 1) := by decide +kernel
theorem dX1_tellIdle_96 : decode cX1_tellIdle 96 = .ok (.iastore, 1) := by decide +kernel
theorem dX1_tellIdle_97 : decode cX1_tellIdle 97 = .ok (.iinc 2 1, 3) := by decide +kernel
theorem dX1_tellIdle_100 : decode cX1_tellIdle 100 = .ok (.goto (-93), 3) := by decide +kernel
theorem dX1_tellIdle_103 : decode cX1_tellIdle 103 = .ok (.return_, 1) := by decide +kernel
theorem dX2_init_0 : decode cX2_init 0 = .ok (.aload_n 0, 1) := by decide +kernel
theorem dX2_init_1 : decode cX2_init 1 = .ok (.invokespecial 1, 3) := by decide +kernel
theorem dX2_init_4 : decode cX2_init 4 = .ok (.aload_n 0, 1) := by decide +kernel
theorem dX2_init_5 : decode cX2_init 5 = .ok (.bipush 6, 2) := by decide +kernel
theorem dX2_init_7 : decode cX2_init 7 = .ok (.newarray .int, 2) := by decide +kernel
theorem dX2_init_9 : decode cX2_init 9 = .ok (.putfield 9, 3) := by decide +kernel
theorem dX2_init_12 : decode cX2_init 12 = .ok (.aload_n 0, 1) := by decide +kernel
theorem dX2_init_13 : decode cX2_init 13 = .ok (.bipush 6, 2) := by decide +kernel
theorem dX2_init_15 : decode cX2_init 15 = .ok (.newarray .int, 2) := by decide +kernel
theorem dX2_init_17 : decode cX2_init 17 = .ok (.putfield 13, 3) := by decide +kernel
theorem dX2_init_20 : decode cX2_init 20 = .ok (.aload_n 0, 1) := by decide +kernel
theorem dX2_init_21 : decode cX2_init 21 = .ok (.bipush 6, 2) := by decide +kernel
theorem dX2_init_23 : decode cX2_init 23 = .ok (.newarray .int, 2) := by decide +kernel
theorem dX2_init_25 : decode cX2_init 25 = .ok (.putfield 16, 3) := by decide +kernel
theorem dX2_init_28 : decode cX2_init 28 = .ok (.aload_n 0, 1) := by decide +kernel
theorem dX2_init_29 : decode cX2_init 29 = .ok (.iconst 0, 1) := by decide +kernel
theorem dX2_init_30 : decode cX2_init 30 = .ok (.putfield 19, 3) := by decide +kernel
theorem dX2_init_33 : decode cX2_init 33 = .ok (.return_, 1) := by decide +kernel
theorem dX2_append_0 : decode cX2_append 0 = .ok (.aload_n 0, 1) := by decide +kernel
theorem dX2_append_1 : decode cX2_append 1 = .ok (.getfield 19, 3) := by decide +kernel
theorem dX2_append_4 : decode cX2_append 4 = .ok (.bipush 6, 2) := by decide +kernel
theorem dX2_append_6 : decode cX2_append 6 = .ok (.if_icmp .lt 5, 3) := by decide +kernel
theorem dX2_append_9 : decode cX2_append 9 = .ok (.iconst 0, 1) := by decide +kernel
theorem dX2_append_10 : decode cX2_append 10 = .ok (.ireturn, 1) := by decide +kernel
theorem dX2_append_11 : decode cX2_append 11 = .ok (.aload_n 0, 1) := by decide +kernel
theorem dX2_append_12 : decode cX2_append 12 = .ok (.getfield 9, 3) := by decide +kernel
theorem dX2_append_15 : decode cX2_append 15 = .ok (.aload_n 0, 1) := by decide +kernel
theorem dX2_append_16 : decode cX2_append 16 = .ok (.getfield 19, 3) := by decide +kernel
theorem dX2_append_19 : decode cX2_append 19 = .ok (.iload_n 1, 1) := by decide +kernel
theorem dX2_append_20 : decode cX2_append 20 = .ok (.iastore, 1) := by decide +kernel
theorem dX2_append_21 : decode cX2_append 21 = .ok (.aload_n 0, 1) := by decide +kernel
theorem dX2_append_22 : decode cX2_append 22 = .ok (.getfield 13, 3) := by decide +kernel
theorem dX2_append_25 : decode cX2_append 25 = .ok (.aload_n 0, 1) := by decide +kernel
theorem dX2_append_26 : decode cX2_append 26 = .ok (.getfield 19, 3) := by decide +kernel
theorem dX2_append_29 : decode cX2_append 29 = .ok (.iload_n 2, 1) := by decide +kernel
theorem dX2_append_30 : decode cX2_append 30 = .ok (.iastore, 1) := by decide +kernel
theorem dX2_append_31 : decode cX2_append 31 = .ok (.aload_n 0, 1) := by decide +kernel
theorem dX2_append_32 : decode cX2_append 32 = .ok (.getfield 16, 3) := by decide +kernel
theorem dX2_append_35 : decode cX2_append 35 = .ok (.aload_n 0, 1) := by decide +kernel
theorem dX2_append_36 : decode cX2_append 36 = .ok (.getfield 19, 3) := by decide +kernel
theorem dX2_append_39 : decode cX2_append 39 = .ok (.iload_n 3, 1) := by decide +kernel
theorem dX2_append_40 : decode cX2_append 40 = .ok (.iastore, 1) := by decide +kernel
theorem dX2_append_41 : decode cX2_append 41 = .ok (.aload_n 0, 1) := by decide +kernel
theorem dX2_append_42 : decode cX2_append 42 = .ok (.dup, 1) := by decide +kernel
theorem dX2_append_43 : decode cX2_append 43 = .ok (.getfield 19, 3) := by decide +kernel
theorem dX2_append_46 : decode cX2_append 46 = .ok (.iconst 1, 1) := by decide +kernel
theorem dX2_append_47 : decode cX2_append 47 = .ok (.iadd, 1) := by decide +kernel
theorem dX2_append_48 : decode cX2_append 48 = .ok (.putfield 19, 3) := by decide +kernel
theorem dX2_append_51 : decode cX2_append 51 = .ok (.iconst 1, 1) := by decide +kernel
theorem dX2_append_52 : decode cX2_append 52 = .ok (.ireturn, 1) := by decide +kernel
theorem dX2_allSo_0 : decode cX2_allSo 0 = .ok (.aload_n 0, 1) := by decide +kernel
theorem dX2_allSo_1 : decode cX2_allSo 1 = .ok (.invokevirtual 23, 3) := by decide +kernel
theorem dX2_allSo_4 : decode cX2_allSo 4 = .ok (.istore_n 2, 1) := by decide +kernel
theorem dX2_allSo_5 : decode cX2_allSo 5 = .ok (.iconst 0, 1) := by decide +kernel
theorem dX2_allSo_6 : decode cX2_allSo 6 = .ok (.istore_n 3, 1) := by decide +kernel
theorem dX2_allSo_7 : decode cX2_allSo 7 = .ok (.iload_n 3, 1) := by decide +kernel
theorem dX2_allSo_8 : decode cX2_allSo 8 = .ok (.iload_n 2, 1) := by decide +kernel
theorem dX2_allSo_9 : decode cX2_allSo 9 = .ok (.if_icmp .gt 30, 3) := by decide +kernel
theorem dX2_allSo_12 : decode cX2_allSo 12 = .ok (.aload_n 0, 1) := by decide +kernel
theorem dX2_allSo_13 : decode cX2_allSo 13 = .ok (.iload_n 3, 1) := by decide +kernel
theorem dX2_allSo_14 : decode cX2_allSo 14 = .ok (.aload_n 1, 1) := by decide +kernel
theorem dX2_allSo_15 : decode cX2_allSo 15 = .ok (.getfield 27, 3) := by decide +kernel
theorem dX2_allSo_18 : decode cX2_allSo 18 = .ok (.bipush 55, 2) := by decide +kernel
theorem dX2_allSo_20 : decode cX2_allSo 20 = .ok (.iaload, 1) := by decide +kernel
theorem dX2_allSo_21 : decode cX2_allSo 21 = .ok (.invokevirtual 32, 3) := by decide +kernel
theorem dX2_allSo_24 : decode cX2_allSo 24 = .ok (.ifCond .ne 5, 3) := by decide +kernel
theorem dX2_allSo_27 : decode cX2_allSo 27 = .ok (.iconst 0, 1) := by decide +kernel
theorem dX2_allSo_28 : decode cX2_allSo 28 = .ok (.ireturn, 1) := by decide +kernel
theorem dX2_allSo_29 : decode cX2_allSo 29 = .ok (.aload_n 1, 1) := by decide +kernel
theorem dX2_allSo_30 : decode cX2_allSo 30 = .ok (.invokevirtual 36, 3) := by decide +kernel
theorem dX2_allSo_33 : decode cX2_allSo 33 = .ok (.iinc 3 1, 3) := by decide +kernel
theorem dX2_allSo_36 : decode cX2_allSo 36 = .ok (.goto (-29), 3) := by decide +kernel
theorem dX2_allSo_39 : decode cX2_allSo 39 = .ok (.iconst 1, 1) := by decide +kernel
theorem dX2_allSo_40 : decode cX2_allSo 40 = .ok (.ireturn, 1) := by decide +kernel
theorem dX2_latest_0 : decode cX2_latest 0 = .ok (.iconst (-1), 1) := by decide +kernel
theorem dX2_latest_1 : decode cX2_latest 1 = .ok (.istore_n 1, 1) := by decide +kernel
theorem dX2_latest_2 : decode cX2_latest 2 = .ok (.iconst 0, 1) := by decide +kernel
theorem dX2_latest_3 : decode cX2_latest 3 = .ok (.istore_n 2, 1) := by decide +kernel
theorem dX2_latest_4 : decode cX2_latest 4 = .ok (.iload_n 2, 1) := by decide +kernel
theorem dX2_latest_5 : decode cX2_latest 5 = .ok (.aload_n 0, 1) := by decide +kernel
theorem dX2_latest_6 : decode cX2_latest 6 = .ok (.getfield 19, 3) := by decide +kernel
theorem dX2_latest_9 : decode cX2_latest 9 = .ok (.if_icmp .ge 20, 3) := by decide +kernel
theorem dX2_latest_12 : decode cX2_latest 12 = .ok (.iload_n 1, 1) := by decide +kernel
theorem dX2_latest_13 : decode cX2_latest 13 = .ok (.aload_n 0, 1) := by decide +kernel
theorem dX2_latest_14 : decode cX2_latest 14 = .ok (.getfield 9, 3) := by decide +kernel
theorem dX2_latest_17 : decode cX2_latest 17 = .ok (.iload_n 2, 1) := by decide +kernel
theorem dX2_latest_18 : decode cX2_latest 18 = .ok (.iaload, 1) := by decide +kernel
theorem dX2_latest_19 : decode cX2_latest 19 = .ok (.invokestatic 39, 3) := by decide +kernel
theorem dX2_latest_22 : decode cX2_latest 22 = .ok (.istore_n 1, 1) := by decide +kernel
theorem dX2_latest_23 : decode cX2_latest 23 = .ok (.iinc 2 1, 3) := by decide +kernel
theorem dX2_latest_26 : decode cX2_latest 26 = .ok (.goto (-22), 3) := by decide +kernel
theorem dX2_latest_29 : decode cX2_latest 29 = .ok (.iload_n 1, 1) := by decide +kernel
theorem dX2_latest_30 : decode cX2_latest 30 = .ok (.ireturn, 1) := by decide +kernel
theorem dX2_soBehind_0 : decode cX2_soBehind 0 = .ok (.iconst 0, 1) := by decide +kernel
theorem dX2_soBehind_1 : decode cX2_soBehind 1 = .ok (.istore_n 3, 1) := by decide +kernel
theorem dX2_soBehind_2 : decode cX2_soBehind 2 = .ok (.iload_n 3, 1) := by decide +kernel
theorem dX2_soBehind_3 : decode cX2_soBehind 3 = .ok (.aload_n 0, 1) := by decide +kernel
theorem dX2_soBehind_4 : decode cX2_soBehind 4 = .ok (.getfield 19, 3) := by decide +kernel
theorem dX2_soBehind_7 : decode cX2_soBehind 7 = .ok (.if_icmp .ge 45, 3) := by decide +kernel
theorem dX2_soBehind_10 : decode cX2_soBehind 10 = .ok (.aload_n 0, 1) := by decide +kernel
theorem dX2_soBehind_11 : decode cX2_soBehind 11 = .ok (.getfield 9, 3) := by decide +kernel
theorem dX2_soBehind_14 : decode cX2_soBehind 14 = .ok (.iload_n 3, 1) := by decide +kernel
theorem dX2_soBehind_15 : decode cX2_soBehind 15 = .ok (.iaload, 1) := by decide +kernel
theorem dX2_soBehind_16 : decode cX2_soBehind 16 = .ok (.iload_n 1, 1) := by decide +kernel
theorem dX2_soBehind_17 : decode cX2_soBehind 17 = .ok (.if_icmp .ne 29, 3) := by decide +kernel
theorem dX2_soBehind_20 : decode cX2_soBehind 20 = .ok (.aload_n 0, 1) := by decide +kernel
theorem dX2_soBehind_21 : decode cX2_soBehind 21 = .ok (.getfield 13, 3) := by decide +kernel
theorem dX2_soBehind_24 : decode cX2_soBehind 24 = .ok (.iload_n 3, 1) := by decide +kernel
theorem dX2_soBehind_25 : decode cX2_soBehind 25 = .ok (.iaload, 1) := by decide +kernel
theorem dX2_soBehind_26 : decode cX2_soBehind 26 = .ok (.iload_n 2, 1) := by decide +kernel
theorem dX2_soBehind_27 : decode cX2_soBehind 27 = .ok (.if_icmp .ne 7, 3) := by decide +kernel
theorem dX2_soBehind_30 : decode cX2_soBehind 30 = .ok (.iconst 1, 1) := by decide +kernel
theorem dX2_soBehind_31 : decode cX2_soBehind 31 = .ok (.goto 4, 3) := by decide +kernel
theorem dX2_soBehind_34 : decode cX2_soBehind 34 = .ok (.iconst 0, 1) := by decide +kernel
theorem dX2_soBehind_35 : decode cX2_soBehind 35 = .ok (.aload_n 0, 1) := by decide +kernel
theorem dX2_soBehind_36 : decode cX2_soBehind 36 = .ok (.getfield 16, 3) := by decide +kernel
theorem dX2_soBehind_39 : decode cX2_soBehind 39 = .ok (.iload_n 3, 1) := by decide +kernel
theorem dX2_soBehind_40 : decode cX2_soBehind 40 = .ok (.iaload, 1) := by decide +kernel
theorem dX2_soBehind_41 : decode cX2_soBehind 41 = .ok (.if_icmp .eq 5, 3) := by decide +kernel
theorem dX2_soBehind_44 : decode cX2_soBehind 44 = .ok (.iconst 0, 1) := by decide +kernel
theorem dX2_soBehind_45 : decode cX2_soBehind 45 = .ok (.ireturn, 1) := by decide +kernel
theorem dX2_soBehind_46 : decode cX2_soBehind 46 = .ok (.iinc 3 1, 3) := by decide +kernel
theorem dX2_soBehind_49 : decode cX2_soBehind 49 = .ok (.goto (-47), 3) := by decide +kernel
theorem dX2_soBehind_52 : decode cX2_soBehind 52 = .ok (.iconst 1, 1) := by decide +kernel
theorem dX2_soBehind_53 : decode cX2_soBehind 53 = .ok (.ireturn, 1) := by decide +kernel
theorem dX3_init_0 : decode cX3_init 0 = .ok (.aload_n 0, 1) := by decide +kernel
theorem dX3_init_1 : decode cX3_init 1 = .ok (.invokespecial 1, 3) := by decide +kernel
theorem dX3_init_4 : decode cX3_init 4 = .ok (.aload_n 0, 1) := by decide +kernel
theorem dX3_init_5 : decode cX3_init 5 = .ok (.iconst 0, 1) := by decide +kernel
theorem dX3_init_6 : decode cX3_init 6 = .ok (.iload_n 1, 1) := by decide +kernel
theorem dX3_init_7 : decode cX3_init 7 = .ok (.invokestatic 7, 3) := by decide +kernel
theorem dX3_init_10 : decode cX3_init 10 = .ok (.putfield 13, 3) := by decide +kernel
theorem dX3_init_13 : decode cX3_init 13 = .ok (.aload_n 0, 1) := by decide +kernel
theorem dX3_init_14 : decode cX3_init 14 = .ok (.aload_n 0, 1) := by decide +kernel
theorem dX3_init_15 : decode cX3_init 15 = .ok (.getfield 13, 3) := by decide +kernel
theorem dX3_init_18 : decode cX3_init 18 = .ok (.bipush 57, 2) := by decide +kernel
theorem dX3_init_20 : decode cX3_init 20 = .ok (.imul, 1) := by decide +kernel
theorem dX3_init_21 : decode cX3_init 21 = .ok (.newarray .int, 2) := by decide +kernel
theorem dX3_init_23 : decode cX3_init 23 = .ok (.putfield 21, 3) := by decide +kernel
theorem dX3_init_26 : decode cX3_init 26 = .ok (.return_, 1) := by decide +kernel
theorem dX3_put_0 : decode cX3_put 0 = .ok (.iload_n 1, 1) := by decide +kernel
theorem dX3_put_1 : decode cX3_put 1 = .ok (.ifCond .lt 29, 3) := by decide +kernel
theorem dX3_put_4 : decode cX3_put 4 = .ok (.iload_n 1, 1) := by decide +kernel
theorem dX3_put_5 : decode cX3_put 5 = .ok (.aload_n 0, 1) := by decide +kernel
theorem dX3_put_6 : decode cX3_put 6 = .ok (.getfield 13, 3) := by decide +kernel
theorem dX3_put_9 : decode cX3_put 9 = .ok (.if_icmp .ge 21, 3) := by decide +kernel
theorem dX3_put_12 : decode cX3_put 12 = .ok (.aload_n 2, 1) := by decide +kernel
theorem dX3_put_13 : decode cX3_put 13 = .ok (.getfield 25, 3) := by decide +kernel
theorem dX3_put_16 : decode cX3_put 16 = .ok (.iconst 0, 1) := by decide +kernel
theorem dX3_put_17 : decode cX3_put 17 = .ok (.aload_n 0, 1) := by decide +kernel
theorem dX3_put_18 : decode cX3_put 18 = .ok (.getfield 21, 3) := by decide +kernel
theorem dX3_put_21 : decode cX3_put 21 = .ok (.iload_n 1, 1) := by decide +kernel
theorem dX3_put_22 : decode cX3_put 22 = .ok (.bipush 57, 2) := by decide +kernel
theorem dX3_put_24 : decode cX3_put 24 = .ok (.imul, 1) := by decide +kernel
theorem dX3_put_25 : decode cX3_put 25 = .ok (.bipush 57, 2) := by decide +kernel
theorem dX3_put_27 : decode cX3_put 27 = .ok (.invokestatic 26, 3) := by decide +kernel
theorem dX3_put_30 : decode cX3_put 30 = .ok (.return_, 1) := by decide +kernel
theorem dX3_get_0 : decode cX3_get 0 = .ok (.iload_n 1, 1) := by decide +kernel
theorem dX3_get_1 : decode cX3_get 1 = .ok (.ifCond .lt 29, 3) := by decide +kernel
theorem dX3_get_4 : decode cX3_get 4 = .ok (.iload_n 1, 1) := by decide +kernel
theorem dX3_get_5 : decode cX3_get 5 = .ok (.aload_n 0, 1) := by decide +kernel
theorem dX3_get_6 : decode cX3_get 6 = .ok (.getfield 13, 3) := by decide +kernel
theorem dX3_get_9 : decode cX3_get 9 = .ok (.if_icmp .ge 21, 3) := by decide +kernel
theorem dX3_get_12 : decode cX3_get 12 = .ok (.aload_n 0, 1) := by decide +kernel
theorem dX3_get_13 : decode cX3_get 13 = .ok (.getfield 21, 3) := by decide +kernel
theorem dX3_get_16 : decode cX3_get 16 = .ok (.iload_n 1, 1) := by decide +kernel
theorem dX3_get_17 : decode cX3_get 17 = .ok (.bipush 57, 2) := by decide +kernel
theorem dX3_get_19 : decode cX3_get 19 = .ok (.imul, 1) := by decide +kernel
theorem dX3_get_20 : decode cX3_get 20 = .ok (.aload_n 2, 1) := by decide +kernel
theorem dX3_get_21 : decode cX3_get 21 = .ok (.getfield 25, 3) := by decide +kernel
theorem dX3_get_24 : decode cX3_get 24 = .ok (.iconst 0, 1) := by decide +kernel
theorem dX3_get_25 : decode cX3_get 25 = .ok (.bipush 57, 2) := by decide +kernel
theorem dX3_get_27 : decode cX3_get 27 = .ok (.invokestatic 26, 3) := by decide +kernel
theorem dX3_get_30 : decode cX3_get 30 = .ok (.return_, 1) := by decide +kernel
theorem dX4_init_0 : decode cX4_init 0 = .ok (.aload_n 0, 1) := by decide +kernel
theorem dX4_init_1 : decode cX4_init 1 = .ok (.invokespecial 3, 3) := by decide +kernel
theorem dX4_init_4 : decode cX4_init 4 = .ok (.aload_n 0, 1) := by decide +kernel
theorem dX4_init_5 : decode cX4_init 5 = .ok (.bipush 40, 2) := by decide +kernel
theorem dX4_init_7 : decode cX4_init 7 = .ok (.newarray .int, 2) := by decide +kernel
theorem dX4_init_9 : decode cX4_init 9 = .ok (.putfield 11, 3) := by decide +kernel
theorem dX4_init_12 : decode cX4_init 12 = .ok (.aload_n 0, 1) := by decide +kernel
theorem dX4_init_13 : decode cX4_init 13 = .ok (.iconst 0, 1) := by decide +kernel
theorem dX4_init_14 : decode cX4_init 14 = .ok (.putfield 15, 3) := by decide +kernel
theorem dX4_init_17 : decode cX4_init 17 = .ok (.return_, 1) := by decide +kernel
theorem dX4_append_0 : decode cX4_append 0 = .ok (.aload_n 0, 1) := by decide +kernel
theorem dX4_append_1 : decode cX4_append 1 = .ok (.getfield 15, 3) := by decide +kernel
theorem dX4_append_4 : decode cX4_append 4 = .ok (.bipush 40, 2) := by decide +kernel
theorem dX4_append_6 : decode cX4_append 6 = .ok (.if_icmp .lt 5, 3) := by decide +kernel
theorem dX4_append_9 : decode cX4_append 9 = .ok (.iconst 0, 1) := by decide +kernel
theorem dX4_append_10 : decode cX4_append 10 = .ok (.ireturn, 1) := by decide +kernel
theorem dX4_append_11 : decode cX4_append 11 = .ok (.aload_n 0, 1) := by decide +kernel
theorem dX4_append_12 : decode cX4_append 12 = .ok (.getfield 11, 3) := by decide +kernel
theorem dX4_append_15 : decode cX4_append 15 = .ok (.aload_n 0, 1) := by decide +kernel
theorem dX4_append_16 : decode cX4_append 16 = .ok (.getfield 15, 3) := by decide +kernel
theorem dX4_append_19 : decode cX4_append 19 = .ok (.iload_n 1, 1) := by decide +kernel
theorem dX4_append_20 : decode cX4_append 20 = .ok (.iastore, 1) := by decide +kernel
theorem dX4_append_21 : decode cX4_append 21 = .ok (.aload_n 0, 1) := by decide +kernel
theorem dX4_append_22 : decode cX4_append 22 = .ok (.dup, 1) := by decide +kernel
theorem dX4_append_23 : decode cX4_append 23 = .ok (.getfield 15, 3) := by decide +kernel
theorem dX4_append_26 : decode cX4_append 26 = .ok (.iconst 1, 1) := by decide +kernel
theorem dX4_append_27 : decode cX4_append 27 = .ok (.iadd, 1) := by decide +kernel
theorem dX4_append_28 : decode cX4_append 28 = .ok (.putfield 15, 3) := by decide +kernel
theorem dX4_append_31 : decode cX4_append 31 = .ok (.iconst 1, 1) := by decide +kernel
theorem dX4_append_32 : decode cX4_append 32 = .ok (.ireturn, 1) := by decide +kernel
theorem dX4_firstFault_0 : decode cX4_firstFault 0 = .ok (.iconst 0, 1) := by decide +kernel
theorem dX4_firstFault_1 : decode cX4_firstFault 1 = .ok (.istore_n 1, 1) := by decide +kernel
theorem dX4_firstFault_2 : decode cX4_firstFault 2 = .ok (.iconst 0, 1) := by decide +kernel
theorem dX4_firstFault_3 : decode cX4_firstFault 3 = .ok (.istore_n 2, 1) := by decide +kernel
theorem dX4_firstFault_4 : decode cX4_firstFault 4 = .ok (.iload_n 2, 1) := by decide +kernel
theorem dX4_firstFault_5 : decode cX4_firstFault 5 = .ok (.aload_n 0, 1) := by decide +kernel
theorem dX4_firstFault_6 : decode cX4_firstFault 6 = .ok (.getfield 15, 3) := by decide +kernel
theorem dX4_firstFault_9 : decode cX4_firstFault 9 = .ok (.if_icmp .ge 43, 3) := by decide +kernel
theorem dX4_firstFault_12 : decode cX4_firstFault 12 = .ok (.aload_n 0, 1) := by decide +kernel
theorem dX4_firstFault_13 : decode cX4_firstFault 13 = .ok (.iload_n 2, 1) := by decide +kernel
theorem dX4_firstFault_14 : decode cX4_firstFault 14 = .ok (.iload_n 1, 1) := by decide +kernel
theorem dX4_firstFault_15 : decode cX4_firstFault 15 = .ok (.invokevirtual 19, 3) := by decide +kernel
theorem dX4_firstFault_18 : decode cX4_firstFault 18 = .ok (.ifCond .ne 5, 3) := by decide +kernel
theorem dX4_firstFault_21 : decode cX4_firstFault 21 = .ok (.iload_n 2, 1) := by decide +kernel
theorem dX4_firstFault_22 : decode cX4_firstFault 22 = .ok (.ireturn, 1) := by decide +kernel
theorem dX4_firstFault_23 : decode cX4_firstFault 23 = .ok (.iload_n 2, 1) := by decide +kernel
theorem dX4_firstFault_24 : decode cX4_firstFault 24 = .ok (.bipush 6, 2) := by decide +kernel
theorem dX4_firstFault_26 : decode cX4_firstFault 26 = .ok (.if_icmp .lt 20, 3) := by decide +kernel
theorem dX4_firstFault_29 : decode cX4_firstFault 29 = .ok (.iload_n 2, 1) := by decide +kernel
theorem dX4_firstFault_30 : decode cX4_firstFault 30 = .ok (.iconst 3, 1) := by decide +kernel
theorem dX4_firstFault_31 : decode cX4_firstFault 31 = .ok (.irem, 1) := by decide +kernel
theorem dX4_firstFault_32 : decode cX4_firstFault 32 = .ok (.iconst 2, 1) := by decide +kernel
theorem dX4_firstFault_33 : decode cX4_firstFault 33 = .ok (.if_icmp .ne 13, 3) := by decide +kernel
theorem dX4_firstFault_36 : decode cX4_firstFault 36 = .ok (.iload_n 1, 1) := by decide +kernel
theorem dX4_firstFault_37 : decode cX4_firstFault 37 = .ok (.iconst 1, 1) := by decide +kernel
theorem dX4_firstFault_38 : decode cX4_firstFault 38 = .ok (.aload_n 0, 1) := by decide +kernel
theorem dX4_firstFault_39 : decode cX4_firstFault 39 = .ok (.iload_n 2, 1) := by decide +kernel
theorem dX4_firstFault_40 : decode cX4_firstFault 40 = .ok (.invokevirtual 23, 3) := by decide +kernel
theorem dX4_firstFault_43 : decode cX4_firstFault 43 = .ok (.ishl, 1) := by decide +kernel
theorem dX4_firstFault_44 : decode cX4_firstFault 44 = .ok (.ior, 1) := by decide +kernel
theorem dX4_firstFault_45 : decode cX4_firstFault 45 = .ok (.istore_n 1, 1) := by decide +kernel
theorem dX4_firstFault_46 : decode cX4_firstFault 46 = .ok (.iinc 2 1, 3) := by decide +kernel
theorem dX4_firstFault_49 : decode cX4_firstFault 49 = .ok (.goto (-45), 3) := by decide +kernel
theorem dX4_firstFault_52 : decode cX4_firstFault 52 = .ok (.aload_n 0, 1) := by decide +kernel
theorem dX4_firstFault_53 : decode cX4_firstFault 53 = .ok (.getfield 15, 3) := by decide +kernel
theorem dX4_firstFault_56 : decode cX4_firstFault 56 = .ok (.bipush 6, 2) := by decide +kernel
theorem dX4_firstFault_58 : decode cX4_firstFault 58 = .ok (.if_icmp .lt 17, 3) := by decide +kernel
theorem dX4_firstFault_61 : decode cX4_firstFault 61 = .ok (.aload_n 0, 1) := by decide +kernel
theorem dX4_firstFault_62 : decode cX4_firstFault 62 = .ok (.getfield 15, 3) := by decide +kernel
theorem dX4_firstFault_65 : decode cX4_firstFault 65 = .ok (.iconst 3, 1) := by decide +kernel
theorem dX4_firstFault_66 : decode cX4_firstFault 66 = .ok (.irem, 1) := by decide +kernel
theorem dX4_firstFault_67 : decode cX4_firstFault 67 = .ok (.ifCond .ne 8, 3) := by decide +kernel
theorem dX4_firstFault_70 : decode cX4_firstFault 70 = .ok (.bipush (-9), 2) := by decide +kernel
theorem dX4_firstFault_72 : decode cX4_firstFault 72 = .ok (.goto 7, 3) := by decide +kernel
theorem dX4_firstFault_75 : decode cX4_firstFault 75 = .ok (.aload_n 0, 1) := by decide +kernel
theorem dX4_firstFault_76 : decode cX4_firstFault 76 = .ok (.getfield 15, 3) := by decide +kernel
theorem dX4_firstFault_79 : decode cX4_firstFault 79 = .ok (.ireturn, 1) := by decide +kernel
theorem dX4_layOut_0 : decode cX4_layOut 0 = .ok (.aload_n 1, 1) := by decide +kernel
theorem dX4_layOut_1 : decode cX4_layOut 1 = .ok (.aload_n 0, 1) := by decide +kernel
theorem dX4_layOut_2 : decode cX4_layOut 2 = .ok (.iconst 1, 1) := by decide +kernel
theorem dX4_layOut_3 : decode cX4_layOut 3 = .ok (.invokevirtual 27, 3) := by decide +kernel
theorem dX4_layOut_6 : decode cX4_layOut 6 = .ok (.aload_n 0, 1) := by decide +kernel
theorem dX4_layOut_7 : decode cX4_layOut 7 = .ok (.iconst 2, 1) := by decide +kernel
theorem dX4_layOut_8 : decode cX4_layOut 8 = .ok (.invokevirtual 27, 3) := by decide +kernel
theorem dX4_layOut_11 : decode cX4_layOut 11 = .ok (.aload_n 0, 1) := by decide +kernel
theorem dX4_layOut_12 : decode cX4_layOut 12 = .ok (.iconst 3, 1) := by decide +kernel
theorem dX4_layOut_13 : decode cX4_layOut 13 = .ok (.invokevirtual 27, 3) := by decide +kernel
theorem dX4_layOut_16 : decode cX4_layOut 16 = .ok (.invokevirtual 30, 3) := by decide +kernel
theorem dX4_layOut_19 : decode cX4_layOut 19 = .ok (.aload_n 1, 1) := by decide +kernel
theorem dX4_layOut_20 : decode cX4_layOut 20 = .ok (.getfield 36, 3) := by decide +kernel
theorem dX4_layOut_23 : decode cX4_layOut 23 = .ok (.bipush 51, 2) := by decide +kernel
theorem dX4_layOut_25 : decode cX4_layOut 25 = .ok (.aload_n 0, 1) := by decide +kernel
theorem dX4_layOut_26 : decode cX4_layOut 26 = .ok (.iconst 4, 1) := by decide +kernel
theorem dX4_layOut_27 : decode cX4_layOut 27 = .ok (.invokevirtual 27, 3) := by decide +kernel
theorem dX4_layOut_30 : decode cX4_layOut 30 = .ok (.iastore, 1) := by decide +kernel
theorem dX4_layOut_31 : decode cX4_layOut 31 = .ok (.aload_n 1, 1) := by decide +kernel
theorem dX4_layOut_32 : decode cX4_layOut 32 = .ok (.getfield 36, 3) := by decide +kernel
theorem dX4_layOut_35 : decode cX4_layOut 35 = .ok (.bipush 52, 2) := by decide +kernel
theorem dX4_layOut_37 : decode cX4_layOut 37 = .ok (.aload_n 0, 1) := by decide +kernel
theorem dX4_layOut_38 : decode cX4_layOut 38 = .ok (.iconst 5, 1) := by decide +kernel
theorem dX4_layOut_39 : decode cX4_layOut 39 = .ok (.invokevirtual 27, 3) := by decide +kernel
theorem dX4_layOut_42 : decode cX4_layOut 42 = .ok (.iastore, 1) := by decide +kernel
theorem dX4_layOut_43 : decode cX4_layOut 43 = .ok (.bipush 8, 2) := by decide +kernel
theorem dX4_layOut_45 : decode cX4_layOut 45 = .ok (.istore_n 2, 1) := by decide +kernel
theorem dX4_layOut_46 : decode cX4_layOut 46 = .ok (.iload_n 2, 1) := by decide +kernel
theorem dX4_layOut_47 : decode cX4_layOut 47 = .ok (.aload_n 0, 1) := by decide +kernel
theorem dX4_layOut_48 : decode cX4_layOut 48 = .ok (.getfield 15, 3) := by decide +kernel
theorem dX4_layOut_51 : decode cX4_layOut 51 = .ok (.if_icmp .ge 29, 3) := by decide +kernel
theorem dX4_layOut_54 : decode cX4_layOut 54 = .ok (.aload_n 0, 1) := by decide +kernel
theorem dX4_layOut_55 : decode cX4_layOut 55 = .ok (.iload_n 2, 1) := by decide +kernel
theorem dX4_layOut_56 : decode cX4_layOut 56 = .ok (.invokevirtual 23, 3) := by decide +kernel
theorem dX4_layOut_59 : decode cX4_layOut 59 = .ok (.istore_n 3, 1) := by decide +kernel
theorem dX4_layOut_60 : decode cX4_layOut 60 = .ok (.aload_n 1, 1) := by decide +kernel
theorem dX4_layOut_61 : decode cX4_layOut 61 = .ok (.iload_n 3, 1) := by decide +kernel
theorem dX4_layOut_62 : decode cX4_layOut 62 = .ok (.invokevirtual 39, 3) := by decide +kernel
theorem dX4_layOut_65 : decode cX4_layOut 65 = .ok (.ifCond .eq 9, 3) := by decide +kernel
theorem dX4_layOut_68 : decode cX4_layOut 68 = .ok (.aload_n 1, 1) := by decide +kernel
theorem dX4_layOut_69 : decode cX4_layOut 69 = .ok (.iload_n 3, 1) := by decide +kernel
theorem dX4_layOut_70 : decode cX4_layOut 70 = .ok (.invokevirtual 43, 3) := by decide +kernel
theorem dX4_layOut_73 : decode cX4_layOut 73 = .ok (.pop, 1) := by decide +kernel
theorem dX4_layOut_74 : decode cX4_layOut 74 = .ok (.iinc 2 3, 3) := by decide +kernel
theorem dX4_layOut_77 : decode cX4_layOut 77 = .ok (.goto (-31), 3) := by decide +kernel
theorem dX4_layOut_80 : decode cX4_layOut 80 = .ok (.return_, 1) := by decide +kernel
theorem dX4_figure_0 : decode cX4_figure 0 = .ok (.aload_n 0, 1) := by decide +kernel
theorem dX4_figure_1 : decode cX4_figure 1 = .ok (.getfield 11, 3) := by decide +kernel
theorem dX4_figure_4 : decode cX4_figure 4 = .ok (.iload_n 1, 1) := by decide +kernel
theorem dX4_figure_5 : decode cX4_figure 5 = .ok (.iaload, 1) := by decide +kernel
theorem dX4_figure_6 : decode cX4_figure 6 = .ok (.bipush 48, 2) := by decide +kernel
theorem dX4_figure_8 : decode cX4_figure 8 = .ok (.isub, 1) := by decide +kernel
theorem dX4_figure_9 : decode cX4_figure 9 = .ok (.ireturn, 1) := by decide +kernel
theorem dX4_zoneEndingAt_0 : decode cX4_zoneEndingAt 0 = .ok (.aload_n 0, 1) := by decide +kernel
theorem dX4_zoneEndingAt_1 : decode cX4_zoneEndingAt 1 = .ok (.iload_n 1, 1) := by decide +kernel
theorem dX4_zoneEndingAt_2 : decode cX4_zoneEndingAt 2 = .ok (.iconst 1, 1) := by decide +kernel
theorem dX4_zoneEndingAt_3 : decode cX4_zoneEndingAt 3 = .ok (.isub, 1) := by decide +kernel
theorem dX4_zoneEndingAt_4 : decode cX4_zoneEndingAt 4 = .ok (.invokevirtual 27, 3) := by decide +kernel
theorem dX4_zoneEndingAt_7 : decode cX4_zoneEndingAt 7 = .ok (.bipush 10, 2) := by decide +kernel
theorem dX4_zoneEndingAt_9 : decode cX4_zoneEndingAt 9 = .ok (.imul, 1) := by decide +kernel
theorem dX4_zoneEndingAt_10 : decode cX4_zoneEndingAt 10 = .ok (.aload_n 0, 1) := by decide +kernel
theorem dX4_zoneEndingAt_11 : decode cX4_zoneEndingAt 11 = .ok (.iload_n 1, 1) := by decide +kernel
theorem dX4_zoneEndingAt_12 : decode cX4_zoneEndingAt 12 = .ok (.invokevirtual 27, 3) := by decide +kernel
theorem dX4_zoneEndingAt_15 : decode cX4_zoneEndingAt 15 = .ok (.iadd, 1) := by decide +kernel
theorem dX4_zoneEndingAt_16 : decode cX4_zoneEndingAt 16 = .ok (.ireturn, 1) := by decide +kernel
theorem dX4_fits_0 : decode cX4_fits 0 = .ok (.iload_n 1, 1) := by decide +kernel
theorem dX4_fits_1 : decode cX4_fits 1 = .ok (.tableswitch 104 0 5 #[39, 56, 65, 73, 87, 95], 39) := by decide +kernel
theorem dX4_fits_40 : decode cX4_fits 40 = .ok (.aload_n 0, 1) := by decide +kernel
theorem dX4_fits_41 : decode cX4_fits 41 = .ok (.getfield 11, 3) := by decide +kernel
theorem dX4_fits_44 : decode cX4_fits 44 = .ok (.iload_n 1, 1) := by decide +kernel
theorem dX4_fits_45 : decode cX4_fits 45 = .ok (.iaload, 1) := by decide +kernel
theorem dX4_fits_46 : decode cX4_fits 46 = .ok (.bipush 90, 2) := by decide +kernel
theorem dX4_fits_48 : decode cX4_fits 48 = .ok (.if_icmp .ne 7, 3) := by decide +kernel
theorem dX4_fits_51 : decode cX4_fits 51 = .ok (.iconst 1, 1) := by decide +kernel
theorem dX4_fits_52 : decode cX4_fits 52 = .ok (.goto 4, 3) := by decide +kernel
theorem dX4_fits_55 : decode cX4_fits 55 = .ok (.iconst 0, 1) := by decide +kernel
theorem dX4_fits_56 : decode cX4_fits 56 = .ok (.ireturn, 1) := by decide +kernel
theorem dX4_fits_57 : decode cX4_fits 57 = .ok (.aload_n 0, 1) := by decide +kernel
theorem dX4_fits_58 : decode cX4_fits 58 = .ok (.iload_n 1, 1) := by decide +kernel
theorem dX4_fits_59 : decode cX4_fits 59 = .ok (.iconst 2, 1) := by decide +kernel
theorem dX4_fits_60 : decode cX4_fits 60 = .ok (.bipush 8, 2) := by decide +kernel
theorem dX4_fits_62 : decode cX4_fits 62 = .ok (.invokevirtual 46, 3) := by decide +kernel
theorem dX4_fits_65 : decode cX4_fits 65 = .ok (.ireturn, 1) := by decide +kernel
theorem dX4_fits_66 : decode cX4_fits 66 = .ok (.aload_n 0, 1) := by decide +kernel
theorem dX4_fits_67 : decode cX4_fits 67 = .ok (.iload_n 1, 1) := by decide +kernel
theorem dX4_fits_68 : decode cX4_fits 68 = .ok (.iconst 0, 1) := by decide +kernel
theorem dX4_fits_69 : decode cX4_fits 69 = .ok (.iconst 4, 1) := by decide +kernel
theorem dX4_fits_70 : decode cX4_fits 70 = .ok (.invokevirtual 46, 3) := by decide +kernel
theorem dX4_fits_73 : decode cX4_fits 73 = .ok (.ireturn, 1) := by decide +kernel
theorem dX4_fits_74 : decode cX4_fits 74 = .ok (.aload_n 0, 1) := by decide +kernel
theorem dX4_fits_75 : decode cX4_fits 75 = .ok (.iload_n 1, 1) := by decide +kernel
theorem dX4_fits_76 : decode cX4_fits 76 = .ok (.iconst 1, 1) := by decide +kernel
theorem dX4_fits_77 : decode cX4_fits 77 = .ok (.aload_n 0, 1) := by decide +kernel
theorem dX4_fits_78 : decode cX4_fits 78 = .ok (.iconst 1, 1) := by decide +kernel
theorem dX4_fits_79 : decode cX4_fits 79 = .ok (.invokevirtual 27, 3) := by decide +kernel
theorem dX4_fits_82 : decode cX4_fits 82 = .ok (.iconst 1, 1) := by decide +kernel
theorem dX4_fits_83 : decode cX4_fits 83 = .ok (.isub, 1) := by decide +kernel
theorem dX4_fits_84 : decode cX4_fits 84 = .ok (.invokevirtual 46, 3) := by decide +kernel
theorem dX4_fits_87 : decode cX4_fits 87 = .ok (.ireturn, 1) := by decide +kernel
theorem dX4_fits_88 : decode cX4_fits 88 = .ok (.aload_n 0, 1) := by decide +kernel
theorem dX4_fits_89 : decode cX4_fits 89 = .ok (.iload_n 1, 1) := by decide +kernel
theorem dX4_fits_90 : decode cX4_fits 90 = .ok (.iconst 0, 1) := by decide +kernel
theorem dX4_fits_91 : decode cX4_fits 91 = .ok (.iconst 1, 1) := by decide +kernel
theorem dX4_fits_92 : decode cX4_fits 92 = .ok (.invokevirtual 46, 3) := by decide +kernel
theorem dX4_fits_95 : decode cX4_fits 95 = .ok (.ireturn, 1) := by decide +kernel
theorem dX4_fits_96 : decode cX4_fits 96 = .ok (.aload_n 0, 1) := by decide +kernel
theorem dX4_fits_97 : decode cX4_fits 97 = .ok (.iload_n 1, 1) := by decide +kernel
theorem dX4_fits_98 : decode cX4_fits 98 = .ok (.iconst 0, 1) := by decide +kernel
theorem dX4_fits_99 : decode cX4_fits 99 = .ok (.bipush 9, 2) := by decide +kernel
theorem dX4_fits_101 : decode cX4_fits 101 = .ok (.invokevirtual 46, 3) := by decide +kernel
theorem dX4_fits_104 : decode cX4_fits 104 = .ok (.ireturn, 1) := by decide +kernel
theorem dX4_fits_105 : decode cX4_fits 105 = .ok (.aload_n 0, 1) := by decide +kernel
theorem dX4_fits_106 : decode cX4_fits 106 = .ok (.iload_n 1, 1) := by decide +kernel
theorem dX4_fits_107 : decode cX4_fits 107 = .ok (.iload_n 2, 1) := by decide +kernel
theorem dX4_fits_108 : decode cX4_fits 108 = .ok (.iconst (-1), 1) := by decide +kernel
theorem dX4_fits_109 : decode cX4_fits 109 = .ok (.ixor, 1) := by decide +kernel
theorem dX4_fits_110 : decode cX4_fits 110 = .ok (.iconst 1, 1) := by decide +kernel
theorem dX4_fits_111 : decode cX4_fits 111 = .ok (.aload_n 0, 1) := by decide +kernel
theorem dX4_fits_112 : decode cX4_fits 112 = .ok (.iconst 1, 1) := by decide +kernel
theorem dX4_fits_113 : decode cX4_fits 113 = .ok (.invokevirtual 27, 3) := by decide +kernel
theorem dX4_fits_116 : decode cX4_fits 116 = .ok (.aload_n 0, 1) := by decide +kernel
theorem dX4_fits_117 : decode cX4_fits 117 = .ok (.iconst 2, 1) := by decide +kernel
theorem dX4_fits_118 : decode cX4_fits 118 = .ok (.invokevirtual 27, 3) := by decide +kernel
theorem dX4_fits_121 : decode cX4_fits 121 = .ok (.iadd, 1) := by decide +kernel
theorem dX4_fits_122 : decode cX4_fits 122 = .ok (.ishl, 1) := by decide +kernel
theorem dX4_fits_123 : decode cX4_fits 123 = .ok (.iconst 1, 1) := by decide +kernel
theorem dX4_fits_124 : decode cX4_fits 124 = .ok (.isub, 1) := by decide +kernel
theorem dX4_fits_125 : decode cX4_fits 125 = .ok (.iand, 1) := by decide +kernel
theorem dX4_fits_126 : decode cX4_fits 126 = .ok (.invokevirtual 50, 3) := by decide +kernel
theorem dX4_fits_129 : decode cX4_fits 129 = .ok (.ireturn, 1) := by decide +kernel
theorem dX4_isFigure_0 : decode cX4_isFigure 0 = .ok (.aload_n 0, 1) := by decide +kernel
theorem dX4_isFigure_1 : decode cX4_isFigure 1 = .ok (.iload_n 1, 1) := by decide +kernel
theorem dX4_isFigure_2 : decode cX4_isFigure 2 = .ok (.invokevirtual 27, 3) := by decide +kernel
theorem dX4_isFigure_5 : decode cX4_isFigure 5 = .ok (.iload_n 2, 1) := by decide +kernel
theorem dX4_isFigure_6 : decode cX4_isFigure 6 = .ok (.if_icmp .lt 16, 3) := by decide +kernel
theorem dX4_isFigure_9 : decode cX4_isFigure 9 = .ok (.aload_n 0, 1) := by decide +kernel
theorem dX4_isFigure_10 : decode cX4_isFigure 10 = .ok (.iload_n 1, 1) := by decide +kernel
theorem dX4_isFigure_11 : decode cX4_isFigure 11 = .ok (.invokevirtual 27, 3) := by decide +kernel
theorem dX4_isFigure_14 : decode cX4_isFigure 14 = .ok (.iload_n 3, 1) := by decide +kernel
theorem dX4_isFigure_15 : decode cX4_isFigure 15 = .ok (.if_icmp .gt 7, 3) := by decide +kernel
theorem dX4_isFigure_18 : decode cX4_isFigure 18 = .ok (.iconst 1, 1) := by decide +kernel
theorem dX4_isFigure_19 : decode cX4_isFigure 19 = .ok (.goto 4, 3) := by decide +kernel
theorem dX4_isFigure_22 : decode cX4_isFigure 22 = .ok (.iconst 0, 1) := by decide +kernel
theorem dX4_isFigure_23 : decode cX4_isFigure 23 = .ok (.ireturn, 1) := by decide +kernel
theorem dX4_fitsCarton_0 : decode cX4_fitsCarton 0 = .ok (.iload_n 1, 1) := by decide +kernel
theorem dX4_fitsCarton_1 : decode cX4_fitsCarton 1 = .ok (.iconst 3, 1) := by decide +kernel
theorem dX4_fitsCarton_2 : decode cX4_fitsCarton 2 = .ok (.irem, 1) := by decide +kernel
theorem dX4_fitsCarton_3 : decode cX4_fitsCarton 3 = .ok (.lookupswitch 79 #[(0, 25), (1, 46)], 25) := by decide +kernel
theorem dX4_fitsCarton_28 : decode cX4_fitsCarton 28 = .ok (.aload_n 0, 1) := by decide +kernel
theorem dX4_fitsCarton_29 : decode cX4_fitsCarton 29 = .ok (.getfield 11, 3) := by decide +kernel
theorem dX4_fitsCarton_32 : decode cX4_fitsCarton 32 = .ok (.iload_n 1, 1) := by decide +kernel
theorem dX4_fitsCarton_33 : decode cX4_fitsCarton 33 = .ok (.iaload, 1) := by decide +kernel
theorem dX4_fitsCarton_34 : decode cX4_fitsCarton 34 = .ok (.bipush 99, 2) := by decide +kernel
theorem dX4_fitsCarton_36 : decode cX4_fitsCarton 36 = .ok (.if_icmp .ne 11, 3) := by decide +kernel
theorem dX4_fitsCarton_39 : decode cX4_fitsCarton 39 = .ok (.iload_n 2, 1) := by decide +kernel
theorem dX4_fitsCarton_40 : decode cX4_fitsCarton 40 = .ok (.ifCond .eq 7, 3) := by decide +kernel
theorem dX4_fitsCarton_43 : decode cX4_fitsCarton 43 = .ok (.iconst 1, 1) := by decide +kernel
theorem dX4_fitsCarton_44 : decode cX4_fitsCarton 44 = .ok (.goto 4, 3) := by decide +kernel
theorem dX4_fitsCarton_47 : decode cX4_fitsCarton 47 = .ok (.iconst 0, 1) := by decide +kernel
theorem dX4_fitsCarton_48 : decode cX4_fitsCarton 48 = .ok (.ireturn, 1) := by decide +kernel
theorem dX4_fitsCarton_49 : decode cX4_fitsCarton 49 = .ok (.aload_n 0, 1) := by decide +kernel
theorem dX4_fitsCarton_50 : decode cX4_fitsCarton 50 = .ok (.iload_n 1, 1) := by decide +kernel
theorem dX4_fitsCarton_51 : decode cX4_fitsCarton 51 = .ok (.iconst 0, 1) := by decide +kernel
theorem dX4_fitsCarton_52 : decode cX4_fitsCarton 52 = .ok (.iconst 1, 1) := by decide +kernel
theorem dX4_fitsCarton_53 : decode cX4_fitsCarton 53 = .ok (.invokevirtual 46, 3) := by decide +kernel
theorem dX4_fitsCarton_56 : decode cX4_fitsCarton 56 = .ok (.ifCond .eq 24, 3) := by decide +kernel
theorem dX4_fitsCarton_59 : decode cX4_fitsCarton 59 = .ok (.iload_n 2, 1) := by decide +kernel
theorem dX4_fitsCarton_60 : decode cX4_fitsCarton 60 = .ok (.aload_n 0, 1) := by decide +kernel
theorem dX4_fitsCarton_61 : decode cX4_fitsCarton 61 = .ok (.iload_n 1, 1) := by decide +kernel
theorem dX4_fitsCarton_62 : decode cX4_fitsCarton 62 = .ok (.invokevirtual 27, 3) := by decide +kernel
theorem dX4_fitsCarton_65 : decode cX4_fitsCarton 65 = .ok (.bipush 10, 2) := by decide +kernel
theorem dX4_fitsCarton_67 : decode cX4_fitsCarton 67 = .ok (.imul, 1) := by decide +kernel
theorem dX4_fitsCarton_68 : decode cX4_fitsCarton 68 = .ok (.ishr, 1) := by decide +kernel
theorem dX4_fitsCarton_69 : decode cX4_fitsCarton 69 = .ok (.sipush 1023, 3) := by decide +kernel
theorem dX4_fitsCarton_72 : decode cX4_fitsCarton 72 = .ok (.iand, 1) := by decide +kernel
theorem dX4_fitsCarton_73 : decode cX4_fitsCarton 73 = .ok (.ifCond .eq 7, 3) := by decide +kernel
theorem dX4_fitsCarton_76 : decode cX4_fitsCarton 76 = .ok (.iconst 1, 1) := by decide +kernel
theorem dX4_fitsCarton_77 : decode cX4_fitsCarton 77 = .ok (.goto 4, 3) := by decide +kernel
theorem dX4_fitsCarton_80 : decode cX4_fitsCarton 80 = .ok (.iconst 0, 1) := by decide +kernel
theorem dX4_fitsCarton_81 : decode cX4_fitsCarton 81 = .ok (.ireturn, 1) := by decide +kernel
theorem dX4_fitsCarton_82 : decode cX4_fitsCarton 82 = .ok (.aload_n 0, 1) := by decide +kernel
theorem dX4_fitsCarton_83 : decode cX4_fitsCarton 83 = .ok (.iload_n 1, 1) := by decide +kernel
theorem dX4_fitsCarton_84 : decode cX4_fitsCarton 84 = .ok (.iconst 0, 1) := by decide +kernel
theorem dX4_fitsCarton_85 : decode cX4_fitsCarton 85 = .ok (.bipush 9, 2) := by decide +kernel
theorem dX4_fitsCarton_87 : decode cX4_fitsCarton 87 = .ok (.invokevirtual 46, 3) := by decide +kernel
theorem dX4_fitsCarton_90 : decode cX4_fitsCarton 90 = .ok (.ifCond .eq 19, 3) := by decide +kernel
theorem dX4_fitsCarton_93 : decode cX4_fitsCarton 93 = .ok (.iload_n 2, 1) := by decide +kernel
theorem dX4_fitsCarton_94 : decode cX4_fitsCarton 94 = .ok (.aload_n 0, 1) := by decide +kernel
theorem dX4_fitsCarton_95 : decode cX4_fitsCarton 95 = .ok (.iload_n 1, 1) := by decide +kernel
theorem dX4_fitsCarton_96 : decode cX4_fitsCarton 96 = .ok (.invokevirtual 23, 3) := by decide +kernel
theorem dX4_fitsCarton_99 : decode cX4_fitsCarton 99 = .ok (.invokestatic 53, 3) := by decide +kernel
theorem dX4_fitsCarton_102 : decode cX4_fitsCarton 102 = .ok (.ifCond .eq 7, 3) := by decide +kernel
theorem dX4_fitsCarton_105 : decode cX4_fitsCarton 105 = .ok (.iconst 1, 1) := by decide +kernel
theorem dX4_fitsCarton_106 : decode cX4_fitsCarton 106 = .ok (.goto 4, 3) := by decide +kernel
theorem dX4_fitsCarton_109 : decode cX4_fitsCarton 109 = .ok (.iconst 0, 1) := by decide +kernel
theorem dX4_fitsCarton_110 : decode cX4_fitsCarton 110 = .ok (.ireturn, 1) := by decide +kernel
theorem dX5_init_0 : decode cX5_init 0 = .ok (.aload_n 0, 1) := by decide +kernel
theorem dX5_init_1 : decode cX5_init 1 = .ok (.invokespecial 1, 3) := by decide +kernel
theorem dX5_init_4 : decode cX5_init 4 = .ok (.aload_n 0, 1) := by decide +kernel
theorem dX5_init_5 : decode cX5_init 5 = .ok (.new 7, 3) := by decide +kernel
theorem dX5_init_8 : decode cX5_init 8 = .ok (.dup, 1) := by decide +kernel
theorem dX5_init_9 : decode cX5_init 9 = .ok (.invokespecial 9, 3) := by decide +kernel
theorem dX5_init_12 : decode cX5_init 12 = .ok (.putfield 10, 3) := by decide +kernel
theorem dX5_init_15 : decode cX5_init 15 = .ok (.aload_n 0, 1) := by decide +kernel
theorem dX5_init_16 : decode cX5_init 16 = .ok (.new 16, 3) := by decide +kernel
theorem dX5_init_19 : decode cX5_init 19 = .ok (.dup, 1) := by decide +kernel
theorem dX5_init_20 : decode cX5_init 20 = .ok (.invokespecial 18, 3) := by decide +kernel
theorem dX5_init_23 : decode cX5_init 23 = .ok (.putfield 19, 3) := by decide +kernel
theorem dX5_init_26 : decode cX5_init 26 = .ok (.aload_n 0, 1) := by decide +kernel
theorem dX5_init_27 : decode cX5_init 27 = .ok (.new 16, 3) := by decide +kernel
theorem dX5_init_30 : decode cX5_init 30 = .ok (.dup, 1) := by decide +kernel
theorem dX5_init_31 : decode cX5_init 31 = .ok (.invokespecial 18, 3) := by decide +kernel
theorem dX5_init_34 : decode cX5_init 34 = .ok (.putfield 23, 3) := by decide +kernel
theorem dX5_init_37 : decode cX5_init 37 = .ok (.aload_n 0, 1) := by decide +kernel
theorem dX5_init_38 : decode cX5_init 38 = .ok (.new 26, 3) := by decide +kernel
theorem dX5_init_41 : decode cX5_init 41 = .ok (.dup, 1) := by decide +kernel
theorem dX5_init_42 : decode cX5_init 42 = .ok (.invokespecial 28, 3) := by decide +kernel
theorem dX5_init_45 : decode cX5_init 45 = .ok (.putfield 29, 3) := by decide +kernel
theorem dX5_init_48 : decode cX5_init 48 = .ok (.aload_n 0, 1) := by decide +kernel
theorem dX5_init_49 : decode cX5_init 49 = .ok (.new 33, 3) := by decide +kernel
theorem dX5_init_52 : decode cX5_init 52 = .ok (.dup, 1) := by decide +kernel
theorem dX5_init_53 : decode cX5_init 53 = .ok (.iconst 2, 1) := by decide +kernel
theorem dX5_init_54 : decode cX5_init 54 = .ok (.invokespecial 35, 3) := by decide +kernel
theorem dX5_init_57 : decode cX5_init 57 = .ok (.putfield 38, 3) := by decide +kernel
theorem dX5_init_60 : decode cX5_init 60 = .ok (.aload_n 0, 1) := by decide +kernel
theorem dX5_init_61 : decode cX5_init 61 = .ok (.iconst 0, 1) := by decide +kernel
theorem dX5_init_62 : decode cX5_init 62 = .ok (.putfield 42, 3) := by decide +kernel
theorem dX5_init_65 : decode cX5_init 65 = .ok (.aload_n 0, 1) := by decide +kernel
theorem dX5_init_66 : decode cX5_init 66 = .ok (.new 33, 3) := by decide +kernel
theorem dX5_init_69 : decode cX5_init 69 = .ok (.dup, 1) := by decide +kernel
theorem dX5_init_70 : decode cX5_init 70 = .ok (.bipush 9, 2) := by decide +kernel
theorem dX5_init_72 : decode cX5_init 72 = .ok (.invokespecial 35, 3) := by decide +kernel
theorem dX5_init_75 : decode cX5_init 75 = .ok (.putfield 46, 3) := by decide +kernel
theorem dX5_init_78 : decode cX5_init 78 = .ok (.aload_n 0, 1) := by decide +kernel
theorem dX5_init_79 : decode cX5_init 79 = .ok (.new 49, 3) := by decide +kernel
theorem dX5_init_82 : decode cX5_init 82 = .ok (.dup, 1) := by decide +kernel
theorem dX5_init_83 : decode cX5_init 83 = .ok (.invokespecial 51, 3) := by decide +kernel
theorem dX5_init_86 : decode cX5_init 86 = .ok (.putfield 52, 3) := by decide +kernel
theorem dX5_init_89 : decode cX5_init 89 = .ok (.aload_n 0, 1) := by decide +kernel
theorem dX5_init_90 : decode cX5_init 90 = .ok (.iconst 4, 1) := by decide +kernel
theorem dX5_init_91 : decode cX5_init 91 = .ok (.newarray .int, 2) := by decide +kernel
theorem dX5_init_93 : decode cX5_init 93 = .ok (.putfield 56, 3) := by decide +kernel
theorem dX5_init_96 : decode cX5_init 96 = .ok (.aload_n 0, 1) := by decide +kernel
theorem dX5_init_97 : decode cX5_init 97 = .ok (.bipush 6, 2) := by decide +kernel
theorem dX5_init_99 : decode cX5_init 99 = .ok (.newarray .int, 2) := by decide +kernel
theorem dX5_init_101 : decode cX5_init 101 = .ok (.putfield 60, 3) := by decide +kernel
theorem dX5_init_104 : decode cX5_init 104 = .ok (.aload_n 0, 1) := by decide +kernel
theorem dX5_init_105 : decode cX5_init 105 = .ok (.bipush 64, 2) := by decide +kernel
theorem dX5_init_107 : decode cX5_init 107 = .ok (.newarray .int, 2) := by decide +kernel
theorem dX5_init_109 : decode cX5_init 109 = .ok (.putfield 63, 3) := by decide +kernel
theorem dX5_init_112 : decode cX5_init 112 = .ok (.aload_n 0, 1) := by decide +kernel
theorem dX5_init_113 : decode cX5_init 113 = .ok (.lconst 0, 1) := by decide +kernel
theorem dX5_init_114 : decode cX5_init 114 = .ok (.putfield 66, 3) := by decide +kernel
theorem dX5_init_117 : decode cX5_init 117 = .ok (.return_, 1) := by decide +kernel
theorem dX5_write_0 : decode cX5_write 0 = .ok (.iload_n 1, 1) := by decide +kernel
theorem dX5_write_1 : decode cX5_write 1 = .ok (.ifCond .lt 10, 3) := by decide +kernel
theorem dX5_write_4 : decode cX5_write 4 = .ok (.iload_n 1, 1) := by decide +kernel
theorem dX5_write_5 : decode cX5_write 5 = .ok (.sipush 255, 3) := by decide +kernel
theorem dX5_write_8 : decode cX5_write 8 = .ok (.if_icmp .le 6, 3) := by decide +kernel
theorem dX5_write_11 : decode cX5_write 11 = .ok (.bipush (-2), 2) := by decide +kernel
theorem dX5_write_13 : decode cX5_write 13 = .ok (.ireturn, 1) := by decide +kernel
theorem dX5_write_14 : decode cX5_write 14 = .ok (.aload_n 0, 1) := by decide +kernel
theorem dX5_write_15 : decode cX5_write 15 = .ok (.getfield 10, 3) := by decide +kernel
theorem dX5_write_18 : decode cX5_write 18 = .ok (.iload_n 1, 1) := by decide +kernel
theorem dX5_write_19 : decode cX5_write 19 = .ok (.invokevirtual 70, 3) := by decide +kernel
theorem dX5_write_22 : decode cX5_write 22 = .ok (.ifCond .eq 13, 3) := by decide +kernel
theorem dX5_write_25 : decode cX5_write 25 = .ok (.aload_n 0, 1) := by decide +kernel
theorem dX5_write_26 : decode cX5_write 26 = .ok (.getfield 10, 3) := by decide +kernel
theorem dX5_write_29 : decode cX5_write 29 = .ok (.getfield 74, 3) := by decide +kernel
theorem dX5_write_32 : decode cX5_write 32 = .ok (.goto 5, 3) := by decide +kernel
theorem dX5_write_35 : decode cX5_write 35 = .ok (.bipush (-4), 2) := by decide +kernel
theorem dX5_write_37 : decode cX5_write 37 = .ok (.ireturn, 1) := by decide +kernel
theorem dX5_wipe_0 : decode cX5_wipe 0 = .ok (.aload_n 0, 1) := by decide +kernel
theorem dX5_wipe_1 : decode cX5_wipe 1 = .ok (.getfield 10, 3) := by decide +kernel
theorem dX5_wipe_4 : decode cX5_wipe 4 = .ok (.getfield 74, 3) := by decide +kernel
theorem dX5_wipe_7 : decode cX5_wipe 7 = .ok (.istore_n 1, 1) := by decide +kernel
theorem dX5_wipe_8 : decode cX5_wipe 8 = .ok (.aload_n 0, 1) := by decide +kernel
theorem dX5_wipe_9 : decode cX5_wipe 9 = .ok (.getfield 10, 3) := by decide +kernel
theorem dX5_wipe_12 : decode cX5_wipe 12 = .ok (.iconst 0, 1) := by decide +kernel
theorem dX5_wipe_13 : decode cX5_wipe 13 = .ok (.putfield 74, 3) := by decide +kernel
theorem dX5_wipe_16 : decode cX5_wipe 16 = .ok (.iload_n 1, 1) := by decide +kernel
theorem dX5_wipe_17 : decode cX5_wipe 17 = .ok (.ireturn, 1) := by decide +kernel
theorem dX5_fault_0 : decode cX5_fault 0 = .ok (.aload_n 0, 1) := by decide +kernel
theorem dX5_fault_1 : decode cX5_fault 1 = .ok (.getfield 10, 3) := by decide +kernel
theorem dX5_fault_4 : decode cX5_fault 4 = .ok (.invokevirtual 77, 3) := by decide +kernel
theorem dX5_fault_7 : decode cX5_fault 7 = .ok (.ireturn, 1) := by decide +kernel
theorem dX5_belt_0 : decode cX5_belt 0 = .ok (.aload_n 0, 1) := by decide +kernel
theorem dX5_belt_1 : decode cX5_belt 1 = .ok (.getfield 10, 3) := by decide +kernel
theorem dX5_belt_4 : decode cX5_belt 4 = .ok (.invokevirtual 77, 3) := by decide +kernel
theorem dX5_belt_7 : decode cX5_belt 7 = .ok (.bipush (-9), 2) := by decide +kernel
theorem dX5_belt_9 : decode cX5_belt 9 = .ok (.if_icmp .eq 6, 3) := by decide +kernel
theorem dX5_belt_12 : decode cX5_belt 12 = .ok (.bipush (-3), 2) := by decide +kernel
theorem dX5_belt_14 : decode cX5_belt 14 = .ok (.ireturn, 1) := by decide +kernel
theorem dX5_belt_15 : decode cX5_belt 15 = .ok (.aload_n 0, 1) := by decide +kernel
theorem dX5_belt_16 : decode cX5_belt 16 = .ok (.getfield 10, 3) := by decide +kernel
theorem dX5_belt_19 : decode cX5_belt 19 = .ok (.aload_n 0, 1) := by decide +kernel
theorem dX5_belt_20 : decode cX5_belt 20 = .ok (.getfield 19, 3) := by decide +kernel
theorem dX5_belt_23 : decode cX5_belt 23 = .ok (.invokevirtual 81, 3) := by decide +kernel
theorem dX5_belt_26 : decode cX5_belt 26 = .ok (.aload_n 0, 1) := by decide +kernel
theorem dX5_belt_27 : decode cX5_belt 27 = .ok (.getfield 29, 3) := by decide +kernel
theorem dX5_belt_30 : decode cX5_belt 30 = .ok (.invokevirtual 85, 3) := by decide +kernel
theorem dX5_belt_33 : decode cX5_belt 33 = .ok (.aload_n 0, 1) := by decide +kernel
theorem dX5_belt_34 : decode cX5_belt 34 = .ok (.iconst 0, 1) := by decide +kernel
theorem dX5_belt_35 : decode cX5_belt 35 = .ok (.putfield 42, 3) := by decide +kernel
theorem dX5_belt_38 : decode cX5_belt 38 = .ok (.aload_n 0, 1) := by decide +kernel
theorem dX5_belt_39 : decode cX5_belt 39 = .ok (.getfield 19, 3) := by decide +kernel
theorem dX5_belt_42 : decode cX5_belt 42 = .ok (.getfield 88, 3) := by decide +kernel
theorem dX5_belt_45 : decode cX5_belt 45 = .ok (.ireturn, 1) := by decide +kernel
theorem dX5_zone_0 : decode cX5_zone 0 = .ok (.aload_n 0, 1) := by decide +kernel
theorem dX5_zone_1 : decode cX5_zone 1 = .ok (.getfield 19, 3) := by decide +kernel
theorem dX5_zone_4 : decode cX5_zone 4 = .ok (.iload_n 1, 1) := by decide +kernel
theorem dX5_zone_5 : decode cX5_zone 5 = .ok (.invokevirtual 91, 3) := by decide +kernel
theorem dX5_zone_8 : decode cX5_zone 8 = .ok (.ifCond .ne 5, 3) := by decide +kernel
theorem dX5_zone_11 : decode cX5_zone 11 = .ok (.iconst (-1), 1) := by decide +kernel
theorem dX5_zone_12 : decode cX5_zone 12 = .ok (.ireturn, 1) := by decide +kernel
theorem dX5_zone_13 : decode cX5_zone 13 = .ok (.aload_n 0, 1) := by decide +kernel
theorem dX5_zone_14 : decode cX5_zone 14 = .ok (.getfield 19, 3) := by decide +kernel
theorem dX5_zone_17 : decode cX5_zone 17 = .ok (.iload_n 1, 1) := by decide +kernel
theorem dX5_zone_18 : decode cX5_zone 18 = .ok (.iload_n 2, 1) := by decide +kernel
theorem dX5_zone_19 : decode cX5_zone 19 = .ok (.invokestatic 94, 3) := by decide +kernel
theorem dX5_zone_22 : decode cX5_zone 22 = .ok (.ireturn, 1) := by decide +kernel
theorem dX5_feed_0 : decode cX5_feed 0 = .ok (.aload_n 0, 1) := by decide +kernel
theorem dX5_feed_1 : decode cX5_feed 1 = .ok (.getfield 19, 3) := by decide +kernel
theorem dX5_feed_4 : decode cX5_feed 4 = .ok (.iload_n 1, 1) := by decide +kernel
theorem dX5_feed_5 : decode cX5_feed 5 = .ok (.invokevirtual 98, 3) := by decide +kernel
theorem dX5_feed_8 : decode cX5_feed 8 = .ok (.ifCond .ne 5, 3) := by decide +kernel
theorem dX5_feed_11 : decode cX5_feed 11 = .ok (.iconst (-1), 1) := by decide +kernel
theorem dX5_feed_12 : decode cX5_feed 12 = .ok (.ireturn, 1) := by decide +kernel
theorem dX5_feed_13 : decode cX5_feed 13 = .ok (.aload_n 0, 1) := by decide +kernel
theorem dX5_feed_14 : decode cX5_feed 14 = .ok (.getfield 19, 3) := by decide +kernel
theorem dX5_feed_17 : decode cX5_feed 17 = .ok (.aload_n 0, 1) := by decide +kernel
theorem dX5_feed_18 : decode cX5_feed 18 = .ok (.getfield 19, 3) := by decide +kernel
theorem dX5_feed_21 : decode cX5_feed 21 = .ok (.iload_n 1, 1) := by decide +kernel
theorem dX5_feed_22 : decode cX5_feed 22 = .ok (.invokevirtual 101, 3) := by decide +kernel
theorem dX5_feed_25 : decode cX5_feed 25 = .ok (.invokevirtual 105, 3) := by decide +kernel
theorem dX5_feed_28 : decode cX5_feed 28 = .ok (.ifCond .eq 6, 3) := by decide +kernel
theorem dX5_feed_31 : decode cX5_feed 31 = .ok (.bipush (-3), 2) := by decide +kernel
theorem dX5_feed_33 : decode cX5_feed 33 = .ok (.ireturn, 1) := by decide +kernel
theorem dX5_feed_34 : decode cX5_feed 34 = .ok (.aload_n 0, 1) := by decide +kernel
theorem dX5_feed_35 : decode cX5_feed 35 = .ok (.getfield 19, 3) := by decide +kernel
theorem dX5_feed_38 : decode cX5_feed 38 = .ok (.iload_n 1, 1) := by decide +kernel
theorem dX5_feed_39 : decode cX5_feed 39 = .ok (.invokevirtual 108, 3) := by decide +kernel
theorem dX5_feed_42 : decode cX5_feed 42 = .ok (.ifCond .ne 6, 3) := by decide +kernel
theorem dX5_feed_45 : decode cX5_feed 45 = .ok (.bipush (-4), 2) := by decide +kernel
theorem dX5_feed_47 : decode cX5_feed 47 = .ok (.ireturn, 1) := by decide +kernel
theorem dX5_feed_48 : decode cX5_feed 48 = .ok (.aload_n 0, 1) := by decide +kernel
theorem dX5_feed_49 : decode cX5_feed 49 = .ok (.getfield 29, 3) := by decide +kernel
theorem dX5_feed_52 : decode cX5_feed 52 = .ok (.aload_n 0, 1) := by decide +kernel
theorem dX5_feed_53 : decode cX5_feed 53 = .ok (.getfield 19, 3) := by decide +kernel
theorem dX5_feed_56 : decode cX5_feed 56 = .ok (.invokevirtual 111, 3) := by decide +kernel
theorem dX5_feed_59 : decode cX5_feed 59 = .ok (.aload_n 0, 1) := by decide +kernel
theorem dX5_feed_60 : decode cX5_feed 60 = .ok (.getfield 19, 3) := by decide +kernel
theorem dX5_feed_63 : decode cX5_feed 63 = .ok (.aload_n 0, 1) := by decide +kernel
theorem dX5_feed_64 : decode cX5_feed 64 = .ok (.getfield 19, 3) := by decide +kernel
theorem dX5_feed_67 : decode cX5_feed 67 = .ok (.iload_n 1, 1) := by decide +kernel
theorem dX5_feed_68 : decode cX5_feed 68 = .ok (.invokevirtual 101, 3) := by decide +kernel
theorem dX5_feed_71 : decode cX5_feed 71 = .ok (.invokevirtual 114, 3) := by decide +kernel
theorem dX5_feed_74 : decode cX5_feed 74 = .ok (.ireturn, 1) := by decide +kernel
theorem dX5_lift_0 : decode cX5_lift 0 = .ok (.aload_n 0, 1) := by decide +kernel
theorem dX5_lift_1 : decode cX5_lift 1 = .ok (.getfield 19, 3) := by decide +kernel
theorem dX5_lift_4 : decode cX5_lift 4 = .ok (.iload_n 1, 1) := by decide +kernel
theorem dX5_lift_5 : decode cX5_lift 5 = .ok (.invokevirtual 91, 3) := by decide +kernel
theorem dX5_lift_8 : decode cX5_lift 8 = .ok (.ifCond .ne 5, 3) := by decide +kernel
theorem dX5_lift_11 : decode cX5_lift 11 = .ok (.iconst (-1), 1) := by decide +kernel
theorem dX5_lift_12 : decode cX5_lift 12 = .ok (.ireturn, 1) := by decide +kernel
theorem dX5_lift_13 : decode cX5_lift 13 = .ok (.aload_n 0, 1) := by decide +kernel
theorem dX5_lift_14 : decode cX5_lift 14 = .ok (.getfield 19, 3) := by decide +kernel
theorem dX5_lift_17 : decode cX5_lift 17 = .ok (.iload_n 1, 1) := by decide +kernel
theorem dX5_lift_18 : decode cX5_lift 18 = .ok (.invokevirtual 105, 3) := by decide +kernel
theorem dX5_lift_21 : decode cX5_lift 21 = .ok (.ifCond .ne 6, 3) := by decide +kernel
theorem dX5_lift_24 : decode cX5_lift 24 = .ok (.bipush (-3), 2) := by decide +kernel
theorem dX5_lift_26 : decode cX5_lift 26 = .ok (.ireturn, 1) := by decide +kernel
theorem dX5_lift_27 : decode cX5_lift 27 = .ok (.aload_n 0, 1) := by decide +kernel
theorem dX5_lift_28 : decode cX5_lift 28 = .ok (.getfield 29, 3) := by decide +kernel
theorem dX5_lift_31 : decode cX5_lift 31 = .ok (.aload_n 0, 1) := by decide +kernel
theorem dX5_lift_32 : decode cX5_lift 32 = .ok (.getfield 19, 3) := by decide +kernel
theorem dX5_lift_35 : decode cX5_lift 35 = .ok (.invokevirtual 111, 3) := by decide +kernel
theorem dX5_lift_38 : decode cX5_lift 38 = .ok (.aload_n 0, 1) := by decide +kernel
theorem dX5_lift_39 : decode cX5_lift 39 = .ok (.getfield 19, 3) := by decide +kernel
theorem dX5_lift_42 : decode cX5_lift 42 = .ok (.iload_n 1, 1) := by decide +kernel
theorem dX5_lift_43 : decode cX5_lift 43 = .ok (.invokevirtual 117, 3) := by decide +kernel
theorem dX5_lift_46 : decode cX5_lift 46 = .ok (.ireturn, 1) := by decide +kernel
theorem dX5_turn_0 : decode cX5_turn 0 = .ok (.aload_n 0, 1) := by decide +kernel
theorem dX5_turn_1 : decode cX5_turn 1 = .ok (.getfield 29, 3) := by decide +kernel
theorem dX5_turn_4 : decode cX5_turn 4 = .ok (.aload_n 0, 1) := by decide +kernel
theorem dX5_turn_5 : decode cX5_turn 5 = .ok (.getfield 19, 3) := by decide +kernel
theorem dX5_turn_8 : decode cX5_turn 8 = .ok (.invokevirtual 111, 3) := by decide +kernel
theorem dX5_turn_11 : decode cX5_turn 11 = .ok (.aload_n 0, 1) := by decide +kernel
theorem dX5_turn_12 : decode cX5_turn 12 = .ok (.getfield 19, 3) := by decide +kernel
theorem dX5_turn_15 : decode cX5_turn 15 = .ok (.invokevirtual 120, 3) := by decide +kernel
theorem dX5_turn_18 : decode cX5_turn 18 = .ok (.ireturn, 1) := by decide +kernel
theorem dX5_eye_0 : decode cX5_eye 0 = .ok (.aload_n 0, 1) := by decide +kernel
theorem dX5_eye_1 : decode cX5_eye 1 = .ok (.getfield 19, 3) := by decide +kernel
theorem dX5_eye_4 : decode cX5_eye 4 = .ok (.iload_n 1, 1) := by decide +kernel
theorem dX5_eye_5 : decode cX5_eye 5 = .ok (.invokevirtual 91, 3) := by decide +kernel
theorem dX5_eye_8 : decode cX5_eye 8 = .ok (.ifCond .ne 5, 3) := by decide +kernel
theorem dX5_eye_11 : decode cX5_eye 11 = .ok (.iconst (-1), 1) := by decide +kernel
theorem dX5_eye_12 : decode cX5_eye 12 = .ok (.ireturn, 1) := by decide +kernel
theorem dX5_eye_13 : decode cX5_eye 13 = .ok (.iload_n 2, 1) := by decide +kernel
theorem dX5_eye_14 : decode cX5_eye 14 = .ok (.invokestatic 123, 3) := by decide +kernel
theorem dX5_eye_17 : decode cX5_eye 17 = .ok (.ifCond .ne 6, 3) := by decide +kernel
theorem dX5_eye_20 : decode cX5_eye 20 = .ok (.bipush (-2), 2) := by decide +kernel
theorem dX5_eye_22 : decode cX5_eye 22 = .ok (.ireturn, 1) := by decide +kernel
theorem dX5_eye_23 : decode cX5_eye 23 = .ok (.aload_n 0, 1) := by decide +kernel
theorem dX5_eye_24 : decode cX5_eye 24 = .ok (.getfield 29, 3) := by decide +kernel
theorem dX5_eye_27 : decode cX5_eye 27 = .ok (.aload_n 0, 1) := by decide +kernel
theorem dX5_eye_28 : decode cX5_eye 28 = .ok (.getfield 19, 3) := by decide +kernel
theorem dX5_eye_31 : decode cX5_eye 31 = .ok (.invokevirtual 111, 3) := by decide +kernel
theorem dX5_eye_34 : decode cX5_eye 34 = .ok (.aload_n 0, 1) := by decide +kernel
theorem dX5_eye_35 : decode cX5_eye 35 = .ok (.getfield 19, 3) := by decide +kernel
theorem dX5_eye_38 : decode cX5_eye 38 = .ok (.bipush 12, 2) := by decide +kernel
theorem dX5_eye_40 : decode cX5_eye 40 = .ok (.iload_n 1, 1) := by decide +kernel
theorem dX5_eye_41 : decode cX5_eye 41 = .ok (.iadd, 1) := by decide +kernel
theorem dX5_eye_42 : decode cX5_eye 42 = .ok (.iload_n 2, 1) := by decide +kernel
theorem dX5_eye_43 : decode cX5_eye 43 = .ok (.invokevirtual 126, 3) := by decide +kernel
theorem dX5_eye_46 : decode cX5_eye 46 = .ok (.ireturn, 1) := by decide +kernel
theorem dX5_make_0 : decode cX5_make 0 = .ok (.iload_n 1, 1) := by decide +kernel
theorem dX5_make_1 : decode cX5_make 1 = .ok (.ifCond .lt 26, 3) := by decide +kernel
theorem dX5_make_4 : decode cX5_make 4 = .ok (.iload_n 1, 1) := by decide +kernel
theorem dX5_make_5 : decode cX5_make 5 = .ok (.iconst 1, 1) := by decide +kernel
theorem dX5_make_6 : decode cX5_make 6 = .ok (.if_icmp .gt 21, 3) := by decide +kernel
theorem dX5_make_9 : decode cX5_make 9 = .ok (.iload_n 2, 1) := by decide +kernel
theorem dX5_make_10 : decode cX5_make 10 = .ok (.ifCond .lt 17, 3) := by decide +kernel
theorem dX5_make_13 : decode cX5_make 13 = .ok (.iload_n 2, 1) := by decide +kernel
theorem dX5_make_14 : decode cX5_make 14 = .ok (.iload_n 1, 1) := by decide +kernel
theorem dX5_make_15 : decode cX5_make 15 = .ok (.ifCond .ne 7, 3) := by decide +kernel
theorem dX5_make_18 : decode cX5_make 18 = .ok (.iconst 1, 1) := by decide +kernel
theorem dX5_make_19 : decode cX5_make 19 = .ok (.goto 5, 3) := by decide +kernel
theorem dX5_make_22 : decode cX5_make 22 = .ok (.bipush 9, 2) := by decide +kernel
theorem dX5_make_24 : decode cX5_make 24 = .ok (.if_icmp .le 6, 3) := by decide +kernel
theorem dX5_make_27 : decode cX5_make 27 = .ok (.bipush (-2), 2) := by decide +kernel
theorem dX5_make_29 : decode cX5_make 29 = .ok (.ireturn, 1) := by decide +kernel
theorem dX5_make_30 : decode cX5_make 30 = .ok (.aload_n 0, 1) := by decide +kernel
theorem dX5_make_31 : decode cX5_make 31 = .ok (.getfield 29, 3) := by decide +kernel
theorem dX5_make_34 : decode cX5_make 34 = .ok (.aload_n 0, 1) := by decide +kernel
theorem dX5_make_35 : decode cX5_make 35 = .ok (.getfield 19, 3) := by decide +kernel
theorem dX5_make_38 : decode cX5_make 38 = .ok (.invokevirtual 111, 3) := by decide +kernel
theorem dX5_make_41 : decode cX5_make 41 = .ok (.aload_n 0, 1) := by decide +kernel
theorem dX5_make_42 : decode cX5_make 42 = .ok (.getfield 19, 3) := by decide +kernel
theorem dX5_make_45 : decode cX5_make 45 = .ok (.iload_n 1, 1) := by decide +kernel
theorem dX5_make_46 : decode cX5_make 46 = .ok (.ifCond .ne 8, 3) := by decide +kernel
theorem dX5_make_49 : decode cX5_make 49 = .ok (.bipush 51, 2) := by decide +kernel
theorem dX5_make_51 : decode cX5_make 51 = .ok (.goto 5, 3) := by decide +kernel
theorem dX5_make_54 : decode cX5_make 54 = .ok (.bipush 52, 2) := by decide +kernel
theorem dX5_make_56 : decode cX5_make 56 = .ok (.iload_n 2, 1) := by decide +kernel
theorem dX5_make_57 : decode cX5_make 57 = .ok (.invokevirtual 126, 3) := by decide +kernel
