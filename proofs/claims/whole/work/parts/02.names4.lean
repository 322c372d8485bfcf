theorem dX6_readCarton_167 : decode cX6_readCarton 167 = .ok (.istore_n 3, 1) := by decide +kernel
theorem dX6_readCarton_168 : decode cX6_readCarton 168 = .ok (.iload_n 3, 1) := by decide +kernel
theorem dX6_readCarton_169 : decode cX6_readCarton 169 = .ok (.i2l, 1) := by decide +kernel
theorem dX6_readCarton_170 : decode cX6_readCarton 170 = .ok (.lconst 0, 1) := by decide +kernel
theorem dX6_readCarton_171 : decode cX6_readCarton 171 = .ok (.ldc2_w 87, 3) := by decide +kernel
theorem dX6_readCarton_174 : decode cX6_readCarton 174 = .ok (.invokestatic 58, 3) := by decide +kernel
theorem dX6_readCarton_177 : decode cX6_readCarton 177 = .ok (.ifCond .eq 16, 3) := by decide +kernel
theorem dX6_readCarton_180 : decode cX6_readCarton 180 = .ok (.aload_n 0, 1) := by decide +kernel
theorem dX6_readCarton_181 : decode cX6_readCarton 181 = .ok (.bipush 10, 2) := by decide +kernel
theorem dX6_readCarton_183 : decode cX6_readCarton 183 = .ok (.iload_n 1, 1) := by decide +kernel
theorem dX6_readCarton_184 : decode cX6_readCarton 184 = .ok (.imul, 1) := by decide +kernel
theorem dX6_readCarton_185 : decode cX6_readCarton 185 = .ok (.iload_n 3, 1) := by decide +kernel
theorem dX6_readCarton_186 : decode cX6_readCarton 186 = .ok (.iadd, 1) := by decide +kernel
theorem dX6_readCarton_187 : decode cX6_readCarton 187 = .ok (.invokevirtual 83, 3) := by decide +kernel
theorem dX6_readCarton_190 : decode cX6_readCarton 190 = .ok (.ifCond .ne 5, 3) := by decide +kernel
theorem dX6_readCarton_193 : decode cX6_readCarton 193 = .ok (.iconst 0, 1) := by decide +kernel
theorem dX6_readCarton_194 : decode cX6_readCarton 194 = .ok (.ireturn, 1) := by decide +kernel
theorem dX6_readCarton_195 : decode cX6_readCarton 195 = .ok (.aload_n 0, 1) := by decide +kernel
theorem dX6_readCarton_196 : decode cX6_readCarton 196 = .ok (.dup, 1) := by decide +kernel
theorem dX6_readCarton_197 : decode cX6_readCarton 197 = .ok (.getfield 67, 3) := by decide +kernel
theorem dX6_readCarton_200 : decode cX6_readCarton 200 = .ok (.iconst 1, 1) := by decide +kernel
theorem dX6_readCarton_201 : decode cX6_readCarton 201 = .ok (.iadd, 1) := by decide +kernel
theorem dX6_readCarton_202 : decode cX6_readCarton 202 = .ok (.putfield 67, 3) := by decide +kernel
theorem dX6_readCarton_205 : decode cX6_readCarton 205 = .ok (.aload_n 0, 1) := by decide +kernel
theorem dX6_readCarton_206 : decode cX6_readCarton 206 = .ok (.getfield 20, 3) := by decide +kernel
theorem dX6_readCarton_209 : decode cX6_readCarton 209 = .ok (.bipush 76, 2) := by decide +kernel
theorem dX6_readCarton_211 : decode cX6_readCarton 211 = .ok (.dup2, 1) := by decide +kernel
theorem dX6_readCarton_212 : decode cX6_readCarton 212 = .ok (.iaload, 1) := by decide +kernel
theorem dX6_readCarton_213 : decode cX6_readCarton 213 = .ok (.iconst 1, 1) := by decide +kernel
theorem dX6_readCarton_214 : decode cX6_readCarton 214 = .ok (.iadd, 1) := by decide +kernel
theorem dX6_readCarton_215 : decode cX6_readCarton 215 = .ok (.iastore, 1) := by decide +kernel
theorem dX6_readCarton_216 : decode cX6_readCarton 216 = .ok (.aload_n 0, 1) := by decide +kernel
theorem dX6_readCarton_217 : decode cX6_readCarton 217 = .ok (.getfield 20, 3) := by decide +kernel
theorem dX6_readCarton_220 : decode cX6_readCarton 220 = .ok (.bipush 6, 2) := by decide +kernel
theorem dX6_readCarton_222 : decode cX6_readCarton 222 = .ok (.bipush 10, 2) := by decide +kernel
theorem dX6_readCarton_224 : decode cX6_readCarton 224 = .ok (.iload_n 1, 1) := by decide +kernel
theorem dX6_readCarton_225 : decode cX6_readCarton 225 = .ok (.imul, 1) := by decide +kernel
theorem dX6_readCarton_226 : decode cX6_readCarton 226 = .ok (.iload_n 3, 1) := by decide +kernel
theorem dX6_readCarton_227 : decode cX6_readCarton 227 = .ok (.iadd, 1) := by decide +kernel
theorem dX6_readCarton_228 : decode cX6_readCarton 228 = .ok (.imul, 1) := by decide +kernel
theorem dX6_readCarton_229 : decode cX6_readCarton 229 = .ok (.iconst 0, 1) := by decide +kernel
theorem dX6_readCarton_230 : decode cX6_readCarton 230 = .ok (.iadd, 1) := by decide +kernel
theorem dX6_readCarton_231 : decode cX6_readCarton 231 = .ok (.aload_n 0, 1) := by decide +kernel
theorem dX6_readCarton_232 : decode cX6_readCarton 232 = .ok (.getfield 20, 3) := by decide +kernel
theorem dX6_readCarton_235 : decode cX6_readCarton 235 = .ok (.bipush 76, 2) := by decide +kernel
theorem dX6_readCarton_237 : decode cX6_readCarton 237 = .ok (.iaload, 1) := by decide +kernel
theorem dX6_readCarton_238 : decode cX6_readCarton 238 = .ok (.iastore, 1) := by decide +kernel
theorem dX6_readCarton_239 : decode cX6_readCarton 239 = .ok (.iconst 1, 1) := by decide +kernel
theorem dX6_readCarton_240 : decode cX6_readCarton 240 = .ok (.ireturn, 1) := by decide +kernel
theorem dX6_readBelt_0 : decode cX6_readBelt 0 = .ok (.aload_n 0, 1) := by decide +kernel
theorem dX6_readBelt_1 : decode cX6_readBelt 1 = .ok (.iconst 0, 1) := by decide +kernel
theorem dX6_readBelt_2 : decode cX6_readBelt 2 = .ok (.putfield 67, 3) := by decide +kernel
theorem dX6_readBelt_5 : decode cX6_readBelt 5 = .ok (.iconst 0, 1) := by decide +kernel
theorem dX6_readBelt_6 : decode cX6_readBelt 6 = .ok (.istore_n 1, 1) := by decide +kernel
theorem dX6_readBelt_7 : decode cX6_readBelt 7 = .ok (.iload_n 1, 1) := by decide +kernel
theorem dX6_readBelt_8 : decode cX6_readBelt 8 = .ok (.bipush 79, 2) := by decide +kernel
theorem dX6_readBelt_10 : decode cX6_readBelt 10 = .ok (.if_icmp .ge 16, 3) := by decide +kernel
theorem dX6_readBelt_13 : decode cX6_readBelt 13 = .ok (.aload_n 0, 1) := by decide +kernel
theorem dX6_readBelt_14 : decode cX6_readBelt 14 = .ok (.getfield 20, 3) := by decide +kernel
theorem dX6_readBelt_17 : decode cX6_readBelt 17 = .ok (.iload_n 1, 1) := by decide +kernel
theorem dX6_readBelt_18 : decode cX6_readBelt 18 = .ok (.iconst 0, 1) := by decide +kernel
theorem dX6_readBelt_19 : decode cX6_readBelt 19 = .ok (.iastore, 1) := by decide +kernel
theorem dX6_readBelt_20 : decode cX6_readBelt 20 = .ok (.iinc 1 1, 3) := by decide +kernel
theorem dX6_readBelt_23 : decode cX6_readBelt 23 = .ok (.goto (-16), 3) := by decide +kernel
theorem dX6_readBelt_26 : decode cX6_readBelt 26 = .ok (.aload_n 0, 1) := by decide +kernel
theorem dX6_readBelt_27 : decode cX6_readBelt 27 = .ok (.getfield 64, 3) := by decide +kernel
theorem dX6_readBelt_30 : decode cX6_readBelt 30 = .ok (.ifCond .eq 14, 3) := by decide +kernel
theorem dX6_readBelt_33 : decode cX6_readBelt 33 = .ok (.aload_n 0, 1) := by decide +kernel
theorem dX6_readBelt_34 : decode cX6_readBelt 34 = .ok (.getfield 7, 3) := by decide +kernel
theorem dX6_readBelt_37 : decode cX6_readBelt 37 = .ok (.iconst 0, 1) := by decide +kernel
theorem dX6_readBelt_38 : decode cX6_readBelt 38 = .ok (.iaload, 1) := by decide +kernel
theorem dX6_readBelt_39 : decode cX6_readBelt 39 = .ok (.bipush 90, 2) := by decide +kernel
theorem dX6_readBelt_41 : decode cX6_readBelt 41 = .ok (.if_icmp .eq 5, 3) := by decide +kernel
theorem dX6_readBelt_44 : decode cX6_readBelt 44 = .ok (.iconst 0, 1) := by decide +kernel
theorem dX6_readBelt_45 : decode cX6_readBelt 45 = .ok (.ireturn, 1) := by decide +kernel
theorem dX6_readBelt_46 : decode cX6_readBelt 46 = .ok (.aload_n 0, 1) := by decide +kernel
theorem dX6_readBelt_47 : decode cX6_readBelt 47 = .ok (.iconst 1, 1) := by decide +kernel
theorem dX6_readBelt_48 : decode cX6_readBelt 48 = .ok (.putfield 67, 3) := by decide +kernel
theorem dX6_readBelt_51 : decode cX6_readBelt 51 = .ok (.aload_n 0, 1) := by decide +kernel
theorem dX6_readBelt_52 : decode cX6_readBelt 52 = .ok (.invokevirtual 89, 3) := by decide +kernel
theorem dX6_readBelt_55 : decode cX6_readBelt 55 = .ok (.ifCond .ne 8, 3) := by decide +kernel
theorem dX6_readBelt_58 : decode cX6_readBelt 58 = .ok (.aload_n 0, 1) := by decide +kernel
theorem dX6_readBelt_59 : decode cX6_readBelt 59 = .ok (.getfield 67, 3) := by decide +kernel
theorem dX6_readBelt_62 : decode cX6_readBelt 62 = .ok (.ireturn, 1) := by decide +kernel
theorem dX6_readBelt_63 : decode cX6_readBelt 63 = .ok (.aload_n 0, 1) := by decide +kernel
theorem dX6_readBelt_64 : decode cX6_readBelt 64 = .ok (.getfield 67, 3) := by decide +kernel
theorem dX6_readBelt_67 : decode cX6_readBelt 67 = .ok (.aload_n 0, 1) := by decide +kernel
theorem dX6_readBelt_68 : decode cX6_readBelt 68 = .ok (.getfield 64, 3) := by decide +kernel
theorem dX6_readBelt_71 : decode cX6_readBelt 71 = .ok (.if_icmp .ge 15, 3) := by decide +kernel
theorem dX6_readBelt_74 : decode cX6_readBelt 74 = .ok (.aload_n 0, 1) := by decide +kernel
theorem dX6_readBelt_75 : decode cX6_readBelt 75 = .ok (.invokevirtual 93, 3) := by decide +kernel
theorem dX6_readBelt_78 : decode cX6_readBelt 78 = .ok (.ifCond .ne (-15), 3) := by decide +kernel
theorem dX6_readBelt_81 : decode cX6_readBelt 81 = .ok (.aload_n 0, 1) := by decide +kernel
theorem dX6_readBelt_82 : decode cX6_readBelt 82 = .ok (.getfield 67, 3) := by decide +kernel
theorem dX6_readBelt_85 : decode cX6_readBelt 85 = .ok (.ireturn, 1) := by decide +kernel
theorem dX6_readBelt_86 : decode cX6_readBelt 86 = .ok (.bipush (-9), 2) := by decide +kernel
theorem dX6_readBelt_88 : decode cX6_readBelt 88 = .ok (.ireturn, 1) := by decide +kernel
theorem dX6_fault_0 : decode cX6_fault 0 = .ok (.aload_n 0, 1) := by decide +kernel
theorem dX6_fault_1 : decode cX6_fault 1 = .ok (.iconst 0, 1) := by decide +kernel
theorem dX6_fault_2 : decode cX6_fault 2 = .ok (.putfield 48, 3) := by decide +kernel
theorem dX6_fault_5 : decode cX6_fault 5 = .ok (.aload_n 0, 1) := by decide +kernel
theorem dX6_fault_6 : decode cX6_fault 6 = .ok (.invokevirtual 96, 3) := by decide +kernel
theorem dX6_fault_9 : decode cX6_fault 9 = .ok (.ireturn, 1) := by decide +kernel
theorem dX6_belt_0 : decode cX6_belt 0 = .ok (.aload_n 0, 1) := by decide +kernel
theorem dX6_belt_1 : decode cX6_belt 1 = .ok (.iconst 0, 1) := by decide +kernel
theorem dX6_belt_2 : decode cX6_belt 2 = .ok (.putfield 48, 3) := by decide +kernel
theorem dX6_belt_5 : decode cX6_belt 5 = .ok (.aload_n 0, 1) := by decide +kernel
theorem dX6_belt_6 : decode cX6_belt 6 = .ok (.invokevirtual 96, 3) := by decide +kernel
theorem dX6_belt_9 : decode cX6_belt 9 = .ok (.bipush (-9), 2) := by decide +kernel
theorem dX6_belt_11 : decode cX6_belt 11 = .ok (.if_icmp .eq 6, 3) := by decide +kernel
theorem dX6_belt_14 : decode cX6_belt 14 = .ok (.bipush (-3), 2) := by decide +kernel
theorem dX6_belt_16 : decode cX6_belt 16 = .ok (.ireturn, 1) := by decide +kernel
theorem dX6_belt_17 : decode cX6_belt 17 = .ok (.aload_n 0, 1) := by decide +kernel
theorem dX6_belt_18 : decode cX6_belt 18 = .ok (.aload_n 0, 1) := by decide +kernel
theorem dX6_belt_19 : decode cX6_belt 19 = .ok (.getfield 74, 3) := by decide +kernel
theorem dX6_belt_22 : decode cX6_belt 22 = .ok (.putfield 13, 3) := by decide +kernel
theorem dX6_belt_25 : decode cX6_belt 25 = .ok (.aload_n 0, 1) := by decide +kernel
theorem dX6_belt_26 : decode cX6_belt 26 = .ok (.aload_n 0, 1) := by decide +kernel
theorem dX6_belt_27 : decode cX6_belt 27 = .ok (.getfield 77, 3) := by decide +kernel
theorem dX6_belt_30 : decode cX6_belt 30 = .ok (.putfield 51, 3) := by decide +kernel
theorem dX6_belt_33 : decode cX6_belt 33 = .ok (.aload_n 0, 1) := by decide +kernel
theorem dX6_belt_34 : decode cX6_belt 34 = .ok (.aload_n 0, 1) := by decide +kernel
theorem dX6_belt_35 : decode cX6_belt 35 = .ok (.getfield 80, 3) := by decide +kernel
theorem dX6_belt_38 : decode cX6_belt 38 = .ok (.putfield 17, 3) := by decide +kernel
theorem dX6_belt_41 : decode cX6_belt 41 = .ok (.iconst 0, 1) := by decide +kernel
theorem dX6_belt_42 : decode cX6_belt 42 = .ok (.istore_n 1, 1) := by decide +kernel
theorem dX6_belt_43 : decode cX6_belt 43 = .ok (.iload_n 1, 1) := by decide +kernel
theorem dX6_belt_44 : decode cX6_belt 44 = .ok (.bipush 79, 2) := by decide +kernel
theorem dX6_belt_46 : decode cX6_belt 46 = .ok (.if_icmp .ge 21, 3) := by decide +kernel
theorem dX6_belt_49 : decode cX6_belt 49 = .ok (.aload_n 0, 1) := by decide +kernel
theorem dX6_belt_50 : decode cX6_belt 50 = .ok (.getfield 23, 3) := by decide +kernel
theorem dX6_belt_53 : decode cX6_belt 53 = .ok (.iload_n 1, 1) := by decide +kernel
theorem dX6_belt_54 : decode cX6_belt 54 = .ok (.aload_n 0, 1) := by decide +kernel
theorem dX6_belt_55 : decode cX6_belt 55 = .ok (.getfield 20, 3) := by decide +kernel
theorem dX6_belt_58 : decode cX6_belt 58 = .ok (.iload_n 1, 1) := by decide +kernel
theorem dX6_belt_59 : decode cX6_belt 59 = .ok (.iaload, 1) := by decide +kernel
theorem dX6_belt_60 : decode cX6_belt 60 = .ok (.iastore, 1) := by decide +kernel
theorem dX6_belt_61 : decode cX6_belt 61 = .ok (.iinc 1 1, 3) := by decide +kernel
theorem dX6_belt_64 : decode cX6_belt 64 = .ok (.goto (-21), 3) := by decide +kernel
theorem dX6_belt_67 : decode cX6_belt 67 = .ok (.aload_n 0, 1) := by decide +kernel
theorem dX6_belt_68 : decode cX6_belt 68 = .ok (.getfield 23, 3) := by decide +kernel
theorem dX6_belt_71 : decode cX6_belt 71 = .ok (.bipush 72, 2) := by decide +kernel
theorem dX6_belt_73 : decode cX6_belt 73 = .ok (.iconst 1, 1) := by decide +kernel
theorem dX6_belt_74 : decode cX6_belt 74 = .ok (.iastore, 1) := by decide +kernel
theorem dX6_belt_75 : decode cX6_belt 75 = .ok (.aload_n 0, 1) := by decide +kernel
theorem dX6_belt_76 : decode cX6_belt 76 = .ok (.iconst 0, 1) := by decide +kernel
theorem dX6_belt_77 : decode cX6_belt 77 = .ok (.putfield 99, 3) := by decide +kernel
theorem dX6_belt_80 : decode cX6_belt 80 = .ok (.aload_n 0, 1) := by decide +kernel
theorem dX6_belt_81 : decode cX6_belt 81 = .ok (.getfield 35, 3) := by decide +kernel
theorem dX6_belt_84 : decode cX6_belt 84 = .ok (.iconst 0, 1) := by decide +kernel
theorem dX6_belt_85 : decode cX6_belt 85 = .ok (.iconst 0, 1) := by decide +kernel
theorem dX6_belt_86 : decode cX6_belt 86 = .ok (.bastore, 1) := by decide +kernel
theorem dX6_belt_87 : decode cX6_belt 87 = .ok (.aload_n 0, 1) := by decide +kernel
theorem dX6_belt_88 : decode cX6_belt 88 = .ok (.getfield 35, 3) := by decide +kernel
theorem dX6_belt_91 : decode cX6_belt 91 = .ok (.iconst 1, 1) := by decide +kernel
theorem dX6_belt_92 : decode cX6_belt 92 = .ok (.iconst 0, 1) := by decide +kernel
theorem dX6_belt_93 : decode cX6_belt 93 = .ok (.bastore, 1) := by decide +kernel
theorem dX6_belt_94 : decode cX6_belt 94 = .ok (.aload_n 0, 1) := by decide +kernel
theorem dX6_belt_95 : decode cX6_belt 95 = .ok (.invokevirtual 54, 3) := by decide +kernel
theorem dX6_belt_98 : decode cX6_belt 98 = .ok (.ireturn, 1) := by decide +kernel
theorem dX6_behind_0 : decode cX6_behind 0 = .ok (.iload_n 1, 1) := by decide +kernel
theorem dX6_behind_1 : decode cX6_behind 1 = .ok (.aload_n 0, 1) := by decide +kernel
theorem dX6_behind_2 : decode cX6_behind 2 = .ok (.getfield 13, 3) := by decide +kernel
theorem dX6_behind_5 : decode cX6_behind 5 = .ok (.iconst 1, 1) := by decide +kernel
theorem dX6_behind_6 : decode cX6_behind 6 = .ok (.isub, 1) := by decide +kernel
theorem dX6_behind_7 : decode cX6_behind 7 = .ok (.if_icmp .ne 8, 3) := by decide +kernel
theorem dX6_behind_10 : decode cX6_behind 10 = .ok (.bipush 99, 2) := by decide +kernel
theorem dX6_behind_12 : decode cX6_behind 12 = .ok (.goto 23, 3) := by decide +kernel
theorem dX6_behind_15 : decode cX6_behind 15 = .ok (.iload_n 1, 1) := by decide +kernel
theorem dX6_behind_16 : decode cX6_behind 16 = .ok (.aload_n 0, 1) := by decide +kernel
theorem dX6_behind_17 : decode cX6_behind 17 = .ok (.invokevirtual 54, 3) := by decide +kernel
theorem dX6_behind_20 : decode cX6_behind 20 = .ok (.iconst 1, 1) := by decide +kernel
theorem dX6_behind_21 : decode cX6_behind 21 = .ok (.isub, 1) := by decide +kernel
theorem dX6_behind_22 : decode cX6_behind 22 = .ok (.if_icmp .ne 10, 3) := by decide +kernel
theorem dX6_behind_25 : decode cX6_behind 25 = .ok (.aload_n 0, 1) := by decide +kernel
theorem dX6_behind_26 : decode cX6_behind 26 = .ok (.getfield 17, 3) := by decide +kernel
theorem dX6_behind_29 : decode cX6_behind 29 = .ok (.goto 6, 3) := by decide +kernel
theorem dX6_behind_32 : decode cX6_behind 32 = .ok (.iload_n 1, 1) := by decide +kernel
theorem dX6_behind_33 : decode cX6_behind 33 = .ok (.iconst 1, 1) := by decide +kernel
theorem dX6_behind_34 : decode cX6_behind 34 = .ok (.iadd, 1) := by decide +kernel
theorem dX6_behind_35 : decode cX6_behind 35 = .ok (.ireturn, 1) := by decide +kernel
theorem dX6_seesAt_0 : decode cX6_seesAt 0 = .ok (.aload_n 0, 1) := by decide +kernel
theorem dX6_seesAt_1 : decode cX6_seesAt 1 = .ok (.bipush 6, 2) := by decide +kernel
theorem dX6_seesAt_3 : decode cX6_seesAt 3 = .ok (.iload_n 1, 1) := by decide +kernel
theorem dX6_seesAt_4 : decode cX6_seesAt 4 = .ok (.imul, 1) := by decide +kernel
theorem dX6_seesAt_5 : decode cX6_seesAt 5 = .ok (.iconst 1, 1) := by decide +kernel
theorem dX6_seesAt_6 : decode cX6_seesAt 6 = .ok (.iadd, 1) := by decide +kernel
theorem dX6_seesAt_7 : decode cX6_seesAt 7 = .ok (.iaload, 1) := by decide +kernel
theorem dX6_seesAt_8 : decode cX6_seesAt 8 = .ok (.istore_n 2, 1) := by decide +kernel
theorem dX6_seesAt_9 : decode cX6_seesAt 9 = .ok (.iload_n 2, 1) := by decide +kernel
theorem dX6_seesAt_10 : decode cX6_seesAt 10 = .ok (.iconst 2, 1) := by decide +kernel
theorem dX6_seesAt_11 : decode cX6_seesAt 11 = .ok (.if_icmp .eq 18, 3) := by decide +kernel
theorem dX6_seesAt_14 : decode cX6_seesAt 14 = .ok (.iload_n 2, 1) := by decide +kernel
theorem dX6_seesAt_15 : decode cX6_seesAt 15 = .ok (.ifCond .ne 18, 3) := by decide +kernel
theorem dX6_seesAt_18 : decode cX6_seesAt 18 = .ok (.aload_n 0, 1) := by decide +kernel
theorem dX6_seesAt_19 : decode cX6_seesAt 19 = .ok (.bipush 6, 2) := by decide +kernel
theorem dX6_seesAt_21 : decode cX6_seesAt 21 = .ok (.iload_n 1, 1) := by decide +kernel
theorem dX6_seesAt_22 : decode cX6_seesAt 22 = .ok (.imul, 1) := by decide +kernel
theorem dX6_seesAt_23 : decode cX6_seesAt 23 = .ok (.iconst 0, 1) := by decide +kernel
theorem dX6_seesAt_24 : decode cX6_seesAt 24 = .ok (.iadd, 1) := by decide +kernel
theorem dX6_seesAt_25 : decode cX6_seesAt 25 = .ok (.iaload, 1) := by decide +kernel
theorem dX6_seesAt_26 : decode cX6_seesAt 26 = .ok (.ifCond .le 7, 3) := by decide +kernel
theorem dX6_seesAt_29 : decode cX6_seesAt 29 = .ok (.iconst 1, 1) := by decide +kernel
theorem dX6_seesAt_30 : decode cX6_seesAt 30 = .ok (.goto 4, 3) := by decide +kernel
theorem dX6_seesAt_33 : decode cX6_seesAt 33 = .ok (.iconst 0, 1) := by decide +kernel
theorem dX6_seesAt_34 : decode cX6_seesAt 34 = .ok (.ireturn, 1) := by decide +kernel
theorem dX6_allThatSee_0 : decode cX6_allThatSee 0 = .ok (.iconst 0, 1) := by decide +kernel
theorem dX6_allThatSee_1 : decode cX6_allThatSee 1 = .ok (.istore_n 2, 1) := by decide +kernel
theorem dX6_allThatSee_2 : decode cX6_allThatSee 2 = .ok (.iconst 0, 1) := by decide +kernel
theorem dX6_allThatSee_3 : decode cX6_allThatSee 3 = .ok (.istore_n 3, 1) := by decide +kernel
theorem dX6_allThatSee_4 : decode cX6_allThatSee 4 = .ok (.iload_n 3, 1) := by decide +kernel
theorem dX6_allThatSee_5 : decode cX6_allThatSee 5 = .ok (.aload_n 0, 1) := by decide +kernel
theorem dX6_allThatSee_6 : decode cX6_allThatSee 6 = .ok (.invokevirtual 54, 3) := by decide +kernel
theorem dX6_allThatSee_9 : decode cX6_allThatSee 9 = .ok (.if_icmp .ge 27, 3) := by decide +kernel
theorem dX6_allThatSee_12 : decode cX6_allThatSee 12 = .ok (.iload_n 2, 1) := by decide +kernel
theorem dX6_allThatSee_13 : decode cX6_allThatSee 13 = .ok (.aload_n 1, 1) := by decide +kernel
theorem dX6_allThatSee_14 : decode cX6_allThatSee 14 = .ok (.iload_n 3, 1) := by decide +kernel
theorem dX6_allThatSee_15 : decode cX6_allThatSee 15 = .ok (.invokestatic 102, 3) := by decide +kernel
theorem dX6_allThatSee_18 : decode cX6_allThatSee 18 = .ok (.ifCond .eq 9, 3) := by decide +kernel
theorem dX6_allThatSee_21 : decode cX6_allThatSee 21 = .ok (.iconst 1, 1) := by decide +kernel
theorem dX6_allThatSee_22 : decode cX6_allThatSee 22 = .ok (.iload_n 3, 1) := by decide +kernel
theorem dX6_allThatSee_23 : decode cX6_allThatSee 23 = .ok (.ishl, 1) := by decide +kernel
theorem dX6_allThatSee_24 : decode cX6_allThatSee 24 = .ok (.goto 4, 3) := by decide +kernel
theorem dX6_allThatSee_27 : decode cX6_allThatSee 27 = .ok (.iconst 0, 1) := by decide +kernel
theorem dX6_allThatSee_28 : decode cX6_allThatSee 28 = .ok (.ior, 1) := by decide +kernel
theorem dX6_allThatSee_29 : decode cX6_allThatSee 29 = .ok (.istore_n 2, 1) := by decide +kernel
theorem dX6_allThatSee_30 : decode cX6_allThatSee 30 = .ok (.iinc 3 1, 3) := by decide +kernel
theorem dX6_allThatSee_33 : decode cX6_allThatSee 33 = .ok (.goto (-29), 3) := by decide +kernel
theorem dX6_allThatSee_36 : decode cX6_allThatSee 36 = .ok (.iload_n 2, 1) := by decide +kernel
theorem dX6_allThatSee_37 : decode cX6_allThatSee 37 = .ok (.ireturn, 1) := by decide +kernel
theorem dX6_wakeOn_0 : decode cX6_wakeOn 0 = .ok (.aload_n 0, 1) := by decide +kernel
theorem dX6_wakeOn_1 : decode cX6_wakeOn 1 = .ok (.aload_n 0, 1) := by decide +kernel
theorem dX6_wakeOn_2 : decode cX6_wakeOn 2 = .ok (.aload_n 1, 1) := by decide +kernel
theorem dX6_wakeOn_3 : decode cX6_wakeOn 3 = .ok (.invokevirtual 106, 3) := by decide +kernel
theorem dX6_wakeOn_6 : decode cX6_wakeOn 6 = .ok (.putfield 110, 3) := by decide +kernel
theorem dX6_wakeOn_9 : decode cX6_wakeOn 9 = .ok (.aload_n 0, 1) := by decide +kernel
theorem dX6_wakeOn_10 : decode cX6_wakeOn 10 = .ok (.iconst 0, 1) := by decide +kernel
theorem dX6_wakeOn_11 : decode cX6_wakeOn 11 = .ok (.putfield 113, 3) := by decide +kernel
theorem dX6_wakeOn_14 : decode cX6_wakeOn 14 = .ok (.aload_n 0, 1) := by decide +kernel
theorem dX6_wakeOn_15 : decode cX6_wakeOn 15 = .ok (.iconst 0, 1) := by decide +kernel
theorem dX6_wakeOn_16 : decode cX6_wakeOn 16 = .ok (.putfield 116, 3) := by decide +kernel
theorem dX6_wakeOn_19 : decode cX6_wakeOn 19 = .ok (.iconst 0, 1) := by decide +kernel
theorem dX6_wakeOn_20 : decode cX6_wakeOn 20 = .ok (.istore_n 2, 1) := by decide +kernel
theorem dX6_wakeOn_21 : decode cX6_wakeOn 21 = .ok (.iload_n 2, 1) := by decide +kernel
theorem dX6_wakeOn_22 : decode cX6_wakeOn 22 = .ok (.aload_n 0, 1) := by decide +kernel
theorem dX6_wakeOn_23 : decode cX6_wakeOn 23 = .ok (.invokevirtual 54, 3) := by decide +kernel
theorem dX6_wakeOn_26 : decode cX6_wakeOn 26 = .ok (.if_icmp .ge 98, 3) := by decide +kernel
theorem dX6_wakeOn_29 : decode cX6_wakeOn 29 = .ok (.aload_n 1, 1) := by decide +kernel
theorem dX6_wakeOn_30 : decode cX6_wakeOn 30 = .ok (.bipush 6, 2) := by decide +kernel
theorem dX6_wakeOn_32 : decode cX6_wakeOn 32 = .ok (.iload_n 2, 1) := by decide +kernel
theorem dX6_wakeOn_33 : decode cX6_wakeOn 33 = .ok (.imul, 1) := by decide +kernel
theorem dX6_wakeOn_34 : decode cX6_wakeOn 34 = .ok (.iconst 3, 1) := by decide +kernel
theorem dX6_wakeOn_35 : decode cX6_wakeOn 35 = .ok (.iadd, 1) := by decide +kernel
theorem dX6_wakeOn_36 : decode cX6_wakeOn 36 = .ok (.iaload, 1) := by decide +kernel
theorem dX6_wakeOn_37 : decode cX6_wakeOn 37 = .ok (.iconst 1, 1) := by decide +kernel
theorem dX6_wakeOn_38 : decode cX6_wakeOn 38 = .ok (.if_icmp .ne 7, 3) := by decide +kernel
theorem dX6_wakeOn_41 : decode cX6_wakeOn 41 = .ok (.iconst 1, 1) := by decide +kernel
theorem dX6_wakeOn_42 : decode cX6_wakeOn 42 = .ok (.goto 4, 3) := by decide +kernel
theorem dX6_wakeOn_45 : decode cX6_wakeOn 45 = .ok (.iconst 0, 1) := by decide +kernel
theorem dX6_wakeOn_46 : decode cX6_wakeOn 46 = .ok (.istore_n 3, 1) := by decide +kernel
theorem dX6_wakeOn_47 : decode cX6_wakeOn 47 = .ok (.aload_n 0, 1) := by decide +kernel
theorem dX6_wakeOn_48 : decode cX6_wakeOn 48 = .ok (.dup, 1) := by decide +kernel
theorem dX6_wakeOn_49 : decode cX6_wakeOn 49 = .ok (.getfield 113, 3) := by decide +kernel
theorem dX6_wakeOn_52 : decode cX6_wakeOn 52 = .ok (.iload_n 3, 1) := by decide +kernel
theorem dX6_wakeOn_53 : decode cX6_wakeOn 53 = .ok (.ifCond .eq 9, 3) := by decide +kernel
theorem dX6_wakeOn_56 : decode cX6_wakeOn 56 = .ok (.iconst 1, 1) := by decide +kernel
theorem dX6_wakeOn_57 : decode cX6_wakeOn 57 = .ok (.iload_n 2, 1) := by decide +kernel
theorem dX6_wakeOn_58 : decode cX6_wakeOn 58 = .ok (.ishl, 1) := by decide +kernel
theorem dX6_wakeOn_59 : decode cX6_wakeOn 59 = .ok (.goto 4, 3) := by decide +kernel
theorem dX6_wakeOn_62 : decode cX6_wakeOn 62 = .ok (.iconst 0, 1) := by decide +kernel
theorem dX6_wakeOn_63 : decode cX6_wakeOn 63 = .ok (.ior, 1) := by decide +kernel
theorem dX6_wakeOn_64 : decode cX6_wakeOn 64 = .ok (.putfield 113, 3) := by decide +kernel
theorem dX6_wakeOn_67 : decode cX6_wakeOn 67 = .ok (.aload_n 0, 1) := by decide +kernel
theorem dX6_wakeOn_68 : decode cX6_wakeOn 68 = .ok (.getfield 110, 3) := by decide +kernel
theorem dX6_wakeOn_71 : decode cX6_wakeOn 71 = .ok (.iload_n 2, 1) := by decide +kernel
theorem dX6_wakeOn_72 : decode cX6_wakeOn 72 = .ok (.invokestatic 119, 3) := by decide +kernel
theorem dX6_wakeOn_75 : decode cX6_wakeOn 75 = .ok (.ifCond .eq 43, 3) := by decide +kernel
theorem dX6_wakeOn_78 : decode cX6_wakeOn 78 = .ok (.aload_n 1, 1) := by decide +kernel
theorem dX6_wakeOn_79 : decode cX6_wakeOn 79 = .ok (.bipush 6, 2) := by decide +kernel
theorem dX6_wakeOn_81 : decode cX6_wakeOn 81 = .ok (.iload_n 2, 1) := by decide +kernel
theorem dX6_wakeOn_82 : decode cX6_wakeOn 82 = .ok (.imul, 1) := by decide +kernel
theorem dX6_wakeOn_83 : decode cX6_wakeOn 83 = .ok (.iconst 3, 1) := by decide +kernel
theorem dX6_wakeOn_84 : decode cX6_wakeOn 84 = .ok (.iadd, 1) := by decide +kernel
theorem dX6_wakeOn_85 : decode cX6_wakeOn 85 = .ok (.iconst 0, 1) := by decide +kernel
theorem dX6_wakeOn_86 : decode cX6_wakeOn 86 = .ok (.iastore, 1) := by decide +kernel
theorem dX6_wakeOn_87 : decode cX6_wakeOn 87 = .ok (.aload_n 0, 1) := by decide +kernel
theorem dX6_wakeOn_88 : decode cX6_wakeOn 88 = .ok (.dup, 1) := by decide +kernel
theorem dX6_wakeOn_89 : decode cX6_wakeOn 89 = .ok (.getfield 116, 3) := by decide +kernel
theorem dX6_wakeOn_92 : decode cX6_wakeOn 92 = .ok (.iload_n 3, 1) := by decide +kernel
theorem dX6_wakeOn_93 : decode cX6_wakeOn 93 = .ok (.ifCond .ne 20, 3) := by decide +kernel
theorem dX6_wakeOn_96 : decode cX6_wakeOn 96 = .ok (.aload_n 1, 1) := by decide +kernel
theorem dX6_wakeOn_97 : decode cX6_wakeOn 97 = .ok (.bipush 6, 2) := by decide +kernel
theorem dX6_wakeOn_99 : decode cX6_wakeOn 99 = .ok (.iload_n 2, 1) := by decide +kernel
theorem dX6_wakeOn_100 : decode cX6_wakeOn 100 = .ok (.imul, 1) := by decide +kernel
theorem dX6_wakeOn_101 : decode cX6_wakeOn 101 = .ok (.iconst 2, 1) := by decide +kernel
theorem dX6_wakeOn_102 : decode cX6_wakeOn 102 = .ok (.iadd, 1) := by decide +kernel
theorem dX6_wakeOn_103 : decode cX6_wakeOn 103 = .ok (.iaload, 1) := by decide +kernel
theorem dX6_wakeOn_104 : decode cX6_wakeOn 104 = .ok (.ifCond .ne 9, 3) := by decide +kernel
theorem dX6_wakeOn_107 : decode cX6_wakeOn 107 = .ok (.iconst 1, 1) := by decide +kernel
theorem dX6_wakeOn_108 : decode cX6_wakeOn 108 = .ok (.iload_n 2, 1) := by decide +kernel
theorem dX6_wakeOn_109 : decode cX6_wakeOn 109 = .ok (.ishl, 1) := by decide +kernel
theorem dX6_wakeOn_110 : decode cX6_wakeOn 110 = .ok (.goto 4, 3) := by decide +kernel
theorem dX6_wakeOn_113 : decode cX6_wakeOn 113 = .ok (.iconst 0, 1) := by decide +kernel
theorem dX6_wakeOn_114 : decode cX6_wakeOn 114 = .ok (.ior, 1) := by decide +kernel
theorem dX6_wakeOn_115 : decode cX6_wakeOn 115 = .ok (.putfield 116, 3) := by decide +kernel
theorem dX6_wakeOn_118 : decode cX6_wakeOn 118 = .ok (.iinc 2 1, 3) := by decide +kernel
theorem dX6_wakeOn_121 : decode cX6_wakeOn 121 = .ok (.goto (-100), 3) := by decide +kernel
theorem dX6_wakeOn_124 : decode cX6_wakeOn 124 = .ok (.return_, 1) := by decide +kernel
theorem dX6_ticketOn_0 : decode cX6_ticketOn 0 = .ok (.aload_n 0, 1) := by decide +kernel
theorem dX6_ticketOn_1 : decode cX6_ticketOn 1 = .ok (.getfield 116, 3) := by decide +kernel
theorem dX6_ticketOn_4 : decode cX6_ticketOn 4 = .ok (.iload_n 2, 1) := by decide +kernel
theorem dX6_ticketOn_5 : decode cX6_ticketOn 5 = .ok (.invokestatic 119, 3) := by decide +kernel
theorem dX6_ticketOn_8 : decode cX6_ticketOn 8 = .ok (.ifCond .eq 34, 3) := by decide +kernel
theorem dX6_ticketOn_11 : decode cX6_ticketOn 11 = .ok (.aload_n 1, 1) := by decide +kernel
theorem dX6_ticketOn_12 : decode cX6_ticketOn 12 = .ok (.bipush 6, 2) := by decide +kernel
theorem dX6_ticketOn_14 : decode cX6_ticketOn 14 = .ok (.iload_n 2, 1) := by decide +kernel
theorem dX6_ticketOn_15 : decode cX6_ticketOn 15 = .ok (.imul, 1) := by decide +kernel
theorem dX6_ticketOn_16 : decode cX6_ticketOn 16 = .ok (.iconst 5, 1) := by decide +kernel
theorem dX6_ticketOn_17 : decode cX6_ticketOn 17 = .ok (.iadd, 1) := by decide +kernel
theorem dX6_ticketOn_18 : decode cX6_ticketOn 18 = .ok (.iaload, 1) := by decide +kernel
theorem dX6_ticketOn_19 : decode cX6_ticketOn 19 = .ok (.ifCond .ne 23, 3) := by decide +kernel
theorem dX6_ticketOn_22 : decode cX6_ticketOn 22 = .ok (.aload_n 1, 1) := by decide +kernel
theorem dX6_ticketOn_23 : decode cX6_ticketOn 23 = .ok (.bipush 75, 2) := by decide +kernel
theorem dX6_ticketOn_25 : decode cX6_ticketOn 25 = .ok (.dup2, 1) := by decide +kernel
theorem dX6_ticketOn_26 : decode cX6_ticketOn 26 = .ok (.iaload, 1) := by decide +kernel
theorem dX6_ticketOn_27 : decode cX6_ticketOn 27 = .ok (.iconst 1, 1) := by decide +kernel
theorem dX6_ticketOn_28 : decode cX6_ticketOn 28 = .ok (.iadd, 1) := by decide +kernel
theorem dX6_ticketOn_29 : decode cX6_ticketOn 29 = .ok (.iastore, 1) := by decide +kernel
theorem dX6_ticketOn_30 : decode cX6_ticketOn 30 = .ok (.aload_n 1, 1) := by decide +kernel
theorem dX6_ticketOn_31 : decode cX6_ticketOn 31 = .ok (.bipush 6, 2) := by decide +kernel
theorem dX6_ticketOn_33 : decode cX6_ticketOn 33 = .ok (.iload_n 2, 1) := by decide +kernel
theorem dX6_ticketOn_34 : decode cX6_ticketOn 34 = .ok (.imul, 1) := by decide +kernel
theorem dX6_ticketOn_35 : decode cX6_ticketOn 35 = .ok (.iconst 5, 1) := by decide +kernel
theorem dX6_ticketOn_36 : decode cX6_ticketOn 36 = .ok (.iadd, 1) := by decide +kernel
theorem dX6_ticketOn_37 : decode cX6_ticketOn 37 = .ok (.aload_n 1, 1) := by decide +kernel
theorem dX6_ticketOn_38 : decode cX6_ticketOn 38 = .ok (.bipush 75, 2) := by decide +kernel
theorem dX6_ticketOn_40 : decode cX6_ticketOn 40 = .ok (.iaload, 1) := by decide +kernel
theorem dX6_ticketOn_41 : decode cX6_ticketOn 41 = .ok (.iastore, 1) := by decide +kernel
theorem dX6_ticketOn_42 : decode cX6_ticketOn 42 = .ok (.return_, 1) := by decide +kernel
theorem dX6_may_0 : decode cX6_may 0 = .ok (.aload_n 0, 1) := by decide +kernel
theorem dX6_may_1 : decode cX6_may 1 = .ok (.getfield 116, 3) := by decide +kernel
theorem dX6_may_4 : decode cX6_may 4 = .ok (.iload_n 2, 1) := by decide +kernel
theorem dX6_may_5 : decode cX6_may 5 = .ok (.invokestatic 119, 3) := by decide +kernel
theorem dX6_may_8 : decode cX6_may 8 = .ok (.ifCond .ne 5, 3) := by decide +kernel
theorem dX6_may_11 : decode cX6_may 11 = .ok (.iconst 0, 1) := by decide +kernel
theorem dX6_may_12 : decode cX6_may 12 = .ok (.ireturn, 1) := by decide +kernel
theorem dX6_may_13 : decode cX6_may 13 = .ok (.aload_n 0, 1) := by decide +kernel
theorem dX6_may_14 : decode cX6_may 14 = .ok (.iload_n 2, 1) := by decide +kernel
theorem dX6_may_15 : decode cX6_may 15 = .ok (.invokevirtual 123, 3) := by decide +kernel
theorem dX6_may_18 : decode cX6_may 18 = .ok (.istore_n 3, 1) := by decide +kernel
theorem dX6_may_19 : decode cX6_may 19 = .ok (.iload_n 3, 1) := by decide +kernel
theorem dX6_may_20 : decode cX6_may 20 = .ok (.bipush 99, 2) := by decide +kernel
theorem dX6_may_22 : decode cX6_may 22 = .ok (.if_icmp .ne 17, 3) := by decide +kernel
theorem dX6_may_25 : decode cX6_may 25 = .ok (.aload_n 1, 1) := by decide +kernel
theorem dX6_may_26 : decode cX6_may 26 = .ok (.bipush 72, 2) := by decide +kernel
theorem dX6_may_28 : decode cX6_may 28 = .ok (.iaload, 1) := by decide +kernel
theorem dX6_may_29 : decode cX6_may 29 = .ok (.iconst 1, 1) := by decide +kernel
theorem dX6_may_30 : decode cX6_may 30 = .ok (.if_icmp .ne 7, 3) := by decide +kernel
theorem dX6_may_33 : decode cX6_may 33 = .ok (.iconst 1, 1) := by decide +kernel
theorem dX6_may_34 : decode cX6_may 34 = .ok (.goto 4, 3) := by decide +kernel
theorem dX6_may_37 : decode cX6_may 37 = .ok (.iconst 0, 1) := by decide +kernel
theorem dX6_may_38 : decode cX6_may 38 = .ok (.ireturn, 1) := by decide +kernel
theorem dX6_may_39 : decode cX6_may 39 = .ok (.aload_n 0, 1) := by decide +kernel
theorem dX6_may_40 : decode cX6_may 40 = .ok (.getfield 113, 3) := by decide +kernel
theorem dX6_may_43 : decode cX6_may 43 = .ok (.iload_n 3, 1) := by decide +kernel
theorem dX6_may_44 : decode cX6_may 44 = .ok (.invokestatic 119, 3) := by decide +kernel
theorem dX6_may_47 : decode cX6_may 47 = .ok (.ifCond .eq 14, 3) := by decide +kernel
theorem dX6_may_50 : decode cX6_may 50 = .ok (.aload_n 1, 1) := by decide +kernel
theorem dX6_may_51 : decode cX6_may 51 = .ok (.bipush 6, 2) := by decide +kernel
theorem dX6_may_53 : decode cX6_may 53 = .ok (.iload_n 3, 1) := by decide +kernel
theorem dX6_may_54 : decode cX6_may 54 = .ok (.imul, 1) := by decide +kernel
theorem dX6_may_55 : decode cX6_may 55 = .ok (.iconst 3, 1) := by decide +kernel
theorem dX6_may_56 : decode cX6_may 56 = .ok (.iadd, 1) := by decide +kernel
theorem dX6_may_57 : decode cX6_may 57 = .ok (.iconst 0, 1) := by decide +kernel
theorem dX6_may_58 : decode cX6_may 58 = .ok (.iastore, 1) := by decide +kernel
theorem dX6_may_59 : decode cX6_may 59 = .ok (.iconst 0, 1) := by decide +kernel
theorem dX6_may_60 : decode cX6_may 60 = .ok (.ireturn, 1) := by decide +kernel
theorem dX6_may_61 : decode cX6_may 61 = .ok (.aload_n 0, 1) := by decide +kernel
theorem dX6_may_62 : decode cX6_may 62 = .ok (.getfield 110, 3) := by decide +kernel
theorem dX6_may_65 : decode cX6_may 65 = .ok (.iload_n 3, 1) := by decide +kernel
theorem dX6_may_66 : decode cX6_may 66 = .ok (.invokestatic 119, 3) := by decide +kernel
theorem dX6_may_69 : decode cX6_may 69 = .ok (.ifCond .eq 22, 3) := by decide +kernel
theorem dX6_may_72 : decode cX6_may 72 = .ok (.aload_n 1, 1) := by decide +kernel
theorem dX6_may_73 : decode cX6_may 73 = .ok (.bipush 73, 2) := by decide +kernel
theorem dX6_may_75 : decode cX6_may 75 = .ok (.iaload, 1) := by decide +kernel
theorem dX6_may_76 : decode cX6_may 76 = .ok (.iconst 1, 1) := by decide +kernel
theorem dX6_may_77 : decode cX6_may 77 = .ok (.if_icmp .ne 18, 3) := by decide +kernel
theorem dX6_may_80 : decode cX6_may 80 = .ok (.aload_n 0, 1) := by decide +kernel
theorem dX6_may_81 : decode cX6_may 81 = .ok (.getfield 127, 3) := by decide +kernel
theorem dX6_may_84 : decode cX6_may 84 = .ok (.iload_n 3, 1) := by decide +kernel
theorem dX6_may_85 : decode cX6_may 85 = .ok (.invokestatic 119, 3) := by decide +kernel
theorem dX6_may_88 : decode cX6_may 88 = .ok (.ifCond .eq 7, 3) := by decide +kernel
theorem dX6_may_91 : decode cX6_may 91 = .ok (.iconst 1, 1) := by decide +kernel
theorem dX6_may_92 : decode cX6_may 92 = .ok (.goto 4, 3) := by decide +kernel
theorem dX6_may_95 : decode cX6_may 95 = .ok (.iconst 0, 1) := by decide +kernel
theorem dX6_may_96 : decode cX6_may 96 = .ok (.ireturn, 1) := by decide +kernel
theorem dX6_layGoes_0 : decode cX6_layGoes 0 = .ok (.aload_n 0, 1) := by decide +kernel
theorem dX6_layGoes_1 : decode cX6_layGoes 1 = .ok (.iconst 0, 1) := by decide +kernel
theorem dX6_layGoes_2 : decode cX6_layGoes 2 = .ok (.putfield 127, 3) := by decide +kernel
theorem dX6_layGoes_5 : decode cX6_layGoes 5 = .ok (.aload_n 0, 1) := by decide +kernel
theorem dX6_layGoes_6 : decode cX6_layGoes 6 = .ok (.invokevirtual 54, 3) := by decide +kernel
theorem dX6_layGoes_9 : decode cX6_layGoes 9 = .ok (.iconst 1, 1) := by decide +kernel
theorem dX6_layGoes_10 : decode cX6_layGoes 10 = .ok (.isub, 1) := by decide +kernel
theorem dX6_layGoes_11 : decode cX6_layGoes 11 = .ok (.istore_n 2, 1) := by decide +kernel
theorem dX6_layGoes_12 : decode cX6_layGoes 12 = .ok (.aload_n 0, 1) := by decide +kernel
theorem dX6_layGoes_13 : decode cX6_layGoes 13 = .ok (.getfield 13, 3) := by decide +kernel
theorem dX6_layGoes_16 : decode cX6_layGoes 16 = .ok (.iconst 1, 1) := by decide +kernel
theorem dX6_layGoes_17 : decode cX6_layGoes 17 = .ok (.isub, 1) := by decide +kernel
theorem dX6_layGoes_18 : decode cX6_layGoes 18 = .ok (.istore_n 3, 1) := by decide +kernel
theorem dX6_layGoes_19 : decode cX6_layGoes 19 = .ok (.iload_n 3, 1) := by decide +kernel
theorem dX6_layGoes_20 : decode cX6_layGoes 20 = .ok (.ifCond .lt 159, 3) := by decide +kernel
theorem dX6_layGoes_23 : decode cX6_layGoes 23 = .ok (.aload_n 0, 1) := by decide +kernel
theorem dX6_layGoes_24 : decode cX6_layGoes 24 = .ok (.aload_n 1, 1) := by decide +kernel
theorem dX6_layGoes_25 : decode cX6_layGoes 25 = .ok (.iload_n 3, 1) := by decide +kernel
theorem dX6_layGoes_26 : decode cX6_layGoes 26 = .ok (.invokevirtual 130, 3) := by decide +kernel
theorem dX6_layGoes_29 : decode cX6_layGoes 29 = .ok (.istore 4, 2) := by decide +kernel
theorem dX6_layGoes_31 : decode cX6_layGoes 31 = .ok (.iload_n 3, 1) := by decide +kernel
theorem dX6_layGoes_32 : decode cX6_layGoes 32 = .ok (.aload_n 0, 1) := by decide +kernel
theorem dX6_layGoes_33 : decode cX6_layGoes 33 = .ok (.getfield 17, 3) := by decide +kernel
theorem dX6_layGoes_36 : decode cX6_layGoes 36 = .ok (.iconst 1, 1) := by decide +kernel
theorem dX6_layGoes_37 : decode cX6_layGoes 37 = .ok (.isub, 1) := by decide +kernel
theorem dX6_layGoes_38 : decode cX6_layGoes 38 = .ok (.if_icmp .ne 114, 3) := by decide +kernel
theorem dX6_layGoes_41 : decode cX6_layGoes 41 = .ok (.aload_n 0, 1) := by decide +kernel
theorem dX6_layGoes_42 : decode cX6_layGoes 42 = .ok (.getfield 51, 3) := by decide +kernel
theorem dX6_layGoes_45 : decode cX6_layGoes 45 = .ok (.ifCond .le 107, 3) := by decide +kernel
theorem dX6_layGoes_48 : decode cX6_layGoes 48 = .ok (.aload_n 0, 1) := by decide +kernel
theorem dX6_layGoes_49 : decode cX6_layGoes 49 = .ok (.aload_n 1, 1) := by decide +kernel
theorem dX6_layGoes_50 : decode cX6_layGoes 50 = .ok (.iload_n 2, 1) := by decide +kernel
theorem dX6_layGoes_51 : decode cX6_layGoes 51 = .ok (.invokevirtual 130, 3) := by decide +kernel
theorem dX6_layGoes_54 : decode cX6_layGoes 54 = .ok (.istore 5, 2) := by decide +kernel
theorem dX6_layGoes_56 : decode cX6_layGoes 56 = .ok (.iload 4, 2) := by decide +kernel
theorem dX6_layGoes_58 : decode cX6_layGoes 58 = .ok (.ifCond .eq 12, 3) := by decide +kernel
theorem dX6_layGoes_61 : decode cX6_layGoes 61 = .ok (.iload 5, 2) := by decide +kernel
theorem dX6_layGoes_63 : decode cX6_layGoes 63 = .ok (.ifCond .eq 7, 3) := by decide +kernel
theorem dX6_layGoes_66 : decode cX6_layGoes 66 = .ok (.iconst 1, 1) := by decide +kernel
theorem dX6_layGoes_67 : decode cX6_layGoes 67 = .ok (.goto 4, 3) := by decide +kernel
theorem dX6_layGoes_70 : decode cX6_layGoes 70 = .ok (.iconst 0, 1) := by decide +kernel
theorem dX6_layGoes_71 : decode cX6_layGoes 71 = .ok (.istore 6, 2) := by decide +kernel
theorem dX6_layGoes_73 : decode cX6_layGoes 73 = .ok (.aload_n 1, 1) := by decide +kernel
theorem dX6_layGoes_74 : decode cX6_layGoes 74 = .ok (.bipush 6, 2) := by decide +kernel
theorem dX6_layGoes_76 : decode cX6_layGoes 76 = .ok (.iload_n 3, 1) := by decide +kernel
theorem dX6_layGoes_77 : decode cX6_layGoes 77 = .ok (.imul, 1) := by decide +kernel
theorem dX6_layGoes_78 : decode cX6_layGoes 78 = .ok (.iconst 5, 1) := by decide +kernel
theorem dX6_layGoes_79 : decode cX6_layGoes 79 = .ok (.iadd, 1) := by decide +kernel
theorem dX6_layGoes_80 : decode cX6_layGoes 80 = .ok (.iaload, 1) := by decide +kernel
theorem dX6_layGoes_81 : decode cX6_layGoes 81 = .ok (.aload_n 1, 1) := by decide +kernel
theorem dX6_layGoes_82 : decode cX6_layGoes 82 = .ok (.bipush 6, 2) := by decide +kernel
theorem dX6_layGoes_84 : decode cX6_layGoes 84 = .ok (.iload_n 2, 1) := by decide +kernel
theorem dX6_layGoes_85 : decode cX6_layGoes 85 = .ok (.imul, 1) := by decide +kernel
theorem dX6_layGoes_86 : decode cX6_layGoes 86 = .ok (.iconst 5, 1) := by decide +kernel
theorem dX6_layGoes_87 : decode cX6_layGoes 87 = .ok (.iadd, 1) := by decide +kernel
theorem dX6_layGoes_88 : decode cX6_layGoes 88 = .ok (.iaload, 1) := by decide +kernel
theorem dX6_layGoes_89 : decode cX6_layGoes 89 = .ok (.if_icmp .ge 7, 3) := by decide +kernel
theorem dX6_layGoes_92 : decode cX6_layGoes 92 = .ok (.iconst 1, 1) := by decide +kernel
theorem dX6_layGoes_93 : decode cX6_layGoes 93 = .ok (.goto 4, 3) := by decide +kernel
theorem dX6_layGoes_96 : decode cX6_layGoes 96 = .ok (.iconst 0, 1) := by decide +kernel
theorem dX6_layGoes_97 : decode cX6_layGoes 97 = .ok (.istore 7, 2) := by decide +kernel
theorem dX6_layGoes_99 : decode cX6_layGoes 99 = .ok (.aload_n 0, 1) := by decide +kernel
theorem dX6_layGoes_100 : decode cX6_layGoes 100 = .ok (.dup, 1) := by decide +kernel
theorem dX6_layGoes_101 : decode cX6_layGoes 101 = .ok (.getfield 127, 3) := by decide +kernel
theorem dX6_layGoes_104 : decode cX6_layGoes 104 = .ok (.iload 5, 2) := by decide +kernel
theorem dX6_layGoes_106 : decode cX6_layGoes 106 = .ok (.ifCond .eq 19, 3) := by decide +kernel
theorem dX6_layGoes_109 : decode cX6_layGoes 109 = .ok (.iload 6, 2) := by decide +kernel
theorem dX6_layGoes_111 : decode cX6_layGoes 111 = .ok (.ifCond .eq 8, 3) := by decide +kernel
theorem dX6_layGoes_114 : decode cX6_layGoes 114 = .ok (.iload 7, 2) := by decide +kernel
theorem dX6_layGoes_116 : decode cX6_layGoes 116 = .ok (.ifCond .ne 9, 3) := by decide +kernel
theorem dX6_layGoes_119 : decode cX6_layGoes 119 = .ok (.iconst 1, 1) := by decide +kernel
theorem dX6_layGoes_120 : decode cX6_layGoes 120 = .ok (.iload_n 2, 1) := by decide +kernel
theorem dX6_layGoes_121 : decode cX6_layGoes 121 = .ok (.ishl, 1) := by decide +kernel
theorem dX6_layGoes_122 : decode cX6_layGoes 122 = .ok (.goto 4, 3) := by decide +kernel
theorem dX6_layGoes_125 : decode cX6_layGoes 125 = .ok (.iconst 0, 1) := by decide +kernel
theorem dX6_layGoes_126 : decode cX6_layGoes 126 = .ok (.ior, 1) := by decide +kernel
theorem dX6_layGoes_127 : decode cX6_layGoes 127 = .ok (.putfield 127, 3) := by decide +kernel
theorem dX6_layGoes_130 : decode cX6_layGoes 130 = .ok (.iload 4, 2) := by decide +kernel
theorem dX6_layGoes_132 : decode cX6_layGoes 132 = .ok (.ifCond .eq 17, 3) := by decide +kernel
theorem dX6_layGoes_135 : decode cX6_layGoes 135 = .ok (.iload 6, 2) := by decide +kernel
theorem dX6_layGoes_137 : decode cX6_layGoes 137 = .ok (.ifCond .eq 8, 3) := by decide +kernel
theorem dX6_layGoes_140 : decode cX6_layGoes 140 = .ok (.iload 7, 2) := by decide +kernel
theorem dX6_layGoes_142 : decode cX6_layGoes 142 = .ok (.ifCond .eq 7, 3) := by decide +kernel
theorem dX6_layGoes_145 : decode cX6_layGoes 145 = .ok (.iconst 1, 1) := by decide +kernel
theorem dX6_layGoes_146 : decode cX6_layGoes 146 = .ok (.goto 4, 3) := by decide +kernel
theorem dX6_layGoes_149 : decode cX6_layGoes 149 = .ok (.iconst 0, 1) := by decide +kernel
theorem dX6_layGoes_150 : decode cX6_layGoes 150 = .ok (.istore 4, 2) := by decide +kernel
theorem dX6_layGoes_152 : decode cX6_layGoes 152 = .ok (.aload_n 0, 1) := by decide +kernel
theorem dX6_layGoes_153 : decode cX6_layGoes 153 = .ok (.dup, 1) := by decide +kernel
theorem dX6_layGoes_154 : decode cX6_layGoes 154 = .ok (.getfield 127, 3) := by decide +kernel
theorem dX6_layGoes_157 : decode cX6_layGoes 157 = .ok (.iload 4, 2) := by decide +kernel
theorem dX6_layGoes_159 : decode cX6_layGoes 159 = .ok (.ifCond .eq 9, 3) := by decide +kernel
theorem dX6_layGoes_162 : decode cX6_layGoes 162 = .ok (.iconst 1, 1) := by decide +kernel
theorem dX6_layGoes_163 : decode cX6_layGoes 163 = .ok (.iload_n 3, 1) := by decide +kernel
theorem dX6_layGoes_164 : decode cX6_layGoes 164 = .ok (.ishl, 1) := by decide +kernel
theorem dX6_layGoes_165 : decode cX6_layGoes 165 = .ok (.goto 4, 3) := by decide +kernel
theorem dX6_layGoes_168 : decode cX6_layGoes 168 = .ok (.iconst 0, 1) := by decide +kernel
theorem dX6_layGoes_169 : decode cX6_layGoes 169 = .ok (.ior, 1) := by decide +kernel
theorem dX6_layGoes_170 : decode cX6_layGoes 170 = .ok (.putfield 127, 3) := by decide +kernel
theorem dX6_layGoes_173 : decode cX6_layGoes 173 = .ok (.iinc 3 (-1), 3) := by decide +kernel
theorem dX6_layGoes_176 : decode cX6_layGoes 176 = .ok (.goto (-157), 3) := by decide +kernel
theorem dX6_layGoes_179 : decode cX6_layGoes 179 = .ok (.aload_n 0, 1) := by decide +kernel
theorem dX6_layGoes_180 : decode cX6_layGoes 180 = .ok (.invokevirtual 54, 3) := by decide +kernel
theorem dX6_layGoes_183 : decode cX6_layGoes 183 = .ok (.iconst 2, 1) := by decide +kernel
theorem dX6_layGoes_184 : decode cX6_layGoes 184 = .ok (.isub, 1) := by decide +kernel
theorem dX6_layGoes_185 : decode cX6_layGoes 185 = .ok (.istore_n 3, 1) := by decide +kernel
theorem dX6_layGoes_186 : decode cX6_layGoes 186 = .ok (.iload_n 3, 1) := by decide +kernel
theorem dX6_layGoes_187 : decode cX6_layGoes 187 = .ok (.aload_n 0, 1) := by decide +kernel
theorem dX6_layGoes_188 : decode cX6_layGoes 188 = .ok (.getfield 13, 3) := by decide +kernel
theorem dX6_layGoes_191 : decode cX6_layGoes 191 = .ok (.if_icmp .lt 34, 3) := by decide +kernel
theorem dX6_layGoes_194 : decode cX6_layGoes 194 = .ok (.aload_n 0, 1) := by decide +kernel
theorem dX6_layGoes_195 : decode cX6_layGoes 195 = .ok (.dup, 1) := by decide +kernel
theorem dX6_layGoes_196 : decode cX6_layGoes 196 = .ok (.getfield 127, 3) := by decide +kernel
theorem dX6_layGoes_199 : decode cX6_layGoes 199 = .ok (.aload_n 0, 1) := by decide +kernel
theorem dX6_layGoes_200 : decode cX6_layGoes 200 = .ok (.aload_n 1, 1) := by decide +kernel
theorem dX6_layGoes_201 : decode cX6_layGoes 201 = .ok (.iload_n 3, 1) := by decide +kernel
theorem dX6_layGoes_202 : decode cX6_layGoes 202 = .ok (.invokevirtual 130, 3) := by decide +kernel
theorem dX6_layGoes_205 : decode cX6_layGoes 205 = .ok (.ifCond .eq 9, 3) := by decide +kernel
theorem dX6_layGoes_208 : decode cX6_layGoes 208 = .ok (.iconst 1, 1) := by decide +kernel
theorem dX6_layGoes_209 : decode cX6_layGoes 209 = .ok (.iload_n 3, 1) := by decide +kernel
theorem dX6_layGoes_210 : decode cX6_layGoes 210 = .ok (.ishl, 1) := by decide +kernel
theorem dX6_layGoes_211 : decode cX6_layGoes 211 = .ok (.goto 4, 3) := by decide +kernel
theorem dX6_layGoes_214 : decode cX6_layGoes 214 = .ok (.iconst 0, 1) := by decide +kernel
theorem dX6_layGoes_215 : decode cX6_layGoes 215 = .ok (.ior, 1) := by decide +kernel
theorem dX6_layGoes_216 : decode cX6_layGoes 216 = .ok (.putfield 127, 3) := by decide +kernel
theorem dX6_layGoes_219 : decode cX6_layGoes 219 = .ok (.iinc 3 (-1), 3) := by decide +kernel
theorem dX6_layGoes_222 : decode cX6_layGoes 222 = .ok (.goto (-36), 3) := by decide +kernel
theorem dX6_layGoes_225 : decode cX6_layGoes 225 = .ok (.return_, 1) := by decide +kernel
theorem dX6_moveOn_0 : decode cX6_moveOn 0 = .ok (.aload_n 0, 1) := by decide +kernel
theorem dX6_moveOn_1 : decode cX6_moveOn 1 = .ok (.getfield 127, 3) := by decide +kernel
theorem dX6_moveOn_4 : decode cX6_moveOn 4 = .ok (.iload_n 2, 1) := by decide +kernel
theorem dX6_moveOn_5 : decode cX6_moveOn 5 = .ok (.invokestatic 119, 3) := by decide +kernel
theorem dX6_moveOn_8 : decode cX6_moveOn 8 = .ok (.ifCond .ne 4, 3) := by decide +kernel
theorem dX6_moveOn_11 : decode cX6_moveOn 11 = .ok (.return_, 1) := by decide +kernel
theorem dX6_moveOn_12 : decode cX6_moveOn 12 = .ok (.bipush 6, 2) := by decide +kernel
theorem dX6_moveOn_14 : decode cX6_moveOn 14 = .ok (.iload_n 2, 1) := by decide +kernel
theorem dX6_moveOn_15 : decode cX6_moveOn 15 = .ok (.imul, 1) := by decide +kernel
theorem dX6_moveOn_16 : decode cX6_moveOn 16 = .ok (.istore_n 3, 1) := by decide +kernel
theorem dX6_moveOn_17 : decode cX6_moveOn 17 = .ok (.aload_n 0, 1) := by decide +kernel
theorem dX6_moveOn_18 : decode cX6_moveOn 18 = .ok (.iload_n 2, 1) := by decide +kernel
theorem dX6_moveOn_19 : decode cX6_moveOn 19 = .ok (.invokevirtual 123, 3) := by decide +kernel
theorem dX6_moveOn_22 : decode cX6_moveOn 22 = .ok (.istore 4, 2) := by decide +kernel
theorem dX6_moveOn_24 : decode cX6_moveOn 24 = .ok (.aload_n 1, 1) := by decide +kernel
theorem dX6_moveOn_25 : decode cX6_moveOn 25 = .ok (.iload_n 3, 1) := by decide +kernel
theorem dX6_moveOn_26 : decode cX6_moveOn 26 = .ok (.iconst 5, 1) := by decide +kernel
theorem dX6_moveOn_27 : decode cX6_moveOn 27 = .ok (.iadd, 1) := by decide +kernel
theorem dX6_moveOn_28 : decode cX6_moveOn 28 = .ok (.iconst 0, 1) := by decide +kernel
theorem dX6_moveOn_29 : decode cX6_moveOn 29 = .ok (.iastore, 1) := by decide +kernel
theorem dX6_moveOn_30 : decode cX6_moveOn 30 = .ok (.aload_n 1, 1) := by decide +kernel
theorem dX6_moveOn_31 : decode cX6_moveOn 31 = .ok (.iload_n 3, 1) := by decide +kernel
theorem dX6_moveOn_32 : decode cX6_moveOn 32 = .ok (.iconst 0, 1) := by decide +kernel
theorem dX6_moveOn_33 : decode cX6_moveOn 33 = .ok (.iadd, 1) := by decide +kernel
theorem dX6_moveOn_34 : decode cX6_moveOn 34 = .ok (.iaload, 1) := by decide +kernel
theorem dX6_moveOn_35 : decode cX6_moveOn 35 = .ok (.ifCond .ne 4, 3) := by decide +kernel
theorem dX6_moveOn_38 : decode cX6_moveOn 38 = .ok (.return_, 1) := by decide +kernel
theorem dX6_moveOn_39 : decode cX6_moveOn 39 = .ok (.iload 4, 2) := by decide +kernel
theorem dX6_moveOn_41 : decode cX6_moveOn 41 = .ok (.bipush 99, 2) := by decide +kernel
theorem dX6_moveOn_43 : decode cX6_moveOn 43 = .ok (.if_icmp .ne 29, 3) := by decide +kernel
theorem dX6_moveOn_46 : decode cX6_moveOn 46 = .ok (.aload_n 0, 1) := by decide +kernel
theorem dX6_moveOn_47 : decode cX6_moveOn 47 = .ok (.aload_n 1, 1) := by decide +kernel
theorem dX6_moveOn_48 : decode cX6_moveOn 48 = .ok (.iload_n 3, 1) := by decide +kernel
theorem dX6_moveOn_49 : decode cX6_moveOn 49 = .ok (.iconst 0, 1) := by decide +kernel
theorem dX6_moveOn_50 : decode cX6_moveOn 50 = .ok (.iadd, 1) := by decide +kernel
theorem dX6_moveOn_51 : decode cX6_moveOn 51 = .ok (.iaload, 1) := by decide +kernel
theorem dX6_moveOn_52 : decode cX6_moveOn 52 = .ok (.putfield 133, 3) := by decide +kernel
theorem dX6_moveOn_55 : decode cX6_moveOn 55 = .ok (.aload_n 1, 1) := by decide +kernel
theorem dX6_moveOn_56 : decode cX6_moveOn 56 = .ok (.iload_n 3, 1) := by decide +kernel
theorem dX6_moveOn_57 : decode cX6_moveOn 57 = .ok (.iconst 0, 1) := by decide +kernel
theorem dX6_moveOn_58 : decode cX6_moveOn 58 = .ok (.iadd, 1) := by decide +kernel
theorem dX6_moveOn_59 : decode cX6_moveOn 59 = .ok (.iconst 0, 1) := by decide +kernel
theorem dX6_moveOn_60 : decode cX6_moveOn 60 = .ok (.iastore, 1) := by decide +kernel
theorem dX6_moveOn_61 : decode cX6_moveOn 61 = .ok (.aload_n 1, 1) := by decide +kernel
theorem dX6_moveOn_62 : decode cX6_moveOn 62 = .ok (.bipush 77, 2) := by decide +kernel
theorem dX6_moveOn_64 : decode cX6_moveOn 64 = .ok (.dup2, 1) := by decide +kernel
theorem dX6_moveOn_65 : decode cX6_moveOn 65 = .ok (.iaload, 1) := by decide +kernel
theorem dX6_moveOn_66 : decode cX6_moveOn 66 = .ok (.iconst 1, 1) := by decide +kernel
theorem dX6_moveOn_67 : decode cX6_moveOn 67 = .ok (.iadd, 1) := by decide +kernel
theorem dX6_moveOn_68 : decode cX6_moveOn 68 = .ok (.iastore, 1) := by decide +kernel
theorem dX6_moveOn_69 : decode cX6_moveOn 69 = .ok (.goto 44, 3) := by decide +kernel
theorem dX6_moveOn_72 : decode cX6_moveOn 72 = .ok (.aload_n 1, 1) := by decide +kernel
theorem dX6_moveOn_73 : decode cX6_moveOn 73 = .ok (.bipush 6, 2) := by decide +kernel
theorem dX6_moveOn_75 : decode cX6_moveOn 75 = .ok (.iload 4, 2) := by decide +kernel
theorem dX6_moveOn_77 : decode cX6_moveOn 77 = .ok (.imul, 1) := by decide +kernel
theorem dX6_moveOn_78 : decode cX6_moveOn 78 = .ok (.iconst 0, 1) := by decide +kernel
theorem dX6_moveOn_79 : decode cX6_moveOn 79 = .ok (.iadd, 1) := by decide +kernel
theorem dX6_moveOn_80 : decode cX6_moveOn 80 = .ok (.iaload, 1) := by decide +kernel
theorem dX6_moveOn_81 : decode cX6_moveOn 81 = .ok (.ifCond .ne 26, 3) := by decide +kernel
theorem dX6_moveOn_84 : decode cX6_moveOn 84 = .ok (.aload_n 1, 1) := by decide +kernel
theorem dX6_moveOn_85 : decode cX6_moveOn 85 = .ok (.bipush 6, 2) := by decide +kernel
theorem dX6_moveOn_87 : decode cX6_moveOn 87 = .ok (.iload 4, 2) := by decide +kernel
theorem dX6_moveOn_89 : decode cX6_moveOn 89 = .ok (.imul, 1) := by decide +kernel
theorem dX6_moveOn_90 : decode cX6_moveOn 90 = .ok (.iconst 0, 1) := by decide +kernel
theorem dX6_moveOn_91 : decode cX6_moveOn 91 = .ok (.iadd, 1) := by decide +kernel
theorem dX6_moveOn_92 : decode cX6_moveOn 92 = .ok (.aload_n 1, 1) := by decide +kernel
theorem dX6_moveOn_93 : decode cX6_moveOn 93 = .ok (.iload_n 3, 1) := by decide +kernel
theorem dX6_moveOn_94 : decode cX6_moveOn 94 = .ok (.iconst 0, 1) := by decide +kernel
theorem dX6_moveOn_95 : decode cX6_moveOn 95 = .ok (.iadd, 1) := by decide +kernel
theorem dX6_moveOn_96 : decode cX6_moveOn 96 = .ok (.iaload, 1) := by decide +kernel
theorem dX6_moveOn_97 : decode cX6_moveOn 97 = .ok (.iastore, 1) := by decide +kernel
theorem dX6_moveOn_98 : decode cX6_moveOn 98 = .ok (.aload_n 1, 1) := by decide +kernel
theorem dX6_moveOn_99 : decode cX6_moveOn 99 = .ok (.iload_n 3, 1) := by decide +kernel
theorem dX6_moveOn_100 : decode cX6_moveOn 100 = .ok (.iconst 0, 1) := by decide +kernel
theorem dX6_moveOn_101 : decode cX6_moveOn 101 = .ok (.iadd, 1) := by decide +kernel
theorem dX6_moveOn_102 : decode cX6_moveOn 102 = .ok (.iconst 0, 1) := by decide +kernel
theorem dX6_moveOn_103 : decode cX6_moveOn 103 = .ok (.iastore, 1) := by decide +kernel
theorem dX6_moveOn_104 : decode cX6_moveOn 104 = .ok (.goto 9, 3) := by decide +kernel
theorem dX6_moveOn_107 : decode cX6_moveOn 107 = .ok (.aload_n 1, 1) := by decide +kernel
theorem dX6_moveOn_108 : decode cX6_moveOn 108 = .ok (.iload_n 3, 1) := by decide +kernel
theorem dX6_moveOn_109 : decode cX6_moveOn 109 = .ok (.iconst 2, 1) := by decide +kernel
theorem dX6_moveOn_110 : decode cX6_moveOn 110 = .ok (.iadd, 1) := by decide +kernel
theorem dX6_moveOn_111 : decode cX6_moveOn 111 = .ok (.iconst 1, 1) := by decide +kernel
theorem dX6_moveOn_112 : decode cX6_moveOn 112 = .ok (.iastore, 1) := by decide +kernel
theorem dX6_moveOn_113 : decode cX6_moveOn 113 = .ok (.return_, 1) := by decide +kernel
theorem dX6_idleOn_0 : decode cX6_idleOn 0 = .ok (.aload_n 0, 1) := by decide +kernel
theorem dX6_idleOn_1 : decode cX6_idleOn 1 = .ok (.aload_n 1, 1) := by decide +kernel
theorem dX6_idleOn_2 : decode cX6_idleOn 2 = .ok (.invokevirtual 106, 3) := by decide +kernel
theorem dX6_idleOn_5 : decode cX6_idleOn 5 = .ok (.istore_n 2, 1) := by decide +kernel
theorem dX6_idleOn_6 : decode cX6_idleOn 6 = .ok (.iconst 0, 1) := by decide +kernel
theorem dX6_idleOn_7 : decode cX6_idleOn 7 = .ok (.istore_n 3, 1) := by decide +kernel
theorem dX6_idleOn_8 : decode cX6_idleOn 8 = .ok (.iload_n 3, 1) := by decide +kernel
theorem dX6_idleOn_9 : decode cX6_idleOn 9 = .ok (.aload_n 0, 1) := by decide +kernel
theorem dX6_idleOn_10 : decode cX6_idleOn 10 = .ok (.invokevirtual 54, 3) := by decide +kernel
theorem dX6_idleOn_13 : decode cX6_idleOn 13 = .ok (.if_icmp .ge 126, 3) := by decide +kernel
theorem dX6_idleOn_16 : decode cX6_idleOn 16 = .ok (.iload_n 2, 1) := by decide +kernel
theorem dX6_idleOn_17 : decode cX6_idleOn 17 = .ok (.iload_n 3, 1) := by decide +kernel
theorem dX6_idleOn_18 : decode cX6_idleOn 18 = .ok (.invokestatic 119, 3) := by decide +kernel
theorem dX6_idleOn_21 : decode cX6_idleOn 21 = .ok (.istore 4, 2) := by decide +kernel
theorem dX6_idleOn_23 : decode cX6_idleOn 23 = .ok (.iconst 0, 1) := by decide +kernel
theorem dX6_idleOn_24 : decode cX6_idleOn 24 = .ok (.istore 5, 2) := by decide +kernel
theorem dX6_idleOn_26 : decode cX6_idleOn 26 = .ok (.iload 5, 2) := by decide +kernel
theorem dX6_idleOn_28 : decode cX6_idleOn 28 = .ok (.aload_n 0, 1) := by decide +kernel
theorem dX6_idleOn_29 : decode cX6_idleOn 29 = .ok (.invokevirtual 54, 3) := by decide +kernel
theorem dX6_idleOn_32 : decode cX6_idleOn 32 = .ok (.if_icmp .ge 40, 3) := by decide +kernel
theorem dX6_idleOn_35 : decode cX6_idleOn 35 = .ok (.iload 4, 2) := by decide +kernel
theorem dX6_idleOn_37 : decode cX6_idleOn 37 = .ok (.ifCond .ne 22, 3) := by decide +kernel
theorem dX6_idleOn_40 : decode cX6_idleOn 40 = .ok (.iload_n 2, 1) := by decide +kernel
theorem dX6_idleOn_41 : decode cX6_idleOn 41 = .ok (.iload 5, 2) := by decide +kernel
theorem dX6_idleOn_43 : decode cX6_idleOn 43 = .ok (.invokestatic 119, 3) := by decide +kernel
theorem dX6_idleOn_46 : decode cX6_idleOn 46 = .ok (.ifCond .eq 17, 3) := by decide +kernel
theorem dX6_idleOn_49 : decode cX6_idleOn 49 = .ok (.aload_n 0, 1) := by decide +kernel
theorem dX6_idleOn_50 : decode cX6_idleOn 50 = .ok (.iload 5, 2) := by decide +kernel
theorem dX6_idleOn_52 : decode cX6_idleOn 52 = .ok (.invokevirtual 123, 3) := by decide +kernel
theorem dX6_idleOn_55 : decode cX6_idleOn 55 = .ok (.iload_n 3, 1) := by decide +kernel
theorem dX6_idleOn_56 : decode cX6_idleOn 56 = .ok (.if_icmp .ne 7, 3) := by decide +kernel
theorem dX6_idleOn_59 : decode cX6_idleOn 59 = .ok (.iconst 1, 1) := by decide +kernel
theorem dX6_idleOn_60 : decode cX6_idleOn 60 = .ok (.goto 4, 3) := by decide +kernel
theorem dX6_idleOn_63 : decode cX6_idleOn 63 = .ok (.iconst 0, 1) := by decide +kernel
theorem dX6_idleOn_64 : decode cX6_idleOn 64 = .ok (.istore 4, 2) := by decide +kernel
theorem dX6_idleOn_66 : decode cX6_idleOn 66 = .ok (.iinc 5 1, 3) := by decide +kernel
theorem dX6_idleOn_69 : decode cX6_idleOn 69 = .ok (.goto (-43), 3) := by decide +kernel
theorem dX6_idleOn_72 : decode cX6_idleOn 72 = .ok (.bipush 6, 2) := by decide +kernel
theorem dX6_idleOn_74 : decode cX6_idleOn 74 = .ok (.iload_n 3, 1) := by decide +kernel
theorem dX6_idleOn_75 : decode cX6_idleOn 75 = .ok (.imul, 1) := by decide +kernel
theorem dX6_idleOn_76 : decode cX6_idleOn 76 = .ok (.istore 5, 2) := by decide +kernel
theorem dX6_idleOn_78 : decode cX6_idleOn 78 = .ok (.aload_n 1, 1) := by decide +kernel
theorem dX6_idleOn_79 : decode cX6_idleOn 79 = .ok (.iload 5, 2) := by decide +kernel
theorem dX6_idleOn_81 : decode cX6_idleOn 81 = .ok (.iconst 4, 1) := by decide +kernel
theorem dX6_idleOn_82 : decode cX6_idleOn 82 = .ok (.iadd, 1) := by decide +kernel
theorem dX6_idleOn_83 : decode cX6_idleOn 83 = .ok (.iload 4, 2) := by decide +kernel
theorem dX6_idleOn_85 : decode cX6_idleOn 85 = .ok (.ifCond .eq 7, 3) := by decide +kernel
theorem dX6_idleOn_88 : decode cX6_idleOn 88 = .ok (.iconst 0, 1) := by decide +kernel
theorem dX6_idleOn_89 : decode cX6_idleOn 89 = .ok (.goto 11, 3) := by decide +kernel
theorem dX6_idleOn_92 : decode cX6_idleOn 92 = .ok (.aload_n 1, 1) := by decide +kernel
theorem dX6_idleOn_93 : decode cX6_idleOn 93 = .ok (.iload 5, 2) := by decide +kernel
theorem dX6_idleOn_95 : decode cX6_idleOn 95 = .ok (.iconst 4, 1) := by decide +kernel
theorem dX6_idleOn_96 : decode cX6_idleOn 96 = .ok (.iadd, 1) := by decide +kernel
theorem dX6_idleOn_97 : decode cX6_idleOn 97 = .ok (.iaload, 1) := by decide +kernel
theorem dX6_idleOn_98 : decode cX6_idleOn 98 = .ok (.iconst 1, 1) := by decide +kernel
theorem dX6_idleOn_99 : decode cX6_idleOn 99 = .ok (.iadd, 1) := by decide +kernel
theorem dX6_idleOn_100 : decode cX6_idleOn 100 = .ok (.iastore, 1) := by decide +kernel
theorem dX6_idleOn_101 : decode cX6_idleOn 101 = .ok (.iload 4, 2) := by decide +kernel
theorem dX6_idleOn_103 : decode cX6_idleOn 103 = .ok (.ifCond .ne 30, 3) := by decide +kernel
theorem dX6_idleOn_106 : decode cX6_idleOn 106 = .ok (.aload_n 1, 1) := by decide +kernel
theorem dX6_idleOn_107 : decode cX6_idleOn 107 = .ok (.bipush 74, 2) := by decide +kernel
theorem dX6_idleOn_109 : decode cX6_idleOn 109 = .ok (.iaload, 1) := by decide +kernel
theorem dX6_idleOn_110 : decode cX6_idleOn 110 = .ok (.ifCond .le 23, 3) := by decide +kernel
theorem dX6_idleOn_113 : decode cX6_idleOn 113 = .ok (.aload_n 1, 1) := by decide +kernel
theorem dX6_idleOn_114 : decode cX6_idleOn 114 = .ok (.iload 5, 2) := by decide +kernel
theorem dX6_idleOn_116 : decode cX6_idleOn 116 = .ok (.iconst 4, 1) := by decide +kernel
theorem dX6_idleOn_117 : decode cX6_idleOn 117 = .ok (.iadd, 1) := by decide +kernel
theorem dX6_idleOn_118 : decode cX6_idleOn 118 = .ok (.iaload, 1) := by decide +kernel
theorem dX6_idleOn_119 : decode cX6_idleOn 119 = .ok (.aload_n 1, 1) := by decide +kernel
theorem dX6_idleOn_120 : decode cX6_idleOn 120 = .ok (.bipush 74, 2) := by decide +kernel
theorem dX6_idleOn_122 : decode cX6_idleOn 122 = .ok (.iaload, 1) := by decide +kernel
theorem dX6_idleOn_123 : decode cX6_idleOn 123 = .ok (.if_icmp .lt 10, 3) := by decide +kernel
theorem dX6_idleOn_126 : decode cX6_idleOn 126 = .ok (.aload_n 1, 1) := by decide +kernel
theorem dX6_idleOn_127 : decode cX6_idleOn 127 = .ok (.iload 5, 2) := by decide +kernel
theorem dX6_idleOn_129 : decode cX6_idleOn 129 = .ok (.iconst 3, 1) := by decide +kernel
theorem dX6_idleOn_130 : decode cX6_idleOn 130 = .ok (.iadd, 1) := by decide +kernel
theorem dX6_idleOn_131 : decode cX6_idleOn 131 = .ok (.iconst 1, 1) := by decide +kernel
theorem dX6_idleOn_132 : decode cX6_idleOn 132 = .ok (.iastore, 1) := by decide +kernel
theorem dX6_idleOn_133 : decode cX6_idleOn 133 = .ok (.iinc 3 1, 3) := by decide +kernel
theorem dX6_idleOn_136 : decode cX6_idleOn 136 = .ok (.goto (-128), 3) := by decide +kernel
theorem dX6_idleOn_139 : decode cX6_idleOn 139 = .ok (.return_, 1) := by decide +kernel
theorem dX6_stepOn_0 : decode cX6_stepOn 0 = .ok (.aload_n 0, 1) := by decide +kernel
theorem dX6_stepOn_1 : decode cX6_stepOn 1 = .ok (.iconst 0, 1) := by decide +kernel
theorem dX6_stepOn_2 : decode cX6_stepOn 2 = .ok (.putfield 133, 3) := by decide +kernel
theorem dX6_stepOn_5 : decode cX6_stepOn 5 = .ok (.aload_n 0, 1) := by decide +kernel
theorem dX6_stepOn_6 : decode cX6_stepOn 6 = .ok (.aload_n 1, 1) := by decide +kernel
theorem dX6_stepOn_7 : decode cX6_stepOn 7 = .ok (.invokevirtual 136, 3) := by decide +kernel
theorem dX6_stepOn_10 : decode cX6_stepOn 10 = .ok (.aload_n 0, 1) := by decide +kernel
theorem dX6_stepOn_11 : decode cX6_stepOn 11 = .ok (.aload_n 1, 1) := by decide +kernel
theorem dX6_stepOn_12 : decode cX6_stepOn 12 = .ok (.aload_n 0, 1) := by decide +kernel
theorem dX6_stepOn_13 : decode cX6_stepOn 13 = .ok (.getfield 17, 3) := by decide +kernel
theorem dX6_stepOn_16 : decode cX6_stepOn 16 = .ok (.iconst 1, 1) := by decide +kernel
theorem dX6_stepOn_17 : decode cX6_stepOn 17 = .ok (.isub, 1) := by decide +kernel
theorem dX6_stepOn_18 : decode cX6_stepOn 18 = .ok (.invokevirtual 140, 3) := by decide +kernel
theorem dX6_stepOn_21 : decode cX6_stepOn 21 = .ok (.aload_n 0, 1) := by decide +kernel
theorem dX6_stepOn_22 : decode cX6_stepOn 22 = .ok (.getfield 51, 3) := by decide +kernel
theorem dX6_stepOn_25 : decode cX6_stepOn 25 = .ok (.ifCond .le 14, 3) := by decide +kernel
theorem dX6_stepOn_28 : decode cX6_stepOn 28 = .ok (.aload_n 0, 1) := by decide +kernel
theorem dX6_stepOn_29 : decode cX6_stepOn 29 = .ok (.aload_n 1, 1) := by decide +kernel
theorem dX6_stepOn_30 : decode cX6_stepOn 30 = .ok (.aload_n 0, 1) := by decide +kernel
theorem dX6_stepOn_31 : decode cX6_stepOn 31 = .ok (.invokevirtual 54, 3) := by decide +kernel
theorem dX6_stepOn_34 : decode cX6_stepOn 34 = .ok (.iconst 1, 1) := by decide +kernel
theorem dX6_stepOn_35 : decode cX6_stepOn 35 = .ok (.isub, 1) := by decide +kernel
theorem dX6_stepOn_36 : decode cX6_stepOn 36 = .ok (.invokevirtual 140, 3) := by decide +kernel
theorem dX6_stepOn_39 : decode cX6_stepOn 39 = .ok (.aload_n 0, 1) := by decide +kernel
theorem dX6_stepOn_40 : decode cX6_stepOn 40 = .ok (.aload_n 1, 1) := by decide +kernel
theorem dX6_stepOn_41 : decode cX6_stepOn 41 = .ok (.invokevirtual 144, 3) := by decide +kernel
theorem dX6_stepOn_44 : decode cX6_stepOn 44 = .ok (.aload_n 0, 1) := by decide +kernel
theorem dX6_stepOn_45 : decode cX6_stepOn 45 = .ok (.getfield 13, 3) := by decide +kernel
theorem dX6_stepOn_48 : decode cX6_stepOn 48 = .ok (.iconst 1, 1) := by decide +kernel
theorem dX6_stepOn_49 : decode cX6_stepOn 49 = .ok (.isub, 1) := by decide +kernel
theorem dX6_stepOn_50 : decode cX6_stepOn 50 = .ok (.istore_n 2, 1) := by decide +kernel
theorem dX6_stepOn_51 : decode cX6_stepOn 51 = .ok (.iload_n 2, 1) := by decide +kernel
theorem dX6_stepOn_52 : decode cX6_stepOn 52 = .ok (.ifCond .lt 15, 3) := by decide +kernel
theorem dX6_stepOn_55 : decode cX6_stepOn 55 = .ok (.aload_n 0, 1) := by decide +kernel
theorem dX6_stepOn_56 : decode cX6_stepOn 56 = .ok (.aload_n 1, 1) := by decide +kernel
theorem dX6_stepOn_57 : decode cX6_stepOn 57 = .ok (.iload_n 2, 1) := by decide +kernel
theorem dX6_stepOn_58 : decode cX6_stepOn 58 = .ok (.invokevirtual 147, 3) := by decide +kernel
theorem dX6_stepOn_61 : decode cX6_stepOn 61 = .ok (.iinc 2 (-1), 3) := by decide +kernel
theorem dX6_stepOn_64 : decode cX6_stepOn 64 = .ok (.goto (-13), 3) := by decide +kernel
theorem dX6_stepOn_67 : decode cX6_stepOn 67 = .ok (.aload_n 0, 1) := by decide +kernel
theorem dX6_stepOn_68 : decode cX6_stepOn 68 = .ok (.invokevirtual 54, 3) := by decide +kernel
theorem dX6_stepOn_71 : decode cX6_stepOn 71 = .ok (.iconst 1, 1) := by decide +kernel
theorem dX6_stepOn_72 : decode cX6_stepOn 72 = .ok (.isub, 1) := by decide +kernel
theorem dX6_stepOn_73 : decode cX6_stepOn 73 = .ok (.istore_n 2, 1) := by decide +kernel
theorem dX6_stepOn_74 : decode cX6_stepOn 74 = .ok (.iload_n 2, 1) := by decide +kernel
theorem dX6_stepOn_75 : decode cX6_stepOn 75 = .ok (.aload_n 0, 1) := by decide +kernel
theorem dX6_stepOn_76 : decode cX6_stepOn 76 = .ok (.getfield 13, 3) := by decide +kernel
theorem dX6_stepOn_79 : decode cX6_stepOn 79 = .ok (.if_icmp .lt 15, 3) := by decide +kernel
theorem dX6_stepOn_82 : decode cX6_stepOn 82 = .ok (.aload_n 0, 1) := by decide +kernel
theorem dX6_stepOn_83 : decode cX6_stepOn 83 = .ok (.aload_n 1, 1) := by decide +kernel
theorem dX6_stepOn_84 : decode cX6_stepOn 84 = .ok (.iload_n 2, 1) := by decide +kernel
theorem dX6_stepOn_85 : decode cX6_stepOn 85 = .ok (.invokevirtual 147, 3) := by decide +kernel
theorem dX6_stepOn_88 : decode cX6_stepOn 88 = .ok (.iinc 2 (-1), 3) := by decide +kernel
theorem dX6_stepOn_91 : decode cX6_stepOn 91 = .ok (.goto (-17), 3) := by decide +kernel
theorem dX6_stepOn_94 : decode cX6_stepOn 94 = .ok (.aload_n 0, 1) := by decide +kernel
theorem dX6_stepOn_95 : decode cX6_stepOn 95 = .ok (.aload_n 1, 1) := by decide +kernel
theorem dX6_stepOn_96 : decode cX6_stepOn 96 = .ok (.invokevirtual 150, 3) := by decide +kernel
theorem dX6_stepOn_99 : decode cX6_stepOn 99 = .ok (.aload_n 1, 1) := by decide +kernel
theorem dX6_stepOn_100 : decode cX6_stepOn 100 = .ok (.bipush 78, 2) := by decide +kernel
theorem dX6_stepOn_102 : decode cX6_stepOn 102 = .ok (.dup2, 1) := by decide +kernel
theorem dX6_stepOn_103 : decode cX6_stepOn 103 = .ok (.iaload, 1) := by decide +kernel
theorem dX6_stepOn_104 : decode cX6_stepOn 104 = .ok (.iconst 1, 1) := by decide +kernel
theorem dX6_stepOn_105 : decode cX6_stepOn 105 = .ok (.iadd, 1) := by decide +kernel
theorem dX6_stepOn_106 : decode cX6_stepOn 106 = .ok (.iastore, 1) := by decide +kernel
theorem dX6_stepOn_107 : decode cX6_stepOn 107 = .ok (.return_, 1) := by decide +kernel
theorem dX6_stepsOn_0 : decode cX6_stepsOn 0 = .ok (.iconst 0, 1) := by decide +kernel
theorem dX6_stepsOn_1 : decode cX6_stepsOn 1 = .ok (.istore_n 3, 1) := by decide +kernel
theorem dX6_stepsOn_2 : decode cX6_stepsOn 2 = .ok (.iload_n 3, 1) := by decide +kernel
theorem dX6_stepsOn_3 : decode cX6_stepsOn 3 = .ok (.iload_n 2, 1) := by decide +kernel
theorem dX6_stepsOn_4 : decode cX6_stepsOn 4 = .ok (.if_icmp .ge 14, 3) := by decide +kernel
theorem dX6_stepsOn_7 : decode cX6_stepsOn 7 = .ok (.aload_n 0, 1) := by decide +kernel
theorem dX6_stepsOn_8 : decode cX6_stepsOn 8 = .ok (.aload_n 1, 1) := by decide +kernel
theorem dX6_stepsOn_9 : decode cX6_stepsOn 9 = .ok (.invokevirtual 153, 3) := by decide +kernel
theorem dX6_stepsOn_12 : decode cX6_stepsOn 12 = .ok (.iinc 3 1, 3) := by decide +kernel
theorem dX6_stepsOn_15 : decode cX6_stepsOn 15 = .ok (.goto (-13), 3) := by decide +kernel
theorem dX6_stepsOn_18 : decode cX6_stepsOn 18 = .ok (.return_, 1) := by decide +kernel
theorem dX6_those_0 : decode cX6_those 0 = .ok (.iconst 0, 1) := by decide +kernel
theorem dX6_those_1 : decode cX6_those 1 = .ok (.istore_n 3, 1) := by decide +kernel
theorem dX6_those_2 : decode cX6_those 2 = .ok (.iconst 0, 1) := by decide +kernel
theorem dX6_those_3 : decode cX6_those 3 = .ok (.istore 4, 2) := by decide +kernel
theorem dX6_those_5 : decode cX6_those 5 = .ok (.iload 4, 2) := by decide +kernel
theorem dX6_those_7 : decode cX6_those 7 = .ok (.aload_n 0, 1) := by decide +kernel
theorem dX6_those_8 : decode cX6_those 8 = .ok (.invokevirtual 54, 3) := by decide +kernel
theorem dX6_those_11 : decode cX6_those 11 = .ok (.if_icmp .ge 32, 3) := by decide +kernel
theorem dX6_those_14 : decode cX6_those 14 = .ok (.iload_n 3, 1) := by decide +kernel
theorem dX6_those_15 : decode cX6_those 15 = .ok (.aload_n 1, 1) := by decide +kernel
theorem dX6_those_16 : decode cX6_those 16 = .ok (.bipush 6, 2) := by decide +kernel
theorem dX6_those_18 : decode cX6_those 18 = .ok (.iload 4, 2) := by decide +kernel
theorem dX6_those_20 : decode cX6_those 20 = .ok (.imul, 1) := by decide +kernel
theorem dX6_those_21 : decode cX6_those 21 = .ok (.iload_n 2, 1) := by decide +kernel
theorem dX6_those_22 : decode cX6_those 22 = .ok (.iadd, 1) := by decide +kernel
theorem dX6_those_23 : decode cX6_those 23 = .ok (.iaload, 1) := by decide +kernel
theorem dX6_those_24 : decode cX6_those 24 = .ok (.ifCond .le 10, 3) := by decide +kernel
theorem dX6_those_27 : decode cX6_those 27 = .ok (.iconst 1, 1) := by decide +kernel
theorem dX6_those_28 : decode cX6_those 28 = .ok (.iload 4, 2) := by decide +kernel
theorem dX6_those_30 : decode cX6_those 30 = .ok (.ishl, 1) := by decide +kernel
theorem dX6_those_31 : decode cX6_those 31 = .ok (.goto 4, 3) := by decide +kernel
theorem dX6_those_34 : decode cX6_those 34 = .ok (.iconst 0, 1) := by decide +kernel
theorem dX6_those_35 : decode cX6_those 35 = .ok (.ior, 1) := by decide +kernel
theorem dX6_those_36 : decode cX6_those 36 = .ok (.istore_n 3, 1) := by decide +kernel
theorem dX6_those_37 : decode cX6_those 37 = .ok (.iinc 4 1, 3) := by decide +kernel
theorem dX6_those_40 : decode cX6_those 40 = .ok (.goto (-35), 3) := by decide +kernel
theorem dX6_those_43 : decode cX6_those 43 = .ok (.iload_n 3, 1) := by decide +kernel
theorem dX6_those_44 : decode cX6_those 44 = .ok (.ireturn, 1) := by decide +kernel
theorem dX6_tellOf_0 : decode cX6_tellOf 0 = .ok (.bipush 6, 2) := by decide +kernel
theorem dX6_tellOf_2 : decode cX6_tellOf 2 = .ok (.iload_n 2, 1) := by decide +kernel
theorem dX6_tellOf_3 : decode cX6_tellOf 3 = .ok (.imul, 1) := by decide +kernel
theorem dX6_tellOf_4 : decode cX6_tellOf 4 = .ok (.istore 4, 2) := by decide +kernel
theorem dX6_tellOf_6 : decode cX6_tellOf 6 = .ok (.iload_n 3, 1) := by decide +kernel
theorem dX6_tellOf_7 : decode cX6_tellOf 7 = .ok (.tableswitch 67 0 2 #[25, 46, 53], 25) := by decide +kernel
theorem dX6_tellOf_32 : decode cX6_tellOf 32 = .ok (.aload_n 1, 1) := by decide +kernel
theorem dX6_tellOf_33 : decode cX6_tellOf 33 = .ok (.iload 4, 2) := by decide +kernel
theorem dX6_tellOf_35 : decode cX6_tellOf 35 = .ok (.iconst 0, 1) := by decide +kernel
theorem dX6_tellOf_36 : decode cX6_tellOf 36 = .ok (.iadd, 1) := by decide +kernel
theorem dX6_tellOf_37 : decode cX6_tellOf 37 = .ok (.iaload, 1) := by decide +kernel
theorem dX6_tellOf_38 : decode cX6_tellOf 38 = .ok (.ifCond .le 12, 3) := by decide +kernel
theorem dX6_tellOf_41 : decode cX6_tellOf 41 = .ok (.aload_n 1, 1) := by decide +kernel
theorem dX6_tellOf_42 : decode cX6_tellOf 42 = .ok (.iload 4, 2) := by decide +kernel
theorem dX6_tellOf_44 : decode cX6_tellOf 44 = .ok (.iconst 0, 1) := by decide +kernel
theorem dX6_tellOf_45 : decode cX6_tellOf 45 = .ok (.iadd, 1) := by decide +kernel
theorem dX6_tellOf_46 : decode cX6_tellOf 46 = .ok (.iaload, 1) := by decide +kernel
theorem dX6_tellOf_47 : decode cX6_tellOf 47 = .ok (.goto 5, 3) := by decide +kernel
theorem dX6_tellOf_50 : decode cX6_tellOf 50 = .ok (.bipush (-9), 2) := by decide +kernel
theorem dX6_tellOf_52 : decode cX6_tellOf 52 = .ok (.ireturn, 1) := by decide +kernel
theorem dX6_tellOf_53 : decode cX6_tellOf 53 = .ok (.aload_n 1, 1) := by decide +kernel
theorem dX6_tellOf_54 : decode cX6_tellOf 54 = .ok (.iload 4, 2) := by decide +kernel
theorem dX6_tellOf_56 : decode cX6_tellOf 56 = .ok (.iconst 1, 1) := by decide +kernel
theorem dX6_tellOf_57 : decode cX6_tellOf 57 = .ok (.iadd, 1) := by decide +kernel
theorem dX6_tellOf_58 : decode cX6_tellOf 58 = .ok (.iaload, 1) := by decide +kernel
theorem dX6_tellOf_59 : decode cX6_tellOf 59 = .ok (.ireturn, 1) := by decide +kernel
theorem dX6_tellOf_60 : decode cX6_tellOf 60 = .ok (.aload_n 1, 1) := by decide +kernel
theorem dX6_tellOf_61 : decode cX6_tellOf 61 = .ok (.iload_n 2, 1) := by decide +kernel
theorem dX6_tellOf_62 : decode cX6_tellOf 62 = .ok (.invokestatic 102, 3) := by decide +kernel
theorem dX6_tellOf_65 : decode cX6_tellOf 65 = .ok (.ifCond .eq 7, 3) := by decide +kernel
theorem dX6_tellOf_68 : decode cX6_tellOf 68 = .ok (.iconst 1, 1) := by decide +kernel
theorem dX6_tellOf_69 : decode cX6_tellOf 69 = .ok (.goto 4, 3) := by decide +kernel
theorem dX6_tellOf_72 : decode cX6_tellOf 72 = .ok (.iconst 0, 1) := by decide +kernel
theorem dX6_tellOf_73 : decode cX6_tellOf 73 = .ok (.ireturn, 1) := by decide +kernel
theorem dX6_tellOf_74 : decode cX6_tellOf 74 = .ok (.aload_n 1, 1) := by decide +kernel
theorem dX6_tellOf_75 : decode cX6_tellOf 75 = .ok (.iload 4, 2) := by decide +kernel
theorem dX6_tellOf_77 : decode cX6_tellOf 77 = .ok (.iload_n 3, 1) := by decide +kernel
theorem dX6_tellOf_78 : decode cX6_tellOf 78 = .ok (.iadd, 1) := by decide +kernel
theorem dX6_tellOf_79 : decode cX6_tellOf 79 = .ok (.iconst 1, 1) := by decide +kernel
theorem dX6_tellOf_80 : decode cX6_tellOf 80 = .ok (.isub, 1) := by decide +kernel
theorem dX6_tellOf_81 : decode cX6_tellOf 81 = .ok (.iaload, 1) := by decide +kernel
theorem dX6_tellOf_82 : decode cX6_tellOf 82 = .ok (.ireturn, 1) := by decide +kernel
theorem dX6_zone_0 : decode cX6_zone 0 = .ok (.aload_n 0, 1) := by decide +kernel
theorem dX6_zone_1 : decode cX6_zone 1 = .ok (.iconst 0, 1) := by decide +kernel
theorem dX6_zone_2 : decode cX6_zone 2 = .ok (.putfield 48, 3) := by decide +kernel
theorem dX6_zone_5 : decode cX6_zone 5 = .ok (.aload_n 0, 1) := by decide +kernel
theorem dX6_zone_6 : decode cX6_zone 6 = .ok (.iload_n 1, 1) := by decide +kernel
theorem dX6_zone_7 : decode cX6_zone 7 = .ok (.invokevirtual 156, 3) := by decide +kernel
theorem dX6_zone_10 : decode cX6_zone 10 = .ok (.ifCond .eq 5, 3) := by decide +kernel
theorem dX6_zone_13 : decode cX6_zone 13 = .ok (.iconst (-1), 1) := by decide +kernel
theorem dX6_zone_14 : decode cX6_zone 14 = .ok (.ireturn, 1) := by decide +kernel
theorem dX6_zone_15 : decode cX6_zone 15 = .ok (.iload_n 2, 1) := by decide +kernel
theorem dX6_zone_16 : decode cX6_zone 16 = .ok (.i2l, 1) := by decide +kernel
theorem dX6_zone_17 : decode cX6_zone 17 = .ok (.lconst 0, 1) := by decide +kernel
theorem dX6_zone_18 : decode cX6_zone 18 = .ok (.ldc2_w 159, 3) := by decide +kernel
theorem dX6_zone_21 : decode cX6_zone 21 = .ok (.invokestatic 58, 3) := by decide +kernel
theorem dX6_zone_24 : decode cX6_zone 24 = .ok (.ifCond .eq 16, 3) := by decide +kernel
theorem dX6_zone_27 : decode cX6_zone 27 = .ok (.aload_n 0, 1) := by decide +kernel
theorem dX6_zone_28 : decode cX6_zone 28 = .ok (.aload_n 0, 1) := by decide +kernel
theorem dX6_zone_29 : decode cX6_zone 29 = .ok (.getfield 23, 3) := by decide +kernel
theorem dX6_zone_32 : decode cX6_zone 32 = .ok (.iload_n 1, 1) := by decide +kernel
theorem dX6_zone_33 : decode cX6_zone 33 = .ok (.iload_n 2, 1) := by decide +kernel
theorem dX6_zone_34 : decode cX6_zone 34 = .ok (.invokevirtual 161, 3) := by decide +kernel
theorem dX6_zone_37 : decode cX6_zone 37 = .ok (.goto 5, 3) := by decide +kernel
theorem dX6_zone_40 : decode cX6_zone 40 = .ok (.bipush (-2), 2) := by decide +kernel
theorem dX6_zone_42 : decode cX6_zone 42 = .ok (.ireturn, 1) := by decide +kernel
theorem dX6_note_0 : decode cX6_note 0 = .ok (.aload_n 0, 1) := by decide +kernel
theorem dX6_note_1 : decode cX6_note 1 = .ok (.getfield 99, 3) := by decide +kernel
theorem dX6_note_4 : decode cX6_note 4 = .ok (.bipush 14, 2) := by decide +kernel
theorem dX6_note_6 : decode cX6_note 6 = .ok (.if_icmp .ne 43, 3) := by decide +kernel
theorem dX6_note_9 : decode cX6_note 9 = .ok (.iconst 0, 1) := by decide +kernel
theorem dX6_note_10 : decode cX6_note 10 = .ok (.istore_n 1, 1) := by decide +kernel
theorem dX6_note_11 : decode cX6_note 11 = .ok (.iload_n 1, 1) := by decide +kernel
theorem dX6_note_12 : decode cX6_note 12 = .ok (.sipush 1027, 3) := by decide +kernel
theorem dX6_note_15 : decode cX6_note 15 = .ok (.if_icmp .ge 24, 3) := by decide +kernel
theorem dX6_note_18 : decode cX6_note 18 = .ok (.aload_n 0, 1) := by decide +kernel
theorem dX6_note_19 : decode cX6_note 19 = .ok (.getfield 29, 3) := by decide +kernel
theorem dX6_note_22 : decode cX6_note 22 = .ok (.iload_n 1, 1) := by decide +kernel
theorem dX6_note_23 : decode cX6_note 23 = .ok (.aload_n 0, 1) := by decide +kernel
theorem dX6_note_24 : decode cX6_note 24 = .ok (.getfield 29, 3) := by decide +kernel
theorem dX6_note_27 : decode cX6_note 27 = .ok (.iload_n 1, 1) := by decide +kernel
theorem dX6_note_28 : decode cX6_note 28 = .ok (.bipush 79, 2) := by decide +kernel
theorem dX6_note_30 : decode cX6_note 30 = .ok (.iadd, 1) := by decide +kernel
theorem dX6_note_31 : decode cX6_note 31 = .ok (.iaload, 1) := by decide +kernel
theorem dX6_note_32 : decode cX6_note 32 = .ok (.iastore, 1) := by decide +kernel
theorem dX6_note_33 : decode cX6_note 33 = .ok (.iinc 1 1, 3) := by decide +kernel
theorem dX6_note_36 : decode cX6_note 36 = .ok (.goto (-25), 3) := by decide +kernel
theorem dX6_note_39 : decode cX6_note 39 = .ok (.aload_n 0, 1) := by decide +kernel
theorem dX6_note_40 : decode cX6_note 40 = .ok (.dup, 1) := by decide +kernel
theorem dX6_note_41 : decode cX6_note 41 = .ok (.getfield 99, 3) := by decide +kernel
theorem dX6_note_44 : decode cX6_note 44 = .ok (.iconst 1, 1) := by decide +kernel
theorem dX6_note_45 : decode cX6_note 45 = .ok (.isub, 1) := by decide +kernel
theorem dX6_note_46 : decode cX6_note 46 = .ok (.putfield 99, 3) := by decide +kernel
theorem dX6_note_49 : decode cX6_note 49 = .ok (.iconst 0, 1) := by decide +kernel
theorem dX6_note_50 : decode cX6_note 50 = .ok (.istore_n 1, 1) := by decide +kernel
theorem dX6_note_51 : decode cX6_note 51 = .ok (.iload_n 1, 1) := by decide +kernel
theorem dX6_note_52 : decode cX6_note 52 = .ok (.bipush 79, 2) := by decide +kernel
theorem dX6_note_54 : decode cX6_note 54 = .ok (.if_icmp .ge 29, 3) := by decide +kernel
theorem dX6_note_57 : decode cX6_note 57 = .ok (.aload_n 0, 1) := by decide +kernel
theorem dX6_note_58 : decode cX6_note 58 = .ok (.getfield 29, 3) := by decide +kernel
theorem dX6_note_61 : decode cX6_note 61 = .ok (.bipush 79, 2) := by decide +kernel
theorem dX6_note_63 : decode cX6_note 63 = .ok (.aload_n 0, 1) := by decide +kernel
theorem dX6_note_64 : decode cX6_note 64 = .ok (.getfield 99, 3) := by decide +kernel
theorem dX6_note_67 : decode cX6_note 67 = .ok (.imul, 1) := by decide +kernel
theorem dX6_note_68 : decode cX6_note 68 = .ok (.iload_n 1, 1) := by decide +kernel
theorem dX6_note_69 : decode cX6_note 69 = .ok (.iadd, 1) := by decide +kernel
theorem dX6_note_70 : decode cX6_note 70 = .ok (.aload_n 0, 1) := by decide +kernel
theorem dX6_note_71 : decode cX6_note 71 = .ok (.getfield 23, 3) := by decide +kernel
theorem dX6_note_74 : decode cX6_note 74 = .ok (.iload_n 1, 1) := by decide +kernel
theorem dX6_note_75 : decode cX6_note 75 = .ok (.iaload, 1) := by decide +kernel
theorem dX6_note_76 : decode cX6_note 76 = .ok (.iastore, 1) := by decide +kernel
theorem dX6_note_77 : decode cX6_note 77 = .ok (.iinc 1 1, 3) := by decide +kernel
theorem dX6_note_80 : decode cX6_note 80 = .ok (.goto (-29), 3) := by decide +kernel
theorem dX6_note_83 : decode cX6_note 83 = .ok (.aload_n 0, 1) := by decide +kernel
theorem dX6_note_84 : decode cX6_note 84 = .ok (.dup, 1) := by decide +kernel
theorem dX6_note_85 : decode cX6_note 85 = .ok (.getfield 99, 3) := by decide +kernel
theorem dX6_note_88 : decode cX6_note 88 = .ok (.iconst 1, 1) := by decide +kernel
theorem dX6_note_89 : decode cX6_note 89 = .ok (.iadd, 1) := by decide +kernel
theorem dX6_note_90 : decode cX6_note 90 = .ok (.putfield 99, 3) := by decide +kernel
theorem dX6_note_93 : decode cX6_note 93 = .ok (.return_, 1) := by decide +kernel
theorem dX6_noLine_0 : decode cX6_noLine 0 = .ok (.iload_n 1, 1) := by decide +kernel
theorem dX6_noLine_1 : decode cX6_noLine 1 = .ok (.ifCond .eq 19, 3) := by decide +kernel
theorem dX6_noLine_4 : decode cX6_noLine 4 = .ok (.iload_n 1, 1) := by decide +kernel
theorem dX6_noLine_5 : decode cX6_noLine 5 = .ok (.iconst 1, 1) := by decide +kernel
theorem dX6_noLine_6 : decode cX6_noLine 6 = .ok (.if_icmp .ne 10, 3) := by decide +kernel
theorem dX6_noLine_9 : decode cX6_noLine 9 = .ok (.aload_n 0, 1) := by decide +kernel
theorem dX6_noLine_10 : decode cX6_noLine 10 = .ok (.getfield 51, 3) := by decide +kernel
theorem dX6_noLine_13 : decode cX6_noLine 13 = .ok (.ifCond .gt 7, 3) := by decide +kernel
theorem dX6_noLine_16 : decode cX6_noLine 16 = .ok (.iconst 1, 1) := by decide +kernel
theorem dX6_noLine_17 : decode cX6_noLine 17 = .ok (.goto 4, 3) := by decide +kernel
theorem dX6_noLine_20 : decode cX6_noLine 20 = .ok (.iconst 0, 1) := by decide +kernel
theorem dX6_noLine_21 : decode cX6_noLine 21 = .ok (.ireturn, 1) := by decide +kernel
theorem dX6_entry_0 : decode cX6_entry 0 = .ok (.iload_n 1, 1) := by decide +kernel
theorem dX6_entry_1 : decode cX6_entry 1 = .ok (.ifCond .ne 7, 3) := by decide +kernel
theorem dX6_entry_4 : decode cX6_entry 4 = .ok (.iconst 0, 1) := by decide +kernel
theorem dX6_entry_5 : decode cX6_entry 5 = .ok (.goto 7, 3) := by decide +kernel
theorem dX6_entry_8 : decode cX6_entry 8 = .ok (.aload_n 0, 1) := by decide +kernel
theorem dX6_entry_9 : decode cX6_entry 9 = .ok (.getfield 13, 3) := by decide +kernel
theorem dX6_entry_12 : decode cX6_entry 12 = .ok (.ireturn, 1) := by decide +kernel
theorem dX6_feedOn_0 : decode cX6_feedOn 0 = .ok (.aload_n 1, 1) := by decide +kernel
theorem dX6_feedOn_1 : decode cX6_feedOn 1 = .ok (.bipush 76, 2) := by decide +kernel
theorem dX6_feedOn_3 : decode cX6_feedOn 3 = .ok (.dup2, 1) := by decide +kernel
theorem dX6_feedOn_4 : decode cX6_feedOn 4 = .ok (.iaload, 1) := by decide +kernel
theorem dX6_feedOn_5 : decode cX6_feedOn 5 = .ok (.iconst 1, 1) := by decide +kernel
theorem dX6_feedOn_6 : decode cX6_feedOn 6 = .ok (.iadd, 1) := by decide +kernel
theorem dX6_feedOn_7 : decode cX6_feedOn 7 = .ok (.iastore, 1) := by decide +kernel
theorem dX6_feedOn_8 : decode cX6_feedOn 8 = .ok (.aload_n 1, 1) := by decide +kernel
theorem dX6_feedOn_9 : decode cX6_feedOn 9 = .ok (.bipush 6, 2) := by decide +kernel
theorem dX6_feedOn_11 : decode cX6_feedOn 11 = .ok (.aload_n 0, 1) := by decide +kernel
theorem dX6_feedOn_12 : decode cX6_feedOn 12 = .ok (.iload_n 2, 1) := by decide +kernel
theorem dX6_feedOn_13 : decode cX6_feedOn 13 = .ok (.invokevirtual 165, 3) := by decide +kernel
theorem dX6_feedOn_16 : decode cX6_feedOn 16 = .ok (.imul, 1) := by decide +kernel
theorem dX6_feedOn_17 : decode cX6_feedOn 17 = .ok (.iconst 0, 1) := by decide +kernel
theorem dX6_feedOn_18 : decode cX6_feedOn 18 = .ok (.iadd, 1) := by decide +kernel
theorem dX6_feedOn_19 : decode cX6_feedOn 19 = .ok (.aload_n 1, 1) := by decide +kernel
theorem dX6_feedOn_20 : decode cX6_feedOn 20 = .ok (.bipush 76, 2) := by decide +kernel
theorem dX6_feedOn_22 : decode cX6_feedOn 22 = .ok (.iaload, 1) := by decide +kernel
theorem dX6_feedOn_23 : decode cX6_feedOn 23 = .ok (.iastore, 1) := by decide +kernel
theorem dX6_feedOn_24 : decode cX6_feedOn 24 = .ok (.return_, 1) := by decide +kernel
theorem dX6_feed_0 : decode cX6_feed 0 = .ok (.aload_n 0, 1) := by decide +kernel
theorem dX6_feed_1 : decode cX6_feed 1 = .ok (.iconst 0, 1) := by decide +kernel
theorem dX6_feed_2 : decode cX6_feed 2 = .ok (.putfield 48, 3) := by decide +kernel
theorem dX6_feed_5 : decode cX6_feed 5 = .ok (.aload_n 0, 1) := by decide +kernel
theorem dX6_feed_6 : decode cX6_feed 6 = .ok (.iload_n 1, 1) := by decide +kernel
theorem dX6_feed_7 : decode cX6_feed 7 = .ok (.invokevirtual 168, 3) := by decide +kernel
theorem dX6_feed_10 : decode cX6_feed 10 = .ok (.ifCond .eq 5, 3) := by decide +kernel
theorem dX6_feed_13 : decode cX6_feed 13 = .ok (.iconst (-1), 1) := by decide +kernel
theorem dX6_feed_14 : decode cX6_feed 14 = .ok (.ireturn, 1) := by decide +kernel
theorem dX6_feed_15 : decode cX6_feed 15 = .ok (.aload_n 0, 1) := by decide +kernel
theorem dX6_feed_16 : decode cX6_feed 16 = .ok (.getfield 23, 3) := by decide +kernel
theorem dX6_feed_19 : decode cX6_feed 19 = .ok (.bipush 6, 2) := by decide +kernel
theorem dX6_feed_21 : decode cX6_feed 21 = .ok (.aload_n 0, 1) := by decide +kernel
theorem dX6_feed_22 : decode cX6_feed 22 = .ok (.iload_n 1, 1) := by decide +kernel
theorem dX6_feed_23 : decode cX6_feed 23 = .ok (.invokevirtual 165, 3) := by decide +kernel
theorem dX6_feed_26 : decode cX6_feed 26 = .ok (.imul, 1) := by decide +kernel
theorem dX6_feed_27 : decode cX6_feed 27 = .ok (.iconst 0, 1) := by decide +kernel
theorem dX6_feed_28 : decode cX6_feed 28 = .ok (.iadd, 1) := by decide +kernel
theorem dX6_feed_29 : decode cX6_feed 29 = .ok (.iaload, 1) := by decide +kernel
theorem dX6_feed_30 : decode cX6_feed 30 = .ok (.ifCond .le 6, 3) := by decide +kernel
theorem dX6_feed_33 : decode cX6_feed 33 = .ok (.bipush (-3), 2) := by decide +kernel
theorem dX6_feed_35 : decode cX6_feed 35 = .ok (.ireturn, 1) := by decide +kernel
theorem dX6_feed_36 : decode cX6_feed 36 = .ok (.aload_n 0, 1) := by decide +kernel
theorem dX6_feed_37 : decode cX6_feed 37 = .ok (.getfield 23, 3) := by decide +kernel
theorem dX6_feed_40 : decode cX6_feed 40 = .ok (.bipush 76, 2) := by decide +kernel
theorem dX6_feed_42 : decode cX6_feed 42 = .ok (.iaload, 1) := by decide +kernel
theorem dX6_feed_43 : decode cX6_feed 43 = .ok (.bipush 99, 2) := by decide +kernel
theorem dX6_feed_45 : decode cX6_feed 45 = .ok (.if_icmp .ne 6, 3) := by decide +kernel
theorem dX6_feed_48 : decode cX6_feed 48 = .ok (.bipush (-4), 2) := by decide +kernel
theorem dX6_feed_50 : decode cX6_feed 50 = .ok (.ireturn, 1) := by decide +kernel
theorem dX6_feed_51 : decode cX6_feed 51 = .ok (.aload_n 0, 1) := by decide +kernel
theorem dX6_feed_52 : decode cX6_feed 52 = .ok (.invokevirtual 171, 3) := by decide +kernel
theorem dX6_feed_55 : decode cX6_feed 55 = .ok (.aload_n 0, 1) := by decide +kernel
theorem dX6_feed_56 : decode cX6_feed 56 = .ok (.aload_n 0, 1) := by decide +kernel
theorem dX6_feed_57 : decode cX6_feed 57 = .ok (.getfield 23, 3) := by decide +kernel
theorem dX6_feed_60 : decode cX6_feed 60 = .ok (.iload_n 1, 1) := by decide +kernel
theorem dX6_feed_61 : decode cX6_feed 61 = .ok (.invokevirtual 174, 3) := by decide +kernel
theorem dX6_feed_64 : decode cX6_feed 64 = .ok (.aload_n 0, 1) := by decide +kernel
theorem dX6_feed_65 : decode cX6_feed 65 = .ok (.getfield 23, 3) := by decide +kernel
theorem dX6_feed_68 : decode cX6_feed 68 = .ok (.bipush 76, 2) := by decide +kernel
theorem dX6_feed_70 : decode cX6_feed 70 = .ok (.iaload, 1) := by decide +kernel
theorem dX6_feed_71 : decode cX6_feed 71 = .ok (.ireturn, 1) := by decide +kernel
theorem dX6_liftOn_0 : decode cX6_liftOn 0 = .ok (.aload_n 0, 1) := by decide +kernel
theorem dX6_liftOn_1 : decode cX6_liftOn 1 = .ok (.bipush 6, 2) := by decide +kernel
theorem dX6_liftOn_3 : decode cX6_liftOn 3 = .ok (.iload_n 1, 1) := by decide +kernel
theorem dX6_liftOn_4 : decode cX6_liftOn 4 = .ok (.imul, 1) := by decide +kernel
theorem dX6_liftOn_5 : decode cX6_liftOn 5 = .ok (.iconst 0, 1) := by decide +kernel
theorem dX6_liftOn_6 : decode cX6_liftOn 6 = .ok (.iadd, 1) := by decide +kernel
theorem dX6_liftOn_7 : decode cX6_liftOn 7 = .ok (.iaload, 1) := by decide +kernel
theorem dX6_liftOn_8 : decode cX6_liftOn 8 = .ok (.istore_n 2, 1) := by decide +kernel
theorem dX6_liftOn_9 : decode cX6_liftOn 9 = .ok (.aload_n 0, 1) := by decide +kernel
theorem dX6_liftOn_10 : decode cX6_liftOn 10 = .ok (.bipush 6, 2) := by decide +kernel
theorem dX6_liftOn_12 : decode cX6_liftOn 12 = .ok (.iload_n 1, 1) := by decide +kernel
theorem dX6_liftOn_13 : decode cX6_liftOn 13 = .ok (.imul, 1) := by decide +kernel
theorem dX6_liftOn_14 : decode cX6_liftOn 14 = .ok (.iconst 0, 1) := by decide +kernel
theorem dX6_liftOn_15 : decode cX6_liftOn 15 = .ok (.iadd, 1) := by decide +kernel
theorem dX6_liftOn_16 : decode cX6_liftOn 16 = .ok (.iconst 0, 1) := by decide +kernel
theorem dX6_liftOn_17 : decode cX6_liftOn 17 = .ok (.iastore, 1) := by decide +kernel
theorem dX6_liftOn_18 : decode cX6_liftOn 18 = .ok (.aload_n 0, 1) := by decide +kernel
theorem dX6_liftOn_19 : decode cX6_liftOn 19 = .ok (.bipush 6, 2) := by decide +kernel
theorem dX6_liftOn_21 : decode cX6_liftOn 21 = .ok (.iload_n 1, 1) := by decide +kernel
theorem dX6_liftOn_22 : decode cX6_liftOn 22 = .ok (.imul, 1) := by decide +kernel
theorem dX6_liftOn_23 : decode cX6_liftOn 23 = .ok (.iconst 2, 1) := by decide +kernel
theorem dX6_liftOn_24 : decode cX6_liftOn 24 = .ok (.iadd, 1) := by decide +kernel
theorem dX6_liftOn_25 : decode cX6_liftOn 25 = .ok (.iconst 0, 1) := by decide +kernel
theorem dX6_liftOn_26 : decode cX6_liftOn 26 = .ok (.iastore, 1) := by decide +kernel
theorem dX6_liftOn_27 : decode cX6_liftOn 27 = .ok (.iload_n 2, 1) := by decide +kernel
theorem dX6_liftOn_28 : decode cX6_liftOn 28 = .ok (.ireturn, 1) := by decide +kernel
theorem dX6_lift_0 : decode cX6_lift 0 = .ok (.aload_n 0, 1) := by decide +kernel
theorem dX6_lift_1 : decode cX6_lift 1 = .ok (.iconst 0, 1) := by decide +kernel
theorem dX6_lift_2 : decode cX6_lift 2 = .ok (.putfield 48, 3) := by decide +kernel
theorem dX6_lift_5 : decode cX6_lift 5 = .ok (.aload_n 0, 1) := by decide +kernel
theorem dX6_lift_6 : decode cX6_lift 6 = .ok (.iload_n 1, 1) := by decide +kernel
theorem dX6_lift_7 : decode cX6_lift 7 = .ok (.invokevirtual 156, 3) := by decide +kernel
theorem dX6_lift_10 : decode cX6_lift 10 = .ok (.ifCond .eq 5, 3) := by decide +kernel
theorem dX6_lift_13 : decode cX6_lift 13 = .ok (.iconst (-1), 1) := by decide +kernel
theorem dX6_lift_14 : decode cX6_lift 14 = .ok (.ireturn, 1) := by decide +kernel
theorem dX6_lift_15 : decode cX6_lift 15 = .ok (.aload_n 0, 1) := by decide +kernel
theorem dX6_lift_16 : decode cX6_lift 16 = .ok (.getfield 23, 3) := by decide +kernel
theorem dX6_lift_19 : decode cX6_lift 19 = .ok (.bipush 6, 2) := by decide +kernel
theorem dX6_lift_21 : decode cX6_lift 21 = .ok (.iload_n 1, 1) := by decide +kernel
theorem dX6_lift_22 : decode cX6_lift 22 = .ok (.imul, 1) := by decide +kernel
theorem dX6_lift_23 : decode cX6_lift 23 = .ok (.iconst 0, 1) := by decide +kernel
theorem dX6_lift_24 : decode cX6_lift 24 = .ok (.iadd, 1) := by decide +kernel
theorem dX6_lift_25 : decode cX6_lift 25 = .ok (.iaload, 1) := by decide +kernel
theorem dX6_lift_26 : decode cX6_lift 26 = .ok (.ifCond .ne 6, 3) := by decide +kernel
theorem dX6_lift_29 : decode cX6_lift 29 = .ok (.bipush (-3), 2) := by decide +kernel
theorem dX6_lift_31 : decode cX6_lift 31 = .ok (.ireturn, 1) := by decide +kernel
theorem dX6_lift_32 : decode cX6_lift 32 = .ok (.aload_n 0, 1) := by decide +kernel
theorem dX6_lift_33 : decode cX6_lift 33 = .ok (.invokevirtual 171, 3) := by decide +kernel
theorem dX6_lift_36 : decode cX6_lift 36 = .ok (.aload_n 0, 1) := by decide +kernel
theorem dX6_lift_37 : decode cX6_lift 37 = .ok (.getfield 23, 3) := by decide +kernel
theorem dX6_lift_40 : decode cX6_lift 40 = .ok (.iload_n 1, 1) := by decide +kernel
theorem dX6_lift_41 : decode cX6_lift 41 = .ok (.invokestatic 177, 3) := by decide +kernel
theorem dX6_lift_44 : decode cX6_lift 44 = .ok (.ireturn, 1) := by decide +kernel
theorem dX6_turn_0 : decode cX6_turn 0 = .ok (.aload_n 0, 1) := by decide +kernel
theorem dX6_turn_1 : decode cX6_turn 1 = .ok (.iconst 0, 1) := by decide +kernel
theorem dX6_turn_2 : decode cX6_turn 2 = .ok (.putfield 48, 3) := by decide +kernel
theorem dX6_turn_5 : decode cX6_turn 5 = .ok (.aload_n 0, 1) := by decide +kernel
theorem dX6_turn_6 : decode cX6_turn 6 = .ok (.invokevirtual 171, 3) := by decide +kernel
theorem dX6_turn_9 : decode cX6_turn 9 = .ok (.aload_n 0, 1) := by decide +kernel
theorem dX6_turn_10 : decode cX6_turn 10 = .ok (.getfield 23, 3) := by decide +kernel
theorem dX6_turn_13 : decode cX6_turn 13 = .ok (.bipush 72, 2) := by decide +kernel
theorem dX6_turn_15 : decode cX6_turn 15 = .ok (.iconst 1, 1) := by decide +kernel
theorem dX6_turn_16 : decode cX6_turn 16 = .ok (.aload_n 0, 1) := by decide +kernel
theorem dX6_turn_17 : decode cX6_turn 17 = .ok (.getfield 23, 3) := by decide +kernel
theorem dX6_turn_20 : decode cX6_turn 20 = .ok (.bipush 72, 2) := by decide +kernel
theorem dX6_turn_22 : decode cX6_turn 22 = .ok (.iaload, 1) := by decide +kernel
theorem dX6_turn_23 : decode cX6_turn 23 = .ok (.isub, 1) := by decide +kernel
theorem dX6_turn_24 : decode cX6_turn 24 = .ok (.iastore, 1) := by decide +kernel
theorem dX6_turn_25 : decode cX6_turn 25 = .ok (.aload_n 0, 1) := by decide +kernel
theorem dX6_turn_26 : decode cX6_turn 26 = .ok (.getfield 23, 3) := by decide +kernel
theorem dX6_turn_29 : decode cX6_turn 29 = .ok (.bipush 72, 2) := by decide +kernel
theorem dX6_turn_31 : decode cX6_turn 31 = .ok (.iaload, 1) := by decide +kernel
theorem dX6_turn_32 : decode cX6_turn 32 = .ok (.ireturn, 1) := by decide +kernel
theorem dX6_eye_0 : decode cX6_eye 0 = .ok (.aload_n 0, 1) := by decide +kernel
theorem dX6_eye_1 : decode cX6_eye 1 = .ok (.iconst 0, 1) := by decide +kernel
theorem dX6_eye_2 : decode cX6_eye 2 = .ok (.putfield 48, 3) := by decide +kernel
theorem dX6_eye_5 : decode cX6_eye 5 = .ok (.aload_n 0, 1) := by decide +kernel
theorem dX6_eye_6 : decode cX6_eye 6 = .ok (.iload_n 1, 1) := by decide +kernel
theorem dX6_eye_7 : decode cX6_eye 7 = .ok (.invokevirtual 156, 3) := by decide +kernel
theorem dX6_eye_10 : decode cX6_eye 10 = .ok (.ifCond .eq 5, 3) := by decide +kernel
theorem dX6_eye_13 : decode cX6_eye 13 = .ok (.iconst (-1), 1) := by decide +kernel
theorem dX6_eye_14 : decode cX6_eye 14 = .ok (.ireturn, 1) := by decide +kernel
theorem dX6_eye_15 : decode cX6_eye 15 = .ok (.iload_n 2, 1) := by decide +kernel
theorem dX6_eye_16 : decode cX6_eye 16 = .ok (.i2l, 1) := by decide +kernel
theorem dX6_eye_17 : decode cX6_eye 17 = .ok (.lconst 0, 1) := by decide +kernel
theorem dX6_eye_18 : decode cX6_eye 18 = .ok (.ldc2_w 181, 3) := by decide +kernel
theorem dX6_eye_21 : decode cX6_eye 21 = .ok (.invokestatic 58, 3) := by decide +kernel
theorem dX6_eye_24 : decode cX6_eye 24 = .ok (.ifCond .ne 6, 3) := by decide +kernel
theorem dX6_eye_27 : decode cX6_eye 27 = .ok (.bipush (-2), 2) := by decide +kernel
theorem dX6_eye_29 : decode cX6_eye 29 = .ok (.ireturn, 1) := by decide +kernel
theorem dX6_eye_30 : decode cX6_eye 30 = .ok (.aload_n 0, 1) := by decide +kernel
theorem dX6_eye_31 : decode cX6_eye 31 = .ok (.invokevirtual 171, 3) := by decide +kernel
theorem dX6_eye_34 : decode cX6_eye 34 = .ok (.aload_n 0, 1) := by decide +kernel
theorem dX6_eye_35 : decode cX6_eye 35 = .ok (.getfield 23, 3) := by decide +kernel
theorem dX6_eye_38 : decode cX6_eye 38 = .ok (.bipush 6, 2) := by decide +kernel
theorem dX6_eye_40 : decode cX6_eye 40 = .ok (.iload_n 1, 1) := by decide +kernel
theorem dX6_eye_41 : decode cX6_eye 41 = .ok (.imul, 1) := by decide +kernel
theorem dX6_eye_42 : decode cX6_eye 42 = .ok (.iconst 1, 1) := by decide +kernel
theorem dX6_eye_43 : decode cX6_eye 43 = .ok (.iadd, 1) := by decide +kernel
theorem dX6_eye_44 : decode cX6_eye 44 = .ok (.iaload, 1) := by decide +kernel
theorem dX6_eye_45 : decode cX6_eye 45 = .ok (.istore_n 3, 1) := by decide +kernel
theorem dX6_eye_46 : decode cX6_eye 46 = .ok (.aload_n 0, 1) := by decide +kernel
theorem dX6_eye_47 : decode cX6_eye 47 = .ok (.getfield 23, 3) := by decide +kernel
theorem dX6_eye_50 : decode cX6_eye 50 = .ok (.bipush 6, 2) := by decide +kernel
theorem dX6_eye_52 : decode cX6_eye 52 = .ok (.iload_n 1, 1) := by decide +kernel
theorem dX6_eye_53 : decode cX6_eye 53 = .ok (.imul, 1) := by decide +kernel
theorem dX6_eye_54 : decode cX6_eye 54 = .ok (.iconst 1, 1) := by decide +kernel
theorem dX6_eye_55 : decode cX6_eye 55 = .ok (.iadd, 1) := by decide +kernel
theorem dX6_eye_56 : decode cX6_eye 56 = .ok (.iload_n 2, 1) := by decide +kernel
theorem dX6_eye_57 : decode cX6_eye 57 = .ok (.iastore, 1) := by decide +kernel
theorem dX6_eye_58 : decode cX6_eye 58 = .ok (.iload_n 3, 1) := by decide +kernel
theorem dX6_eye_59 : decode cX6_eye 59 = .ok (.ireturn, 1) := by decide +kernel
theorem dX6_make_0 : decode cX6_make 0 = .ok (.aload_n 0, 1) := by decide +kernel
theorem dX6_make_1 : decode cX6_make 1 = .ok (.iconst 0, 1) := by decide +kernel
theorem dX6_make_2 : decode cX6_make 2 = .ok (.putfield 48, 3) := by decide +kernel
theorem dX6_make_5 : decode cX6_make 5 = .ok (.iload_n 1, 1) := by decide +kernel
theorem dX6_make_6 : decode cX6_make 6 = .ok (.i2l, 1) := by decide +kernel
theorem dX6_make_7 : decode cX6_make 7 = .ok (.lconst 0, 1) := by decide +kernel
theorem dX6_make_8 : decode cX6_make 8 = .ok (.lconst 1, 1) := by decide +kernel
theorem dX6_make_9 : decode cX6_make 9 = .ok (.invokestatic 58, 3) := by decide +kernel
theorem dX6_make_12 : decode cX6_make 12 = .ok (.ifCond .eq 23, 3) := by decide +kernel
theorem dX6_make_15 : decode cX6_make 15 = .ok (.iload_n 2, 1) := by decide +kernel
theorem dX6_make_16 : decode cX6_make 16 = .ok (.i2l, 1) := by decide +kernel
theorem dX6_make_17 : decode cX6_make 17 = .ok (.lconst 0, 1) := by decide +kernel
theorem dX6_make_18 : decode cX6_make 18 = .ok (.iload_n 1, 1) := by decide +kernel
theorem dX6_make_19 : decode cX6_make 19 = .ok (.ifCond .ne 7, 3) := by decide +kernel
theorem dX6_make_22 : decode cX6_make 22 = .ok (.lconst 1, 1) := by decide +kernel
theorem dX6_make_23 : decode cX6_make 23 = .ok (.goto 6, 3) := by decide +kernel
theorem dX6_make_26 : decode cX6_make 26 = .ok (.ldc2_w 87, 3) := by decide +kernel
theorem dX6_make_29 : decode cX6_make 29 = .ok (.invokestatic 58, 3) := by decide +kernel
theorem dX6_make_32 : decode cX6_make 32 = .ok (.ifCond .ne 6, 3) := by decide +kernel
theorem dX6_make_35 : decode cX6_make 35 = .ok (.bipush (-2), 2) := by decide +kernel
theorem dX6_make_37 : decode cX6_make 37 = .ok (.ireturn, 1) := by decide +kernel
theorem dX6_make_38 : decode cX6_make 38 = .ok (.aload_n 0, 1) := by decide +kernel
theorem dX6_make_39 : decode cX6_make 39 = .ok (.invokevirtual 171, 3) := by decide +kernel
theorem dX6_make_42 : decode cX6_make 42 = .ok (.aload_n 0, 1) := by decide +kernel
theorem dX6_make_43 : decode cX6_make 43 = .ok (.getfield 23, 3) := by decide +kernel
theorem dX6_make_46 : decode cX6_make 46 = .ok (.bipush 73, 2) := by decide +kernel
theorem dX6_make_48 : decode cX6_make 48 = .ok (.iload_n 1, 1) := by decide +kernel
theorem dX6_make_49 : decode cX6_make 49 = .ok (.iadd, 1) := by decide +kernel
theorem dX6_make_50 : decode cX6_make 50 = .ok (.iaload, 1) := by decide +kernel
theorem dX6_make_51 : decode cX6_make 51 = .ok (.istore_n 3, 1) := by decide +kernel
theorem dX6_make_52 : decode cX6_make 52 = .ok (.aload_n 0, 1) := by decide +kernel
theorem dX6_make_53 : decode cX6_make 53 = .ok (.getfield 23, 3) := by decide +kernel
theorem dX6_make_56 : decode cX6_make 56 = .ok (.bipush 73, 2) := by decide +kernel
theorem dX6_make_58 : decode cX6_make 58 = .ok (.iload_n 1, 1) := by decide +kernel
theorem dX6_make_59 : decode cX6_make 59 = .ok (.iadd, 1) := by decide +kernel
theorem dX6_make_60 : decode cX6_make 60 = .ok (.iload_n 2, 1) := by decide +kernel
theorem dX6_make_61 : decode cX6_make 61 = .ok (.iastore, 1) := by decide +kernel
theorem dX6_make_62 : decode cX6_make 62 = .ok (.iload_n 3, 1) := by decide +kernel
theorem dX6_make_63 : decode cX6_make 63 = .ok (.ireturn, 1) := by decide +kernel
theorem dX6_clear_0 : decode cX6_clear 0 = .ok (.aload_n 0, 1) := by decide +kernel
theorem dX6_clear_1 : decode cX6_clear 1 = .ok (.iconst 0, 1) := by decide +kernel
theorem dX6_clear_2 : decode cX6_clear 2 = .ok (.putfield 48, 3) := by decide +kernel
theorem dX6_clear_5 : decode cX6_clear 5 = .ok (.aload_n 0, 1) := by decide +kernel
theorem dX6_clear_6 : decode cX6_clear 6 = .ok (.iload_n 1, 1) := by decide +kernel
theorem dX6_clear_7 : decode cX6_clear 7 = .ok (.invokevirtual 156, 3) := by decide +kernel
theorem dX6_clear_10 : decode cX6_clear 10 = .ok (.ifCond .eq 5, 3) := by decide +kernel
theorem dX6_clear_13 : decode cX6_clear 13 = .ok (.iconst (-1), 1) := by decide +kernel
theorem dX6_clear_14 : decode cX6_clear 14 = .ok (.ireturn, 1) := by decide +kernel
theorem dX6_clear_15 : decode cX6_clear 15 = .ok (.aload_n 0, 1) := by decide +kernel
theorem dX6_clear_16 : decode cX6_clear 16 = .ok (.getfield 23, 3) := by decide +kernel
theorem dX6_clear_19 : decode cX6_clear 19 = .ok (.bipush 6, 2) := by decide +kernel
theorem dX6_clear_21 : decode cX6_clear 21 = .ok (.iload_n 1, 1) := by decide +kernel
theorem dX6_clear_22 : decode cX6_clear 22 = .ok (.imul, 1) := by decide +kernel
theorem dX6_clear_23 : decode cX6_clear 23 = .ok (.iconst 2, 1) := by decide +kernel
theorem dX6_clear_24 : decode cX6_clear 24 = .ok (.iadd, 1) := by decide +kernel
theorem dX6_clear_25 : decode cX6_clear 25 = .ok (.iaload, 1) := by decide +kernel
theorem dX6_clear_26 : decode cX6_clear 26 = .ok (.ifCond .ne 6, 3) := by decide +kernel
theorem dX6_clear_29 : decode cX6_clear 29 = .ok (.bipush (-3), 2) := by decide +kernel
theorem dX6_clear_31 : decode cX6_clear 31 = .ok (.ireturn, 1) := by decide +kernel
theorem dX6_clear_32 : decode cX6_clear 32 = .ok (.aload_n 0, 1) := by decide +kernel
theorem dX6_clear_33 : decode cX6_clear 33 = .ok (.invokevirtual 171, 3) := by decide +kernel
theorem dX6_clear_36 : decode cX6_clear 36 = .ok (.aload_n 0, 1) := by decide +kernel
theorem dX6_clear_37 : decode cX6_clear 37 = .ok (.getfield 23, 3) := by decide +kernel
theorem dX6_clear_40 : decode cX6_clear 40 = .ok (.bipush 6, 2) := by decide +kernel
theorem dX6_clear_42 : decode cX6_clear 42 = .ok (.iload_n 1, 1) := by decide +kernel
theorem dX6_clear_43 : decode cX6_clear 43 = .ok (.imul, 1) := by decide +kernel
theorem dX6_clear_44 : decode cX6_clear 44 = .ok (.iconst 2, 1) := by decide +kernel
theorem dX6_clear_45 : decode cX6_clear 45 = .ok (.iadd, 1) := by decide +kernel
theorem dX6_clear_46 : decode cX6_clear 46 = .ok (.iconst 0, 1) := by decide +kernel
theorem dX6_clear_47 : decode cX6_clear 47 = .ok (.iastore, 1) := by decide +kernel
theorem dX6_clear_48 : decode cX6_clear 48 = .ok (.aload_n 0, 1) := by decide +kernel
theorem dX6_clear_49 : decode cX6_clear 49 = .ok (.aload_n 0, 1) := by decide +kernel
theorem dX6_clear_50 : decode cX6_clear 50 = .ok (.getfield 23, 3) := by decide +kernel
theorem dX6_clear_53 : decode cX6_clear 53 = .ok (.iconst 2, 1) := by decide +kernel
theorem dX6_clear_54 : decode cX6_clear 54 = .ok (.invokevirtual 183, 3) := by decide +kernel
theorem dX6_clear_57 : decode cX6_clear 57 = .ok (.invokestatic 186, 3) := by decide +kernel
theorem dX6_clear_60 : decode cX6_clear 60 = .ok (.ireturn, 1) := by decide +kernel
theorem dX6_step_0 : decode cX6_step 0 = .ok (.aload_n 0, 1) := by decide +kernel
theorem dX6_step_1 : decode cX6_step 1 = .ok (.iconst 0, 1) := by decide +kernel
theorem dX6_step_2 : decode cX6_step 2 = .ok (.putfield 48, 3) := by decide +kernel
theorem dX6_step_5 : decode cX6_step 5 = .ok (.iload_n 1, 1) := by decide +kernel
theorem dX6_step_6 : decode cX6_step 6 = .ok (.i2l, 1) := by decide +kernel
theorem dX6_step_7 : decode cX6_step 7 = .ok (.lconst 1, 1) := by decide +kernel
theorem dX6_step_8 : decode cX6_step 8 = .ok (.ldc2_w 189, 3) := by decide +kernel
theorem dX6_step_11 : decode cX6_step 11 = .ok (.invokestatic 58, 3) := by decide +kernel
theorem dX6_step_14 : decode cX6_step 14 = .ok (.ifCond .ne 6, 3) := by decide +kernel
theorem dX6_step_17 : decode cX6_step 17 = .ok (.bipush (-2), 2) := by decide +kernel
theorem dX6_step_19 : decode cX6_step 19 = .ok (.ireturn, 1) := by decide +kernel
theorem dX6_step_20 : decode cX6_step 20 = .ok (.aload_n 0, 1) := by decide +kernel
theorem dX6_step_21 : decode cX6_step 21 = .ok (.invokevirtual 171, 3) := by decide +kernel
theorem dX6_step_24 : decode cX6_step 24 = .ok (.aload_n 0, 1) := by decide +kernel
theorem dX6_step_25 : decode cX6_step 25 = .ok (.getfield 23, 3) := by decide +kernel
theorem dX6_step_28 : decode cX6_step 28 = .ok (.bipush 77, 2) := by decide +kernel
theorem dX6_step_30 : decode cX6_step 30 = .ok (.iaload, 1) := by decide +kernel
theorem dX6_step_31 : decode cX6_step 31 = .ok (.istore_n 2, 1) := by decide +kernel
theorem dX6_step_32 : decode cX6_step 32 = .ok (.aload_n 0, 1) := by decide +kernel
theorem dX6_step_33 : decode cX6_step 33 = .ok (.aload_n 0, 1) := by decide +kernel
theorem dX6_step_34 : decode cX6_step 34 = .ok (.getfield 23, 3) := by decide +kernel
theorem dX6_step_37 : decode cX6_step 37 = .ok (.iload_n 1, 1) := by decide +kernel
theorem dX6_step_38 : decode cX6_step 38 = .ok (.invokevirtual 191, 3) := by decide +kernel
theorem dX6_step_41 : decode cX6_step 41 = .ok (.aload_n 0, 1) := by decide +kernel
theorem dX6_step_42 : decode cX6_step 42 = .ok (.getfield 23, 3) := by decide +kernel
theorem dX6_step_45 : decode cX6_step 45 = .ok (.bipush 77, 2) := by decide +kernel
theorem dX6_step_47 : decode cX6_step 47 = .ok (.iaload, 1) := by decide +kernel
theorem dX6_step_48 : decode cX6_step 48 = .ok (.iload_n 2, 1) := by decide +kernel
theorem dX6_step_49 : decode cX6_step 49 = .ok (.isub, 1) := by decide +kernel
theorem dX6_step_50 : decode cX6_step 50 = .ok (.ireturn, 1) := by decide +kernel
theorem dX6_undo_0 : decode cX6_undo 0 = .ok (.aload_n 0, 1) := by decide +kernel
theorem dX6_undo_1 : decode cX6_undo 1 = .ok (.iconst 0, 1) := by decide +kernel
theorem dX6_undo_2 : decode cX6_undo 2 = .ok (.putfield 48, 3) := by decide +kernel
theorem dX6_undo_5 : decode cX6_undo 5 = .ok (.aload_n 0, 1) := by decide +kernel
theorem dX6_undo_6 : decode cX6_undo 6 = .ok (.getfield 99, 3) := by decide +kernel
theorem dX6_undo_9 : decode cX6_undo 9 = .ok (.ifCond .ne 6, 3) := by decide +kernel
theorem dX6_undo_12 : decode cX6_undo 12 = .ok (.bipush (-3), 2) := by decide +kernel
theorem dX6_undo_14 : decode cX6_undo 14 = .ok (.ireturn, 1) := by decide +kernel
theorem dX6_undo_15 : decode cX6_undo 15 = .ok (.aload_n 0, 1) := by decide +kernel
theorem dX6_undo_16 : decode cX6_undo 16 = .ok (.dup, 1) := by decide +kernel
theorem dX6_undo_17 : decode cX6_undo 17 = .ok (.getfield 99, 3) := by decide +kernel
theorem dX6_undo_20 : decode cX6_undo 20 = .ok (.iconst 1, 1) := by decide +kernel
theorem dX6_undo_21 : decode cX6_undo 21 = .ok (.isub, 1) := by decide +kernel
theorem dX6_undo_22 : decode cX6_undo 22 = .ok (.putfield 99, 3) := by decide +kernel
theorem dX6_undo_25 : decode cX6_undo 25 = .ok (.iconst 0, 1) := by decide +kernel
theorem dX6_undo_26 : decode cX6_undo 26 = .ok (.istore_n 1, 1) := by decide +kernel
theorem dX6_undo_27 : decode cX6_undo 27 = .ok (.iload_n 1, 1) := by decide +kernel
theorem dX6_undo_28 : decode cX6_undo 28 = .ok (.bipush 79, 2) := by decide +kernel
theorem dX6_undo_30 : decode cX6_undo 30 = .ok (.if_icmp .ge 29, 3) := by decide +kernel
theorem dX6_undo_33 : decode cX6_undo 33 = .ok (.aload_n 0, 1) := by decide +kernel
theorem dX6_undo_34 : decode cX6_undo 34 = .ok (.getfield 23, 3) := by decide +kernel
theorem dX6_undo_37 : decode cX6_undo 37 = .ok (.iload_n 1, 1) := by decide +kernel
theorem dX6_undo_38 : decode cX6_undo 38 = .ok (.aload_n 0, 1) := by decide +kernel
theorem dX6_undo_39 : decode cX6_undo 39 = .ok (.getfield 29, 3) := by decide +kernel
theorem dX6_undo_42 : decode cX6_undo 42 = .ok (.bipush 79, 2) := by decide +kernel
theorem dX6_undo_44 : decode cX6_undo 44 = .ok (.aload_n 0, 1) := by decide +kernel
theorem dX6_undo_45 : decode cX6_undo 45 = .ok (.getfield 99, 3) := by decide +kernel
theorem dX6_undo_48 : decode cX6_undo 48 = .ok (.imul, 1) := by decide +kernel
theorem dX6_undo_49 : decode cX6_undo 49 = .ok (.iload_n 1, 1) := by decide +kernel
theorem dX6_undo_50 : decode cX6_undo 50 = .ok (.iadd, 1) := by decide +kernel
theorem dX6_undo_51 : decode cX6_undo 51 = .ok (.iaload, 1) := by decide +kernel
theorem dX6_undo_52 : decode cX6_undo 52 = .ok (.iastore, 1) := by decide +kernel
theorem dX6_undo_53 : decode cX6_undo 53 = .ok (.iinc 1 1, 3) := by decide +kernel
theorem dX6_undo_56 : decode cX6_undo 56 = .ok (.goto (-29), 3) := by decide +kernel
theorem dX6_undo_59 : decode cX6_undo 59 = .ok (.aload_n 0, 1) := by decide +kernel
theorem dX6_undo_60 : decode cX6_undo 60 = .ok (.getfield 99, 3) := by decide +kernel
theorem dX6_undo_63 : decode cX6_undo 63 = .ok (.ireturn, 1) := by decide +kernel
theorem dX6_ahead_0 : decode cX6_ahead 0 = .ok (.aload_n 0, 1) := by decide +kernel
theorem dX6_ahead_1 : decode cX6_ahead 1 = .ok (.iconst 0, 1) := by decide +kernel
theorem dX6_ahead_2 : decode cX6_ahead 2 = .ok (.putfield 48, 3) := by decide +kernel
theorem dX6_ahead_5 : decode cX6_ahead 5 = .ok (.aload_n 0, 1) := by decide +kernel
theorem dX6_ahead_6 : decode cX6_ahead 6 = .ok (.iload_n 2, 1) := by decide +kernel
theorem dX6_ahead_7 : decode cX6_ahead 7 = .ok (.invokevirtual 156, 3) := by decide +kernel
theorem dX6_ahead_10 : decode cX6_ahead 10 = .ok (.ifCond .eq 5, 3) := by decide +kernel
theorem dX6_ahead_13 : decode cX6_ahead 13 = .ok (.iconst (-1), 1) := by decide +kernel
theorem dX6_ahead_14 : decode cX6_ahead 14 = .ok (.ireturn, 1) := by decide +kernel
theorem dX6_ahead_15 : decode cX6_ahead 15 = .ok (.iload_n 1, 1) := by decide +kernel
theorem dX6_ahead_16 : decode cX6_ahead 16 = .ok (.i2l, 1) := by decide +kernel
theorem dX6_ahead_17 : decode cX6_ahead 17 = .ok (.lconst 0, 1) := by decide +kernel
theorem dX6_ahead_18 : decode cX6_ahead 18 = .ok (.ldc2_w 189, 3) := by decide +kernel
theorem dX6_ahead_21 : decode cX6_ahead 21 = .ok (.invokestatic 58, 3) := by decide +kernel
theorem dX6_ahead_24 : decode cX6_ahead 24 = .ok (.ifCond .eq 15, 3) := by decide +kernel
theorem dX6_ahead_27 : decode cX6_ahead 27 = .ok (.iload_n 3, 1) := by decide +kernel
theorem dX6_ahead_28 : decode cX6_ahead 28 = .ok (.i2l, 1) := by decide +kernel
theorem dX6_ahead_29 : decode cX6_ahead 29 = .ok (.lconst 0, 1) := by decide +kernel
theorem dX6_ahead_30 : decode cX6_ahead 30 = .ok (.ldc2_w 159, 3) := by decide +kernel
theorem dX6_ahead_33 : decode cX6_ahead 33 = .ok (.invokestatic 58, 3) := by decide +kernel
theorem dX6_ahead_36 : decode cX6_ahead 36 = .ok (.ifCond .ne 6, 3) := by decide +kernel
theorem dX6_ahead_39 : decode cX6_ahead 39 = .ok (.bipush (-2), 2) := by decide +kernel
theorem dX6_ahead_41 : decode cX6_ahead 41 = .ok (.ireturn, 1) := by decide +kernel
theorem dX6_ahead_42 : decode cX6_ahead 42 = .ok (.aload_n 0, 1) := by decide +kernel
theorem dX6_ahead_43 : decode cX6_ahead 43 = .ok (.invokevirtual 194, 3) := by decide +kernel
theorem dX6_ahead_46 : decode cX6_ahead 46 = .ok (.aload_n 0, 1) := by decide +kernel
theorem dX6_ahead_47 : decode cX6_ahead 47 = .ok (.aload_n 0, 1) := by decide +kernel
theorem dX6_ahead_48 : decode cX6_ahead 48 = .ok (.getfield 26, 3) := by decide +kernel
theorem dX6_ahead_51 : decode cX6_ahead 51 = .ok (.iload_n 1, 1) := by decide +kernel
theorem dX6_ahead_52 : decode cX6_ahead 52 = .ok (.invokevirtual 191, 3) := by decide +kernel
theorem dX6_ahead_55 : decode cX6_ahead 55 = .ok (.aload_n 0, 1) := by decide +kernel
theorem dX6_ahead_56 : decode cX6_ahead 56 = .ok (.aload_n 0, 1) := by decide +kernel
theorem dX6_ahead_57 : decode cX6_ahead 57 = .ok (.getfield 26, 3) := by decide +kernel
theorem dX6_ahead_60 : decode cX6_ahead 60 = .ok (.iload_n 2, 1) := by decide +kernel
theorem dX6_ahead_61 : decode cX6_ahead 61 = .ok (.iload_n 3, 1) := by decide +kernel
theorem dX6_ahead_62 : decode cX6_ahead 62 = .ok (.invokevirtual 161, 3) := by decide +kernel
theorem dX6_ahead_65 : decode cX6_ahead 65 = .ok (.ireturn, 1) := by decide +kernel
theorem dX6_emptyOf_0 : decode cX6_emptyOf 0 = .ok (.iconst 0, 1) := by decide +kernel
theorem dX6_emptyOf_1 : decode cX6_emptyOf 1 = .ok (.istore_n 1, 1) := by decide +kernel
theorem dX6_emptyOf_2 : decode cX6_emptyOf 2 = .ok (.iload_n 1, 1) := by decide +kernel
theorem dX6_emptyOf_3 : decode cX6_emptyOf 3 = .ok (.bipush 60, 2) := by decide +kernel
theorem dX6_emptyOf_5 : decode cX6_emptyOf 5 = .ok (.if_icmp .gt 31, 3) := by decide +kernel
theorem dX6_emptyOf_8 : decode cX6_emptyOf 8 = .ok (.aload_n 0, 1) := by decide +kernel
theorem dX6_emptyOf_9 : decode cX6_emptyOf 9 = .ok (.aload_n 0, 1) := by decide +kernel
theorem dX6_emptyOf_10 : decode cX6_emptyOf 10 = .ok (.getfield 26, 3) := by decide +kernel
theorem dX6_emptyOf_13 : decode cX6_emptyOf 13 = .ok (.iconst 0, 1) := by decide +kernel
theorem dX6_emptyOf_14 : decode cX6_emptyOf 14 = .ok (.invokevirtual 183, 3) := by decide +kernel
theorem dX6_emptyOf_17 : decode cX6_emptyOf 17 = .ok (.ifCond .ne 5, 3) := by decide +kernel
theorem dX6_emptyOf_20 : decode cX6_emptyOf 20 = .ok (.iload_n 1, 1) := by decide +kernel
theorem dX6_emptyOf_21 : decode cX6_emptyOf 21 = .ok (.ireturn, 1) := by decide +kernel
theorem dX6_emptyOf_22 : decode cX6_emptyOf 22 = .ok (.aload_n 0, 1) := by decide +kernel
theorem dX6_emptyOf_23 : decode cX6_emptyOf 23 = .ok (.aload_n 0, 1) := by decide +kernel
theorem dX6_emptyOf_24 : decode cX6_emptyOf 24 = .ok (.getfield 26, 3) := by decide +kernel
theorem dX6_emptyOf_27 : decode cX6_emptyOf 27 = .ok (.invokevirtual 153, 3) := by decide +kernel
theorem dX6_emptyOf_30 : decode cX6_emptyOf 30 = .ok (.iinc 1 1, 3) := by decide +kernel
theorem dX6_emptyOf_33 : decode cX6_emptyOf 33 = .ok (.goto (-31), 3) := by decide +kernel
theorem dX6_emptyOf_36 : decode cX6_emptyOf 36 = .ok (.bipush (-9), 2) := by decide +kernel
theorem dX6_emptyOf_38 : decode cX6_emptyOf 38 = .ok (.ireturn, 1) := by decide +kernel
theorem dX6_bestRest_0 : decode cX6_bestRest 0 = .ok (.iconst 0, 1) := by decide +kernel
theorem dX6_bestRest_1 : decode cX6_bestRest 1 = .ok (.istore_n 1, 1) := by decide +kernel
theorem dX6_bestRest_2 : decode cX6_bestRest 2 = .ok (.bipush 61, 2) := by decide +kernel
theorem dX6_bestRest_4 : decode cX6_bestRest 4 = .ok (.istore_n 2, 1) := by decide +kernel
theorem dX6_bestRest_5 : decode cX6_bestRest 5 = .ok (.iconst 0, 1) := by decide +kernel
theorem dX6_bestRest_6 : decode cX6_bestRest 6 = .ok (.istore_n 3, 1) := by decide +kernel
theorem dX6_bestRest_7 : decode cX6_bestRest 7 = .ok (.iload_n 3, 1) := by decide +kernel
theorem dX6_bestRest_8 : decode cX6_bestRest 8 = .ok (.bipush 10, 2) := by decide +kernel
theorem dX6_bestRest_10 : decode cX6_bestRest 10 = .ok (.if_icmp .ge 45, 3) := by decide +kernel
theorem dX6_bestRest_13 : decode cX6_bestRest 13 = .ok (.aload_n 0, 1) := by decide +kernel
theorem dX6_bestRest_14 : decode cX6_bestRest 14 = .ok (.invokevirtual 194, 3) := by decide +kernel
theorem dX6_bestRest_17 : decode cX6_bestRest 17 = .ok (.aload_n 0, 1) := by decide +kernel
theorem dX6_bestRest_18 : decode cX6_bestRest 18 = .ok (.getfield 26, 3) := by decide +kernel
theorem dX6_bestRest_21 : decode cX6_bestRest 21 = .ok (.bipush 74, 2) := by decide +kernel
theorem dX6_bestRest_23 : decode cX6_bestRest 23 = .ok (.iload_n 3, 1) := by decide +kernel
theorem dX6_bestRest_24 : decode cX6_bestRest 24 = .ok (.iastore, 1) := by decide +kernel
theorem dX6_bestRest_25 : decode cX6_bestRest 25 = .ok (.aload_n 0, 1) := by decide +kernel
theorem dX6_bestRest_26 : decode cX6_bestRest 26 = .ok (.invokevirtual 197, 3) := by decide +kernel
theorem dX6_bestRest_29 : decode cX6_bestRest 29 = .ok (.istore 4, 2) := by decide +kernel
theorem dX6_bestRest_31 : decode cX6_bestRest 31 = .ok (.iload 4, 2) := by decide +kernel
theorem dX6_bestRest_33 : decode cX6_bestRest 33 = .ok (.bipush (-9), 2) := by decide +kernel
theorem dX6_bestRest_35 : decode cX6_bestRest 35 = .ok (.if_icmp .eq 14, 3) := by decide +kernel
theorem dX6_bestRest_38 : decode cX6_bestRest 38 = .ok (.iload 4, 2) := by decide +kernel
theorem dX6_bestRest_40 : decode cX6_bestRest 40 = .ok (.iload_n 2, 1) := by decide +kernel
theorem dX6_bestRest_41 : decode cX6_bestRest 41 = .ok (.if_icmp .ge 8, 3) := by decide +kernel
theorem dX6_bestRest_44 : decode cX6_bestRest 44 = .ok (.iload 4, 2) := by decide +kernel
theorem dX6_bestRest_46 : decode cX6_bestRest 46 = .ok (.istore_n 2, 1) := by decide +kernel
theorem dX6_bestRest_47 : decode cX6_bestRest 47 = .ok (.iload_n 3, 1) := by decide +kernel
theorem dX6_bestRest_48 : decode cX6_bestRest 48 = .ok (.istore_n 1, 1) := by decide +kernel
theorem dX6_bestRest_49 : decode cX6_bestRest 49 = .ok (.iinc 3 1, 3) := by decide +kernel
theorem dX6_bestRest_52 : decode cX6_bestRest 52 = .ok (.goto (-45), 3) := by decide +kernel
theorem dX6_bestRest_55 : decode cX6_bestRest 55 = .ok (.iload_n 1, 1) := by decide +kernel
theorem dX6_bestRest_56 : decode cX6_bestRest 56 = .ok (.ireturn, 1) := by decide +kernel
theorem dX6_rowAt_0 : decode cX6_rowAt 0 = .ok (.aload_n 0, 1) := by decide +kernel
theorem dX6_rowAt_1 : decode cX6_rowAt 1 = .ok (.invokevirtual 194, 3) := by decide +kernel
theorem dX6_rowAt_4 : decode cX6_rowAt 4 = .ok (.iconst 0, 1) := by decide +kernel
theorem dX6_rowAt_5 : decode cX6_rowAt 5 = .ok (.istore_n 2, 1) := by decide +kernel
theorem dX6_rowAt_6 : decode cX6_rowAt 6 = .ok (.iconst 0, 1) := by decide +kernel
theorem dX6_rowAt_7 : decode cX6_rowAt 7 = .ok (.istore_n 3, 1) := by decide +kernel
theorem dX6_rowAt_8 : decode cX6_rowAt 8 = .ok (.iload_n 3, 1) := by decide +kernel
theorem dX6_rowAt_9 : decode cX6_rowAt 9 = .ok (.bipush 60, 2) := by decide +kernel
theorem dX6_rowAt_11 : decode cX6_rowAt 11 = .ok (.if_icmp .ge 37, 3) := by decide +kernel
theorem dX6_rowAt_14 : decode cX6_rowAt 14 = .ok (.aload_n 0, 1) := by decide +kernel
theorem dX6_rowAt_15 : decode cX6_rowAt 15 = .ok (.aload_n 0, 1) := by decide +kernel
theorem dX6_rowAt_16 : decode cX6_rowAt 16 = .ok (.getfield 26, 3) := by decide +kernel
theorem dX6_rowAt_19 : decode cX6_rowAt 19 = .ok (.invokevirtual 153, 3) := by decide +kernel
theorem dX6_rowAt_22 : decode cX6_rowAt 22 = .ok (.aload_n 0, 1) := by decide +kernel
theorem dX6_rowAt_23 : decode cX6_rowAt 23 = .ok (.getfield 133, 3) := by decide +kernel
theorem dX6_rowAt_26 : decode cX6_rowAt 26 = .ok (.ifCond .le 16, 3) := by decide +kernel
theorem dX6_rowAt_29 : decode cX6_rowAt 29 = .ok (.iload_n 2, 1) := by decide +kernel
theorem dX6_rowAt_30 : decode cX6_rowAt 30 = .ok (.iload_n 1, 1) := by decide +kernel
theorem dX6_rowAt_31 : decode cX6_rowAt 31 = .ok (.if_icmp .ne 8, 3) := by decide +kernel
theorem dX6_rowAt_34 : decode cX6_rowAt 34 = .ok (.aload_n 0, 1) := by decide +kernel
theorem dX6_rowAt_35 : decode cX6_rowAt 35 = .ok (.getfield 133, 3) := by decide +kernel
theorem dX6_rowAt_38 : decode cX6_rowAt 38 = .ok (.ireturn, 1) := by decide +kernel
theorem dX6_rowAt_39 : decode cX6_rowAt 39 = .ok (.iinc 2 1, 3) := by decide +kernel
theorem dX6_rowAt_42 : decode cX6_rowAt 42 = .ok (.iinc 3 1, 3) := by decide +kernel
theorem dX6_rowAt_45 : decode cX6_rowAt 45 = .ok (.goto (-37), 3) := by decide +kernel
theorem dX6_rowAt_48 : decode cX6_rowAt 48 = .ok (.iload_n 2, 1) := by decide +kernel
theorem dX6_rowAt_49 : decode cX6_rowAt 49 = .ok (.ireturn, 1) := by decide +kernel
theorem dX6_manyOut_0 : decode cX6_manyOut 0 = .ok (.aload_n 0, 1) := by decide +kernel
theorem dX6_manyOut_1 : decode cX6_manyOut 1 = .ok (.invokevirtual 194, 3) := by decide +kernel
theorem dX6_manyOut_4 : decode cX6_manyOut 4 = .ok (.aload_n 0, 1) := by decide +kernel
theorem dX6_manyOut_5 : decode cX6_manyOut 5 = .ok (.aload_n 0, 1) := by decide +kernel
theorem dX6_manyOut_6 : decode cX6_manyOut 6 = .ok (.getfield 26, 3) := by decide +kernel
theorem dX6_manyOut_9 : decode cX6_manyOut 9 = .ok (.bipush 60, 2) := by decide +kernel
theorem dX6_manyOut_11 : decode cX6_manyOut 11 = .ok (.invokevirtual 191, 3) := by decide +kernel
theorem dX6_manyOut_14 : decode cX6_manyOut 14 = .ok (.aload_n 0, 1) := by decide +kernel
theorem dX6_manyOut_15 : decode cX6_manyOut 15 = .ok (.getfield 26, 3) := by decide +kernel
theorem dX6_manyOut_18 : decode cX6_manyOut 18 = .ok (.bipush 77, 2) := by decide +kernel
theorem dX6_manyOut_20 : decode cX6_manyOut 20 = .ok (.iaload, 1) := by decide +kernel
theorem dX6_manyOut_21 : decode cX6_manyOut 21 = .ok (.aload_n 0, 1) := by decide +kernel
theorem dX6_manyOut_22 : decode cX6_manyOut 22 = .ok (.getfield 23, 3) := by decide +kernel
theorem dX6_manyOut_25 : decode cX6_manyOut 25 = .ok (.bipush 77, 2) := by decide +kernel
theorem dX6_manyOut_27 : decode cX6_manyOut 27 = .ok (.iaload, 1) := by decide +kernel
theorem dX6_manyOut_28 : decode cX6_manyOut 28 = .ok (.isub, 1) := by decide +kernel
theorem dX6_manyOut_29 : decode cX6_manyOut 29 = .ok (.ireturn, 1) := by decide +kernel
theorem dX6_ask_0 : decode cX6_ask 0 = .ok (.aload_n 0, 1) := by decide +kernel
theorem dX6_ask_1 : decode cX6_ask 1 = .ok (.iconst 0, 1) := by decide +kernel
theorem dX6_ask_2 : decode cX6_ask 2 = .ok (.putfield 48, 3) := by decide +kernel
theorem dX6_ask_5 : decode cX6_ask 5 = .ok (.iload_n 1, 1) := by decide +kernel
theorem dX6_ask_6 : decode cX6_ask 6 = .ok (.tableswitch 45 0 2 #[26, 35, 40], 26) := by decide +kernel
theorem dX6_ask_32 : decode cX6_ask 32 = .ok (.aload_n 0, 1) := by decide +kernel
theorem dX6_ask_33 : decode cX6_ask 33 = .ok (.invokevirtual 194, 3) := by decide +kernel
theorem dX6_ask_36 : decode cX6_ask 36 = .ok (.aload_n 0, 1) := by decide +kernel
theorem dX6_ask_37 : decode cX6_ask 37 = .ok (.invokevirtual 197, 3) := by decide +kernel
theorem dX6_ask_40 : decode cX6_ask 40 = .ok (.ireturn, 1) := by decide +kernel
theorem dX6_ask_41 : decode cX6_ask 41 = .ok (.aload_n 0, 1) := by decide +kernel
theorem dX6_ask_42 : decode cX6_ask 42 = .ok (.invokevirtual 200, 3) := by decide +kernel
theorem dX6_ask_45 : decode cX6_ask 45 = .ok (.ireturn, 1) := by decide +kernel
theorem dX6_ask_46 : decode cX6_ask 46 = .ok (.aload_n 0, 1) := by decide +kernel
theorem dX6_ask_47 : decode cX6_ask 47 = .ok (.invokevirtual 203, 3) := by decide +kernel
theorem dX6_ask_50 : decode cX6_ask 50 = .ok (.ireturn, 1) := by decide +kernel
theorem dX6_ask_51 : decode cX6_ask 51 = .ok (.bipush (-2), 2) := by decide +kernel
theorem dX6_ask_53 : decode cX6_ask 53 = .ok (.ireturn, 1) := by decide +kernel
theorem dX6_row_0 : decode cX6_row 0 = .ok (.aload_n 0, 1) := by decide +kernel
theorem dX6_row_1 : decode cX6_row 1 = .ok (.iconst 0, 1) := by decide +kernel
theorem dX6_row_2 : decode cX6_row 2 = .ok (.putfield 48, 3) := by decide +kernel
theorem dX6_row_5 : decode cX6_row 5 = .ok (.iload_n 1, 1) := by decide +kernel
theorem dX6_row_6 : decode cX6_row 6 = .ok (.i2l, 1) := by decide +kernel
theorem dX6_row_7 : decode cX6_row 7 = .ok (.lconst 0, 1) := by decide +kernel
theorem dX6_row_8 : decode cX6_row 8 = .ok (.aload_n 0, 1) := by decide +kernel
theorem dX6_row_9 : decode cX6_row 9 = .ok (.invokevirtual 203, 3) := by decide +kernel
theorem dX6_row_12 : decode cX6_row 12 = .ok (.iconst 1, 1) := by decide +kernel
theorem dX6_row_13 : decode cX6_row 13 = .ok (.isub, 1) := by decide +kernel
theorem dX6_row_14 : decode cX6_row 14 = .ok (.i2l, 1) := by decide +kernel
theorem dX6_row_15 : decode cX6_row 15 = .ok (.invokestatic 58, 3) := by decide +kernel
theorem dX6_row_18 : decode cX6_row 18 = .ok (.ifCond .eq 11, 3) := by decide +kernel
theorem dX6_row_21 : decode cX6_row 21 = .ok (.aload_n 0, 1) := by decide +kernel
theorem dX6_row_22 : decode cX6_row 22 = .ok (.iload_n 1, 1) := by decide +kernel
theorem dX6_row_23 : decode cX6_row 23 = .ok (.invokevirtual 206, 3) := by decide +kernel
theorem dX6_row_26 : decode cX6_row 26 = .ok (.goto 5, 3) := by decide +kernel
theorem dX6_row_29 : decode cX6_row 29 = .ok (.bipush (-9), 2) := by decide +kernel
theorem dX6_row_31 : decode cX6_row 31 = .ok (.ireturn, 1) := by decide +kernel
theorem dX6_does_0 : decode cX6_does 0 = .ok (.iload_n 1, 1) := by decide +kernel
theorem dX6_does_1 : decode cX6_does 1 = .ok (.tableswitch 338 1 8 #[47, 76, 131, 174, 202, 231, 282, 304], 47) := by decide +kernel
theorem dX6_does_48 : decode cX6_does 48 = .ok (.aload_n 0, 1) := by decide +kernel
theorem dX6_does_49 : decode cX6_does 49 = .ok (.aload_n 0, 1) := by decide +kernel
theorem dX6_does_50 : decode cX6_does 50 = .ok (.getfield 26, 3) := by decide +kernel
theorem dX6_does_53 : decode cX6_does 53 = .ok (.bipush 10, 2) := by decide +kernel
theorem dX6_does_55 : decode cX6_does 55 = .ok (.iload_n 2, 1) := by decide +kernel
theorem dX6_does_56 : decode cX6_does 56 = .ok (.imul, 1) := by decide +kernel
theorem dX6_does_57 : decode cX6_does 57 = .ok (.iload_n 3, 1) := by decide +kernel
theorem dX6_does_58 : decode cX6_does 58 = .ok (.iadd, 1) := by decide +kernel
theorem dX6_does_59 : decode cX6_does 59 = .ok (.invokevirtual 191, 3) := by decide +kernel
theorem dX6_does_62 : decode cX6_does 62 = .ok (.bipush 10, 2) := by decide +kernel
theorem dX6_does_64 : decode cX6_does 64 = .ok (.iload_n 2, 1) := by decide +kernel
theorem dX6_does_65 : decode cX6_does 65 = .ok (.imul, 1) := by decide +kernel
theorem dX6_does_66 : decode cX6_does 66 = .ok (.iload_n 3, 1) := by decide +kernel
theorem dX6_does_67 : decode cX6_does 67 = .ok (.iadd, 1) := by decide +kernel
theorem dX6_does_68 : decode cX6_does 68 = .ok (.ifCond .le 7, 3) := by decide +kernel
theorem dX6_does_71 : decode cX6_does 71 = .ok (.iconst 1, 1) := by decide +kernel
theorem dX6_does_72 : decode cX6_does 72 = .ok (.goto 4, 3) := by decide +kernel
theorem dX6_does_75 : decode cX6_does 75 = .ok (.iconst 0, 1) := by decide +kernel
theorem dX6_does_76 : decode cX6_does 76 = .ok (.ireturn, 1) := by decide +kernel
theorem dX6_does_77 : decode cX6_does 77 = .ok (.iload_n 2, 1) := by decide +kernel
theorem dX6_does_78 : decode cX6_does 78 = .ok (.ifCond .ne 41, 3) := by decide +kernel
theorem dX6_does_81 : decode cX6_does 81 = .ok (.aload_n 0, 1) := by decide +kernel
theorem dX6_does_82 : decode cX6_does 82 = .ok (.iload_n 3, 1) := by decide +kernel
theorem dX6_does_83 : decode cX6_does 83 = .ok (.invokevirtual 168, 3) := by decide +kernel
theorem dX6_does_86 : decode cX6_does 86 = .ok (.ifCond .ne 33, 3) := by decide +kernel
theorem dX6_does_89 : decode cX6_does 89 = .ok (.aload_n 0, 1) := by decide +kernel
theorem dX6_does_90 : decode cX6_does 90 = .ok (.getfield 26, 3) := by decide +kernel
theorem dX6_does_93 : decode cX6_does 93 = .ok (.bipush 6, 2) := by decide +kernel
theorem dX6_does_95 : decode cX6_does 95 = .ok (.aload_n 0, 1) := by decide +kernel
theorem dX6_does_96 : decode cX6_does 96 = .ok (.iload_n 3, 1) := by decide +kernel
theorem dX6_does_97 : decode cX6_does 97 = .ok (.invokevirtual 165, 3) := by decide +kernel
theorem dX6_does_100 : decode cX6_does 100 = .ok (.imul, 1) := by decide +kernel
theorem dX6_does_101 : decode cX6_does 101 = .ok (.iconst 0, 1) := by decide +kernel
theorem dX6_does_102 : decode cX6_does 102 = .ok (.iadd, 1) := by decide +kernel
theorem dX6_does_103 : decode cX6_does 103 = .ok (.iaload, 1) := by decide +kernel
theorem dX6_does_104 : decode cX6_does 104 = .ok (.ifCond .gt 15, 3) := by decide +kernel
theorem dX6_does_107 : decode cX6_does 107 = .ok (.aload_n 0, 1) := by decide +kernel
theorem dX6_does_108 : decode cX6_does 108 = .ok (.getfield 26, 3) := by decide +kernel
theorem dX6_does_111 : decode cX6_does 111 = .ok (.bipush 76, 2) := by decide +kernel
theorem dX6_does_113 : decode cX6_does 113 = .ok (.iaload, 1) := by decide +kernel
theorem dX6_does_114 : decode cX6_does 114 = .ok (.bipush 99, 2) := by decide +kernel
theorem dX6_does_116 : decode cX6_does 116 = .ok (.if_icmp .ne 5, 3) := by decide +kernel
theorem dX6_does_119 : decode cX6_does 119 = .ok (.iconst 0, 1) := by decide +kernel
theorem dX6_does_120 : decode cX6_does 120 = .ok (.ireturn, 1) := by decide +kernel
theorem dX6_does_121 : decode cX6_does 121 = .ok (.aload_n 0, 1) := by decide +kernel
theorem dX6_does_122 : decode cX6_does 122 = .ok (.aload_n 0, 1) := by decide +kernel
theorem dX6_does_123 : decode cX6_does 123 = .ok (.getfield 26, 3) := by decide +kernel
theorem dX6_does_126 : decode cX6_does 126 = .ok (.iload_n 3, 1) := by decide +kernel
theorem dX6_does_127 : decode cX6_does 127 = .ok (.invokevirtual 174, 3) := by decide +kernel
theorem dX6_does_130 : decode cX6_does 130 = .ok (.iconst 1, 1) := by decide +kernel
theorem dX6_does_131 : decode cX6_does 131 = .ok (.ireturn, 1) := by decide +kernel
theorem dX6_does_132 : decode cX6_does 132 = .ok (.iload_n 2, 1) := by decide +kernel
theorem dX6_does_133 : decode cX6_does 133 = .ok (.ifCond .ne 40, 3) := by decide +kernel
theorem dX6_does_136 : decode cX6_does 136 = .ok (.aload_n 0, 1) := by decide +kernel
theorem dX6_does_137 : decode cX6_does 137 = .ok (.iload_n 3, 1) := by decide +kernel
theorem dX6_does_138 : decode cX6_does 138 = .ok (.invokevirtual 156, 3) := by decide +kernel
theorem dX6_does_141 : decode cX6_does 141 = .ok (.ifCond .ne 32, 3) := by decide +kernel
theorem dX6_does_144 : decode cX6_does 144 = .ok (.aload_n 0, 1) := by decide +kernel
theorem dX6_does_145 : decode cX6_does 145 = .ok (.getfield 26, 3) := by decide +kernel
theorem dX6_does_148 : decode cX6_does 148 = .ok (.bipush 6, 2) := by decide +kernel
theorem dX6_does_150 : decode cX6_does 150 = .ok (.iload_n 3, 1) := by decide +kernel
theorem dX6_does_151 : decode cX6_does 151 = .ok (.imul, 1) := by decide +kernel
theorem dX6_does_152 : decode cX6_does 152 = .ok (.iconst 0, 1) := by decide +kernel
theorem dX6_does_153 : decode cX6_does 153 = .ok (.iadd, 1) := by decide +kernel
theorem dX6_does_154 : decode cX6_does 154 = .ok (.iaload, 1) := by decide +kernel
theorem dX6_does_155 : decode cX6_does 155 = .ok (.ifCond .le 18, 3) := by decide +kernel
theorem dX6_does_158 : decode cX6_does 158 = .ok (.aload_n 0, 1) := by decide +kernel
theorem dX6_does_159 : decode cX6_does 159 = .ok (.getfield 26, 3) := by decide +kernel
theorem dX6_does_162 : decode cX6_does 162 = .ok (.iload_n 3, 1) := by decide +kernel
theorem dX6_does_163 : decode cX6_does 163 = .ok (.invokestatic 177, 3) := by decide +kernel
theorem dX6_does_166 : decode cX6_does 166 = .ok (.ifCond .le 7, 3) := by decide +kernel
theorem dX6_does_169 : decode cX6_does 169 = .ok (.iconst 1, 1) := by decide +kernel
theorem dX6_does_170 : decode cX6_does 170 = .ok (.goto 4, 3) := by decide +kernel
theorem dX6_does_173 : decode cX6_does 173 = .ok (.iconst 0, 1) := by decide +kernel
theorem dX6_does_174 : decode cX6_does 174 = .ok (.ireturn, 1) := by decide +kernel
theorem dX6_does_175 : decode cX6_does 175 = .ok (.iload_n 2, 1) := by decide +kernel
theorem dX6_does_176 : decode cX6_does 176 = .ok (.ifCond .ne 7, 3) := by decide +kernel
theorem dX6_does_179 : decode cX6_does 179 = .ok (.iload_n 3, 1) := by decide +kernel
theorem dX6_does_180 : decode cX6_does 180 = .ok (.ifCond .eq 5, 3) := by decide +kernel
theorem dX6_does_183 : decode cX6_does 183 = .ok (.iconst 0, 1) := by decide +kernel
theorem dX6_does_184 : decode cX6_does 184 = .ok (.ireturn, 1) := by decide +kernel
theorem dX6_does_185 : decode cX6_does 185 = .ok (.aload_n 0, 1) := by decide +kernel
theorem dX6_does_186 : decode cX6_does 186 = .ok (.getfield 26, 3) := by decide +kernel
theorem dX6_does_189 : decode cX6_does 189 = .ok (.bipush 72, 2) := by decide +kernel
theorem dX6_does_191 : decode cX6_does 191 = .ok (.iconst 1, 1) := by decide +kernel
theorem dX6_does_192 : decode cX6_does 192 = .ok (.aload_n 0, 1) := by decide +kernel
theorem dX6_does_193 : decode cX6_does 193 = .ok (.getfield 26, 3) := by decide +kernel
theorem dX6_does_196 : decode cX6_does 196 = .ok (.bipush 72, 2) := by decide +kernel
theorem dX6_does_198 : decode cX6_does 198 = .ok (.iaload, 1) := by decide +kernel
theorem dX6_does_199 : decode cX6_does 199 = .ok (.isub, 1) := by decide +kernel
theorem dX6_does_200 : decode cX6_does 200 = .ok (.iastore, 1) := by decide +kernel
theorem dX6_does_201 : decode cX6_does 201 = .ok (.iconst 1, 1) := by decide +kernel
theorem dX6_does_202 : decode cX6_does 202 = .ok (.ireturn, 1) := by decide +kernel
theorem dX6_does_203 : decode cX6_does 203 = .ok (.aload_n 0, 1) := by decide +kernel
theorem dX6_does_204 : decode cX6_does 204 = .ok (.iload_n 2, 1) := by decide +kernel
theorem dX6_does_205 : decode cX6_does 205 = .ok (.invokevirtual 156, 3) := by decide +kernel
theorem dX6_does_208 : decode cX6_does 208 = .ok (.ifCond .ne 8, 3) := by decide +kernel
theorem dX6_does_211 : decode cX6_does 211 = .ok (.iload_n 3, 1) := by decide +kernel
theorem dX6_does_212 : decode cX6_does 212 = .ok (.iconst 2, 1) := by decide +kernel
theorem dX6_does_213 : decode cX6_does 213 = .ok (.if_icmp .le 5, 3) := by decide +kernel
theorem dX6_does_216 : decode cX6_does 216 = .ok (.iconst 0, 1) := by decide +kernel
theorem dX6_does_217 : decode cX6_does 217 = .ok (.ireturn, 1) := by decide +kernel
theorem dX6_does_218 : decode cX6_does 218 = .ok (.aload_n 0, 1) := by decide +kernel
theorem dX6_does_219 : decode cX6_does 219 = .ok (.getfield 26, 3) := by decide +kernel
theorem dX6_does_222 : decode cX6_does 222 = .ok (.bipush 6, 2) := by decide +kernel
theorem dX6_does_224 : decode cX6_does 224 = .ok (.iload_n 2, 1) := by decide +kernel
theorem dX6_does_225 : decode cX6_does 225 = .ok (.imul, 1) := by decide +kernel
theorem dX6_does_226 : decode cX6_does 226 = .ok (.iconst 1, 1) := by decide +kernel
theorem dX6_does_227 : decode cX6_does 227 = .ok (.iadd, 1) := by decide +kernel
theorem dX6_does_228 : decode cX6_does 228 = .ok (.iload_n 3, 1) := by decide +kernel
theorem dX6_does_229 : decode cX6_does 229 = .ok (.iastore, 1) := by decide +kernel
theorem dX6_does_230 : decode cX6_does 230 = .ok (.iconst 1, 1) := by decide +kernel
theorem dX6_does_231 : decode cX6_does 231 = .ok (.ireturn, 1) := by decide +kernel
theorem dX6_does_232 : decode cX6_does 232 = .ok (.aload_n 0, 1) := by decide +kernel
theorem dX6_does_233 : decode cX6_does 233 = .ok (.iload_n 2, 1) := by decide +kernel
theorem dX6_does_234 : decode cX6_does 234 = .ok (.invokevirtual 156, 3) := by decide +kernel
theorem dX6_does_237 : decode cX6_does 237 = .ok (.ifCond .ne 44, 3) := by decide +kernel
theorem dX6_does_240 : decode cX6_does 240 = .ok (.iload_n 3, 1) := by decide +kernel
theorem dX6_does_241 : decode cX6_does 241 = .ok (.iconst 2, 1) := by decide +kernel
theorem dX6_does_242 : decode cX6_does 242 = .ok (.if_icmp .ge 39, 3) := by decide +kernel
theorem dX6_does_245 : decode cX6_does 245 = .ok (.aload_n 0, 1) := by decide +kernel
theorem dX6_does_246 : decode cX6_does 246 = .ok (.getfield 26, 3) := by decide +kernel
theorem dX6_does_249 : decode cX6_does 249 = .ok (.bipush 6, 2) := by decide +kernel
theorem dX6_does_251 : decode cX6_does 251 = .ok (.iload_n 2, 1) := by decide +kernel
theorem dX6_does_252 : decode cX6_does 252 = .ok (.imul, 1) := by decide +kernel
theorem dX6_does_253 : decode cX6_does 253 = .ok (.iconst 0, 1) := by decide +kernel
theorem dX6_does_254 : decode cX6_does 254 = .ok (.iadd, 1) := by decide +kernel
theorem dX6_does_255 : decode cX6_does 255 = .ok (.iaload, 1) := by decide +kernel
theorem dX6_does_256 : decode cX6_does 256 = .ok (.ifCond .le 7, 3) := by decide +kernel
theorem dX6_does_259 : decode cX6_does 259 = .ok (.iconst 1, 1) := by decide +kernel
theorem dX6_does_260 : decode cX6_does 260 = .ok (.goto 4, 3) := by decide +kernel
theorem dX6_does_263 : decode cX6_does 263 = .ok (.iconst 0, 1) := by decide +kernel
theorem dX6_does_264 : decode cX6_does 264 = .ok (.iload_n 3, 1) := by decide +kernel
theorem dX6_does_265 : decode cX6_does 265 = .ok (.iconst 1, 1) := by decide +kernel
theorem dX6_does_266 : decode cX6_does 266 = .ok (.if_icmp .ne 7, 3) := by decide +kernel
theorem dX6_does_269 : decode cX6_does 269 = .ok (.iconst 1, 1) := by decide +kernel
theorem dX6_does_270 : decode cX6_does 270 = .ok (.goto 4, 3) := by decide +kernel
theorem dX6_does_273 : decode cX6_does 273 = .ok (.iconst 0, 1) := by decide +kernel
theorem dX6_does_274 : decode cX6_does 274 = .ok (.if_icmp .ne 7, 3) := by decide +kernel
theorem dX6_does_277 : decode cX6_does 277 = .ok (.iconst 1, 1) := by decide +kernel
theorem dX6_does_278 : decode cX6_does 278 = .ok (.goto 4, 3) := by decide +kernel
theorem dX6_does_281 : decode cX6_does 281 = .ok (.iconst 0, 1) := by decide +kernel
theorem dX6_does_282 : decode cX6_does 282 = .ok (.ireturn, 1) := by decide +kernel
theorem dX6_does_283 : decode cX6_does 283 = .ok (.aload_n 0, 1) := by decide +kernel
theorem dX6_does_284 : decode cX6_does 284 = .ok (.getfield 26, 3) := by decide +kernel
theorem dX6_does_287 : decode cX6_does 287 = .ok (.bipush 77, 2) := by decide +kernel
theorem dX6_does_289 : decode cX6_does 289 = .ok (.iaload, 1) := by decide +kernel
theorem dX6_does_290 : decode cX6_does 290 = .ok (.bipush 10, 2) := by decide +kernel
theorem dX6_does_292 : decode cX6_does 292 = .ok (.iload_n 2, 1) := by decide +kernel
theorem dX6_does_293 : decode cX6_does 293 = .ok (.imul, 1) := by decide +kernel
theorem dX6_does_294 : decode cX6_does 294 = .ok (.iload_n 3, 1) := by decide +kernel
theorem dX6_does_295 : decode cX6_does 295 = .ok (.iadd, 1) := by decide +kernel
theorem dX6_does_296 : decode cX6_does 296 = .ok (.if_icmp .ne 7, 3) := by decide +kernel
theorem dX6_does_299 : decode cX6_does 299 = .ok (.iconst 1, 1) := by decide +kernel
theorem dX6_does_300 : decode cX6_does 300 = .ok (.goto 4, 3) := by decide +kernel
theorem dX6_does_303 : decode cX6_does 303 = .ok (.iconst 0, 1) := by decide +kernel
theorem dX6_does_304 : decode cX6_does 304 = .ok (.ireturn, 1) := by decide +kernel
theorem dX6_does_305 : decode cX6_does 305 = .ok (.aload_n 0, 1) := by decide +kernel
theorem dX6_does_306 : decode cX6_does 306 = .ok (.iload_n 2, 1) := by decide +kernel
theorem dX6_does_307 : decode cX6_does 307 = .ok (.invokevirtual 156, 3) := by decide +kernel
theorem dX6_does_310 : decode cX6_does 310 = .ok (.ifCond .ne 27, 3) := by decide +kernel
theorem dX6_does_313 : decode cX6_does 313 = .ok (.iload_n 3, 1) := by decide +kernel
theorem dX6_does_314 : decode cX6_does 314 = .ok (.iconst 2, 1) := by decide +kernel
theorem dX6_does_315 : decode cX6_does 315 = .ok (.if_icmp .ge 22, 3) := by decide +kernel
theorem dX6_does_318 : decode cX6_does 318 = .ok (.aload_n 0, 1) := by decide +kernel
theorem dX6_does_319 : decode cX6_does 319 = .ok (.getfield 26, 3) := by decide +kernel
theorem dX6_does_322 : decode cX6_does 322 = .ok (.bipush 6, 2) := by decide +kernel
theorem dX6_does_324 : decode cX6_does 324 = .ok (.iload_n 2, 1) := by decide +kernel
theorem dX6_does_325 : decode cX6_does 325 = .ok (.imul, 1) := by decide +kernel
theorem dX6_does_326 : decode cX6_does 326 = .ok (.iconst 2, 1) := by decide +kernel
theorem dX6_does_327 : decode cX6_does 327 = .ok (.iadd, 1) := by decide +kernel
theorem dX6_does_328 : decode cX6_does 328 = .ok (.iaload, 1) := by decide +kernel
theorem dX6_does_329 : decode cX6_does 329 = .ok (.iload_n 3, 1) := by decide +kernel
theorem dX6_does_330 : decode cX6_does 330 = .ok (.if_icmp .ne 7, 3) := by decide +kernel
theorem dX6_does_333 : decode cX6_does 333 = .ok (.iconst 1, 1) := by decide +kernel
