theorem dX8_byRule_216 : decode cX8_byRule 216 = .ok (.getfield 57, 3) := by decide +kernel
theorem dX8_byRule_219 : decode cX8_byRule 219 = .ok (.if_icmp .ge 24, 3) := by decide +kernel
theorem dX8_byRule_222 : decode cX8_byRule 222 = .ok (.iload 4, 2) := by decide +kernel
theorem dX8_byRule_224 : decode cX8_byRule 224 = .ok (.aload_n 0, 1) := by decide +kernel
theorem dX8_byRule_225 : decode cX8_byRule 225 = .ok (.getfield 32, 3) := by decide +kernel
theorem dX8_byRule_228 : decode cX8_byRule 228 = .ok (.bipush 21, 2) := by decide +kernel
theorem dX8_byRule_230 : decode cX8_byRule 230 = .ok (.iload 5, 2) := by decide +kernel
theorem dX8_byRule_232 : decode cX8_byRule 232 = .ok (.iadd, 1) := by decide +kernel
theorem dX8_byRule_233 : decode cX8_byRule 233 = .ok (.iaload, 1) := by decide +kernel
theorem dX8_byRule_234 : decode cX8_byRule 234 = .ok (.iadd, 1) := by decide +kernel
theorem dX8_byRule_235 : decode cX8_byRule 235 = .ok (.istore 4, 2) := by decide +kernel
theorem dX8_byRule_237 : decode cX8_byRule 237 = .ok (.iinc 5 1, 3) := by decide +kernel
theorem dX8_byRule_240 : decode cX8_byRule 240 = .ok (.goto (-27), 3) := by decide +kernel
theorem dX8_byRule_243 : decode cX8_byRule 243 = .ok (.iload_n 3, 1) := by decide +kernel
theorem dX8_byRule_244 : decode cX8_byRule 244 = .ok (.ifCond .ne 18, 3) := by decide +kernel
theorem dX8_byRule_247 : decode cX8_byRule 247 = .ok (.aload_n 0, 1) := by decide +kernel
theorem dX8_byRule_248 : decode cX8_byRule 248 = .ok (.aload_n 0, 1) := by decide +kernel
theorem dX8_byRule_249 : decode cX8_byRule 249 = .ok (.getfield 32, 3) := by decide +kernel
theorem dX8_byRule_252 : decode cX8_byRule 252 = .ok (.iconst 3, 1) := by decide +kernel
theorem dX8_byRule_253 : decode cX8_byRule 253 = .ok (.invokevirtual 131, 3) := by decide +kernel
theorem dX8_byRule_256 : decode cX8_byRule 256 = .ok (.invokestatic 135, 3) := by decide +kernel
theorem dX8_byRule_259 : decode cX8_byRule 259 = .ok (.goto 17, 3) := by decide +kernel
theorem dX8_byRule_262 : decode cX8_byRule 262 = .ok (.iload_n 3, 1) := by decide +kernel
theorem dX8_byRule_263 : decode cX8_byRule 263 = .ok (.iconst 1, 1) := by decide +kernel
theorem dX8_byRule_264 : decode cX8_byRule 264 = .ok (.if_icmp .ne 8, 3) := by decide +kernel
theorem dX8_byRule_267 : decode cX8_byRule 267 = .ok (.iload 4, 2) := by decide +kernel
theorem dX8_byRule_269 : decode cX8_byRule 269 = .ok (.goto 7, 3) := by decide +kernel
theorem dX8_byRule_272 : decode cX8_byRule 272 = .ok (.aload_n 0, 1) := by decide +kernel
theorem dX8_byRule_273 : decode cX8_byRule 273 = .ok (.getfield 194, 3) := by decide +kernel
theorem dX8_byRule_276 : decode cX8_byRule 276 = .ok (.ireturn, 1) := by decide +kernel
theorem dX8_isEnough_0 : decode cX8_isEnough 0 = .ok (.aload_n 0, 1) := by decide +kernel
theorem dX8_isEnough_1 : decode cX8_isEnough 1 = .ok (.getfield 29, 3) := by decide +kernel
theorem dX8_isEnough_4 : decode cX8_isEnough 4 = .ok (.iconst 0, 1) := by decide +kernel
theorem dX8_isEnough_5 : decode cX8_isEnough 5 = .ok (.aload_n 0, 1) := by decide +kernel
theorem dX8_isEnough_6 : decode cX8_isEnough 6 = .ok (.getfield 32, 3) := by decide +kernel
theorem dX8_isEnough_9 : decode cX8_isEnough 9 = .ok (.iconst 0, 1) := by decide +kernel
theorem dX8_isEnough_10 : decode cX8_isEnough 10 = .ok (.invokestatic 168, 3) := by decide +kernel
theorem dX8_isEnough_13 : decode cX8_isEnough 13 = .ok (.iconst 0, 1) := by decide +kernel
theorem dX8_isEnough_14 : decode cX8_isEnough 14 = .ok (.istore_n 2, 1) := by decide +kernel
theorem dX8_isEnough_15 : decode cX8_isEnough 15 = .ok (.iload_n 2, 1) := by decide +kernel
theorem dX8_isEnough_16 : decode cX8_isEnough 16 = .ok (.bipush 60, 2) := by decide +kernel
theorem dX8_isEnough_18 : decode cX8_isEnough 18 = .ok (.if_icmp .ge 85, 3) := by decide +kernel
theorem dX8_isEnough_21 : decode cX8_isEnough 21 = .ok (.aload_n 0, 1) := by decide +kernel
theorem dX8_isEnough_22 : decode cX8_isEnough 22 = .ok (.aload_n 0, 1) := by decide +kernel
theorem dX8_isEnough_23 : decode cX8_isEnough 23 = .ok (.getfield 45, 3) := by decide +kernel
theorem dX8_isEnough_26 : decode cX8_isEnough 26 = .ok (.aload_n 0, 1) := by decide +kernel
theorem dX8_isEnough_27 : decode cX8_isEnough 27 = .ok (.getfield 57, 3) := by decide +kernel
theorem dX8_isEnough_30 : decode cX8_isEnough 30 = .ok (.iload_n 1, 1) := by decide +kernel
theorem dX8_isEnough_31 : decode cX8_isEnough 31 = .ok (.invokevirtual 197, 3) := by decide +kernel
theorem dX8_isEnough_34 : decode cX8_isEnough 34 = .ok (.iconst 0, 1) := by decide +kernel
theorem dX8_isEnough_35 : decode cX8_isEnough 35 = .ok (.istore_n 3, 1) := by decide +kernel
theorem dX8_isEnough_36 : decode cX8_isEnough 36 = .ok (.iload_n 3, 1) := by decide +kernel
theorem dX8_isEnough_37 : decode cX8_isEnough 37 = .ok (.aload_n 0, 1) := by decide +kernel
theorem dX8_isEnough_38 : decode cX8_isEnough 38 = .ok (.getfield 57, 3) := by decide +kernel
theorem dX8_isEnough_41 : decode cX8_isEnough 41 = .ok (.if_icmp .ge 48, 3) := by decide +kernel
theorem dX8_isEnough_44 : decode cX8_isEnough 44 = .ok (.aload_n 0, 1) := by decide +kernel
theorem dX8_isEnough_45 : decode cX8_isEnough 45 = .ok (.getfield 32, 3) := by decide +kernel
theorem dX8_isEnough_48 : decode cX8_isEnough 48 = .ok (.bipush 7, 2) := by decide +kernel
theorem dX8_isEnough_50 : decode cX8_isEnough 50 = .ok (.iload_n 3, 1) := by decide +kernel
theorem dX8_isEnough_51 : decode cX8_isEnough 51 = .ok (.iadd, 1) := by decide +kernel
theorem dX8_isEnough_52 : decode cX8_isEnough 52 = .ok (.iaload, 1) := by decide +kernel
theorem dX8_isEnough_53 : decode cX8_isEnough 53 = .ok (.iconst 1, 1) := by decide +kernel
theorem dX8_isEnough_54 : decode cX8_isEnough 54 = .ok (.if_icmp .ne 29, 3) := by decide +kernel
theorem dX8_isEnough_57 : decode cX8_isEnough 57 = .ok (.aload_n 0, 1) := by decide +kernel
theorem dX8_isEnough_58 : decode cX8_isEnough 58 = .ok (.aload_n 0, 1) := by decide +kernel
theorem dX8_isEnough_59 : decode cX8_isEnough 59 = .ok (.getfield 32, 3) := by decide +kernel
theorem dX8_isEnough_62 : decode cX8_isEnough 62 = .ok (.iload_n 1, 1) := by decide +kernel
theorem dX8_isEnough_63 : decode cX8_isEnough 63 = .ok (.invokevirtual 141, 3) := by decide +kernel
theorem dX8_isEnough_66 : decode cX8_isEnough 66 = .ok (.ifCond .gt 17, 3) := by decide +kernel
theorem dX8_isEnough_69 : decode cX8_isEnough 69 = .ok (.aload_n 0, 1) := by decide +kernel
theorem dX8_isEnough_70 : decode cX8_isEnough 70 = .ok (.aload_n 0, 1) := by decide +kernel
theorem dX8_isEnough_71 : decode cX8_isEnough 71 = .ok (.getfield 32, 3) := by decide +kernel
theorem dX8_isEnough_74 : decode cX8_isEnough 74 = .ok (.iload_n 3, 1) := by decide +kernel
theorem dX8_isEnough_75 : decode cX8_isEnough 75 = .ok (.invokevirtual 144, 3) := by decide +kernel
theorem dX8_isEnough_78 : decode cX8_isEnough 78 = .ok (.ifCond .eq 5, 3) := by decide +kernel
theorem dX8_isEnough_81 : decode cX8_isEnough 81 = .ok (.iconst 0, 1) := by decide +kernel
theorem dX8_isEnough_82 : decode cX8_isEnough 82 = .ok (.ireturn, 1) := by decide +kernel
theorem dX8_isEnough_83 : decode cX8_isEnough 83 = .ok (.iinc 3 1, 3) := by decide +kernel
theorem dX8_isEnough_86 : decode cX8_isEnough 86 = .ok (.goto (-50), 3) := by decide +kernel
theorem dX8_isEnough_89 : decode cX8_isEnough 89 = .ok (.aload_n 0, 1) := by decide +kernel
theorem dX8_isEnough_90 : decode cX8_isEnough 90 = .ok (.aload_n 0, 1) := by decide +kernel
theorem dX8_isEnough_91 : decode cX8_isEnough 91 = .ok (.getfield 32, 3) := by decide +kernel
theorem dX8_isEnough_94 : decode cX8_isEnough 94 = .ok (.invokevirtual 175, 3) := by decide +kernel
theorem dX8_isEnough_97 : decode cX8_isEnough 97 = .ok (.iinc 2 1, 3) := by decide +kernel
theorem dX8_isEnough_100 : decode cX8_isEnough 100 = .ok (.goto (-85), 3) := by decide +kernel
theorem dX8_isEnough_103 : decode cX8_isEnough 103 = .ok (.iconst 1, 1) := by decide +kernel
theorem dX8_isEnough_104 : decode cX8_isEnough 104 = .ok (.ireturn, 1) := by decide +kernel
theorem dX8_enough_0 : decode cX8_enough 0 = .ok (.iload_n 1, 1) := by decide +kernel
theorem dX8_enough_1 : decode cX8_enough 1 = .ok (.iconst 0, 1) := by decide +kernel
theorem dX8_enough_2 : decode cX8_enough 2 = .ok (.iconst 2, 1) := by decide +kernel
theorem dX8_enough_3 : decode cX8_enough 3 = .ok (.invokestatic 63, 3) := by decide +kernel
theorem dX8_enough_6 : decode cX8_enough 6 = .ok (.ifCond .ne 5, 3) := by decide +kernel
theorem dX8_enough_9 : decode cX8_enough 9 = .ok (.iconst (-1), 1) := by decide +kernel
theorem dX8_enough_10 : decode cX8_enough 10 = .ok (.ireturn, 1) := by decide +kernel
theorem dX8_enough_11 : decode cX8_enough 11 = .ok (.aload_n 0, 1) := by decide +kernel
theorem dX8_enough_12 : decode cX8_enough 12 = .ok (.iload_n 1, 1) := by decide +kernel
theorem dX8_enough_13 : decode cX8_enough 13 = .ok (.invokevirtual 190, 3) := by decide +kernel
theorem dX8_enough_16 : decode cX8_enough 16 = .ok (.iconst 1, 1) := by decide +kernel
theorem dX8_enough_17 : decode cX8_enough 17 = .ok (.istore_n 2, 1) := by decide +kernel
theorem dX8_enough_18 : decode cX8_enough 18 = .ok (.iload_n 2, 1) := by decide +kernel
theorem dX8_enough_19 : decode cX8_enough 19 = .ok (.iconst 4, 1) := by decide +kernel
theorem dX8_enough_20 : decode cX8_enough 20 = .ok (.if_icmp .gt 19, 3) := by decide +kernel
theorem dX8_enough_23 : decode cX8_enough 23 = .ok (.aload_n 0, 1) := by decide +kernel
theorem dX8_enough_24 : decode cX8_enough 24 = .ok (.iload_n 2, 1) := by decide +kernel
theorem dX8_enough_25 : decode cX8_enough 25 = .ok (.invokevirtual 204, 3) := by decide +kernel
theorem dX8_enough_28 : decode cX8_enough 28 = .ok (.ifCond .eq 5, 3) := by decide +kernel
theorem dX8_enough_31 : decode cX8_enough 31 = .ok (.iload_n 2, 1) := by decide +kernel
theorem dX8_enough_32 : decode cX8_enough 32 = .ok (.ireturn, 1) := by decide +kernel
theorem dX8_enough_33 : decode cX8_enough 33 = .ok (.iinc 2 1, 3) := by decide +kernel
theorem dX8_enough_36 : decode cX8_enough 36 = .ok (.goto (-18), 3) := by decide +kernel
theorem dX8_enough_39 : decode cX8_enough 39 = .ok (.bipush (-9), 2) := by decide +kernel
theorem dX8_enough_41 : decode cX8_enough 41 = .ok (.ireturn, 1) := by decide +kernel
theorem dX8_waitedBy_0 : decode cX8_waitedBy 0 = .ok (.aload_n 0, 1) := by decide +kernel
theorem dX8_waitedBy_1 : decode cX8_waitedBy 1 = .ok (.getfield 29, 3) := by decide +kernel
theorem dX8_waitedBy_4 : decode cX8_waitedBy 4 = .ok (.iconst 0, 1) := by decide +kernel
theorem dX8_waitedBy_5 : decode cX8_waitedBy 5 = .ok (.aload_n 0, 1) := by decide +kernel
theorem dX8_waitedBy_6 : decode cX8_waitedBy 6 = .ok (.getfield 32, 3) := by decide +kernel
theorem dX8_waitedBy_9 : decode cX8_waitedBy 9 = .ok (.iconst 0, 1) := by decide +kernel
theorem dX8_waitedBy_10 : decode cX8_waitedBy 10 = .ok (.invokestatic 168, 3) := by decide +kernel
theorem dX8_waitedBy_13 : decode cX8_waitedBy 13 = .ok (.iconst 0, 1) := by decide +kernel
theorem dX8_waitedBy_14 : decode cX8_waitedBy 14 = .ok (.istore_n 2, 1) := by decide +kernel
theorem dX8_waitedBy_15 : decode cX8_waitedBy 15 = .ok (.iload_n 2, 1) := by decide +kernel
theorem dX8_waitedBy_16 : decode cX8_waitedBy 16 = .ok (.bipush 30, 2) := by decide +kernel
theorem dX8_waitedBy_18 : decode cX8_waitedBy 18 = .ok (.if_icmp .ge 30, 3) := by decide +kernel
theorem dX8_waitedBy_21 : decode cX8_waitedBy 21 = .ok (.aload_n 0, 1) := by decide +kernel
theorem dX8_waitedBy_22 : decode cX8_waitedBy 22 = .ok (.aload_n 0, 1) := by decide +kernel
theorem dX8_waitedBy_23 : decode cX8_waitedBy 23 = .ok (.getfield 48, 3) := by decide +kernel
theorem dX8_waitedBy_26 : decode cX8_waitedBy 26 = .ok (.iload_n 1, 1) := by decide +kernel
theorem dX8_waitedBy_27 : decode cX8_waitedBy 27 = .ok (.aload_n 0, 1) := by decide +kernel
theorem dX8_waitedBy_28 : decode cX8_waitedBy 28 = .ok (.getfield 23, 3) := by decide +kernel
theorem dX8_waitedBy_31 : decode cX8_waitedBy 31 = .ok (.invokevirtual 197, 3) := by decide +kernel
theorem dX8_waitedBy_34 : decode cX8_waitedBy 34 = .ok (.aload_n 0, 1) := by decide +kernel
theorem dX8_waitedBy_35 : decode cX8_waitedBy 35 = .ok (.aload_n 0, 1) := by decide +kernel
theorem dX8_waitedBy_36 : decode cX8_waitedBy 36 = .ok (.getfield 32, 3) := by decide +kernel
theorem dX8_waitedBy_39 : decode cX8_waitedBy 39 = .ok (.invokevirtual 175, 3) := by decide +kernel
theorem dX8_waitedBy_42 : decode cX8_waitedBy 42 = .ok (.iinc 2 1, 3) := by decide +kernel
theorem dX8_waitedBy_45 : decode cX8_waitedBy 45 = .ok (.goto (-30), 3) := by decide +kernel
theorem dX8_waitedBy_48 : decode cX8_waitedBy 48 = .ok (.iconst 0, 1) := by decide +kernel
theorem dX8_waitedBy_49 : decode cX8_waitedBy 49 = .ok (.istore_n 2, 1) := by decide +kernel
theorem dX8_waitedBy_50 : decode cX8_waitedBy 50 = .ok (.iconst 0, 1) := by decide +kernel
theorem dX8_waitedBy_51 : decode cX8_waitedBy 51 = .ok (.istore_n 3, 1) := by decide +kernel
theorem dX8_waitedBy_52 : decode cX8_waitedBy 52 = .ok (.iload_n 3, 1) := by decide +kernel
theorem dX8_waitedBy_53 : decode cX8_waitedBy 53 = .ok (.iload_n 1, 1) := by decide +kernel
theorem dX8_waitedBy_54 : decode cX8_waitedBy 54 = .ok (.if_icmp .ge 26, 3) := by decide +kernel
theorem dX8_waitedBy_57 : decode cX8_waitedBy 57 = .ok (.iload_n 2, 1) := by decide +kernel
theorem dX8_waitedBy_58 : decode cX8_waitedBy 58 = .ok (.aload_n 0, 1) := by decide +kernel
theorem dX8_waitedBy_59 : decode cX8_waitedBy 59 = .ok (.getfield 32, 3) := by decide +kernel
theorem dX8_waitedBy_62 : decode cX8_waitedBy 62 = .ok (.bipush 21, 2) := by decide +kernel
theorem dX8_waitedBy_64 : decode cX8_waitedBy 64 = .ok (.aload_n 0, 1) := by decide +kernel
theorem dX8_waitedBy_65 : decode cX8_waitedBy 65 = .ok (.getfield 48, 3) := by decide +kernel
theorem dX8_waitedBy_68 : decode cX8_waitedBy 68 = .ok (.iload_n 3, 1) := by decide +kernel
theorem dX8_waitedBy_69 : decode cX8_waitedBy 69 = .ok (.iaload, 1) := by decide +kernel
theorem dX8_waitedBy_70 : decode cX8_waitedBy 70 = .ok (.iadd, 1) := by decide +kernel
theorem dX8_waitedBy_71 : decode cX8_waitedBy 71 = .ok (.iaload, 1) := by decide +kernel
theorem dX8_waitedBy_72 : decode cX8_waitedBy 72 = .ok (.iadd, 1) := by decide +kernel
theorem dX8_waitedBy_73 : decode cX8_waitedBy 73 = .ok (.istore_n 2, 1) := by decide +kernel
theorem dX8_waitedBy_74 : decode cX8_waitedBy 74 = .ok (.iinc 3 1, 3) := by decide +kernel
theorem dX8_waitedBy_77 : decode cX8_waitedBy 77 = .ok (.goto (-25), 3) := by decide +kernel
theorem dX8_waitedBy_80 : decode cX8_waitedBy 80 = .ok (.iload_n 2, 1) := by decide +kernel
theorem dX8_waitedBy_81 : decode cX8_waitedBy 81 = .ok (.ireturn, 1) := by decide +kernel
theorem dX8_nextRow_0 : decode cX8_nextRow 0 = .ok (.iload_n 2, 1) := by decide +kernel
theorem dX8_nextRow_1 : decode cX8_nextRow 1 = .ok (.iconst 2, 1) := by decide +kernel
theorem dX8_nextRow_2 : decode cX8_nextRow 2 = .ok (.isub, 1) := by decide +kernel
theorem dX8_nextRow_3 : decode cX8_nextRow 3 = .ok (.istore_n 3, 1) := by decide +kernel
theorem dX8_nextRow_4 : decode cX8_nextRow 4 = .ok (.iload_n 3, 1) := by decide +kernel
theorem dX8_nextRow_5 : decode cX8_nextRow 5 = .ok (.ifCond .lt 20, 3) := by decide +kernel
theorem dX8_nextRow_8 : decode cX8_nextRow 8 = .ok (.aload_n 1, 1) := by decide +kernel
theorem dX8_nextRow_9 : decode cX8_nextRow 9 = .ok (.iload_n 3, 1) := by decide +kernel
theorem dX8_nextRow_10 : decode cX8_nextRow 10 = .ok (.iaload, 1) := by decide +kernel
theorem dX8_nextRow_11 : decode cX8_nextRow 11 = .ok (.aload_n 1, 1) := by decide +kernel
theorem dX8_nextRow_12 : decode cX8_nextRow 12 = .ok (.iload_n 3, 1) := by decide +kernel
theorem dX8_nextRow_13 : decode cX8_nextRow 13 = .ok (.iconst 1, 1) := by decide +kernel
theorem dX8_nextRow_14 : decode cX8_nextRow 14 = .ok (.iadd, 1) := by decide +kernel
theorem dX8_nextRow_15 : decode cX8_nextRow 15 = .ok (.iaload, 1) := by decide +kernel
theorem dX8_nextRow_16 : decode cX8_nextRow 16 = .ok (.if_icmp .le 9, 3) := by decide +kernel
theorem dX8_nextRow_19 : decode cX8_nextRow 19 = .ok (.iinc 3 (-1), 3) := by decide +kernel
theorem dX8_nextRow_22 : decode cX8_nextRow 22 = .ok (.goto (-18), 3) := by decide +kernel
theorem dX8_nextRow_25 : decode cX8_nextRow 25 = .ok (.iload_n 3, 1) := by decide +kernel
theorem dX8_nextRow_26 : decode cX8_nextRow 26 = .ok (.ifCond .ge 5, 3) := by decide +kernel
theorem dX8_nextRow_29 : decode cX8_nextRow 29 = .ok (.iconst 0, 1) := by decide +kernel
theorem dX8_nextRow_30 : decode cX8_nextRow 30 = .ok (.ireturn, 1) := by decide +kernel
theorem dX8_nextRow_31 : decode cX8_nextRow 31 = .ok (.iload_n 2, 1) := by decide +kernel
theorem dX8_nextRow_32 : decode cX8_nextRow 32 = .ok (.iconst 1, 1) := by decide +kernel
theorem dX8_nextRow_33 : decode cX8_nextRow 33 = .ok (.isub, 1) := by decide +kernel
theorem dX8_nextRow_34 : decode cX8_nextRow 34 = .ok (.istore 4, 2) := by decide +kernel
theorem dX8_nextRow_36 : decode cX8_nextRow 36 = .ok (.aload_n 1, 1) := by decide +kernel
theorem dX8_nextRow_37 : decode cX8_nextRow 37 = .ok (.iload 4, 2) := by decide +kernel
theorem dX8_nextRow_39 : decode cX8_nextRow 39 = .ok (.iaload, 1) := by decide +kernel
theorem dX8_nextRow_40 : decode cX8_nextRow 40 = .ok (.aload_n 1, 1) := by decide +kernel
theorem dX8_nextRow_41 : decode cX8_nextRow 41 = .ok (.iload_n 3, 1) := by decide +kernel
theorem dX8_nextRow_42 : decode cX8_nextRow 42 = .ok (.iaload, 1) := by decide +kernel
theorem dX8_nextRow_43 : decode cX8_nextRow 43 = .ok (.if_icmp .ge 9, 3) := by decide +kernel
theorem dX8_nextRow_46 : decode cX8_nextRow 46 = .ok (.iinc 4 (-1), 3) := by decide +kernel
theorem dX8_nextRow_49 : decode cX8_nextRow 49 = .ok (.goto (-13), 3) := by decide +kernel
theorem dX8_nextRow_52 : decode cX8_nextRow 52 = .ok (.aload_n 1, 1) := by decide +kernel
theorem dX8_nextRow_53 : decode cX8_nextRow 53 = .ok (.iload_n 3, 1) := by decide +kernel
theorem dX8_nextRow_54 : decode cX8_nextRow 54 = .ok (.iaload, 1) := by decide +kernel
theorem dX8_nextRow_55 : decode cX8_nextRow 55 = .ok (.istore 5, 2) := by decide +kernel
theorem dX8_nextRow_57 : decode cX8_nextRow 57 = .ok (.aload_n 1, 1) := by decide +kernel
theorem dX8_nextRow_58 : decode cX8_nextRow 58 = .ok (.iload_n 3, 1) := by decide +kernel
theorem dX8_nextRow_59 : decode cX8_nextRow 59 = .ok (.aload_n 1, 1) := by decide +kernel
theorem dX8_nextRow_60 : decode cX8_nextRow 60 = .ok (.iload 4, 2) := by decide +kernel
theorem dX8_nextRow_62 : decode cX8_nextRow 62 = .ok (.iaload, 1) := by decide +kernel
theorem dX8_nextRow_63 : decode cX8_nextRow 63 = .ok (.iastore, 1) := by decide +kernel
theorem dX8_nextRow_64 : decode cX8_nextRow 64 = .ok (.aload_n 1, 1) := by decide +kernel
theorem dX8_nextRow_65 : decode cX8_nextRow 65 = .ok (.iload 4, 2) := by decide +kernel
theorem dX8_nextRow_67 : decode cX8_nextRow 67 = .ok (.iload 5, 2) := by decide +kernel
theorem dX8_nextRow_69 : decode cX8_nextRow 69 = .ok (.iastore, 1) := by decide +kernel
theorem dX8_nextRow_70 : decode cX8_nextRow 70 = .ok (.iload_n 3, 1) := by decide +kernel
theorem dX8_nextRow_71 : decode cX8_nextRow 71 = .ok (.iconst 1, 1) := by decide +kernel
theorem dX8_nextRow_72 : decode cX8_nextRow 72 = .ok (.iadd, 1) := by decide +kernel
theorem dX8_nextRow_73 : decode cX8_nextRow 73 = .ok (.istore 6, 2) := by decide +kernel
theorem dX8_nextRow_75 : decode cX8_nextRow 75 = .ok (.iload_n 2, 1) := by decide +kernel
theorem dX8_nextRow_76 : decode cX8_nextRow 76 = .ok (.iconst 1, 1) := by decide +kernel
theorem dX8_nextRow_77 : decode cX8_nextRow 77 = .ok (.isub, 1) := by decide +kernel
theorem dX8_nextRow_78 : decode cX8_nextRow 78 = .ok (.istore 7, 2) := by decide +kernel
theorem dX8_nextRow_80 : decode cX8_nextRow 80 = .ok (.iload 6, 2) := by decide +kernel
theorem dX8_nextRow_82 : decode cX8_nextRow 82 = .ok (.iload 7, 2) := by decide +kernel
theorem dX8_nextRow_84 : decode cX8_nextRow 84 = .ok (.if_icmp .ge 32, 3) := by decide +kernel
theorem dX8_nextRow_87 : decode cX8_nextRow 87 = .ok (.aload_n 1, 1) := by decide +kernel
theorem dX8_nextRow_88 : decode cX8_nextRow 88 = .ok (.iload 6, 2) := by decide +kernel
theorem dX8_nextRow_90 : decode cX8_nextRow 90 = .ok (.iaload, 1) := by decide +kernel
theorem dX8_nextRow_91 : decode cX8_nextRow 91 = .ok (.istore 8, 2) := by decide +kernel
theorem dX8_nextRow_93 : decode cX8_nextRow 93 = .ok (.aload_n 1, 1) := by decide +kernel
theorem dX8_nextRow_94 : decode cX8_nextRow 94 = .ok (.iload 6, 2) := by decide +kernel
theorem dX8_nextRow_96 : decode cX8_nextRow 96 = .ok (.aload_n 1, 1) := by decide +kernel
theorem dX8_nextRow_97 : decode cX8_nextRow 97 = .ok (.iload 7, 2) := by decide +kernel
theorem dX8_nextRow_99 : decode cX8_nextRow 99 = .ok (.iaload, 1) := by decide +kernel
theorem dX8_nextRow_100 : decode cX8_nextRow 100 = .ok (.iastore, 1) := by decide +kernel
theorem dX8_nextRow_101 : decode cX8_nextRow 101 = .ok (.aload_n 1, 1) := by decide +kernel
theorem dX8_nextRow_102 : decode cX8_nextRow 102 = .ok (.iload 7, 2) := by decide +kernel
theorem dX8_nextRow_104 : decode cX8_nextRow 104 = .ok (.iload 8, 2) := by decide +kernel
theorem dX8_nextRow_106 : decode cX8_nextRow 106 = .ok (.iastore, 1) := by decide +kernel
theorem dX8_nextRow_107 : decode cX8_nextRow 107 = .ok (.iinc 7 (-1), 3) := by decide +kernel
theorem dX8_nextRow_110 : decode cX8_nextRow 110 = .ok (.iinc 6 1, 3) := by decide +kernel
theorem dX8_nextRow_113 : decode cX8_nextRow 113 = .ok (.goto (-33), 3) := by decide +kernel
theorem dX8_nextRow_116 : decode cX8_nextRow 116 = .ok (.iconst 1, 1) := by decide +kernel
theorem dX8_nextRow_117 : decode cX8_nextRow 117 = .ok (.ireturn, 1) := by decide +kernel
theorem dX8_bestRow_0 : decode cX8_bestRow 0 = .ok (.iload_n 1, 1) := by decide +kernel
theorem dX8_bestRow_1 : decode cX8_bestRow 1 = .ok (.iconst (-1), 1) := by decide +kernel
theorem dX8_bestRow_2 : decode cX8_bestRow 2 = .ok (.if_icmp .ge 5, 3) := by decide +kernel
theorem dX8_bestRow_5 : decode cX8_bestRow 5 = .ok (.iconst (-1), 1) := by decide +kernel
theorem dX8_bestRow_6 : decode cX8_bestRow 6 = .ok (.ireturn, 1) := by decide +kernel
theorem dX8_bestRow_7 : decode cX8_bestRow 7 = .ok (.iconst 0, 1) := by decide +kernel
theorem dX8_bestRow_8 : decode cX8_bestRow 8 = .ok (.istore_n 2, 1) := by decide +kernel
theorem dX8_bestRow_9 : decode cX8_bestRow 9 = .ok (.iconst 0, 1) := by decide +kernel
theorem dX8_bestRow_10 : decode cX8_bestRow 10 = .ok (.istore_n 3, 1) := by decide +kernel
theorem dX8_bestRow_11 : decode cX8_bestRow 11 = .ok (.iload_n 3, 1) := by decide +kernel
theorem dX8_bestRow_12 : decode cX8_bestRow 12 = .ok (.aload_n 0, 1) := by decide +kernel
theorem dX8_bestRow_13 : decode cX8_bestRow 13 = .ok (.getfield 57, 3) := by decide +kernel
theorem dX8_bestRow_16 : decode cX8_bestRow 16 = .ok (.if_icmp .ge 32, 3) := by decide +kernel
theorem dX8_bestRow_19 : decode cX8_bestRow 19 = .ok (.aload_n 0, 1) := by decide +kernel
theorem dX8_bestRow_20 : decode cX8_bestRow 20 = .ok (.getfield 29, 3) := by decide +kernel
theorem dX8_bestRow_23 : decode cX8_bestRow 23 = .ok (.bipush 7, 2) := by decide +kernel
theorem dX8_bestRow_25 : decode cX8_bestRow 25 = .ok (.iload_n 3, 1) := by decide +kernel
theorem dX8_bestRow_26 : decode cX8_bestRow 26 = .ok (.iadd, 1) := by decide +kernel
theorem dX8_bestRow_27 : decode cX8_bestRow 27 = .ok (.iaload, 1) := by decide +kernel
theorem dX8_bestRow_28 : decode cX8_bestRow 28 = .ok (.iconst 1, 1) := by decide +kernel
theorem dX8_bestRow_29 : decode cX8_bestRow 29 = .ok (.if_icmp .ne 13, 3) := by decide +kernel
theorem dX8_bestRow_32 : decode cX8_bestRow 32 = .ok (.aload_n 0, 1) := by decide +kernel
theorem dX8_bestRow_33 : decode cX8_bestRow 33 = .ok (.getfield 48, 3) := by decide +kernel
theorem dX8_bestRow_36 : decode cX8_bestRow 36 = .ok (.iload_n 2, 1) := by decide +kernel
theorem dX8_bestRow_37 : decode cX8_bestRow 37 = .ok (.iload_n 3, 1) := by decide +kernel
theorem dX8_bestRow_38 : decode cX8_bestRow 38 = .ok (.iastore, 1) := by decide +kernel
theorem dX8_bestRow_39 : decode cX8_bestRow 39 = .ok (.iinc 2 1, 3) := by decide +kernel
theorem dX8_bestRow_42 : decode cX8_bestRow 42 = .ok (.iinc 3 1, 3) := by decide +kernel
theorem dX8_bestRow_45 : decode cX8_bestRow 45 = .ok (.goto (-34), 3) := by decide +kernel
theorem dX8_bestRow_48 : decode cX8_bestRow 48 = .ok (.iconst (-1), 1) := by decide +kernel
theorem dX8_bestRow_49 : decode cX8_bestRow 49 = .ok (.istore_n 3, 1) := by decide +kernel
theorem dX8_bestRow_50 : decode cX8_bestRow 50 = .ok (.iconst 1, 1) := by decide +kernel
theorem dX8_bestRow_51 : decode cX8_bestRow 51 = .ok (.istore 4, 2) := by decide +kernel
theorem dX8_bestRow_53 : decode cX8_bestRow 53 = .ok (.iload 4, 2) := by decide +kernel
theorem dX8_bestRow_55 : decode cX8_bestRow 55 = .ok (.ifCond .eq 66, 3) := by decide +kernel
theorem dX8_bestRow_58 : decode cX8_bestRow 58 = .ok (.aload_n 0, 1) := by decide +kernel
theorem dX8_bestRow_59 : decode cX8_bestRow 59 = .ok (.iload_n 2, 1) := by decide +kernel
theorem dX8_bestRow_60 : decode cX8_bestRow 60 = .ok (.invokevirtual 207, 3) := by decide +kernel
theorem dX8_bestRow_63 : decode cX8_bestRow 63 = .ok (.istore 5, 2) := by decide +kernel
theorem dX8_bestRow_65 : decode cX8_bestRow 65 = .ok (.iload_n 3, 1) := by decide +kernel
theorem dX8_bestRow_66 : decode cX8_bestRow 66 = .ok (.ifCond .lt 9, 3) := by decide +kernel
theorem dX8_bestRow_69 : decode cX8_bestRow 69 = .ok (.iload 5, 2) := by decide +kernel
theorem dX8_bestRow_71 : decode cX8_bestRow 71 = .ok (.iload_n 3, 1) := by decide +kernel
theorem dX8_bestRow_72 : decode cX8_bestRow 72 = .ok (.if_icmp .ge 35, 3) := by decide +kernel
theorem dX8_bestRow_75 : decode cX8_bestRow 75 = .ok (.iload 5, 2) := by decide +kernel
theorem dX8_bestRow_77 : decode cX8_bestRow 77 = .ok (.istore_n 3, 1) := by decide +kernel
theorem dX8_bestRow_78 : decode cX8_bestRow 78 = .ok (.iconst 0, 1) := by decide +kernel
theorem dX8_bestRow_79 : decode cX8_bestRow 79 = .ok (.istore 6, 2) := by decide +kernel
theorem dX8_bestRow_81 : decode cX8_bestRow 81 = .ok (.iload 6, 2) := by decide +kernel
theorem dX8_bestRow_83 : decode cX8_bestRow 83 = .ok (.iload_n 2, 1) := by decide +kernel
theorem dX8_bestRow_84 : decode cX8_bestRow 84 = .ok (.if_icmp .ge 23, 3) := by decide +kernel
theorem dX8_bestRow_87 : decode cX8_bestRow 87 = .ok (.aload_n 0, 1) := by decide +kernel
theorem dX8_bestRow_88 : decode cX8_bestRow 88 = .ok (.getfield 51, 3) := by decide +kernel
theorem dX8_bestRow_91 : decode cX8_bestRow 91 = .ok (.iload 6, 2) := by decide +kernel
theorem dX8_bestRow_93 : decode cX8_bestRow 93 = .ok (.aload_n 0, 1) := by decide +kernel
theorem dX8_bestRow_94 : decode cX8_bestRow 94 = .ok (.getfield 48, 3) := by decide +kernel
theorem dX8_bestRow_97 : decode cX8_bestRow 97 = .ok (.iload 6, 2) := by decide +kernel
theorem dX8_bestRow_99 : decode cX8_bestRow 99 = .ok (.iaload, 1) := by decide +kernel
theorem dX8_bestRow_100 : decode cX8_bestRow 100 = .ok (.iastore, 1) := by decide +kernel
theorem dX8_bestRow_101 : decode cX8_bestRow 101 = .ok (.iinc 6 1, 3) := by decide +kernel
theorem dX8_bestRow_104 : decode cX8_bestRow 104 = .ok (.goto (-23), 3) := by decide +kernel
theorem dX8_bestRow_107 : decode cX8_bestRow 107 = .ok (.aload_n 0, 1) := by decide +kernel
theorem dX8_bestRow_108 : decode cX8_bestRow 108 = .ok (.aload_n 0, 1) := by decide +kernel
theorem dX8_bestRow_109 : decode cX8_bestRow 109 = .ok (.getfield 48, 3) := by decide +kernel
theorem dX8_bestRow_112 : decode cX8_bestRow 112 = .ok (.iload_n 2, 1) := by decide +kernel
theorem dX8_bestRow_113 : decode cX8_bestRow 113 = .ok (.invokevirtual 210, 3) := by decide +kernel
theorem dX8_bestRow_116 : decode cX8_bestRow 116 = .ok (.istore 4, 2) := by decide +kernel
theorem dX8_bestRow_118 : decode cX8_bestRow 118 = .ok (.goto (-65), 3) := by decide +kernel
theorem dX8_bestRow_121 : decode cX8_bestRow 121 = .ok (.iload_n 1, 1) := by decide +kernel
theorem dX8_bestRow_122 : decode cX8_bestRow 122 = .ok (.ifCond .ge 7, 3) := by decide +kernel
theorem dX8_bestRow_125 : decode cX8_bestRow 125 = .ok (.iload_n 3, 1) := by decide +kernel
theorem dX8_bestRow_126 : decode cX8_bestRow 126 = .ok (.goto 19, 3) := by decide +kernel
theorem dX8_bestRow_129 : decode cX8_bestRow 129 = .ok (.iload_n 1, 1) := by decide +kernel
theorem dX8_bestRow_130 : decode cX8_bestRow 130 = .ok (.iload_n 2, 1) := by decide +kernel
theorem dX8_bestRow_131 : decode cX8_bestRow 131 = .ok (.if_icmp .ge 12, 3) := by decide +kernel
theorem dX8_bestRow_134 : decode cX8_bestRow 134 = .ok (.aload_n 0, 1) := by decide +kernel
theorem dX8_bestRow_135 : decode cX8_bestRow 135 = .ok (.getfield 51, 3) := by decide +kernel
theorem dX8_bestRow_138 : decode cX8_bestRow 138 = .ok (.iload_n 1, 1) := by decide +kernel
theorem dX8_bestRow_139 : decode cX8_bestRow 139 = .ok (.iaload, 1) := by decide +kernel
theorem dX8_bestRow_140 : decode cX8_bestRow 140 = .ok (.goto 5, 3) := by decide +kernel
theorem dX8_bestRow_143 : decode cX8_bestRow 143 = .ok (.bipush (-5), 2) := by decide +kernel
theorem dX8_bestRow_145 : decode cX8_bestRow 145 = .ok (.ireturn, 1) := by decide +kernel
theorem dX8_cutFor_0 : decode cX8_cutFor 0 = .ok (.aload_n 0, 1) := by decide +kernel
theorem dX8_cutFor_1 : decode cX8_cutFor 1 = .ok (.iload_n 1, 1) := by decide +kernel
theorem dX8_cutFor_2 : decode cX8_cutFor 2 = .ok (.invokevirtual 161, 3) := by decide +kernel
theorem dX8_cutFor_5 : decode cX8_cutFor 5 = .ok (.ifCond .ne 5, 3) := by decide +kernel
theorem dX8_cutFor_8 : decode cX8_cutFor 8 = .ok (.iconst (-1), 1) := by decide +kernel
theorem dX8_cutFor_9 : decode cX8_cutFor 9 = .ok (.ireturn, 1) := by decide +kernel
theorem dX8_cutFor_10 : decode cX8_cutFor 10 = .ok (.aload_n 0, 1) := by decide +kernel
theorem dX8_cutFor_11 : decode cX8_cutFor 11 = .ok (.getfield 29, 3) := by decide +kernel
theorem dX8_cutFor_14 : decode cX8_cutFor 14 = .ok (.bipush 7, 2) := by decide +kernel
theorem dX8_cutFor_16 : decode cX8_cutFor 16 = .ok (.iload_n 1, 1) := by decide +kernel
theorem dX8_cutFor_17 : decode cX8_cutFor 17 = .ok (.iadd, 1) := by decide +kernel
theorem dX8_cutFor_18 : decode cX8_cutFor 18 = .ok (.iaload, 1) := by decide +kernel
theorem dX8_cutFor_19 : decode cX8_cutFor 19 = .ok (.iconst 1, 1) := by decide +kernel
theorem dX8_cutFor_20 : decode cX8_cutFor 20 = .ok (.if_icmp .eq 6, 3) := by decide +kernel
theorem dX8_cutFor_23 : decode cX8_cutFor 23 = .ok (.bipush (-2), 2) := by decide +kernel
theorem dX8_cutFor_25 : decode cX8_cutFor 25 = .ok (.ireturn, 1) := by decide +kernel
theorem dX8_cutFor_26 : decode cX8_cutFor 26 = .ok (.aload_n 0, 1) := by decide +kernel
theorem dX8_cutFor_27 : decode cX8_cutFor 27 = .ok (.aload_n 0, 1) := by decide +kernel
theorem dX8_cutFor_28 : decode cX8_cutFor 28 = .ok (.getfield 29, 3) := by decide +kernel
theorem dX8_cutFor_31 : decode cX8_cutFor 31 = .ok (.iconst 2, 1) := by decide +kernel
theorem dX8_cutFor_32 : decode cX8_cutFor 32 = .ok (.invokevirtual 131, 3) := by decide +kernel
theorem dX8_cutFor_35 : decode cX8_cutFor 35 = .ok (.istore_n 2, 1) := by decide +kernel
theorem dX8_cutFor_36 : decode cX8_cutFor 36 = .ok (.iconst (-1), 1) := by decide +kernel
theorem dX8_cutFor_37 : decode cX8_cutFor 37 = .ok (.istore_n 3, 1) := by decide +kernel
theorem dX8_cutFor_38 : decode cX8_cutFor 38 = .ok (.iconst 0, 1) := by decide +kernel
theorem dX8_cutFor_39 : decode cX8_cutFor 39 = .ok (.istore 4, 2) := by decide +kernel
theorem dX8_cutFor_41 : decode cX8_cutFor 41 = .ok (.iconst 0, 1) := by decide +kernel
theorem dX8_cutFor_42 : decode cX8_cutFor 42 = .ok (.istore 5, 2) := by decide +kernel
theorem dX8_cutFor_44 : decode cX8_cutFor 44 = .ok (.iload 5, 2) := by decide +kernel
theorem dX8_cutFor_46 : decode cX8_cutFor 46 = .ok (.iload_n 2, 1) := by decide +kernel
theorem dX8_cutFor_47 : decode cX8_cutFor 47 = .ok (.if_icmp .gt 139, 3) := by decide +kernel
theorem dX8_cutFor_50 : decode cX8_cutFor 50 = .ok (.iload 5, 2) := by decide +kernel
theorem dX8_cutFor_52 : decode cX8_cutFor 52 = .ok (.iload_n 2, 1) := by decide +kernel
theorem dX8_cutFor_53 : decode cX8_cutFor 53 = .ok (.iconst (-1), 1) := by decide +kernel
theorem dX8_cutFor_54 : decode cX8_cutFor 54 = .ok (.ixor, 1) := by decide +kernel
theorem dX8_cutFor_55 : decode cX8_cutFor 55 = .ok (.iand, 1) := by decide +kernel
theorem dX8_cutFor_56 : decode cX8_cutFor 56 = .ok (.ifCond .eq 6, 3) := by decide +kernel
theorem dX8_cutFor_59 : decode cX8_cutFor 59 = .ok (.goto 121, 3) := by decide +kernel
theorem dX8_cutFor_62 : decode cX8_cutFor 62 = .ok (.aload_n 0, 1) := by decide +kernel
theorem dX8_cutFor_63 : decode cX8_cutFor 63 = .ok (.getfield 29, 3) := by decide +kernel
theorem dX8_cutFor_66 : decode cX8_cutFor 66 = .ok (.iconst 0, 1) := by decide +kernel
theorem dX8_cutFor_67 : decode cX8_cutFor 67 = .ok (.aload_n 0, 1) := by decide +kernel
theorem dX8_cutFor_68 : decode cX8_cutFor 68 = .ok (.getfield 32, 3) := by decide +kernel
theorem dX8_cutFor_71 : decode cX8_cutFor 71 = .ok (.iconst 0, 1) := by decide +kernel
theorem dX8_cutFor_72 : decode cX8_cutFor 72 = .ok (.invokestatic 168, 3) := by decide +kernel
theorem dX8_cutFor_75 : decode cX8_cutFor 75 = .ok (.iconst 0, 1) := by decide +kernel
theorem dX8_cutFor_76 : decode cX8_cutFor 76 = .ok (.istore 6, 2) := by decide +kernel
theorem dX8_cutFor_78 : decode cX8_cutFor 78 = .ok (.iconst 0, 1) := by decide +kernel
theorem dX8_cutFor_79 : decode cX8_cutFor 79 = .ok (.istore 7, 2) := by decide +kernel
theorem dX8_cutFor_81 : decode cX8_cutFor 81 = .ok (.iload 7, 2) := by decide +kernel
theorem dX8_cutFor_83 : decode cX8_cutFor 83 = .ok (.aload_n 0, 1) := by decide +kernel
theorem dX8_cutFor_84 : decode cX8_cutFor 84 = .ok (.getfield 57, 3) := by decide +kernel
theorem dX8_cutFor_87 : decode cX8_cutFor 87 = .ok (.if_icmp .ge 45, 3) := by decide +kernel
theorem dX8_cutFor_90 : decode cX8_cutFor 90 = .ok (.iload 5, 2) := by decide +kernel
theorem dX8_cutFor_92 : decode cX8_cutFor 92 = .ok (.iload 7, 2) := by decide +kernel
theorem dX8_cutFor_94 : decode cX8_cutFor 94 = .ok (.invokestatic 201, 3) := by decide +kernel
theorem dX8_cutFor_97 : decode cX8_cutFor 97 = .ok (.ifCond .eq 29, 3) := by decide +kernel
theorem dX8_cutFor_100 : decode cX8_cutFor 100 = .ok (.aload_n 0, 1) := by decide +kernel
theorem dX8_cutFor_101 : decode cX8_cutFor 101 = .ok (.getfield 32, 3) := by decide +kernel
theorem dX8_cutFor_104 : decode cX8_cutFor 104 = .ok (.bipush 7, 2) := by decide +kernel
theorem dX8_cutFor_106 : decode cX8_cutFor 106 = .ok (.iload 7, 2) := by decide +kernel
theorem dX8_cutFor_108 : decode cX8_cutFor 108 = .ok (.iadd, 1) := by decide +kernel
theorem dX8_cutFor_109 : decode cX8_cutFor 109 = .ok (.iconst 4, 1) := by decide +kernel
theorem dX8_cutFor_110 : decode cX8_cutFor 110 = .ok (.iastore, 1) := by decide +kernel
theorem dX8_cutFor_111 : decode cX8_cutFor 111 = .ok (.iload 6, 2) := by decide +kernel
theorem dX8_cutFor_113 : decode cX8_cutFor 113 = .ok (.aload_n 0, 1) := by decide +kernel
theorem dX8_cutFor_114 : decode cX8_cutFor 114 = .ok (.getfield 29, 3) := by decide +kernel
theorem dX8_cutFor_117 : decode cX8_cutFor 117 = .ok (.bipush 14, 2) := by decide +kernel
theorem dX8_cutFor_119 : decode cX8_cutFor 119 = .ok (.iload 7, 2) := by decide +kernel
theorem dX8_cutFor_121 : decode cX8_cutFor 121 = .ok (.iadd, 1) := by decide +kernel
theorem dX8_cutFor_122 : decode cX8_cutFor 122 = .ok (.iaload, 1) := by decide +kernel
theorem dX8_cutFor_123 : decode cX8_cutFor 123 = .ok (.iadd, 1) := by decide +kernel
theorem dX8_cutFor_124 : decode cX8_cutFor 124 = .ok (.istore 6, 2) := by decide +kernel
theorem dX8_cutFor_126 : decode cX8_cutFor 126 = .ok (.iinc 7 1, 3) := by decide +kernel
theorem dX8_cutFor_129 : decode cX8_cutFor 129 = .ok (.goto (-48), 3) := by decide +kernel
theorem dX8_cutFor_132 : decode cX8_cutFor 132 = .ok (.sipush 1000, 3) := by decide +kernel
theorem dX8_cutFor_135 : decode cX8_cutFor 135 = .ok (.iload 5, 2) := by decide +kernel
theorem dX8_cutFor_137 : decode cX8_cutFor 137 = .ok (.invokestatic 135, 3) := by decide +kernel
theorem dX8_cutFor_140 : decode cX8_cutFor 140 = .ok (.imul, 1) := by decide +kernel
theorem dX8_cutFor_141 : decode cX8_cutFor 141 = .ok (.iload 6, 2) := by decide +kernel
theorem dX8_cutFor_143 : decode cX8_cutFor 143 = .ok (.iadd, 1) := by decide +kernel
theorem dX8_cutFor_144 : decode cX8_cutFor 144 = .ok (.istore 7, 2) := by decide +kernel
theorem dX8_cutFor_146 : decode cX8_cutFor 146 = .ok (.aload_n 0, 1) := by decide +kernel
theorem dX8_cutFor_147 : decode cX8_cutFor 147 = .ok (.aload_n 0, 1) := by decide +kernel
theorem dX8_cutFor_148 : decode cX8_cutFor 148 = .ok (.getfield 32, 3) := by decide +kernel
theorem dX8_cutFor_151 : decode cX8_cutFor 151 = .ok (.iload_n 1, 1) := by decide +kernel
theorem dX8_cutFor_152 : decode cX8_cutFor 152 = .ok (.aload_n 0, 1) := by decide +kernel
theorem dX8_cutFor_153 : decode cX8_cutFor 153 = .ok (.getfield 23, 3) := by decide +kernel
theorem dX8_cutFor_156 : decode cX8_cutFor 156 = .ok (.invokevirtual 179, 3) := by decide +kernel
theorem dX8_cutFor_159 : decode cX8_cutFor 159 = .ok (.ifCond .eq 21, 3) := by decide +kernel
theorem dX8_cutFor_162 : decode cX8_cutFor 162 = .ok (.iload_n 3, 1) := by decide +kernel
theorem dX8_cutFor_163 : decode cX8_cutFor 163 = .ok (.ifCond .lt 10, 3) := by decide +kernel
theorem dX8_cutFor_166 : decode cX8_cutFor 166 = .ok (.iload 7, 2) := by decide +kernel
theorem dX8_cutFor_168 : decode cX8_cutFor 168 = .ok (.iload 4, 2) := by decide +kernel
theorem dX8_cutFor_170 : decode cX8_cutFor 170 = .ok (.if_icmp .ge 10, 3) := by decide +kernel
theorem dX8_cutFor_173 : decode cX8_cutFor 173 = .ok (.iload 5, 2) := by decide +kernel
theorem dX8_cutFor_175 : decode cX8_cutFor 175 = .ok (.istore_n 3, 1) := by decide +kernel
theorem dX8_cutFor_176 : decode cX8_cutFor 176 = .ok (.iload 7, 2) := by decide +kernel
theorem dX8_cutFor_178 : decode cX8_cutFor 178 = .ok (.istore 4, 2) := by decide +kernel
theorem dX8_cutFor_180 : decode cX8_cutFor 180 = .ok (.iinc 5 1, 3) := by decide +kernel
theorem dX8_cutFor_183 : decode cX8_cutFor 183 = .ok (.goto (-139), 3) := by decide +kernel
theorem dX8_cutFor_186 : decode cX8_cutFor 186 = .ok (.iload_n 3, 1) := by decide +kernel
theorem dX8_cutFor_187 : decode cX8_cutFor 187 = .ok (.ireturn, 1) := by decide +kernel
theorem dX8_distance_0 : decode cX8_distance 0 = .ok (.iload_n 0, 1) := by decide +kernel
theorem dX8_distance_1 : decode cX8_distance 1 = .ok (.iload_n 1, 1) := by decide +kernel
theorem dX8_distance_2 : decode cX8_distance 2 = .ok (.if_icmp .le 9, 3) := by decide +kernel
theorem dX8_distance_5 : decode cX8_distance 5 = .ok (.iload_n 0, 1) := by decide +kernel
theorem dX8_distance_6 : decode cX8_distance 6 = .ok (.iload_n 1, 1) := by decide +kernel
theorem dX8_distance_7 : decode cX8_distance 7 = .ok (.isub, 1) := by decide +kernel
theorem dX8_distance_8 : decode cX8_distance 8 = .ok (.goto 6, 3) := by decide +kernel
theorem dX8_distance_11 : decode cX8_distance 11 = .ok (.iload_n 1, 1) := by decide +kernel
theorem dX8_distance_12 : decode cX8_distance 12 = .ok (.iload_n 0, 1) := by decide +kernel
theorem dX8_distance_13 : decode cX8_distance 13 = .ok (.isub, 1) := by decide +kernel
theorem dX8_distance_14 : decode cX8_distance 14 = .ok (.ireturn, 1) := by decide +kernel
theorem dX8_longBy_0 : decode cX8_longBy 0 = .ok (.iconst 0, 1) := by decide +kernel
theorem dX8_longBy_1 : decode cX8_longBy 1 = .ok (.istore_n 3, 1) := by decide +kernel
theorem dX8_longBy_2 : decode cX8_longBy 2 = .ok (.iconst 0, 1) := by decide +kernel
theorem dX8_longBy_3 : decode cX8_longBy 3 = .ok (.istore 4, 2) := by decide +kernel
theorem dX8_longBy_5 : decode cX8_longBy 5 = .ok (.iload 4, 2) := by decide +kernel
theorem dX8_longBy_7 : decode cX8_longBy 7 = .ok (.aload_n 0, 1) := by decide +kernel
theorem dX8_longBy_8 : decode cX8_longBy 8 = .ok (.getfield 57, 3) := by decide +kernel
theorem dX8_longBy_11 : decode cX8_longBy 11 = .ok (.if_icmp .ge 35, 3) := by decide +kernel
theorem dX8_longBy_14 : decode cX8_longBy 14 = .ok (.iload_n 3, 1) := by decide +kernel
theorem dX8_longBy_15 : decode cX8_longBy 15 = .ok (.aload_n 1, 1) := by decide +kernel
theorem dX8_longBy_16 : decode cX8_longBy 16 = .ok (.iload_n 2, 1) := by decide +kernel
theorem dX8_longBy_17 : decode cX8_longBy 17 = .ok (.aload_n 0, 1) := by decide +kernel
theorem dX8_longBy_18 : decode cX8_longBy 18 = .ok (.iload 4, 2) := by decide +kernel
theorem dX8_longBy_20 : decode cX8_longBy 20 = .ok (.invokevirtual 121, 3) := by decide +kernel
theorem dX8_longBy_23 : decode cX8_longBy 23 = .ok (.iadd, 1) := by decide +kernel
theorem dX8_longBy_24 : decode cX8_longBy 24 = .ok (.iaload, 1) := by decide +kernel
theorem dX8_longBy_25 : decode cX8_longBy 25 = .ok (.aload_n 1, 1) := by decide +kernel
theorem dX8_longBy_26 : decode cX8_longBy 26 = .ok (.iload_n 2, 1) := by decide +kernel
theorem dX8_longBy_27 : decode cX8_longBy 27 = .ok (.aload_n 0, 1) := by decide +kernel
theorem dX8_longBy_28 : decode cX8_longBy 28 = .ok (.iload 4, 2) := by decide +kernel
theorem dX8_longBy_30 : decode cX8_longBy 30 = .ok (.invokevirtual 125, 3) := by decide +kernel
theorem dX8_longBy_33 : decode cX8_longBy 33 = .ok (.iadd, 1) := by decide +kernel
theorem dX8_longBy_34 : decode cX8_longBy 34 = .ok (.iaload, 1) := by decide +kernel
theorem dX8_longBy_35 : decode cX8_longBy 35 = .ok (.invokestatic 213, 3) := by decide +kernel
theorem dX8_longBy_38 : decode cX8_longBy 38 = .ok (.iadd, 1) := by decide +kernel
theorem dX8_longBy_39 : decode cX8_longBy 39 = .ok (.istore_n 3, 1) := by decide +kernel
theorem dX8_longBy_40 : decode cX8_longBy 40 = .ok (.iinc 4 1, 3) := by decide +kernel
theorem dX8_longBy_43 : decode cX8_longBy 43 = .ok (.goto (-38), 3) := by decide +kernel
theorem dX8_longBy_46 : decode cX8_longBy 46 = .ok (.iload_n 3, 1) := by decide +kernel
theorem dX8_longBy_47 : decode cX8_longBy 47 = .ok (.ireturn, 1) := by decide +kernel
theorem dX8_longCords_0 : decode cX8_longCords 0 = .ok (.aload_n 0, 1) := by decide +kernel
theorem dX8_longCords_1 : decode cX8_longCords 1 = .ok (.aload_n 0, 1) := by decide +kernel
theorem dX8_longCords_2 : decode cX8_longCords 2 = .ok (.getfield 29, 3) := by decide +kernel
theorem dX8_longCords_5 : decode cX8_longCords 5 = .ok (.iconst 1, 1) := by decide +kernel
theorem dX8_longCords_6 : decode cX8_longCords 6 = .ok (.invokevirtual 217, 3) := by decide +kernel
theorem dX8_longCords_9 : decode cX8_longCords 9 = .ok (.ireturn, 1) := by decide +kernel
theorem dX8_change_0 : decode cX8_change 0 = .ok (.bipush (-9), 2) := by decide +kernel
theorem dX8_change_2 : decode cX8_change 2 = .ok (.istore_n 1, 1) := by decide +kernel
theorem dX8_change_3 : decode cX8_change 3 = .ok (.aload_n 0, 1) := by decide +kernel
theorem dX8_change_4 : decode cX8_change 4 = .ok (.invokevirtual 220, 3) := by decide +kernel
theorem dX8_change_7 : decode cX8_change 7 = .ok (.istore_n 2, 1) := by decide +kernel
theorem dX8_change_8 : decode cX8_change 8 = .ok (.iconst 0, 1) := by decide +kernel
theorem dX8_change_9 : decode cX8_change 9 = .ok (.istore_n 3, 1) := by decide +kernel
theorem dX8_change_10 : decode cX8_change 10 = .ok (.iload_n 3, 1) := by decide +kernel
theorem dX8_change_11 : decode cX8_change 11 = .ok (.aload_n 0, 1) := by decide +kernel
theorem dX8_change_12 : decode cX8_change 12 = .ok (.getfield 19, 3) := by decide +kernel
theorem dX8_change_15 : decode cX8_change 15 = .ok (.if_icmp .ge 104, 3) := by decide +kernel
theorem dX8_change_18 : decode cX8_change 18 = .ok (.iload_n 3, 1) := by decide +kernel
theorem dX8_change_19 : decode cX8_change 19 = .ok (.iconst 1, 1) := by decide +kernel
theorem dX8_change_20 : decode cX8_change 20 = .ok (.iadd, 1) := by decide +kernel
theorem dX8_change_21 : decode cX8_change 21 = .ok (.istore 4, 2) := by decide +kernel
theorem dX8_change_23 : decode cX8_change 23 = .ok (.iload 4, 2) := by decide +kernel
theorem dX8_change_25 : decode cX8_change 25 = .ok (.aload_n 0, 1) := by decide +kernel
theorem dX8_change_26 : decode cX8_change 26 = .ok (.getfield 19, 3) := by decide +kernel
theorem dX8_change_29 : decode cX8_change 29 = .ok (.if_icmp .ge 84, 3) := by decide +kernel
theorem dX8_change_32 : decode cX8_change 32 = .ok (.aload_n 0, 1) := by decide +kernel
theorem dX8_change_33 : decode cX8_change 33 = .ok (.getfield 29, 3) := by decide +kernel
theorem dX8_change_36 : decode cX8_change 36 = .ok (.iconst 0, 1) := by decide +kernel
theorem dX8_change_37 : decode cX8_change 37 = .ok (.aload_n 0, 1) := by decide +kernel
theorem dX8_change_38 : decode cX8_change 38 = .ok (.getfield 32, 3) := by decide +kernel
theorem dX8_change_41 : decode cX8_change 41 = .ok (.iconst 0, 1) := by decide +kernel
theorem dX8_change_42 : decode cX8_change 42 = .ok (.invokestatic 168, 3) := by decide +kernel
theorem dX8_change_45 : decode cX8_change 45 = .ok (.aload_n 0, 1) := by decide +kernel
theorem dX8_change_46 : decode cX8_change 46 = .ok (.getfield 32, 3) := by decide +kernel
theorem dX8_change_49 : decode cX8_change 49 = .ok (.iconst 1, 1) := by decide +kernel
theorem dX8_change_50 : decode cX8_change 50 = .ok (.iload_n 3, 1) := by decide +kernel
theorem dX8_change_51 : decode cX8_change 51 = .ok (.iadd, 1) := by decide +kernel
theorem dX8_change_52 : decode cX8_change 52 = .ok (.aload_n 0, 1) := by decide +kernel
theorem dX8_change_53 : decode cX8_change 53 = .ok (.getfield 29, 3) := by decide +kernel
theorem dX8_change_56 : decode cX8_change 56 = .ok (.iconst 1, 1) := by decide +kernel
theorem dX8_change_57 : decode cX8_change 57 = .ok (.iload 4, 2) := by decide +kernel
theorem dX8_change_59 : decode cX8_change 59 = .ok (.iadd, 1) := by decide +kernel
theorem dX8_change_60 : decode cX8_change 60 = .ok (.iaload, 1) := by decide +kernel
theorem dX8_change_61 : decode cX8_change 61 = .ok (.iastore, 1) := by decide +kernel
theorem dX8_change_62 : decode cX8_change 62 = .ok (.aload_n 0, 1) := by decide +kernel
theorem dX8_change_63 : decode cX8_change 63 = .ok (.getfield 32, 3) := by decide +kernel
theorem dX8_change_66 : decode cX8_change 66 = .ok (.iconst 1, 1) := by decide +kernel
theorem dX8_change_67 : decode cX8_change 67 = .ok (.iload 4, 2) := by decide +kernel
theorem dX8_change_69 : decode cX8_change 69 = .ok (.iadd, 1) := by decide +kernel
theorem dX8_change_70 : decode cX8_change 70 = .ok (.aload_n 0, 1) := by decide +kernel
theorem dX8_change_71 : decode cX8_change 71 = .ok (.getfield 29, 3) := by decide +kernel
theorem dX8_change_74 : decode cX8_change 74 = .ok (.iconst 1, 1) := by decide +kernel
theorem dX8_change_75 : decode cX8_change 75 = .ok (.iload_n 3, 1) := by decide +kernel
theorem dX8_change_76 : decode cX8_change 76 = .ok (.iadd, 1) := by decide +kernel
theorem dX8_change_77 : decode cX8_change 77 = .ok (.iaload, 1) := by decide +kernel
theorem dX8_change_78 : decode cX8_change 78 = .ok (.iastore, 1) := by decide +kernel
theorem dX8_change_79 : decode cX8_change 79 = .ok (.aload_n 0, 1) := by decide +kernel
theorem dX8_change_80 : decode cX8_change 80 = .ok (.aload_n 0, 1) := by decide +kernel
theorem dX8_change_81 : decode cX8_change 81 = .ok (.getfield 32, 3) := by decide +kernel
theorem dX8_change_84 : decode cX8_change 84 = .ok (.iconst 1, 1) := by decide +kernel
theorem dX8_change_85 : decode cX8_change 85 = .ok (.invokevirtual 217, 3) := by decide +kernel
theorem dX8_change_88 : decode cX8_change 88 = .ok (.istore 5, 2) := by decide +kernel
theorem dX8_change_90 : decode cX8_change 90 = .ok (.iload 5, 2) := by decide +kernel
theorem dX8_change_92 : decode cX8_change 92 = .ok (.iload_n 2, 1) := by decide +kernel
theorem dX8_change_93 : decode cX8_change 93 = .ok (.if_icmp .ge 14, 3) := by decide +kernel
theorem dX8_change_96 : decode cX8_change 96 = .ok (.bipush 10, 2) := by decide +kernel
theorem dX8_change_98 : decode cX8_change 98 = .ok (.iload_n 3, 1) := by decide +kernel
theorem dX8_change_99 : decode cX8_change 99 = .ok (.imul, 1) := by decide +kernel
theorem dX8_change_100 : decode cX8_change 100 = .ok (.iload 4, 2) := by decide +kernel
theorem dX8_change_102 : decode cX8_change 102 = .ok (.iadd, 1) := by decide +kernel
theorem dX8_change_103 : decode cX8_change 103 = .ok (.istore_n 1, 1) := by decide +kernel
theorem dX8_change_104 : decode cX8_change 104 = .ok (.iload 5, 2) := by decide +kernel
theorem dX8_change_106 : decode cX8_change 106 = .ok (.istore_n 2, 1) := by decide +kernel
theorem dX8_change_107 : decode cX8_change 107 = .ok (.iinc 4 1, 3) := by decide +kernel
theorem dX8_change_110 : decode cX8_change 110 = .ok (.goto (-87), 3) := by decide +kernel
theorem dX8_change_113 : decode cX8_change 113 = .ok (.iinc 3 1, 3) := by decide +kernel
theorem dX8_change_116 : decode cX8_change 116 = .ok (.goto (-106), 3) := by decide +kernel
theorem dX8_change_119 : decode cX8_change 119 = .ok (.iload_n 1, 1) := by decide +kernel
theorem dX8_change_120 : decode cX8_change 120 = .ok (.ireturn, 1) := by decide +kernel
theorem dX8_bestHoles_0 : decode cX8_bestHoles 0 = .ok (.iload_n 1, 1) := by decide +kernel
theorem dX8_bestHoles_1 : decode cX8_bestHoles 1 = .ok (.iconst (-1), 1) := by decide +kernel
theorem dX8_bestHoles_2 : decode cX8_bestHoles 2 = .ok (.aload_n 0, 1) := by decide +kernel
theorem dX8_bestHoles_3 : decode cX8_bestHoles 3 = .ok (.getfield 19, 3) := by decide +kernel
theorem dX8_bestHoles_6 : decode cX8_bestHoles 6 = .ok (.iconst 1, 1) := by decide +kernel
theorem dX8_bestHoles_7 : decode cX8_bestHoles 7 = .ok (.isub, 1) := by decide +kernel
theorem dX8_bestHoles_8 : decode cX8_bestHoles 8 = .ok (.invokestatic 63, 3) := by decide +kernel
theorem dX8_bestHoles_11 : decode cX8_bestHoles 11 = .ok (.ifCond .ne 5, 3) := by decide +kernel
theorem dX8_bestHoles_14 : decode cX8_bestHoles 14 = .ok (.iconst (-1), 1) := by decide +kernel
theorem dX8_bestHoles_15 : decode cX8_bestHoles 15 = .ok (.ireturn, 1) := by decide +kernel
theorem dX8_bestHoles_16 : decode cX8_bestHoles 16 = .ok (.iconst 0, 1) := by decide +kernel
theorem dX8_bestHoles_17 : decode cX8_bestHoles 17 = .ok (.istore_n 2, 1) := by decide +kernel
theorem dX8_bestHoles_18 : decode cX8_bestHoles 18 = .ok (.iload_n 2, 1) := by decide +kernel
theorem dX8_bestHoles_19 : decode cX8_bestHoles 19 = .ok (.aload_n 0, 1) := by decide +kernel
theorem dX8_bestHoles_20 : decode cX8_bestHoles 20 = .ok (.getfield 19, 3) := by decide +kernel
theorem dX8_bestHoles_23 : decode cX8_bestHoles 23 = .ok (.if_icmp .ge 16, 3) := by decide +kernel
theorem dX8_bestHoles_26 : decode cX8_bestHoles 26 = .ok (.aload_n 0, 1) := by decide +kernel
theorem dX8_bestHoles_27 : decode cX8_bestHoles 27 = .ok (.getfield 48, 3) := by decide +kernel
theorem dX8_bestHoles_30 : decode cX8_bestHoles 30 = .ok (.iload_n 2, 1) := by decide +kernel
theorem dX8_bestHoles_31 : decode cX8_bestHoles 31 = .ok (.iload_n 2, 1) := by decide +kernel
theorem dX8_bestHoles_32 : decode cX8_bestHoles 32 = .ok (.iastore, 1) := by decide +kernel
theorem dX8_bestHoles_33 : decode cX8_bestHoles 33 = .ok (.iinc 2 1, 3) := by decide +kernel
theorem dX8_bestHoles_36 : decode cX8_bestHoles 36 = .ok (.goto (-18), 3) := by decide +kernel
theorem dX8_bestHoles_39 : decode cX8_bestHoles 39 = .ok (.iconst (-1), 1) := by decide +kernel
theorem dX8_bestHoles_40 : decode cX8_bestHoles 40 = .ok (.istore_n 2, 1) := by decide +kernel
theorem dX8_bestHoles_41 : decode cX8_bestHoles 41 = .ok (.iconst 1, 1) := by decide +kernel
theorem dX8_bestHoles_42 : decode cX8_bestHoles 42 = .ok (.istore_n 3, 1) := by decide +kernel
theorem dX8_bestHoles_43 : decode cX8_bestHoles 43 = .ok (.iload_n 3, 1) := by decide +kernel
theorem dX8_bestHoles_44 : decode cX8_bestHoles 44 = .ok (.ifCond .eq 75, 3) := by decide +kernel
theorem dX8_bestHoles_47 : decode cX8_bestHoles 47 = .ok (.aload_n 0, 1) := by decide +kernel
theorem dX8_bestHoles_48 : decode cX8_bestHoles 48 = .ok (.aload_n 0, 1) := by decide +kernel
theorem dX8_bestHoles_49 : decode cX8_bestHoles 49 = .ok (.getfield 48, 3) := by decide +kernel
theorem dX8_bestHoles_52 : decode cX8_bestHoles 52 = .ok (.iconst 0, 1) := by decide +kernel
theorem dX8_bestHoles_53 : decode cX8_bestHoles 53 = .ok (.invokevirtual 217, 3) := by decide +kernel
theorem dX8_bestHoles_56 : decode cX8_bestHoles 56 = .ok (.istore 4, 2) := by decide +kernel
theorem dX8_bestHoles_58 : decode cX8_bestHoles 58 = .ok (.iload_n 2, 1) := by decide +kernel
theorem dX8_bestHoles_59 : decode cX8_bestHoles 59 = .ok (.ifCond .lt 9, 3) := by decide +kernel
theorem dX8_bestHoles_62 : decode cX8_bestHoles 62 = .ok (.iload 4, 2) := by decide +kernel
theorem dX8_bestHoles_64 : decode cX8_bestHoles 64 = .ok (.iload_n 2, 1) := by decide +kernel
theorem dX8_bestHoles_65 : decode cX8_bestHoles 65 = .ok (.if_icmp .ge 38, 3) := by decide +kernel
theorem dX8_bestHoles_68 : decode cX8_bestHoles 68 = .ok (.iload 4, 2) := by decide +kernel
theorem dX8_bestHoles_70 : decode cX8_bestHoles 70 = .ok (.istore_n 2, 1) := by decide +kernel
theorem dX8_bestHoles_71 : decode cX8_bestHoles 71 = .ok (.iconst 0, 1) := by decide +kernel
theorem dX8_bestHoles_72 : decode cX8_bestHoles 72 = .ok (.istore 5, 2) := by decide +kernel
theorem dX8_bestHoles_74 : decode cX8_bestHoles 74 = .ok (.iload 5, 2) := by decide +kernel
theorem dX8_bestHoles_76 : decode cX8_bestHoles 76 = .ok (.aload_n 0, 1) := by decide +kernel
theorem dX8_bestHoles_77 : decode cX8_bestHoles 77 = .ok (.getfield 19, 3) := by decide +kernel
theorem dX8_bestHoles_80 : decode cX8_bestHoles 80 = .ok (.if_icmp .ge 23, 3) := by decide +kernel
theorem dX8_bestHoles_83 : decode cX8_bestHoles 83 = .ok (.aload_n 0, 1) := by decide +kernel
theorem dX8_bestHoles_84 : decode cX8_bestHoles 84 = .ok (.getfield 51, 3) := by decide +kernel
theorem dX8_bestHoles_87 : decode cX8_bestHoles 87 = .ok (.iload 5, 2) := by decide +kernel
theorem dX8_bestHoles_89 : decode cX8_bestHoles 89 = .ok (.aload_n 0, 1) := by decide +kernel
theorem dX8_bestHoles_90 : decode cX8_bestHoles 90 = .ok (.getfield 48, 3) := by decide +kernel
theorem dX8_bestHoles_93 : decode cX8_bestHoles 93 = .ok (.iload 5, 2) := by decide +kernel
theorem dX8_bestHoles_95 : decode cX8_bestHoles 95 = .ok (.iaload, 1) := by decide +kernel
theorem dX8_bestHoles_96 : decode cX8_bestHoles 96 = .ok (.iastore, 1) := by decide +kernel
theorem dX8_bestHoles_97 : decode cX8_bestHoles 97 = .ok (.iinc 5 1, 3) := by decide +kernel
theorem dX8_bestHoles_100 : decode cX8_bestHoles 100 = .ok (.goto (-26), 3) := by decide +kernel
theorem dX8_bestHoles_103 : decode cX8_bestHoles 103 = .ok (.aload_n 0, 1) := by decide +kernel
theorem dX8_bestHoles_104 : decode cX8_bestHoles 104 = .ok (.aload_n 0, 1) := by decide +kernel
theorem dX8_bestHoles_105 : decode cX8_bestHoles 105 = .ok (.getfield 48, 3) := by decide +kernel
theorem dX8_bestHoles_108 : decode cX8_bestHoles 108 = .ok (.aload_n 0, 1) := by decide +kernel
theorem dX8_bestHoles_109 : decode cX8_bestHoles 109 = .ok (.getfield 19, 3) := by decide +kernel
theorem dX8_bestHoles_112 : decode cX8_bestHoles 112 = .ok (.invokevirtual 210, 3) := by decide +kernel
theorem dX8_bestHoles_115 : decode cX8_bestHoles 115 = .ok (.istore_n 3, 1) := by decide +kernel
theorem dX8_bestHoles_116 : decode cX8_bestHoles 116 = .ok (.goto (-73), 3) := by decide +kernel
theorem dX8_bestHoles_119 : decode cX8_bestHoles 119 = .ok (.iload_n 1, 1) := by decide +kernel
theorem dX8_bestHoles_120 : decode cX8_bestHoles 120 = .ok (.ifCond .ge 7, 3) := by decide +kernel
theorem dX8_bestHoles_123 : decode cX8_bestHoles 123 = .ok (.iload_n 2, 1) := by decide +kernel
theorem dX8_bestHoles_124 : decode cX8_bestHoles 124 = .ok (.goto 9, 3) := by decide +kernel
theorem dX8_bestHoles_127 : decode cX8_bestHoles 127 = .ok (.aload_n 0, 1) := by decide +kernel
theorem dX8_bestHoles_128 : decode cX8_bestHoles 128 = .ok (.getfield 51, 3) := by decide +kernel
theorem dX8_bestHoles_131 : decode cX8_bestHoles 131 = .ok (.iload_n 1, 1) := by decide +kernel
theorem dX8_bestHoles_132 : decode cX8_bestHoles 132 = .ok (.iaload, 1) := by decide +kernel
theorem dX8_bestHoles_133 : decode cX8_bestHoles 133 = .ok (.ireturn, 1) := by decide +kernel
theorem dX8_atOnce_0 : decode cX8_atOnce 0 = .ok (.iload_n 1, 1) := by decide +kernel
theorem dX8_atOnce_1 : decode cX8_atOnce 1 = .ok (.iconst 0, 1) := by decide +kernel
theorem dX8_atOnce_2 : decode cX8_atOnce 2 = .ok (.iconst 1, 1) := by decide +kernel
theorem dX8_atOnce_3 : decode cX8_atOnce 3 = .ok (.invokestatic 63, 3) := by decide +kernel
theorem dX8_atOnce_6 : decode cX8_atOnce 6 = .ok (.ifCond .ne 5, 3) := by decide +kernel
theorem dX8_atOnce_9 : decode cX8_atOnce 9 = .ok (.iconst (-1), 1) := by decide +kernel
theorem dX8_atOnce_10 : decode cX8_atOnce 10 = .ok (.ireturn, 1) := by decide +kernel
theorem dX8_atOnce_11 : decode cX8_atOnce 11 = .ok (.iconst 0, 1) := by decide +kernel
theorem dX8_atOnce_12 : decode cX8_atOnce 12 = .ok (.istore_n 2, 1) := by decide +kernel
theorem dX8_atOnce_13 : decode cX8_atOnce 13 = .ok (.iconst 0, 1) := by decide +kernel
theorem dX8_atOnce_14 : decode cX8_atOnce 14 = .ok (.istore_n 3, 1) := by decide +kernel
theorem dX8_atOnce_15 : decode cX8_atOnce 15 = .ok (.iconst 0, 1) := by decide +kernel
theorem dX8_atOnce_16 : decode cX8_atOnce 16 = .ok (.istore 4, 2) := by decide +kernel
theorem dX8_atOnce_18 : decode cX8_atOnce 18 = .ok (.iload 4, 2) := by decide +kernel
theorem dX8_atOnce_20 : decode cX8_atOnce 20 = .ok (.bipush 40, 2) := by decide +kernel
theorem dX8_atOnce_22 : decode cX8_atOnce 22 = .ok (.if_icmp .gt 80, 3) := by decide +kernel
theorem dX8_atOnce_25 : decode cX8_atOnce 25 = .ok (.iconst 0, 1) := by decide +kernel
theorem dX8_atOnce_26 : decode cX8_atOnce 26 = .ok (.istore 5, 2) := by decide +kernel
theorem dX8_atOnce_28 : decode cX8_atOnce 28 = .ok (.iconst 0, 1) := by decide +kernel
theorem dX8_atOnce_29 : decode cX8_atOnce 29 = .ok (.istore 6, 2) := by decide +kernel
theorem dX8_atOnce_31 : decode cX8_atOnce 31 = .ok (.iload 6, 2) := by decide +kernel
theorem dX8_atOnce_33 : decode cX8_atOnce 33 = .ok (.aload_n 0, 1) := by decide +kernel
theorem dX8_atOnce_34 : decode cX8_atOnce 34 = .ok (.getfield 57, 3) := by decide +kernel
theorem dX8_atOnce_37 : decode cX8_atOnce 37 = .ok (.if_icmp .ge 33, 3) := by decide +kernel
theorem dX8_atOnce_40 : decode cX8_atOnce 40 = .ok (.iload 5, 2) := by decide +kernel
theorem dX8_atOnce_42 : decode cX8_atOnce 42 = .ok (.aload_n 0, 1) := by decide +kernel
theorem dX8_atOnce_43 : decode cX8_atOnce 43 = .ok (.getfield 26, 3) := by decide +kernel
theorem dX8_atOnce_46 : decode cX8_atOnce 46 = .ok (.iconst 5, 1) := by decide +kernel
theorem dX8_atOnce_47 : decode cX8_atOnce 47 = .ok (.iload 6, 2) := by decide +kernel
theorem dX8_atOnce_49 : decode cX8_atOnce 49 = .ok (.imul, 1) := by decide +kernel
theorem dX8_atOnce_50 : decode cX8_atOnce 50 = .ok (.iaload, 1) := by decide +kernel
theorem dX8_atOnce_51 : decode cX8_atOnce 51 = .ok (.iload 4, 2) := by decide +kernel
theorem dX8_atOnce_53 : decode cX8_atOnce 53 = .ok (.if_icmp .ne 7, 3) := by decide +kernel
theorem dX8_atOnce_56 : decode cX8_atOnce 56 = .ok (.iconst 1, 1) := by decide +kernel
theorem dX8_atOnce_57 : decode cX8_atOnce 57 = .ok (.goto 4, 3) := by decide +kernel
theorem dX8_atOnce_60 : decode cX8_atOnce 60 = .ok (.iconst 0, 1) := by decide +kernel
theorem dX8_atOnce_61 : decode cX8_atOnce 61 = .ok (.iadd, 1) := by decide +kernel
theorem dX8_atOnce_62 : decode cX8_atOnce 62 = .ok (.istore 5, 2) := by decide +kernel
theorem dX8_atOnce_64 : decode cX8_atOnce 64 = .ok (.iinc 6 1, 3) := by decide +kernel
theorem dX8_atOnce_67 : decode cX8_atOnce 67 = .ok (.goto (-36), 3) := by decide +kernel
theorem dX8_atOnce_70 : decode cX8_atOnce 70 = .ok (.iload 5, 2) := by decide +kernel
theorem dX8_atOnce_72 : decode cX8_atOnce 72 = .ok (.iload_n 3, 1) := by decide +kernel
theorem dX8_atOnce_73 : decode cX8_atOnce 73 = .ok (.if_icmp .le 8, 3) := by decide +kernel
theorem dX8_atOnce_76 : decode cX8_atOnce 76 = .ok (.iload 4, 2) := by decide +kernel
theorem dX8_atOnce_78 : decode cX8_atOnce 78 = .ok (.goto 4, 3) := by decide +kernel
theorem dX8_atOnce_81 : decode cX8_atOnce 81 = .ok (.iload_n 2, 1) := by decide +kernel
theorem dX8_atOnce_82 : decode cX8_atOnce 82 = .ok (.istore_n 2, 1) := by decide +kernel
theorem dX8_atOnce_83 : decode cX8_atOnce 83 = .ok (.iload 5, 2) := by decide +kernel
theorem dX8_atOnce_85 : decode cX8_atOnce 85 = .ok (.iload_n 3, 1) := by decide +kernel
theorem dX8_atOnce_86 : decode cX8_atOnce 86 = .ok (.if_icmp .le 8, 3) := by decide +kernel
theorem dX8_atOnce_89 : decode cX8_atOnce 89 = .ok (.iload 5, 2) := by decide +kernel
theorem dX8_atOnce_91 : decode cX8_atOnce 91 = .ok (.goto 4, 3) := by decide +kernel
theorem dX8_atOnce_94 : decode cX8_atOnce 94 = .ok (.iload_n 3, 1) := by decide +kernel
theorem dX8_atOnce_95 : decode cX8_atOnce 95 = .ok (.istore_n 3, 1) := by decide +kernel
theorem dX8_atOnce_96 : decode cX8_atOnce 96 = .ok (.iinc 4 1, 3) := by decide +kernel
theorem dX8_atOnce_99 : decode cX8_atOnce 99 = .ok (.goto (-81), 3) := by decide +kernel
theorem dX8_atOnce_102 : decode cX8_atOnce 102 = .ok (.iload_n 1, 1) := by decide +kernel
theorem dX8_atOnce_103 : decode cX8_atOnce 103 = .ok (.ifCond .ne 7, 3) := by decide +kernel
theorem dX8_atOnce_106 : decode cX8_atOnce 106 = .ok (.iload_n 2, 1) := by decide +kernel
theorem dX8_atOnce_107 : decode cX8_atOnce 107 = .ok (.goto 4, 3) := by decide +kernel
theorem dX8_atOnce_110 : decode cX8_atOnce 110 = .ok (.iload_n 3, 1) := by decide +kernel
theorem dX8_atOnce_111 : decode cX8_atOnce 111 = .ok (.ireturn, 1) := by decide +kernel
theorem dX8_under_0 : decode cX8_under 0 = .ok (.aload_n 0, 1) := by decide +kernel
theorem dX8_under_1 : decode cX8_under 1 = .ok (.iload_n 1, 1) := by decide +kernel
theorem dX8_under_2 : decode cX8_under 2 = .ok (.invokevirtual 161, 3) := by decide +kernel
theorem dX8_under_5 : decode cX8_under 5 = .ok (.ifCond .ne 5, 3) := by decide +kernel
theorem dX8_under_8 : decode cX8_under 8 = .ok (.iconst (-1), 1) := by decide +kernel
theorem dX8_under_9 : decode cX8_under 9 = .ok (.ireturn, 1) := by decide +kernel
theorem dX8_under_10 : decode cX8_under 10 = .ok (.iconst 0, 1) := by decide +kernel
theorem dX8_under_11 : decode cX8_under 11 = .ok (.istore_n 2, 1) := by decide +kernel
theorem dX8_under_12 : decode cX8_under 12 = .ok (.iconst 0, 1) := by decide +kernel
theorem dX8_under_13 : decode cX8_under 13 = .ok (.istore_n 3, 1) := by decide +kernel
theorem dX8_under_14 : decode cX8_under 14 = .ok (.iload_n 3, 1) := by decide +kernel
theorem dX8_under_15 : decode cX8_under 15 = .ok (.aload_n 0, 1) := by decide +kernel
theorem dX8_under_16 : decode cX8_under 16 = .ok (.getfield 57, 3) := by decide +kernel
theorem dX8_under_19 : decode cX8_under 19 = .ok (.if_icmp .ge 46, 3) := by decide +kernel
theorem dX8_under_22 : decode cX8_under 22 = .ok (.iload_n 2, 1) := by decide +kernel
theorem dX8_under_23 : decode cX8_under 23 = .ok (.iload_n 3, 1) := by decide +kernel
theorem dX8_under_24 : decode cX8_under 24 = .ok (.iload_n 1, 1) := by decide +kernel
theorem dX8_under_25 : decode cX8_under 25 = .ok (.if_icmp .eq 31, 3) := by decide +kernel
theorem dX8_under_28 : decode cX8_under 28 = .ok (.aload_n 0, 1) := by decide +kernel
theorem dX8_under_29 : decode cX8_under 29 = .ok (.getfield 29, 3) := by decide +kernel
theorem dX8_under_32 : decode cX8_under 32 = .ok (.bipush 7, 2) := by decide +kernel
theorem dX8_under_34 : decode cX8_under 34 = .ok (.iload_n 3, 1) := by decide +kernel
theorem dX8_under_35 : decode cX8_under 35 = .ok (.iadd, 1) := by decide +kernel
theorem dX8_under_36 : decode cX8_under 36 = .ok (.iaload, 1) := by decide +kernel
theorem dX8_under_37 : decode cX8_under 37 = .ok (.iconst 2, 1) := by decide +kernel
theorem dX8_under_38 : decode cX8_under 38 = .ok (.if_icmp .ne 18, 3) := by decide +kernel
theorem dX8_under_41 : decode cX8_under 41 = .ok (.aload_n 0, 1) := by decide +kernel
theorem dX8_under_42 : decode cX8_under 42 = .ok (.iload_n 1, 1) := by decide +kernel
theorem dX8_under_43 : decode cX8_under 43 = .ok (.iload_n 3, 1) := by decide +kernel
theorem dX8_under_44 : decode cX8_under 44 = .ok (.invokevirtual 154, 3) := by decide +kernel
theorem dX8_under_47 : decode cX8_under 47 = .ok (.ifCond .eq 9, 3) := by decide +kernel
theorem dX8_under_50 : decode cX8_under 50 = .ok (.iconst 1, 1) := by decide +kernel
theorem dX8_under_51 : decode cX8_under 51 = .ok (.iload_n 3, 1) := by decide +kernel
theorem dX8_under_52 : decode cX8_under 52 = .ok (.ishl, 1) := by decide +kernel
theorem dX8_under_53 : decode cX8_under 53 = .ok (.goto 4, 3) := by decide +kernel
theorem dX8_under_56 : decode cX8_under 56 = .ok (.iconst 0, 1) := by decide +kernel
theorem dX8_under_57 : decode cX8_under 57 = .ok (.ior, 1) := by decide +kernel
theorem dX8_under_58 : decode cX8_under 58 = .ok (.istore_n 2, 1) := by decide +kernel
theorem dX8_under_59 : decode cX8_under 59 = .ok (.iinc 3 1, 3) := by decide +kernel
theorem dX8_under_62 : decode cX8_under 62 = .ok (.goto (-48), 3) := by decide +kernel
theorem dX8_under_65 : decode cX8_under 65 = .ok (.iload_n 2, 1) := by decide +kernel
theorem dX8_under_66 : decode cX8_under 66 = .ok (.ireturn, 1) := by decide +kernel
theorem dX8_odds_0 : decode cX8_odds 0 = .ok (.aload_n 0, 1) := by decide +kernel
theorem dX8_odds_1 : decode cX8_odds 1 = .ok (.iload_n 1, 1) := by decide +kernel
theorem dX8_odds_2 : decode cX8_odds 2 = .ok (.invokevirtual 157, 3) := by decide +kernel
theorem dX8_odds_5 : decode cX8_odds 5 = .ok (.ifCond .eq 33, 3) := by decide +kernel
theorem dX8_odds_8 : decode cX8_odds 8 = .ok (.iload_n 2, 1) := by decide +kernel
theorem dX8_odds_9 : decode cX8_odds 9 = .ok (.iconst 0, 1) := by decide +kernel
theorem dX8_odds_10 : decode cX8_odds 10 = .ok (.bipush 10, 2) := by decide +kernel
theorem dX8_odds_12 : decode cX8_odds 12 = .ok (.invokestatic 63, 3) := by decide +kernel
theorem dX8_odds_15 : decode cX8_odds 15 = .ok (.ifCond .eq 23, 3) := by decide +kernel
theorem dX8_odds_18 : decode cX8_odds 18 = .ok (.iload_n 3, 1) := by decide +kernel
theorem dX8_odds_19 : decode cX8_odds 19 = .ok (.iconst 0, 1) := by decide +kernel
theorem dX8_odds_20 : decode cX8_odds 20 = .ok (.bipush 40, 2) := by decide +kernel
theorem dX8_odds_22 : decode cX8_odds 22 = .ok (.invokestatic 63, 3) := by decide +kernel
theorem dX8_odds_25 : decode cX8_odds 25 = .ok (.ifCond .eq 13, 3) := by decide +kernel
theorem dX8_odds_28 : decode cX8_odds 28 = .ok (.iload 4, 2) := by decide +kernel
theorem dX8_odds_30 : decode cX8_odds 30 = .ok (.iconst 0, 1) := by decide +kernel
theorem dX8_odds_31 : decode cX8_odds 31 = .ok (.iconst 1, 1) := by decide +kernel
theorem dX8_odds_32 : decode cX8_odds 32 = .ok (.invokestatic 63, 3) := by decide +kernel
theorem dX8_odds_35 : decode cX8_odds 35 = .ok (.ifCond .ne 5, 3) := by decide +kernel
theorem dX8_odds_38 : decode cX8_odds 38 = .ok (.iconst (-1), 1) := by decide +kernel
theorem dX8_odds_39 : decode cX8_odds 39 = .ok (.ireturn, 1) := by decide +kernel
theorem dX8_odds_40 : decode cX8_odds 40 = .ok (.aload_n 0, 1) := by decide +kernel
theorem dX8_odds_41 : decode cX8_odds 41 = .ok (.aload_n 0, 1) := by decide +kernel
theorem dX8_odds_42 : decode cX8_odds 42 = .ok (.getfield 29, 3) := by decide +kernel
theorem dX8_odds_45 : decode cX8_odds 45 = .ok (.iload_n 1, 1) := by decide +kernel
theorem dX8_odds_46 : decode cX8_odds 46 = .ok (.invokevirtual 138, 3) := by decide +kernel
theorem dX8_odds_49 : decode cX8_odds 49 = .ok (.istore 5, 2) := by decide +kernel
theorem dX8_odds_51 : decode cX8_odds 51 = .ok (.bipush 10, 2) := by decide +kernel
theorem dX8_odds_53 : decode cX8_odds 53 = .ok (.istore 6, 2) := by decide +kernel
theorem dX8_odds_55 : decode cX8_odds 55 = .ok (.iload 5, 2) := by decide +kernel
theorem dX8_odds_57 : decode cX8_odds 57 = .ok (.bipush (-9), 2) := by decide +kernel
theorem dX8_odds_59 : decode cX8_odds 59 = .ok (.if_icmp .eq 49, 3) := by decide +kernel
theorem dX8_odds_62 : decode cX8_odds 62 = .ok (.iload_n 3, 1) := by decide +kernel
theorem dX8_odds_63 : decode cX8_odds 63 = .ok (.aload_n 0, 1) := by decide +kernel
theorem dX8_odds_64 : decode cX8_odds 64 = .ok (.getfield 29, 3) := by decide +kernel
theorem dX8_odds_67 : decode cX8_odds 67 = .ok (.bipush 14, 2) := by decide +kernel
theorem dX8_odds_69 : decode cX8_odds 69 = .ok (.iload 5, 2) := by decide +kernel
theorem dX8_odds_71 : decode cX8_odds 71 = .ok (.iadd, 1) := by decide +kernel
theorem dX8_odds_72 : decode cX8_odds 72 = .ok (.iaload, 1) := by decide +kernel
theorem dX8_odds_73 : decode cX8_odds 73 = .ok (.if_icmp .lt 10, 3) := by decide +kernel
theorem dX8_odds_76 : decode cX8_odds 76 = .ok (.bipush 10, 2) := by decide +kernel
theorem dX8_odds_78 : decode cX8_odds 78 = .ok (.iload_n 2, 1) := by decide +kernel
theorem dX8_odds_79 : decode cX8_odds 79 = .ok (.isub, 1) := by decide +kernel
theorem dX8_odds_80 : decode cX8_odds 80 = .ok (.goto 4, 3) := by decide +kernel
theorem dX8_odds_83 : decode cX8_odds 83 = .ok (.iconst 0, 1) := by decide +kernel
theorem dX8_odds_84 : decode cX8_odds 84 = .ok (.iload_n 3, 1) := by decide +kernel
theorem dX8_odds_85 : decode cX8_odds 85 = .ok (.iconst 2, 1) := by decide +kernel
theorem dX8_odds_86 : decode cX8_odds 86 = .ok (.aload_n 0, 1) := by decide +kernel
theorem dX8_odds_87 : decode cX8_odds 87 = .ok (.getfield 29, 3) := by decide +kernel
theorem dX8_odds_90 : decode cX8_odds 90 = .ok (.bipush 14, 2) := by decide +kernel
theorem dX8_odds_92 : decode cX8_odds 92 = .ok (.iload 5, 2) := by decide +kernel
theorem dX8_odds_94 : decode cX8_odds 94 = .ok (.iadd, 1) := by decide +kernel
theorem dX8_odds_95 : decode cX8_odds 95 = .ok (.iaload, 1) := by decide +kernel
theorem dX8_odds_96 : decode cX8_odds 96 = .ok (.imul, 1) := by decide +kernel
theorem dX8_odds_97 : decode cX8_odds 97 = .ok (.if_icmp .lt 7, 3) := by decide +kernel
theorem dX8_odds_100 : decode cX8_odds 100 = .ok (.iload_n 2, 1) := by decide +kernel
theorem dX8_odds_101 : decode cX8_odds 101 = .ok (.goto 4, 3) := by decide +kernel
theorem dX8_odds_104 : decode cX8_odds 104 = .ok (.iconst 0, 1) := by decide +kernel
theorem dX8_odds_105 : decode cX8_odds 105 = .ok (.iadd, 1) := by decide +kernel
theorem dX8_odds_106 : decode cX8_odds 106 = .ok (.istore 6, 2) := by decide +kernel
theorem dX8_odds_108 : decode cX8_odds 108 = .ok (.iload 6, 2) := by decide +kernel
theorem dX8_odds_110 : decode cX8_odds 110 = .ok (.istore 7, 2) := by decide +kernel
theorem dX8_odds_112 : decode cX8_odds 112 = .ok (.bipush 10, 2) := by decide +kernel
theorem dX8_odds_114 : decode cX8_odds 114 = .ok (.istore 8, 2) := by decide +kernel
theorem dX8_odds_116 : decode cX8_odds 116 = .ok (.iload 8, 2) := by decide +kernel
theorem dX8_odds_118 : decode cX8_odds 118 = .ok (.ifCond .eq 21, 3) := by decide +kernel
theorem dX8_odds_121 : decode cX8_odds 121 = .ok (.iload 7, 2) := by decide +kernel
theorem dX8_odds_123 : decode cX8_odds 123 = .ok (.iload 8, 2) := by decide +kernel
theorem dX8_odds_125 : decode cX8_odds 125 = .ok (.irem, 1) := by decide +kernel
theorem dX8_odds_126 : decode cX8_odds 126 = .ok (.istore 9, 2) := by decide +kernel
theorem dX8_odds_128 : decode cX8_odds 128 = .ok (.iload 8, 2) := by decide +kernel
theorem dX8_odds_130 : decode cX8_odds 130 = .ok (.istore 7, 2) := by decide +kernel
theorem dX8_odds_132 : decode cX8_odds 132 = .ok (.iload 9, 2) := by decide +kernel
theorem dX8_odds_134 : decode cX8_odds 134 = .ok (.istore 8, 2) := by decide +kernel
theorem dX8_odds_136 : decode cX8_odds 136 = .ok (.goto (-20), 3) := by decide +kernel
theorem dX8_odds_139 : decode cX8_odds 139 = .ok (.iload 4, 2) := by decide +kernel
theorem dX8_odds_141 : decode cX8_odds 141 = .ok (.ifCond .ne 8, 3) := by decide +kernel
theorem dX8_odds_144 : decode cX8_odds 144 = .ok (.iload 6, 2) := by decide +kernel
theorem dX8_odds_146 : decode cX8_odds 146 = .ok (.goto 5, 3) := by decide +kernel
theorem dX8_odds_149 : decode cX8_odds 149 = .ok (.bipush 10, 2) := by decide +kernel
theorem dX8_odds_151 : decode cX8_odds 151 = .ok (.iload 7, 2) := by decide +kernel
theorem dX8_odds_153 : decode cX8_odds 153 = .ok (.idiv, 1) := by decide +kernel
theorem dX8_odds_154 : decode cX8_odds 154 = .ok (.ireturn, 1) := by decide +kernel
theorem dX8_rankOf_0 : decode cX8_rankOf 0 = .ok (.aload_n 0, 1) := by decide +kernel
theorem dX8_rankOf_1 : decode cX8_rankOf 1 = .ok (.dup, 1) := by decide +kernel
theorem dX8_rankOf_2 : decode cX8_rankOf 2 = .ok (.getfield 223, 3) := by decide +kernel
theorem dX8_rankOf_5 : decode cX8_rankOf 5 = .ok (.lconst 1, 1) := by decide +kernel
theorem dX8_rankOf_6 : decode cX8_rankOf 6 = .ok (.ladd, 1) := by decide +kernel
theorem dX8_rankOf_7 : decode cX8_rankOf 7 = .ok (.putfield 223, 3) := by decide +kernel
theorem dX8_rankOf_10 : decode cX8_rankOf 10 = .ok (.aload_n 0, 1) := by decide +kernel
theorem dX8_rankOf_11 : decode cX8_rankOf 11 = .ok (.getfield 26, 3) := by decide +kernel
theorem dX8_rankOf_14 : decode cX8_rankOf 14 = .ok (.iconst 5, 1) := by decide +kernel
theorem dX8_rankOf_15 : decode cX8_rankOf 15 = .ok (.iload_n 1, 1) := by decide +kernel
theorem dX8_rankOf_16 : decode cX8_rankOf 16 = .ok (.imul, 1) := by decide +kernel
theorem dX8_rankOf_17 : decode cX8_rankOf 17 = .ok (.iconst 4, 1) := by decide +kernel
theorem dX8_rankOf_18 : decode cX8_rankOf 18 = .ok (.iadd, 1) := by decide +kernel
theorem dX8_rankOf_19 : decode cX8_rankOf 19 = .ok (.iaload, 1) := by decide +kernel
theorem dX8_rankOf_20 : decode cX8_rankOf 20 = .ok (.ireturn, 1) := by decide +kernel
theorem dX8_doctorOf_0 : decode cX8_doctorOf 0 = .ok (.aload_n 0, 1) := by decide +kernel
theorem dX8_doctorOf_1 : decode cX8_doctorOf 1 = .ok (.dup, 1) := by decide +kernel
theorem dX8_doctorOf_2 : decode cX8_doctorOf 2 = .ok (.getfield 223, 3) := by decide +kernel
theorem dX8_doctorOf_5 : decode cX8_doctorOf 5 = .ok (.ldc2_w 227, 3) := by decide +kernel
theorem dX8_doctorOf_8 : decode cX8_doctorOf 8 = .ok (.ladd, 1) := by decide +kernel
theorem dX8_doctorOf_9 : decode cX8_doctorOf 9 = .ok (.putfield 223, 3) := by decide +kernel
theorem dX8_doctorOf_12 : decode cX8_doctorOf 12 = .ok (.aload_n 0, 1) := by decide +kernel
theorem dX8_doctorOf_13 : decode cX8_doctorOf 13 = .ok (.iload_n 1, 1) := by decide +kernel
theorem dX8_doctorOf_14 : decode cX8_doctorOf 14 = .ok (.invokevirtual 229, 3) := by decide +kernel
theorem dX8_doctorOf_17 : decode cX8_doctorOf 17 = .ok (.aload_n 0, 1) := by decide +kernel
theorem dX8_doctorOf_18 : decode cX8_doctorOf 18 = .ok (.getfield 29, 3) := by decide +kernel
theorem dX8_doctorOf_21 : decode cX8_doctorOf 21 = .ok (.bipush 21, 2) := by decide +kernel
theorem dX8_doctorOf_23 : decode cX8_doctorOf 23 = .ok (.iload_n 1, 1) := by decide +kernel
theorem dX8_doctorOf_24 : decode cX8_doctorOf 24 = .ok (.iadd, 1) := by decide +kernel
theorem dX8_doctorOf_25 : decode cX8_doctorOf 25 = .ok (.iaload, 1) := by decide +kernel
theorem dX8_doctorOf_26 : decode cX8_doctorOf 26 = .ok (.iadd, 1) := by decide +kernel
theorem dX8_doctorOf_27 : decode cX8_doctorOf 27 = .ok (.ireturn, 1) := by decide +kernel
theorem dX8_gossipOf_0 : decode cX8_gossipOf 0 = .ok (.aload_n 0, 1) := by decide +kernel
theorem dX8_gossipOf_1 : decode cX8_gossipOf 1 = .ok (.dup, 1) := by decide +kernel
theorem dX8_gossipOf_2 : decode cX8_gossipOf 2 = .ok (.getfield 223, 3) := by decide +kernel
theorem dX8_gossipOf_5 : decode cX8_gossipOf 5 = .ok (.ldc2_w 232, 3) := by decide +kernel
theorem dX8_gossipOf_8 : decode cX8_gossipOf 8 = .ok (.ladd, 1) := by decide +kernel
theorem dX8_gossipOf_9 : decode cX8_gossipOf 9 = .ok (.putfield 223, 3) := by decide +kernel
theorem dX8_gossipOf_12 : decode cX8_gossipOf 12 = .ok (.aload_n 0, 1) := by decide +kernel
theorem dX8_gossipOf_13 : decode cX8_gossipOf 13 = .ok (.iload_n 1, 1) := by decide +kernel
theorem dX8_gossipOf_14 : decode cX8_gossipOf 14 = .ok (.invokevirtual 229, 3) := by decide +kernel
theorem dX8_gossipOf_17 : decode cX8_gossipOf 17 = .ok (.aload_n 0, 1) := by decide +kernel
theorem dX8_gossipOf_18 : decode cX8_gossipOf 18 = .ok (.getfield 26, 3) := by decide +kernel
theorem dX8_gossipOf_21 : decode cX8_gossipOf 21 = .ok (.iconst 5, 1) := by decide +kernel
theorem dX8_gossipOf_22 : decode cX8_gossipOf 22 = .ok (.iload_n 1, 1) := by decide +kernel
theorem dX8_gossipOf_23 : decode cX8_gossipOf 23 = .ok (.imul, 1) := by decide +kernel
theorem dX8_gossipOf_24 : decode cX8_gossipOf 24 = .ok (.iconst 3, 1) := by decide +kernel
theorem dX8_gossipOf_25 : decode cX8_gossipOf 25 = .ok (.iadd, 1) := by decide +kernel
theorem dX8_gossipOf_26 : decode cX8_gossipOf 26 = .ok (.iaload, 1) := by decide +kernel
theorem dX8_gossipOf_27 : decode cX8_gossipOf 27 = .ok (.isub, 1) := by decide +kernel
theorem dX8_gossipOf_28 : decode cX8_gossipOf 28 = .ok (.ireturn, 1) := by decide +kernel
theorem dX8_rate_0 : decode cX8_rate 0 = .ok (.iload_n 1, 1) := by decide +kernel
theorem dX8_rate_1 : decode cX8_rate 1 = .ok (.iconst 0, 1) := by decide +kernel
theorem dX8_rate_2 : decode cX8_rate 2 = .ok (.iconst 5, 1) := by decide +kernel
theorem dX8_rate_3 : decode cX8_rate 3 = .ok (.invokestatic 63, 3) := by decide +kernel
theorem dX8_rate_6 : decode cX8_rate 6 = .ok (.ifCond .eq 11, 3) := by decide +kernel
theorem dX8_rate_9 : decode cX8_rate 9 = .ok (.aload_n 0, 1) := by decide +kernel
theorem dX8_rate_10 : decode cX8_rate 10 = .ok (.iload_n 2, 1) := by decide +kernel
theorem dX8_rate_11 : decode cX8_rate 11 = .ok (.invokevirtual 161, 3) := by decide +kernel
theorem dX8_rate_14 : decode cX8_rate 14 = .ok (.ifCond .ne 6, 3) := by decide +kernel
theorem dX8_rate_17 : decode cX8_rate 17 = .ok (.ldc 234, 2) := by decide +kernel
theorem dX8_rate_19 : decode cX8_rate 19 = .ok (.ireturn, 1) := by decide +kernel
theorem dX8_rate_20 : decode cX8_rate 20 = .ok (.iload_n 1, 1) := by decide +kernel
theorem dX8_rate_21 : decode cX8_rate 21 = .ok (.tableswitch 93 0 4 #[35, 41, 47, 53, 73], 35) := by decide +kernel
theorem dX8_rate_56 : decode cX8_rate 56 = .ok (.aload_n 0, 1) := by decide +kernel
theorem dX8_rate_57 : decode cX8_rate 57 = .ok (.iload_n 2, 1) := by decide +kernel
theorem dX8_rate_58 : decode cX8_rate 58 = .ok (.invokevirtual 229, 3) := by decide +kernel
theorem dX8_rate_61 : decode cX8_rate 61 = .ok (.ireturn, 1) := by decide +kernel
theorem dX8_rate_62 : decode cX8_rate 62 = .ok (.aload_n 0, 1) := by decide +kernel
theorem dX8_rate_63 : decode cX8_rate 63 = .ok (.iload_n 2, 1) := by decide +kernel
theorem dX8_rate_64 : decode cX8_rate 64 = .ok (.invokevirtual 235, 3) := by decide +kernel
theorem dX8_rate_67 : decode cX8_rate 67 = .ok (.ireturn, 1) := by decide +kernel
theorem dX8_rate_68 : decode cX8_rate 68 = .ok (.aload_n 0, 1) := by decide +kernel
theorem dX8_rate_69 : decode cX8_rate 69 = .ok (.iload_n 2, 1) := by decide +kernel
theorem dX8_rate_70 : decode cX8_rate 70 = .ok (.invokevirtual 238, 3) := by decide +kernel
theorem dX8_rate_73 : decode cX8_rate 73 = .ok (.ireturn, 1) := by decide +kernel
theorem dX8_rate_74 : decode cX8_rate 74 = .ok (.aload_n 0, 1) := by decide +kernel
theorem dX8_rate_75 : decode cX8_rate 75 = .ok (.dup, 1) := by decide +kernel
theorem dX8_rate_76 : decode cX8_rate 76 = .ok (.getfield 223, 3) := by decide +kernel
theorem dX8_rate_79 : decode cX8_rate 79 = .ok (.ldc2_w 241, 3) := by decide +kernel
theorem dX8_rate_82 : decode cX8_rate 82 = .ok (.ladd, 1) := by decide +kernel
theorem dX8_rate_83 : decode cX8_rate 83 = .ok (.putfield 223, 3) := by decide +kernel
theorem dX8_rate_86 : decode cX8_rate 86 = .ok (.iconst 2, 1) := by decide +kernel
theorem dX8_rate_87 : decode cX8_rate 87 = .ok (.aload_n 0, 1) := by decide +kernel
theorem dX8_rate_88 : decode cX8_rate 88 = .ok (.iload_n 2, 1) := by decide +kernel
theorem dX8_rate_89 : decode cX8_rate 89 = .ok (.invokevirtual 235, 3) := by decide +kernel
theorem dX8_rate_92 : decode cX8_rate 92 = .ok (.imul, 1) := by decide +kernel
theorem dX8_rate_93 : decode cX8_rate 93 = .ok (.ireturn, 1) := by decide +kernel
theorem dX8_rate_94 : decode cX8_rate 94 = .ok (.aload_n 0, 1) := by decide +kernel
theorem dX8_rate_95 : decode cX8_rate 95 = .ok (.dup, 1) := by decide +kernel
theorem dX8_rate_96 : decode cX8_rate 96 = .ok (.getfield 223, 3) := by decide +kernel
theorem dX8_rate_99 : decode cX8_rate 99 = .ok (.ldc2_w 243, 3) := by decide +kernel
theorem dX8_rate_102 : decode cX8_rate 102 = .ok (.ladd, 1) := by decide +kernel
theorem dX8_rate_103 : decode cX8_rate 103 = .ok (.putfield 223, 3) := by decide +kernel
theorem dX8_rate_106 : decode cX8_rate 106 = .ok (.aload_n 0, 1) := by decide +kernel
theorem dX8_rate_107 : decode cX8_rate 107 = .ok (.iload_n 2, 1) := by decide +kernel
theorem dX8_rate_108 : decode cX8_rate 108 = .ok (.invokevirtual 238, 3) := by decide +kernel
theorem dX8_rate_111 : decode cX8_rate 111 = .ok (.iload_n 2, 1) := by decide +kernel
theorem dX8_rate_112 : decode cX8_rate 112 = .ok (.iadd, 1) := by decide +kernel
theorem dX8_rate_113 : decode cX8_rate 113 = .ok (.ireturn, 1) := by decide +kernel
theorem dX8_rate_114 : decode cX8_rate 114 = .ok (.aload_n 0, 1) := by decide +kernel
theorem dX8_rate_115 : decode cX8_rate 115 = .ok (.dup, 1) := by decide +kernel
theorem dX8_rate_116 : decode cX8_rate 116 = .ok (.getfield 223, 3) := by decide +kernel
theorem dX8_rate_119 : decode cX8_rate 119 = .ok (.ldc2_w 245, 3) := by decide +kernel
theorem dX8_rate_122 : decode cX8_rate 122 = .ok (.ladd, 1) := by decide +kernel
theorem dX8_rate_123 : decode cX8_rate 123 = .ok (.putfield 223, 3) := by decide +kernel
theorem dX8_rate_126 : decode cX8_rate 126 = .ok (.aload_n 0, 1) := by decide +kernel
theorem dX8_rate_127 : decode cX8_rate 127 = .ok (.iload_n 2, 1) := by decide +kernel
theorem dX8_rate_128 : decode cX8_rate 128 = .ok (.invokevirtual 229, 3) := by decide +kernel
theorem dX8_rate_131 : decode cX8_rate 131 = .ok (.aload_n 0, 1) := by decide +kernel
theorem dX8_rate_132 : decode cX8_rate 132 = .ok (.aload_n 0, 1) := by decide +kernel
theorem dX8_rate_133 : decode cX8_rate 133 = .ok (.iload_n 2, 1) := by decide +kernel
theorem dX8_rate_134 : decode cX8_rate 134 = .ok (.invokevirtual 121, 3) := by decide +kernel
theorem dX8_rate_137 : decode cX8_rate 137 = .ok (.invokevirtual 148, 3) := by decide +kernel
theorem dX8_rate_140 : decode cX8_rate 140 = .ok (.aload_n 0, 1) := by decide +kernel
theorem dX8_rate_141 : decode cX8_rate 141 = .ok (.aload_n 0, 1) := by decide +kernel
theorem dX8_rate_142 : decode cX8_rate 142 = .ok (.iload_n 2, 1) := by decide +kernel
theorem dX8_rate_143 : decode cX8_rate 143 = .ok (.invokevirtual 125, 3) := by decide +kernel
theorem dX8_rate_146 : decode cX8_rate 146 = .ok (.invokevirtual 148, 3) := by decide +kernel
theorem dX8_rate_149 : decode cX8_rate 149 = .ok (.invokestatic 213, 3) := by decide +kernel
theorem dX8_rate_152 : decode cX8_rate 152 = .ok (.iadd, 1) := by decide +kernel
theorem dX8_rate_153 : decode cX8_rate 153 = .ok (.ireturn, 1) := by decide +kernel
theorem dX8_keep_0 : decode cX8_keep 0 = .ok (.iload_n 1, 1) := by decide +kernel
theorem dX8_keep_1 : decode cX8_keep 1 = .ok (.iconst 0, 1) := by decide +kernel
theorem dX8_keep_2 : decode cX8_keep 2 = .ok (.iconst 1, 1) := by decide +kernel
theorem dX8_keep_3 : decode cX8_keep 3 = .ok (.invokestatic 63, 3) := by decide +kernel
theorem dX8_keep_6 : decode cX8_keep 6 = .ok (.ifCond .ne 5, 3) := by decide +kernel
theorem dX8_keep_9 : decode cX8_keep 9 = .ok (.iconst (-1), 1) := by decide +kernel
theorem dX8_keep_10 : decode cX8_keep 10 = .ok (.ireturn, 1) := by decide +kernel
theorem dX8_keep_11 : decode cX8_keep 11 = .ok (.aload_n 0, 1) := by decide +kernel
theorem dX8_keep_12 : decode cX8_keep 12 = .ok (.getfield 29, 3) := by decide +kernel
theorem dX8_keep_15 : decode cX8_keep 15 = .ok (.iconst 0, 1) := by decide +kernel
theorem dX8_keep_16 : decode cX8_keep 16 = .ok (.aload_n 0, 1) := by decide +kernel
theorem dX8_keep_17 : decode cX8_keep 17 = .ok (.getfield 35, 3) := by decide +kernel
theorem dX8_keep_20 : decode cX8_keep 20 = .ok (.bipush 28, 2) := by decide +kernel
theorem dX8_keep_22 : decode cX8_keep 22 = .ok (.iload_n 1, 1) := by decide +kernel
theorem dX8_keep_23 : decode cX8_keep 23 = .ok (.imul, 1) := by decide +kernel
theorem dX8_keep_24 : decode cX8_keep 24 = .ok (.invokestatic 168, 3) := by decide +kernel
theorem dX8_keep_27 : decode cX8_keep 27 = .ok (.aload_n 0, 1) := by decide +kernel
theorem dX8_keep_28 : decode cX8_keep 28 = .ok (.getfield 38, 3) := by decide +kernel
theorem dX8_keep_31 : decode cX8_keep 31 = .ok (.iload_n 1, 1) := by decide +kernel
theorem dX8_keep_32 : decode cX8_keep 32 = .ok (.iconst 1, 1) := by decide +kernel
theorem dX8_keep_33 : decode cX8_keep 33 = .ok (.bastore, 1) := by decide +kernel
theorem dX8_keep_34 : decode cX8_keep 34 = .ok (.aload_n 0, 1) := by decide +kernel
theorem dX8_keep_35 : decode cX8_keep 35 = .ok (.getfield 29, 3) := by decide +kernel
theorem dX8_keep_38 : decode cX8_keep 38 = .ok (.iconst 0, 1) := by decide +kernel
theorem dX8_keep_39 : decode cX8_keep 39 = .ok (.iaload, 1) := by decide +kernel
theorem dX8_keep_40 : decode cX8_keep 40 = .ok (.ireturn, 1) := by decide +kernel
theorem dX8_back_0 : decode cX8_back 0 = .ok (.iload_n 1, 1) := by decide +kernel
theorem dX8_back_1 : decode cX8_back 1 = .ok (.iconst 0, 1) := by decide +kernel
theorem dX8_back_2 : decode cX8_back 2 = .ok (.iconst 1, 1) := by decide +kernel
theorem dX8_back_3 : decode cX8_back 3 = .ok (.invokestatic 63, 3) := by decide +kernel
theorem dX8_back_6 : decode cX8_back 6 = .ok (.ifCond .ne 5, 3) := by decide +kernel
theorem dX8_back_9 : decode cX8_back 9 = .ok (.iconst (-1), 1) := by decide +kernel
theorem dX8_back_10 : decode cX8_back 10 = .ok (.ireturn, 1) := by decide +kernel
theorem dX8_back_11 : decode cX8_back 11 = .ok (.aload_n 0, 1) := by decide +kernel
theorem dX8_back_12 : decode cX8_back 12 = .ok (.getfield 38, 3) := by decide +kernel
theorem dX8_back_15 : decode cX8_back 15 = .ok (.iload_n 1, 1) := by decide +kernel
theorem dX8_back_16 : decode cX8_back 16 = .ok (.baload, 1) := by decide +kernel
theorem dX8_back_17 : decode cX8_back 17 = .ok (.ifCond .ne 6, 3) := by decide +kernel
theorem dX8_back_20 : decode cX8_back 20 = .ok (.bipush (-2), 2) := by decide +kernel
theorem dX8_back_22 : decode cX8_back 22 = .ok (.ireturn, 1) := by decide +kernel
theorem dX8_back_23 : decode cX8_back 23 = .ok (.aload_n 0, 1) := by decide +kernel
theorem dX8_back_24 : decode cX8_back 24 = .ok (.getfield 35, 3) := by decide +kernel
theorem dX8_back_27 : decode cX8_back 27 = .ok (.bipush 28, 2) := by decide +kernel
theorem dX8_back_29 : decode cX8_back 29 = .ok (.iload_n 1, 1) := by decide +kernel
theorem dX8_back_30 : decode cX8_back 30 = .ok (.imul, 1) := by decide +kernel
theorem dX8_back_31 : decode cX8_back 31 = .ok (.aload_n 0, 1) := by decide +kernel
theorem dX8_back_32 : decode cX8_back 32 = .ok (.getfield 29, 3) := by decide +kernel
theorem dX8_back_35 : decode cX8_back 35 = .ok (.iconst 0, 1) := by decide +kernel
theorem dX8_back_36 : decode cX8_back 36 = .ok (.invokestatic 168, 3) := by decide +kernel
theorem dX8_back_39 : decode cX8_back 39 = .ok (.aload_n 0, 1) := by decide +kernel
theorem dX8_back_40 : decode cX8_back 40 = .ok (.iconst 0, 1) := by decide +kernel
theorem dX8_back_41 : decode cX8_back 41 = .ok (.putfield 60, 3) := by decide +kernel
theorem dX8_back_44 : decode cX8_back 44 = .ok (.aload_n 0, 1) := by decide +kernel
theorem dX8_back_45 : decode cX8_back 45 = .ok (.getfield 29, 3) := by decide +kernel
theorem dX8_back_48 : decode cX8_back 48 = .ok (.iconst 0, 1) := by decide +kernel
theorem dX8_back_49 : decode cX8_back 49 = .ok (.iaload, 1) := by decide +kernel
theorem dX8_back_50 : decode cX8_back 50 = .ok (.ireturn, 1) := by decide +kernel
theorem dX8_count_0 : decode cX8_count 0 = .ok (.iload_n 1, 1) := by decide +kernel
theorem dX8_count_1 : decode cX8_count 1 = .ok (.tableswitch 51 0 3 #[31, 36, 41, 46], 31) := by decide +kernel
theorem dX8_count_32 : decode cX8_count 32 = .ok (.aload_n 0, 1) := by decide +kernel
theorem dX8_count_33 : decode cX8_count 33 = .ok (.getfield 19, 3) := by decide +kernel
theorem dX8_count_36 : decode cX8_count 36 = .ok (.ireturn, 1) := by decide +kernel
theorem dX8_count_37 : decode cX8_count 37 = .ok (.aload_n 0, 1) := by decide +kernel
theorem dX8_count_38 : decode cX8_count 38 = .ok (.getfield 23, 3) := by decide +kernel
theorem dX8_count_41 : decode cX8_count 41 = .ok (.ireturn, 1) := by decide +kernel
theorem dX8_count_42 : decode cX8_count 42 = .ok (.aload_n 0, 1) := by decide +kernel
theorem dX8_count_43 : decode cX8_count 43 = .ok (.getfield 57, 3) := by decide +kernel
theorem dX8_count_46 : decode cX8_count 46 = .ok (.ireturn, 1) := by decide +kernel
theorem dX8_count_47 : decode cX8_count 47 = .ok (.aload_n 0, 1) := by decide +kernel
theorem dX8_count_48 : decode cX8_count 48 = .ok (.getfield 67, 3) := by decide +kernel
theorem dX8_count_51 : decode cX8_count 51 = .ok (.ireturn, 1) := by decide +kernel
theorem dX8_count_52 : decode cX8_count 52 = .ok (.iconst (-1), 1) := by decide +kernel
theorem dX8_count_53 : decode cX8_count 53 = .ok (.ireturn, 1) := by decide +kernel
theorem dX8_trace_0 : decode cX8_trace 0 = .ok (.aload_n 0, 1) := by decide +kernel
theorem dX8_trace_1 : decode cX8_trace 1 = .ok (.getfield 223, 3) := by decide +kernel
theorem dX8_trace_4 : decode cX8_trace 4 = .ok (.lreturn, 1) := by decide +kernel
theorem dJ6_bitCount_0f7a4_0 : decode cJ6_bitCount_0f7a4 0 = .ok (.iload_n 0, 1) := by decide +kernel
theorem dJ6_bitCount_0f7a4_1 : decode cJ6_bitCount_0f7a4 1 = .ok (.iload_n 0, 1) := by decide +kernel
theorem dJ6_bitCount_0f7a4_2 : decode cJ6_bitCount_0f7a4 2 = .ok (.iconst 1, 1) := by decide +kernel
theorem dJ6_bitCount_0f7a4_3 : decode cJ6_bitCount_0f7a4 3 = .ok (.iushr, 1) := by decide +kernel
theorem dJ6_bitCount_0f7a4_4 : decode cJ6_bitCount_0f7a4 4 = .ok (.ldc_w 265, 3) := by decide +kernel
theorem dJ6_bitCount_0f7a4_7 : decode cJ6_bitCount_0f7a4 7 = .ok (.iand, 1) := by decide +kernel
theorem dJ6_bitCount_0f7a4_8 : decode cJ6_bitCount_0f7a4 8 = .ok (.isub, 1) := by decide +kernel
theorem dJ6_bitCount_0f7a4_9 : decode cJ6_bitCount_0f7a4 9 = .ok (.istore_n 0, 1) := by decide +kernel
theorem dJ6_bitCount_0f7a4_10 : decode cJ6_bitCount_0f7a4 10 = .ok (.iload_n 0, 1) := by decide +kernel
theorem dJ6_bitCount_0f7a4_11 : decode cJ6_bitCount_0f7a4 11 = .ok (.ldc_w 266, 3) := by decide +kernel
theorem dJ6_bitCount_0f7a4_14 : decode cJ6_bitCount_0f7a4 14 = .ok (.iand, 1) := by decide +kernel
theorem dJ6_bitCount_0f7a4_15 : decode cJ6_bitCount_0f7a4 15 = .ok (.iload_n 0, 1) := by decide +kernel
theorem dJ6_bitCount_0f7a4_16 : decode cJ6_bitCount_0f7a4 16 = .ok (.iconst 2, 1) := by decide +kernel
theorem dJ6_bitCount_0f7a4_17 : decode cJ6_bitCount_0f7a4 17 = .ok (.iushr, 1) := by decide +kernel
theorem dJ6_bitCount_0f7a4_18 : decode cJ6_bitCount_0f7a4 18 = .ok (.ldc_w 266, 3) := by decide +kernel
theorem dJ6_bitCount_0f7a4_21 : decode cJ6_bitCount_0f7a4 21 = .ok (.iand, 1) := by decide +kernel
theorem dJ6_bitCount_0f7a4_22 : decode cJ6_bitCount_0f7a4 22 = .ok (.iadd, 1) := by decide +kernel
theorem dJ6_bitCount_0f7a4_23 : decode cJ6_bitCount_0f7a4 23 = .ok (.istore_n 0, 1) := by decide +kernel
theorem dJ6_bitCount_0f7a4_24 : decode cJ6_bitCount_0f7a4 24 = .ok (.iload_n 0, 1) := by decide +kernel
theorem dJ6_bitCount_0f7a4_25 : decode cJ6_bitCount_0f7a4 25 = .ok (.iload_n 0, 1) := by decide +kernel
theorem dJ6_bitCount_0f7a4_26 : decode cJ6_bitCount_0f7a4 26 = .ok (.iconst 4, 1) := by decide +kernel
theorem dJ6_bitCount_0f7a4_27 : decode cJ6_bitCount_0f7a4 27 = .ok (.iushr, 1) := by decide +kernel
theorem dJ6_bitCount_0f7a4_28 : decode cJ6_bitCount_0f7a4 28 = .ok (.iadd, 1) := by decide +kernel
theorem dJ6_bitCount_0f7a4_29 : decode cJ6_bitCount_0f7a4 29 = .ok (.ldc_w 267, 3) := by decide +kernel
theorem dJ6_bitCount_0f7a4_32 : decode cJ6_bitCount_0f7a4 32 = .ok (.iand, 1) := by decide +kernel
theorem dJ6_bitCount_0f7a4_33 : decode cJ6_bitCount_0f7a4 33 = .ok (.istore_n 0, 1) := by decide +kernel
theorem dJ6_bitCount_0f7a4_34 : decode cJ6_bitCount_0f7a4 34 = .ok (.iload_n 0, 1) := by decide +kernel
theorem dJ6_bitCount_0f7a4_35 : decode cJ6_bitCount_0f7a4 35 = .ok (.iload_n 0, 1) := by decide +kernel
theorem dJ6_bitCount_0f7a4_36 : decode cJ6_bitCount_0f7a4 36 = .ok (.bipush 8, 2) := by decide +kernel
theorem dJ6_bitCount_0f7a4_38 : decode cJ6_bitCount_0f7a4 38 = .ok (.iushr, 1) := by decide +kernel
theorem dJ6_bitCount_0f7a4_39 : decode cJ6_bitCount_0f7a4 39 = .ok (.iadd, 1) := by decide +kernel
theorem dJ6_bitCount_0f7a4_40 : decode cJ6_bitCount_0f7a4 40 = .ok (.istore_n 0, 1) := by decide +kernel
theorem dJ6_bitCount_0f7a4_41 : decode cJ6_bitCount_0f7a4 41 = .ok (.iload_n 0, 1) := by decide +kernel
theorem dJ6_bitCount_0f7a4_42 : decode cJ6_bitCount_0f7a4 42 = .ok (.iload_n 0, 1) := by decide +kernel
theorem dJ6_bitCount_0f7a4_43 : decode cJ6_bitCount_0f7a4 43 = .ok (.bipush 16, 2) := by decide +kernel
theorem dJ6_bitCount_0f7a4_45 : decode cJ6_bitCount_0f7a4 45 = .ok (.iushr, 1) := by decide +kernel
theorem dJ6_bitCount_0f7a4_46 : decode cJ6_bitCount_0f7a4 46 = .ok (.iadd, 1) := by decide +kernel
theorem dJ6_bitCount_0f7a4_47 : decode cJ6_bitCount_0f7a4 47 = .ok (.istore_n 0, 1) := by decide +kernel
theorem dJ6_bitCount_0f7a4_48 : decode cJ6_bitCount_0f7a4 48 = .ok (.iload_n 0, 1) := by decide +kernel
theorem dJ6_bitCount_0f7a4_49 : decode cJ6_bitCount_0f7a4 49 = .ok (.bipush 63, 2) := by decide +kernel
theorem dJ6_bitCount_0f7a4_51 : decode cJ6_bitCount_0f7a4 51 = .ok (.iand, 1) := by decide +kernel
theorem dJ6_bitCount_0f7a4_52 : decode cJ6_bitCount_0f7a4 52 = .ok (.ireturn, 1) := by decide +kernel
theorem dJ9_abs_0f7a4_0 : decode cJ9_abs_0f7a4 0 = .ok (.iload_n 0, 1) := by decide +kernel
theorem dJ9_abs_0f7a4_1 : decode cJ9_abs_0f7a4 1 = .ok (.ifCond .ge 8, 3) := by decide +kernel
theorem dJ9_abs_0f7a4_4 : decode cJ9_abs_0f7a4 4 = .ok (.iload_n 0, 1) := by decide +kernel
theorem dJ9_abs_0f7a4_5 : decode cJ9_abs_0f7a4 5 = .ok (.ineg, 1) := by decide +kernel
theorem dJ9_abs_0f7a4_6 : decode cJ9_abs_0f7a4 6 = .ok (.goto 4, 3) := by decide +kernel
theorem dJ9_abs_0f7a4_9 : decode cJ9_abs_0f7a4 9 = .ok (.iload_n 0, 1) := by decide +kernel
theorem dJ9_abs_0f7a4_10 : decode cJ9_abs_0f7a4 10 = .ok (.ireturn, 1) := by decide +kernel
theorem dJ9_max_7cf53_0 : decode cJ9_max_7cf53 0 = .ok (.iload_n 0, 1) := by decide +kernel
theorem dJ9_max_7cf53_1 : decode cJ9_max_7cf53 1 = .ok (.iload_n 1, 1) := by decide +kernel
theorem dJ9_max_7cf53_2 : decode cJ9_max_7cf53 2 = .ok (.if_icmp .lt 7, 3) := by decide +kernel
theorem dJ9_max_7cf53_5 : decode cJ9_max_7cf53 5 = .ok (.iload_n 0, 1) := by decide +kernel
theorem dJ9_max_7cf53_6 : decode cJ9_max_7cf53 6 = .ok (.goto 4, 3) := by decide +kernel
theorem dJ9_max_7cf53_9 : decode cJ9_max_7cf53 9 = .ok (.iload_n 1, 1) := by decide +kernel
theorem dJ9_max_7cf53_10 : decode cJ9_max_7cf53 10 = .ok (.ireturn, 1) := by decide +kernel
theorem dJ9_min_7cf53_0 : decode cJ9_min_7cf53 0 = .ok (.iload_n 0, 1) := by decide +kernel
theorem dJ9_min_7cf53_1 : decode cJ9_min_7cf53 1 = .ok (.iload_n 1, 1) := by decide +kernel
theorem dJ9_min_7cf53_2 : decode cJ9_min_7cf53 2 = .ok (.if_icmp .gt 7, 3) := by decide +kernel
theorem dJ9_min_7cf53_5 : decode cJ9_min_7cf53 5 = .ok (.iload_n 0, 1) := by decide +kernel
theorem dJ9_min_7cf53_6 : decode cJ9_min_7cf53 6 = .ok (.goto 4, 3) := by decide +kernel
theorem dJ9_min_7cf53_9 : decode cJ9_min_7cf53 9 = .ok (.iload_n 1, 1) := by decide +kernel
theorem dJ9_min_7cf53_10 : decode cJ9_min_7cf53 10 = .ok (.ireturn, 1) := by decide +kernel
theorem dL_law_0 : decode cL_law 0 = .ok (.new 7, 3) := by decide +kernel
theorem dL_law_3 : decode cL_law 3 = .ok (.dup, 1) := by decide +kernel
theorem dL_law_4 : decode cL_law 4 = .ok (.invokespecial 9, 3) := by decide +kernel
theorem dL_law_7 : decode cL_law 7 = .ok (.astore_n 1, 1) := by decide +kernel
theorem dL_law_8 : decode cL_law 8 = .ok (.new 10, 3) := by decide +kernel
theorem dL_law_11 : decode cL_law 11 = .ok (.dup, 1) := by decide +kernel
theorem dL_law_12 : decode cL_law 12 = .ok (.invokespecial 12, 3) := by decide +kernel
theorem dL_law_15 : decode cL_law 15 = .ok (.astore_n 2, 1) := by decide +kernel
theorem dL_law_16 : decode cL_law 16 = .ok (.iconst 0, 1) := by decide +kernel
theorem dL_law_17 : decode cL_law 17 = .ok (.istore_n 3, 1) := by decide +kernel
theorem dL_law_18 : decode cL_law 18 = .ok (.iload_n 3, 1) := by decide +kernel
theorem dL_law_19 : decode cL_law 19 = .ok (.aload_n 0, 1) := by decide +kernel
theorem dL_law_20 : decode cL_law 20 = .ok (.arraylength, 1) := by decide +kernel
theorem dL_law_21 : decode cL_law 21 = .ok (.iconst 5, 1) := by decide +kernel
theorem dL_law_22 : decode cL_law 22 = .ok (.isub, 1) := by decide +kernel
theorem dL_law_23 : decode cL_law 23 = .ok (.if_icmp .gt 754, 3) := by decide +kernel
theorem dL_law_26 : decode cL_law 26 = .ok (.aload_n 0, 1) := by decide +kernel
theorem dL_law_27 : decode cL_law 27 = .ok (.iload_n 3, 1) := by decide +kernel
theorem dL_law_28 : decode cL_law 28 = .ok (.iaload, 1) := by decide +kernel
theorem dL_law_29 : decode cL_law 29 = .ok (.bipush 31, 2) := by decide +kernel
theorem dL_law_31 : decode cL_law 31 = .ok (.iand, 1) := by decide +kernel
theorem dL_law_32 : decode cL_law 32 = .ok (.tableswitch 739 0 25 #[120, 143, 156, 169, 202, 235, 258, 271, 294, 317, 350, 363, 406, 429, 452, 475, 488, 501, 524, 547, 570, 623, 656, 679, 702, 725], 120) := by decide +kernel
theorem dL_law_152 : decode cL_law 152 = .ok (.aload_n 1, 1) := by decide +kernel
theorem dL_law_153 : decode cL_law 153 = .ok (.aload_n 0, 1) := by decide +kernel
theorem dL_law_154 : decode cL_law 154 = .ok (.iload_n 3, 1) := by decide +kernel
theorem dL_law_155 : decode cL_law 155 = .ok (.iconst 1, 1) := by decide +kernel
theorem dL_law_156 : decode cL_law 156 = .ok (.iadd, 1) := by decide +kernel
theorem dL_law_157 : decode cL_law 157 = .ok (.iaload, 1) := by decide +kernel
theorem dL_law_158 : decode cL_law 158 = .ok (.invokevirtual 13, 3) := by decide +kernel
theorem dL_law_161 : decode cL_law 161 = .ok (.aload_n 2, 1) := by decide +kernel
theorem dL_law_162 : decode cL_law 162 = .ok (.aload_n 0, 1) := by decide +kernel
theorem dL_law_163 : decode cL_law 163 = .ok (.iload_n 3, 1) := by decide +kernel
theorem dL_law_164 : decode cL_law 164 = .ok (.iconst 1, 1) := by decide +kernel
theorem dL_law_165 : decode cL_law 165 = .ok (.iadd, 1) := by decide +kernel
theorem dL_law_166 : decode cL_law 166 = .ok (.iaload, 1) := by decide +kernel
theorem dL_law_167 : decode cL_law 167 = .ok (.invokevirtual 17, 3) := by decide +kernel
theorem dL_law_170 : decode cL_law 170 = .ok (.if_icmp .eq 601, 3) := by decide +kernel
theorem dL_law_173 : decode cL_law 173 = .ok (.iconst 0, 1) := by decide +kernel
theorem dL_law_174 : decode cL_law 174 = .ok (.ireturn, 1) := by decide +kernel
theorem dL_law_175 : decode cL_law 175 = .ok (.aload_n 1, 1) := by decide +kernel
theorem dL_law_176 : decode cL_law 176 = .ok (.invokevirtual 18, 3) := by decide +kernel
theorem dL_law_179 : decode cL_law 179 = .ok (.aload_n 2, 1) := by decide +kernel
theorem dL_law_180 : decode cL_law 180 = .ok (.invokevirtual 22, 3) := by decide +kernel
theorem dL_law_183 : decode cL_law 183 = .ok (.if_icmp .eq 588, 3) := by decide +kernel
theorem dL_law_186 : decode cL_law 186 = .ok (.iconst 0, 1) := by decide +kernel
theorem dL_law_187 : decode cL_law 187 = .ok (.ireturn, 1) := by decide +kernel
theorem dL_law_188 : decode cL_law 188 = .ok (.aload_n 1, 1) := by decide +kernel
theorem dL_law_189 : decode cL_law 189 = .ok (.invokevirtual 23, 3) := by decide +kernel
theorem dL_law_192 : decode cL_law 192 = .ok (.aload_n 2, 1) := by decide +kernel
theorem dL_law_193 : decode cL_law 193 = .ok (.invokevirtual 26, 3) := by decide +kernel
theorem dL_law_196 : decode cL_law 196 = .ok (.if_icmp .eq 575, 3) := by decide +kernel
theorem dL_law_199 : decode cL_law 199 = .ok (.iconst 0, 1) := by decide +kernel
theorem dL_law_200 : decode cL_law 200 = .ok (.ireturn, 1) := by decide +kernel
theorem dL_law_201 : decode cL_law 201 = .ok (.aload_n 1, 1) := by decide +kernel
theorem dL_law_202 : decode cL_law 202 = .ok (.aload_n 0, 1) := by decide +kernel
theorem dL_law_203 : decode cL_law 203 = .ok (.iload_n 3, 1) := by decide +kernel
theorem dL_law_204 : decode cL_law 204 = .ok (.iconst 1, 1) := by decide +kernel
theorem dL_law_205 : decode cL_law 205 = .ok (.iadd, 1) := by decide +kernel
theorem dL_law_206 : decode cL_law 206 = .ok (.iaload, 1) := by decide +kernel
theorem dL_law_207 : decode cL_law 207 = .ok (.aload_n 0, 1) := by decide +kernel
theorem dL_law_208 : decode cL_law 208 = .ok (.iload_n 3, 1) := by decide +kernel
theorem dL_law_209 : decode cL_law 209 = .ok (.iconst 2, 1) := by decide +kernel
theorem dL_law_210 : decode cL_law 210 = .ok (.iadd, 1) := by decide +kernel
theorem dL_law_211 : decode cL_law 211 = .ok (.iaload, 1) := by decide +kernel
theorem dL_law_212 : decode cL_law 212 = .ok (.invokevirtual 27, 3) := by decide +kernel
theorem dL_law_215 : decode cL_law 215 = .ok (.aload_n 2, 1) := by decide +kernel
theorem dL_law_216 : decode cL_law 216 = .ok (.aload_n 0, 1) := by decide +kernel
theorem dL_law_217 : decode cL_law 217 = .ok (.iload_n 3, 1) := by decide +kernel
theorem dL_law_218 : decode cL_law 218 = .ok (.iconst 1, 1) := by decide +kernel
theorem dL_law_219 : decode cL_law 219 = .ok (.iadd, 1) := by decide +kernel
theorem dL_law_220 : decode cL_law 220 = .ok (.iaload, 1) := by decide +kernel
theorem dL_law_221 : decode cL_law 221 = .ok (.aload_n 0, 1) := by decide +kernel
theorem dL_law_222 : decode cL_law 222 = .ok (.iload_n 3, 1) := by decide +kernel
theorem dL_law_223 : decode cL_law 223 = .ok (.iconst 2, 1) := by decide +kernel
theorem dL_law_224 : decode cL_law 224 = .ok (.iadd, 1) := by decide +kernel
theorem dL_law_225 : decode cL_law 225 = .ok (.iaload, 1) := by decide +kernel
theorem dL_law_226 : decode cL_law 226 = .ok (.invokevirtual 31, 3) := by decide +kernel
theorem dL_law_229 : decode cL_law 229 = .ok (.if_icmp .eq 542, 3) := by decide +kernel
theorem dL_law_232 : decode cL_law 232 = .ok (.iconst 0, 1) := by decide +kernel
theorem dL_law_233 : decode cL_law 233 = .ok (.ireturn, 1) := by decide +kernel
theorem dL_law_234 : decode cL_law 234 = .ok (.aload_n 1, 1) := by decide +kernel
theorem dL_law_235 : decode cL_law 235 = .ok (.aload_n 0, 1) := by decide +kernel
theorem dL_law_236 : decode cL_law 236 = .ok (.iload_n 3, 1) := by decide +kernel
theorem dL_law_237 : decode cL_law 237 = .ok (.iconst 1, 1) := by decide +kernel
theorem dL_law_238 : decode cL_law 238 = .ok (.iadd, 1) := by decide +kernel
theorem dL_law_239 : decode cL_law 239 = .ok (.iaload, 1) := by decide +kernel
theorem dL_law_240 : decode cL_law 240 = .ok (.aload_n 0, 1) := by decide +kernel
theorem dL_law_241 : decode cL_law 241 = .ok (.iload_n 3, 1) := by decide +kernel
theorem dL_law_242 : decode cL_law 242 = .ok (.iconst 2, 1) := by decide +kernel
theorem dL_law_243 : decode cL_law 243 = .ok (.iadd, 1) := by decide +kernel
theorem dL_law_244 : decode cL_law 244 = .ok (.iaload, 1) := by decide +kernel
theorem dL_law_245 : decode cL_law 245 = .ok (.invokevirtual 32, 3) := by decide +kernel
theorem dL_law_248 : decode cL_law 248 = .ok (.aload_n 2, 1) := by decide +kernel
theorem dL_law_249 : decode cL_law 249 = .ok (.aload_n 0, 1) := by decide +kernel
theorem dL_law_250 : decode cL_law 250 = .ok (.iload_n 3, 1) := by decide +kernel
theorem dL_law_251 : decode cL_law 251 = .ok (.iconst 1, 1) := by decide +kernel
theorem dL_law_252 : decode cL_law 252 = .ok (.iadd, 1) := by decide +kernel
theorem dL_law_253 : decode cL_law 253 = .ok (.iaload, 1) := by decide +kernel
theorem dL_law_254 : decode cL_law 254 = .ok (.aload_n 0, 1) := by decide +kernel
theorem dL_law_255 : decode cL_law 255 = .ok (.iload_n 3, 1) := by decide +kernel
theorem dL_law_256 : decode cL_law 256 = .ok (.iconst 2, 1) := by decide +kernel
theorem dL_law_257 : decode cL_law 257 = .ok (.iadd, 1) := by decide +kernel
theorem dL_law_258 : decode cL_law 258 = .ok (.iaload, 1) := by decide +kernel
theorem dL_law_259 : decode cL_law 259 = .ok (.invokevirtual 35, 3) := by decide +kernel
theorem dL_law_262 : decode cL_law 262 = .ok (.if_icmp .eq 509, 3) := by decide +kernel
theorem dL_law_265 : decode cL_law 265 = .ok (.iconst 0, 1) := by decide +kernel
theorem dL_law_266 : decode cL_law 266 = .ok (.ireturn, 1) := by decide +kernel
theorem dL_law_267 : decode cL_law 267 = .ok (.aload_n 1, 1) := by decide +kernel
theorem dL_law_268 : decode cL_law 268 = .ok (.aload_n 0, 1) := by decide +kernel
theorem dL_law_269 : decode cL_law 269 = .ok (.iload_n 3, 1) := by decide +kernel
theorem dL_law_270 : decode cL_law 270 = .ok (.iconst 1, 1) := by decide +kernel
theorem dL_law_271 : decode cL_law 271 = .ok (.iadd, 1) := by decide +kernel
theorem dL_law_272 : decode cL_law 272 = .ok (.iaload, 1) := by decide +kernel
theorem dL_law_273 : decode cL_law 273 = .ok (.invokevirtual 36, 3) := by decide +kernel
theorem dL_law_276 : decode cL_law 276 = .ok (.aload_n 2, 1) := by decide +kernel
theorem dL_law_277 : decode cL_law 277 = .ok (.aload_n 0, 1) := by decide +kernel
theorem dL_law_278 : decode cL_law 278 = .ok (.iload_n 3, 1) := by decide +kernel
theorem dL_law_279 : decode cL_law 279 = .ok (.iconst 1, 1) := by decide +kernel
theorem dL_law_280 : decode cL_law 280 = .ok (.iadd, 1) := by decide +kernel
theorem dL_law_281 : decode cL_law 281 = .ok (.iaload, 1) := by decide +kernel
theorem dL_law_282 : decode cL_law 282 = .ok (.invokevirtual 39, 3) := by decide +kernel
theorem dL_law_285 : decode cL_law 285 = .ok (.if_icmp .eq 486, 3) := by decide +kernel
theorem dL_law_288 : decode cL_law 288 = .ok (.iconst 0, 1) := by decide +kernel
theorem dL_law_289 : decode cL_law 289 = .ok (.ireturn, 1) := by decide +kernel
theorem dL_law_290 : decode cL_law 290 = .ok (.aload_n 1, 1) := by decide +kernel
theorem dL_law_291 : decode cL_law 291 = .ok (.invokevirtual 40, 3) := by decide +kernel
theorem dL_law_294 : decode cL_law 294 = .ok (.aload_n 2, 1) := by decide +kernel
theorem dL_law_295 : decode cL_law 295 = .ok (.invokevirtual 43, 3) := by decide +kernel
theorem dL_law_298 : decode cL_law 298 = .ok (.if_icmp .eq 473, 3) := by decide +kernel
theorem dL_law_301 : decode cL_law 301 = .ok (.iconst 0, 1) := by decide +kernel
theorem dL_law_302 : decode cL_law 302 = .ok (.ireturn, 1) := by decide +kernel
theorem dL_law_303 : decode cL_law 303 = .ok (.aload_n 1, 1) := by decide +kernel
theorem dL_law_304 : decode cL_law 304 = .ok (.aload_n 0, 1) := by decide +kernel
theorem dL_law_305 : decode cL_law 305 = .ok (.iload_n 3, 1) := by decide +kernel
theorem dL_law_306 : decode cL_law 306 = .ok (.iconst 1, 1) := by decide +kernel
theorem dL_law_307 : decode cL_law 307 = .ok (.iadd, 1) := by decide +kernel
theorem dL_law_308 : decode cL_law 308 = .ok (.iaload, 1) := by decide +kernel
theorem dL_law_309 : decode cL_law 309 = .ok (.invokevirtual 44, 3) := by decide +kernel
theorem dL_law_312 : decode cL_law 312 = .ok (.aload_n 2, 1) := by decide +kernel
theorem dL_law_313 : decode cL_law 313 = .ok (.aload_n 0, 1) := by decide +kernel
theorem dL_law_314 : decode cL_law 314 = .ok (.iload_n 3, 1) := by decide +kernel
theorem dL_law_315 : decode cL_law 315 = .ok (.iconst 1, 1) := by decide +kernel
theorem dL_law_316 : decode cL_law 316 = .ok (.iadd, 1) := by decide +kernel
theorem dL_law_317 : decode cL_law 317 = .ok (.iaload, 1) := by decide +kernel
theorem dL_law_318 : decode cL_law 318 = .ok (.invokevirtual 47, 3) := by decide +kernel
theorem dL_law_321 : decode cL_law 321 = .ok (.if_icmp .eq 450, 3) := by decide +kernel
theorem dL_law_324 : decode cL_law 324 = .ok (.iconst 0, 1) := by decide +kernel
theorem dL_law_325 : decode cL_law 325 = .ok (.ireturn, 1) := by decide +kernel
theorem dL_law_326 : decode cL_law 326 = .ok (.aload_n 1, 1) := by decide +kernel
theorem dL_law_327 : decode cL_law 327 = .ok (.aload_n 0, 1) := by decide +kernel
theorem dL_law_328 : decode cL_law 328 = .ok (.iload_n 3, 1) := by decide +kernel
theorem dL_law_329 : decode cL_law 329 = .ok (.iconst 1, 1) := by decide +kernel
theorem dL_law_330 : decode cL_law 330 = .ok (.iadd, 1) := by decide +kernel
theorem dL_law_331 : decode cL_law 331 = .ok (.iaload, 1) := by decide +kernel
theorem dL_law_332 : decode cL_law 332 = .ok (.invokevirtual 48, 3) := by decide +kernel
theorem dL_law_335 : decode cL_law 335 = .ok (.aload_n 2, 1) := by decide +kernel
theorem dL_law_336 : decode cL_law 336 = .ok (.aload_n 0, 1) := by decide +kernel
theorem dL_law_337 : decode cL_law 337 = .ok (.iload_n 3, 1) := by decide +kernel
theorem dL_law_338 : decode cL_law 338 = .ok (.iconst 1, 1) := by decide +kernel
theorem dL_law_339 : decode cL_law 339 = .ok (.iadd, 1) := by decide +kernel
theorem dL_law_340 : decode cL_law 340 = .ok (.iaload, 1) := by decide +kernel
theorem dL_law_341 : decode cL_law 341 = .ok (.invokevirtual 51, 3) := by decide +kernel
theorem dL_law_344 : decode cL_law 344 = .ok (.if_icmp .eq 427, 3) := by decide +kernel
theorem dL_law_347 : decode cL_law 347 = .ok (.iconst 0, 1) := by decide +kernel
theorem dL_law_348 : decode cL_law 348 = .ok (.ireturn, 1) := by decide +kernel
theorem dL_law_349 : decode cL_law 349 = .ok (.aload_n 1, 1) := by decide +kernel
theorem dL_law_350 : decode cL_law 350 = .ok (.aload_n 0, 1) := by decide +kernel
theorem dL_law_351 : decode cL_law 351 = .ok (.iload_n 3, 1) := by decide +kernel
theorem dL_law_352 : decode cL_law 352 = .ok (.iconst 1, 1) := by decide +kernel
theorem dL_law_353 : decode cL_law 353 = .ok (.iadd, 1) := by decide +kernel
theorem dL_law_354 : decode cL_law 354 = .ok (.iaload, 1) := by decide +kernel
theorem dL_law_355 : decode cL_law 355 = .ok (.aload_n 0, 1) := by decide +kernel
theorem dL_law_356 : decode cL_law 356 = .ok (.iload_n 3, 1) := by decide +kernel
theorem dL_law_357 : decode cL_law 357 = .ok (.iconst 2, 1) := by decide +kernel
theorem dL_law_358 : decode cL_law 358 = .ok (.iadd, 1) := by decide +kernel
theorem dL_law_359 : decode cL_law 359 = .ok (.iaload, 1) := by decide +kernel
theorem dL_law_360 : decode cL_law 360 = .ok (.invokevirtual 52, 3) := by decide +kernel
theorem dL_law_363 : decode cL_law 363 = .ok (.aload_n 2, 1) := by decide +kernel
theorem dL_law_364 : decode cL_law 364 = .ok (.aload_n 0, 1) := by decide +kernel
theorem dL_law_365 : decode cL_law 365 = .ok (.iload_n 3, 1) := by decide +kernel
theorem dL_law_366 : decode cL_law 366 = .ok (.iconst 1, 1) := by decide +kernel
theorem dL_law_367 : decode cL_law 367 = .ok (.iadd, 1) := by decide +kernel
theorem dL_law_368 : decode cL_law 368 = .ok (.iaload, 1) := by decide +kernel
theorem dL_law_369 : decode cL_law 369 = .ok (.aload_n 0, 1) := by decide +kernel
theorem dL_law_370 : decode cL_law 370 = .ok (.iload_n 3, 1) := by decide +kernel
theorem dL_law_371 : decode cL_law 371 = .ok (.iconst 2, 1) := by decide +kernel
theorem dL_law_372 : decode cL_law 372 = .ok (.iadd, 1) := by decide +kernel
theorem dL_law_373 : decode cL_law 373 = .ok (.iaload, 1) := by decide +kernel
theorem dL_law_374 : decode cL_law 374 = .ok (.invokevirtual 55, 3) := by decide +kernel
theorem dL_law_377 : decode cL_law 377 = .ok (.if_icmp .eq 394, 3) := by decide +kernel
theorem dL_law_380 : decode cL_law 380 = .ok (.iconst 0, 1) := by decide +kernel
theorem dL_law_381 : decode cL_law 381 = .ok (.ireturn, 1) := by decide +kernel
theorem dL_law_382 : decode cL_law 382 = .ok (.aload_n 1, 1) := by decide +kernel
theorem dL_law_383 : decode cL_law 383 = .ok (.invokevirtual 56, 3) := by decide +kernel
theorem dL_law_386 : decode cL_law 386 = .ok (.aload_n 2, 1) := by decide +kernel
theorem dL_law_387 : decode cL_law 387 = .ok (.invokevirtual 59, 3) := by decide +kernel
theorem dL_law_390 : decode cL_law 390 = .ok (.if_icmp .eq 381, 3) := by decide +kernel
theorem dL_law_393 : decode cL_law 393 = .ok (.iconst 0, 1) := by decide +kernel
theorem dL_law_394 : decode cL_law 394 = .ok (.ireturn, 1) := by decide +kernel
theorem dL_law_395 : decode cL_law 395 = .ok (.aload_n 1, 1) := by decide +kernel
theorem dL_law_396 : decode cL_law 396 = .ok (.aload_n 0, 1) := by decide +kernel
theorem dL_law_397 : decode cL_law 397 = .ok (.iload_n 3, 1) := by decide +kernel
theorem dL_law_398 : decode cL_law 398 = .ok (.iconst 1, 1) := by decide +kernel
theorem dL_law_399 : decode cL_law 399 = .ok (.iadd, 1) := by decide +kernel
theorem dL_law_400 : decode cL_law 400 = .ok (.iaload, 1) := by decide +kernel
theorem dL_law_401 : decode cL_law 401 = .ok (.aload_n 0, 1) := by decide +kernel
theorem dL_law_402 : decode cL_law 402 = .ok (.iload_n 3, 1) := by decide +kernel
theorem dL_law_403 : decode cL_law 403 = .ok (.iconst 2, 1) := by decide +kernel
theorem dL_law_404 : decode cL_law 404 = .ok (.iadd, 1) := by decide +kernel
theorem dL_law_405 : decode cL_law 405 = .ok (.iaload, 1) := by decide +kernel
theorem dL_law_406 : decode cL_law 406 = .ok (.aload_n 0, 1) := by decide +kernel
theorem dL_law_407 : decode cL_law 407 = .ok (.iload_n 3, 1) := by decide +kernel
theorem dL_law_408 : decode cL_law 408 = .ok (.iconst 3, 1) := by decide +kernel
theorem dL_law_409 : decode cL_law 409 = .ok (.iadd, 1) := by decide +kernel
theorem dL_law_410 : decode cL_law 410 = .ok (.iaload, 1) := by decide +kernel
theorem dL_law_411 : decode cL_law 411 = .ok (.invokevirtual 60, 3) := by decide +kernel
theorem dL_law_414 : decode cL_law 414 = .ok (.aload_n 2, 1) := by decide +kernel
theorem dL_law_415 : decode cL_law 415 = .ok (.aload_n 0, 1) := by decide +kernel
theorem dL_law_416 : decode cL_law 416 = .ok (.iload_n 3, 1) := by decide +kernel
theorem dL_law_417 : decode cL_law 417 = .ok (.iconst 1, 1) := by decide +kernel
theorem dL_law_418 : decode cL_law 418 = .ok (.iadd, 1) := by decide +kernel
theorem dL_law_419 : decode cL_law 419 = .ok (.iaload, 1) := by decide +kernel
theorem dL_law_420 : decode cL_law 420 = .ok (.aload_n 0, 1) := by decide +kernel
theorem dL_law_421 : decode cL_law 421 = .ok (.iload_n 3, 1) := by decide +kernel
theorem dL_law_422 : decode cL_law 422 = .ok (.iconst 2, 1) := by decide +kernel
theorem dL_law_423 : decode cL_law 423 = .ok (.iadd, 1) := by decide +kernel
theorem dL_law_424 : decode cL_law 424 = .ok (.iaload, 1) := by decide +kernel
theorem dL_law_425 : decode cL_law 425 = .ok (.aload_n 0, 1) := by decide +kernel
theorem dL_law_426 : decode cL_law 426 = .ok (.iload_n 3, 1) := by decide +kernel
theorem dL_law_427 : decode cL_law 427 = .ok (.iconst 3, 1) := by decide +kernel
theorem dL_law_428 : decode cL_law 428 = .ok (.iadd, 1) := by decide +kernel
theorem dL_law_429 : decode cL_law 429 = .ok (.iaload, 1) := by decide +kernel
theorem dL_law_430 : decode cL_law 430 = .ok (.invokevirtual 64, 3) := by decide +kernel
theorem dL_law_433 : decode cL_law 433 = .ok (.if_icmp .eq 338, 3) := by decide +kernel
theorem dL_law_436 : decode cL_law 436 = .ok (.iconst 0, 1) := by decide +kernel
theorem dL_law_437 : decode cL_law 437 = .ok (.ireturn, 1) := by decide +kernel
theorem dL_law_438 : decode cL_law 438 = .ok (.aload_n 1, 1) := by decide +kernel
theorem dL_law_439 : decode cL_law 439 = .ok (.aload_n 0, 1) := by decide +kernel
theorem dL_law_440 : decode cL_law 440 = .ok (.iload_n 3, 1) := by decide +kernel
theorem dL_law_441 : decode cL_law 441 = .ok (.iconst 1, 1) := by decide +kernel
theorem dL_law_442 : decode cL_law 442 = .ok (.iadd, 1) := by decide +kernel
theorem dL_law_443 : decode cL_law 443 = .ok (.iaload, 1) := by decide +kernel
theorem dL_law_444 : decode cL_law 444 = .ok (.invokevirtual 65, 3) := by decide +kernel
theorem dL_law_447 : decode cL_law 447 = .ok (.aload_n 2, 1) := by decide +kernel
theorem dL_law_448 : decode cL_law 448 = .ok (.aload_n 0, 1) := by decide +kernel
theorem dL_law_449 : decode cL_law 449 = .ok (.iload_n 3, 1) := by decide +kernel
theorem dL_law_450 : decode cL_law 450 = .ok (.iconst 1, 1) := by decide +kernel
theorem dL_law_451 : decode cL_law 451 = .ok (.iadd, 1) := by decide +kernel
theorem dL_law_452 : decode cL_law 452 = .ok (.iaload, 1) := by decide +kernel
theorem dL_law_453 : decode cL_law 453 = .ok (.invokevirtual 68, 3) := by decide +kernel
theorem dL_law_456 : decode cL_law 456 = .ok (.if_icmp .eq 315, 3) := by decide +kernel
theorem dL_law_459 : decode cL_law 459 = .ok (.iconst 0, 1) := by decide +kernel
theorem dL_law_460 : decode cL_law 460 = .ok (.ireturn, 1) := by decide +kernel
theorem dL_law_461 : decode cL_law 461 = .ok (.aload_n 1, 1) := by decide +kernel
theorem dL_law_462 : decode cL_law 462 = .ok (.aload_n 0, 1) := by decide +kernel
theorem dL_law_463 : decode cL_law 463 = .ok (.iload_n 3, 1) := by decide +kernel
theorem dL_law_464 : decode cL_law 464 = .ok (.iconst 1, 1) := by decide +kernel
theorem dL_law_465 : decode cL_law 465 = .ok (.iadd, 1) := by decide +kernel
theorem dL_law_466 : decode cL_law 466 = .ok (.iaload, 1) := by decide +kernel
theorem dL_law_467 : decode cL_law 467 = .ok (.invokevirtual 69, 3) := by decide +kernel
theorem dL_law_470 : decode cL_law 470 = .ok (.aload_n 2, 1) := by decide +kernel
theorem dL_law_471 : decode cL_law 471 = .ok (.aload_n 0, 1) := by decide +kernel
theorem dL_law_472 : decode cL_law 472 = .ok (.iload_n 3, 1) := by decide +kernel
theorem dL_law_473 : decode cL_law 473 = .ok (.iconst 1, 1) := by decide +kernel
theorem dL_law_474 : decode cL_law 474 = .ok (.iadd, 1) := by decide +kernel
theorem dL_law_475 : decode cL_law 475 = .ok (.iaload, 1) := by decide +kernel
theorem dL_law_476 : decode cL_law 476 = .ok (.invokevirtual 72, 3) := by decide +kernel
theorem dL_law_479 : decode cL_law 479 = .ok (.if_icmp .eq 292, 3) := by decide +kernel
theorem dL_law_482 : decode cL_law 482 = .ok (.iconst 0, 1) := by decide +kernel
theorem dL_law_483 : decode cL_law 483 = .ok (.ireturn, 1) := by decide +kernel
theorem dL_law_484 : decode cL_law 484 = .ok (.aload_n 1, 1) := by decide +kernel
theorem dL_law_485 : decode cL_law 485 = .ok (.aload_n 0, 1) := by decide +kernel
theorem dL_law_486 : decode cL_law 486 = .ok (.iload_n 3, 1) := by decide +kernel
theorem dL_law_487 : decode cL_law 487 = .ok (.iconst 1, 1) := by decide +kernel
theorem dL_law_488 : decode cL_law 488 = .ok (.iadd, 1) := by decide +kernel
theorem dL_law_489 : decode cL_law 489 = .ok (.iaload, 1) := by decide +kernel
theorem dL_law_490 : decode cL_law 490 = .ok (.invokevirtual 73, 3) := by decide +kernel
theorem dL_law_493 : decode cL_law 493 = .ok (.aload_n 2, 1) := by decide +kernel
theorem dL_law_494 : decode cL_law 494 = .ok (.aload_n 0, 1) := by decide +kernel
theorem dL_law_495 : decode cL_law 495 = .ok (.iload_n 3, 1) := by decide +kernel
theorem dL_law_496 : decode cL_law 496 = .ok (.iconst 1, 1) := by decide +kernel
theorem dL_law_497 : decode cL_law 497 = .ok (.iadd, 1) := by decide +kernel
theorem dL_law_498 : decode cL_law 498 = .ok (.iaload, 1) := by decide +kernel
theorem dL_law_499 : decode cL_law 499 = .ok (.invokevirtual 76, 3) := by decide +kernel
theorem dL_law_502 : decode cL_law 502 = .ok (.if_icmp .eq 269, 3) := by decide +kernel
theorem dL_law_505 : decode cL_law 505 = .ok (.iconst 0, 1) := by decide +kernel
theorem dL_law_506 : decode cL_law 506 = .ok (.ireturn, 1) := by decide +kernel
theorem dL_law_507 : decode cL_law 507 = .ok (.aload_n 1, 1) := by decide +kernel
theorem dL_law_508 : decode cL_law 508 = .ok (.invokevirtual 77, 3) := by decide +kernel
theorem dL_law_511 : decode cL_law 511 = .ok (.aload_n 2, 1) := by decide +kernel
theorem dL_law_512 : decode cL_law 512 = .ok (.invokevirtual 80, 3) := by decide +kernel
theorem dL_law_515 : decode cL_law 515 = .ok (.if_icmp .eq 256, 3) := by decide +kernel
theorem dL_law_518 : decode cL_law 518 = .ok (.iconst 0, 1) := by decide +kernel
theorem dL_law_519 : decode cL_law 519 = .ok (.ireturn, 1) := by decide +kernel
theorem dL_law_520 : decode cL_law 520 = .ok (.aload_n 1, 1) := by decide +kernel
theorem dL_law_521 : decode cL_law 521 = .ok (.invokevirtual 81, 3) := by decide +kernel
theorem dL_law_524 : decode cL_law 524 = .ok (.aload_n 2, 1) := by decide +kernel
theorem dL_law_525 : decode cL_law 525 = .ok (.invokevirtual 84, 3) := by decide +kernel
theorem dL_law_528 : decode cL_law 528 = .ok (.if_icmp .eq 243, 3) := by decide +kernel
theorem dL_law_531 : decode cL_law 531 = .ok (.iconst 0, 1) := by decide +kernel
theorem dL_law_532 : decode cL_law 532 = .ok (.ireturn, 1) := by decide +kernel
theorem dL_law_533 : decode cL_law 533 = .ok (.aload_n 1, 1) := by decide +kernel
theorem dL_law_534 : decode cL_law 534 = .ok (.aload_n 0, 1) := by decide +kernel
theorem dL_law_535 : decode cL_law 535 = .ok (.iload_n 3, 1) := by decide +kernel
theorem dL_law_536 : decode cL_law 536 = .ok (.iconst 1, 1) := by decide +kernel
theorem dL_law_537 : decode cL_law 537 = .ok (.iadd, 1) := by decide +kernel
theorem dL_law_538 : decode cL_law 538 = .ok (.iaload, 1) := by decide +kernel
theorem dL_law_539 : decode cL_law 539 = .ok (.invokevirtual 85, 3) := by decide +kernel
theorem dL_law_542 : decode cL_law 542 = .ok (.aload_n 2, 1) := by decide +kernel
theorem dL_law_543 : decode cL_law 543 = .ok (.aload_n 0, 1) := by decide +kernel
theorem dL_law_544 : decode cL_law 544 = .ok (.iload_n 3, 1) := by decide +kernel
theorem dL_law_545 : decode cL_law 545 = .ok (.iconst 1, 1) := by decide +kernel
theorem dL_law_546 : decode cL_law 546 = .ok (.iadd, 1) := by decide +kernel
theorem dL_law_547 : decode cL_law 547 = .ok (.iaload, 1) := by decide +kernel
theorem dL_law_548 : decode cL_law 548 = .ok (.invokevirtual 88, 3) := by decide +kernel
theorem dL_law_551 : decode cL_law 551 = .ok (.if_icmp .eq 220, 3) := by decide +kernel
theorem dL_law_554 : decode cL_law 554 = .ok (.iconst 0, 1) := by decide +kernel
theorem dL_law_555 : decode cL_law 555 = .ok (.ireturn, 1) := by decide +kernel
theorem dL_law_556 : decode cL_law 556 = .ok (.aload_n 1, 1) := by decide +kernel
theorem dL_law_557 : decode cL_law 557 = .ok (.aload_n 0, 1) := by decide +kernel
theorem dL_law_558 : decode cL_law 558 = .ok (.iload_n 3, 1) := by decide +kernel
theorem dL_law_559 : decode cL_law 559 = .ok (.iconst 1, 1) := by decide +kernel
theorem dL_law_560 : decode cL_law 560 = .ok (.iadd, 1) := by decide +kernel
theorem dL_law_561 : decode cL_law 561 = .ok (.iaload, 1) := by decide +kernel
theorem dL_law_562 : decode cL_law 562 = .ok (.invokevirtual 89, 3) := by decide +kernel
theorem dL_law_565 : decode cL_law 565 = .ok (.aload_n 2, 1) := by decide +kernel
theorem dL_law_566 : decode cL_law 566 = .ok (.aload_n 0, 1) := by decide +kernel
theorem dL_law_567 : decode cL_law 567 = .ok (.iload_n 3, 1) := by decide +kernel
theorem dL_law_568 : decode cL_law 568 = .ok (.iconst 1, 1) := by decide +kernel
theorem dL_law_569 : decode cL_law 569 = .ok (.iadd, 1) := by decide +kernel
theorem dL_law_570 : decode cL_law 570 = .ok (.iaload, 1) := by decide +kernel
theorem dL_law_571 : decode cL_law 571 = .ok (.invokevirtual 92, 3) := by decide +kernel
theorem dL_law_574 : decode cL_law 574 = .ok (.if_icmp .eq 197, 3) := by decide +kernel
theorem dL_law_577 : decode cL_law 577 = .ok (.iconst 0, 1) := by decide +kernel
theorem dL_law_578 : decode cL_law 578 = .ok (.ireturn, 1) := by decide +kernel
theorem dL_law_579 : decode cL_law 579 = .ok (.aload_n 1, 1) := by decide +kernel
theorem dL_law_580 : decode cL_law 580 = .ok (.aload_n 0, 1) := by decide +kernel
theorem dL_law_581 : decode cL_law 581 = .ok (.iload_n 3, 1) := by decide +kernel
theorem dL_law_582 : decode cL_law 582 = .ok (.iconst 1, 1) := by decide +kernel
theorem dL_law_583 : decode cL_law 583 = .ok (.iadd, 1) := by decide +kernel
theorem dL_law_584 : decode cL_law 584 = .ok (.iaload, 1) := by decide +kernel
theorem dL_law_585 : decode cL_law 585 = .ok (.invokevirtual 93, 3) := by decide +kernel
theorem dL_law_588 : decode cL_law 588 = .ok (.aload_n 2, 1) := by decide +kernel
theorem dL_law_589 : decode cL_law 589 = .ok (.aload_n 0, 1) := by decide +kernel
theorem dL_law_590 : decode cL_law 590 = .ok (.iload_n 3, 1) := by decide +kernel
theorem dL_law_591 : decode cL_law 591 = .ok (.iconst 1, 1) := by decide +kernel
theorem dL_law_592 : decode cL_law 592 = .ok (.iadd, 1) := by decide +kernel
theorem dL_law_593 : decode cL_law 593 = .ok (.iaload, 1) := by decide +kernel
theorem dL_law_594 : decode cL_law 594 = .ok (.invokevirtual 96, 3) := by decide +kernel
theorem dL_law_597 : decode cL_law 597 = .ok (.if_icmp .eq 174, 3) := by decide +kernel
theorem dL_law_600 : decode cL_law 600 = .ok (.iconst 0, 1) := by decide +kernel
theorem dL_law_601 : decode cL_law 601 = .ok (.ireturn, 1) := by decide +kernel
theorem dL_law_602 : decode cL_law 602 = .ok (.aload_n 1, 1) := by decide +kernel
theorem dL_law_603 : decode cL_law 603 = .ok (.aload_n 0, 1) := by decide +kernel
theorem dL_law_604 : decode cL_law 604 = .ok (.iload_n 3, 1) := by decide +kernel
theorem dL_law_605 : decode cL_law 605 = .ok (.iconst 1, 1) := by decide +kernel
theorem dL_law_606 : decode cL_law 606 = .ok (.iadd, 1) := by decide +kernel
theorem dL_law_607 : decode cL_law 607 = .ok (.iaload, 1) := by decide +kernel
theorem dL_law_608 : decode cL_law 608 = .ok (.aload_n 0, 1) := by decide +kernel
theorem dL_law_609 : decode cL_law 609 = .ok (.iload_n 3, 1) := by decide +kernel
theorem dL_law_610 : decode cL_law 610 = .ok (.iconst 2, 1) := by decide +kernel
theorem dL_law_611 : decode cL_law 611 = .ok (.iadd, 1) := by decide +kernel
theorem dL_law_612 : decode cL_law 612 = .ok (.iaload, 1) := by decide +kernel
theorem dL_law_613 : decode cL_law 613 = .ok (.aload_n 0, 1) := by decide +kernel
theorem dL_law_614 : decode cL_law 614 = .ok (.iload_n 3, 1) := by decide +kernel
theorem dL_law_615 : decode cL_law 615 = .ok (.iconst 3, 1) := by decide +kernel
theorem dL_law_616 : decode cL_law 616 = .ok (.iadd, 1) := by decide +kernel
theorem dL_law_617 : decode cL_law 617 = .ok (.iaload, 1) := by decide +kernel
theorem dL_law_618 : decode cL_law 618 = .ok (.aload_n 0, 1) := by decide +kernel
theorem dL_law_619 : decode cL_law 619 = .ok (.iload_n 3, 1) := by decide +kernel
theorem dL_law_620 : decode cL_law 620 = .ok (.iconst 4, 1) := by decide +kernel
theorem dL_law_621 : decode cL_law 621 = .ok (.iadd, 1) := by decide +kernel
theorem dL_law_622 : decode cL_law 622 = .ok (.iaload, 1) := by decide +kernel
theorem dL_law_623 : decode cL_law 623 = .ok (.invokevirtual 97, 3) := by decide +kernel
theorem dL_law_626 : decode cL_law 626 = .ok (.aload_n 2, 1) := by decide +kernel
theorem dL_law_627 : decode cL_law 627 = .ok (.aload_n 0, 1) := by decide +kernel
theorem dL_law_628 : decode cL_law 628 = .ok (.iload_n 3, 1) := by decide +kernel
theorem dL_law_629 : decode cL_law 629 = .ok (.iconst 1, 1) := by decide +kernel
theorem dL_law_630 : decode cL_law 630 = .ok (.iadd, 1) := by decide +kernel
theorem dL_law_631 : decode cL_law 631 = .ok (.iaload, 1) := by decide +kernel
theorem dL_law_632 : decode cL_law 632 = .ok (.aload_n 0, 1) := by decide +kernel
theorem dL_law_633 : decode cL_law 633 = .ok (.iload_n 3, 1) := by decide +kernel
theorem dL_law_634 : decode cL_law 634 = .ok (.iconst 2, 1) := by decide +kernel
theorem dL_law_635 : decode cL_law 635 = .ok (.iadd, 1) := by decide +kernel
theorem dL_law_636 : decode cL_law 636 = .ok (.iaload, 1) := by decide +kernel
theorem dL_law_637 : decode cL_law 637 = .ok (.aload_n 0, 1) := by decide +kernel
theorem dL_law_638 : decode cL_law 638 = .ok (.iload_n 3, 1) := by decide +kernel
theorem dL_law_639 : decode cL_law 639 = .ok (.iconst 3, 1) := by decide +kernel
theorem dL_law_640 : decode cL_law 640 = .ok (.iadd, 1) := by decide +kernel
theorem dL_law_641 : decode cL_law 641 = .ok (.iaload, 1) := by decide +kernel
theorem dL_law_642 : decode cL_law 642 = .ok (.aload_n 0, 1) := by decide +kernel
theorem dL_law_643 : decode cL_law 643 = .ok (.iload_n 3, 1) := by decide +kernel
theorem dL_law_644 : decode cL_law 644 = .ok (.iconst 4, 1) := by decide +kernel
theorem dL_law_645 : decode cL_law 645 = .ok (.iadd, 1) := by decide +kernel
theorem dL_law_646 : decode cL_law 646 = .ok (.iaload, 1) := by decide +kernel
theorem dL_law_647 : decode cL_law 647 = .ok (.invokevirtual 101, 3) := by decide +kernel
theorem dL_law_650 : decode cL_law 650 = .ok (.if_icmp .eq 121, 3) := by decide +kernel
theorem dL_law_653 : decode cL_law 653 = .ok (.iconst 0, 1) := by decide +kernel
theorem dL_law_654 : decode cL_law 654 = .ok (.ireturn, 1) := by decide +kernel
theorem dL_law_655 : decode cL_law 655 = .ok (.aload_n 1, 1) := by decide +kernel
theorem dL_law_656 : decode cL_law 656 = .ok (.aload_n 0, 1) := by decide +kernel
theorem dL_law_657 : decode cL_law 657 = .ok (.iload_n 3, 1) := by decide +kernel
theorem dL_law_658 : decode cL_law 658 = .ok (.iconst 1, 1) := by decide +kernel
theorem dL_law_659 : decode cL_law 659 = .ok (.iadd, 1) := by decide +kernel
theorem dL_law_660 : decode cL_law 660 = .ok (.iaload, 1) := by decide +kernel
theorem dL_law_661 : decode cL_law 661 = .ok (.aload_n 0, 1) := by decide +kernel
theorem dL_law_662 : decode cL_law 662 = .ok (.iload_n 3, 1) := by decide +kernel
theorem dL_law_663 : decode cL_law 663 = .ok (.iconst 2, 1) := by decide +kernel
theorem dL_law_664 : decode cL_law 664 = .ok (.iadd, 1) := by decide +kernel
theorem dL_law_665 : decode cL_law 665 = .ok (.iaload, 1) := by decide +kernel
theorem dL_law_666 : decode cL_law 666 = .ok (.invokevirtual 102, 3) := by decide +kernel
theorem dL_law_669 : decode cL_law 669 = .ok (.aload_n 2, 1) := by decide +kernel
theorem dL_law_670 : decode cL_law 670 = .ok (.aload_n 0, 1) := by decide +kernel
theorem dL_law_671 : decode cL_law 671 = .ok (.iload_n 3, 1) := by decide +kernel
theorem dL_law_672 : decode cL_law 672 = .ok (.iconst 1, 1) := by decide +kernel
theorem dL_law_673 : decode cL_law 673 = .ok (.iadd, 1) := by decide +kernel
theorem dL_law_674 : decode cL_law 674 = .ok (.iaload, 1) := by decide +kernel
theorem dL_law_675 : decode cL_law 675 = .ok (.aload_n 0, 1) := by decide +kernel
theorem dL_law_676 : decode cL_law 676 = .ok (.iload_n 3, 1) := by decide +kernel
theorem dL_law_677 : decode cL_law 677 = .ok (.iconst 2, 1) := by decide +kernel
theorem dL_law_678 : decode cL_law 678 = .ok (.iadd, 1) := by decide +kernel
theorem dL_law_679 : decode cL_law 679 = .ok (.iaload, 1) := by decide +kernel
theorem dL_law_680 : decode cL_law 680 = .ok (.invokevirtual 105, 3) := by decide +kernel
theorem dL_law_683 : decode cL_law 683 = .ok (.if_icmp .eq 88, 3) := by decide +kernel
theorem dL_law_686 : decode cL_law 686 = .ok (.iconst 0, 1) := by decide +kernel
theorem dL_law_687 : decode cL_law 687 = .ok (.ireturn, 1) := by decide +kernel
theorem dL_law_688 : decode cL_law 688 = .ok (.aload_n 1, 1) := by decide +kernel
theorem dL_law_689 : decode cL_law 689 = .ok (.aload_n 0, 1) := by decide +kernel
theorem dL_law_690 : decode cL_law 690 = .ok (.iload_n 3, 1) := by decide +kernel
theorem dL_law_691 : decode cL_law 691 = .ok (.iconst 1, 1) := by decide +kernel
theorem dL_law_692 : decode cL_law 692 = .ok (.iadd, 1) := by decide +kernel
theorem dL_law_693 : decode cL_law 693 = .ok (.iaload, 1) := by decide +kernel
theorem dL_law_694 : decode cL_law 694 = .ok (.invokevirtual 106, 3) := by decide +kernel
theorem dL_law_697 : decode cL_law 697 = .ok (.aload_n 2, 1) := by decide +kernel
theorem dL_law_698 : decode cL_law 698 = .ok (.aload_n 0, 1) := by decide +kernel
theorem dL_law_699 : decode cL_law 699 = .ok (.iload_n 3, 1) := by decide +kernel
theorem dL_law_700 : decode cL_law 700 = .ok (.iconst 1, 1) := by decide +kernel
theorem dL_law_701 : decode cL_law 701 = .ok (.iadd, 1) := by decide +kernel
theorem dL_law_702 : decode cL_law 702 = .ok (.iaload, 1) := by decide +kernel
theorem dL_law_703 : decode cL_law 703 = .ok (.invokevirtual 109, 3) := by decide +kernel
theorem dL_law_706 : decode cL_law 706 = .ok (.if_icmp .eq 65, 3) := by decide +kernel
theorem dL_law_709 : decode cL_law 709 = .ok (.iconst 0, 1) := by decide +kernel
theorem dL_law_710 : decode cL_law 710 = .ok (.ireturn, 1) := by decide +kernel
theorem dL_law_711 : decode cL_law 711 = .ok (.aload_n 1, 1) := by decide +kernel
theorem dL_law_712 : decode cL_law 712 = .ok (.aload_n 0, 1) := by decide +kernel
theorem dL_law_713 : decode cL_law 713 = .ok (.iload_n 3, 1) := by decide +kernel
theorem dL_law_714 : decode cL_law 714 = .ok (.iconst 1, 1) := by decide +kernel
theorem dL_law_715 : decode cL_law 715 = .ok (.iadd, 1) := by decide +kernel
theorem dL_law_716 : decode cL_law 716 = .ok (.iaload, 1) := by decide +kernel
theorem dL_law_717 : decode cL_law 717 = .ok (.invokevirtual 110, 3) := by decide +kernel
theorem dL_law_720 : decode cL_law 720 = .ok (.aload_n 2, 1) := by decide +kernel
theorem dL_law_721 : decode cL_law 721 = .ok (.aload_n 0, 1) := by decide +kernel
theorem dL_law_722 : decode cL_law 722 = .ok (.iload_n 3, 1) := by decide +kernel
theorem dL_law_723 : decode cL_law 723 = .ok (.iconst 1, 1) := by decide +kernel
theorem dL_law_724 : decode cL_law 724 = .ok (.iadd, 1) := by decide +kernel
theorem dL_law_725 : decode cL_law 725 = .ok (.iaload, 1) := by decide +kernel
theorem dL_law_726 : decode cL_law 726 = .ok (.invokevirtual 113, 3) := by decide +kernel
theorem dL_law_729 : decode cL_law 729 = .ok (.if_icmp .eq 42, 3) := by decide +kernel
theorem dL_law_732 : decode cL_law 732 = .ok (.iconst 0, 1) := by decide +kernel
theorem dL_law_733 : decode cL_law 733 = .ok (.ireturn, 1) := by decide +kernel
theorem dL_law_734 : decode cL_law 734 = .ok (.aload_n 1, 1) := by decide +kernel
theorem dL_law_735 : decode cL_law 735 = .ok (.aload_n 0, 1) := by decide +kernel
theorem dL_law_736 : decode cL_law 736 = .ok (.iload_n 3, 1) := by decide +kernel
theorem dL_law_737 : decode cL_law 737 = .ok (.iconst 1, 1) := by decide +kernel
theorem dL_law_738 : decode cL_law 738 = .ok (.iadd, 1) := by decide +kernel
theorem dL_law_739 : decode cL_law 739 = .ok (.iaload, 1) := by decide +kernel
theorem dL_law_740 : decode cL_law 740 = .ok (.invokevirtual 114, 3) := by decide +kernel
theorem dL_law_743 : decode cL_law 743 = .ok (.aload_n 2, 1) := by decide +kernel
theorem dL_law_744 : decode cL_law 744 = .ok (.aload_n 0, 1) := by decide +kernel
theorem dL_law_745 : decode cL_law 745 = .ok (.iload_n 3, 1) := by decide +kernel
theorem dL_law_746 : decode cL_law 746 = .ok (.iconst 1, 1) := by decide +kernel
theorem dL_law_747 : decode cL_law 747 = .ok (.iadd, 1) := by decide +kernel
theorem dL_law_748 : decode cL_law 748 = .ok (.iaload, 1) := by decide +kernel
theorem dL_law_749 : decode cL_law 749 = .ok (.invokevirtual 117, 3) := by decide +kernel
theorem dL_law_752 : decode cL_law 752 = .ok (.if_icmp .eq 19, 3) := by decide +kernel
theorem dL_law_755 : decode cL_law 755 = .ok (.iconst 0, 1) := by decide +kernel
theorem dL_law_756 : decode cL_law 756 = .ok (.ireturn, 1) := by decide +kernel
theorem dL_law_757 : decode cL_law 757 = .ok (.aload_n 1, 1) := by decide +kernel
theorem dL_law_758 : decode cL_law 758 = .ok (.invokevirtual 118, 3) := by decide +kernel
theorem dL_law_761 : decode cL_law 761 = .ok (.aload_n 2, 1) := by decide +kernel
theorem dL_law_762 : decode cL_law 762 = .ok (.invokevirtual 122, 3) := by decide +kernel
theorem dL_law_765 : decode cL_law 765 = .ok (.lcmp, 1) := by decide +kernel
theorem dL_law_766 : decode cL_law 766 = .ok (.ifCond .eq 5, 3) := by decide +kernel
theorem dL_law_769 : decode cL_law 769 = .ok (.iconst 0, 1) := by decide +kernel
theorem dL_law_770 : decode cL_law 770 = .ok (.ireturn, 1) := by decide +kernel
theorem dL_law_771 : decode cL_law 771 = .ok (.iinc 3 5, 3) := by decide +kernel
theorem dL_law_774 : decode cL_law 774 = .ok (.goto (-756), 3) := by decide +kernel
theorem dL_law_777 : decode cL_law 777 = .ok (.iconst 1, 1) := by decide +kernel
theorem dL_law_778 : decode cL_law 778 = .ok (.ireturn, 1) := by decide +kernel
