theorem dX8_begin_12 : decode cX8_begin 12 = .ok (.iload_n 1, 1) := by decide +kernel
theorem dX8_begin_13 : decode cX8_begin 13 = .ok (.iconst 0, 1) := by decide +kernel
theorem dX8_begin_14 : decode cX8_begin 14 = .ok (.iastore, 1) := by decide +kernel
theorem dX8_begin_15 : decode cX8_begin 15 = .ok (.iinc 1 1, 3) := by decide +kernel
theorem dX8_begin_18 : decode cX8_begin 18 = .ok (.goto (-16), 3) := by decide +kernel
theorem dX8_begin_21 : decode cX8_begin 21 = .ok (.iconst 0, 1) := by decide +kernel
theorem dX8_begin_22 : decode cX8_begin 22 = .ok (.istore_n 1, 1) := by decide +kernel
theorem dX8_begin_23 : decode cX8_begin 23 = .ok (.iload_n 1, 1) := by decide +kernel
theorem dX8_begin_24 : decode cX8_begin 24 = .ok (.bipush 6, 2) := by decide +kernel
theorem dX8_begin_26 : decode cX8_begin 26 = .ok (.if_icmp .ge 23, 3) := by decide +kernel
theorem dX8_begin_29 : decode cX8_begin 29 = .ok (.aload_n 0, 1) := by decide +kernel
theorem dX8_begin_30 : decode cX8_begin 30 = .ok (.getfield 29, 3) := by decide +kernel
theorem dX8_begin_33 : decode cX8_begin 33 = .ok (.iconst 1, 1) := by decide +kernel
theorem dX8_begin_34 : decode cX8_begin 34 = .ok (.iload_n 1, 1) := by decide +kernel
theorem dX8_begin_35 : decode cX8_begin 35 = .ok (.iadd, 1) := by decide +kernel
theorem dX8_begin_36 : decode cX8_begin 36 = .ok (.aload_n 0, 1) := by decide +kernel
theorem dX8_begin_37 : decode cX8_begin 37 = .ok (.getfield 13, 3) := by decide +kernel
theorem dX8_begin_40 : decode cX8_begin 40 = .ok (.iload_n 1, 1) := by decide +kernel
theorem dX8_begin_41 : decode cX8_begin 41 = .ok (.iaload, 1) := by decide +kernel
theorem dX8_begin_42 : decode cX8_begin 42 = .ok (.iastore, 1) := by decide +kernel
theorem dX8_begin_43 : decode cX8_begin 43 = .ok (.iinc 1 1, 3) := by decide +kernel
theorem dX8_begin_46 : decode cX8_begin 46 = .ok (.goto (-23), 3) := by decide +kernel
theorem dX8_begin_49 : decode cX8_begin 49 = .ok (.iconst 0, 1) := by decide +kernel
theorem dX8_begin_50 : decode cX8_begin 50 = .ok (.istore_n 1, 1) := by decide +kernel
theorem dX8_begin_51 : decode cX8_begin 51 = .ok (.iload_n 1, 1) := by decide +kernel
theorem dX8_begin_52 : decode cX8_begin 52 = .ok (.aload_n 0, 1) := by decide +kernel
theorem dX8_begin_53 : decode cX8_begin 53 = .ok (.getfield 57, 3) := by decide +kernel
theorem dX8_begin_56 : decode cX8_begin 56 = .ok (.if_icmp .ge 34, 3) := by decide +kernel
theorem dX8_begin_59 : decode cX8_begin 59 = .ok (.aload_n 0, 1) := by decide +kernel
theorem dX8_begin_60 : decode cX8_begin 60 = .ok (.getfield 29, 3) := by decide +kernel
theorem dX8_begin_63 : decode cX8_begin 63 = .ok (.bipush 7, 2) := by decide +kernel
theorem dX8_begin_65 : decode cX8_begin 65 = .ok (.iload_n 1, 1) := by decide +kernel
theorem dX8_begin_66 : decode cX8_begin 66 = .ok (.iadd, 1) := by decide +kernel
theorem dX8_begin_67 : decode cX8_begin 67 = .ok (.aload_n 0, 1) := by decide +kernel
theorem dX8_begin_68 : decode cX8_begin 68 = .ok (.getfield 26, 3) := by decide +kernel
theorem dX8_begin_71 : decode cX8_begin 71 = .ok (.iconst 5, 1) := by decide +kernel
theorem dX8_begin_72 : decode cX8_begin 72 = .ok (.iload_n 1, 1) := by decide +kernel
theorem dX8_begin_73 : decode cX8_begin 73 = .ok (.imul, 1) := by decide +kernel
theorem dX8_begin_74 : decode cX8_begin 74 = .ok (.iaload, 1) := by decide +kernel
theorem dX8_begin_75 : decode cX8_begin 75 = .ok (.ifCond .ne 7, 3) := by decide +kernel
theorem dX8_begin_78 : decode cX8_begin 78 = .ok (.iconst 1, 1) := by decide +kernel
theorem dX8_begin_79 : decode cX8_begin 79 = .ok (.goto 4, 3) := by decide +kernel
theorem dX8_begin_82 : decode cX8_begin 82 = .ok (.iconst 0, 1) := by decide +kernel
theorem dX8_begin_83 : decode cX8_begin 83 = .ok (.iastore, 1) := by decide +kernel
theorem dX8_begin_84 : decode cX8_begin 84 = .ok (.iinc 1 1, 3) := by decide +kernel
theorem dX8_begin_87 : decode cX8_begin 87 = .ok (.goto (-36), 3) := by decide +kernel
theorem dX8_begin_90 : decode cX8_begin 90 = .ok (.aload_n 0, 1) := by decide +kernel
theorem dX8_begin_91 : decode cX8_begin 91 = .ok (.getfield 38, 3) := by decide +kernel
theorem dX8_begin_94 : decode cX8_begin 94 = .ok (.iconst 0, 1) := by decide +kernel
theorem dX8_begin_95 : decode cX8_begin 95 = .ok (.iconst 0, 1) := by decide +kernel
theorem dX8_begin_96 : decode cX8_begin 96 = .ok (.bastore, 1) := by decide +kernel
theorem dX8_begin_97 : decode cX8_begin 97 = .ok (.aload_n 0, 1) := by decide +kernel
theorem dX8_begin_98 : decode cX8_begin 98 = .ok (.getfield 38, 3) := by decide +kernel
theorem dX8_begin_101 : decode cX8_begin 101 = .ok (.iconst 1, 1) := by decide +kernel
theorem dX8_begin_102 : decode cX8_begin 102 = .ok (.iconst 0, 1) := by decide +kernel
theorem dX8_begin_103 : decode cX8_begin 103 = .ok (.bastore, 1) := by decide +kernel
theorem dX8_begin_104 : decode cX8_begin 104 = .ok (.aload_n 0, 1) := by decide +kernel
theorem dX8_begin_105 : decode cX8_begin 105 = .ok (.iconst 0, 1) := by decide +kernel
theorem dX8_begin_106 : decode cX8_begin 106 = .ok (.putfield 60, 3) := by decide +kernel
theorem dX8_begin_109 : decode cX8_begin 109 = .ok (.return_, 1) := by decide +kernel
theorem dX8_isLine_0 : decode cX8_isLine 0 = .ok (.iload_n 1, 1) := by decide +kernel
theorem dX8_isLine_1 : decode cX8_isLine 1 = .ok (.iconst 0, 1) := by decide +kernel
theorem dX8_isLine_2 : decode cX8_isLine 2 = .ok (.aload_n 0, 1) := by decide +kernel
theorem dX8_isLine_3 : decode cX8_isLine 3 = .ok (.getfield 19, 3) := by decide +kernel
theorem dX8_isLine_6 : decode cX8_isLine 6 = .ok (.iconst 1, 1) := by decide +kernel
theorem dX8_isLine_7 : decode cX8_isLine 7 = .ok (.isub, 1) := by decide +kernel
theorem dX8_isLine_8 : decode cX8_isLine 8 = .ok (.invokestatic 63, 3) := by decide +kernel
theorem dX8_isLine_11 : decode cX8_isLine 11 = .ok (.ireturn, 1) := by decide +kernel
theorem dX8_isCall_0 : decode cX8_isCall 0 = .ok (.iload_n 1, 1) := by decide +kernel
theorem dX8_isCall_1 : decode cX8_isCall 1 = .ok (.iconst 0, 1) := by decide +kernel
theorem dX8_isCall_2 : decode cX8_isCall 2 = .ok (.aload_n 0, 1) := by decide +kernel
theorem dX8_isCall_3 : decode cX8_isCall 3 = .ok (.getfield 57, 3) := by decide +kernel
theorem dX8_isCall_6 : decode cX8_isCall 6 = .ok (.iconst 1, 1) := by decide +kernel
theorem dX8_isCall_7 : decode cX8_isCall 7 = .ok (.isub, 1) := by decide +kernel
theorem dX8_isCall_8 : decode cX8_isCall 8 = .ok (.invokestatic 63, 3) := by decide +kernel
theorem dX8_isCall_11 : decode cX8_isCall 11 = .ok (.ireturn, 1) := by decide +kernel
theorem dX8_type_0 : decode cX8_type 0 = .ok (.iload_n 1, 1) := by decide +kernel
theorem dX8_type_1 : decode cX8_type 1 = .ok (.iconst 0, 1) := by decide +kernel
theorem dX8_type_2 : decode cX8_type 2 = .ok (.sipush 255, 3) := by decide +kernel
theorem dX8_type_5 : decode cX8_type 5 = .ok (.invokestatic 63, 3) := by decide +kernel
theorem dX8_type_8 : decode cX8_type 8 = .ok (.ifCond .ne 5, 3) := by decide +kernel
theorem dX8_type_11 : decode cX8_type 11 = .ok (.iconst (-1), 1) := by decide +kernel
theorem dX8_type_12 : decode cX8_type 12 = .ok (.ireturn, 1) := by decide +kernel
theorem dX8_type_13 : decode cX8_type 13 = .ok (.aload_n 0, 1) := by decide +kernel
theorem dX8_type_14 : decode cX8_type 14 = .ok (.getfield 67, 3) := by decide +kernel
theorem dX8_type_17 : decode cX8_type 17 = .ok (.sipush 200, 3) := by decide +kernel
theorem dX8_type_20 : decode cX8_type 20 = .ok (.if_icmp .ne 6, 3) := by decide +kernel
theorem dX8_type_23 : decode cX8_type 23 = .ok (.bipush (-3), 2) := by decide +kernel
theorem dX8_type_25 : decode cX8_type 25 = .ok (.ireturn, 1) := by decide +kernel
theorem dX8_type_26 : decode cX8_type 26 = .ok (.aload_n 0, 1) := by decide +kernel
theorem dX8_type_27 : decode cX8_type 27 = .ok (.getfield 7, 3) := by decide +kernel
theorem dX8_type_30 : decode cX8_type 30 = .ok (.aload_n 0, 1) := by decide +kernel
theorem dX8_type_31 : decode cX8_type 31 = .ok (.getfield 67, 3) := by decide +kernel
theorem dX8_type_34 : decode cX8_type 34 = .ok (.iload_n 1, 1) := by decide +kernel
theorem dX8_type_35 : decode cX8_type 35 = .ok (.iastore, 1) := by decide +kernel
theorem dX8_type_36 : decode cX8_type 36 = .ok (.aload_n 0, 1) := by decide +kernel
theorem dX8_type_37 : decode cX8_type 37 = .ok (.dup, 1) := by decide +kernel
theorem dX8_type_38 : decode cX8_type 38 = .ok (.getfield 67, 3) := by decide +kernel
theorem dX8_type_41 : decode cX8_type 41 = .ok (.iconst 1, 1) := by decide +kernel
theorem dX8_type_42 : decode cX8_type 42 = .ok (.iadd, 1) := by decide +kernel
theorem dX8_type_43 : decode cX8_type 43 = .ok (.putfield 67, 3) := by decide +kernel
theorem dX8_type_46 : decode cX8_type 46 = .ok (.aload_n 0, 1) := by decide +kernel
theorem dX8_type_47 : decode cX8_type 47 = .ok (.getfield 67, 3) := by decide +kernel
theorem dX8_type_50 : decode cX8_type 50 = .ok (.ireturn, 1) := by decide +kernel
theorem dX8_clear_0 : decode cX8_clear 0 = .ok (.aload_n 0, 1) := by decide +kernel
theorem dX8_clear_1 : decode cX8_clear 1 = .ok (.getfield 67, 3) := by decide +kernel
theorem dX8_clear_4 : decode cX8_clear 4 = .ok (.istore_n 1, 1) := by decide +kernel
theorem dX8_clear_5 : decode cX8_clear 5 = .ok (.aload_n 0, 1) := by decide +kernel
theorem dX8_clear_6 : decode cX8_clear 6 = .ok (.iconst 0, 1) := by decide +kernel
theorem dX8_clear_7 : decode cX8_clear 7 = .ok (.putfield 67, 3) := by decide +kernel
theorem dX8_clear_10 : decode cX8_clear 10 = .ok (.iload_n 1, 1) := by decide +kernel
theorem dX8_clear_11 : decode cX8_clear 11 = .ok (.ireturn, 1) := by decide +kernel
theorem dX8_nextToken_0 : decode cX8_nextToken 0 = .ok (.aload_n 0, 1) := by decide +kernel
theorem dX8_nextToken_1 : decode cX8_nextToken 1 = .ok (.getfield 70, 3) := by decide +kernel
theorem dX8_nextToken_4 : decode cX8_nextToken 4 = .ok (.aload_n 0, 1) := by decide +kernel
theorem dX8_nextToken_5 : decode cX8_nextToken 5 = .ok (.getfield 67, 3) := by decide +kernel
theorem dX8_nextToken_8 : decode cX8_nextToken 8 = .ok (.if_icmp .ge 30, 3) := by decide +kernel
theorem dX8_nextToken_11 : decode cX8_nextToken 11 = .ok (.aload_n 0, 1) := by decide +kernel
theorem dX8_nextToken_12 : decode cX8_nextToken 12 = .ok (.getfield 7, 3) := by decide +kernel
theorem dX8_nextToken_15 : decode cX8_nextToken 15 = .ok (.aload_n 0, 1) := by decide +kernel
theorem dX8_nextToken_16 : decode cX8_nextToken 16 = .ok (.getfield 70, 3) := by decide +kernel
theorem dX8_nextToken_19 : decode cX8_nextToken 19 = .ok (.iaload, 1) := by decide +kernel
theorem dX8_nextToken_20 : decode cX8_nextToken 20 = .ok (.bipush 32, 2) := by decide +kernel
theorem dX8_nextToken_22 : decode cX8_nextToken 22 = .ok (.if_icmp .ne 16, 3) := by decide +kernel
theorem dX8_nextToken_25 : decode cX8_nextToken 25 = .ok (.aload_n 0, 1) := by decide +kernel
theorem dX8_nextToken_26 : decode cX8_nextToken 26 = .ok (.dup, 1) := by decide +kernel
theorem dX8_nextToken_27 : decode cX8_nextToken 27 = .ok (.getfield 70, 3) := by decide +kernel
theorem dX8_nextToken_30 : decode cX8_nextToken 30 = .ok (.iconst 1, 1) := by decide +kernel
theorem dX8_nextToken_31 : decode cX8_nextToken 31 = .ok (.iadd, 1) := by decide +kernel
theorem dX8_nextToken_32 : decode cX8_nextToken 32 = .ok (.putfield 70, 3) := by decide +kernel
theorem dX8_nextToken_35 : decode cX8_nextToken 35 = .ok (.goto (-35), 3) := by decide +kernel
theorem dX8_nextToken_38 : decode cX8_nextToken 38 = .ok (.aload_n 0, 1) := by decide +kernel
theorem dX8_nextToken_39 : decode cX8_nextToken 39 = .ok (.aload_n 0, 1) := by decide +kernel
theorem dX8_nextToken_40 : decode cX8_nextToken 40 = .ok (.getfield 70, 3) := by decide +kernel
theorem dX8_nextToken_43 : decode cX8_nextToken 43 = .ok (.putfield 73, 3) := by decide +kernel
theorem dX8_nextToken_46 : decode cX8_nextToken 46 = .ok (.aload_n 0, 1) := by decide +kernel
theorem dX8_nextToken_47 : decode cX8_nextToken 47 = .ok (.iconst 0, 1) := by decide +kernel
theorem dX8_nextToken_48 : decode cX8_nextToken 48 = .ok (.putfield 76, 3) := by decide +kernel
theorem dX8_nextToken_51 : decode cX8_nextToken 51 = .ok (.aload_n 0, 1) := by decide +kernel
theorem dX8_nextToken_52 : decode cX8_nextToken 52 = .ok (.getfield 70, 3) := by decide +kernel
theorem dX8_nextToken_55 : decode cX8_nextToken 55 = .ok (.aload_n 0, 1) := by decide +kernel
theorem dX8_nextToken_56 : decode cX8_nextToken 56 = .ok (.getfield 67, 3) := by decide +kernel
theorem dX8_nextToken_59 : decode cX8_nextToken 59 = .ok (.if_icmp .ne 12, 3) := by decide +kernel
theorem dX8_nextToken_62 : decode cX8_nextToken 62 = .ok (.aload_n 0, 1) := by decide +kernel
theorem dX8_nextToken_63 : decode cX8_nextToken 63 = .ok (.bipush (-2), 2) := by decide +kernel
theorem dX8_nextToken_65 : decode cX8_nextToken 65 = .ok (.putfield 79, 3) := by decide +kernel
theorem dX8_nextToken_68 : decode cX8_nextToken 68 = .ok (.goto 179, 3) := by decide +kernel
theorem dX8_nextToken_71 : decode cX8_nextToken 71 = .ok (.aload_n 0, 1) := by decide +kernel
theorem dX8_nextToken_72 : decode cX8_nextToken 72 = .ok (.getfield 7, 3) := by decide +kernel
theorem dX8_nextToken_75 : decode cX8_nextToken 75 = .ok (.aload_n 0, 1) := by decide +kernel
theorem dX8_nextToken_76 : decode cX8_nextToken 76 = .ok (.getfield 70, 3) := by decide +kernel
theorem dX8_nextToken_79 : decode cX8_nextToken 79 = .ok (.iaload, 1) := by decide +kernel
theorem dX8_nextToken_80 : decode cX8_nextToken 80 = .ok (.bipush 48, 2) := by decide +kernel
theorem dX8_nextToken_82 : decode cX8_nextToken 82 = .ok (.bipush 57, 2) := by decide +kernel
theorem dX8_nextToken_84 : decode cX8_nextToken 84 = .ok (.invokestatic 63, 3) := by decide +kernel
theorem dX8_nextToken_87 : decode cX8_nextToken 87 = .ok (.ifCond .eq 137, 3) := by decide +kernel
theorem dX8_nextToken_90 : decode cX8_nextToken 90 = .ok (.aload_n 0, 1) := by decide +kernel
theorem dX8_nextToken_91 : decode cX8_nextToken 91 = .ok (.getfield 70, 3) := by decide +kernel
theorem dX8_nextToken_94 : decode cX8_nextToken 94 = .ok (.aload_n 0, 1) := by decide +kernel
theorem dX8_nextToken_95 : decode cX8_nextToken 95 = .ok (.getfield 67, 3) := by decide +kernel
theorem dX8_nextToken_98 : decode cX8_nextToken 98 = .ok (.if_icmp .ge 77, 3) := by decide +kernel
theorem dX8_nextToken_101 : decode cX8_nextToken 101 = .ok (.aload_n 0, 1) := by decide +kernel
theorem dX8_nextToken_102 : decode cX8_nextToken 102 = .ok (.getfield 7, 3) := by decide +kernel
theorem dX8_nextToken_105 : decode cX8_nextToken 105 = .ok (.aload_n 0, 1) := by decide +kernel
theorem dX8_nextToken_106 : decode cX8_nextToken 106 = .ok (.getfield 70, 3) := by decide +kernel
theorem dX8_nextToken_109 : decode cX8_nextToken 109 = .ok (.iaload, 1) := by decide +kernel
theorem dX8_nextToken_110 : decode cX8_nextToken 110 = .ok (.bipush 48, 2) := by decide +kernel
theorem dX8_nextToken_112 : decode cX8_nextToken 112 = .ok (.bipush 57, 2) := by decide +kernel
theorem dX8_nextToken_114 : decode cX8_nextToken 114 = .ok (.invokestatic 63, 3) := by decide +kernel
theorem dX8_nextToken_117 : decode cX8_nextToken 117 = .ok (.ifCond .eq 58, 3) := by decide +kernel
theorem dX8_nextToken_120 : decode cX8_nextToken 120 = .ok (.aload_n 0, 1) := by decide +kernel
theorem dX8_nextToken_121 : decode cX8_nextToken 121 = .ok (.aload_n 0, 1) := by decide +kernel
theorem dX8_nextToken_122 : decode cX8_nextToken 122 = .ok (.getfield 70, 3) := by decide +kernel
theorem dX8_nextToken_125 : decode cX8_nextToken 125 = .ok (.aload_n 0, 1) := by decide +kernel
theorem dX8_nextToken_126 : decode cX8_nextToken 126 = .ok (.getfield 73, 3) := by decide +kernel
theorem dX8_nextToken_129 : decode cX8_nextToken 129 = .ok (.isub, 1) := by decide +kernel
theorem dX8_nextToken_130 : decode cX8_nextToken 130 = .ok (.iconst 2, 1) := by decide +kernel
theorem dX8_nextToken_131 : decode cX8_nextToken 131 = .ok (.if_icmp .ge 26, 3) := by decide +kernel
theorem dX8_nextToken_134 : decode cX8_nextToken 134 = .ok (.bipush 10, 2) := by decide +kernel
theorem dX8_nextToken_136 : decode cX8_nextToken 136 = .ok (.aload_n 0, 1) := by decide +kernel
theorem dX8_nextToken_137 : decode cX8_nextToken 137 = .ok (.getfield 76, 3) := by decide +kernel
theorem dX8_nextToken_140 : decode cX8_nextToken 140 = .ok (.imul, 1) := by decide +kernel
theorem dX8_nextToken_141 : decode cX8_nextToken 141 = .ok (.aload_n 0, 1) := by decide +kernel
theorem dX8_nextToken_142 : decode cX8_nextToken 142 = .ok (.getfield 7, 3) := by decide +kernel
theorem dX8_nextToken_145 : decode cX8_nextToken 145 = .ok (.aload_n 0, 1) := by decide +kernel
theorem dX8_nextToken_146 : decode cX8_nextToken 146 = .ok (.getfield 70, 3) := by decide +kernel
theorem dX8_nextToken_149 : decode cX8_nextToken 149 = .ok (.iaload, 1) := by decide +kernel
theorem dX8_nextToken_150 : decode cX8_nextToken 150 = .ok (.iadd, 1) := by decide +kernel
theorem dX8_nextToken_151 : decode cX8_nextToken 151 = .ok (.bipush 48, 2) := by decide +kernel
theorem dX8_nextToken_153 : decode cX8_nextToken 153 = .ok (.isub, 1) := by decide +kernel
theorem dX8_nextToken_154 : decode cX8_nextToken 154 = .ok (.goto 5, 3) := by decide +kernel
theorem dX8_nextToken_157 : decode cX8_nextToken 157 = .ok (.bipush 100, 2) := by decide +kernel
theorem dX8_nextToken_159 : decode cX8_nextToken 159 = .ok (.putfield 76, 3) := by decide +kernel
theorem dX8_nextToken_162 : decode cX8_nextToken 162 = .ok (.aload_n 0, 1) := by decide +kernel
theorem dX8_nextToken_163 : decode cX8_nextToken 163 = .ok (.dup, 1) := by decide +kernel
theorem dX8_nextToken_164 : decode cX8_nextToken 164 = .ok (.getfield 70, 3) := by decide +kernel
theorem dX8_nextToken_167 : decode cX8_nextToken 167 = .ok (.iconst 1, 1) := by decide +kernel
theorem dX8_nextToken_168 : decode cX8_nextToken 168 = .ok (.iadd, 1) := by decide +kernel
theorem dX8_nextToken_169 : decode cX8_nextToken 169 = .ok (.putfield 70, 3) := by decide +kernel
theorem dX8_nextToken_172 : decode cX8_nextToken 172 = .ok (.goto (-82), 3) := by decide +kernel
theorem dX8_nextToken_175 : decode cX8_nextToken 175 = .ok (.aload_n 0, 1) := by decide +kernel
theorem dX8_nextToken_176 : decode cX8_nextToken 176 = .ok (.aload_n 0, 1) := by decide +kernel
theorem dX8_nextToken_177 : decode cX8_nextToken 177 = .ok (.getfield 70, 3) := by decide +kernel
theorem dX8_nextToken_180 : decode cX8_nextToken 180 = .ok (.aload_n 0, 1) := by decide +kernel
theorem dX8_nextToken_181 : decode cX8_nextToken 181 = .ok (.getfield 73, 3) := by decide +kernel
theorem dX8_nextToken_184 : decode cX8_nextToken 184 = .ok (.isub, 1) := by decide +kernel
theorem dX8_nextToken_185 : decode cX8_nextToken 185 = .ok (.iconst 1, 1) := by decide +kernel
theorem dX8_nextToken_186 : decode cX8_nextToken 186 = .ok (.if_icmp .le 17, 3) := by decide +kernel
theorem dX8_nextToken_189 : decode cX8_nextToken 189 = .ok (.aload_n 0, 1) := by decide +kernel
theorem dX8_nextToken_190 : decode cX8_nextToken 190 = .ok (.getfield 7, 3) := by decide +kernel
theorem dX8_nextToken_193 : decode cX8_nextToken 193 = .ok (.aload_n 0, 1) := by decide +kernel
theorem dX8_nextToken_194 : decode cX8_nextToken 194 = .ok (.getfield 73, 3) := by decide +kernel
theorem dX8_nextToken_197 : decode cX8_nextToken 197 = .ok (.iaload, 1) := by decide +kernel
theorem dX8_nextToken_198 : decode cX8_nextToken 198 = .ok (.bipush 48, 2) := by decide +kernel
theorem dX8_nextToken_200 : decode cX8_nextToken 200 = .ok (.if_icmp .eq 12, 3) := by decide +kernel
theorem dX8_nextToken_203 : decode cX8_nextToken 203 = .ok (.aload_n 0, 1) := by decide +kernel
theorem dX8_nextToken_204 : decode cX8_nextToken 204 = .ok (.getfield 76, 3) := by decide +kernel
theorem dX8_nextToken_207 : decode cX8_nextToken 207 = .ok (.bipush 99, 2) := by decide +kernel
theorem dX8_nextToken_209 : decode cX8_nextToken 209 = .ok (.if_icmp .le 8, 3) := by decide +kernel
theorem dX8_nextToken_212 : decode cX8_nextToken 212 = .ok (.bipush (-3), 2) := by decide +kernel
theorem dX8_nextToken_214 : decode cX8_nextToken 214 = .ok (.goto 4, 3) := by decide +kernel
theorem dX8_nextToken_217 : decode cX8_nextToken 217 = .ok (.iconst (-1), 1) := by decide +kernel
theorem dX8_nextToken_218 : decode cX8_nextToken 218 = .ok (.putfield 79, 3) := by decide +kernel
theorem dX8_nextToken_221 : decode cX8_nextToken 221 = .ok (.goto 26, 3) := by decide +kernel
theorem dX8_nextToken_224 : decode cX8_nextToken 224 = .ok (.aload_n 0, 1) := by decide +kernel
theorem dX8_nextToken_225 : decode cX8_nextToken 225 = .ok (.aload_n 0, 1) := by decide +kernel
theorem dX8_nextToken_226 : decode cX8_nextToken 226 = .ok (.getfield 7, 3) := by decide +kernel
theorem dX8_nextToken_229 : decode cX8_nextToken 229 = .ok (.aload_n 0, 1) := by decide +kernel
theorem dX8_nextToken_230 : decode cX8_nextToken 230 = .ok (.getfield 70, 3) := by decide +kernel
theorem dX8_nextToken_233 : decode cX8_nextToken 233 = .ok (.iaload, 1) := by decide +kernel
theorem dX8_nextToken_234 : decode cX8_nextToken 234 = .ok (.putfield 79, 3) := by decide +kernel
theorem dX8_nextToken_237 : decode cX8_nextToken 237 = .ok (.aload_n 0, 1) := by decide +kernel
theorem dX8_nextToken_238 : decode cX8_nextToken 238 = .ok (.dup, 1) := by decide +kernel
theorem dX8_nextToken_239 : decode cX8_nextToken 239 = .ok (.getfield 70, 3) := by decide +kernel
theorem dX8_nextToken_242 : decode cX8_nextToken 242 = .ok (.iconst 1, 1) := by decide +kernel
theorem dX8_nextToken_243 : decode cX8_nextToken 243 = .ok (.iadd, 1) := by decide +kernel
theorem dX8_nextToken_244 : decode cX8_nextToken 244 = .ok (.putfield 70, 3) := by decide +kernel
theorem dX8_nextToken_247 : decode cX8_nextToken 247 = .ok (.return_, 1) := by decide +kernel
theorem dX8_isNumber_0 : decode cX8_isNumber 0 = .ok (.aload_n 0, 1) := by decide +kernel
theorem dX8_isNumber_1 : decode cX8_isNumber 1 = .ok (.invokevirtual 82, 3) := by decide +kernel
theorem dX8_isNumber_4 : decode cX8_isNumber 4 = .ok (.aload_n 0, 1) := by decide +kernel
theorem dX8_isNumber_5 : decode cX8_isNumber 5 = .ok (.getfield 79, 3) := by decide +kernel
theorem dX8_isNumber_8 : decode cX8_isNumber 8 = .ok (.iconst (-1), 1) := by decide +kernel
theorem dX8_isNumber_9 : decode cX8_isNumber 9 = .ok (.if_icmp .ne 19, 3) := by decide +kernel
theorem dX8_isNumber_12 : decode cX8_isNumber 12 = .ok (.aload_n 0, 1) := by decide +kernel
theorem dX8_isNumber_13 : decode cX8_isNumber 13 = .ok (.getfield 76, 3) := by decide +kernel
theorem dX8_isNumber_16 : decode cX8_isNumber 16 = .ok (.iload_n 1, 1) := by decide +kernel
theorem dX8_isNumber_17 : decode cX8_isNumber 17 = .ok (.iload_n 2, 1) := by decide +kernel
theorem dX8_isNumber_18 : decode cX8_isNumber 18 = .ok (.invokestatic 63, 3) := by decide +kernel
theorem dX8_isNumber_21 : decode cX8_isNumber 21 = .ok (.ifCond .eq 7, 3) := by decide +kernel
theorem dX8_isNumber_24 : decode cX8_isNumber 24 = .ok (.iconst 1, 1) := by decide +kernel
theorem dX8_isNumber_25 : decode cX8_isNumber 25 = .ok (.goto 4, 3) := by decide +kernel
theorem dX8_isNumber_28 : decode cX8_isNumber 28 = .ok (.iconst 0, 1) := by decide +kernel
theorem dX8_isNumber_29 : decode cX8_isNumber 29 = .ok (.ireturn, 1) := by decide +kernel
theorem dX8_isEnd_0 : decode cX8_isEnd 0 = .ok (.aload_n 0, 1) := by decide +kernel
theorem dX8_isEnd_1 : decode cX8_isEnd 1 = .ok (.invokevirtual 82, 3) := by decide +kernel
theorem dX8_isEnd_4 : decode cX8_isEnd 4 = .ok (.aload_n 0, 1) := by decide +kernel
theorem dX8_isEnd_5 : decode cX8_isEnd 5 = .ok (.getfield 79, 3) := by decide +kernel
theorem dX8_isEnd_8 : decode cX8_isEnd 8 = .ok (.bipush 59, 2) := by decide +kernel
theorem dX8_isEnd_10 : decode cX8_isEnd 10 = .ok (.if_icmp .ne 7, 3) := by decide +kernel
theorem dX8_isEnd_13 : decode cX8_isEnd 13 = .ok (.iconst 1, 1) := by decide +kernel
theorem dX8_isEnd_14 : decode cX8_isEnd 14 = .ok (.goto 4, 3) := by decide +kernel
theorem dX8_isEnd_17 : decode cX8_isEnd 17 = .ok (.iconst 0, 1) := by decide +kernel
theorem dX8_isEnd_18 : decode cX8_isEnd 18 = .ok (.ireturn, 1) := by decide +kernel
theorem dX8_isHole_0 : decode cX8_isHole 0 = .ok (.aload_n 0, 1) := by decide +kernel
theorem dX8_isHole_1 : decode cX8_isHole 1 = .ok (.iconst 0, 1) := by decide +kernel
theorem dX8_isHole_2 : decode cX8_isHole 2 = .ok (.aload_n 0, 1) := by decide +kernel
theorem dX8_isHole_3 : decode cX8_isHole 3 = .ok (.getfield 85, 3) := by decide +kernel
theorem dX8_isHole_6 : decode cX8_isHole 6 = .ok (.iconst 1, 1) := by decide +kernel
theorem dX8_isHole_7 : decode cX8_isHole 7 = .ok (.isub, 1) := by decide +kernel
theorem dX8_isHole_8 : decode cX8_isHole 8 = .ok (.invokevirtual 88, 3) := by decide +kernel
theorem dX8_isHole_11 : decode cX8_isHole 11 = .ok (.ifCond .ne 5, 3) := by decide +kernel
theorem dX8_isHole_14 : decode cX8_isHole 14 = .ok (.iconst 0, 1) := by decide +kernel
theorem dX8_isHole_15 : decode cX8_isHole 15 = .ok (.ireturn, 1) := by decide +kernel
theorem dX8_isHole_16 : decode cX8_isHole 16 = .ok (.aload_n 0, 1) := by decide +kernel
theorem dX8_isHole_17 : decode cX8_isHole 17 = .ok (.getfield 76, 3) := by decide +kernel
theorem dX8_isHole_20 : decode cX8_isHole 20 = .ok (.istore_n 1, 1) := by decide +kernel
theorem dX8_isHole_21 : decode cX8_isHole 21 = .ok (.aload_n 0, 1) := by decide +kernel
theorem dX8_isHole_22 : decode cX8_isHole 22 = .ok (.iconst 0, 1) := by decide +kernel
theorem dX8_isHole_23 : decode cX8_isHole 23 = .ok (.aload_n 0, 1) := by decide +kernel
theorem dX8_isHole_24 : decode cX8_isHole 24 = .ok (.getfield 85, 3) := by decide +kernel
theorem dX8_isHole_27 : decode cX8_isHole 27 = .ok (.iconst 1, 1) := by decide +kernel
theorem dX8_isHole_28 : decode cX8_isHole 28 = .ok (.isub, 1) := by decide +kernel
theorem dX8_isHole_29 : decode cX8_isHole 29 = .ok (.invokevirtual 88, 3) := by decide +kernel
theorem dX8_isHole_32 : decode cX8_isHole 32 = .ok (.ifCond .ne 5, 3) := by decide +kernel
theorem dX8_isHole_35 : decode cX8_isHole 35 = .ok (.iconst 0, 1) := by decide +kernel
theorem dX8_isHole_36 : decode cX8_isHole 36 = .ok (.ireturn, 1) := by decide +kernel
theorem dX8_isHole_37 : decode cX8_isHole 37 = .ok (.iconst 0, 1) := by decide +kernel
theorem dX8_isHole_38 : decode cX8_isHole 38 = .ok (.istore_n 2, 1) := by decide +kernel
theorem dX8_isHole_39 : decode cX8_isHole 39 = .ok (.iload_n 2, 1) := by decide +kernel
theorem dX8_isHole_40 : decode cX8_isHole 40 = .ok (.aload_n 0, 1) := by decide +kernel
theorem dX8_isHole_41 : decode cX8_isHole 41 = .ok (.getfield 85, 3) := by decide +kernel
theorem dX8_isHole_44 : decode cX8_isHole 44 = .ok (.if_icmp .ge 48, 3) := by decide +kernel
theorem dX8_isHole_47 : decode cX8_isHole 47 = .ok (.aload_n 0, 1) := by decide +kernel
theorem dX8_isHole_48 : decode cX8_isHole 48 = .ok (.getfield 13, 3) := by decide +kernel
theorem dX8_isHole_51 : decode cX8_isHole 51 = .ok (.iload_n 2, 1) := by decide +kernel
theorem dX8_isHole_52 : decode cX8_isHole 52 = .ok (.iload_n 2, 1) := by decide +kernel
theorem dX8_isHole_53 : decode cX8_isHole 53 = .ok (.iload_n 1, 1) := by decide +kernel
theorem dX8_isHole_54 : decode cX8_isHole 54 = .ok (.if_icmp .eq 25, 3) := by decide +kernel
theorem dX8_isHole_57 : decode cX8_isHole 57 = .ok (.aload_n 0, 1) := by decide +kernel
theorem dX8_isHole_58 : decode cX8_isHole 58 = .ok (.getfield 13, 3) := by decide +kernel
theorem dX8_isHole_61 : decode cX8_isHole 61 = .ok (.iload_n 2, 1) := by decide +kernel
theorem dX8_isHole_62 : decode cX8_isHole 62 = .ok (.iaload, 1) := by decide +kernel
theorem dX8_isHole_63 : decode cX8_isHole 63 = .ok (.aload_n 0, 1) := by decide +kernel
theorem dX8_isHole_64 : decode cX8_isHole 64 = .ok (.getfield 76, 3) := by decide +kernel
theorem dX8_isHole_67 : decode cX8_isHole 67 = .ok (.if_icmp .ne 12, 3) := by decide +kernel
theorem dX8_isHole_70 : decode cX8_isHole 70 = .ok (.aload_n 0, 1) := by decide +kernel
theorem dX8_isHole_71 : decode cX8_isHole 71 = .ok (.getfield 13, 3) := by decide +kernel
theorem dX8_isHole_74 : decode cX8_isHole 74 = .ok (.iload_n 1, 1) := by decide +kernel
theorem dX8_isHole_75 : decode cX8_isHole 75 = .ok (.iaload, 1) := by decide +kernel
theorem dX8_isHole_76 : decode cX8_isHole 76 = .ok (.goto 9, 3) := by decide +kernel
theorem dX8_isHole_79 : decode cX8_isHole 79 = .ok (.aload_n 0, 1) := by decide +kernel
theorem dX8_isHole_80 : decode cX8_isHole 80 = .ok (.getfield 13, 3) := by decide +kernel
theorem dX8_isHole_83 : decode cX8_isHole 83 = .ok (.iload_n 2, 1) := by decide +kernel
theorem dX8_isHole_84 : decode cX8_isHole 84 = .ok (.iaload, 1) := by decide +kernel
theorem dX8_isHole_85 : decode cX8_isHole 85 = .ok (.iastore, 1) := by decide +kernel
theorem dX8_isHole_86 : decode cX8_isHole 86 = .ok (.iinc 2 1, 3) := by decide +kernel
theorem dX8_isHole_89 : decode cX8_isHole 89 = .ok (.goto (-50), 3) := by decide +kernel
theorem dX8_isHole_92 : decode cX8_isHole 92 = .ok (.aload_n 0, 1) := by decide +kernel
theorem dX8_isHole_93 : decode cX8_isHole 93 = .ok (.getfield 13, 3) := by decide +kernel
theorem dX8_isHole_96 : decode cX8_isHole 96 = .ok (.iload_n 1, 1) := by decide +kernel
theorem dX8_isHole_97 : decode cX8_isHole 97 = .ok (.aload_n 0, 1) := by decide +kernel
theorem dX8_isHole_98 : decode cX8_isHole 98 = .ok (.getfield 76, 3) := by decide +kernel
theorem dX8_isHole_101 : decode cX8_isHole 101 = .ok (.iastore, 1) := by decide +kernel
theorem dX8_isHole_102 : decode cX8_isHole 102 = .ok (.aload_n 0, 1) := by decide +kernel
theorem dX8_isHole_103 : decode cX8_isHole 103 = .ok (.invokevirtual 92, 3) := by decide +kernel
theorem dX8_isHole_106 : decode cX8_isHole 106 = .ok (.ireturn, 1) := by decide +kernel
theorem dX8_isCallItem_0 : decode cX8_isCallItem 0 = .ok (.iconst 5, 1) := by decide +kernel
theorem dX8_isCallItem_1 : decode cX8_isCallItem 1 = .ok (.aload_n 0, 1) := by decide +kernel
theorem dX8_isCallItem_2 : decode cX8_isCallItem 2 = .ok (.getfield 96, 3) := by decide +kernel
theorem dX8_isCallItem_5 : decode cX8_isCallItem 5 = .ok (.imul, 1) := by decide +kernel
theorem dX8_isCallItem_6 : decode cX8_isCallItem 6 = .ok (.istore_n 1, 1) := by decide +kernel
theorem dX8_isCallItem_7 : decode cX8_isCallItem 7 = .ok (.iconst 0, 1) := by decide +kernel
theorem dX8_isCallItem_8 : decode cX8_isCallItem 8 = .ok (.istore_n 2, 1) := by decide +kernel
theorem dX8_isCallItem_9 : decode cX8_isCallItem 9 = .ok (.iload_n 2, 1) := by decide +kernel
theorem dX8_isCallItem_10 : decode cX8_isCallItem 10 = .ok (.iconst 5, 1) := by decide +kernel
theorem dX8_isCallItem_11 : decode cX8_isCallItem 11 = .ok (.if_icmp .ge 97, 3) := by decide +kernel
theorem dX8_isCallItem_14 : decode cX8_isCallItem 14 = .ok (.iload_n 2, 1) := by decide +kernel
theorem dX8_isCallItem_15 : decode cX8_isCallItem 15 = .ok (.ifCond .ne 8, 3) := by decide +kernel
theorem dX8_isCallItem_18 : decode cX8_isCallItem 18 = .ok (.bipush 40, 2) := by decide +kernel
theorem dX8_isCallItem_20 : decode cX8_isCallItem 20 = .ok (.goto 29, 3) := by decide +kernel
theorem dX8_isCallItem_23 : decode cX8_isCallItem 23 = .ok (.iload_n 2, 1) := by decide +kernel
theorem dX8_isCallItem_24 : decode cX8_isCallItem 24 = .ok (.iconst 3, 1) := by decide +kernel
theorem dX8_isCallItem_25 : decode cX8_isCallItem 25 = .ok (.if_icmp .ge 12, 3) := by decide +kernel
theorem dX8_isCallItem_28 : decode cX8_isCallItem 28 = .ok (.aload_n 0, 1) := by decide +kernel
theorem dX8_isCallItem_29 : decode cX8_isCallItem 29 = .ok (.getfield 85, 3) := by decide +kernel
theorem dX8_isCallItem_32 : decode cX8_isCallItem 32 = .ok (.iconst 1, 1) := by decide +kernel
theorem dX8_isCallItem_33 : decode cX8_isCallItem 33 = .ok (.isub, 1) := by decide +kernel
theorem dX8_isCallItem_34 : decode cX8_isCallItem 34 = .ok (.goto 15, 3) := by decide +kernel
theorem dX8_isCallItem_37 : decode cX8_isCallItem 37 = .ok (.iload_n 2, 1) := by decide +kernel
theorem dX8_isCallItem_38 : decode cX8_isCallItem 38 = .ok (.iconst 3, 1) := by decide +kernel
theorem dX8_isCallItem_39 : decode cX8_isCallItem 39 = .ok (.if_icmp .ne 8, 3) := by decide +kernel
theorem dX8_isCallItem_42 : decode cX8_isCallItem 42 = .ok (.bipush 20, 2) := by decide +kernel
theorem dX8_isCallItem_44 : decode cX8_isCallItem 44 = .ok (.goto 5, 3) := by decide +kernel
theorem dX8_isCallItem_47 : decode cX8_isCallItem 47 = .ok (.bipush 9, 2) := by decide +kernel
theorem dX8_isCallItem_49 : decode cX8_isCallItem 49 = .ok (.istore_n 3, 1) := by decide +kernel
theorem dX8_isCallItem_50 : decode cX8_isCallItem 50 = .ok (.aload_n 0, 1) := by decide +kernel
theorem dX8_isCallItem_51 : decode cX8_isCallItem 51 = .ok (.iload_n 2, 1) := by decide +kernel
theorem dX8_isCallItem_52 : decode cX8_isCallItem 52 = .ok (.iconst 3, 1) := by decide +kernel
theorem dX8_isCallItem_53 : decode cX8_isCallItem 53 = .ok (.if_icmp .ne 7, 3) := by decide +kernel
theorem dX8_isCallItem_56 : decode cX8_isCallItem 56 = .ok (.iconst 1, 1) := by decide +kernel
theorem dX8_isCallItem_57 : decode cX8_isCallItem 57 = .ok (.goto 4, 3) := by decide +kernel
theorem dX8_isCallItem_60 : decode cX8_isCallItem 60 = .ok (.iconst 0, 1) := by decide +kernel
theorem dX8_isCallItem_61 : decode cX8_isCallItem 61 = .ok (.iload_n 3, 1) := by decide +kernel
theorem dX8_isCallItem_62 : decode cX8_isCallItem 62 = .ok (.invokevirtual 88, 3) := by decide +kernel
theorem dX8_isCallItem_65 : decode cX8_isCallItem 65 = .ok (.ifCond .eq 23, 3) := by decide +kernel
theorem dX8_isCallItem_68 : decode cX8_isCallItem 68 = .ok (.iload_n 2, 1) := by decide +kernel
theorem dX8_isCallItem_69 : decode cX8_isCallItem 69 = .ok (.iconst 2, 1) := by decide +kernel
theorem dX8_isCallItem_70 : decode cX8_isCallItem 70 = .ok (.if_icmp .ne 20, 3) := by decide +kernel
theorem dX8_isCallItem_73 : decode cX8_isCallItem 73 = .ok (.aload_n 0, 1) := by decide +kernel
theorem dX8_isCallItem_74 : decode cX8_isCallItem 74 = .ok (.getfield 76, 3) := by decide +kernel
theorem dX8_isCallItem_77 : decode cX8_isCallItem 77 = .ok (.aload_n 0, 1) := by decide +kernel
theorem dX8_isCallItem_78 : decode cX8_isCallItem 78 = .ok (.getfield 16, 3) := by decide +kernel
theorem dX8_isCallItem_81 : decode cX8_isCallItem 81 = .ok (.iload_n 1, 1) := by decide +kernel
theorem dX8_isCallItem_82 : decode cX8_isCallItem 82 = .ok (.iconst 1, 1) := by decide +kernel
theorem dX8_isCallItem_83 : decode cX8_isCallItem 83 = .ok (.iadd, 1) := by decide +kernel
theorem dX8_isCallItem_84 : decode cX8_isCallItem 84 = .ok (.iaload, 1) := by decide +kernel
theorem dX8_isCallItem_85 : decode cX8_isCallItem 85 = .ok (.if_icmp .ne 5, 3) := by decide +kernel
theorem dX8_isCallItem_88 : decode cX8_isCallItem 88 = .ok (.iconst 0, 1) := by decide +kernel
theorem dX8_isCallItem_89 : decode cX8_isCallItem 89 = .ok (.ireturn, 1) := by decide +kernel
theorem dX8_isCallItem_90 : decode cX8_isCallItem 90 = .ok (.aload_n 0, 1) := by decide +kernel
theorem dX8_isCallItem_91 : decode cX8_isCallItem 91 = .ok (.getfield 16, 3) := by decide +kernel
theorem dX8_isCallItem_94 : decode cX8_isCallItem 94 = .ok (.iload_n 1, 1) := by decide +kernel
theorem dX8_isCallItem_95 : decode cX8_isCallItem 95 = .ok (.iload_n 2, 1) := by decide +kernel
theorem dX8_isCallItem_96 : decode cX8_isCallItem 96 = .ok (.iadd, 1) := by decide +kernel
theorem dX8_isCallItem_97 : decode cX8_isCallItem 97 = .ok (.aload_n 0, 1) := by decide +kernel
theorem dX8_isCallItem_98 : decode cX8_isCallItem 98 = .ok (.getfield 76, 3) := by decide +kernel
theorem dX8_isCallItem_101 : decode cX8_isCallItem 101 = .ok (.iastore, 1) := by decide +kernel
theorem dX8_isCallItem_102 : decode cX8_isCallItem 102 = .ok (.iinc 2 1, 3) := by decide +kernel
theorem dX8_isCallItem_105 : decode cX8_isCallItem 105 = .ok (.goto (-96), 3) := by decide +kernel
theorem dX8_isCallItem_108 : decode cX8_isCallItem 108 = .ok (.aload_n 0, 1) := by decide +kernel
theorem dX8_isCallItem_109 : decode cX8_isCallItem 109 = .ok (.dup, 1) := by decide +kernel
theorem dX8_isCallItem_110 : decode cX8_isCallItem 110 = .ok (.getfield 96, 3) := by decide +kernel
theorem dX8_isCallItem_113 : decode cX8_isCallItem 113 = .ok (.iconst 1, 1) := by decide +kernel
theorem dX8_isCallItem_114 : decode cX8_isCallItem 114 = .ok (.iadd, 1) := by decide +kernel
theorem dX8_isCallItem_115 : decode cX8_isCallItem 115 = .ok (.putfield 96, 3) := by decide +kernel
theorem dX8_isCallItem_118 : decode cX8_isCallItem 118 = .ok (.aload_n 0, 1) := by decide +kernel
theorem dX8_isCallItem_119 : decode cX8_isCallItem 119 = .ok (.invokevirtual 92, 3) := by decide +kernel
theorem dX8_isCallItem_122 : decode cX8_isCallItem 122 = .ok (.ireturn, 1) := by decide +kernel
theorem dX8_isItem_0 : decode cX8_isItem 0 = .ok (.aload_n 0, 1) := by decide +kernel
theorem dX8_isItem_1 : decode cX8_isItem 1 = .ok (.getfield 79, 3) := by decide +kernel
theorem dX8_isItem_4 : decode cX8_isItem 4 = .ok (.bipush 108, 2) := by decide +kernel
theorem dX8_isItem_6 : decode cX8_isItem 6 = .ok (.if_icmp .ne 35, 3) := by decide +kernel
theorem dX8_isItem_9 : decode cX8_isItem 9 = .ok (.aload_n 0, 1) := by decide +kernel
theorem dX8_isItem_10 : decode cX8_isItem 10 = .ok (.getfield 99, 3) := by decide +kernel
theorem dX8_isItem_13 : decode cX8_isItem 13 = .ok (.ifCond .ne 28, 3) := by decide +kernel
theorem dX8_isItem_16 : decode cX8_isItem 16 = .ok (.aload_n 0, 1) := by decide +kernel
theorem dX8_isItem_17 : decode cX8_isItem 17 = .ok (.iconst 2, 1) := by decide +kernel
theorem dX8_isItem_18 : decode cX8_isItem 18 = .ok (.bipush 6, 2) := by decide +kernel
theorem dX8_isItem_20 : decode cX8_isItem 20 = .ok (.invokevirtual 88, 3) := by decide +kernel
theorem dX8_isItem_23 : decode cX8_isItem 23 = .ok (.ifCond .ne 5, 3) := by decide +kernel
theorem dX8_isItem_26 : decode cX8_isItem 26 = .ok (.iconst 0, 1) := by decide +kernel
theorem dX8_isItem_27 : decode cX8_isItem 27 = .ok (.ireturn, 1) := by decide +kernel
theorem dX8_isItem_28 : decode cX8_isItem 28 = .ok (.aload_n 0, 1) := by decide +kernel
theorem dX8_isItem_29 : decode cX8_isItem 29 = .ok (.aload_n 0, 1) := by decide +kernel
theorem dX8_isItem_30 : decode cX8_isItem 30 = .ok (.getfield 76, 3) := by decide +kernel
theorem dX8_isItem_33 : decode cX8_isItem 33 = .ok (.putfield 85, 3) := by decide +kernel
theorem dX8_isItem_36 : decode cX8_isItem 36 = .ok (.aload_n 0, 1) := by decide +kernel
theorem dX8_isItem_37 : decode cX8_isItem 37 = .ok (.invokevirtual 92, 3) := by decide +kernel
theorem dX8_isItem_40 : decode cX8_isItem 40 = .ok (.ireturn, 1) := by decide +kernel
theorem dX8_isItem_41 : decode cX8_isItem 41 = .ok (.aload_n 0, 1) := by decide +kernel
theorem dX8_isItem_42 : decode cX8_isItem 42 = .ok (.getfield 79, 3) := by decide +kernel
theorem dX8_isItem_45 : decode cX8_isItem 45 = .ok (.bipush 120, 2) := by decide +kernel
theorem dX8_isItem_47 : decode cX8_isItem 47 = .ok (.if_icmp .ne 39, 3) := by decide +kernel
theorem dX8_isItem_50 : decode cX8_isItem 50 = .ok (.aload_n 0, 1) := by decide +kernel
theorem dX8_isItem_51 : decode cX8_isItem 51 = .ok (.getfield 102, 3) := by decide +kernel
theorem dX8_isItem_54 : decode cX8_isItem 54 = .ok (.ifCond .ne 32, 3) := by decide +kernel
theorem dX8_isItem_57 : decode cX8_isItem 57 = .ok (.aload_n 0, 1) := by decide +kernel
theorem dX8_isItem_58 : decode cX8_isItem 58 = .ok (.iconst 1, 1) := by decide +kernel
theorem dX8_isItem_59 : decode cX8_isItem 59 = .ok (.putfield 102, 3) := by decide +kernel
theorem dX8_isItem_62 : decode cX8_isItem 62 = .ok (.aload_n 0, 1) := by decide +kernel
theorem dX8_isItem_63 : decode cX8_isItem 63 = .ok (.iconst 1, 1) := by decide +kernel
theorem dX8_isItem_64 : decode cX8_isItem 64 = .ok (.iconst 4, 1) := by decide +kernel
theorem dX8_isItem_65 : decode cX8_isItem 65 = .ok (.invokevirtual 88, 3) := by decide +kernel
theorem dX8_isItem_68 : decode cX8_isItem 68 = .ok (.ifCond .ne 5, 3) := by decide +kernel
theorem dX8_isItem_71 : decode cX8_isItem 71 = .ok (.iconst 0, 1) := by decide +kernel
theorem dX8_isItem_72 : decode cX8_isItem 72 = .ok (.ireturn, 1) := by decide +kernel
theorem dX8_isItem_73 : decode cX8_isItem 73 = .ok (.aload_n 0, 1) := by decide +kernel
theorem dX8_isItem_74 : decode cX8_isItem 74 = .ok (.aload_n 0, 1) := by decide +kernel
theorem dX8_isItem_75 : decode cX8_isItem 75 = .ok (.getfield 76, 3) := by decide +kernel
theorem dX8_isItem_78 : decode cX8_isItem 78 = .ok (.putfield 106, 3) := by decide +kernel
theorem dX8_isItem_81 : decode cX8_isItem 81 = .ok (.aload_n 0, 1) := by decide +kernel
theorem dX8_isItem_82 : decode cX8_isItem 82 = .ok (.invokevirtual 92, 3) := by decide +kernel
theorem dX8_isItem_85 : decode cX8_isItem 85 = .ok (.ireturn, 1) := by decide +kernel
theorem dX8_isItem_86 : decode cX8_isItem 86 = .ok (.aload_n 0, 1) := by decide +kernel
theorem dX8_isItem_87 : decode cX8_isItem 87 = .ok (.getfield 79, 3) := by decide +kernel
theorem dX8_isItem_90 : decode cX8_isItem 90 = .ok (.bipush 104, 2) := by decide +kernel
theorem dX8_isItem_92 : decode cX8_isItem 92 = .ok (.if_icmp .ne 8, 3) := by decide +kernel
theorem dX8_isItem_95 : decode cX8_isItem 95 = .ok (.aload_n 0, 1) := by decide +kernel
theorem dX8_isItem_96 : decode cX8_isItem 96 = .ok (.invokevirtual 109, 3) := by decide +kernel
theorem dX8_isItem_99 : decode cX8_isItem 99 = .ok (.ireturn, 1) := by decide +kernel
theorem dX8_isItem_100 : decode cX8_isItem 100 = .ok (.aload_n 0, 1) := by decide +kernel
theorem dX8_isItem_101 : decode cX8_isItem 101 = .ok (.getfield 79, 3) := by decide +kernel
theorem dX8_isItem_104 : decode cX8_isItem 104 = .ok (.bipush 99, 2) := by decide +kernel
theorem dX8_isItem_106 : decode cX8_isItem 106 = .ok (.if_icmp .ne 23, 3) := by decide +kernel
theorem dX8_isItem_109 : decode cX8_isItem 109 = .ok (.aload_n 0, 1) := by decide +kernel
theorem dX8_isItem_110 : decode cX8_isItem 110 = .ok (.getfield 96, 3) := by decide +kernel
theorem dX8_isItem_113 : decode cX8_isItem 113 = .ok (.bipush 7, 2) := by decide +kernel
theorem dX8_isItem_115 : decode cX8_isItem 115 = .ok (.if_icmp .ge 14, 3) := by decide +kernel
theorem dX8_isItem_118 : decode cX8_isItem 118 = .ok (.aload_n 0, 1) := by decide +kernel
theorem dX8_isItem_119 : decode cX8_isItem 119 = .ok (.invokevirtual 112, 3) := by decide +kernel
theorem dX8_isItem_122 : decode cX8_isItem 122 = .ok (.ifCond .eq 7, 3) := by decide +kernel
theorem dX8_isItem_125 : decode cX8_isItem 125 = .ok (.iconst 1, 1) := by decide +kernel
theorem dX8_isItem_126 : decode cX8_isItem 126 = .ok (.goto 4, 3) := by decide +kernel
theorem dX8_isItem_129 : decode cX8_isItem 129 = .ok (.iconst 0, 1) := by decide +kernel
theorem dX8_isItem_130 : decode cX8_isItem 130 = .ok (.ireturn, 1) := by decide +kernel
theorem dX8_isRead_0 : decode cX8_isRead 0 = .ok (.aload_n 0, 1) := by decide +kernel
theorem dX8_isRead_1 : decode cX8_isRead 1 = .ok (.iconst 0, 1) := by decide +kernel
theorem dX8_isRead_2 : decode cX8_isRead 2 = .ok (.putfield 70, 3) := by decide +kernel
theorem dX8_isRead_5 : decode cX8_isRead 5 = .ok (.aload_n 0, 1) := by decide +kernel
theorem dX8_isRead_6 : decode cX8_isRead 6 = .ok (.iconst 0, 1) := by decide +kernel
theorem dX8_isRead_7 : decode cX8_isRead 7 = .ok (.putfield 99, 3) := by decide +kernel
theorem dX8_isRead_10 : decode cX8_isRead 10 = .ok (.aload_n 0, 1) := by decide +kernel
theorem dX8_isRead_11 : decode cX8_isRead 11 = .ok (.iconst 2, 1) := by decide +kernel
theorem dX8_isRead_12 : decode cX8_isRead 12 = .ok (.putfield 85, 3) := by decide +kernel
theorem dX8_isRead_15 : decode cX8_isRead 15 = .ok (.aload_n 0, 1) := by decide +kernel
theorem dX8_isRead_16 : decode cX8_isRead 16 = .ok (.iconst 1, 1) := by decide +kernel
theorem dX8_isRead_17 : decode cX8_isRead 17 = .ok (.putfield 106, 3) := by decide +kernel
theorem dX8_isRead_20 : decode cX8_isRead 20 = .ok (.aload_n 0, 1) := by decide +kernel
theorem dX8_isRead_21 : decode cX8_isRead 21 = .ok (.iconst 0, 1) := by decide +kernel
theorem dX8_isRead_22 : decode cX8_isRead 22 = .ok (.putfield 102, 3) := by decide +kernel
theorem dX8_isRead_25 : decode cX8_isRead 25 = .ok (.aload_n 0, 1) := by decide +kernel
theorem dX8_isRead_26 : decode cX8_isRead 26 = .ok (.iconst 0, 1) := by decide +kernel
theorem dX8_isRead_27 : decode cX8_isRead 27 = .ok (.putfield 96, 3) := by decide +kernel
theorem dX8_isRead_30 : decode cX8_isRead 30 = .ok (.iconst 0, 1) := by decide +kernel
theorem dX8_isRead_31 : decode cX8_isRead 31 = .ok (.istore_n 1, 1) := by decide +kernel
theorem dX8_isRead_32 : decode cX8_isRead 32 = .ok (.iload_n 1, 1) := by decide +kernel
theorem dX8_isRead_33 : decode cX8_isRead 33 = .ok (.bipush 6, 2) := by decide +kernel
theorem dX8_isRead_35 : decode cX8_isRead 35 = .ok (.if_icmp .ge 16, 3) := by decide +kernel
theorem dX8_isRead_38 : decode cX8_isRead 38 = .ok (.aload_n 0, 1) := by decide +kernel
theorem dX8_isRead_39 : decode cX8_isRead 39 = .ok (.getfield 13, 3) := by decide +kernel
theorem dX8_isRead_42 : decode cX8_isRead 42 = .ok (.iload_n 1, 1) := by decide +kernel
theorem dX8_isRead_43 : decode cX8_isRead 43 = .ok (.iload_n 1, 1) := by decide +kernel
theorem dX8_isRead_44 : decode cX8_isRead 44 = .ok (.iastore, 1) := by decide +kernel
theorem dX8_isRead_45 : decode cX8_isRead 45 = .ok (.iinc 1 1, 3) := by decide +kernel
theorem dX8_isRead_48 : decode cX8_isRead 48 = .ok (.goto (-16), 3) := by decide +kernel
theorem dX8_isRead_51 : decode cX8_isRead 51 = .ok (.aload_n 0, 1) := by decide +kernel
theorem dX8_isRead_52 : decode cX8_isRead 52 = .ok (.invokevirtual 82, 3) := by decide +kernel
theorem dX8_isRead_55 : decode cX8_isRead 55 = .ok (.aload_n 0, 1) := by decide +kernel
theorem dX8_isRead_56 : decode cX8_isRead 56 = .ok (.getfield 79, 3) := by decide +kernel
theorem dX8_isRead_59 : decode cX8_isRead 59 = .ok (.bipush (-2), 2) := by decide +kernel
theorem dX8_isRead_61 : decode cX8_isRead 61 = .ok (.if_icmp .eq 29, 3) := by decide +kernel
theorem dX8_isRead_64 : decode cX8_isRead 64 = .ok (.aload_n 0, 1) := by decide +kernel
theorem dX8_isRead_65 : decode cX8_isRead 65 = .ok (.invokevirtual 115, 3) := by decide +kernel
theorem dX8_isRead_68 : decode cX8_isRead 68 = .ok (.ifCond .ne 5, 3) := by decide +kernel
theorem dX8_isRead_71 : decode cX8_isRead 71 = .ok (.iconst 0, 1) := by decide +kernel
theorem dX8_isRead_72 : decode cX8_isRead 72 = .ok (.ireturn, 1) := by decide +kernel
theorem dX8_isRead_73 : decode cX8_isRead 73 = .ok (.aload_n 0, 1) := by decide +kernel
theorem dX8_isRead_74 : decode cX8_isRead 74 = .ok (.dup, 1) := by decide +kernel
theorem dX8_isRead_75 : decode cX8_isRead 75 = .ok (.getfield 99, 3) := by decide +kernel
theorem dX8_isRead_78 : decode cX8_isRead 78 = .ok (.iconst 1, 1) := by decide +kernel
theorem dX8_isRead_79 : decode cX8_isRead 79 = .ok (.iadd, 1) := by decide +kernel
theorem dX8_isRead_80 : decode cX8_isRead 80 = .ok (.putfield 99, 3) := by decide +kernel
theorem dX8_isRead_83 : decode cX8_isRead 83 = .ok (.aload_n 0, 1) := by decide +kernel
theorem dX8_isRead_84 : decode cX8_isRead 84 = .ok (.invokevirtual 82, 3) := by decide +kernel
theorem dX8_isRead_87 : decode cX8_isRead 87 = .ok (.goto (-32), 3) := by decide +kernel
theorem dX8_isRead_90 : decode cX8_isRead 90 = .ok (.iconst 1, 1) := by decide +kernel
theorem dX8_isRead_91 : decode cX8_isRead 91 = .ok (.ireturn, 1) := by decide +kernel
theorem dX8_board_0 : decode cX8_board 0 = .ok (.aload_n 0, 1) := by decide +kernel
theorem dX8_board_1 : decode cX8_board 1 = .ok (.invokevirtual 118, 3) := by decide +kernel
theorem dX8_board_4 : decode cX8_board 4 = .ok (.ifCond .ne 11, 3) := by decide +kernel
theorem dX8_board_7 : decode cX8_board 7 = .ok (.bipush (-10), 2) := by decide +kernel
theorem dX8_board_9 : decode cX8_board 9 = .ok (.aload_n 0, 1) := by decide +kernel
theorem dX8_board_10 : decode cX8_board 10 = .ok (.getfield 73, 3) := by decide +kernel
theorem dX8_board_13 : decode cX8_board 13 = .ok (.isub, 1) := by decide +kernel
theorem dX8_board_14 : decode cX8_board 14 = .ok (.ireturn, 1) := by decide +kernel
theorem dX8_board_15 : decode cX8_board 15 = .ok (.aload_n 0, 1) := by decide +kernel
theorem dX8_board_16 : decode cX8_board 16 = .ok (.aload_n 0, 1) := by decide +kernel
theorem dX8_board_17 : decode cX8_board 17 = .ok (.getfield 85, 3) := by decide +kernel
theorem dX8_board_20 : decode cX8_board 20 = .ok (.putfield 19, 3) := by decide +kernel
theorem dX8_board_23 : decode cX8_board 23 = .ok (.aload_n 0, 1) := by decide +kernel
theorem dX8_board_24 : decode cX8_board 24 = .ok (.aload_n 0, 1) := by decide +kernel
theorem dX8_board_25 : decode cX8_board 25 = .ok (.getfield 106, 3) := by decide +kernel
theorem dX8_board_28 : decode cX8_board 28 = .ok (.putfield 23, 3) := by decide +kernel
theorem dX8_board_31 : decode cX8_board 31 = .ok (.aload_n 0, 1) := by decide +kernel
theorem dX8_board_32 : decode cX8_board 32 = .ok (.aload_n 0, 1) := by decide +kernel
theorem dX8_board_33 : decode cX8_board 33 = .ok (.getfield 96, 3) := by decide +kernel
theorem dX8_board_36 : decode cX8_board 36 = .ok (.putfield 57, 3) := by decide +kernel
theorem dX8_board_39 : decode cX8_board 39 = .ok (.iconst 0, 1) := by decide +kernel
theorem dX8_board_40 : decode cX8_board 40 = .ok (.istore_n 1, 1) := by decide +kernel
theorem dX8_board_41 : decode cX8_board 41 = .ok (.iload_n 1, 1) := by decide +kernel
theorem dX8_board_42 : decode cX8_board 42 = .ok (.iconst 5, 1) := by decide +kernel
theorem dX8_board_43 : decode cX8_board 43 = .ok (.aload_n 0, 1) := by decide +kernel
theorem dX8_board_44 : decode cX8_board 44 = .ok (.getfield 57, 3) := by decide +kernel
theorem dX8_board_47 : decode cX8_board 47 = .ok (.imul, 1) := by decide +kernel
theorem dX8_board_48 : decode cX8_board 48 = .ok (.if_icmp .ge 21, 3) := by decide +kernel
theorem dX8_board_51 : decode cX8_board 51 = .ok (.aload_n 0, 1) := by decide +kernel
theorem dX8_board_52 : decode cX8_board 52 = .ok (.getfield 26, 3) := by decide +kernel
theorem dX8_board_55 : decode cX8_board 55 = .ok (.iload_n 1, 1) := by decide +kernel
theorem dX8_board_56 : decode cX8_board 56 = .ok (.aload_n 0, 1) := by decide +kernel
theorem dX8_board_57 : decode cX8_board 57 = .ok (.getfield 16, 3) := by decide +kernel
theorem dX8_board_60 : decode cX8_board 60 = .ok (.iload_n 1, 1) := by decide +kernel
theorem dX8_board_61 : decode cX8_board 61 = .ok (.iaload, 1) := by decide +kernel
theorem dX8_board_62 : decode cX8_board 62 = .ok (.iastore, 1) := by decide +kernel
theorem dX8_board_63 : decode cX8_board 63 = .ok (.iinc 1 1, 3) := by decide +kernel
theorem dX8_board_66 : decode cX8_board 66 = .ok (.goto (-25), 3) := by decide +kernel
theorem dX8_board_69 : decode cX8_board 69 = .ok (.aload_n 0, 1) := by decide +kernel
theorem dX8_board_70 : decode cX8_board 70 = .ok (.iconst 0, 1) := by decide +kernel
theorem dX8_board_71 : decode cX8_board 71 = .ok (.putfield 67, 3) := by decide +kernel
theorem dX8_board_74 : decode cX8_board 74 = .ok (.aload_n 0, 1) := by decide +kernel
theorem dX8_board_75 : decode cX8_board 75 = .ok (.invokevirtual 54, 3) := by decide +kernel
theorem dX8_board_78 : decode cX8_board 78 = .ok (.aload_n 0, 1) := by decide +kernel
theorem dX8_board_79 : decode cX8_board 79 = .ok (.getfield 99, 3) := by decide +kernel
theorem dX8_board_82 : decode cX8_board 82 = .ok (.ireturn, 1) := by decide +kernel
theorem dX8_fromOf_0 : decode cX8_fromOf 0 = .ok (.aload_n 0, 1) := by decide +kernel
theorem dX8_fromOf_1 : decode cX8_fromOf 1 = .ok (.getfield 26, 3) := by decide +kernel
theorem dX8_fromOf_4 : decode cX8_fromOf 4 = .ok (.iconst 5, 1) := by decide +kernel
theorem dX8_fromOf_5 : decode cX8_fromOf 5 = .ok (.iload_n 1, 1) := by decide +kernel
theorem dX8_fromOf_6 : decode cX8_fromOf 6 = .ok (.imul, 1) := by decide +kernel
theorem dX8_fromOf_7 : decode cX8_fromOf 7 = .ok (.iconst 1, 1) := by decide +kernel
theorem dX8_fromOf_8 : decode cX8_fromOf 8 = .ok (.iadd, 1) := by decide +kernel
theorem dX8_fromOf_9 : decode cX8_fromOf 9 = .ok (.iaload, 1) := by decide +kernel
theorem dX8_fromOf_10 : decode cX8_fromOf 10 = .ok (.ireturn, 1) := by decide +kernel
theorem dX8_toOf_0 : decode cX8_toOf 0 = .ok (.aload_n 0, 1) := by decide +kernel
theorem dX8_toOf_1 : decode cX8_toOf 1 = .ok (.getfield 26, 3) := by decide +kernel
theorem dX8_toOf_4 : decode cX8_toOf 4 = .ok (.iconst 5, 1) := by decide +kernel
theorem dX8_toOf_5 : decode cX8_toOf 5 = .ok (.iload_n 1, 1) := by decide +kernel
theorem dX8_toOf_6 : decode cX8_toOf 6 = .ok (.imul, 1) := by decide +kernel
theorem dX8_toOf_7 : decode cX8_toOf 7 = .ok (.iconst 2, 1) := by decide +kernel
theorem dX8_toOf_8 : decode cX8_toOf 8 = .ok (.iadd, 1) := by decide +kernel
theorem dX8_toOf_9 : decode cX8_toOf 9 = .ok (.iaload, 1) := by decide +kernel
theorem dX8_toOf_10 : decode cX8_toOf 10 = .ok (.ireturn, 1) := by decide +kernel
theorem dX8_isOn_0 : decode cX8_isOn 0 = .ok (.aload_n 0, 1) := by decide +kernel
theorem dX8_isOn_1 : decode cX8_isOn 1 = .ok (.iload_n 1, 1) := by decide +kernel
theorem dX8_isOn_2 : decode cX8_isOn 2 = .ok (.invokevirtual 121, 3) := by decide +kernel
theorem dX8_isOn_5 : decode cX8_isOn 5 = .ok (.iload_n 2, 1) := by decide +kernel
theorem dX8_isOn_6 : decode cX8_isOn 6 = .ok (.if_icmp .eq 12, 3) := by decide +kernel
theorem dX8_isOn_9 : decode cX8_isOn 9 = .ok (.aload_n 0, 1) := by decide +kernel
theorem dX8_isOn_10 : decode cX8_isOn 10 = .ok (.iload_n 1, 1) := by decide +kernel
theorem dX8_isOn_11 : decode cX8_isOn 11 = .ok (.invokevirtual 125, 3) := by decide +kernel
theorem dX8_isOn_14 : decode cX8_isOn 14 = .ok (.iload_n 2, 1) := by decide +kernel
theorem dX8_isOn_15 : decode cX8_isOn 15 = .ok (.if_icmp .ne 7, 3) := by decide +kernel
theorem dX8_isOn_18 : decode cX8_isOn 18 = .ok (.iconst 1, 1) := by decide +kernel
theorem dX8_isOn_19 : decode cX8_isOn 19 = .ok (.goto 4, 3) := by decide +kernel
theorem dX8_isOn_22 : decode cX8_isOn 22 = .ok (.iconst 0, 1) := by decide +kernel
theorem dX8_isOn_23 : decode cX8_isOn 23 = .ok (.ireturn, 1) := by decide +kernel
theorem dX8_talkerOn_0 : decode cX8_talkerOn 0 = .ok (.bipush (-9), 2) := by decide +kernel
theorem dX8_talkerOn_2 : decode cX8_talkerOn 2 = .ok (.istore_n 3, 1) := by decide +kernel
theorem dX8_talkerOn_3 : decode cX8_talkerOn 3 = .ok (.iconst 0, 1) := by decide +kernel
theorem dX8_talkerOn_4 : decode cX8_talkerOn 4 = .ok (.istore 4, 2) := by decide +kernel
theorem dX8_talkerOn_6 : decode cX8_talkerOn 6 = .ok (.iload 4, 2) := by decide +kernel
theorem dX8_talkerOn_8 : decode cX8_talkerOn 8 = .ok (.aload_n 0, 1) := by decide +kernel
theorem dX8_talkerOn_9 : decode cX8_talkerOn 9 = .ok (.getfield 57, 3) := by decide +kernel
theorem dX8_talkerOn_12 : decode cX8_talkerOn 12 = .ok (.if_icmp .ge 37, 3) := by decide +kernel
theorem dX8_talkerOn_15 : decode cX8_talkerOn 15 = .ok (.aload_n 1, 1) := by decide +kernel
theorem dX8_talkerOn_16 : decode cX8_talkerOn 16 = .ok (.bipush 7, 2) := by decide +kernel
theorem dX8_talkerOn_18 : decode cX8_talkerOn 18 = .ok (.iload 4, 2) := by decide +kernel
theorem dX8_talkerOn_20 : decode cX8_talkerOn 20 = .ok (.iadd, 1) := by decide +kernel
theorem dX8_talkerOn_21 : decode cX8_talkerOn 21 = .ok (.iaload, 1) := by decide +kernel
theorem dX8_talkerOn_22 : decode cX8_talkerOn 22 = .ok (.iconst 2, 1) := by decide +kernel
theorem dX8_talkerOn_23 : decode cX8_talkerOn 23 = .ok (.if_icmp .ne 18, 3) := by decide +kernel
theorem dX8_talkerOn_26 : decode cX8_talkerOn 26 = .ok (.aload_n 0, 1) := by decide +kernel
theorem dX8_talkerOn_27 : decode cX8_talkerOn 27 = .ok (.iload 4, 2) := by decide +kernel
theorem dX8_talkerOn_29 : decode cX8_talkerOn 29 = .ok (.iload_n 2, 1) := by decide +kernel
theorem dX8_talkerOn_30 : decode cX8_talkerOn 30 = .ok (.invokevirtual 128, 3) := by decide +kernel
theorem dX8_talkerOn_33 : decode cX8_talkerOn 33 = .ok (.ifCond .eq 8, 3) := by decide +kernel
theorem dX8_talkerOn_36 : decode cX8_talkerOn 36 = .ok (.iload 4, 2) := by decide +kernel
theorem dX8_talkerOn_38 : decode cX8_talkerOn 38 = .ok (.goto 4, 3) := by decide +kernel
theorem dX8_talkerOn_41 : decode cX8_talkerOn 41 = .ok (.iload_n 3, 1) := by decide +kernel
theorem dX8_talkerOn_42 : decode cX8_talkerOn 42 = .ok (.istore_n 3, 1) := by decide +kernel
theorem dX8_talkerOn_43 : decode cX8_talkerOn 43 = .ok (.iinc 4 1, 3) := by decide +kernel
theorem dX8_talkerOn_46 : decode cX8_talkerOn 46 = .ok (.goto (-40), 3) := by decide +kernel
theorem dX8_talkerOn_49 : decode cX8_talkerOn 49 = .ok (.iload_n 3, 1) := by decide +kernel
theorem dX8_talkerOn_50 : decode cX8_talkerOn 50 = .ok (.ireturn, 1) := by decide +kernel
theorem dX8_setOf_0 : decode cX8_setOf 0 = .ok (.iconst 0, 1) := by decide +kernel
theorem dX8_setOf_1 : decode cX8_setOf 1 = .ok (.istore_n 3, 1) := by decide +kernel
theorem dX8_setOf_2 : decode cX8_setOf 2 = .ok (.iconst 0, 1) := by decide +kernel
theorem dX8_setOf_3 : decode cX8_setOf 3 = .ok (.istore 4, 2) := by decide +kernel
theorem dX8_setOf_5 : decode cX8_setOf 5 = .ok (.iload 4, 2) := by decide +kernel
theorem dX8_setOf_7 : decode cX8_setOf 7 = .ok (.aload_n 0, 1) := by decide +kernel
theorem dX8_setOf_8 : decode cX8_setOf 8 = .ok (.getfield 57, 3) := by decide +kernel
theorem dX8_setOf_11 : decode cX8_setOf 11 = .ok (.if_icmp .ge 31, 3) := by decide +kernel
theorem dX8_setOf_14 : decode cX8_setOf 14 = .ok (.iload_n 3, 1) := by decide +kernel
theorem dX8_setOf_15 : decode cX8_setOf 15 = .ok (.aload_n 1, 1) := by decide +kernel
theorem dX8_setOf_16 : decode cX8_setOf 16 = .ok (.bipush 7, 2) := by decide +kernel
theorem dX8_setOf_18 : decode cX8_setOf 18 = .ok (.iload 4, 2) := by decide +kernel
theorem dX8_setOf_20 : decode cX8_setOf 20 = .ok (.iadd, 1) := by decide +kernel
theorem dX8_setOf_21 : decode cX8_setOf 21 = .ok (.iaload, 1) := by decide +kernel
theorem dX8_setOf_22 : decode cX8_setOf 22 = .ok (.iload_n 2, 1) := by decide +kernel
theorem dX8_setOf_23 : decode cX8_setOf 23 = .ok (.if_icmp .ne 10, 3) := by decide +kernel
theorem dX8_setOf_26 : decode cX8_setOf 26 = .ok (.iconst 1, 1) := by decide +kernel
theorem dX8_setOf_27 : decode cX8_setOf 27 = .ok (.iload 4, 2) := by decide +kernel
theorem dX8_setOf_29 : decode cX8_setOf 29 = .ok (.ishl, 1) := by decide +kernel
theorem dX8_setOf_30 : decode cX8_setOf 30 = .ok (.goto 4, 3) := by decide +kernel
theorem dX8_setOf_33 : decode cX8_setOf 33 = .ok (.iconst 0, 1) := by decide +kernel
theorem dX8_setOf_34 : decode cX8_setOf 34 = .ok (.ior, 1) := by decide +kernel
theorem dX8_setOf_35 : decode cX8_setOf 35 = .ok (.istore_n 3, 1) := by decide +kernel
theorem dX8_setOf_36 : decode cX8_setOf 36 = .ok (.iinc 4 1, 3) := by decide +kernel
theorem dX8_setOf_39 : decode cX8_setOf 39 = .ok (.goto (-34), 3) := by decide +kernel
theorem dX8_setOf_42 : decode cX8_setOf 42 = .ok (.iload_n 3, 1) := by decide +kernel
theorem dX8_setOf_43 : decode cX8_setOf 43 = .ok (.ireturn, 1) := by decide +kernel
theorem dX8_bits_0 : decode cX8_bits 0 = .ok (.iconst 0, 1) := by decide +kernel
theorem dX8_bits_1 : decode cX8_bits 1 = .ok (.istore_n 1, 1) := by decide +kernel
theorem dX8_bits_2 : decode cX8_bits 2 = .ok (.iconst 0, 1) := by decide +kernel
theorem dX8_bits_3 : decode cX8_bits 3 = .ok (.istore_n 2, 1) := by decide +kernel
theorem dX8_bits_4 : decode cX8_bits 4 = .ok (.iload_n 2, 1) := by decide +kernel
theorem dX8_bits_5 : decode cX8_bits 5 = .ok (.bipush 7, 2) := by decide +kernel
theorem dX8_bits_7 : decode cX8_bits 7 = .ok (.if_icmp .ge 17, 3) := by decide +kernel
theorem dX8_bits_10 : decode cX8_bits 10 = .ok (.iload_n 1, 1) := by decide +kernel
theorem dX8_bits_11 : decode cX8_bits 11 = .ok (.iload_n 0, 1) := by decide +kernel
theorem dX8_bits_12 : decode cX8_bits 12 = .ok (.iload_n 2, 1) := by decide +kernel
theorem dX8_bits_13 : decode cX8_bits 13 = .ok (.ishr, 1) := by decide +kernel
theorem dX8_bits_14 : decode cX8_bits 14 = .ok (.iconst 1, 1) := by decide +kernel
theorem dX8_bits_15 : decode cX8_bits 15 = .ok (.iand, 1) := by decide +kernel
theorem dX8_bits_16 : decode cX8_bits 16 = .ok (.iadd, 1) := by decide +kernel
theorem dX8_bits_17 : decode cX8_bits 17 = .ok (.istore_n 1, 1) := by decide +kernel
theorem dX8_bits_18 : decode cX8_bits 18 = .ok (.iinc 2 1, 3) := by decide +kernel
theorem dX8_bits_21 : decode cX8_bits 21 = .ok (.goto (-17), 3) := by decide +kernel
theorem dX8_bits_24 : decode cX8_bits 24 = .ok (.iload_n 1, 1) := by decide +kernel
theorem dX8_bits_25 : decode cX8_bits 25 = .ok (.ireturn, 1) := by decide +kernel
theorem dX8_freeCords_0 : decode cX8_freeCords 0 = .ok (.iload_n 2, 1) := by decide +kernel
theorem dX8_freeCords_1 : decode cX8_freeCords 1 = .ok (.aload_n 0, 1) := by decide +kernel
theorem dX8_freeCords_2 : decode cX8_freeCords 2 = .ok (.aload_n 1, 1) := by decide +kernel
theorem dX8_freeCords_3 : decode cX8_freeCords 3 = .ok (.iconst 2, 1) := by decide +kernel
theorem dX8_freeCords_4 : decode cX8_freeCords 4 = .ok (.invokevirtual 131, 3) := by decide +kernel
theorem dX8_freeCords_7 : decode cX8_freeCords 7 = .ok (.invokestatic 135, 3) := by decide +kernel
theorem dX8_freeCords_10 : decode cX8_freeCords 10 = .ok (.isub, 1) := by decide +kernel
theorem dX8_freeCords_11 : decode cX8_freeCords 11 = .ok (.ireturn, 1) := by decide +kernel
theorem dX8_areFree_0 : decode cX8_areFree 0 = .ok (.aload_n 0, 1) := by decide +kernel
theorem dX8_areFree_1 : decode cX8_areFree 1 = .ok (.aload_n 1, 1) := by decide +kernel
theorem dX8_areFree_2 : decode cX8_areFree 2 = .ok (.aload_n 0, 1) := by decide +kernel
theorem dX8_areFree_3 : decode cX8_areFree 3 = .ok (.iload_n 2, 1) := by decide +kernel
theorem dX8_areFree_4 : decode cX8_areFree 4 = .ok (.invokevirtual 121, 3) := by decide +kernel
theorem dX8_areFree_7 : decode cX8_areFree 7 = .ok (.invokevirtual 138, 3) := by decide +kernel
theorem dX8_areFree_10 : decode cX8_areFree 10 = .ok (.bipush (-9), 2) := by decide +kernel
theorem dX8_areFree_12 : decode cX8_areFree 12 = .ok (.if_icmp .ne 22, 3) := by decide +kernel
theorem dX8_areFree_15 : decode cX8_areFree 15 = .ok (.aload_n 0, 1) := by decide +kernel
theorem dX8_areFree_16 : decode cX8_areFree 16 = .ok (.aload_n 1, 1) := by decide +kernel
theorem dX8_areFree_17 : decode cX8_areFree 17 = .ok (.aload_n 0, 1) := by decide +kernel
theorem dX8_areFree_18 : decode cX8_areFree 18 = .ok (.iload_n 2, 1) := by decide +kernel
theorem dX8_areFree_19 : decode cX8_areFree 19 = .ok (.invokevirtual 125, 3) := by decide +kernel
theorem dX8_areFree_22 : decode cX8_areFree 22 = .ok (.invokevirtual 138, 3) := by decide +kernel
theorem dX8_areFree_25 : decode cX8_areFree 25 = .ok (.bipush (-9), 2) := by decide +kernel
theorem dX8_areFree_27 : decode cX8_areFree 27 = .ok (.if_icmp .ne 7, 3) := by decide +kernel
theorem dX8_areFree_30 : decode cX8_areFree 30 = .ok (.iconst 1, 1) := by decide +kernel
theorem dX8_areFree_31 : decode cX8_areFree 31 = .ok (.goto 4, 3) := by decide +kernel
theorem dX8_areFree_34 : decode cX8_areFree 34 = .ok (.iconst 0, 1) := by decide +kernel
theorem dX8_areFree_35 : decode cX8_areFree 35 = .ok (.ireturn, 1) := by decide +kernel
theorem dX8_canPlug_0 : decode cX8_canPlug 0 = .ok (.aload_n 1, 1) := by decide +kernel
theorem dX8_canPlug_1 : decode cX8_canPlug 1 = .ok (.bipush 7, 2) := by decide +kernel
theorem dX8_canPlug_3 : decode cX8_canPlug 3 = .ok (.iload_n 2, 1) := by decide +kernel
theorem dX8_canPlug_4 : decode cX8_canPlug 4 = .ok (.iadd, 1) := by decide +kernel
theorem dX8_canPlug_5 : decode cX8_canPlug 5 = .ok (.iaload, 1) := by decide +kernel
theorem dX8_canPlug_6 : decode cX8_canPlug 6 = .ok (.iconst 1, 1) := by decide +kernel
theorem dX8_canPlug_7 : decode cX8_canPlug 7 = .ok (.if_icmp .ne 25, 3) := by decide +kernel
theorem dX8_canPlug_10 : decode cX8_canPlug 10 = .ok (.aload_n 0, 1) := by decide +kernel
theorem dX8_canPlug_11 : decode cX8_canPlug 11 = .ok (.aload_n 1, 1) := by decide +kernel
theorem dX8_canPlug_12 : decode cX8_canPlug 12 = .ok (.iload_n 3, 1) := by decide +kernel
theorem dX8_canPlug_13 : decode cX8_canPlug 13 = .ok (.invokevirtual 141, 3) := by decide +kernel
theorem dX8_canPlug_16 : decode cX8_canPlug 16 = .ok (.ifCond .le 16, 3) := by decide +kernel
theorem dX8_canPlug_19 : decode cX8_canPlug 19 = .ok (.aload_n 0, 1) := by decide +kernel
theorem dX8_canPlug_20 : decode cX8_canPlug 20 = .ok (.aload_n 1, 1) := by decide +kernel
theorem dX8_canPlug_21 : decode cX8_canPlug 21 = .ok (.iload_n 2, 1) := by decide +kernel
theorem dX8_canPlug_22 : decode cX8_canPlug 22 = .ok (.invokevirtual 144, 3) := by decide +kernel
theorem dX8_canPlug_25 : decode cX8_canPlug 25 = .ok (.ifCond .eq 7, 3) := by decide +kernel
theorem dX8_canPlug_28 : decode cX8_canPlug 28 = .ok (.iconst 1, 1) := by decide +kernel
theorem dX8_canPlug_29 : decode cX8_canPlug 29 = .ok (.goto 4, 3) := by decide +kernel
theorem dX8_canPlug_32 : decode cX8_canPlug 32 = .ok (.iconst 0, 1) := by decide +kernel
theorem dX8_canPlug_33 : decode cX8_canPlug 33 = .ok (.ireturn, 1) := by decide +kernel
theorem dX8_plug_0 : decode cX8_plug 0 = .ok (.aload_n 1, 1) := by decide +kernel
theorem dX8_plug_1 : decode cX8_plug 1 = .ok (.bipush 7, 2) := by decide +kernel
theorem dX8_plug_3 : decode cX8_plug 3 = .ok (.iload_n 2, 1) := by decide +kernel
theorem dX8_plug_4 : decode cX8_plug 4 = .ok (.iadd, 1) := by decide +kernel
theorem dX8_plug_5 : decode cX8_plug 5 = .ok (.iconst 2, 1) := by decide +kernel
theorem dX8_plug_6 : decode cX8_plug 6 = .ok (.iastore, 1) := by decide +kernel
theorem dX8_plug_7 : decode cX8_plug 7 = .ok (.aload_n 1, 1) := by decide +kernel
theorem dX8_plug_8 : decode cX8_plug 8 = .ok (.bipush 14, 2) := by decide +kernel
theorem dX8_plug_10 : decode cX8_plug 10 = .ok (.iload_n 2, 1) := by decide +kernel
theorem dX8_plug_11 : decode cX8_plug 11 = .ok (.iadd, 1) := by decide +kernel
theorem dX8_plug_12 : decode cX8_plug 12 = .ok (.aload_n 0, 1) := by decide +kernel
theorem dX8_plug_13 : decode cX8_plug 13 = .ok (.getfield 26, 3) := by decide +kernel
theorem dX8_plug_16 : decode cX8_plug 16 = .ok (.iconst 5, 1) := by decide +kernel
theorem dX8_plug_17 : decode cX8_plug 17 = .ok (.iload_n 2, 1) := by decide +kernel
theorem dX8_plug_18 : decode cX8_plug 18 = .ok (.imul, 1) := by decide +kernel
theorem dX8_plug_19 : decode cX8_plug 19 = .ok (.iconst 3, 1) := by decide +kernel
theorem dX8_plug_20 : decode cX8_plug 20 = .ok (.iadd, 1) := by decide +kernel
theorem dX8_plug_21 : decode cX8_plug 21 = .ok (.iaload, 1) := by decide +kernel
theorem dX8_plug_22 : decode cX8_plug 22 = .ok (.iastore, 1) := by decide +kernel
theorem dX8_plug_23 : decode cX8_plug 23 = .ok (.return_, 1) := by decide +kernel
theorem dX8_isBetween_0 : decode cX8_isBetween 0 = .ok (.iload_n 1, 1) := by decide +kernel
theorem dX8_isBetween_1 : decode cX8_isBetween 1 = .ok (.iload_n 2, 1) := by decide +kernel
theorem dX8_isBetween_2 : decode cX8_isBetween 2 = .ok (.if_icmp .ge 21, 3) := by decide +kernel
theorem dX8_isBetween_5 : decode cX8_isBetween 5 = .ok (.iload_n 0, 1) := by decide +kernel
theorem dX8_isBetween_6 : decode cX8_isBetween 6 = .ok (.iload_n 1, 1) := by decide +kernel
theorem dX8_isBetween_7 : decode cX8_isBetween 7 = .ok (.if_icmp .le 12, 3) := by decide +kernel
theorem dX8_isBetween_10 : decode cX8_isBetween 10 = .ok (.iload_n 0, 1) := by decide +kernel
theorem dX8_isBetween_11 : decode cX8_isBetween 11 = .ok (.iload_n 2, 1) := by decide +kernel
theorem dX8_isBetween_12 : decode cX8_isBetween 12 = .ok (.if_icmp .ge 7, 3) := by decide +kernel
theorem dX8_isBetween_15 : decode cX8_isBetween 15 = .ok (.iconst 1, 1) := by decide +kernel
theorem dX8_isBetween_16 : decode cX8_isBetween 16 = .ok (.goto 22, 3) := by decide +kernel
theorem dX8_isBetween_19 : decode cX8_isBetween 19 = .ok (.iconst 0, 1) := by decide +kernel
theorem dX8_isBetween_20 : decode cX8_isBetween 20 = .ok (.goto 18, 3) := by decide +kernel
theorem dX8_isBetween_23 : decode cX8_isBetween 23 = .ok (.iload_n 0, 1) := by decide +kernel
theorem dX8_isBetween_24 : decode cX8_isBetween 24 = .ok (.iload_n 2, 1) := by decide +kernel
theorem dX8_isBetween_25 : decode cX8_isBetween 25 = .ok (.if_icmp .le 12, 3) := by decide +kernel
theorem dX8_isBetween_28 : decode cX8_isBetween 28 = .ok (.iload_n 0, 1) := by decide +kernel
theorem dX8_isBetween_29 : decode cX8_isBetween 29 = .ok (.iload_n 1, 1) := by decide +kernel
theorem dX8_isBetween_30 : decode cX8_isBetween 30 = .ok (.if_icmp .ge 7, 3) := by decide +kernel
theorem dX8_isBetween_33 : decode cX8_isBetween 33 = .ok (.iconst 1, 1) := by decide +kernel
theorem dX8_isBetween_34 : decode cX8_isBetween 34 = .ok (.goto 4, 3) := by decide +kernel
theorem dX8_isBetween_37 : decode cX8_isBetween 37 = .ok (.iconst 0, 1) := by decide +kernel
theorem dX8_isBetween_38 : decode cX8_isBetween 38 = .ok (.ireturn, 1) := by decide +kernel
theorem dX8_holeOf_0 : decode cX8_holeOf 0 = .ok (.aload_n 0, 1) := by decide +kernel
theorem dX8_holeOf_1 : decode cX8_holeOf 1 = .ok (.getfield 29, 3) := by decide +kernel
theorem dX8_holeOf_4 : decode cX8_holeOf 4 = .ok (.iconst 1, 1) := by decide +kernel
theorem dX8_holeOf_5 : decode cX8_holeOf 5 = .ok (.iload_n 1, 1) := by decide +kernel
theorem dX8_holeOf_6 : decode cX8_holeOf 6 = .ok (.iadd, 1) := by decide +kernel
theorem dX8_holeOf_7 : decode cX8_holeOf 7 = .ok (.iaload, 1) := by decide +kernel
theorem dX8_holeOf_8 : decode cX8_holeOf 8 = .ok (.ireturn, 1) := by decide +kernel
theorem dX8_cross_0 : decode cX8_cross 0 = .ok (.aload_n 0, 1) := by decide +kernel
theorem dX8_cross_1 : decode cX8_cross 1 = .ok (.iload_n 2, 1) := by decide +kernel
theorem dX8_cross_2 : decode cX8_cross 2 = .ok (.aload_n 0, 1) := by decide +kernel
theorem dX8_cross_3 : decode cX8_cross 3 = .ok (.iload_n 1, 1) := by decide +kernel
theorem dX8_cross_4 : decode cX8_cross 4 = .ok (.invokevirtual 121, 3) := by decide +kernel
theorem dX8_cross_7 : decode cX8_cross 7 = .ok (.invokevirtual 128, 3) := by decide +kernel
theorem dX8_cross_10 : decode cX8_cross 10 = .ok (.ifCond .ne 16, 3) := by decide +kernel
theorem dX8_cross_13 : decode cX8_cross 13 = .ok (.aload_n 0, 1) := by decide +kernel
theorem dX8_cross_14 : decode cX8_cross 14 = .ok (.iload_n 2, 1) := by decide +kernel
theorem dX8_cross_15 : decode cX8_cross 15 = .ok (.aload_n 0, 1) := by decide +kernel
theorem dX8_cross_16 : decode cX8_cross 16 = .ok (.iload_n 1, 1) := by decide +kernel
theorem dX8_cross_17 : decode cX8_cross 17 = .ok (.invokevirtual 125, 3) := by decide +kernel
theorem dX8_cross_20 : decode cX8_cross 20 = .ok (.invokevirtual 128, 3) := by decide +kernel
theorem dX8_cross_23 : decode cX8_cross 23 = .ok (.ifCond .eq 5, 3) := by decide +kernel
theorem dX8_cross_26 : decode cX8_cross 26 = .ok (.iconst 0, 1) := by decide +kernel
theorem dX8_cross_27 : decode cX8_cross 27 = .ok (.ireturn, 1) := by decide +kernel
theorem dX8_cross_28 : decode cX8_cross 28 = .ok (.aload_n 0, 1) := by decide +kernel
theorem dX8_cross_29 : decode cX8_cross 29 = .ok (.aload_n 0, 1) := by decide +kernel
theorem dX8_cross_30 : decode cX8_cross 30 = .ok (.iload_n 1, 1) := by decide +kernel
theorem dX8_cross_31 : decode cX8_cross 31 = .ok (.invokevirtual 121, 3) := by decide +kernel
theorem dX8_cross_34 : decode cX8_cross 34 = .ok (.invokevirtual 148, 3) := by decide +kernel
theorem dX8_cross_37 : decode cX8_cross 37 = .ok (.istore_n 3, 1) := by decide +kernel
theorem dX8_cross_38 : decode cX8_cross 38 = .ok (.aload_n 0, 1) := by decide +kernel
theorem dX8_cross_39 : decode cX8_cross 39 = .ok (.aload_n 0, 1) := by decide +kernel
theorem dX8_cross_40 : decode cX8_cross 40 = .ok (.iload_n 1, 1) := by decide +kernel
theorem dX8_cross_41 : decode cX8_cross 41 = .ok (.invokevirtual 125, 3) := by decide +kernel
theorem dX8_cross_44 : decode cX8_cross 44 = .ok (.invokevirtual 148, 3) := by decide +kernel
theorem dX8_cross_47 : decode cX8_cross 47 = .ok (.istore 4, 2) := by decide +kernel
theorem dX8_cross_49 : decode cX8_cross 49 = .ok (.aload_n 0, 1) := by decide +kernel
theorem dX8_cross_50 : decode cX8_cross 50 = .ok (.aload_n 0, 1) := by decide +kernel
theorem dX8_cross_51 : decode cX8_cross 51 = .ok (.iload_n 2, 1) := by decide +kernel
theorem dX8_cross_52 : decode cX8_cross 52 = .ok (.invokevirtual 121, 3) := by decide +kernel
theorem dX8_cross_55 : decode cX8_cross 55 = .ok (.invokevirtual 148, 3) := by decide +kernel
theorem dX8_cross_58 : decode cX8_cross 58 = .ok (.iload_n 3, 1) := by decide +kernel
theorem dX8_cross_59 : decode cX8_cross 59 = .ok (.iload 4, 2) := by decide +kernel
theorem dX8_cross_61 : decode cX8_cross 61 = .ok (.invokestatic 151, 3) := by decide +kernel
theorem dX8_cross_64 : decode cX8_cross 64 = .ok (.aload_n 0, 1) := by decide +kernel
theorem dX8_cross_65 : decode cX8_cross 65 = .ok (.aload_n 0, 1) := by decide +kernel
theorem dX8_cross_66 : decode cX8_cross 66 = .ok (.iload_n 2, 1) := by decide +kernel
theorem dX8_cross_67 : decode cX8_cross 67 = .ok (.invokevirtual 125, 3) := by decide +kernel
theorem dX8_cross_70 : decode cX8_cross 70 = .ok (.invokevirtual 148, 3) := by decide +kernel
theorem dX8_cross_73 : decode cX8_cross 73 = .ok (.iload_n 3, 1) := by decide +kernel
theorem dX8_cross_74 : decode cX8_cross 74 = .ok (.iload 4, 2) := by decide +kernel
theorem dX8_cross_76 : decode cX8_cross 76 = .ok (.invokestatic 151, 3) := by decide +kernel
theorem dX8_cross_79 : decode cX8_cross 79 = .ok (.if_icmp .eq 7, 3) := by decide +kernel
theorem dX8_cross_82 : decode cX8_cross 82 = .ok (.iconst 1, 1) := by decide +kernel
theorem dX8_cross_83 : decode cX8_cross 83 = .ok (.goto 4, 3) := by decide +kernel
theorem dX8_cross_86 : decode cX8_cross 86 = .ok (.iconst 0, 1) := by decide +kernel
theorem dX8_cross_87 : decode cX8_cross 87 = .ok (.ireturn, 1) := by decide +kernel
theorem dX8_crossed_0 : decode cX8_crossed 0 = .ok (.iconst 0, 1) := by decide +kernel
theorem dX8_crossed_1 : decode cX8_crossed 1 = .ok (.istore_n 1, 1) := by decide +kernel
theorem dX8_crossed_2 : decode cX8_crossed 2 = .ok (.iconst 0, 1) := by decide +kernel
theorem dX8_crossed_3 : decode cX8_crossed 3 = .ok (.istore_n 2, 1) := by decide +kernel
theorem dX8_crossed_4 : decode cX8_crossed 4 = .ok (.iload_n 2, 1) := by decide +kernel
theorem dX8_crossed_5 : decode cX8_crossed 5 = .ok (.aload_n 0, 1) := by decide +kernel
theorem dX8_crossed_6 : decode cX8_crossed 6 = .ok (.getfield 57, 3) := by decide +kernel
theorem dX8_crossed_9 : decode cX8_crossed 9 = .ok (.if_icmp .ge 65, 3) := by decide +kernel
theorem dX8_crossed_12 : decode cX8_crossed 12 = .ok (.iconst 0, 1) := by decide +kernel
theorem dX8_crossed_13 : decode cX8_crossed 13 = .ok (.istore_n 3, 1) := by decide +kernel
theorem dX8_crossed_14 : decode cX8_crossed 14 = .ok (.iload_n 3, 1) := by decide +kernel
theorem dX8_crossed_15 : decode cX8_crossed 15 = .ok (.iload_n 2, 1) := by decide +kernel
theorem dX8_crossed_16 : decode cX8_crossed 16 = .ok (.if_icmp .ge 52, 3) := by decide +kernel
theorem dX8_crossed_19 : decode cX8_crossed 19 = .ok (.iload_n 1, 1) := by decide +kernel
theorem dX8_crossed_20 : decode cX8_crossed 20 = .ok (.aload_n 0, 1) := by decide +kernel
theorem dX8_crossed_21 : decode cX8_crossed 21 = .ok (.getfield 29, 3) := by decide +kernel
theorem dX8_crossed_24 : decode cX8_crossed 24 = .ok (.bipush 7, 2) := by decide +kernel
theorem dX8_crossed_26 : decode cX8_crossed 26 = .ok (.iload_n 2, 1) := by decide +kernel
theorem dX8_crossed_27 : decode cX8_crossed 27 = .ok (.iadd, 1) := by decide +kernel
theorem dX8_crossed_28 : decode cX8_crossed 28 = .ok (.iaload, 1) := by decide +kernel
theorem dX8_crossed_29 : decode cX8_crossed 29 = .ok (.iconst 2, 1) := by decide +kernel
theorem dX8_crossed_30 : decode cX8_crossed 30 = .ok (.if_icmp .ne 29, 3) := by decide +kernel
theorem dX8_crossed_33 : decode cX8_crossed 33 = .ok (.aload_n 0, 1) := by decide +kernel
theorem dX8_crossed_34 : decode cX8_crossed 34 = .ok (.getfield 29, 3) := by decide +kernel
theorem dX8_crossed_37 : decode cX8_crossed 37 = .ok (.bipush 7, 2) := by decide +kernel
theorem dX8_crossed_39 : decode cX8_crossed 39 = .ok (.iload_n 3, 1) := by decide +kernel
theorem dX8_crossed_40 : decode cX8_crossed 40 = .ok (.iadd, 1) := by decide +kernel
theorem dX8_crossed_41 : decode cX8_crossed 41 = .ok (.iaload, 1) := by decide +kernel
theorem dX8_crossed_42 : decode cX8_crossed 42 = .ok (.iconst 2, 1) := by decide +kernel
theorem dX8_crossed_43 : decode cX8_crossed 43 = .ok (.if_icmp .ne 16, 3) := by decide +kernel
theorem dX8_crossed_46 : decode cX8_crossed 46 = .ok (.aload_n 0, 1) := by decide +kernel
theorem dX8_crossed_47 : decode cX8_crossed 47 = .ok (.iload_n 2, 1) := by decide +kernel
theorem dX8_crossed_48 : decode cX8_crossed 48 = .ok (.iload_n 3, 1) := by decide +kernel
theorem dX8_crossed_49 : decode cX8_crossed 49 = .ok (.invokevirtual 154, 3) := by decide +kernel
theorem dX8_crossed_52 : decode cX8_crossed 52 = .ok (.ifCond .eq 7, 3) := by decide +kernel
theorem dX8_crossed_55 : decode cX8_crossed 55 = .ok (.iconst 1, 1) := by decide +kernel
theorem dX8_crossed_56 : decode cX8_crossed 56 = .ok (.goto 4, 3) := by decide +kernel
theorem dX8_crossed_59 : decode cX8_crossed 59 = .ok (.iconst 0, 1) := by decide +kernel
theorem dX8_crossed_60 : decode cX8_crossed 60 = .ok (.iadd, 1) := by decide +kernel
theorem dX8_crossed_61 : decode cX8_crossed 61 = .ok (.istore_n 1, 1) := by decide +kernel
theorem dX8_crossed_62 : decode cX8_crossed 62 = .ok (.iinc 3 1, 3) := by decide +kernel
theorem dX8_crossed_65 : decode cX8_crossed 65 = .ok (.goto (-51), 3) := by decide +kernel
theorem dX8_crossed_68 : decode cX8_crossed 68 = .ok (.iinc 2 1, 3) := by decide +kernel
theorem dX8_crossed_71 : decode cX8_crossed 71 = .ok (.goto (-67), 3) := by decide +kernel
theorem dX8_crossed_74 : decode cX8_crossed 74 = .ok (.iload_n 1, 1) := by decide +kernel
theorem dX8_crossed_75 : decode cX8_crossed 75 = .ok (.ireturn, 1) := by decide +kernel
theorem dX8_line_0 : decode cX8_line 0 = .ok (.aload_n 0, 1) := by decide +kernel
theorem dX8_line_1 : decode cX8_line 1 = .ok (.iload_n 1, 1) := by decide +kernel
theorem dX8_line_2 : decode cX8_line 2 = .ok (.invokevirtual 157, 3) := by decide +kernel
theorem dX8_line_5 : decode cX8_line 5 = .ok (.ifCond .eq 12, 3) := by decide +kernel
theorem dX8_line_8 : decode cX8_line 8 = .ok (.iload_n 2, 1) := by decide +kernel
theorem dX8_line_9 : decode cX8_line 9 = .ok (.iconst 0, 1) := by decide +kernel
theorem dX8_line_10 : decode cX8_line 10 = .ok (.iconst 1, 1) := by decide +kernel
theorem dX8_line_11 : decode cX8_line 11 = .ok (.invokestatic 63, 3) := by decide +kernel
theorem dX8_line_14 : decode cX8_line 14 = .ok (.ifCond .ne 5, 3) := by decide +kernel
theorem dX8_line_17 : decode cX8_line 17 = .ok (.iconst (-1), 1) := by decide +kernel
theorem dX8_line_18 : decode cX8_line 18 = .ok (.ireturn, 1) := by decide +kernel
theorem dX8_line_19 : decode cX8_line 19 = .ok (.iload_n 2, 1) := by decide +kernel
theorem dX8_line_20 : decode cX8_line 20 = .ok (.ifCond .ne 11, 3) := by decide +kernel
theorem dX8_line_23 : decode cX8_line 23 = .ok (.aload_n 0, 1) := by decide +kernel
theorem dX8_line_24 : decode cX8_line 24 = .ok (.iload_n 1, 1) := by decide +kernel
theorem dX8_line_25 : decode cX8_line 25 = .ok (.invokevirtual 148, 3) := by decide +kernel
theorem dX8_line_28 : decode cX8_line 28 = .ok (.goto 12, 3) := by decide +kernel
theorem dX8_line_31 : decode cX8_line 31 = .ok (.aload_n 0, 1) := by decide +kernel
theorem dX8_line_32 : decode cX8_line 32 = .ok (.aload_n 0, 1) := by decide +kernel
theorem dX8_line_33 : decode cX8_line 33 = .ok (.getfield 29, 3) := by decide +kernel
theorem dX8_line_36 : decode cX8_line 36 = .ok (.iload_n 1, 1) := by decide +kernel
theorem dX8_line_37 : decode cX8_line 37 = .ok (.invokevirtual 138, 3) := by decide +kernel
theorem dX8_line_40 : decode cX8_line 40 = .ok (.ireturn, 1) := by decide +kernel
theorem dX8_call_0 : decode cX8_call 0 = .ok (.aload_n 0, 1) := by decide +kernel
theorem dX8_call_1 : decode cX8_call 1 = .ok (.iload_n 1, 1) := by decide +kernel
theorem dX8_call_2 : decode cX8_call 2 = .ok (.invokevirtual 161, 3) := by decide +kernel
theorem dX8_call_5 : decode cX8_call 5 = .ok (.ifCond .ne 5, 3) := by decide +kernel
theorem dX8_call_8 : decode cX8_call 8 = .ok (.iconst (-1), 1) := by decide +kernel
theorem dX8_call_9 : decode cX8_call 9 = .ok (.ireturn, 1) := by decide +kernel
theorem dX8_call_10 : decode cX8_call 10 = .ok (.iload_n 2, 1) := by decide +kernel
theorem dX8_call_11 : decode cX8_call 11 = .ok (.tableswitch 103 0 7 #[45, 45, 45, 45, 45, 56, 66, 93], 45) := by decide +kernel
theorem dX8_call_56 : decode cX8_call 56 = .ok (.aload_n 0, 1) := by decide +kernel
theorem dX8_call_57 : decode cX8_call 57 = .ok (.getfield 26, 3) := by decide +kernel
theorem dX8_call_60 : decode cX8_call 60 = .ok (.iconst 5, 1) := by decide +kernel
theorem dX8_call_61 : decode cX8_call 61 = .ok (.iload_n 1, 1) := by decide +kernel
theorem dX8_call_62 : decode cX8_call 62 = .ok (.imul, 1) := by decide +kernel
theorem dX8_call_63 : decode cX8_call 63 = .ok (.iload_n 2, 1) := by decide +kernel
theorem dX8_call_64 : decode cX8_call 64 = .ok (.iadd, 1) := by decide +kernel
theorem dX8_call_65 : decode cX8_call 65 = .ok (.iaload, 1) := by decide +kernel
theorem dX8_call_66 : decode cX8_call 66 = .ok (.ireturn, 1) := by decide +kernel
theorem dX8_call_67 : decode cX8_call 67 = .ok (.aload_n 0, 1) := by decide +kernel
theorem dX8_call_68 : decode cX8_call 68 = .ok (.getfield 29, 3) := by decide +kernel
theorem dX8_call_71 : decode cX8_call 71 = .ok (.bipush 7, 2) := by decide +kernel
theorem dX8_call_73 : decode cX8_call 73 = .ok (.iload_n 1, 1) := by decide +kernel
theorem dX8_call_74 : decode cX8_call 74 = .ok (.iadd, 1) := by decide +kernel
theorem dX8_call_75 : decode cX8_call 75 = .ok (.iaload, 1) := by decide +kernel
theorem dX8_call_76 : decode cX8_call 76 = .ok (.ireturn, 1) := by decide +kernel
theorem dX8_call_77 : decode cX8_call 77 = .ok (.aload_n 0, 1) := by decide +kernel
theorem dX8_call_78 : decode cX8_call 78 = .ok (.getfield 29, 3) := by decide +kernel
theorem dX8_call_81 : decode cX8_call 81 = .ok (.bipush 7, 2) := by decide +kernel
theorem dX8_call_83 : decode cX8_call 83 = .ok (.iload_n 1, 1) := by decide +kernel
theorem dX8_call_84 : decode cX8_call 84 = .ok (.iadd, 1) := by decide +kernel
theorem dX8_call_85 : decode cX8_call 85 = .ok (.iaload, 1) := by decide +kernel
theorem dX8_call_86 : decode cX8_call 86 = .ok (.iconst 2, 1) := by decide +kernel
theorem dX8_call_87 : decode cX8_call 87 = .ok (.if_icmp .ne 15, 3) := by decide +kernel
theorem dX8_call_90 : decode cX8_call 90 = .ok (.aload_n 0, 1) := by decide +kernel
theorem dX8_call_91 : decode cX8_call 91 = .ok (.getfield 29, 3) := by decide +kernel
theorem dX8_call_94 : decode cX8_call 94 = .ok (.bipush 14, 2) := by decide +kernel
theorem dX8_call_96 : decode cX8_call 96 = .ok (.iload_n 1, 1) := by decide +kernel
theorem dX8_call_97 : decode cX8_call 97 = .ok (.iadd, 1) := by decide +kernel
theorem dX8_call_98 : decode cX8_call 98 = .ok (.iaload, 1) := by decide +kernel
theorem dX8_call_99 : decode cX8_call 99 = .ok (.goto 4, 3) := by decide +kernel
theorem dX8_call_102 : decode cX8_call 102 = .ok (.iconst 0, 1) := by decide +kernel
theorem dX8_call_103 : decode cX8_call 103 = .ok (.ireturn, 1) := by decide +kernel
theorem dX8_call_104 : decode cX8_call 104 = .ok (.aload_n 0, 1) := by decide +kernel
theorem dX8_call_105 : decode cX8_call 105 = .ok (.getfield 29, 3) := by decide +kernel
theorem dX8_call_108 : decode cX8_call 108 = .ok (.bipush 21, 2) := by decide +kernel
theorem dX8_call_110 : decode cX8_call 110 = .ok (.iload_n 1, 1) := by decide +kernel
theorem dX8_call_111 : decode cX8_call 111 = .ok (.iadd, 1) := by decide +kernel
theorem dX8_call_112 : decode cX8_call 112 = .ok (.iaload, 1) := by decide +kernel
theorem dX8_call_113 : decode cX8_call 113 = .ok (.ireturn, 1) := by decide +kernel
theorem dX8_call_114 : decode cX8_call 114 = .ok (.iconst (-1), 1) := by decide +kernel
theorem dX8_call_115 : decode cX8_call 115 = .ok (.ireturn, 1) := by decide +kernel
theorem dX8_now_0 : decode cX8_now 0 = .ok (.iload_n 1, 1) := by decide +kernel
theorem dX8_now_1 : decode cX8_now 1 = .ok (.tableswitch 89 0 5 #[39, 46, 56, 66, 79, 84], 39) := by decide +kernel
theorem dX8_now_40 : decode cX8_now 40 = .ok (.aload_n 0, 1) := by decide +kernel
theorem dX8_now_41 : decode cX8_now 41 = .ok (.getfield 29, 3) := by decide +kernel
theorem dX8_now_44 : decode cX8_now 44 = .ok (.iconst 0, 1) := by decide +kernel
theorem dX8_now_45 : decode cX8_now 45 = .ok (.iaload, 1) := by decide +kernel
theorem dX8_now_46 : decode cX8_now 46 = .ok (.ireturn, 1) := by decide +kernel
theorem dX8_now_47 : decode cX8_now 47 = .ok (.aload_n 0, 1) := by decide +kernel
theorem dX8_now_48 : decode cX8_now 48 = .ok (.aload_n 0, 1) := by decide +kernel
theorem dX8_now_49 : decode cX8_now 49 = .ok (.getfield 29, 3) := by decide +kernel
theorem dX8_now_52 : decode cX8_now 52 = .ok (.iconst 1, 1) := by decide +kernel
theorem dX8_now_53 : decode cX8_now 53 = .ok (.invokevirtual 131, 3) := by decide +kernel
theorem dX8_now_56 : decode cX8_now 56 = .ok (.ireturn, 1) := by decide +kernel
theorem dX8_now_57 : decode cX8_now 57 = .ok (.aload_n 0, 1) := by decide +kernel
theorem dX8_now_58 : decode cX8_now 58 = .ok (.aload_n 0, 1) := by decide +kernel
theorem dX8_now_59 : decode cX8_now 59 = .ok (.getfield 29, 3) := by decide +kernel
theorem dX8_now_62 : decode cX8_now 62 = .ok (.iconst 2, 1) := by decide +kernel
theorem dX8_now_63 : decode cX8_now 63 = .ok (.invokevirtual 131, 3) := by decide +kernel
theorem dX8_now_66 : decode cX8_now 66 = .ok (.ireturn, 1) := by decide +kernel
theorem dX8_now_67 : decode cX8_now 67 = .ok (.aload_n 0, 1) := by decide +kernel
theorem dX8_now_68 : decode cX8_now 68 = .ok (.aload_n 0, 1) := by decide +kernel
theorem dX8_now_69 : decode cX8_now 69 = .ok (.getfield 29, 3) := by decide +kernel
theorem dX8_now_72 : decode cX8_now 72 = .ok (.aload_n 0, 1) := by decide +kernel
theorem dX8_now_73 : decode cX8_now 73 = .ok (.getfield 23, 3) := by decide +kernel
theorem dX8_now_76 : decode cX8_now 76 = .ok (.invokevirtual 141, 3) := by decide +kernel
theorem dX8_now_79 : decode cX8_now 79 = .ok (.ireturn, 1) := by decide +kernel
theorem dX8_now_80 : decode cX8_now 80 = .ok (.aload_n 0, 1) := by decide +kernel
theorem dX8_now_81 : decode cX8_now 81 = .ok (.invokevirtual 164, 3) := by decide +kernel
theorem dX8_now_84 : decode cX8_now 84 = .ok (.ireturn, 1) := by decide +kernel
theorem dX8_now_85 : decode cX8_now 85 = .ok (.aload_n 0, 1) := by decide +kernel
theorem dX8_now_86 : decode cX8_now 86 = .ok (.getfield 60, 3) := by decide +kernel
theorem dX8_now_89 : decode cX8_now 89 = .ok (.ireturn, 1) := by decide +kernel
theorem dX8_now_90 : decode cX8_now 90 = .ok (.iconst (-1), 1) := by decide +kernel
theorem dX8_now_91 : decode cX8_now 91 = .ok (.ireturn, 1) := by decide +kernel
theorem dX8_copy_0 : decode cX8_copy 0 = .ok (.iconst 0, 1) := by decide +kernel
theorem dX8_copy_1 : decode cX8_copy 1 = .ok (.istore 4, 2) := by decide +kernel
theorem dX8_copy_3 : decode cX8_copy 3 = .ok (.iload 4, 2) := by decide +kernel
theorem dX8_copy_5 : decode cX8_copy 5 = .ok (.bipush 28, 2) := by decide +kernel
theorem dX8_copy_7 : decode cX8_copy 7 = .ok (.if_icmp .ge 21, 3) := by decide +kernel
theorem dX8_copy_10 : decode cX8_copy 10 = .ok (.aload_n 2, 1) := by decide +kernel
theorem dX8_copy_11 : decode cX8_copy 11 = .ok (.iload_n 3, 1) := by decide +kernel
theorem dX8_copy_12 : decode cX8_copy 12 = .ok (.iload 4, 2) := by decide +kernel
theorem dX8_copy_14 : decode cX8_copy 14 = .ok (.iadd, 1) := by decide +kernel
theorem dX8_copy_15 : decode cX8_copy 15 = .ok (.aload_n 0, 1) := by decide +kernel
theorem dX8_copy_16 : decode cX8_copy 16 = .ok (.iload_n 1, 1) := by decide +kernel
theorem dX8_copy_17 : decode cX8_copy 17 = .ok (.iload 4, 2) := by decide +kernel
theorem dX8_copy_19 : decode cX8_copy 19 = .ok (.iadd, 1) := by decide +kernel
theorem dX8_copy_20 : decode cX8_copy 20 = .ok (.iaload, 1) := by decide +kernel
theorem dX8_copy_21 : decode cX8_copy 21 = .ok (.iastore, 1) := by decide +kernel
theorem dX8_copy_22 : decode cX8_copy 22 = .ok (.iinc 4 1, 3) := by decide +kernel
theorem dX8_copy_25 : decode cX8_copy 25 = .ok (.goto (-22), 3) := by decide +kernel
theorem dX8_copy_28 : decode cX8_copy 28 = .ok (.return_, 1) := by decide +kernel
theorem dX8_note_0 : decode cX8_note 0 = .ok (.aload_n 0, 1) := by decide +kernel
theorem dX8_note_1 : decode cX8_note 1 = .ok (.getfield 60, 3) := by decide +kernel
theorem dX8_note_4 : decode cX8_note 4 = .ok (.bipush 10, 2) := by decide +kernel
theorem dX8_note_6 : decode cX8_note 6 = .ok (.if_icmp .ne 43, 3) := by decide +kernel
theorem dX8_note_9 : decode cX8_note 9 = .ok (.iconst 0, 1) := by decide +kernel
theorem dX8_note_10 : decode cX8_note 10 = .ok (.istore_n 1, 1) := by decide +kernel
theorem dX8_note_11 : decode cX8_note 11 = .ok (.iload_n 1, 1) := by decide +kernel
theorem dX8_note_12 : decode cX8_note 12 = .ok (.sipush 252, 3) := by decide +kernel
theorem dX8_note_15 : decode cX8_note 15 = .ok (.if_icmp .ge 24, 3) := by decide +kernel
theorem dX8_note_18 : decode cX8_note 18 = .ok (.aload_n 0, 1) := by decide +kernel
theorem dX8_note_19 : decode cX8_note 19 = .ok (.getfield 42, 3) := by decide +kernel
theorem dX8_note_22 : decode cX8_note 22 = .ok (.iload_n 1, 1) := by decide +kernel
theorem dX8_note_23 : decode cX8_note 23 = .ok (.aload_n 0, 1) := by decide +kernel
theorem dX8_note_24 : decode cX8_note 24 = .ok (.getfield 42, 3) := by decide +kernel
theorem dX8_note_27 : decode cX8_note 27 = .ok (.iload_n 1, 1) := by decide +kernel
theorem dX8_note_28 : decode cX8_note 28 = .ok (.bipush 28, 2) := by decide +kernel
theorem dX8_note_30 : decode cX8_note 30 = .ok (.iadd, 1) := by decide +kernel
theorem dX8_note_31 : decode cX8_note 31 = .ok (.iaload, 1) := by decide +kernel
theorem dX8_note_32 : decode cX8_note 32 = .ok (.iastore, 1) := by decide +kernel
theorem dX8_note_33 : decode cX8_note 33 = .ok (.iinc 1 1, 3) := by decide +kernel
theorem dX8_note_36 : decode cX8_note 36 = .ok (.goto (-25), 3) := by decide +kernel
theorem dX8_note_39 : decode cX8_note 39 = .ok (.aload_n 0, 1) := by decide +kernel
theorem dX8_note_40 : decode cX8_note 40 = .ok (.dup, 1) := by decide +kernel
theorem dX8_note_41 : decode cX8_note 41 = .ok (.getfield 60, 3) := by decide +kernel
theorem dX8_note_44 : decode cX8_note 44 = .ok (.iconst 1, 1) := by decide +kernel
theorem dX8_note_45 : decode cX8_note 45 = .ok (.isub, 1) := by decide +kernel
theorem dX8_note_46 : decode cX8_note 46 = .ok (.putfield 60, 3) := by decide +kernel
theorem dX8_note_49 : decode cX8_note 49 = .ok (.aload_n 0, 1) := by decide +kernel
theorem dX8_note_50 : decode cX8_note 50 = .ok (.getfield 29, 3) := by decide +kernel
theorem dX8_note_53 : decode cX8_note 53 = .ok (.iconst 0, 1) := by decide +kernel
theorem dX8_note_54 : decode cX8_note 54 = .ok (.aload_n 0, 1) := by decide +kernel
theorem dX8_note_55 : decode cX8_note 55 = .ok (.getfield 42, 3) := by decide +kernel
theorem dX8_note_58 : decode cX8_note 58 = .ok (.bipush 28, 2) := by decide +kernel
theorem dX8_note_60 : decode cX8_note 60 = .ok (.aload_n 0, 1) := by decide +kernel
theorem dX8_note_61 : decode cX8_note 61 = .ok (.getfield 60, 3) := by decide +kernel
theorem dX8_note_64 : decode cX8_note 64 = .ok (.imul, 1) := by decide +kernel
theorem dX8_note_65 : decode cX8_note 65 = .ok (.invokestatic 168, 3) := by decide +kernel
theorem dX8_note_68 : decode cX8_note 68 = .ok (.aload_n 0, 1) := by decide +kernel
theorem dX8_note_69 : decode cX8_note 69 = .ok (.dup, 1) := by decide +kernel
theorem dX8_note_70 : decode cX8_note 70 = .ok (.getfield 60, 3) := by decide +kernel
theorem dX8_note_73 : decode cX8_note 73 = .ok (.iconst 1, 1) := by decide +kernel
theorem dX8_note_74 : decode cX8_note 74 = .ok (.iadd, 1) := by decide +kernel
theorem dX8_note_75 : decode cX8_note 75 = .ok (.putfield 60, 3) := by decide +kernel
theorem dX8_note_78 : decode cX8_note 78 = .ok (.return_, 1) := by decide +kernel
theorem dX8_pass_0 : decode cX8_pass 0 = .ok (.iconst 0, 1) := by decide +kernel
theorem dX8_pass_1 : decode cX8_pass 1 = .ok (.istore_n 2, 1) := by decide +kernel
theorem dX8_pass_2 : decode cX8_pass 2 = .ok (.iload_n 2, 1) := by decide +kernel
theorem dX8_pass_3 : decode cX8_pass 3 = .ok (.aload_n 0, 1) := by decide +kernel
theorem dX8_pass_4 : decode cX8_pass 4 = .ok (.getfield 57, 3) := by decide +kernel
theorem dX8_pass_7 : decode cX8_pass 7 = .ok (.if_icmp .ge 76, 3) := by decide +kernel
theorem dX8_pass_10 : decode cX8_pass 10 = .ok (.aload_n 1, 1) := by decide +kernel
theorem dX8_pass_11 : decode cX8_pass 11 = .ok (.bipush 7, 2) := by decide +kernel
theorem dX8_pass_13 : decode cX8_pass 13 = .ok (.iload_n 2, 1) := by decide +kernel
theorem dX8_pass_14 : decode cX8_pass 14 = .ok (.iadd, 1) := by decide +kernel
theorem dX8_pass_15 : decode cX8_pass 15 = .ok (.iaload, 1) := by decide +kernel
theorem dX8_pass_16 : decode cX8_pass 16 = .ok (.iconst 2, 1) := by decide +kernel
theorem dX8_pass_17 : decode cX8_pass 17 = .ok (.if_icmp .ne 36, 3) := by decide +kernel
theorem dX8_pass_20 : decode cX8_pass 20 = .ok (.aload_n 1, 1) := by decide +kernel
theorem dX8_pass_21 : decode cX8_pass 21 = .ok (.bipush 14, 2) := by decide +kernel
theorem dX8_pass_23 : decode cX8_pass 23 = .ok (.iload_n 2, 1) := by decide +kernel
theorem dX8_pass_24 : decode cX8_pass 24 = .ok (.iadd, 1) := by decide +kernel
theorem dX8_pass_25 : decode cX8_pass 25 = .ok (.dup2, 1) := by decide +kernel
theorem dX8_pass_26 : decode cX8_pass 26 = .ok (.iaload, 1) := by decide +kernel
theorem dX8_pass_27 : decode cX8_pass 27 = .ok (.iconst 1, 1) := by decide +kernel
theorem dX8_pass_28 : decode cX8_pass 28 = .ok (.isub, 1) := by decide +kernel
theorem dX8_pass_29 : decode cX8_pass 29 = .ok (.iastore, 1) := by decide +kernel
theorem dX8_pass_30 : decode cX8_pass 30 = .ok (.aload_n 1, 1) := by decide +kernel
theorem dX8_pass_31 : decode cX8_pass 31 = .ok (.bipush 7, 2) := by decide +kernel
theorem dX8_pass_33 : decode cX8_pass 33 = .ok (.iload_n 2, 1) := by decide +kernel
theorem dX8_pass_34 : decode cX8_pass 34 = .ok (.iadd, 1) := by decide +kernel
theorem dX8_pass_35 : decode cX8_pass 35 = .ok (.aload_n 1, 1) := by decide +kernel
theorem dX8_pass_36 : decode cX8_pass 36 = .ok (.bipush 14, 2) := by decide +kernel
theorem dX8_pass_38 : decode cX8_pass 38 = .ok (.iload_n 2, 1) := by decide +kernel
theorem dX8_pass_39 : decode cX8_pass 39 = .ok (.iadd, 1) := by decide +kernel
theorem dX8_pass_40 : decode cX8_pass 40 = .ok (.iaload, 1) := by decide +kernel
theorem dX8_pass_41 : decode cX8_pass 41 = .ok (.ifCond .ne 7, 3) := by decide +kernel
theorem dX8_pass_44 : decode cX8_pass 44 = .ok (.iconst 3, 1) := by decide +kernel
theorem dX8_pass_45 : decode cX8_pass 45 = .ok (.goto 4, 3) := by decide +kernel
theorem dX8_pass_48 : decode cX8_pass 48 = .ok (.iconst 2, 1) := by decide +kernel
theorem dX8_pass_49 : decode cX8_pass 49 = .ok (.iastore, 1) := by decide +kernel
theorem dX8_pass_50 : decode cX8_pass 50 = .ok (.goto 27, 3) := by decide +kernel
theorem dX8_pass_53 : decode cX8_pass 53 = .ok (.aload_n 1, 1) := by decide +kernel
theorem dX8_pass_54 : decode cX8_pass 54 = .ok (.bipush 21, 2) := by decide +kernel
theorem dX8_pass_56 : decode cX8_pass 56 = .ok (.iload_n 2, 1) := by decide +kernel
theorem dX8_pass_57 : decode cX8_pass 57 = .ok (.iadd, 1) := by decide +kernel
theorem dX8_pass_58 : decode cX8_pass 58 = .ok (.dup2, 1) := by decide +kernel
theorem dX8_pass_59 : decode cX8_pass 59 = .ok (.iaload, 1) := by decide +kernel
theorem dX8_pass_60 : decode cX8_pass 60 = .ok (.aload_n 1, 1) := by decide +kernel
theorem dX8_pass_61 : decode cX8_pass 61 = .ok (.bipush 7, 2) := by decide +kernel
theorem dX8_pass_63 : decode cX8_pass 63 = .ok (.iload_n 2, 1) := by decide +kernel
theorem dX8_pass_64 : decode cX8_pass 64 = .ok (.iadd, 1) := by decide +kernel
theorem dX8_pass_65 : decode cX8_pass 65 = .ok (.iaload, 1) := by decide +kernel
theorem dX8_pass_66 : decode cX8_pass 66 = .ok (.iconst 1, 1) := by decide +kernel
theorem dX8_pass_67 : decode cX8_pass 67 = .ok (.if_icmp .ne 7, 3) := by decide +kernel
theorem dX8_pass_70 : decode cX8_pass 70 = .ok (.iconst 1, 1) := by decide +kernel
theorem dX8_pass_71 : decode cX8_pass 71 = .ok (.goto 4, 3) := by decide +kernel
theorem dX8_pass_74 : decode cX8_pass 74 = .ok (.iconst 0, 1) := by decide +kernel
theorem dX8_pass_75 : decode cX8_pass 75 = .ok (.iadd, 1) := by decide +kernel
theorem dX8_pass_76 : decode cX8_pass 76 = .ok (.iastore, 1) := by decide +kernel
theorem dX8_pass_77 : decode cX8_pass 77 = .ok (.iinc 2 1, 3) := by decide +kernel
theorem dX8_pass_80 : decode cX8_pass 80 = .ok (.goto (-78), 3) := by decide +kernel
theorem dX8_pass_83 : decode cX8_pass 83 = .ok (.aload_n 1, 1) := by decide +kernel
theorem dX8_pass_84 : decode cX8_pass 84 = .ok (.iconst 0, 1) := by decide +kernel
theorem dX8_pass_85 : decode cX8_pass 85 = .ok (.dup2, 1) := by decide +kernel
theorem dX8_pass_86 : decode cX8_pass 86 = .ok (.iaload, 1) := by decide +kernel
theorem dX8_pass_87 : decode cX8_pass 87 = .ok (.iconst 1, 1) := by decide +kernel
theorem dX8_pass_88 : decode cX8_pass 88 = .ok (.iadd, 1) := by decide +kernel
theorem dX8_pass_89 : decode cX8_pass 89 = .ok (.iastore, 1) := by decide +kernel
theorem dX8_pass_90 : decode cX8_pass 90 = .ok (.iconst 0, 1) := by decide +kernel
theorem dX8_pass_91 : decode cX8_pass 91 = .ok (.istore_n 2, 1) := by decide +kernel
theorem dX8_pass_92 : decode cX8_pass 92 = .ok (.iload_n 2, 1) := by decide +kernel
theorem dX8_pass_93 : decode cX8_pass 93 = .ok (.aload_n 0, 1) := by decide +kernel
theorem dX8_pass_94 : decode cX8_pass 94 = .ok (.getfield 57, 3) := by decide +kernel
theorem dX8_pass_97 : decode cX8_pass 97 = .ok (.if_icmp .ge 48, 3) := by decide +kernel
theorem dX8_pass_100 : decode cX8_pass 100 = .ok (.aload_n 1, 1) := by decide +kernel
theorem dX8_pass_101 : decode cX8_pass 101 = .ok (.bipush 7, 2) := by decide +kernel
theorem dX8_pass_103 : decode cX8_pass 103 = .ok (.iload_n 2, 1) := by decide +kernel
theorem dX8_pass_104 : decode cX8_pass 104 = .ok (.iadd, 1) := by decide +kernel
theorem dX8_pass_105 : decode cX8_pass 105 = .ok (.aload_n 1, 1) := by decide +kernel
theorem dX8_pass_106 : decode cX8_pass 106 = .ok (.bipush 7, 2) := by decide +kernel
theorem dX8_pass_108 : decode cX8_pass 108 = .ok (.iload_n 2, 1) := by decide +kernel
theorem dX8_pass_109 : decode cX8_pass 109 = .ok (.iadd, 1) := by decide +kernel
theorem dX8_pass_110 : decode cX8_pass 110 = .ok (.iaload, 1) := by decide +kernel
theorem dX8_pass_111 : decode cX8_pass 111 = .ok (.ifCond .ne 21, 3) := by decide +kernel
theorem dX8_pass_114 : decode cX8_pass 114 = .ok (.aload_n 0, 1) := by decide +kernel
theorem dX8_pass_115 : decode cX8_pass 115 = .ok (.getfield 26, 3) := by decide +kernel
theorem dX8_pass_118 : decode cX8_pass 118 = .ok (.iconst 5, 1) := by decide +kernel
theorem dX8_pass_119 : decode cX8_pass 119 = .ok (.iload_n 2, 1) := by decide +kernel
theorem dX8_pass_120 : decode cX8_pass 120 = .ok (.imul, 1) := by decide +kernel
theorem dX8_pass_121 : decode cX8_pass 121 = .ok (.iaload, 1) := by decide +kernel
theorem dX8_pass_122 : decode cX8_pass 122 = .ok (.aload_n 1, 1) := by decide +kernel
theorem dX8_pass_123 : decode cX8_pass 123 = .ok (.iconst 0, 1) := by decide +kernel
theorem dX8_pass_124 : decode cX8_pass 124 = .ok (.iaload, 1) := by decide +kernel
theorem dX8_pass_125 : decode cX8_pass 125 = .ok (.if_icmp .ne 7, 3) := by decide +kernel
theorem dX8_pass_128 : decode cX8_pass 128 = .ok (.iconst 1, 1) := by decide +kernel
theorem dX8_pass_129 : decode cX8_pass 129 = .ok (.goto 9, 3) := by decide +kernel
theorem dX8_pass_132 : decode cX8_pass 132 = .ok (.aload_n 1, 1) := by decide +kernel
theorem dX8_pass_133 : decode cX8_pass 133 = .ok (.bipush 7, 2) := by decide +kernel
theorem dX8_pass_135 : decode cX8_pass 135 = .ok (.iload_n 2, 1) := by decide +kernel
theorem dX8_pass_136 : decode cX8_pass 136 = .ok (.iadd, 1) := by decide +kernel
theorem dX8_pass_137 : decode cX8_pass 137 = .ok (.iaload, 1) := by decide +kernel
theorem dX8_pass_138 : decode cX8_pass 138 = .ok (.iastore, 1) := by decide +kernel
theorem dX8_pass_139 : decode cX8_pass 139 = .ok (.iinc 2 1, 3) := by decide +kernel
theorem dX8_pass_142 : decode cX8_pass 142 = .ok (.goto (-50), 3) := by decide +kernel
theorem dX8_pass_145 : decode cX8_pass 145 = .ok (.return_, 1) := by decide +kernel
theorem dX8_minute_0 : decode cX8_minute 0 = .ok (.aload_n 0, 1) := by decide +kernel
theorem dX8_minute_1 : decode cX8_minute 1 = .ok (.getfield 29, 3) := by decide +kernel
theorem dX8_minute_4 : decode cX8_minute 4 = .ok (.iconst 0, 1) := by decide +kernel
theorem dX8_minute_5 : decode cX8_minute 5 = .ok (.iaload, 1) := by decide +kernel
theorem dX8_minute_6 : decode cX8_minute 6 = .ok (.bipush 99, 2) := by decide +kernel
theorem dX8_minute_8 : decode cX8_minute 8 = .ok (.if_icmp .ne 6, 3) := by decide +kernel
theorem dX8_minute_11 : decode cX8_minute 11 = .ok (.bipush (-2), 2) := by decide +kernel
theorem dX8_minute_13 : decode cX8_minute 13 = .ok (.ireturn, 1) := by decide +kernel
theorem dX8_minute_14 : decode cX8_minute 14 = .ok (.aload_n 0, 1) := by decide +kernel
theorem dX8_minute_15 : decode cX8_minute 15 = .ok (.invokevirtual 172, 3) := by decide +kernel
theorem dX8_minute_18 : decode cX8_minute 18 = .ok (.aload_n 0, 1) := by decide +kernel
theorem dX8_minute_19 : decode cX8_minute 19 = .ok (.aload_n 0, 1) := by decide +kernel
theorem dX8_minute_20 : decode cX8_minute 20 = .ok (.getfield 29, 3) := by decide +kernel
theorem dX8_minute_23 : decode cX8_minute 23 = .ok (.invokevirtual 175, 3) := by decide +kernel
theorem dX8_minute_26 : decode cX8_minute 26 = .ok (.aload_n 0, 1) := by decide +kernel
theorem dX8_minute_27 : decode cX8_minute 27 = .ok (.getfield 29, 3) := by decide +kernel
theorem dX8_minute_30 : decode cX8_minute 30 = .ok (.iconst 0, 1) := by decide +kernel
theorem dX8_minute_31 : decode cX8_minute 31 = .ok (.iaload, 1) := by decide +kernel
theorem dX8_minute_32 : decode cX8_minute 32 = .ok (.ireturn, 1) := by decide +kernel
theorem dX8_plugs_0 : decode cX8_plugs 0 = .ok (.aload_n 0, 1) := by decide +kernel
theorem dX8_plugs_1 : decode cX8_plugs 1 = .ok (.iload_n 1, 1) := by decide +kernel
theorem dX8_plugs_2 : decode cX8_plugs 2 = .ok (.invokevirtual 161, 3) := by decide +kernel
theorem dX8_plugs_5 : decode cX8_plugs 5 = .ok (.ifCond .ne 5, 3) := by decide +kernel
theorem dX8_plugs_8 : decode cX8_plugs 8 = .ok (.iconst (-1), 1) := by decide +kernel
theorem dX8_plugs_9 : decode cX8_plugs 9 = .ok (.ireturn, 1) := by decide +kernel
theorem dX8_plugs_10 : decode cX8_plugs 10 = .ok (.aload_n 0, 1) := by decide +kernel
theorem dX8_plugs_11 : decode cX8_plugs 11 = .ok (.aload_n 0, 1) := by decide +kernel
theorem dX8_plugs_12 : decode cX8_plugs 12 = .ok (.getfield 29, 3) := by decide +kernel
theorem dX8_plugs_15 : decode cX8_plugs 15 = .ok (.iload_n 1, 1) := by decide +kernel
theorem dX8_plugs_16 : decode cX8_plugs 16 = .ok (.aload_n 0, 1) := by decide +kernel
theorem dX8_plugs_17 : decode cX8_plugs 17 = .ok (.getfield 23, 3) := by decide +kernel
theorem dX8_plugs_20 : decode cX8_plugs 20 = .ok (.invokevirtual 179, 3) := by decide +kernel
theorem dX8_plugs_23 : decode cX8_plugs 23 = .ok (.ifCond .ne 6, 3) := by decide +kernel
theorem dX8_plugs_26 : decode cX8_plugs 26 = .ok (.bipush (-2), 2) := by decide +kernel
theorem dX8_plugs_28 : decode cX8_plugs 28 = .ok (.ireturn, 1) := by decide +kernel
theorem dX8_plugs_29 : decode cX8_plugs 29 = .ok (.aload_n 0, 1) := by decide +kernel
theorem dX8_plugs_30 : decode cX8_plugs 30 = .ok (.invokevirtual 172, 3) := by decide +kernel
theorem dX8_plugs_33 : decode cX8_plugs 33 = .ok (.aload_n 0, 1) := by decide +kernel
theorem dX8_plugs_34 : decode cX8_plugs 34 = .ok (.aload_n 0, 1) := by decide +kernel
theorem dX8_plugs_35 : decode cX8_plugs 35 = .ok (.getfield 29, 3) := by decide +kernel
theorem dX8_plugs_38 : decode cX8_plugs 38 = .ok (.iload_n 1, 1) := by decide +kernel
theorem dX8_plugs_39 : decode cX8_plugs 39 = .ok (.invokevirtual 183, 3) := by decide +kernel
theorem dX8_plugs_42 : decode cX8_plugs 42 = .ok (.aload_n 0, 1) := by decide +kernel
theorem dX8_plugs_43 : decode cX8_plugs 43 = .ok (.aload_n 0, 1) := by decide +kernel
theorem dX8_plugs_44 : decode cX8_plugs 44 = .ok (.getfield 29, 3) := by decide +kernel
theorem dX8_plugs_47 : decode cX8_plugs 47 = .ok (.aload_n 0, 1) := by decide +kernel
theorem dX8_plugs_48 : decode cX8_plugs 48 = .ok (.getfield 23, 3) := by decide +kernel
theorem dX8_plugs_51 : decode cX8_plugs 51 = .ok (.invokevirtual 141, 3) := by decide +kernel
theorem dX8_plugs_54 : decode cX8_plugs 54 = .ok (.ireturn, 1) := by decide +kernel
theorem dX8_pulls_0 : decode cX8_pulls 0 = .ok (.aload_n 0, 1) := by decide +kernel
theorem dX8_pulls_1 : decode cX8_pulls 1 = .ok (.iload_n 1, 1) := by decide +kernel
theorem dX8_pulls_2 : decode cX8_pulls 2 = .ok (.invokevirtual 161, 3) := by decide +kernel
theorem dX8_pulls_5 : decode cX8_pulls 5 = .ok (.ifCond .ne 5, 3) := by decide +kernel
theorem dX8_pulls_8 : decode cX8_pulls 8 = .ok (.iconst (-1), 1) := by decide +kernel
theorem dX8_pulls_9 : decode cX8_pulls 9 = .ok (.ireturn, 1) := by decide +kernel
theorem dX8_pulls_10 : decode cX8_pulls 10 = .ok (.aload_n 0, 1) := by decide +kernel
theorem dX8_pulls_11 : decode cX8_pulls 11 = .ok (.getfield 29, 3) := by decide +kernel
theorem dX8_pulls_14 : decode cX8_pulls 14 = .ok (.bipush 7, 2) := by decide +kernel
theorem dX8_pulls_16 : decode cX8_pulls 16 = .ok (.iload_n 1, 1) := by decide +kernel
theorem dX8_pulls_17 : decode cX8_pulls 17 = .ok (.iadd, 1) := by decide +kernel
theorem dX8_pulls_18 : decode cX8_pulls 18 = .ok (.iaload, 1) := by decide +kernel
theorem dX8_pulls_19 : decode cX8_pulls 19 = .ok (.iconst 2, 1) := by decide +kernel
theorem dX8_pulls_20 : decode cX8_pulls 20 = .ok (.if_icmp .eq 6, 3) := by decide +kernel
theorem dX8_pulls_23 : decode cX8_pulls 23 = .ok (.bipush (-2), 2) := by decide +kernel
theorem dX8_pulls_25 : decode cX8_pulls 25 = .ok (.ireturn, 1) := by decide +kernel
theorem dX8_pulls_26 : decode cX8_pulls 26 = .ok (.aload_n 0, 1) := by decide +kernel
theorem dX8_pulls_27 : decode cX8_pulls 27 = .ok (.invokevirtual 172, 3) := by decide +kernel
theorem dX8_pulls_30 : decode cX8_pulls 30 = .ok (.aload_n 0, 1) := by decide +kernel
theorem dX8_pulls_31 : decode cX8_pulls 31 = .ok (.getfield 29, 3) := by decide +kernel
theorem dX8_pulls_34 : decode cX8_pulls 34 = .ok (.bipush 7, 2) := by decide +kernel
theorem dX8_pulls_36 : decode cX8_pulls 36 = .ok (.iload_n 1, 1) := by decide +kernel
theorem dX8_pulls_37 : decode cX8_pulls 37 = .ok (.iadd, 1) := by decide +kernel
theorem dX8_pulls_38 : decode cX8_pulls 38 = .ok (.iconst 4, 1) := by decide +kernel
theorem dX8_pulls_39 : decode cX8_pulls 39 = .ok (.iastore, 1) := by decide +kernel
theorem dX8_pulls_40 : decode cX8_pulls 40 = .ok (.aload_n 0, 1) := by decide +kernel
theorem dX8_pulls_41 : decode cX8_pulls 41 = .ok (.getfield 29, 3) := by decide +kernel
theorem dX8_pulls_44 : decode cX8_pulls 44 = .ok (.bipush 14, 2) := by decide +kernel
theorem dX8_pulls_46 : decode cX8_pulls 46 = .ok (.iload_n 1, 1) := by decide +kernel
theorem dX8_pulls_47 : decode cX8_pulls 47 = .ok (.iadd, 1) := by decide +kernel
theorem dX8_pulls_48 : decode cX8_pulls 48 = .ok (.iaload, 1) := by decide +kernel
theorem dX8_pulls_49 : decode cX8_pulls 49 = .ok (.ireturn, 1) := by decide +kernel
theorem dX8_swaps_0 : decode cX8_swaps 0 = .ok (.aload_n 0, 1) := by decide +kernel
theorem dX8_swaps_1 : decode cX8_swaps 1 = .ok (.iload_n 1, 1) := by decide +kernel
theorem dX8_swaps_2 : decode cX8_swaps 2 = .ok (.invokevirtual 157, 3) := by decide +kernel
theorem dX8_swaps_5 : decode cX8_swaps 5 = .ok (.ifCond .eq 16, 3) := by decide +kernel
theorem dX8_swaps_8 : decode cX8_swaps 8 = .ok (.aload_n 0, 1) := by decide +kernel
theorem dX8_swaps_9 : decode cX8_swaps 9 = .ok (.iload_n 2, 1) := by decide +kernel
theorem dX8_swaps_10 : decode cX8_swaps 10 = .ok (.invokevirtual 157, 3) := by decide +kernel
theorem dX8_swaps_13 : decode cX8_swaps 13 = .ok (.ifCond .eq 8, 3) := by decide +kernel
theorem dX8_swaps_16 : decode cX8_swaps 16 = .ok (.iload_n 1, 1) := by decide +kernel
theorem dX8_swaps_17 : decode cX8_swaps 17 = .ok (.iload_n 2, 1) := by decide +kernel
theorem dX8_swaps_18 : decode cX8_swaps 18 = .ok (.if_icmp .ne 5, 3) := by decide +kernel
theorem dX8_swaps_21 : decode cX8_swaps 21 = .ok (.iconst (-1), 1) := by decide +kernel
theorem dX8_swaps_22 : decode cX8_swaps 22 = .ok (.ireturn, 1) := by decide +kernel
theorem dX8_swaps_23 : decode cX8_swaps 23 = .ok (.aload_n 0, 1) := by decide +kernel
theorem dX8_swaps_24 : decode cX8_swaps 24 = .ok (.aload_n 0, 1) := by decide +kernel
theorem dX8_swaps_25 : decode cX8_swaps 25 = .ok (.getfield 29, 3) := by decide +kernel
theorem dX8_swaps_28 : decode cX8_swaps 28 = .ok (.iload_n 1, 1) := by decide +kernel
theorem dX8_swaps_29 : decode cX8_swaps 29 = .ok (.invokevirtual 138, 3) := by decide +kernel
theorem dX8_swaps_32 : decode cX8_swaps 32 = .ok (.bipush (-9), 2) := by decide +kernel
theorem dX8_swaps_34 : decode cX8_swaps 34 = .ok (.if_icmp .ne 17, 3) := by decide +kernel
theorem dX8_swaps_37 : decode cX8_swaps 37 = .ok (.aload_n 0, 1) := by decide +kernel
theorem dX8_swaps_38 : decode cX8_swaps 38 = .ok (.aload_n 0, 1) := by decide +kernel
theorem dX8_swaps_39 : decode cX8_swaps 39 = .ok (.getfield 29, 3) := by decide +kernel
theorem dX8_swaps_42 : decode cX8_swaps 42 = .ok (.iload_n 2, 1) := by decide +kernel
theorem dX8_swaps_43 : decode cX8_swaps 43 = .ok (.invokevirtual 138, 3) := by decide +kernel
theorem dX8_swaps_46 : decode cX8_swaps 46 = .ok (.bipush (-9), 2) := by decide +kernel
theorem dX8_swaps_48 : decode cX8_swaps 48 = .ok (.if_icmp .eq 6, 3) := by decide +kernel
theorem dX8_swaps_51 : decode cX8_swaps 51 = .ok (.bipush (-2), 2) := by decide +kernel
theorem dX8_swaps_53 : decode cX8_swaps 53 = .ok (.ireturn, 1) := by decide +kernel
theorem dX8_swaps_54 : decode cX8_swaps 54 = .ok (.aload_n 0, 1) := by decide +kernel
theorem dX8_swaps_55 : decode cX8_swaps 55 = .ok (.invokevirtual 172, 3) := by decide +kernel
theorem dX8_swaps_58 : decode cX8_swaps 58 = .ok (.aload_n 0, 1) := by decide +kernel
theorem dX8_swaps_59 : decode cX8_swaps 59 = .ok (.getfield 29, 3) := by decide +kernel
theorem dX8_swaps_62 : decode cX8_swaps 62 = .ok (.iconst 1, 1) := by decide +kernel
theorem dX8_swaps_63 : decode cX8_swaps 63 = .ok (.iload_n 1, 1) := by decide +kernel
theorem dX8_swaps_64 : decode cX8_swaps 64 = .ok (.iadd, 1) := by decide +kernel
theorem dX8_swaps_65 : decode cX8_swaps 65 = .ok (.iaload, 1) := by decide +kernel
theorem dX8_swaps_66 : decode cX8_swaps 66 = .ok (.istore_n 3, 1) := by decide +kernel
theorem dX8_swaps_67 : decode cX8_swaps 67 = .ok (.aload_n 0, 1) := by decide +kernel
theorem dX8_swaps_68 : decode cX8_swaps 68 = .ok (.getfield 29, 3) := by decide +kernel
theorem dX8_swaps_71 : decode cX8_swaps 71 = .ok (.iconst 1, 1) := by decide +kernel
theorem dX8_swaps_72 : decode cX8_swaps 72 = .ok (.iload_n 1, 1) := by decide +kernel
theorem dX8_swaps_73 : decode cX8_swaps 73 = .ok (.iadd, 1) := by decide +kernel
theorem dX8_swaps_74 : decode cX8_swaps 74 = .ok (.aload_n 0, 1) := by decide +kernel
theorem dX8_swaps_75 : decode cX8_swaps 75 = .ok (.getfield 29, 3) := by decide +kernel
theorem dX8_swaps_78 : decode cX8_swaps 78 = .ok (.iconst 1, 1) := by decide +kernel
theorem dX8_swaps_79 : decode cX8_swaps 79 = .ok (.iload_n 2, 1) := by decide +kernel
theorem dX8_swaps_80 : decode cX8_swaps 80 = .ok (.iadd, 1) := by decide +kernel
theorem dX8_swaps_81 : decode cX8_swaps 81 = .ok (.iaload, 1) := by decide +kernel
theorem dX8_swaps_82 : decode cX8_swaps 82 = .ok (.iastore, 1) := by decide +kernel
theorem dX8_swaps_83 : decode cX8_swaps 83 = .ok (.aload_n 0, 1) := by decide +kernel
theorem dX8_swaps_84 : decode cX8_swaps 84 = .ok (.getfield 29, 3) := by decide +kernel
theorem dX8_swaps_87 : decode cX8_swaps 87 = .ok (.iconst 1, 1) := by decide +kernel
theorem dX8_swaps_88 : decode cX8_swaps 88 = .ok (.iload_n 2, 1) := by decide +kernel
theorem dX8_swaps_89 : decode cX8_swaps 89 = .ok (.iadd, 1) := by decide +kernel
theorem dX8_swaps_90 : decode cX8_swaps 90 = .ok (.iload_n 3, 1) := by decide +kernel
theorem dX8_swaps_91 : decode cX8_swaps 91 = .ok (.iastore, 1) := by decide +kernel
theorem dX8_swaps_92 : decode cX8_swaps 92 = .ok (.aload_n 0, 1) := by decide +kernel
theorem dX8_swaps_93 : decode cX8_swaps 93 = .ok (.getfield 29, 3) := by decide +kernel
theorem dX8_swaps_96 : decode cX8_swaps 96 = .ok (.iconst 1, 1) := by decide +kernel
theorem dX8_swaps_97 : decode cX8_swaps 97 = .ok (.iload_n 1, 1) := by decide +kernel
theorem dX8_swaps_98 : decode cX8_swaps 98 = .ok (.iadd, 1) := by decide +kernel
theorem dX8_swaps_99 : decode cX8_swaps 99 = .ok (.iaload, 1) := by decide +kernel
theorem dX8_swaps_100 : decode cX8_swaps 100 = .ok (.ireturn, 1) := by decide +kernel
theorem dX8_undo_0 : decode cX8_undo 0 = .ok (.aload_n 0, 1) := by decide +kernel
theorem dX8_undo_1 : decode cX8_undo 1 = .ok (.getfield 60, 3) := by decide +kernel
theorem dX8_undo_4 : decode cX8_undo 4 = .ok (.ifCond .ne 6, 3) := by decide +kernel
theorem dX8_undo_7 : decode cX8_undo 7 = .ok (.bipush (-2), 2) := by decide +kernel
theorem dX8_undo_9 : decode cX8_undo 9 = .ok (.ireturn, 1) := by decide +kernel
theorem dX8_undo_10 : decode cX8_undo 10 = .ok (.aload_n 0, 1) := by decide +kernel
theorem dX8_undo_11 : decode cX8_undo 11 = .ok (.dup, 1) := by decide +kernel
theorem dX8_undo_12 : decode cX8_undo 12 = .ok (.getfield 60, 3) := by decide +kernel
theorem dX8_undo_15 : decode cX8_undo 15 = .ok (.iconst 1, 1) := by decide +kernel
theorem dX8_undo_16 : decode cX8_undo 16 = .ok (.isub, 1) := by decide +kernel
theorem dX8_undo_17 : decode cX8_undo 17 = .ok (.putfield 60, 3) := by decide +kernel
theorem dX8_undo_20 : decode cX8_undo 20 = .ok (.aload_n 0, 1) := by decide +kernel
theorem dX8_undo_21 : decode cX8_undo 21 = .ok (.getfield 42, 3) := by decide +kernel
theorem dX8_undo_24 : decode cX8_undo 24 = .ok (.bipush 28, 2) := by decide +kernel
theorem dX8_undo_26 : decode cX8_undo 26 = .ok (.aload_n 0, 1) := by decide +kernel
theorem dX8_undo_27 : decode cX8_undo 27 = .ok (.getfield 60, 3) := by decide +kernel
theorem dX8_undo_30 : decode cX8_undo 30 = .ok (.imul, 1) := by decide +kernel
theorem dX8_undo_31 : decode cX8_undo 31 = .ok (.aload_n 0, 1) := by decide +kernel
theorem dX8_undo_32 : decode cX8_undo 32 = .ok (.getfield 29, 3) := by decide +kernel
theorem dX8_undo_35 : decode cX8_undo 35 = .ok (.iconst 0, 1) := by decide +kernel
theorem dX8_undo_36 : decode cX8_undo 36 = .ok (.invokestatic 168, 3) := by decide +kernel
theorem dX8_undo_39 : decode cX8_undo 39 = .ok (.aload_n 0, 1) := by decide +kernel
theorem dX8_undo_40 : decode cX8_undo 40 = .ok (.getfield 60, 3) := by decide +kernel
theorem dX8_undo_43 : decode cX8_undo 43 = .ok (.ireturn, 1) := by decide +kernel
theorem dX8_isAhead_0 : decode cX8_isAhead 0 = .ok (.iload_n 3, 1) := by decide +kernel
theorem dX8_isAhead_1 : decode cX8_isAhead 1 = .ok (.ifCond .ne 14, 3) := by decide +kernel
theorem dX8_isAhead_4 : decode cX8_isAhead 4 = .ok (.aload_n 0, 1) := by decide +kernel
theorem dX8_isAhead_5 : decode cX8_isAhead 5 = .ok (.getfield 26, 3) := by decide +kernel
theorem dX8_isAhead_8 : decode cX8_isAhead 8 = .ok (.iconst 5, 1) := by decide +kernel
theorem dX8_isAhead_9 : decode cX8_isAhead 9 = .ok (.iload_n 1, 1) := by decide +kernel
theorem dX8_isAhead_10 : decode cX8_isAhead 10 = .ok (.imul, 1) := by decide +kernel
theorem dX8_isAhead_11 : decode cX8_isAhead 11 = .ok (.iaload, 1) := by decide +kernel
theorem dX8_isAhead_12 : decode cX8_isAhead 12 = .ok (.goto 32, 3) := by decide +kernel
theorem dX8_isAhead_15 : decode cX8_isAhead 15 = .ok (.iload_n 3, 1) := by decide +kernel
theorem dX8_isAhead_16 : decode cX8_isAhead 16 = .ok (.iconst 1, 1) := by decide +kernel
theorem dX8_isAhead_17 : decode cX8_isAhead 17 = .ok (.if_icmp .ne 17, 3) := by decide +kernel
theorem dX8_isAhead_20 : decode cX8_isAhead 20 = .ok (.aload_n 0, 1) := by decide +kernel
theorem dX8_isAhead_21 : decode cX8_isAhead 21 = .ok (.getfield 26, 3) := by decide +kernel
theorem dX8_isAhead_24 : decode cX8_isAhead 24 = .ok (.iconst 5, 1) := by decide +kernel
theorem dX8_isAhead_25 : decode cX8_isAhead 25 = .ok (.iload_n 1, 1) := by decide +kernel
theorem dX8_isAhead_26 : decode cX8_isAhead 26 = .ok (.imul, 1) := by decide +kernel
theorem dX8_isAhead_27 : decode cX8_isAhead 27 = .ok (.iconst 4, 1) := by decide +kernel
theorem dX8_isAhead_28 : decode cX8_isAhead 28 = .ok (.iadd, 1) := by decide +kernel
theorem dX8_isAhead_29 : decode cX8_isAhead 29 = .ok (.iaload, 1) := by decide +kernel
theorem dX8_isAhead_30 : decode cX8_isAhead 30 = .ok (.ineg, 1) := by decide +kernel
theorem dX8_isAhead_31 : decode cX8_isAhead 31 = .ok (.goto 13, 3) := by decide +kernel
theorem dX8_isAhead_34 : decode cX8_isAhead 34 = .ok (.aload_n 0, 1) := by decide +kernel
theorem dX8_isAhead_35 : decode cX8_isAhead 35 = .ok (.getfield 26, 3) := by decide +kernel
theorem dX8_isAhead_38 : decode cX8_isAhead 38 = .ok (.iconst 5, 1) := by decide +kernel
theorem dX8_isAhead_39 : decode cX8_isAhead 39 = .ok (.iload_n 1, 1) := by decide +kernel
theorem dX8_isAhead_40 : decode cX8_isAhead 40 = .ok (.imul, 1) := by decide +kernel
theorem dX8_isAhead_41 : decode cX8_isAhead 41 = .ok (.iconst 3, 1) := by decide +kernel
theorem dX8_isAhead_42 : decode cX8_isAhead 42 = .ok (.iadd, 1) := by decide +kernel
theorem dX8_isAhead_43 : decode cX8_isAhead 43 = .ok (.iaload, 1) := by decide +kernel
theorem dX8_isAhead_44 : decode cX8_isAhead 44 = .ok (.istore 4, 2) := by decide +kernel
theorem dX8_isAhead_46 : decode cX8_isAhead 46 = .ok (.iload_n 3, 1) := by decide +kernel
theorem dX8_isAhead_47 : decode cX8_isAhead 47 = .ok (.ifCond .ne 14, 3) := by decide +kernel
theorem dX8_isAhead_50 : decode cX8_isAhead 50 = .ok (.aload_n 0, 1) := by decide +kernel
theorem dX8_isAhead_51 : decode cX8_isAhead 51 = .ok (.getfield 26, 3) := by decide +kernel
theorem dX8_isAhead_54 : decode cX8_isAhead 54 = .ok (.iconst 5, 1) := by decide +kernel
theorem dX8_isAhead_55 : decode cX8_isAhead 55 = .ok (.iload_n 2, 1) := by decide +kernel
theorem dX8_isAhead_56 : decode cX8_isAhead 56 = .ok (.imul, 1) := by decide +kernel
theorem dX8_isAhead_57 : decode cX8_isAhead 57 = .ok (.iaload, 1) := by decide +kernel
theorem dX8_isAhead_58 : decode cX8_isAhead 58 = .ok (.goto 32, 3) := by decide +kernel
theorem dX8_isAhead_61 : decode cX8_isAhead 61 = .ok (.iload_n 3, 1) := by decide +kernel
theorem dX8_isAhead_62 : decode cX8_isAhead 62 = .ok (.iconst 1, 1) := by decide +kernel
theorem dX8_isAhead_63 : decode cX8_isAhead 63 = .ok (.if_icmp .ne 17, 3) := by decide +kernel
theorem dX8_isAhead_66 : decode cX8_isAhead 66 = .ok (.aload_n 0, 1) := by decide +kernel
theorem dX8_isAhead_67 : decode cX8_isAhead 67 = .ok (.getfield 26, 3) := by decide +kernel
theorem dX8_isAhead_70 : decode cX8_isAhead 70 = .ok (.iconst 5, 1) := by decide +kernel
theorem dX8_isAhead_71 : decode cX8_isAhead 71 = .ok (.iload_n 2, 1) := by decide +kernel
theorem dX8_isAhead_72 : decode cX8_isAhead 72 = .ok (.imul, 1) := by decide +kernel
theorem dX8_isAhead_73 : decode cX8_isAhead 73 = .ok (.iconst 4, 1) := by decide +kernel
theorem dX8_isAhead_74 : decode cX8_isAhead 74 = .ok (.iadd, 1) := by decide +kernel
theorem dX8_isAhead_75 : decode cX8_isAhead 75 = .ok (.iaload, 1) := by decide +kernel
theorem dX8_isAhead_76 : decode cX8_isAhead 76 = .ok (.ineg, 1) := by decide +kernel
theorem dX8_isAhead_77 : decode cX8_isAhead 77 = .ok (.goto 13, 3) := by decide +kernel
theorem dX8_isAhead_80 : decode cX8_isAhead 80 = .ok (.aload_n 0, 1) := by decide +kernel
theorem dX8_isAhead_81 : decode cX8_isAhead 81 = .ok (.getfield 26, 3) := by decide +kernel
theorem dX8_isAhead_84 : decode cX8_isAhead 84 = .ok (.iconst 5, 1) := by decide +kernel
theorem dX8_isAhead_85 : decode cX8_isAhead 85 = .ok (.iload_n 2, 1) := by decide +kernel
theorem dX8_isAhead_86 : decode cX8_isAhead 86 = .ok (.imul, 1) := by decide +kernel
theorem dX8_isAhead_87 : decode cX8_isAhead 87 = .ok (.iconst 3, 1) := by decide +kernel
theorem dX8_isAhead_88 : decode cX8_isAhead 88 = .ok (.iadd, 1) := by decide +kernel
theorem dX8_isAhead_89 : decode cX8_isAhead 89 = .ok (.iaload, 1) := by decide +kernel
theorem dX8_isAhead_90 : decode cX8_isAhead 90 = .ok (.istore 5, 2) := by decide +kernel
theorem dX8_isAhead_92 : decode cX8_isAhead 92 = .ok (.iload 4, 2) := by decide +kernel
theorem dX8_isAhead_94 : decode cX8_isAhead 94 = .ok (.iload 5, 2) := by decide +kernel
theorem dX8_isAhead_96 : decode cX8_isAhead 96 = .ok (.if_icmp .lt 15, 3) := by decide +kernel
theorem dX8_isAhead_99 : decode cX8_isAhead 99 = .ok (.iload 4, 2) := by decide +kernel
theorem dX8_isAhead_101 : decode cX8_isAhead 101 = .ok (.iload 5, 2) := by decide +kernel
theorem dX8_isAhead_103 : decode cX8_isAhead 103 = .ok (.if_icmp .ne 12, 3) := by decide +kernel
theorem dX8_isAhead_106 : decode cX8_isAhead 106 = .ok (.iload_n 1, 1) := by decide +kernel
theorem dX8_isAhead_107 : decode cX8_isAhead 107 = .ok (.iload_n 2, 1) := by decide +kernel
theorem dX8_isAhead_108 : decode cX8_isAhead 108 = .ok (.if_icmp .ge 7, 3) := by decide +kernel
theorem dX8_isAhead_111 : decode cX8_isAhead 111 = .ok (.iconst 1, 1) := by decide +kernel
theorem dX8_isAhead_112 : decode cX8_isAhead 112 = .ok (.goto 4, 3) := by decide +kernel
theorem dX8_isAhead_115 : decode cX8_isAhead 115 = .ok (.iconst 0, 1) := by decide +kernel
theorem dX8_isAhead_116 : decode cX8_isAhead 116 = .ok (.ireturn, 1) := by decide +kernel
theorem dX8_layOrder_0 : decode cX8_layOrder 0 = .ok (.iconst 0, 1) := by decide +kernel
theorem dX8_layOrder_1 : decode cX8_layOrder 1 = .ok (.istore_n 2, 1) := by decide +kernel
theorem dX8_layOrder_2 : decode cX8_layOrder 2 = .ok (.iload_n 2, 1) := by decide +kernel
theorem dX8_layOrder_3 : decode cX8_layOrder 3 = .ok (.aload_n 0, 1) := by decide +kernel
theorem dX8_layOrder_4 : decode cX8_layOrder 4 = .ok (.getfield 57, 3) := by decide +kernel
theorem dX8_layOrder_7 : decode cX8_layOrder 7 = .ok (.if_icmp .ge 61, 3) := by decide +kernel
theorem dX8_layOrder_10 : decode cX8_layOrder 10 = .ok (.iconst 0, 1) := by decide +kernel
theorem dX8_layOrder_11 : decode cX8_layOrder 11 = .ok (.istore_n 3, 1) := by decide +kernel
theorem dX8_layOrder_12 : decode cX8_layOrder 12 = .ok (.iconst 0, 1) := by decide +kernel
theorem dX8_layOrder_13 : decode cX8_layOrder 13 = .ok (.istore 4, 2) := by decide +kernel
theorem dX8_layOrder_15 : decode cX8_layOrder 15 = .ok (.iload 4, 2) := by decide +kernel
theorem dX8_layOrder_17 : decode cX8_layOrder 17 = .ok (.aload_n 0, 1) := by decide +kernel
theorem dX8_layOrder_18 : decode cX8_layOrder 18 = .ok (.getfield 57, 3) := by decide +kernel
theorem dX8_layOrder_21 : decode cX8_layOrder 21 = .ok (.if_icmp .ge 34, 3) := by decide +kernel
theorem dX8_layOrder_24 : decode cX8_layOrder 24 = .ok (.iload_n 3, 1) := by decide +kernel
theorem dX8_layOrder_25 : decode cX8_layOrder 25 = .ok (.iload 4, 2) := by decide +kernel
theorem dX8_layOrder_27 : decode cX8_layOrder 27 = .ok (.iload_n 2, 1) := by decide +kernel
theorem dX8_layOrder_28 : decode cX8_layOrder 28 = .ok (.if_icmp .eq 18, 3) := by decide +kernel
theorem dX8_layOrder_31 : decode cX8_layOrder 31 = .ok (.aload_n 0, 1) := by decide +kernel
theorem dX8_layOrder_32 : decode cX8_layOrder 32 = .ok (.iload 4, 2) := by decide +kernel
theorem dX8_layOrder_34 : decode cX8_layOrder 34 = .ok (.iload_n 2, 1) := by decide +kernel
theorem dX8_layOrder_35 : decode cX8_layOrder 35 = .ok (.iload_n 1, 1) := by decide +kernel
theorem dX8_layOrder_36 : decode cX8_layOrder 36 = .ok (.invokevirtual 187, 3) := by decide +kernel
theorem dX8_layOrder_39 : decode cX8_layOrder 39 = .ok (.ifCond .eq 7, 3) := by decide +kernel
theorem dX8_layOrder_42 : decode cX8_layOrder 42 = .ok (.iconst 1, 1) := by decide +kernel
theorem dX8_layOrder_43 : decode cX8_layOrder 43 = .ok (.goto 4, 3) := by decide +kernel
theorem dX8_layOrder_46 : decode cX8_layOrder 46 = .ok (.iconst 0, 1) := by decide +kernel
theorem dX8_layOrder_47 : decode cX8_layOrder 47 = .ok (.iadd, 1) := by decide +kernel
theorem dX8_layOrder_48 : decode cX8_layOrder 48 = .ok (.istore_n 3, 1) := by decide +kernel
theorem dX8_layOrder_49 : decode cX8_layOrder 49 = .ok (.iinc 4 1, 3) := by decide +kernel
theorem dX8_layOrder_52 : decode cX8_layOrder 52 = .ok (.goto (-37), 3) := by decide +kernel
theorem dX8_layOrder_55 : decode cX8_layOrder 55 = .ok (.aload_n 0, 1) := by decide +kernel
theorem dX8_layOrder_56 : decode cX8_layOrder 56 = .ok (.getfield 45, 3) := by decide +kernel
theorem dX8_layOrder_59 : decode cX8_layOrder 59 = .ok (.iload_n 3, 1) := by decide +kernel
theorem dX8_layOrder_60 : decode cX8_layOrder 60 = .ok (.iload_n 2, 1) := by decide +kernel
theorem dX8_layOrder_61 : decode cX8_layOrder 61 = .ok (.iastore, 1) := by decide +kernel
theorem dX8_layOrder_62 : decode cX8_layOrder 62 = .ok (.iinc 2 1, 3) := by decide +kernel
theorem dX8_layOrder_65 : decode cX8_layOrder 65 = .ok (.goto (-63), 3) := by decide +kernel
theorem dX8_layOrder_68 : decode cX8_layOrder 68 = .ok (.return_, 1) := by decide +kernel
theorem dX8_plugAll_0 : decode cX8_plugAll 0 = .ok (.iconst 0, 1) := by decide +kernel
theorem dX8_plugAll_1 : decode cX8_plugAll 1 = .ok (.istore 4, 2) := by decide +kernel
theorem dX8_plugAll_3 : decode cX8_plugAll 3 = .ok (.iload 4, 2) := by decide +kernel
theorem dX8_plugAll_5 : decode cX8_plugAll 5 = .ok (.iload_n 2, 1) := by decide +kernel
theorem dX8_plugAll_6 : decode cX8_plugAll 6 = .ok (.if_icmp .ge 37, 3) := by decide +kernel
theorem dX8_plugAll_9 : decode cX8_plugAll 9 = .ok (.aload_n 0, 1) := by decide +kernel
theorem dX8_plugAll_10 : decode cX8_plugAll 10 = .ok (.aload_n 0, 1) := by decide +kernel
theorem dX8_plugAll_11 : decode cX8_plugAll 11 = .ok (.getfield 32, 3) := by decide +kernel
theorem dX8_plugAll_14 : decode cX8_plugAll 14 = .ok (.aload_n 1, 1) := by decide +kernel
theorem dX8_plugAll_15 : decode cX8_plugAll 15 = .ok (.iload 4, 2) := by decide +kernel
theorem dX8_plugAll_17 : decode cX8_plugAll 17 = .ok (.iaload, 1) := by decide +kernel
theorem dX8_plugAll_18 : decode cX8_plugAll 18 = .ok (.iload_n 3, 1) := by decide +kernel
theorem dX8_plugAll_19 : decode cX8_plugAll 19 = .ok (.invokevirtual 179, 3) := by decide +kernel
theorem dX8_plugAll_22 : decode cX8_plugAll 22 = .ok (.ifCond .eq 15, 3) := by decide +kernel
theorem dX8_plugAll_25 : decode cX8_plugAll 25 = .ok (.aload_n 0, 1) := by decide +kernel
theorem dX8_plugAll_26 : decode cX8_plugAll 26 = .ok (.aload_n 0, 1) := by decide +kernel
theorem dX8_plugAll_27 : decode cX8_plugAll 27 = .ok (.getfield 32, 3) := by decide +kernel
theorem dX8_plugAll_30 : decode cX8_plugAll 30 = .ok (.aload_n 1, 1) := by decide +kernel
theorem dX8_plugAll_31 : decode cX8_plugAll 31 = .ok (.iload 4, 2) := by decide +kernel
theorem dX8_plugAll_33 : decode cX8_plugAll 33 = .ok (.iaload, 1) := by decide +kernel
theorem dX8_plugAll_34 : decode cX8_plugAll 34 = .ok (.invokevirtual 183, 3) := by decide +kernel
theorem dX8_plugAll_37 : decode cX8_plugAll 37 = .ok (.iinc 4 1, 3) := by decide +kernel
theorem dX8_plugAll_40 : decode cX8_plugAll 40 = .ok (.goto (-37), 3) := by decide +kernel
theorem dX8_plugAll_43 : decode cX8_plugAll 43 = .ok (.return_, 1) := by decide +kernel
theorem dX8_byRule_0 : decode cX8_byRule 0 = .ok (.iload_n 1, 1) := by decide +kernel
theorem dX8_byRule_1 : decode cX8_byRule 1 = .ok (.iconst 0, 1) := by decide +kernel
theorem dX8_byRule_2 : decode cX8_byRule 2 = .ok (.iconst 2, 1) := by decide +kernel
theorem dX8_byRule_3 : decode cX8_byRule 3 = .ok (.invokestatic 63, 3) := by decide +kernel
theorem dX8_byRule_6 : decode cX8_byRule 6 = .ok (.ifCond .eq 22, 3) := by decide +kernel
theorem dX8_byRule_9 : decode cX8_byRule 9 = .ok (.iload_n 2, 1) := by decide +kernel
theorem dX8_byRule_10 : decode cX8_byRule 10 = .ok (.iconst 0, 1) := by decide +kernel
theorem dX8_byRule_11 : decode cX8_byRule 11 = .ok (.bipush 60, 2) := by decide +kernel
theorem dX8_byRule_13 : decode cX8_byRule 13 = .ok (.invokestatic 63, 3) := by decide +kernel
theorem dX8_byRule_16 : decode cX8_byRule 16 = .ok (.ifCond .eq 12, 3) := by decide +kernel
theorem dX8_byRule_19 : decode cX8_byRule 19 = .ok (.iload_n 3, 1) := by decide +kernel
theorem dX8_byRule_20 : decode cX8_byRule 20 = .ok (.iconst 0, 1) := by decide +kernel
theorem dX8_byRule_21 : decode cX8_byRule 21 = .ok (.iconst 2, 1) := by decide +kernel
theorem dX8_byRule_22 : decode cX8_byRule 22 = .ok (.invokestatic 63, 3) := by decide +kernel
theorem dX8_byRule_25 : decode cX8_byRule 25 = .ok (.ifCond .ne 5, 3) := by decide +kernel
theorem dX8_byRule_28 : decode cX8_byRule 28 = .ok (.iconst (-1), 1) := by decide +kernel
theorem dX8_byRule_29 : decode cX8_byRule 29 = .ok (.ireturn, 1) := by decide +kernel
theorem dX8_byRule_30 : decode cX8_byRule 30 = .ok (.aload_n 0, 1) := by decide +kernel
theorem dX8_byRule_31 : decode cX8_byRule 31 = .ok (.iload_n 1, 1) := by decide +kernel
theorem dX8_byRule_32 : decode cX8_byRule 32 = .ok (.invokevirtual 190, 3) := by decide +kernel
theorem dX8_byRule_35 : decode cX8_byRule 35 = .ok (.aload_n 0, 1) := by decide +kernel
theorem dX8_byRule_36 : decode cX8_byRule 36 = .ok (.getfield 29, 3) := by decide +kernel
theorem dX8_byRule_39 : decode cX8_byRule 39 = .ok (.iconst 0, 1) := by decide +kernel
theorem dX8_byRule_40 : decode cX8_byRule 40 = .ok (.aload_n 0, 1) := by decide +kernel
theorem dX8_byRule_41 : decode cX8_byRule 41 = .ok (.getfield 32, 3) := by decide +kernel
theorem dX8_byRule_44 : decode cX8_byRule 44 = .ok (.iconst 0, 1) := by decide +kernel
theorem dX8_byRule_45 : decode cX8_byRule 45 = .ok (.invokestatic 168, 3) := by decide +kernel
theorem dX8_byRule_48 : decode cX8_byRule 48 = .ok (.aload_n 0, 1) := by decide +kernel
theorem dX8_byRule_49 : decode cX8_byRule 49 = .ok (.bipush (-9), 2) := by decide +kernel
theorem dX8_byRule_51 : decode cX8_byRule 51 = .ok (.putfield 194, 3) := by decide +kernel
theorem dX8_byRule_54 : decode cX8_byRule 54 = .ok (.iconst 0, 1) := by decide +kernel
theorem dX8_byRule_55 : decode cX8_byRule 55 = .ok (.istore 4, 2) := by decide +kernel
theorem dX8_byRule_57 : decode cX8_byRule 57 = .ok (.iload 4, 2) := by decide +kernel
theorem dX8_byRule_59 : decode cX8_byRule 59 = .ok (.iload_n 2, 1) := by decide +kernel
theorem dX8_byRule_60 : decode cX8_byRule 60 = .ok (.if_icmp .ge 147, 3) := by decide +kernel
theorem dX8_byRule_63 : decode cX8_byRule 63 = .ok (.aload_n 0, 1) := by decide +kernel
theorem dX8_byRule_64 : decode cX8_byRule 64 = .ok (.aload_n 0, 1) := by decide +kernel
theorem dX8_byRule_65 : decode cX8_byRule 65 = .ok (.getfield 45, 3) := by decide +kernel
theorem dX8_byRule_68 : decode cX8_byRule 68 = .ok (.aload_n 0, 1) := by decide +kernel
theorem dX8_byRule_69 : decode cX8_byRule 69 = .ok (.getfield 57, 3) := by decide +kernel
theorem dX8_byRule_72 : decode cX8_byRule 72 = .ok (.aload_n 0, 1) := by decide +kernel
theorem dX8_byRule_73 : decode cX8_byRule 73 = .ok (.getfield 23, 3) := by decide +kernel
theorem dX8_byRule_76 : decode cX8_byRule 76 = .ok (.invokevirtual 197, 3) := by decide +kernel
theorem dX8_byRule_79 : decode cX8_byRule 79 = .ok (.aload_n 0, 1) := by decide +kernel
theorem dX8_byRule_80 : decode cX8_byRule 80 = .ok (.aload_n 0, 1) := by decide +kernel
theorem dX8_byRule_81 : decode cX8_byRule 81 = .ok (.getfield 32, 3) := by decide +kernel
theorem dX8_byRule_84 : decode cX8_byRule 84 = .ok (.iconst 3, 1) := by decide +kernel
theorem dX8_byRule_85 : decode cX8_byRule 85 = .ok (.invokevirtual 131, 3) := by decide +kernel
theorem dX8_byRule_88 : decode cX8_byRule 88 = .ok (.istore 5, 2) := by decide +kernel
theorem dX8_byRule_90 : decode cX8_byRule 90 = .ok (.aload_n 0, 1) := by decide +kernel
theorem dX8_byRule_91 : decode cX8_byRule 91 = .ok (.aload_n 0, 1) := by decide +kernel
theorem dX8_byRule_92 : decode cX8_byRule 92 = .ok (.getfield 32, 3) := by decide +kernel
theorem dX8_byRule_95 : decode cX8_byRule 95 = .ok (.invokevirtual 175, 3) := by decide +kernel
theorem dX8_byRule_98 : decode cX8_byRule 98 = .ok (.aload_n 0, 1) := by decide +kernel
theorem dX8_byRule_99 : decode cX8_byRule 99 = .ok (.aload_n 0, 1) := by decide +kernel
theorem dX8_byRule_100 : decode cX8_byRule 100 = .ok (.getfield 32, 3) := by decide +kernel
theorem dX8_byRule_103 : decode cX8_byRule 103 = .ok (.iconst 3, 1) := by decide +kernel
theorem dX8_byRule_104 : decode cX8_byRule 104 = .ok (.invokevirtual 131, 3) := by decide +kernel
theorem dX8_byRule_107 : decode cX8_byRule 107 = .ok (.iload 5, 2) := by decide +kernel
theorem dX8_byRule_109 : decode cX8_byRule 109 = .ok (.iconst (-1), 1) := by decide +kernel
theorem dX8_byRule_110 : decode cX8_byRule 110 = .ok (.ixor, 1) := by decide +kernel
theorem dX8_byRule_111 : decode cX8_byRule 111 = .ok (.iand, 1) := by decide +kernel
theorem dX8_byRule_112 : decode cX8_byRule 112 = .ok (.istore 6, 2) := by decide +kernel
theorem dX8_byRule_114 : decode cX8_byRule 114 = .ok (.aload_n 0, 1) := by decide +kernel
theorem dX8_byRule_115 : decode cX8_byRule 115 = .ok (.getfield 57, 3) := by decide +kernel
theorem dX8_byRule_118 : decode cX8_byRule 118 = .ok (.iconst 1, 1) := by decide +kernel
theorem dX8_byRule_119 : decode cX8_byRule 119 = .ok (.isub, 1) := by decide +kernel
theorem dX8_byRule_120 : decode cX8_byRule 120 = .ok (.istore 7, 2) := by decide +kernel
theorem dX8_byRule_122 : decode cX8_byRule 122 = .ok (.iload 7, 2) := by decide +kernel
theorem dX8_byRule_124 : decode cX8_byRule 124 = .ok (.ifCond .lt 48, 3) := by decide +kernel
theorem dX8_byRule_127 : decode cX8_byRule 127 = .ok (.aload_n 0, 1) := by decide +kernel
theorem dX8_byRule_128 : decode cX8_byRule 128 = .ok (.getfield 194, 3) := by decide +kernel
theorem dX8_byRule_131 : decode cX8_byRule 131 = .ok (.ifCond .ge 41, 3) := by decide +kernel
theorem dX8_byRule_134 : decode cX8_byRule 134 = .ok (.iload 6, 2) := by decide +kernel
theorem dX8_byRule_136 : decode cX8_byRule 136 = .ok (.ifCond .eq 36, 3) := by decide +kernel
theorem dX8_byRule_139 : decode cX8_byRule 139 = .ok (.aload_n 0, 1) := by decide +kernel
theorem dX8_byRule_140 : decode cX8_byRule 140 = .ok (.getfield 48, 3) := by decide +kernel
theorem dX8_byRule_143 : decode cX8_byRule 143 = .ok (.iconst 0, 1) := by decide +kernel
theorem dX8_byRule_144 : decode cX8_byRule 144 = .ok (.iload 6, 2) := by decide +kernel
theorem dX8_byRule_146 : decode cX8_byRule 146 = .ok (.iload 7, 2) := by decide +kernel
theorem dX8_byRule_148 : decode cX8_byRule 148 = .ok (.invokestatic 201, 3) := by decide +kernel
theorem dX8_byRule_151 : decode cX8_byRule 151 = .ok (.ifCond .eq 8, 3) := by decide +kernel
theorem dX8_byRule_154 : decode cX8_byRule 154 = .ok (.iload 7, 2) := by decide +kernel
theorem dX8_byRule_156 : decode cX8_byRule 156 = .ok (.goto 9, 3) := by decide +kernel
theorem dX8_byRule_159 : decode cX8_byRule 159 = .ok (.aload_n 0, 1) := by decide +kernel
theorem dX8_byRule_160 : decode cX8_byRule 160 = .ok (.getfield 48, 3) := by decide +kernel
theorem dX8_byRule_163 : decode cX8_byRule 163 = .ok (.iconst 0, 1) := by decide +kernel
theorem dX8_byRule_164 : decode cX8_byRule 164 = .ok (.iaload, 1) := by decide +kernel
theorem dX8_byRule_165 : decode cX8_byRule 165 = .ok (.iastore, 1) := by decide +kernel
theorem dX8_byRule_166 : decode cX8_byRule 166 = .ok (.iinc 7 (-1), 3) := by decide +kernel
theorem dX8_byRule_169 : decode cX8_byRule 169 = .ok (.goto (-47), 3) := by decide +kernel
theorem dX8_byRule_172 : decode cX8_byRule 172 = .ok (.aload_n 0, 1) := by decide +kernel
theorem dX8_byRule_173 : decode cX8_byRule 173 = .ok (.aload_n 0, 1) := by decide +kernel
theorem dX8_byRule_174 : decode cX8_byRule 174 = .ok (.getfield 194, 3) := by decide +kernel
theorem dX8_byRule_177 : decode cX8_byRule 177 = .ok (.ifCond .ge 17, 3) := by decide +kernel
theorem dX8_byRule_180 : decode cX8_byRule 180 = .ok (.iload 6, 2) := by decide +kernel
theorem dX8_byRule_182 : decode cX8_byRule 182 = .ok (.ifCond .eq 12, 3) := by decide +kernel
theorem dX8_byRule_185 : decode cX8_byRule 185 = .ok (.aload_n 0, 1) := by decide +kernel
theorem dX8_byRule_186 : decode cX8_byRule 186 = .ok (.getfield 48, 3) := by decide +kernel
theorem dX8_byRule_189 : decode cX8_byRule 189 = .ok (.iconst 0, 1) := by decide +kernel
theorem dX8_byRule_190 : decode cX8_byRule 190 = .ok (.iaload, 1) := by decide +kernel
theorem dX8_byRule_191 : decode cX8_byRule 191 = .ok (.goto 7, 3) := by decide +kernel
theorem dX8_byRule_194 : decode cX8_byRule 194 = .ok (.aload_n 0, 1) := by decide +kernel
theorem dX8_byRule_195 : decode cX8_byRule 195 = .ok (.getfield 194, 3) := by decide +kernel
theorem dX8_byRule_198 : decode cX8_byRule 198 = .ok (.putfield 194, 3) := by decide +kernel
theorem dX8_byRule_201 : decode cX8_byRule 201 = .ok (.iinc 4 1, 3) := by decide +kernel
theorem dX8_byRule_204 : decode cX8_byRule 204 = .ok (.goto (-147), 3) := by decide +kernel
theorem dX8_byRule_207 : decode cX8_byRule 207 = .ok (.iconst 0, 1) := by decide +kernel
theorem dX8_byRule_208 : decode cX8_byRule 208 = .ok (.istore 4, 2) := by decide +kernel
theorem dX8_byRule_210 : decode cX8_byRule 210 = .ok (.iconst 0, 1) := by decide +kernel
theorem dX8_byRule_211 : decode cX8_byRule 211 = .ok (.istore 5, 2) := by decide +kernel
theorem dX8_byRule_213 : decode cX8_byRule 213 = .ok (.iload 5, 2) := by decide +kernel
theorem dX8_byRule_215 : decode cX8_byRule 215 = .ok (.aload_n 0, 1) := by decide +kernel
