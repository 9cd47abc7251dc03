theorem dX5_prepare_15 : decode cX5_prepare 15 = .ok (.if_icmp .ge 94, 3) := by decide +kernel
theorem dX5_prepare_18 : decode cX5_prepare 18 = .ok (.aload_n 0, 1) := by decide +kernel
theorem dX5_prepare_19 : decode cX5_prepare 19 = .ok (.getfield 18, 3) := by decide +kernel
theorem dX5_prepare_22 : decode cX5_prepare 22 = .ok (.iload_n 2, 1) := by decide +kernel
theorem dX5_prepare_23 : decode cX5_prepare 23 = .ok (.iconst 1, 1) := by decide +kernel
theorem dX5_prepare_24 : decode cX5_prepare 24 = .ok (.aload_n 0, 1) := by decide +kernel
theorem dX5_prepare_25 : decode cX5_prepare 25 = .ok (.getfield 27, 3) := by decide +kernel
theorem dX5_prepare_28 : decode cX5_prepare 28 = .ok (.getfield 62, 3) := by decide +kernel
theorem dX5_prepare_31 : decode cX5_prepare 31 = .ok (.iload_n 2, 1) := by decide +kernel
theorem dX5_prepare_32 : decode cX5_prepare 32 = .ok (.iaload, 1) := by decide +kernel
theorem dX5_prepare_33 : decode cX5_prepare 33 = .ok (.ishl, 1) := by decide +kernel
theorem dX5_prepare_34 : decode cX5_prepare 34 = .ok (.iconst 1, 1) := by decide +kernel
theorem dX5_prepare_35 : decode cX5_prepare 35 = .ok (.aload_n 0, 1) := by decide +kernel
theorem dX5_prepare_36 : decode cX5_prepare 36 = .ok (.getfield 27, 3) := by decide +kernel
theorem dX5_prepare_39 : decode cX5_prepare 39 = .ok (.getfield 65, 3) := by decide +kernel
theorem dX5_prepare_42 : decode cX5_prepare 42 = .ok (.iload_n 2, 1) := by decide +kernel
theorem dX5_prepare_43 : decode cX5_prepare 43 = .ok (.iaload, 1) := by decide +kernel
theorem dX5_prepare_44 : decode cX5_prepare 44 = .ok (.ishl, 1) := by decide +kernel
theorem dX5_prepare_45 : decode cX5_prepare 45 = .ok (.ior, 1) := by decide +kernel
theorem dX5_prepare_46 : decode cX5_prepare 46 = .ok (.iastore, 1) := by decide +kernel
theorem dX5_prepare_47 : decode cX5_prepare 47 = .ok (.aload_n 0, 1) := by decide +kernel
theorem dX5_prepare_48 : decode cX5_prepare 48 = .ok (.getfield 21, 3) := by decide +kernel
theorem dX5_prepare_51 : decode cX5_prepare 51 = .ok (.iload_n 2, 1) := by decide +kernel
theorem dX5_prepare_52 : decode cX5_prepare 52 = .ok (.aload_n 1, 1) := by decide +kernel
theorem dX5_prepare_53 : decode cX5_prepare 53 = .ok (.getfield 68, 3) := by decide +kernel
theorem dX5_prepare_56 : decode cX5_prepare 56 = .ok (.iload_n 2, 1) := by decide +kernel
theorem dX5_prepare_57 : decode cX5_prepare 57 = .ok (.iaload, 1) := by decide +kernel
theorem dX5_prepare_58 : decode cX5_prepare 58 = .ok (.iconst 2, 1) := by decide +kernel
theorem dX5_prepare_59 : decode cX5_prepare 59 = .ok (.if_icmp .ne 12, 3) := by decide +kernel
theorem dX5_prepare_62 : decode cX5_prepare 62 = .ok (.aload_n 1, 1) := by decide +kernel
theorem dX5_prepare_63 : decode cX5_prepare 63 = .ok (.getfield 73, 3) := by decide +kernel
theorem dX5_prepare_66 : decode cX5_prepare 66 = .ok (.iload_n 2, 1) := by decide +kernel
theorem dX5_prepare_67 : decode cX5_prepare 67 = .ok (.iaload, 1) := by decide +kernel
theorem dX5_prepare_68 : decode cX5_prepare 68 = .ok (.goto 4, 3) := by decide +kernel
theorem dX5_prepare_71 : decode cX5_prepare 71 = .ok (.iconst 0, 1) := by decide +kernel
theorem dX5_prepare_72 : decode cX5_prepare 72 = .ok (.iastore, 1) := by decide +kernel
theorem dX5_prepare_73 : decode cX5_prepare 73 = .ok (.aload_n 1, 1) := by decide +kernel
theorem dX5_prepare_74 : decode cX5_prepare 74 = .ok (.getfield 68, 3) := by decide +kernel
theorem dX5_prepare_77 : decode cX5_prepare 77 = .ok (.iload_n 2, 1) := by decide +kernel
theorem dX5_prepare_78 : decode cX5_prepare 78 = .ok (.iaload, 1) := by decide +kernel
theorem dX5_prepare_79 : decode cX5_prepare 79 = .ok (.iconst 1, 1) := by decide +kernel
theorem dX5_prepare_80 : decode cX5_prepare 80 = .ok (.if_icmp .ne 23, 3) := by decide +kernel
theorem dX5_prepare_83 : decode cX5_prepare 83 = .ok (.aload_n 0, 1) := by decide +kernel
theorem dX5_prepare_84 : decode cX5_prepare 84 = .ok (.getfield 9, 3) := by decide +kernel
theorem dX5_prepare_87 : decode cX5_prepare 87 = .ok (.aload_n 0, 1) := by decide +kernel
theorem dX5_prepare_88 : decode cX5_prepare 88 = .ok (.getfield 44, 3) := by decide +kernel
theorem dX5_prepare_91 : decode cX5_prepare 91 = .ok (.iload_n 2, 1) := by decide +kernel
theorem dX5_prepare_92 : decode cX5_prepare 92 = .ok (.iastore, 1) := by decide +kernel
theorem dX5_prepare_93 : decode cX5_prepare 93 = .ok (.aload_n 0, 1) := by decide +kernel
theorem dX5_prepare_94 : decode cX5_prepare 94 = .ok (.dup, 1) := by decide +kernel
theorem dX5_prepare_95 : decode cX5_prepare 95 = .ok (.getfield 44, 3) := by decide +kernel
theorem dX5_prepare_98 : decode cX5_prepare 98 = .ok (.iconst 1, 1) := by decide +kernel
theorem dX5_prepare_99 : decode cX5_prepare 99 = .ok (.iadd, 1) := by decide +kernel
theorem dX5_prepare_100 : decode cX5_prepare 100 = .ok (.putfield 44, 3) := by decide +kernel
theorem dX5_prepare_103 : decode cX5_prepare 103 = .ok (.iinc 2 1, 3) := by decide +kernel
theorem dX5_prepare_106 : decode cX5_prepare 106 = .ok (.goto (-99), 3) := by decide +kernel
theorem dX5_prepare_109 : decode cX5_prepare 109 = .ok (.return_, 1) := by decide +kernel
theorem dX5_waitsFor_0 : decode cX5_waitsFor 0 = .ok (.aload_n 0, 1) := by decide +kernel
theorem dX5_waitsFor_1 : decode cX5_waitsFor 1 = .ok (.getfield 21, 3) := by decide +kernel
theorem dX5_waitsFor_4 : decode cX5_waitsFor 4 = .ok (.iconst 0, 1) := by decide +kernel
theorem dX5_waitsFor_5 : decode cX5_waitsFor 5 = .ok (.aload_n 0, 1) := by decide +kernel
theorem dX5_waitsFor_6 : decode cX5_waitsFor 6 = .ok (.getfield 24, 3) := by decide +kernel
theorem dX5_waitsFor_9 : decode cX5_waitsFor 9 = .ok (.iconst 0, 1) := by decide +kernel
theorem dX5_waitsFor_10 : decode cX5_waitsFor 10 = .ok (.bipush 7, 2) := by decide +kernel
theorem dX5_waitsFor_12 : decode cX5_waitsFor 12 = .ok (.invokestatic 47, 3) := by decide +kernel
theorem dX5_waitsFor_15 : decode cX5_waitsFor 15 = .ok (.iconst 0, 1) := by decide +kernel
theorem dX5_waitsFor_16 : decode cX5_waitsFor 16 = .ok (.istore_n 2, 1) := by decide +kernel
theorem dX5_waitsFor_17 : decode cX5_waitsFor 17 = .ok (.iconst 0, 1) := by decide +kernel
theorem dX5_waitsFor_18 : decode cX5_waitsFor 18 = .ok (.istore_n 3, 1) := by decide +kernel
theorem dX5_waitsFor_19 : decode cX5_waitsFor 19 = .ok (.iconst 0, 1) := by decide +kernel
theorem dX5_waitsFor_20 : decode cX5_waitsFor 20 = .ok (.istore 4, 2) := by decide +kernel
theorem dX5_waitsFor_22 : decode cX5_waitsFor 22 = .ok (.iload 4, 2) := by decide +kernel
theorem dX5_waitsFor_24 : decode cX5_waitsFor 24 = .ok (.bipush 30, 2) := by decide +kernel
theorem dX5_waitsFor_26 : decode cX5_waitsFor 26 = .ok (.if_icmp .ge 55, 3) := by decide +kernel
theorem dX5_waitsFor_29 : decode cX5_waitsFor 29 = .ok (.iload_n 3, 1) := by decide +kernel
theorem dX5_waitsFor_30 : decode cX5_waitsFor 30 = .ok (.bipush 30, 2) := by decide +kernel
theorem dX5_waitsFor_32 : decode cX5_waitsFor 32 = .ok (.if_icmp .ge 49, 3) := by decide +kernel
theorem dX5_waitsFor_35 : decode cX5_waitsFor 35 = .ok (.iload_n 2, 1) := by decide +kernel
theorem dX5_waitsFor_36 : decode cX5_waitsFor 36 = .ok (.iload_n 1, 1) := by decide +kernel
theorem dX5_waitsFor_37 : decode cX5_waitsFor 37 = .ok (.if_icmp .ge 44, 3) := by decide +kernel
theorem dX5_waitsFor_40 : decode cX5_waitsFor 40 = .ok (.aload_n 0, 1) := by decide +kernel
theorem dX5_waitsFor_41 : decode cX5_waitsFor 41 = .ok (.iload_n 3, 1) := by decide +kernel
theorem dX5_waitsFor_42 : decode cX5_waitsFor 42 = .ok (.invokevirtual 76, 3) := by decide +kernel
theorem dX5_waitsFor_45 : decode cX5_waitsFor 45 = .ok (.istore 5, 2) := by decide +kernel
theorem dX5_waitsFor_47 : decode cX5_waitsFor 47 = .ok (.iload 5, 2) := by decide +kernel
theorem dX5_waitsFor_49 : decode cX5_waitsFor 49 = .ok (.ifCond .ne 6, 3) := by decide +kernel
theorem dX5_waitsFor_52 : decode cX5_waitsFor 52 = .ok (.goto 29, 3) := by decide +kernel
theorem dX5_waitsFor_55 : decode cX5_waitsFor 55 = .ok (.aload_n 0, 1) := by decide +kernel
theorem dX5_waitsFor_56 : decode cX5_waitsFor 56 = .ok (.iload_n 3, 1) := by decide +kernel
theorem dX5_waitsFor_57 : decode cX5_waitsFor 57 = .ok (.invokevirtual 79, 3) := by decide +kernel
theorem dX5_waitsFor_60 : decode cX5_waitsFor 60 = .ok (.istore 6, 2) := by decide +kernel
theorem dX5_waitsFor_62 : decode cX5_waitsFor 62 = .ok (.iload_n 2, 1) := by decide +kernel
theorem dX5_waitsFor_63 : decode cX5_waitsFor 63 = .ok (.iload 5, 2) := by decide +kernel
theorem dX5_waitsFor_65 : decode cX5_waitsFor 65 = .ok (.iload 6, 2) := by decide +kernel
theorem dX5_waitsFor_67 : decode cX5_waitsFor 67 = .ok (.iload_n 3, 1) := by decide +kernel
theorem dX5_waitsFor_68 : decode cX5_waitsFor 68 = .ok (.isub, 1) := by decide +kernel
theorem dX5_waitsFor_69 : decode cX5_waitsFor 69 = .ok (.imul, 1) := by decide +kernel
theorem dX5_waitsFor_70 : decode cX5_waitsFor 70 = .ok (.iadd, 1) := by decide +kernel
theorem dX5_waitsFor_71 : decode cX5_waitsFor 71 = .ok (.istore_n 2, 1) := by decide +kernel
theorem dX5_waitsFor_72 : decode cX5_waitsFor 72 = .ok (.iload 6, 2) := by decide +kernel
theorem dX5_waitsFor_74 : decode cX5_waitsFor 74 = .ok (.istore_n 3, 1) := by decide +kernel
theorem dX5_waitsFor_75 : decode cX5_waitsFor 75 = .ok (.iinc 4 1, 3) := by decide +kernel
theorem dX5_waitsFor_78 : decode cX5_waitsFor 78 = .ok (.goto (-56), 3) := by decide +kernel
theorem dX5_waitsFor_81 : decode cX5_waitsFor 81 = .ok (.iload_n 2, 1) := by decide +kernel
theorem dX5_waitsFor_82 : decode cX5_waitsFor 82 = .ok (.ireturn, 1) := by decide +kernel
theorem dX5_plugAlong_0 : decode cX5_plugAlong 0 = .ok (.iconst 0, 1) := by decide +kernel
theorem dX5_plugAlong_1 : decode cX5_plugAlong 1 = .ok (.istore_n 2, 1) := by decide +kernel
theorem dX5_plugAlong_2 : decode cX5_plugAlong 2 = .ok (.aload_n 0, 1) := by decide +kernel
theorem dX5_plugAlong_3 : decode cX5_plugAlong 3 = .ok (.getfield 27, 3) := by decide +kernel
theorem dX5_plugAlong_6 : decode cX5_plugAlong 6 = .ok (.getfield 82, 3) := by decide +kernel
theorem dX5_plugAlong_9 : decode cX5_plugAlong 9 = .ok (.istore_n 3, 1) := by decide +kernel
theorem dX5_plugAlong_10 : decode cX5_plugAlong 10 = .ok (.iconst 0, 1) := by decide +kernel
theorem dX5_plugAlong_11 : decode cX5_plugAlong 11 = .ok (.istore 4, 2) := by decide +kernel
theorem dX5_plugAlong_13 : decode cX5_plugAlong 13 = .ok (.iload 4, 2) := by decide +kernel
theorem dX5_plugAlong_15 : decode cX5_plugAlong 15 = .ok (.aload_n 0, 1) := by decide +kernel
theorem dX5_plugAlong_16 : decode cX5_plugAlong 16 = .ok (.getfield 27, 3) := by decide +kernel
theorem dX5_plugAlong_19 : decode cX5_plugAlong 19 = .ok (.getfield 57, 3) := by decide +kernel
theorem dX5_plugAlong_22 : decode cX5_plugAlong 22 = .ok (.if_icmp .ge 33, 3) := by decide +kernel
theorem dX5_plugAlong_25 : decode cX5_plugAlong 25 = .ok (.aload_n 0, 1) := by decide +kernel
theorem dX5_plugAlong_26 : decode cX5_plugAlong 26 = .ok (.getfield 24, 3) := by decide +kernel
theorem dX5_plugAlong_29 : decode cX5_plugAlong 29 = .ok (.iload 4, 2) := by decide +kernel
theorem dX5_plugAlong_31 : decode cX5_plugAlong 31 = .ok (.iaload, 1) := by decide +kernel
theorem dX5_plugAlong_32 : decode cX5_plugAlong 32 = .ok (.iload_n 1, 1) := by decide +kernel
theorem dX5_plugAlong_33 : decode cX5_plugAlong 33 = .ok (.if_icmp .le 16, 3) := by decide +kernel
theorem dX5_plugAlong_36 : decode cX5_plugAlong 36 = .ok (.iload_n 2, 1) := by decide +kernel
theorem dX5_plugAlong_37 : decode cX5_plugAlong 37 = .ok (.aload_n 0, 1) := by decide +kernel
theorem dX5_plugAlong_38 : decode cX5_plugAlong 38 = .ok (.getfield 18, 3) := by decide +kernel
theorem dX5_plugAlong_41 : decode cX5_plugAlong 41 = .ok (.iload 4, 2) := by decide +kernel
theorem dX5_plugAlong_43 : decode cX5_plugAlong 43 = .ok (.iaload, 1) := by decide +kernel
theorem dX5_plugAlong_44 : decode cX5_plugAlong 44 = .ok (.ior, 1) := by decide +kernel
theorem dX5_plugAlong_45 : decode cX5_plugAlong 45 = .ok (.istore_n 2, 1) := by decide +kernel
theorem dX5_plugAlong_46 : decode cX5_plugAlong 46 = .ok (.iinc 3 (-1), 3) := by decide +kernel
theorem dX5_plugAlong_49 : decode cX5_plugAlong 49 = .ok (.iinc 4 1, 3) := by decide +kernel
theorem dX5_plugAlong_52 : decode cX5_plugAlong 52 = .ok (.goto (-39), 3) := by decide +kernel
theorem dX5_plugAlong_55 : decode cX5_plugAlong 55 = .ok (.iconst 0, 1) := by decide +kernel
theorem dX5_plugAlong_56 : decode cX5_plugAlong 56 = .ok (.istore 4, 2) := by decide +kernel
theorem dX5_plugAlong_58 : decode cX5_plugAlong 58 = .ok (.iconst 0, 1) := by decide +kernel
theorem dX5_plugAlong_59 : decode cX5_plugAlong 59 = .ok (.istore 5, 2) := by decide +kernel
theorem dX5_plugAlong_61 : decode cX5_plugAlong 61 = .ok (.iload 5, 2) := by decide +kernel
theorem dX5_plugAlong_63 : decode cX5_plugAlong 63 = .ok (.aload_n 0, 1) := by decide +kernel
theorem dX5_plugAlong_64 : decode cX5_plugAlong 64 = .ok (.getfield 44, 3) := by decide +kernel
theorem dX5_plugAlong_67 : decode cX5_plugAlong 67 = .ok (.if_icmp .ge 85, 3) := by decide +kernel
theorem dX5_plugAlong_70 : decode cX5_plugAlong 70 = .ok (.aload_n 0, 1) := by decide +kernel
theorem dX5_plugAlong_71 : decode cX5_plugAlong 71 = .ok (.getfield 9, 3) := by decide +kernel
theorem dX5_plugAlong_74 : decode cX5_plugAlong 74 = .ok (.iload 5, 2) := by decide +kernel
theorem dX5_plugAlong_76 : decode cX5_plugAlong 76 = .ok (.iaload, 1) := by decide +kernel
theorem dX5_plugAlong_77 : decode cX5_plugAlong 77 = .ok (.istore 6, 2) := by decide +kernel
theorem dX5_plugAlong_79 : decode cX5_plugAlong 79 = .ok (.aload_n 0, 1) := by decide +kernel
theorem dX5_plugAlong_80 : decode cX5_plugAlong 80 = .ok (.getfield 24, 3) := by decide +kernel
theorem dX5_plugAlong_83 : decode cX5_plugAlong 83 = .ok (.iload 6, 2) := by decide +kernel
theorem dX5_plugAlong_85 : decode cX5_plugAlong 85 = .ok (.iaload, 1) := by decide +kernel
theorem dX5_plugAlong_86 : decode cX5_plugAlong 86 = .ok (.ifCond .eq 6, 3) := by decide +kernel
theorem dX5_plugAlong_89 : decode cX5_plugAlong 89 = .ok (.goto 57, 3) := by decide +kernel
theorem dX5_plugAlong_92 : decode cX5_plugAlong 92 = .ok (.iload_n 3, 1) := by decide +kernel
theorem dX5_plugAlong_93 : decode cX5_plugAlong 93 = .ok (.ifCond .le 50, 3) := by decide +kernel
theorem dX5_plugAlong_96 : decode cX5_plugAlong 96 = .ok (.iload_n 2, 1) := by decide +kernel
theorem dX5_plugAlong_97 : decode cX5_plugAlong 97 = .ok (.aload_n 0, 1) := by decide +kernel
theorem dX5_plugAlong_98 : decode cX5_plugAlong 98 = .ok (.getfield 18, 3) := by decide +kernel
theorem dX5_plugAlong_101 : decode cX5_plugAlong 101 = .ok (.iload 6, 2) := by decide +kernel
theorem dX5_plugAlong_103 : decode cX5_plugAlong 103 = .ok (.iaload, 1) := by decide +kernel
theorem dX5_plugAlong_104 : decode cX5_plugAlong 104 = .ok (.iand, 1) := by decide +kernel
theorem dX5_plugAlong_105 : decode cX5_plugAlong 105 = .ok (.ifCond .ne 38, 3) := by decide +kernel
theorem dX5_plugAlong_108 : decode cX5_plugAlong 108 = .ok (.aload_n 0, 1) := by decide +kernel
theorem dX5_plugAlong_109 : decode cX5_plugAlong 109 = .ok (.getfield 24, 3) := by decide +kernel
theorem dX5_plugAlong_112 : decode cX5_plugAlong 112 = .ok (.iload 6, 2) := by decide +kernel
theorem dX5_plugAlong_114 : decode cX5_plugAlong 114 = .ok (.iload_n 1, 1) := by decide +kernel
theorem dX5_plugAlong_115 : decode cX5_plugAlong 115 = .ok (.aload_n 0, 1) := by decide +kernel
theorem dX5_plugAlong_116 : decode cX5_plugAlong 116 = .ok (.getfield 27, 3) := by decide +kernel
theorem dX5_plugAlong_119 : decode cX5_plugAlong 119 = .ok (.getfield 85, 3) := by decide +kernel
theorem dX5_plugAlong_122 : decode cX5_plugAlong 122 = .ok (.iload 6, 2) := by decide +kernel
theorem dX5_plugAlong_124 : decode cX5_plugAlong 124 = .ok (.iaload, 1) := by decide +kernel
theorem dX5_plugAlong_125 : decode cX5_plugAlong 125 = .ok (.iadd, 1) := by decide +kernel
theorem dX5_plugAlong_126 : decode cX5_plugAlong 126 = .ok (.iastore, 1) := by decide +kernel
theorem dX5_plugAlong_127 : decode cX5_plugAlong 127 = .ok (.iload_n 2, 1) := by decide +kernel
theorem dX5_plugAlong_128 : decode cX5_plugAlong 128 = .ok (.aload_n 0, 1) := by decide +kernel
theorem dX5_plugAlong_129 : decode cX5_plugAlong 129 = .ok (.getfield 18, 3) := by decide +kernel
theorem dX5_plugAlong_132 : decode cX5_plugAlong 132 = .ok (.iload 6, 2) := by decide +kernel
theorem dX5_plugAlong_134 : decode cX5_plugAlong 134 = .ok (.iaload, 1) := by decide +kernel
theorem dX5_plugAlong_135 : decode cX5_plugAlong 135 = .ok (.ior, 1) := by decide +kernel
theorem dX5_plugAlong_136 : decode cX5_plugAlong 136 = .ok (.istore_n 2, 1) := by decide +kernel
theorem dX5_plugAlong_137 : decode cX5_plugAlong 137 = .ok (.iinc 3 (-1), 3) := by decide +kernel
theorem dX5_plugAlong_140 : decode cX5_plugAlong 140 = .ok (.goto 6, 3) := by decide +kernel
theorem dX5_plugAlong_143 : decode cX5_plugAlong 143 = .ok (.iinc 4 1, 3) := by decide +kernel
theorem dX5_plugAlong_146 : decode cX5_plugAlong 146 = .ok (.iinc 5 1, 3) := by decide +kernel
theorem dX5_plugAlong_149 : decode cX5_plugAlong 149 = .ok (.goto (-88), 3) := by decide +kernel
theorem dX5_plugAlong_152 : decode cX5_plugAlong 152 = .ok (.iload 4, 2) := by decide +kernel
theorem dX5_plugAlong_154 : decode cX5_plugAlong 154 = .ok (.ireturn, 1) := by decide +kernel
theorem dX5_nextEnd_0 : decode cX5_nextEnd 0 = .ok (.bipush 30, 2) := by decide +kernel
theorem dX5_nextEnd_2 : decode cX5_nextEnd 2 = .ok (.istore_n 2, 1) := by decide +kernel
theorem dX5_nextEnd_3 : decode cX5_nextEnd 3 = .ok (.iconst 0, 1) := by decide +kernel
theorem dX5_nextEnd_4 : decode cX5_nextEnd 4 = .ok (.istore_n 3, 1) := by decide +kernel
theorem dX5_nextEnd_5 : decode cX5_nextEnd 5 = .ok (.iload_n 3, 1) := by decide +kernel
theorem dX5_nextEnd_6 : decode cX5_nextEnd 6 = .ok (.aload_n 0, 1) := by decide +kernel
theorem dX5_nextEnd_7 : decode cX5_nextEnd 7 = .ok (.getfield 27, 3) := by decide +kernel
theorem dX5_nextEnd_10 : decode cX5_nextEnd 10 = .ok (.getfield 57, 3) := by decide +kernel
theorem dX5_nextEnd_13 : decode cX5_nextEnd 13 = .ok (.if_icmp .ge 36, 3) := by decide +kernel
theorem dX5_nextEnd_16 : decode cX5_nextEnd 16 = .ok (.aload_n 0, 1) := by decide +kernel
theorem dX5_nextEnd_17 : decode cX5_nextEnd 17 = .ok (.getfield 24, 3) := by decide +kernel
theorem dX5_nextEnd_20 : decode cX5_nextEnd 20 = .ok (.iload_n 3, 1) := by decide +kernel
theorem dX5_nextEnd_21 : decode cX5_nextEnd 21 = .ok (.iaload, 1) := by decide +kernel
theorem dX5_nextEnd_22 : decode cX5_nextEnd 22 = .ok (.iload_n 1, 1) := by decide +kernel
theorem dX5_nextEnd_23 : decode cX5_nextEnd 23 = .ok (.if_icmp .le 20, 3) := by decide +kernel
theorem dX5_nextEnd_26 : decode cX5_nextEnd 26 = .ok (.aload_n 0, 1) := by decide +kernel
theorem dX5_nextEnd_27 : decode cX5_nextEnd 27 = .ok (.getfield 24, 3) := by decide +kernel
theorem dX5_nextEnd_30 : decode cX5_nextEnd 30 = .ok (.iload_n 3, 1) := by decide +kernel
theorem dX5_nextEnd_31 : decode cX5_nextEnd 31 = .ok (.iaload, 1) := by decide +kernel
theorem dX5_nextEnd_32 : decode cX5_nextEnd 32 = .ok (.iload_n 2, 1) := by decide +kernel
theorem dX5_nextEnd_33 : decode cX5_nextEnd 33 = .ok (.if_icmp .ge 10, 3) := by decide +kernel
theorem dX5_nextEnd_36 : decode cX5_nextEnd 36 = .ok (.aload_n 0, 1) := by decide +kernel
theorem dX5_nextEnd_37 : decode cX5_nextEnd 37 = .ok (.getfield 24, 3) := by decide +kernel
theorem dX5_nextEnd_40 : decode cX5_nextEnd 40 = .ok (.iload_n 3, 1) := by decide +kernel
theorem dX5_nextEnd_41 : decode cX5_nextEnd 41 = .ok (.iaload, 1) := by decide +kernel
theorem dX5_nextEnd_42 : decode cX5_nextEnd 42 = .ok (.istore_n 2, 1) := by decide +kernel
theorem dX5_nextEnd_43 : decode cX5_nextEnd 43 = .ok (.iinc 3 1, 3) := by decide +kernel
theorem dX5_nextEnd_46 : decode cX5_nextEnd 46 = .ok (.goto (-41), 3) := by decide +kernel
theorem dX5_nextEnd_49 : decode cX5_nextEnd 49 = .ok (.iload_n 2, 1) := by decide +kernel
theorem dX5_nextEnd_50 : decode cX5_nextEnd 50 = .ok (.ireturn, 1) := by decide +kernel
theorem dX6_init_0 : decode cX6_init 0 = .ok (.aload_n 0, 1) := by decide +kernel
theorem dX6_init_1 : decode cX6_init 1 = .ok (.invokespecial 3, 3) := by decide +kernel
theorem dX6_init_4 : decode cX6_init 4 = .ok (.aload_n 0, 1) := by decide +kernel
theorem dX6_init_5 : decode cX6_init 5 = .ok (.bipush 6, 2) := by decide +kernel
theorem dX6_init_7 : decode cX6_init 7 = .ok (.newarray .int, 2) := by decide +kernel
theorem dX6_init_9 : decode cX6_init 9 = .ok (.putfield 9, 3) := by decide +kernel
theorem dX6_init_12 : decode cX6_init 12 = .ok (.aload_n 0, 1) := by decide +kernel
theorem dX6_init_13 : decode cX6_init 13 = .ok (.bipush 7, 2) := by decide +kernel
theorem dX6_init_15 : decode cX6_init 15 = .ok (.newarray .int, 2) := by decide +kernel
theorem dX6_init_17 : decode cX6_init 17 = .ok (.putfield 15, 3) := by decide +kernel
theorem dX6_init_20 : decode cX6_init 20 = .ok (.aload_n 0, 1) := by decide +kernel
theorem dX6_init_21 : decode cX6_init 21 = .ok (.bipush 7, 2) := by decide +kernel
theorem dX6_init_23 : decode cX6_init 23 = .ok (.newarray .int, 2) := by decide +kernel
theorem dX6_init_25 : decode cX6_init 25 = .ok (.putfield 18, 3) := by decide +kernel
theorem dX6_init_28 : decode cX6_init 28 = .ok (.aload_n 0, 1) := by decide +kernel
theorem dX6_init_29 : decode cX6_init 29 = .ok (.bipush 7, 2) := by decide +kernel
theorem dX6_init_31 : decode cX6_init 31 = .ok (.newarray .int, 2) := by decide +kernel
theorem dX6_init_33 : decode cX6_init 33 = .ok (.putfield 21, 3) := by decide +kernel
theorem dX6_init_36 : decode cX6_init 36 = .ok (.aload_n 0, 1) := by decide +kernel
theorem dX6_init_37 : decode cX6_init 37 = .ok (.bipush 7, 2) := by decide +kernel
theorem dX6_init_39 : decode cX6_init 39 = .ok (.newarray .int, 2) := by decide +kernel
theorem dX6_init_41 : decode cX6_init 41 = .ok (.putfield 24, 3) := by decide +kernel
theorem dX6_init_44 : decode cX6_init 44 = .ok (.aload_n 0, 1) := by decide +kernel
theorem dX6_init_45 : decode cX6_init 45 = .ok (.bipush 7, 2) := by decide +kernel
theorem dX6_init_47 : decode cX6_init 47 = .ok (.newarray .int, 2) := by decide +kernel
theorem dX6_init_49 : decode cX6_init 49 = .ok (.putfield 27, 3) := by decide +kernel
theorem dX6_init_52 : decode cX6_init 52 = .ok (.aload_n 0, 1) := by decide +kernel
theorem dX6_init_53 : decode cX6_init 53 = .ok (.invokevirtual 30, 3) := by decide +kernel
theorem dX6_init_56 : decode cX6_init 56 = .ok (.return_, 1) := by decide +kernel
theorem dX6_asAtFirst_0 : decode cX6_asAtFirst 0 = .ok (.aload_n 0, 1) := by decide +kernel
theorem dX6_asAtFirst_1 : decode cX6_asAtFirst 1 = .ok (.iconst 2, 1) := by decide +kernel
theorem dX6_asAtFirst_2 : decode cX6_asAtFirst 2 = .ok (.putfield 33, 3) := by decide +kernel
theorem dX6_asAtFirst_5 : decode cX6_asAtFirst 5 = .ok (.aload_n 0, 1) := by decide +kernel
theorem dX6_asAtFirst_6 : decode cX6_asAtFirst 6 = .ok (.iconst 1, 1) := by decide +kernel
theorem dX6_asAtFirst_7 : decode cX6_asAtFirst 7 = .ok (.putfield 37, 3) := by decide +kernel
theorem dX6_asAtFirst_10 : decode cX6_asAtFirst 10 = .ok (.aload_n 0, 1) := by decide +kernel
theorem dX6_asAtFirst_11 : decode cX6_asAtFirst 11 = .ok (.iconst 0, 1) := by decide +kernel
theorem dX6_asAtFirst_12 : decode cX6_asAtFirst 12 = .ok (.putfield 40, 3) := by decide +kernel
theorem dX6_asAtFirst_15 : decode cX6_asAtFirst 15 = .ok (.iconst 0, 1) := by decide +kernel
theorem dX6_asAtFirst_16 : decode cX6_asAtFirst 16 = .ok (.istore_n 1, 1) := by decide +kernel
theorem dX6_asAtFirst_17 : decode cX6_asAtFirst 17 = .ok (.iload_n 1, 1) := by decide +kernel
theorem dX6_asAtFirst_18 : decode cX6_asAtFirst 18 = .ok (.bipush 6, 2) := by decide +kernel
theorem dX6_asAtFirst_20 : decode cX6_asAtFirst 20 = .ok (.if_icmp .ge 16, 3) := by decide +kernel
theorem dX6_asAtFirst_23 : decode cX6_asAtFirst 23 = .ok (.aload_n 0, 1) := by decide +kernel
theorem dX6_asAtFirst_24 : decode cX6_asAtFirst 24 = .ok (.getfield 9, 3) := by decide +kernel
theorem dX6_asAtFirst_27 : decode cX6_asAtFirst 27 = .ok (.iload_n 1, 1) := by decide +kernel
theorem dX6_asAtFirst_28 : decode cX6_asAtFirst 28 = .ok (.iload_n 1, 1) := by decide +kernel
theorem dX6_asAtFirst_29 : decode cX6_asAtFirst 29 = .ok (.iastore, 1) := by decide +kernel
theorem dX6_asAtFirst_30 : decode cX6_asAtFirst 30 = .ok (.iinc 1 1, 3) := by decide +kernel
theorem dX6_asAtFirst_33 : decode cX6_asAtFirst 33 = .ok (.goto (-16), 3) := by decide +kernel
theorem dX6_asAtFirst_36 : decode cX6_asAtFirst 36 = .ok (.return_, 1) := by decide +kernel
theorem dX6_hasLine_0 : decode cX6_hasLine 0 = .ok (.iload_n 1, 1) := by decide +kernel
theorem dX6_hasLine_1 : decode cX6_hasLine 1 = .ok (.ifCond .lt 15, 3) := by decide +kernel
theorem dX6_hasLine_4 : decode cX6_hasLine 4 = .ok (.iload_n 1, 1) := by decide +kernel
theorem dX6_hasLine_5 : decode cX6_hasLine 5 = .ok (.aload_n 0, 1) := by decide +kernel
theorem dX6_hasLine_6 : decode cX6_hasLine 6 = .ok (.getfield 33, 3) := by decide +kernel
theorem dX6_hasLine_9 : decode cX6_hasLine 9 = .ok (.if_icmp .ge 7, 3) := by decide +kernel
theorem dX6_hasLine_12 : decode cX6_hasLine 12 = .ok (.iconst 1, 1) := by decide +kernel
theorem dX6_hasLine_13 : decode cX6_hasLine 13 = .ok (.goto 4, 3) := by decide +kernel
theorem dX6_hasLine_16 : decode cX6_hasLine 16 = .ok (.iconst 0, 1) := by decide +kernel
theorem dX6_hasLine_17 : decode cX6_hasLine 17 = .ok (.ireturn, 1) := by decide +kernel
theorem dX6_hasCall_0 : decode cX6_hasCall 0 = .ok (.iload_n 1, 1) := by decide +kernel
theorem dX6_hasCall_1 : decode cX6_hasCall 1 = .ok (.ifCond .lt 15, 3) := by decide +kernel
theorem dX6_hasCall_4 : decode cX6_hasCall 4 = .ok (.iload_n 1, 1) := by decide +kernel
theorem dX6_hasCall_5 : decode cX6_hasCall 5 = .ok (.aload_n 0, 1) := by decide +kernel
theorem dX6_hasCall_6 : decode cX6_hasCall 6 = .ok (.getfield 40, 3) := by decide +kernel
theorem dX6_hasCall_9 : decode cX6_hasCall 9 = .ok (.if_icmp .ge 7, 3) := by decide +kernel
theorem dX6_hasCall_12 : decode cX6_hasCall 12 = .ok (.iconst 1, 1) := by decide +kernel
theorem dX6_hasCall_13 : decode cX6_hasCall 13 = .ok (.goto 4, 3) := by decide +kernel
theorem dX6_hasCall_16 : decode cX6_hasCall 16 = .ok (.iconst 0, 1) := by decide +kernel
theorem dX6_hasCall_17 : decode cX6_hasCall 17 = .ok (.ireturn, 1) := by decide +kernel
theorem dX6_giveHole_0 : decode cX6_giveHole 0 = .ok (.iconst 0, 1) := by decide +kernel
theorem dX6_giveHole_1 : decode cX6_giveHole 1 = .ok (.istore_n 3, 1) := by decide +kernel
theorem dX6_giveHole_2 : decode cX6_giveHole 2 = .ok (.iload_n 3, 1) := by decide +kernel
theorem dX6_giveHole_3 : decode cX6_giveHole 3 = .ok (.aload_n 0, 1) := by decide +kernel
theorem dX6_giveHole_4 : decode cX6_giveHole 4 = .ok (.getfield 33, 3) := by decide +kernel
theorem dX6_giveHole_7 : decode cX6_giveHole 7 = .ok (.if_icmp .ge 31, 3) := by decide +kernel
theorem dX6_giveHole_10 : decode cX6_giveHole 10 = .ok (.aload_n 0, 1) := by decide +kernel
theorem dX6_giveHole_11 : decode cX6_giveHole 11 = .ok (.getfield 9, 3) := by decide +kernel
theorem dX6_giveHole_14 : decode cX6_giveHole 14 = .ok (.iload_n 3, 1) := by decide +kernel
theorem dX6_giveHole_15 : decode cX6_giveHole 15 = .ok (.iaload, 1) := by decide +kernel
theorem dX6_giveHole_16 : decode cX6_giveHole 16 = .ok (.iload_n 2, 1) := by decide +kernel
theorem dX6_giveHole_17 : decode cX6_giveHole 17 = .ok (.if_icmp .ne 15, 3) := by decide +kernel
theorem dX6_giveHole_20 : decode cX6_giveHole 20 = .ok (.aload_n 0, 1) := by decide +kernel
theorem dX6_giveHole_21 : decode cX6_giveHole 21 = .ok (.getfield 9, 3) := by decide +kernel
theorem dX6_giveHole_24 : decode cX6_giveHole 24 = .ok (.iload_n 3, 1) := by decide +kernel
theorem dX6_giveHole_25 : decode cX6_giveHole 25 = .ok (.aload_n 0, 1) := by decide +kernel
theorem dX6_giveHole_26 : decode cX6_giveHole 26 = .ok (.getfield 9, 3) := by decide +kernel
theorem dX6_giveHole_29 : decode cX6_giveHole 29 = .ok (.iload_n 1, 1) := by decide +kernel
theorem dX6_giveHole_30 : decode cX6_giveHole 30 = .ok (.iaload, 1) := by decide +kernel
theorem dX6_giveHole_31 : decode cX6_giveHole 31 = .ok (.iastore, 1) := by decide +kernel
theorem dX6_giveHole_32 : decode cX6_giveHole 32 = .ok (.iinc 3 1, 3) := by decide +kernel
theorem dX6_giveHole_35 : decode cX6_giveHole 35 = .ok (.goto (-33), 3) := by decide +kernel
theorem dX6_giveHole_38 : decode cX6_giveHole 38 = .ok (.aload_n 0, 1) := by decide +kernel
theorem dX6_giveHole_39 : decode cX6_giveHole 39 = .ok (.getfield 9, 3) := by decide +kernel
theorem dX6_giveHole_42 : decode cX6_giveHole 42 = .ok (.iload_n 1, 1) := by decide +kernel
theorem dX6_giveHole_43 : decode cX6_giveHole 43 = .ok (.iload_n 2, 1) := by decide +kernel
theorem dX6_giveHole_44 : decode cX6_giveHole 44 = .ok (.iastore, 1) := by decide +kernel
theorem dX6_giveHole_45 : decode cX6_giveHole 45 = .ok (.return_, 1) := by decide +kernel
theorem dX6_shareLine_0 : decode cX6_shareLine 0 = .ok (.aload_n 0, 1) := by decide +kernel
theorem dX6_shareLine_1 : decode cX6_shareLine 1 = .ok (.getfield 18, 3) := by decide +kernel
theorem dX6_shareLine_4 : decode cX6_shareLine 4 = .ok (.iload_n 1, 1) := by decide +kernel
theorem dX6_shareLine_5 : decode cX6_shareLine 5 = .ok (.iaload, 1) := by decide +kernel
theorem dX6_shareLine_6 : decode cX6_shareLine 6 = .ok (.aload_n 0, 1) := by decide +kernel
theorem dX6_shareLine_7 : decode cX6_shareLine 7 = .ok (.getfield 18, 3) := by decide +kernel
theorem dX6_shareLine_10 : decode cX6_shareLine 10 = .ok (.iload_n 2, 1) := by decide +kernel
theorem dX6_shareLine_11 : decode cX6_shareLine 11 = .ok (.iaload, 1) := by decide +kernel
theorem dX6_shareLine_12 : decode cX6_shareLine 12 = .ok (.if_icmp .eq 48, 3) := by decide +kernel
theorem dX6_shareLine_15 : decode cX6_shareLine 15 = .ok (.aload_n 0, 1) := by decide +kernel
theorem dX6_shareLine_16 : decode cX6_shareLine 16 = .ok (.getfield 18, 3) := by decide +kernel
theorem dX6_shareLine_19 : decode cX6_shareLine 19 = .ok (.iload_n 1, 1) := by decide +kernel
theorem dX6_shareLine_20 : decode cX6_shareLine 20 = .ok (.iaload, 1) := by decide +kernel
theorem dX6_shareLine_21 : decode cX6_shareLine 21 = .ok (.aload_n 0, 1) := by decide +kernel
theorem dX6_shareLine_22 : decode cX6_shareLine 22 = .ok (.getfield 21, 3) := by decide +kernel
theorem dX6_shareLine_25 : decode cX6_shareLine 25 = .ok (.iload_n 2, 1) := by decide +kernel
theorem dX6_shareLine_26 : decode cX6_shareLine 26 = .ok (.iaload, 1) := by decide +kernel
theorem dX6_shareLine_27 : decode cX6_shareLine 27 = .ok (.if_icmp .eq 33, 3) := by decide +kernel
theorem dX6_shareLine_30 : decode cX6_shareLine 30 = .ok (.aload_n 0, 1) := by decide +kernel
theorem dX6_shareLine_31 : decode cX6_shareLine 31 = .ok (.getfield 21, 3) := by decide +kernel
theorem dX6_shareLine_34 : decode cX6_shareLine 34 = .ok (.iload_n 1, 1) := by decide +kernel
theorem dX6_shareLine_35 : decode cX6_shareLine 35 = .ok (.iaload, 1) := by decide +kernel
theorem dX6_shareLine_36 : decode cX6_shareLine 36 = .ok (.aload_n 0, 1) := by decide +kernel
theorem dX6_shareLine_37 : decode cX6_shareLine 37 = .ok (.getfield 18, 3) := by decide +kernel
theorem dX6_shareLine_40 : decode cX6_shareLine 40 = .ok (.iload_n 2, 1) := by decide +kernel
theorem dX6_shareLine_41 : decode cX6_shareLine 41 = .ok (.iaload, 1) := by decide +kernel
theorem dX6_shareLine_42 : decode cX6_shareLine 42 = .ok (.if_icmp .eq 18, 3) := by decide +kernel
theorem dX6_shareLine_45 : decode cX6_shareLine 45 = .ok (.aload_n 0, 1) := by decide +kernel
theorem dX6_shareLine_46 : decode cX6_shareLine 46 = .ok (.getfield 21, 3) := by decide +kernel
theorem dX6_shareLine_49 : decode cX6_shareLine 49 = .ok (.iload_n 1, 1) := by decide +kernel
theorem dX6_shareLine_50 : decode cX6_shareLine 50 = .ok (.iaload, 1) := by decide +kernel
theorem dX6_shareLine_51 : decode cX6_shareLine 51 = .ok (.aload_n 0, 1) := by decide +kernel
theorem dX6_shareLine_52 : decode cX6_shareLine 52 = .ok (.getfield 21, 3) := by decide +kernel
theorem dX6_shareLine_55 : decode cX6_shareLine 55 = .ok (.iload_n 2, 1) := by decide +kernel
theorem dX6_shareLine_56 : decode cX6_shareLine 56 = .ok (.iaload, 1) := by decide +kernel
theorem dX6_shareLine_57 : decode cX6_shareLine 57 = .ok (.if_icmp .ne 7, 3) := by decide +kernel
theorem dX6_shareLine_60 : decode cX6_shareLine 60 = .ok (.iconst 1, 1) := by decide +kernel
theorem dX6_shareLine_61 : decode cX6_shareLine 61 = .ok (.goto 4, 3) := by decide +kernel
theorem dX6_shareLine_64 : decode cX6_shareLine 64 = .ok (.iconst 0, 1) := by decide +kernel
theorem dX6_shareLine_65 : decode cX6_shareLine 65 = .ok (.ireturn, 1) := by decide +kernel
theorem dX6_fallingAt_0 : decode cX6_fallingAt 0 = .ok (.iconst 0, 1) := by decide +kernel
theorem dX6_fallingAt_1 : decode cX6_fallingAt 1 = .ok (.istore_n 2, 1) := by decide +kernel
theorem dX6_fallingAt_2 : decode cX6_fallingAt 2 = .ok (.iconst 0, 1) := by decide +kernel
theorem dX6_fallingAt_3 : decode cX6_fallingAt 3 = .ok (.istore_n 3, 1) := by decide +kernel
theorem dX6_fallingAt_4 : decode cX6_fallingAt 4 = .ok (.iload_n 3, 1) := by decide +kernel
theorem dX6_fallingAt_5 : decode cX6_fallingAt 5 = .ok (.aload_n 0, 1) := by decide +kernel
theorem dX6_fallingAt_6 : decode cX6_fallingAt 6 = .ok (.getfield 40, 3) := by decide +kernel
theorem dX6_fallingAt_9 : decode cX6_fallingAt 9 = .ok (.if_icmp .ge 22, 3) := by decide +kernel
theorem dX6_fallingAt_12 : decode cX6_fallingAt 12 = .ok (.aload_n 0, 1) := by decide +kernel
theorem dX6_fallingAt_13 : decode cX6_fallingAt 13 = .ok (.getfield 15, 3) := by decide +kernel
theorem dX6_fallingAt_16 : decode cX6_fallingAt 16 = .ok (.iload_n 3, 1) := by decide +kernel
theorem dX6_fallingAt_17 : decode cX6_fallingAt 17 = .ok (.iaload, 1) := by decide +kernel
theorem dX6_fallingAt_18 : decode cX6_fallingAt 18 = .ok (.iload_n 1, 1) := by decide +kernel
theorem dX6_fallingAt_19 : decode cX6_fallingAt 19 = .ok (.if_icmp .ne 6, 3) := by decide +kernel
theorem dX6_fallingAt_22 : decode cX6_fallingAt 22 = .ok (.iinc 2 1, 3) := by decide +kernel
theorem dX6_fallingAt_25 : decode cX6_fallingAt 25 = .ok (.iinc 3 1, 3) := by decide +kernel
theorem dX6_fallingAt_28 : decode cX6_fallingAt 28 = .ok (.goto (-24), 3) := by decide +kernel
theorem dX6_fallingAt_31 : decode cX6_fallingAt 31 = .ok (.iload_n 2, 1) := by decide +kernel
theorem dX6_fallingAt_32 : decode cX6_fallingAt 32 = .ok (.ireturn, 1) := by decide +kernel
theorem dX6_apart_0 : decode cX6_apart 0 = .ok (.aload_n 2, 1) := by decide +kernel
theorem dX6_apart_1 : decode cX6_apart 1 = .ok (.aload_n 0, 1) := by decide +kernel
theorem dX6_apart_2 : decode cX6_apart 2 = .ok (.getfield 18, 3) := by decide +kernel
theorem dX6_apart_5 : decode cX6_apart 5 = .ok (.iload_n 1, 1) := by decide +kernel
theorem dX6_apart_6 : decode cX6_apart 6 = .ok (.iaload, 1) := by decide +kernel
theorem dX6_apart_7 : decode cX6_apart 7 = .ok (.iaload, 1) := by decide +kernel
theorem dX6_apart_8 : decode cX6_apart 8 = .ok (.aload_n 2, 1) := by decide +kernel
theorem dX6_apart_9 : decode cX6_apart 9 = .ok (.aload_n 0, 1) := by decide +kernel
theorem dX6_apart_10 : decode cX6_apart 10 = .ok (.getfield 21, 3) := by decide +kernel
theorem dX6_apart_13 : decode cX6_apart 13 = .ok (.iload_n 1, 1) := by decide +kernel
theorem dX6_apart_14 : decode cX6_apart 14 = .ok (.iaload, 1) := by decide +kernel
theorem dX6_apart_15 : decode cX6_apart 15 = .ok (.iaload, 1) := by decide +kernel
theorem dX6_apart_16 : decode cX6_apart 16 = .ok (.isub, 1) := by decide +kernel
theorem dX6_apart_17 : decode cX6_apart 17 = .ok (.invokestatic 43, 3) := by decide +kernel
theorem dX6_apart_20 : decode cX6_apart 20 = .ok (.ireturn, 1) := by decide +kernel
theorem dX6_become_0 : decode cX6_become 0 = .ok (.aload_n 0, 1) := by decide +kernel
theorem dX6_become_1 : decode cX6_become 1 = .ok (.aload_n 1, 1) := by decide +kernel
theorem dX6_become_2 : decode cX6_become 2 = .ok (.getfield 33, 3) := by decide +kernel
theorem dX6_become_5 : decode cX6_become 5 = .ok (.putfield 33, 3) := by decide +kernel
theorem dX6_become_8 : decode cX6_become 8 = .ok (.aload_n 0, 1) := by decide +kernel
theorem dX6_become_9 : decode cX6_become 9 = .ok (.aload_n 1, 1) := by decide +kernel
theorem dX6_become_10 : decode cX6_become 10 = .ok (.getfield 37, 3) := by decide +kernel
theorem dX6_become_13 : decode cX6_become 13 = .ok (.putfield 37, 3) := by decide +kernel
theorem dX6_become_16 : decode cX6_become 16 = .ok (.aload_n 0, 1) := by decide +kernel
theorem dX6_become_17 : decode cX6_become 17 = .ok (.aload_n 1, 1) := by decide +kernel
theorem dX6_become_18 : decode cX6_become 18 = .ok (.getfield 40, 3) := by decide +kernel
theorem dX6_become_21 : decode cX6_become 21 = .ok (.putfield 40, 3) := by decide +kernel
theorem dX6_become_24 : decode cX6_become 24 = .ok (.aload_n 1, 1) := by decide +kernel
theorem dX6_become_25 : decode cX6_become 25 = .ok (.getfield 9, 3) := by decide +kernel
theorem dX6_become_28 : decode cX6_become 28 = .ok (.iconst 0, 1) := by decide +kernel
theorem dX6_become_29 : decode cX6_become 29 = .ok (.aload_n 0, 1) := by decide +kernel
theorem dX6_become_30 : decode cX6_become 30 = .ok (.getfield 9, 3) := by decide +kernel
theorem dX6_become_33 : decode cX6_become 33 = .ok (.iconst 0, 1) := by decide +kernel
theorem dX6_become_34 : decode cX6_become 34 = .ok (.bipush 6, 2) := by decide +kernel
theorem dX6_become_36 : decode cX6_become 36 = .ok (.invokestatic 49, 3) := by decide +kernel
theorem dX6_become_39 : decode cX6_become 39 = .ok (.aload_n 1, 1) := by decide +kernel
theorem dX6_become_40 : decode cX6_become 40 = .ok (.getfield 15, 3) := by decide +kernel
theorem dX6_become_43 : decode cX6_become 43 = .ok (.iconst 0, 1) := by decide +kernel
theorem dX6_become_44 : decode cX6_become 44 = .ok (.aload_n 0, 1) := by decide +kernel
theorem dX6_become_45 : decode cX6_become 45 = .ok (.getfield 15, 3) := by decide +kernel
theorem dX6_become_48 : decode cX6_become 48 = .ok (.iconst 0, 1) := by decide +kernel
theorem dX6_become_49 : decode cX6_become 49 = .ok (.bipush 7, 2) := by decide +kernel
theorem dX6_become_51 : decode cX6_become 51 = .ok (.invokestatic 49, 3) := by decide +kernel
theorem dX6_become_54 : decode cX6_become 54 = .ok (.aload_n 1, 1) := by decide +kernel
theorem dX6_become_55 : decode cX6_become 55 = .ok (.getfield 18, 3) := by decide +kernel
theorem dX6_become_58 : decode cX6_become 58 = .ok (.iconst 0, 1) := by decide +kernel
theorem dX6_become_59 : decode cX6_become 59 = .ok (.aload_n 0, 1) := by decide +kernel
theorem dX6_become_60 : decode cX6_become 60 = .ok (.getfield 18, 3) := by decide +kernel
theorem dX6_become_63 : decode cX6_become 63 = .ok (.iconst 0, 1) := by decide +kernel
theorem dX6_become_64 : decode cX6_become 64 = .ok (.bipush 7, 2) := by decide +kernel
theorem dX6_become_66 : decode cX6_become 66 = .ok (.invokestatic 49, 3) := by decide +kernel
theorem dX6_become_69 : decode cX6_become 69 = .ok (.aload_n 1, 1) := by decide +kernel
theorem dX6_become_70 : decode cX6_become 70 = .ok (.getfield 21, 3) := by decide +kernel
theorem dX6_become_73 : decode cX6_become 73 = .ok (.iconst 0, 1) := by decide +kernel
theorem dX6_become_74 : decode cX6_become 74 = .ok (.aload_n 0, 1) := by decide +kernel
theorem dX6_become_75 : decode cX6_become 75 = .ok (.getfield 21, 3) := by decide +kernel
theorem dX6_become_78 : decode cX6_become 78 = .ok (.iconst 0, 1) := by decide +kernel
theorem dX6_become_79 : decode cX6_become 79 = .ok (.bipush 7, 2) := by decide +kernel
theorem dX6_become_81 : decode cX6_become 81 = .ok (.invokestatic 49, 3) := by decide +kernel
theorem dX6_become_84 : decode cX6_become 84 = .ok (.aload_n 1, 1) := by decide +kernel
theorem dX6_become_85 : decode cX6_become 85 = .ok (.getfield 24, 3) := by decide +kernel
theorem dX6_become_88 : decode cX6_become 88 = .ok (.iconst 0, 1) := by decide +kernel
theorem dX6_become_89 : decode cX6_become 89 = .ok (.aload_n 0, 1) := by decide +kernel
theorem dX6_become_90 : decode cX6_become 90 = .ok (.getfield 24, 3) := by decide +kernel
theorem dX6_become_93 : decode cX6_become 93 = .ok (.iconst 0, 1) := by decide +kernel
theorem dX6_become_94 : decode cX6_become 94 = .ok (.bipush 7, 2) := by decide +kernel
theorem dX6_become_96 : decode cX6_become 96 = .ok (.invokestatic 49, 3) := by decide +kernel
theorem dX6_become_99 : decode cX6_become 99 = .ok (.aload_n 1, 1) := by decide +kernel
theorem dX6_become_100 : decode cX6_become 100 = .ok (.getfield 27, 3) := by decide +kernel
theorem dX6_become_103 : decode cX6_become 103 = .ok (.iconst 0, 1) := by decide +kernel
theorem dX6_become_104 : decode cX6_become 104 = .ok (.aload_n 0, 1) := by decide +kernel
theorem dX6_become_105 : decode cX6_become 105 = .ok (.getfield 27, 3) := by decide +kernel
theorem dX6_become_108 : decode cX6_become 108 = .ok (.iconst 0, 1) := by decide +kernel
theorem dX6_become_109 : decode cX6_become 109 = .ok (.bipush 7, 2) := by decide +kernel
theorem dX6_become_111 : decode cX6_become 111 = .ok (.invokestatic 49, 3) := by decide +kernel
theorem dX6_become_114 : decode cX6_become 114 = .ok (.return_, 1) := by decide +kernel
theorem dX7_init_0 : decode cX7_init 0 = .ok (.aload_n 0, 1) := by decide +kernel
theorem dX7_init_1 : decode cX7_init 1 = .ok (.invokespecial 1, 3) := by decide +kernel
theorem dX7_init_4 : decode cX7_init 4 = .ok (.aload_n 0, 1) := by decide +kernel
theorem dX7_init_5 : decode cX7_init 5 = .ok (.sipush 200, 3) := by decide +kernel
theorem dX7_init_8 : decode cX7_init 8 = .ok (.newarray .int, 2) := by decide +kernel
theorem dX7_init_10 : decode cX7_init 10 = .ok (.putfield 9, 3) := by decide +kernel
theorem dX7_init_13 : decode cX7_init 13 = .ok (.aload_n 0, 1) := by decide +kernel
theorem dX7_init_14 : decode cX7_init 14 = .ok (.new 13, 3) := by decide +kernel
theorem dX7_init_17 : decode cX7_init 17 = .ok (.dup, 1) := by decide +kernel
theorem dX7_init_18 : decode cX7_init 18 = .ok (.invokespecial 15, 3) := by decide +kernel
theorem dX7_init_21 : decode cX7_init 21 = .ok (.putfield 16, 3) := by decide +kernel
theorem dX7_init_24 : decode cX7_init 24 = .ok (.aload_n 0, 1) := by decide +kernel
theorem dX7_init_25 : decode cX7_init 25 = .ok (.new 20, 3) := by decide +kernel
theorem dX7_init_28 : decode cX7_init 28 = .ok (.dup, 1) := by decide +kernel
theorem dX7_init_29 : decode cX7_init 29 = .ok (.aload_n 0, 1) := by decide +kernel
theorem dX7_init_30 : decode cX7_init 30 = .ok (.getfield 9, 3) := by decide +kernel
theorem dX7_init_33 : decode cX7_init 33 = .ok (.invokespecial 22, 3) := by decide +kernel
theorem dX7_init_36 : decode cX7_init 36 = .ok (.putfield 25, 3) := by decide +kernel
theorem dX7_init_39 : decode cX7_init 39 = .ok (.aload_n 0, 1) := by decide +kernel
theorem dX7_init_40 : decode cX7_init 40 = .ok (.new 29, 3) := by decide +kernel
theorem dX7_init_43 : decode cX7_init 43 = .ok (.dup, 1) := by decide +kernel
theorem dX7_init_44 : decode cX7_init 44 = .ok (.aload_n 0, 1) := by decide +kernel
theorem dX7_init_45 : decode cX7_init 45 = .ok (.getfield 16, 3) := by decide +kernel
theorem dX7_init_48 : decode cX7_init 48 = .ok (.invokespecial 31, 3) := by decide +kernel
theorem dX7_init_51 : decode cX7_init 51 = .ok (.putfield 34, 3) := by decide +kernel
theorem dX7_init_54 : decode cX7_init 54 = .ok (.aload_n 0, 1) := by decide +kernel
theorem dX7_init_55 : decode cX7_init 55 = .ok (.new 38, 3) := by decide +kernel
theorem dX7_init_58 : decode cX7_init 58 = .ok (.dup, 1) := by decide +kernel
theorem dX7_init_59 : decode cX7_init 59 = .ok (.invokespecial 40, 3) := by decide +kernel
theorem dX7_init_62 : decode cX7_init 62 = .ok (.putfield 41, 3) := by decide +kernel
theorem dX7_init_65 : decode cX7_init 65 = .ok (.aload_n 0, 1) := by decide +kernel
theorem dX7_init_66 : decode cX7_init 66 = .ok (.bipush 56, 2) := by decide +kernel
theorem dX7_init_68 : decode cX7_init 68 = .ok (.newarray .int, 2) := by decide +kernel
theorem dX7_init_70 : decode cX7_init 70 = .ok (.putfield 45, 3) := by decide +kernel
theorem dX7_init_73 : decode cX7_init 73 = .ok (.aload_n 0, 1) := by decide +kernel
theorem dX7_init_74 : decode cX7_init 74 = .ok (.iconst 2, 1) := by decide +kernel
theorem dX7_init_75 : decode cX7_init 75 = .ok (.newarray .boolean, 2) := by decide +kernel
theorem dX7_init_77 : decode cX7_init 77 = .ok (.putfield 48, 3) := by decide +kernel
theorem dX7_init_80 : decode cX7_init 80 = .ok (.aload_n 0, 1) := by decide +kernel
theorem dX7_init_81 : decode cX7_init 81 = .ok (.new 52, 3) := by decide +kernel
theorem dX7_init_84 : decode cX7_init 84 = .ok (.dup, 1) := by decide +kernel
theorem dX7_init_85 : decode cX7_init 85 = .ok (.aload_n 0, 1) := by decide +kernel
theorem dX7_init_86 : decode cX7_init 86 = .ok (.getfield 16, 3) := by decide +kernel
theorem dX7_init_89 : decode cX7_init 89 = .ok (.invokespecial 54, 3) := by decide +kernel
theorem dX7_init_92 : decode cX7_init 92 = .ok (.putfield 55, 3) := by decide +kernel
theorem dX7_init_95 : decode cX7_init 95 = .ok (.aload_n 0, 1) := by decide +kernel
theorem dX7_init_96 : decode cX7_init 96 = .ok (.new 59, 3) := by decide +kernel
theorem dX7_init_99 : decode cX7_init 99 = .ok (.dup, 1) := by decide +kernel
theorem dX7_init_100 : decode cX7_init 100 = .ok (.aload_n 0, 1) := by decide +kernel
theorem dX7_init_101 : decode cX7_init 101 = .ok (.getfield 16, 3) := by decide +kernel
theorem dX7_init_104 : decode cX7_init 104 = .ok (.invokespecial 61, 3) := by decide +kernel
theorem dX7_init_107 : decode cX7_init 107 = .ok (.putfield 62, 3) := by decide +kernel
theorem dX7_init_110 : decode cX7_init 110 = .ok (.aload_n 0, 1) := by decide +kernel
theorem dX7_init_111 : decode cX7_init 111 = .ok (.new 66, 3) := by decide +kernel
theorem dX7_init_114 : decode cX7_init 114 = .ok (.dup, 1) := by decide +kernel
theorem dX7_init_115 : decode cX7_init 115 = .ok (.aload_n 0, 1) := by decide +kernel
theorem dX7_init_116 : decode cX7_init 116 = .ok (.getfield 16, 3) := by decide +kernel
theorem dX7_init_119 : decode cX7_init 119 = .ok (.invokespecial 68, 3) := by decide +kernel
theorem dX7_init_122 : decode cX7_init 122 = .ok (.putfield 69, 3) := by decide +kernel
theorem dX7_init_125 : decode cX7_init 125 = .ok (.aload_n 0, 1) := by decide +kernel
theorem dX7_init_126 : decode cX7_init 126 = .ok (.iconst 0, 1) := by decide +kernel
theorem dX7_init_127 : decode cX7_init 127 = .ok (.putfield 73, 3) := by decide +kernel
theorem dX7_init_130 : decode cX7_init 130 = .ok (.aload_n 0, 1) := by decide +kernel
theorem dX7_init_131 : decode cX7_init 131 = .ok (.lconst 0, 1) := by decide +kernel
theorem dX7_init_132 : decode cX7_init 132 = .ok (.putfield 77, 3) := by decide +kernel
theorem dX7_init_135 : decode cX7_init 135 = .ok (.aload_n 0, 1) := by decide +kernel
theorem dX7_init_136 : decode cX7_init 136 = .ok (.getfield 34, 3) := by decide +kernel
theorem dX7_init_139 : decode cX7_init 139 = .ok (.invokevirtual 81, 3) := by decide +kernel
theorem dX7_init_142 : decode cX7_init 142 = .ok (.return_, 1) := by decide +kernel
theorem dX7_type_0 : decode cX7_type 0 = .ok (.iload_n 1, 1) := by decide +kernel
theorem dX7_type_1 : decode cX7_type 1 = .ok (.ifCond .lt 10, 3) := by decide +kernel
theorem dX7_type_4 : decode cX7_type 4 = .ok (.iload_n 1, 1) := by decide +kernel
theorem dX7_type_5 : decode cX7_type 5 = .ok (.sipush 255, 3) := by decide +kernel
theorem dX7_type_8 : decode cX7_type 8 = .ok (.if_icmp .le 5, 3) := by decide +kernel
theorem dX7_type_11 : decode cX7_type 11 = .ok (.iconst (-1), 1) := by decide +kernel
theorem dX7_type_12 : decode cX7_type 12 = .ok (.ireturn, 1) := by decide +kernel
theorem dX7_type_13 : decode cX7_type 13 = .ok (.aload_n 0, 1) := by decide +kernel
theorem dX7_type_14 : decode cX7_type 14 = .ok (.getfield 73, 3) := by decide +kernel
theorem dX7_type_17 : decode cX7_type 17 = .ok (.sipush 200, 3) := by decide +kernel
theorem dX7_type_20 : decode cX7_type 20 = .ok (.if_icmp .lt 6, 3) := by decide +kernel
theorem dX7_type_23 : decode cX7_type 23 = .ok (.bipush (-3), 2) := by decide +kernel
theorem dX7_type_25 : decode cX7_type 25 = .ok (.ireturn, 1) := by decide +kernel
theorem dX7_type_26 : decode cX7_type 26 = .ok (.aload_n 0, 1) := by decide +kernel
theorem dX7_type_27 : decode cX7_type 27 = .ok (.getfield 9, 3) := by decide +kernel
theorem dX7_type_30 : decode cX7_type 30 = .ok (.aload_n 0, 1) := by decide +kernel
theorem dX7_type_31 : decode cX7_type 31 = .ok (.getfield 73, 3) := by decide +kernel
theorem dX7_type_34 : decode cX7_type 34 = .ok (.iload_n 1, 1) := by decide +kernel
theorem dX7_type_35 : decode cX7_type 35 = .ok (.iastore, 1) := by decide +kernel
theorem dX7_type_36 : decode cX7_type 36 = .ok (.aload_n 0, 1) := by decide +kernel
theorem dX7_type_37 : decode cX7_type 37 = .ok (.dup, 1) := by decide +kernel
theorem dX7_type_38 : decode cX7_type 38 = .ok (.getfield 73, 3) := by decide +kernel
theorem dX7_type_41 : decode cX7_type 41 = .ok (.iconst 1, 1) := by decide +kernel
theorem dX7_type_42 : decode cX7_type 42 = .ok (.iadd, 1) := by decide +kernel
theorem dX7_type_43 : decode cX7_type 43 = .ok (.putfield 73, 3) := by decide +kernel
theorem dX7_type_46 : decode cX7_type 46 = .ok (.aload_n 0, 1) := by decide +kernel
theorem dX7_type_47 : decode cX7_type 47 = .ok (.getfield 73, 3) := by decide +kernel
theorem dX7_type_50 : decode cX7_type 50 = .ok (.ireturn, 1) := by decide +kernel
theorem dX7_clear_0 : decode cX7_clear 0 = .ok (.aload_n 0, 1) := by decide +kernel
theorem dX7_clear_1 : decode cX7_clear 1 = .ok (.getfield 73, 3) := by decide +kernel
theorem dX7_clear_4 : decode cX7_clear 4 = .ok (.istore_n 1, 1) := by decide +kernel
theorem dX7_clear_5 : decode cX7_clear 5 = .ok (.aload_n 0, 1) := by decide +kernel
theorem dX7_clear_6 : decode cX7_clear 6 = .ok (.iconst 0, 1) := by decide +kernel
theorem dX7_clear_7 : decode cX7_clear 7 = .ok (.putfield 73, 3) := by decide +kernel
theorem dX7_clear_10 : decode cX7_clear 10 = .ok (.iload_n 1, 1) := by decide +kernel
theorem dX7_clear_11 : decode cX7_clear 11 = .ok (.ireturn, 1) := by decide +kernel
theorem dX7_board_0 : decode cX7_board 0 = .ok (.aload_n 0, 1) := by decide +kernel
theorem dX7_board_1 : decode cX7_board 1 = .ok (.getfield 25, 3) := by decide +kernel
theorem dX7_board_4 : decode cX7_board 4 = .ok (.aload_n 0, 1) := by decide +kernel
theorem dX7_board_5 : decode cX7_board 5 = .ok (.getfield 73, 3) := by decide +kernel
theorem dX7_board_8 : decode cX7_board 8 = .ok (.invokevirtual 84, 3) := by decide +kernel
theorem dX7_board_11 : decode cX7_board 11 = .ok (.istore_n 1, 1) := by decide +kernel
theorem dX7_board_12 : decode cX7_board 12 = .ok (.iload_n 1, 1) := by decide +kernel
theorem dX7_board_13 : decode cX7_board 13 = .ok (.ifCond .ge 5, 3) := by decide +kernel
theorem dX7_board_16 : decode cX7_board 16 = .ok (.iload_n 1, 1) := by decide +kernel
theorem dX7_board_17 : decode cX7_board 17 = .ok (.ireturn, 1) := by decide +kernel
theorem dX7_board_18 : decode cX7_board 18 = .ok (.aload_n 0, 1) := by decide +kernel
theorem dX7_board_19 : decode cX7_board 19 = .ok (.getfield 16, 3) := by decide +kernel
theorem dX7_board_22 : decode cX7_board 22 = .ok (.aload_n 0, 1) := by decide +kernel
theorem dX7_board_23 : decode cX7_board 23 = .ok (.getfield 25, 3) := by decide +kernel
theorem dX7_board_26 : decode cX7_board 26 = .ok (.getfield 88, 3) := by decide +kernel
theorem dX7_board_29 : decode cX7_board 29 = .ok (.invokevirtual 91, 3) := by decide +kernel
theorem dX7_board_32 : decode cX7_board 32 = .ok (.aload_n 0, 1) := by decide +kernel
theorem dX7_board_33 : decode cX7_board 33 = .ok (.getfield 34, 3) := by decide +kernel
theorem dX7_board_36 : decode cX7_board 36 = .ok (.invokevirtual 81, 3) := by decide +kernel
theorem dX7_board_39 : decode cX7_board 39 = .ok (.aload_n 0, 1) := by decide +kernel
theorem dX7_board_40 : decode cX7_board 40 = .ok (.getfield 41, 3) := by decide +kernel
theorem dX7_board_43 : decode cX7_board 43 = .ok (.invokevirtual 94, 3) := by decide +kernel
theorem dX7_board_46 : decode cX7_board 46 = .ok (.iconst 0, 1) := by decide +kernel
theorem dX7_board_47 : decode cX7_board 47 = .ok (.istore_n 2, 1) := by decide +kernel
theorem dX7_board_48 : decode cX7_board 48 = .ok (.iload_n 2, 1) := by decide +kernel
theorem dX7_board_49 : decode cX7_board 49 = .ok (.iconst 2, 1) := by decide +kernel
theorem dX7_board_50 : decode cX7_board 50 = .ok (.if_icmp .ge 16, 3) := by decide +kernel
theorem dX7_board_53 : decode cX7_board 53 = .ok (.aload_n 0, 1) := by decide +kernel
theorem dX7_board_54 : decode cX7_board 54 = .ok (.getfield 48, 3) := by decide +kernel
theorem dX7_board_57 : decode cX7_board 57 = .ok (.iload_n 2, 1) := by decide +kernel
theorem dX7_board_58 : decode cX7_board 58 = .ok (.iconst 0, 1) := by decide +kernel
theorem dX7_board_59 : decode cX7_board 59 = .ok (.bastore, 1) := by decide +kernel
theorem dX7_board_60 : decode cX7_board 60 = .ok (.iinc 2 1, 3) := by decide +kernel
theorem dX7_board_63 : decode cX7_board 63 = .ok (.goto (-15), 3) := by decide +kernel
theorem dX7_board_66 : decode cX7_board 66 = .ok (.aload_n 0, 1) := by decide +kernel
theorem dX7_board_67 : decode cX7_board 67 = .ok (.iconst 0, 1) := by decide +kernel
theorem dX7_board_68 : decode cX7_board 68 = .ok (.putfield 73, 3) := by decide +kernel
theorem dX7_board_71 : decode cX7_board 71 = .ok (.iload_n 1, 1) := by decide +kernel
theorem dX7_board_72 : decode cX7_board 72 = .ok (.ireturn, 1) := by decide +kernel
theorem dX7_line_0 : decode cX7_line 0 = .ok (.aload_n 0, 1) := by decide +kernel
theorem dX7_line_1 : decode cX7_line 1 = .ok (.getfield 16, 3) := by decide +kernel
theorem dX7_line_4 : decode cX7_line 4 = .ok (.iload_n 1, 1) := by decide +kernel
theorem dX7_line_5 : decode cX7_line 5 = .ok (.invokevirtual 97, 3) := by decide +kernel
theorem dX7_line_8 : decode cX7_line 8 = .ok (.ifCond .eq 12, 3) := by decide +kernel
theorem dX7_line_11 : decode cX7_line 11 = .ok (.iload_n 2, 1) := by decide +kernel
theorem dX7_line_12 : decode cX7_line 12 = .ok (.ifCond .lt 8, 3) := by decide +kernel
theorem dX7_line_15 : decode cX7_line 15 = .ok (.iload_n 2, 1) := by decide +kernel
theorem dX7_line_16 : decode cX7_line 16 = .ok (.iconst 1, 1) := by decide +kernel
theorem dX7_line_17 : decode cX7_line 17 = .ok (.if_icmp .le 5, 3) := by decide +kernel
theorem dX7_line_20 : decode cX7_line 20 = .ok (.iconst (-1), 1) := by decide +kernel
theorem dX7_line_21 : decode cX7_line 21 = .ok (.ireturn, 1) := by decide +kernel
theorem dX7_line_22 : decode cX7_line 22 = .ok (.iload_n 2, 1) := by decide +kernel
theorem dX7_line_23 : decode cX7_line 23 = .ok (.ifCond .ne 15, 3) := by decide +kernel
theorem dX7_line_26 : decode cX7_line 26 = .ok (.aload_n 0, 1) := by decide +kernel
theorem dX7_line_27 : decode cX7_line 27 = .ok (.getfield 34, 3) := by decide +kernel
theorem dX7_line_30 : decode cX7_line 30 = .ok (.getfield 101, 3) := by decide +kernel
theorem dX7_line_33 : decode cX7_line 33 = .ok (.iload_n 1, 1) := by decide +kernel
theorem dX7_line_34 : decode cX7_line 34 = .ok (.iaload, 1) := by decide +kernel
theorem dX7_line_35 : decode cX7_line 35 = .ok (.goto 11, 3) := by decide +kernel
theorem dX7_line_38 : decode cX7_line 38 = .ok (.aload_n 0, 1) := by decide +kernel
theorem dX7_line_39 : decode cX7_line 39 = .ok (.getfield 34, 3) := by decide +kernel
theorem dX7_line_42 : decode cX7_line 42 = .ok (.iload_n 1, 1) := by decide +kernel
theorem dX7_line_43 : decode cX7_line 43 = .ok (.invokevirtual 104, 3) := by decide +kernel
theorem dX7_line_46 : decode cX7_line 46 = .ok (.ireturn, 1) := by decide +kernel
theorem dX7_call_0 : decode cX7_call 0 = .ok (.aload_n 0, 1) := by decide +kernel
theorem dX7_call_1 : decode cX7_call 1 = .ok (.getfield 16, 3) := by decide +kernel
theorem dX7_call_4 : decode cX7_call 4 = .ok (.iload_n 1, 1) := by decide +kernel
theorem dX7_call_5 : decode cX7_call 5 = .ok (.invokevirtual 107, 3) := by decide +kernel
theorem dX7_call_8 : decode cX7_call 8 = .ok (.ifCond .ne 5, 3) := by decide +kernel
theorem dX7_call_11 : decode cX7_call 11 = .ok (.iconst (-1), 1) := by decide +kernel
theorem dX7_call_12 : decode cX7_call 12 = .ok (.ireturn, 1) := by decide +kernel
theorem dX7_call_13 : decode cX7_call 13 = .ok (.iload_n 2, 1) := by decide +kernel
theorem dX7_call_14 : decode cX7_call 14 = .ok (.tableswitch 126 0 7 #[46, 56, 66, 76, 86, 96, 106, 116], 46) := by decide +kernel
theorem dX7_call_60 : decode cX7_call 60 = .ok (.aload_n 0, 1) := by decide +kernel
theorem dX7_call_61 : decode cX7_call 61 = .ok (.getfield 16, 3) := by decide +kernel
theorem dX7_call_64 : decode cX7_call 64 = .ok (.getfield 110, 3) := by decide +kernel
theorem dX7_call_67 : decode cX7_call 67 = .ok (.iload_n 1, 1) := by decide +kernel
theorem dX7_call_68 : decode cX7_call 68 = .ok (.iaload, 1) := by decide +kernel
theorem dX7_call_69 : decode cX7_call 69 = .ok (.ireturn, 1) := by decide +kernel
theorem dX7_call_70 : decode cX7_call 70 = .ok (.aload_n 0, 1) := by decide +kernel
theorem dX7_call_71 : decode cX7_call 71 = .ok (.getfield 16, 3) := by decide +kernel
theorem dX7_call_74 : decode cX7_call 74 = .ok (.getfield 113, 3) := by decide +kernel
theorem dX7_call_77 : decode cX7_call 77 = .ok (.iload_n 1, 1) := by decide +kernel
theorem dX7_call_78 : decode cX7_call 78 = .ok (.iaload, 1) := by decide +kernel
theorem dX7_call_79 : decode cX7_call 79 = .ok (.ireturn, 1) := by decide +kernel
theorem dX7_call_80 : decode cX7_call 80 = .ok (.aload_n 0, 1) := by decide +kernel
theorem dX7_call_81 : decode cX7_call 81 = .ok (.getfield 16, 3) := by decide +kernel
theorem dX7_call_84 : decode cX7_call 84 = .ok (.getfield 116, 3) := by decide +kernel
theorem dX7_call_87 : decode cX7_call 87 = .ok (.iload_n 1, 1) := by decide +kernel
theorem dX7_call_88 : decode cX7_call 88 = .ok (.iaload, 1) := by decide +kernel
theorem dX7_call_89 : decode cX7_call 89 = .ok (.ireturn, 1) := by decide +kernel
theorem dX7_call_90 : decode cX7_call 90 = .ok (.aload_n 0, 1) := by decide +kernel
theorem dX7_call_91 : decode cX7_call 91 = .ok (.getfield 16, 3) := by decide +kernel
theorem dX7_call_94 : decode cX7_call 94 = .ok (.getfield 119, 3) := by decide +kernel
theorem dX7_call_97 : decode cX7_call 97 = .ok (.iload_n 1, 1) := by decide +kernel
theorem dX7_call_98 : decode cX7_call 98 = .ok (.iaload, 1) := by decide +kernel
theorem dX7_call_99 : decode cX7_call 99 = .ok (.ireturn, 1) := by decide +kernel
theorem dX7_call_100 : decode cX7_call 100 = .ok (.aload_n 0, 1) := by decide +kernel
theorem dX7_call_101 : decode cX7_call 101 = .ok (.getfield 16, 3) := by decide +kernel
theorem dX7_call_104 : decode cX7_call 104 = .ok (.getfield 122, 3) := by decide +kernel
theorem dX7_call_107 : decode cX7_call 107 = .ok (.iload_n 1, 1) := by decide +kernel
theorem dX7_call_108 : decode cX7_call 108 = .ok (.iaload, 1) := by decide +kernel
theorem dX7_call_109 : decode cX7_call 109 = .ok (.ireturn, 1) := by decide +kernel
theorem dX7_call_110 : decode cX7_call 110 = .ok (.aload_n 0, 1) := by decide +kernel
theorem dX7_call_111 : decode cX7_call 111 = .ok (.getfield 34, 3) := by decide +kernel
theorem dX7_call_114 : decode cX7_call 114 = .ok (.getfield 125, 3) := by decide +kernel
theorem dX7_call_117 : decode cX7_call 117 = .ok (.iload_n 1, 1) := by decide +kernel
theorem dX7_call_118 : decode cX7_call 118 = .ok (.iaload, 1) := by decide +kernel
theorem dX7_call_119 : decode cX7_call 119 = .ok (.ireturn, 1) := by decide +kernel
theorem dX7_call_120 : decode cX7_call 120 = .ok (.aload_n 0, 1) := by decide +kernel
theorem dX7_call_121 : decode cX7_call 121 = .ok (.getfield 34, 3) := by decide +kernel
theorem dX7_call_124 : decode cX7_call 124 = .ok (.getfield 128, 3) := by decide +kernel
theorem dX7_call_127 : decode cX7_call 127 = .ok (.iload_n 1, 1) := by decide +kernel
theorem dX7_call_128 : decode cX7_call 128 = .ok (.iaload, 1) := by decide +kernel
theorem dX7_call_129 : decode cX7_call 129 = .ok (.ireturn, 1) := by decide +kernel
theorem dX7_call_130 : decode cX7_call 130 = .ok (.aload_n 0, 1) := by decide +kernel
theorem dX7_call_131 : decode cX7_call 131 = .ok (.getfield 34, 3) := by decide +kernel
theorem dX7_call_134 : decode cX7_call 134 = .ok (.getfield 131, 3) := by decide +kernel
theorem dX7_call_137 : decode cX7_call 137 = .ok (.iload_n 1, 1) := by decide +kernel
theorem dX7_call_138 : decode cX7_call 138 = .ok (.iaload, 1) := by decide +kernel
theorem dX7_call_139 : decode cX7_call 139 = .ok (.ireturn, 1) := by decide +kernel
theorem dX7_call_140 : decode cX7_call 140 = .ok (.iconst (-1), 1) := by decide +kernel
theorem dX7_call_141 : decode cX7_call 141 = .ok (.ireturn, 1) := by decide +kernel
theorem dX7_now_0 : decode cX7_now 0 = .ok (.iload_n 1, 1) := by decide +kernel
theorem dX7_now_1 : decode cX7_now 1 = .ok (.tableswitch 86 0 5 #[39, 47, 56, 65, 70, 78], 39) := by decide +kernel
theorem dX7_now_40 : decode cX7_now 40 = .ok (.aload_n 0, 1) := by decide +kernel
theorem dX7_now_41 : decode cX7_now 41 = .ok (.getfield 34, 3) := by decide +kernel
theorem dX7_now_44 : decode cX7_now 44 = .ok (.getfield 134, 3) := by decide +kernel
theorem dX7_now_47 : decode cX7_now 47 = .ok (.ireturn, 1) := by decide +kernel
theorem dX7_now_48 : decode cX7_now 48 = .ok (.aload_n 0, 1) := by decide +kernel
theorem dX7_now_49 : decode cX7_now 49 = .ok (.getfield 34, 3) := by decide +kernel
theorem dX7_now_52 : decode cX7_now 52 = .ok (.iconst 1, 1) := by decide +kernel
theorem dX7_now_53 : decode cX7_now 53 = .ok (.invokevirtual 137, 3) := by decide +kernel
theorem dX7_now_56 : decode cX7_now 56 = .ok (.ireturn, 1) := by decide +kernel
theorem dX7_now_57 : decode cX7_now 57 = .ok (.aload_n 0, 1) := by decide +kernel
theorem dX7_now_58 : decode cX7_now 58 = .ok (.getfield 34, 3) := by decide +kernel
theorem dX7_now_61 : decode cX7_now 61 = .ok (.iconst 2, 1) := by decide +kernel
theorem dX7_now_62 : decode cX7_now 62 = .ok (.invokevirtual 137, 3) := by decide +kernel
theorem dX7_now_65 : decode cX7_now 65 = .ok (.ireturn, 1) := by decide +kernel
theorem dX7_now_66 : decode cX7_now 66 = .ok (.aload_n 0, 1) := by decide +kernel
theorem dX7_now_67 : decode cX7_now 67 = .ok (.invokevirtual 140, 3) := by decide +kernel
theorem dX7_now_70 : decode cX7_now 70 = .ok (.ireturn, 1) := by decide +kernel
theorem dX7_now_71 : decode cX7_now 71 = .ok (.aload_n 0, 1) := by decide +kernel
theorem dX7_now_72 : decode cX7_now 72 = .ok (.getfield 34, 3) := by decide +kernel
theorem dX7_now_75 : decode cX7_now 75 = .ok (.invokevirtual 144, 3) := by decide +kernel
theorem dX7_now_78 : decode cX7_now 78 = .ok (.ireturn, 1) := by decide +kernel
theorem dX7_now_79 : decode cX7_now 79 = .ok (.aload_n 0, 1) := by decide +kernel
theorem dX7_now_80 : decode cX7_now 80 = .ok (.getfield 41, 3) := by decide +kernel
theorem dX7_now_83 : decode cX7_now 83 = .ok (.getfield 147, 3) := by decide +kernel
theorem dX7_now_86 : decode cX7_now 86 = .ok (.ireturn, 1) := by decide +kernel
theorem dX7_now_87 : decode cX7_now 87 = .ok (.iconst (-1), 1) := by decide +kernel
theorem dX7_now_88 : decode cX7_now 88 = .ok (.ireturn, 1) := by decide +kernel
theorem dX7_freeCords_0 : decode cX7_freeCords 0 = .ok (.aload_n 0, 1) := by decide +kernel
theorem dX7_freeCords_1 : decode cX7_freeCords 1 = .ok (.getfield 16, 3) := by decide +kernel
theorem dX7_freeCords_4 : decode cX7_freeCords 4 = .ok (.getfield 150, 3) := by decide +kernel
theorem dX7_freeCords_7 : decode cX7_freeCords 7 = .ok (.aload_n 0, 1) := by decide +kernel
theorem dX7_freeCords_8 : decode cX7_freeCords 8 = .ok (.getfield 34, 3) := by decide +kernel
theorem dX7_freeCords_11 : decode cX7_freeCords 11 = .ok (.iconst 2, 1) := by decide +kernel
theorem dX7_freeCords_12 : decode cX7_freeCords 12 = .ok (.invokevirtual 137, 3) := by decide +kernel
theorem dX7_freeCords_15 : decode cX7_freeCords 15 = .ok (.invokestatic 153, 3) := by decide +kernel
theorem dX7_freeCords_18 : decode cX7_freeCords 18 = .ok (.isub, 1) := by decide +kernel
theorem dX7_freeCords_19 : decode cX7_freeCords 19 = .ok (.ireturn, 1) := by decide +kernel
theorem dX7_minute_0 : decode cX7_minute 0 = .ok (.aload_n 0, 1) := by decide +kernel
theorem dX7_minute_1 : decode cX7_minute 1 = .ok (.getfield 34, 3) := by decide +kernel
theorem dX7_minute_4 : decode cX7_minute 4 = .ok (.getfield 134, 3) := by decide +kernel
theorem dX7_minute_7 : decode cX7_minute 7 = .ok (.bipush 99, 2) := by decide +kernel
theorem dX7_minute_9 : decode cX7_minute 9 = .ok (.if_icmp .lt 6, 3) := by decide +kernel
theorem dX7_minute_12 : decode cX7_minute 12 = .ok (.bipush (-2), 2) := by decide +kernel
theorem dX7_minute_14 : decode cX7_minute 14 = .ok (.ireturn, 1) := by decide +kernel
theorem dX7_minute_15 : decode cX7_minute 15 = .ok (.aload_n 0, 1) := by decide +kernel
theorem dX7_minute_16 : decode cX7_minute 16 = .ok (.getfield 41, 3) := by decide +kernel
theorem dX7_minute_19 : decode cX7_minute 19 = .ok (.aload_n 0, 1) := by decide +kernel
theorem dX7_minute_20 : decode cX7_minute 20 = .ok (.getfield 34, 3) := by decide +kernel
theorem dX7_minute_23 : decode cX7_minute 23 = .ok (.invokevirtual 158, 3) := by decide +kernel
theorem dX7_minute_26 : decode cX7_minute 26 = .ok (.aload_n 0, 1) := by decide +kernel
theorem dX7_minute_27 : decode cX7_minute 27 = .ok (.getfield 34, 3) := by decide +kernel
theorem dX7_minute_30 : decode cX7_minute 30 = .ok (.invokevirtual 162, 3) := by decide +kernel
theorem dX7_minute_33 : decode cX7_minute 33 = .ok (.aload_n 0, 1) := by decide +kernel
theorem dX7_minute_34 : decode cX7_minute 34 = .ok (.getfield 34, 3) := by decide +kernel
theorem dX7_minute_37 : decode cX7_minute 37 = .ok (.getfield 134, 3) := by decide +kernel
theorem dX7_minute_40 : decode cX7_minute 40 = .ok (.ireturn, 1) := by decide +kernel
theorem dX7_plugs_0 : decode cX7_plugs 0 = .ok (.aload_n 0, 1) := by decide +kernel
theorem dX7_plugs_1 : decode cX7_plugs 1 = .ok (.getfield 16, 3) := by decide +kernel
theorem dX7_plugs_4 : decode cX7_plugs 4 = .ok (.iload_n 1, 1) := by decide +kernel
theorem dX7_plugs_5 : decode cX7_plugs 5 = .ok (.invokevirtual 107, 3) := by decide +kernel
theorem dX7_plugs_8 : decode cX7_plugs 8 = .ok (.ifCond .ne 5, 3) := by decide +kernel
theorem dX7_plugs_11 : decode cX7_plugs 11 = .ok (.iconst (-1), 1) := by decide +kernel
theorem dX7_plugs_12 : decode cX7_plugs 12 = .ok (.ireturn, 1) := by decide +kernel
theorem dX7_plugs_13 : decode cX7_plugs 13 = .ok (.aload_n 0, 1) := by decide +kernel
theorem dX7_plugs_14 : decode cX7_plugs 14 = .ok (.getfield 34, 3) := by decide +kernel
theorem dX7_plugs_17 : decode cX7_plugs 17 = .ok (.iload_n 1, 1) := by decide +kernel
theorem dX7_plugs_18 : decode cX7_plugs 18 = .ok (.aload_n 0, 1) := by decide +kernel
theorem dX7_plugs_19 : decode cX7_plugs 19 = .ok (.getfield 16, 3) := by decide +kernel
theorem dX7_plugs_22 : decode cX7_plugs 22 = .ok (.getfield 150, 3) := by decide +kernel
theorem dX7_plugs_25 : decode cX7_plugs 25 = .ok (.invokevirtual 165, 3) := by decide +kernel
theorem dX7_plugs_28 : decode cX7_plugs 28 = .ok (.ifCond .ne 6, 3) := by decide +kernel
theorem dX7_plugs_31 : decode cX7_plugs 31 = .ok (.bipush (-2), 2) := by decide +kernel
theorem dX7_plugs_33 : decode cX7_plugs 33 = .ok (.ireturn, 1) := by decide +kernel
theorem dX7_plugs_34 : decode cX7_plugs 34 = .ok (.aload_n 0, 1) := by decide +kernel
theorem dX7_plugs_35 : decode cX7_plugs 35 = .ok (.getfield 41, 3) := by decide +kernel
theorem dX7_plugs_38 : decode cX7_plugs 38 = .ok (.aload_n 0, 1) := by decide +kernel
theorem dX7_plugs_39 : decode cX7_plugs 39 = .ok (.getfield 34, 3) := by decide +kernel
theorem dX7_plugs_42 : decode cX7_plugs 42 = .ok (.invokevirtual 158, 3) := by decide +kernel
theorem dX7_plugs_45 : decode cX7_plugs 45 = .ok (.aload_n 0, 1) := by decide +kernel
theorem dX7_plugs_46 : decode cX7_plugs 46 = .ok (.getfield 34, 3) := by decide +kernel
theorem dX7_plugs_49 : decode cX7_plugs 49 = .ok (.iload_n 1, 1) := by decide +kernel
theorem dX7_plugs_50 : decode cX7_plugs 50 = .ok (.invokevirtual 169, 3) := by decide +kernel
theorem dX7_plugs_53 : decode cX7_plugs 53 = .ok (.aload_n 0, 1) := by decide +kernel
theorem dX7_plugs_54 : decode cX7_plugs 54 = .ok (.invokevirtual 140, 3) := by decide +kernel
theorem dX7_plugs_57 : decode cX7_plugs 57 = .ok (.ireturn, 1) := by decide +kernel
theorem dX7_pulls_0 : decode cX7_pulls 0 = .ok (.aload_n 0, 1) := by decide +kernel
theorem dX7_pulls_1 : decode cX7_pulls 1 = .ok (.getfield 16, 3) := by decide +kernel
theorem dX7_pulls_4 : decode cX7_pulls 4 = .ok (.iload_n 1, 1) := by decide +kernel
theorem dX7_pulls_5 : decode cX7_pulls 5 = .ok (.invokevirtual 107, 3) := by decide +kernel
theorem dX7_pulls_8 : decode cX7_pulls 8 = .ok (.ifCond .ne 5, 3) := by decide +kernel
theorem dX7_pulls_11 : decode cX7_pulls 11 = .ok (.iconst (-1), 1) := by decide +kernel
theorem dX7_pulls_12 : decode cX7_pulls 12 = .ok (.ireturn, 1) := by decide +kernel
theorem dX7_pulls_13 : decode cX7_pulls 13 = .ok (.aload_n 0, 1) := by decide +kernel
theorem dX7_pulls_14 : decode cX7_pulls 14 = .ok (.getfield 34, 3) := by decide +kernel
theorem dX7_pulls_17 : decode cX7_pulls 17 = .ok (.getfield 125, 3) := by decide +kernel
theorem dX7_pulls_20 : decode cX7_pulls 20 = .ok (.iload_n 1, 1) := by decide +kernel
theorem dX7_pulls_21 : decode cX7_pulls 21 = .ok (.iaload, 1) := by decide +kernel
theorem dX7_pulls_22 : decode cX7_pulls 22 = .ok (.iconst 2, 1) := by decide +kernel
theorem dX7_pulls_23 : decode cX7_pulls 23 = .ok (.if_icmp .eq 6, 3) := by decide +kernel
theorem dX7_pulls_26 : decode cX7_pulls 26 = .ok (.bipush (-2), 2) := by decide +kernel
theorem dX7_pulls_28 : decode cX7_pulls 28 = .ok (.ireturn, 1) := by decide +kernel
theorem dX7_pulls_29 : decode cX7_pulls 29 = .ok (.aload_n 0, 1) := by decide +kernel
theorem dX7_pulls_30 : decode cX7_pulls 30 = .ok (.getfield 34, 3) := by decide +kernel
theorem dX7_pulls_33 : decode cX7_pulls 33 = .ok (.getfield 128, 3) := by decide +kernel
theorem dX7_pulls_36 : decode cX7_pulls 36 = .ok (.iload_n 1, 1) := by decide +kernel
theorem dX7_pulls_37 : decode cX7_pulls 37 = .ok (.iaload, 1) := by decide +kernel
theorem dX7_pulls_38 : decode cX7_pulls 38 = .ok (.istore_n 2, 1) := by decide +kernel
theorem dX7_pulls_39 : decode cX7_pulls 39 = .ok (.aload_n 0, 1) := by decide +kernel
theorem dX7_pulls_40 : decode cX7_pulls 40 = .ok (.getfield 41, 3) := by decide +kernel
theorem dX7_pulls_43 : decode cX7_pulls 43 = .ok (.aload_n 0, 1) := by decide +kernel
theorem dX7_pulls_44 : decode cX7_pulls 44 = .ok (.getfield 34, 3) := by decide +kernel
theorem dX7_pulls_47 : decode cX7_pulls 47 = .ok (.invokevirtual 158, 3) := by decide +kernel
theorem dX7_pulls_50 : decode cX7_pulls 50 = .ok (.aload_n 0, 1) := by decide +kernel
theorem dX7_pulls_51 : decode cX7_pulls 51 = .ok (.getfield 34, 3) := by decide +kernel
theorem dX7_pulls_54 : decode cX7_pulls 54 = .ok (.iload_n 1, 1) := by decide +kernel
theorem dX7_pulls_55 : decode cX7_pulls 55 = .ok (.invokevirtual 173, 3) := by decide +kernel
theorem dX7_pulls_58 : decode cX7_pulls 58 = .ok (.iload_n 2, 1) := by decide +kernel
theorem dX7_pulls_59 : decode cX7_pulls 59 = .ok (.ireturn, 1) := by decide +kernel
theorem dX7_swaps_0 : decode cX7_swaps 0 = .ok (.aload_n 0, 1) := by decide +kernel
theorem dX7_swaps_1 : decode cX7_swaps 1 = .ok (.getfield 16, 3) := by decide +kernel
theorem dX7_swaps_4 : decode cX7_swaps 4 = .ok (.iload_n 1, 1) := by decide +kernel
theorem dX7_swaps_5 : decode cX7_swaps 5 = .ok (.invokevirtual 97, 3) := by decide +kernel
theorem dX7_swaps_8 : decode cX7_swaps 8 = .ok (.ifCond .eq 19, 3) := by decide +kernel
theorem dX7_swaps_11 : decode cX7_swaps 11 = .ok (.aload_n 0, 1) := by decide +kernel
theorem dX7_swaps_12 : decode cX7_swaps 12 = .ok (.getfield 16, 3) := by decide +kernel
theorem dX7_swaps_15 : decode cX7_swaps 15 = .ok (.iload_n 2, 1) := by decide +kernel
theorem dX7_swaps_16 : decode cX7_swaps 16 = .ok (.invokevirtual 97, 3) := by decide +kernel
theorem dX7_swaps_19 : decode cX7_swaps 19 = .ok (.ifCond .eq 8, 3) := by decide +kernel
theorem dX7_swaps_22 : decode cX7_swaps 22 = .ok (.iload_n 1, 1) := by decide +kernel
theorem dX7_swaps_23 : decode cX7_swaps 23 = .ok (.iload_n 2, 1) := by decide +kernel
theorem dX7_swaps_24 : decode cX7_swaps 24 = .ok (.if_icmp .ne 5, 3) := by decide +kernel
theorem dX7_swaps_27 : decode cX7_swaps 27 = .ok (.iconst (-1), 1) := by decide +kernel
theorem dX7_swaps_28 : decode cX7_swaps 28 = .ok (.ireturn, 1) := by decide +kernel
theorem dX7_swaps_29 : decode cX7_swaps 29 = .ok (.aload_n 0, 1) := by decide +kernel
theorem dX7_swaps_30 : decode cX7_swaps 30 = .ok (.getfield 34, 3) := by decide +kernel
theorem dX7_swaps_33 : decode cX7_swaps 33 = .ok (.iload_n 1, 1) := by decide +kernel
theorem dX7_swaps_34 : decode cX7_swaps 34 = .ok (.invokevirtual 104, 3) := by decide +kernel
theorem dX7_swaps_37 : decode cX7_swaps 37 = .ok (.bipush (-9), 2) := by decide +kernel
theorem dX7_swaps_39 : decode cX7_swaps 39 = .ok (.if_icmp .ne 16, 3) := by decide +kernel
theorem dX7_swaps_42 : decode cX7_swaps 42 = .ok (.aload_n 0, 1) := by decide +kernel
theorem dX7_swaps_43 : decode cX7_swaps 43 = .ok (.getfield 34, 3) := by decide +kernel
theorem dX7_swaps_46 : decode cX7_swaps 46 = .ok (.iload_n 2, 1) := by decide +kernel
theorem dX7_swaps_47 : decode cX7_swaps 47 = .ok (.invokevirtual 104, 3) := by decide +kernel
theorem dX7_swaps_50 : decode cX7_swaps 50 = .ok (.bipush (-9), 2) := by decide +kernel
theorem dX7_swaps_52 : decode cX7_swaps 52 = .ok (.if_icmp .eq 6, 3) := by decide +kernel
theorem dX7_swaps_55 : decode cX7_swaps 55 = .ok (.bipush (-2), 2) := by decide +kernel
theorem dX7_swaps_57 : decode cX7_swaps 57 = .ok (.ireturn, 1) := by decide +kernel
theorem dX7_swaps_58 : decode cX7_swaps 58 = .ok (.aload_n 0, 1) := by decide +kernel
theorem dX7_swaps_59 : decode cX7_swaps 59 = .ok (.getfield 41, 3) := by decide +kernel
theorem dX7_swaps_62 : decode cX7_swaps 62 = .ok (.aload_n 0, 1) := by decide +kernel
theorem dX7_swaps_63 : decode cX7_swaps 63 = .ok (.getfield 34, 3) := by decide +kernel
theorem dX7_swaps_66 : decode cX7_swaps 66 = .ok (.invokevirtual 158, 3) := by decide +kernel
theorem dX7_swaps_69 : decode cX7_swaps 69 = .ok (.aload_n 0, 1) := by decide +kernel
theorem dX7_swaps_70 : decode cX7_swaps 70 = .ok (.getfield 34, 3) := by decide +kernel
theorem dX7_swaps_73 : decode cX7_swaps 73 = .ok (.getfield 101, 3) := by decide +kernel
theorem dX7_swaps_76 : decode cX7_swaps 76 = .ok (.iload_n 1, 1) := by decide +kernel
theorem dX7_swaps_77 : decode cX7_swaps 77 = .ok (.iload_n 2, 1) := by decide +kernel
theorem dX7_swaps_78 : decode cX7_swaps 78 = .ok (.invokestatic 176, 3) := by decide +kernel
theorem dX7_swaps_81 : decode cX7_swaps 81 = .ok (.aload_n 0, 1) := by decide +kernel
theorem dX7_swaps_82 : decode cX7_swaps 82 = .ok (.getfield 34, 3) := by decide +kernel
theorem dX7_swaps_85 : decode cX7_swaps 85 = .ok (.getfield 101, 3) := by decide +kernel
theorem dX7_swaps_88 : decode cX7_swaps 88 = .ok (.iload_n 1, 1) := by decide +kernel
theorem dX7_swaps_89 : decode cX7_swaps 89 = .ok (.iaload, 1) := by decide +kernel
theorem dX7_swaps_90 : decode cX7_swaps 90 = .ok (.ireturn, 1) := by decide +kernel
theorem dX7_undo_0 : decode cX7_undo 0 = .ok (.aload_n 0, 1) := by decide +kernel
theorem dX7_undo_1 : decode cX7_undo 1 = .ok (.getfield 41, 3) := by decide +kernel
theorem dX7_undo_4 : decode cX7_undo 4 = .ok (.getfield 147, 3) := by decide +kernel
theorem dX7_undo_7 : decode cX7_undo 7 = .ok (.ifCond .ne 6, 3) := by decide +kernel
theorem dX7_undo_10 : decode cX7_undo 10 = .ok (.bipush (-2), 2) := by decide +kernel
theorem dX7_undo_12 : decode cX7_undo 12 = .ok (.ireturn, 1) := by decide +kernel
theorem dX7_undo_13 : decode cX7_undo 13 = .ok (.aload_n 0, 1) := by decide +kernel
theorem dX7_undo_14 : decode cX7_undo 14 = .ok (.getfield 41, 3) := by decide +kernel
theorem dX7_undo_17 : decode cX7_undo 17 = .ok (.aload_n 0, 1) := by decide +kernel
theorem dX7_undo_18 : decode cX7_undo 18 = .ok (.getfield 34, 3) := by decide +kernel
theorem dX7_undo_21 : decode cX7_undo 21 = .ok (.invokevirtual 180, 3) := by decide +kernel
theorem dX7_undo_24 : decode cX7_undo 24 = .ok (.aload_n 0, 1) := by decide +kernel
theorem dX7_undo_25 : decode cX7_undo 25 = .ok (.getfield 41, 3) := by decide +kernel
theorem dX7_undo_28 : decode cX7_undo 28 = .ok (.getfield 147, 3) := by decide +kernel
theorem dX7_undo_31 : decode cX7_undo 31 = .ok (.ireturn, 1) := by decide +kernel
theorem dX7_byRule_0 : decode cX7_byRule 0 = .ok (.iload_n 1, 1) := by decide +kernel
theorem dX7_byRule_1 : decode cX7_byRule 1 = .ok (.invokestatic 183, 3) := by decide +kernel
theorem dX7_byRule_4 : decode cX7_byRule 4 = .ok (.ifCond .eq 22, 3) := by decide +kernel
theorem dX7_byRule_7 : decode cX7_byRule 7 = .ok (.iload_n 2, 1) := by decide +kernel
theorem dX7_byRule_8 : decode cX7_byRule 8 = .ok (.ifCond .lt 18, 3) := by decide +kernel
theorem dX7_byRule_11 : decode cX7_byRule 11 = .ok (.iload_n 2, 1) := by decide +kernel
theorem dX7_byRule_12 : decode cX7_byRule 12 = .ok (.bipush 60, 2) := by decide +kernel
theorem dX7_byRule_14 : decode cX7_byRule 14 = .ok (.if_icmp .gt 12, 3) := by decide +kernel
theorem dX7_byRule_17 : decode cX7_byRule 17 = .ok (.iload_n 3, 1) := by decide +kernel
theorem dX7_byRule_18 : decode cX7_byRule 18 = .ok (.ifCond .lt 8, 3) := by decide +kernel
theorem dX7_byRule_21 : decode cX7_byRule 21 = .ok (.iload_n 3, 1) := by decide +kernel
theorem dX7_byRule_22 : decode cX7_byRule 22 = .ok (.iconst 2, 1) := by decide +kernel
theorem dX7_byRule_23 : decode cX7_byRule 23 = .ok (.if_icmp .le 5, 3) := by decide +kernel
theorem dX7_byRule_26 : decode cX7_byRule 26 = .ok (.iconst (-1), 1) := by decide +kernel
theorem dX7_byRule_27 : decode cX7_byRule 27 = .ok (.ireturn, 1) := by decide +kernel
theorem dX7_byRule_28 : decode cX7_byRule 28 = .ok (.aload_n 0, 1) := by decide +kernel
theorem dX7_byRule_29 : decode cX7_byRule 29 = .ok (.getfield 55, 3) := by decide +kernel
theorem dX7_byRule_32 : decode cX7_byRule 32 = .ok (.aload_n 0, 1) := by decide +kernel
theorem dX7_byRule_33 : decode cX7_byRule 33 = .ok (.getfield 34, 3) := by decide +kernel
theorem dX7_byRule_36 : decode cX7_byRule 36 = .ok (.iload_n 1, 1) := by decide +kernel
theorem dX7_byRule_37 : decode cX7_byRule 37 = .ok (.iload_n 2, 1) := by decide +kernel
theorem dX7_byRule_38 : decode cX7_byRule 38 = .ok (.aload_n 0, 1) := by decide +kernel
theorem dX7_byRule_39 : decode cX7_byRule 39 = .ok (.getfield 16, 3) := by decide +kernel
theorem dX7_byRule_42 : decode cX7_byRule 42 = .ok (.getfield 150, 3) := by decide +kernel
theorem dX7_byRule_45 : decode cX7_byRule 45 = .ok (.invokevirtual 186, 3) := by decide +kernel
theorem dX7_byRule_48 : decode cX7_byRule 48 = .ok (.iload_n 3, 1) := by decide +kernel
theorem dX7_byRule_49 : decode cX7_byRule 49 = .ok (.lookupswitch 55 #[(0, 27), (1, 42)], 27) := by decide +kernel
theorem dX7_byRule_76 : decode cX7_byRule 76 = .ok (.aload_n 0, 1) := by decide +kernel
theorem dX7_byRule_77 : decode cX7_byRule 77 = .ok (.getfield 55, 3) := by decide +kernel
theorem dX7_byRule_80 : decode cX7_byRule 80 = .ok (.getfield 190, 3) := by decide +kernel
theorem dX7_byRule_83 : decode cX7_byRule 83 = .ok (.iconst 3, 1) := by decide +kernel
theorem dX7_byRule_84 : decode cX7_byRule 84 = .ok (.invokevirtual 137, 3) := by decide +kernel
theorem dX7_byRule_87 : decode cX7_byRule 87 = .ok (.invokestatic 153, 3) := by decide +kernel
theorem dX7_byRule_90 : decode cX7_byRule 90 = .ok (.ireturn, 1) := by decide +kernel
theorem dX7_byRule_91 : decode cX7_byRule 91 = .ok (.aload_n 0, 1) := by decide +kernel
theorem dX7_byRule_92 : decode cX7_byRule 92 = .ok (.getfield 55, 3) := by decide +kernel
theorem dX7_byRule_95 : decode cX7_byRule 95 = .ok (.getfield 190, 3) := by decide +kernel
theorem dX7_byRule_98 : decode cX7_byRule 98 = .ok (.bipush 127, 2) := by decide +kernel
theorem dX7_byRule_100 : decode cX7_byRule 100 = .ok (.invokevirtual 193, 3) := by decide +kernel
theorem dX7_byRule_103 : decode cX7_byRule 103 = .ok (.ireturn, 1) := by decide +kernel
theorem dX7_byRule_104 : decode cX7_byRule 104 = .ok (.aload_n 0, 1) := by decide +kernel
theorem dX7_byRule_105 : decode cX7_byRule 105 = .ok (.getfield 55, 3) := by decide +kernel
theorem dX7_byRule_108 : decode cX7_byRule 108 = .ok (.getfield 196, 3) := by decide +kernel
theorem dX7_byRule_111 : decode cX7_byRule 111 = .ok (.ireturn, 1) := by decide +kernel
theorem dX7_enough_0 : decode cX7_enough 0 = .ok (.iload_n 1, 1) := by decide +kernel
theorem dX7_enough_1 : decode cX7_enough 1 = .ok (.invokestatic 183, 3) := by decide +kernel
theorem dX7_enough_4 : decode cX7_enough 4 = .ok (.ifCond .ne 5, 3) := by decide +kernel
theorem dX7_enough_7 : decode cX7_enough 7 = .ok (.iconst (-1), 1) := by decide +kernel
theorem dX7_enough_8 : decode cX7_enough 8 = .ok (.ireturn, 1) := by decide +kernel
theorem dX7_enough_9 : decode cX7_enough 9 = .ok (.iconst 1, 1) := by decide +kernel
theorem dX7_enough_10 : decode cX7_enough 10 = .ok (.istore_n 2, 1) := by decide +kernel
theorem dX7_enough_11 : decode cX7_enough 11 = .ok (.iload_n 2, 1) := by decide +kernel
theorem dX7_enough_12 : decode cX7_enough 12 = .ok (.iconst 4, 1) := by decide +kernel
theorem dX7_enough_13 : decode cX7_enough 13 = .ok (.if_icmp .gt 36, 3) := by decide +kernel
theorem dX7_enough_16 : decode cX7_enough 16 = .ok (.aload_n 0, 1) := by decide +kernel
theorem dX7_enough_17 : decode cX7_enough 17 = .ok (.getfield 55, 3) := by decide +kernel
theorem dX7_enough_20 : decode cX7_enough 20 = .ok (.aload_n 0, 1) := by decide +kernel
theorem dX7_enough_21 : decode cX7_enough 21 = .ok (.getfield 34, 3) := by decide +kernel
theorem dX7_enough_24 : decode cX7_enough 24 = .ok (.iload_n 1, 1) := by decide +kernel
theorem dX7_enough_25 : decode cX7_enough 25 = .ok (.bipush 60, 2) := by decide +kernel
theorem dX7_enough_27 : decode cX7_enough 27 = .ok (.iload_n 2, 1) := by decide +kernel
theorem dX7_enough_28 : decode cX7_enough 28 = .ok (.invokevirtual 186, 3) := by decide +kernel
theorem dX7_enough_31 : decode cX7_enough 31 = .ok (.aload_n 0, 1) := by decide +kernel
theorem dX7_enough_32 : decode cX7_enough 32 = .ok (.getfield 55, 3) := by decide +kernel
theorem dX7_enough_35 : decode cX7_enough 35 = .ok (.getfield 199, 3) := by decide +kernel
theorem dX7_enough_38 : decode cX7_enough 38 = .ok (.ifCond .ne 5, 3) := by decide +kernel
theorem dX7_enough_41 : decode cX7_enough 41 = .ok (.iload_n 2, 1) := by decide +kernel
theorem dX7_enough_42 : decode cX7_enough 42 = .ok (.ireturn, 1) := by decide +kernel
theorem dX7_enough_43 : decode cX7_enough 43 = .ok (.iinc 2 1, 3) := by decide +kernel
theorem dX7_enough_46 : decode cX7_enough 46 = .ok (.goto (-35), 3) := by decide +kernel
theorem dX7_enough_49 : decode cX7_enough 49 = .ok (.bipush (-9), 2) := by decide +kernel
theorem dX7_enough_51 : decode cX7_enough 51 = .ok (.ireturn, 1) := by decide +kernel
theorem dX7_isRule_0 : decode cX7_isRule 0 = .ok (.iload_n 0, 1) := by decide +kernel
theorem dX7_isRule_1 : decode cX7_isRule 1 = .ok (.ifCond .lt 12, 3) := by decide +kernel
theorem dX7_isRule_4 : decode cX7_isRule 4 = .ok (.iload_n 0, 1) := by decide +kernel
theorem dX7_isRule_5 : decode cX7_isRule 5 = .ok (.iconst 2, 1) := by decide +kernel
theorem dX7_isRule_6 : decode cX7_isRule 6 = .ok (.if_icmp .gt 7, 3) := by decide +kernel
theorem dX7_isRule_9 : decode cX7_isRule 9 = .ok (.iconst 1, 1) := by decide +kernel
theorem dX7_isRule_10 : decode cX7_isRule 10 = .ok (.goto 4, 3) := by decide +kernel
theorem dX7_isRule_13 : decode cX7_isRule 13 = .ok (.iconst 0, 1) := by decide +kernel
theorem dX7_isRule_14 : decode cX7_isRule 14 = .ok (.ireturn, 1) := by decide +kernel
theorem dX7_bestRow_0 : decode cX7_bestRow 0 = .ok (.iload_n 1, 1) := by decide +kernel
theorem dX7_bestRow_1 : decode cX7_bestRow 1 = .ok (.iconst (-1), 1) := by decide +kernel
theorem dX7_bestRow_2 : decode cX7_bestRow 2 = .ok (.if_icmp .ge 5, 3) := by decide +kernel
theorem dX7_bestRow_5 : decode cX7_bestRow 5 = .ok (.iconst (-1), 1) := by decide +kernel
theorem dX7_bestRow_6 : decode cX7_bestRow 6 = .ok (.ireturn, 1) := by decide +kernel
theorem dX7_bestRow_7 : decode cX7_bestRow 7 = .ok (.aload_n 0, 1) := by decide +kernel
theorem dX7_bestRow_8 : decode cX7_bestRow 8 = .ok (.getfield 62, 3) := by decide +kernel
theorem dX7_bestRow_11 : decode cX7_bestRow 11 = .ok (.aload_n 0, 1) := by decide +kernel
theorem dX7_bestRow_12 : decode cX7_bestRow 12 = .ok (.getfield 34, 3) := by decide +kernel
theorem dX7_bestRow_15 : decode cX7_bestRow 15 = .ok (.invokevirtual 203, 3) := by decide +kernel
theorem dX7_bestRow_18 : decode cX7_bestRow 18 = .ok (.iload_n 1, 1) := by decide +kernel
theorem dX7_bestRow_19 : decode cX7_bestRow 19 = .ok (.iconst (-1), 1) := by decide +kernel
theorem dX7_bestRow_20 : decode cX7_bestRow 20 = .ok (.if_icmp .ne 27, 3) := by decide +kernel
theorem dX7_bestRow_23 : decode cX7_bestRow 23 = .ok (.aload_n 0, 1) := by decide +kernel
theorem dX7_bestRow_24 : decode cX7_bestRow 24 = .ok (.getfield 62, 3) := by decide +kernel
theorem dX7_bestRow_27 : decode cX7_bestRow 27 = .ok (.getfield 206, 3) := by decide +kernel
theorem dX7_bestRow_30 : decode cX7_bestRow 30 = .ok (.aload_n 0, 1) := by decide +kernel
theorem dX7_bestRow_31 : decode cX7_bestRow 31 = .ok (.getfield 34, 3) := by decide +kernel
theorem dX7_bestRow_34 : decode cX7_bestRow 34 = .ok (.aload_n 0, 1) := by decide +kernel
theorem dX7_bestRow_35 : decode cX7_bestRow 35 = .ok (.getfield 34, 3) := by decide +kernel
theorem dX7_bestRow_38 : decode cX7_bestRow 38 = .ok (.iconst 1, 1) := by decide +kernel
theorem dX7_bestRow_39 : decode cX7_bestRow 39 = .ok (.invokevirtual 137, 3) := by decide +kernel
theorem dX7_bestRow_42 : decode cX7_bestRow 42 = .ok (.invokevirtual 193, 3) := by decide +kernel
theorem dX7_bestRow_45 : decode cX7_bestRow 45 = .ok (.iadd, 1) := by decide +kernel
theorem dX7_bestRow_46 : decode cX7_bestRow 46 = .ok (.ireturn, 1) := by decide +kernel
theorem dX7_bestRow_47 : decode cX7_bestRow 47 = .ok (.iload_n 1, 1) := by decide +kernel
theorem dX7_bestRow_48 : decode cX7_bestRow 48 = .ok (.aload_n 0, 1) := by decide +kernel
theorem dX7_bestRow_49 : decode cX7_bestRow 49 = .ok (.getfield 62, 3) := by decide +kernel
theorem dX7_bestRow_52 : decode cX7_bestRow 52 = .ok (.getfield 209, 3) := by decide +kernel
theorem dX7_bestRow_55 : decode cX7_bestRow 55 = .ok (.if_icmp .ge 15, 3) := by decide +kernel
theorem dX7_bestRow_58 : decode cX7_bestRow 58 = .ok (.aload_n 0, 1) := by decide +kernel
theorem dX7_bestRow_59 : decode cX7_bestRow 59 = .ok (.getfield 62, 3) := by decide +kernel
theorem dX7_bestRow_62 : decode cX7_bestRow 62 = .ok (.getfield 212, 3) := by decide +kernel
theorem dX7_bestRow_65 : decode cX7_bestRow 65 = .ok (.iload_n 1, 1) := by decide +kernel
theorem dX7_bestRow_66 : decode cX7_bestRow 66 = .ok (.iaload, 1) := by decide +kernel
theorem dX7_bestRow_67 : decode cX7_bestRow 67 = .ok (.goto 5, 3) := by decide +kernel
theorem dX7_bestRow_70 : decode cX7_bestRow 70 = .ok (.bipush (-5), 2) := by decide +kernel
theorem dX7_bestRow_72 : decode cX7_bestRow 72 = .ok (.ireturn, 1) := by decide +kernel
theorem dX7_cutFor_0 : decode cX7_cutFor 0 = .ok (.aload_n 0, 1) := by decide +kernel
theorem dX7_cutFor_1 : decode cX7_cutFor 1 = .ok (.getfield 16, 3) := by decide +kernel
theorem dX7_cutFor_4 : decode cX7_cutFor 4 = .ok (.iload_n 1, 1) := by decide +kernel
theorem dX7_cutFor_5 : decode cX7_cutFor 5 = .ok (.invokevirtual 107, 3) := by decide +kernel
theorem dX7_cutFor_8 : decode cX7_cutFor 8 = .ok (.ifCond .ne 5, 3) := by decide +kernel
theorem dX7_cutFor_11 : decode cX7_cutFor 11 = .ok (.iconst (-1), 1) := by decide +kernel
theorem dX7_cutFor_12 : decode cX7_cutFor 12 = .ok (.ireturn, 1) := by decide +kernel
theorem dX7_cutFor_13 : decode cX7_cutFor 13 = .ok (.aload_n 0, 1) := by decide +kernel
theorem dX7_cutFor_14 : decode cX7_cutFor 14 = .ok (.getfield 34, 3) := by decide +kernel
theorem dX7_cutFor_17 : decode cX7_cutFor 17 = .ok (.getfield 125, 3) := by decide +kernel
theorem dX7_cutFor_20 : decode cX7_cutFor 20 = .ok (.iload_n 1, 1) := by decide +kernel
theorem dX7_cutFor_21 : decode cX7_cutFor 21 = .ok (.iaload, 1) := by decide +kernel
theorem dX7_cutFor_22 : decode cX7_cutFor 22 = .ok (.iconst 1, 1) := by decide +kernel
theorem dX7_cutFor_23 : decode cX7_cutFor 23 = .ok (.if_icmp .eq 6, 3) := by decide +kernel
theorem dX7_cutFor_26 : decode cX7_cutFor 26 = .ok (.bipush (-2), 2) := by decide +kernel
theorem dX7_cutFor_28 : decode cX7_cutFor 28 = .ok (.ireturn, 1) := by decide +kernel
theorem dX7_cutFor_29 : decode cX7_cutFor 29 = .ok (.aload_n 0, 1) := by decide +kernel
theorem dX7_cutFor_30 : decode cX7_cutFor 30 = .ok (.getfield 34, 3) := by decide +kernel
theorem dX7_cutFor_33 : decode cX7_cutFor 33 = .ok (.iload_n 1, 1) := by decide +kernel
theorem dX7_cutFor_34 : decode cX7_cutFor 34 = .ok (.invokevirtual 215, 3) := by decide +kernel
theorem dX7_cutFor_37 : decode cX7_cutFor 37 = .ok (.ireturn, 1) := by decide +kernel
theorem dX7_longCords_0 : decode cX7_longCords 0 = .ok (.aload_n 0, 1) := by decide +kernel
theorem dX7_longCords_1 : decode cX7_longCords 1 = .ok (.getfield 69, 3) := by decide +kernel
theorem dX7_longCords_4 : decode cX7_longCords 4 = .ok (.aload_n 0, 1) := by decide +kernel
theorem dX7_longCords_5 : decode cX7_longCords 5 = .ok (.getfield 34, 3) := by decide +kernel
theorem dX7_longCords_8 : decode cX7_longCords 8 = .ok (.getfield 101, 3) := by decide +kernel
theorem dX7_longCords_11 : decode cX7_longCords 11 = .ok (.invokevirtual 218, 3) := by decide +kernel
theorem dX7_longCords_14 : decode cX7_longCords 14 = .ok (.ireturn, 1) := by decide +kernel
theorem dX7_change_0 : decode cX7_change 0 = .ok (.aload_n 0, 1) := by decide +kernel
theorem dX7_change_1 : decode cX7_change 1 = .ok (.getfield 69, 3) := by decide +kernel
theorem dX7_change_4 : decode cX7_change 4 = .ok (.aload_n 0, 1) := by decide +kernel
theorem dX7_change_5 : decode cX7_change 5 = .ok (.getfield 34, 3) := by decide +kernel
theorem dX7_change_8 : decode cX7_change 8 = .ok (.getfield 101, 3) := by decide +kernel
theorem dX7_change_11 : decode cX7_change 11 = .ok (.invokevirtual 222, 3) := by decide +kernel
theorem dX7_change_14 : decode cX7_change 14 = .ok (.ireturn, 1) := by decide +kernel
theorem dX7_bestHoles_0 : decode cX7_bestHoles 0 = .ok (.iload_n 1, 1) := by decide +kernel
theorem dX7_bestHoles_1 : decode cX7_bestHoles 1 = .ok (.iconst (-1), 1) := by decide +kernel
theorem dX7_bestHoles_2 : decode cX7_bestHoles 2 = .ok (.if_icmp .eq 16, 3) := by decide +kernel
theorem dX7_bestHoles_5 : decode cX7_bestHoles 5 = .ok (.aload_n 0, 1) := by decide +kernel
theorem dX7_bestHoles_6 : decode cX7_bestHoles 6 = .ok (.getfield 16, 3) := by decide +kernel
theorem dX7_bestHoles_9 : decode cX7_bestHoles 9 = .ok (.iload_n 1, 1) := by decide +kernel
theorem dX7_bestHoles_10 : decode cX7_bestHoles 10 = .ok (.invokevirtual 97, 3) := by decide +kernel
theorem dX7_bestHoles_13 : decode cX7_bestHoles 13 = .ok (.ifCond .ne 5, 3) := by decide +kernel
theorem dX7_bestHoles_16 : decode cX7_bestHoles 16 = .ok (.iconst (-1), 1) := by decide +kernel
theorem dX7_bestHoles_17 : decode cX7_bestHoles 17 = .ok (.ireturn, 1) := by decide +kernel
theorem dX7_bestHoles_18 : decode cX7_bestHoles 18 = .ok (.aload_n 0, 1) := by decide +kernel
theorem dX7_bestHoles_19 : decode cX7_bestHoles 19 = .ok (.getfield 69, 3) := by decide +kernel
theorem dX7_bestHoles_22 : decode cX7_bestHoles 22 = .ok (.invokevirtual 225, 3) := by decide +kernel
theorem dX7_bestHoles_25 : decode cX7_bestHoles 25 = .ok (.iload_n 1, 1) := by decide +kernel
theorem dX7_bestHoles_26 : decode cX7_bestHoles 26 = .ok (.iconst (-1), 1) := by decide +kernel
theorem dX7_bestHoles_27 : decode cX7_bestHoles 27 = .ok (.if_icmp .ne 13, 3) := by decide +kernel
theorem dX7_bestHoles_30 : decode cX7_bestHoles 30 = .ok (.aload_n 0, 1) := by decide +kernel
theorem dX7_bestHoles_31 : decode cX7_bestHoles 31 = .ok (.getfield 69, 3) := by decide +kernel
theorem dX7_bestHoles_34 : decode cX7_bestHoles 34 = .ok (.getfield 227, 3) := by decide +kernel
theorem dX7_bestHoles_37 : decode cX7_bestHoles 37 = .ok (.goto 12, 3) := by decide +kernel
theorem dX7_bestHoles_40 : decode cX7_bestHoles 40 = .ok (.aload_n 0, 1) := by decide +kernel
theorem dX7_bestHoles_41 : decode cX7_bestHoles 41 = .ok (.getfield 69, 3) := by decide +kernel
theorem dX7_bestHoles_44 : decode cX7_bestHoles 44 = .ok (.getfield 228, 3) := by decide +kernel
theorem dX7_bestHoles_47 : decode cX7_bestHoles 47 = .ok (.iload_n 1, 1) := by decide +kernel
theorem dX7_bestHoles_48 : decode cX7_bestHoles 48 = .ok (.iaload, 1) := by decide +kernel
theorem dX7_bestHoles_49 : decode cX7_bestHoles 49 = .ok (.ireturn, 1) := by decide +kernel
theorem dX7_atOnce_0 : decode cX7_atOnce 0 = .ok (.iload_n 1, 1) := by decide +kernel
theorem dX7_atOnce_1 : decode cX7_atOnce 1 = .ok (.ifCond .lt 8, 3) := by decide +kernel
theorem dX7_atOnce_4 : decode cX7_atOnce 4 = .ok (.iload_n 1, 1) := by decide +kernel
theorem dX7_atOnce_5 : decode cX7_atOnce 5 = .ok (.iconst 1, 1) := by decide +kernel
theorem dX7_atOnce_6 : decode cX7_atOnce 6 = .ok (.if_icmp .le 5, 3) := by decide +kernel
theorem dX7_atOnce_9 : decode cX7_atOnce 9 = .ok (.iconst (-1), 1) := by decide +kernel
theorem dX7_atOnce_10 : decode cX7_atOnce 10 = .ok (.ireturn, 1) := by decide +kernel
theorem dX7_atOnce_11 : decode cX7_atOnce 11 = .ok (.iconst 0, 1) := by decide +kernel
theorem dX7_atOnce_12 : decode cX7_atOnce 12 = .ok (.istore_n 2, 1) := by decide +kernel
theorem dX7_atOnce_13 : decode cX7_atOnce 13 = .ok (.iconst 0, 1) := by decide +kernel
theorem dX7_atOnce_14 : decode cX7_atOnce 14 = .ok (.istore_n 3, 1) := by decide +kernel
theorem dX7_atOnce_15 : decode cX7_atOnce 15 = .ok (.iconst 0, 1) := by decide +kernel
theorem dX7_atOnce_16 : decode cX7_atOnce 16 = .ok (.istore 4, 2) := by decide +kernel
theorem dX7_atOnce_18 : decode cX7_atOnce 18 = .ok (.iload 4, 2) := by decide +kernel
theorem dX7_atOnce_20 : decode cX7_atOnce 20 = .ok (.bipush 40, 2) := by decide +kernel
theorem dX7_atOnce_22 : decode cX7_atOnce 22 = .ok (.if_icmp .gt 32, 3) := by decide +kernel
theorem dX7_atOnce_25 : decode cX7_atOnce 25 = .ok (.aload_n 0, 1) := by decide +kernel
theorem dX7_atOnce_26 : decode cX7_atOnce 26 = .ok (.getfield 16, 3) := by decide +kernel
theorem dX7_atOnce_29 : decode cX7_atOnce 29 = .ok (.iload 4, 2) := by decide +kernel
theorem dX7_atOnce_31 : decode cX7_atOnce 31 = .ok (.invokevirtual 229, 3) := by decide +kernel
theorem dX7_atOnce_34 : decode cX7_atOnce 34 = .ok (.istore 5, 2) := by decide +kernel
theorem dX7_atOnce_36 : decode cX7_atOnce 36 = .ok (.iload 5, 2) := by decide +kernel
theorem dX7_atOnce_38 : decode cX7_atOnce 38 = .ok (.iload_n 3, 1) := by decide +kernel
theorem dX7_atOnce_39 : decode cX7_atOnce 39 = .ok (.if_icmp .le 9, 3) := by decide +kernel
theorem dX7_atOnce_42 : decode cX7_atOnce 42 = .ok (.iload 5, 2) := by decide +kernel
theorem dX7_atOnce_44 : decode cX7_atOnce 44 = .ok (.istore_n 3, 1) := by decide +kernel
theorem dX7_atOnce_45 : decode cX7_atOnce 45 = .ok (.iload 4, 2) := by decide +kernel
theorem dX7_atOnce_47 : decode cX7_atOnce 47 = .ok (.istore_n 2, 1) := by decide +kernel
theorem dX7_atOnce_48 : decode cX7_atOnce 48 = .ok (.iinc 4 1, 3) := by decide +kernel
theorem dX7_atOnce_51 : decode cX7_atOnce 51 = .ok (.goto (-33), 3) := by decide +kernel
theorem dX7_atOnce_54 : decode cX7_atOnce 54 = .ok (.iload_n 1, 1) := by decide +kernel
theorem dX7_atOnce_55 : decode cX7_atOnce 55 = .ok (.ifCond .ne 7, 3) := by decide +kernel
theorem dX7_atOnce_58 : decode cX7_atOnce 58 = .ok (.iload_n 2, 1) := by decide +kernel
theorem dX7_atOnce_59 : decode cX7_atOnce 59 = .ok (.goto 4, 3) := by decide +kernel
theorem dX7_atOnce_62 : decode cX7_atOnce 62 = .ok (.iload_n 3, 1) := by decide +kernel
theorem dX7_atOnce_63 : decode cX7_atOnce 63 = .ok (.ireturn, 1) := by decide +kernel
theorem dX7_under_0 : decode cX7_under 0 = .ok (.aload_n 0, 1) := by decide +kernel
theorem dX7_under_1 : decode cX7_under 1 = .ok (.getfield 16, 3) := by decide +kernel
theorem dX7_under_4 : decode cX7_under 4 = .ok (.iload_n 1, 1) := by decide +kernel
theorem dX7_under_5 : decode cX7_under 5 = .ok (.invokevirtual 107, 3) := by decide +kernel
theorem dX7_under_8 : decode cX7_under 8 = .ok (.ifCond .ne 5, 3) := by decide +kernel
theorem dX7_under_11 : decode cX7_under 11 = .ok (.iconst (-1), 1) := by decide +kernel
theorem dX7_under_12 : decode cX7_under 12 = .ok (.ireturn, 1) := by decide +kernel
theorem dX7_under_13 : decode cX7_under 13 = .ok (.aload_n 0, 1) := by decide +kernel
theorem dX7_under_14 : decode cX7_under 14 = .ok (.getfield 34, 3) := by decide +kernel
theorem dX7_under_17 : decode cX7_under 17 = .ok (.iload_n 1, 1) := by decide +kernel
theorem dX7_under_18 : decode cX7_under 18 = .ok (.invokevirtual 232, 3) := by decide +kernel
theorem dX7_under_21 : decode cX7_under 21 = .ok (.ireturn, 1) := by decide +kernel
theorem dX7_odds_0 : decode cX7_odds 0 = .ok (.aload_n 0, 1) := by decide +kernel
theorem dX7_odds_1 : decode cX7_odds 1 = .ok (.getfield 16, 3) := by decide +kernel
theorem dX7_odds_4 : decode cX7_odds 4 = .ok (.iload_n 1, 1) := by decide +kernel
theorem dX7_odds_5 : decode cX7_odds 5 = .ok (.invokevirtual 97, 3) := by decide +kernel
theorem dX7_odds_8 : decode cX7_odds 8 = .ok (.ifCond .eq 34, 3) := by decide +kernel
theorem dX7_odds_11 : decode cX7_odds 11 = .ok (.iload_n 2, 1) := by decide +kernel
theorem dX7_odds_12 : decode cX7_odds 12 = .ok (.ifCond .lt 30, 3) := by decide +kernel
theorem dX7_odds_15 : decode cX7_odds 15 = .ok (.iload_n 2, 1) := by decide +kernel
theorem dX7_odds_16 : decode cX7_odds 16 = .ok (.bipush 10, 2) := by decide +kernel
theorem dX7_odds_18 : decode cX7_odds 18 = .ok (.if_icmp .gt 24, 3) := by decide +kernel
theorem dX7_odds_21 : decode cX7_odds 21 = .ok (.iload_n 3, 1) := by decide +kernel
theorem dX7_odds_22 : decode cX7_odds 22 = .ok (.ifCond .lt 20, 3) := by decide +kernel
theorem dX7_odds_25 : decode cX7_odds 25 = .ok (.iload_n 3, 1) := by decide +kernel
theorem dX7_odds_26 : decode cX7_odds 26 = .ok (.bipush 40, 2) := by decide +kernel
theorem dX7_odds_28 : decode cX7_odds 28 = .ok (.if_icmp .gt 14, 3) := by decide +kernel
theorem dX7_odds_31 : decode cX7_odds 31 = .ok (.iload 4, 2) := by decide +kernel
theorem dX7_odds_33 : decode cX7_odds 33 = .ok (.ifCond .lt 9, 3) := by decide +kernel
theorem dX7_odds_36 : decode cX7_odds 36 = .ok (.iload 4, 2) := by decide +kernel
theorem dX7_odds_38 : decode cX7_odds 38 = .ok (.iconst 1, 1) := by decide +kernel
theorem dX7_odds_39 : decode cX7_odds 39 = .ok (.if_icmp .le 5, 3) := by decide +kernel
theorem dX7_odds_42 : decode cX7_odds 42 = .ok (.iconst (-1), 1) := by decide +kernel
theorem dX7_odds_43 : decode cX7_odds 43 = .ok (.ireturn, 1) := by decide +kernel
theorem dX7_odds_44 : decode cX7_odds 44 = .ok (.aload_n 0, 1) := by decide +kernel
theorem dX7_odds_45 : decode cX7_odds 45 = .ok (.aload_n 0, 1) := by decide +kernel
theorem dX7_odds_46 : decode cX7_odds 46 = .ok (.getfield 34, 3) := by decide +kernel
theorem dX7_odds_49 : decode cX7_odds 49 = .ok (.iload_n 1, 1) := by decide +kernel
theorem dX7_odds_50 : decode cX7_odds 50 = .ok (.invokevirtual 104, 3) := by decide +kernel
theorem dX7_odds_53 : decode cX7_odds 53 = .ok (.iload_n 2, 1) := by decide +kernel
theorem dX7_odds_54 : decode cX7_odds 54 = .ok (.iload_n 3, 1) := by decide +kernel
theorem dX7_odds_55 : decode cX7_odds 55 = .ok (.invokevirtual 235, 3) := by decide +kernel
theorem dX7_odds_58 : decode cX7_odds 58 = .ok (.istore 5, 2) := by decide +kernel
theorem dX7_odds_60 : decode cX7_odds 60 = .ok (.iload 5, 2) := by decide +kernel
theorem dX7_odds_62 : decode cX7_odds 62 = .ok (.invokestatic 239, 3) := by decide +kernel
theorem dX7_odds_65 : decode cX7_odds 65 = .ok (.istore 6, 2) := by decide +kernel
theorem dX7_odds_67 : decode cX7_odds 67 = .ok (.iload 4, 2) := by decide +kernel
theorem dX7_odds_69 : decode cX7_odds 69 = .ok (.ifCond .ne 8, 3) := by decide +kernel
theorem dX7_odds_72 : decode cX7_odds 72 = .ok (.iload 5, 2) := by decide +kernel
theorem dX7_odds_74 : decode cX7_odds 74 = .ok (.goto 5, 3) := by decide +kernel
theorem dX7_odds_77 : decode cX7_odds 77 = .ok (.bipush 10, 2) := by decide +kernel
theorem dX7_odds_79 : decode cX7_odds 79 = .ok (.iload 6, 2) := by decide +kernel
theorem dX7_odds_81 : decode cX7_odds 81 = .ok (.idiv, 1) := by decide +kernel
theorem dX7_odds_82 : decode cX7_odds 82 = .ok (.ireturn, 1) := by decide +kernel
theorem dX7_tenthsFree_0 : decode cX7_tenthsFree 0 = .ok (.aload_n 0, 1) := by decide +kernel
theorem dX7_tenthsFree_1 : decode cX7_tenthsFree 1 = .ok (.getfield 16, 3) := by decide +kernel
theorem dX7_tenthsFree_4 : decode cX7_tenthsFree 4 = .ok (.iload_n 1, 1) := by decide +kernel
theorem dX7_tenthsFree_5 : decode cX7_tenthsFree 5 = .ok (.invokevirtual 107, 3) := by decide +kernel
theorem dX7_tenthsFree_8 : decode cX7_tenthsFree 8 = .ok (.ifCond .eq 18, 3) := by decide +kernel
theorem dX7_tenthsFree_11 : decode cX7_tenthsFree 11 = .ok (.iload_n 3, 1) := by decide +kernel
theorem dX7_tenthsFree_12 : decode cX7_tenthsFree 12 = .ok (.iconst 2, 1) := by decide +kernel
theorem dX7_tenthsFree_13 : decode cX7_tenthsFree 13 = .ok (.aload_n 0, 1) := by decide +kernel
theorem dX7_tenthsFree_14 : decode cX7_tenthsFree 14 = .ok (.getfield 34, 3) := by decide +kernel
theorem dX7_tenthsFree_17 : decode cX7_tenthsFree 17 = .ok (.getfield 128, 3) := by decide +kernel
theorem dX7_tenthsFree_20 : decode cX7_tenthsFree 20 = .ok (.iload_n 1, 1) := by decide +kernel
theorem dX7_tenthsFree_21 : decode cX7_tenthsFree 21 = .ok (.iaload, 1) := by decide +kernel
theorem dX7_tenthsFree_22 : decode cX7_tenthsFree 22 = .ok (.imul, 1) := by decide +kernel
theorem dX7_tenthsFree_23 : decode cX7_tenthsFree 23 = .ok (.if_icmp .lt 6, 3) := by decide +kernel
theorem dX7_tenthsFree_26 : decode cX7_tenthsFree 26 = .ok (.bipush 10, 2) := by decide +kernel
theorem dX7_tenthsFree_28 : decode cX7_tenthsFree 28 = .ok (.ireturn, 1) := by decide +kernel
theorem dX7_tenthsFree_29 : decode cX7_tenthsFree 29 = .ok (.iload_n 3, 1) := by decide +kernel
theorem dX7_tenthsFree_30 : decode cX7_tenthsFree 30 = .ok (.aload_n 0, 1) := by decide +kernel
theorem dX7_tenthsFree_31 : decode cX7_tenthsFree 31 = .ok (.getfield 34, 3) := by decide +kernel
theorem dX7_tenthsFree_34 : decode cX7_tenthsFree 34 = .ok (.getfield 128, 3) := by decide +kernel
theorem dX7_tenthsFree_37 : decode cX7_tenthsFree 37 = .ok (.iload_n 1, 1) := by decide +kernel
theorem dX7_tenthsFree_38 : decode cX7_tenthsFree 38 = .ok (.iaload, 1) := by decide +kernel
theorem dX7_tenthsFree_39 : decode cX7_tenthsFree 39 = .ok (.if_icmp .lt 10, 3) := by decide +kernel
theorem dX7_tenthsFree_42 : decode cX7_tenthsFree 42 = .ok (.bipush 10, 2) := by decide +kernel
theorem dX7_tenthsFree_44 : decode cX7_tenthsFree 44 = .ok (.iload_n 2, 1) := by decide +kernel
theorem dX7_tenthsFree_45 : decode cX7_tenthsFree 45 = .ok (.isub, 1) := by decide +kernel
theorem dX7_tenthsFree_46 : decode cX7_tenthsFree 46 = .ok (.goto 4, 3) := by decide +kernel
theorem dX7_tenthsFree_49 : decode cX7_tenthsFree 49 = .ok (.iconst 0, 1) := by decide +kernel
theorem dX7_tenthsFree_50 : decode cX7_tenthsFree 50 = .ok (.ireturn, 1) := by decide +kernel
theorem dX7_commonDivisor_0 : decode cX7_commonDivisor 0 = .ok (.bipush 10, 2) := by decide +kernel
theorem dX7_commonDivisor_2 : decode cX7_commonDivisor 2 = .ok (.istore_n 1, 1) := by decide +kernel
theorem dX7_commonDivisor_3 : decode cX7_commonDivisor 3 = .ok (.iload_n 1, 1) := by decide +kernel
theorem dX7_commonDivisor_4 : decode cX7_commonDivisor 4 = .ok (.iconst 1, 1) := by decide +kernel
theorem dX7_commonDivisor_5 : decode cX7_commonDivisor 5 = .ok (.if_icmp .le 24, 3) := by decide +kernel
theorem dX7_commonDivisor_8 : decode cX7_commonDivisor 8 = .ok (.iload_n 0, 1) := by decide +kernel
theorem dX7_commonDivisor_9 : decode cX7_commonDivisor 9 = .ok (.iload_n 1, 1) := by decide +kernel
theorem dX7_commonDivisor_10 : decode cX7_commonDivisor 10 = .ok (.irem, 1) := by decide +kernel
theorem dX7_commonDivisor_11 : decode cX7_commonDivisor 11 = .ok (.ifCond .ne 12, 3) := by decide +kernel
theorem dX7_commonDivisor_14 : decode cX7_commonDivisor 14 = .ok (.bipush 10, 2) := by decide +kernel
theorem dX7_commonDivisor_16 : decode cX7_commonDivisor 16 = .ok (.iload_n 1, 1) := by decide +kernel
theorem dX7_commonDivisor_17 : decode cX7_commonDivisor 17 = .ok (.irem, 1) := by decide +kernel
theorem dX7_commonDivisor_18 : decode cX7_commonDivisor 18 = .ok (.ifCond .ne 5, 3) := by decide +kernel
theorem dX7_commonDivisor_21 : decode cX7_commonDivisor 21 = .ok (.iload_n 1, 1) := by decide +kernel
theorem dX7_commonDivisor_22 : decode cX7_commonDivisor 22 = .ok (.ireturn, 1) := by decide +kernel
theorem dX7_commonDivisor_23 : decode cX7_commonDivisor 23 = .ok (.iinc 1 (-1), 3) := by decide +kernel
theorem dX7_commonDivisor_26 : decode cX7_commonDivisor 26 = .ok (.goto (-23), 3) := by decide +kernel
theorem dX7_commonDivisor_29 : decode cX7_commonDivisor 29 = .ok (.iconst 1, 1) := by decide +kernel
theorem dX7_commonDivisor_30 : decode cX7_commonDivisor 30 = .ok (.ireturn, 1) := by decide +kernel
theorem dX7_rate_0 : decode cX7_rate 0 = .ok (.aload_n 0, 1) := by decide +kernel
theorem dX7_rate_1 : decode cX7_rate 1 = .ok (.getfield 16, 3) := by decide +kernel
theorem dX7_rate_4 : decode cX7_rate 4 = .ok (.iload_n 2, 1) := by decide +kernel
theorem dX7_rate_5 : decode cX7_rate 5 = .ok (.invokevirtual 107, 3) := by decide +kernel
theorem dX7_rate_8 : decode cX7_rate 8 = .ok (.ifCond .ne 6, 3) := by decide +kernel
theorem dX7_rate_11 : decode cX7_rate 11 = .ok (.ldc 242, 2) := by decide +kernel
theorem dX7_rate_13 : decode cX7_rate 13 = .ok (.ireturn, 1) := by decide +kernel
theorem dX7_rate_14 : decode cX7_rate 14 = .ok (.iload_n 1, 1) := by decide +kernel
theorem dX7_rate_15 : decode cX7_rate 15 = .ok (.tableswitch 73 0 5 #[37, 43, 49, 55, 61, 67], 37) := by decide +kernel
theorem dX7_rate_52 : decode cX7_rate 52 = .ok (.aload_n 0, 1) := by decide +kernel
theorem dX7_rate_53 : decode cX7_rate 53 = .ok (.iload_n 2, 1) := by decide +kernel
theorem dX7_rate_54 : decode cX7_rate 54 = .ok (.invokevirtual 243, 3) := by decide +kernel
theorem dX7_rate_57 : decode cX7_rate 57 = .ok (.ireturn, 1) := by decide +kernel
theorem dX7_rate_58 : decode cX7_rate 58 = .ok (.aload_n 0, 1) := by decide +kernel
theorem dX7_rate_59 : decode cX7_rate 59 = .ok (.iload_n 2, 1) := by decide +kernel
theorem dX7_rate_60 : decode cX7_rate 60 = .ok (.invokevirtual 246, 3) := by decide +kernel
theorem dX7_rate_63 : decode cX7_rate 63 = .ok (.ireturn, 1) := by decide +kernel
theorem dX7_rate_64 : decode cX7_rate 64 = .ok (.aload_n 0, 1) := by decide +kernel
theorem dX7_rate_65 : decode cX7_rate 65 = .ok (.iload_n 2, 1) := by decide +kernel
theorem dX7_rate_66 : decode cX7_rate 66 = .ok (.invokevirtual 249, 3) := by decide +kernel
theorem dX7_rate_69 : decode cX7_rate 69 = .ok (.ireturn, 1) := by decide +kernel
theorem dX7_rate_70 : decode cX7_rate 70 = .ok (.aload_n 0, 1) := by decide +kernel
theorem dX7_rate_71 : decode cX7_rate 71 = .ok (.iload_n 2, 1) := by decide +kernel
theorem dX7_rate_72 : decode cX7_rate 72 = .ok (.invokevirtual 252, 3) := by decide +kernel
theorem dX7_rate_75 : decode cX7_rate 75 = .ok (.ireturn, 1) := by decide +kernel
theorem dX7_rate_76 : decode cX7_rate 76 = .ok (.aload_n 0, 1) := by decide +kernel
theorem dX7_rate_77 : decode cX7_rate 77 = .ok (.iload_n 2, 1) := by decide +kernel
theorem dX7_rate_78 : decode cX7_rate 78 = .ok (.invokevirtual 255, 3) := by decide +kernel
theorem dX7_rate_81 : decode cX7_rate 81 = .ok (.ireturn, 1) := by decide +kernel
theorem dX7_rate_82 : decode cX7_rate 82 = .ok (.aload_n 0, 1) := by decide +kernel
theorem dX7_rate_83 : decode cX7_rate 83 = .ok (.iload_n 2, 1) := by decide +kernel
theorem dX7_rate_84 : decode cX7_rate 84 = .ok (.invokevirtual 258, 3) := by decide +kernel
theorem dX7_rate_87 : decode cX7_rate 87 = .ok (.ireturn, 1) := by decide +kernel
theorem dX7_rate_88 : decode cX7_rate 88 = .ok (.ldc 242, 2) := by decide +kernel
theorem dX7_rate_90 : decode cX7_rate 90 = .ok (.ireturn, 1) := by decide +kernel
theorem dX7_asCall_0 : decode cX7_asCall 0 = .ok (.aload_n 0, 1) := by decide +kernel
theorem dX7_asCall_1 : decode cX7_asCall 1 = .ok (.dup, 1) := by decide +kernel
theorem dX7_asCall_2 : decode cX7_asCall 2 = .ok (.getfield 77, 3) := by decide +kernel
theorem dX7_asCall_5 : decode cX7_asCall 5 = .ok (.lconst 1, 1) := by decide +kernel
theorem dX7_asCall_6 : decode cX7_asCall 6 = .ok (.ladd, 1) := by decide +kernel
theorem dX7_asCall_7 : decode cX7_asCall 7 = .ok (.putfield 77, 3) := by decide +kernel
theorem dX7_asCall_10 : decode cX7_asCall 10 = .ok (.aload_n 0, 1) := by decide +kernel
theorem dX7_asCall_11 : decode cX7_asCall 11 = .ok (.getfield 16, 3) := by decide +kernel
theorem dX7_asCall_14 : decode cX7_asCall 14 = .ok (.getfield 122, 3) := by decide +kernel
theorem dX7_asCall_17 : decode cX7_asCall 17 = .ok (.iload_n 1, 1) := by decide +kernel
theorem dX7_asCall_18 : decode cX7_asCall 18 = .ok (.iaload, 1) := by decide +kernel
theorem dX7_asCall_19 : decode cX7_asCall 19 = .ok (.ireturn, 1) := by decide +kernel
theorem dX7_asDoctor_0 : decode cX7_asDoctor 0 = .ok (.aload_n 0, 1) := by decide +kernel
theorem dX7_asDoctor_1 : decode cX7_asDoctor 1 = .ok (.dup, 1) := by decide +kernel
theorem dX7_asDoctor_2 : decode cX7_asDoctor 2 = .ok (.getfield 77, 3) := by decide +kernel
theorem dX7_asDoctor_5 : decode cX7_asDoctor 5 = .ok (.ldc2_w 261, 3) := by decide +kernel
theorem dX7_asDoctor_8 : decode cX7_asDoctor 8 = .ok (.ladd, 1) := by decide +kernel
theorem dX7_asDoctor_9 : decode cX7_asDoctor 9 = .ok (.putfield 77, 3) := by decide +kernel
theorem dX7_asDoctor_12 : decode cX7_asDoctor 12 = .ok (.aload_n 0, 1) := by decide +kernel
theorem dX7_asDoctor_13 : decode cX7_asDoctor 13 = .ok (.iload_n 1, 1) := by decide +kernel
theorem dX7_asDoctor_14 : decode cX7_asDoctor 14 = .ok (.invokevirtual 243, 3) := by decide +kernel
theorem dX7_asDoctor_17 : decode cX7_asDoctor 17 = .ok (.aload_n 0, 1) := by decide +kernel
theorem dX7_asDoctor_18 : decode cX7_asDoctor 18 = .ok (.getfield 34, 3) := by decide +kernel
theorem dX7_asDoctor_21 : decode cX7_asDoctor 21 = .ok (.getfield 131, 3) := by decide +kernel
theorem dX7_asDoctor_24 : decode cX7_asDoctor 24 = .ok (.iload_n 1, 1) := by decide +kernel
theorem dX7_asDoctor_25 : decode cX7_asDoctor 25 = .ok (.iaload, 1) := by decide +kernel
theorem dX7_asDoctor_26 : decode cX7_asDoctor 26 = .ok (.iadd, 1) := by decide +kernel
theorem dX7_asDoctor_27 : decode cX7_asDoctor 27 = .ok (.ireturn, 1) := by decide +kernel
theorem dX7_asGossip_0 : decode cX7_asGossip 0 = .ok (.aload_n 0, 1) := by decide +kernel
theorem dX7_asGossip_1 : decode cX7_asGossip 1 = .ok (.dup, 1) := by decide +kernel
theorem dX7_asGossip_2 : decode cX7_asGossip 2 = .ok (.getfield 77, 3) := by decide +kernel
theorem dX7_asGossip_5 : decode cX7_asGossip 5 = .ok (.ldc2_w 263, 3) := by decide +kernel
theorem dX7_asGossip_8 : decode cX7_asGossip 8 = .ok (.ladd, 1) := by decide +kernel
theorem dX7_asGossip_9 : decode cX7_asGossip 9 = .ok (.putfield 77, 3) := by decide +kernel
theorem dX7_asGossip_12 : decode cX7_asGossip 12 = .ok (.aload_n 0, 1) := by decide +kernel
theorem dX7_asGossip_13 : decode cX7_asGossip 13 = .ok (.iload_n 1, 1) := by decide +kernel
theorem dX7_asGossip_14 : decode cX7_asGossip 14 = .ok (.invokevirtual 243, 3) := by decide +kernel
theorem dX7_asGossip_17 : decode cX7_asGossip 17 = .ok (.aload_n 0, 1) := by decide +kernel
theorem dX7_asGossip_18 : decode cX7_asGossip 18 = .ok (.getfield 16, 3) := by decide +kernel
theorem dX7_asGossip_21 : decode cX7_asGossip 21 = .ok (.getfield 119, 3) := by decide +kernel
theorem dX7_asGossip_24 : decode cX7_asGossip 24 = .ok (.iload_n 1, 1) := by decide +kernel
theorem dX7_asGossip_25 : decode cX7_asGossip 25 = .ok (.iaload, 1) := by decide +kernel
theorem dX7_asGossip_26 : decode cX7_asGossip 26 = .ok (.isub, 1) := by decide +kernel
theorem dX7_asGossip_27 : decode cX7_asGossip 27 = .ok (.ireturn, 1) := by decide +kernel
theorem dX7_asFire_0 : decode cX7_asFire 0 = .ok (.aload_n 0, 1) := by decide +kernel
theorem dX7_asFire_1 : decode cX7_asFire 1 = .ok (.dup, 1) := by decide +kernel
theorem dX7_asFire_2 : decode cX7_asFire 2 = .ok (.getfield 77, 3) := by decide +kernel
theorem dX7_asFire_5 : decode cX7_asFire 5 = .ok (.ldc2_w 265, 3) := by decide +kernel
theorem dX7_asFire_8 : decode cX7_asFire 8 = .ok (.ladd, 1) := by decide +kernel
theorem dX7_asFire_9 : decode cX7_asFire 9 = .ok (.putfield 77, 3) := by decide +kernel
theorem dX7_asFire_12 : decode cX7_asFire 12 = .ok (.iconst 2, 1) := by decide +kernel
theorem dX7_asFire_13 : decode cX7_asFire 13 = .ok (.aload_n 0, 1) := by decide +kernel
theorem dX7_asFire_14 : decode cX7_asFire 14 = .ok (.iload_n 1, 1) := by decide +kernel
theorem dX7_asFire_15 : decode cX7_asFire 15 = .ok (.invokevirtual 246, 3) := by decide +kernel
theorem dX7_asFire_18 : decode cX7_asFire 18 = .ok (.imul, 1) := by decide +kernel
theorem dX7_asFire_19 : decode cX7_asFire 19 = .ok (.ireturn, 1) := by decide +kernel
theorem dX7_asWife_0 : decode cX7_asWife 0 = .ok (.aload_n 0, 1) := by decide +kernel
theorem dX7_asWife_1 : decode cX7_asWife 1 = .ok (.dup, 1) := by decide +kernel
theorem dX7_asWife_2 : decode cX7_asWife 2 = .ok (.getfield 77, 3) := by decide +kernel
theorem dX7_asWife_5 : decode cX7_asWife 5 = .ok (.ldc2_w 267, 3) := by decide +kernel
theorem dX7_asWife_8 : decode cX7_asWife 8 = .ok (.ladd, 1) := by decide +kernel
theorem dX7_asWife_9 : decode cX7_asWife 9 = .ok (.putfield 77, 3) := by decide +kernel
theorem dX7_asWife_12 : decode cX7_asWife 12 = .ok (.aload_n 0, 1) := by decide +kernel
theorem dX7_asWife_13 : decode cX7_asWife 13 = .ok (.iload_n 1, 1) := by decide +kernel
theorem dX7_asWife_14 : decode cX7_asWife 14 = .ok (.invokevirtual 249, 3) := by decide +kernel
theorem dX7_asWife_17 : decode cX7_asWife 17 = .ok (.iload_n 1, 1) := by decide +kernel
theorem dX7_asWife_18 : decode cX7_asWife 18 = .ok (.iadd, 1) := by decide +kernel
theorem dX7_asWife_19 : decode cX7_asWife 19 = .ok (.ireturn, 1) := by decide +kernel
theorem dX7_asWrong_0 : decode cX7_asWrong 0 = .ok (.aload_n 0, 1) := by decide +kernel
theorem dX7_asWrong_1 : decode cX7_asWrong 1 = .ok (.dup, 1) := by decide +kernel
theorem dX7_asWrong_2 : decode cX7_asWrong 2 = .ok (.getfield 77, 3) := by decide +kernel
theorem dX7_asWrong_5 : decode cX7_asWrong 5 = .ok (.ldc2_w 269, 3) := by decide +kernel
theorem dX7_asWrong_8 : decode cX7_asWrong 8 = .ok (.ladd, 1) := by decide +kernel
theorem dX7_asWrong_9 : decode cX7_asWrong 9 = .ok (.putfield 77, 3) := by decide +kernel
theorem dX7_asWrong_12 : decode cX7_asWrong 12 = .ok (.aload_n 0, 1) := by decide +kernel
theorem dX7_asWrong_13 : decode cX7_asWrong 13 = .ok (.iload_n 1, 1) := by decide +kernel
theorem dX7_asWrong_14 : decode cX7_asWrong 14 = .ok (.invokevirtual 243, 3) := by decide +kernel
theorem dX7_asWrong_17 : decode cX7_asWrong 17 = .ok (.aload_n 0, 1) := by decide +kernel
theorem dX7_asWrong_18 : decode cX7_asWrong 18 = .ok (.getfield 16, 3) := by decide +kernel
theorem dX7_asWrong_21 : decode cX7_asWrong 21 = .ok (.iload_n 1, 1) := by decide +kernel
theorem dX7_asWrong_22 : decode cX7_asWrong 22 = .ok (.aload_n 0, 1) := by decide +kernel
theorem dX7_asWrong_23 : decode cX7_asWrong 23 = .ok (.getfield 34, 3) := by decide +kernel
theorem dX7_asWrong_26 : decode cX7_asWrong 26 = .ok (.getfield 101, 3) := by decide +kernel
theorem dX7_asWrong_29 : decode cX7_asWrong 29 = .ok (.invokevirtual 271, 3) := by decide +kernel
theorem dX7_asWrong_32 : decode cX7_asWrong 32 = .ok (.iadd, 1) := by decide +kernel
theorem dX7_asWrong_33 : decode cX7_asWrong 33 = .ok (.ireturn, 1) := by decide +kernel
theorem dX7_keep_0 : decode cX7_keep 0 = .ok (.iload_n 1, 1) := by decide +kernel
theorem dX7_keep_1 : decode cX7_keep 1 = .ok (.invokestatic 275, 3) := by decide +kernel
theorem dX7_keep_4 : decode cX7_keep 4 = .ok (.ifCond .ne 5, 3) := by decide +kernel
theorem dX7_keep_7 : decode cX7_keep 7 = .ok (.iconst (-1), 1) := by decide +kernel
theorem dX7_keep_8 : decode cX7_keep 8 = .ok (.ireturn, 1) := by decide +kernel
theorem dX7_keep_9 : decode cX7_keep 9 = .ok (.aload_n 0, 1) := by decide +kernel
theorem dX7_keep_10 : decode cX7_keep 10 = .ok (.getfield 34, 3) := by decide +kernel
theorem dX7_keep_13 : decode cX7_keep 13 = .ok (.aload_n 0, 1) := by decide +kernel
theorem dX7_keep_14 : decode cX7_keep 14 = .ok (.getfield 45, 3) := by decide +kernel
theorem dX7_keep_17 : decode cX7_keep 17 = .ok (.iload_n 1, 1) := by decide +kernel
theorem dX7_keep_18 : decode cX7_keep 18 = .ok (.bipush 28, 2) := by decide +kernel
theorem dX7_keep_20 : decode cX7_keep 20 = .ok (.imul, 1) := by decide +kernel
theorem dX7_keep_21 : decode cX7_keep 21 = .ok (.invokevirtual 278, 3) := by decide +kernel
theorem dX7_keep_24 : decode cX7_keep 24 = .ok (.aload_n 0, 1) := by decide +kernel
theorem dX7_keep_25 : decode cX7_keep 25 = .ok (.getfield 48, 3) := by decide +kernel
theorem dX7_keep_28 : decode cX7_keep 28 = .ok (.iload_n 1, 1) := by decide +kernel
theorem dX7_keep_29 : decode cX7_keep 29 = .ok (.iconst 1, 1) := by decide +kernel
theorem dX7_keep_30 : decode cX7_keep 30 = .ok (.bastore, 1) := by decide +kernel
theorem dX7_keep_31 : decode cX7_keep 31 = .ok (.aload_n 0, 1) := by decide +kernel
theorem dX7_keep_32 : decode cX7_keep 32 = .ok (.getfield 34, 3) := by decide +kernel
theorem dX7_keep_35 : decode cX7_keep 35 = .ok (.getfield 134, 3) := by decide +kernel
theorem dX7_keep_38 : decode cX7_keep 38 = .ok (.ireturn, 1) := by decide +kernel
theorem dX7_back_0 : decode cX7_back 0 = .ok (.iload_n 1, 1) := by decide +kernel
theorem dX7_back_1 : decode cX7_back 1 = .ok (.invokestatic 275, 3) := by decide +kernel
theorem dX7_back_4 : decode cX7_back 4 = .ok (.ifCond .ne 5, 3) := by decide +kernel
theorem dX7_back_7 : decode cX7_back 7 = .ok (.iconst (-1), 1) := by decide +kernel
theorem dX7_back_8 : decode cX7_back 8 = .ok (.ireturn, 1) := by decide +kernel
theorem dX7_back_9 : decode cX7_back 9 = .ok (.aload_n 0, 1) := by decide +kernel
theorem dX7_back_10 : decode cX7_back 10 = .ok (.getfield 48, 3) := by decide +kernel
theorem dX7_back_13 : decode cX7_back 13 = .ok (.iload_n 1, 1) := by decide +kernel
theorem dX7_back_14 : decode cX7_back 14 = .ok (.baload, 1) := by decide +kernel
theorem dX7_back_15 : decode cX7_back 15 = .ok (.ifCond .ne 6, 3) := by decide +kernel
theorem dX7_back_18 : decode cX7_back 18 = .ok (.bipush (-2), 2) := by decide +kernel
theorem dX7_back_20 : decode cX7_back 20 = .ok (.ireturn, 1) := by decide +kernel
theorem dX7_back_21 : decode cX7_back 21 = .ok (.aload_n 0, 1) := by decide +kernel
theorem dX7_back_22 : decode cX7_back 22 = .ok (.getfield 34, 3) := by decide +kernel
theorem dX7_back_25 : decode cX7_back 25 = .ok (.aload_n 0, 1) := by decide +kernel
theorem dX7_back_26 : decode cX7_back 26 = .ok (.getfield 45, 3) := by decide +kernel
theorem dX7_back_29 : decode cX7_back 29 = .ok (.iload_n 1, 1) := by decide +kernel
theorem dX7_back_30 : decode cX7_back 30 = .ok (.bipush 28, 2) := by decide +kernel
theorem dX7_back_32 : decode cX7_back 32 = .ok (.imul, 1) := by decide +kernel
theorem dX7_back_33 : decode cX7_back 33 = .ok (.invokevirtual 282, 3) := by decide +kernel
theorem dX7_back_36 : decode cX7_back 36 = .ok (.aload_n 0, 1) := by decide +kernel
theorem dX7_back_37 : decode cX7_back 37 = .ok (.getfield 41, 3) := by decide +kernel
theorem dX7_back_40 : decode cX7_back 40 = .ok (.invokevirtual 94, 3) := by decide +kernel
theorem dX7_back_43 : decode cX7_back 43 = .ok (.aload_n 0, 1) := by decide +kernel
theorem dX7_back_44 : decode cX7_back 44 = .ok (.getfield 34, 3) := by decide +kernel
theorem dX7_back_47 : decode cX7_back 47 = .ok (.getfield 134, 3) := by decide +kernel
theorem dX7_back_50 : decode cX7_back 50 = .ok (.ireturn, 1) := by decide +kernel
theorem dX7_isImage_0 : decode cX7_isImage 0 = .ok (.iload_n 0, 1) := by decide +kernel
theorem dX7_isImage_1 : decode cX7_isImage 1 = .ok (.ifCond .lt 12, 3) := by decide +kernel
theorem dX7_isImage_4 : decode cX7_isImage 4 = .ok (.iload_n 0, 1) := by decide +kernel
theorem dX7_isImage_5 : decode cX7_isImage 5 = .ok (.iconst 2, 1) := by decide +kernel
theorem dX7_isImage_6 : decode cX7_isImage 6 = .ok (.if_icmp .ge 7, 3) := by decide +kernel
theorem dX7_isImage_9 : decode cX7_isImage 9 = .ok (.iconst 1, 1) := by decide +kernel
theorem dX7_isImage_10 : decode cX7_isImage 10 = .ok (.goto 4, 3) := by decide +kernel
theorem dX7_isImage_13 : decode cX7_isImage 13 = .ok (.iconst 0, 1) := by decide +kernel
theorem dX7_isImage_14 : decode cX7_isImage 14 = .ok (.ireturn, 1) := by decide +kernel
theorem dX7_count_0 : decode cX7_count 0 = .ok (.iload_n 1, 1) := by decide +kernel
theorem dX7_count_1 : decode cX7_count 1 = .ok (.tableswitch 60 0 3 #[31, 39, 47, 55], 31) := by decide +kernel
theorem dX7_count_32 : decode cX7_count 32 = .ok (.aload_n 0, 1) := by decide +kernel
theorem dX7_count_33 : decode cX7_count 33 = .ok (.getfield 16, 3) := by decide +kernel
theorem dX7_count_36 : decode cX7_count 36 = .ok (.getfield 285, 3) := by decide +kernel
theorem dX7_count_39 : decode cX7_count 39 = .ok (.ireturn, 1) := by decide +kernel
theorem dX7_count_40 : decode cX7_count 40 = .ok (.aload_n 0, 1) := by decide +kernel
theorem dX7_count_41 : decode cX7_count 41 = .ok (.getfield 16, 3) := by decide +kernel
theorem dX7_count_44 : decode cX7_count 44 = .ok (.getfield 150, 3) := by decide +kernel
theorem dX7_count_47 : decode cX7_count 47 = .ok (.ireturn, 1) := by decide +kernel
theorem dX7_count_48 : decode cX7_count 48 = .ok (.aload_n 0, 1) := by decide +kernel
theorem dX7_count_49 : decode cX7_count 49 = .ok (.getfield 16, 3) := by decide +kernel
theorem dX7_count_52 : decode cX7_count 52 = .ok (.getfield 288, 3) := by decide +kernel
theorem dX7_count_55 : decode cX7_count 55 = .ok (.ireturn, 1) := by decide +kernel
theorem dX7_count_56 : decode cX7_count 56 = .ok (.aload_n 0, 1) := by decide +kernel
theorem dX7_count_57 : decode cX7_count 57 = .ok (.getfield 73, 3) := by decide +kernel
theorem dX7_count_60 : decode cX7_count 60 = .ok (.ireturn, 1) := by decide +kernel
theorem dX7_count_61 : decode cX7_count 61 = .ok (.iconst (-1), 1) := by decide +kernel
theorem dX7_count_62 : decode cX7_count 62 = .ok (.ireturn, 1) := by decide +kernel
theorem dX7_trace_0 : decode cX7_trace 0 = .ok (.aload_n 0, 1) := by decide +kernel
theorem dX7_trace_1 : decode cX7_trace 1 = .ok (.getfield 77, 3) := by decide +kernel
theorem dX7_trace_4 : decode cX7_trace 4 = .ok (.lreturn, 1) := by decide +kernel
theorem dX7_exchange_0 : decode cX7_exchange 0 = .ok (.aload_n 0, 1) := by decide +kernel
theorem dX7_exchange_1 : decode cX7_exchange 1 = .ok (.iload_n 1, 1) := by decide +kernel
theorem dX7_exchange_2 : decode cX7_exchange 2 = .ok (.iaload, 1) := by decide +kernel
theorem dX7_exchange_3 : decode cX7_exchange 3 = .ok (.istore_n 3, 1) := by decide +kernel
theorem dX7_exchange_4 : decode cX7_exchange 4 = .ok (.aload_n 0, 1) := by decide +kernel
theorem dX7_exchange_5 : decode cX7_exchange 5 = .ok (.iload_n 1, 1) := by decide +kernel
theorem dX7_exchange_6 : decode cX7_exchange 6 = .ok (.aload_n 0, 1) := by decide +kernel
theorem dX7_exchange_7 : decode cX7_exchange 7 = .ok (.iload_n 2, 1) := by decide +kernel
theorem dX7_exchange_8 : decode cX7_exchange 8 = .ok (.iaload, 1) := by decide +kernel
theorem dX7_exchange_9 : decode cX7_exchange 9 = .ok (.iastore, 1) := by decide +kernel
theorem dX7_exchange_10 : decode cX7_exchange 10 = .ok (.aload_n 0, 1) := by decide +kernel
theorem dX7_exchange_11 : decode cX7_exchange 11 = .ok (.iload_n 2, 1) := by decide +kernel
theorem dX7_exchange_12 : decode cX7_exchange 12 = .ok (.iload_n 3, 1) := by decide +kernel
theorem dX7_exchange_13 : decode cX7_exchange 13 = .ok (.iastore, 1) := by decide +kernel
theorem dX7_exchange_14 : decode cX7_exchange 14 = .ok (.return_, 1) := by decide +kernel
theorem dX7_nextRow_0 : decode cX7_nextRow 0 = .ok (.iload_n 1, 1) := by decide +kernel
theorem dX7_nextRow_1 : decode cX7_nextRow 1 = .ok (.iconst 2, 1) := by decide +kernel
theorem dX7_nextRow_2 : decode cX7_nextRow 2 = .ok (.isub, 1) := by decide +kernel
theorem dX7_nextRow_3 : decode cX7_nextRow 3 = .ok (.istore_n 2, 1) := by decide +kernel
theorem dX7_nextRow_4 : decode cX7_nextRow 4 = .ok (.iload_n 2, 1) := by decide +kernel
theorem dX7_nextRow_5 : decode cX7_nextRow 5 = .ok (.ifCond .lt 20, 3) := by decide +kernel
theorem dX7_nextRow_8 : decode cX7_nextRow 8 = .ok (.aload_n 0, 1) := by decide +kernel
theorem dX7_nextRow_9 : decode cX7_nextRow 9 = .ok (.iload_n 2, 1) := by decide +kernel
theorem dX7_nextRow_10 : decode cX7_nextRow 10 = .ok (.iaload, 1) := by decide +kernel
theorem dX7_nextRow_11 : decode cX7_nextRow 11 = .ok (.aload_n 0, 1) := by decide +kernel
theorem dX7_nextRow_12 : decode cX7_nextRow 12 = .ok (.iload_n 2, 1) := by decide +kernel
theorem dX7_nextRow_13 : decode cX7_nextRow 13 = .ok (.iconst 1, 1) := by decide +kernel
theorem dX7_nextRow_14 : decode cX7_nextRow 14 = .ok (.iadd, 1) := by decide +kernel
theorem dX7_nextRow_15 : decode cX7_nextRow 15 = .ok (.iaload, 1) := by decide +kernel
theorem dX7_nextRow_16 : decode cX7_nextRow 16 = .ok (.if_icmp .le 9, 3) := by decide +kernel
theorem dX7_nextRow_19 : decode cX7_nextRow 19 = .ok (.iinc 2 (-1), 3) := by decide +kernel
theorem dX7_nextRow_22 : decode cX7_nextRow 22 = .ok (.goto (-18), 3) := by decide +kernel
theorem dX7_nextRow_25 : decode cX7_nextRow 25 = .ok (.iload_n 2, 1) := by decide +kernel
theorem dX7_nextRow_26 : decode cX7_nextRow 26 = .ok (.ifCond .ge 5, 3) := by decide +kernel
theorem dX7_nextRow_29 : decode cX7_nextRow 29 = .ok (.iconst 0, 1) := by decide +kernel
theorem dX7_nextRow_30 : decode cX7_nextRow 30 = .ok (.ireturn, 1) := by decide +kernel
theorem dX7_nextRow_31 : decode cX7_nextRow 31 = .ok (.iload_n 1, 1) := by decide +kernel
theorem dX7_nextRow_32 : decode cX7_nextRow 32 = .ok (.iconst 1, 1) := by decide +kernel
theorem dX7_nextRow_33 : decode cX7_nextRow 33 = .ok (.isub, 1) := by decide +kernel
theorem dX7_nextRow_34 : decode cX7_nextRow 34 = .ok (.istore_n 3, 1) := by decide +kernel
theorem dX7_nextRow_35 : decode cX7_nextRow 35 = .ok (.iload_n 3, 1) := by decide +kernel
theorem dX7_nextRow_36 : decode cX7_nextRow 36 = .ok (.iload_n 2, 1) := by decide +kernel
theorem dX7_nextRow_37 : decode cX7_nextRow 37 = .ok (.if_icmp .le 18, 3) := by decide +kernel
theorem dX7_nextRow_40 : decode cX7_nextRow 40 = .ok (.aload_n 0, 1) := by decide +kernel
theorem dX7_nextRow_41 : decode cX7_nextRow 41 = .ok (.iload_n 3, 1) := by decide +kernel
theorem dX7_nextRow_42 : decode cX7_nextRow 42 = .ok (.iaload, 1) := by decide +kernel
theorem dX7_nextRow_43 : decode cX7_nextRow 43 = .ok (.aload_n 0, 1) := by decide +kernel
theorem dX7_nextRow_44 : decode cX7_nextRow 44 = .ok (.iload_n 2, 1) := by decide +kernel
theorem dX7_nextRow_45 : decode cX7_nextRow 45 = .ok (.iaload, 1) := by decide +kernel
theorem dX7_nextRow_46 : decode cX7_nextRow 46 = .ok (.if_icmp .ge 9, 3) := by decide +kernel
theorem dX7_nextRow_49 : decode cX7_nextRow 49 = .ok (.iinc 3 (-1), 3) := by decide +kernel
theorem dX7_nextRow_52 : decode cX7_nextRow 52 = .ok (.goto (-17), 3) := by decide +kernel
theorem dX7_nextRow_55 : decode cX7_nextRow 55 = .ok (.aload_n 0, 1) := by decide +kernel
theorem dX7_nextRow_56 : decode cX7_nextRow 56 = .ok (.iload_n 2, 1) := by decide +kernel
theorem dX7_nextRow_57 : decode cX7_nextRow 57 = .ok (.iload_n 3, 1) := by decide +kernel
theorem dX7_nextRow_58 : decode cX7_nextRow 58 = .ok (.invokestatic 176, 3) := by decide +kernel
theorem dX7_nextRow_61 : decode cX7_nextRow 61 = .ok (.iload_n 2, 1) := by decide +kernel
theorem dX7_nextRow_62 : decode cX7_nextRow 62 = .ok (.iconst 1, 1) := by decide +kernel
theorem dX7_nextRow_63 : decode cX7_nextRow 63 = .ok (.iadd, 1) := by decide +kernel
theorem dX7_nextRow_64 : decode cX7_nextRow 64 = .ok (.istore 4, 2) := by decide +kernel
theorem dX7_nextRow_66 : decode cX7_nextRow 66 = .ok (.iload_n 1, 1) := by decide +kernel
theorem dX7_nextRow_67 : decode cX7_nextRow 67 = .ok (.iconst 1, 1) := by decide +kernel
theorem dX7_nextRow_68 : decode cX7_nextRow 68 = .ok (.isub, 1) := by decide +kernel
theorem dX7_nextRow_69 : decode cX7_nextRow 69 = .ok (.istore 5, 2) := by decide +kernel
theorem dX7_nextRow_71 : decode cX7_nextRow 71 = .ok (.iload 4, 2) := by decide +kernel
theorem dX7_nextRow_73 : decode cX7_nextRow 73 = .ok (.iload 5, 2) := by decide +kernel
theorem dX7_nextRow_75 : decode cX7_nextRow 75 = .ok (.if_icmp .ge 20, 3) := by decide +kernel
theorem dX7_nextRow_78 : decode cX7_nextRow 78 = .ok (.aload_n 0, 1) := by decide +kernel
theorem dX7_nextRow_79 : decode cX7_nextRow 79 = .ok (.iload 4, 2) := by decide +kernel
theorem dX7_nextRow_81 : decode cX7_nextRow 81 = .ok (.iload 5, 2) := by decide +kernel
theorem dX7_nextRow_83 : decode cX7_nextRow 83 = .ok (.invokestatic 176, 3) := by decide +kernel
theorem dX7_nextRow_86 : decode cX7_nextRow 86 = .ok (.iinc 4 1, 3) := by decide +kernel
theorem dX7_nextRow_89 : decode cX7_nextRow 89 = .ok (.iinc 5 (-1), 3) := by decide +kernel
theorem dX7_nextRow_92 : decode cX7_nextRow 92 = .ok (.goto (-21), 3) := by decide +kernel
theorem dX7_nextRow_95 : decode cX7_nextRow 95 = .ok (.iconst 1, 1) := by decide +kernel
theorem dX7_nextRow_96 : decode cX7_nextRow 96 = .ok (.ireturn, 1) := by decide +kernel
theorem dX8_init_0 : decode cX8_init 0 = .ok (.aload_n 0, 1) := by decide +kernel
theorem dX8_init_1 : decode cX8_init 1 = .ok (.invokespecial 1, 3) := by decide +kernel
theorem dX8_init_4 : decode cX8_init 4 = .ok (.aload_n 0, 1) := by decide +kernel
theorem dX8_init_5 : decode cX8_init 5 = .ok (.sipush 200, 3) := by decide +kernel
theorem dX8_init_8 : decode cX8_init 8 = .ok (.newarray .int, 2) := by decide +kernel
theorem dX8_init_10 : decode cX8_init 10 = .ok (.putfield 7, 3) := by decide +kernel
theorem dX8_init_13 : decode cX8_init 13 = .ok (.aload_n 0, 1) := by decide +kernel
theorem dX8_init_14 : decode cX8_init 14 = .ok (.bipush 6, 2) := by decide +kernel
theorem dX8_init_16 : decode cX8_init 16 = .ok (.newarray .int, 2) := by decide +kernel
theorem dX8_init_18 : decode cX8_init 18 = .ok (.putfield 13, 3) := by decide +kernel
theorem dX8_init_21 : decode cX8_init 21 = .ok (.aload_n 0, 1) := by decide +kernel
theorem dX8_init_22 : decode cX8_init 22 = .ok (.bipush 35, 2) := by decide +kernel
theorem dX8_init_24 : decode cX8_init 24 = .ok (.newarray .int, 2) := by decide +kernel
theorem dX8_init_26 : decode cX8_init 26 = .ok (.putfield 16, 3) := by decide +kernel
theorem dX8_init_29 : decode cX8_init 29 = .ok (.aload_n 0, 1) := by decide +kernel
theorem dX8_init_30 : decode cX8_init 30 = .ok (.iconst 2, 1) := by decide +kernel
theorem dX8_init_31 : decode cX8_init 31 = .ok (.putfield 19, 3) := by decide +kernel
theorem dX8_init_34 : decode cX8_init 34 = .ok (.aload_n 0, 1) := by decide +kernel
theorem dX8_init_35 : decode cX8_init 35 = .ok (.iconst 1, 1) := by decide +kernel
theorem dX8_init_36 : decode cX8_init 36 = .ok (.putfield 23, 3) := by decide +kernel
theorem dX8_init_39 : decode cX8_init 39 = .ok (.aload_n 0, 1) := by decide +kernel
theorem dX8_init_40 : decode cX8_init 40 = .ok (.bipush 35, 2) := by decide +kernel
theorem dX8_init_42 : decode cX8_init 42 = .ok (.newarray .int, 2) := by decide +kernel
theorem dX8_init_44 : decode cX8_init 44 = .ok (.putfield 26, 3) := by decide +kernel
theorem dX8_init_47 : decode cX8_init 47 = .ok (.aload_n 0, 1) := by decide +kernel
theorem dX8_init_48 : decode cX8_init 48 = .ok (.bipush 28, 2) := by decide +kernel
theorem dX8_init_50 : decode cX8_init 50 = .ok (.newarray .int, 2) := by decide +kernel
theorem dX8_init_52 : decode cX8_init 52 = .ok (.putfield 29, 3) := by decide +kernel
theorem dX8_init_55 : decode cX8_init 55 = .ok (.aload_n 0, 1) := by decide +kernel
theorem dX8_init_56 : decode cX8_init 56 = .ok (.bipush 28, 2) := by decide +kernel
theorem dX8_init_58 : decode cX8_init 58 = .ok (.newarray .int, 2) := by decide +kernel
theorem dX8_init_60 : decode cX8_init 60 = .ok (.putfield 32, 3) := by decide +kernel
theorem dX8_init_63 : decode cX8_init 63 = .ok (.aload_n 0, 1) := by decide +kernel
theorem dX8_init_64 : decode cX8_init 64 = .ok (.bipush 56, 2) := by decide +kernel
theorem dX8_init_66 : decode cX8_init 66 = .ok (.newarray .int, 2) := by decide +kernel
theorem dX8_init_68 : decode cX8_init 68 = .ok (.putfield 35, 3) := by decide +kernel
theorem dX8_init_71 : decode cX8_init 71 = .ok (.aload_n 0, 1) := by decide +kernel
theorem dX8_init_72 : decode cX8_init 72 = .ok (.iconst 2, 1) := by decide +kernel
theorem dX8_init_73 : decode cX8_init 73 = .ok (.newarray .boolean, 2) := by decide +kernel
theorem dX8_init_75 : decode cX8_init 75 = .ok (.putfield 38, 3) := by decide +kernel
theorem dX8_init_78 : decode cX8_init 78 = .ok (.aload_n 0, 1) := by decide +kernel
theorem dX8_init_79 : decode cX8_init 79 = .ok (.sipush 280, 3) := by decide +kernel
theorem dX8_init_82 : decode cX8_init 82 = .ok (.newarray .int, 2) := by decide +kernel
theorem dX8_init_84 : decode cX8_init 84 = .ok (.putfield 42, 3) := by decide +kernel
theorem dX8_init_87 : decode cX8_init 87 = .ok (.aload_n 0, 1) := by decide +kernel
theorem dX8_init_88 : decode cX8_init 88 = .ok (.bipush 7, 2) := by decide +kernel
theorem dX8_init_90 : decode cX8_init 90 = .ok (.newarray .int, 2) := by decide +kernel
theorem dX8_init_92 : decode cX8_init 92 = .ok (.putfield 45, 3) := by decide +kernel
theorem dX8_init_95 : decode cX8_init 95 = .ok (.aload_n 0, 1) := by decide +kernel
theorem dX8_init_96 : decode cX8_init 96 = .ok (.bipush 7, 2) := by decide +kernel
theorem dX8_init_98 : decode cX8_init 98 = .ok (.newarray .int, 2) := by decide +kernel
theorem dX8_init_100 : decode cX8_init 100 = .ok (.putfield 48, 3) := by decide +kernel
theorem dX8_init_103 : decode cX8_init 103 = .ok (.aload_n 0, 1) := by decide +kernel
theorem dX8_init_104 : decode cX8_init 104 = .ok (.bipush 7, 2) := by decide +kernel
theorem dX8_init_106 : decode cX8_init 106 = .ok (.newarray .int, 2) := by decide +kernel
theorem dX8_init_108 : decode cX8_init 108 = .ok (.putfield 51, 3) := by decide +kernel
theorem dX8_init_111 : decode cX8_init 111 = .ok (.iconst 0, 1) := by decide +kernel
theorem dX8_init_112 : decode cX8_init 112 = .ok (.istore_n 1, 1) := by decide +kernel
theorem dX8_init_113 : decode cX8_init 113 = .ok (.iload_n 1, 1) := by decide +kernel
theorem dX8_init_114 : decode cX8_init 114 = .ok (.bipush 6, 2) := by decide +kernel
theorem dX8_init_116 : decode cX8_init 116 = .ok (.if_icmp .ge 16, 3) := by decide +kernel
theorem dX8_init_119 : decode cX8_init 119 = .ok (.aload_n 0, 1) := by decide +kernel
theorem dX8_init_120 : decode cX8_init 120 = .ok (.getfield 13, 3) := by decide +kernel
theorem dX8_init_123 : decode cX8_init 123 = .ok (.iload_n 1, 1) := by decide +kernel
theorem dX8_init_124 : decode cX8_init 124 = .ok (.iload_n 1, 1) := by decide +kernel
theorem dX8_init_125 : decode cX8_init 125 = .ok (.iastore, 1) := by decide +kernel
theorem dX8_init_126 : decode cX8_init 126 = .ok (.iinc 1 1, 3) := by decide +kernel
theorem dX8_init_129 : decode cX8_init 129 = .ok (.goto (-16), 3) := by decide +kernel
theorem dX8_init_132 : decode cX8_init 132 = .ok (.aload_n 0, 1) := by decide +kernel
theorem dX8_init_133 : decode cX8_init 133 = .ok (.invokevirtual 54, 3) := by decide +kernel
theorem dX8_init_136 : decode cX8_init 136 = .ok (.return_, 1) := by decide +kernel
theorem dX8_in_0 : decode cX8_in 0 = .ok (.iload_n 0, 1) := by decide +kernel
theorem dX8_in_1 : decode cX8_in 1 = .ok (.iload_n 1, 1) := by decide +kernel
theorem dX8_in_2 : decode cX8_in 2 = .ok (.if_icmp .lt 12, 3) := by decide +kernel
theorem dX8_in_5 : decode cX8_in 5 = .ok (.iload_n 0, 1) := by decide +kernel
theorem dX8_in_6 : decode cX8_in 6 = .ok (.iload_n 2, 1) := by decide +kernel
theorem dX8_in_7 : decode cX8_in 7 = .ok (.if_icmp .gt 7, 3) := by decide +kernel
theorem dX8_in_10 : decode cX8_in 10 = .ok (.iconst 1, 1) := by decide +kernel
theorem dX8_in_11 : decode cX8_in 11 = .ok (.goto 4, 3) := by decide +kernel
theorem dX8_in_14 : decode cX8_in 14 = .ok (.iconst 0, 1) := by decide +kernel
theorem dX8_in_15 : decode cX8_in 15 = .ok (.ireturn, 1) := by decide +kernel
theorem dX8_has_0 : decode cX8_has 0 = .ok (.iload_n 0, 1) := by decide +kernel
theorem dX8_has_1 : decode cX8_has 1 = .ok (.iload_n 1, 1) := by decide +kernel
theorem dX8_has_2 : decode cX8_has 2 = .ok (.ishr, 1) := by decide +kernel
theorem dX8_has_3 : decode cX8_has 3 = .ok (.iconst 1, 1) := by decide +kernel
theorem dX8_has_4 : decode cX8_has 4 = .ok (.iand, 1) := by decide +kernel
theorem dX8_has_5 : decode cX8_has 5 = .ok (.iconst 1, 1) := by decide +kernel
theorem dX8_has_6 : decode cX8_has 6 = .ok (.if_icmp .ne 7, 3) := by decide +kernel
theorem dX8_has_9 : decode cX8_has 9 = .ok (.iconst 1, 1) := by decide +kernel
theorem dX8_has_10 : decode cX8_has 10 = .ok (.goto 4, 3) := by decide +kernel
theorem dX8_has_13 : decode cX8_has 13 = .ok (.iconst 0, 1) := by decide +kernel
theorem dX8_has_14 : decode cX8_has 14 = .ok (.ireturn, 1) := by decide +kernel
theorem dX8_begin_0 : decode cX8_begin 0 = .ok (.iconst 0, 1) := by decide +kernel
theorem dX8_begin_1 : decode cX8_begin 1 = .ok (.istore_n 1, 1) := by decide +kernel
theorem dX8_begin_2 : decode cX8_begin 2 = .ok (.iload_n 1, 1) := by decide +kernel
theorem dX8_begin_3 : decode cX8_begin 3 = .ok (.bipush 28, 2) := by decide +kernel
theorem dX8_begin_5 : decode cX8_begin 5 = .ok (.if_icmp .ge 16, 3) := by decide +kernel
theorem dX8_begin_8 : decode cX8_begin 8 = .ok (.aload_n 0, 1) := by decide +kernel
theorem dX8_begin_9 : decode cX8_begin 9 = .ok (.getfield 29, 3) := by decide +kernel
