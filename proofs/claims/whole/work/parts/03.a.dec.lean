theorem dX0_init_0 : decode cX0_init 0 = .ok (.aload_n 0, 1) := by decide +kernel
theorem dX0_init_1 : decode cX0_init 1 = .ok (.invokespecial 3, 3) := by decide +kernel
theorem dX0_init_4 : decode cX0_init 4 = .ok (.aload_n 0, 1) := by decide +kernel
theorem dX0_init_5 : decode cX0_init 5 = .ok (.bipush 7, 2) := by decide +kernel
theorem dX0_init_7 : decode cX0_init 7 = .ok (.newarray .int, 2) := by decide +kernel
theorem dX0_init_9 : decode cX0_init 9 = .ok (.putfield 9, 3) := by decide +kernel
theorem dX0_init_12 : decode cX0_init 12 = .ok (.aload_n 0, 1) := by decide +kernel
theorem dX0_init_13 : decode cX0_init 13 = .ok (.bipush (-9), 2) := by decide +kernel
theorem dX0_init_15 : decode cX0_init 15 = .ok (.putfield 15, 3) := by decide +kernel
theorem dX0_init_18 : decode cX0_init 18 = .ok (.aload_n 0, 1) := by decide +kernel
theorem dX0_init_19 : decode cX0_init 19 = .ok (.aload_n 1, 1) := by decide +kernel
theorem dX0_init_20 : decode cX0_init 20 = .ok (.putfield 19, 3) := by decide +kernel
theorem dX0_init_23 : decode cX0_init 23 = .ok (.aload_n 0, 1) := by decide +kernel
theorem dX0_init_24 : decode cX0_init 24 = .ok (.new 23, 3) := by decide +kernel
theorem dX0_init_27 : decode cX0_init 27 = .ok (.dup, 1) := by decide +kernel
theorem dX0_init_28 : decode cX0_init 28 = .ok (.aload_n 1, 1) := by decide +kernel
theorem dX0_init_29 : decode cX0_init 29 = .ok (.invokespecial 25, 3) := by decide +kernel
theorem dX0_init_32 : decode cX0_init 32 = .ok (.putfield 28, 3) := by decide +kernel
theorem dX0_init_35 : decode cX0_init 35 = .ok (.return_, 1) := by decide +kernel
theorem dX0_go_0 : decode cX0_go 0 = .ok (.aload_n 0, 1) := by decide +kernel
theorem dX0_go_1 : decode cX0_go 1 = .ok (.getfield 28, 3) := by decide +kernel
theorem dX0_go_4 : decode cX0_go 4 = .ok (.aload_n 1, 1) := by decide +kernel
theorem dX0_go_5 : decode cX0_go 5 = .ok (.invokevirtual 32, 3) := by decide +kernel
theorem dX0_go_8 : decode cX0_go 8 = .ok (.aload_n 0, 1) := by decide +kernel
theorem dX0_go_9 : decode cX0_go 9 = .ok (.iload_n 2, 1) := by decide +kernel
theorem dX0_go_10 : decode cX0_go 10 = .ok (.invokevirtual 36, 3) := by decide +kernel
theorem dX0_go_13 : decode cX0_go 13 = .ok (.aload_n 0, 1) := by decide +kernel
theorem dX0_go_14 : decode cX0_go 14 = .ok (.bipush (-9), 2) := by decide +kernel
theorem dX0_go_16 : decode cX0_go 16 = .ok (.putfield 15, 3) := by decide +kernel
theorem dX0_go_19 : decode cX0_go 19 = .ok (.aload_n 0, 1) := by decide +kernel
theorem dX0_go_20 : decode cX0_go 20 = .ok (.iconst 0, 1) := by decide +kernel
theorem dX0_go_21 : decode cX0_go 21 = .ok (.putfield 40, 3) := by decide +kernel
theorem dX0_go_24 : decode cX0_go 24 = .ok (.aload_n 1, 1) := by decide +kernel
theorem dX0_go_25 : decode cX0_go 25 = .ok (.iconst 3, 1) := by decide +kernel
theorem dX0_go_26 : decode cX0_go 26 = .ok (.invokevirtual 44, 3) := by decide +kernel
theorem dX0_go_29 : decode cX0_go 29 = .ok (.istore 5, 2) := by decide +kernel
theorem dX0_go_31 : decode cX0_go 31 = .ok (.iconst 0, 1) := by decide +kernel
theorem dX0_go_32 : decode cX0_go 32 = .ok (.istore 6, 2) := by decide +kernel
theorem dX0_go_34 : decode cX0_go 34 = .ok (.iload 6, 2) := by decide +kernel
theorem dX0_go_36 : decode cX0_go 36 = .ok (.iload_n 3, 1) := by decide +kernel
theorem dX0_go_37 : decode cX0_go 37 = .ok (.if_icmp .ge 69, 3) := by decide +kernel
theorem dX0_go_40 : decode cX0_go 40 = .ok (.aload_n 0, 1) := by decide +kernel
theorem dX0_go_41 : decode cX0_go 41 = .ok (.iload 4, 2) := by decide +kernel
theorem dX0_go_43 : decode cX0_go 43 = .ok (.invokevirtual 48, 3) := by decide +kernel
theorem dX0_go_46 : decode cX0_go 46 = .ok (.aload_n 0, 1) := by decide +kernel
theorem dX0_go_47 : decode cX0_go 47 = .ok (.dup, 1) := by decide +kernel
theorem dX0_go_48 : decode cX0_go 48 = .ok (.getfield 40, 3) := by decide +kernel
theorem dX0_go_51 : decode cX0_go 51 = .ok (.aload_n 0, 1) := by decide +kernel
theorem dX0_go_52 : decode cX0_go 52 = .ok (.getfield 28, 3) := by decide +kernel
theorem dX0_go_55 : decode cX0_go 55 = .ok (.iload 4, 2) := by decide +kernel
theorem dX0_go_57 : decode cX0_go 57 = .ok (.invokevirtual 51, 3) := by decide +kernel
theorem dX0_go_60 : decode cX0_go 60 = .ok (.ior, 1) := by decide +kernel
theorem dX0_go_61 : decode cX0_go 61 = .ok (.putfield 40, 3) := by decide +kernel
theorem dX0_go_64 : decode cX0_go 64 = .ok (.aload_n 0, 1) := by decide +kernel
theorem dX0_go_65 : decode cX0_go 65 = .ok (.getfield 28, 3) := by decide +kernel
theorem dX0_go_68 : decode cX0_go 68 = .ok (.invokevirtual 54, 3) := by decide +kernel
theorem dX0_go_71 : decode cX0_go 71 = .ok (.aload_n 0, 1) := by decide +kernel
theorem dX0_go_72 : decode cX0_go 72 = .ok (.getfield 15, 3) := by decide +kernel
theorem dX0_go_75 : decode cX0_go 75 = .ok (.bipush (-9), 2) := by decide +kernel
theorem dX0_go_77 : decode cX0_go 77 = .ok (.if_icmp .ne 23, 3) := by decide +kernel
theorem dX0_go_80 : decode cX0_go 80 = .ok (.aload_n 0, 1) := by decide +kernel
theorem dX0_go_81 : decode cX0_go 81 = .ok (.aload_n 0, 1) := by decide +kernel
theorem dX0_go_82 : decode cX0_go 82 = .ok (.getfield 28, 3) := by decide +kernel
theorem dX0_go_85 : decode cX0_go 85 = .ok (.iconst 3, 1) := by decide +kernel
theorem dX0_go_86 : decode cX0_go 86 = .ok (.invokevirtual 44, 3) := by decide +kernel
theorem dX0_go_89 : decode cX0_go 89 = .ok (.iload 5, 2) := by decide +kernel
theorem dX0_go_91 : decode cX0_go 91 = .ok (.iconst (-1), 1) := by decide +kernel
theorem dX0_go_92 : decode cX0_go 92 = .ok (.ixor, 1) := by decide +kernel
theorem dX0_go_93 : decode cX0_go 93 = .ok (.iand, 1) := by decide +kernel
theorem dX0_go_94 : decode cX0_go 94 = .ok (.invokestatic 57, 3) := by decide +kernel
theorem dX0_go_97 : decode cX0_go 97 = .ok (.putfield 15, 3) := by decide +kernel
theorem dX0_go_100 : decode cX0_go 100 = .ok (.iinc 6 1, 3) := by decide +kernel
theorem dX0_go_103 : decode cX0_go 103 = .ok (.goto (-69), 3) := by decide +kernel
theorem dX0_go_106 : decode cX0_go 106 = .ok (.return_, 1) := by decide +kernel
theorem dX0_sort_0 : decode cX0_sort 0 = .ok (.iconst 0, 1) := by decide +kernel
theorem dX0_sort_1 : decode cX0_sort 1 = .ok (.istore_n 2, 1) := by decide +kernel
theorem dX0_sort_2 : decode cX0_sort 2 = .ok (.iload_n 2, 1) := by decide +kernel
theorem dX0_sort_3 : decode cX0_sort 3 = .ok (.aload_n 0, 1) := by decide +kernel
theorem dX0_sort_4 : decode cX0_sort 4 = .ok (.getfield 19, 3) := by decide +kernel
theorem dX0_sort_7 : decode cX0_sort 7 = .ok (.getfield 60, 3) := by decide +kernel
theorem dX0_sort_10 : decode cX0_sort 10 = .ok (.if_icmp .ge 64, 3) := by decide +kernel
theorem dX0_sort_13 : decode cX0_sort 13 = .ok (.iload_n 2, 1) := by decide +kernel
theorem dX0_sort_14 : decode cX0_sort 14 = .ok (.istore_n 3, 1) := by decide +kernel
theorem dX0_sort_15 : decode cX0_sort 15 = .ok (.iload_n 3, 1) := by decide +kernel
theorem dX0_sort_16 : decode cX0_sort 16 = .ok (.ifCond .le 45, 3) := by decide +kernel
theorem dX0_sort_19 : decode cX0_sort 19 = .ok (.aload_n 0, 1) := by decide +kernel
theorem dX0_sort_20 : decode cX0_sort 20 = .ok (.iload_n 2, 1) := by decide +kernel
theorem dX0_sort_21 : decode cX0_sort 21 = .ok (.iload_n 1, 1) := by decide +kernel
theorem dX0_sort_22 : decode cX0_sort 22 = .ok (.invokevirtual 65, 3) := by decide +kernel
theorem dX0_sort_25 : decode cX0_sort 25 = .ok (.aload_n 0, 1) := by decide +kernel
theorem dX0_sort_26 : decode cX0_sort 26 = .ok (.aload_n 0, 1) := by decide +kernel
theorem dX0_sort_27 : decode cX0_sort 27 = .ok (.getfield 9, 3) := by decide +kernel
theorem dX0_sort_30 : decode cX0_sort 30 = .ok (.iload_n 3, 1) := by decide +kernel
theorem dX0_sort_31 : decode cX0_sort 31 = .ok (.iconst 1, 1) := by decide +kernel
theorem dX0_sort_32 : decode cX0_sort 32 = .ok (.isub, 1) := by decide +kernel
theorem dX0_sort_33 : decode cX0_sort 33 = .ok (.iaload, 1) := by decide +kernel
theorem dX0_sort_34 : decode cX0_sort 34 = .ok (.iload_n 1, 1) := by decide +kernel
theorem dX0_sort_35 : decode cX0_sort 35 = .ok (.invokevirtual 65, 3) := by decide +kernel
theorem dX0_sort_38 : decode cX0_sort 38 = .ok (.if_icmp .ge 23, 3) := by decide +kernel
theorem dX0_sort_41 : decode cX0_sort 41 = .ok (.aload_n 0, 1) := by decide +kernel
theorem dX0_sort_42 : decode cX0_sort 42 = .ok (.getfield 9, 3) := by decide +kernel
theorem dX0_sort_45 : decode cX0_sort 45 = .ok (.iload_n 3, 1) := by decide +kernel
theorem dX0_sort_46 : decode cX0_sort 46 = .ok (.aload_n 0, 1) := by decide +kernel
theorem dX0_sort_47 : decode cX0_sort 47 = .ok (.getfield 9, 3) := by decide +kernel
theorem dX0_sort_50 : decode cX0_sort 50 = .ok (.iload_n 3, 1) := by decide +kernel
theorem dX0_sort_51 : decode cX0_sort 51 = .ok (.iconst 1, 1) := by decide +kernel
theorem dX0_sort_52 : decode cX0_sort 52 = .ok (.isub, 1) := by decide +kernel
theorem dX0_sort_53 : decode cX0_sort 53 = .ok (.iaload, 1) := by decide +kernel
theorem dX0_sort_54 : decode cX0_sort 54 = .ok (.iastore, 1) := by decide +kernel
theorem dX0_sort_55 : decode cX0_sort 55 = .ok (.iinc 3 (-1), 3) := by decide +kernel
theorem dX0_sort_58 : decode cX0_sort 58 = .ok (.goto (-43), 3) := by decide +kernel
theorem dX0_sort_61 : decode cX0_sort 61 = .ok (.aload_n 0, 1) := by decide +kernel
theorem dX0_sort_62 : decode cX0_sort 62 = .ok (.getfield 9, 3) := by decide +kernel
theorem dX0_sort_65 : decode cX0_sort 65 = .ok (.iload_n 3, 1) := by decide +kernel
theorem dX0_sort_66 : decode cX0_sort 66 = .ok (.iload_n 2, 1) := by decide +kernel
theorem dX0_sort_67 : decode cX0_sort 67 = .ok (.iastore, 1) := by decide +kernel
theorem dX0_sort_68 : decode cX0_sort 68 = .ok (.iinc 2 1, 3) := by decide +kernel
theorem dX0_sort_71 : decode cX0_sort 71 = .ok (.goto (-69), 3) := by decide +kernel
theorem dX0_sort_74 : decode cX0_sort 74 = .ok (.return_, 1) := by decide +kernel
theorem dX0_key_0 : decode cX0_key 0 = .ok (.iload_n 2, 1) := by decide +kernel
theorem dX0_key_1 : decode cX0_key 1 = .ok (.lookupswitch 48 #[(0, 27), (1, 37)], 27) := by decide +kernel
theorem dX0_key_28 : decode cX0_key 28 = .ok (.aload_n 0, 1) := by decide +kernel
theorem dX0_key_29 : decode cX0_key 29 = .ok (.getfield 19, 3) := by decide +kernel
theorem dX0_key_32 : decode cX0_key 32 = .ok (.getfield 69, 3) := by decide +kernel
theorem dX0_key_35 : decode cX0_key 35 = .ok (.iload_n 1, 1) := by decide +kernel
theorem dX0_key_36 : decode cX0_key 36 = .ok (.iaload, 1) := by decide +kernel
theorem dX0_key_37 : decode cX0_key 37 = .ok (.ireturn, 1) := by decide +kernel
theorem dX0_key_38 : decode cX0_key 38 = .ok (.aload_n 0, 1) := by decide +kernel
theorem dX0_key_39 : decode cX0_key 39 = .ok (.getfield 19, 3) := by decide +kernel
theorem dX0_key_42 : decode cX0_key 42 = .ok (.getfield 72, 3) := by decide +kernel
theorem dX0_key_45 : decode cX0_key 45 = .ok (.iload_n 1, 1) := by decide +kernel
theorem dX0_key_46 : decode cX0_key 46 = .ok (.iaload, 1) := by decide +kernel
theorem dX0_key_47 : decode cX0_key 47 = .ok (.ineg, 1) := by decide +kernel
theorem dX0_key_48 : decode cX0_key 48 = .ok (.ireturn, 1) := by decide +kernel
theorem dX0_key_49 : decode cX0_key 49 = .ok (.aload_n 0, 1) := by decide +kernel
theorem dX0_key_50 : decode cX0_key 50 = .ok (.getfield 19, 3) := by decide +kernel
theorem dX0_key_53 : decode cX0_key 53 = .ok (.getfield 75, 3) := by decide +kernel
theorem dX0_key_56 : decode cX0_key 56 = .ok (.iload_n 1, 1) := by decide +kernel
theorem dX0_key_57 : decode cX0_key 57 = .ok (.iaload, 1) := by decide +kernel
theorem dX0_key_58 : decode cX0_key 58 = .ok (.ireturn, 1) := by decide +kernel
theorem dX0_plugAll_0 : decode cX0_plugAll 0 = .ok (.iconst 0, 1) := by decide +kernel
theorem dX0_plugAll_1 : decode cX0_plugAll 1 = .ok (.istore_n 2, 1) := by decide +kernel
theorem dX0_plugAll_2 : decode cX0_plugAll 2 = .ok (.iload_n 2, 1) := by decide +kernel
theorem dX0_plugAll_3 : decode cX0_plugAll 3 = .ok (.aload_n 0, 1) := by decide +kernel
theorem dX0_plugAll_4 : decode cX0_plugAll 4 = .ok (.getfield 19, 3) := by decide +kernel
theorem dX0_plugAll_7 : decode cX0_plugAll 7 = .ok (.getfield 60, 3) := by decide +kernel
theorem dX0_plugAll_10 : decode cX0_plugAll 10 = .ok (.if_icmp .ge 39, 3) := by decide +kernel
theorem dX0_plugAll_13 : decode cX0_plugAll 13 = .ok (.aload_n 0, 1) := by decide +kernel
theorem dX0_plugAll_14 : decode cX0_plugAll 14 = .ok (.getfield 28, 3) := by decide +kernel
theorem dX0_plugAll_17 : decode cX0_plugAll 17 = .ok (.aload_n 0, 1) := by decide +kernel
theorem dX0_plugAll_18 : decode cX0_plugAll 18 = .ok (.getfield 9, 3) := by decide +kernel
theorem dX0_plugAll_21 : decode cX0_plugAll 21 = .ok (.iload_n 2, 1) := by decide +kernel
theorem dX0_plugAll_22 : decode cX0_plugAll 22 = .ok (.iaload, 1) := by decide +kernel
theorem dX0_plugAll_23 : decode cX0_plugAll 23 = .ok (.iload_n 1, 1) := by decide +kernel
theorem dX0_plugAll_24 : decode cX0_plugAll 24 = .ok (.invokevirtual 78, 3) := by decide +kernel
theorem dX0_plugAll_27 : decode cX0_plugAll 27 = .ok (.ifCond .eq 16, 3) := by decide +kernel
theorem dX0_plugAll_30 : decode cX0_plugAll 30 = .ok (.aload_n 0, 1) := by decide +kernel
theorem dX0_plugAll_31 : decode cX0_plugAll 31 = .ok (.getfield 28, 3) := by decide +kernel
theorem dX0_plugAll_34 : decode cX0_plugAll 34 = .ok (.aload_n 0, 1) := by decide +kernel
theorem dX0_plugAll_35 : decode cX0_plugAll 35 = .ok (.getfield 9, 3) := by decide +kernel
theorem dX0_plugAll_38 : decode cX0_plugAll 38 = .ok (.iload_n 2, 1) := by decide +kernel
theorem dX0_plugAll_39 : decode cX0_plugAll 39 = .ok (.iaload, 1) := by decide +kernel
theorem dX0_plugAll_40 : decode cX0_plugAll 40 = .ok (.invokevirtual 82, 3) := by decide +kernel
theorem dX0_plugAll_43 : decode cX0_plugAll 43 = .ok (.iinc 2 1, 3) := by decide +kernel
theorem dX0_plugAll_46 : decode cX0_plugAll 46 = .ok (.goto (-44), 3) := by decide +kernel
theorem dX0_plugAll_49 : decode cX0_plugAll 49 = .ok (.return_, 1) := by decide +kernel
theorem dX0_lowest_0 : decode cX0_lowest 0 = .ok (.iconst 0, 1) := by decide +kernel
theorem dX0_lowest_1 : decode cX0_lowest 1 = .ok (.istore_n 1, 1) := by decide +kernel
theorem dX0_lowest_2 : decode cX0_lowest 2 = .ok (.iload_n 1, 1) := by decide +kernel
theorem dX0_lowest_3 : decode cX0_lowest 3 = .ok (.bipush 7, 2) := by decide +kernel
theorem dX0_lowest_5 : decode cX0_lowest 5 = .ok (.if_icmp .ge 20, 3) := by decide +kernel
theorem dX0_lowest_8 : decode cX0_lowest 8 = .ok (.iload_n 0, 1) := by decide +kernel
theorem dX0_lowest_9 : decode cX0_lowest 9 = .ok (.iload_n 1, 1) := by decide +kernel
theorem dX0_lowest_10 : decode cX0_lowest 10 = .ok (.ishr, 1) := by decide +kernel
theorem dX0_lowest_11 : decode cX0_lowest 11 = .ok (.iconst 1, 1) := by decide +kernel
theorem dX0_lowest_12 : decode cX0_lowest 12 = .ok (.iand, 1) := by decide +kernel
theorem dX0_lowest_13 : decode cX0_lowest 13 = .ok (.iconst 1, 1) := by decide +kernel
theorem dX0_lowest_14 : decode cX0_lowest 14 = .ok (.if_icmp .ne 5, 3) := by decide +kernel
theorem dX0_lowest_17 : decode cX0_lowest 17 = .ok (.iload_n 1, 1) := by decide +kernel
theorem dX0_lowest_18 : decode cX0_lowest 18 = .ok (.ireturn, 1) := by decide +kernel
theorem dX0_lowest_19 : decode cX0_lowest 19 = .ok (.iinc 1 1, 3) := by decide +kernel
theorem dX0_lowest_22 : decode cX0_lowest 22 = .ok (.goto (-20), 3) := by decide +kernel
theorem dX0_lowest_25 : decode cX0_lowest 25 = .ok (.bipush (-9), 2) := by decide +kernel
theorem dX0_lowest_27 : decode cX0_lowest 27 = .ok (.ireturn, 1) := by decide +kernel
theorem dX1_init_0 : decode cX1_init 0 = .ok (.aload_n 0, 1) := by decide +kernel
theorem dX1_init_1 : decode cX1_init 1 = .ok (.invokespecial 3, 3) := by decide +kernel
theorem dX1_init_4 : decode cX1_init 4 = .ok (.aload_n 0, 1) := by decide +kernel
theorem dX1_init_5 : decode cX1_init 5 = .ok (.bipush 6, 2) := by decide +kernel
theorem dX1_init_7 : decode cX1_init 7 = .ok (.newarray .int, 2) := by decide +kernel
theorem dX1_init_9 : decode cX1_init 9 = .ok (.putfield 9, 3) := by decide +kernel
theorem dX1_init_12 : decode cX1_init 12 = .ok (.aload_n 0, 1) := by decide +kernel
theorem dX1_init_13 : decode cX1_init 13 = .ok (.bipush 6, 2) := by decide +kernel
theorem dX1_init_15 : decode cX1_init 15 = .ok (.newarray .int, 2) := by decide +kernel
theorem dX1_init_17 : decode cX1_init 17 = .ok (.putfield 15, 3) := by decide +kernel
theorem dX1_init_20 : decode cX1_init 20 = .ok (.aload_n 0, 1) := by decide +kernel
theorem dX1_init_21 : decode cX1_init 21 = .ok (.aload_n 1, 1) := by decide +kernel
theorem dX1_init_22 : decode cX1_init 22 = .ok (.putfield 18, 3) := by decide +kernel
theorem dX1_init_25 : decode cX1_init 25 = .ok (.return_, 1) := by decide +kernel
theorem dX1_inAll_0 : decode cX1_inAll 0 = .ok (.iconst 0, 1) := by decide +kernel
theorem dX1_inAll_1 : decode cX1_inAll 1 = .ok (.istore_n 2, 1) := by decide +kernel
theorem dX1_inAll_2 : decode cX1_inAll 2 = .ok (.iconst 0, 1) := by decide +kernel
theorem dX1_inAll_3 : decode cX1_inAll 3 = .ok (.istore_n 3, 1) := by decide +kernel
theorem dX1_inAll_4 : decode cX1_inAll 4 = .ok (.iload_n 3, 1) := by decide +kernel
theorem dX1_inAll_5 : decode cX1_inAll 5 = .ok (.aload_n 0, 1) := by decide +kernel
theorem dX1_inAll_6 : decode cX1_inAll 6 = .ok (.getfield 18, 3) := by decide +kernel
theorem dX1_inAll_9 : decode cX1_inAll 9 = .ok (.getfield 22, 3) := by decide +kernel
theorem dX1_inAll_12 : decode cX1_inAll 12 = .ok (.if_icmp .ge 21, 3) := by decide +kernel
theorem dX1_inAll_15 : decode cX1_inAll 15 = .ok (.iload_n 2, 1) := by decide +kernel
theorem dX1_inAll_16 : decode cX1_inAll 16 = .ok (.aload_n 0, 1) := by decide +kernel
theorem dX1_inAll_17 : decode cX1_inAll 17 = .ok (.getfield 18, 3) := by decide +kernel
theorem dX1_inAll_20 : decode cX1_inAll 20 = .ok (.iload_n 3, 1) := by decide +kernel
theorem dX1_inAll_21 : decode cX1_inAll 21 = .ok (.aload_n 1, 1) := by decide +kernel
theorem dX1_inAll_22 : decode cX1_inAll 22 = .ok (.invokevirtual 28, 3) := by decide +kernel
theorem dX1_inAll_25 : decode cX1_inAll 25 = .ok (.iadd, 1) := by decide +kernel
theorem dX1_inAll_26 : decode cX1_inAll 26 = .ok (.istore_n 2, 1) := by decide +kernel
theorem dX1_inAll_27 : decode cX1_inAll 27 = .ok (.iinc 3 1, 3) := by decide +kernel
theorem dX1_inAll_30 : decode cX1_inAll 30 = .ok (.goto (-26), 3) := by decide +kernel
theorem dX1_inAll_33 : decode cX1_inAll 33 = .ok (.iload_n 2, 1) := by decide +kernel
theorem dX1_inAll_34 : decode cX1_inAll 34 = .ok (.ireturn, 1) := by decide +kernel
theorem dX1_bestExchange_0 : decode cX1_bestExchange 0 = .ok (.aload_n 1, 1) := by decide +kernel
theorem dX1_bestExchange_1 : decode cX1_bestExchange 1 = .ok (.iconst 0, 1) := by decide +kernel
theorem dX1_bestExchange_2 : decode cX1_bestExchange 2 = .ok (.aload_n 0, 1) := by decide +kernel
theorem dX1_bestExchange_3 : decode cX1_bestExchange 3 = .ok (.getfield 9, 3) := by decide +kernel
theorem dX1_bestExchange_6 : decode cX1_bestExchange 6 = .ok (.iconst 0, 1) := by decide +kernel
theorem dX1_bestExchange_7 : decode cX1_bestExchange 7 = .ok (.bipush 6, 2) := by decide +kernel
theorem dX1_bestExchange_9 : decode cX1_bestExchange 9 = .ok (.invokestatic 32, 3) := by decide +kernel
theorem dX1_bestExchange_12 : decode cX1_bestExchange 12 = .ok (.aload_n 0, 1) := by decide +kernel
theorem dX1_bestExchange_13 : decode cX1_bestExchange 13 = .ok (.aload_n 0, 1) := by decide +kernel
theorem dX1_bestExchange_14 : decode cX1_bestExchange 14 = .ok (.getfield 9, 3) := by decide +kernel
theorem dX1_bestExchange_17 : decode cX1_bestExchange 17 = .ok (.invokevirtual 38, 3) := by decide +kernel
theorem dX1_bestExchange_20 : decode cX1_bestExchange 20 = .ok (.istore_n 2, 1) := by decide +kernel
theorem dX1_bestExchange_21 : decode cX1_bestExchange 21 = .ok (.bipush (-9), 2) := by decide +kernel
theorem dX1_bestExchange_23 : decode cX1_bestExchange 23 = .ok (.istore_n 3, 1) := by decide +kernel
theorem dX1_bestExchange_24 : decode cX1_bestExchange 24 = .ok (.iconst 0, 1) := by decide +kernel
theorem dX1_bestExchange_25 : decode cX1_bestExchange 25 = .ok (.istore 4, 2) := by decide +kernel
theorem dX1_bestExchange_27 : decode cX1_bestExchange 27 = .ok (.iload 4, 2) := by decide +kernel
theorem dX1_bestExchange_29 : decode cX1_bestExchange 29 = .ok (.aload_n 0, 1) := by decide +kernel
theorem dX1_bestExchange_30 : decode cX1_bestExchange 30 = .ok (.getfield 18, 3) := by decide +kernel
theorem dX1_bestExchange_33 : decode cX1_bestExchange 33 = .ok (.getfield 42, 3) := by decide +kernel
theorem dX1_bestExchange_36 : decode cX1_bestExchange 36 = .ok (.if_icmp .ge 83, 3) := by decide +kernel
theorem dX1_bestExchange_39 : decode cX1_bestExchange 39 = .ok (.iload 4, 2) := by decide +kernel
theorem dX1_bestExchange_41 : decode cX1_bestExchange 41 = .ok (.iconst 1, 1) := by decide +kernel
theorem dX1_bestExchange_42 : decode cX1_bestExchange 42 = .ok (.iadd, 1) := by decide +kernel
theorem dX1_bestExchange_43 : decode cX1_bestExchange 43 = .ok (.istore 5, 2) := by decide +kernel
theorem dX1_bestExchange_45 : decode cX1_bestExchange 45 = .ok (.iload 5, 2) := by decide +kernel
theorem dX1_bestExchange_47 : decode cX1_bestExchange 47 = .ok (.aload_n 0, 1) := by decide +kernel
theorem dX1_bestExchange_48 : decode cX1_bestExchange 48 = .ok (.getfield 18, 3) := by decide +kernel
theorem dX1_bestExchange_51 : decode cX1_bestExchange 51 = .ok (.getfield 42, 3) := by decide +kernel
theorem dX1_bestExchange_54 : decode cX1_bestExchange 54 = .ok (.if_icmp .ge 59, 3) := by decide +kernel
theorem dX1_bestExchange_57 : decode cX1_bestExchange 57 = .ok (.aload_n 0, 1) := by decide +kernel
theorem dX1_bestExchange_58 : decode cX1_bestExchange 58 = .ok (.getfield 9, 3) := by decide +kernel
theorem dX1_bestExchange_61 : decode cX1_bestExchange 61 = .ok (.iload 4, 2) := by decide +kernel
theorem dX1_bestExchange_63 : decode cX1_bestExchange 63 = .ok (.iload 5, 2) := by decide +kernel
theorem dX1_bestExchange_65 : decode cX1_bestExchange 65 = .ok (.invokestatic 45, 3) := by decide +kernel
theorem dX1_bestExchange_68 : decode cX1_bestExchange 68 = .ok (.aload_n 0, 1) := by decide +kernel
theorem dX1_bestExchange_69 : decode cX1_bestExchange 69 = .ok (.aload_n 0, 1) := by decide +kernel
theorem dX1_bestExchange_70 : decode cX1_bestExchange 70 = .ok (.getfield 9, 3) := by decide +kernel
theorem dX1_bestExchange_73 : decode cX1_bestExchange 73 = .ok (.invokevirtual 38, 3) := by decide +kernel
theorem dX1_bestExchange_76 : decode cX1_bestExchange 76 = .ok (.istore 6, 2) := by decide +kernel
theorem dX1_bestExchange_78 : decode cX1_bestExchange 78 = .ok (.aload_n 0, 1) := by decide +kernel
theorem dX1_bestExchange_79 : decode cX1_bestExchange 79 = .ok (.getfield 9, 3) := by decide +kernel
theorem dX1_bestExchange_82 : decode cX1_bestExchange 82 = .ok (.iload 4, 2) := by decide +kernel
theorem dX1_bestExchange_84 : decode cX1_bestExchange 84 = .ok (.iload 5, 2) := by decide +kernel
theorem dX1_bestExchange_86 : decode cX1_bestExchange 86 = .ok (.invokestatic 45, 3) := by decide +kernel
theorem dX1_bestExchange_89 : decode cX1_bestExchange 89 = .ok (.iload 6, 2) := by decide +kernel
theorem dX1_bestExchange_91 : decode cX1_bestExchange 91 = .ok (.iload_n 2, 1) := by decide +kernel
theorem dX1_bestExchange_92 : decode cX1_bestExchange 92 = .ok (.if_icmp .ge 15, 3) := by decide +kernel
theorem dX1_bestExchange_95 : decode cX1_bestExchange 95 = .ok (.iload 6, 2) := by decide +kernel
theorem dX1_bestExchange_97 : decode cX1_bestExchange 97 = .ok (.istore_n 2, 1) := by decide +kernel
theorem dX1_bestExchange_98 : decode cX1_bestExchange 98 = .ok (.bipush 10, 2) := by decide +kernel
theorem dX1_bestExchange_100 : decode cX1_bestExchange 100 = .ok (.iload 4, 2) := by decide +kernel
theorem dX1_bestExchange_102 : decode cX1_bestExchange 102 = .ok (.imul, 1) := by decide +kernel
theorem dX1_bestExchange_103 : decode cX1_bestExchange 103 = .ok (.iload 5, 2) := by decide +kernel
theorem dX1_bestExchange_105 : decode cX1_bestExchange 105 = .ok (.iadd, 1) := by decide +kernel
theorem dX1_bestExchange_106 : decode cX1_bestExchange 106 = .ok (.istore_n 3, 1) := by decide +kernel
theorem dX1_bestExchange_107 : decode cX1_bestExchange 107 = .ok (.iinc 5 1, 3) := by decide +kernel
theorem dX1_bestExchange_110 : decode cX1_bestExchange 110 = .ok (.goto (-65), 3) := by decide +kernel
theorem dX1_bestExchange_113 : decode cX1_bestExchange 113 = .ok (.iinc 4 1, 3) := by decide +kernel
theorem dX1_bestExchange_116 : decode cX1_bestExchange 116 = .ok (.goto (-89), 3) := by decide +kernel
theorem dX1_bestExchange_119 : decode cX1_bestExchange 119 = .ok (.iload_n 3, 1) := by decide +kernel
theorem dX1_bestExchange_120 : decode cX1_bestExchange 120 = .ok (.ireturn, 1) := by decide +kernel
theorem dX1_find_0 : decode cX1_find 0 = .ok (.iconst 0, 1) := by decide +kernel
theorem dX1_find_1 : decode cX1_find 1 = .ok (.istore_n 1, 1) := by decide +kernel
theorem dX1_find_2 : decode cX1_find 2 = .ok (.iload_n 1, 1) := by decide +kernel
theorem dX1_find_3 : decode cX1_find 3 = .ok (.aload_n 0, 1) := by decide +kernel
theorem dX1_find_4 : decode cX1_find 4 = .ok (.getfield 18, 3) := by decide +kernel
theorem dX1_find_7 : decode cX1_find 7 = .ok (.getfield 42, 3) := by decide +kernel
theorem dX1_find_10 : decode cX1_find 10 = .ok (.if_icmp .ge 16, 3) := by decide +kernel
theorem dX1_find_13 : decode cX1_find 13 = .ok (.aload_n 0, 1) := by decide +kernel
theorem dX1_find_14 : decode cX1_find 14 = .ok (.getfield 9, 3) := by decide +kernel
theorem dX1_find_17 : decode cX1_find 17 = .ok (.iload_n 1, 1) := by decide +kernel
theorem dX1_find_18 : decode cX1_find 18 = .ok (.iload_n 1, 1) := by decide +kernel
theorem dX1_find_19 : decode cX1_find 19 = .ok (.iastore, 1) := by decide +kernel
theorem dX1_find_20 : decode cX1_find 20 = .ok (.iinc 1 1, 3) := by decide +kernel
theorem dX1_find_23 : decode cX1_find 23 = .ok (.goto (-21), 3) := by decide +kernel
theorem dX1_find_26 : decode cX1_find 26 = .ok (.aload_n 0, 1) := by decide +kernel
theorem dX1_find_27 : decode cX1_find 27 = .ok (.ldc 49, 2) := by decide +kernel
theorem dX1_find_29 : decode cX1_find 29 = .ok (.putfield 50, 3) := by decide +kernel
theorem dX1_find_32 : decode cX1_find 32 = .ok (.iconst 0, 1) := by decide +kernel
theorem dX1_find_33 : decode cX1_find 33 = .ok (.istore_n 1, 1) := by decide +kernel
theorem dX1_find_34 : decode cX1_find 34 = .ok (.iload_n 1, 1) := by decide +kernel
theorem dX1_find_35 : decode cX1_find 35 = .ok (.sipush 720, 3) := by decide +kernel
theorem dX1_find_38 : decode cX1_find 38 = .ok (.if_icmp .ge 71, 3) := by decide +kernel
theorem dX1_find_41 : decode cX1_find 41 = .ok (.aload_n 0, 1) := by decide +kernel
theorem dX1_find_42 : decode cX1_find 42 = .ok (.aload_n 0, 1) := by decide +kernel
theorem dX1_find_43 : decode cX1_find 43 = .ok (.getfield 9, 3) := by decide +kernel
theorem dX1_find_46 : decode cX1_find 46 = .ok (.invokevirtual 38, 3) := by decide +kernel
theorem dX1_find_49 : decode cX1_find 49 = .ok (.istore_n 2, 1) := by decide +kernel
theorem dX1_find_50 : decode cX1_find 50 = .ok (.iload_n 2, 1) := by decide +kernel
theorem dX1_find_51 : decode cX1_find 51 = .ok (.aload_n 0, 1) := by decide +kernel
theorem dX1_find_52 : decode cX1_find 52 = .ok (.getfield 50, 3) := by decide +kernel
theorem dX1_find_55 : decode cX1_find 55 = .ok (.if_icmp .ge 28, 3) := by decide +kernel
theorem dX1_find_58 : decode cX1_find 58 = .ok (.aload_n 0, 1) := by decide +kernel
theorem dX1_find_59 : decode cX1_find 59 = .ok (.iload_n 2, 1) := by decide +kernel
theorem dX1_find_60 : decode cX1_find 60 = .ok (.putfield 50, 3) := by decide +kernel
theorem dX1_find_63 : decode cX1_find 63 = .ok (.aload_n 0, 1) := by decide +kernel
theorem dX1_find_64 : decode cX1_find 64 = .ok (.getfield 9, 3) := by decide +kernel
theorem dX1_find_67 : decode cX1_find 67 = .ok (.iconst 0, 1) := by decide +kernel
theorem dX1_find_68 : decode cX1_find 68 = .ok (.aload_n 0, 1) := by decide +kernel
theorem dX1_find_69 : decode cX1_find 69 = .ok (.getfield 15, 3) := by decide +kernel
theorem dX1_find_72 : decode cX1_find 72 = .ok (.iconst 0, 1) := by decide +kernel
theorem dX1_find_73 : decode cX1_find 73 = .ok (.aload_n 0, 1) := by decide +kernel
theorem dX1_find_74 : decode cX1_find 74 = .ok (.getfield 18, 3) := by decide +kernel
theorem dX1_find_77 : decode cX1_find 77 = .ok (.getfield 42, 3) := by decide +kernel
theorem dX1_find_80 : decode cX1_find 80 = .ok (.invokestatic 32, 3) := by decide +kernel
theorem dX1_find_83 : decode cX1_find 83 = .ok (.aload_n 0, 1) := by decide +kernel
theorem dX1_find_84 : decode cX1_find 84 = .ok (.getfield 9, 3) := by decide +kernel
theorem dX1_find_87 : decode cX1_find 87 = .ok (.aload_n 0, 1) := by decide +kernel
theorem dX1_find_88 : decode cX1_find 88 = .ok (.getfield 18, 3) := by decide +kernel
theorem dX1_find_91 : decode cX1_find 91 = .ok (.getfield 42, 3) := by decide +kernel
theorem dX1_find_94 : decode cX1_find 94 = .ok (.invokestatic 53, 3) := by decide +kernel
theorem dX1_find_97 : decode cX1_find 97 = .ok (.ifCond .ne 6, 3) := by decide +kernel
theorem dX1_find_100 : decode cX1_find 100 = .ok (.goto 9, 3) := by decide +kernel
theorem dX1_find_103 : decode cX1_find 103 = .ok (.iinc 1 1, 3) := by decide +kernel
theorem dX1_find_106 : decode cX1_find 106 = .ok (.goto (-72), 3) := by decide +kernel
theorem dX1_find_109 : decode cX1_find 109 = .ok (.return_, 1) := by decide +kernel
theorem dX2_init_0 : decode cX2_init 0 = .ok (.aload_n 0, 1) := by decide +kernel
theorem dX2_init_1 : decode cX2_init 1 = .ok (.invokespecial 3, 3) := by decide +kernel
theorem dX2_init_4 : decode cX2_init 4 = .ok (.aload_n 0, 1) := by decide +kernel
theorem dX2_init_5 : decode cX2_init 5 = .ok (.bipush 6, 2) := by decide +kernel
theorem dX2_init_7 : decode cX2_init 7 = .ok (.newarray .int, 2) := by decide +kernel
theorem dX2_init_9 : decode cX2_init 9 = .ok (.putfield 9, 3) := by decide +kernel
theorem dX2_init_12 : decode cX2_init 12 = .ok (.aload_n 0, 1) := by decide +kernel
theorem dX2_init_13 : decode cX2_init 13 = .ok (.bipush 7, 2) := by decide +kernel
theorem dX2_init_15 : decode cX2_init 15 = .ok (.newarray .int, 2) := by decide +kernel
theorem dX2_init_17 : decode cX2_init 17 = .ok (.putfield 15, 3) := by decide +kernel
theorem dX2_init_20 : decode cX2_init 20 = .ok (.aload_n 0, 1) := by decide +kernel
theorem dX2_init_21 : decode cX2_init 21 = .ok (.bipush 7, 2) := by decide +kernel
theorem dX2_init_23 : decode cX2_init 23 = .ok (.newarray .int, 2) := by decide +kernel
theorem dX2_init_25 : decode cX2_init 25 = .ok (.putfield 18, 3) := by decide +kernel
theorem dX2_init_28 : decode cX2_init 28 = .ok (.aload_n 0, 1) := by decide +kernel
theorem dX2_init_29 : decode cX2_init 29 = .ok (.bipush 7, 2) := by decide +kernel
theorem dX2_init_31 : decode cX2_init 31 = .ok (.newarray .int, 2) := by decide +kernel
theorem dX2_init_33 : decode cX2_init 33 = .ok (.putfield 21, 3) := by decide +kernel
theorem dX2_init_36 : decode cX2_init 36 = .ok (.aload_n 0, 1) := by decide +kernel
theorem dX2_init_37 : decode cX2_init 37 = .ok (.aload_n 1, 1) := by decide +kernel
theorem dX2_init_38 : decode cX2_init 38 = .ok (.putfield 24, 3) := by decide +kernel
theorem dX2_init_41 : decode cX2_init 41 = .ok (.return_, 1) := by decide +kernel
theorem dX2_begin_0 : decode cX2_begin 0 = .ok (.aload_n 0, 1) := by decide +kernel
theorem dX2_begin_1 : decode cX2_begin 1 = .ok (.iconst 0, 1) := by decide +kernel
theorem dX2_begin_2 : decode cX2_begin 2 = .ok (.putfield 28, 3) := by decide +kernel
theorem dX2_begin_5 : decode cX2_begin 5 = .ok (.aload_n 0, 1) := by decide +kernel
theorem dX2_begin_6 : decode cX2_begin 6 = .ok (.getfield 24, 3) := by decide +kernel
theorem dX2_begin_9 : decode cX2_begin 9 = .ok (.getfield 32, 3) := by decide +kernel
theorem dX2_begin_12 : decode cX2_begin 12 = .ok (.iconst 0, 1) := by decide +kernel
theorem dX2_begin_13 : decode cX2_begin 13 = .ok (.aload_n 0, 1) := by decide +kernel
theorem dX2_begin_14 : decode cX2_begin 14 = .ok (.getfield 9, 3) := by decide +kernel
theorem dX2_begin_17 : decode cX2_begin 17 = .ok (.iconst 0, 1) := by decide +kernel
theorem dX2_begin_18 : decode cX2_begin 18 = .ok (.bipush 6, 2) := by decide +kernel
theorem dX2_begin_20 : decode cX2_begin 20 = .ok (.invokestatic 35, 3) := by decide +kernel
theorem dX2_begin_23 : decode cX2_begin 23 = .ok (.iconst 0, 1) := by decide +kernel
theorem dX2_begin_24 : decode cX2_begin 24 = .ok (.istore_n 1, 1) := by decide +kernel
theorem dX2_begin_25 : decode cX2_begin 25 = .ok (.iload_n 1, 1) := by decide +kernel
theorem dX2_begin_26 : decode cX2_begin 26 = .ok (.bipush 7, 2) := by decide +kernel
theorem dX2_begin_28 : decode cX2_begin 28 = .ok (.if_icmp .ge 30, 3) := by decide +kernel
theorem dX2_begin_31 : decode cX2_begin 31 = .ok (.aload_n 0, 1) := by decide +kernel
theorem dX2_begin_32 : decode cX2_begin 32 = .ok (.getfield 15, 3) := by decide +kernel
theorem dX2_begin_35 : decode cX2_begin 35 = .ok (.iload_n 1, 1) := by decide +kernel
theorem dX2_begin_36 : decode cX2_begin 36 = .ok (.iconst 0, 1) := by decide +kernel
theorem dX2_begin_37 : decode cX2_begin 37 = .ok (.iastore, 1) := by decide +kernel
theorem dX2_begin_38 : decode cX2_begin 38 = .ok (.aload_n 0, 1) := by decide +kernel
theorem dX2_begin_39 : decode cX2_begin 39 = .ok (.getfield 18, 3) := by decide +kernel
theorem dX2_begin_42 : decode cX2_begin 42 = .ok (.iload_n 1, 1) := by decide +kernel
theorem dX2_begin_43 : decode cX2_begin 43 = .ok (.iconst 0, 1) := by decide +kernel
theorem dX2_begin_44 : decode cX2_begin 44 = .ok (.iastore, 1) := by decide +kernel
theorem dX2_begin_45 : decode cX2_begin 45 = .ok (.aload_n 0, 1) := by decide +kernel
theorem dX2_begin_46 : decode cX2_begin 46 = .ok (.getfield 21, 3) := by decide +kernel
theorem dX2_begin_49 : decode cX2_begin 49 = .ok (.iload_n 1, 1) := by decide +kernel
theorem dX2_begin_50 : decode cX2_begin 50 = .ok (.iconst 0, 1) := by decide +kernel
theorem dX2_begin_51 : decode cX2_begin 51 = .ok (.iastore, 1) := by decide +kernel
theorem dX2_begin_52 : decode cX2_begin 52 = .ok (.iinc 1 1, 3) := by decide +kernel
theorem dX2_begin_55 : decode cX2_begin 55 = .ok (.goto (-30), 3) := by decide +kernel
theorem dX2_begin_58 : decode cX2_begin 58 = .ok (.aload_n 0, 1) := by decide +kernel
theorem dX2_begin_59 : decode cX2_begin 59 = .ok (.invokevirtual 41, 3) := by decide +kernel
theorem dX2_begin_62 : decode cX2_begin 62 = .ok (.return_, 1) := by decide +kernel
theorem dX2_letFall_0 : decode cX2_letFall 0 = .ok (.iconst 0, 1) := by decide +kernel
theorem dX2_letFall_1 : decode cX2_letFall 1 = .ok (.istore_n 1, 1) := by decide +kernel
theorem dX2_letFall_2 : decode cX2_letFall 2 = .ok (.iload_n 1, 1) := by decide +kernel
theorem dX2_letFall_3 : decode cX2_letFall 3 = .ok (.aload_n 0, 1) := by decide +kernel
theorem dX2_letFall_4 : decode cX2_letFall 4 = .ok (.getfield 24, 3) := by decide +kernel
theorem dX2_letFall_7 : decode cX2_letFall 7 = .ok (.getfield 44, 3) := by decide +kernel
theorem dX2_letFall_10 : decode cX2_letFall 10 = .ok (.if_icmp .ge 41, 3) := by decide +kernel
theorem dX2_letFall_13 : decode cX2_letFall 13 = .ok (.aload_n 0, 1) := by decide +kernel
theorem dX2_letFall_14 : decode cX2_letFall 14 = .ok (.getfield 15, 3) := by decide +kernel
theorem dX2_letFall_17 : decode cX2_letFall 17 = .ok (.iload_n 1, 1) := by decide +kernel
theorem dX2_letFall_18 : decode cX2_letFall 18 = .ok (.iaload, 1) := by decide +kernel
theorem dX2_letFall_19 : decode cX2_letFall 19 = .ok (.ifCond .ne 26, 3) := by decide +kernel
theorem dX2_letFall_22 : decode cX2_letFall 22 = .ok (.aload_n 0, 1) := by decide +kernel
theorem dX2_letFall_23 : decode cX2_letFall 23 = .ok (.getfield 24, 3) := by decide +kernel
theorem dX2_letFall_26 : decode cX2_letFall 26 = .ok (.getfield 47, 3) := by decide +kernel
theorem dX2_letFall_29 : decode cX2_letFall 29 = .ok (.iload_n 1, 1) := by decide +kernel
theorem dX2_letFall_30 : decode cX2_letFall 30 = .ok (.iaload, 1) := by decide +kernel
theorem dX2_letFall_31 : decode cX2_letFall 31 = .ok (.aload_n 0, 1) := by decide +kernel
theorem dX2_letFall_32 : decode cX2_letFall 32 = .ok (.getfield 28, 3) := by decide +kernel
theorem dX2_letFall_35 : decode cX2_letFall 35 = .ok (.if_icmp .ne 10, 3) := by decide +kernel
theorem dX2_letFall_38 : decode cX2_letFall 38 = .ok (.aload_n 0, 1) := by decide +kernel
theorem dX2_letFall_39 : decode cX2_letFall 39 = .ok (.getfield 15, 3) := by decide +kernel
theorem dX2_letFall_42 : decode cX2_letFall 42 = .ok (.iload_n 1, 1) := by decide +kernel
theorem dX2_letFall_43 : decode cX2_letFall 43 = .ok (.iconst 1, 1) := by decide +kernel
theorem dX2_letFall_44 : decode cX2_letFall 44 = .ok (.iastore, 1) := by decide +kernel
theorem dX2_letFall_45 : decode cX2_letFall 45 = .ok (.iinc 1 1, 3) := by decide +kernel
theorem dX2_letFall_48 : decode cX2_letFall 48 = .ok (.goto (-46), 3) := by decide +kernel
theorem dX2_letFall_51 : decode cX2_letFall 51 = .ok (.return_, 1) := by decide +kernel
theorem dX2_those_0 : decode cX2_those 0 = .ok (.iconst 0, 1) := by decide +kernel
theorem dX2_those_1 : decode cX2_those 1 = .ok (.istore_n 2, 1) := by decide +kernel
theorem dX2_those_2 : decode cX2_those 2 = .ok (.iconst 0, 1) := by decide +kernel
theorem dX2_those_3 : decode cX2_those 3 = .ok (.istore_n 3, 1) := by decide +kernel
theorem dX2_those_4 : decode cX2_those 4 = .ok (.iload_n 3, 1) := by decide +kernel
theorem dX2_those_5 : decode cX2_those 5 = .ok (.aload_n 0, 1) := by decide +kernel
theorem dX2_those_6 : decode cX2_those 6 = .ok (.getfield 24, 3) := by decide +kernel
theorem dX2_those_9 : decode cX2_those 9 = .ok (.getfield 44, 3) := by decide +kernel
theorem dX2_those_12 : decode cX2_those 12 = .ok (.if_icmp .ge 25, 3) := by decide +kernel
theorem dX2_those_15 : decode cX2_those 15 = .ok (.aload_n 0, 1) := by decide +kernel
theorem dX2_those_16 : decode cX2_those 16 = .ok (.getfield 15, 3) := by decide +kernel
theorem dX2_those_19 : decode cX2_those 19 = .ok (.iload_n 3, 1) := by decide +kernel
theorem dX2_those_20 : decode cX2_those 20 = .ok (.iaload, 1) := by decide +kernel
theorem dX2_those_21 : decode cX2_those 21 = .ok (.iload_n 1, 1) := by decide +kernel
theorem dX2_those_22 : decode cX2_those 22 = .ok (.if_icmp .ne 9, 3) := by decide +kernel
theorem dX2_those_25 : decode cX2_those 25 = .ok (.iload_n 2, 1) := by decide +kernel
theorem dX2_those_26 : decode cX2_those 26 = .ok (.iconst 1, 1) := by decide +kernel
theorem dX2_those_27 : decode cX2_those 27 = .ok (.iload_n 3, 1) := by decide +kernel
theorem dX2_those_28 : decode cX2_those 28 = .ok (.ishl, 1) := by decide +kernel
theorem dX2_those_29 : decode cX2_those 29 = .ok (.ior, 1) := by decide +kernel
theorem dX2_those_30 : decode cX2_those 30 = .ok (.istore_n 2, 1) := by decide +kernel
theorem dX2_those_31 : decode cX2_those 31 = .ok (.iinc 3 1, 3) := by decide +kernel
theorem dX2_those_34 : decode cX2_those 34 = .ok (.goto (-30), 3) := by decide +kernel
theorem dX2_those_37 : decode cX2_those 37 = .ok (.iload_n 2, 1) := by decide +kernel
theorem dX2_those_38 : decode cX2_those 38 = .ok (.ireturn, 1) := by decide +kernel
theorem dX2_engagedBy_0 : decode cX2_engagedBy 0 = .ok (.iconst 0, 1) := by decide +kernel
theorem dX2_engagedBy_1 : decode cX2_engagedBy 1 = .ok (.istore_n 2, 1) := by decide +kernel
theorem dX2_engagedBy_2 : decode cX2_engagedBy 2 = .ok (.iload_n 2, 1) := by decide +kernel
theorem dX2_engagedBy_3 : decode cX2_engagedBy 3 = .ok (.aload_n 0, 1) := by decide +kernel
theorem dX2_engagedBy_4 : decode cX2_engagedBy 4 = .ok (.getfield 24, 3) := by decide +kernel
theorem dX2_engagedBy_7 : decode cX2_engagedBy 7 = .ok (.getfield 44, 3) := by decide +kernel
theorem dX2_engagedBy_10 : decode cX2_engagedBy 10 = .ok (.if_icmp .ge 47, 3) := by decide +kernel
theorem dX2_engagedBy_13 : decode cX2_engagedBy 13 = .ok (.aload_n 0, 1) := by decide +kernel
theorem dX2_engagedBy_14 : decode cX2_engagedBy 14 = .ok (.getfield 15, 3) := by decide +kernel
theorem dX2_engagedBy_17 : decode cX2_engagedBy 17 = .ok (.iload_n 2, 1) := by decide +kernel
theorem dX2_engagedBy_18 : decode cX2_engagedBy 18 = .ok (.iaload, 1) := by decide +kernel
theorem dX2_engagedBy_19 : decode cX2_engagedBy 19 = .ok (.iconst 2, 1) := by decide +kernel
theorem dX2_engagedBy_20 : decode cX2_engagedBy 20 = .ok (.if_icmp .ne 31, 3) := by decide +kernel
theorem dX2_engagedBy_23 : decode cX2_engagedBy 23 = .ok (.aload_n 0, 1) := by decide +kernel
theorem dX2_engagedBy_24 : decode cX2_engagedBy 24 = .ok (.getfield 24, 3) := by decide +kernel
theorem dX2_engagedBy_27 : decode cX2_engagedBy 27 = .ok (.getfield 50, 3) := by decide +kernel
theorem dX2_engagedBy_30 : decode cX2_engagedBy 30 = .ok (.iload_n 2, 1) := by decide +kernel
theorem dX2_engagedBy_31 : decode cX2_engagedBy 31 = .ok (.iaload, 1) := by decide +kernel
theorem dX2_engagedBy_32 : decode cX2_engagedBy 32 = .ok (.iload_n 1, 1) := by decide +kernel
theorem dX2_engagedBy_33 : decode cX2_engagedBy 33 = .ok (.if_icmp .eq 16, 3) := by decide +kernel
theorem dX2_engagedBy_36 : decode cX2_engagedBy 36 = .ok (.aload_n 0, 1) := by decide +kernel
theorem dX2_engagedBy_37 : decode cX2_engagedBy 37 = .ok (.getfield 24, 3) := by decide +kernel
theorem dX2_engagedBy_40 : decode cX2_engagedBy 40 = .ok (.getfield 53, 3) := by decide +kernel
theorem dX2_engagedBy_43 : decode cX2_engagedBy 43 = .ok (.iload_n 2, 1) := by decide +kernel
theorem dX2_engagedBy_44 : decode cX2_engagedBy 44 = .ok (.iaload, 1) := by decide +kernel
theorem dX2_engagedBy_45 : decode cX2_engagedBy 45 = .ok (.iload_n 1, 1) := by decide +kernel
theorem dX2_engagedBy_46 : decode cX2_engagedBy 46 = .ok (.if_icmp .ne 5, 3) := by decide +kernel
theorem dX2_engagedBy_49 : decode cX2_engagedBy 49 = .ok (.iload_n 2, 1) := by decide +kernel
theorem dX2_engagedBy_50 : decode cX2_engagedBy 50 = .ok (.ireturn, 1) := by decide +kernel
theorem dX2_engagedBy_51 : decode cX2_engagedBy 51 = .ok (.iinc 2 1, 3) := by decide +kernel
theorem dX2_engagedBy_54 : decode cX2_engagedBy 54 = .ok (.goto (-52), 3) := by decide +kernel
theorem dX2_engagedBy_57 : decode cX2_engagedBy 57 = .ok (.bipush (-9), 2) := by decide +kernel
theorem dX2_engagedBy_59 : decode cX2_engagedBy 59 = .ok (.ireturn, 1) := by decide +kernel
theorem dX2_linesFree_0 : decode cX2_linesFree 0 = .ok (.iconst 0, 1) := by decide +kernel
theorem dX2_linesFree_1 : decode cX2_linesFree 1 = .ok (.istore_n 3, 1) := by decide +kernel
theorem dX2_linesFree_2 : decode cX2_linesFree 2 = .ok (.iload_n 3, 1) := by decide +kernel
theorem dX2_linesFree_3 : decode cX2_linesFree 3 = .ok (.aload_n 0, 1) := by decide +kernel
theorem dX2_linesFree_4 : decode cX2_linesFree 4 = .ok (.getfield 24, 3) := by decide +kernel
theorem dX2_linesFree_7 : decode cX2_linesFree 7 = .ok (.getfield 44, 3) := by decide +kernel
theorem dX2_linesFree_10 : decode cX2_linesFree 10 = .ok (.if_icmp .ge 32, 3) := by decide +kernel
theorem dX2_linesFree_13 : decode cX2_linesFree 13 = .ok (.iload_n 2, 1) := by decide +kernel
theorem dX2_linesFree_14 : decode cX2_linesFree 14 = .ok (.iload_n 3, 1) := by decide +kernel
theorem dX2_linesFree_15 : decode cX2_linesFree 15 = .ok (.ishr, 1) := by decide +kernel
theorem dX2_linesFree_16 : decode cX2_linesFree 16 = .ok (.iconst 1, 1) := by decide +kernel
theorem dX2_linesFree_17 : decode cX2_linesFree 17 = .ok (.iand, 1) := by decide +kernel
theorem dX2_linesFree_18 : decode cX2_linesFree 18 = .ok (.iconst 1, 1) := by decide +kernel
theorem dX2_linesFree_19 : decode cX2_linesFree 19 = .ok (.if_icmp .ne 17, 3) := by decide +kernel
theorem dX2_linesFree_22 : decode cX2_linesFree 22 = .ok (.aload_n 0, 1) := by decide +kernel
theorem dX2_linesFree_23 : decode cX2_linesFree 23 = .ok (.getfield 24, 3) := by decide +kernel
theorem dX2_linesFree_26 : decode cX2_linesFree 26 = .ok (.iload_n 1, 1) := by decide +kernel
theorem dX2_linesFree_27 : decode cX2_linesFree 27 = .ok (.iload_n 3, 1) := by decide +kernel
theorem dX2_linesFree_28 : decode cX2_linesFree 28 = .ok (.invokevirtual 56, 3) := by decide +kernel
theorem dX2_linesFree_31 : decode cX2_linesFree 31 = .ok (.ifCond .eq 5, 3) := by decide +kernel
theorem dX2_linesFree_34 : decode cX2_linesFree 34 = .ok (.iconst 0, 1) := by decide +kernel
theorem dX2_linesFree_35 : decode cX2_linesFree 35 = .ok (.ireturn, 1) := by decide +kernel
theorem dX2_linesFree_36 : decode cX2_linesFree 36 = .ok (.iinc 3 1, 3) := by decide +kernel
theorem dX2_linesFree_39 : decode cX2_linesFree 39 = .ok (.goto (-37), 3) := by decide +kernel
theorem dX2_linesFree_42 : decode cX2_linesFree 42 = .ok (.iconst 1, 1) := by decide +kernel
theorem dX2_linesFree_43 : decode cX2_linesFree 43 = .ok (.ireturn, 1) := by decide +kernel
theorem dX2_hasRoom_0 : decode cX2_hasRoom 0 = .ok (.iload_n 2, 1) := by decide +kernel
theorem dX2_hasRoom_1 : decode cX2_hasRoom 1 = .ok (.invokestatic 60, 3) := by decide +kernel
theorem dX2_hasRoom_4 : decode cX2_hasRoom 4 = .ok (.iload_n 3, 1) := by decide +kernel
theorem dX2_hasRoom_5 : decode cX2_hasRoom 5 = .ok (.if_icmp .ge 16, 3) := by decide +kernel
theorem dX2_hasRoom_8 : decode cX2_hasRoom 8 = .ok (.aload_n 0, 1) := by decide +kernel
theorem dX2_hasRoom_9 : decode cX2_hasRoom 9 = .ok (.iload_n 1, 1) := by decide +kernel
theorem dX2_hasRoom_10 : decode cX2_hasRoom 10 = .ok (.iload_n 2, 1) := by decide +kernel
theorem dX2_hasRoom_11 : decode cX2_hasRoom 11 = .ok (.invokevirtual 66, 3) := by decide +kernel
theorem dX2_hasRoom_14 : decode cX2_hasRoom 14 = .ok (.ifCond .eq 7, 3) := by decide +kernel
theorem dX2_hasRoom_17 : decode cX2_hasRoom 17 = .ok (.iconst 1, 1) := by decide +kernel
theorem dX2_hasRoom_18 : decode cX2_hasRoom 18 = .ok (.goto 4, 3) := by decide +kernel
theorem dX2_hasRoom_21 : decode cX2_hasRoom 21 = .ok (.iconst 0, 1) := by decide +kernel
theorem dX2_hasRoom_22 : decode cX2_hasRoom 22 = .ok (.ireturn, 1) := by decide +kernel
theorem dX2_canBePlugged_0 : decode cX2_canBePlugged 0 = .ok (.aload_n 0, 1) := by decide +kernel
theorem dX2_canBePlugged_1 : decode cX2_canBePlugged 1 = .ok (.getfield 15, 3) := by decide +kernel
theorem dX2_canBePlugged_4 : decode cX2_canBePlugged 4 = .ok (.iload_n 1, 1) := by decide +kernel
theorem dX2_canBePlugged_5 : decode cX2_canBePlugged 5 = .ok (.iaload, 1) := by decide +kernel
theorem dX2_canBePlugged_6 : decode cX2_canBePlugged 6 = .ok (.iconst 1, 1) := by decide +kernel
theorem dX2_canBePlugged_7 : decode cX2_canBePlugged 7 = .ok (.if_icmp .ne 21, 3) := by decide +kernel
theorem dX2_canBePlugged_10 : decode cX2_canBePlugged 10 = .ok (.aload_n 0, 1) := by decide +kernel
theorem dX2_canBePlugged_11 : decode cX2_canBePlugged 11 = .ok (.iload_n 1, 1) := by decide +kernel
theorem dX2_canBePlugged_12 : decode cX2_canBePlugged 12 = .ok (.aload_n 0, 1) := by decide +kernel
theorem dX2_canBePlugged_13 : decode cX2_canBePlugged 13 = .ok (.iconst 2, 1) := by decide +kernel
theorem dX2_canBePlugged_14 : decode cX2_canBePlugged 14 = .ok (.invokevirtual 69, 3) := by decide +kernel
theorem dX2_canBePlugged_17 : decode cX2_canBePlugged 17 = .ok (.iload_n 2, 1) := by decide +kernel
theorem dX2_canBePlugged_18 : decode cX2_canBePlugged 18 = .ok (.invokevirtual 72, 3) := by decide +kernel
theorem dX2_canBePlugged_21 : decode cX2_canBePlugged 21 = .ok (.ifCond .eq 7, 3) := by decide +kernel
theorem dX2_canBePlugged_24 : decode cX2_canBePlugged 24 = .ok (.iconst 1, 1) := by decide +kernel
theorem dX2_canBePlugged_25 : decode cX2_canBePlugged 25 = .ok (.goto 4, 3) := by decide +kernel
theorem dX2_canBePlugged_28 : decode cX2_canBePlugged 28 = .ok (.iconst 0, 1) := by decide +kernel
theorem dX2_canBePlugged_29 : decode cX2_canBePlugged 29 = .ok (.ireturn, 1) := by decide +kernel
theorem dX2_lacksCord_0 : decode cX2_lacksCord 0 = .ok (.aload_n 0, 1) := by decide +kernel
theorem dX2_lacksCord_1 : decode cX2_lacksCord 1 = .ok (.iconst 2, 1) := by decide +kernel
theorem dX2_lacksCord_2 : decode cX2_lacksCord 2 = .ok (.invokevirtual 69, 3) := by decide +kernel
theorem dX2_lacksCord_5 : decode cX2_lacksCord 5 = .ok (.istore_n 2, 1) := by decide +kernel
theorem dX2_lacksCord_6 : decode cX2_lacksCord 6 = .ok (.iload_n 2, 1) := by decide +kernel
theorem dX2_lacksCord_7 : decode cX2_lacksCord 7 = .ok (.invokestatic 60, 3) := by decide +kernel
theorem dX2_lacksCord_10 : decode cX2_lacksCord 10 = .ok (.iload_n 1, 1) := by decide +kernel
theorem dX2_lacksCord_11 : decode cX2_lacksCord 11 = .ok (.if_icmp .ge 5, 3) := by decide +kernel
theorem dX2_lacksCord_14 : decode cX2_lacksCord 14 = .ok (.iconst 0, 1) := by decide +kernel
theorem dX2_lacksCord_15 : decode cX2_lacksCord 15 = .ok (.ireturn, 1) := by decide +kernel
theorem dX2_lacksCord_16 : decode cX2_lacksCord 16 = .ok (.iconst 0, 1) := by decide +kernel
theorem dX2_lacksCord_17 : decode cX2_lacksCord 17 = .ok (.istore_n 3, 1) := by decide +kernel
theorem dX2_lacksCord_18 : decode cX2_lacksCord 18 = .ok (.iload_n 3, 1) := by decide +kernel
theorem dX2_lacksCord_19 : decode cX2_lacksCord 19 = .ok (.aload_n 0, 1) := by decide +kernel
theorem dX2_lacksCord_20 : decode cX2_lacksCord 20 = .ok (.getfield 24, 3) := by decide +kernel
theorem dX2_lacksCord_23 : decode cX2_lacksCord 23 = .ok (.getfield 44, 3) := by decide +kernel
theorem dX2_lacksCord_26 : decode cX2_lacksCord 26 = .ok (.if_icmp .ge 30, 3) := by decide +kernel
theorem dX2_lacksCord_29 : decode cX2_lacksCord 29 = .ok (.aload_n 0, 1) := by decide +kernel
theorem dX2_lacksCord_30 : decode cX2_lacksCord 30 = .ok (.getfield 15, 3) := by decide +kernel
theorem dX2_lacksCord_33 : decode cX2_lacksCord 33 = .ok (.iload_n 3, 1) := by decide +kernel
theorem dX2_lacksCord_34 : decode cX2_lacksCord 34 = .ok (.iaload, 1) := by decide +kernel
theorem dX2_lacksCord_35 : decode cX2_lacksCord 35 = .ok (.iconst 1, 1) := by decide +kernel
theorem dX2_lacksCord_36 : decode cX2_lacksCord 36 = .ok (.if_icmp .ne 14, 3) := by decide +kernel
theorem dX2_lacksCord_39 : decode cX2_lacksCord 39 = .ok (.aload_n 0, 1) := by decide +kernel
theorem dX2_lacksCord_40 : decode cX2_lacksCord 40 = .ok (.iload_n 3, 1) := by decide +kernel
theorem dX2_lacksCord_41 : decode cX2_lacksCord 41 = .ok (.iload_n 2, 1) := by decide +kernel
theorem dX2_lacksCord_42 : decode cX2_lacksCord 42 = .ok (.invokevirtual 66, 3) := by decide +kernel
theorem dX2_lacksCord_45 : decode cX2_lacksCord 45 = .ok (.ifCond .eq 5, 3) := by decide +kernel
theorem dX2_lacksCord_48 : decode cX2_lacksCord 48 = .ok (.iconst 1, 1) := by decide +kernel
theorem dX2_lacksCord_49 : decode cX2_lacksCord 49 = .ok (.ireturn, 1) := by decide +kernel
theorem dX2_lacksCord_50 : decode cX2_lacksCord 50 = .ok (.iinc 3 1, 3) := by decide +kernel
theorem dX2_lacksCord_53 : decode cX2_lacksCord 53 = .ok (.goto (-35), 3) := by decide +kernel
theorem dX2_lacksCord_56 : decode cX2_lacksCord 56 = .ok (.iconst 0, 1) := by decide +kernel
theorem dX2_lacksCord_57 : decode cX2_lacksCord 57 = .ok (.ireturn, 1) := by decide +kernel
theorem dX2_plug_0 : decode cX2_plug 0 = .ok (.aload_n 0, 1) := by decide +kernel
theorem dX2_plug_1 : decode cX2_plug 1 = .ok (.getfield 15, 3) := by decide +kernel
theorem dX2_plug_4 : decode cX2_plug 4 = .ok (.iload_n 1, 1) := by decide +kernel
theorem dX2_plug_5 : decode cX2_plug 5 = .ok (.iconst 2, 1) := by decide +kernel
theorem dX2_plug_6 : decode cX2_plug 6 = .ok (.iastore, 1) := by decide +kernel
theorem dX2_plug_7 : decode cX2_plug 7 = .ok (.aload_n 0, 1) := by decide +kernel
theorem dX2_plug_8 : decode cX2_plug 8 = .ok (.getfield 18, 3) := by decide +kernel
theorem dX2_plug_11 : decode cX2_plug 11 = .ok (.iload_n 1, 1) := by decide +kernel
theorem dX2_plug_12 : decode cX2_plug 12 = .ok (.aload_n 0, 1) := by decide +kernel
theorem dX2_plug_13 : decode cX2_plug 13 = .ok (.getfield 24, 3) := by decide +kernel
theorem dX2_plug_16 : decode cX2_plug 16 = .ok (.getfield 76, 3) := by decide +kernel
theorem dX2_plug_19 : decode cX2_plug 19 = .ok (.iload_n 1, 1) := by decide +kernel
theorem dX2_plug_20 : decode cX2_plug 20 = .ok (.iaload, 1) := by decide +kernel
theorem dX2_plug_21 : decode cX2_plug 21 = .ok (.iastore, 1) := by decide +kernel
theorem dX2_plug_22 : decode cX2_plug 22 = .ok (.return_, 1) := by decide +kernel
theorem dX2_pull_0 : decode cX2_pull 0 = .ok (.aload_n 0, 1) := by decide +kernel
theorem dX2_pull_1 : decode cX2_pull 1 = .ok (.getfield 15, 3) := by decide +kernel
theorem dX2_pull_4 : decode cX2_pull 4 = .ok (.iload_n 1, 1) := by decide +kernel
theorem dX2_pull_5 : decode cX2_pull 5 = .ok (.iconst 4, 1) := by decide +kernel
theorem dX2_pull_6 : decode cX2_pull 6 = .ok (.iastore, 1) := by decide +kernel
theorem dX2_pull_7 : decode cX2_pull 7 = .ok (.aload_n 0, 1) := by decide +kernel
theorem dX2_pull_8 : decode cX2_pull 8 = .ok (.getfield 18, 3) := by decide +kernel
theorem dX2_pull_11 : decode cX2_pull 11 = .ok (.iload_n 1, 1) := by decide +kernel
theorem dX2_pull_12 : decode cX2_pull 12 = .ok (.iconst 0, 1) := by decide +kernel
theorem dX2_pull_13 : decode cX2_pull 13 = .ok (.iastore, 1) := by decide +kernel
theorem dX2_pull_14 : decode cX2_pull 14 = .ok (.return_, 1) := by decide +kernel
theorem dX2_passMinute_0 : decode cX2_passMinute 0 = .ok (.iconst 0, 1) := by decide +kernel
theorem dX2_passMinute_1 : decode cX2_passMinute 1 = .ok (.istore_n 1, 1) := by decide +kernel
theorem dX2_passMinute_2 : decode cX2_passMinute 2 = .ok (.iload_n 1, 1) := by decide +kernel
theorem dX2_passMinute_3 : decode cX2_passMinute 3 = .ok (.aload_n 0, 1) := by decide +kernel
theorem dX2_passMinute_4 : decode cX2_passMinute 4 = .ok (.getfield 24, 3) := by decide +kernel
theorem dX2_passMinute_7 : decode cX2_passMinute 7 = .ok (.getfield 44, 3) := by decide +kernel
theorem dX2_passMinute_10 : decode cX2_passMinute 10 = .ok (.if_icmp .ge 68, 3) := by decide +kernel
theorem dX2_passMinute_13 : decode cX2_passMinute 13 = .ok (.aload_n 0, 1) := by decide +kernel
theorem dX2_passMinute_14 : decode cX2_passMinute 14 = .ok (.getfield 15, 3) := by decide +kernel
theorem dX2_passMinute_17 : decode cX2_passMinute 17 = .ok (.iload_n 1, 1) := by decide +kernel
theorem dX2_passMinute_18 : decode cX2_passMinute 18 = .ok (.iaload, 1) := by decide +kernel
theorem dX2_passMinute_19 : decode cX2_passMinute 19 = .ok (.iconst 2, 1) := by decide +kernel
theorem dX2_passMinute_20 : decode cX2_passMinute 20 = .ok (.if_icmp .ne 32, 3) := by decide +kernel
theorem dX2_passMinute_23 : decode cX2_passMinute 23 = .ok (.aload_n 0, 1) := by decide +kernel
theorem dX2_passMinute_24 : decode cX2_passMinute 24 = .ok (.getfield 18, 3) := by decide +kernel
theorem dX2_passMinute_27 : decode cX2_passMinute 27 = .ok (.iload_n 1, 1) := by decide +kernel
theorem dX2_passMinute_28 : decode cX2_passMinute 28 = .ok (.dup2, 1) := by decide +kernel
theorem dX2_passMinute_29 : decode cX2_passMinute 29 = .ok (.iaload, 1) := by decide +kernel
theorem dX2_passMinute_30 : decode cX2_passMinute 30 = .ok (.iconst 1, 1) := by decide +kernel
theorem dX2_passMinute_31 : decode cX2_passMinute 31 = .ok (.isub, 1) := by decide +kernel
theorem dX2_passMinute_32 : decode cX2_passMinute 32 = .ok (.iastore, 1) := by decide +kernel
theorem dX2_passMinute_33 : decode cX2_passMinute 33 = .ok (.aload_n 0, 1) := by decide +kernel
theorem dX2_passMinute_34 : decode cX2_passMinute 34 = .ok (.getfield 18, 3) := by decide +kernel
theorem dX2_passMinute_37 : decode cX2_passMinute 37 = .ok (.iload_n 1, 1) := by decide +kernel
theorem dX2_passMinute_38 : decode cX2_passMinute 38 = .ok (.iaload, 1) := by decide +kernel
theorem dX2_passMinute_39 : decode cX2_passMinute 39 = .ok (.ifCond .gt 33, 3) := by decide +kernel
theorem dX2_passMinute_42 : decode cX2_passMinute 42 = .ok (.aload_n 0, 1) := by decide +kernel
theorem dX2_passMinute_43 : decode cX2_passMinute 43 = .ok (.getfield 15, 3) := by decide +kernel
theorem dX2_passMinute_46 : decode cX2_passMinute 46 = .ok (.iload_n 1, 1) := by decide +kernel
theorem dX2_passMinute_47 : decode cX2_passMinute 47 = .ok (.iconst 3, 1) := by decide +kernel
theorem dX2_passMinute_48 : decode cX2_passMinute 48 = .ok (.iastore, 1) := by decide +kernel
theorem dX2_passMinute_49 : decode cX2_passMinute 49 = .ok (.goto 23, 3) := by decide +kernel
theorem dX2_passMinute_52 : decode cX2_passMinute 52 = .ok (.aload_n 0, 1) := by decide +kernel
theorem dX2_passMinute_53 : decode cX2_passMinute 53 = .ok (.getfield 15, 3) := by decide +kernel
theorem dX2_passMinute_56 : decode cX2_passMinute 56 = .ok (.iload_n 1, 1) := by decide +kernel
theorem dX2_passMinute_57 : decode cX2_passMinute 57 = .ok (.iaload, 1) := by decide +kernel
theorem dX2_passMinute_58 : decode cX2_passMinute 58 = .ok (.iconst 1, 1) := by decide +kernel
theorem dX2_passMinute_59 : decode cX2_passMinute 59 = .ok (.if_icmp .ne 13, 3) := by decide +kernel
theorem dX2_passMinute_62 : decode cX2_passMinute 62 = .ok (.aload_n 0, 1) := by decide +kernel
theorem dX2_passMinute_63 : decode cX2_passMinute 63 = .ok (.getfield 21, 3) := by decide +kernel
theorem dX2_passMinute_66 : decode cX2_passMinute 66 = .ok (.iload_n 1, 1) := by decide +kernel
theorem dX2_passMinute_67 : decode cX2_passMinute 67 = .ok (.dup2, 1) := by decide +kernel
theorem dX2_passMinute_68 : decode cX2_passMinute 68 = .ok (.iaload, 1) := by decide +kernel
theorem dX2_passMinute_69 : decode cX2_passMinute 69 = .ok (.iconst 1, 1) := by decide +kernel
theorem dX2_passMinute_70 : decode cX2_passMinute 70 = .ok (.iadd, 1) := by decide +kernel
theorem dX2_passMinute_71 : decode cX2_passMinute 71 = .ok (.iastore, 1) := by decide +kernel
theorem dX2_passMinute_72 : decode cX2_passMinute 72 = .ok (.iinc 1 1, 3) := by decide +kernel
theorem dX2_passMinute_75 : decode cX2_passMinute 75 = .ok (.goto (-73), 3) := by decide +kernel
theorem dX2_passMinute_78 : decode cX2_passMinute 78 = .ok (.aload_n 0, 1) := by decide +kernel
theorem dX2_passMinute_79 : decode cX2_passMinute 79 = .ok (.dup, 1) := by decide +kernel
theorem dX2_passMinute_80 : decode cX2_passMinute 80 = .ok (.getfield 28, 3) := by decide +kernel
theorem dX2_passMinute_83 : decode cX2_passMinute 83 = .ok (.iconst 1, 1) := by decide +kernel
theorem dX2_passMinute_84 : decode cX2_passMinute 84 = .ok (.iadd, 1) := by decide +kernel
theorem dX2_passMinute_85 : decode cX2_passMinute 85 = .ok (.putfield 28, 3) := by decide +kernel
theorem dX2_passMinute_88 : decode cX2_passMinute 88 = .ok (.aload_n 0, 1) := by decide +kernel
theorem dX2_passMinute_89 : decode cX2_passMinute 89 = .ok (.invokevirtual 41, 3) := by decide +kernel
theorem dX2_passMinute_92 : decode cX2_passMinute 92 = .ok (.return_, 1) := by decide +kernel
theorem dX2_waitedOf_0 : decode cX2_waitedOf 0 = .ok (.aload_n 0, 1) := by decide +kernel
theorem dX2_waitedOf_1 : decode cX2_waitedOf 1 = .ok (.aload_n 0, 1) := by decide +kernel
theorem dX2_waitedOf_2 : decode cX2_waitedOf 2 = .ok (.getfield 21, 3) := by decide +kernel
theorem dX2_waitedOf_5 : decode cX2_waitedOf 5 = .ok (.iload_n 1, 1) := by decide +kernel
theorem dX2_waitedOf_6 : decode cX2_waitedOf 6 = .ok (.invokevirtual 79, 3) := by decide +kernel
theorem dX2_waitedOf_9 : decode cX2_waitedOf 9 = .ok (.ireturn, 1) := by decide +kernel
theorem dX2_leftOf_0 : decode cX2_leftOf 0 = .ok (.aload_n 0, 1) := by decide +kernel
theorem dX2_leftOf_1 : decode cX2_leftOf 1 = .ok (.aload_n 0, 1) := by decide +kernel
theorem dX2_leftOf_2 : decode cX2_leftOf 2 = .ok (.getfield 18, 3) := by decide +kernel
theorem dX2_leftOf_5 : decode cX2_leftOf 5 = .ok (.iload_n 1, 1) := by decide +kernel
theorem dX2_leftOf_6 : decode cX2_leftOf 6 = .ok (.invokevirtual 79, 3) := by decide +kernel
theorem dX2_leftOf_9 : decode cX2_leftOf 9 = .ok (.ireturn, 1) := by decide +kernel
theorem dX2_sumOf_0 : decode cX2_sumOf 0 = .ok (.iconst 0, 1) := by decide +kernel
theorem dX2_sumOf_1 : decode cX2_sumOf 1 = .ok (.istore_n 3, 1) := by decide +kernel
theorem dX2_sumOf_2 : decode cX2_sumOf 2 = .ok (.iconst 0, 1) := by decide +kernel
theorem dX2_sumOf_3 : decode cX2_sumOf 3 = .ok (.istore 4, 2) := by decide +kernel
theorem dX2_sumOf_5 : decode cX2_sumOf 5 = .ok (.iload 4, 2) := by decide +kernel
theorem dX2_sumOf_7 : decode cX2_sumOf 7 = .ok (.aload_n 0, 1) := by decide +kernel
theorem dX2_sumOf_8 : decode cX2_sumOf 8 = .ok (.getfield 24, 3) := by decide +kernel
theorem dX2_sumOf_11 : decode cX2_sumOf 11 = .ok (.getfield 44, 3) := by decide +kernel
theorem dX2_sumOf_14 : decode cX2_sumOf 14 = .ok (.if_icmp .ge 26, 3) := by decide +kernel
theorem dX2_sumOf_17 : decode cX2_sumOf 17 = .ok (.iload_n 2, 1) := by decide +kernel
theorem dX2_sumOf_18 : decode cX2_sumOf 18 = .ok (.iload 4, 2) := by decide +kernel
theorem dX2_sumOf_20 : decode cX2_sumOf 20 = .ok (.ishr, 1) := by decide +kernel
theorem dX2_sumOf_21 : decode cX2_sumOf 21 = .ok (.iconst 1, 1) := by decide +kernel
theorem dX2_sumOf_22 : decode cX2_sumOf 22 = .ok (.iand, 1) := by decide +kernel
theorem dX2_sumOf_23 : decode cX2_sumOf 23 = .ok (.iconst 1, 1) := by decide +kernel
theorem dX2_sumOf_24 : decode cX2_sumOf 24 = .ok (.if_icmp .ne 10, 3) := by decide +kernel
theorem dX2_sumOf_27 : decode cX2_sumOf 27 = .ok (.iload_n 3, 1) := by decide +kernel
theorem dX2_sumOf_28 : decode cX2_sumOf 28 = .ok (.aload_n 1, 1) := by decide +kernel
theorem dX2_sumOf_29 : decode cX2_sumOf 29 = .ok (.iload 4, 2) := by decide +kernel
theorem dX2_sumOf_31 : decode cX2_sumOf 31 = .ok (.iaload, 1) := by decide +kernel
theorem dX2_sumOf_32 : decode cX2_sumOf 32 = .ok (.iadd, 1) := by decide +kernel
theorem dX2_sumOf_33 : decode cX2_sumOf 33 = .ok (.istore_n 3, 1) := by decide +kernel
theorem dX2_sumOf_34 : decode cX2_sumOf 34 = .ok (.iinc 4 1, 3) := by decide +kernel
theorem dX2_sumOf_37 : decode cX2_sumOf 37 = .ok (.goto (-32), 3) := by decide +kernel
theorem dX2_sumOf_40 : decode cX2_sumOf 40 = .ok (.iload_n 3, 1) := by decide +kernel
theorem dX2_sumOf_41 : decode cX2_sumOf 41 = .ok (.ireturn, 1) := by decide +kernel
theorem dX2_leastCut_0 : decode cX2_leastCut 0 = .ok (.aload_n 0, 1) := by decide +kernel
theorem dX2_leastCut_1 : decode cX2_leastCut 1 = .ok (.iconst 2, 1) := by decide +kernel
theorem dX2_leastCut_2 : decode cX2_leastCut 2 = .ok (.invokevirtual 69, 3) := by decide +kernel
theorem dX2_leastCut_5 : decode cX2_leastCut 5 = .ok (.istore_n 2, 1) := by decide +kernel
theorem dX2_leastCut_6 : decode cX2_leastCut 6 = .ok (.iload_n 2, 1) := by decide +kernel
theorem dX2_leastCut_7 : decode cX2_leastCut 7 = .ok (.istore_n 3, 1) := by decide +kernel
theorem dX2_leastCut_8 : decode cX2_leastCut 8 = .ok (.iconst 0, 1) := by decide +kernel
theorem dX2_leastCut_9 : decode cX2_leastCut 9 = .ok (.istore 4, 2) := by decide +kernel
theorem dX2_leastCut_11 : decode cX2_leastCut 11 = .ok (.iload 4, 2) := by decide +kernel
theorem dX2_leastCut_13 : decode cX2_leastCut 13 = .ok (.iload_n 2, 1) := by decide +kernel
theorem dX2_leastCut_14 : decode cX2_leastCut 14 = .ok (.if_icmp .ge 64, 3) := by decide +kernel
theorem dX2_leastCut_17 : decode cX2_leastCut 17 = .ok (.iload 4, 2) := by decide +kernel
theorem dX2_leastCut_19 : decode cX2_leastCut 19 = .ok (.iload_n 2, 1) := by decide +kernel
theorem dX2_leastCut_20 : decode cX2_leastCut 20 = .ok (.iand, 1) := by decide +kernel
theorem dX2_leastCut_21 : decode cX2_leastCut 21 = .ok (.iload 4, 2) := by decide +kernel
theorem dX2_leastCut_23 : decode cX2_leastCut 23 = .ok (.if_icmp .ne 7, 3) := by decide +kernel
theorem dX2_leastCut_26 : decode cX2_leastCut 26 = .ok (.iconst 1, 1) := by decide +kernel
theorem dX2_leastCut_27 : decode cX2_leastCut 27 = .ok (.goto 4, 3) := by decide +kernel
theorem dX2_leastCut_30 : decode cX2_leastCut 30 = .ok (.iconst 0, 1) := by decide +kernel
theorem dX2_leastCut_31 : decode cX2_leastCut 31 = .ok (.istore 5, 2) := by decide +kernel
theorem dX2_leastCut_33 : decode cX2_leastCut 33 = .ok (.iload 5, 2) := by decide +kernel
theorem dX2_leastCut_35 : decode cX2_leastCut 35 = .ok (.ifCond .eq 37, 3) := by decide +kernel
theorem dX2_leastCut_38 : decode cX2_leastCut 38 = .ok (.aload_n 0, 1) := by decide +kernel
theorem dX2_leastCut_39 : decode cX2_leastCut 39 = .ok (.iload_n 1, 1) := by decide +kernel
theorem dX2_leastCut_40 : decode cX2_leastCut 40 = .ok (.iload_n 2, 1) := by decide +kernel
theorem dX2_leastCut_41 : decode cX2_leastCut 41 = .ok (.iload 4, 2) := by decide +kernel
theorem dX2_leastCut_43 : decode cX2_leastCut 43 = .ok (.iconst (-1), 1) := by decide +kernel
theorem dX2_leastCut_44 : decode cX2_leastCut 44 = .ok (.ixor, 1) := by decide +kernel
theorem dX2_leastCut_45 : decode cX2_leastCut 45 = .ok (.iand, 1) := by decide +kernel
theorem dX2_leastCut_46 : decode cX2_leastCut 46 = .ok (.aload_n 0, 1) := by decide +kernel
theorem dX2_leastCut_47 : decode cX2_leastCut 47 = .ok (.getfield 24, 3) := by decide +kernel
theorem dX2_leastCut_50 : decode cX2_leastCut 50 = .ok (.getfield 83, 3) := by decide +kernel
theorem dX2_leastCut_53 : decode cX2_leastCut 53 = .ok (.invokevirtual 72, 3) := by decide +kernel
theorem dX2_leastCut_56 : decode cX2_leastCut 56 = .ok (.ifCond .eq 16, 3) := by decide +kernel
theorem dX2_leastCut_59 : decode cX2_leastCut 59 = .ok (.aload_n 0, 1) := by decide +kernel
theorem dX2_leastCut_60 : decode cX2_leastCut 60 = .ok (.iload 4, 2) := by decide +kernel
theorem dX2_leastCut_62 : decode cX2_leastCut 62 = .ok (.iload_n 3, 1) := by decide +kernel
theorem dX2_leastCut_63 : decode cX2_leastCut 63 = .ok (.invokevirtual 86, 3) := by decide +kernel
theorem dX2_leastCut_66 : decode cX2_leastCut 66 = .ok (.ifCond .eq 6, 3) := by decide +kernel
theorem dX2_leastCut_69 : decode cX2_leastCut 69 = .ok (.iload 4, 2) := by decide +kernel
theorem dX2_leastCut_71 : decode cX2_leastCut 71 = .ok (.istore_n 3, 1) := by decide +kernel
theorem dX2_leastCut_72 : decode cX2_leastCut 72 = .ok (.iinc 4 1, 3) := by decide +kernel
theorem dX2_leastCut_75 : decode cX2_leastCut 75 = .ok (.goto (-64), 3) := by decide +kernel
theorem dX2_leastCut_78 : decode cX2_leastCut 78 = .ok (.iload_n 3, 1) := by decide +kernel
theorem dX2_leastCut_79 : decode cX2_leastCut 79 = .ok (.ireturn, 1) := by decide +kernel
theorem dX2_cutsLess_0 : decode cX2_cutsLess 0 = .ok (.iload_n 2, 1) := by decide +kernel
theorem dX2_cutsLess_1 : decode cX2_cutsLess 1 = .ok (.invokestatic 60, 3) := by decide +kernel
theorem dX2_cutsLess_4 : decode cX2_cutsLess 4 = .ok (.iload_n 1, 1) := by decide +kernel
theorem dX2_cutsLess_5 : decode cX2_cutsLess 5 = .ok (.invokestatic 60, 3) := by decide +kernel
theorem dX2_cutsLess_8 : decode cX2_cutsLess 8 = .ok (.isub, 1) := by decide +kernel
theorem dX2_cutsLess_9 : decode cX2_cutsLess 9 = .ok (.istore_n 3, 1) := by decide +kernel
theorem dX2_cutsLess_10 : decode cX2_cutsLess 10 = .ok (.iload_n 3, 1) := by decide +kernel
theorem dX2_cutsLess_11 : decode cX2_cutsLess 11 = .ok (.ifCond .gt 20, 3) := by decide +kernel
theorem dX2_cutsLess_14 : decode cX2_cutsLess 14 = .ok (.iload_n 3, 1) := by decide +kernel
theorem dX2_cutsLess_15 : decode cX2_cutsLess 15 = .ok (.ifCond .ne 20, 3) := by decide +kernel
theorem dX2_cutsLess_18 : decode cX2_cutsLess 18 = .ok (.aload_n 0, 1) := by decide +kernel
theorem dX2_cutsLess_19 : decode cX2_cutsLess 19 = .ok (.iload_n 1, 1) := by decide +kernel
theorem dX2_cutsLess_20 : decode cX2_cutsLess 20 = .ok (.invokevirtual 89, 3) := by decide +kernel
theorem dX2_cutsLess_23 : decode cX2_cutsLess 23 = .ok (.aload_n 0, 1) := by decide +kernel
theorem dX2_cutsLess_24 : decode cX2_cutsLess 24 = .ok (.iload_n 2, 1) := by decide +kernel
theorem dX2_cutsLess_25 : decode cX2_cutsLess 25 = .ok (.invokevirtual 89, 3) := by decide +kernel
theorem dX2_cutsLess_28 : decode cX2_cutsLess 28 = .ok (.if_icmp .ge 7, 3) := by decide +kernel
theorem dX2_cutsLess_31 : decode cX2_cutsLess 31 = .ok (.iconst 1, 1) := by decide +kernel
theorem dX2_cutsLess_32 : decode cX2_cutsLess 32 = .ok (.goto 4, 3) := by decide +kernel
theorem dX2_cutsLess_35 : decode cX2_cutsLess 35 = .ok (.iconst 0, 1) := by decide +kernel
theorem dX2_cutsLess_36 : decode cX2_cutsLess 36 = .ok (.ireturn, 1) := by decide +kernel
theorem dX2_cross_0 : decode cX2_cross 0 = .ok (.aload_n 0, 1) := by decide +kernel
theorem dX2_cross_1 : decode cX2_cross 1 = .ok (.getfield 24, 3) := by decide +kernel
theorem dX2_cross_4 : decode cX2_cross 4 = .ok (.iload_n 1, 1) := by decide +kernel
theorem dX2_cross_5 : decode cX2_cross 5 = .ok (.iload_n 2, 1) := by decide +kernel
theorem dX2_cross_6 : decode cX2_cross 6 = .ok (.invokevirtual 56, 3) := by decide +kernel
theorem dX2_cross_9 : decode cX2_cross 9 = .ok (.ifCond .ne 48, 3) := by decide +kernel
theorem dX2_cross_12 : decode cX2_cross 12 = .ok (.aload_n 0, 1) := by decide +kernel
theorem dX2_cross_13 : decode cX2_cross 13 = .ok (.iload_n 1, 1) := by decide +kernel
theorem dX2_cross_14 : decode cX2_cross 14 = .ok (.aload_n 0, 1) := by decide +kernel
theorem dX2_cross_15 : decode cX2_cross 15 = .ok (.getfield 9, 3) := by decide +kernel
theorem dX2_cross_18 : decode cX2_cross 18 = .ok (.aload_n 0, 1) := by decide +kernel
theorem dX2_cross_19 : decode cX2_cross 19 = .ok (.getfield 24, 3) := by decide +kernel
theorem dX2_cross_22 : decode cX2_cross 22 = .ok (.getfield 50, 3) := by decide +kernel
theorem dX2_cross_25 : decode cX2_cross 25 = .ok (.iload_n 2, 1) := by decide +kernel
theorem dX2_cross_26 : decode cX2_cross 26 = .ok (.iaload, 1) := by decide +kernel
theorem dX2_cross_27 : decode cX2_cross 27 = .ok (.iaload, 1) := by decide +kernel
theorem dX2_cross_28 : decode cX2_cross 28 = .ok (.invokevirtual 92, 3) := by decide +kernel
theorem dX2_cross_31 : decode cX2_cross 31 = .ok (.aload_n 0, 1) := by decide +kernel
theorem dX2_cross_32 : decode cX2_cross 32 = .ok (.iload_n 1, 1) := by decide +kernel
theorem dX2_cross_33 : decode cX2_cross 33 = .ok (.aload_n 0, 1) := by decide +kernel
theorem dX2_cross_34 : decode cX2_cross 34 = .ok (.getfield 9, 3) := by decide +kernel
theorem dX2_cross_37 : decode cX2_cross 37 = .ok (.aload_n 0, 1) := by decide +kernel
theorem dX2_cross_38 : decode cX2_cross 38 = .ok (.getfield 24, 3) := by decide +kernel
theorem dX2_cross_41 : decode cX2_cross 41 = .ok (.getfield 53, 3) := by decide +kernel
theorem dX2_cross_44 : decode cX2_cross 44 = .ok (.iload_n 2, 1) := by decide +kernel
theorem dX2_cross_45 : decode cX2_cross 45 = .ok (.iaload, 1) := by decide +kernel
theorem dX2_cross_46 : decode cX2_cross 46 = .ok (.iaload, 1) := by decide +kernel
theorem dX2_cross_47 : decode cX2_cross 47 = .ok (.invokevirtual 92, 3) := by decide +kernel
theorem dX2_cross_50 : decode cX2_cross 50 = .ok (.if_icmp .eq 7, 3) := by decide +kernel
theorem dX2_cross_53 : decode cX2_cross 53 = .ok (.iconst 1, 1) := by decide +kernel
theorem dX2_cross_54 : decode cX2_cross 54 = .ok (.goto 4, 3) := by decide +kernel
theorem dX2_cross_57 : decode cX2_cross 57 = .ok (.iconst 0, 1) := by decide +kernel
theorem dX2_cross_58 : decode cX2_cross 58 = .ok (.ireturn, 1) := by decide +kernel
theorem dX2_isBetween_0 : decode cX2_isBetween 0 = .ok (.aload_n 0, 1) := by decide +kernel
theorem dX2_isBetween_1 : decode cX2_isBetween 1 = .ok (.getfield 9, 3) := by decide +kernel
theorem dX2_isBetween_4 : decode cX2_isBetween 4 = .ok (.aload_n 0, 1) := by decide +kernel
theorem dX2_isBetween_5 : decode cX2_isBetween 5 = .ok (.getfield 24, 3) := by decide +kernel
theorem dX2_isBetween_8 : decode cX2_isBetween 8 = .ok (.getfield 50, 3) := by decide +kernel
theorem dX2_isBetween_11 : decode cX2_isBetween 11 = .ok (.iload_n 1, 1) := by decide +kernel
theorem dX2_isBetween_12 : decode cX2_isBetween 12 = .ok (.iaload, 1) := by decide +kernel
theorem dX2_isBetween_13 : decode cX2_isBetween 13 = .ok (.iaload, 1) := by decide +kernel
theorem dX2_isBetween_14 : decode cX2_isBetween 14 = .ok (.istore_n 3, 1) := by decide +kernel
theorem dX2_isBetween_15 : decode cX2_isBetween 15 = .ok (.aload_n 0, 1) := by decide +kernel
theorem dX2_isBetween_16 : decode cX2_isBetween 16 = .ok (.getfield 9, 3) := by decide +kernel
theorem dX2_isBetween_19 : decode cX2_isBetween 19 = .ok (.aload_n 0, 1) := by decide +kernel
theorem dX2_isBetween_20 : decode cX2_isBetween 20 = .ok (.getfield 24, 3) := by decide +kernel
theorem dX2_isBetween_23 : decode cX2_isBetween 23 = .ok (.getfield 53, 3) := by decide +kernel
theorem dX2_isBetween_26 : decode cX2_isBetween 26 = .ok (.iload_n 1, 1) := by decide +kernel
theorem dX2_isBetween_27 : decode cX2_isBetween 27 = .ok (.iaload, 1) := by decide +kernel
theorem dX2_isBetween_28 : decode cX2_isBetween 28 = .ok (.iaload, 1) := by decide +kernel
theorem dX2_isBetween_29 : decode cX2_isBetween 29 = .ok (.istore 4, 2) := by decide +kernel
theorem dX2_isBetween_31 : decode cX2_isBetween 31 = .ok (.iload_n 3, 1) := by decide +kernel
theorem dX2_isBetween_32 : decode cX2_isBetween 32 = .ok (.iload 4, 2) := by decide +kernel
theorem dX2_isBetween_34 : decode cX2_isBetween 34 = .ok (.invokestatic 95, 3) := by decide +kernel
theorem dX2_isBetween_37 : decode cX2_isBetween 37 = .ok (.iload_n 2, 1) := by decide +kernel
theorem dX2_isBetween_38 : decode cX2_isBetween 38 = .ok (.if_icmp .ge 17, 3) := by decide +kernel
theorem dX2_isBetween_41 : decode cX2_isBetween 41 = .ok (.iload_n 2, 1) := by decide +kernel
theorem dX2_isBetween_42 : decode cX2_isBetween 42 = .ok (.iload_n 3, 1) := by decide +kernel
theorem dX2_isBetween_43 : decode cX2_isBetween 43 = .ok (.iload 4, 2) := by decide +kernel
theorem dX2_isBetween_45 : decode cX2_isBetween 45 = .ok (.invokestatic 101, 3) := by decide +kernel
theorem dX2_isBetween_48 : decode cX2_isBetween 48 = .ok (.if_icmp .ge 7, 3) := by decide +kernel
theorem dX2_isBetween_51 : decode cX2_isBetween 51 = .ok (.iconst 1, 1) := by decide +kernel
theorem dX2_isBetween_52 : decode cX2_isBetween 52 = .ok (.goto 4, 3) := by decide +kernel
theorem dX2_isBetween_55 : decode cX2_isBetween 55 = .ok (.iconst 0, 1) := by decide +kernel
theorem dX2_isBetween_56 : decode cX2_isBetween 56 = .ok (.ireturn, 1) := by decide +kernel
theorem dX2_crossedBy_0 : decode cX2_crossedBy 0 = .ok (.iconst 0, 1) := by decide +kernel
theorem dX2_crossedBy_1 : decode cX2_crossedBy 1 = .ok (.istore_n 2, 1) := by decide +kernel
theorem dX2_crossedBy_2 : decode cX2_crossedBy 2 = .ok (.iconst 0, 1) := by decide +kernel
theorem dX2_crossedBy_3 : decode cX2_crossedBy 3 = .ok (.istore_n 3, 1) := by decide +kernel
theorem dX2_crossedBy_4 : decode cX2_crossedBy 4 = .ok (.iload_n 3, 1) := by decide +kernel
theorem dX2_crossedBy_5 : decode cX2_crossedBy 5 = .ok (.aload_n 0, 1) := by decide +kernel
theorem dX2_crossedBy_6 : decode cX2_crossedBy 6 = .ok (.getfield 24, 3) := by decide +kernel
theorem dX2_crossedBy_9 : decode cX2_crossedBy 9 = .ok (.getfield 44, 3) := by decide +kernel
theorem dX2_crossedBy_12 : decode cX2_crossedBy 12 = .ok (.if_icmp .ge 34, 3) := by decide +kernel
theorem dX2_crossedBy_15 : decode cX2_crossedBy 15 = .ok (.aload_n 0, 1) := by decide +kernel
theorem dX2_crossedBy_16 : decode cX2_crossedBy 16 = .ok (.getfield 15, 3) := by decide +kernel
theorem dX2_crossedBy_19 : decode cX2_crossedBy 19 = .ok (.iload_n 3, 1) := by decide +kernel
theorem dX2_crossedBy_20 : decode cX2_crossedBy 20 = .ok (.iaload, 1) := by decide +kernel
theorem dX2_crossedBy_21 : decode cX2_crossedBy 21 = .ok (.iconst 2, 1) := by decide +kernel
theorem dX2_crossedBy_22 : decode cX2_crossedBy 22 = .ok (.if_icmp .ne 18, 3) := by decide +kernel
theorem dX2_crossedBy_25 : decode cX2_crossedBy 25 = .ok (.aload_n 0, 1) := by decide +kernel
theorem dX2_crossedBy_26 : decode cX2_crossedBy 26 = .ok (.iload_n 1, 1) := by decide +kernel
theorem dX2_crossedBy_27 : decode cX2_crossedBy 27 = .ok (.iload_n 3, 1) := by decide +kernel
theorem dX2_crossedBy_28 : decode cX2_crossedBy 28 = .ok (.invokevirtual 104, 3) := by decide +kernel
theorem dX2_crossedBy_31 : decode cX2_crossedBy 31 = .ok (.ifCond .eq 9, 3) := by decide +kernel
theorem dX2_crossedBy_34 : decode cX2_crossedBy 34 = .ok (.iload_n 2, 1) := by decide +kernel
theorem dX2_crossedBy_35 : decode cX2_crossedBy 35 = .ok (.iconst 1, 1) := by decide +kernel
theorem dX2_crossedBy_36 : decode cX2_crossedBy 36 = .ok (.iload_n 3, 1) := by decide +kernel
theorem dX2_crossedBy_37 : decode cX2_crossedBy 37 = .ok (.ishl, 1) := by decide +kernel
theorem dX2_crossedBy_38 : decode cX2_crossedBy 38 = .ok (.ior, 1) := by decide +kernel
theorem dX2_crossedBy_39 : decode cX2_crossedBy 39 = .ok (.istore_n 2, 1) := by decide +kernel
theorem dX2_crossedBy_40 : decode cX2_crossedBy 40 = .ok (.iinc 3 1, 3) := by decide +kernel
theorem dX2_crossedBy_43 : decode cX2_crossedBy 43 = .ok (.goto (-39), 3) := by decide +kernel
theorem dX2_crossedBy_46 : decode cX2_crossedBy 46 = .ok (.iload_n 2, 1) := by decide +kernel
theorem dX2_crossedBy_47 : decode cX2_crossedBy 47 = .ok (.ireturn, 1) := by decide +kernel
theorem dX2_crossings_0 : decode cX2_crossings 0 = .ok (.iconst 0, 1) := by decide +kernel
theorem dX2_crossings_1 : decode cX2_crossings 1 = .ok (.istore_n 1, 1) := by decide +kernel
theorem dX2_crossings_2 : decode cX2_crossings 2 = .ok (.iconst 0, 1) := by decide +kernel
theorem dX2_crossings_3 : decode cX2_crossings 3 = .ok (.istore_n 2, 1) := by decide +kernel
theorem dX2_crossings_4 : decode cX2_crossings 4 = .ok (.iload_n 2, 1) := by decide +kernel
theorem dX2_crossings_5 : decode cX2_crossings 5 = .ok (.aload_n 0, 1) := by decide +kernel
theorem dX2_crossings_6 : decode cX2_crossings 6 = .ok (.getfield 24, 3) := by decide +kernel
theorem dX2_crossings_9 : decode cX2_crossings 9 = .ok (.getfield 44, 3) := by decide +kernel
theorem dX2_crossings_12 : decode cX2_crossings 12 = .ok (.if_icmp .ge 30, 3) := by decide +kernel
theorem dX2_crossings_15 : decode cX2_crossings 15 = .ok (.aload_n 0, 1) := by decide +kernel
theorem dX2_crossings_16 : decode cX2_crossings 16 = .ok (.getfield 15, 3) := by decide +kernel
theorem dX2_crossings_19 : decode cX2_crossings 19 = .ok (.iload_n 2, 1) := by decide +kernel
theorem dX2_crossings_20 : decode cX2_crossings 20 = .ok (.iaload, 1) := by decide +kernel
theorem dX2_crossings_21 : decode cX2_crossings 21 = .ok (.iconst 2, 1) := by decide +kernel
theorem dX2_crossings_22 : decode cX2_crossings 22 = .ok (.if_icmp .ne 14, 3) := by decide +kernel
theorem dX2_crossings_25 : decode cX2_crossings 25 = .ok (.iload_n 1, 1) := by decide +kernel
theorem dX2_crossings_26 : decode cX2_crossings 26 = .ok (.aload_n 0, 1) := by decide +kernel
theorem dX2_crossings_27 : decode cX2_crossings 27 = .ok (.iload_n 2, 1) := by decide +kernel
theorem dX2_crossings_28 : decode cX2_crossings 28 = .ok (.invokevirtual 107, 3) := by decide +kernel
theorem dX2_crossings_31 : decode cX2_crossings 31 = .ok (.invokestatic 60, 3) := by decide +kernel
theorem dX2_crossings_34 : decode cX2_crossings 34 = .ok (.iadd, 1) := by decide +kernel
theorem dX2_crossings_35 : decode cX2_crossings 35 = .ok (.istore_n 1, 1) := by decide +kernel
theorem dX2_crossings_36 : decode cX2_crossings 36 = .ok (.iinc 2 1, 3) := by decide +kernel
theorem dX2_crossings_39 : decode cX2_crossings 39 = .ok (.goto (-35), 3) := by decide +kernel
theorem dX2_crossings_42 : decode cX2_crossings 42 = .ok (.iload_n 1, 1) := by decide +kernel
theorem dX2_crossings_43 : decode cX2_crossings 43 = .ok (.iconst 2, 1) := by decide +kernel
theorem dX2_crossings_44 : decode cX2_crossings 44 = .ok (.idiv, 1) := by decide +kernel
theorem dX2_crossings_45 : decode cX2_crossings 45 = .ok (.ireturn, 1) := by decide +kernel
theorem dX2_save_0 : decode cX2_save 0 = .ok (.aload_n 1, 1) := by decide +kernel
theorem dX2_save_1 : decode cX2_save 1 = .ok (.iload_n 2, 1) := by decide +kernel
theorem dX2_save_2 : decode cX2_save 2 = .ok (.aload_n 0, 1) := by decide +kernel
theorem dX2_save_3 : decode cX2_save 3 = .ok (.getfield 28, 3) := by decide +kernel
theorem dX2_save_6 : decode cX2_save 6 = .ok (.iastore, 1) := by decide +kernel
theorem dX2_save_7 : decode cX2_save 7 = .ok (.aload_n 0, 1) := by decide +kernel
theorem dX2_save_8 : decode cX2_save 8 = .ok (.getfield 9, 3) := by decide +kernel
theorem dX2_save_11 : decode cX2_save 11 = .ok (.iconst 0, 1) := by decide +kernel
theorem dX2_save_12 : decode cX2_save 12 = .ok (.aload_n 1, 1) := by decide +kernel
theorem dX2_save_13 : decode cX2_save 13 = .ok (.iload_n 2, 1) := by decide +kernel
theorem dX2_save_14 : decode cX2_save 14 = .ok (.iconst 1, 1) := by decide +kernel
theorem dX2_save_15 : decode cX2_save 15 = .ok (.iadd, 1) := by decide +kernel
theorem dX2_save_16 : decode cX2_save 16 = .ok (.bipush 6, 2) := by decide +kernel
theorem dX2_save_18 : decode cX2_save 18 = .ok (.invokestatic 35, 3) := by decide +kernel
theorem dX2_save_21 : decode cX2_save 21 = .ok (.iload_n 2, 1) := by decide +kernel
theorem dX2_save_22 : decode cX2_save 22 = .ok (.iconst 1, 1) := by decide +kernel
theorem dX2_save_23 : decode cX2_save 23 = .ok (.iadd, 1) := by decide +kernel
theorem dX2_save_24 : decode cX2_save 24 = .ok (.bipush 6, 2) := by decide +kernel
theorem dX2_save_26 : decode cX2_save 26 = .ok (.iadd, 1) := by decide +kernel
theorem dX2_save_27 : decode cX2_save 27 = .ok (.istore_n 3, 1) := by decide +kernel
theorem dX2_save_28 : decode cX2_save 28 = .ok (.aload_n 0, 1) := by decide +kernel
theorem dX2_save_29 : decode cX2_save 29 = .ok (.getfield 15, 3) := by decide +kernel
theorem dX2_save_32 : decode cX2_save 32 = .ok (.iconst 0, 1) := by decide +kernel
theorem dX2_save_33 : decode cX2_save 33 = .ok (.aload_n 1, 1) := by decide +kernel
theorem dX2_save_34 : decode cX2_save 34 = .ok (.iload_n 3, 1) := by decide +kernel
theorem dX2_save_35 : decode cX2_save 35 = .ok (.bipush 7, 2) := by decide +kernel
theorem dX2_save_37 : decode cX2_save 37 = .ok (.invokestatic 35, 3) := by decide +kernel
theorem dX2_save_40 : decode cX2_save 40 = .ok (.aload_n 0, 1) := by decide +kernel
theorem dX2_save_41 : decode cX2_save 41 = .ok (.getfield 18, 3) := by decide +kernel
theorem dX2_save_44 : decode cX2_save 44 = .ok (.iconst 0, 1) := by decide +kernel
theorem dX2_save_45 : decode cX2_save 45 = .ok (.aload_n 1, 1) := by decide +kernel
theorem dX2_save_46 : decode cX2_save 46 = .ok (.iload_n 3, 1) := by decide +kernel
theorem dX2_save_47 : decode cX2_save 47 = .ok (.bipush 7, 2) := by decide +kernel
theorem dX2_save_49 : decode cX2_save 49 = .ok (.iadd, 1) := by decide +kernel
theorem dX2_save_50 : decode cX2_save 50 = .ok (.bipush 7, 2) := by decide +kernel
theorem dX2_save_52 : decode cX2_save 52 = .ok (.invokestatic 35, 3) := by decide +kernel
theorem dX2_save_55 : decode cX2_save 55 = .ok (.aload_n 0, 1) := by decide +kernel
theorem dX2_save_56 : decode cX2_save 56 = .ok (.getfield 21, 3) := by decide +kernel
theorem dX2_save_59 : decode cX2_save 59 = .ok (.iconst 0, 1) := by decide +kernel
theorem dX2_save_60 : decode cX2_save 60 = .ok (.aload_n 1, 1) := by decide +kernel
theorem dX2_save_61 : decode cX2_save 61 = .ok (.iload_n 3, 1) := by decide +kernel
theorem dX2_save_62 : decode cX2_save 62 = .ok (.bipush 14, 2) := by decide +kernel
theorem dX2_save_64 : decode cX2_save 64 = .ok (.iadd, 1) := by decide +kernel
theorem dX2_save_65 : decode cX2_save 65 = .ok (.bipush 7, 2) := by decide +kernel
theorem dX2_save_67 : decode cX2_save 67 = .ok (.invokestatic 35, 3) := by decide +kernel
theorem dX2_save_70 : decode cX2_save 70 = .ok (.return_, 1) := by decide +kernel
theorem dX2_load_0 : decode cX2_load 0 = .ok (.aload_n 0, 1) := by decide +kernel
theorem dX2_load_1 : decode cX2_load 1 = .ok (.aload_n 1, 1) := by decide +kernel
theorem dX2_load_2 : decode cX2_load 2 = .ok (.iload_n 2, 1) := by decide +kernel
theorem dX2_load_3 : decode cX2_load 3 = .ok (.iaload, 1) := by decide +kernel
theorem dX2_load_4 : decode cX2_load 4 = .ok (.putfield 28, 3) := by decide +kernel
theorem dX2_load_7 : decode cX2_load 7 = .ok (.aload_n 1, 1) := by decide +kernel
theorem dX2_load_8 : decode cX2_load 8 = .ok (.iload_n 2, 1) := by decide +kernel
theorem dX2_load_9 : decode cX2_load 9 = .ok (.iconst 1, 1) := by decide +kernel
theorem dX2_load_10 : decode cX2_load 10 = .ok (.iadd, 1) := by decide +kernel
theorem dX2_load_11 : decode cX2_load 11 = .ok (.aload_n 0, 1) := by decide +kernel
theorem dX2_load_12 : decode cX2_load 12 = .ok (.getfield 9, 3) := by decide +kernel
theorem dX2_load_15 : decode cX2_load 15 = .ok (.iconst 0, 1) := by decide +kernel
theorem dX2_load_16 : decode cX2_load 16 = .ok (.bipush 6, 2) := by decide +kernel
theorem dX2_load_18 : decode cX2_load 18 = .ok (.invokestatic 35, 3) := by decide +kernel
theorem dX2_load_21 : decode cX2_load 21 = .ok (.iload_n 2, 1) := by decide +kernel
theorem dX2_load_22 : decode cX2_load 22 = .ok (.iconst 1, 1) := by decide +kernel
theorem dX2_load_23 : decode cX2_load 23 = .ok (.iadd, 1) := by decide +kernel
theorem dX2_load_24 : decode cX2_load 24 = .ok (.bipush 6, 2) := by decide +kernel
theorem dX2_load_26 : decode cX2_load 26 = .ok (.iadd, 1) := by decide +kernel
theorem dX2_load_27 : decode cX2_load 27 = .ok (.istore_n 3, 1) := by decide +kernel
theorem dX2_load_28 : decode cX2_load 28 = .ok (.aload_n 1, 1) := by decide +kernel
theorem dX2_load_29 : decode cX2_load 29 = .ok (.iload_n 3, 1) := by decide +kernel
theorem dX2_load_30 : decode cX2_load 30 = .ok (.aload_n 0, 1) := by decide +kernel
theorem dX2_load_31 : decode cX2_load 31 = .ok (.getfield 15, 3) := by decide +kernel
theorem dX2_load_34 : decode cX2_load 34 = .ok (.iconst 0, 1) := by decide +kernel
theorem dX2_load_35 : decode cX2_load 35 = .ok (.bipush 7, 2) := by decide +kernel
theorem dX2_load_37 : decode cX2_load 37 = .ok (.invokestatic 35, 3) := by decide +kernel
theorem dX2_load_40 : decode cX2_load 40 = .ok (.aload_n 1, 1) := by decide +kernel
theorem dX2_load_41 : decode cX2_load 41 = .ok (.iload_n 3, 1) := by decide +kernel
theorem dX2_load_42 : decode cX2_load 42 = .ok (.bipush 7, 2) := by decide +kernel
theorem dX2_load_44 : decode cX2_load 44 = .ok (.iadd, 1) := by decide +kernel
theorem dX2_load_45 : decode cX2_load 45 = .ok (.aload_n 0, 1) := by decide +kernel
theorem dX2_load_46 : decode cX2_load 46 = .ok (.getfield 18, 3) := by decide +kernel
theorem dX2_load_49 : decode cX2_load 49 = .ok (.iconst 0, 1) := by decide +kernel
theorem dX2_load_50 : decode cX2_load 50 = .ok (.bipush 7, 2) := by decide +kernel
theorem dX2_load_52 : decode cX2_load 52 = .ok (.invokestatic 35, 3) := by decide +kernel
theorem dX2_load_55 : decode cX2_load 55 = .ok (.aload_n 1, 1) := by decide +kernel
theorem dX2_load_56 : decode cX2_load 56 = .ok (.iload_n 3, 1) := by decide +kernel
theorem dX2_load_57 : decode cX2_load 57 = .ok (.bipush 14, 2) := by decide +kernel
theorem dX2_load_59 : decode cX2_load 59 = .ok (.iadd, 1) := by decide +kernel
theorem dX2_load_60 : decode cX2_load 60 = .ok (.aload_n 0, 1) := by decide +kernel
theorem dX2_load_61 : decode cX2_load 61 = .ok (.getfield 21, 3) := by decide +kernel
theorem dX2_load_64 : decode cX2_load 64 = .ok (.iconst 0, 1) := by decide +kernel
theorem dX2_load_65 : decode cX2_load 65 = .ok (.bipush 7, 2) := by decide +kernel
theorem dX2_load_67 : decode cX2_load 67 = .ok (.invokestatic 35, 3) := by decide +kernel
theorem dX2_load_70 : decode cX2_load 70 = .ok (.return_, 1) := by decide +kernel
theorem dX2_become_0 : decode cX2_become 0 = .ok (.aload_n 0, 1) := by decide +kernel
theorem dX2_become_1 : decode cX2_become 1 = .ok (.aload_n 1, 1) := by decide +kernel
theorem dX2_become_2 : decode cX2_become 2 = .ok (.getfield 28, 3) := by decide +kernel
theorem dX2_become_5 : decode cX2_become 5 = .ok (.putfield 28, 3) := by decide +kernel
theorem dX2_become_8 : decode cX2_become 8 = .ok (.aload_n 1, 1) := by decide +kernel
theorem dX2_become_9 : decode cX2_become 9 = .ok (.getfield 9, 3) := by decide +kernel
theorem dX2_become_12 : decode cX2_become 12 = .ok (.iconst 0, 1) := by decide +kernel
theorem dX2_become_13 : decode cX2_become 13 = .ok (.aload_n 0, 1) := by decide +kernel
theorem dX2_become_14 : decode cX2_become 14 = .ok (.getfield 9, 3) := by decide +kernel
theorem dX2_become_17 : decode cX2_become 17 = .ok (.iconst 0, 1) := by decide +kernel
theorem dX2_become_18 : decode cX2_become 18 = .ok (.bipush 6, 2) := by decide +kernel
theorem dX2_become_20 : decode cX2_become 20 = .ok (.invokestatic 35, 3) := by decide +kernel
theorem dX2_become_23 : decode cX2_become 23 = .ok (.aload_n 1, 1) := by decide +kernel
theorem dX2_become_24 : decode cX2_become 24 = .ok (.getfield 15, 3) := by decide +kernel
theorem dX2_become_27 : decode cX2_become 27 = .ok (.iconst 0, 1) := by decide +kernel
theorem dX2_become_28 : decode cX2_become 28 = .ok (.aload_n 0, 1) := by decide +kernel
theorem dX2_become_29 : decode cX2_become 29 = .ok (.getfield 15, 3) := by decide +kernel
theorem dX2_become_32 : decode cX2_become 32 = .ok (.iconst 0, 1) := by decide +kernel
theorem dX2_become_33 : decode cX2_become 33 = .ok (.bipush 7, 2) := by decide +kernel
theorem dX2_become_35 : decode cX2_become 35 = .ok (.invokestatic 35, 3) := by decide +kernel
theorem dX2_become_38 : decode cX2_become 38 = .ok (.aload_n 1, 1) := by decide +kernel
theorem dX2_become_39 : decode cX2_become 39 = .ok (.getfield 18, 3) := by decide +kernel
theorem dX2_become_42 : decode cX2_become 42 = .ok (.iconst 0, 1) := by decide +kernel
theorem dX2_become_43 : decode cX2_become 43 = .ok (.aload_n 0, 1) := by decide +kernel
theorem dX2_become_44 : decode cX2_become 44 = .ok (.getfield 18, 3) := by decide +kernel
theorem dX2_become_47 : decode cX2_become 47 = .ok (.iconst 0, 1) := by decide +kernel
theorem dX2_become_48 : decode cX2_become 48 = .ok (.bipush 7, 2) := by decide +kernel
theorem dX2_become_50 : decode cX2_become 50 = .ok (.invokestatic 35, 3) := by decide +kernel
theorem dX2_become_53 : decode cX2_become 53 = .ok (.aload_n 1, 1) := by decide +kernel
theorem dX2_become_54 : decode cX2_become 54 = .ok (.getfield 21, 3) := by decide +kernel
theorem dX2_become_57 : decode cX2_become 57 = .ok (.iconst 0, 1) := by decide +kernel
theorem dX2_become_58 : decode cX2_become 58 = .ok (.aload_n 0, 1) := by decide +kernel
theorem dX2_become_59 : decode cX2_become 59 = .ok (.getfield 21, 3) := by decide +kernel
theorem dX2_become_62 : decode cX2_become 62 = .ok (.iconst 0, 1) := by decide +kernel
theorem dX2_become_63 : decode cX2_become 63 = .ok (.bipush 7, 2) := by decide +kernel
theorem dX2_become_65 : decode cX2_become 65 = .ok (.invokestatic 35, 3) := by decide +kernel
theorem dX2_become_68 : decode cX2_become 68 = .ok (.return_, 1) := by decide +kernel
theorem dX3_init_0 : decode cX3_init 0 = .ok (.aload_n 0, 1) := by decide +kernel
theorem dX3_init_1 : decode cX3_init 1 = .ok (.invokespecial 1, 3) := by decide +kernel
theorem dX3_init_4 : decode cX3_init 4 = .ok (.aload_n 0, 1) := by decide +kernel
theorem dX3_init_5 : decode cX3_init 5 = .ok (.sipush 280, 3) := by decide +kernel
theorem dX3_init_8 : decode cX3_init 8 = .ok (.newarray .int, 2) := by decide +kernel
theorem dX3_init_10 : decode cX3_init 10 = .ok (.putfield 11, 3) := by decide +kernel
theorem dX3_init_13 : decode cX3_init 13 = .ok (.aload_n 0, 1) := by decide +kernel
theorem dX3_init_14 : decode cX3_init 14 = .ok (.iconst 0, 1) := by decide +kernel
theorem dX3_init_15 : decode cX3_init 15 = .ok (.putfield 15, 3) := by decide +kernel
theorem dX3_init_18 : decode cX3_init 18 = .ok (.aload_n 0, 1) := by decide +kernel
theorem dX3_init_19 : decode cX3_init 19 = .ok (.iconst 0, 1) := by decide +kernel
theorem dX3_init_20 : decode cX3_init 20 = .ok (.putfield 19, 3) := by decide +kernel
theorem dX3_init_23 : decode cX3_init 23 = .ok (.return_, 1) := by decide +kernel
theorem dX3_add_0 : decode cX3_add 0 = .ok (.aload_n 1, 1) := by decide +kernel
theorem dX3_add_1 : decode cX3_add 1 = .ok (.aload_n 0, 1) := by decide +kernel
theorem dX3_add_2 : decode cX3_add 2 = .ok (.getfield 11, 3) := by decide +kernel
theorem dX3_add_5 : decode cX3_add 5 = .ok (.aload_n 0, 1) := by decide +kernel
theorem dX3_add_6 : decode cX3_add 6 = .ok (.getfield 15, 3) := by decide +kernel
theorem dX3_add_9 : decode cX3_add 9 = .ok (.bipush 28, 2) := by decide +kernel
theorem dX3_add_11 : decode cX3_add 11 = .ok (.imul, 1) := by decide +kernel
theorem dX3_add_12 : decode cX3_add 12 = .ok (.invokevirtual 22, 3) := by decide +kernel
theorem dX3_add_15 : decode cX3_add 15 = .ok (.aload_n 0, 1) := by decide +kernel
theorem dX3_add_16 : decode cX3_add 16 = .ok (.aload_n 0, 1) := by decide +kernel
theorem dX3_add_17 : decode cX3_add 17 = .ok (.getfield 15, 3) := by decide +kernel
theorem dX3_add_20 : decode cX3_add 20 = .ok (.iconst 1, 1) := by decide +kernel
theorem dX3_add_21 : decode cX3_add 21 = .ok (.iadd, 1) := by decide +kernel
theorem dX3_add_22 : decode cX3_add 22 = .ok (.bipush 10, 2) := by decide +kernel
theorem dX3_add_24 : decode cX3_add 24 = .ok (.irem, 1) := by decide +kernel
theorem dX3_add_25 : decode cX3_add 25 = .ok (.putfield 15, 3) := by decide +kernel
theorem dX3_add_28 : decode cX3_add 28 = .ok (.aload_n 0, 1) := by decide +kernel
theorem dX3_add_29 : decode cX3_add 29 = .ok (.bipush 10, 2) := by decide +kernel
theorem dX3_add_31 : decode cX3_add 31 = .ok (.aload_n 0, 1) := by decide +kernel
theorem dX3_add_32 : decode cX3_add 32 = .ok (.getfield 19, 3) := by decide +kernel
theorem dX3_add_35 : decode cX3_add 35 = .ok (.iconst 1, 1) := by decide +kernel
theorem dX3_add_36 : decode cX3_add 36 = .ok (.iadd, 1) := by decide +kernel
theorem dX3_add_37 : decode cX3_add 37 = .ok (.invokestatic 26, 3) := by decide +kernel
theorem dX3_add_40 : decode cX3_add 40 = .ok (.putfield 19, 3) := by decide +kernel
theorem dX3_add_43 : decode cX3_add 43 = .ok (.return_, 1) := by decide +kernel
theorem dX3_takeBack_0 : decode cX3_takeBack 0 = .ok (.aload_n 0, 1) := by decide +kernel
theorem dX3_takeBack_1 : decode cX3_takeBack 1 = .ok (.aload_n 0, 1) := by decide +kernel
theorem dX3_takeBack_2 : decode cX3_takeBack 2 = .ok (.getfield 15, 3) := by decide +kernel
theorem dX3_takeBack_5 : decode cX3_takeBack 5 = .ok (.bipush 10, 2) := by decide +kernel
theorem dX3_takeBack_7 : decode cX3_takeBack 7 = .ok (.iadd, 1) := by decide +kernel
theorem dX3_takeBack_8 : decode cX3_takeBack 8 = .ok (.iconst 1, 1) := by decide +kernel
theorem dX3_takeBack_9 : decode cX3_takeBack 9 = .ok (.isub, 1) := by decide +kernel
theorem dX3_takeBack_10 : decode cX3_takeBack 10 = .ok (.bipush 10, 2) := by decide +kernel
theorem dX3_takeBack_12 : decode cX3_takeBack 12 = .ok (.irem, 1) := by decide +kernel
theorem dX3_takeBack_13 : decode cX3_takeBack 13 = .ok (.putfield 15, 3) := by decide +kernel
theorem dX3_takeBack_16 : decode cX3_takeBack 16 = .ok (.aload_n 0, 1) := by decide +kernel
theorem dX3_takeBack_17 : decode cX3_takeBack 17 = .ok (.dup, 1) := by decide +kernel
theorem dX3_takeBack_18 : decode cX3_takeBack 18 = .ok (.getfield 19, 3) := by decide +kernel
theorem dX3_takeBack_21 : decode cX3_takeBack 21 = .ok (.iconst 1, 1) := by decide +kernel
theorem dX3_takeBack_22 : decode cX3_takeBack 22 = .ok (.isub, 1) := by decide +kernel
theorem dX3_takeBack_23 : decode cX3_takeBack 23 = .ok (.putfield 19, 3) := by decide +kernel
theorem dX3_takeBack_26 : decode cX3_takeBack 26 = .ok (.aload_n 1, 1) := by decide +kernel
theorem dX3_takeBack_27 : decode cX3_takeBack 27 = .ok (.aload_n 0, 1) := by decide +kernel
theorem dX3_takeBack_28 : decode cX3_takeBack 28 = .ok (.getfield 11, 3) := by decide +kernel
theorem dX3_takeBack_31 : decode cX3_takeBack 31 = .ok (.aload_n 0, 1) := by decide +kernel
theorem dX3_takeBack_32 : decode cX3_takeBack 32 = .ok (.getfield 15, 3) := by decide +kernel
theorem dX3_takeBack_35 : decode cX3_takeBack 35 = .ok (.bipush 28, 2) := by decide +kernel
theorem dX3_takeBack_37 : decode cX3_takeBack 37 = .ok (.imul, 1) := by decide +kernel
theorem dX3_takeBack_38 : decode cX3_takeBack 38 = .ok (.invokevirtual 32, 3) := by decide +kernel
theorem dX3_takeBack_41 : decode cX3_takeBack 41 = .ok (.return_, 1) := by decide +kernel
theorem dX3_forget_0 : decode cX3_forget 0 = .ok (.aload_n 0, 1) := by decide +kernel
theorem dX3_forget_1 : decode cX3_forget 1 = .ok (.iconst 0, 1) := by decide +kernel
theorem dX3_forget_2 : decode cX3_forget 2 = .ok (.putfield 19, 3) := by decide +kernel
theorem dX3_forget_5 : decode cX3_forget 5 = .ok (.return_, 1) := by decide +kernel
theorem dX4_init_0 : decode cX4_init 0 = .ok (.aload_n 0, 1) := by decide +kernel
theorem dX4_init_1 : decode cX4_init 1 = .ok (.invokespecial 3, 3) := by decide +kernel
theorem dX4_init_4 : decode cX4_init 4 = .ok (.aload_n 0, 1) := by decide +kernel
theorem dX4_init_5 : decode cX4_init 5 = .ok (.new 9, 3) := by decide +kernel
theorem dX4_init_8 : decode cX4_init 8 = .ok (.dup, 1) := by decide +kernel
theorem dX4_init_9 : decode cX4_init 9 = .ok (.invokespecial 11, 3) := by decide +kernel
theorem dX4_init_12 : decode cX4_init 12 = .ok (.putfield 12, 3) := by decide +kernel
theorem dX4_init_15 : decode cX4_init 15 = .ok (.aload_n 0, 1) := by decide +kernel
theorem dX4_init_16 : decode cX4_init 16 = .ok (.aload_n 1, 1) := by decide +kernel
theorem dX4_init_17 : decode cX4_init 17 = .ok (.putfield 18, 3) := by decide +kernel
theorem dX4_init_20 : decode cX4_init 20 = .ok (.return_, 1) := by decide +kernel
theorem dX4_read_0 : decode cX4_read 0 = .ok (.aload_n 0, 1) := by decide +kernel
theorem dX4_read_1 : decode cX4_read 1 = .ok (.iload_n 1, 1) := by decide +kernel
theorem dX4_read_2 : decode cX4_read 2 = .ok (.aload_n 0, 1) := by decide +kernel
theorem dX4_read_3 : decode cX4_read 3 = .ok (.getfield 18, 3) := by decide +kernel
theorem dX4_read_6 : decode cX4_read 6 = .ok (.arraylength, 1) := by decide +kernel
theorem dX4_read_7 : decode cX4_read 7 = .ok (.invokestatic 22, 3) := by decide +kernel
theorem dX4_read_10 : decode cX4_read 10 = .ok (.putfield 28, 3) := by decide +kernel
theorem dX4_read_13 : decode cX4_read 13 = .ok (.aload_n 0, 1) := by decide +kernel
theorem dX4_read_14 : decode cX4_read 14 = .ok (.iconst 0, 1) := by decide +kernel
theorem dX4_read_15 : decode cX4_read 15 = .ok (.putfield 32, 3) := by decide +kernel
theorem dX4_read_18 : decode cX4_read 18 = .ok (.aload_n 0, 1) := by decide +kernel
theorem dX4_read_19 : decode cX4_read 19 = .ok (.iconst (-1), 1) := by decide +kernel
theorem dX4_read_20 : decode cX4_read 20 = .ok (.putfield 35, 3) := by decide +kernel
theorem dX4_read_23 : decode cX4_read 23 = .ok (.aload_n 0, 1) := by decide +kernel
theorem dX4_read_24 : decode cX4_read 24 = .ok (.iconst 0, 1) := by decide +kernel
theorem dX4_read_25 : decode cX4_read 25 = .ok (.putfield 38, 3) := by decide +kernel
theorem dX4_read_28 : decode cX4_read 28 = .ok (.aload_n 0, 1) := by decide +kernel
theorem dX4_read_29 : decode cX4_read 29 = .ok (.iconst 0, 1) := by decide +kernel
theorem dX4_read_30 : decode cX4_read 30 = .ok (.putfield 41, 3) := by decide +kernel
theorem dX4_read_33 : decode cX4_read 33 = .ok (.aload_n 0, 1) := by decide +kernel
theorem dX4_read_34 : decode cX4_read 34 = .ok (.getfield 12, 3) := by decide +kernel
theorem dX4_read_37 : decode cX4_read 37 = .ok (.invokevirtual 45, 3) := by decide +kernel
theorem dX4_read_40 : decode cX4_read 40 = .ok (.aload_n 0, 1) := by decide +kernel
theorem dX4_read_41 : decode cX4_read 41 = .ok (.invokevirtual 48, 3) := by decide +kernel
theorem dX4_read_44 : decode cX4_read 44 = .ok (.iconst 0, 1) := by decide +kernel
theorem dX4_read_45 : decode cX4_read 45 = .ok (.istore_n 2, 1) := by decide +kernel
theorem dX4_read_46 : decode cX4_read 46 = .ok (.iload_n 2, 1) := by decide +kernel
theorem dX4_read_47 : decode cX4_read 47 = .ok (.sipush 200, 3) := by decide +kernel
theorem dX4_read_50 : decode cX4_read 50 = .ok (.if_icmp .ge 46, 3) := by decide +kernel
theorem dX4_read_53 : decode cX4_read 53 = .ok (.aload_n 0, 1) := by decide +kernel
theorem dX4_read_54 : decode cX4_read 54 = .ok (.getfield 32, 3) := by decide +kernel
theorem dX4_read_57 : decode cX4_read 57 = .ok (.aload_n 0, 1) := by decide +kernel
theorem dX4_read_58 : decode cX4_read 58 = .ok (.getfield 28, 3) := by decide +kernel
theorem dX4_read_61 : decode cX4_read 61 = .ok (.if_icmp .ge 35, 3) := by decide +kernel
theorem dX4_read_64 : decode cX4_read 64 = .ok (.aload_n 0, 1) := by decide +kernel
theorem dX4_read_65 : decode cX4_read 65 = .ok (.getfield 35, 3) := by decide +kernel
theorem dX4_read_68 : decode cX4_read 68 = .ok (.iconst (-1), 1) := by decide +kernel
theorem dX4_read_69 : decode cX4_read 69 = .ok (.if_icmp .ne 27, 3) := by decide +kernel
theorem dX4_read_72 : decode cX4_read 72 = .ok (.aload_n 0, 1) := by decide +kernel
theorem dX4_read_73 : decode cX4_read 73 = .ok (.invokevirtual 51, 3) := by decide +kernel
theorem dX4_read_76 : decode cX4_read 76 = .ok (.aload_n 0, 1) := by decide +kernel
theorem dX4_read_77 : decode cX4_read 77 = .ok (.dup, 1) := by decide +kernel
theorem dX4_read_78 : decode cX4_read 78 = .ok (.getfield 38, 3) := by decide +kernel
theorem dX4_read_81 : decode cX4_read 81 = .ok (.iconst 1, 1) := by decide +kernel
theorem dX4_read_82 : decode cX4_read 82 = .ok (.iadd, 1) := by decide +kernel
theorem dX4_read_83 : decode cX4_read 83 = .ok (.putfield 38, 3) := by decide +kernel
theorem dX4_read_86 : decode cX4_read 86 = .ok (.aload_n 0, 1) := by decide +kernel
theorem dX4_read_87 : decode cX4_read 87 = .ok (.invokevirtual 48, 3) := by decide +kernel
theorem dX4_read_90 : decode cX4_read 90 = .ok (.iinc 2 1, 3) := by decide +kernel
theorem dX4_read_93 : decode cX4_read 93 = .ok (.goto (-47), 3) := by decide +kernel
theorem dX4_read_96 : decode cX4_read 96 = .ok (.aload_n 0, 1) := by decide +kernel
theorem dX4_read_97 : decode cX4_read 97 = .ok (.getfield 35, 3) := by decide +kernel
theorem dX4_read_100 : decode cX4_read 100 = .ok (.iconst (-1), 1) := by decide +kernel
theorem dX4_read_101 : decode cX4_read 101 = .ok (.if_icmp .ne 10, 3) := by decide +kernel
theorem dX4_read_104 : decode cX4_read 104 = .ok (.aload_n 0, 1) := by decide +kernel
theorem dX4_read_105 : decode cX4_read 105 = .ok (.getfield 38, 3) := by decide +kernel
theorem dX4_read_108 : decode cX4_read 108 = .ok (.goto 10, 3) := by decide +kernel
theorem dX4_read_111 : decode cX4_read 111 = .ok (.bipush (-10), 2) := by decide +kernel
theorem dX4_read_113 : decode cX4_read 113 = .ok (.aload_n 0, 1) := by decide +kernel
theorem dX4_read_114 : decode cX4_read 114 = .ok (.getfield 35, 3) := by decide +kernel
theorem dX4_read_117 : decode cX4_read 117 = .ok (.isub, 1) := by decide +kernel
theorem dX4_read_118 : decode cX4_read 118 = .ok (.ireturn, 1) := by decide +kernel
theorem dX4_readItem_0 : decode cX4_readItem 0 = .ok (.aload_n 0, 1) := by decide +kernel
theorem dX4_readItem_1 : decode cX4_readItem 1 = .ok (.getfield 32, 3) := by decide +kernel
theorem dX4_readItem_4 : decode cX4_readItem 4 = .ok (.istore_n 1, 1) := by decide +kernel
theorem dX4_readItem_5 : decode cX4_readItem 5 = .ok (.aload_n 0, 1) := by decide +kernel
theorem dX4_readItem_6 : decode cX4_readItem 6 = .ok (.invokevirtual 54, 3) := by decide +kernel
theorem dX4_readItem_9 : decode cX4_readItem 9 = .ok (.istore_n 2, 1) := by decide +kernel
theorem dX4_readItem_10 : decode cX4_readItem 10 = .ok (.aload_n 0, 1) := by decide +kernel
theorem dX4_readItem_11 : decode cX4_readItem 11 = .ok (.dup, 1) := by decide +kernel
theorem dX4_readItem_12 : decode cX4_readItem 12 = .ok (.getfield 32, 3) := by decide +kernel
theorem dX4_readItem_15 : decode cX4_readItem 15 = .ok (.iconst 1, 1) := by decide +kernel
theorem dX4_readItem_16 : decode cX4_readItem 16 = .ok (.iadd, 1) := by decide +kernel
theorem dX4_readItem_17 : decode cX4_readItem 17 = .ok (.putfield 32, 3) := by decide +kernel
theorem dX4_readItem_20 : decode cX4_readItem 20 = .ok (.iload_n 2, 1) := by decide +kernel
theorem dX4_readItem_21 : decode cX4_readItem 21 = .ok (.bipush 108, 2) := by decide +kernel
theorem dX4_readItem_23 : decode cX4_readItem 23 = .ok (.if_icmp .ne 17, 3) := by decide +kernel
theorem dX4_readItem_26 : decode cX4_readItem 26 = .ok (.aload_n 0, 1) := by decide +kernel
theorem dX4_readItem_27 : decode cX4_readItem 27 = .ok (.getfield 38, 3) := by decide +kernel
theorem dX4_readItem_30 : decode cX4_readItem 30 = .ok (.ifCond .ne 10, 3) := by decide +kernel
theorem dX4_readItem_33 : decode cX4_readItem 33 = .ok (.aload_n 0, 1) := by decide +kernel
theorem dX4_readItem_34 : decode cX4_readItem 34 = .ok (.invokevirtual 58, 3) := by decide +kernel
theorem dX4_readItem_37 : decode cX4_readItem 37 = .ok (.goto 66, 3) := by decide +kernel
theorem dX4_readItem_40 : decode cX4_readItem 40 = .ok (.iload_n 2, 1) := by decide +kernel
theorem dX4_readItem_41 : decode cX4_readItem 41 = .ok (.bipush 120, 2) := by decide +kernel
theorem dX4_readItem_43 : decode cX4_readItem 43 = .ok (.if_icmp .ne 17, 3) := by decide +kernel
theorem dX4_readItem_46 : decode cX4_readItem 46 = .ok (.aload_n 0, 1) := by decide +kernel
theorem dX4_readItem_47 : decode cX4_readItem 47 = .ok (.getfield 41, 3) := by decide +kernel
theorem dX4_readItem_50 : decode cX4_readItem 50 = .ok (.ifCond .ne 10, 3) := by decide +kernel
theorem dX4_readItem_53 : decode cX4_readItem 53 = .ok (.aload_n 0, 1) := by decide +kernel
theorem dX4_readItem_54 : decode cX4_readItem 54 = .ok (.invokevirtual 61, 3) := by decide +kernel
theorem dX4_readItem_57 : decode cX4_readItem 57 = .ok (.goto 46, 3) := by decide +kernel
theorem dX4_readItem_60 : decode cX4_readItem 60 = .ok (.iload_n 2, 1) := by decide +kernel
theorem dX4_readItem_61 : decode cX4_readItem 61 = .ok (.bipush 104, 2) := by decide +kernel
theorem dX4_readItem_63 : decode cX4_readItem 63 = .ok (.if_icmp .ne 10, 3) := by decide +kernel
theorem dX4_readItem_66 : decode cX4_readItem 66 = .ok (.aload_n 0, 1) := by decide +kernel
theorem dX4_readItem_67 : decode cX4_readItem 67 = .ok (.invokevirtual 64, 3) := by decide +kernel
theorem dX4_readItem_70 : decode cX4_readItem 70 = .ok (.goto 33, 3) := by decide +kernel
theorem dX4_readItem_73 : decode cX4_readItem 73 = .ok (.iload_n 2, 1) := by decide +kernel
theorem dX4_readItem_74 : decode cX4_readItem 74 = .ok (.bipush 99, 2) := by decide +kernel
theorem dX4_readItem_76 : decode cX4_readItem 76 = .ok (.if_icmp .ne 22, 3) := by decide +kernel
theorem dX4_readItem_79 : decode cX4_readItem 79 = .ok (.aload_n 0, 1) := by decide +kernel
theorem dX4_readItem_80 : decode cX4_readItem 80 = .ok (.getfield 12, 3) := by decide +kernel
theorem dX4_readItem_83 : decode cX4_readItem 83 = .ok (.getfield 67, 3) := by decide +kernel
theorem dX4_readItem_86 : decode cX4_readItem 86 = .ok (.bipush 7, 2) := by decide +kernel
theorem dX4_readItem_88 : decode cX4_readItem 88 = .ok (.if_icmp .ge 10, 3) := by decide +kernel
theorem dX4_readItem_91 : decode cX4_readItem 91 = .ok (.aload_n 0, 1) := by decide +kernel
theorem dX4_readItem_92 : decode cX4_readItem 92 = .ok (.invokevirtual 70, 3) := by decide +kernel
theorem dX4_readItem_95 : decode cX4_readItem 95 = .ok (.goto 8, 3) := by decide +kernel
theorem dX4_readItem_98 : decode cX4_readItem 98 = .ok (.aload_n 0, 1) := by decide +kernel
theorem dX4_readItem_99 : decode cX4_readItem 99 = .ok (.iload_n 1, 1) := by decide +kernel
theorem dX4_readItem_100 : decode cX4_readItem 100 = .ok (.invokevirtual 73, 3) := by decide +kernel
theorem dX4_readItem_103 : decode cX4_readItem 103 = .ok (.aload_n 0, 1) := by decide +kernel
theorem dX4_readItem_104 : decode cX4_readItem 104 = .ok (.invokevirtual 77, 3) := by decide +kernel
theorem dX4_readItem_107 : decode cX4_readItem 107 = .ok (.return_, 1) := by decide +kernel
theorem dX4_readLines_0 : decode cX4_readLines 0 = .ok (.aload_n 0, 1) := by decide +kernel
theorem dX4_readLines_1 : decode cX4_readLines 1 = .ok (.getfield 12, 3) := by decide +kernel
theorem dX4_readLines_4 : decode cX4_readLines 4 = .ok (.aload_n 0, 1) := by decide +kernel
theorem dX4_readLines_5 : decode cX4_readLines 5 = .ok (.iconst 2, 1) := by decide +kernel
theorem dX4_readLines_6 : decode cX4_readLines 6 = .ok (.bipush 6, 2) := by decide +kernel
theorem dX4_readLines_8 : decode cX4_readLines 8 = .ok (.bipush (-9), 2) := by decide +kernel
theorem dX4_readLines_10 : decode cX4_readLines 10 = .ok (.invokevirtual 80, 3) := by decide +kernel
theorem dX4_readLines_13 : decode cX4_readLines 13 = .ok (.putfield 84, 3) := by decide +kernel
theorem dX4_readLines_16 : decode cX4_readLines 16 = .ok (.return_, 1) := by decide +kernel
theorem dX4_readCords_0 : decode cX4_readCords 0 = .ok (.aload_n 0, 1) := by decide +kernel
theorem dX4_readCords_1 : decode cX4_readCords 1 = .ok (.getfield 12, 3) := by decide +kernel
theorem dX4_readCords_4 : decode cX4_readCords 4 = .ok (.aload_n 0, 1) := by decide +kernel
theorem dX4_readCords_5 : decode cX4_readCords 5 = .ok (.iconst 1, 1) := by decide +kernel
theorem dX4_readCords_6 : decode cX4_readCords 6 = .ok (.iconst 4, 1) := by decide +kernel
theorem dX4_readCords_7 : decode cX4_readCords 7 = .ok (.bipush (-9), 2) := by decide +kernel
theorem dX4_readCords_9 : decode cX4_readCords 9 = .ok (.invokevirtual 80, 3) := by decide +kernel
theorem dX4_readCords_12 : decode cX4_readCords 12 = .ok (.putfield 87, 3) := by decide +kernel
theorem dX4_readCords_15 : decode cX4_readCords 15 = .ok (.aload_n 0, 1) := by decide +kernel
theorem dX4_readCords_16 : decode cX4_readCords 16 = .ok (.iconst 1, 1) := by decide +kernel
theorem dX4_readCords_17 : decode cX4_readCords 17 = .ok (.putfield 41, 3) := by decide +kernel
theorem dX4_readCords_20 : decode cX4_readCords 20 = .ok (.return_, 1) := by decide +kernel
theorem dX4_readHole_0 : decode cX4_readHole 0 = .ok (.aload_n 0, 1) := by decide +kernel
theorem dX4_readHole_1 : decode cX4_readHole 1 = .ok (.iconst 0, 1) := by decide +kernel
theorem dX4_readHole_2 : decode cX4_readHole 2 = .ok (.aload_n 0, 1) := by decide +kernel
theorem dX4_readHole_3 : decode cX4_readHole 3 = .ok (.getfield 12, 3) := by decide +kernel
theorem dX4_readHole_6 : decode cX4_readHole 6 = .ok (.getfield 84, 3) := by decide +kernel
theorem dX4_readHole_9 : decode cX4_readHole 9 = .ok (.iconst 1, 1) := by decide +kernel
theorem dX4_readHole_10 : decode cX4_readHole 10 = .ok (.isub, 1) := by decide +kernel
theorem dX4_readHole_11 : decode cX4_readHole 11 = .ok (.bipush (-9), 2) := by decide +kernel
theorem dX4_readHole_13 : decode cX4_readHole 13 = .ok (.invokevirtual 80, 3) := by decide +kernel
theorem dX4_readHole_16 : decode cX4_readHole 16 = .ok (.istore_n 1, 1) := by decide +kernel
theorem dX4_readHole_17 : decode cX4_readHole 17 = .ok (.aload_n 0, 1) := by decide +kernel
theorem dX4_readHole_18 : decode cX4_readHole 18 = .ok (.iconst 0, 1) := by decide +kernel
theorem dX4_readHole_19 : decode cX4_readHole 19 = .ok (.aload_n 0, 1) := by decide +kernel
theorem dX4_readHole_20 : decode cX4_readHole 20 = .ok (.getfield 12, 3) := by decide +kernel
theorem dX4_readHole_23 : decode cX4_readHole 23 = .ok (.getfield 84, 3) := by decide +kernel
theorem dX4_readHole_26 : decode cX4_readHole 26 = .ok (.iconst 1, 1) := by decide +kernel
theorem dX4_readHole_27 : decode cX4_readHole 27 = .ok (.isub, 1) := by decide +kernel
theorem dX4_readHole_28 : decode cX4_readHole 28 = .ok (.bipush (-9), 2) := by decide +kernel
theorem dX4_readHole_30 : decode cX4_readHole 30 = .ok (.invokevirtual 80, 3) := by decide +kernel
theorem dX4_readHole_33 : decode cX4_readHole 33 = .ok (.istore_n 2, 1) := by decide +kernel
theorem dX4_readHole_34 : decode cX4_readHole 34 = .ok (.aload_n 0, 1) := by decide +kernel
theorem dX4_readHole_35 : decode cX4_readHole 35 = .ok (.getfield 35, 3) := by decide +kernel
theorem dX4_readHole_38 : decode cX4_readHole 38 = .ok (.iconst (-1), 1) := by decide +kernel
theorem dX4_readHole_39 : decode cX4_readHole 39 = .ok (.if_icmp .ne 12, 3) := by decide +kernel
theorem dX4_readHole_42 : decode cX4_readHole 42 = .ok (.aload_n 0, 1) := by decide +kernel
theorem dX4_readHole_43 : decode cX4_readHole 43 = .ok (.getfield 12, 3) := by decide +kernel
theorem dX4_readHole_46 : decode cX4_readHole 46 = .ok (.iload_n 1, 1) := by decide +kernel
theorem dX4_readHole_47 : decode cX4_readHole 47 = .ok (.iload_n 2, 1) := by decide +kernel
theorem dX4_readHole_48 : decode cX4_readHole 48 = .ok (.invokevirtual 90, 3) := by decide +kernel
theorem dX4_readHole_51 : decode cX4_readHole 51 = .ok (.return_, 1) := by decide +kernel
theorem dX4_readCall_0 : decode cX4_readCall 0 = .ok (.aload_n 0, 1) := by decide +kernel
theorem dX4_readCall_1 : decode cX4_readCall 1 = .ok (.getfield 12, 3) := by decide +kernel
theorem dX4_readCall_4 : decode cX4_readCall 4 = .ok (.getfield 67, 3) := by decide +kernel
theorem dX4_readCall_7 : decode cX4_readCall 7 = .ok (.istore_n 1, 1) := by decide +kernel
theorem dX4_readCall_8 : decode cX4_readCall 8 = .ok (.aload_n 0, 1) := by decide +kernel
theorem dX4_readCall_9 : decode cX4_readCall 9 = .ok (.getfield 12, 3) := by decide +kernel
theorem dX4_readCall_12 : decode cX4_readCall 12 = .ok (.getfield 94, 3) := by decide +kernel
theorem dX4_readCall_15 : decode cX4_readCall 15 = .ok (.iload_n 1, 1) := by decide +kernel
theorem dX4_readCall_16 : decode cX4_readCall 16 = .ok (.aload_n 0, 1) := by decide +kernel
theorem dX4_readCall_17 : decode cX4_readCall 17 = .ok (.iconst 0, 1) := by decide +kernel
theorem dX4_readCall_18 : decode cX4_readCall 18 = .ok (.bipush 40, 2) := by decide +kernel
theorem dX4_readCall_20 : decode cX4_readCall 20 = .ok (.bipush (-9), 2) := by decide +kernel
theorem dX4_readCall_22 : decode cX4_readCall 22 = .ok (.invokevirtual 80, 3) := by decide +kernel
theorem dX4_readCall_25 : decode cX4_readCall 25 = .ok (.iastore, 1) := by decide +kernel
theorem dX4_readCall_26 : decode cX4_readCall 26 = .ok (.aload_n 0, 1) := by decide +kernel
theorem dX4_readCall_27 : decode cX4_readCall 27 = .ok (.getfield 12, 3) := by decide +kernel
theorem dX4_readCall_30 : decode cX4_readCall 30 = .ok (.getfield 97, 3) := by decide +kernel
theorem dX4_readCall_33 : decode cX4_readCall 33 = .ok (.iload_n 1, 1) := by decide +kernel
theorem dX4_readCall_34 : decode cX4_readCall 34 = .ok (.aload_n 0, 1) := by decide +kernel
theorem dX4_readCall_35 : decode cX4_readCall 35 = .ok (.iconst 0, 1) := by decide +kernel
theorem dX4_readCall_36 : decode cX4_readCall 36 = .ok (.aload_n 0, 1) := by decide +kernel
theorem dX4_readCall_37 : decode cX4_readCall 37 = .ok (.getfield 12, 3) := by decide +kernel
theorem dX4_readCall_40 : decode cX4_readCall 40 = .ok (.getfield 84, 3) := by decide +kernel
theorem dX4_readCall_43 : decode cX4_readCall 43 = .ok (.iconst 1, 1) := by decide +kernel
theorem dX4_readCall_44 : decode cX4_readCall 44 = .ok (.isub, 1) := by decide +kernel
theorem dX4_readCall_45 : decode cX4_readCall 45 = .ok (.bipush (-9), 2) := by decide +kernel
theorem dX4_readCall_47 : decode cX4_readCall 47 = .ok (.invokevirtual 80, 3) := by decide +kernel
theorem dX4_readCall_50 : decode cX4_readCall 50 = .ok (.iastore, 1) := by decide +kernel
theorem dX4_readCall_51 : decode cX4_readCall 51 = .ok (.aload_n 0, 1) := by decide +kernel
theorem dX4_readCall_52 : decode cX4_readCall 52 = .ok (.getfield 12, 3) := by decide +kernel
theorem dX4_readCall_55 : decode cX4_readCall 55 = .ok (.getfield 100, 3) := by decide +kernel
theorem dX4_readCall_58 : decode cX4_readCall 58 = .ok (.iload_n 1, 1) := by decide +kernel
theorem dX4_readCall_59 : decode cX4_readCall 59 = .ok (.aload_n 0, 1) := by decide +kernel
theorem dX4_readCall_60 : decode cX4_readCall 60 = .ok (.iconst 0, 1) := by decide +kernel
theorem dX4_readCall_61 : decode cX4_readCall 61 = .ok (.aload_n 0, 1) := by decide +kernel
theorem dX4_readCall_62 : decode cX4_readCall 62 = .ok (.getfield 12, 3) := by decide +kernel
theorem dX4_readCall_65 : decode cX4_readCall 65 = .ok (.getfield 84, 3) := by decide +kernel
theorem dX4_readCall_68 : decode cX4_readCall 68 = .ok (.iconst 1, 1) := by decide +kernel
theorem dX4_readCall_69 : decode cX4_readCall 69 = .ok (.isub, 1) := by decide +kernel
theorem dX4_readCall_70 : decode cX4_readCall 70 = .ok (.aload_n 0, 1) := by decide +kernel
theorem dX4_readCall_71 : decode cX4_readCall 71 = .ok (.getfield 12, 3) := by decide +kernel
theorem dX4_readCall_74 : decode cX4_readCall 74 = .ok (.getfield 97, 3) := by decide +kernel
theorem dX4_readCall_77 : decode cX4_readCall 77 = .ok (.iload_n 1, 1) := by decide +kernel
theorem dX4_readCall_78 : decode cX4_readCall 78 = .ok (.iaload, 1) := by decide +kernel
theorem dX4_readCall_79 : decode cX4_readCall 79 = .ok (.invokevirtual 80, 3) := by decide +kernel
theorem dX4_readCall_82 : decode cX4_readCall 82 = .ok (.iastore, 1) := by decide +kernel
theorem dX4_readCall_83 : decode cX4_readCall 83 = .ok (.aload_n 0, 1) := by decide +kernel
theorem dX4_readCall_84 : decode cX4_readCall 84 = .ok (.getfield 12, 3) := by decide +kernel
theorem dX4_readCall_87 : decode cX4_readCall 87 = .ok (.getfield 103, 3) := by decide +kernel
theorem dX4_readCall_90 : decode cX4_readCall 90 = .ok (.iload_n 1, 1) := by decide +kernel
theorem dX4_readCall_91 : decode cX4_readCall 91 = .ok (.aload_n 0, 1) := by decide +kernel
theorem dX4_readCall_92 : decode cX4_readCall 92 = .ok (.iconst 1, 1) := by decide +kernel
theorem dX4_readCall_93 : decode cX4_readCall 93 = .ok (.bipush 20, 2) := by decide +kernel
theorem dX4_readCall_95 : decode cX4_readCall 95 = .ok (.bipush (-9), 2) := by decide +kernel
theorem dX4_readCall_97 : decode cX4_readCall 97 = .ok (.invokevirtual 80, 3) := by decide +kernel
theorem dX4_readCall_100 : decode cX4_readCall 100 = .ok (.iastore, 1) := by decide +kernel
theorem dX4_readCall_101 : decode cX4_readCall 101 = .ok (.aload_n 0, 1) := by decide +kernel
theorem dX4_readCall_102 : decode cX4_readCall 102 = .ok (.getfield 12, 3) := by decide +kernel
theorem dX4_readCall_105 : decode cX4_readCall 105 = .ok (.getfield 105, 3) := by decide +kernel
theorem dX4_readCall_108 : decode cX4_readCall 108 = .ok (.iload_n 1, 1) := by decide +kernel
theorem dX4_readCall_109 : decode cX4_readCall 109 = .ok (.aload_n 0, 1) := by decide +kernel
theorem dX4_readCall_110 : decode cX4_readCall 110 = .ok (.iconst 0, 1) := by decide +kernel
theorem dX4_readCall_111 : decode cX4_readCall 111 = .ok (.bipush 9, 2) := by decide +kernel
theorem dX4_readCall_113 : decode cX4_readCall 113 = .ok (.bipush (-9), 2) := by decide +kernel
theorem dX4_readCall_115 : decode cX4_readCall 115 = .ok (.invokevirtual 80, 3) := by decide +kernel
theorem dX4_readCall_118 : decode cX4_readCall 118 = .ok (.iastore, 1) := by decide +kernel
theorem dX4_readCall_119 : decode cX4_readCall 119 = .ok (.aload_n 0, 1) := by decide +kernel
theorem dX4_readCall_120 : decode cX4_readCall 120 = .ok (.getfield 12, 3) := by decide +kernel
theorem dX4_readCall_123 : decode cX4_readCall 123 = .ok (.iload_n 1, 1) := by decide +kernel
theorem dX4_readCall_124 : decode cX4_readCall 124 = .ok (.iconst 1, 1) := by decide +kernel
theorem dX4_readCall_125 : decode cX4_readCall 125 = .ok (.iadd, 1) := by decide +kernel
theorem dX4_readCall_126 : decode cX4_readCall 126 = .ok (.putfield 67, 3) := by decide +kernel
theorem dX4_readCall_129 : decode cX4_readCall 129 = .ok (.return_, 1) := by decide +kernel
theorem dX4_readNumber_0 : decode cX4_readNumber 0 = .ok (.aload_n 0, 1) := by decide +kernel
theorem dX4_readNumber_1 : decode cX4_readNumber 1 = .ok (.invokevirtual 48, 3) := by decide +kernel
theorem dX4_readNumber_4 : decode cX4_readNumber 4 = .ok (.aload_n 0, 1) := by decide +kernel
theorem dX4_readNumber_5 : decode cX4_readNumber 5 = .ok (.getfield 35, 3) := by decide +kernel
theorem dX4_readNumber_8 : decode cX4_readNumber 8 = .ok (.iconst (-1), 1) := by decide +kernel
theorem dX4_readNumber_9 : decode cX4_readNumber 9 = .ok (.if_icmp .eq 5, 3) := by decide +kernel
theorem dX4_readNumber_12 : decode cX4_readNumber 12 = .ok (.iload_n 1, 1) := by decide +kernel
theorem dX4_readNumber_13 : decode cX4_readNumber 13 = .ok (.ireturn, 1) := by decide +kernel
theorem dX4_readNumber_14 : decode cX4_readNumber 14 = .ok (.aload_n 0, 1) := by decide +kernel
theorem dX4_readNumber_15 : decode cX4_readNumber 15 = .ok (.getfield 32, 3) := by decide +kernel
theorem dX4_readNumber_18 : decode cX4_readNumber 18 = .ok (.istore 4, 2) := by decide +kernel
theorem dX4_readNumber_20 : decode cX4_readNumber 20 = .ok (.aload_n 0, 1) := by decide +kernel
theorem dX4_readNumber_21 : decode cX4_readNumber 21 = .ok (.invokevirtual 54, 3) := by decide +kernel
theorem dX4_readNumber_24 : decode cX4_readNumber 24 = .ok (.istore 5, 2) := by decide +kernel
theorem dX4_readNumber_26 : decode cX4_readNumber 26 = .ok (.iconst 0, 1) := by decide +kernel
theorem dX4_readNumber_27 : decode cX4_readNumber 27 = .ok (.istore 6, 2) := by decide +kernel
theorem dX4_readNumber_29 : decode cX4_readNumber 29 = .ok (.aload_n 0, 1) := by decide +kernel
theorem dX4_readNumber_30 : decode cX4_readNumber 30 = .ok (.getfield 32, 3) := by decide +kernel
theorem dX4_readNumber_33 : decode cX4_readNumber 33 = .ok (.aload_n 0, 1) := by decide +kernel
theorem dX4_readNumber_34 : decode cX4_readNumber 34 = .ok (.getfield 28, 3) := by decide +kernel
theorem dX4_readNumber_37 : decode cX4_readNumber 37 = .ok (.if_icmp .ge 46, 3) := by decide +kernel
theorem dX4_readNumber_40 : decode cX4_readNumber 40 = .ok (.aload_n 0, 1) := by decide +kernel
theorem dX4_readNumber_41 : decode cX4_readNumber 41 = .ok (.invokevirtual 54, 3) := by decide +kernel
theorem dX4_readNumber_44 : decode cX4_readNumber 44 = .ok (.invokestatic 108, 3) := by decide +kernel
theorem dX4_readNumber_47 : decode cX4_readNumber 47 = .ok (.ifCond .eq 36, 3) := by decide +kernel
theorem dX4_readNumber_50 : decode cX4_readNumber 50 = .ok (.bipush 100, 2) := by decide +kernel
theorem dX4_readNumber_52 : decode cX4_readNumber 52 = .ok (.bipush 10, 2) := by decide +kernel
theorem dX4_readNumber_54 : decode cX4_readNumber 54 = .ok (.iload 6, 2) := by decide +kernel
theorem dX4_readNumber_56 : decode cX4_readNumber 56 = .ok (.imul, 1) := by decide +kernel
theorem dX4_readNumber_57 : decode cX4_readNumber 57 = .ok (.aload_n 0, 1) := by decide +kernel
theorem dX4_readNumber_58 : decode cX4_readNumber 58 = .ok (.invokevirtual 54, 3) := by decide +kernel
theorem dX4_readNumber_61 : decode cX4_readNumber 61 = .ok (.iadd, 1) := by decide +kernel
theorem dX4_readNumber_62 : decode cX4_readNumber 62 = .ok (.bipush 48, 2) := by decide +kernel
theorem dX4_readNumber_64 : decode cX4_readNumber 64 = .ok (.isub, 1) := by decide +kernel
theorem dX4_readNumber_65 : decode cX4_readNumber 65 = .ok (.invokestatic 22, 3) := by decide +kernel
theorem dX4_readNumber_68 : decode cX4_readNumber 68 = .ok (.istore 6, 2) := by decide +kernel
theorem dX4_readNumber_70 : decode cX4_readNumber 70 = .ok (.aload_n 0, 1) := by decide +kernel
theorem dX4_readNumber_71 : decode cX4_readNumber 71 = .ok (.dup, 1) := by decide +kernel
theorem dX4_readNumber_72 : decode cX4_readNumber 72 = .ok (.getfield 32, 3) := by decide +kernel
theorem dX4_readNumber_75 : decode cX4_readNumber 75 = .ok (.iconst 1, 1) := by decide +kernel
theorem dX4_readNumber_76 : decode cX4_readNumber 76 = .ok (.iadd, 1) := by decide +kernel
theorem dX4_readNumber_77 : decode cX4_readNumber 77 = .ok (.putfield 32, 3) := by decide +kernel
theorem dX4_readNumber_80 : decode cX4_readNumber 80 = .ok (.goto (-51), 3) := by decide +kernel
theorem dX4_readNumber_83 : decode cX4_readNumber 83 = .ok (.iload 5, 2) := by decide +kernel
theorem dX4_readNumber_85 : decode cX4_readNumber 85 = .ok (.bipush 48, 2) := by decide +kernel
theorem dX4_readNumber_87 : decode cX4_readNumber 87 = .ok (.if_icmp .ne 18, 3) := by decide +kernel
theorem dX4_readNumber_90 : decode cX4_readNumber 90 = .ok (.aload_n 0, 1) := by decide +kernel
theorem dX4_readNumber_91 : decode cX4_readNumber 91 = .ok (.getfield 32, 3) := by decide +kernel
theorem dX4_readNumber_94 : decode cX4_readNumber 94 = .ok (.iload 4, 2) := by decide +kernel
theorem dX4_readNumber_96 : decode cX4_readNumber 96 = .ok (.isub, 1) := by decide +kernel
theorem dX4_readNumber_97 : decode cX4_readNumber 97 = .ok (.iconst 1, 1) := by decide +kernel
theorem dX4_readNumber_98 : decode cX4_readNumber 98 = .ok (.if_icmp .le 7, 3) := by decide +kernel
theorem dX4_readNumber_101 : decode cX4_readNumber 101 = .ok (.iconst 1, 1) := by decide +kernel
theorem dX4_readNumber_102 : decode cX4_readNumber 102 = .ok (.goto 4, 3) := by decide +kernel
theorem dX4_readNumber_105 : decode cX4_readNumber 105 = .ok (.iconst 0, 1) := by decide +kernel
theorem dX4_readNumber_106 : decode cX4_readNumber 106 = .ok (.istore 7, 2) := by decide +kernel
theorem dX4_readNumber_108 : decode cX4_readNumber 108 = .ok (.aload_n 0, 1) := by decide +kernel
theorem dX4_readNumber_109 : decode cX4_readNumber 109 = .ok (.getfield 32, 3) := by decide +kernel
theorem dX4_readNumber_112 : decode cX4_readNumber 112 = .ok (.iload 4, 2) := by decide +kernel
theorem dX4_readNumber_114 : decode cX4_readNumber 114 = .ok (.if_icmp .eq 26, 3) := by decide +kernel
theorem dX4_readNumber_117 : decode cX4_readNumber 117 = .ok (.iload 7, 2) := by decide +kernel
theorem dX4_readNumber_119 : decode cX4_readNumber 119 = .ok (.ifCond .ne 21, 3) := by decide +kernel
theorem dX4_readNumber_122 : decode cX4_readNumber 122 = .ok (.iload 6, 2) := by decide +kernel
theorem dX4_readNumber_124 : decode cX4_readNumber 124 = .ok (.iload_n 1, 1) := by decide +kernel
theorem dX4_readNumber_125 : decode cX4_readNumber 125 = .ok (.if_icmp .lt 15, 3) := by decide +kernel
theorem dX4_readNumber_128 : decode cX4_readNumber 128 = .ok (.iload 6, 2) := by decide +kernel
theorem dX4_readNumber_130 : decode cX4_readNumber 130 = .ok (.iload_n 2, 1) := by decide +kernel
theorem dX4_readNumber_131 : decode cX4_readNumber 131 = .ok (.if_icmp .gt 9, 3) := by decide +kernel
theorem dX4_readNumber_134 : decode cX4_readNumber 134 = .ok (.iload 6, 2) := by decide +kernel
theorem dX4_readNumber_136 : decode cX4_readNumber 136 = .ok (.iload_n 3, 1) := by decide +kernel
theorem dX4_readNumber_137 : decode cX4_readNumber 137 = .ok (.if_icmp .ne 11, 3) := by decide +kernel
theorem dX4_readNumber_140 : decode cX4_readNumber 140 = .ok (.aload_n 0, 1) := by decide +kernel
theorem dX4_readNumber_141 : decode cX4_readNumber 141 = .ok (.iload 4, 2) := by decide +kernel
theorem dX4_readNumber_143 : decode cX4_readNumber 143 = .ok (.invokevirtual 73, 3) := by decide +kernel
theorem dX4_readNumber_146 : decode cX4_readNumber 146 = .ok (.iload_n 1, 1) := by decide +kernel
theorem dX4_readNumber_147 : decode cX4_readNumber 147 = .ok (.ireturn, 1) := by decide +kernel
theorem dX4_readNumber_148 : decode cX4_readNumber 148 = .ok (.iload 6, 2) := by decide +kernel
theorem dX4_readNumber_150 : decode cX4_readNumber 150 = .ok (.ireturn, 1) := by decide +kernel
theorem dX4_readEnd_0 : decode cX4_readEnd 0 = .ok (.aload_n 0, 1) := by decide +kernel
theorem dX4_readEnd_1 : decode cX4_readEnd 1 = .ok (.invokevirtual 48, 3) := by decide +kernel
theorem dX4_readEnd_4 : decode cX4_readEnd 4 = .ok (.aload_n 0, 1) := by decide +kernel
theorem dX4_readEnd_5 : decode cX4_readEnd 5 = .ok (.invokevirtual 54, 3) := by decide +kernel
theorem dX4_readEnd_8 : decode cX4_readEnd 8 = .ok (.bipush 59, 2) := by decide +kernel
theorem dX4_readEnd_10 : decode cX4_readEnd 10 = .ok (.if_icmp .eq 11, 3) := by decide +kernel
theorem dX4_readEnd_13 : decode cX4_readEnd 13 = .ok (.aload_n 0, 1) := by decide +kernel
theorem dX4_readEnd_14 : decode cX4_readEnd 14 = .ok (.aload_n 0, 1) := by decide +kernel
theorem dX4_readEnd_15 : decode cX4_readEnd 15 = .ok (.getfield 32, 3) := by decide +kernel
theorem dX4_readEnd_18 : decode cX4_readEnd 18 = .ok (.invokevirtual 73, 3) := by decide +kernel
theorem dX4_readEnd_21 : decode cX4_readEnd 21 = .ok (.aload_n 0, 1) := by decide +kernel
theorem dX4_readEnd_22 : decode cX4_readEnd 22 = .ok (.dup, 1) := by decide +kernel
theorem dX4_readEnd_23 : decode cX4_readEnd 23 = .ok (.getfield 32, 3) := by decide +kernel
theorem dX4_readEnd_26 : decode cX4_readEnd 26 = .ok (.iconst 1, 1) := by decide +kernel
theorem dX4_readEnd_27 : decode cX4_readEnd 27 = .ok (.iadd, 1) := by decide +kernel
theorem dX4_readEnd_28 : decode cX4_readEnd 28 = .ok (.putfield 32, 3) := by decide +kernel
theorem dX4_readEnd_31 : decode cX4_readEnd 31 = .ok (.return_, 1) := by decide +kernel
theorem dX4_skipBlanks_0 : decode cX4_skipBlanks 0 = .ok (.aload_n 0, 1) := by decide +kernel
theorem dX4_skipBlanks_1 : decode cX4_skipBlanks 1 = .ok (.getfield 32, 3) := by decide +kernel
theorem dX4_skipBlanks_4 : decode cX4_skipBlanks 4 = .ok (.aload_n 0, 1) := by decide +kernel
theorem dX4_skipBlanks_5 : decode cX4_skipBlanks 5 = .ok (.getfield 28, 3) := by decide +kernel
theorem dX4_skipBlanks_8 : decode cX4_skipBlanks 8 = .ok (.if_icmp .ge 30, 3) := by decide +kernel
theorem dX4_skipBlanks_11 : decode cX4_skipBlanks 11 = .ok (.aload_n 0, 1) := by decide +kernel
theorem dX4_skipBlanks_12 : decode cX4_skipBlanks 12 = .ok (.getfield 18, 3) := by decide +kernel
theorem dX4_skipBlanks_15 : decode cX4_skipBlanks 15 = .ok (.aload_n 0, 1) := by decide +kernel
theorem dX4_skipBlanks_16 : decode cX4_skipBlanks 16 = .ok (.getfield 32, 3) := by decide +kernel
theorem dX4_skipBlanks_19 : decode cX4_skipBlanks 19 = .ok (.iaload, 1) := by decide +kernel
theorem dX4_skipBlanks_20 : decode cX4_skipBlanks 20 = .ok (.bipush 32, 2) := by decide +kernel
theorem dX4_skipBlanks_22 : decode cX4_skipBlanks 22 = .ok (.if_icmp .ne 16, 3) := by decide +kernel
theorem dX4_skipBlanks_25 : decode cX4_skipBlanks 25 = .ok (.aload_n 0, 1) := by decide +kernel
theorem dX4_skipBlanks_26 : decode cX4_skipBlanks 26 = .ok (.dup, 1) := by decide +kernel
theorem dX4_skipBlanks_27 : decode cX4_skipBlanks 27 = .ok (.getfield 32, 3) := by decide +kernel
theorem dX4_skipBlanks_30 : decode cX4_skipBlanks 30 = .ok (.iconst 1, 1) := by decide +kernel
theorem dX4_skipBlanks_31 : decode cX4_skipBlanks 31 = .ok (.iadd, 1) := by decide +kernel
theorem dX4_skipBlanks_32 : decode cX4_skipBlanks 32 = .ok (.putfield 32, 3) := by decide +kernel
theorem dX4_skipBlanks_35 : decode cX4_skipBlanks 35 = .ok (.goto (-35), 3) := by decide +kernel
theorem dX4_skipBlanks_38 : decode cX4_skipBlanks 38 = .ok (.return_, 1) := by decide +kernel
theorem dX4_letterHere_0 : decode cX4_letterHere 0 = .ok (.aload_n 0, 1) := by decide +kernel
theorem dX4_letterHere_1 : decode cX4_letterHere 1 = .ok (.getfield 32, 3) := by decide +kernel
theorem dX4_letterHere_4 : decode cX4_letterHere 4 = .ok (.ifCond .lt 26, 3) := by decide +kernel
theorem dX4_letterHere_7 : decode cX4_letterHere 7 = .ok (.aload_n 0, 1) := by decide +kernel
theorem dX4_letterHere_8 : decode cX4_letterHere 8 = .ok (.getfield 32, 3) := by decide +kernel
theorem dX4_letterHere_11 : decode cX4_letterHere 11 = .ok (.aload_n 0, 1) := by decide +kernel
theorem dX4_letterHere_12 : decode cX4_letterHere 12 = .ok (.getfield 28, 3) := by decide +kernel
theorem dX4_letterHere_15 : decode cX4_letterHere 15 = .ok (.if_icmp .ge 15, 3) := by decide +kernel
theorem dX4_letterHere_18 : decode cX4_letterHere 18 = .ok (.aload_n 0, 1) := by decide +kernel
theorem dX4_letterHere_19 : decode cX4_letterHere 19 = .ok (.getfield 18, 3) := by decide +kernel
theorem dX4_letterHere_22 : decode cX4_letterHere 22 = .ok (.aload_n 0, 1) := by decide +kernel
theorem dX4_letterHere_23 : decode cX4_letterHere 23 = .ok (.getfield 32, 3) := by decide +kernel
theorem dX4_letterHere_26 : decode cX4_letterHere 26 = .ok (.iaload, 1) := by decide +kernel
theorem dX4_letterHere_27 : decode cX4_letterHere 27 = .ok (.goto 5, 3) := by decide +kernel
theorem dX4_letterHere_30 : decode cX4_letterHere 30 = .ok (.bipush (-9), 2) := by decide +kernel
theorem dX4_letterHere_32 : decode cX4_letterHere 32 = .ok (.ireturn, 1) := by decide +kernel
theorem dX4_isDigit_0 : decode cX4_isDigit 0 = .ok (.iload_n 0, 1) := by decide +kernel
theorem dX4_isDigit_1 : decode cX4_isDigit 1 = .ok (.bipush 48, 2) := by decide +kernel
theorem dX4_isDigit_3 : decode cX4_isDigit 3 = .ok (.if_icmp .lt 13, 3) := by decide +kernel
theorem dX4_isDigit_6 : decode cX4_isDigit 6 = .ok (.iload_n 0, 1) := by decide +kernel
theorem dX4_isDigit_7 : decode cX4_isDigit 7 = .ok (.bipush 57, 2) := by decide +kernel
theorem dX4_isDigit_9 : decode cX4_isDigit 9 = .ok (.if_icmp .gt 7, 3) := by decide +kernel
theorem dX4_isDigit_12 : decode cX4_isDigit 12 = .ok (.iconst 1, 1) := by decide +kernel
theorem dX4_isDigit_13 : decode cX4_isDigit 13 = .ok (.goto 4, 3) := by decide +kernel
theorem dX4_isDigit_16 : decode cX4_isDigit 16 = .ok (.iconst 0, 1) := by decide +kernel
theorem dX4_isDigit_17 : decode cX4_isDigit 17 = .ok (.ireturn, 1) := by decide +kernel
theorem dX4_failAt_0 : decode cX4_failAt 0 = .ok (.aload_n 0, 1) := by decide +kernel
theorem dX4_failAt_1 : decode cX4_failAt 1 = .ok (.getfield 35, 3) := by decide +kernel
theorem dX4_failAt_4 : decode cX4_failAt 4 = .ok (.iconst (-1), 1) := by decide +kernel
theorem dX4_failAt_5 : decode cX4_failAt 5 = .ok (.if_icmp .ne 8, 3) := by decide +kernel
theorem dX4_failAt_8 : decode cX4_failAt 8 = .ok (.aload_n 0, 1) := by decide +kernel
theorem dX4_failAt_9 : decode cX4_failAt 9 = .ok (.iload_n 1, 1) := by decide +kernel
theorem dX4_failAt_10 : decode cX4_failAt 10 = .ok (.putfield 35, 3) := by decide +kernel
theorem dX4_failAt_13 : decode cX4_failAt 13 = .ok (.return_, 1) := by decide +kernel
theorem dX5_init_0 : decode cX5_init 0 = .ok (.aload_n 0, 1) := by decide +kernel
theorem dX5_init_1 : decode cX5_init 1 = .ok (.invokespecial 3, 3) := by decide +kernel
theorem dX5_init_4 : decode cX5_init 4 = .ok (.aload_n 0, 1) := by decide +kernel
theorem dX5_init_5 : decode cX5_init 5 = .ok (.bipush 7, 2) := by decide +kernel
theorem dX5_init_7 : decode cX5_init 7 = .ok (.newarray .int, 2) := by decide +kernel
theorem dX5_init_9 : decode cX5_init 9 = .ok (.putfield 9, 3) := by decide +kernel
theorem dX5_init_12 : decode cX5_init 12 = .ok (.aload_n 0, 1) := by decide +kernel
theorem dX5_init_13 : decode cX5_init 13 = .ok (.bipush 7, 2) := by decide +kernel
theorem dX5_init_15 : decode cX5_init 15 = .ok (.newarray .int, 2) := by decide +kernel
theorem dX5_init_17 : decode cX5_init 17 = .ok (.putfield 15, 3) := by decide +kernel
theorem dX5_init_20 : decode cX5_init 20 = .ok (.aload_n 0, 1) := by decide +kernel
theorem dX5_init_21 : decode cX5_init 21 = .ok (.bipush 7, 2) := by decide +kernel
theorem dX5_init_23 : decode cX5_init 23 = .ok (.newarray .int, 2) := by decide +kernel
theorem dX5_init_25 : decode cX5_init 25 = .ok (.putfield 18, 3) := by decide +kernel
theorem dX5_init_28 : decode cX5_init 28 = .ok (.aload_n 0, 1) := by decide +kernel
theorem dX5_init_29 : decode cX5_init 29 = .ok (.bipush 7, 2) := by decide +kernel
theorem dX5_init_31 : decode cX5_init 31 = .ok (.newarray .int, 2) := by decide +kernel
theorem dX5_init_33 : decode cX5_init 33 = .ok (.putfield 21, 3) := by decide +kernel
theorem dX5_init_36 : decode cX5_init 36 = .ok (.aload_n 0, 1) := by decide +kernel
theorem dX5_init_37 : decode cX5_init 37 = .ok (.bipush 7, 2) := by decide +kernel
theorem dX5_init_39 : decode cX5_init 39 = .ok (.newarray .int, 2) := by decide +kernel
theorem dX5_init_41 : decode cX5_init 41 = .ok (.putfield 24, 3) := by decide +kernel
theorem dX5_init_44 : decode cX5_init 44 = .ok (.aload_n 0, 1) := by decide +kernel
theorem dX5_init_45 : decode cX5_init 45 = .ok (.aload_n 1, 1) := by decide +kernel
theorem dX5_init_46 : decode cX5_init 46 = .ok (.putfield 27, 3) := by decide +kernel
theorem dX5_init_49 : decode cX5_init 49 = .ok (.return_, 1) := by decide +kernel
theorem dX5_find_0 : decode cX5_find 0 = .ok (.aload_n 0, 1) := by decide +kernel
theorem dX5_find_1 : decode cX5_find 1 = .ok (.aload_n 1, 1) := by decide +kernel
theorem dX5_find_2 : decode cX5_find 2 = .ok (.invokevirtual 31, 3) := by decide +kernel
theorem dX5_find_5 : decode cX5_find 5 = .ok (.aload_n 0, 1) := by decide +kernel
theorem dX5_find_6 : decode cX5_find 6 = .ok (.ldc 35, 2) := by decide +kernel
theorem dX5_find_8 : decode cX5_find 8 = .ok (.putfield 36, 3) := by decide +kernel
theorem dX5_find_11 : decode cX5_find 11 = .ok (.iconst 0, 1) := by decide +kernel
theorem dX5_find_12 : decode cX5_find 12 = .ok (.istore_n 2, 1) := by decide +kernel
theorem dX5_find_13 : decode cX5_find 13 = .ok (.iload_n 2, 1) := by decide +kernel
theorem dX5_find_14 : decode cX5_find 14 = .ok (.sipush 5040, 3) := by decide +kernel
theorem dX5_find_17 : decode cX5_find 17 = .ok (.if_icmp .ge 65, 3) := by decide +kernel
theorem dX5_find_20 : decode cX5_find 20 = .ok (.aload_n 0, 1) := by decide +kernel
theorem dX5_find_21 : decode cX5_find 21 = .ok (.aload_n 0, 1) := by decide +kernel
theorem dX5_find_22 : decode cX5_find 22 = .ok (.getfield 36, 3) := by decide +kernel
theorem dX5_find_25 : decode cX5_find 25 = .ok (.invokevirtual 40, 3) := by decide +kernel
theorem dX5_find_28 : decode cX5_find 28 = .ok (.istore_n 3, 1) := by decide +kernel
theorem dX5_find_29 : decode cX5_find 29 = .ok (.iload_n 3, 1) := by decide +kernel
theorem dX5_find_30 : decode cX5_find 30 = .ok (.aload_n 0, 1) := by decide +kernel
theorem dX5_find_31 : decode cX5_find 31 = .ok (.getfield 36, 3) := by decide +kernel
theorem dX5_find_34 : decode cX5_find 34 = .ok (.if_icmp .ge 25, 3) := by decide +kernel
theorem dX5_find_37 : decode cX5_find 37 = .ok (.aload_n 0, 1) := by decide +kernel
theorem dX5_find_38 : decode cX5_find 38 = .ok (.iload_n 3, 1) := by decide +kernel
theorem dX5_find_39 : decode cX5_find 39 = .ok (.putfield 36, 3) := by decide +kernel
theorem dX5_find_42 : decode cX5_find 42 = .ok (.aload_n 0, 1) := by decide +kernel
theorem dX5_find_43 : decode cX5_find 43 = .ok (.getfield 9, 3) := by decide +kernel
theorem dX5_find_46 : decode cX5_find 46 = .ok (.iconst 0, 1) := by decide +kernel
theorem dX5_find_47 : decode cX5_find 47 = .ok (.aload_n 0, 1) := by decide +kernel
theorem dX5_find_48 : decode cX5_find 48 = .ok (.getfield 15, 3) := by decide +kernel
theorem dX5_find_51 : decode cX5_find 51 = .ok (.iconst 0, 1) := by decide +kernel
theorem dX5_find_52 : decode cX5_find 52 = .ok (.aload_n 0, 1) := by decide +kernel
theorem dX5_find_53 : decode cX5_find 53 = .ok (.getfield 44, 3) := by decide +kernel
theorem dX5_find_56 : decode cX5_find 56 = .ok (.invokestatic 47, 3) := by decide +kernel
theorem dX5_find_59 : decode cX5_find 59 = .ok (.aload_n 0, 1) := by decide +kernel
theorem dX5_find_60 : decode cX5_find 60 = .ok (.getfield 9, 3) := by decide +kernel
theorem dX5_find_63 : decode cX5_find 63 = .ok (.aload_n 0, 1) := by decide +kernel
theorem dX5_find_64 : decode cX5_find 64 = .ok (.getfield 44, 3) := by decide +kernel
theorem dX5_find_67 : decode cX5_find 67 = .ok (.invokestatic 53, 3) := by decide +kernel
theorem dX5_find_70 : decode cX5_find 70 = .ok (.ifCond .ne 6, 3) := by decide +kernel
theorem dX5_find_73 : decode cX5_find 73 = .ok (.goto 9, 3) := by decide +kernel
theorem dX5_find_76 : decode cX5_find 76 = .ok (.iinc 2 1, 3) := by decide +kernel
theorem dX5_find_79 : decode cX5_find 79 = .ok (.goto (-66), 3) := by decide +kernel
theorem dX5_find_82 : decode cX5_find 82 = .ok (.return_, 1) := by decide +kernel
theorem dX5_prepare_0 : decode cX5_prepare 0 = .ok (.aload_n 0, 1) := by decide +kernel
theorem dX5_prepare_1 : decode cX5_prepare 1 = .ok (.iconst 0, 1) := by decide +kernel
theorem dX5_prepare_2 : decode cX5_prepare 2 = .ok (.putfield 44, 3) := by decide +kernel
theorem dX5_prepare_5 : decode cX5_prepare 5 = .ok (.iconst 0, 1) := by decide +kernel
theorem dX5_prepare_6 : decode cX5_prepare 6 = .ok (.istore_n 2, 1) := by decide +kernel
theorem dX5_prepare_7 : decode cX5_prepare 7 = .ok (.iload_n 2, 1) := by decide +kernel
theorem dX5_prepare_8 : decode cX5_prepare 8 = .ok (.aload_n 0, 1) := by decide +kernel
theorem dX5_prepare_9 : decode cX5_prepare 9 = .ok (.getfield 27, 3) := by decide +kernel
theorem dX5_prepare_12 : decode cX5_prepare 12 = .ok (.getfield 57, 3) := by decide +kernel
