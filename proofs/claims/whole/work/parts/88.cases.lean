/-! the law: its cases -/
theorem lmv_13 : j_mv R_law 13 1 M_X7_type := ⟨jW_t 305 (by decide +kernel) rfl, jW_t 306 (by decide +kernel) rfl, jW_t 307 (by decide +kernel) rfl, jW_t 1 (by decide +kernel) rfl, jW_t 308 (by decide +kernel) rfl, by decide +kernel, by decide +kernel, by decide +kernel⟩
theorem lmv_17 : j_mv R_law 17 1 M_X8_type := ⟨jW_t 817 (by decide +kernel) rfl, jW_t 818 (by decide +kernel) rfl, jW_t 819 (by decide +kernel) rfl, jW_t 10 (by decide +kernel) rfl, jW_t 820 (by decide +kernel) rfl, by decide +kernel, by decide +kernel, by decide +kernel⟩
theorem lmv_18 : j_mv R_law 18 0 M_X7_clear := ⟨jW_t 309 (by decide +kernel) rfl, jW_t 310 (by decide +kernel) rfl, jW_t 311 (by decide +kernel) rfl, jW_t 1 (by decide +kernel) rfl, jW_t 312 (by decide +kernel) rfl, by decide +kernel, by decide +kernel, by decide +kernel⟩
theorem lmv_22 : j_mv R_law 22 0 M_X8_clear := ⟨jW_t 824 (by decide +kernel) rfl, jW_t 825 (by decide +kernel) rfl, jW_t 826 (by decide +kernel) rfl, jW_t 10 (by decide +kernel) rfl, jW_t 827 (by decide +kernel) rfl, by decide +kernel, by decide +kernel, by decide +kernel⟩
theorem lmv_23 : j_mv R_law 23 0 M_X7_board := ⟨jW_t 313 (by decide +kernel) rfl, jW_t 314 (by decide +kernel) rfl, jW_t 315 (by decide +kernel) rfl, jW_t 1 (by decide +kernel) rfl, jW_t 316 (by decide +kernel) rfl, by decide +kernel, by decide +kernel, by decide +kernel⟩
theorem lmv_26 : j_mv R_law 26 0 M_X8_board := ⟨jW_t 828 (by decide +kernel) rfl, jW_t 829 (by decide +kernel) rfl, jW_t 830 (by decide +kernel) rfl, jW_t 10 (by decide +kernel) rfl, jW_t 831 (by decide +kernel) rfl, by decide +kernel, by decide +kernel, by decide +kernel⟩
theorem lmv_27 : j_mv R_law 27 2 M_X7_line := ⟨jW_t 381 (by decide +kernel) rfl, jW_t 382 (by decide +kernel) rfl, jW_t 383 (by decide +kernel) rfl, jW_t 1 (by decide +kernel) rfl, jW_t 384 (by decide +kernel) rfl, by decide +kernel, by decide +kernel, by decide +kernel⟩
theorem lmv_31 : j_mv R_law 31 2 M_X8_line := ⟨jW_t 860 (by decide +kernel) rfl, jW_t 861 (by decide +kernel) rfl, jW_t 862 (by decide +kernel) rfl, jW_t 10 (by decide +kernel) rfl, jW_t 863 (by decide +kernel) rfl, by decide +kernel, by decide +kernel, by decide +kernel⟩
theorem lmv_32 : j_mv R_law 32 2 M_X7_call := ⟨jW_t 393 (by decide +kernel) rfl, jW_t 394 (by decide +kernel) rfl, jW_t 395 (by decide +kernel) rfl, jW_t 1 (by decide +kernel) rfl, jW_t 396 (by decide +kernel) rfl, by decide +kernel, by decide +kernel, by decide +kernel⟩
theorem lmv_35 : j_mv R_law 35 2 M_X8_call := ⟨jW_t 888 (by decide +kernel) rfl, jW_t 889 (by decide +kernel) rfl, jW_t 890 (by decide +kernel) rfl, jW_t 10 (by decide +kernel) rfl, jW_t 891 (by decide +kernel) rfl, by decide +kernel, by decide +kernel, by decide +kernel⟩
theorem lmv_36 : j_mv R_law 36 1 M_X7_now := ⟨jW_t 401 (by decide +kernel) rfl, jW_t 402 (by decide +kernel) rfl, jW_t 403 (by decide +kernel) rfl, jW_t 1 (by decide +kernel) rfl, jW_t 404 (by decide +kernel) rfl, by decide +kernel, by decide +kernel, by decide +kernel⟩
theorem lmv_39 : j_mv R_law 39 1 M_X8_now := ⟨jW_t 896 (by decide +kernel) rfl, jW_t 897 (by decide +kernel) rfl, jW_t 898 (by decide +kernel) rfl, jW_t 10 (by decide +kernel) rfl, jW_t 899 (by decide +kernel) rfl, by decide +kernel, by decide +kernel, by decide +kernel⟩
theorem lmv_40 : j_mv R_law 40 0 M_X7_minute := ⟨jW_t 444 (by decide +kernel) rfl, jW_t 445 (by decide +kernel) rfl, jW_t 446 (by decide +kernel) rfl, jW_t 1 (by decide +kernel) rfl, jW_t 447 (by decide +kernel) rfl, by decide +kernel, by decide +kernel, by decide +kernel⟩
theorem lmv_43 : j_mv R_law 43 0 M_X8_minute := ⟨jW_t 922 (by decide +kernel) rfl, jW_t 923 (by decide +kernel) rfl, jW_t 924 (by decide +kernel) rfl, jW_t 10 (by decide +kernel) rfl, jW_t 925 (by decide +kernel) rfl, by decide +kernel, by decide +kernel, by decide +kernel⟩
theorem lmv_44 : j_mv R_law 44 1 M_X7_plugs := ⟨jW_t 461 (by decide +kernel) rfl, jW_t 462 (by decide +kernel) rfl, jW_t 463 (by decide +kernel) rfl, jW_t 1 (by decide +kernel) rfl, jW_t 464 (by decide +kernel) rfl, by decide +kernel, by decide +kernel, by decide +kernel⟩
theorem lmv_47 : j_mv R_law 47 1 M_X8_plugs := ⟨jW_t 937 (by decide +kernel) rfl, jW_t 938 (by decide +kernel) rfl, jW_t 939 (by decide +kernel) rfl, jW_t 10 (by decide +kernel) rfl, jW_t 940 (by decide +kernel) rfl, by decide +kernel, by decide +kernel, by decide +kernel⟩
theorem lmv_48 : j_mv R_law 48 1 M_X7_pulls := ⟨jW_t 482 (by decide +kernel) rfl, jW_t 483 (by decide +kernel) rfl, jW_t 484 (by decide +kernel) rfl, jW_t 1 (by decide +kernel) rfl, jW_t 485 (by decide +kernel) rfl, by decide +kernel, by decide +kernel, by decide +kernel⟩
theorem lmv_51 : j_mv R_law 51 1 M_X8_pulls := ⟨jW_t 953 (by decide +kernel) rfl, jW_t 954 (by decide +kernel) rfl, jW_t 955 (by decide +kernel) rfl, jW_t 10 (by decide +kernel) rfl, jW_t 956 (by decide +kernel) rfl, by decide +kernel, by decide +kernel, by decide +kernel⟩
theorem lmv_52 : j_mv R_law 52 2 M_X7_swaps := ⟨jW_t 490 (by decide +kernel) rfl, jW_t 491 (by decide +kernel) rfl, jW_t 492 (by decide +kernel) rfl, jW_t 1 (by decide +kernel) rfl, jW_t 493 (by decide +kernel) rfl, by decide +kernel, by decide +kernel, by decide +kernel⟩
theorem lmv_55 : j_mv R_law 55 2 M_X8_swaps := ⟨jW_t 957 (by decide +kernel) rfl, jW_t 958 (by decide +kernel) rfl, jW_t 959 (by decide +kernel) rfl, jW_t 10 (by decide +kernel) rfl, jW_t 960 (by decide +kernel) rfl, by decide +kernel, by decide +kernel, by decide +kernel⟩
theorem lmv_56 : j_mv R_law 56 0 M_X7_undo := ⟨jW_t 497 (by decide +kernel) rfl, jW_t 498 (by decide +kernel) rfl, jW_t 499 (by decide +kernel) rfl, jW_t 1 (by decide +kernel) rfl, jW_t 500 (by decide +kernel) rfl, by decide +kernel, by decide +kernel, by decide +kernel⟩
theorem lmv_59 : j_mv R_law 59 0 M_X8_undo := ⟨jW_t 961 (by decide +kernel) rfl, jW_t 962 (by decide +kernel) rfl, jW_t 963 (by decide +kernel) rfl, jW_t 10 (by decide +kernel) rfl, jW_t 964 (by decide +kernel) rfl, by decide +kernel, by decide +kernel, by decide +kernel⟩
theorem lmv_60 : j_mv R_law 60 3 M_X7_byRule := ⟨jW_t 509 (by decide +kernel) rfl, jW_t 510 (by decide +kernel) rfl, jW_t 511 (by decide +kernel) rfl, jW_t 1 (by decide +kernel) rfl, jW_t 512 (by decide +kernel) rfl, by decide +kernel, by decide +kernel, by decide +kernel⟩
theorem lmv_64 : j_mv R_law 64 3 M_X8_byRule := ⟨jW_t 965 (by decide +kernel) rfl, jW_t 966 (by decide +kernel) rfl, jW_t 967 (by decide +kernel) rfl, jW_t 10 (by decide +kernel) rfl, jW_t 968 (by decide +kernel) rfl, by decide +kernel, by decide +kernel, by decide +kernel⟩
theorem lmv_65 : j_mv R_law 65 1 M_X7_enough := ⟨jW_t 555 (by decide +kernel) rfl, jW_t 556 (by decide +kernel) rfl, jW_t 557 (by decide +kernel) rfl, jW_t 1 (by decide +kernel) rfl, jW_t 558 (by decide +kernel) rfl, by decide +kernel, by decide +kernel, by decide +kernel⟩
theorem lmv_68 : j_mv R_law 68 1 M_X8_enough := ⟨jW_t 984 (by decide +kernel) rfl, jW_t 985 (by decide +kernel) rfl, jW_t 986 (by decide +kernel) rfl, jW_t 10 (by decide +kernel) rfl, jW_t 987 (by decide +kernel) rfl, by decide +kernel, by decide +kernel, by decide +kernel⟩
theorem lmv_69 : j_mv R_law 69 1 M_X7_bestRow := ⟨jW_t 559 (by decide +kernel) rfl, jW_t 560 (by decide +kernel) rfl, jW_t 561 (by decide +kernel) rfl, jW_t 1 (by decide +kernel) rfl, jW_t 562 (by decide +kernel) rfl, by decide +kernel, by decide +kernel, by decide +kernel⟩
theorem lmv_72 : j_mv R_law 72 1 M_X8_bestRow := ⟨jW_t 992 (by decide +kernel) rfl, jW_t 993 (by decide +kernel) rfl, jW_t 994 (by decide +kernel) rfl, jW_t 10 (by decide +kernel) rfl, jW_t 995 (by decide +kernel) rfl, by decide +kernel, by decide +kernel, by decide +kernel⟩
theorem lmv_73 : j_mv R_law 73 1 M_X7_cutFor := ⟨jW_t 588 (by decide +kernel) rfl, jW_t 589 (by decide +kernel) rfl, jW_t 590 (by decide +kernel) rfl, jW_t 1 (by decide +kernel) rfl, jW_t 591 (by decide +kernel) rfl, by decide +kernel, by decide +kernel, by decide +kernel⟩
theorem lmv_76 : j_mv R_law 76 1 M_X8_cutFor := ⟨jW_t 1004 (by decide +kernel) rfl, jW_t 1005 (by decide +kernel) rfl, jW_t 1006 (by decide +kernel) rfl, jW_t 10 (by decide +kernel) rfl, jW_t 1007 (by decide +kernel) rfl, by decide +kernel, by decide +kernel, by decide +kernel⟩
theorem lmv_77 : j_mv R_law 77 0 M_X7_longCords := ⟨jW_t 604 (by decide +kernel) rfl, jW_t 605 (by decide +kernel) rfl, jW_t 606 (by decide +kernel) rfl, jW_t 1 (by decide +kernel) rfl, jW_t 607 (by decide +kernel) rfl, by decide +kernel, by decide +kernel, by decide +kernel⟩
theorem lmv_80 : j_mv R_law 80 0 M_X8_longCords := ⟨jW_t 1008 (by decide +kernel) rfl, jW_t 1009 (by decide +kernel) rfl, jW_t 1010 (by decide +kernel) rfl, jW_t 10 (by decide +kernel) rfl, jW_t 1011 (by decide +kernel) rfl, by decide +kernel, by decide +kernel, by decide +kernel⟩
theorem lmv_81 : j_mv R_law 81 0 M_X7_change := ⟨jW_t 619 (by decide +kernel) rfl, jW_t 620 (by decide +kernel) rfl, jW_t 621 (by decide +kernel) rfl, jW_t 1 (by decide +kernel) rfl, jW_t 622 (by decide +kernel) rfl, by decide +kernel, by decide +kernel, by decide +kernel⟩
theorem lmv_84 : j_mv R_law 84 0 M_X8_change := ⟨jW_t 1019 (by decide +kernel) rfl, jW_t 1020 (by decide +kernel) rfl, jW_t 1021 (by decide +kernel) rfl, jW_t 10 (by decide +kernel) rfl, jW_t 1022 (by decide +kernel) rfl, by decide +kernel, by decide +kernel, by decide +kernel⟩
theorem lmv_85 : j_mv R_law 85 1 M_X7_bestHoles := ⟨jW_t 630 (by decide +kernel) rfl, jW_t 631 (by decide +kernel) rfl, jW_t 632 (by decide +kernel) rfl, jW_t 1 (by decide +kernel) rfl, jW_t 633 (by decide +kernel) rfl, by decide +kernel, by decide +kernel, by decide +kernel⟩
theorem lmv_88 : j_mv R_law 88 1 M_X8_bestHoles := ⟨jW_t 1024 (by decide +kernel) rfl, jW_t 1025 (by decide +kernel) rfl, jW_t 1026 (by decide +kernel) rfl, jW_t 10 (by decide +kernel) rfl, jW_t 1027 (by decide +kernel) rfl, by decide +kernel, by decide +kernel, by decide +kernel⟩
theorem lmv_89 : j_mv R_law 89 1 M_X7_atOnce := ⟨jW_t 640 (by decide +kernel) rfl, jW_t 641 (by decide +kernel) rfl, jW_t 642 (by decide +kernel) rfl, jW_t 1 (by decide +kernel) rfl, jW_t 643 (by decide +kernel) rfl, by decide +kernel, by decide +kernel, by decide +kernel⟩
theorem lmv_92 : j_mv R_law 92 1 M_X8_atOnce := ⟨jW_t 1028 (by decide +kernel) rfl, jW_t 1029 (by decide +kernel) rfl, jW_t 1030 (by decide +kernel) rfl, jW_t 10 (by decide +kernel) rfl, jW_t 1031 (by decide +kernel) rfl, by decide +kernel, by decide +kernel, by decide +kernel⟩
theorem lmv_93 : j_mv R_law 93 1 M_X7_under := ⟨jW_t 648 (by decide +kernel) rfl, jW_t 649 (by decide +kernel) rfl, jW_t 650 (by decide +kernel) rfl, jW_t 1 (by decide +kernel) rfl, jW_t 651 (by decide +kernel) rfl, by decide +kernel, by decide +kernel, by decide +kernel⟩
theorem lmv_96 : j_mv R_law 96 1 M_X8_under := ⟨jW_t 1032 (by decide +kernel) rfl, jW_t 1033 (by decide +kernel) rfl, jW_t 1034 (by decide +kernel) rfl, jW_t 10 (by decide +kernel) rfl, jW_t 1035 (by decide +kernel) rfl, by decide +kernel, by decide +kernel, by decide +kernel⟩
theorem lmv_97 : j_mv R_law 97 4 M_X7_odds := ⟨jW_t 653 (by decide +kernel) rfl, jW_t 654 (by decide +kernel) rfl, jW_t 655 (by decide +kernel) rfl, jW_t 1 (by decide +kernel) rfl, jW_t 656 (by decide +kernel) rfl, by decide +kernel, by decide +kernel, by decide +kernel⟩
theorem lmv_101 : j_mv R_law 101 4 M_X8_odds := ⟨jW_t 1036 (by decide +kernel) rfl, jW_t 1037 (by decide +kernel) rfl, jW_t 1038 (by decide +kernel) rfl, jW_t 10 (by decide +kernel) rfl, jW_t 1039 (by decide +kernel) rfl, by decide +kernel, by decide +kernel, by decide +kernel⟩
theorem lmv_102 : j_mv R_law 102 2 M_X7_rate := ⟨jW_t 664 (by decide +kernel) rfl, jW_t 665 (by decide +kernel) rfl, jW_t 666 (by decide +kernel) rfl, jW_t 1 (by decide +kernel) rfl, jW_t 667 (by decide +kernel) rfl, by decide +kernel, by decide +kernel, by decide +kernel⟩
theorem lmv_105 : j_mv R_law 105 2 M_X8_rate := ⟨jW_t 1040 (by decide +kernel) rfl, jW_t 1041 (by decide +kernel) rfl, jW_t 1042 (by decide +kernel) rfl, jW_t 10 (by decide +kernel) rfl, jW_t 1043 (by decide +kernel) rfl, by decide +kernel, by decide +kernel, by decide +kernel⟩
theorem lmv_106 : j_mv R_law 106 1 M_X7_keep := ⟨jW_t 699 (by decide +kernel) rfl, jW_t 700 (by decide +kernel) rfl, jW_t 701 (by decide +kernel) rfl, jW_t 1 (by decide +kernel) rfl, jW_t 702 (by decide +kernel) rfl, by decide +kernel, by decide +kernel, by decide +kernel⟩
theorem lmv_109 : j_mv R_law 109 1 M_X8_keep := ⟨jW_t 1062 (by decide +kernel) rfl, jW_t 1063 (by decide +kernel) rfl, jW_t 1064 (by decide +kernel) rfl, jW_t 10 (by decide +kernel) rfl, jW_t 1065 (by decide +kernel) rfl, by decide +kernel, by decide +kernel, by decide +kernel⟩
theorem lmv_110 : j_mv R_law 110 1 M_X7_back := ⟨jW_t 707 (by decide +kernel) rfl, jW_t 708 (by decide +kernel) rfl, jW_t 709 (by decide +kernel) rfl, jW_t 1 (by decide +kernel) rfl, jW_t 710 (by decide +kernel) rfl, by decide +kernel, by decide +kernel, by decide +kernel⟩
theorem lmv_113 : j_mv R_law 113 1 M_X8_back := ⟨jW_t 1066 (by decide +kernel) rfl, jW_t 1067 (by decide +kernel) rfl, jW_t 1068 (by decide +kernel) rfl, jW_t 10 (by decide +kernel) rfl, jW_t 1069 (by decide +kernel) rfl, by decide +kernel, by decide +kernel, by decide +kernel⟩
theorem lmv_114 : j_mv R_law 114 1 M_X7_count := ⟨jW_t 712 (by decide +kernel) rfl, jW_t 713 (by decide +kernel) rfl, jW_t 714 (by decide +kernel) rfl, jW_t 1 (by decide +kernel) rfl, jW_t 715 (by decide +kernel) rfl, by decide +kernel, by decide +kernel, by decide +kernel⟩
theorem lmv_117 : j_mv R_law 117 1 M_X8_count := ⟨jW_t 1070 (by decide +kernel) rfl, jW_t 1071 (by decide +kernel) rfl, jW_t 1072 (by decide +kernel) rfl, jW_t 10 (by decide +kernel) rfl, jW_t 1073 (by decide +kernel) rfl, by decide +kernel, by decide +kernel, by decide +kernel⟩
theorem lmv_118 : j_mv R_law 118 0 M_X7_trace := ⟨jW_t 716 (by decide +kernel) rfl, jW_t 717 (by decide +kernel) rfl, jW_t 718 (by decide +kernel) rfl, jW_t 1 (by decide +kernel) rfl, jW_t 719 (by decide +kernel) rfl, by decide +kernel, by decide +kernel, by decide +kernel⟩
theorem lmv_122 : j_mv R_law 122 0 M_X8_trace := ⟨jW_t 1074 (by decide +kernel) rfl, jW_t 1075 (by decide +kernel) rfl, jW_t 1076 (by decide +kernel) rfl, jW_t 10 (by decide +kernel) rfl, jW_t 1077 (by decide +kernel) rfl, by decide +kernel, by decide +kernel, by decide +kernel⟩
section LC
variable {p : Program} {e : Env} {s : State} {m : MethodId} {below : List Frame} {meth : Method} {c : Code} {G : kG} {b L : Nat} {xs : Nat → Int32} {adx adm : Nat → Nat} {i : Nat} {u v : jH}
theorem lc_0 (E : LE p s m meth c G b L xs) (hi : i + 5 ≤ L) (hR : Rel u v) (ru : j_Rg u) (rv : j_Rg v) (nx : ∀ u2 v2, Rel u2 v2 → j_Rg u2 → j_Rg v2 → LI p e s m below meth c G b adx adm 771 i [] u2 v2) : LI p e s m below meth c G b adx adm 152 i [] u v := by
  obtain ⟨P, hx, hm⟩ := p_type hR (xs (i + 1)).toInt
  refine l_al 1 E dL_law_152 rfl ?_
  refine l_arg 1 E (by omega) rfl dL_law_153 dL_law_154 dL_law_155 dL_law_156 dL_law_157 ?_
  refine l_callX [jI (xs (i + 1)).toInt] E hx ru (List.forall_mem_cons.mpr ⟨l_ok _, fun _ h => absurd h List.not_mem_nil⟩) dL_law_158 lmv_13 rfl ⟨rfl, rfl, Nat.le_of_ble_eq_true rfl, Nat.le_of_ble_eq_true rfl⟩ (Nat.le_of_ble_eq_true rfl) rfl (fun r u2 hp ru2 => ?_)
  refine l_al 2 E dL_law_161 rfl ?_
  refine l_arg 1 E (by omega) rfl dL_law_162 dL_law_163 dL_law_164 dL_law_165 dL_law_166 ?_
  refine l_callM [jI (xs (i + 1)).toInt] E (hm r u2 hp) rv (List.forall_mem_cons.mpr ⟨l_ok _, fun _ h => absurd h List.not_mem_nil⟩) dL_law_167 lmv_17 rfl ⟨rfl, rfl, Nat.le_of_ble_eq_true rfl, Nat.le_of_ble_eq_true rfl⟩ (Nat.le_of_ble_eq_true rfl) rfl (fun r2 v2 hq rv2 => ?_)
  obtain ⟨er, hR2⟩ := hq
  rw [er]
  refine l_eq E dL_law_170 (by decide) ?_
  exact nx u2 v2 hR2 ru2 rv2
theorem lc_1 (E : LE p s m meth c G b L xs) (hi : i + 5 ≤ L) (hR : Rel u v) (ru : j_Rg u) (rv : j_Rg v) (nx : ∀ u2 v2, Rel u2 v2 → j_Rg u2 → j_Rg v2 → LI p e s m below meth c G b adx adm 771 i [] u2 v2) : LI p e s m below meth c G b adx adm 175 i [] u v := by
  obtain ⟨P, hx, hm⟩ := p_clear hR
  refine l_al 1 E dL_law_175 rfl ?_
  refine l_callX [] E hx ru (fun _ h => absurd h List.not_mem_nil) dL_law_176 lmv_18 rfl ⟨rfl, rfl, Nat.le_of_ble_eq_true rfl, Nat.le_of_ble_eq_true rfl⟩ (Nat.le_of_ble_eq_true rfl) rfl (fun r u2 hp ru2 => ?_)
  refine l_al 2 E dL_law_179 rfl ?_
  refine l_callM [] E (hm r u2 hp) rv (fun _ h => absurd h List.not_mem_nil) dL_law_180 lmv_22 rfl ⟨rfl, rfl, Nat.le_of_ble_eq_true rfl, Nat.le_of_ble_eq_true rfl⟩ (Nat.le_of_ble_eq_true rfl) rfl (fun r2 v2 hq rv2 => ?_)
  obtain ⟨er, hR2⟩ := hq
  rw [er]
  refine l_eq E dL_law_183 (by decide) ?_
  exact nx u2 v2 hR2 ru2 rv2
theorem lc_2 (E : LE p s m meth c G b L xs) (hi : i + 5 ≤ L) (hR : Rel u v) (ru : j_Rg u) (rv : j_Rg v) (nx : ∀ u2 v2, Rel u2 v2 → j_Rg u2 → j_Rg v2 → LI p e s m below meth c G b adx adm 771 i [] u2 v2) : LI p e s m below meth c G b adx adm 188 i [] u v := by
  obtain ⟨P, hx, hm⟩ := p_board hR
  refine l_al 1 E dL_law_188 rfl ?_
  refine l_callX [] E hx ru (fun _ h => absurd h List.not_mem_nil) dL_law_189 lmv_23 rfl ⟨rfl, rfl, Nat.le_of_ble_eq_true rfl, Nat.le_of_ble_eq_true rfl⟩ (Nat.le_of_ble_eq_true rfl) rfl (fun r u2 hp ru2 => ?_)
  refine l_al 2 E dL_law_192 rfl ?_
  refine l_callM [] E (hm r u2 hp) rv (fun _ h => absurd h List.not_mem_nil) dL_law_193 lmv_26 rfl ⟨rfl, rfl, Nat.le_of_ble_eq_true rfl, Nat.le_of_ble_eq_true rfl⟩ (Nat.le_of_ble_eq_true rfl) rfl (fun r2 v2 hq rv2 => ?_)
  obtain ⟨er, hR2⟩ := hq
  rw [er]
  refine l_eq E dL_law_196 (by decide) ?_
  exact nx u2 v2 hR2 ru2 rv2
theorem lc_3 (E : LE p s m meth c G b L xs) (hi : i + 5 ≤ L) (hR : Rel u v) (ru : j_Rg u) (rv : j_Rg v) (nx : ∀ u2 v2, Rel u2 v2 → j_Rg u2 → j_Rg v2 → LI p e s m below meth c G b adx adm 771 i [] u2 v2) : LI p e s m below meth c G b adx adm 201 i [] u v := by
  obtain ⟨P, hx, hm⟩ := p_line hR (xs (i + 1)).toInt (xs (i + 2)).toInt
  refine l_al 1 E dL_law_201 rfl ?_
  refine l_arg 1 E (by omega) rfl dL_law_202 dL_law_203 dL_law_204 dL_law_205 dL_law_206 ?_
  refine l_arg 2 E (by omega) rfl dL_law_207 dL_law_208 dL_law_209 dL_law_210 dL_law_211 ?_
  refine l_callX [jI (xs (i + 1)).toInt, jI (xs (i + 2)).toInt] E hx ru (List.forall_mem_cons.mpr ⟨l_ok _, List.forall_mem_cons.mpr ⟨l_ok _, fun _ h => absurd h List.not_mem_nil⟩⟩) dL_law_212 lmv_27 rfl ⟨rfl, rfl, Nat.le_of_ble_eq_true rfl, Nat.le_of_ble_eq_true rfl⟩ (Nat.le_of_ble_eq_true rfl) rfl (fun r u2 hp ru2 => ?_)
  refine l_al 2 E dL_law_215 rfl ?_
  refine l_arg 1 E (by omega) rfl dL_law_216 dL_law_217 dL_law_218 dL_law_219 dL_law_220 ?_
  refine l_arg 2 E (by omega) rfl dL_law_221 dL_law_222 dL_law_223 dL_law_224 dL_law_225 ?_
  refine l_callM [jI (xs (i + 1)).toInt, jI (xs (i + 2)).toInt] E (hm r u2 hp) rv (List.forall_mem_cons.mpr ⟨l_ok _, List.forall_mem_cons.mpr ⟨l_ok _, fun _ h => absurd h List.not_mem_nil⟩⟩) dL_law_226 lmv_31 rfl ⟨rfl, rfl, Nat.le_of_ble_eq_true rfl, Nat.le_of_ble_eq_true rfl⟩ (Nat.le_of_ble_eq_true rfl) rfl (fun r2 v2 hq rv2 => ?_)
  obtain ⟨er, hR2⟩ := hq
  rw [er]
  refine l_eq E dL_law_229 (by decide) ?_
  exact nx u2 v2 hR2 ru2 rv2
theorem lc_4 (E : LE p s m meth c G b L xs) (hi : i + 5 ≤ L) (hR : Rel u v) (ru : j_Rg u) (rv : j_Rg v) (nx : ∀ u2 v2, Rel u2 v2 → j_Rg u2 → j_Rg v2 → LI p e s m below meth c G b adx adm 771 i [] u2 v2) : LI p e s m below meth c G b adx adm 234 i [] u v := by
  obtain ⟨P, hx, hm⟩ := p_call hR (xs (i + 1)).toInt (xs (i + 2)).toInt
  refine l_al 1 E dL_law_234 rfl ?_
  refine l_arg 1 E (by omega) rfl dL_law_235 dL_law_236 dL_law_237 dL_law_238 dL_law_239 ?_
  refine l_arg 2 E (by omega) rfl dL_law_240 dL_law_241 dL_law_242 dL_law_243 dL_law_244 ?_
  refine l_callX [jI (xs (i + 1)).toInt, jI (xs (i + 2)).toInt] E hx ru (List.forall_mem_cons.mpr ⟨l_ok _, List.forall_mem_cons.mpr ⟨l_ok _, fun _ h => absurd h List.not_mem_nil⟩⟩) dL_law_245 lmv_32 rfl ⟨rfl, rfl, Nat.le_of_ble_eq_true rfl, Nat.le_of_ble_eq_true rfl⟩ (Nat.le_of_ble_eq_true rfl) rfl (fun r u2 hp ru2 => ?_)
  refine l_al 2 E dL_law_248 rfl ?_
  refine l_arg 1 E (by omega) rfl dL_law_249 dL_law_250 dL_law_251 dL_law_252 dL_law_253 ?_
  refine l_arg 2 E (by omega) rfl dL_law_254 dL_law_255 dL_law_256 dL_law_257 dL_law_258 ?_
  refine l_callM [jI (xs (i + 1)).toInt, jI (xs (i + 2)).toInt] E (hm r u2 hp) rv (List.forall_mem_cons.mpr ⟨l_ok _, List.forall_mem_cons.mpr ⟨l_ok _, fun _ h => absurd h List.not_mem_nil⟩⟩) dL_law_259 lmv_35 rfl ⟨rfl, rfl, Nat.le_of_ble_eq_true rfl, Nat.le_of_ble_eq_true rfl⟩ (Nat.le_of_ble_eq_true rfl) rfl (fun r2 v2 hq rv2 => ?_)
  obtain ⟨er, hR2⟩ := hq
  rw [er]
  refine l_eq E dL_law_262 (by decide) ?_
  exact nx u2 v2 hR2 ru2 rv2
theorem lc_5 (E : LE p s m meth c G b L xs) (hi : i + 5 ≤ L) (hR : Rel u v) (ru : j_Rg u) (rv : j_Rg v) (nx : ∀ u2 v2, Rel u2 v2 → j_Rg u2 → j_Rg v2 → LI p e s m below meth c G b adx adm 771 i [] u2 v2) : LI p e s m below meth c G b adx adm 267 i [] u v := by
  obtain ⟨P, hx, hm⟩ := p_now hR (xs (i + 1)).toInt
  refine l_al 1 E dL_law_267 rfl ?_
  refine l_arg 1 E (by omega) rfl dL_law_268 dL_law_269 dL_law_270 dL_law_271 dL_law_272 ?_
  refine l_callX [jI (xs (i + 1)).toInt] E hx ru (List.forall_mem_cons.mpr ⟨l_ok _, fun _ h => absurd h List.not_mem_nil⟩) dL_law_273 lmv_36 rfl ⟨rfl, rfl, Nat.le_of_ble_eq_true rfl, Nat.le_of_ble_eq_true rfl⟩ (Nat.le_of_ble_eq_true rfl) rfl (fun r u2 hp ru2 => ?_)
  refine l_al 2 E dL_law_276 rfl ?_
  refine l_arg 1 E (by omega) rfl dL_law_277 dL_law_278 dL_law_279 dL_law_280 dL_law_281 ?_
  refine l_callM [jI (xs (i + 1)).toInt] E (hm r u2 hp) rv (List.forall_mem_cons.mpr ⟨l_ok _, fun _ h => absurd h List.not_mem_nil⟩) dL_law_282 lmv_39 rfl ⟨rfl, rfl, Nat.le_of_ble_eq_true rfl, Nat.le_of_ble_eq_true rfl⟩ (Nat.le_of_ble_eq_true rfl) rfl (fun r2 v2 hq rv2 => ?_)
  obtain ⟨er, hR2⟩ := hq
  rw [er]
  refine l_eq E dL_law_285 (by decide) ?_
  exact nx u2 v2 hR2 ru2 rv2
theorem lc_6 (E : LE p s m meth c G b L xs) (hi : i + 5 ≤ L) (hR : Rel u v) (ru : j_Rg u) (rv : j_Rg v) (nx : ∀ u2 v2, Rel u2 v2 → j_Rg u2 → j_Rg v2 → LI p e s m below meth c G b adx adm 771 i [] u2 v2) : LI p e s m below meth c G b adx adm 290 i [] u v := by
  obtain ⟨P, hx, hm⟩ := p_minute hR
  refine l_al 1 E dL_law_290 rfl ?_
  refine l_callX [] E hx ru (fun _ h => absurd h List.not_mem_nil) dL_law_291 lmv_40 rfl ⟨rfl, rfl, Nat.le_of_ble_eq_true rfl, Nat.le_of_ble_eq_true rfl⟩ (Nat.le_of_ble_eq_true rfl) rfl (fun r u2 hp ru2 => ?_)
  refine l_al 2 E dL_law_294 rfl ?_
  refine l_callM [] E (hm r u2 hp) rv (fun _ h => absurd h List.not_mem_nil) dL_law_295 lmv_43 rfl ⟨rfl, rfl, Nat.le_of_ble_eq_true rfl, Nat.le_of_ble_eq_true rfl⟩ (Nat.le_of_ble_eq_true rfl) rfl (fun r2 v2 hq rv2 => ?_)
  obtain ⟨er, hR2⟩ := hq
  rw [er]
  refine l_eq E dL_law_298 (by decide) ?_
  exact nx u2 v2 hR2 ru2 rv2
theorem lc_7 (E : LE p s m meth c G b L xs) (hi : i + 5 ≤ L) (hR : Rel u v) (ru : j_Rg u) (rv : j_Rg v) (nx : ∀ u2 v2, Rel u2 v2 → j_Rg u2 → j_Rg v2 → LI p e s m below meth c G b adx adm 771 i [] u2 v2) : LI p e s m below meth c G b adx adm 303 i [] u v := by
  obtain ⟨P, hx, hm⟩ := p_plugs hR (xs (i + 1)).toInt
  refine l_al 1 E dL_law_303 rfl ?_
  refine l_arg 1 E (by omega) rfl dL_law_304 dL_law_305 dL_law_306 dL_law_307 dL_law_308 ?_
  refine l_callX [jI (xs (i + 1)).toInt] E hx ru (List.forall_mem_cons.mpr ⟨l_ok _, fun _ h => absurd h List.not_mem_nil⟩) dL_law_309 lmv_44 rfl ⟨rfl, rfl, Nat.le_of_ble_eq_true rfl, Nat.le_of_ble_eq_true rfl⟩ (Nat.le_of_ble_eq_true rfl) rfl (fun r u2 hp ru2 => ?_)
  refine l_al 2 E dL_law_312 rfl ?_
  refine l_arg 1 E (by omega) rfl dL_law_313 dL_law_314 dL_law_315 dL_law_316 dL_law_317 ?_
  refine l_callM [jI (xs (i + 1)).toInt] E (hm r u2 hp) rv (List.forall_mem_cons.mpr ⟨l_ok _, fun _ h => absurd h List.not_mem_nil⟩) dL_law_318 lmv_47 rfl ⟨rfl, rfl, Nat.le_of_ble_eq_true rfl, Nat.le_of_ble_eq_true rfl⟩ (Nat.le_of_ble_eq_true rfl) rfl (fun r2 v2 hq rv2 => ?_)
  obtain ⟨er, hR2⟩ := hq
  rw [er]
  refine l_eq E dL_law_321 (by decide) ?_
  exact nx u2 v2 hR2 ru2 rv2
theorem lc_8 (E : LE p s m meth c G b L xs) (hi : i + 5 ≤ L) (hR : Rel u v) (ru : j_Rg u) (rv : j_Rg v) (nx : ∀ u2 v2, Rel u2 v2 → j_Rg u2 → j_Rg v2 → LI p e s m below meth c G b adx adm 771 i [] u2 v2) : LI p e s m below meth c G b adx adm 326 i [] u v := by
  obtain ⟨P, hx, hm⟩ := p_pulls hR (xs (i + 1)).toInt
  refine l_al 1 E dL_law_326 rfl ?_
  refine l_arg 1 E (by omega) rfl dL_law_327 dL_law_328 dL_law_329 dL_law_330 dL_law_331 ?_
  refine l_callX [jI (xs (i + 1)).toInt] E hx ru (List.forall_mem_cons.mpr ⟨l_ok _, fun _ h => absurd h List.not_mem_nil⟩) dL_law_332 lmv_48 rfl ⟨rfl, rfl, Nat.le_of_ble_eq_true rfl, Nat.le_of_ble_eq_true rfl⟩ (Nat.le_of_ble_eq_true rfl) rfl (fun r u2 hp ru2 => ?_)
  refine l_al 2 E dL_law_335 rfl ?_
  refine l_arg 1 E (by omega) rfl dL_law_336 dL_law_337 dL_law_338 dL_law_339 dL_law_340 ?_
  refine l_callM [jI (xs (i + 1)).toInt] E (hm r u2 hp) rv (List.forall_mem_cons.mpr ⟨l_ok _, fun _ h => absurd h List.not_mem_nil⟩) dL_law_341 lmv_51 rfl ⟨rfl, rfl, Nat.le_of_ble_eq_true rfl, Nat.le_of_ble_eq_true rfl⟩ (Nat.le_of_ble_eq_true rfl) rfl (fun r2 v2 hq rv2 => ?_)
  obtain ⟨er, hR2⟩ := hq
  rw [er]
  refine l_eq E dL_law_344 (by decide) ?_
  exact nx u2 v2 hR2 ru2 rv2
theorem lc_9 (E : LE p s m meth c G b L xs) (hi : i + 5 ≤ L) (hR : Rel u v) (ru : j_Rg u) (rv : j_Rg v) (nx : ∀ u2 v2, Rel u2 v2 → j_Rg u2 → j_Rg v2 → LI p e s m below meth c G b adx adm 771 i [] u2 v2) : LI p e s m below meth c G b adx adm 349 i [] u v := by
  obtain ⟨P, hx, hm⟩ := p_swaps hR (xs (i + 1)).toInt (xs (i + 2)).toInt
  refine l_al 1 E dL_law_349 rfl ?_
  refine l_arg 1 E (by omega) rfl dL_law_350 dL_law_351 dL_law_352 dL_law_353 dL_law_354 ?_
  refine l_arg 2 E (by omega) rfl dL_law_355 dL_law_356 dL_law_357 dL_law_358 dL_law_359 ?_
  refine l_callX [jI (xs (i + 1)).toInt, jI (xs (i + 2)).toInt] E hx ru (List.forall_mem_cons.mpr ⟨l_ok _, List.forall_mem_cons.mpr ⟨l_ok _, fun _ h => absurd h List.not_mem_nil⟩⟩) dL_law_360 lmv_52 rfl ⟨rfl, rfl, Nat.le_of_ble_eq_true rfl, Nat.le_of_ble_eq_true rfl⟩ (Nat.le_of_ble_eq_true rfl) rfl (fun r u2 hp ru2 => ?_)
  refine l_al 2 E dL_law_363 rfl ?_
  refine l_arg 1 E (by omega) rfl dL_law_364 dL_law_365 dL_law_366 dL_law_367 dL_law_368 ?_
  refine l_arg 2 E (by omega) rfl dL_law_369 dL_law_370 dL_law_371 dL_law_372 dL_law_373 ?_
  refine l_callM [jI (xs (i + 1)).toInt, jI (xs (i + 2)).toInt] E (hm r u2 hp) rv (List.forall_mem_cons.mpr ⟨l_ok _, List.forall_mem_cons.mpr ⟨l_ok _, fun _ h => absurd h List.not_mem_nil⟩⟩) dL_law_374 lmv_55 rfl ⟨rfl, rfl, Nat.le_of_ble_eq_true rfl, Nat.le_of_ble_eq_true rfl⟩ (Nat.le_of_ble_eq_true rfl) rfl (fun r2 v2 hq rv2 => ?_)
  obtain ⟨er, hR2⟩ := hq
  rw [er]
  refine l_eq E dL_law_377 (by decide) ?_
  exact nx u2 v2 hR2 ru2 rv2
theorem lc_10 (E : LE p s m meth c G b L xs) (hi : i + 5 ≤ L) (hR : Rel u v) (ru : j_Rg u) (rv : j_Rg v) (nx : ∀ u2 v2, Rel u2 v2 → j_Rg u2 → j_Rg v2 → LI p e s m below meth c G b adx adm 771 i [] u2 v2) : LI p e s m below meth c G b adx adm 382 i [] u v := by
  obtain ⟨P, hx, hm⟩ := p_undo hR
  refine l_al 1 E dL_law_382 rfl ?_
  refine l_callX [] E hx ru (fun _ h => absurd h List.not_mem_nil) dL_law_383 lmv_56 rfl ⟨rfl, rfl, Nat.le_of_ble_eq_true rfl, Nat.le_of_ble_eq_true rfl⟩ (Nat.le_of_ble_eq_true rfl) rfl (fun r u2 hp ru2 => ?_)
  refine l_al 2 E dL_law_386 rfl ?_
  refine l_callM [] E (hm r u2 hp) rv (fun _ h => absurd h List.not_mem_nil) dL_law_387 lmv_59 rfl ⟨rfl, rfl, Nat.le_of_ble_eq_true rfl, Nat.le_of_ble_eq_true rfl⟩ (Nat.le_of_ble_eq_true rfl) rfl (fun r2 v2 hq rv2 => ?_)
  obtain ⟨er, hR2⟩ := hq
  rw [er]
  refine l_eq E dL_law_390 (by decide) ?_
  exact nx u2 v2 hR2 ru2 rv2
theorem lc_11 (E : LE p s m meth c G b L xs) (hi : i + 5 ≤ L) (hR : Rel u v) (ru : j_Rg u) (rv : j_Rg v) (nx : ∀ u2 v2, Rel u2 v2 → j_Rg u2 → j_Rg v2 → LI p e s m below meth c G b adx adm 771 i [] u2 v2) : LI p e s m below meth c G b adx adm 395 i [] u v := by
  obtain ⟨P, hx, hm⟩ := p_byRule hR (xs (i + 1)).toInt (xs (i + 2)).toInt (xs (i + 3)).toInt
  refine l_al 1 E dL_law_395 rfl ?_
  refine l_arg 1 E (by omega) rfl dL_law_396 dL_law_397 dL_law_398 dL_law_399 dL_law_400 ?_
  refine l_arg 2 E (by omega) rfl dL_law_401 dL_law_402 dL_law_403 dL_law_404 dL_law_405 ?_
  refine l_arg 3 E (by omega) rfl dL_law_406 dL_law_407 dL_law_408 dL_law_409 dL_law_410 ?_
  refine l_callX [jI (xs (i + 1)).toInt, jI (xs (i + 2)).toInt, jI (xs (i + 3)).toInt] E hx ru (List.forall_mem_cons.mpr ⟨l_ok _, List.forall_mem_cons.mpr ⟨l_ok _, List.forall_mem_cons.mpr ⟨l_ok _, fun _ h => absurd h List.not_mem_nil⟩⟩⟩) dL_law_411 lmv_60 rfl ⟨rfl, rfl, Nat.le_of_ble_eq_true rfl, Nat.le_of_ble_eq_true rfl⟩ (Nat.le_of_ble_eq_true rfl) rfl (fun r u2 hp ru2 => ?_)
  refine l_al 2 E dL_law_414 rfl ?_
  refine l_arg 1 E (by omega) rfl dL_law_415 dL_law_416 dL_law_417 dL_law_418 dL_law_419 ?_
  refine l_arg 2 E (by omega) rfl dL_law_420 dL_law_421 dL_law_422 dL_law_423 dL_law_424 ?_
  refine l_arg 3 E (by omega) rfl dL_law_425 dL_law_426 dL_law_427 dL_law_428 dL_law_429 ?_
  refine l_callM [jI (xs (i + 1)).toInt, jI (xs (i + 2)).toInt, jI (xs (i + 3)).toInt] E (hm r u2 hp) rv (List.forall_mem_cons.mpr ⟨l_ok _, List.forall_mem_cons.mpr ⟨l_ok _, List.forall_mem_cons.mpr ⟨l_ok _, fun _ h => absurd h List.not_mem_nil⟩⟩⟩) dL_law_430 lmv_64 rfl ⟨rfl, rfl, Nat.le_of_ble_eq_true rfl, Nat.le_of_ble_eq_true rfl⟩ (Nat.le_of_ble_eq_true rfl) rfl (fun r2 v2 hq rv2 => ?_)
  obtain ⟨er, hR2⟩ := hq
  rw [er]
  refine l_eq E dL_law_433 (by decide) ?_
  exact nx u2 v2 hR2 ru2 rv2
theorem lc_12 (E : LE p s m meth c G b L xs) (hi : i + 5 ≤ L) (hR : Rel u v) (ru : j_Rg u) (rv : j_Rg v) (nx : ∀ u2 v2, Rel u2 v2 → j_Rg u2 → j_Rg v2 → LI p e s m below meth c G b adx adm 771 i [] u2 v2) : LI p e s m below meth c G b adx adm 438 i [] u v := by
  obtain ⟨P, hx, hm⟩ := p_enough hR (xs (i + 1)).toInt
  refine l_al 1 E dL_law_438 rfl ?_
  refine l_arg 1 E (by omega) rfl dL_law_439 dL_law_440 dL_law_441 dL_law_442 dL_law_443 ?_
  refine l_callX [jI (xs (i + 1)).toInt] E hx ru (List.forall_mem_cons.mpr ⟨l_ok _, fun _ h => absurd h List.not_mem_nil⟩) dL_law_444 lmv_65 rfl ⟨rfl, rfl, Nat.le_of_ble_eq_true rfl, Nat.le_of_ble_eq_true rfl⟩ (Nat.le_of_ble_eq_true rfl) rfl (fun r u2 hp ru2 => ?_)
  refine l_al 2 E dL_law_447 rfl ?_
  refine l_arg 1 E (by omega) rfl dL_law_448 dL_law_449 dL_law_450 dL_law_451 dL_law_452 ?_
  refine l_callM [jI (xs (i + 1)).toInt] E (hm r u2 hp) rv (List.forall_mem_cons.mpr ⟨l_ok _, fun _ h => absurd h List.not_mem_nil⟩) dL_law_453 lmv_68 rfl ⟨rfl, rfl, Nat.le_of_ble_eq_true rfl, Nat.le_of_ble_eq_true rfl⟩ (Nat.le_of_ble_eq_true rfl) rfl (fun r2 v2 hq rv2 => ?_)
  obtain ⟨er, hR2⟩ := hq
  rw [er]
  refine l_eq E dL_law_456 (by decide) ?_
  exact nx u2 v2 hR2 ru2 rv2
theorem lc_13 (E : LE p s m meth c G b L xs) (hi : i + 5 ≤ L) (hR : Rel u v) (ru : j_Rg u) (rv : j_Rg v) (nx : ∀ u2 v2, Rel u2 v2 → j_Rg u2 → j_Rg v2 → LI p e s m below meth c G b adx adm 771 i [] u2 v2) : LI p e s m below meth c G b adx adm 461 i [] u v := by
  obtain ⟨P, hx, hm⟩ := p_bestRow hR (xs (i + 1)).toInt
  refine l_al 1 E dL_law_461 rfl ?_
  refine l_arg 1 E (by omega) rfl dL_law_462 dL_law_463 dL_law_464 dL_law_465 dL_law_466 ?_
  refine l_callX [jI (xs (i + 1)).toInt] E hx ru (List.forall_mem_cons.mpr ⟨l_ok _, fun _ h => absurd h List.not_mem_nil⟩) dL_law_467 lmv_69 rfl ⟨rfl, rfl, Nat.le_of_ble_eq_true rfl, Nat.le_of_ble_eq_true rfl⟩ (Nat.le_of_ble_eq_true rfl) rfl (fun r u2 hp ru2 => ?_)
  refine l_al 2 E dL_law_470 rfl ?_
  refine l_arg 1 E (by omega) rfl dL_law_471 dL_law_472 dL_law_473 dL_law_474 dL_law_475 ?_
  refine l_callM [jI (xs (i + 1)).toInt] E (hm r u2 hp) rv (List.forall_mem_cons.mpr ⟨l_ok _, fun _ h => absurd h List.not_mem_nil⟩) dL_law_476 lmv_72 rfl ⟨rfl, rfl, Nat.le_of_ble_eq_true rfl, Nat.le_of_ble_eq_true rfl⟩ (Nat.le_of_ble_eq_true rfl) rfl (fun r2 v2 hq rv2 => ?_)
  obtain ⟨er, hR2⟩ := hq
  rw [er]
  refine l_eq E dL_law_479 (by decide) ?_
  exact nx u2 v2 hR2 ru2 rv2
theorem lc_14 (E : LE p s m meth c G b L xs) (hi : i + 5 ≤ L) (hR : Rel u v) (ru : j_Rg u) (rv : j_Rg v) (nx : ∀ u2 v2, Rel u2 v2 → j_Rg u2 → j_Rg v2 → LI p e s m below meth c G b adx adm 771 i [] u2 v2) : LI p e s m below meth c G b adx adm 484 i [] u v := by
  obtain ⟨P, hx, hm⟩ := p_cutFor hR (xs (i + 1)).toInt
  refine l_al 1 E dL_law_484 rfl ?_
  refine l_arg 1 E (by omega) rfl dL_law_485 dL_law_486 dL_law_487 dL_law_488 dL_law_489 ?_
  refine l_callX [jI (xs (i + 1)).toInt] E hx ru (List.forall_mem_cons.mpr ⟨l_ok _, fun _ h => absurd h List.not_mem_nil⟩) dL_law_490 lmv_73 rfl ⟨rfl, rfl, Nat.le_of_ble_eq_true rfl, Nat.le_of_ble_eq_true rfl⟩ (Nat.le_of_ble_eq_true rfl) rfl (fun r u2 hp ru2 => ?_)
  refine l_al 2 E dL_law_493 rfl ?_
  refine l_arg 1 E (by omega) rfl dL_law_494 dL_law_495 dL_law_496 dL_law_497 dL_law_498 ?_
  refine l_callM [jI (xs (i + 1)).toInt] E (hm r u2 hp) rv (List.forall_mem_cons.mpr ⟨l_ok _, fun _ h => absurd h List.not_mem_nil⟩) dL_law_499 lmv_76 rfl ⟨rfl, rfl, Nat.le_of_ble_eq_true rfl, Nat.le_of_ble_eq_true rfl⟩ (Nat.le_of_ble_eq_true rfl) rfl (fun r2 v2 hq rv2 => ?_)
  obtain ⟨er, hR2⟩ := hq
  rw [er]
  refine l_eq E dL_law_502 (by decide) ?_
  exact nx u2 v2 hR2 ru2 rv2
theorem lc_15 (E : LE p s m meth c G b L xs) (hi : i + 5 ≤ L) (hR : Rel u v) (ru : j_Rg u) (rv : j_Rg v) (nx : ∀ u2 v2, Rel u2 v2 → j_Rg u2 → j_Rg v2 → LI p e s m below meth c G b adx adm 771 i [] u2 v2) : LI p e s m below meth c G b adx adm 507 i [] u v := by
  obtain ⟨P, hx, hm⟩ := p_longCords hR
  refine l_al 1 E dL_law_507 rfl ?_
  refine l_callX [] E hx ru (fun _ h => absurd h List.not_mem_nil) dL_law_508 lmv_77 rfl ⟨rfl, rfl, Nat.le_of_ble_eq_true rfl, Nat.le_of_ble_eq_true rfl⟩ (Nat.le_of_ble_eq_true rfl) rfl (fun r u2 hp ru2 => ?_)
  refine l_al 2 E dL_law_511 rfl ?_
  refine l_callM [] E (hm r u2 hp) rv (fun _ h => absurd h List.not_mem_nil) dL_law_512 lmv_80 rfl ⟨rfl, rfl, Nat.le_of_ble_eq_true rfl, Nat.le_of_ble_eq_true rfl⟩ (Nat.le_of_ble_eq_true rfl) rfl (fun r2 v2 hq rv2 => ?_)
  obtain ⟨er, hR2⟩ := hq
  rw [er]
  refine l_eq E dL_law_515 (by decide) ?_
  exact nx u2 v2 hR2 ru2 rv2
theorem lc_16 (E : LE p s m meth c G b L xs) (hi : i + 5 ≤ L) (hR : Rel u v) (ru : j_Rg u) (rv : j_Rg v) (nx : ∀ u2 v2, Rel u2 v2 → j_Rg u2 → j_Rg v2 → LI p e s m below meth c G b adx adm 771 i [] u2 v2) : LI p e s m below meth c G b adx adm 520 i [] u v := by
  obtain ⟨P, hx, hm⟩ := p_change hR
  refine l_al 1 E dL_law_520 rfl ?_
  refine l_callX [] E hx ru (fun _ h => absurd h List.not_mem_nil) dL_law_521 lmv_81 rfl ⟨rfl, rfl, Nat.le_of_ble_eq_true rfl, Nat.le_of_ble_eq_true rfl⟩ (Nat.le_of_ble_eq_true rfl) rfl (fun r u2 hp ru2 => ?_)
  refine l_al 2 E dL_law_524 rfl ?_
  refine l_callM [] E (hm r u2 hp) rv (fun _ h => absurd h List.not_mem_nil) dL_law_525 lmv_84 rfl ⟨rfl, rfl, Nat.le_of_ble_eq_true rfl, Nat.le_of_ble_eq_true rfl⟩ (Nat.le_of_ble_eq_true rfl) rfl (fun r2 v2 hq rv2 => ?_)
  obtain ⟨er, hR2⟩ := hq
  rw [er]
  refine l_eq E dL_law_528 (by decide) ?_
  exact nx u2 v2 hR2 ru2 rv2
theorem lc_17 (E : LE p s m meth c G b L xs) (hi : i + 5 ≤ L) (hR : Rel u v) (ru : j_Rg u) (rv : j_Rg v) (nx : ∀ u2 v2, Rel u2 v2 → j_Rg u2 → j_Rg v2 → LI p e s m below meth c G b adx adm 771 i [] u2 v2) : LI p e s m below meth c G b adx adm 533 i [] u v := by
  obtain ⟨P, hx, hm⟩ := p_bestHoles hR (xs (i + 1)).toInt
  refine l_al 1 E dL_law_533 rfl ?_
  refine l_arg 1 E (by omega) rfl dL_law_534 dL_law_535 dL_law_536 dL_law_537 dL_law_538 ?_
  refine l_callX [jI (xs (i + 1)).toInt] E hx ru (List.forall_mem_cons.mpr ⟨l_ok _, fun _ h => absurd h List.not_mem_nil⟩) dL_law_539 lmv_85 rfl ⟨rfl, rfl, Nat.le_of_ble_eq_true rfl, Nat.le_of_ble_eq_true rfl⟩ (Nat.le_of_ble_eq_true rfl) rfl (fun r u2 hp ru2 => ?_)
  refine l_al 2 E dL_law_542 rfl ?_
  refine l_arg 1 E (by omega) rfl dL_law_543 dL_law_544 dL_law_545 dL_law_546 dL_law_547 ?_
  refine l_callM [jI (xs (i + 1)).toInt] E (hm r u2 hp) rv (List.forall_mem_cons.mpr ⟨l_ok _, fun _ h => absurd h List.not_mem_nil⟩) dL_law_548 lmv_88 rfl ⟨rfl, rfl, Nat.le_of_ble_eq_true rfl, Nat.le_of_ble_eq_true rfl⟩ (Nat.le_of_ble_eq_true rfl) rfl (fun r2 v2 hq rv2 => ?_)
  obtain ⟨er, hR2⟩ := hq
  rw [er]
  refine l_eq E dL_law_551 (by decide) ?_
  exact nx u2 v2 hR2 ru2 rv2
theorem lc_18 (E : LE p s m meth c G b L xs) (hi : i + 5 ≤ L) (hR : Rel u v) (ru : j_Rg u) (rv : j_Rg v) (nx : ∀ u2 v2, Rel u2 v2 → j_Rg u2 → j_Rg v2 → LI p e s m below meth c G b adx adm 771 i [] u2 v2) : LI p e s m below meth c G b adx adm 556 i [] u v := by
  obtain ⟨P, hx, hm⟩ := p_atOnce hR (xs (i + 1)).toInt
  refine l_al 1 E dL_law_556 rfl ?_
  refine l_arg 1 E (by omega) rfl dL_law_557 dL_law_558 dL_law_559 dL_law_560 dL_law_561 ?_
  refine l_callX [jI (xs (i + 1)).toInt] E hx ru (List.forall_mem_cons.mpr ⟨l_ok _, fun _ h => absurd h List.not_mem_nil⟩) dL_law_562 lmv_89 rfl ⟨rfl, rfl, Nat.le_of_ble_eq_true rfl, Nat.le_of_ble_eq_true rfl⟩ (Nat.le_of_ble_eq_true rfl) rfl (fun r u2 hp ru2 => ?_)
  refine l_al 2 E dL_law_565 rfl ?_
  refine l_arg 1 E (by omega) rfl dL_law_566 dL_law_567 dL_law_568 dL_law_569 dL_law_570 ?_
  refine l_callM [jI (xs (i + 1)).toInt] E (hm r u2 hp) rv (List.forall_mem_cons.mpr ⟨l_ok _, fun _ h => absurd h List.not_mem_nil⟩) dL_law_571 lmv_92 rfl ⟨rfl, rfl, Nat.le_of_ble_eq_true rfl, Nat.le_of_ble_eq_true rfl⟩ (Nat.le_of_ble_eq_true rfl) rfl (fun r2 v2 hq rv2 => ?_)
  obtain ⟨er, hR2⟩ := hq
  rw [er]
  refine l_eq E dL_law_574 (by decide) ?_
  exact nx u2 v2 hR2 ru2 rv2
theorem lc_19 (E : LE p s m meth c G b L xs) (hi : i + 5 ≤ L) (hR : Rel u v) (ru : j_Rg u) (rv : j_Rg v) (nx : ∀ u2 v2, Rel u2 v2 → j_Rg u2 → j_Rg v2 → LI p e s m below meth c G b adx adm 771 i [] u2 v2) : LI p e s m below meth c G b adx adm 579 i [] u v := by
  obtain ⟨P, hx, hm⟩ := p_under hR (xs (i + 1)).toInt
  refine l_al 1 E dL_law_579 rfl ?_
  refine l_arg 1 E (by omega) rfl dL_law_580 dL_law_581 dL_law_582 dL_law_583 dL_law_584 ?_
  refine l_callX [jI (xs (i + 1)).toInt] E hx ru (List.forall_mem_cons.mpr ⟨l_ok _, fun _ h => absurd h List.not_mem_nil⟩) dL_law_585 lmv_93 rfl ⟨rfl, rfl, Nat.le_of_ble_eq_true rfl, Nat.le_of_ble_eq_true rfl⟩ (Nat.le_of_ble_eq_true rfl) rfl (fun r u2 hp ru2 => ?_)
  refine l_al 2 E dL_law_588 rfl ?_
  refine l_arg 1 E (by omega) rfl dL_law_589 dL_law_590 dL_law_591 dL_law_592 dL_law_593 ?_
  refine l_callM [jI (xs (i + 1)).toInt] E (hm r u2 hp) rv (List.forall_mem_cons.mpr ⟨l_ok _, fun _ h => absurd h List.not_mem_nil⟩) dL_law_594 lmv_96 rfl ⟨rfl, rfl, Nat.le_of_ble_eq_true rfl, Nat.le_of_ble_eq_true rfl⟩ (Nat.le_of_ble_eq_true rfl) rfl (fun r2 v2 hq rv2 => ?_)
  obtain ⟨er, hR2⟩ := hq
  rw [er]
  refine l_eq E dL_law_597 (by decide) ?_
  exact nx u2 v2 hR2 ru2 rv2
theorem lc_20 (E : LE p s m meth c G b L xs) (hi : i + 5 ≤ L) (hR : Rel u v) (ru : j_Rg u) (rv : j_Rg v) (nx : ∀ u2 v2, Rel u2 v2 → j_Rg u2 → j_Rg v2 → LI p e s m below meth c G b adx adm 771 i [] u2 v2) : LI p e s m below meth c G b adx adm 602 i [] u v := by
  obtain ⟨P, hx, hm⟩ := p_odds hR (xs (i + 1)).toInt (xs (i + 2)).toInt (xs (i + 3)).toInt (xs (i + 4)).toInt
  refine l_al 1 E dL_law_602 rfl ?_
  refine l_arg 1 E (by omega) rfl dL_law_603 dL_law_604 dL_law_605 dL_law_606 dL_law_607 ?_
  refine l_arg 2 E (by omega) rfl dL_law_608 dL_law_609 dL_law_610 dL_law_611 dL_law_612 ?_
  refine l_arg 3 E (by omega) rfl dL_law_613 dL_law_614 dL_law_615 dL_law_616 dL_law_617 ?_
  refine l_arg 4 E (by omega) rfl dL_law_618 dL_law_619 dL_law_620 dL_law_621 dL_law_622 ?_
  refine l_callX [jI (xs (i + 1)).toInt, jI (xs (i + 2)).toInt, jI (xs (i + 3)).toInt, jI (xs (i + 4)).toInt] E hx ru (List.forall_mem_cons.mpr ⟨l_ok _, List.forall_mem_cons.mpr ⟨l_ok _, List.forall_mem_cons.mpr ⟨l_ok _, List.forall_mem_cons.mpr ⟨l_ok _, fun _ h => absurd h List.not_mem_nil⟩⟩⟩⟩) dL_law_623 lmv_97 rfl ⟨rfl, rfl, Nat.le_of_ble_eq_true rfl, Nat.le_of_ble_eq_true rfl⟩ (Nat.le_of_ble_eq_true rfl) rfl (fun r u2 hp ru2 => ?_)
  refine l_al 2 E dL_law_626 rfl ?_
  refine l_arg 1 E (by omega) rfl dL_law_627 dL_law_628 dL_law_629 dL_law_630 dL_law_631 ?_
  refine l_arg 2 E (by omega) rfl dL_law_632 dL_law_633 dL_law_634 dL_law_635 dL_law_636 ?_
  refine l_arg 3 E (by omega) rfl dL_law_637 dL_law_638 dL_law_639 dL_law_640 dL_law_641 ?_
  refine l_arg 4 E (by omega) rfl dL_law_642 dL_law_643 dL_law_644 dL_law_645 dL_law_646 ?_
  refine l_callM [jI (xs (i + 1)).toInt, jI (xs (i + 2)).toInt, jI (xs (i + 3)).toInt, jI (xs (i + 4)).toInt] E (hm r u2 hp) rv (List.forall_mem_cons.mpr ⟨l_ok _, List.forall_mem_cons.mpr ⟨l_ok _, List.forall_mem_cons.mpr ⟨l_ok _, List.forall_mem_cons.mpr ⟨l_ok _, fun _ h => absurd h List.not_mem_nil⟩⟩⟩⟩) dL_law_647 lmv_101 rfl ⟨rfl, rfl, Nat.le_of_ble_eq_true rfl, Nat.le_of_ble_eq_true rfl⟩ (Nat.le_of_ble_eq_true rfl) rfl (fun r2 v2 hq rv2 => ?_)
  obtain ⟨er, hR2⟩ := hq
  rw [er]
  refine l_eq E dL_law_650 (by decide) ?_
  exact nx u2 v2 hR2 ru2 rv2
theorem lc_21 (E : LE p s m meth c G b L xs) (hi : i + 5 ≤ L) (hR : Rel u v) (ru : j_Rg u) (rv : j_Rg v) (nx : ∀ u2 v2, Rel u2 v2 → j_Rg u2 → j_Rg v2 → LI p e s m below meth c G b adx adm 771 i [] u2 v2) : LI p e s m below meth c G b adx adm 655 i [] u v := by
  obtain ⟨P, hx, hm⟩ := p_rate hR (xs (i + 1)).toInt (xs (i + 2)).toInt
  refine l_al 1 E dL_law_655 rfl ?_
  refine l_arg 1 E (by omega) rfl dL_law_656 dL_law_657 dL_law_658 dL_law_659 dL_law_660 ?_
  refine l_arg 2 E (by omega) rfl dL_law_661 dL_law_662 dL_law_663 dL_law_664 dL_law_665 ?_
  refine l_callX [jI (xs (i + 1)).toInt, jI (xs (i + 2)).toInt] E hx ru (List.forall_mem_cons.mpr ⟨l_ok _, List.forall_mem_cons.mpr ⟨l_ok _, fun _ h => absurd h List.not_mem_nil⟩⟩) dL_law_666 lmv_102 rfl ⟨rfl, rfl, Nat.le_of_ble_eq_true rfl, Nat.le_of_ble_eq_true rfl⟩ (Nat.le_of_ble_eq_true rfl) rfl (fun r u2 hp ru2 => ?_)
  refine l_al 2 E dL_law_669 rfl ?_
  refine l_arg 1 E (by omega) rfl dL_law_670 dL_law_671 dL_law_672 dL_law_673 dL_law_674 ?_
  refine l_arg 2 E (by omega) rfl dL_law_675 dL_law_676 dL_law_677 dL_law_678 dL_law_679 ?_
  refine l_callM [jI (xs (i + 1)).toInt, jI (xs (i + 2)).toInt] E (hm r u2 hp) rv (List.forall_mem_cons.mpr ⟨l_ok _, List.forall_mem_cons.mpr ⟨l_ok _, fun _ h => absurd h List.not_mem_nil⟩⟩) dL_law_680 lmv_105 rfl ⟨rfl, rfl, Nat.le_of_ble_eq_true rfl, Nat.le_of_ble_eq_true rfl⟩ (Nat.le_of_ble_eq_true rfl) rfl (fun r2 v2 hq rv2 => ?_)
  obtain ⟨er, hR2⟩ := hq
  rw [er]
  refine l_eq E dL_law_683 (by decide) ?_
  exact nx u2 v2 hR2 ru2 rv2
theorem lc_22 (E : LE p s m meth c G b L xs) (hi : i + 5 ≤ L) (hR : Rel u v) (ru : j_Rg u) (rv : j_Rg v) (nx : ∀ u2 v2, Rel u2 v2 → j_Rg u2 → j_Rg v2 → LI p e s m below meth c G b adx adm 771 i [] u2 v2) : LI p e s m below meth c G b adx adm 688 i [] u v := by
  obtain ⟨P, hx, hm⟩ := p_keep hR (xs (i + 1)).toInt
  refine l_al 1 E dL_law_688 rfl ?_
  refine l_arg 1 E (by omega) rfl dL_law_689 dL_law_690 dL_law_691 dL_law_692 dL_law_693 ?_
  refine l_callX [jI (xs (i + 1)).toInt] E hx ru (List.forall_mem_cons.mpr ⟨l_ok _, fun _ h => absurd h List.not_mem_nil⟩) dL_law_694 lmv_106 rfl ⟨rfl, rfl, Nat.le_of_ble_eq_true rfl, Nat.le_of_ble_eq_true rfl⟩ (Nat.le_of_ble_eq_true rfl) rfl (fun r u2 hp ru2 => ?_)
  refine l_al 2 E dL_law_697 rfl ?_
  refine l_arg 1 E (by omega) rfl dL_law_698 dL_law_699 dL_law_700 dL_law_701 dL_law_702 ?_
  refine l_callM [jI (xs (i + 1)).toInt] E (hm r u2 hp) rv (List.forall_mem_cons.mpr ⟨l_ok _, fun _ h => absurd h List.not_mem_nil⟩) dL_law_703 lmv_109 rfl ⟨rfl, rfl, Nat.le_of_ble_eq_true rfl, Nat.le_of_ble_eq_true rfl⟩ (Nat.le_of_ble_eq_true rfl) rfl (fun r2 v2 hq rv2 => ?_)
  obtain ⟨er, hR2⟩ := hq
  rw [er]
  refine l_eq E dL_law_706 (by decide) ?_
  exact nx u2 v2 hR2 ru2 rv2
theorem lc_23 (E : LE p s m meth c G b L xs) (hi : i + 5 ≤ L) (hR : Rel u v) (ru : j_Rg u) (rv : j_Rg v) (nx : ∀ u2 v2, Rel u2 v2 → j_Rg u2 → j_Rg v2 → LI p e s m below meth c G b adx adm 771 i [] u2 v2) : LI p e s m below meth c G b adx adm 711 i [] u v := by
  obtain ⟨P, hx, hm⟩ := p_back hR (xs (i + 1)).toInt
  refine l_al 1 E dL_law_711 rfl ?_
  refine l_arg 1 E (by omega) rfl dL_law_712 dL_law_713 dL_law_714 dL_law_715 dL_law_716 ?_
  refine l_callX [jI (xs (i + 1)).toInt] E hx ru (List.forall_mem_cons.mpr ⟨l_ok _, fun _ h => absurd h List.not_mem_nil⟩) dL_law_717 lmv_110 rfl ⟨rfl, rfl, Nat.le_of_ble_eq_true rfl, Nat.le_of_ble_eq_true rfl⟩ (Nat.le_of_ble_eq_true rfl) rfl (fun r u2 hp ru2 => ?_)
  refine l_al 2 E dL_law_720 rfl ?_
  refine l_arg 1 E (by omega) rfl dL_law_721 dL_law_722 dL_law_723 dL_law_724 dL_law_725 ?_
  refine l_callM [jI (xs (i + 1)).toInt] E (hm r u2 hp) rv (List.forall_mem_cons.mpr ⟨l_ok _, fun _ h => absurd h List.not_mem_nil⟩) dL_law_726 lmv_113 rfl ⟨rfl, rfl, Nat.le_of_ble_eq_true rfl, Nat.le_of_ble_eq_true rfl⟩ (Nat.le_of_ble_eq_true rfl) rfl (fun r2 v2 hq rv2 => ?_)
  obtain ⟨er, hR2⟩ := hq
  rw [er]
  refine l_eq E dL_law_729 (by decide) ?_
  exact nx u2 v2 hR2 ru2 rv2
theorem lc_24 (E : LE p s m meth c G b L xs) (hi : i + 5 ≤ L) (hR : Rel u v) (ru : j_Rg u) (rv : j_Rg v) (nx : ∀ u2 v2, Rel u2 v2 → j_Rg u2 → j_Rg v2 → LI p e s m below meth c G b adx adm 771 i [] u2 v2) : LI p e s m below meth c G b adx adm 734 i [] u v := by
  obtain ⟨P, hx, hm⟩ := p_count hR (xs (i + 1)).toInt
  refine l_al 1 E dL_law_734 rfl ?_
  refine l_arg 1 E (by omega) rfl dL_law_735 dL_law_736 dL_law_737 dL_law_738 dL_law_739 ?_
  refine l_callX [jI (xs (i + 1)).toInt] E hx ru (List.forall_mem_cons.mpr ⟨l_ok _, fun _ h => absurd h List.not_mem_nil⟩) dL_law_740 lmv_114 rfl ⟨rfl, rfl, Nat.le_of_ble_eq_true rfl, Nat.le_of_ble_eq_true rfl⟩ (Nat.le_of_ble_eq_true rfl) rfl (fun r u2 hp ru2 => ?_)
  refine l_al 2 E dL_law_743 rfl ?_
  refine l_arg 1 E (by omega) rfl dL_law_744 dL_law_745 dL_law_746 dL_law_747 dL_law_748 ?_
  refine l_callM [jI (xs (i + 1)).toInt] E (hm r u2 hp) rv (List.forall_mem_cons.mpr ⟨l_ok _, fun _ h => absurd h List.not_mem_nil⟩) dL_law_749 lmv_117 rfl ⟨rfl, rfl, Nat.le_of_ble_eq_true rfl, Nat.le_of_ble_eq_true rfl⟩ (Nat.le_of_ble_eq_true rfl) rfl (fun r2 v2 hq rv2 => ?_)
  obtain ⟨er, hR2⟩ := hq
  rw [er]
  refine l_eq E dL_law_752 (by decide) ?_
  exact nx u2 v2 hR2 ru2 rv2
theorem lc_25 (E : LE p s m meth c G b L xs) (hi : i + 5 ≤ L) (hR : Rel u v) (ru : j_Rg u) (rv : j_Rg v) (nx : ∀ u2 v2, Rel u2 v2 → j_Rg u2 → j_Rg v2 → LI p e s m below meth c G b adx adm 771 i [] u2 v2) : LI p e s m below meth c G b adx adm 757 i [] u v := by
  obtain ⟨P, hx, hm⟩ := p_trace hR
  refine l_al 1 E dL_law_757 rfl ?_
  refine l_callXl [] E hx ru (fun _ h => absurd h List.not_mem_nil) dL_law_758 lmv_118 rfl ⟨rfl, rfl, Nat.le_of_ble_eq_true rfl, Nat.le_of_ble_eq_true rfl⟩ (Nat.le_of_ble_eq_true rfl) rfl (fun r u2 hp ru2 => ?_)
  refine l_al 2 E dL_law_761 rfl ?_
  refine l_callMl [] E (hm r u2 hp) rv (fun _ h => absurd h List.not_mem_nil) dL_law_762 lmv_122 rfl ⟨rfl, rfl, Nat.le_of_ble_eq_true rfl, Nat.le_of_ble_eq_true rfl⟩ (Nat.le_of_ble_eq_true rfl) rfl (fun r2 v2 hq rv2 => ?_)
  obtain ⟨er, hR2⟩ := hq
  rw [er]
  refine l_leq E dL_law_765 dL_law_766 (by decide) ?_
  exact nx u2 v2 hR2 ru2 rv2
theorem l_loop (E : LE p s m meth c G b L xs) : ∀ (n i : Nat) (u v : jH), L + 5 - i ≤ n → i ≤ L + 4 → Rel u v → j_Rg u → j_Rg v → LI p e s m below meth c G b adx adm 18 i [] u v := by
  intro n
  induction n with
  | zero => intro i u v hn hi; omega
  | succ n ih =>
    intro i u v hn hi hR ru rv
    have E0 := E
    obtain ⟨⟨hx, hb, hr, hml, hown, hts, hX, hbl, hlocks, hgv⟩, hK, hN, hL⟩ := E0
    intro H locs ls hP hD hS hl
    refine lv_iload_n hx hb dL_law_18 rfl (lv_at hl 3 rfl) ?_
    refine lv_aload_n hx hb dL_law_19 rfl (lv_at hl 0 rfl) ?_
    refine va_slen hx hb hX hbl (Nat.not_le.mpr hbl) hS dL_law_20 ?_
    refine lv_iconst (v := Int32.ofInt 5) hx hb dL_law_21 rfl ?_
    refine lv_isub hx hb dL_law_22 ?_
    rw [show Int32.ofNat L = Int32.ofInt (L : Int) from (Int32.ofInt_eq_ofNat).symm, ← Int32.ofInt_sub]
    have e1 := j_lt (x := (L : Int) - 5) (y := (i : Int)) ⟨by omega, by omega⟩ ⟨by omega, by omega⟩
    refine lv_icmp_gt (tgt := 777) hx hb dL_law_23 (by decide) (fun z => ?_) (fun z => ?_)
    · refine lv_iconst (v := 1) hx hb dL_law_777 rfl ?_
      refine va_forget hS.2.2 ?_
      exact lw_ret hx hb hr hlocks dL_law_778
    · rw [e1] at z
      have hi5 : i + 5 ≤ L := by omega
      have rg : j_rg ((i : Nat) : Int) := ⟨by omega, by omega⟩
      refine lv_aload_n hx hb dL_law_26 rfl (lv_at hl 0 rfl) ?_
      refine lv_iload_n hx hb dL_law_27 rfl (lv_at hl 3 rfl) ?_
      refine va_sld hx hb hX hbl (Nat.not_le.mpr hbl) hS (j_in rg (by omega) (by omega)) dL_law_28 ?_
      refine lv_bipush (v := Int32.ofInt 31) hx hb dL_law_29 rfl ?_
      refine lv_iand hx hb dL_law_31 ?_
      obtain ⟨t, ht, et⟩ := l_and (xs (Int32.ofInt ((i : Nat) : Int)).toNatClampNeg)
      rw [et]
      have nx : ∀ u2 v2, Rel u2 v2 → j_Rg u2 → j_Rg v2 → LI p e s m below meth c G b adx adm 771 i [] u2 v2 := fun u2 v2 h1 h2 h3 => l_next E (ih (i + 5) u2 v2 (by omega) (by omega) h1 h2 h3)
      rcases (show t = 0 ∨ t = 1 ∨ t = 2 ∨ t = 3 ∨ t = 4 ∨ t = 5 ∨ t = 6 ∨ t = 7 ∨ t = 8 ∨ t = 9 ∨ t = 10 ∨ t = 11 ∨ t = 12 ∨ t = 13 ∨ t = 14 ∨ t = 15 ∨ t = 16 ∨ t = 17 ∨ t = 18 ∨ t = 19 ∨ t = 20 ∨ t = 21 ∨ t = 22 ∨ t = 23 ∨ t = 24 ∨ t = 25 ∨ t = 26 ∨ t = 27 ∨ t = 28 ∨ t = 29 ∨ t = 30 ∨ t = 31 by omega) with rfl | rfl | rfl | rfl | rfl | rfl | rfl | rfl | rfl | rfl | rfl | rfl | rfl | rfl | rfl | rfl | rfl | rfl | rfl | rfl | rfl | rfl | rfl | rfl | rfl | rfl | rfl | rfl | rfl | rfl | rfl | rfl
      · exact lv_tableIn (off := 120) (tgt := 152) hx hb dL_law_32 (by decide) (by decide) (by decide) (by decide) (lc_0 E hi5 hR ru rv nx H locs ls hP hD hS hl)
      · exact lv_tableIn (off := 143) (tgt := 175) hx hb dL_law_32 (by decide) (by decide) (by decide) (by decide) (lc_1 E hi5 hR ru rv nx H locs ls hP hD hS hl)
      · exact lv_tableIn (off := 156) (tgt := 188) hx hb dL_law_32 (by decide) (by decide) (by decide) (by decide) (lc_2 E hi5 hR ru rv nx H locs ls hP hD hS hl)
      · exact lv_tableIn (off := 169) (tgt := 201) hx hb dL_law_32 (by decide) (by decide) (by decide) (by decide) (lc_3 E hi5 hR ru rv nx H locs ls hP hD hS hl)
      · exact lv_tableIn (off := 202) (tgt := 234) hx hb dL_law_32 (by decide) (by decide) (by decide) (by decide) (lc_4 E hi5 hR ru rv nx H locs ls hP hD hS hl)
      · exact lv_tableIn (off := 235) (tgt := 267) hx hb dL_law_32 (by decide) (by decide) (by decide) (by decide) (lc_5 E hi5 hR ru rv nx H locs ls hP hD hS hl)
      · exact lv_tableIn (off := 258) (tgt := 290) hx hb dL_law_32 (by decide) (by decide) (by decide) (by decide) (lc_6 E hi5 hR ru rv nx H locs ls hP hD hS hl)
      · exact lv_tableIn (off := 271) (tgt := 303) hx hb dL_law_32 (by decide) (by decide) (by decide) (by decide) (lc_7 E hi5 hR ru rv nx H locs ls hP hD hS hl)
      · exact lv_tableIn (off := 294) (tgt := 326) hx hb dL_law_32 (by decide) (by decide) (by decide) (by decide) (lc_8 E hi5 hR ru rv nx H locs ls hP hD hS hl)
      · exact lv_tableIn (off := 317) (tgt := 349) hx hb dL_law_32 (by decide) (by decide) (by decide) (by decide) (lc_9 E hi5 hR ru rv nx H locs ls hP hD hS hl)
      · exact lv_tableIn (off := 350) (tgt := 382) hx hb dL_law_32 (by decide) (by decide) (by decide) (by decide) (lc_10 E hi5 hR ru rv nx H locs ls hP hD hS hl)
      · exact lv_tableIn (off := 363) (tgt := 395) hx hb dL_law_32 (by decide) (by decide) (by decide) (by decide) (lc_11 E hi5 hR ru rv nx H locs ls hP hD hS hl)
      · exact lv_tableIn (off := 406) (tgt := 438) hx hb dL_law_32 (by decide) (by decide) (by decide) (by decide) (lc_12 E hi5 hR ru rv nx H locs ls hP hD hS hl)
      · exact lv_tableIn (off := 429) (tgt := 461) hx hb dL_law_32 (by decide) (by decide) (by decide) (by decide) (lc_13 E hi5 hR ru rv nx H locs ls hP hD hS hl)
      · exact lv_tableIn (off := 452) (tgt := 484) hx hb dL_law_32 (by decide) (by decide) (by decide) (by decide) (lc_14 E hi5 hR ru rv nx H locs ls hP hD hS hl)
      · exact lv_tableIn (off := 475) (tgt := 507) hx hb dL_law_32 (by decide) (by decide) (by decide) (by decide) (lc_15 E hi5 hR ru rv nx H locs ls hP hD hS hl)
      · exact lv_tableIn (off := 488) (tgt := 520) hx hb dL_law_32 (by decide) (by decide) (by decide) (by decide) (lc_16 E hi5 hR ru rv nx H locs ls hP hD hS hl)
      · exact lv_tableIn (off := 501) (tgt := 533) hx hb dL_law_32 (by decide) (by decide) (by decide) (by decide) (lc_17 E hi5 hR ru rv nx H locs ls hP hD hS hl)
      · exact lv_tableIn (off := 524) (tgt := 556) hx hb dL_law_32 (by decide) (by decide) (by decide) (by decide) (lc_18 E hi5 hR ru rv nx H locs ls hP hD hS hl)
      · exact lv_tableIn (off := 547) (tgt := 579) hx hb dL_law_32 (by decide) (by decide) (by decide) (by decide) (lc_19 E hi5 hR ru rv nx H locs ls hP hD hS hl)
      · exact lv_tableIn (off := 570) (tgt := 602) hx hb dL_law_32 (by decide) (by decide) (by decide) (by decide) (lc_20 E hi5 hR ru rv nx H locs ls hP hD hS hl)
      · exact lv_tableIn (off := 623) (tgt := 655) hx hb dL_law_32 (by decide) (by decide) (by decide) (by decide) (lc_21 E hi5 hR ru rv nx H locs ls hP hD hS hl)
      · exact lv_tableIn (off := 656) (tgt := 688) hx hb dL_law_32 (by decide) (by decide) (by decide) (by decide) (lc_22 E hi5 hR ru rv nx H locs ls hP hD hS hl)
      · exact lv_tableIn (off := 679) (tgt := 711) hx hb dL_law_32 (by decide) (by decide) (by decide) (by decide) (lc_23 E hi5 hR ru rv nx H locs ls hP hD hS hl)
      · exact lv_tableIn (off := 702) (tgt := 734) hx hb dL_law_32 (by decide) (by decide) (by decide) (by decide) (lc_24 E hi5 hR ru rv nx H locs ls hP hD hS hl)
      · exact lv_tableIn (off := 725) (tgt := 757) hx hb dL_law_32 (by decide) (by decide) (by decide) (by decide) (lc_25 E hi5 hR ru rv nx H locs ls hP hD hS hl)
      · exact lv_tableOut (tgt := 771) hx hb dL_law_32 (by decide) (by decide) (nx u v hR ru rv H locs ls hP hD hS hl)
      · exact lv_tableOut (tgt := 771) hx hb dL_law_32 (by decide) (by decide) (nx u v hR ru rv H locs ls hP hD hS hl)
      · exact lv_tableOut (tgt := 771) hx hb dL_law_32 (by decide) (by decide) (nx u v hR ru rv H locs ls hP hD hS hl)
      · exact lv_tableOut (tgt := 771) hx hb dL_law_32 (by decide) (by decide) (nx u v hR ru rv H locs ls hP hD hS hl)
      · exact lv_tableOut (tgt := 771) hx hb dL_law_32 (by decide) (by decide) (nx u v hR ru rv H locs ls hP hD hS hl)
      · exact lv_tableOut (tgt := 771) hx hb dL_law_32 (by decide) (by decide) (nx u v hR ru rv H locs ls hP hD hS hl)
end LC
