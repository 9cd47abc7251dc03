theorem jW_l (ws : List Cond) (ps : List Nat) (hp : ws = ps.filterMap (fun i => tables_1[i]?)) (hg : ws.all goodWord = true) : ∀ w ∈ ws, w ∈ jW := by
  intro w hw
  have h1 := List.all_eq_true.mp hg w hw
  rw [hp] at hw
  obtain ⟨i, -, hi⟩ := List.mem_filterMap.mp hw
  exact jW_t i hi h1
def layX : List jC := [.inr (7, [some (some 1), some (some 2), some (some 9), some (some 17), some (some 22), some (some 24), some (some 25), some (some 26), some (some 33), some (some 39), some none, none]), .inl (false, 200), .inr (6, [some none, some none, some none, some (some 3), some (some 4), some (some 5), some (some 6), some (some 7), some (some 8)]), .inl (false, 6), .inl (false, 7), .inl (false, 7), .inl (false, 7), .inl (false, 7), .inl (false, 7), .inr (4, [some (some 10), some (some 1), some none, some none, some none, some none, some none]), .inr (6, [some none, some none, some none, some (some 11), some (some 12), some (some 13), some (some 14), some (some 15), some (some 16)]), .inl (false, 6), .inl (false, 7), .inl (false, 7), .inl (false, 7), .inl (false, 7), .inl (false, 7), .inr (2, [some (some 2), some none, some (some 18), some (some 19), some (some 20), some (some 21)]), .inl (false, 6), .inl (false, 7), .inl (false, 7), .inl (false, 7), .inr (3, [some (some 23), some none, some none]), .inl (false, 280), .inl (false, 56), .inl (true, 2), .inr (0, [some (some 2), some (some 28), some (some 27), some none, some none]), .inl (false, 7), .inr (2, [some (some 2), some none, some (some 29), some (some 30), some (some 31), some (some 32)]), .inl (false, 6), .inl (false, 7), .inl (false, 7), .inl (false, 7), .inr (5, [some (some 2), some (some 34), some (some 35), some none, some none, some (some 36), some (some 37), some (some 38)]), .inl (false, 7), .inl (false, 7), .inl (false, 7), .inl (false, 7), .inl (false, 7), .inr (1, [some (some 2), some (some 40), some (some 41), some none]), .inl (false, 6), .inl (false, 6)]
def layM : List jC := [.inr (8, [some none, some (some 1), some none, some none, some none, some none, some none, some none, some none, some none, some (some 2), some none, some (some 3), some none, some none, some none, some (some 4), some (some 5), some (some 6), some (some 7), some (some 8), some (some 9), some none, some (some 10), some (some 11), some (some 12), some none, some none, none]), .inl (false, 200), .inl (false, 6), .inl (false, 35), .inl (false, 35), .inl (false, 28), .inl (false, 28), .inl (false, 56), .inl (true, 2), .inl (false, 280), .inl (false, 7), .inl (false, 7), .inl (false, 7)]
def layT : List jC := [.inr (6, [some none, some none, some none, some (some 1), some (some 2), some (some 3), some (some 4), some (some 5), some (some 6)]), .inl (false, 6), .inl (false, 7), .inl (false, 7), .inl (false, 7), .inl (false, 7), .inl (false, 7)]
def jnst : List (String × Nat × MethodName × String) := [(RX5, 53, yX7_nextRow, "BoardCords"), (RX1, 45, yX7_exchange, "BoardCords"), (RX1, 53, yX7_nextRow, "BoardCords")]
def Sx : jS := (vwCl, jnst, layX)
def Sm : jS := (vwCl, [], layM)
def St : jS := (vwCl, [], layT)
theorem inW_X0 : ∀ w ∈ u_ws RX0 TX0 5, w ∈ jW := jW_l _ [190, 192, 194, 196, 198] (by decide +kernel) (by decide +kernel)
theorem inW_X1 : ∀ w ∈ u_ws RX1 TX1 4, w ∈ jW := jW_l _ [248, 250, 252, 254] (by decide +kernel) (by decide +kernel)
theorem inW_X2 : ∀ w ∈ u_ws RX2 TX2 6, w ∈ jW := jW_l _ [144, 146, 148, 150, 152, 154] (by decide +kernel) (by decide +kernel)
theorem inW_X3 : ∀ w ∈ u_ws RX3 TX3 3, w ∈ jW := jW_l _ [167, 169, 171] (by decide +kernel) (by decide +kernel)
theorem inW_X4 : ∀ w ∈ u_ws RX4 TX4 7, w ∈ jW := jW_l _ [110, 112, 114, 116, 118, 120, 122] (by decide +kernel) (by decide +kernel)
theorem inW_X5 : ∀ w ∈ u_ws RX5 TX5 8, w ∈ jW := jW_l _ [219, 221, 223, 225, 227, 229, 231, 233] (by decide +kernel) (by decide +kernel)
theorem inW_X6 : ∀ w ∈ u_ws RX6 TX6 9, w ∈ jW := jW_l _ [74, 76, 78, 80, 82, 84, 86, 88, 90] (by decide +kernel) (by decide +kernel)
theorem inW_X7 : ∀ w ∈ u_ws RX7 TX7 12, w ∈ jW := jW_l _ [280, 282, 284, 286, 288, 290, 292, 294, 296, 298, 300, 302] (by decide +kernel) (by decide +kernel)
theorem inW_X8 : ∀ w ∈ u_ws RX8 TX8 29, w ∈ jW := jW_l _ [758, 760, 762, 764, 766, 768, 770, 772, 774, 776, 778, 780, 782, 784, 786, 788, 790, 792, 794, 796, 798, 800, 802, 804, 806, 808, 810, 812, 814] (by decide +kernel) (by decide +kernel)
theorem cSx_0 : Sx.2.2[0]? = some (.inr (7, [some (some 1), some (some 2), some (some 9), some (some 17), some (some 22), some (some 24), some (some 25), some (some 26), some (some 33), some (some 39), some none, none])) := rfl
theorem cSx_1 : Sx.2.2[1]? = some (.inl (false, 200)) := rfl
theorem cSx_2 : Sx.2.2[2]? = some (.inr (6, [some none, some none, some none, some (some 3), some (some 4), some (some 5), some (some 6), some (some 7), some (some 8)])) := rfl
theorem cSx_3 : Sx.2.2[3]? = some (.inl (false, 6)) := rfl
theorem cSx_4 : Sx.2.2[4]? = some (.inl (false, 7)) := rfl
theorem cSx_5 : Sx.2.2[5]? = some (.inl (false, 7)) := rfl
theorem cSx_6 : Sx.2.2[6]? = some (.inl (false, 7)) := rfl
theorem cSx_7 : Sx.2.2[7]? = some (.inl (false, 7)) := rfl
theorem cSx_8 : Sx.2.2[8]? = some (.inl (false, 7)) := rfl
theorem cSx_9 : Sx.2.2[9]? = some (.inr (4, [some (some 10), some (some 1), some none, some none, some none, some none, some none])) := rfl
theorem cSx_10 : Sx.2.2[10]? = some (.inr (6, [some none, some none, some none, some (some 11), some (some 12), some (some 13), some (some 14), some (some 15), some (some 16)])) := rfl
theorem cSx_11 : Sx.2.2[11]? = some (.inl (false, 6)) := rfl
theorem cSx_12 : Sx.2.2[12]? = some (.inl (false, 7)) := rfl
theorem cSx_13 : Sx.2.2[13]? = some (.inl (false, 7)) := rfl
theorem cSx_14 : Sx.2.2[14]? = some (.inl (false, 7)) := rfl
theorem cSx_15 : Sx.2.2[15]? = some (.inl (false, 7)) := rfl
theorem cSx_16 : Sx.2.2[16]? = some (.inl (false, 7)) := rfl
theorem cSx_17 : Sx.2.2[17]? = some (.inr (2, [some (some 2), some none, some (some 18), some (some 19), some (some 20), some (some 21)])) := rfl
theorem cSx_18 : Sx.2.2[18]? = some (.inl (false, 6)) := rfl
theorem cSx_19 : Sx.2.2[19]? = some (.inl (false, 7)) := rfl
theorem cSx_20 : Sx.2.2[20]? = some (.inl (false, 7)) := rfl
theorem cSx_21 : Sx.2.2[21]? = some (.inl (false, 7)) := rfl
theorem cSx_22 : Sx.2.2[22]? = some (.inr (3, [some (some 23), some none, some none])) := rfl
theorem cSx_23 : Sx.2.2[23]? = some (.inl (false, 280)) := rfl
theorem cSx_24 : Sx.2.2[24]? = some (.inl (false, 56)) := rfl
theorem cSx_25 : Sx.2.2[25]? = some (.inl (true, 2)) := rfl
theorem cSx_26 : Sx.2.2[26]? = some (.inr (0, [some (some 2), some (some 28), some (some 27), some none, some none])) := rfl
theorem cSx_27 : Sx.2.2[27]? = some (.inl (false, 7)) := rfl
theorem cSx_28 : Sx.2.2[28]? = some (.inr (2, [some (some 2), some none, some (some 29), some (some 30), some (some 31), some (some 32)])) := rfl
theorem cSx_29 : Sx.2.2[29]? = some (.inl (false, 6)) := rfl
theorem cSx_30 : Sx.2.2[30]? = some (.inl (false, 7)) := rfl
theorem cSx_31 : Sx.2.2[31]? = some (.inl (false, 7)) := rfl
theorem cSx_32 : Sx.2.2[32]? = some (.inl (false, 7)) := rfl
theorem cSx_33 : Sx.2.2[33]? = some (.inr (5, [some (some 2), some (some 34), some (some 35), some none, some none, some (some 36), some (some 37), some (some 38)])) := rfl
theorem cSx_34 : Sx.2.2[34]? = some (.inl (false, 7)) := rfl
theorem cSx_35 : Sx.2.2[35]? = some (.inl (false, 7)) := rfl
theorem cSx_36 : Sx.2.2[36]? = some (.inl (false, 7)) := rfl
theorem cSx_37 : Sx.2.2[37]? = some (.inl (false, 7)) := rfl
theorem cSx_38 : Sx.2.2[38]? = some (.inl (false, 7)) := rfl
theorem cSx_39 : Sx.2.2[39]? = some (.inr (1, [some (some 2), some (some 40), some (some 41), some none])) := rfl
theorem cSx_40 : Sx.2.2[40]? = some (.inl (false, 6)) := rfl
theorem cSx_41 : Sx.2.2[41]? = some (.inl (false, 6)) := rfl
theorem cSm_0 : Sm.2.2[0]? = some (.inr (8, [some none, some (some 1), some none, some none, some none, some none, some none, some none, some none, some none, some (some 2), some none, some (some 3), some none, some none, some none, some (some 4), some (some 5), some (some 6), some (some 7), some (some 8), some (some 9), some none, some (some 10), some (some 11), some (some 12), some none, some none, none])) := rfl
theorem cSm_1 : Sm.2.2[1]? = some (.inl (false, 200)) := rfl
theorem cSm_2 : Sm.2.2[2]? = some (.inl (false, 6)) := rfl
theorem cSm_3 : Sm.2.2[3]? = some (.inl (false, 35)) := rfl
theorem cSm_4 : Sm.2.2[4]? = some (.inl (false, 35)) := rfl
theorem cSm_5 : Sm.2.2[5]? = some (.inl (false, 28)) := rfl
theorem cSm_6 : Sm.2.2[6]? = some (.inl (false, 28)) := rfl
theorem cSm_7 : Sm.2.2[7]? = some (.inl (false, 56)) := rfl
theorem cSm_8 : Sm.2.2[8]? = some (.inl (true, 2)) := rfl
theorem cSm_9 : Sm.2.2[9]? = some (.inl (false, 280)) := rfl
theorem cSm_10 : Sm.2.2[10]? = some (.inl (false, 7)) := rfl
theorem cSm_11 : Sm.2.2[11]? = some (.inl (false, 7)) := rfl
theorem cSm_12 : Sm.2.2[12]? = some (.inl (false, 7)) := rfl
theorem cSt_0 : St.2.2[0]? = some (.inr (6, [some none, some none, some none, some (some 1), some (some 2), some (some 3), some (some 4), some (some 5), some (some 6)])) := rfl
theorem cSt_1 : St.2.2[1]? = some (.inl (false, 6)) := rfl
theorem cSt_2 : St.2.2[2]? = some (.inl (false, 7)) := rfl
theorem cSt_3 : St.2.2[3]? = some (.inl (false, 7)) := rfl
theorem cSt_4 : St.2.2[4]? = some (.inl (false, 7)) := rfl
theorem cSt_5 : St.2.2[5]? = some (.inl (false, 7)) := rfl
theorem cSt_6 : St.2.2[6]? = some (.inl (false, 7)) := rfl
theorem fl_X0_9 : j_fl vwCl RX0 9 0 2 := ⟨RX0, TX0, 5, rfl, by decide, inW_X0, jW_t 185 (by decide +kernel) rfl⟩
theorem fl_X0_15 : j_fl vwCl RX0 15 0 3 := ⟨RX0, TX0, 5, rfl, by decide, inW_X0, jW_t 186 (by decide +kernel) rfl⟩
theorem fl_X0_19 : j_fl vwCl RX0 19 0 0 := ⟨RX0, TX0, 5, rfl, by decide, inW_X0, jW_t 182 (by decide +kernel) rfl⟩
theorem fl_X0_28 : j_fl vwCl RX0 28 0 1 := ⟨RX0, TX0, 5, rfl, by decide, inW_X0, jW_t 183 (by decide +kernel) rfl⟩
theorem fl_X0_40 : j_fl vwCl RX0 40 0 4 := ⟨RX0, TX0, 5, rfl, by decide, inW_X0, jW_t 188 (by decide +kernel) rfl⟩
theorem fl_X0_60 : j_fl vwCl RX0 60 6 2 := ⟨RX6, TX6, 9, rfl, by decide, inW_X6, jW_t 43 (by decide +kernel) rfl⟩
theorem fl_X0_69 : j_fl vwCl RX0 69 6 4 := ⟨RX6, TX6, 9, rfl, by decide, inW_X6, jW_t 51 (by decide +kernel) rfl⟩
theorem fl_X0_72 : j_fl vwCl RX0 72 6 8 := ⟨RX6, TX6, 9, rfl, by decide, inW_X6, jW_t 71 (by decide +kernel) rfl⟩
theorem fl_X0_75 : j_fl vwCl RX0 75 6 7 := ⟨RX6, TX6, 9, rfl, by decide, inW_X6, jW_t 65 (by decide +kernel) rfl⟩
theorem fl_X1_9 : j_fl vwCl RX1 9 1 1 := ⟨RX1, TX1, 4, rfl, by decide, inW_X1, jW_t 243 (by decide +kernel) rfl⟩
theorem fl_X1_15 : j_fl vwCl RX1 15 1 2 := ⟨RX1, TX1, 4, rfl, by decide, inW_X1, jW_t 244 (by decide +kernel) rfl⟩
theorem fl_X1_18 : j_fl vwCl RX1 18 1 0 := ⟨RX1, TX1, 4, rfl, by decide, inW_X1, jW_t 242 (by decide +kernel) rfl⟩
theorem fl_X1_22 : j_fl vwCl RX1 22 6 2 := ⟨RX6, TX6, 9, rfl, by decide, inW_X6, jW_t 40 (by decide +kernel) rfl⟩
theorem fl_X1_42 : j_fl vwCl RX1 42 6 0 := ⟨RX6, TX6, 9, rfl, by decide, inW_X6, jW_t 32 (by decide +kernel) rfl⟩
theorem fl_X1_50 : j_fl vwCl RX1 50 1 3 := ⟨RX1, TX1, 4, rfl, by decide, inW_X1, jW_t 246 (by decide +kernel) rfl⟩
theorem fl_X2_9 : j_fl vwCl RX2 9 2 2 := ⟨RX2, TX2, 6, rfl, by decide, inW_X2, jW_t 134 (by decide +kernel) rfl⟩
theorem fl_X2_15 : j_fl vwCl RX2 15 2 3 := ⟨RX2, TX2, 6, rfl, by decide, inW_X2, jW_t 136 (by decide +kernel) rfl⟩
theorem fl_X2_18 : j_fl vwCl RX2 18 2 4 := ⟨RX2, TX2, 6, rfl, by decide, inW_X2, jW_t 139 (by decide +kernel) rfl⟩
theorem fl_X2_21 : j_fl vwCl RX2 21 2 5 := ⟨RX2, TX2, 6, rfl, by decide, inW_X2, jW_t 142 (by decide +kernel) rfl⟩
theorem fl_X2_24 : j_fl vwCl RX2 24 2 0 := ⟨RX2, TX2, 6, rfl, by decide, inW_X2, jW_t 131 (by decide +kernel) rfl⟩
theorem fl_X2_28 : j_fl vwCl RX2 28 2 1 := ⟨RX2, TX2, 6, rfl, by decide, inW_X2, jW_t 132 (by decide +kernel) rfl⟩
theorem fl_X2_32 : j_fl vwCl RX2 32 6 3 := ⟨RX6, TX6, 9, rfl, by decide, inW_X6, jW_t 48 (by decide +kernel) rfl⟩
theorem fl_X2_44 : j_fl vwCl RX2 44 6 2 := ⟨RX6, TX6, 9, rfl, by decide, inW_X6, jW_t 42 (by decide +kernel) rfl⟩
theorem fl_X2_47 : j_fl vwCl RX2 47 6 4 := ⟨RX6, TX6, 9, rfl, by decide, inW_X6, jW_t 50 (by decide +kernel) rfl⟩
theorem fl_X2_50 : j_fl vwCl RX2 50 6 5 := ⟨RX6, TX6, 9, rfl, by decide, inW_X6, jW_t 56 (by decide +kernel) rfl⟩
theorem fl_X2_53 : j_fl vwCl RX2 53 6 6 := ⟨RX6, TX6, 9, rfl, by decide, inW_X6, jW_t 61 (by decide +kernel) rfl⟩
theorem fl_X2_76 : j_fl vwCl RX2 76 6 7 := ⟨RX6, TX6, 9, rfl, by decide, inW_X6, jW_t 69 (by decide +kernel) rfl⟩
theorem fl_X2_83 : j_fl vwCl RX2 83 6 1 := ⟨RX6, TX6, 9, rfl, by decide, inW_X6, jW_t 39 (by decide +kernel) rfl⟩
theorem fl_X3_11 : j_fl vwCl RX3 11 3 0 := ⟨RX3, TX3, 3, rfl, by decide, inW_X3, jW_t 163 (by decide +kernel) rfl⟩
theorem fl_X3_15 : j_fl vwCl RX3 15 3 1 := ⟨RX3, TX3, 3, rfl, by decide, inW_X3, jW_t 164 (by decide +kernel) rfl⟩
theorem fl_X3_19 : j_fl vwCl RX3 19 3 2 := ⟨RX3, TX3, 3, rfl, by decide, inW_X3, jW_t 165 (by decide +kernel) rfl⟩
theorem fl_X4_12 : j_fl vwCl RX4 12 4 0 := ⟨RX4, TX4, 7, rfl, by decide, inW_X4, jW_t 102 (by decide +kernel) rfl⟩
theorem fl_X4_18 : j_fl vwCl RX4 18 4 1 := ⟨RX4, TX4, 7, rfl, by decide, inW_X4, jW_t 104 (by decide +kernel) rfl⟩
theorem fl_X4_28 : j_fl vwCl RX4 28 4 2 := ⟨RX4, TX4, 7, rfl, by decide, inW_X4, jW_t 105 (by decide +kernel) rfl⟩
theorem fl_X4_32 : j_fl vwCl RX4 32 4 3 := ⟨RX4, TX4, 7, rfl, by decide, inW_X4, jW_t 106 (by decide +kernel) rfl⟩
theorem fl_X4_35 : j_fl vwCl RX4 35 4 4 := ⟨RX4, TX4, 7, rfl, by decide, inW_X4, jW_t 107 (by decide +kernel) rfl⟩
theorem fl_X4_38 : j_fl vwCl RX4 38 4 5 := ⟨RX4, TX4, 7, rfl, by decide, inW_X4, jW_t 108 (by decide +kernel) rfl⟩
theorem fl_X4_41 : j_fl vwCl RX4 41 4 6 := ⟨RX4, TX4, 7, rfl, by decide, inW_X4, jW_t 109 (by decide +kernel) rfl⟩
theorem fl_X4_67 : j_fl vwCl RX4 67 6 2 := ⟨RX6, TX6, 9, rfl, by decide, inW_X6, jW_t 45 (by decide +kernel) rfl⟩
theorem fl_X4_84 : j_fl vwCl RX4 84 6 0 := ⟨RX6, TX6, 9, rfl, by decide, inW_X6, jW_t 33 (by decide +kernel) rfl⟩
theorem fl_X4_94 : j_fl vwCl RX4 94 6 4 := ⟨RX6, TX6, 9, rfl, by decide, inW_X6, jW_t 53 (by decide +kernel) rfl⟩
theorem fl_X4_97 : j_fl vwCl RX4 97 6 5 := ⟨RX6, TX6, 9, rfl, by decide, inW_X6, jW_t 58 (by decide +kernel) rfl⟩
theorem fl_X4_100 : j_fl vwCl RX4 100 6 6 := ⟨RX6, TX6, 9, rfl, by decide, inW_X6, jW_t 63 (by decide +kernel) rfl⟩
theorem fl_X4_103 : j_fl vwCl RX4 103 6 7 := ⟨RX6, TX6, 9, rfl, by decide, inW_X6, jW_t 68 (by decide +kernel) rfl⟩
theorem fl_X4_105 : j_fl vwCl RX4 105 6 8 := ⟨RX6, TX6, 9, rfl, by decide, inW_X6, jW_t 73 (by decide +kernel) rfl⟩
theorem fl_X5_9 : j_fl vwCl RX5 9 5 1 := ⟨RX5, TX5, 8, rfl, by decide, inW_X5, jW_t 209 (by decide +kernel) rfl⟩
theorem fl_X5_15 : j_fl vwCl RX5 15 5 2 := ⟨RX5, TX5, 8, rfl, by decide, inW_X5, jW_t 210 (by decide +kernel) rfl⟩
theorem fl_X5_18 : j_fl vwCl RX5 18 5 5 := ⟨RX5, TX5, 8, rfl, by decide, inW_X5, jW_t 216 (by decide +kernel) rfl⟩
theorem fl_X5_21 : j_fl vwCl RX5 21 5 6 := ⟨RX5, TX5, 8, rfl, by decide, inW_X5, jW_t 217 (by decide +kernel) rfl⟩
theorem fl_X5_24 : j_fl vwCl RX5 24 5 7 := ⟨RX5, TX5, 8, rfl, by decide, inW_X5, jW_t 218 (by decide +kernel) rfl⟩
theorem fl_X5_27 : j_fl vwCl RX5 27 5 0 := ⟨RX5, TX5, 8, rfl, by decide, inW_X5, jW_t 208 (by decide +kernel) rfl⟩
theorem fl_X5_36 : j_fl vwCl RX5 36 5 4 := ⟨RX5, TX5, 8, rfl, by decide, inW_X5, jW_t 214 (by decide +kernel) rfl⟩
theorem fl_X5_44 : j_fl vwCl RX5 44 5 3 := ⟨RX5, TX5, 8, rfl, by decide, inW_X5, jW_t 212 (by decide +kernel) rfl⟩
theorem fl_X5_57 : j_fl vwCl RX5 57 6 2 := ⟨RX6, TX6, 9, rfl, by decide, inW_X6, jW_t 44 (by decide +kernel) rfl⟩
theorem fl_X5_62 : j_fl vwCl RX5 62 6 5 := ⟨RX6, TX6, 9, rfl, by decide, inW_X6, jW_t 55 (by decide +kernel) rfl⟩
theorem fl_X5_65 : j_fl vwCl RX5 65 6 6 := ⟨RX6, TX6, 9, rfl, by decide, inW_X6, jW_t 60 (by decide +kernel) rfl⟩
theorem fl_X5_68 : j_fl vwCl RX5 68 2 3 := ⟨RX2, TX2, 6, rfl, by decide, inW_X2, jW_t 137 (by decide +kernel) rfl⟩
theorem fl_X5_73 : j_fl vwCl RX5 73 2 4 := ⟨RX2, TX2, 6, rfl, by decide, inW_X2, jW_t 140 (by decide +kernel) rfl⟩
theorem fl_X5_82 : j_fl vwCl RX5 82 6 1 := ⟨RX6, TX6, 9, rfl, by decide, inW_X6, jW_t 36 (by decide +kernel) rfl⟩
theorem fl_X5_85 : j_fl vwCl RX5 85 6 7 := ⟨RX6, TX6, 9, rfl, by decide, inW_X6, jW_t 66 (by decide +kernel) rfl⟩
theorem fl_X6_9 : j_fl vwCl RX6 9 6 3 := ⟨RX6, TX6, 9, rfl, by decide, inW_X6, jW_t 47 (by decide +kernel) rfl⟩
theorem fl_X6_15 : j_fl vwCl RX6 15 6 4 := ⟨RX6, TX6, 9, rfl, by decide, inW_X6, jW_t 49 (by decide +kernel) rfl⟩
theorem fl_X6_18 : j_fl vwCl RX6 18 6 5 := ⟨RX6, TX6, 9, rfl, by decide, inW_X6, jW_t 54 (by decide +kernel) rfl⟩
theorem fl_X6_21 : j_fl vwCl RX6 21 6 6 := ⟨RX6, TX6, 9, rfl, by decide, inW_X6, jW_t 59 (by decide +kernel) rfl⟩
theorem fl_X6_24 : j_fl vwCl RX6 24 6 7 := ⟨RX6, TX6, 9, rfl, by decide, inW_X6, jW_t 64 (by decide +kernel) rfl⟩
theorem fl_X6_27 : j_fl vwCl RX6 27 6 8 := ⟨RX6, TX6, 9, rfl, by decide, inW_X6, jW_t 70 (by decide +kernel) rfl⟩
theorem fl_X6_33 : j_fl vwCl RX6 33 6 0 := ⟨RX6, TX6, 9, rfl, by decide, inW_X6, jW_t 31 (by decide +kernel) rfl⟩
theorem fl_X6_37 : j_fl vwCl RX6 37 6 1 := ⟨RX6, TX6, 9, rfl, by decide, inW_X6, jW_t 35 (by decide +kernel) rfl⟩
theorem fl_X6_40 : j_fl vwCl RX6 40 6 2 := ⟨RX6, TX6, 9, rfl, by decide, inW_X6, jW_t 41 (by decide +kernel) rfl⟩
theorem fl_X7_9 : j_fl vwCl RX7 9 7 0 := ⟨RX7, TX7, 12, rfl, by decide, inW_X7, jW_t 268 (by decide +kernel) rfl⟩
theorem fl_X7_16 : j_fl vwCl RX7 16 7 1 := ⟨RX7, TX7, 12, rfl, by decide, inW_X7, jW_t 269 (by decide +kernel) rfl⟩
theorem fl_X7_25 : j_fl vwCl RX7 25 7 2 := ⟨RX7, TX7, 12, rfl, by decide, inW_X7, jW_t 270 (by decide +kernel) rfl⟩
theorem fl_X7_34 : j_fl vwCl RX7 34 7 3 := ⟨RX7, TX7, 12, rfl, by decide, inW_X7, jW_t 271 (by decide +kernel) rfl⟩
theorem fl_X7_41 : j_fl vwCl RX7 41 7 4 := ⟨RX7, TX7, 12, rfl, by decide, inW_X7, jW_t 272 (by decide +kernel) rfl⟩
theorem fl_X7_45 : j_fl vwCl RX7 45 7 5 := ⟨RX7, TX7, 12, rfl, by decide, inW_X7, jW_t 273 (by decide +kernel) rfl⟩
theorem fl_X7_48 : j_fl vwCl RX7 48 7 6 := ⟨RX7, TX7, 12, rfl, by decide, inW_X7, jW_t 274 (by decide +kernel) rfl⟩
theorem fl_X7_55 : j_fl vwCl RX7 55 7 7 := ⟨RX7, TX7, 12, rfl, by decide, inW_X7, jW_t 275 (by decide +kernel) rfl⟩
theorem fl_X7_62 : j_fl vwCl RX7 62 7 8 := ⟨RX7, TX7, 12, rfl, by decide, inW_X7, jW_t 276 (by decide +kernel) rfl⟩
theorem fl_X7_69 : j_fl vwCl RX7 69 7 9 := ⟨RX7, TX7, 12, rfl, by decide, inW_X7, jW_t 277 (by decide +kernel) rfl⟩
theorem fl_X7_73 : j_fl vwCl RX7 73 7 10 := ⟨RX7, TX7, 12, rfl, by decide, inW_X7, jW_t 278 (by decide +kernel) rfl⟩
theorem fl_X7_77 : j_fl vwCl RX7 77 7 11 := ⟨RX7, TX7, 12, rfl, by decide, inW_X7, jW_t 279 (by decide +kernel) rfl⟩
theorem fl_X7_88 : j_fl vwCl RX7 88 4 0 := ⟨RX4, TX4, 7, rfl, by decide, inW_X4, jW_t 103 (by decide +kernel) rfl⟩
theorem fl_X7_101 : j_fl vwCl RX7 101 2 2 := ⟨RX2, TX2, 6, rfl, by decide, inW_X2, jW_t 135 (by decide +kernel) rfl⟩
theorem fl_X7_110 : j_fl vwCl RX7 110 6 4 := ⟨RX6, TX6, 9, rfl, by decide, inW_X6, jW_t 52 (by decide +kernel) rfl⟩
theorem fl_X7_113 : j_fl vwCl RX7 113 6 5 := ⟨RX6, TX6, 9, rfl, by decide, inW_X6, jW_t 57 (by decide +kernel) rfl⟩
theorem fl_X7_116 : j_fl vwCl RX7 116 6 6 := ⟨RX6, TX6, 9, rfl, by decide, inW_X6, jW_t 62 (by decide +kernel) rfl⟩
theorem fl_X7_119 : j_fl vwCl RX7 119 6 7 := ⟨RX6, TX6, 9, rfl, by decide, inW_X6, jW_t 67 (by decide +kernel) rfl⟩
theorem fl_X7_122 : j_fl vwCl RX7 122 6 8 := ⟨RX6, TX6, 9, rfl, by decide, inW_X6, jW_t 72 (by decide +kernel) rfl⟩
theorem fl_X7_125 : j_fl vwCl RX7 125 2 3 := ⟨RX2, TX2, 6, rfl, by decide, inW_X2, jW_t 138 (by decide +kernel) rfl⟩
theorem fl_X7_128 : j_fl vwCl RX7 128 2 4 := ⟨RX2, TX2, 6, rfl, by decide, inW_X2, jW_t 141 (by decide +kernel) rfl⟩
theorem fl_X7_131 : j_fl vwCl RX7 131 2 5 := ⟨RX2, TX2, 6, rfl, by decide, inW_X2, jW_t 143 (by decide +kernel) rfl⟩
theorem fl_X7_134 : j_fl vwCl RX7 134 2 1 := ⟨RX2, TX2, 6, rfl, by decide, inW_X2, jW_t 133 (by decide +kernel) rfl⟩
theorem fl_X7_147 : j_fl vwCl RX7 147 3 2 := ⟨RX3, TX3, 3, rfl, by decide, inW_X3, jW_t 166 (by decide +kernel) rfl⟩
theorem fl_X7_150 : j_fl vwCl RX7 150 6 1 := ⟨RX6, TX6, 9, rfl, by decide, inW_X6, jW_t 38 (by decide +kernel) rfl⟩
theorem fl_X7_190 : j_fl vwCl RX7 190 0 1 := ⟨RX0, TX0, 5, rfl, by decide, inW_X0, jW_t 184 (by decide +kernel) rfl⟩
theorem fl_X7_196 : j_fl vwCl RX7 196 0 3 := ⟨RX0, TX0, 5, rfl, by decide, inW_X0, jW_t 187 (by decide +kernel) rfl⟩
theorem fl_X7_199 : j_fl vwCl RX7 199 0 4 := ⟨RX0, TX0, 5, rfl, by decide, inW_X0, jW_t 189 (by decide +kernel) rfl⟩
theorem fl_X7_206 : j_fl vwCl RX7 206 5 4 := ⟨RX5, TX5, 8, rfl, by decide, inW_X5, jW_t 215 (by decide +kernel) rfl⟩
theorem fl_X7_209 : j_fl vwCl RX7 209 5 3 := ⟨RX5, TX5, 8, rfl, by decide, inW_X5, jW_t 213 (by decide +kernel) rfl⟩
theorem fl_X7_212 : j_fl vwCl RX7 212 5 2 := ⟨RX5, TX5, 8, rfl, by decide, inW_X5, jW_t 211 (by decide +kernel) rfl⟩
theorem fl_X7_227 : j_fl vwCl RX7 227 1 3 := ⟨RX1, TX1, 4, rfl, by decide, inW_X1, jW_t 247 (by decide +kernel) rfl⟩
theorem fl_X7_228 : j_fl vwCl RX7 228 1 2 := ⟨RX1, TX1, 4, rfl, by decide, inW_X1, jW_t 245 (by decide +kernel) rfl⟩
theorem fl_X7_285 : j_fl vwCl RX7 285 6 0 := ⟨RX6, TX6, 9, rfl, by decide, inW_X6, jW_t 34 (by decide +kernel) rfl⟩
theorem fl_X7_288 : j_fl vwCl RX7 288 6 2 := ⟨RX6, TX6, 9, rfl, by decide, inW_X6, jW_t 46 (by decide +kernel) rfl⟩
theorem fl_X8_7 : j_fl vwCl RX8 7 8 1 := ⟨RX8, TX8, 29, rfl, by decide, inW_X8, jW_t 731 (by decide +kernel) rfl⟩
theorem fl_X8_13 : j_fl vwCl RX8 13 8 10 := ⟨RX8, TX8, 29, rfl, by decide, inW_X8, jW_t 740 (by decide +kernel) rfl⟩
theorem fl_X8_16 : j_fl vwCl RX8 16 8 12 := ⟨RX8, TX8, 29, rfl, by decide, inW_X8, jW_t 742 (by decide +kernel) rfl⟩
theorem fl_X8_19 : j_fl vwCl RX8 19 8 13 := ⟨RX8, TX8, 29, rfl, by decide, inW_X8, jW_t 743 (by decide +kernel) rfl⟩
theorem fl_X8_23 : j_fl vwCl RX8 23 8 14 := ⟨RX8, TX8, 29, rfl, by decide, inW_X8, jW_t 744 (by decide +kernel) rfl⟩
theorem fl_X8_26 : j_fl vwCl RX8 26 8 16 := ⟨RX8, TX8, 29, rfl, by decide, inW_X8, jW_t 746 (by decide +kernel) rfl⟩
theorem fl_X8_29 : j_fl vwCl RX8 29 8 17 := ⟨RX8, TX8, 29, rfl, by decide, inW_X8, jW_t 747 (by decide +kernel) rfl⟩
theorem fl_X8_32 : j_fl vwCl RX8 32 8 18 := ⟨RX8, TX8, 29, rfl, by decide, inW_X8, jW_t 748 (by decide +kernel) rfl⟩
theorem fl_X8_35 : j_fl vwCl RX8 35 8 19 := ⟨RX8, TX8, 29, rfl, by decide, inW_X8, jW_t 749 (by decide +kernel) rfl⟩
theorem fl_X8_38 : j_fl vwCl RX8 38 8 20 := ⟨RX8, TX8, 29, rfl, by decide, inW_X8, jW_t 750 (by decide +kernel) rfl⟩
theorem fl_X8_42 : j_fl vwCl RX8 42 8 21 := ⟨RX8, TX8, 29, rfl, by decide, inW_X8, jW_t 751 (by decide +kernel) rfl⟩
theorem fl_X8_45 : j_fl vwCl RX8 45 8 23 := ⟨RX8, TX8, 29, rfl, by decide, inW_X8, jW_t 753 (by decide +kernel) rfl⟩
theorem fl_X8_48 : j_fl vwCl RX8 48 8 24 := ⟨RX8, TX8, 29, rfl, by decide, inW_X8, jW_t 754 (by decide +kernel) rfl⟩
theorem fl_X8_51 : j_fl vwCl RX8 51 8 25 := ⟨RX8, TX8, 29, rfl, by decide, inW_X8, jW_t 755 (by decide +kernel) rfl⟩
theorem fl_X8_57 : j_fl vwCl RX8 57 8 15 := ⟨RX8, TX8, 29, rfl, by decide, inW_X8, jW_t 745 (by decide +kernel) rfl⟩
theorem fl_X8_60 : j_fl vwCl RX8 60 8 22 := ⟨RX8, TX8, 29, rfl, by decide, inW_X8, jW_t 752 (by decide +kernel) rfl⟩
theorem fl_X8_67 : j_fl vwCl RX8 67 8 0 := ⟨RX8, TX8, 29, rfl, by decide, inW_X8, jW_t 730 (by decide +kernel) rfl⟩
theorem fl_X8_70 : j_fl vwCl RX8 70 8 2 := ⟨RX8, TX8, 29, rfl, by decide, inW_X8, jW_t 732 (by decide +kernel) rfl⟩
theorem fl_X8_73 : j_fl vwCl RX8 73 8 3 := ⟨RX8, TX8, 29, rfl, by decide, inW_X8, jW_t 733 (by decide +kernel) rfl⟩
theorem fl_X8_76 : j_fl vwCl RX8 76 8 5 := ⟨RX8, TX8, 29, rfl, by decide, inW_X8, jW_t 735 (by decide +kernel) rfl⟩
theorem fl_X8_79 : j_fl vwCl RX8 79 8 4 := ⟨RX8, TX8, 29, rfl, by decide, inW_X8, jW_t 734 (by decide +kernel) rfl⟩
theorem fl_X8_85 : j_fl vwCl RX8 85 8 7 := ⟨RX8, TX8, 29, rfl, by decide, inW_X8, jW_t 737 (by decide +kernel) rfl⟩
theorem fl_X8_96 : j_fl vwCl RX8 96 8 11 := ⟨RX8, TX8, 29, rfl, by decide, inW_X8, jW_t 741 (by decide +kernel) rfl⟩
theorem fl_X8_99 : j_fl vwCl RX8 99 8 6 := ⟨RX8, TX8, 29, rfl, by decide, inW_X8, jW_t 736 (by decide +kernel) rfl⟩
theorem fl_X8_102 : j_fl vwCl RX8 102 8 9 := ⟨RX8, TX8, 29, rfl, by decide, inW_X8, jW_t 739 (by decide +kernel) rfl⟩
theorem fl_X8_106 : j_fl vwCl RX8 106 8 8 := ⟨RX8, TX8, 29, rfl, by decide, inW_X8, jW_t 738 (by decide +kernel) rfl⟩
theorem fl_X8_194 : j_fl vwCl RX8 194 8 27 := ⟨RX8, TX8, 29, rfl, by decide, inW_X8, jW_t 756 (by decide +kernel) rfl⟩
theorem fl_X8_223 : j_fl vwCl RX8 223 8 28 := ⟨RX8, TX8, 29, rfl, by decide, inW_X8, jW_t 757 (by decide +kernel) rfl⟩
theorem fp_X0_15 : j_fp vwCl RX0 15 0 3 .int := ⟨RX0, TX0, 5, tyX0, rfl, by decide, inW_X0, jW_t 186 (by decide +kernel) rfl, tyX0_ok, nmX0, rfl, tyX0_ok 3 (by decide)⟩
theorem fp_X0_40 : j_fp vwCl RX0 40 0 4 .boolean := ⟨RX0, TX0, 5, tyX0, rfl, by decide, inW_X0, jW_t 188 (by decide +kernel) rfl, tyX0_ok, nmX0, rfl, tyX0_ok 4 (by decide)⟩
theorem fp_X1_50 : j_fp vwCl RX1 50 1 3 .int := ⟨RX1, TX1, 4, tyX1, rfl, by decide, inW_X1, jW_t 246 (by decide +kernel) rfl, tyX1_ok, nmX1, rfl, tyX1_ok 3 (by decide)⟩
theorem fp_X2_28 : j_fp vwCl RX2 28 2 1 .int := ⟨RX2, TX2, 6, tyX2, rfl, by decide, inW_X2, jW_t 132 (by decide +kernel) rfl, tyX2_ok, nmX2, rfl, tyX2_ok 1 (by decide)⟩
theorem fp_X3_15 : j_fp vwCl RX3 15 3 1 .int := ⟨RX3, TX3, 3, tyX3, rfl, by decide, inW_X3, jW_t 164 (by decide +kernel) rfl, tyX3_ok, nmX3, rfl, tyX3_ok 1 (by decide)⟩
theorem fp_X3_19 : j_fp vwCl RX3 19 3 2 .int := ⟨RX3, TX3, 3, tyX3, rfl, by decide, inW_X3, jW_t 165 (by decide +kernel) rfl, tyX3_ok, nmX3, rfl, tyX3_ok 2 (by decide)⟩
theorem fp_X4_28 : j_fp vwCl RX4 28 4 2 .int := ⟨RX4, TX4, 7, tyX4, rfl, by decide, inW_X4, jW_t 105 (by decide +kernel) rfl, tyX4_ok, nmX4, rfl, tyX4_ok 2 (by decide)⟩
theorem fp_X4_32 : j_fp vwCl RX4 32 4 3 .int := ⟨RX4, TX4, 7, tyX4, rfl, by decide, inW_X4, jW_t 106 (by decide +kernel) rfl, tyX4_ok, nmX4, rfl, tyX4_ok 3 (by decide)⟩
theorem fp_X4_35 : j_fp vwCl RX4 35 4 4 .int := ⟨RX4, TX4, 7, tyX4, rfl, by decide, inW_X4, jW_t 107 (by decide +kernel) rfl, tyX4_ok, nmX4, rfl, tyX4_ok 4 (by decide)⟩
theorem fp_X4_38 : j_fp vwCl RX4 38 4 5 .int := ⟨RX4, TX4, 7, tyX4, rfl, by decide, inW_X4, jW_t 108 (by decide +kernel) rfl, tyX4_ok, nmX4, rfl, tyX4_ok 5 (by decide)⟩
theorem fp_X4_41 : j_fp vwCl RX4 41 4 6 .boolean := ⟨RX4, TX4, 7, tyX4, rfl, by decide, inW_X4, jW_t 109 (by decide +kernel) rfl, tyX4_ok, nmX4, rfl, tyX4_ok 6 (by decide)⟩
theorem fp_X4_67 : j_fp vwCl RX4 67 6 2 .int := ⟨RX6, TX6, 9, tyX6, rfl, by decide, inW_X6, jW_t 45 (by decide +kernel) rfl, tyX6_ok, nmX6, rfl, tyX6_ok 2 (by decide)⟩
theorem fp_X4_84 : j_fp vwCl RX4 84 6 0 .int := ⟨RX6, TX6, 9, tyX6, rfl, by decide, inW_X6, jW_t 33 (by decide +kernel) rfl, tyX6_ok, nmX6, rfl, tyX6_ok 0 (by decide)⟩
theorem fp_X4_87 : j_fp vwCl RX4 87 6 1 .int := ⟨RX6, TX6, 9, tyX6, rfl, by decide, inW_X6, jW_t 37 (by decide +kernel) rfl, tyX6_ok, nmX6, rfl, tyX6_ok 1 (by decide)⟩
theorem fp_X5_36 : j_fp vwCl RX5 36 5 4 .int := ⟨RX5, TX5, 8, tyX5, rfl, by decide, inW_X5, jW_t 214 (by decide +kernel) rfl, tyX5_ok, nmX5, rfl, tyX5_ok 4 (by decide)⟩
theorem fp_X5_44 : j_fp vwCl RX5 44 5 3 .int := ⟨RX5, TX5, 8, tyX5, rfl, by decide, inW_X5, jW_t 212 (by decide +kernel) rfl, tyX5_ok, nmX5, rfl, tyX5_ok 3 (by decide)⟩
theorem fp_X6_33 : j_fp vwCl RX6 33 6 0 .int := ⟨RX6, TX6, 9, tyX6, rfl, by decide, inW_X6, jW_t 31 (by decide +kernel) rfl, tyX6_ok, nmX6, rfl, tyX6_ok 0 (by decide)⟩
theorem fp_X6_37 : j_fp vwCl RX6 37 6 1 .int := ⟨RX6, TX6, 9, tyX6, rfl, by decide, inW_X6, jW_t 35 (by decide +kernel) rfl, tyX6_ok, nmX6, rfl, tyX6_ok 1 (by decide)⟩
theorem fp_X6_40 : j_fp vwCl RX6 40 6 2 .int := ⟨RX6, TX6, 9, tyX6, rfl, by decide, inW_X6, jW_t 41 (by decide +kernel) rfl, tyX6_ok, nmX6, rfl, tyX6_ok 2 (by decide)⟩
theorem fp_X7_73 : j_fp vwCl RX7 73 7 10 .int := ⟨RX7, TX7, 12, tyX7, rfl, by decide, inW_X7, jW_t 278 (by decide +kernel) rfl, tyX7_ok, nmX7, rfl, tyX7_ok 10 (by decide)⟩
theorem fp_X7_77 : j_fp vwCl RX7 77 7 11 .long := ⟨RX7, TX7, 12, tyX7, rfl, by decide, inW_X7, jW_t 279 (by decide +kernel) rfl, tyX7_ok, nmX7, rfl, tyX7_ok 11 (by decide)⟩
theorem fp_X8_19 : j_fp vwCl RX8 19 8 13 .int := ⟨RX8, TX8, 29, tyX8, rfl, by decide, inW_X8, jW_t 743 (by decide +kernel) rfl, tyX8_ok, nmX8, rfl, tyX8_ok 13 (by decide)⟩
theorem fp_X8_23 : j_fp vwCl RX8 23 8 14 .int := ⟨RX8, TX8, 29, tyX8, rfl, by decide, inW_X8, jW_t 744 (by decide +kernel) rfl, tyX8_ok, nmX8, rfl, tyX8_ok 14 (by decide)⟩
theorem fp_X8_57 : j_fp vwCl RX8 57 8 15 .int := ⟨RX8, TX8, 29, tyX8, rfl, by decide, inW_X8, jW_t 745 (by decide +kernel) rfl, tyX8_ok, nmX8, rfl, tyX8_ok 15 (by decide)⟩
theorem fp_X8_60 : j_fp vwCl RX8 60 8 22 .int := ⟨RX8, TX8, 29, tyX8, rfl, by decide, inW_X8, jW_t 752 (by decide +kernel) rfl, tyX8_ok, nmX8, rfl, tyX8_ok 22 (by decide)⟩
theorem fp_X8_67 : j_fp vwCl RX8 67 8 0 .int := ⟨RX8, TX8, 29, tyX8, rfl, by decide, inW_X8, jW_t 730 (by decide +kernel) rfl, tyX8_ok, nmX8, rfl, tyX8_ok 0 (by decide)⟩
theorem fp_X8_70 : j_fp vwCl RX8 70 8 2 .int := ⟨RX8, TX8, 29, tyX8, rfl, by decide, inW_X8, jW_t 732 (by decide +kernel) rfl, tyX8_ok, nmX8, rfl, tyX8_ok 2 (by decide)⟩
theorem fp_X8_73 : j_fp vwCl RX8 73 8 3 .int := ⟨RX8, TX8, 29, tyX8, rfl, by decide, inW_X8, jW_t 733 (by decide +kernel) rfl, tyX8_ok, nmX8, rfl, tyX8_ok 3 (by decide)⟩
theorem fp_X8_76 : j_fp vwCl RX8 76 8 5 .int := ⟨RX8, TX8, 29, tyX8, rfl, by decide, inW_X8, jW_t 735 (by decide +kernel) rfl, tyX8_ok, nmX8, rfl, tyX8_ok 5 (by decide)⟩
theorem fp_X8_79 : j_fp vwCl RX8 79 8 4 .int := ⟨RX8, TX8, 29, tyX8, rfl, by decide, inW_X8, jW_t 734 (by decide +kernel) rfl, tyX8_ok, nmX8, rfl, tyX8_ok 4 (by decide)⟩
theorem fp_X8_85 : j_fp vwCl RX8 85 8 7 .int := ⟨RX8, TX8, 29, tyX8, rfl, by decide, inW_X8, jW_t 737 (by decide +kernel) rfl, tyX8_ok, nmX8, rfl, tyX8_ok 7 (by decide)⟩
theorem fp_X8_96 : j_fp vwCl RX8 96 8 11 .int := ⟨RX8, TX8, 29, tyX8, rfl, by decide, inW_X8, jW_t 741 (by decide +kernel) rfl, tyX8_ok, nmX8, rfl, tyX8_ok 11 (by decide)⟩
theorem fp_X8_99 : j_fp vwCl RX8 99 8 6 .int := ⟨RX8, TX8, 29, tyX8, rfl, by decide, inW_X8, jW_t 736 (by decide +kernel) rfl, tyX8_ok, nmX8, rfl, tyX8_ok 6 (by decide)⟩
theorem fp_X8_102 : j_fp vwCl RX8 102 8 9 .boolean := ⟨RX8, TX8, 29, tyX8, rfl, by decide, inW_X8, jW_t 739 (by decide +kernel) rfl, tyX8_ok, nmX8, rfl, tyX8_ok 9 (by decide)⟩
theorem fp_X8_106 : j_fp vwCl RX8 106 8 8 .int := ⟨RX8, TX8, 29, tyX8, rfl, by decide, inW_X8, jW_t 738 (by decide +kernel) rfl, tyX8_ok, nmX8, rfl, tyX8_ok 8 (by decide)⟩
theorem fp_X8_194 : j_fp vwCl RX8 194 8 27 .int := ⟨RX8, TX8, 29, tyX8, rfl, by decide, inW_X8, jW_t 756 (by decide +kernel) rfl, tyX8_ok, nmX8, rfl, tyX8_ok 27 (by decide)⟩
theorem fp_X8_223 : j_fp vwCl RX8 223 8 28 .long := ⟨RX8, TX8, 29, tyX8, rfl, by decide, inW_X8, jW_t 757 (by decide +kernel) rfl, tyX8_ok, nmX8, rfl, tyX8_ok 28 (by decide)⟩
abbrev M_X0_init : jM := (yX0_init, cX0_init, 2, none, { frames := 2, cells := 0, slots := 0, locals := 41 })
abbrev M_X0_go : jM := (yX0_go, cX0_go, 7, none, { frames := 5, cells := 0, slots := 0, locals := 112 })
abbrev M_X0_sort : jM := (yX0_sort, cX0_sort, 4, none, { frames := 1, cells := 0, slots := 0, locals := 22 })
abbrev M_X0_key : jM := (yX0_key, cX0_key, 3, (some .int), { frames := 0, cells := 0, slots := 0, locals := 0 })
abbrev M_X0_plugAll : jM := (yX0_plugAll, cX0_plugAll, 3, none, { frames := 4, cells := 0, slots := 0, locals := 90 })
abbrev M_X0_lowest : jM := (yX0_lowest, cX0_lowest, 2, (some .int), { frames := 0, cells := 0, slots := 0, locals := 0 })
abbrev M_X1_init : jM := (yX1_init, cX1_init, 2, none, { frames := 1, cells := 0, slots := 0, locals := 20 })
abbrev M_X1_inAll : jM := (yX1_inAll, cX1_inAll, 4, (some .int), { frames := 2, cells := 0, slots := 0, locals := 46 })
abbrev M_X1_bestExchange : jM := (yX1_bestExchange, cX1_bestExchange, 7, (some .int), { frames := 3, cells := 0, slots := 0, locals := 69 })
abbrev M_X1_find : jM := (yX1_find, cX1_find, 3, none, { frames := 3, cells := 0, slots := 0, locals := 69 })
abbrev M_X2_init : jM := (yX2_init, cX2_init, 2, none, { frames := 1, cells := 0, slots := 0, locals := 20 })
abbrev M_X2_begin : jM := (yX2_begin, cX2_begin, 2, none, { frames := 1, cells := 0, slots := 0, locals := 40 })
abbrev M_X2_letFall : jM := (yX2_letFall, cX2_letFall, 2, none, { frames := 0, cells := 0, slots := 0, locals := 0 })
abbrev M_X2_those : jM := (yX2_those, cX2_those, 4, (some .int), { frames := 0, cells := 0, slots := 0, locals := 0 })
abbrev M_X2_engagedBy : jM := (yX2_engagedBy, cX2_engagedBy, 3, (some .int), { frames := 0, cells := 0, slots := 0, locals := 0 })
abbrev M_X2_linesFree : jM := (yX2_linesFree, cX2_linesFree, 4, (some .boolean), { frames := 1, cells := 0, slots := 0, locals := 22 })
abbrev M_X2_hasRoom : jM := (yX2_hasRoom, cX2_hasRoom, 4, (some .boolean), { frames := 2, cells := 0, slots := 0, locals := 45 })
abbrev M_X2_canBePlugged : jM := (yX2_canBePlugged, cX2_canBePlugged, 3, (some .boolean), { frames := 3, cells := 0, slots := 0, locals := 68 })
abbrev M_X2_lacksCord : jM := (yX2_lacksCord, cX2_lacksCord, 4, (some .boolean), { frames := 2, cells := 0, slots := 0, locals := 45 })
abbrev M_X2_plug : jM := (yX2_plug, cX2_plug, 2, none, { frames := 0, cells := 0, slots := 0, locals := 0 })
abbrev M_X2_pull : jM := (yX2_pull, cX2_pull, 2, none, { frames := 0, cells := 0, slots := 0, locals := 0 })
abbrev M_X2_passMinute : jM := (yX2_passMinute, cX2_passMinute, 2, none, { frames := 1, cells := 0, slots := 0, locals := 21 })
abbrev M_X2_waitedOf : jM := (yX2_waitedOf, cX2_waitedOf, 2, (some .int), { frames := 1, cells := 0, slots := 0, locals := 24 })
abbrev M_X2_leftOf : jM := (yX2_leftOf, cX2_leftOf, 2, (some .int), { frames := 1, cells := 0, slots := 0, locals := 24 })
abbrev M_X2_sumOf : jM := (yX2_sumOf, cX2_sumOf, 5, (some .int), { frames := 0, cells := 0, slots := 0, locals := 0 })
abbrev M_X2_leastCut : jM := (yX2_leastCut, cX2_leastCut, 6, (some .int), { frames := 3, cells := 0, slots := 0, locals := 68 })
abbrev M_X2_cutsLess : jM := (yX2_cutsLess, cX2_cutsLess, 4, (some .boolean), { frames := 2, cells := 0, slots := 0, locals := 45 })
abbrev M_X2_cross : jM := (yX2_cross, cX2_cross, 3, (some .boolean), { frames := 2, cells := 0, slots := 0, locals := 48 })
abbrev M_X2_isBetween : jM := (yX2_isBetween, cX2_isBetween, 5, (some .boolean), { frames := 1, cells := 0, slots := 0, locals := 24 })
abbrev M_X2_crossedBy : jM := (yX2_crossedBy, cX2_crossedBy, 4, (some .int), { frames := 3, cells := 0, slots := 0, locals := 70 })
abbrev M_X2_crossings : jM := (yX2_crossings, cX2_crossings, 3, (some .int), { frames := 4, cells := 0, slots := 0, locals := 93 })
abbrev M_X2_save : jM := (yX2_save, cX2_save, 4, none, { frames := 1, cells := 0, slots := 0, locals := 40 })
abbrev M_X2_load : jM := (yX2_load, cX2_load, 4, none, { frames := 1, cells := 0, slots := 0, locals := 40 })
abbrev M_X2_become : jM := (yX2_become, cX2_become, 2, none, { frames := 1, cells := 0, slots := 0, locals := 40 })
abbrev M_X3_init : jM := (yX3_init, cX3_init, 1, none, { frames := 1, cells := 0, slots := 0, locals := 20 })
abbrev M_X3_add : jM := (yX3_add, cX3_add, 2, none, { frames := 2, cells := 0, slots := 0, locals := 63 })
abbrev M_X3_takeBack : jM := (yX3_takeBack, cX3_takeBack, 2, none, { frames := 2, cells := 0, slots := 0, locals := 63 })
abbrev M_X3_forget : jM := (yX3_forget, cX3_forget, 1, none, { frames := 0, cells := 0, slots := 0, locals := 0 })
abbrev M_X4_init : jM := (yX4_init, cX4_init, 2, none, { frames := 2, cells := 0, slots := 0, locals := 41 })
abbrev M_X4_read : jM := (yX4_read, cX4_read, 3, (some .int), { frames := 4, cells := 0, slots := 0, locals := 95 })
abbrev M_X4_readItem : jM := (yX4_readItem, cX4_readItem, 3, none, { frames := 3, cells := 0, slots := 0, locals := 73 })
abbrev M_X4_readLines : jM := (yX4_readLines, cX4_readLines, 1, none, { frames := 2, cells := 0, slots := 0, locals := 51 })
abbrev M_X4_readCords : jM := (yX4_readCords, cX4_readCords, 1, none, { frames := 2, cells := 0, slots := 0, locals := 51 })
abbrev M_X4_readHole : jM := (yX4_readHole, cX4_readHole, 3, none, { frames := 2, cells := 0, slots := 0, locals := 51 })
abbrev M_X4_readCall : jM := (yX4_readCall, cX4_readCall, 2, none, { frames := 2, cells := 0, slots := 0, locals := 51 })
abbrev M_X4_readNumber : jM := (yX4_readNumber, cX4_readNumber, 8, (some .int), { frames := 1, cells := 0, slots := 0, locals := 24 })
abbrev M_X4_readEnd : jM := (yX4_readEnd, cX4_readEnd, 1, none, { frames := 1, cells := 0, slots := 0, locals := 21 })
abbrev M_X4_skipBlanks : jM := (yX4_skipBlanks, cX4_skipBlanks, 1, none, { frames := 0, cells := 0, slots := 0, locals := 0 })
abbrev M_X4_letterHere : jM := (yX4_letterHere, cX4_letterHere, 1, (some .int), { frames := 0, cells := 0, slots := 0, locals := 0 })
abbrev M_X4_isDigit : jM := (yX4_isDigit, cX4_isDigit, 1, (some .boolean), { frames := 0, cells := 0, slots := 0, locals := 0 })
abbrev M_X4_failAt : jM := (yX4_failAt, cX4_failAt, 2, none, { frames := 0, cells := 0, slots := 0, locals := 0 })
abbrev M_X5_init : jM := (yX5_init, cX5_init, 2, none, { frames := 1, cells := 0, slots := 0, locals := 20 })
abbrev M_X5_find : jM := (yX5_find, cX5_find, 4, none, { frames := 2, cells := 0, slots := 0, locals := 66 })
abbrev M_X5_prepare : jM := (yX5_prepare, cX5_prepare, 3, none, { frames := 0, cells := 0, slots := 0, locals := 0 })
abbrev M_X5_waitsFor : jM := (yX5_waitsFor, cX5_waitsFor, 7, (some .int), { frames := 1, cells := 0, slots := 0, locals := 40 })
abbrev M_X5_plugAlong : jM := (yX5_plugAlong, cX5_plugAlong, 7, (some .int), { frames := 0, cells := 0, slots := 0, locals := 0 })
abbrev M_X5_nextEnd : jM := (yX5_nextEnd, cX5_nextEnd, 4, (some .int), { frames := 0, cells := 0, slots := 0, locals := 0 })
abbrev M_X6_init : jM := (yX6_init, cX6_init, 1, none, { frames := 1, cells := 0, slots := 0, locals := 21 })
abbrev M_X6_asAtFirst : jM := (yX6_asAtFirst, cX6_asAtFirst, 2, none, { frames := 0, cells := 0, slots := 0, locals := 0 })
abbrev M_X6_hasLine : jM := (yX6_hasLine, cX6_hasLine, 2, (some .boolean), { frames := 0, cells := 0, slots := 0, locals := 0 })
abbrev M_X6_hasCall : jM := (yX6_hasCall, cX6_hasCall, 2, (some .boolean), { frames := 0, cells := 0, slots := 0, locals := 0 })
abbrev M_X6_giveHole : jM := (yX6_giveHole, cX6_giveHole, 4, none, { frames := 0, cells := 0, slots := 0, locals := 0 })
abbrev M_X6_shareLine : jM := (yX6_shareLine, cX6_shareLine, 3, (some .boolean), { frames := 0, cells := 0, slots := 0, locals := 0 })
abbrev M_X6_fallingAt : jM := (yX6_fallingAt, cX6_fallingAt, 4, (some .int), { frames := 0, cells := 0, slots := 0, locals := 0 })
abbrev M_X6_apart : jM := (yX6_apart, cX6_apart, 3, (some .int), { frames := 1, cells := 0, slots := 0, locals := 24 })
abbrev M_X6_become : jM := (yX6_become, cX6_become, 2, none, { frames := 1, cells := 0, slots := 0, locals := 40 })
abbrev M_X7_init : jM := (yX7_init, cX7_init, 1, none, { frames := 3, cells := 0, slots := 0, locals := 62 })
abbrev M_X7_type : jM := (yX7_type, cX7_type, 2, (some .int), { frames := 0, cells := 0, slots := 0, locals := 0 })
abbrev M_X7_clear : jM := (yX7_clear, cX7_clear, 2, (some .int), { frames := 0, cells := 0, slots := 0, locals := 0 })
abbrev M_X7_board : jM := (yX7_board, cX7_board, 3, (some .int), { frames := 5, cells := 0, slots := 0, locals := 117 })
abbrev M_X7_line : jM := (yX7_line, cX7_line, 3, (some .int), { frames := 1, cells := 0, slots := 0, locals := 22 })
abbrev M_X7_call : jM := (yX7_call, cX7_call, 3, (some .int), { frames := 1, cells := 0, slots := 0, locals := 21 })
abbrev M_X7_now : jM := (yX7_now, cX7_now, 2, (some .int), { frames := 5, cells := 0, slots := 0, locals := 115 })
abbrev M_X7_freeCords : jM := (yX7_freeCords, cX7_freeCords, 1, (some .int), { frames := 1, cells := 0, slots := 0, locals := 23 })
abbrev M_X7_minute : jM := (yX7_minute, cX7_minute, 1, (some .int), { frames := 3, cells := 0, slots := 0, locals := 84 })
abbrev M_X7_plugs : jM := (yX7_plugs, cX7_plugs, 2, (some .int), { frames := 4, cells := 0, slots := 0, locals := 90 })
abbrev M_X7_pulls : jM := (yX7_pulls, cX7_pulls, 3, (some .int), { frames := 3, cells := 0, slots := 0, locals := 84 })
abbrev M_X7_swaps : jM := (yX7_swaps, cX7_swaps, 3, (some .int), { frames := 3, cells := 0, slots := 0, locals := 84 })
abbrev M_X7_undo : jM := (yX7_undo, cX7_undo, 1, (some .int), { frames := 3, cells := 0, slots := 0, locals := 84 })
abbrev M_X7_byRule : jM := (yX7_byRule, cX7_byRule, 4, (some .int), { frames := 6, cells := 0, slots := 0, locals := 138 })
abbrev M_X7_enough : jM := (yX7_enough, cX7_enough, 3, (some .int), { frames := 6, cells := 0, slots := 0, locals := 138 })
abbrev M_X7_isRule : jM := (yX7_isRule, cX7_isRule, 1, (some .boolean), { frames := 0, cells := 0, slots := 0, locals := 0 })
abbrev M_X7_bestRow : jM := (yX7_bestRow, cX7_bestRow, 2, (some .int), { frames := 3, cells := 0, slots := 0, locals := 89 })
abbrev M_X7_cutFor : jM := (yX7_cutFor, cX7_cutFor, 2, (some .int), { frames := 4, cells := 0, slots := 0, locals := 93 })
abbrev M_X7_longCords : jM := (yX7_longCords, cX7_longCords, 1, (some .int), { frames := 3, cells := 0, slots := 0, locals := 69 })
abbrev M_X7_change : jM := (yX7_change, cX7_change, 1, (some .int), { frames := 4, cells := 0, slots := 0, locals := 95 })
abbrev M_X7_bestHoles : jM := (yX7_bestHoles, cX7_bestHoles, 2, (some .int), { frames := 4, cells := 0, slots := 0, locals := 91 })
abbrev M_X7_atOnce : jM := (yX7_atOnce, cX7_atOnce, 6, (some .int), { frames := 1, cells := 0, slots := 0, locals := 23 })
abbrev M_X7_under : jM := (yX7_under, cX7_under, 2, (some .int), { frames := 4, cells := 0, slots := 0, locals := 93 })
abbrev M_X7_odds : jM := (yX7_odds, cX7_odds, 7, (some .int), { frames := 2, cells := 0, slots := 0, locals := 44 })
abbrev M_X7_tenthsFree : jM := (yX7_tenthsFree, cX7_tenthsFree, 4, (some .int), { frames := 1, cells := 0, slots := 0, locals := 21 })
abbrev M_X7_commonDivisor : jM := (yX7_commonDivisor, cX7_commonDivisor, 2, (some .int), { frames := 0, cells := 0, slots := 0, locals := 0 })
abbrev M_X7_rate : jM := (yX7_rate, cX7_rate, 3, (some .int), { frames := 3, cells := 0, slots := 0, locals := 67 })
abbrev M_X7_asCall : jM := (yX7_asCall, cX7_asCall, 2, (some .int), { frames := 0, cells := 0, slots := 0, locals := 0 })
abbrev M_X7_asDoctor : jM := (yX7_asDoctor, cX7_asDoctor, 2, (some .int), { frames := 1, cells := 0, slots := 0, locals := 21 })
abbrev M_X7_asGossip : jM := (yX7_asGossip, cX7_asGossip, 2, (some .int), { frames := 1, cells := 0, slots := 0, locals := 21 })
abbrev M_X7_asFire : jM := (yX7_asFire, cX7_asFire, 2, (some .int), { frames := 2, cells := 0, slots := 0, locals := 42 })
abbrev M_X7_asWife : jM := (yX7_asWife, cX7_asWife, 2, (some .int), { frames := 2, cells := 0, slots := 0, locals := 42 })
abbrev M_X7_asWrong : jM := (yX7_asWrong, cX7_asWrong, 2, (some .int), { frames := 2, cells := 0, slots := 0, locals := 46 })
abbrev M_X7_keep : jM := (yX7_keep, cX7_keep, 2, (some .int), { frames := 2, cells := 0, slots := 0, locals := 63 })
abbrev M_X7_back : jM := (yX7_back, cX7_back, 2, (some .int), { frames := 2, cells := 0, slots := 0, locals := 63 })
abbrev M_X7_isImage : jM := (yX7_isImage, cX7_isImage, 1, (some .boolean), { frames := 0, cells := 0, slots := 0, locals := 0 })
abbrev M_X7_count : jM := (yX7_count, cX7_count, 2, (some .int), { frames := 0, cells := 0, slots := 0, locals := 0 })
abbrev M_X7_trace : jM := (yX7_trace, cX7_trace, 1, (some .long), { frames := 0, cells := 0, slots := 0, locals := 0 })
abbrev M_X7_exchange : jM := (yX7_exchange, cX7_exchange, 4, none, { frames := 0, cells := 0, slots := 0, locals := 0 })
abbrev M_X7_nextRow : jM := (yX7_nextRow, cX7_nextRow, 6, (some .boolean), { frames := 1, cells := 0, slots := 0, locals := 23 })
abbrev M_X8_init : jM := (yX8_init, cX8_init, 2, none, { frames := 1, cells := 0, slots := 0, locals := 21 })
abbrev M_X8_in : jM := (yX8_in, cX8_in, 3, (some .boolean), { frames := 0, cells := 0, slots := 0, locals := 0 })
abbrev M_X8_has : jM := (yX8_has, cX8_has, 2, (some .boolean), { frames := 0, cells := 0, slots := 0, locals := 0 })
abbrev M_X8_begin : jM := (yX8_begin, cX8_begin, 2, none, { frames := 0, cells := 0, slots := 0, locals := 0 })
abbrev M_X8_isLine : jM := (yX8_isLine, cX8_isLine, 2, (some .boolean), { frames := 1, cells := 0, slots := 0, locals := 22 })
abbrev M_X8_isCall : jM := (yX8_isCall, cX8_isCall, 2, (some .boolean), { frames := 1, cells := 0, slots := 0, locals := 22 })
abbrev M_X8_type : jM := (yX8_type, cX8_type, 2, (some .int), { frames := 1, cells := 0, slots := 0, locals := 22 })
abbrev M_X8_clear : jM := (yX8_clear, cX8_clear, 2, (some .int), { frames := 0, cells := 0, slots := 0, locals := 0 })
abbrev M_X8_nextToken : jM := (yX8_nextToken, cX8_nextToken, 1, none, { frames := 1, cells := 0, slots := 0, locals := 22 })
abbrev M_X8_isNumber : jM := (yX8_isNumber, cX8_isNumber, 3, (some .boolean), { frames := 2, cells := 0, slots := 0, locals := 42 })
abbrev M_X8_isEnd : jM := (yX8_isEnd, cX8_isEnd, 1, (some .boolean), { frames := 2, cells := 0, slots := 0, locals := 42 })
abbrev M_X8_isHole : jM := (yX8_isHole, cX8_isHole, 3, (some .boolean), { frames := 3, cells := 0, slots := 0, locals := 64 })
abbrev M_X8_isCallItem : jM := (yX8_isCallItem, cX8_isCallItem, 4, (some .boolean), { frames := 3, cells := 0, slots := 0, locals := 64 })
abbrev M_X8_isItem : jM := (yX8_isItem, cX8_isItem, 1, (some .boolean), { frames := 4, cells := 0, slots := 0, locals := 87 })
abbrev M_X8_isRead : jM := (yX8_isRead, cX8_isRead, 2, (some .boolean), { frames := 5, cells := 0, slots := 0, locals := 107 })
abbrev M_X8_board : jM := (yX8_board, cX8_board, 2, (some .int), { frames := 6, cells := 0, slots := 0, locals := 128 })
abbrev M_X8_fromOf : jM := (yX8_fromOf, cX8_fromOf, 2, (some .int), { frames := 0, cells := 0, slots := 0, locals := 0 })
abbrev M_X8_toOf : jM := (yX8_toOf, cX8_toOf, 2, (some .int), { frames := 0, cells := 0, slots := 0, locals := 0 })
abbrev M_X8_isOn : jM := (yX8_isOn, cX8_isOn, 3, (some .boolean), { frames := 1, cells := 0, slots := 0, locals := 21 })
abbrev M_X8_talkerOn : jM := (yX8_talkerOn, cX8_talkerOn, 5, (some .int), { frames := 2, cells := 0, slots := 0, locals := 43 })
abbrev M_X8_setOf : jM := (yX8_setOf, cX8_setOf, 5, (some .int), { frames := 0, cells := 0, slots := 0, locals := 0 })
abbrev M_X8_bits : jM := (yX8_bits, cX8_bits, 3, (some .int), { frames := 0, cells := 0, slots := 0, locals := 0 })
abbrev M_X8_freeCords : jM := (yX8_freeCords, cX8_freeCords, 3, (some .int), { frames := 1, cells := 0, slots := 0, locals := 24 })
abbrev M_X8_areFree : jM := (yX8_areFree, cX8_areFree, 3, (some .boolean), { frames := 3, cells := 0, slots := 0, locals := 67 })
abbrev M_X8_canPlug : jM := (yX8_canPlug, cX8_canPlug, 4, (some .boolean), { frames := 4, cells := 0, slots := 0, locals := 89 })
abbrev M_X8_plug : jM := (yX8_plug, cX8_plug, 3, none, { frames := 0, cells := 0, slots := 0, locals := 0 })
abbrev M_X8_isBetween : jM := (yX8_isBetween, cX8_isBetween, 3, (some .boolean), { frames := 0, cells := 0, slots := 0, locals := 0 })
abbrev M_X8_holeOf : jM := (yX8_holeOf, cX8_holeOf, 2, (some .int), { frames := 0, cells := 0, slots := 0, locals := 0 })
abbrev M_X8_cross : jM := (yX8_cross, cX8_cross, 5, (some .boolean), { frames := 2, cells := 0, slots := 0, locals := 43 })
abbrev M_X8_crossed : jM := (yX8_crossed, cX8_crossed, 4, (some .int), { frames := 3, cells := 0, slots := 0, locals := 67 })
abbrev M_X8_line : jM := (yX8_line, cX8_line, 3, (some .int), { frames := 3, cells := 0, slots := 0, locals := 67 })
abbrev M_X8_call : jM := (yX8_call, cX8_call, 3, (some .int), { frames := 2, cells := 0, slots := 0, locals := 43 })
abbrev M_X8_now : jM := (yX8_now, cX8_now, 2, (some .int), { frames := 4, cells := 0, slots := 0, locals := 90 })
abbrev M_X8_copy : jM := (yX8_copy, cX8_copy, 5, none, { frames := 0, cells := 0, slots := 0, locals := 0 })
abbrev M_X8_note : jM := (yX8_note, cX8_note, 2, none, { frames := 1, cells := 0, slots := 0, locals := 24 })
abbrev M_X8_pass : jM := (yX8_pass, cX8_pass, 3, none, { frames := 0, cells := 0, slots := 0, locals := 0 })
abbrev M_X8_minute : jM := (yX8_minute, cX8_minute, 1, (some .int), { frames := 2, cells := 0, slots := 0, locals := 45 })
abbrev M_X8_plugs : jM := (yX8_plugs, cX8_plugs, 2, (some .int), { frames := 5, cells := 0, slots := 0, locals := 112 })
abbrev M_X8_pulls : jM := (yX8_pulls, cX8_pulls, 2, (some .int), { frames := 2, cells := 0, slots := 0, locals := 45 })
abbrev M_X8_swaps : jM := (yX8_swaps, cX8_swaps, 4, (some .int), { frames := 3, cells := 0, slots := 0, locals := 67 })
abbrev M_X8_undo : jM := (yX8_undo, cX8_undo, 1, (some .int), { frames := 1, cells := 0, slots := 0, locals := 24 })
abbrev M_X8_isAhead : jM := (yX8_isAhead, cX8_isAhead, 6, (some .boolean), { frames := 0, cells := 0, slots := 0, locals := 0 })
abbrev M_X8_layOrder : jM := (yX8_layOrder, cX8_layOrder, 5, none, { frames := 1, cells := 0, slots := 0, locals := 25 })
abbrev M_X8_plugAll : jM := (yX8_plugAll, cX8_plugAll, 5, none, { frames := 5, cells := 0, slots := 0, locals := 112 })
abbrev M_X8_byRule : jM := (yX8_byRule, cX8_byRule, 8, (some .int), { frames := 6, cells := 0, slots := 0, locals := 136 })
abbrev M_X8_isEnough : jM := (yX8_isEnough, cX8_isEnough, 4, (some .boolean), { frames := 6, cells := 0, slots := 0, locals := 136 })
abbrev M_X8_enough : jM := (yX8_enough, cX8_enough, 3, (some .int), { frames := 7, cells := 0, slots := 0, locals := 159 })
abbrev M_X8_waitedBy : jM := (yX8_waitedBy, cX8_waitedBy, 4, (some .int), { frames := 6, cells := 0, slots := 0, locals := 136 })
abbrev M_X8_nextRow : jM := (yX8_nextRow, cX8_nextRow, 9, (some .boolean), { frames := 0, cells := 0, slots := 0, locals := 0 })
abbrev M_X8_bestRow : jM := (yX8_bestRow, cX8_bestRow, 7, (some .int), { frames := 7, cells := 0, slots := 0, locals := 159 })
abbrev M_X8_cutFor : jM := (yX8_cutFor, cX8_cutFor, 8, (some .int), { frames := 5, cells := 0, slots := 0, locals := 112 })
abbrev M_X8_distance : jM := (yX8_distance, cX8_distance, 2, (some .int), { frames := 0, cells := 0, slots := 0, locals := 0 })
abbrev M_X8_longBy : jM := (yX8_longBy, cX8_longBy, 5, (some .int), { frames := 1, cells := 0, slots := 0, locals := 21 })
abbrev M_X8_longCords : jM := (yX8_longCords, cX8_longCords, 1, (some .int), { frames := 2, cells := 0, slots := 0, locals := 45 })
abbrev M_X8_change : jM := (yX8_change, cX8_change, 6, (some .int), { frames := 3, cells := 0, slots := 0, locals := 65 })
abbrev M_X8_bestHoles : jM := (yX8_bestHoles, cX8_bestHoles, 6, (some .int), { frames := 2, cells := 0, slots := 0, locals := 45 })
abbrev M_X8_atOnce : jM := (yX8_atOnce, cX8_atOnce, 7, (some .int), { frames := 1, cells := 0, slots := 0, locals := 22 })
abbrev M_X8_under : jM := (yX8_under, cX8_under, 4, (some .int), { frames := 3, cells := 0, slots := 0, locals := 67 })
abbrev M_X8_odds : jM := (yX8_odds, cX8_odds, 10, (some .int), { frames := 3, cells := 0, slots := 0, locals := 67 })
abbrev M_X8_rankOf : jM := (yX8_rankOf, cX8_rankOf, 2, (some .int), { frames := 0, cells := 0, slots := 0, locals := 0 })
abbrev M_X8_doctorOf : jM := (yX8_doctorOf, cX8_doctorOf, 2, (some .int), { frames := 1, cells := 0, slots := 0, locals := 21 })
abbrev M_X8_gossipOf : jM := (yX8_gossipOf, cX8_gossipOf, 2, (some .int), { frames := 1, cells := 0, slots := 0, locals := 21 })
abbrev M_X8_rate : jM := (yX8_rate, cX8_rate, 3, (some .int), { frames := 2, cells := 0, slots := 0, locals := 43 })
abbrev M_X8_keep : jM := (yX8_keep, cX8_keep, 2, (some .int), { frames := 1, cells := 0, slots := 0, locals := 24 })
abbrev M_X8_back : jM := (yX8_back, cX8_back, 2, (some .int), { frames := 1, cells := 0, slots := 0, locals := 24 })
abbrev M_X8_count : jM := (yX8_count, cX8_count, 2, (some .int), { frames := 0, cells := 0, slots := 0, locals := 0 })
abbrev M_X8_trace : jM := (yX8_trace, cX8_trace, 1, (some .long), { frames := 0, cells := 0, slots := 0, locals := 0 })
abbrev M_J6_bitCount_0f7a4 : jM := (yJ6_bitCount_0f7a4, cJ6_bitCount_0f7a4, 1, (some .int), { frames := 0, cells := 0, slots := 0, locals := 0 })
theorem mv_X0_32 : j_mv RX0 32 1 M_X2_become := ⟨jW_t 520 (by decide +kernel) rfl, jW_t 521 (by decide +kernel) rfl, jW_t 522 (by decide +kernel) rfl, jW_t 4 (by decide +kernel) rfl, jW_t 523 (by decide +kernel) rfl, by decide +kernel, by decide +kernel, by decide +kernel⟩
theorem mv_X0_36 : j_mv RX0 36 1 M_X0_sort := ⟨jW_t 524 (by decide +kernel) rfl, jW_t 526 (by decide +kernel) rfl, jW_s 16 (by decide +kernel) rfl, jW_t 6 (by decide +kernel) rfl, jW_t 527 (by decide +kernel) rfl, by decide +kernel, by decide +kernel, by decide +kernel⟩
theorem mv_X0_44 : j_mv RX0 44 1 M_X2_those := ⟨jW_t 532 (by decide +kernel) rfl, jW_t 406 (by decide +kernel) rfl, jW_t 407 (by decide +kernel) rfl, jW_t 4 (by decide +kernel) rfl, jW_t 408 (by decide +kernel) rfl, by decide +kernel, by decide +kernel, by decide +kernel⟩
theorem mv_X0_48 : j_mv RX0 48 1 M_X0_plugAll := ⟨jW_t 533 (by decide +kernel) rfl, jW_t 535 (by decide +kernel) rfl, jW_s 18 (by decide +kernel) rfl, jW_t 6 (by decide +kernel) rfl, jW_t 536 (by decide +kernel) rfl, by decide +kernel, by decide +kernel, by decide +kernel⟩
theorem mv_X0_51 : j_mv RX0 51 1 M_X2_lacksCord := ⟨jW_t 539 (by decide +kernel) rfl, jW_t 540 (by decide +kernel) rfl, jW_t 541 (by decide +kernel) rfl, jW_t 4 (by decide +kernel) rfl, jW_t 542 (by decide +kernel) rfl, by decide +kernel, by decide +kernel, by decide +kernel⟩
theorem mv_X0_54 : j_mv RX0 54 0 M_X2_passMinute := ⟨jW_t 543 (by decide +kernel) rfl, jW_t 458 (by decide +kernel) rfl, jW_t 459 (by decide +kernel) rfl, jW_t 4 (by decide +kernel) rfl, jW_t 460 (by decide +kernel) rfl, by decide +kernel, by decide +kernel, by decide +kernel⟩
theorem ms_X0_57 : j_ms RX0 57 1 M_X0_lowest := ⟨jW_t 544 (by decide +kernel) rfl, jW_t 545 (by decide +kernel) rfl, jW_t 6 (by decide +kernel) rfl, jW_t 546 (by decide +kernel) rfl, by decide +kernel, by decide +kernel, by decide +kernel⟩
theorem mv_X0_65 : j_mv RX0 65 2 M_X0_key := ⟨jW_t 528 (by decide +kernel) rfl, jW_t 530 (by decide +kernel) rfl, jW_s 17 (by decide +kernel) rfl, jW_t 6 (by decide +kernel) rfl, jW_t 531 (by decide +kernel) rfl, by decide +kernel, by decide +kernel, by decide +kernel⟩
theorem mv_X0_78 : j_mv RX0 78 2 M_X2_canBePlugged := ⟨jW_t 537 (by decide +kernel) rfl, jW_t 466 (by decide +kernel) rfl, jW_t 467 (by decide +kernel) rfl, jW_t 4 (by decide +kernel) rfl, jW_t 468 (by decide +kernel) rfl, by decide +kernel, by decide +kernel, by decide +kernel⟩
theorem mv_X0_82 : j_mv RX0 82 1 M_X2_plug := ⟨jW_t 538 (by decide +kernel) rfl, jW_t 479 (by decide +kernel) rfl, jW_t 480 (by decide +kernel) rfl, jW_t 4 (by decide +kernel) rfl, jW_t 481 (by decide +kernel) rfl, by decide +kernel, by decide +kernel, by decide +kernel⟩
theorem mv_X1_28 : j_mv RX1 28 2 M_X6_apart := ⟨jW_t 612 (by decide +kernel) rfl, jW_t 613 (by decide +kernel) rfl, jW_t 614 (by decide +kernel) rfl, jW_t 2 (by decide +kernel) rfl, jW_t 615 (by decide +kernel) rfl, by decide +kernel, by decide +kernel, by decide +kernel⟩
theorem ma_X1_32 : j_ma RX1 32 := ⟨jW_t 627 (by decide +kernel) rfl, jW_t 263 (by decide +kernel) rfl, jW_t 262 (by decide +kernel) rfl, jW_t 9 (by decide +kernel) rfl⟩
theorem mv_X1_38 : j_mv RX1 38 1 M_X1_inAll := ⟨jW_t 628 (by decide +kernel) rfl, jW_t 609 (by decide +kernel) rfl, jW_t 610 (by decide +kernel) rfl, jW_t 8 (by decide +kernel) rfl, jW_t 611 (by decide +kernel) rfl, by decide +kernel, by decide +kernel, by decide +kernel⟩
theorem mn_X1_45 : j_mn Sx RX1 45 3 M_X7_exchange "BoardCords" := ⟨by decide +kernel, jW_t 495 (by decide +kernel) rfl, jW_t 1 (by decide +kernel) rfl, jW_t 496 (by decide +kernel) rfl, by decide +kernel, by decide +kernel, by decide +kernel⟩
theorem mn_X1_53 : j_mn Sx RX1 53 2 M_X7_nextRow "BoardCords" := ⟨by decide +kernel, jW_t 586 (by decide +kernel) rfl, jW_t 1 (by decide +kernel) rfl, jW_t 587 (by decide +kernel) rfl, by decide +kernel, by decide +kernel, by decide +kernel⟩
theorem ma_X2_35 : j_ma RX2 35 := ⟨jW_t 261 (by decide +kernel) rfl, jW_t 263 (by decide +kernel) rfl, jW_t 262 (by decide +kernel) rfl, jW_t 9 (by decide +kernel) rfl⟩
theorem mv_X2_41 : j_mv RX2 41 0 M_X2_letFall := ⟨jW_t 264 (by decide +kernel) rfl, jW_t 266 (by decide +kernel) rfl, jW_s 0 (by decide +kernel) rfl, jW_t 4 (by decide +kernel) rfl, jW_t 267 (by decide +kernel) rfl, by decide +kernel, by decide +kernel, by decide +kernel⟩
theorem mv_X2_56 : j_mv RX2 56 2 M_X6_shareLine := ⟨jW_t 431 (by decide +kernel) rfl, jW_t 432 (by decide +kernel) rfl, jW_t 433 (by decide +kernel) rfl, jW_t 2 (by decide +kernel) rfl, jW_t 434 (by decide +kernel) rfl, by decide +kernel, by decide +kernel, by decide +kernel⟩
theorem ms_X2_60 : j_ms RX2 60 1 M_J6_bitCount_0f7a4 := ⟨jW_t 443 (by decide +kernel) rfl, jW_t 414 (by decide +kernel) rfl, jW_t 12 (by decide +kernel) rfl, jW_t 415 (by decide +kernel) rfl, by decide +kernel, by decide +kernel, by decide +kernel⟩
theorem mv_X2_66 : j_mv RX2 66 2 M_X2_linesFree := ⟨jW_t 474 (by decide +kernel) rfl, jW_t 476 (by decide +kernel) rfl, jW_s 15 (by decide +kernel) rfl, jW_t 4 (by decide +kernel) rfl, jW_t 477 (by decide +kernel) rfl, by decide +kernel, by decide +kernel, by decide +kernel⟩
theorem mv_X2_69 : j_mv RX2 69 1 M_X2_those := ⟨jW_t 469 (by decide +kernel) rfl, jW_t 406 (by decide +kernel) rfl, jW_t 407 (by decide +kernel) rfl, jW_t 4 (by decide +kernel) rfl, jW_t 408 (by decide +kernel) rfl, by decide +kernel, by decide +kernel, by decide +kernel⟩
theorem mv_X2_72 : j_mv RX2 72 3 M_X2_hasRoom := ⟨jW_t 470 (by decide +kernel) rfl, jW_t 472 (by decide +kernel) rfl, jW_s 14 (by decide +kernel) rfl, jW_t 4 (by decide +kernel) rfl, jW_t 473 (by decide +kernel) rfl, by decide +kernel, by decide +kernel, by decide +kernel⟩
theorem mv_X2_79 : j_mv RX2 79 2 M_X2_sumOf := ⟨jW_t 551 (by decide +kernel) rfl, jW_t 553 (by decide +kernel) rfl, jW_s 19 (by decide +kernel) rfl, jW_t 4 (by decide +kernel) rfl, jW_t 554 (by decide +kernel) rfl, by decide +kernel, by decide +kernel, by decide +kernel⟩
theorem mv_X2_86 : j_mv RX2 86 2 M_X2_cutsLess := ⟨jW_t 596 (by decide +kernel) rfl, jW_t 598 (by decide +kernel) rfl, jW_s 24 (by decide +kernel) rfl, jW_t 4 (by decide +kernel) rfl, jW_t 599 (by decide +kernel) rfl, by decide +kernel, by decide +kernel, by decide +kernel⟩
theorem mv_X2_89 : j_mv RX2 89 1 M_X2_leftOf := ⟨jW_t 600 (by decide +kernel) rfl, jW_t 602 (by decide +kernel) rfl, jW_s 25 (by decide +kernel) rfl, jW_t 4 (by decide +kernel) rfl, jW_t 603 (by decide +kernel) rfl, by decide +kernel, by decide +kernel, by decide +kernel⟩
theorem mv_X2_92 : j_mv RX2 92 2 M_X2_isBetween := ⟨jW_t 435 (by decide +kernel) rfl, jW_t 437 (by decide +kernel) rfl, jW_s 13 (by decide +kernel) rfl, jW_t 4 (by decide +kernel) rfl, jW_t 438 (by decide +kernel) rfl, by decide +kernel, by decide +kernel, by decide +kernel⟩
theorem mm_X2_95 : j_mm RX2 95 Lib.Math.min.name Lib.Math.min.code 2 := ⟨jW_t 439 (by decide +kernel) rfl, jW_t 322 (by decide +kernel) rfl, jW_t 11 (by decide +kernel) rfl, jW_t 323 (by decide +kernel) rfl⟩
theorem mm_X2_101 : j_mm RX2 101 Lib.Math.max.name Lib.Math.max.code 2 := ⟨jW_t 440 (by decide +kernel) rfl, jW_t 441 (by decide +kernel) rfl, jW_t 11 (by decide +kernel) rfl, jW_t 442 (by decide +kernel) rfl⟩
theorem mv_X2_104 : j_mv RX2 104 2 M_X2_cross := ⟨jW_t 427 (by decide +kernel) rfl, jW_t 429 (by decide +kernel) rfl, jW_s 12 (by decide +kernel) rfl, jW_t 4 (by decide +kernel) rfl, jW_t 430 (by decide +kernel) rfl, by decide +kernel, by decide +kernel, by decide +kernel⟩
theorem mv_X2_107 : j_mv RX2 107 1 M_X2_crossedBy := ⟨jW_t 423 (by decide +kernel) rfl, jW_t 424 (by decide +kernel) rfl, jW_t 425 (by decide +kernel) rfl, jW_t 4 (by decide +kernel) rfl, jW_t 426 (by decide +kernel) rfl, by decide +kernel, by decide +kernel, by decide +kernel⟩
theorem mv_X3_22 : j_mv RX3 22 2 M_X2_save := ⟨jW_t 452 (by decide +kernel) rfl, jW_t 453 (by decide +kernel) rfl, jW_t 454 (by decide +kernel) rfl, jW_t 4 (by decide +kernel) rfl, jW_t 455 (by decide +kernel) rfl, by decide +kernel, by decide +kernel, by decide +kernel⟩
theorem mm_X3_26 : j_mm RX3 26 Lib.Math.min.name Lib.Math.min.code 2 := ⟨jW_t 456 (by decide +kernel) rfl, jW_t 322 (by decide +kernel) rfl, jW_t 11 (by decide +kernel) rfl, jW_t 323 (by decide +kernel) rfl⟩
theorem mv_X3_32 : j_mv RX3 32 2 M_X2_load := ⟨jW_t 505 (by decide +kernel) rfl, jW_t 506 (by decide +kernel) rfl, jW_t 507 (by decide +kernel) rfl, jW_t 4 (by decide +kernel) rfl, jW_t 508 (by decide +kernel) rfl, by decide +kernel, by decide +kernel, by decide +kernel⟩
theorem mm_X4_22 : j_mm RX4 22 Lib.Math.min.name Lib.Math.min.code 2 := ⟨jW_t 321 (by decide +kernel) rfl, jW_t 322 (by decide +kernel) rfl, jW_t 11 (by decide +kernel) rfl, jW_t 323 (by decide +kernel) rfl⟩
theorem mv_X4_45 : j_mv RX4 45 0 M_X6_asAtFirst := ⟨jW_t 324 (by decide +kernel) rfl, jW_t 28 (by decide +kernel) rfl, jW_t 29 (by decide +kernel) rfl, jW_t 2 (by decide +kernel) rfl, jW_t 30 (by decide +kernel) rfl, by decide +kernel, by decide +kernel, by decide +kernel⟩
theorem mv_X4_48 : j_mv RX4 48 0 M_X4_skipBlanks := ⟨jW_t 325 (by decide +kernel) rfl, jW_t 327 (by decide +kernel) rfl, jW_s 1 (by decide +kernel) rfl, jW_t 3 (by decide +kernel) rfl, jW_t 328 (by decide +kernel) rfl, by decide +kernel, by decide +kernel, by decide +kernel⟩
theorem mv_X4_51 : j_mv RX4 51 0 M_X4_readItem := ⟨jW_t 329 (by decide +kernel) rfl, jW_t 331 (by decide +kernel) rfl, jW_s 2 (by decide +kernel) rfl, jW_t 3 (by decide +kernel) rfl, jW_t 332 (by decide +kernel) rfl, by decide +kernel, by decide +kernel, by decide +kernel⟩
theorem mv_X4_54 : j_mv RX4 54 0 M_X4_letterHere := ⟨jW_t 333 (by decide +kernel) rfl, jW_t 335 (by decide +kernel) rfl, jW_s 3 (by decide +kernel) rfl, jW_t 3 (by decide +kernel) rfl, jW_t 336 (by decide +kernel) rfl, by decide +kernel, by decide +kernel, by decide +kernel⟩
theorem mv_X4_58 : j_mv RX4 58 0 M_X4_readLines := ⟨jW_t 337 (by decide +kernel) rfl, jW_t 339 (by decide +kernel) rfl, jW_s 4 (by decide +kernel) rfl, jW_t 3 (by decide +kernel) rfl, jW_t 340 (by decide +kernel) rfl, by decide +kernel, by decide +kernel, by decide +kernel⟩
theorem mv_X4_61 : j_mv RX4 61 0 M_X4_readCords := ⟨jW_t 352 (by decide +kernel) rfl, jW_t 354 (by decide +kernel) rfl, jW_s 7 (by decide +kernel) rfl, jW_t 3 (by decide +kernel) rfl, jW_t 355 (by decide +kernel) rfl, by decide +kernel, by decide +kernel, by decide +kernel⟩
theorem mv_X4_64 : j_mv RX4 64 0 M_X4_readHole := ⟨jW_t 356 (by decide +kernel) rfl, jW_t 358 (by decide +kernel) rfl, jW_s 8 (by decide +kernel) rfl, jW_t 3 (by decide +kernel) rfl, jW_t 359 (by decide +kernel) rfl, by decide +kernel, by decide +kernel, by decide +kernel⟩
theorem mv_X4_70 : j_mv RX4 70 0 M_X4_readCall := ⟨jW_t 364 (by decide +kernel) rfl, jW_t 366 (by decide +kernel) rfl, jW_s 9 (by decide +kernel) rfl, jW_t 3 (by decide +kernel) rfl, jW_t 367 (by decide +kernel) rfl, by decide +kernel, by decide +kernel, by decide +kernel⟩
theorem mv_X4_73 : j_mv RX4 73 1 M_X4_failAt := ⟨jW_t 348 (by decide +kernel) rfl, jW_t 350 (by decide +kernel) rfl, jW_s 6 (by decide +kernel) rfl, jW_t 3 (by decide +kernel) rfl, jW_t 351 (by decide +kernel) rfl, by decide +kernel, by decide +kernel, by decide +kernel⟩
theorem mv_X4_77 : j_mv RX4 77 0 M_X4_readEnd := ⟨jW_t 368 (by decide +kernel) rfl, jW_t 370 (by decide +kernel) rfl, jW_s 10 (by decide +kernel) rfl, jW_t 3 (by decide +kernel) rfl, jW_t 371 (by decide +kernel) rfl, by decide +kernel, by decide +kernel, by decide +kernel⟩
theorem mv_X4_80 : j_mv RX4 80 3 M_X4_readNumber := ⟨jW_t 341 (by decide +kernel) rfl, jW_t 343 (by decide +kernel) rfl, jW_s 5 (by decide +kernel) rfl, jW_t 3 (by decide +kernel) rfl, jW_t 344 (by decide +kernel) rfl, by decide +kernel, by decide +kernel, by decide +kernel⟩
theorem mv_X4_90 : j_mv RX4 90 2 M_X6_giveHole := ⟨jW_t 360 (by decide +kernel) rfl, jW_t 361 (by decide +kernel) rfl, jW_t 362 (by decide +kernel) rfl, jW_t 2 (by decide +kernel) rfl, jW_t 363 (by decide +kernel) rfl, by decide +kernel, by decide +kernel, by decide +kernel⟩
theorem ms_X4_108 : j_ms RX4 108 1 M_X4_isDigit := ⟨jW_t 345 (by decide +kernel) rfl, jW_t 346 (by decide +kernel) rfl, jW_t 3 (by decide +kernel) rfl, jW_t 347 (by decide +kernel) rfl, by decide +kernel, by decide +kernel, by decide +kernel⟩
theorem mv_X5_31 : j_mv RX5 31 1 M_X5_prepare := ⟨jW_t 567 (by decide +kernel) rfl, jW_t 569 (by decide +kernel) rfl, jW_s 20 (by decide +kernel) rfl, jW_t 7 (by decide +kernel) rfl, jW_t 570 (by decide +kernel) rfl, by decide +kernel, by decide +kernel, by decide +kernel⟩
theorem mv_X5_40 : j_mv RX5 40 1 M_X5_waitsFor := ⟨jW_t 572 (by decide +kernel) rfl, jW_t 574 (by decide +kernel) rfl, jW_s 21 (by decide +kernel) rfl, jW_t 7 (by decide +kernel) rfl, jW_t 575 (by decide +kernel) rfl, by decide +kernel, by decide +kernel, by decide +kernel⟩
theorem ma_X5_47 : j_ma RX5 47 := ⟨jW_t 576 (by decide +kernel) rfl, jW_t 263 (by decide +kernel) rfl, jW_t 262 (by decide +kernel) rfl, jW_t 9 (by decide +kernel) rfl⟩
theorem mn_X5_53 : j_mn Sx RX5 53 2 M_X7_nextRow "BoardCords" := ⟨by decide +kernel, jW_t 586 (by decide +kernel) rfl, jW_t 1 (by decide +kernel) rfl, jW_t 587 (by decide +kernel) rfl, by decide +kernel, by decide +kernel, by decide +kernel⟩
theorem mv_X5_76 : j_mv RX5 76 1 M_X5_plugAlong := ⟨jW_t 577 (by decide +kernel) rfl, jW_t 579 (by decide +kernel) rfl, jW_s 22 (by decide +kernel) rfl, jW_t 7 (by decide +kernel) rfl, jW_t 580 (by decide +kernel) rfl, by decide +kernel, by decide +kernel, by decide +kernel⟩
theorem mv_X5_79 : j_mv RX5 79 1 M_X5_nextEnd := ⟨jW_t 581 (by decide +kernel) rfl, jW_t 583 (by decide +kernel) rfl, jW_s 23 (by decide +kernel) rfl, jW_t 7 (by decide +kernel) rfl, jW_t 584 (by decide +kernel) rfl, by decide +kernel, by decide +kernel, by decide +kernel⟩
theorem mm_X6_43 : j_mm RX6 43 Lib.Math.abs.name Lib.Math.abs.code 1 := ⟨jW_t 616 (by decide +kernel) rfl, jW_t 617 (by decide +kernel) rfl, jW_t 11 (by decide +kernel) rfl, jW_t 618 (by decide +kernel) rfl⟩
theorem ma_X6_49 : j_ma RX6 49 := ⟨jW_t 376 (by decide +kernel) rfl, jW_t 263 (by decide +kernel) rfl, jW_t 262 (by decide +kernel) rfl, jW_t 9 (by decide +kernel) rfl⟩
theorem mv_X7_84 : j_mv RX7 84 1 M_X4_read := ⟨jW_t 317 (by decide +kernel) rfl, jW_t 318 (by decide +kernel) rfl, jW_t 319 (by decide +kernel) rfl, jW_t 3 (by decide +kernel) rfl, jW_t 320 (by decide +kernel) rfl, by decide +kernel, by decide +kernel, by decide +kernel⟩
theorem mv_X7_91 : j_mv RX7 91 1 M_X6_become := ⟨jW_t 372 (by decide +kernel) rfl, jW_t 373 (by decide +kernel) rfl, jW_t 374 (by decide +kernel) rfl, jW_t 2 (by decide +kernel) rfl, jW_t 375 (by decide +kernel) rfl, by decide +kernel, by decide +kernel, by decide +kernel⟩
theorem mv_X7_81 : j_mv RX7 81 0 M_X2_begin := ⟨jW_t 257 (by decide +kernel) rfl, jW_t 258 (by decide +kernel) rfl, jW_t 259 (by decide +kernel) rfl, jW_t 4 (by decide +kernel) rfl, jW_t 260 (by decide +kernel) rfl, by decide +kernel, by decide +kernel, by decide +kernel⟩
theorem mv_X7_94 : j_mv RX7 94 0 M_X3_forget := ⟨jW_t 377 (by decide +kernel) rfl, jW_t 378 (by decide +kernel) rfl, jW_t 379 (by decide +kernel) rfl, jW_t 5 (by decide +kernel) rfl, jW_t 380 (by decide +kernel) rfl, by decide +kernel, by decide +kernel, by decide +kernel⟩
theorem mv_X7_97 : j_mv RX7 97 1 M_X6_hasLine := ⟨jW_t 385 (by decide +kernel) rfl, jW_t 386 (by decide +kernel) rfl, jW_t 387 (by decide +kernel) rfl, jW_t 2 (by decide +kernel) rfl, jW_t 388 (by decide +kernel) rfl, by decide +kernel, by decide +kernel, by decide +kernel⟩
theorem mv_X7_104 : j_mv RX7 104 1 M_X2_engagedBy := ⟨jW_t 389 (by decide +kernel) rfl, jW_t 390 (by decide +kernel) rfl, jW_t 391 (by decide +kernel) rfl, jW_t 4 (by decide +kernel) rfl, jW_t 392 (by decide +kernel) rfl, by decide +kernel, by decide +kernel, by decide +kernel⟩
theorem mv_X7_107 : j_mv RX7 107 1 M_X6_hasCall := ⟨jW_t 397 (by decide +kernel) rfl, jW_t 398 (by decide +kernel) rfl, jW_t 399 (by decide +kernel) rfl, jW_t 2 (by decide +kernel) rfl, jW_t 400 (by decide +kernel) rfl, by decide +kernel, by decide +kernel, by decide +kernel⟩
theorem mv_X7_137 : j_mv RX7 137 1 M_X2_those := ⟨jW_t 405 (by decide +kernel) rfl, jW_t 406 (by decide +kernel) rfl, jW_t 407 (by decide +kernel) rfl, jW_t 4 (by decide +kernel) rfl, jW_t 408 (by decide +kernel) rfl, by decide +kernel, by decide +kernel, by decide +kernel⟩
theorem mv_X7_140 : j_mv RX7 140 0 M_X7_freeCords := ⟨jW_t 409 (by decide +kernel) rfl, jW_t 411 (by decide +kernel) rfl, jW_s 11 (by decide +kernel) rfl, jW_t 1 (by decide +kernel) rfl, jW_t 412 (by decide +kernel) rfl, by decide +kernel, by decide +kernel, by decide +kernel⟩
theorem mv_X7_144 : j_mv RX7 144 0 M_X2_crossings := ⟨jW_t 419 (by decide +kernel) rfl, jW_t 420 (by decide +kernel) rfl, jW_t 421 (by decide +kernel) rfl, jW_t 4 (by decide +kernel) rfl, jW_t 422 (by decide +kernel) rfl, by decide +kernel, by decide +kernel, by decide +kernel⟩
theorem ms_X7_153 : j_ms RX7 153 1 M_J6_bitCount_0f7a4 := ⟨jW_t 413 (by decide +kernel) rfl, jW_t 414 (by decide +kernel) rfl, jW_t 12 (by decide +kernel) rfl, jW_t 415 (by decide +kernel) rfl, by decide +kernel, by decide +kernel, by decide +kernel⟩
theorem mv_X7_158 : j_mv RX7 158 1 M_X3_add := ⟨jW_t 448 (by decide +kernel) rfl, jW_t 449 (by decide +kernel) rfl, jW_t 450 (by decide +kernel) rfl, jW_t 5 (by decide +kernel) rfl, jW_t 451 (by decide +kernel) rfl, by decide +kernel, by decide +kernel, by decide +kernel⟩
theorem mv_X7_162 : j_mv RX7 162 0 M_X2_passMinute := ⟨jW_t 457 (by decide +kernel) rfl, jW_t 458 (by decide +kernel) rfl, jW_t 459 (by decide +kernel) rfl, jW_t 4 (by decide +kernel) rfl, jW_t 460 (by decide +kernel) rfl, by decide +kernel, by decide +kernel, by decide +kernel⟩
theorem mv_X7_165 : j_mv RX7 165 2 M_X2_canBePlugged := ⟨jW_t 465 (by decide +kernel) rfl, jW_t 466 (by decide +kernel) rfl, jW_t 467 (by decide +kernel) rfl, jW_t 4 (by decide +kernel) rfl, jW_t 468 (by decide +kernel) rfl, by decide +kernel, by decide +kernel, by decide +kernel⟩
theorem mv_X7_169 : j_mv RX7 169 1 M_X2_plug := ⟨jW_t 478 (by decide +kernel) rfl, jW_t 479 (by decide +kernel) rfl, jW_t 480 (by decide +kernel) rfl, jW_t 4 (by decide +kernel) rfl, jW_t 481 (by decide +kernel) rfl, by decide +kernel, by decide +kernel, by decide +kernel⟩
theorem mv_X7_173 : j_mv RX7 173 1 M_X2_pull := ⟨jW_t 486 (by decide +kernel) rfl, jW_t 487 (by decide +kernel) rfl, jW_t 488 (by decide +kernel) rfl, jW_t 4 (by decide +kernel) rfl, jW_t 489 (by decide +kernel) rfl, by decide +kernel, by decide +kernel, by decide +kernel⟩
theorem ms_X7_176 : j_ms RX7 176 3 M_X7_exchange := ⟨jW_t 494 (by decide +kernel) rfl, jW_t 495 (by decide +kernel) rfl, jW_t 1 (by decide +kernel) rfl, jW_t 496 (by decide +kernel) rfl, by decide +kernel, by decide +kernel, by decide +kernel⟩
theorem mv_X7_180 : j_mv RX7 180 1 M_X3_takeBack := ⟨jW_t 501 (by decide +kernel) rfl, jW_t 502 (by decide +kernel) rfl, jW_t 503 (by decide +kernel) rfl, jW_t 5 (by decide +kernel) rfl, jW_t 504 (by decide +kernel) rfl, by decide +kernel, by decide +kernel, by decide +kernel⟩
theorem ms_X7_183 : j_ms RX7 183 1 M_X7_isRule := ⟨jW_t 513 (by decide +kernel) rfl, jW_t 514 (by decide +kernel) rfl, jW_t 1 (by decide +kernel) rfl, jW_t 515 (by decide +kernel) rfl, by decide +kernel, by decide +kernel, by decide +kernel⟩
theorem mv_X7_186 : j_mv RX7 186 4 M_X0_go := ⟨jW_t 516 (by decide +kernel) rfl, jW_t 517 (by decide +kernel) rfl, jW_t 518 (by decide +kernel) rfl, jW_t 6 (by decide +kernel) rfl, jW_t 519 (by decide +kernel) rfl, by decide +kernel, by decide +kernel, by decide +kernel⟩
theorem mv_X7_193 : j_mv RX7 193 1 M_X2_waitedOf := ⟨jW_t 547 (by decide +kernel) rfl, jW_t 548 (by decide +kernel) rfl, jW_t 549 (by decide +kernel) rfl, jW_t 4 (by decide +kernel) rfl, jW_t 550 (by decide +kernel) rfl, by decide +kernel, by decide +kernel, by decide +kernel⟩
theorem mv_X7_203 : j_mv RX7 203 1 M_X5_find := ⟨jW_t 563 (by decide +kernel) rfl, jW_t 564 (by decide +kernel) rfl, jW_t 565 (by decide +kernel) rfl, jW_t 7 (by decide +kernel) rfl, jW_t 566 (by decide +kernel) rfl, by decide +kernel, by decide +kernel, by decide +kernel⟩
theorem mv_X7_215 : j_mv RX7 215 1 M_X2_leastCut := ⟨jW_t 592 (by decide +kernel) rfl, jW_t 593 (by decide +kernel) rfl, jW_t 594 (by decide +kernel) rfl, jW_t 4 (by decide +kernel) rfl, jW_t 595 (by decide +kernel) rfl, by decide +kernel, by decide +kernel, by decide +kernel⟩
theorem mv_X7_218 : j_mv RX7 218 1 M_X1_inAll := ⟨jW_t 608 (by decide +kernel) rfl, jW_t 609 (by decide +kernel) rfl, jW_t 610 (by decide +kernel) rfl, jW_t 8 (by decide +kernel) rfl, jW_t 611 (by decide +kernel) rfl, by decide +kernel, by decide +kernel, by decide +kernel⟩
theorem mv_X7_222 : j_mv RX7 222 1 M_X1_bestExchange := ⟨jW_t 623 (by decide +kernel) rfl, jW_t 624 (by decide +kernel) rfl, jW_t 625 (by decide +kernel) rfl, jW_t 8 (by decide +kernel) rfl, jW_t 626 (by decide +kernel) rfl, by decide +kernel, by decide +kernel, by decide +kernel⟩
theorem mv_X7_225 : j_mv RX7 225 0 M_X1_find := ⟨jW_t 634 (by decide +kernel) rfl, jW_t 635 (by decide +kernel) rfl, jW_t 636 (by decide +kernel) rfl, jW_t 8 (by decide +kernel) rfl, jW_t 637 (by decide +kernel) rfl, by decide +kernel, by decide +kernel, by decide +kernel⟩
theorem mv_X7_229 : j_mv RX7 229 1 M_X6_fallingAt := ⟨jW_t 644 (by decide +kernel) rfl, jW_t 645 (by decide +kernel) rfl, jW_t 646 (by decide +kernel) rfl, jW_t 2 (by decide +kernel) rfl, jW_t 647 (by decide +kernel) rfl, by decide +kernel, by decide +kernel, by decide +kernel⟩
theorem mv_X7_232 : j_mv RX7 232 1 M_X2_crossedBy := ⟨jW_t 652 (by decide +kernel) rfl, jW_t 424 (by decide +kernel) rfl, jW_t 425 (by decide +kernel) rfl, jW_t 4 (by decide +kernel) rfl, jW_t 426 (by decide +kernel) rfl, by decide +kernel, by decide +kernel, by decide +kernel⟩
theorem mv_X7_235 : j_mv RX7 235 3 M_X7_tenthsFree := ⟨jW_t 657 (by decide +kernel) rfl, jW_t 659 (by decide +kernel) rfl, jW_s 26 (by decide +kernel) rfl, jW_t 1 (by decide +kernel) rfl, jW_t 660 (by decide +kernel) rfl, by decide +kernel, by decide +kernel, by decide +kernel⟩
theorem ms_X7_239 : j_ms RX7 239 1 M_X7_commonDivisor := ⟨jW_t 661 (by decide +kernel) rfl, jW_t 662 (by decide +kernel) rfl, jW_t 1 (by decide +kernel) rfl, jW_t 663 (by decide +kernel) rfl, by decide +kernel, by decide +kernel, by decide +kernel⟩
theorem mv_X7_243 : j_mv RX7 243 1 M_X7_asCall := ⟨jW_t 669 (by decide +kernel) rfl, jW_t 671 (by decide +kernel) rfl, jW_s 27 (by decide +kernel) rfl, jW_t 1 (by decide +kernel) rfl, jW_t 672 (by decide +kernel) rfl, by decide +kernel, by decide +kernel, by decide +kernel⟩
theorem mv_X7_246 : j_mv RX7 246 1 M_X7_asDoctor := ⟨jW_t 673 (by decide +kernel) rfl, jW_t 675 (by decide +kernel) rfl, jW_s 28 (by decide +kernel) rfl, jW_t 1 (by decide +kernel) rfl, jW_t 676 (by decide +kernel) rfl, by decide +kernel, by decide +kernel, by decide +kernel⟩
theorem mv_X7_249 : j_mv RX7 249 1 M_X7_asGossip := ⟨jW_t 678 (by decide +kernel) rfl, jW_t 680 (by decide +kernel) rfl, jW_s 29 (by decide +kernel) rfl, jW_t 1 (by decide +kernel) rfl, jW_t 681 (by decide +kernel) rfl, by decide +kernel, by decide +kernel, by decide +kernel⟩
theorem mv_X7_252 : j_mv RX7 252 1 M_X7_asFire := ⟨jW_t 683 (by decide +kernel) rfl, jW_t 685 (by decide +kernel) rfl, jW_s 30 (by decide +kernel) rfl, jW_t 1 (by decide +kernel) rfl, jW_t 686 (by decide +kernel) rfl, by decide +kernel, by decide +kernel, by decide +kernel⟩
theorem mv_X7_255 : j_mv RX7 255 1 M_X7_asWife := ⟨jW_t 688 (by decide +kernel) rfl, jW_t 690 (by decide +kernel) rfl, jW_s 31 (by decide +kernel) rfl, jW_t 1 (by decide +kernel) rfl, jW_t 691 (by decide +kernel) rfl, by decide +kernel, by decide +kernel, by decide +kernel⟩
theorem mv_X7_258 : j_mv RX7 258 1 M_X7_asWrong := ⟨jW_t 693 (by decide +kernel) rfl, jW_t 695 (by decide +kernel) rfl, jW_s 32 (by decide +kernel) rfl, jW_t 1 (by decide +kernel) rfl, jW_t 696 (by decide +kernel) rfl, by decide +kernel, by decide +kernel, by decide +kernel⟩
theorem mv_X7_271 : j_mv RX7 271 2 M_X6_apart := ⟨jW_t 698 (by decide +kernel) rfl, jW_t 613 (by decide +kernel) rfl, jW_t 614 (by decide +kernel) rfl, jW_t 2 (by decide +kernel) rfl, jW_t 615 (by decide +kernel) rfl, by decide +kernel, by decide +kernel, by decide +kernel⟩
theorem ms_X7_275 : j_ms RX7 275 1 M_X7_isImage := ⟨jW_t 703 (by decide +kernel) rfl, jW_t 704 (by decide +kernel) rfl, jW_t 1 (by decide +kernel) rfl, jW_t 705 (by decide +kernel) rfl, by decide +kernel, by decide +kernel, by decide +kernel⟩
theorem mv_X7_278 : j_mv RX7 278 2 M_X2_save := ⟨jW_t 706 (by decide +kernel) rfl, jW_t 453 (by decide +kernel) rfl, jW_t 454 (by decide +kernel) rfl, jW_t 4 (by decide +kernel) rfl, jW_t 455 (by decide +kernel) rfl, by decide +kernel, by decide +kernel, by decide +kernel⟩
theorem mv_X7_282 : j_mv RX7 282 2 M_X2_load := ⟨jW_t 711 (by decide +kernel) rfl, jW_t 506 (by decide +kernel) rfl, jW_t 507 (by decide +kernel) rfl, jW_t 4 (by decide +kernel) rfl, jW_t 508 (by decide +kernel) rfl, by decide +kernel, by decide +kernel, by decide +kernel⟩
theorem ms_X8_63 : j_ms RX8 63 3 M_X8_in := ⟨jW_t 821 (by decide +kernel) rfl, jW_t 822 (by decide +kernel) rfl, jW_t 10 (by decide +kernel) rfl, jW_t 823 (by decide +kernel) rfl, by decide +kernel, by decide +kernel, by decide +kernel⟩
theorem mv_X8_82 : j_mv RX8 82 0 M_X8_nextToken := ⟨jW_t 836 (by decide +kernel) rfl, jW_t 838 (by decide +kernel) rfl, jW_s 35 (by decide +kernel) rfl, jW_t 10 (by decide +kernel) rfl, jW_t 839 (by decide +kernel) rfl, by decide +kernel, by decide +kernel, by decide +kernel⟩
theorem mv_X8_88 : j_mv RX8 88 2 M_X8_isNumber := ⟨jW_t 844 (by decide +kernel) rfl, jW_t 846 (by decide +kernel) rfl, jW_s 37 (by decide +kernel) rfl, jW_t 10 (by decide +kernel) rfl, jW_t 847 (by decide +kernel) rfl, by decide +kernel, by decide +kernel, by decide +kernel⟩
theorem mv_X8_92 : j_mv RX8 92 0 M_X8_isEnd := ⟨jW_t 848 (by decide +kernel) rfl, jW_t 850 (by decide +kernel) rfl, jW_s 38 (by decide +kernel) rfl, jW_t 10 (by decide +kernel) rfl, jW_t 851 (by decide +kernel) rfl, by decide +kernel, by decide +kernel, by decide +kernel⟩
theorem mv_X8_109 : j_mv RX8 109 0 M_X8_isHole := ⟨jW_t 852 (by decide +kernel) rfl, jW_t 854 (by decide +kernel) rfl, jW_s 39 (by decide +kernel) rfl, jW_t 10 (by decide +kernel) rfl, jW_t 855 (by decide +kernel) rfl, by decide +kernel, by decide +kernel, by decide +kernel⟩
theorem mv_X8_112 : j_mv RX8 112 0 M_X8_isCallItem := ⟨jW_t 856 (by decide +kernel) rfl, jW_t 858 (by decide +kernel) rfl, jW_s 40 (by decide +kernel) rfl, jW_t 10 (by decide +kernel) rfl, jW_t 859 (by decide +kernel) rfl, by decide +kernel, by decide +kernel, by decide +kernel⟩
theorem mv_X8_115 : j_mv RX8 115 0 M_X8_isItem := ⟨jW_t 840 (by decide +kernel) rfl, jW_t 842 (by decide +kernel) rfl, jW_s 36 (by decide +kernel) rfl, jW_t 10 (by decide +kernel) rfl, jW_t 843 (by decide +kernel) rfl, by decide +kernel, by decide +kernel, by decide +kernel⟩
theorem mv_X8_118 : j_mv RX8 118 0 M_X8_isRead := ⟨jW_t 832 (by decide +kernel) rfl, jW_t 834 (by decide +kernel) rfl, jW_s 34 (by decide +kernel) rfl, jW_t 10 (by decide +kernel) rfl, jW_t 835 (by decide +kernel) rfl, by decide +kernel, by decide +kernel, by decide +kernel⟩
theorem mv_X8_54 : j_mv RX8 54 0 M_X8_begin := ⟨jW_t 726 (by decide +kernel) rfl, jW_t 728 (by decide +kernel) rfl, jW_s 33 (by decide +kernel) rfl, jW_t 10 (by decide +kernel) rfl, jW_t 729 (by decide +kernel) rfl, by decide +kernel, by decide +kernel, by decide +kernel⟩
theorem mv_X8_121 : j_mv RX8 121 1 M_X8_fromOf := ⟨jW_t 880 (by decide +kernel) rfl, jW_t 882 (by decide +kernel) rfl, jW_s 45 (by decide +kernel) rfl, jW_t 10 (by decide +kernel) rfl, jW_t 883 (by decide +kernel) rfl, by decide +kernel, by decide +kernel, by decide +kernel⟩
theorem mv_X8_125 : j_mv RX8 125 1 M_X8_toOf := ⟨jW_t 884 (by decide +kernel) rfl, jW_t 886 (by decide +kernel) rfl, jW_s 46 (by decide +kernel) rfl, jW_t 10 (by decide +kernel) rfl, jW_t 887 (by decide +kernel) rfl, by decide +kernel, by decide +kernel, by decide +kernel⟩
theorem mv_X8_128 : j_mv RX8 128 2 M_X8_isOn := ⟨jW_t 876 (by decide +kernel) rfl, jW_t 878 (by decide +kernel) rfl, jW_s 44 (by decide +kernel) rfl, jW_t 10 (by decide +kernel) rfl, jW_t 879 (by decide +kernel) rfl, by decide +kernel, by decide +kernel, by decide +kernel⟩
theorem mv_X8_131 : j_mv RX8 131 2 M_X8_setOf := ⟨jW_t 900 (by decide +kernel) rfl, jW_t 902 (by decide +kernel) rfl, jW_s 48 (by decide +kernel) rfl, jW_t 10 (by decide +kernel) rfl, jW_t 903 (by decide +kernel) rfl, by decide +kernel, by decide +kernel, by decide +kernel⟩
theorem ms_X8_135 : j_ms RX8 135 1 M_X8_bits := ⟨jW_t 908 (by decide +kernel) rfl, jW_t 909 (by decide +kernel) rfl, jW_t 10 (by decide +kernel) rfl, jW_t 910 (by decide +kernel) rfl, by decide +kernel, by decide +kernel, by decide +kernel⟩
theorem mv_X8_138 : j_mv RX8 138 2 M_X8_talkerOn := ⟨jW_t 872 (by decide +kernel) rfl, jW_t 874 (by decide +kernel) rfl, jW_s 43 (by decide +kernel) rfl, jW_t 10 (by decide +kernel) rfl, jW_t 875 (by decide +kernel) rfl, by decide +kernel, by decide +kernel, by decide +kernel⟩
theorem mv_X8_141 : j_mv RX8 141 2 M_X8_freeCords := ⟨jW_t 904 (by decide +kernel) rfl, jW_t 906 (by decide +kernel) rfl, jW_s 49 (by decide +kernel) rfl, jW_t 10 (by decide +kernel) rfl, jW_t 907 (by decide +kernel) rfl, by decide +kernel, by decide +kernel, by decide +kernel⟩
theorem mv_X8_144 : j_mv RX8 144 2 M_X8_areFree := ⟨jW_t 945 (by decide +kernel) rfl, jW_t 947 (by decide +kernel) rfl, jW_s 55 (by decide +kernel) rfl, jW_t 10 (by decide +kernel) rfl, jW_t 948 (by decide +kernel) rfl, by decide +kernel, by decide +kernel, by decide +kernel⟩
theorem mv_X8_148 : j_mv RX8 148 1 M_X8_holeOf := ⟨jW_t 868 (by decide +kernel) rfl, jW_t 870 (by decide +kernel) rfl, jW_s 42 (by decide +kernel) rfl, jW_t 10 (by decide +kernel) rfl, jW_t 871 (by decide +kernel) rfl, by decide +kernel, by decide +kernel, by decide +kernel⟩
theorem ms_X8_151 : j_ms RX8 151 3 M_X8_isBetween := ⟨jW_t 919 (by decide +kernel) rfl, jW_t 920 (by decide +kernel) rfl, jW_t 10 (by decide +kernel) rfl, jW_t 921 (by decide +kernel) rfl, by decide +kernel, by decide +kernel, by decide +kernel⟩
theorem mv_X8_154 : j_mv RX8 154 2 M_X8_cross := ⟨jW_t 915 (by decide +kernel) rfl, jW_t 917 (by decide +kernel) rfl, jW_s 51 (by decide +kernel) rfl, jW_t 10 (by decide +kernel) rfl, jW_t 918 (by decide +kernel) rfl, by decide +kernel, by decide +kernel, by decide +kernel⟩
theorem mv_X8_157 : j_mv RX8 157 1 M_X8_isLine := ⟨jW_t 864 (by decide +kernel) rfl, jW_t 866 (by decide +kernel) rfl, jW_s 41 (by decide +kernel) rfl, jW_t 10 (by decide +kernel) rfl, jW_t 867 (by decide +kernel) rfl, by decide +kernel, by decide +kernel, by decide +kernel⟩
theorem mv_X8_161 : j_mv RX8 161 1 M_X8_isCall := ⟨jW_t 892 (by decide +kernel) rfl, jW_t 894 (by decide +kernel) rfl, jW_s 47 (by decide +kernel) rfl, jW_t 10 (by decide +kernel) rfl, jW_t 895 (by decide +kernel) rfl, by decide +kernel, by decide +kernel, by decide +kernel⟩
theorem mv_X8_164 : j_mv RX8 164 0 M_X8_crossed := ⟨jW_t 911 (by decide +kernel) rfl, jW_t 913 (by decide +kernel) rfl, jW_s 50 (by decide +kernel) rfl, jW_t 10 (by decide +kernel) rfl, jW_t 914 (by decide +kernel) rfl, by decide +kernel, by decide +kernel, by decide +kernel⟩
theorem ms_X8_168 : j_ms RX8 168 4 M_X8_copy := ⟨jW_t 930 (by decide +kernel) rfl, jW_t 931 (by decide +kernel) rfl, jW_t 10 (by decide +kernel) rfl, jW_t 932 (by decide +kernel) rfl, by decide +kernel, by decide +kernel, by decide +kernel⟩
theorem mv_X8_172 : j_mv RX8 172 0 M_X8_note := ⟨jW_t 926 (by decide +kernel) rfl, jW_t 928 (by decide +kernel) rfl, jW_s 52 (by decide +kernel) rfl, jW_t 10 (by decide +kernel) rfl, jW_t 929 (by decide +kernel) rfl, by decide +kernel, by decide +kernel, by decide +kernel⟩
theorem mv_X8_175 : j_mv RX8 175 1 M_X8_pass := ⟨jW_t 933 (by decide +kernel) rfl, jW_t 935 (by decide +kernel) rfl, jW_s 53 (by decide +kernel) rfl, jW_t 10 (by decide +kernel) rfl, jW_t 936 (by decide +kernel) rfl, by decide +kernel, by decide +kernel, by decide +kernel⟩
theorem mv_X8_179 : j_mv RX8 179 3 M_X8_canPlug := ⟨jW_t 941 (by decide +kernel) rfl, jW_t 943 (by decide +kernel) rfl, jW_s 54 (by decide +kernel) rfl, jW_t 10 (by decide +kernel) rfl, jW_t 944 (by decide +kernel) rfl, by decide +kernel, by decide +kernel, by decide +kernel⟩
theorem mv_X8_183 : j_mv RX8 183 2 M_X8_plug := ⟨jW_t 949 (by decide +kernel) rfl, jW_t 951 (by decide +kernel) rfl, jW_s 56 (by decide +kernel) rfl, jW_t 10 (by decide +kernel) rfl, jW_t 952 (by decide +kernel) rfl, by decide +kernel, by decide +kernel, by decide +kernel⟩
theorem mv_X8_187 : j_mv RX8 187 3 M_X8_isAhead := ⟨jW_t 973 (by decide +kernel) rfl, jW_t 975 (by decide +kernel) rfl, jW_s 58 (by decide +kernel) rfl, jW_t 10 (by decide +kernel) rfl, jW_t 976 (by decide +kernel) rfl, by decide +kernel, by decide +kernel, by decide +kernel⟩
theorem mv_X8_190 : j_mv RX8 190 1 M_X8_layOrder := ⟨jW_t 969 (by decide +kernel) rfl, jW_t 971 (by decide +kernel) rfl, jW_s 57 (by decide +kernel) rfl, jW_t 10 (by decide +kernel) rfl, jW_t 972 (by decide +kernel) rfl, by decide +kernel, by decide +kernel, by decide +kernel⟩
theorem mv_X8_197 : j_mv RX8 197 3 M_X8_plugAll := ⟨jW_t 977 (by decide +kernel) rfl, jW_t 979 (by decide +kernel) rfl, jW_s 59 (by decide +kernel) rfl, jW_t 10 (by decide +kernel) rfl, jW_t 980 (by decide +kernel) rfl, by decide +kernel, by decide +kernel, by decide +kernel⟩
theorem ms_X8_201 : j_ms RX8 201 2 M_X8_has := ⟨jW_t 981 (by decide +kernel) rfl, jW_t 982 (by decide +kernel) rfl, jW_t 10 (by decide +kernel) rfl, jW_t 983 (by decide +kernel) rfl, by decide +kernel, by decide +kernel, by decide +kernel⟩
theorem mv_X8_204 : j_mv RX8 204 1 M_X8_isEnough := ⟨jW_t 988 (by decide +kernel) rfl, jW_t 990 (by decide +kernel) rfl, jW_s 60 (by decide +kernel) rfl, jW_t 10 (by decide +kernel) rfl, jW_t 991 (by decide +kernel) rfl, by decide +kernel, by decide +kernel, by decide +kernel⟩
theorem mv_X8_207 : j_mv RX8 207 1 M_X8_waitedBy := ⟨jW_t 996 (by decide +kernel) rfl, jW_t 998 (by decide +kernel) rfl, jW_s 61 (by decide +kernel) rfl, jW_t 10 (by decide +kernel) rfl, jW_t 999 (by decide +kernel) rfl, by decide +kernel, by decide +kernel, by decide +kernel⟩
theorem mv_X8_210 : j_mv RX8 210 2 M_X8_nextRow := ⟨jW_t 1000 (by decide +kernel) rfl, jW_t 1002 (by decide +kernel) rfl, jW_s 62 (by decide +kernel) rfl, jW_t 10 (by decide +kernel) rfl, jW_t 1003 (by decide +kernel) rfl, by decide +kernel, by decide +kernel, by decide +kernel⟩
theorem ms_X8_213 : j_ms RX8 213 2 M_X8_distance := ⟨jW_t 1016 (by decide +kernel) rfl, jW_t 1017 (by decide +kernel) rfl, jW_t 10 (by decide +kernel) rfl, jW_t 1018 (by decide +kernel) rfl, by decide +kernel, by decide +kernel, by decide +kernel⟩
theorem mv_X8_217 : j_mv RX8 217 2 M_X8_longBy := ⟨jW_t 1012 (by decide +kernel) rfl, jW_t 1014 (by decide +kernel) rfl, jW_s 63 (by decide +kernel) rfl, jW_t 10 (by decide +kernel) rfl, jW_t 1015 (by decide +kernel) rfl, by decide +kernel, by decide +kernel, by decide +kernel⟩
theorem mv_X8_220 : j_mv RX8 220 0 M_X8_longCords := ⟨jW_t 1023 (by decide +kernel) rfl, jW_t 1009 (by decide +kernel) rfl, jW_t 1010 (by decide +kernel) rfl, jW_t 10 (by decide +kernel) rfl, jW_t 1011 (by decide +kernel) rfl, by decide +kernel, by decide +kernel, by decide +kernel⟩
theorem mv_X8_229 : j_mv RX8 229 1 M_X8_rankOf := ⟨jW_t 1045 (by decide +kernel) rfl, jW_t 1047 (by decide +kernel) rfl, jW_s 64 (by decide +kernel) rfl, jW_t 10 (by decide +kernel) rfl, jW_t 1048 (by decide +kernel) rfl, by decide +kernel, by decide +kernel, by decide +kernel⟩
theorem mv_X8_235 : j_mv RX8 235 1 M_X8_doctorOf := ⟨jW_t 1049 (by decide +kernel) rfl, jW_t 1051 (by decide +kernel) rfl, jW_s 65 (by decide +kernel) rfl, jW_t 10 (by decide +kernel) rfl, jW_t 1052 (by decide +kernel) rfl, by decide +kernel, by decide +kernel, by decide +kernel⟩
theorem mv_X8_238 : j_mv RX8 238 1 M_X8_gossipOf := ⟨jW_t 1054 (by decide +kernel) rfl, jW_t 1056 (by decide +kernel) rfl, jW_s 66 (by decide +kernel) rfl, jW_t 10 (by decide +kernel) rfl, jW_t 1057 (by decide +kernel) rfl, by decide +kernel, by decide +kernel, by decide +kernel⟩
theorem kc_J6_265 : Cond.constant RJ6 265 (Int32.ofInt 1431655765) ∈ jW := jW_t 416 (by decide +kernel) rfl
theorem kc_J6_266 : Cond.constant RJ6 266 (Int32.ofInt 858993459) ∈ jW := jW_t 417 (by decide +kernel) rfl
theorem kc_J6_267 : Cond.constant RJ6 267 (Int32.ofInt 252645135) ∈ jW := jW_t 418 (by decide +kernel) rfl
theorem kc_X5_35 : Cond.constant RX5 35 (Int32.ofInt 1000000) ∈ jW := jW_t 571 (by decide +kernel) rfl
theorem kc_X1_49 : Cond.constant RX1 49 (Int32.ofInt 1000000) ∈ jW := jW_t 638 (by decide +kernel) rfl
theorem kc_X7_242 : Cond.constant RX7 242 (Int32.ofInt (-1000000)) ∈ jW := jW_t 668 (by decide +kernel) rfl
theorem kc_X8_234 : Cond.constant RX8 234 (Int32.ofInt (-1000000)) ∈ jW := jW_t 1044 (by decide +kernel) rfl
theorem kl_X7_261 : Cond.constantLong RX7 261 10 ∈ jW := jW_t 677 (by decide +kernel) rfl
theorem kl_X7_263 : Cond.constantLong RX7 263 100 ∈ jW := jW_t 682 (by decide +kernel) rfl
theorem kl_X7_265 : Cond.constantLong RX7 265 1000 ∈ jW := jW_t 687 (by decide +kernel) rfl
theorem kl_X7_267 : Cond.constantLong RX7 267 10000 ∈ jW := jW_t 692 (by decide +kernel) rfl
theorem kl_X7_269 : Cond.constantLong RX7 269 100000 ∈ jW := jW_t 697 (by decide +kernel) rfl
theorem kl_X8_227 : Cond.constantLong RX8 227 10 ∈ jW := jW_t 1053 (by decide +kernel) rfl
theorem kl_X8_232 : Cond.constantLong RX8 232 100 ∈ jW := jW_t 1058 (by decide +kernel) rfl
theorem kl_X8_241 : Cond.constantLong RX8 241 1000 ∈ jW := jW_t 1059 (by decide +kernel) rfl
theorem kl_X8_243 : Cond.constantLong RX8 243 10000 ∈ jW := jW_t 1060 (by decide +kernel) rfl
theorem kl_X8_245 : Cond.constantLong RX8 245 100000 ∈ jW := jW_t 1061 (by decide +kernel) rfl
