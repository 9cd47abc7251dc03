theorem wO_X7 : Cond.methodLink RX7 1 Lib.objectInit ∈ jW := jW_t 18 (by decide +kernel) rfl
theorem kfp_X7_9 : k_fp RX7 9 7 0 (.array .int) true := ⟨RX7, TX7, 12, tyX7, rfl, by decide, inW_X7, jW_t 268 (by decide +kernel) rfl, tyX7_ok, nmX7, rfl, rfl, tyX7_ok 0 (by decide)⟩
theorem knw_X7_13 : k_nw RX7 13 6 9 [.int (Int32.ofInt 0), .int (Int32.ofInt 0), .int (Int32.ofInt 0), .null, .null, .null, .null, .null, .null] := ⟨RX6, TX6, tyX6, rfl, inW_X6, tyX6_ok, jW_t 21 (by decide +kernel) rfl, jW_t 22 (by decide +kernel) rfl, jW_t 2 (by decide +kernel) rfl, fun j hj => by
  rcases (show j = 0 ∨ j = 1 ∨ j = 2 ∨ j = 3 ∨ j = 4 ∨ j = 5 ∨ j = 6 ∨ j = 7 ∨ j = 8 by omega) with rfl | rfl | rfl | rfl | rfl | rfl | rfl | rfl | rfl <;> rfl⟩
theorem kml_X7_15 : Cond.methodLink RX7 15 K_X6.1 ∈ jW := jW_t 23 (by decide +kernel) rfl
theorem kfp_X7_16 : k_fp RX7 16 7 1 (.object "BoardCords$Told") true := ⟨RX7, TX7, 12, tyX7, rfl, by decide, inW_X7, jW_t 269 (by decide +kernel) rfl, tyX7_ok, nmX7, rfl, rfl, tyX7_ok 1 (by decide)⟩
theorem knw_X7_20 : k_nw RX7 20 4 7 [.null, .null, .int (Int32.ofInt 0), .int (Int32.ofInt 0), .int (Int32.ofInt 0), .int (Int32.ofInt 0), .int (Int32.ofInt 0)] := ⟨RX4, TX4, tyX4, rfl, inW_X4, tyX4_ok, jW_t 94 (by decide +kernel) rfl, jW_t 95 (by decide +kernel) rfl, jW_t 3 (by decide +kernel) rfl, fun j hj => by
  rcases (show j = 0 ∨ j = 1 ∨ j = 2 ∨ j = 3 ∨ j = 4 ∨ j = 5 ∨ j = 6 by omega) with rfl | rfl | rfl | rfl | rfl | rfl | rfl <;> rfl⟩
theorem kfl_X7_9 : j_fl vwCl RX7 9 7 0 := ⟨RX7, TX7, 12, rfl, by decide, inW_X7, jW_t 268 (by decide +kernel) rfl⟩
theorem kmi_X4 (own : String) (idx : Nat) : k_mi own idx 1 K_X4 := ⟨jW_t 97 (by decide +kernel) rfl, jW_t 3 (by decide +kernel) rfl, jW_t 98 (by decide +kernel) rfl, rfl, rfl, by decide +kernel, by decide +kernel, by decide +kernel⟩
theorem kml_X7_22 : Cond.methodLink RX7 22 K_X4.1 ∈ jW := jW_t 96 (by decide +kernel) rfl
theorem kfp_X7_25 : k_fp RX7 25 7 2 (.object "BoardCords$Reader") true := ⟨RX7, TX7, 12, tyX7, rfl, by decide, inW_X7, jW_t 270 (by decide +kernel) rfl, tyX7_ok, nmX7, rfl, rfl, tyX7_ok 2 (by decide)⟩
theorem knw_X7_29 : k_nw RX7 29 2 6 [.null, .int (Int32.ofInt 0), .null, .null, .null, .null] := ⟨RX2, TX2, tyX2, rfl, inW_X2, tyX2_ok, jW_t 125 (by decide +kernel) rfl, jW_t 126 (by decide +kernel) rfl, jW_t 4 (by decide +kernel) rfl, fun j hj => by
  rcases (show j = 0 ∨ j = 1 ∨ j = 2 ∨ j = 3 ∨ j = 4 ∨ j = 5 by omega) with rfl | rfl | rfl | rfl | rfl | rfl <;> rfl⟩
theorem kfl_X7_16 : j_fl vwCl RX7 16 7 1 := ⟨RX7, TX7, 12, rfl, by decide, inW_X7, jW_t 269 (by decide +kernel) rfl⟩
theorem kml_X7_31 : Cond.methodLink RX7 31 K_X2.1 ∈ jW := jW_t 127 (by decide +kernel) rfl
theorem kfp_X7_34 : k_fp RX7 34 7 3 (.object "BoardCords$Moment") true := ⟨RX7, TX7, 12, tyX7, rfl, by decide, inW_X7, jW_t 271 (by decide +kernel) rfl, tyX7_ok, nmX7, rfl, rfl, tyX7_ok 3 (by decide)⟩
theorem knw_X7_38 : k_nw RX7 38 3 3 [.null, .int (Int32.ofInt 0), .int (Int32.ofInt 0)] := ⟨RX3, TX3, tyX3, rfl, inW_X3, tyX3_ok, jW_t 157 (by decide +kernel) rfl, jW_t 158 (by decide +kernel) rfl, jW_t 5 (by decide +kernel) rfl, fun j hj => by
  rcases (show j = 0 ∨ j = 1 ∨ j = 2 by omega) with rfl | rfl | rfl <;> rfl⟩
theorem kmi_X3 (own : String) (idx : Nat) : k_mi own idx 0 K_X3 := ⟨jW_t 160 (by decide +kernel) rfl, jW_t 5 (by decide +kernel) rfl, jW_t 161 (by decide +kernel) rfl, rfl, rfl, by decide +kernel, by decide +kernel, by decide +kernel⟩
theorem kfp_X7_41 : k_fp RX7 41 7 4 (.object "BoardCords$Past") true := ⟨RX7, TX7, 12, tyX7, rfl, by decide, inW_X7, jW_t 272 (by decide +kernel) rfl, tyX7_ok, nmX7, rfl, rfl, tyX7_ok 4 (by decide)⟩
theorem kfp_X7_45 : k_fp RX7 45 7 5 (.array .int) true := ⟨RX7, TX7, 12, tyX7, rfl, by decide, inW_X7, jW_t 273 (by decide +kernel) rfl, tyX7_ok, nmX7, rfl, rfl, tyX7_ok 5 (by decide)⟩
theorem kfp_X7_48 : k_fp RX7 48 7 6 (.array .boolean) true := ⟨RX7, TX7, 12, tyX7, rfl, by decide, inW_X7, jW_t 274 (by decide +kernel) rfl, tyX7_ok, nmX7, rfl, rfl, tyX7_ok 6 (by decide)⟩
theorem knw_X7_52 : k_nw RX7 52 0 5 [.null, .null, .null, .int (Int32.ofInt 0), .int (Int32.ofInt 0)] := ⟨RX0, TX0, tyX0, rfl, inW_X0, tyX0_ok, jW_t 174 (by decide +kernel) rfl, jW_t 175 (by decide +kernel) rfl, jW_t 6 (by decide +kernel) rfl, fun j hj => by
  rcases (show j = 0 ∨ j = 1 ∨ j = 2 ∨ j = 3 ∨ j = 4 by omega) with rfl | rfl | rfl | rfl | rfl <;> rfl⟩
theorem kmi_X0 (own : String) (idx : Nat) : k_mi own idx 1 K_X0 := ⟨jW_t 177 (by decide +kernel) rfl, jW_t 6 (by decide +kernel) rfl, jW_t 178 (by decide +kernel) rfl, rfl, rfl, by decide +kernel, by decide +kernel, by decide +kernel⟩
theorem kml_X7_54 : Cond.methodLink RX7 54 K_X0.1 ∈ jW := jW_t 176 (by decide +kernel) rfl
theorem kfp_X7_55 : k_fp RX7 55 7 7 (.object "BoardCords$Day") true := ⟨RX7, TX7, 12, tyX7, rfl, by decide, inW_X7, jW_t 275 (by decide +kernel) rfl, tyX7_ok, nmX7, rfl, rfl, tyX7_ok 7 (by decide)⟩
theorem knw_X7_59 : k_nw RX7 59 5 8 [.null, .null, .null, .int (Int32.ofInt 0), .int (Int32.ofInt 0), .null, .null, .null] := ⟨RX5, TX5, tyX5, rfl, inW_X5, tyX5_ok, jW_t 202 (by decide +kernel) rfl, jW_t 203 (by decide +kernel) rfl, jW_t 7 (by decide +kernel) rfl, fun j hj => by
  rcases (show j = 0 ∨ j = 1 ∨ j = 2 ∨ j = 3 ∨ j = 4 ∨ j = 5 ∨ j = 6 ∨ j = 7 by omega) with rfl | rfl | rfl | rfl | rfl | rfl | rfl | rfl <;> rfl⟩
theorem kmi_X5 (own : String) (idx : Nat) : k_mi own idx 1 K_X5 := ⟨jW_t 205 (by decide +kernel) rfl, jW_t 7 (by decide +kernel) rfl, jW_t 206 (by decide +kernel) rfl, rfl, rfl, by decide +kernel, by decide +kernel, by decide +kernel⟩
theorem kml_X7_61 : Cond.methodLink RX7 61 K_X5.1 ∈ jW := jW_t 204 (by decide +kernel) rfl
theorem kfp_X7_62 : k_fp RX7 62 7 8 (.object "BoardCords$RowSearch") true := ⟨RX7, TX7, 12, tyX7, rfl, by decide, inW_X7, jW_t 276 (by decide +kernel) rfl, tyX7_ok, nmX7, rfl, rfl, tyX7_ok 8 (by decide)⟩
theorem knw_X7_66 : k_nw RX7 66 1 4 [.null, .null, .null, .int (Int32.ofInt 0)] := ⟨RX1, TX1, tyX1, rfl, inW_X1, tyX1_ok, jW_t 236 (by decide +kernel) rfl, jW_t 237 (by decide +kernel) rfl, jW_t 8 (by decide +kernel) rfl, fun j hj => by
  rcases (show j = 0 ∨ j = 1 ∨ j = 2 ∨ j = 3 by omega) with rfl | rfl | rfl | rfl <;> rfl⟩
theorem kmi_X1 (own : String) (idx : Nat) : k_mi own idx 1 K_X1 := ⟨jW_t 239 (by decide +kernel) rfl, jW_t 8 (by decide +kernel) rfl, jW_t 240 (by decide +kernel) rfl, rfl, rfl, by decide +kernel, by decide +kernel, by decide +kernel⟩
theorem kml_X7_68 : Cond.methodLink RX7 68 K_X1.1 ∈ jW := jW_t 238 (by decide +kernel) rfl
theorem kfp_X7_69 : k_fp RX7 69 7 9 (.object "BoardCords$HoleSearch") true := ⟨RX7, TX7, 12, tyX7, rfl, by decide, inW_X7, jW_t 277 (by decide +kernel) rfl, tyX7_ok, nmX7, rfl, rfl, tyX7_ok 9 (by decide)⟩
theorem kfp_X7_73 : k_fp RX7 73 7 10 .int false := ⟨RX7, TX7, 12, tyX7, rfl, by decide, inW_X7, jW_t 278 (by decide +kernel) rfl, tyX7_ok, nmX7, rfl, rfl, tyX7_ok 10 (by decide)⟩
theorem kfp_X7_77 : k_fp RX7 77 7 11 .long false := ⟨RX7, TX7, 12, tyX7, rfl, by decide, inW_X7, jW_t 279 (by decide +kernel) rfl, tyX7_ok, nmX7, rfl, rfl, tyX7_ok 11 (by decide)⟩
theorem kfl_X7_34 : j_fl vwCl RX7 34 7 3 := ⟨RX7, TX7, 12, rfl, by decide, inW_X7, jW_t 271 (by decide +kernel) rfl⟩
set_option maxHeartbeats 8000000 in
set_option maxRecDepth 100000 in
theorem kc_X7 (G : kG) (h0 : Nat) : KC G K_X7 [.ref h0] [(h0, .inr (7, [.null, .null, .null, .null, .null, .null, .null, .null, .null, .null, .int (Int32.ofInt 0), .long 0]))] (fun w => ∃ (ad : Nat → Nat) (h : jH), ad 0 = h0 ∧ BRX sP jZ h ∧ j_Rg h ∧ w = j_w (k_g G ad) Sx.2.2 h) 41 785 := by
  refine KC.of (by decide +kernel) rfl rfl (Nat.le_of_ble_eq_true rfl) ?_
  refine k_aload 0 dX7_init_0 rfl ?_
  refine k_obj dX7_init_1 wO_X7 wO2 wO3 (Nat.le_of_ble_eq_true rfl) (Nat.le_of_ble_eq_true rfl) ?_
  refine k_aload 0 dX7_init_4 rfl ?_
  refine k_sipush (Int32.ofInt 200) dX7_init_5 rfl ?_
  refine k_newI 200 dX7_init_8 wAI (by decide) (by decide) (Nat.le_of_ble_eq_true rfl) (Nat.le_of_ble_eq_true rfl) (Nat.le_of_ble_eq_true rfl) (fun q8 => ?_)
  refine k_put (ws' := (h0, .inr (7, [.ref q8, .null, .null, .null, .null, .null, .null, .null, .null, .null, .int (Int32.ofInt 0), .long 0])) :: ([] ++ [(q8, .inl (G.2.2.1, 200, .inl (fun _ => Int32.ofInt 0)))])) 0 dX7_init_10 kfp_X7_9 rfl rfl rfl (Nat.le_of_ble_eq_true rfl) rfl ?_
  refine k_aload 0 dX7_init_13 rfl ?_
  refine k_new dX7_init_14 knw_X7_13 (Nat.le_of_ble_eq_true rfl) (Nat.le_of_ble_eq_true rfl) (fun q14 => ?_)
  refine k_dup dX7_init_17 ?_
  refine k_ctor (M := K_X7) (M' := K_X6) (a := 2) (b := 209) (ws := (h0, .inr (7, [.ref q8, .null, .null, .null, .null, .null, .null, .null, .null, .null, .int (Int32.ofInt 0), .long 0])) :: ([] ++ [(q8, .inl (G.2.2.1, 200, .inl (fun _ => Int32.ofInt 0)))])) (av := []) (st := [.ref q14, .ref h0]) dX7_init_18 kml_X7_15 (kmi_X6 _ _) ⟨rfl, rfl, (Nat.le_of_ble_eq_true rfl), (Nat.le_of_ble_eq_true rfl)⟩ ⟨(Nat.le_of_ble_eq_true rfl), (Nat.le_of_ble_eq_true rfl)⟩ rfl (Nat.le_of_ble_eq_true rfl) (kc_X6 G q14) (fun w18 hw18 => ?_)
  refine k_put (ws' := (h0, .inr (7, [.ref q8, .ref q14, .null, .null, .null, .null, .null, .null, .null, .null, .int (Int32.ofInt 0), .long 0])) :: (([] ++ [(q8, .inl (G.2.2.1, 200, .inl (fun _ => Int32.ofInt 0)))]) ++ w18)) 0 dX7_init_21 kfp_X7_16 rfl rfl rfl (Nat.le_of_ble_eq_true rfl) rfl ?_
  refine k_aload 0 dX7_init_24 rfl ?_
  refine k_new dX7_init_25 knw_X7_20 (Nat.le_of_ble_eq_true rfl) (Nat.le_of_ble_eq_true rfl) (fun q25 => ?_)
  refine k_dup dX7_init_28 ?_
  refine k_aload 0 dX7_init_29 rfl ?_
  refine k_get (v := .ref q8) 0 dX7_init_30 kfl_X7_9 rfl rfl ?_
  refine k_ctor (M := K_X7) (M' := K_X4) (a := 9) (b := 257) (ws := (h0, .inr (7, [.ref q8, .ref q14, .null, .null, .null, .null, .null, .null, .null, .null, .int (Int32.ofInt 0), .long 0])) :: (([] ++ [(q8, .inl (G.2.2.1, 200, .inl (fun _ => Int32.ofInt 0)))]) ++ w18)) (av := [.ref q8]) (st := [.ref q25, .ref h0]) dX7_init_33 kml_X7_22 (kmi_X4 _ _) ⟨rfl, rfl, (Nat.le_of_ble_eq_true rfl), (Nat.le_of_ble_eq_true rfl)⟩ ⟨(Nat.le_of_ble_eq_true rfl), (Nat.le_of_ble_eq_true rfl)⟩ rfl (Nat.le_of_ble_eq_true rfl) (kc_X4 G q25 q8) (fun w33 hw33 => ?_)
  refine k_put (ws' := (h0, .inr (7, [.ref q8, .ref q14, .ref q25, .null, .null, .null, .null, .null, .null, .null, .int (Int32.ofInt 0), .long 0])) :: ((([] ++ [(q8, .inl (G.2.2.1, 200, .inl (fun _ => Int32.ofInt 0)))]) ++ w18) ++ w33)) 0 dX7_init_36 kfp_X7_25 rfl rfl rfl (Nat.le_of_ble_eq_true rfl) rfl ?_
  refine k_aload 0 dX7_init_39 rfl ?_
  refine k_new dX7_init_40 knw_X7_29 (Nat.le_of_ble_eq_true rfl) (Nat.le_of_ble_eq_true rfl) (fun q40 => ?_)
  refine k_dup dX7_init_43 ?_
  refine k_aload 0 dX7_init_44 rfl ?_
  refine k_get (v := .ref q14) 0 dX7_init_45 kfl_X7_16 rfl rfl ?_
  refine k_ctor (M := K_X7) (M' := K_X2) (a := 17) (b := 313) (ws := (h0, .inr (7, [.ref q8, .ref q14, .ref q25, .null, .null, .null, .null, .null, .null, .null, .int (Int32.ofInt 0), .long 0])) :: ((([] ++ [(q8, .inl (G.2.2.1, 200, .inl (fun _ => Int32.ofInt 0)))]) ++ w18) ++ w33)) (av := [.ref q14]) (st := [.ref q40, .ref h0]) dX7_init_48 kml_X7_31 (kmi_X2 _ _) ⟨rfl, rfl, (Nat.le_of_ble_eq_true rfl), (Nat.le_of_ble_eq_true rfl)⟩ ⟨(Nat.le_of_ble_eq_true rfl), (Nat.le_of_ble_eq_true rfl)⟩ rfl (Nat.le_of_ble_eq_true rfl) (kc_X2 G q40 q14) (fun w48 hw48 => ?_)
  refine k_put (ws' := (h0, .inr (7, [.ref q8, .ref q14, .ref q25, .ref q40, .null, .null, .null, .null, .null, .null, .int (Int32.ofInt 0), .long 0])) :: (((([] ++ [(q8, .inl (G.2.2.1, 200, .inl (fun _ => Int32.ofInt 0)))]) ++ w18) ++ w33) ++ w48)) 0 dX7_init_51 kfp_X7_34 rfl rfl rfl (Nat.le_of_ble_eq_true rfl) rfl ?_
  refine k_aload 0 dX7_init_54 rfl ?_
  refine k_new dX7_init_55 knw_X7_38 (Nat.le_of_ble_eq_true rfl) (Nat.le_of_ble_eq_true rfl) (fun q55 => ?_)
  refine k_dup dX7_init_58 ?_
  refine k_ctorN (M := K_X7) (M' := K_X3) (a := 22) (b := 343) (ws := (h0, .inr (7, [.ref q8, .ref q14, .ref q25, .ref q40, .null, .null, .null, .null, .null, .null, .int (Int32.ofInt 0), .long 0])) :: (((([] ++ [(q8, .inl (G.2.2.1, 200, .inl (fun _ => Int32.ofInt 0)))]) ++ w18) ++ w33) ++ w48)) (av := []) (st := [.ref q55, .ref h0]) dX7_init_59 (fun s hs => hs.2) (kmi_X3 _ _) ⟨rfl, rfl, (Nat.le_of_ble_eq_true rfl), (Nat.le_of_ble_eq_true rfl)⟩ ⟨(Nat.le_of_ble_eq_true rfl), (Nat.le_of_ble_eq_true rfl)⟩ rfl (Nat.le_of_ble_eq_true rfl) (kc_X3 G q55) (fun w59 hw59 => ?_)
  refine k_put (ws' := (h0, .inr (7, [.ref q8, .ref q14, .ref q25, .ref q40, .ref q55, .null, .null, .null, .null, .null, .int (Int32.ofInt 0), .long 0])) :: ((((([] ++ [(q8, .inl (G.2.2.1, 200, .inl (fun _ => Int32.ofInt 0)))]) ++ w18) ++ w33) ++ w48) ++ w59)) 0 dX7_init_62 kfp_X7_41 rfl rfl rfl (Nat.le_of_ble_eq_true rfl) rfl ?_
  refine k_aload 0 dX7_init_65 rfl ?_
  refine k_bipush (Int32.ofInt 56) dX7_init_66 rfl ?_
  refine k_newI 56 dX7_init_68 wAI (by decide) (by decide) (Nat.le_of_ble_eq_true rfl) (Nat.le_of_ble_eq_true rfl) (Nat.le_of_ble_eq_true rfl) (fun q68 => ?_)
  refine k_put (ws' := (h0, .inr (7, [.ref q8, .ref q14, .ref q25, .ref q40, .ref q55, .ref q68, .null, .null, .null, .null, .int (Int32.ofInt 0), .long 0])) :: (((((([] ++ [(q8, .inl (G.2.2.1, 200, .inl (fun _ => Int32.ofInt 0)))]) ++ w18) ++ w33) ++ w48) ++ w59) ++ [(q68, .inl (G.2.2.1, 56, .inl (fun _ => Int32.ofInt 0)))])) 0 dX7_init_70 kfp_X7_45 rfl rfl rfl (Nat.le_of_ble_eq_true rfl) rfl ?_
  refine k_aload 0 dX7_init_73 rfl ?_
  refine k_iconst (Int32.ofInt 2) dX7_init_74 rfl ?_
  refine k_newZ 2 dX7_init_75 wAZ (by decide) (by decide) (Nat.le_of_ble_eq_true rfl) (Nat.le_of_ble_eq_true rfl) (Nat.le_of_ble_eq_true rfl) (fun q75 => ?_)
  refine k_put (ws' := (h0, .inr (7, [.ref q8, .ref q14, .ref q25, .ref q40, .ref q55, .ref q68, .ref q75, .null, .null, .null, .int (Int32.ofInt 0), .long 0])) :: ((((((([] ++ [(q8, .inl (G.2.2.1, 200, .inl (fun _ => Int32.ofInt 0)))]) ++ w18) ++ w33) ++ w48) ++ w59) ++ [(q68, .inl (G.2.2.1, 56, .inl (fun _ => Int32.ofInt 0)))]) ++ [(q75, .inl (G.2.2.2, 2, .inl (fun _ => Int32.ofInt 0)))])) 0 dX7_init_77 kfp_X7_48 rfl rfl rfl (Nat.le_of_ble_eq_true rfl) rfl ?_
  refine k_aload 0 dX7_init_80 rfl ?_
  refine k_new dX7_init_81 knw_X7_52 (Nat.le_of_ble_eq_true rfl) (Nat.le_of_ble_eq_true rfl) (fun q81 => ?_)
  refine k_dup dX7_init_84 ?_
  refine k_aload 0 dX7_init_85 rfl ?_
  refine k_get (v := .ref q14) 0 dX7_init_86 kfl_X7_16 rfl rfl ?_
  refine k_ctor (M := K_X7) (M' := K_X0) (a := 26) (b := 686) (ws := (h0, .inr (7, [.ref q8, .ref q14, .ref q25, .ref q40, .ref q55, .ref q68, .ref q75, .null, .null, .null, .int (Int32.ofInt 0), .long 0])) :: ((((((([] ++ [(q8, .inl (G.2.2.1, 200, .inl (fun _ => Int32.ofInt 0)))]) ++ w18) ++ w33) ++ w48) ++ w59) ++ [(q68, .inl (G.2.2.1, 56, .inl (fun _ => Int32.ofInt 0)))]) ++ [(q75, .inl (G.2.2.2, 2, .inl (fun _ => Int32.ofInt 0)))])) (av := [.ref q14]) (st := [.ref q81, .ref h0]) dX7_init_89 kml_X7_54 (kmi_X0 _ _) ⟨rfl, rfl, (Nat.le_of_ble_eq_true rfl), (Nat.le_of_ble_eq_true rfl)⟩ ⟨(Nat.le_of_ble_eq_true rfl), (Nat.le_of_ble_eq_true rfl)⟩ rfl (Nat.le_of_ble_eq_true rfl) (kc_X0 G q81 q14) (fun w89 hw89 => ?_)
  refine k_put (ws' := (h0, .inr (7, [.ref q8, .ref q14, .ref q25, .ref q40, .ref q55, .ref q68, .ref q75, .ref q81, .null, .null, .int (Int32.ofInt 0), .long 0])) :: (((((((([] ++ [(q8, .inl (G.2.2.1, 200, .inl (fun _ => Int32.ofInt 0)))]) ++ w18) ++ w33) ++ w48) ++ w59) ++ [(q68, .inl (G.2.2.1, 56, .inl (fun _ => Int32.ofInt 0)))]) ++ [(q75, .inl (G.2.2.2, 2, .inl (fun _ => Int32.ofInt 0)))]) ++ w89)) 0 dX7_init_92 kfp_X7_55 rfl rfl rfl (Nat.le_of_ble_eq_true rfl) rfl ?_
  refine k_aload 0 dX7_init_95 rfl ?_
  refine k_new dX7_init_96 knw_X7_59 (Nat.le_of_ble_eq_true rfl) (Nat.le_of_ble_eq_true rfl) (fun q96 => ?_)
  refine k_dup dX7_init_99 ?_
  refine k_aload 0 dX7_init_100 rfl ?_
  refine k_get (v := .ref q14) 0 dX7_init_101 kfl_X7_16 rfl rfl ?_
  refine k_ctor (M := K_X7) (M' := K_X5) (a := 33) (b := 734) (ws := (h0, .inr (7, [.ref q8, .ref q14, .ref q25, .ref q40, .ref q55, .ref q68, .ref q75, .ref q81, .null, .null, .int (Int32.ofInt 0), .long 0])) :: (((((((([] ++ [(q8, .inl (G.2.2.1, 200, .inl (fun _ => Int32.ofInt 0)))]) ++ w18) ++ w33) ++ w48) ++ w59) ++ [(q68, .inl (G.2.2.1, 56, .inl (fun _ => Int32.ofInt 0)))]) ++ [(q75, .inl (G.2.2.2, 2, .inl (fun _ => Int32.ofInt 0)))]) ++ w89)) (av := [.ref q14]) (st := [.ref q96, .ref h0]) dX7_init_104 kml_X7_61 (kmi_X5 _ _) ⟨rfl, rfl, (Nat.le_of_ble_eq_true rfl), (Nat.le_of_ble_eq_true rfl)⟩ ⟨(Nat.le_of_ble_eq_true rfl), (Nat.le_of_ble_eq_true rfl)⟩ rfl (Nat.le_of_ble_eq_true rfl) (kc_X5 G q96 q14) (fun w104 hw104 => ?_)
  refine k_put (ws' := (h0, .inr (7, [.ref q8, .ref q14, .ref q25, .ref q40, .ref q55, .ref q68, .ref q75, .ref q81, .ref q96, .null, .int (Int32.ofInt 0), .long 0])) :: ((((((((([] ++ [(q8, .inl (G.2.2.1, 200, .inl (fun _ => Int32.ofInt 0)))]) ++ w18) ++ w33) ++ w48) ++ w59) ++ [(q68, .inl (G.2.2.1, 56, .inl (fun _ => Int32.ofInt 0)))]) ++ [(q75, .inl (G.2.2.2, 2, .inl (fun _ => Int32.ofInt 0)))]) ++ w89) ++ w104)) 0 dX7_init_107 kfp_X7_62 rfl rfl rfl (Nat.le_of_ble_eq_true rfl) rfl ?_
  refine k_aload 0 dX7_init_110 rfl ?_
  refine k_new dX7_init_111 knw_X7_66 (Nat.le_of_ble_eq_true rfl) (Nat.le_of_ble_eq_true rfl) (fun q111 => ?_)
  refine k_dup dX7_init_114 ?_
  refine k_aload 0 dX7_init_115 rfl ?_
  refine k_get (v := .ref q14) 0 dX7_init_116 kfl_X7_16 rfl rfl ?_
  refine k_ctor (M := K_X7) (M' := K_X1) (a := 39) (b := 773) (ws := (h0, .inr (7, [.ref q8, .ref q14, .ref q25, .ref q40, .ref q55, .ref q68, .ref q75, .ref q81, .ref q96, .null, .int (Int32.ofInt 0), .long 0])) :: ((((((((([] ++ [(q8, .inl (G.2.2.1, 200, .inl (fun _ => Int32.ofInt 0)))]) ++ w18) ++ w33) ++ w48) ++ w59) ++ [(q68, .inl (G.2.2.1, 56, .inl (fun _ => Int32.ofInt 0)))]) ++ [(q75, .inl (G.2.2.2, 2, .inl (fun _ => Int32.ofInt 0)))]) ++ w89) ++ w104)) (av := [.ref q14]) (st := [.ref q111, .ref h0]) dX7_init_119 kml_X7_68 (kmi_X1 _ _) ⟨rfl, rfl, (Nat.le_of_ble_eq_true rfl), (Nat.le_of_ble_eq_true rfl)⟩ ⟨(Nat.le_of_ble_eq_true rfl), (Nat.le_of_ble_eq_true rfl)⟩ rfl (Nat.le_of_ble_eq_true rfl) (kc_X1 G q111 q14) (fun w119 hw119 => ?_)
  refine k_put (ws' := (h0, .inr (7, [.ref q8, .ref q14, .ref q25, .ref q40, .ref q55, .ref q68, .ref q75, .ref q81, .ref q96, .ref q111, .int (Int32.ofInt 0), .long 0])) :: (((((((((([] ++ [(q8, .inl (G.2.2.1, 200, .inl (fun _ => Int32.ofInt 0)))]) ++ w18) ++ w33) ++ w48) ++ w59) ++ [(q68, .inl (G.2.2.1, 56, .inl (fun _ => Int32.ofInt 0)))]) ++ [(q75, .inl (G.2.2.2, 2, .inl (fun _ => Int32.ofInt 0)))]) ++ w89) ++ w104) ++ w119)) 0 dX7_init_122 kfp_X7_69 rfl rfl rfl (Nat.le_of_ble_eq_true rfl) rfl ?_
  refine k_aload 0 dX7_init_125 rfl ?_
  refine k_iconst (Int32.ofInt 0) dX7_init_126 rfl ?_
  refine k_put (ws' := (h0, .inr (7, [.ref q8, .ref q14, .ref q25, .ref q40, .ref q55, .ref q68, .ref q75, .ref q81, .ref q96, .ref q111, .int (Int32.ofInt 0), .long 0])) :: (((((((((([] ++ [(q8, .inl (G.2.2.1, 200, .inl (fun _ => Int32.ofInt 0)))]) ++ w18) ++ w33) ++ w48) ++ w59) ++ [(q68, .inl (G.2.2.1, 56, .inl (fun _ => Int32.ofInt 0)))]) ++ [(q75, .inl (G.2.2.2, 2, .inl (fun _ => Int32.ofInt 0)))]) ++ w89) ++ w104) ++ w119)) 0 dX7_init_127 kfp_X7_73 rfl rfl rfl (Nat.le_of_ble_eq_true rfl) rfl ?_
  refine k_aload 0 dX7_init_130 rfl ?_
  refine k_lconst 0 dX7_init_131 rfl ?_
  refine k_put (ws' := (h0, .inr (7, [.ref q8, .ref q14, .ref q25, .ref q40, .ref q55, .ref q68, .ref q75, .ref q81, .ref q96, .ref q111, .int (Int32.ofInt 0), .long 0])) :: (((((((((([] ++ [(q8, .inl (G.2.2.1, 200, .inl (fun _ => Int32.ofInt 0)))]) ++ w18) ++ w33) ++ w48) ++ w59) ++ [(q68, .inl (G.2.2.1, 56, .inl (fun _ => Int32.ofInt 0)))]) ++ [(q75, .inl (G.2.2.2, 2, .inl (fun _ => Int32.ofInt 0)))]) ++ w89) ++ w104) ++ w119)) 0 dX7_init_132 kfp_X7_77 rfl rfl rfl (Nat.le_of_ble_eq_true rfl) rfl ?_
  obtain ⟨adT, hT, eT, tiT, rT, rfl⟩ := hw18
  obtain ⟨adR, hR, tiR, rR, rfl⟩ := hw33
  obtain ⟨p1, p2, p3, p4, rfl⟩ := hw48
  obtain ⟨s1, rfl⟩ := hw59
  obtain ⟨d1, d2, d3, d4, d5, d6, rfl⟩ := hw89
  obtain ⟨e1, e2, e3, e4, e5, rfl⟩ := hw104
  obtain ⟨f1, f2, rfl⟩ := hw119
  subst eT
  refine k_aload 0 dX7_init_135 rfl ?_
  refine k_get (v := .ref q40) 0 dX7_init_136 kfl_X7_34 rfl rfl ?_
  obtain ⟨ad, a0, a1, a2, a3, a4, a5, a6, a7, a8, a9, a10, a11, a12, a13, a14, a15, a16, a17, a18, a19, a20, a21, a22, a23, a24, a25, a26, a27, a28, a29, a30, a31, a32, a33, a34, a35, a36, a37, a38, a39, a40, a41⟩ : ∃ ad : Nat → Nat, ad 0 = h0 ∧ ad 1 = q8 ∧ ad 2 = adT 0 ∧ ad 3 = adT 1 ∧ ad 4 = adT 2 ∧ ad 5 = adT 3 ∧ ad 6 = adT 4 ∧ ad 7 = adT 5 ∧ ad 8 = adT 6 ∧ ad 9 = q25 ∧ ad 10 = adR 0 ∧ ad 11 = adR 1 ∧ ad 12 = adR 2 ∧ ad 13 = adR 3 ∧ ad 14 = adR 4 ∧ ad 15 = adR 5 ∧ ad 16 = adR 6 ∧ ad 17 = q40 ∧ ad 18 = p1 ∧ ad 19 = p2 ∧ ad 20 = p3 ∧ ad 21 = p4 ∧ ad 22 = q55 ∧ ad 23 = s1 ∧ ad 24 = q68 ∧ ad 25 = q75 ∧ ad 26 = q81 ∧ ad 27 = d1 ∧ ad 28 = d2 ∧ ad 29 = d3 ∧ ad 30 = d4 ∧ ad 31 = d5 ∧ ad 32 = d6 ∧ ad 33 = q96 ∧ ad 34 = e1 ∧ ad 35 = e2 ∧ ad 36 = e3 ∧ ad 37 = e4 ∧ ad 38 = e5 ∧ ad 39 = q111 ∧ ad 40 = f1 ∧ ad 41 = f2 := ⟨(fun k => [h0, q8, adT 0, adT 1, adT 2, adT 3, adT 4, adT 5, adT 6, q25, adR 0, adR 1, adR 2, adR 3, adR 4, adR 5, adR 6, q40, p1, p2, p3, p4, q55, s1, q68, q75, q81, d1, d2, d3, d4, d5, d6, q96, e1, e2, e3, e4, e5, q111, f1, f2].getD k 0), rfl, rfl, rfl, rfl, rfl, rfl, rfl, rfl, rfl, rfl, rfl, rfl, rfl, rfl, rfl, rfl, rfl, rfl, rfl, rfl, rfl, rfl, rfl, rfl, rfl, rfl, rfl, rfl, rfl, rfl, rfl, rfl, rfl, rfl, rfl, rfl, rfl, rfl, rfl, rfl, rfl, rfl⟩
  refine WK.cg (ws2 := j_w (k_g G ad) Sx.2.2 (hX7 hT hR)) (st2 := [.ref (ad 17)]) (wX7 a0 a1 a2 a3 a4 a5 a6 a7 a8 a9 a10 a11 a12 a13 a14 a15 a16 a17 a18 a19 a20 a21 a22 a23 a24 a25 a26 a27 a28 a29 a30 a31 a32 a33 a34 a35 a36 a37 a38 a39 a40 a41) (by rw [a17]) ?_
  refine k_ct (M := K_X7) (a := 41) (b := 785) (S := Sx) (ad := ad) (h := hX7 hT hR) (kp := 17) rfl (fun U hU => hU.1) (hX7_Rg rT rR) dX7_init_139 kmv_X7_81 ⟨rfl, rfl, (Nat.le_of_ble_eq_true rfl), (Nat.le_of_ble_eq_true rfl)⟩ ⟨(Nat.le_of_ble_eq_true rfl), (Nat.le_of_ble_eq_true rfl)⟩ rfl rfl rfl (ct_begin (N := 0) (hX7_N tiT) (by decide)) (fun g hg hRg => ?_)
  exact k_ret dX7_init_142 ⟨ad, g, a0, hX7_br tiT hg, hRg, rfl⟩
