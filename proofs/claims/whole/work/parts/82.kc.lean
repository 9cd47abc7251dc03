abbrev K_X0 : jM := (yX0_init, cX0_init, 2, none, { frames := 2, cells := 6, slots := 40, locals := 41 })
abbrev K_X1 : jM := (yX1_init, cX1_init, 2, none, { frames := 1, cells := 2, slots := 12, locals := 20 })
abbrev K_X2 : jM := (yX2_init, cX2_init, 2, none, { frames := 1, cells := 4, slots := 27, locals := 20 })
abbrev K_X3 : jM := (yX3_init, cX3_init, 1, none, { frames := 1, cells := 1, slots := 280, locals := 20 })
abbrev K_X4 : jM := (yX4_init, cX4_init, 2, none, { frames := 2, cells := 7, slots := 50, locals := 41 })
abbrev K_X5 : jM := (yX5_init, cX5_init, 2, none, { frames := 1, cells := 5, slots := 35, locals := 20 })
abbrev K_X6 : jM := (yX6_init, cX6_init, 1, none, { frames := 1, cells := 6, slots := 41, locals := 21 })
abbrev K_X7 : jM := (yX7_init, cX7_init, 1, none, { frames := 3, cells := 41, slots := 785, locals := 62 })
abbrev K_X8 : jM := (yX8_init, cX8_init, 2, none, { frames := 1, cells := 12, slots := 691, locals := 21 })
theorem wO2 : Cond.instanceMethod Lib.objectInit ∈ jW := jW_t 19 (by decide +kernel) rfl
theorem wO3 : Cond.code Lib.objectInit ⟨#[0xb1]⟩ 1 none ∈ jW := jW_t 20 (by decide +kernel) rfl
theorem wAI : Cond.arrayClass .int ∈ jW := jW_t 93 (by decide +kernel) rfl
theorem wAZ : Cond.arrayClass .boolean ∈ jW := jW_t 201 (by decide +kernel) rfl
theorem wO_X1 : Cond.methodLink RX1 3 Lib.objectInit ∈ jW := jW_t 241 (by decide +kernel) rfl
theorem kfp_X1_9 : k_fp RX1 9 1 1 (.array .int) true := ⟨RX1, TX1, 4, tyX1, rfl, by decide, inW_X1, jW_t 243 (by decide +kernel) rfl, tyX1_ok, nmX1, rfl, rfl, tyX1_ok 1 (by decide)⟩
theorem kfp_X1_15 : k_fp RX1 15 1 2 (.array .int) true := ⟨RX1, TX1, 4, tyX1, rfl, by decide, inW_X1, jW_t 244 (by decide +kernel) rfl, tyX1_ok, nmX1, rfl, rfl, tyX1_ok 2 (by decide)⟩
theorem kfp_X1_18 : k_fp RX1 18 1 0 (.object "BoardCords$Told") true := ⟨RX1, TX1, 4, tyX1, rfl, by decide, inW_X1, jW_t 242 (by decide +kernel) rfl, tyX1_ok, nmX1, rfl, rfl, tyX1_ok 0 (by decide)⟩
theorem wO_X2 : Cond.methodLink RX2 3 Lib.objectInit ∈ jW := jW_t 130 (by decide +kernel) rfl
theorem kfp_X2_9 : k_fp RX2 9 2 2 (.array .int) true := ⟨RX2, TX2, 6, tyX2, rfl, by decide, inW_X2, jW_t 134 (by decide +kernel) rfl, tyX2_ok, nmX2, rfl, rfl, tyX2_ok 2 (by decide)⟩
theorem kfp_X2_15 : k_fp RX2 15 2 3 (.array .int) true := ⟨RX2, TX2, 6, tyX2, rfl, by decide, inW_X2, jW_t 136 (by decide +kernel) rfl, tyX2_ok, nmX2, rfl, rfl, tyX2_ok 3 (by decide)⟩
theorem kfp_X2_18 : k_fp RX2 18 2 4 (.array .int) true := ⟨RX2, TX2, 6, tyX2, rfl, by decide, inW_X2, jW_t 139 (by decide +kernel) rfl, tyX2_ok, nmX2, rfl, rfl, tyX2_ok 4 (by decide)⟩
theorem kfp_X2_21 : k_fp RX2 21 2 5 (.array .int) true := ⟨RX2, TX2, 6, tyX2, rfl, by decide, inW_X2, jW_t 142 (by decide +kernel) rfl, tyX2_ok, nmX2, rfl, rfl, tyX2_ok 5 (by decide)⟩
theorem kfp_X2_24 : k_fp RX2 24 2 0 (.object "BoardCords$Told") true := ⟨RX2, TX2, 6, tyX2, rfl, by decide, inW_X2, jW_t 131 (by decide +kernel) rfl, tyX2_ok, nmX2, rfl, rfl, tyX2_ok 0 (by decide)⟩
theorem wO_X3 : Cond.methodLink RX3 1 Lib.objectInit ∈ jW := jW_t 162 (by decide +kernel) rfl
theorem kfp_X3_11 : k_fp RX3 11 3 0 (.array .int) true := ⟨RX3, TX3, 3, tyX3, rfl, by decide, inW_X3, jW_t 163 (by decide +kernel) rfl, tyX3_ok, nmX3, rfl, rfl, tyX3_ok 0 (by decide)⟩
theorem kfp_X3_15 : k_fp RX3 15 3 1 .int false := ⟨RX3, TX3, 3, tyX3, rfl, by decide, inW_X3, jW_t 164 (by decide +kernel) rfl, tyX3_ok, nmX3, rfl, rfl, tyX3_ok 1 (by decide)⟩
theorem kfp_X3_19 : k_fp RX3 19 3 2 .int false := ⟨RX3, TX3, 3, tyX3, rfl, by decide, inW_X3, jW_t 165 (by decide +kernel) rfl, tyX3_ok, nmX3, rfl, rfl, tyX3_ok 2 (by decide)⟩
theorem wO_X5 : Cond.methodLink RX5 3 Lib.objectInit ∈ jW := jW_t 207 (by decide +kernel) rfl
theorem kfp_X5_9 : k_fp RX5 9 5 1 (.array .int) true := ⟨RX5, TX5, 8, tyX5, rfl, by decide, inW_X5, jW_t 209 (by decide +kernel) rfl, tyX5_ok, nmX5, rfl, rfl, tyX5_ok 1 (by decide)⟩
theorem kfp_X5_15 : k_fp RX5 15 5 2 (.array .int) true := ⟨RX5, TX5, 8, tyX5, rfl, by decide, inW_X5, jW_t 210 (by decide +kernel) rfl, tyX5_ok, nmX5, rfl, rfl, tyX5_ok 2 (by decide)⟩
theorem kfp_X5_18 : k_fp RX5 18 5 5 (.array .int) true := ⟨RX5, TX5, 8, tyX5, rfl, by decide, inW_X5, jW_t 216 (by decide +kernel) rfl, tyX5_ok, nmX5, rfl, rfl, tyX5_ok 5 (by decide)⟩
theorem kfp_X5_21 : k_fp RX5 21 5 6 (.array .int) true := ⟨RX5, TX5, 8, tyX5, rfl, by decide, inW_X5, jW_t 217 (by decide +kernel) rfl, tyX5_ok, nmX5, rfl, rfl, tyX5_ok 6 (by decide)⟩
theorem kfp_X5_24 : k_fp RX5 24 5 7 (.array .int) true := ⟨RX5, TX5, 8, tyX5, rfl, by decide, inW_X5, jW_t 218 (by decide +kernel) rfl, tyX5_ok, nmX5, rfl, rfl, tyX5_ok 7 (by decide)⟩
theorem kfp_X5_27 : k_fp RX5 27 5 0 (.object "BoardCords$Told") true := ⟨RX5, TX5, 8, tyX5, rfl, by decide, inW_X5, jW_t 208 (by decide +kernel) rfl, tyX5_ok, nmX5, rfl, rfl, tyX5_ok 0 (by decide)⟩
theorem wO_X0 : Cond.methodLink RX0 3 Lib.objectInit ∈ jW := jW_t 179 (by decide +kernel) rfl
theorem kfp_X0_9 : k_fp RX0 9 0 2 (.array .int) true := ⟨RX0, TX0, 5, tyX0, rfl, by decide, inW_X0, jW_t 185 (by decide +kernel) rfl, tyX0_ok, nmX0, rfl, rfl, tyX0_ok 2 (by decide)⟩
theorem kfp_X0_15 : k_fp RX0 15 0 3 .int false := ⟨RX0, TX0, 5, tyX0, rfl, by decide, inW_X0, jW_t 186 (by decide +kernel) rfl, tyX0_ok, nmX0, rfl, rfl, tyX0_ok 3 (by decide)⟩
theorem kfp_X0_19 : k_fp RX0 19 0 0 (.object "BoardCords$Told") true := ⟨RX0, TX0, 5, tyX0, rfl, by decide, inW_X0, jW_t 182 (by decide +kernel) rfl, tyX0_ok, nmX0, rfl, rfl, tyX0_ok 0 (by decide)⟩
theorem knw_X0_23 : k_nw RX0 23 2 6 [.null, .int (Int32.ofInt 0), .null, .null, .null, .null] := ⟨RX2, TX2, tyX2, rfl, inW_X2, tyX2_ok, jW_t 180 (by decide +kernel) rfl, jW_t 126 (by decide +kernel) rfl, jW_t 4 (by decide +kernel) rfl, fun j hj => by
  rcases (show j = 0 ∨ j = 1 ∨ j = 2 ∨ j = 3 ∨ j = 4 ∨ j = 5 by omega) with rfl | rfl | rfl | rfl | rfl | rfl <;> rfl⟩
theorem kmi_X2 (own : String) (idx : Nat) : k_mi own idx 1 K_X2 := ⟨jW_t 128 (by decide +kernel) rfl, jW_t 4 (by decide +kernel) rfl, jW_t 129 (by decide +kernel) rfl, rfl, rfl, by decide +kernel, by decide +kernel, by decide +kernel⟩
theorem kml_X0_25 : Cond.methodLink RX0 25 K_X2.1 ∈ jW := jW_t 181 (by decide +kernel) rfl
theorem kfp_X0_28 : k_fp RX0 28 0 1 (.object "BoardCords$Moment") true := ⟨RX0, TX0, 5, tyX0, rfl, by decide, inW_X0, jW_t 183 (by decide +kernel) rfl, tyX0_ok, nmX0, rfl, rfl, tyX0_ok 1 (by decide)⟩
set_option maxHeartbeats 4000000 in
theorem kc_X1 (G : kG) (h0 told : Nat) : KC G K_X1 [.ref h0, .ref told] [(h0, .inr (1, [.null, .null, .null, .int (Int32.ofInt 0)]))] (fun w => ∃ r1 r2 : Nat, w = [(h0, .inr (1, [.ref told, .ref r1, .ref r2, .int (Int32.ofInt 0)])), (r1, .inl (G.2.2.1, 6, .inl (fun _ => Int32.ofInt 0))), (r2, .inl (G.2.2.1, 6, .inl (fun _ => Int32.ofInt 0)))]) 2 12 := by
  refine KC.of (by decide +kernel) rfl rfl (Nat.le_of_ble_eq_true rfl) ?_
  refine k_aload 0 dX1_init_0 rfl ?_
  refine k_obj dX1_init_1 wO_X1 wO2 wO3 (Nat.le_of_ble_eq_true rfl) (Nat.le_of_ble_eq_true rfl) ?_
  refine k_aload 0 dX1_init_4 rfl ?_
  refine k_bipush (Int32.ofInt 6) dX1_init_5 rfl ?_
  refine k_newI 6 dX1_init_7 wAI (by decide) (by decide) (Nat.le_of_ble_eq_true rfl) (Nat.le_of_ble_eq_true rfl) (Nat.le_of_ble_eq_true rfl) (fun q7 => ?_)
  refine k_put (ws' := (h0, .inr (1, [.null, .ref q7, .null, .int (Int32.ofInt 0)])) :: ([] ++ [(q7, .inl (G.2.2.1, 6, .inl (fun _ => Int32.ofInt 0)))])) 0 dX1_init_9 kfp_X1_9 rfl rfl rfl (Nat.le_of_ble_eq_true rfl) rfl ?_
  refine k_aload 0 dX1_init_12 rfl ?_
  refine k_bipush (Int32.ofInt 6) dX1_init_13 rfl ?_
  refine k_newI 6 dX1_init_15 wAI (by decide) (by decide) (Nat.le_of_ble_eq_true rfl) (Nat.le_of_ble_eq_true rfl) (Nat.le_of_ble_eq_true rfl) (fun q15 => ?_)
  refine k_put (ws' := (h0, .inr (1, [.null, .ref q7, .ref q15, .int (Int32.ofInt 0)])) :: (([] ++ [(q7, .inl (G.2.2.1, 6, .inl (fun _ => Int32.ofInt 0)))]) ++ [(q15, .inl (G.2.2.1, 6, .inl (fun _ => Int32.ofInt 0)))])) 0 dX1_init_17 kfp_X1_15 rfl rfl rfl (Nat.le_of_ble_eq_true rfl) rfl ?_
  refine k_aload 0 dX1_init_20 rfl ?_
  refine k_aload 1 dX1_init_21 rfl ?_
  refine k_put (ws' := (h0, .inr (1, [.ref told, .ref q7, .ref q15, .int (Int32.ofInt 0)])) :: (([] ++ [(q7, .inl (G.2.2.1, 6, .inl (fun _ => Int32.ofInt 0)))]) ++ [(q15, .inl (G.2.2.1, 6, .inl (fun _ => Int32.ofInt 0)))])) 0 dX1_init_22 kfp_X1_18 rfl rfl rfl (Nat.le_of_ble_eq_true rfl) rfl ?_
  exact k_ret dX1_init_25 ⟨q7, q15, rfl⟩
set_option maxHeartbeats 4000000 in
theorem kc_X2 (G : kG) (h0 told : Nat) : KC G K_X2 [.ref h0, .ref told] [(h0, .inr (2, [.null, .int (Int32.ofInt 0), .null, .null, .null, .null]))] (fun w => ∃ r1 r2 r3 r4 : Nat, w = [(h0, .inr (2, [.ref told, .int (Int32.ofInt 0), .ref r1, .ref r2, .ref r3, .ref r4])), (r1, .inl (G.2.2.1, 6, .inl (fun _ => Int32.ofInt 0))), (r2, .inl (G.2.2.1, 7, .inl (fun _ => Int32.ofInt 0))), (r3, .inl (G.2.2.1, 7, .inl (fun _ => Int32.ofInt 0))), (r4, .inl (G.2.2.1, 7, .inl (fun _ => Int32.ofInt 0)))]) 4 27 := by
  refine KC.of (by decide +kernel) rfl rfl (Nat.le_of_ble_eq_true rfl) ?_
  refine k_aload 0 dX2_init_0 rfl ?_
  refine k_obj dX2_init_1 wO_X2 wO2 wO3 (Nat.le_of_ble_eq_true rfl) (Nat.le_of_ble_eq_true rfl) ?_
  refine k_aload 0 dX2_init_4 rfl ?_
  refine k_bipush (Int32.ofInt 6) dX2_init_5 rfl ?_
  refine k_newI 6 dX2_init_7 wAI (by decide) (by decide) (Nat.le_of_ble_eq_true rfl) (Nat.le_of_ble_eq_true rfl) (Nat.le_of_ble_eq_true rfl) (fun q7 => ?_)
  refine k_put (ws' := (h0, .inr (2, [.null, .int (Int32.ofInt 0), .ref q7, .null, .null, .null])) :: ([] ++ [(q7, .inl (G.2.2.1, 6, .inl (fun _ => Int32.ofInt 0)))])) 0 dX2_init_9 kfp_X2_9 rfl rfl rfl (Nat.le_of_ble_eq_true rfl) rfl ?_
  refine k_aload 0 dX2_init_12 rfl ?_
  refine k_bipush (Int32.ofInt 7) dX2_init_13 rfl ?_
  refine k_newI 7 dX2_init_15 wAI (by decide) (by decide) (Nat.le_of_ble_eq_true rfl) (Nat.le_of_ble_eq_true rfl) (Nat.le_of_ble_eq_true rfl) (fun q15 => ?_)
  refine k_put (ws' := (h0, .inr (2, [.null, .int (Int32.ofInt 0), .ref q7, .ref q15, .null, .null])) :: (([] ++ [(q7, .inl (G.2.2.1, 6, .inl (fun _ => Int32.ofInt 0)))]) ++ [(q15, .inl (G.2.2.1, 7, .inl (fun _ => Int32.ofInt 0)))])) 0 dX2_init_17 kfp_X2_15 rfl rfl rfl (Nat.le_of_ble_eq_true rfl) rfl ?_
  refine k_aload 0 dX2_init_20 rfl ?_
  refine k_bipush (Int32.ofInt 7) dX2_init_21 rfl ?_
  refine k_newI 7 dX2_init_23 wAI (by decide) (by decide) (Nat.le_of_ble_eq_true rfl) (Nat.le_of_ble_eq_true rfl) (Nat.le_of_ble_eq_true rfl) (fun q23 => ?_)
  refine k_put (ws' := (h0, .inr (2, [.null, .int (Int32.ofInt 0), .ref q7, .ref q15, .ref q23, .null])) :: ((([] ++ [(q7, .inl (G.2.2.1, 6, .inl (fun _ => Int32.ofInt 0)))]) ++ [(q15, .inl (G.2.2.1, 7, .inl (fun _ => Int32.ofInt 0)))]) ++ [(q23, .inl (G.2.2.1, 7, .inl (fun _ => Int32.ofInt 0)))])) 0 dX2_init_25 kfp_X2_18 rfl rfl rfl (Nat.le_of_ble_eq_true rfl) rfl ?_
  refine k_aload 0 dX2_init_28 rfl ?_
  refine k_bipush (Int32.ofInt 7) dX2_init_29 rfl ?_
  refine k_newI 7 dX2_init_31 wAI (by decide) (by decide) (Nat.le_of_ble_eq_true rfl) (Nat.le_of_ble_eq_true rfl) (Nat.le_of_ble_eq_true rfl) (fun q31 => ?_)
  refine k_put (ws' := (h0, .inr (2, [.null, .int (Int32.ofInt 0), .ref q7, .ref q15, .ref q23, .ref q31])) :: (((([] ++ [(q7, .inl (G.2.2.1, 6, .inl (fun _ => Int32.ofInt 0)))]) ++ [(q15, .inl (G.2.2.1, 7, .inl (fun _ => Int32.ofInt 0)))]) ++ [(q23, .inl (G.2.2.1, 7, .inl (fun _ => Int32.ofInt 0)))]) ++ [(q31, .inl (G.2.2.1, 7, .inl (fun _ => Int32.ofInt 0)))])) 0 dX2_init_33 kfp_X2_21 rfl rfl rfl (Nat.le_of_ble_eq_true rfl) rfl ?_
  refine k_aload 0 dX2_init_36 rfl ?_
  refine k_aload 1 dX2_init_37 rfl ?_
  refine k_put (ws' := (h0, .inr (2, [.ref told, .int (Int32.ofInt 0), .ref q7, .ref q15, .ref q23, .ref q31])) :: (((([] ++ [(q7, .inl (G.2.2.1, 6, .inl (fun _ => Int32.ofInt 0)))]) ++ [(q15, .inl (G.2.2.1, 7, .inl (fun _ => Int32.ofInt 0)))]) ++ [(q23, .inl (G.2.2.1, 7, .inl (fun _ => Int32.ofInt 0)))]) ++ [(q31, .inl (G.2.2.1, 7, .inl (fun _ => Int32.ofInt 0)))])) 0 dX2_init_38 kfp_X2_24 rfl rfl rfl (Nat.le_of_ble_eq_true rfl) rfl ?_
  exact k_ret dX2_init_41 ⟨q7, q15, q23, q31, rfl⟩
set_option maxHeartbeats 4000000 in
theorem kc_X3 (G : kG) (h0 : Nat) : KC G K_X3 [.ref h0] [(h0, .inr (3, [.null, .int (Int32.ofInt 0), .int (Int32.ofInt 0)]))] (fun w => ∃ r1 : Nat, w = [(h0, .inr (3, [.ref r1, .int (Int32.ofInt 0), .int (Int32.ofInt 0)])), (r1, .inl (G.2.2.1, 280, .inl (fun _ => Int32.ofInt 0)))]) 1 280 := by
  refine KC.of (by decide +kernel) rfl rfl (Nat.le_of_ble_eq_true rfl) ?_
  refine k_aload 0 dX3_init_0 rfl ?_
  refine k_obj dX3_init_1 wO_X3 wO2 wO3 (Nat.le_of_ble_eq_true rfl) (Nat.le_of_ble_eq_true rfl) ?_
  refine k_aload 0 dX3_init_4 rfl ?_
  refine k_sipush (Int32.ofInt 280) dX3_init_5 rfl ?_
  refine k_newI 280 dX3_init_8 wAI (by decide) (by decide) (Nat.le_of_ble_eq_true rfl) (Nat.le_of_ble_eq_true rfl) (Nat.le_of_ble_eq_true rfl) (fun q8 => ?_)
  refine k_put (ws' := (h0, .inr (3, [.ref q8, .int (Int32.ofInt 0), .int (Int32.ofInt 0)])) :: ([] ++ [(q8, .inl (G.2.2.1, 280, .inl (fun _ => Int32.ofInt 0)))])) 0 dX3_init_10 kfp_X3_11 rfl rfl rfl (Nat.le_of_ble_eq_true rfl) rfl ?_
  refine k_aload 0 dX3_init_13 rfl ?_
  refine k_iconst (Int32.ofInt 0) dX3_init_14 rfl ?_
  refine k_put (ws' := (h0, .inr (3, [.ref q8, .int (Int32.ofInt 0), .int (Int32.ofInt 0)])) :: ([] ++ [(q8, .inl (G.2.2.1, 280, .inl (fun _ => Int32.ofInt 0)))])) 0 dX3_init_15 kfp_X3_15 rfl rfl rfl (Nat.le_of_ble_eq_true rfl) rfl ?_
  refine k_aload 0 dX3_init_18 rfl ?_
  refine k_iconst (Int32.ofInt 0) dX3_init_19 rfl ?_
  refine k_put (ws' := (h0, .inr (3, [.ref q8, .int (Int32.ofInt 0), .int (Int32.ofInt 0)])) :: ([] ++ [(q8, .inl (G.2.2.1, 280, .inl (fun _ => Int32.ofInt 0)))])) 0 dX3_init_20 kfp_X3_19 rfl rfl rfl (Nat.le_of_ble_eq_true rfl) rfl ?_
  exact k_ret dX3_init_23 ⟨q8, rfl⟩
set_option maxHeartbeats 4000000 in
theorem kc_X5 (G : kG) (h0 told : Nat) : KC G K_X5 [.ref h0, .ref told] [(h0, .inr (5, [.null, .null, .null, .int (Int32.ofInt 0), .int (Int32.ofInt 0), .null, .null, .null]))] (fun w => ∃ r1 r2 r3 r4 r5 : Nat, w = [(h0, .inr (5, [.ref told, .ref r1, .ref r2, .int (Int32.ofInt 0), .int (Int32.ofInt 0), .ref r3, .ref r4, .ref r5])), (r1, .inl (G.2.2.1, 7, .inl (fun _ => Int32.ofInt 0))), (r2, .inl (G.2.2.1, 7, .inl (fun _ => Int32.ofInt 0))), (r3, .inl (G.2.2.1, 7, .inl (fun _ => Int32.ofInt 0))), (r4, .inl (G.2.2.1, 7, .inl (fun _ => Int32.ofInt 0))), (r5, .inl (G.2.2.1, 7, .inl (fun _ => Int32.ofInt 0)))]) 5 35 := by
  refine KC.of (by decide +kernel) rfl rfl (Nat.le_of_ble_eq_true rfl) ?_
  refine k_aload 0 dX5_init_0 rfl ?_
  refine k_obj dX5_init_1 wO_X5 wO2 wO3 (Nat.le_of_ble_eq_true rfl) (Nat.le_of_ble_eq_true rfl) ?_
  refine k_aload 0 dX5_init_4 rfl ?_
  refine k_bipush (Int32.ofInt 7) dX5_init_5 rfl ?_
  refine k_newI 7 dX5_init_7 wAI (by decide) (by decide) (Nat.le_of_ble_eq_true rfl) (Nat.le_of_ble_eq_true rfl) (Nat.le_of_ble_eq_true rfl) (fun q7 => ?_)
  refine k_put (ws' := (h0, .inr (5, [.null, .ref q7, .null, .int (Int32.ofInt 0), .int (Int32.ofInt 0), .null, .null, .null])) :: ([] ++ [(q7, .inl (G.2.2.1, 7, .inl (fun _ => Int32.ofInt 0)))])) 0 dX5_init_9 kfp_X5_9 rfl rfl rfl (Nat.le_of_ble_eq_true rfl) rfl ?_
  refine k_aload 0 dX5_init_12 rfl ?_
  refine k_bipush (Int32.ofInt 7) dX5_init_13 rfl ?_
  refine k_newI 7 dX5_init_15 wAI (by decide) (by decide) (Nat.le_of_ble_eq_true rfl) (Nat.le_of_ble_eq_true rfl) (Nat.le_of_ble_eq_true rfl) (fun q15 => ?_)
  refine k_put (ws' := (h0, .inr (5, [.null, .ref q7, .ref q15, .int (Int32.ofInt 0), .int (Int32.ofInt 0), .null, .null, .null])) :: (([] ++ [(q7, .inl (G.2.2.1, 7, .inl (fun _ => Int32.ofInt 0)))]) ++ [(q15, .inl (G.2.2.1, 7, .inl (fun _ => Int32.ofInt 0)))])) 0 dX5_init_17 kfp_X5_15 rfl rfl rfl (Nat.le_of_ble_eq_true rfl) rfl ?_
  refine k_aload 0 dX5_init_20 rfl ?_
  refine k_bipush (Int32.ofInt 7) dX5_init_21 rfl ?_
  refine k_newI 7 dX5_init_23 wAI (by decide) (by decide) (Nat.le_of_ble_eq_true rfl) (Nat.le_of_ble_eq_true rfl) (Nat.le_of_ble_eq_true rfl) (fun q23 => ?_)
  refine k_put (ws' := (h0, .inr (5, [.null, .ref q7, .ref q15, .int (Int32.ofInt 0), .int (Int32.ofInt 0), .ref q23, .null, .null])) :: ((([] ++ [(q7, .inl (G.2.2.1, 7, .inl (fun _ => Int32.ofInt 0)))]) ++ [(q15, .inl (G.2.2.1, 7, .inl (fun _ => Int32.ofInt 0)))]) ++ [(q23, .inl (G.2.2.1, 7, .inl (fun _ => Int32.ofInt 0)))])) 0 dX5_init_25 kfp_X5_18 rfl rfl rfl (Nat.le_of_ble_eq_true rfl) rfl ?_
  refine k_aload 0 dX5_init_28 rfl ?_
  refine k_bipush (Int32.ofInt 7) dX5_init_29 rfl ?_
  refine k_newI 7 dX5_init_31 wAI (by decide) (by decide) (Nat.le_of_ble_eq_true rfl) (Nat.le_of_ble_eq_true rfl) (Nat.le_of_ble_eq_true rfl) (fun q31 => ?_)
  refine k_put (ws' := (h0, .inr (5, [.null, .ref q7, .ref q15, .int (Int32.ofInt 0), .int (Int32.ofInt 0), .ref q23, .ref q31, .null])) :: (((([] ++ [(q7, .inl (G.2.2.1, 7, .inl (fun _ => Int32.ofInt 0)))]) ++ [(q15, .inl (G.2.2.1, 7, .inl (fun _ => Int32.ofInt 0)))]) ++ [(q23, .inl (G.2.2.1, 7, .inl (fun _ => Int32.ofInt 0)))]) ++ [(q31, .inl (G.2.2.1, 7, .inl (fun _ => Int32.ofInt 0)))])) 0 dX5_init_33 kfp_X5_21 rfl rfl rfl (Nat.le_of_ble_eq_true rfl) rfl ?_
  refine k_aload 0 dX5_init_36 rfl ?_
  refine k_bipush (Int32.ofInt 7) dX5_init_37 rfl ?_
  refine k_newI 7 dX5_init_39 wAI (by decide) (by decide) (Nat.le_of_ble_eq_true rfl) (Nat.le_of_ble_eq_true rfl) (Nat.le_of_ble_eq_true rfl) (fun q39 => ?_)
  refine k_put (ws' := (h0, .inr (5, [.null, .ref q7, .ref q15, .int (Int32.ofInt 0), .int (Int32.ofInt 0), .ref q23, .ref q31, .ref q39])) :: ((((([] ++ [(q7, .inl (G.2.2.1, 7, .inl (fun _ => Int32.ofInt 0)))]) ++ [(q15, .inl (G.2.2.1, 7, .inl (fun _ => Int32.ofInt 0)))]) ++ [(q23, .inl (G.2.2.1, 7, .inl (fun _ => Int32.ofInt 0)))]) ++ [(q31, .inl (G.2.2.1, 7, .inl (fun _ => Int32.ofInt 0)))]) ++ [(q39, .inl (G.2.2.1, 7, .inl (fun _ => Int32.ofInt 0)))])) 0 dX5_init_41 kfp_X5_24 rfl rfl rfl (Nat.le_of_ble_eq_true rfl) rfl ?_
  refine k_aload 0 dX5_init_44 rfl ?_
  refine k_aload 1 dX5_init_45 rfl ?_
  refine k_put (ws' := (h0, .inr (5, [.ref told, .ref q7, .ref q15, .int (Int32.ofInt 0), .int (Int32.ofInt 0), .ref q23, .ref q31, .ref q39])) :: ((((([] ++ [(q7, .inl (G.2.2.1, 7, .inl (fun _ => Int32.ofInt 0)))]) ++ [(q15, .inl (G.2.2.1, 7, .inl (fun _ => Int32.ofInt 0)))]) ++ [(q23, .inl (G.2.2.1, 7, .inl (fun _ => Int32.ofInt 0)))]) ++ [(q31, .inl (G.2.2.1, 7, .inl (fun _ => Int32.ofInt 0)))]) ++ [(q39, .inl (G.2.2.1, 7, .inl (fun _ => Int32.ofInt 0)))])) 0 dX5_init_46 kfp_X5_27 rfl rfl rfl (Nat.le_of_ble_eq_true rfl) rfl ?_
  exact k_ret dX5_init_49 ⟨q7, q15, q23, q31, q39, rfl⟩
set_option maxHeartbeats 4000000 in
theorem kc_X0 (G : kG) (h0 told : Nat) : KC G K_X0 [.ref h0, .ref told] [(h0, .inr (0, [.null, .null, .null, .int (Int32.ofInt 0), .int (Int32.ofInt 0)]))] (fun w => ∃ r0 t0 r1 r2 r3 r4 : Nat, w = [(h0, .inr (0, [.ref told, .ref t0, .ref r0, .int (Int32.ofInt (-9)), .int (Int32.ofInt 0)])), (r0, .inl (G.2.2.1, 7, .inl (fun _ => Int32.ofInt 0))), (t0, .inr (2, [.ref told, .int (Int32.ofInt 0), .ref r1, .ref r2, .ref r3, .ref r4])), (r1, .inl (G.2.2.1, 6, .inl (fun _ => Int32.ofInt 0))), (r2, .inl (G.2.2.1, 7, .inl (fun _ => Int32.ofInt 0))), (r3, .inl (G.2.2.1, 7, .inl (fun _ => Int32.ofInt 0))), (r4, .inl (G.2.2.1, 7, .inl (fun _ => Int32.ofInt 0)))]) 6 40 := by
  refine KC.of (by decide +kernel) rfl rfl (Nat.le_of_ble_eq_true rfl) ?_
  refine k_aload 0 dX0_init_0 rfl ?_
  refine k_obj dX0_init_1 wO_X0 wO2 wO3 (Nat.le_of_ble_eq_true rfl) (Nat.le_of_ble_eq_true rfl) ?_
  refine k_aload 0 dX0_init_4 rfl ?_
  refine k_bipush (Int32.ofInt 7) dX0_init_5 rfl ?_
  refine k_newI 7 dX0_init_7 wAI (by decide) (by decide) (Nat.le_of_ble_eq_true rfl) (Nat.le_of_ble_eq_true rfl) (Nat.le_of_ble_eq_true rfl) (fun q7 => ?_)
  refine k_put (ws' := (h0, .inr (0, [.null, .null, .ref q7, .int (Int32.ofInt 0), .int (Int32.ofInt 0)])) :: ([] ++ [(q7, .inl (G.2.2.1, 7, .inl (fun _ => Int32.ofInt 0)))])) 0 dX0_init_9 kfp_X0_9 rfl rfl rfl (Nat.le_of_ble_eq_true rfl) rfl ?_
  refine k_aload 0 dX0_init_12 rfl ?_
  refine k_bipush (Int32.ofInt (-9)) dX0_init_13 rfl ?_
  refine k_put (ws' := (h0, .inr (0, [.null, .null, .ref q7, .int (Int32.ofInt (-9)), .int (Int32.ofInt 0)])) :: ([] ++ [(q7, .inl (G.2.2.1, 7, .inl (fun _ => Int32.ofInt 0)))])) 0 dX0_init_15 kfp_X0_15 rfl rfl rfl (Nat.le_of_ble_eq_true rfl) rfl ?_
  refine k_aload 0 dX0_init_18 rfl ?_
  refine k_aload 1 dX0_init_19 rfl ?_
  refine k_put (ws' := (h0, .inr (0, [.ref told, .null, .ref q7, .int (Int32.ofInt (-9)), .int (Int32.ofInt 0)])) :: ([] ++ [(q7, .inl (G.2.2.1, 7, .inl (fun _ => Int32.ofInt 0)))])) 0 dX0_init_20 kfp_X0_19 rfl rfl rfl (Nat.le_of_ble_eq_true rfl) rfl ?_
  refine k_aload 0 dX0_init_23 rfl ?_
  refine k_new dX0_init_24 knw_X0_23 (Nat.le_of_ble_eq_true rfl) (Nat.le_of_ble_eq_true rfl) (fun q24 => ?_)
  refine k_dup dX0_init_27 ?_
  refine k_aload 1 dX0_init_28 rfl ?_
  refine k_ctor (M := K_X0) (M' := K_X2) (a := 2) (b := 13) (ws := (h0, .inr (0, [.ref told, .null, .ref q7, .int (Int32.ofInt (-9)), .int (Int32.ofInt 0)])) :: ([] ++ [(q7, .inl (G.2.2.1, 7, .inl (fun _ => Int32.ofInt 0)))])) (av := [.ref told]) (st := [.ref q24, .ref h0]) dX0_init_29 kml_X0_25 (kmi_X2 _ _) ⟨rfl, rfl, (Nat.le_of_ble_eq_true rfl), (Nat.le_of_ble_eq_true rfl)⟩ ⟨(Nat.le_of_ble_eq_true rfl), (Nat.le_of_ble_eq_true rfl)⟩ rfl (Nat.le_of_ble_eq_true rfl) (kc_X2 G q24 told) (fun w29 hw29 => ?_)
  refine k_put (ws' := (h0, .inr (0, [.ref told, .ref q24, .ref q7, .int (Int32.ofInt (-9)), .int (Int32.ofInt 0)])) :: (([] ++ [(q7, .inl (G.2.2.1, 7, .inl (fun _ => Int32.ofInt 0)))]) ++ w29)) 0 dX0_init_32 kfp_X0_28 rfl rfl rfl (Nat.le_of_ble_eq_true rfl) rfl ?_
  obtain ⟨r1, r2, r3, r4, rfl⟩ := hw29
  exact k_ret dX0_init_35 ⟨q7, q24, r1, r2, r3, r4, rfl⟩
