theorem wO_X8 : Cond.methodLink RX8 1 Lib.objectInit ∈ jW := jW_t 725 (by decide +kernel) rfl
theorem kfp_X8_7 : k_fp RX8 7 8 1 (.array .int) true := ⟨RX8, TX8, 29, tyX8, rfl, by decide, inW_X8, jW_t 731 (by decide +kernel) rfl, tyX8_ok, nmX8, rfl, rfl, tyX8_ok 1 (by decide)⟩
theorem kfp_X8_13 : k_fp RX8 13 8 10 (.array .int) true := ⟨RX8, TX8, 29, tyX8, rfl, by decide, inW_X8, jW_t 740 (by decide +kernel) rfl, tyX8_ok, nmX8, rfl, rfl, tyX8_ok 10 (by decide)⟩
theorem kfp_X8_16 : k_fp RX8 16 8 12 (.array .int) true := ⟨RX8, TX8, 29, tyX8, rfl, by decide, inW_X8, jW_t 742 (by decide +kernel) rfl, tyX8_ok, nmX8, rfl, rfl, tyX8_ok 12 (by decide)⟩
theorem kfp_X8_19 : k_fp RX8 19 8 13 .int false := ⟨RX8, TX8, 29, tyX8, rfl, by decide, inW_X8, jW_t 743 (by decide +kernel) rfl, tyX8_ok, nmX8, rfl, rfl, tyX8_ok 13 (by decide)⟩
theorem kfp_X8_23 : k_fp RX8 23 8 14 .int false := ⟨RX8, TX8, 29, tyX8, rfl, by decide, inW_X8, jW_t 744 (by decide +kernel) rfl, tyX8_ok, nmX8, rfl, rfl, tyX8_ok 14 (by decide)⟩
theorem kfp_X8_26 : k_fp RX8 26 8 16 (.array .int) true := ⟨RX8, TX8, 29, tyX8, rfl, by decide, inW_X8, jW_t 746 (by decide +kernel) rfl, tyX8_ok, nmX8, rfl, rfl, tyX8_ok 16 (by decide)⟩
theorem kfp_X8_29 : k_fp RX8 29 8 17 (.array .int) true := ⟨RX8, TX8, 29, tyX8, rfl, by decide, inW_X8, jW_t 747 (by decide +kernel) rfl, tyX8_ok, nmX8, rfl, rfl, tyX8_ok 17 (by decide)⟩
theorem kfp_X8_32 : k_fp RX8 32 8 18 (.array .int) true := ⟨RX8, TX8, 29, tyX8, rfl, by decide, inW_X8, jW_t 748 (by decide +kernel) rfl, tyX8_ok, nmX8, rfl, rfl, tyX8_ok 18 (by decide)⟩
theorem kfp_X8_35 : k_fp RX8 35 8 19 (.array .int) true := ⟨RX8, TX8, 29, tyX8, rfl, by decide, inW_X8, jW_t 749 (by decide +kernel) rfl, tyX8_ok, nmX8, rfl, rfl, tyX8_ok 19 (by decide)⟩
theorem kfp_X8_38 : k_fp RX8 38 8 20 (.array .boolean) true := ⟨RX8, TX8, 29, tyX8, rfl, by decide, inW_X8, jW_t 750 (by decide +kernel) rfl, tyX8_ok, nmX8, rfl, rfl, tyX8_ok 20 (by decide)⟩
theorem kfp_X8_42 : k_fp RX8 42 8 21 (.array .int) true := ⟨RX8, TX8, 29, tyX8, rfl, by decide, inW_X8, jW_t 751 (by decide +kernel) rfl, tyX8_ok, nmX8, rfl, rfl, tyX8_ok 21 (by decide)⟩
theorem kfp_X8_45 : k_fp RX8 45 8 23 (.array .int) true := ⟨RX8, TX8, 29, tyX8, rfl, by decide, inW_X8, jW_t 753 (by decide +kernel) rfl, tyX8_ok, nmX8, rfl, rfl, tyX8_ok 23 (by decide)⟩
theorem kfp_X8_48 : k_fp RX8 48 8 24 (.array .int) true := ⟨RX8, TX8, 29, tyX8, rfl, by decide, inW_X8, jW_t 754 (by decide +kernel) rfl, tyX8_ok, nmX8, rfl, rfl, tyX8_ok 24 (by decide)⟩
theorem kfp_X8_51 : k_fp RX8 51 8 25 (.array .int) true := ⟨RX8, TX8, 29, tyX8, rfl, by decide, inW_X8, jW_t 755 (by decide +kernel) rfl, tyX8_ok, nmX8, rfl, rfl, tyX8_ok 25 (by decide)⟩
theorem kfl_X8_13 : j_fl vwCl RX8 13 8 10 := ⟨RX8, TX8, 29, rfl, by decide, inW_X8, jW_t 740 (by decide +kernel) rfl⟩
theorem hX8_f0 : hX8.1 0 0 = 0 := rfl
theorem hX8_f2 : hX8.1 0 2 = 0 := rfl
theorem hX8_f3 : hX8.1 0 3 = 0 := rfl
theorem hX8_f4 : hX8.1 0 4 = 0 := rfl
theorem hX8_f5 : hX8.1 0 5 = 0 := rfl
theorem hX8_f6 : hX8.1 0 6 = 0 := rfl
theorem hX8_f7 : hX8.1 0 7 = 0 := rfl
theorem hX8_f8 : hX8.1 0 8 = 0 := rfl
theorem hX8_f9 : hX8.1 0 9 = 0 := rfl
theorem hX8_f11 : hX8.1 0 11 = 0 := rfl
theorem hX8_f13 : hX8.1 0 13 = 2 := rfl
theorem hX8_f14 : hX8.1 0 14 = 1 := rfl
theorem hX8_f15 : hX8.1 0 15 = 0 := rfl
theorem hX8_f22 : hX8.1 0 22 = 0 := rfl
theorem hX8_f26 : hX8.1 0 26 = 0 := rfl
theorem hX8_f27 : hX8.1 0 27 = 0 := rfl
theorem hX8_r1 : hX8.1 1 = fun _ => 0 := rfl
theorem hX8_r2 : hX8.1 2 = fun _ => 0 := rfl
theorem hX8_r3 : hX8.1 3 = fun _ => 0 := rfl
theorem hX8_r4 : hX8.1 4 = fun _ => 0 := rfl
theorem hX8_r5 : hX8.1 5 = fun _ => 0 := rfl
theorem hX8_r6 : hX8.1 6 = fun _ => 0 := rfl
theorem hX8_r7 : hX8.1 7 = fun _ => 0 := rfl
theorem hX8_r8 : hX8.1 8 = fun _ => 0 := rfl
theorem hX8_r9 : hX8.1 9 = fun _ => 0 := rfl
theorem hX8_r10 : hX8.1 10 = fun _ => 0 := rfl
theorem hX8_r11 : hX8.1 11 = fun _ => 0 := rfl
theorem hX8_r12 : hX8.1 12 = fun _ => 0 := rfl
theorem hX8_2 {k : Nat} : hX8.2 k = 0 := rfl
set_option maxHeartbeats 4000000 in
set_option maxRecDepth 100000 in
theorem wX8 {G : kG} {ad : Nat → Nat} {h0 q8 q16 q24 q42 q50 q58 q66 q73 q82 q90 q98 q106 : Nat} (a0 : ad 0 = h0) (a1 : ad 1 = q8) (a2 : ad 2 = q16) (a3 : ad 3 = q24) (a4 : ad 4 = q42) (a5 : ad 5 = q50) (a6 : ad 6 = q58) (a7 : ad 7 = q66) (a8 : ad 8 = q73) (a9 : ad 9 = q82) (a10 : ad 10 = q90) (a11 : ad 11 = q98) (a12 : ad 12 = q106) : ((h0, .inr (8, [.int (Int32.ofInt 0), .ref q8, .int (Int32.ofInt 0), .int (Int32.ofInt 0), .int (Int32.ofInt 0), .int (Int32.ofInt 0), .int (Int32.ofInt 0), .int (Int32.ofInt 0), .int (Int32.ofInt 0), .int (Int32.ofInt 0), .ref q16, .int (Int32.ofInt 0), .ref q24, .int (Int32.ofInt 2), .int (Int32.ofInt 1), .int (Int32.ofInt 0), .ref q42, .ref q50, .ref q58, .ref q66, .ref q73, .ref q82, .int (Int32.ofInt 0), .ref q90, .ref q98, .ref q106, .int (Int32.ofInt 0), .int (Int32.ofInt 0), .long 0])) :: (((((((((((([] ++ [(q8, .inl (G.2.2.1, 200, .inl (fun _ => Int32.ofInt 0)))]) ++ [(q16, .inl (G.2.2.1, 6, .inl (fun _ => Int32.ofInt 0)))]) ++ [(q24, .inl (G.2.2.1, 35, .inl (fun _ => Int32.ofInt 0)))]) ++ [(q42, .inl (G.2.2.1, 35, .inl (fun _ => Int32.ofInt 0)))]) ++ [(q50, .inl (G.2.2.1, 28, .inl (fun _ => Int32.ofInt 0)))]) ++ [(q58, .inl (G.2.2.1, 28, .inl (fun _ => Int32.ofInt 0)))]) ++ [(q66, .inl (G.2.2.1, 56, .inl (fun _ => Int32.ofInt 0)))]) ++ [(q73, .inl (G.2.2.2, 2, .inl (fun _ => Int32.ofInt 0)))]) ++ [(q82, .inl (G.2.2.1, 280, .inl (fun _ => Int32.ofInt 0)))]) ++ [(q90, .inl (G.2.2.1, 7, .inl (fun _ => Int32.ofInt 0)))]) ++ [(q98, .inl (G.2.2.1, 7, .inl (fun _ => Int32.ofInt 0)))]) ++ [(q106, .inl (G.2.2.1, 7, .inl (fun _ => Int32.ofInt 0)))]) : va_W) = j_w (k_g G ad) Sm.2.2 hX8 := by
  rw [jw_M, a0, a1, a2, a3, a4, a5, a6, a7, a8, a9, a10, a11, a12, hX8_f0, hX8_f2, hX8_f3, hX8_f4, hX8_f5, hX8_f6, hX8_f7, hX8_f8, hX8_f9, hX8_f11, hX8_f13, hX8_f14, hX8_f15, hX8_f22, hX8_f26, hX8_f27, hX8_r1, hX8_r2, hX8_r3, hX8_r4, hX8_r5, hX8_r6, hX8_r7, hX8_r8, hX8_r9, hX8_r10, hX8_r11, hX8_r12]
  simp only [List.nil_append, List.cons_append, hX8_2]
set_option maxHeartbeats 8000000 in
set_option maxRecDepth 100000 in
theorem kc_X8 (G : kG) (h0 : Nat) : KC G K_X8 [.ref h0] [(h0, .inr (8, [.int (Int32.ofInt 0), .null, .int (Int32.ofInt 0), .int (Int32.ofInt 0), .int (Int32.ofInt 0), .int (Int32.ofInt 0), .int (Int32.ofInt 0), .int (Int32.ofInt 0), .int (Int32.ofInt 0), .int (Int32.ofInt 0), .null, .int (Int32.ofInt 0), .null, .int (Int32.ofInt 0), .int (Int32.ofInt 0), .int (Int32.ofInt 0), .null, .null, .null, .null, .null, .null, .int (Int32.ofInt 0), .null, .null, .null, .int (Int32.ofInt 0), .int (Int32.ofInt 0), .long 0]))] (fun w => ∃ (ad : Nat → Nat) (h : jH), ad 0 = h0 ∧ BRM sP jZ h ∧ j_Rg h ∧ w = j_w (k_g G ad) Sm.2.2 h) 12 691 := by
  refine KC.of (by decide +kernel) rfl rfl (Nat.le_of_ble_eq_true rfl) ?_
  refine k_aload 0 dX8_init_0 rfl ?_
  refine k_obj dX8_init_1 wO_X8 wO2 wO3 (Nat.le_of_ble_eq_true rfl) (Nat.le_of_ble_eq_true rfl) ?_
  refine k_aload 0 dX8_init_4 rfl ?_
  refine k_sipush (Int32.ofInt 200) dX8_init_5 rfl ?_
  refine k_newI 200 dX8_init_8 wAI (by decide) (by decide) (Nat.le_of_ble_eq_true rfl) (Nat.le_of_ble_eq_true rfl) (Nat.le_of_ble_eq_true rfl) (fun q8 => ?_)
  refine k_put (ws' := (h0, .inr (8, [.int (Int32.ofInt 0), .ref q8, .int (Int32.ofInt 0), .int (Int32.ofInt 0), .int (Int32.ofInt 0), .int (Int32.ofInt 0), .int (Int32.ofInt 0), .int (Int32.ofInt 0), .int (Int32.ofInt 0), .int (Int32.ofInt 0), .null, .int (Int32.ofInt 0), .null, .int (Int32.ofInt 0), .int (Int32.ofInt 0), .int (Int32.ofInt 0), .null, .null, .null, .null, .null, .null, .int (Int32.ofInt 0), .null, .null, .null, .int (Int32.ofInt 0), .int (Int32.ofInt 0), .long 0])) :: ([] ++ [(q8, .inl (G.2.2.1, 200, .inl (fun _ => Int32.ofInt 0)))])) 0 dX8_init_10 kfp_X8_7 rfl rfl rfl (Nat.le_of_ble_eq_true rfl) rfl ?_
  refine k_aload 0 dX8_init_13 rfl ?_
  refine k_bipush (Int32.ofInt 6) dX8_init_14 rfl ?_
  refine k_newI 6 dX8_init_16 wAI (by decide) (by decide) (Nat.le_of_ble_eq_true rfl) (Nat.le_of_ble_eq_true rfl) (Nat.le_of_ble_eq_true rfl) (fun q16 => ?_)
  refine k_put (ws' := (h0, .inr (8, [.int (Int32.ofInt 0), .ref q8, .int (Int32.ofInt 0), .int (Int32.ofInt 0), .int (Int32.ofInt 0), .int (Int32.ofInt 0), .int (Int32.ofInt 0), .int (Int32.ofInt 0), .int (Int32.ofInt 0), .int (Int32.ofInt 0), .ref q16, .int (Int32.ofInt 0), .null, .int (Int32.ofInt 0), .int (Int32.ofInt 0), .int (Int32.ofInt 0), .null, .null, .null, .null, .null, .null, .int (Int32.ofInt 0), .null, .null, .null, .int (Int32.ofInt 0), .int (Int32.ofInt 0), .long 0])) :: (([] ++ [(q8, .inl (G.2.2.1, 200, .inl (fun _ => Int32.ofInt 0)))]) ++ [(q16, .inl (G.2.2.1, 6, .inl (fun _ => Int32.ofInt 0)))])) 0 dX8_init_18 kfp_X8_13 rfl rfl rfl (Nat.le_of_ble_eq_true rfl) rfl ?_
  refine k_aload 0 dX8_init_21 rfl ?_
  refine k_bipush (Int32.ofInt 35) dX8_init_22 rfl ?_
  refine k_newI 35 dX8_init_24 wAI (by decide) (by decide) (Nat.le_of_ble_eq_true rfl) (Nat.le_of_ble_eq_true rfl) (Nat.le_of_ble_eq_true rfl) (fun q24 => ?_)
  refine k_put (ws' := (h0, .inr (8, [.int (Int32.ofInt 0), .ref q8, .int (Int32.ofInt 0), .int (Int32.ofInt 0), .int (Int32.ofInt 0), .int (Int32.ofInt 0), .int (Int32.ofInt 0), .int (Int32.ofInt 0), .int (Int32.ofInt 0), .int (Int32.ofInt 0), .ref q16, .int (Int32.ofInt 0), .ref q24, .int (Int32.ofInt 0), .int (Int32.ofInt 0), .int (Int32.ofInt 0), .null, .null, .null, .null, .null, .null, .int (Int32.ofInt 0), .null, .null, .null, .int (Int32.ofInt 0), .int (Int32.ofInt 0), .long 0])) :: ((([] ++ [(q8, .inl (G.2.2.1, 200, .inl (fun _ => Int32.ofInt 0)))]) ++ [(q16, .inl (G.2.2.1, 6, .inl (fun _ => Int32.ofInt 0)))]) ++ [(q24, .inl (G.2.2.1, 35, .inl (fun _ => Int32.ofInt 0)))])) 0 dX8_init_26 kfp_X8_16 rfl rfl rfl (Nat.le_of_ble_eq_true rfl) rfl ?_
  refine k_aload 0 dX8_init_29 rfl ?_
  refine k_iconst (Int32.ofInt 2) dX8_init_30 rfl ?_
  refine k_put (ws' := (h0, .inr (8, [.int (Int32.ofInt 0), .ref q8, .int (Int32.ofInt 0), .int (Int32.ofInt 0), .int (Int32.ofInt 0), .int (Int32.ofInt 0), .int (Int32.ofInt 0), .int (Int32.ofInt 0), .int (Int32.ofInt 0), .int (Int32.ofInt 0), .ref q16, .int (Int32.ofInt 0), .ref q24, .int (Int32.ofInt 2), .int (Int32.ofInt 0), .int (Int32.ofInt 0), .null, .null, .null, .null, .null, .null, .int (Int32.ofInt 0), .null, .null, .null, .int (Int32.ofInt 0), .int (Int32.ofInt 0), .long 0])) :: ((([] ++ [(q8, .inl (G.2.2.1, 200, .inl (fun _ => Int32.ofInt 0)))]) ++ [(q16, .inl (G.2.2.1, 6, .inl (fun _ => Int32.ofInt 0)))]) ++ [(q24, .inl (G.2.2.1, 35, .inl (fun _ => Int32.ofInt 0)))])) 0 dX8_init_31 kfp_X8_19 rfl rfl rfl (Nat.le_of_ble_eq_true rfl) rfl ?_
  refine k_aload 0 dX8_init_34 rfl ?_
  refine k_iconst (Int32.ofInt 1) dX8_init_35 rfl ?_
  refine k_put (ws' := (h0, .inr (8, [.int (Int32.ofInt 0), .ref q8, .int (Int32.ofInt 0), .int (Int32.ofInt 0), .int (Int32.ofInt 0), .int (Int32.ofInt 0), .int (Int32.ofInt 0), .int (Int32.ofInt 0), .int (Int32.ofInt 0), .int (Int32.ofInt 0), .ref q16, .int (Int32.ofInt 0), .ref q24, .int (Int32.ofInt 2), .int (Int32.ofInt 1), .int (Int32.ofInt 0), .null, .null, .null, .null, .null, .null, .int (Int32.ofInt 0), .null, .null, .null, .int (Int32.ofInt 0), .int (Int32.ofInt 0), .long 0])) :: ((([] ++ [(q8, .inl (G.2.2.1, 200, .inl (fun _ => Int32.ofInt 0)))]) ++ [(q16, .inl (G.2.2.1, 6, .inl (fun _ => Int32.ofInt 0)))]) ++ [(q24, .inl (G.2.2.1, 35, .inl (fun _ => Int32.ofInt 0)))])) 0 dX8_init_36 kfp_X8_23 rfl rfl rfl (Nat.le_of_ble_eq_true rfl) rfl ?_
  refine k_aload 0 dX8_init_39 rfl ?_
  refine k_bipush (Int32.ofInt 35) dX8_init_40 rfl ?_
  refine k_newI 35 dX8_init_42 wAI (by decide) (by decide) (Nat.le_of_ble_eq_true rfl) (Nat.le_of_ble_eq_true rfl) (Nat.le_of_ble_eq_true rfl) (fun q42 => ?_)
  refine k_put (ws' := (h0, .inr (8, [.int (Int32.ofInt 0), .ref q8, .int (Int32.ofInt 0), .int (Int32.ofInt 0), .int (Int32.ofInt 0), .int (Int32.ofInt 0), .int (Int32.ofInt 0), .int (Int32.ofInt 0), .int (Int32.ofInt 0), .int (Int32.ofInt 0), .ref q16, .int (Int32.ofInt 0), .ref q24, .int (Int32.ofInt 2), .int (Int32.ofInt 1), .int (Int32.ofInt 0), .ref q42, .null, .null, .null, .null, .null, .int (Int32.ofInt 0), .null, .null, .null, .int (Int32.ofInt 0), .int (Int32.ofInt 0), .long 0])) :: (((([] ++ [(q8, .inl (G.2.2.1, 200, .inl (fun _ => Int32.ofInt 0)))]) ++ [(q16, .inl (G.2.2.1, 6, .inl (fun _ => Int32.ofInt 0)))]) ++ [(q24, .inl (G.2.2.1, 35, .inl (fun _ => Int32.ofInt 0)))]) ++ [(q42, .inl (G.2.2.1, 35, .inl (fun _ => Int32.ofInt 0)))])) 0 dX8_init_44 kfp_X8_26 rfl rfl rfl (Nat.le_of_ble_eq_true rfl) rfl ?_
  refine k_aload 0 dX8_init_47 rfl ?_
  refine k_bipush (Int32.ofInt 28) dX8_init_48 rfl ?_
  refine k_newI 28 dX8_init_50 wAI (by decide) (by decide) (Nat.le_of_ble_eq_true rfl) (Nat.le_of_ble_eq_true rfl) (Nat.le_of_ble_eq_true rfl) (fun q50 => ?_)
  refine k_put (ws' := (h0, .inr (8, [.int (Int32.ofInt 0), .ref q8, .int (Int32.ofInt 0), .int (Int32.ofInt 0), .int (Int32.ofInt 0), .int (Int32.ofInt 0), .int (Int32.ofInt 0), .int (Int32.ofInt 0), .int (Int32.ofInt 0), .int (Int32.ofInt 0), .ref q16, .int (Int32.ofInt 0), .ref q24, .int (Int32.ofInt 2), .int (Int32.ofInt 1), .int (Int32.ofInt 0), .ref q42, .ref q50, .null, .null, .null, .null, .int (Int32.ofInt 0), .null, .null, .null, .int (Int32.ofInt 0), .int (Int32.ofInt 0), .long 0])) :: ((((([] ++ [(q8, .inl (G.2.2.1, 200, .inl (fun _ => Int32.ofInt 0)))]) ++ [(q16, .inl (G.2.2.1, 6, .inl (fun _ => Int32.ofInt 0)))]) ++ [(q24, .inl (G.2.2.1, 35, .inl (fun _ => Int32.ofInt 0)))]) ++ [(q42, .inl (G.2.2.1, 35, .inl (fun _ => Int32.ofInt 0)))]) ++ [(q50, .inl (G.2.2.1, 28, .inl (fun _ => Int32.ofInt 0)))])) 0 dX8_init_52 kfp_X8_29 rfl rfl rfl (Nat.le_of_ble_eq_true rfl) rfl ?_
  refine k_aload 0 dX8_init_55 rfl ?_
  refine k_bipush (Int32.ofInt 28) dX8_init_56 rfl ?_
  refine k_newI 28 dX8_init_58 wAI (by decide) (by decide) (Nat.le_of_ble_eq_true rfl) (Nat.le_of_ble_eq_true rfl) (Nat.le_of_ble_eq_true rfl) (fun q58 => ?_)
  refine k_put (ws' := (h0, .inr (8, [.int (Int32.ofInt 0), .ref q8, .int (Int32.ofInt 0), .int (Int32.ofInt 0), .int (Int32.ofInt 0), .int (Int32.ofInt 0), .int (Int32.ofInt 0), .int (Int32.ofInt 0), .int (Int32.ofInt 0), .int (Int32.ofInt 0), .ref q16, .int (Int32.ofInt 0), .ref q24, .int (Int32.ofInt 2), .int (Int32.ofInt 1), .int (Int32.ofInt 0), .ref q42, .ref q50, .ref q58, .null, .null, .null, .int (Int32.ofInt 0), .null, .null, .null, .int (Int32.ofInt 0), .int (Int32.ofInt 0), .long 0])) :: (((((([] ++ [(q8, .inl (G.2.2.1, 200, .inl (fun _ => Int32.ofInt 0)))]) ++ [(q16, .inl (G.2.2.1, 6, .inl (fun _ => Int32.ofInt 0)))]) ++ [(q24, .inl (G.2.2.1, 35, .inl (fun _ => Int32.ofInt 0)))]) ++ [(q42, .inl (G.2.2.1, 35, .inl (fun _ => Int32.ofInt 0)))]) ++ [(q50, .inl (G.2.2.1, 28, .inl (fun _ => Int32.ofInt 0)))]) ++ [(q58, .inl (G.2.2.1, 28, .inl (fun _ => Int32.ofInt 0)))])) 0 dX8_init_60 kfp_X8_32 rfl rfl rfl (Nat.le_of_ble_eq_true rfl) rfl ?_
  refine k_aload 0 dX8_init_63 rfl ?_
  refine k_bipush (Int32.ofInt 56) dX8_init_64 rfl ?_
  refine k_newI 56 dX8_init_66 wAI (by decide) (by decide) (Nat.le_of_ble_eq_true rfl) (Nat.le_of_ble_eq_true rfl) (Nat.le_of_ble_eq_true rfl) (fun q66 => ?_)
  refine k_put (ws' := (h0, .inr (8, [.int (Int32.ofInt 0), .ref q8, .int (Int32.ofInt 0), .int (Int32.ofInt 0), .int (Int32.ofInt 0), .int (Int32.ofInt 0), .int (Int32.ofInt 0), .int (Int32.ofInt 0), .int (Int32.ofInt 0), .int (Int32.ofInt 0), .ref q16, .int (Int32.ofInt 0), .ref q24, .int (Int32.ofInt 2), .int (Int32.ofInt 1), .int (Int32.ofInt 0), .ref q42, .ref q50, .ref q58, .ref q66, .null, .null, .int (Int32.ofInt 0), .null, .null, .null, .int (Int32.ofInt 0), .int (Int32.ofInt 0), .long 0])) :: ((((((([] ++ [(q8, .inl (G.2.2.1, 200, .inl (fun _ => Int32.ofInt 0)))]) ++ [(q16, .inl (G.2.2.1, 6, .inl (fun _ => Int32.ofInt 0)))]) ++ [(q24, .inl (G.2.2.1, 35, .inl (fun _ => Int32.ofInt 0)))]) ++ [(q42, .inl (G.2.2.1, 35, .inl (fun _ => Int32.ofInt 0)))]) ++ [(q50, .inl (G.2.2.1, 28, .inl (fun _ => Int32.ofInt 0)))]) ++ [(q58, .inl (G.2.2.1, 28, .inl (fun _ => Int32.ofInt 0)))]) ++ [(q66, .inl (G.2.2.1, 56, .inl (fun _ => Int32.ofInt 0)))])) 0 dX8_init_68 kfp_X8_35 rfl rfl rfl (Nat.le_of_ble_eq_true rfl) rfl ?_
  refine k_aload 0 dX8_init_71 rfl ?_
  refine k_iconst (Int32.ofInt 2) dX8_init_72 rfl ?_
  refine k_newZ 2 dX8_init_73 wAZ (by decide) (by decide) (Nat.le_of_ble_eq_true rfl) (Nat.le_of_ble_eq_true rfl) (Nat.le_of_ble_eq_true rfl) (fun q73 => ?_)
  refine k_put (ws' := (h0, .inr (8, [.int (Int32.ofInt 0), .ref q8, .int (Int32.ofInt 0), .int (Int32.ofInt 0), .int (Int32.ofInt 0), .int (Int32.ofInt 0), .int (Int32.ofInt 0), .int (Int32.ofInt 0), .int (Int32.ofInt 0), .int (Int32.ofInt 0), .ref q16, .int (Int32.ofInt 0), .ref q24, .int (Int32.ofInt 2), .int (Int32.ofInt 1), .int (Int32.ofInt 0), .ref q42, .ref q50, .ref q58, .ref q66, .ref q73, .null, .int (Int32.ofInt 0), .null, .null, .null, .int (Int32.ofInt 0), .int (Int32.ofInt 0), .long 0])) :: (((((((([] ++ [(q8, .inl (G.2.2.1, 200, .inl (fun _ => Int32.ofInt 0)))]) ++ [(q16, .inl (G.2.2.1, 6, .inl (fun _ => Int32.ofInt 0)))]) ++ [(q24, .inl (G.2.2.1, 35, .inl (fun _ => Int32.ofInt 0)))]) ++ [(q42, .inl (G.2.2.1, 35, .inl (fun _ => Int32.ofInt 0)))]) ++ [(q50, .inl (G.2.2.1, 28, .inl (fun _ => Int32.ofInt 0)))]) ++ [(q58, .inl (G.2.2.1, 28, .inl (fun _ => Int32.ofInt 0)))]) ++ [(q66, .inl (G.2.2.1, 56, .inl (fun _ => Int32.ofInt 0)))]) ++ [(q73, .inl (G.2.2.2, 2, .inl (fun _ => Int32.ofInt 0)))])) 0 dX8_init_75 kfp_X8_38 rfl rfl rfl (Nat.le_of_ble_eq_true rfl) rfl ?_
  refine k_aload 0 dX8_init_78 rfl ?_
  refine k_sipush (Int32.ofInt 280) dX8_init_79 rfl ?_
  refine k_newI 280 dX8_init_82 wAI (by decide) (by decide) (Nat.le_of_ble_eq_true rfl) (Nat.le_of_ble_eq_true rfl) (Nat.le_of_ble_eq_true rfl) (fun q82 => ?_)
  refine k_put (ws' := (h0, .inr (8, [.int (Int32.ofInt 0), .ref q8, .int (Int32.ofInt 0), .int (Int32.ofInt 0), .int (Int32.ofInt 0), .int (Int32.ofInt 0), .int (Int32.ofInt 0), .int (Int32.ofInt 0), .int (Int32.ofInt 0), .int (Int32.ofInt 0), .ref q16, .int (Int32.ofInt 0), .ref q24, .int (Int32.ofInt 2), .int (Int32.ofInt 1), .int (Int32.ofInt 0), .ref q42, .ref q50, .ref q58, .ref q66, .ref q73, .ref q82, .int (Int32.ofInt 0), .null, .null, .null, .int (Int32.ofInt 0), .int (Int32.ofInt 0), .long 0])) :: ((((((((([] ++ [(q8, .inl (G.2.2.1, 200, .inl (fun _ => Int32.ofInt 0)))]) ++ [(q16, .inl (G.2.2.1, 6, .inl (fun _ => Int32.ofInt 0)))]) ++ [(q24, .inl (G.2.2.1, 35, .inl (fun _ => Int32.ofInt 0)))]) ++ [(q42, .inl (G.2.2.1, 35, .inl (fun _ => Int32.ofInt 0)))]) ++ [(q50, .inl (G.2.2.1, 28, .inl (fun _ => Int32.ofInt 0)))]) ++ [(q58, .inl (G.2.2.1, 28, .inl (fun _ => Int32.ofInt 0)))]) ++ [(q66, .inl (G.2.2.1, 56, .inl (fun _ => Int32.ofInt 0)))]) ++ [(q73, .inl (G.2.2.2, 2, .inl (fun _ => Int32.ofInt 0)))]) ++ [(q82, .inl (G.2.2.1, 280, .inl (fun _ => Int32.ofInt 0)))])) 0 dX8_init_84 kfp_X8_42 rfl rfl rfl (Nat.le_of_ble_eq_true rfl) rfl ?_
  refine k_aload 0 dX8_init_87 rfl ?_
  refine k_bipush (Int32.ofInt 7) dX8_init_88 rfl ?_
  refine k_newI 7 dX8_init_90 wAI (by decide) (by decide) (Nat.le_of_ble_eq_true rfl) (Nat.le_of_ble_eq_true rfl) (Nat.le_of_ble_eq_true rfl) (fun q90 => ?_)
  refine k_put (ws' := (h0, .inr (8, [.int (Int32.ofInt 0), .ref q8, .int (Int32.ofInt 0), .int (Int32.ofInt 0), .int (Int32.ofInt 0), .int (Int32.ofInt 0), .int (Int32.ofInt 0), .int (Int32.ofInt 0), .int (Int32.ofInt 0), .int (Int32.ofInt 0), .ref q16, .int (Int32.ofInt 0), .ref q24, .int (Int32.ofInt 2), .int (Int32.ofInt 1), .int (Int32.ofInt 0), .ref q42, .ref q50, .ref q58, .ref q66, .ref q73, .ref q82, .int (Int32.ofInt 0), .ref q90, .null, .null, .int (Int32.ofInt 0), .int (Int32.ofInt 0), .long 0])) :: (((((((((([] ++ [(q8, .inl (G.2.2.1, 200, .inl (fun _ => Int32.ofInt 0)))]) ++ [(q16, .inl (G.2.2.1, 6, .inl (fun _ => Int32.ofInt 0)))]) ++ [(q24, .inl (G.2.2.1, 35, .inl (fun _ => Int32.ofInt 0)))]) ++ [(q42, .inl (G.2.2.1, 35, .inl (fun _ => Int32.ofInt 0)))]) ++ [(q50, .inl (G.2.2.1, 28, .inl (fun _ => Int32.ofInt 0)))]) ++ [(q58, .inl (G.2.2.1, 28, .inl (fun _ => Int32.ofInt 0)))]) ++ [(q66, .inl (G.2.2.1, 56, .inl (fun _ => Int32.ofInt 0)))]) ++ [(q73, .inl (G.2.2.2, 2, .inl (fun _ => Int32.ofInt 0)))]) ++ [(q82, .inl (G.2.2.1, 280, .inl (fun _ => Int32.ofInt 0)))]) ++ [(q90, .inl (G.2.2.1, 7, .inl (fun _ => Int32.ofInt 0)))])) 0 dX8_init_92 kfp_X8_45 rfl rfl rfl (Nat.le_of_ble_eq_true rfl) rfl ?_
  refine k_aload 0 dX8_init_95 rfl ?_
  refine k_bipush (Int32.ofInt 7) dX8_init_96 rfl ?_
  refine k_newI 7 dX8_init_98 wAI (by decide) (by decide) (Nat.le_of_ble_eq_true rfl) (Nat.le_of_ble_eq_true rfl) (Nat.le_of_ble_eq_true rfl) (fun q98 => ?_)
  refine k_put (ws' := (h0, .inr (8, [.int (Int32.ofInt 0), .ref q8, .int (Int32.ofInt 0), .int (Int32.ofInt 0), .int (Int32.ofInt 0), .int (Int32.ofInt 0), .int (Int32.ofInt 0), .int (Int32.ofInt 0), .int (Int32.ofInt 0), .int (Int32.ofInt 0), .ref q16, .int (Int32.ofInt 0), .ref q24, .int (Int32.ofInt 2), .int (Int32.ofInt 1), .int (Int32.ofInt 0), .ref q42, .ref q50, .ref q58, .ref q66, .ref q73, .ref q82, .int (Int32.ofInt 0), .ref q90, .ref q98, .null, .int (Int32.ofInt 0), .int (Int32.ofInt 0), .long 0])) :: ((((((((((([] ++ [(q8, .inl (G.2.2.1, 200, .inl (fun _ => Int32.ofInt 0)))]) ++ [(q16, .inl (G.2.2.1, 6, .inl (fun _ => Int32.ofInt 0)))]) ++ [(q24, .inl (G.2.2.1, 35, .inl (fun _ => Int32.ofInt 0)))]) ++ [(q42, .inl (G.2.2.1, 35, .inl (fun _ => Int32.ofInt 0)))]) ++ [(q50, .inl (G.2.2.1, 28, .inl (fun _ => Int32.ofInt 0)))]) ++ [(q58, .inl (G.2.2.1, 28, .inl (fun _ => Int32.ofInt 0)))]) ++ [(q66, .inl (G.2.2.1, 56, .inl (fun _ => Int32.ofInt 0)))]) ++ [(q73, .inl (G.2.2.2, 2, .inl (fun _ => Int32.ofInt 0)))]) ++ [(q82, .inl (G.2.2.1, 280, .inl (fun _ => Int32.ofInt 0)))]) ++ [(q90, .inl (G.2.2.1, 7, .inl (fun _ => Int32.ofInt 0)))]) ++ [(q98, .inl (G.2.2.1, 7, .inl (fun _ => Int32.ofInt 0)))])) 0 dX8_init_100 kfp_X8_48 rfl rfl rfl (Nat.le_of_ble_eq_true rfl) rfl ?_
  refine k_aload 0 dX8_init_103 rfl ?_
  refine k_bipush (Int32.ofInt 7) dX8_init_104 rfl ?_
  refine k_newI 7 dX8_init_106 wAI (by decide) (by decide) (Nat.le_of_ble_eq_true rfl) (Nat.le_of_ble_eq_true rfl) (Nat.le_of_ble_eq_true rfl) (fun q106 => ?_)
  refine k_put (ws' := (h0, .inr (8, [.int (Int32.ofInt 0), .ref q8, .int (Int32.ofInt 0), .int (Int32.ofInt 0), .int (Int32.ofInt 0), .int (Int32.ofInt 0), .int (Int32.ofInt 0), .int (Int32.ofInt 0), .int (Int32.ofInt 0), .int (Int32.ofInt 0), .ref q16, .int (Int32.ofInt 0), .ref q24, .int (Int32.ofInt 2), .int (Int32.ofInt 1), .int (Int32.ofInt 0), .ref q42, .ref q50, .ref q58, .ref q66, .ref q73, .ref q82, .int (Int32.ofInt 0), .ref q90, .ref q98, .ref q106, .int (Int32.ofInt 0), .int (Int32.ofInt 0), .long 0])) :: (((((((((((([] ++ [(q8, .inl (G.2.2.1, 200, .inl (fun _ => Int32.ofInt 0)))]) ++ [(q16, .inl (G.2.2.1, 6, .inl (fun _ => Int32.ofInt 0)))]) ++ [(q24, .inl (G.2.2.1, 35, .inl (fun _ => Int32.ofInt 0)))]) ++ [(q42, .inl (G.2.2.1, 35, .inl (fun _ => Int32.ofInt 0)))]) ++ [(q50, .inl (G.2.2.1, 28, .inl (fun _ => Int32.ofInt 0)))]) ++ [(q58, .inl (G.2.2.1, 28, .inl (fun _ => Int32.ofInt 0)))]) ++ [(q66, .inl (G.2.2.1, 56, .inl (fun _ => Int32.ofInt 0)))]) ++ [(q73, .inl (G.2.2.2, 2, .inl (fun _ => Int32.ofInt 0)))]) ++ [(q82, .inl (G.2.2.1, 280, .inl (fun _ => Int32.ofInt 0)))]) ++ [(q90, .inl (G.2.2.1, 7, .inl (fun _ => Int32.ofInt 0)))]) ++ [(q98, .inl (G.2.2.1, 7, .inl (fun _ => Int32.ofInt 0)))]) ++ [(q106, .inl (G.2.2.1, 7, .inl (fun _ => Int32.ofInt 0)))])) 0 dX8_init_108 kfp_X8_51 rfl rfl rfl (Nat.le_of_ble_eq_true rfl) rfl ?_
  obtain ⟨ad, a0, a1, a2, a3, a4, a5, a6, a7, a8, a9, a10, a11, a12⟩ : ∃ ad : Nat → Nat, ad 0 = h0 ∧ ad 1 = q8 ∧ ad 2 = q16 ∧ ad 3 = q24 ∧ ad 4 = q42 ∧ ad 5 = q50 ∧ ad 6 = q58 ∧ ad 7 = q66 ∧ ad 8 = q73 ∧ ad 9 = q82 ∧ ad 10 = q90 ∧ ad 11 = q98 ∧ ad 12 = q106 := ⟨(fun k => [h0, q8, q16, q24, q42, q50, q58, q66, q73, q82, q90, q98, q106].getD k 0), rfl, rfl, rfl, rfl, rfl, rfl, rfl, rfl, rfl, rfl, rfl, rfl, rfl⟩
  refine WK.cg (ws2 := j_w (k_g G ad) Sm.2.2 hX8) (st2 := []) (wX8 a0 a1 a2 a3 a4 a5 a6 a7 a8 a9 a10 a11 a12) rfl ?_
  clear a1 a2 a3 a4 a5 a6 a7 a8 a9 a10 a11 a12
  subst a0
  refine k_iconst (Int32.ofInt 0) dX8_init_111 rfl ?_
  refine k_istore (lv' := [(1, .int (Int32.ofInt 0)), (0, .ref (ad 0))]) dX8_init_112 (by decide) rfl ?_
  refine k_iload 0 dX8_init_113 rfl ?_
  refine k_bipush (Int32.ofInt 6) dX8_init_114 rfl ?_
  refine k_lt 132 dX8_init_116 (by decide) (by decide) ?_
  refine k_aload 1 dX8_init_119 rfl ?_
  refine k_jget (ad := ad) (lay := Sm.2.2) (kp := 0) (r := 2) dX8_init_120 kfl_X8_13 rfl rfl ?_
  refine k_iload 0 dX8_init_123 rfl ?_
  refine k_iload 0 dX8_init_124 rfl ?_
  refine k_jiast (ad := ad) (lay := Sm.2.2) (kp := 2) (i := 0) (x := 0) dX8_init_125 rfl ⟨by decide, by decide⟩ ⟨by decide, by decide⟩ ?_
  refine k_iinc (lv' := [(1, .int (Int32.ofInt 1)), (0, .ref (ad 0))]) (Int32.ofInt 1) 0 dX8_init_126 rfl (by decide) (by decide) rfl ?_
  refine k_goto 113 dX8_init_129 (by decide) ?_
  refine k_iload 0 dX8_init_113 rfl ?_
  refine k_bipush (Int32.ofInt 6) dX8_init_114 rfl ?_
  refine k_lt 132 dX8_init_116 (by decide) (by decide) ?_
  refine k_aload 1 dX8_init_119 rfl ?_
  refine k_jget (ad := ad) (lay := Sm.2.2) (kp := 0) (r := 2) dX8_init_120 kfl_X8_13 rfl rfl ?_
  refine k_iload 0 dX8_init_123 rfl ?_
  refine k_iload 0 dX8_init_124 rfl ?_
  refine k_jiast (ad := ad) (lay := Sm.2.2) (kp := 2) (i := 1) (x := 1) dX8_init_125 rfl ⟨by decide, by decide⟩ ⟨by decide, by decide⟩ ?_
  refine k_iinc (lv' := [(1, .int (Int32.ofInt 2)), (0, .ref (ad 0))]) (Int32.ofInt 2) 0 dX8_init_126 rfl (by decide) (by decide) rfl ?_
  refine k_goto 113 dX8_init_129 (by decide) ?_
  refine k_iload 0 dX8_init_113 rfl ?_
  refine k_bipush (Int32.ofInt 6) dX8_init_114 rfl ?_
  refine k_lt 132 dX8_init_116 (by decide) (by decide) ?_
  refine k_aload 1 dX8_init_119 rfl ?_
  refine k_jget (ad := ad) (lay := Sm.2.2) (kp := 0) (r := 2) dX8_init_120 kfl_X8_13 rfl rfl ?_
  refine k_iload 0 dX8_init_123 rfl ?_
  refine k_iload 0 dX8_init_124 rfl ?_
  refine k_jiast (ad := ad) (lay := Sm.2.2) (kp := 2) (i := 2) (x := 2) dX8_init_125 rfl ⟨by decide, by decide⟩ ⟨by decide, by decide⟩ ?_
  refine k_iinc (lv' := [(1, .int (Int32.ofInt 3)), (0, .ref (ad 0))]) (Int32.ofInt 3) 0 dX8_init_126 rfl (by decide) (by decide) rfl ?_
  refine k_goto 113 dX8_init_129 (by decide) ?_
  refine k_iload 0 dX8_init_113 rfl ?_
  refine k_bipush (Int32.ofInt 6) dX8_init_114 rfl ?_
  refine k_lt 132 dX8_init_116 (by decide) (by decide) ?_
  refine k_aload 1 dX8_init_119 rfl ?_
  refine k_jget (ad := ad) (lay := Sm.2.2) (kp := 0) (r := 2) dX8_init_120 kfl_X8_13 rfl rfl ?_
  refine k_iload 0 dX8_init_123 rfl ?_
  refine k_iload 0 dX8_init_124 rfl ?_
  refine k_jiast (ad := ad) (lay := Sm.2.2) (kp := 2) (i := 3) (x := 3) dX8_init_125 rfl ⟨by decide, by decide⟩ ⟨by decide, by decide⟩ ?_
  refine k_iinc (lv' := [(1, .int (Int32.ofInt 4)), (0, .ref (ad 0))]) (Int32.ofInt 4) 0 dX8_init_126 rfl (by decide) (by decide) rfl ?_
  refine k_goto 113 dX8_init_129 (by decide) ?_
  refine k_iload 0 dX8_init_113 rfl ?_
  refine k_bipush (Int32.ofInt 6) dX8_init_114 rfl ?_
  refine k_lt 132 dX8_init_116 (by decide) (by decide) ?_
  refine k_aload 1 dX8_init_119 rfl ?_
  refine k_jget (ad := ad) (lay := Sm.2.2) (kp := 0) (r := 2) dX8_init_120 kfl_X8_13 rfl rfl ?_
  refine k_iload 0 dX8_init_123 rfl ?_
  refine k_iload 0 dX8_init_124 rfl ?_
  refine k_jiast (ad := ad) (lay := Sm.2.2) (kp := 2) (i := 4) (x := 4) dX8_init_125 rfl ⟨by decide, by decide⟩ ⟨by decide, by decide⟩ ?_
  refine k_iinc (lv' := [(1, .int (Int32.ofInt 5)), (0, .ref (ad 0))]) (Int32.ofInt 5) 0 dX8_init_126 rfl (by decide) (by decide) rfl ?_
  refine k_goto 113 dX8_init_129 (by decide) ?_
  refine k_iload 0 dX8_init_113 rfl ?_
  refine k_bipush (Int32.ofInt 6) dX8_init_114 rfl ?_
  refine k_lt 132 dX8_init_116 (by decide) (by decide) ?_
  refine k_aload 1 dX8_init_119 rfl ?_
  refine k_jget (ad := ad) (lay := Sm.2.2) (kp := 0) (r := 2) dX8_init_120 kfl_X8_13 rfl rfl ?_
  refine k_iload 0 dX8_init_123 rfl ?_
  refine k_iload 0 dX8_init_124 rfl ?_
  refine k_jiast (ad := ad) (lay := Sm.2.2) (kp := 2) (i := 5) (x := 5) dX8_init_125 rfl ⟨by decide, by decide⟩ ⟨by decide, by decide⟩ ?_
  refine k_iinc (lv' := [(1, .int (Int32.ofInt 6)), (0, .ref (ad 0))]) (Int32.ofInt 6) 0 dX8_init_126 rfl (by decide) (by decide) rfl ?_
  refine k_goto 113 dX8_init_129 (by decide) ?_
  refine k_iload 0 dX8_init_113 rfl ?_
  refine k_bipush (Int32.ofInt 6) dX8_init_114 rfl ?_
  refine k_ge 132 dX8_init_116 (by decide) (by decide) ?_
  refine k_aload 1 dX8_init_132 rfl ?_
  refine k_ct (M := K_X8) (a := 12) (b := 691) (S := Sm) (ad := ad) (h := (j_up (j_up (j_up (j_up (j_up (j_up hX8 2 0 0) 2 1 1) 2 2 2) 2 3 3) 2 4 4) 2 5 5)) (kp := 0) rfl (fun U _ => fun q hq => by cases hq) hX8_Rg dX8_init_133 kmv_X8_54 ⟨rfl, rfl, (Nat.le_of_ble_eq_true rfl), (Nat.le_of_ble_eq_true rfl)⟩ ⟨(Nat.le_of_ble_eq_true rfl), (Nat.le_of_ble_eq_true rfl)⟩ rfl rfl rfl (cm_begin (N := 0) rfl (by decide)) (fun g hg hRg => ?_)
  exact k_ret dX8_init_136 ⟨ad, g, rfl, hX8_br hg, hRg, rfl⟩
