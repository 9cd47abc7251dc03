/-! constructors: the told, the reader -/
def jZ : jH := (fun _ _ => 0, fun _ => 0)
theorem WK.cg {G : kG} {M : jM} {Qp : va_W → Prop} {mc ms pc : Nat} {lv : List (Nat × Value)} {st st2 : List Value} {ws ws2 : va_W} {a b : Nat} (hw : ws = ws2) (hs : st = st2) (k : WK G M Qp mc ms pc lv st2 ws2 a b) : WK G M Qp mc ms pc lv st ws a b := by rw [hw, hs]; exact k
def TI (h : jH) : Prop := h.1 0 0 = 2 ∧ h.1 0 1 = 1 ∧ h.1 0 2 = 0 ∧ ∀ l, l < 6 → h.1 1 l = (l : Nat)
theorem ct_asAtFirstT {h : jH} : CT St M_X6_asAtFirst [jR 0] h (jPv TI) := by
  refine en_X6_asAtFirst_0 (fun G => vc_X6_asAtFirst_0_0 ?_)
  refine jf_loop 6 (fun o lv g => lv = [jR 0, jI (o : Nat)] ∧ g.1 0 0 = 2 ∧ g.1 0 1 = 1 ∧ g.1 0 2 = 0 ∧ (∀ l, l < o → g.1 1 l = (l : Nat))) ?_ ?_ 0 (by decide) _ _ ⟨rfl, by rw [up_out (by omega), up_out (by omega), up_eq], by rw [up_out (by omega), up_eq], up_eq, fun l hl => by omega⟩
  · rintro o ho lv g ⟨rfl, g1, g2, g3, g4⟩ k
    refine vc_X6_asAtFirst_0_17 ⟨fun z => absurd z (by omega), fun _ => ⟨by omega, ⟨by omega, by omega⟩, k _ _ ⟨rfl, by rw [up_ne (by omega)]; exact g1, by rw [up_ne (by omega)]; exact g2, by rw [up_ne (by omega)]; exact g3, fun l hl => ?_⟩⟩⟩
    rw [Int.toNat_natCast]
    by_cases e : l = o
    · rw [e, up_eq]
    · rw [up_out e]; exact g4 l (by omega)
  · rintro lv g ⟨rfl, g1, g2, g3, g4⟩
    exact vc_X6_asAtFirst_0_17 ⟨fun _ => ⟨rfl, g1, g2, g3, g4⟩, fun z => absurd (by decide) z⟩
theorem wO_X6 : Cond.methodLink RX6 3 Lib.objectInit ∈ jW := jW_t 26 (by decide +kernel) rfl
theorem kfp_X6_9 : k_fp RX6 9 6 3 (.array .int) true := ⟨RX6, TX6, 9, tyX6, rfl, by decide, inW_X6, jW_t 47 (by decide +kernel) rfl, tyX6_ok, nmX6, rfl, rfl, tyX6_ok 3 (by decide)⟩
theorem kfp_X6_15 : k_fp RX6 15 6 4 (.array .int) true := ⟨RX6, TX6, 9, tyX6, rfl, by decide, inW_X6, jW_t 49 (by decide +kernel) rfl, tyX6_ok, nmX6, rfl, rfl, tyX6_ok 4 (by decide)⟩
theorem kfp_X6_18 : k_fp RX6 18 6 5 (.array .int) true := ⟨RX6, TX6, 9, tyX6, rfl, by decide, inW_X6, jW_t 54 (by decide +kernel) rfl, tyX6_ok, nmX6, rfl, rfl, tyX6_ok 5 (by decide)⟩
theorem kfp_X6_21 : k_fp RX6 21 6 6 (.array .int) true := ⟨RX6, TX6, 9, tyX6, rfl, by decide, inW_X6, jW_t 59 (by decide +kernel) rfl, tyX6_ok, nmX6, rfl, rfl, tyX6_ok 6 (by decide)⟩
theorem kfp_X6_24 : k_fp RX6 24 6 7 (.array .int) true := ⟨RX6, TX6, 9, tyX6, rfl, by decide, inW_X6, jW_t 64 (by decide +kernel) rfl, tyX6_ok, nmX6, rfl, rfl, tyX6_ok 7 (by decide)⟩
theorem kfp_X6_27 : k_fp RX6 27 6 8 (.array .int) true := ⟨RX6, TX6, 9, tyX6, rfl, by decide, inW_X6, jW_t 70 (by decide +kernel) rfl, tyX6_ok, nmX6, rfl, rfl, tyX6_ok 8 (by decide)⟩
theorem kmv_X6_30 : j_mv RX6 30 0 M_X6_asAtFirst := ⟨jW_t 27 (by decide +kernel) rfl, jW_t 28 (by decide +kernel) rfl, jW_t 29 (by decide +kernel) rfl, jW_t 2 (by decide +kernel) rfl, jW_t 30 (by decide +kernel) rfl, by decide +kernel, by decide +kernel, by decide +kernel⟩
theorem kmv_X7_81 : j_mv RX7 81 0 M_X2_begin := ⟨jW_t 257 (by decide +kernel) rfl, jW_t 258 (by decide +kernel) rfl, jW_t 259 (by decide +kernel) rfl, jW_t 4 (by decide +kernel) rfl, jW_t 260 (by decide +kernel) rfl, by decide +kernel, by decide +kernel, by decide +kernel⟩
theorem kmv_X8_54 : j_mv RX8 54 0 M_X8_begin := ⟨jW_t 726 (by decide +kernel) rfl, jW_t 728 (by decide +kernel) rfl, jW_s 33 (by decide +kernel) rfl, jW_t 10 (by decide +kernel) rfl, jW_t 729 (by decide +kernel) rfl, by decide +kernel, by decide +kernel, by decide +kernel⟩
theorem jZ_Rg : j_Rg jZ := fun _ _ => ⟨by show (-2147483648 : Int) ≤ 0; omega, by show (0 : Int) ≤ 2147483647; omega⟩
set_option maxHeartbeats 4000000 in
theorem kc_X6 (G : kG) (h0 : Nat) : KC G K_X6 [.ref h0] [(h0, .inr (6, [.int (Int32.ofInt 0), .int (Int32.ofInt 0), .int (Int32.ofInt 0), .null, .null, .null, .null, .null, .null]))] (fun w => ∃ (ad : Nat → Nat) (h : jH), ad 0 = h0 ∧ TI h ∧ j_Rg h ∧ w = j_w (k_g G ad) St.2.2 h) 6 41 := by
  refine KC.of (by decide +kernel) rfl rfl (Nat.le_of_ble_eq_true rfl) ?_
  refine k_aload 0 dX6_init_0 rfl ?_
  refine k_obj dX6_init_1 wO_X6 wO2 wO3 (Nat.le_of_ble_eq_true rfl) (Nat.le_of_ble_eq_true rfl) ?_
  refine k_aload 0 dX6_init_4 rfl ?_
  refine k_bipush (Int32.ofInt 6) dX6_init_5 rfl ?_
  refine k_newI 6 dX6_init_7 wAI (by decide) (by decide) (Nat.le_of_ble_eq_true rfl) (Nat.le_of_ble_eq_true rfl) (Nat.le_of_ble_eq_true rfl) (fun q7 => ?_)
  refine k_put (ws' := (h0, .inr (6, [.int (Int32.ofInt 0), .int (Int32.ofInt 0), .int (Int32.ofInt 0), .ref q7, .null, .null, .null, .null, .null])) :: ([] ++ [(q7, .inl (G.2.2.1, 6, .inl (fun _ => Int32.ofInt 0)))])) 0 dX6_init_9 kfp_X6_9 rfl rfl rfl (Nat.le_of_ble_eq_true rfl) rfl ?_
  refine k_aload 0 dX6_init_12 rfl ?_
  refine k_bipush (Int32.ofInt 7) dX6_init_13 rfl ?_
  refine k_newI 7 dX6_init_15 wAI (by decide) (by decide) (Nat.le_of_ble_eq_true rfl) (Nat.le_of_ble_eq_true rfl) (Nat.le_of_ble_eq_true rfl) (fun q15 => ?_)
  refine k_put (ws' := (h0, .inr (6, [.int (Int32.ofInt 0), .int (Int32.ofInt 0), .int (Int32.ofInt 0), .ref q7, .ref q15, .null, .null, .null, .null])) :: (([] ++ [(q7, .inl (G.2.2.1, 6, .inl (fun _ => Int32.ofInt 0)))]) ++ [(q15, .inl (G.2.2.1, 7, .inl (fun _ => Int32.ofInt 0)))])) 0 dX6_init_17 kfp_X6_15 rfl rfl rfl (Nat.le_of_ble_eq_true rfl) rfl ?_
  refine k_aload 0 dX6_init_20 rfl ?_
  refine k_bipush (Int32.ofInt 7) dX6_init_21 rfl ?_
  refine k_newI 7 dX6_init_23 wAI (by decide) (by decide) (Nat.le_of_ble_eq_true rfl) (Nat.le_of_ble_eq_true rfl) (Nat.le_of_ble_eq_true rfl) (fun q23 => ?_)
  refine k_put (ws' := (h0, .inr (6, [.int (Int32.ofInt 0), .int (Int32.ofInt 0), .int (Int32.ofInt 0), .ref q7, .ref q15, .ref q23, .null, .null, .null])) :: ((([] ++ [(q7, .inl (G.2.2.1, 6, .inl (fun _ => Int32.ofInt 0)))]) ++ [(q15, .inl (G.2.2.1, 7, .inl (fun _ => Int32.ofInt 0)))]) ++ [(q23, .inl (G.2.2.1, 7, .inl (fun _ => Int32.ofInt 0)))])) 0 dX6_init_25 kfp_X6_18 rfl rfl rfl (Nat.le_of_ble_eq_true rfl) rfl ?_
  refine k_aload 0 dX6_init_28 rfl ?_
  refine k_bipush (Int32.ofInt 7) dX6_init_29 rfl ?_
  refine k_newI 7 dX6_init_31 wAI (by decide) (by decide) (Nat.le_of_ble_eq_true rfl) (Nat.le_of_ble_eq_true rfl) (Nat.le_of_ble_eq_true rfl) (fun q31 => ?_)
  refine k_put (ws' := (h0, .inr (6, [.int (Int32.ofInt 0), .int (Int32.ofInt 0), .int (Int32.ofInt 0), .ref q7, .ref q15, .ref q23, .ref q31, .null, .null])) :: (((([] ++ [(q7, .inl (G.2.2.1, 6, .inl (fun _ => Int32.ofInt 0)))]) ++ [(q15, .inl (G.2.2.1, 7, .inl (fun _ => Int32.ofInt 0)))]) ++ [(q23, .inl (G.2.2.1, 7, .inl (fun _ => Int32.ofInt 0)))]) ++ [(q31, .inl (G.2.2.1, 7, .inl (fun _ => Int32.ofInt 0)))])) 0 dX6_init_33 kfp_X6_21 rfl rfl rfl (Nat.le_of_ble_eq_true rfl) rfl ?_
  refine k_aload 0 dX6_init_36 rfl ?_
  refine k_bipush (Int32.ofInt 7) dX6_init_37 rfl ?_
  refine k_newI 7 dX6_init_39 wAI (by decide) (by decide) (Nat.le_of_ble_eq_true rfl) (Nat.le_of_ble_eq_true rfl) (Nat.le_of_ble_eq_true rfl) (fun q39 => ?_)
  refine k_put (ws' := (h0, .inr (6, [.int (Int32.ofInt 0), .int (Int32.ofInt 0), .int (Int32.ofInt 0), .ref q7, .ref q15, .ref q23, .ref q31, .ref q39, .null])) :: ((((([] ++ [(q7, .inl (G.2.2.1, 6, .inl (fun _ => Int32.ofInt 0)))]) ++ [(q15, .inl (G.2.2.1, 7, .inl (fun _ => Int32.ofInt 0)))]) ++ [(q23, .inl (G.2.2.1, 7, .inl (fun _ => Int32.ofInt 0)))]) ++ [(q31, .inl (G.2.2.1, 7, .inl (fun _ => Int32.ofInt 0)))]) ++ [(q39, .inl (G.2.2.1, 7, .inl (fun _ => Int32.ofInt 0)))])) 0 dX6_init_41 kfp_X6_24 rfl rfl rfl (Nat.le_of_ble_eq_true rfl) rfl ?_
  refine k_aload 0 dX6_init_44 rfl ?_
  refine k_bipush (Int32.ofInt 7) dX6_init_45 rfl ?_
  refine k_newI 7 dX6_init_47 wAI (by decide) (by decide) (Nat.le_of_ble_eq_true rfl) (Nat.le_of_ble_eq_true rfl) (Nat.le_of_ble_eq_true rfl) (fun q47 => ?_)
  refine k_put (ws' := (h0, .inr (6, [.int (Int32.ofInt 0), .int (Int32.ofInt 0), .int (Int32.ofInt 0), .ref q7, .ref q15, .ref q23, .ref q31, .ref q39, .ref q47])) :: (((((([] ++ [(q7, .inl (G.2.2.1, 6, .inl (fun _ => Int32.ofInt 0)))]) ++ [(q15, .inl (G.2.2.1, 7, .inl (fun _ => Int32.ofInt 0)))]) ++ [(q23, .inl (G.2.2.1, 7, .inl (fun _ => Int32.ofInt 0)))]) ++ [(q31, .inl (G.2.2.1, 7, .inl (fun _ => Int32.ofInt 0)))]) ++ [(q39, .inl (G.2.2.1, 7, .inl (fun _ => Int32.ofInt 0)))]) ++ [(q47, .inl (G.2.2.1, 7, .inl (fun _ => Int32.ofInt 0)))])) 0 dX6_init_49 kfp_X6_27 rfl rfl rfl (Nat.le_of_ble_eq_true rfl) rfl ?_
  refine k_aload 0 dX6_init_52 rfl ?_
  obtain ⟨ad, ead⟩ : ∃ ad : Nat → Nat, ad = (fun k => [h0, q7, q15, q23, q31, q39, q47].getD k 0) := ⟨_, rfl⟩
  refine WK.cg (ws2 := j_w (k_g G ad) St.2.2 jZ) (st2 := [.ref (ad 0)]) (by rw [ead]; rfl) (by rw [ead]; rfl) ?_
  refine k_ct (M := K_X6) (a := 6) (b := 41) (S := St) (ad := ad) (h := jZ) (kp := 0) rfl (fun U _ => fun q hq => by cases hq) jZ_Rg dX6_init_53 kmv_X6_30 ⟨rfl, rfl, (Nat.le_of_ble_eq_true rfl), (Nat.le_of_ble_eq_true rfl)⟩ ⟨(Nat.le_of_ble_eq_true rfl), (Nat.le_of_ble_eq_true rfl)⟩ rfl rfl rfl ct_asAtFirstT (fun g hg hR => ?_)
  exact k_ret dX6_init_56 ⟨ad, g, by rw [ead]; rfl, hg, hR, rfl⟩
theorem wO_X4 : Cond.methodLink RX4 3 Lib.objectInit ∈ jW := jW_t 99 (by decide +kernel) rfl
theorem knw_X4_9 : k_nw RX4 9 6 9 [.int (Int32.ofInt 0), .int (Int32.ofInt 0), .int (Int32.ofInt 0), .null, .null, .null, .null, .null, .null] := ⟨RX6, TX6, tyX6, rfl, inW_X6, tyX6_ok, jW_t 100 (by decide +kernel) rfl, jW_t 22 (by decide +kernel) rfl, jW_t 2 (by decide +kernel) rfl, fun j hj => by
  rcases (show j = 0 ∨ j = 1 ∨ j = 2 ∨ j = 3 ∨ j = 4 ∨ j = 5 ∨ j = 6 ∨ j = 7 ∨ j = 8 by omega) with rfl | rfl | rfl | rfl | rfl | rfl | rfl | rfl | rfl <;> rfl⟩
theorem kmi_X6 (own : String) (idx : Nat) : k_mi own idx 0 K_X6 := ⟨jW_t 24 (by decide +kernel) rfl, jW_t 2 (by decide +kernel) rfl, jW_t 25 (by decide +kernel) rfl, rfl, rfl, by decide +kernel, by decide +kernel, by decide +kernel⟩
theorem kml_X4_11 : Cond.methodLink RX4 11 K_X6.1 ∈ jW := jW_t 101 (by decide +kernel) rfl
theorem kfp_X4_12 : k_fp RX4 12 4 0 (.object "BoardCords$Told") true := ⟨RX4, TX4, 7, tyX4, rfl, by decide, inW_X4, jW_t 102 (by decide +kernel) rfl, tyX4_ok, nmX4, rfl, rfl, tyX4_ok 0 (by decide)⟩
theorem kfp_X4_18 : k_fp RX4 18 4 1 (.array .int) true := ⟨RX4, TX4, 7, tyX4, rfl, by decide, inW_X4, jW_t 104 (by decide +kernel) rfl, tyX4_ok, nmX4, rfl, rfl, tyX4_ok 1 (by decide)⟩
set_option maxHeartbeats 4000000 in
theorem kc_X4 (G : kG) (h0 txt : Nat) : KC G K_X4 [.ref h0, .ref txt] [(h0, .inr (4, [.null, .null, .int (Int32.ofInt 0), .int (Int32.ofInt 0), .int (Int32.ofInt 0), .int (Int32.ofInt 0), .int (Int32.ofInt 0)]))] (fun w => ∃ (ad : Nat → Nat) (h : jH), TI h ∧ j_Rg h ∧ w = (h0, .inr (4, [.ref (ad 0), .ref txt, .int (Int32.ofInt 0), .int (Int32.ofInt 0), .int (Int32.ofInt 0), .int (Int32.ofInt 0), .int (Int32.ofInt 0)])) :: j_w (k_g G ad) St.2.2 h) 7 50 := by
  refine KC.of (by decide +kernel) rfl rfl (Nat.le_of_ble_eq_true rfl) ?_
  refine k_aload 0 dX4_init_0 rfl ?_
  refine k_obj dX4_init_1 wO_X4 wO2 wO3 (Nat.le_of_ble_eq_true rfl) (Nat.le_of_ble_eq_true rfl) ?_
  refine k_aload 0 dX4_init_4 rfl ?_
  refine k_new dX4_init_5 knw_X4_9 (Nat.le_of_ble_eq_true rfl) (Nat.le_of_ble_eq_true rfl) (fun q5 => ?_)
  refine k_dup dX4_init_8 ?_
  refine k_ctor (M := K_X4) (M' := K_X6) (a := 1) (b := 9) (ws := (h0, .inr (4, [.null, .null, .int (Int32.ofInt 0), .int (Int32.ofInt 0), .int (Int32.ofInt 0), .int (Int32.ofInt 0), .int (Int32.ofInt 0)])) :: []) (av := []) (st := [.ref q5, .ref h0]) dX4_init_9 kml_X4_11 (kmi_X6 _ _) ⟨rfl, rfl, (Nat.le_of_ble_eq_true rfl), (Nat.le_of_ble_eq_true rfl)⟩ ⟨(Nat.le_of_ble_eq_true rfl), (Nat.le_of_ble_eq_true rfl)⟩ rfl (Nat.le_of_ble_eq_true rfl) (kc_X6 G q5) (fun w9 hw9 => ?_)
  refine k_put (ws' := (h0, .inr (4, [.ref q5, .null, .int (Int32.ofInt 0), .int (Int32.ofInt 0), .int (Int32.ofInt 0), .int (Int32.ofInt 0), .int (Int32.ofInt 0)])) :: ([] ++ w9)) 0 dX4_init_12 kfp_X4_12 rfl rfl rfl (Nat.le_of_ble_eq_true rfl) rfl ?_
  refine k_aload 0 dX4_init_15 rfl ?_
  refine k_aload 1 dX4_init_16 rfl ?_
  refine k_put (ws' := (h0, .inr (4, [.ref q5, .ref txt, .int (Int32.ofInt 0), .int (Int32.ofInt 0), .int (Int32.ofInt 0), .int (Int32.ofInt 0), .int (Int32.ofInt 0)])) :: ([] ++ w9)) 0 dX4_init_17 kfp_X4_18 rfl rfl rfl (Nat.le_of_ble_eq_true rfl) rfl ?_
  refine k_ret dX4_init_20 ?_
  obtain ⟨ad, h, e0, ti, hR, rfl⟩ := hw9
  exact ⟨ad, h, ti, hR, by rw [← e0]; rfl⟩
