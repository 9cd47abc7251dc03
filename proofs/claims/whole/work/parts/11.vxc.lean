theorem en_X7_exchange_34 {x1 x2 : Int} {h : jH} {post : jQ} (k : ∀ G, WV Sx G M_X7_exchange post 0 [jR 34, jI x1, jI x2, jU] [] h) : CT Sx M_X7_exchange [jR 34, jI x1, jI x2] h post := CT.of (by decide +kernel) (by simp [j_un]) (Nat.le_of_ble_eq_true rfl) _ rfl k
set_option maxRecDepth 20000 in
theorem vc_X7_exchange_34_0 {G : jG} {Q : jQ} {x1 x2 : Int} {h : jH}
    (H : (0 ≤ x1 ∧ x1 < 7) ∧ ((0 ≤ x2 ∧ x2 < 7) ∧ (Q none (j_up (j_up h 34 (Int.toNat x1) (h.1 34 (Int.toNat x2))) 34 (Int.toNat x2) (h.1 34 (Int.toNat x1)))))) :
    WV Sx G M_X7_exchange Q 0 [jR 34, jI x1, jI x2, jU] [] h := by
  refine s_aload_n (pc := 0) dX7_exchange_0 rfl ?_
  refine s_iload_n (pc := 1) dX7_exchange_1 rfl ?_
  obtain ⟨k1, H⟩ := H
  refine s_iald (pc := 2) (x := h.1 34 (Int.toNat x1)) dX7_exchange_2 cSx_34 k1 rfl ?_
  refine s_istore_n (pc := 3) (lv' := [jR 34, jI x1, jI x2, jI (h.1 34 (Int.toNat x1))]) dX7_exchange_3 (by decide) rfl ?_
  refine s_aload_n (pc := 4) dX7_exchange_4 rfl ?_
  refine s_iload_n (pc := 5) dX7_exchange_5 rfl ?_
  refine s_aload_n (pc := 6) dX7_exchange_6 rfl ?_
  refine s_iload_n (pc := 7) dX7_exchange_7 rfl ?_
  obtain ⟨k2, H⟩ := H
  refine s_iald (pc := 8) (x := h.1 34 (Int.toNat x2)) dX7_exchange_8 cSx_34 k2 rfl ?_
  refine s_iast (pc := 9) dX7_exchange_9 cSx_34 k1 ?_
  refine s_aload_n (pc := 10) dX7_exchange_10 rfl ?_
  refine s_iload_n (pc := 11) dX7_exchange_11 rfl ?_
  refine s_iload_n (pc := 12) dX7_exchange_12 rfl ?_
  refine s_iast (pc := 13) dX7_exchange_13 cSx_34 k2 ?_
  exact s_vret dX7_exchange_14 rfl H
theorem en_X7_nextRow_34 {x1 : Int} {h : jH} {post : jQ} (k : ∀ G, WV Sx G M_X7_nextRow post 0 [jR 34, jI x1, jU, jU, jU, jU] [] h) : CT Sx M_X7_nextRow [jR 34, jI x1] h post := CT.of (by decide +kernel) (by simp [j_un]) (Nat.le_of_ble_eq_true rfl) _ rfl k
set_option maxRecDepth 20000 in
theorem vc_X7_nextRow_34_0 {G : jG} {Q : jQ} {x1 : Int} {h : jH}
    (H : (j_rg (x1 - 2)) ∧ (WV Sx G M_X7_nextRow Q 4 [jR 34, jI x1, jI (x1 - 2), jU, jU, jU] [] h)) :
    WV Sx G M_X7_nextRow Q 0 [jR 34, jI x1, jU, jU, jU, jU] [] h := by
  refine s_iload_n (pc := 0) dX7_nextRow_0 rfl ?_
  refine s_iconst (pc := 1) dX7_nextRow_1 (j_cst rfl) ?_
  obtain ⟨k1, H⟩ := H
  refine s_isub (pc := 2) dX7_nextRow_2 k1 ?_
  refine s_istore_n (pc := 3) (lv' := [jR 34, jI x1, jI (x1 - 2), jU, jU, jU]) dX7_nextRow_3 (by decide) rfl ?_
  exact H
set_option maxRecDepth 20000 in
theorem vc_X7_nextRow_34_4 {G : jG} {Q : jQ} {x1 x2 : Int} {h : jH}
    (H : (x2 < 0 → (0 ≤ x2 → (j_rg (x1 - 1)) ∧ (WV Sx G M_X7_nextRow Q 35 [jR 34, jI x1, jI x2, jI (x1 - 1), jU, jU] [] h)) ∧ (¬ 0 ≤ x2 → Q (some (jI 0)) h)) ∧ (¬ x2 < 0 → (0 ≤ x2 ∧ x2 < 7) ∧ ((j_rg (x2 + 1)) ∧ ((0 ≤ x2 + 1 ∧ x2 + 1 < 7) ∧ (((h.1 34 (Int.toNat x2)) ≤ (h.1 34 (Int.toNat (x2 + 1))) → (0 ≤ x2 → (j_rg (x1 - 1)) ∧ (WV Sx G M_X7_nextRow Q 35 [jR 34, jI x1, jI x2, jI (x1 - 1), jU, jU] [] h)) ∧ (¬ 0 ≤ x2 → Q (some (jI 0)) h)) ∧ (¬ (h.1 34 (Int.toNat x2)) ≤ (h.1 34 (Int.toNat (x2 + 1))) → (j_rg (x2 + (-1))) ∧ (WV Sx G M_X7_nextRow Q 4 [jR 34, jI x1, jI (x2 + (-1)), jU, jU, jU] [] h))))))) :
    WV Sx G M_X7_nextRow Q 4 [jR 34, jI x1, jI x2, jU, jU, jU] [] h := by
  refine s_iload_n (pc := 4) dX7_nextRow_4 rfl ?_
  refine s_if_lt (pc := 5) (tgt := 25) dX7_nextRow_5 (by decide) (fun hc => ?_) (fun hc => ?_)
  · have H := H.1 hc
    refine s_iload_n (pc := 25) dX7_nextRow_25 rfl ?_
    refine s_if_ge (pc := 26) (tgt := 31) dX7_nextRow_26 (by decide) (fun hc => ?_) (fun hc => ?_)
    · have H := H.1 hc
      refine s_iload_n (pc := 31) dX7_nextRow_31 rfl ?_
      refine s_iconst (pc := 32) dX7_nextRow_32 (j_cst rfl) ?_
      obtain ⟨k1, H⟩ := H
      refine s_isub (pc := 33) dX7_nextRow_33 k1 ?_
      refine s_istore_n (pc := 34) (lv' := [jR 34, jI x1, jI x2, jI (x1 - 1), jU, jU]) dX7_nextRow_34 (by decide) rfl ?_
      exact H
    · have H := H.2 hc
      refine s_iconst (pc := 29) dX7_nextRow_29 (j_cst rfl) ?_
      exact s_zret dX7_nextRow_30 rfl (Or.inl rfl) H
  · have H := H.2 hc
    refine s_aload_n (pc := 8) dX7_nextRow_8 rfl ?_
    refine s_iload_n (pc := 9) dX7_nextRow_9 rfl ?_
    obtain ⟨k2, H⟩ := H
    refine s_iald (pc := 10) (x := h.1 34 (Int.toNat x2)) dX7_nextRow_10 cSx_34 k2 rfl ?_
    refine s_aload_n (pc := 11) dX7_nextRow_11 rfl ?_
    refine s_iload_n (pc := 12) dX7_nextRow_12 rfl ?_
    refine s_iconst (pc := 13) dX7_nextRow_13 (j_cst rfl) ?_
    obtain ⟨k3, H⟩ := H
    refine s_iadd (pc := 14) dX7_nextRow_14 k3 ?_
    obtain ⟨k4, H⟩ := H
    refine s_iald (pc := 15) (x := h.1 34 (Int.toNat (x2 + 1))) dX7_nextRow_15 cSx_34 k4 rfl ?_
    refine s_icmp_le (pc := 16) (tgt := 25) dX7_nextRow_16 (by decide) (fun hc => ?_) (fun hc => ?_)
    · have H := H.1 hc
      refine s_iload_n (pc := 25) dX7_nextRow_25 rfl ?_
      refine s_if_ge (pc := 26) (tgt := 31) dX7_nextRow_26 (by decide) (fun hc => ?_) (fun hc => ?_)
      · have H := H.1 hc
        refine s_iload_n (pc := 31) dX7_nextRow_31 rfl ?_
        refine s_iconst (pc := 32) dX7_nextRow_32 (j_cst rfl) ?_
        obtain ⟨k5, H⟩ := H
        refine s_isub (pc := 33) dX7_nextRow_33 k5 ?_
        refine s_istore_n (pc := 34) (lv' := [jR 34, jI x1, jI x2, jI (x1 - 1), jU, jU]) dX7_nextRow_34 (by decide) rfl ?_
        exact H
      · have H := H.2 hc
        refine s_iconst (pc := 29) dX7_nextRow_29 (j_cst rfl) ?_
        exact s_zret dX7_nextRow_30 rfl (Or.inl rfl) H
    · have H := H.2 hc
      obtain ⟨k6, H⟩ := H
      refine s_iinc (pc := 19) (lv' := [jR 34, jI x1, jI (x2 + (-1)), jU, jU, jU]) dX7_nextRow_19 rfl (by decide) k6 rfl ?_
      refine s_goto (pc := 22) (tgt := 4) dX7_nextRow_22 (by decide) ?_
      exact H
set_option maxRecDepth 20000 in
theorem vc_X7_nextRow_34_35 {G : jG} {Q : jQ} {x1 x2 x3 : Int} {h : jH}
    (H : (x3 ≤ x2 → ∃ post : jH → Prop, CT Sx M_X7_exchange [jR 34, jI x2, jI x3] h (jPv post) ∧ ∀ (h2 : jH), post h2 → ((j_rg (x2 + 1)) ∧ ((j_rg (x1 - 1)) ∧ (WV Sx G M_X7_nextRow Q 71 [jR 34, jI x1, jI x2, jI x3, jI (x2 + 1), jI (x1 - 1)] [] h2)))) ∧ (¬ x3 ≤ x2 → (0 ≤ x3 ∧ x3 < 7) ∧ ((0 ≤ x2 ∧ x2 < 7) ∧ (((h.1 34 (Int.toNat x2)) ≤ (h.1 34 (Int.toNat x3)) → ∃ post : jH → Prop, CT Sx M_X7_exchange [jR 34, jI x2, jI x3] h (jPv post) ∧ ∀ (h8 : jH), post h8 → ((j_rg (x2 + 1)) ∧ ((j_rg (x1 - 1)) ∧ (WV Sx G M_X7_nextRow Q 71 [jR 34, jI x1, jI x2, jI x3, jI (x2 + 1), jI (x1 - 1)] [] h8)))) ∧ (¬ (h.1 34 (Int.toNat x2)) ≤ (h.1 34 (Int.toNat x3)) → (j_rg (x3 + (-1))) ∧ (WV Sx G M_X7_nextRow Q 35 [jR 34, jI x1, jI x2, jI (x3 + (-1)), jU, jU] [] h)))))) :
    WV Sx G M_X7_nextRow Q 35 [jR 34, jI x1, jI x2, jI x3, jU, jU] [] h := by
  refine s_iload_n (pc := 35) dX7_nextRow_35 rfl ?_
  refine s_iload_n (pc := 36) dX7_nextRow_36 rfl ?_
  refine s_icmp_le (pc := 37) (tgt := 55) dX7_nextRow_37 (by decide) (fun hc => ?_) (fun hc => ?_)
  · have H := H.1 hc
    refine s_aload_n (pc := 55) dX7_nextRow_55 rfl ?_
    refine s_iload_n (pc := 56) dX7_nextRow_56 rfl ?_
    refine s_iload_n (pc := 57) dX7_nextRow_57 rfl ?_
    obtain ⟨post, hct, H⟩ := H
    refine s_callS (pc := 58) (as := [jR 34, jI x2, jI x3]) (st := []) (by exact dX7_nextRow_58) ms_X7_176 ⟨rfl, rfl, Nat.le_of_ble_eq_true rfl, Nat.le_of_ble_eq_true rfl⟩ (Nat.le_of_ble_eq_true rfl) _ rfl hct (fun r1 h2 hp => ?_)
    obtain ⟨rfl, hp⟩ := hp
    have H := H h2 hp
    show WV _ _ _ _ 61 [jR 34, jI x1, jI x2, jI x3, jU, jU] [] h2
    refine s_iload_n (pc := 61) dX7_nextRow_61 rfl ?_
    refine s_iconst (pc := 62) dX7_nextRow_62 (j_cst rfl) ?_
    obtain ⟨k3, H⟩ := H
    refine s_iadd (pc := 63) dX7_nextRow_63 k3 ?_
    refine s_istore (pc := 64) (lv' := [jR 34, jI x1, jI x2, jI x3, jI (x2 + 1), jU]) dX7_nextRow_64 (by decide) rfl ?_
    refine s_iload_n (pc := 66) dX7_nextRow_66 rfl ?_
    refine s_iconst (pc := 67) dX7_nextRow_67 (j_cst rfl) ?_
    obtain ⟨k4, H⟩ := H
    refine s_isub (pc := 68) dX7_nextRow_68 k4 ?_
    refine s_istore (pc := 69) (lv' := [jR 34, jI x1, jI x2, jI x3, jI (x2 + 1), jI (x1 - 1)]) dX7_nextRow_69 (by decide) rfl ?_
    exact H
  · have H := H.2 hc
    refine s_aload_n (pc := 40) dX7_nextRow_40 rfl ?_
    refine s_iload_n (pc := 41) dX7_nextRow_41 rfl ?_
    obtain ⟨k5, H⟩ := H
    refine s_iald (pc := 42) (x := h.1 34 (Int.toNat x3)) dX7_nextRow_42 cSx_34 k5 rfl ?_
    refine s_aload_n (pc := 43) dX7_nextRow_43 rfl ?_
    refine s_iload_n (pc := 44) dX7_nextRow_44 rfl ?_
    obtain ⟨k6, H⟩ := H
    refine s_iald (pc := 45) (x := h.1 34 (Int.toNat x2)) dX7_nextRow_45 cSx_34 k6 rfl ?_
    refine s_icmp_ge (pc := 46) (tgt := 55) dX7_nextRow_46 (by decide) (fun hc => ?_) (fun hc => ?_)
    · have H := H.1 hc
      refine s_aload_n (pc := 55) dX7_nextRow_55 rfl ?_
      refine s_iload_n (pc := 56) dX7_nextRow_56 rfl ?_
      refine s_iload_n (pc := 57) dX7_nextRow_57 rfl ?_
      obtain ⟨post, hct, H⟩ := H
      refine s_callS (pc := 58) (as := [jR 34, jI x2, jI x3]) (st := []) (by exact dX7_nextRow_58) ms_X7_176 ⟨rfl, rfl, Nat.le_of_ble_eq_true rfl, Nat.le_of_ble_eq_true rfl⟩ (Nat.le_of_ble_eq_true rfl) _ rfl hct (fun r7 h8 hp => ?_)
      obtain ⟨rfl, hp⟩ := hp
      have H := H h8 hp
      show WV _ _ _ _ 61 [jR 34, jI x1, jI x2, jI x3, jU, jU] [] h8
      refine s_iload_n (pc := 61) dX7_nextRow_61 rfl ?_
      refine s_iconst (pc := 62) dX7_nextRow_62 (j_cst rfl) ?_
      obtain ⟨k9, H⟩ := H
      refine s_iadd (pc := 63) dX7_nextRow_63 k9 ?_
      refine s_istore (pc := 64) (lv' := [jR 34, jI x1, jI x2, jI x3, jI (x2 + 1), jU]) dX7_nextRow_64 (by decide) rfl ?_
      refine s_iload_n (pc := 66) dX7_nextRow_66 rfl ?_
      refine s_iconst (pc := 67) dX7_nextRow_67 (j_cst rfl) ?_
      obtain ⟨k10, H⟩ := H
      refine s_isub (pc := 68) dX7_nextRow_68 k10 ?_
      refine s_istore (pc := 69) (lv' := [jR 34, jI x1, jI x2, jI x3, jI (x2 + 1), jI (x1 - 1)]) dX7_nextRow_69 (by decide) rfl ?_
      exact H
    · have H := H.2 hc
      obtain ⟨k11, H⟩ := H
      refine s_iinc (pc := 49) (lv' := [jR 34, jI x1, jI x2, jI (x3 + (-1)), jU, jU]) dX7_nextRow_49 rfl (by decide) k11 rfl ?_
      refine s_goto (pc := 52) (tgt := 35) dX7_nextRow_52 (by decide) ?_
      exact H
set_option maxRecDepth 20000 in
theorem vc_X7_nextRow_34_71 {G : jG} {Q : jQ} {x1 x2 x3 x4 x5 : Int} {h : jH}
    (H : (x5 ≤ x4 → Q (some (jI 1)) h) ∧ (¬ x5 ≤ x4 → ∃ post : jH → Prop, CT Sx M_X7_exchange [jR 34, jI x4, jI x5] h (jPv post) ∧ ∀ (h2 : jH), post h2 → ((j_rg (x4 + 1)) ∧ ((j_rg (x5 + (-1))) ∧ (WV Sx G M_X7_nextRow Q 71 [jR 34, jI x1, jI x2, jI x3, jI (x4 + 1), jI (x5 + (-1))] [] h2))))) :
    WV Sx G M_X7_nextRow Q 71 [jR 34, jI x1, jI x2, jI x3, jI x4, jI x5] [] h := by
  refine s_iload (pc := 71) dX7_nextRow_71 rfl ?_
  refine s_iload (pc := 73) dX7_nextRow_73 rfl ?_
  refine s_icmp_ge (pc := 75) (tgt := 95) dX7_nextRow_75 (by decide) (fun hc => ?_) (fun hc => ?_)
  · have H := H.1 hc
    refine s_iconst (pc := 95) dX7_nextRow_95 (j_cst rfl) ?_
    exact s_zret dX7_nextRow_96 rfl (Or.inr rfl) H
  · have H := H.2 hc
    refine s_aload_n (pc := 78) dX7_nextRow_78 rfl ?_
    refine s_iload (pc := 79) dX7_nextRow_79 rfl ?_
    refine s_iload (pc := 81) dX7_nextRow_81 rfl ?_
    obtain ⟨post, hct, H⟩ := H
    refine s_callS (pc := 83) (as := [jR 34, jI x4, jI x5]) (st := []) (by exact dX7_nextRow_83) ms_X7_176 ⟨rfl, rfl, Nat.le_of_ble_eq_true rfl, Nat.le_of_ble_eq_true rfl⟩ (Nat.le_of_ble_eq_true rfl) _ rfl hct (fun r1 h2 hp => ?_)
    obtain ⟨rfl, hp⟩ := hp
    have H := H h2 hp
    show WV _ _ _ _ 86 [jR 34, jI x1, jI x2, jI x3, jI x4, jI x5] [] h2
    obtain ⟨k3, H⟩ := H
    refine s_iinc (pc := 86) (lv' := [jR 34, jI x1, jI x2, jI x3, jI (x4 + 1), jI x5]) dX7_nextRow_86 rfl (by decide) k3 rfl ?_
    obtain ⟨k4, H⟩ := H
    refine s_iinc (pc := 89) (lv' := [jR 34, jI x1, jI x2, jI x3, jI (x4 + 1), jI (x5 + (-1))]) dX7_nextRow_89 rfl (by decide) k4 rfl ?_
    refine s_goto (pc := 92) (tgt := 71) dX7_nextRow_92 (by decide) ?_
    exact H
theorem en_X5_find_33_17 {h : jH} {post : jQ} (k : ∀ G, WV Sx G M_X5_find post 0 [jR 33, jR 17, jU, jU] [] h) : CT Sx M_X5_find [jR 33, jR 17] h post := CT.of (by decide +kernel) (by simp [j_un]) (Nat.le_of_ble_eq_true rfl) _ rfl k
set_option maxRecDepth 20000 in
theorem vc_X5_find_33_17_0 {G : jG} {Q : jQ} {h : jH}
    (H : ∃ post : jH → Prop, CT Sx M_X5_prepare [jR 33, jR 17] h (jPv post) ∧ ∀ (h2 : jH), post h2 → (WV Sx G M_X5_find Q 13 [jR 33, jR 17, jI 0, jU] [] (j_up h2 33 4 1000000))) :
    WV Sx G M_X5_find Q 0 [jR 33, jR 17, jU, jU] [] h := by
  refine s_aload_n (pc := 0) dX5_find_0 rfl ?_
  refine s_aload_n (pc := 1) dX5_find_1 rfl ?_
  obtain ⟨post, hct, H⟩ := H
  refine s_callV (pc := 2) (as := [jR 17]) (st := []) (by exact dX5_find_2) mv_X5_31 ⟨rfl, rfl, Nat.le_of_ble_eq_true rfl, Nat.le_of_ble_eq_true rfl⟩ cSx_33 rfl rfl (Nat.le_of_ble_eq_true rfl) _ rfl hct (fun r1 h2 hp => ?_)
  obtain ⟨rfl, hp⟩ := hp
  have H := H h2 hp
  show WV _ _ _ _ 5 [jR 33, jR 17, jU, jU] [] h2
  refine s_aload_n (pc := 5) dX5_find_5 rfl ?_
  refine s_ldc (pc := 6) dX5_find_6 kc_X5_35 (j_cst rfl) ?_
  refine s_puti (pc := 8) dX5_find_8 fp_X5_36 cSx_33 rfl ?_
  refine s_iconst (pc := 11) dX5_find_11 (j_cst rfl) ?_
  refine s_istore_n (pc := 12) (lv' := [jR 33, jR 17, jI 0, jU]) dX5_find_12 (by decide) rfl ?_
  exact H
set_option maxRecDepth 20000 in
theorem vc_X5_find_33_17_13 {G : jG} {Q : jQ} {x2 : Int} {u3 : jV} {h : jH}
    (H : (5040 ≤ x2 → Q none h) ∧ (¬ 5040 ≤ x2 → ∃ post : Int → jH → Prop, CT Sx M_X5_waitsFor [jR 33, jI (h.1 33 4)] h (jPi post) ∧ ∀ (r1 : Int) (h2 : jH), post r1 h2 → (((h2.1 33 4) ≤ r1 → ∃ post : Int → jH → Prop, CT Sx M_X7_nextRow [jR 34, jI (h2.1 33 3)] h2 (jPi post) ∧ ∀ (r3 : Int) (h4 : jH), post r3 h4 → ((r3 = 0 → Q none h4) ∧ (¬ r3 = 0 → (j_rg (x2 + 1)) ∧ (WV Sx G M_X5_find Q 13 [jR 33, jR 17, jI (x2 + 1), jI r1] [] h4)))) ∧ (¬ (h2.1 33 4) ≤ r1 → (0 ≤ h2.1 33 3) ∧ ((0 + (h2.1 33 3) ≤ 7) ∧ (∃ post : Int → jH → Prop, CT Sx M_X7_nextRow [jR 34, jI (h2.1 33 3)] (j_cp (j_up h2 33 4 r1) 34 0 35 0 (Int.toNat (h2.1 33 3))) (jPi post) ∧ ∀ (r8 : Int) (h9 : jH), post r8 h9 → ((r8 = 0 → Q none h9) ∧ (¬ r8 = 0 → (j_rg (x2 + 1)) ∧ (WV Sx G M_X5_find Q 13 [jR 33, jR 17, jI (x2 + 1), jI r1] [] h9))))))))) :
    WV Sx G M_X5_find Q 13 [jR 33, jR 17, jI x2, u3] [] h := by
  refine s_iload_n (pc := 13) dX5_find_13 rfl ?_
  refine s_sipush (pc := 14) dX5_find_14 rfl (j_cst rfl) ?_
  refine s_icmp_ge (pc := 17) (tgt := 82) dX5_find_17 (by decide) (fun hc => ?_) (fun hc => ?_)
  · have H := H.1 hc
    exact s_vret dX5_find_82 rfl H
  · have H := H.2 hc
    refine s_aload_n (pc := 20) dX5_find_20 rfl ?_
    refine s_aload_n (pc := 21) dX5_find_21 rfl ?_
    refine s_geti (pc := 22) (x := h.1 33 4) dX5_find_22 fl_X5_36 cSx_33 rfl rfl ?_
    obtain ⟨post, hct, H⟩ := H
    refine s_callV (pc := 25) (as := [jI (h.1 33 4)]) (st := []) (by exact dX5_find_25) mv_X5_40 ⟨rfl, rfl, Nat.le_of_ble_eq_true rfl, Nat.le_of_ble_eq_true rfl⟩ cSx_33 rfl rfl (Nat.le_of_ble_eq_true rfl) _ rfl hct (fun r1 h2 hp => ?_)
    obtain ⟨r1, rfl, hp⟩ := hp
    have H := H r1 h2 hp
    show WV _ _ _ _ 28 [jR 33, jR 17, jI x2, u3] [jI r1] h2
    refine s_istore_n (pc := 28) (lv' := [jR 33, jR 17, jI x2, jI r1]) dX5_find_28 (by decide) rfl ?_
    refine s_iload_n (pc := 29) dX5_find_29 rfl ?_
    refine s_aload_n (pc := 30) dX5_find_30 rfl ?_
    refine s_geti (pc := 31) (x := h2.1 33 4) dX5_find_31 fl_X5_36 cSx_33 rfl rfl ?_
    refine s_icmp_ge (pc := 34) (tgt := 59) dX5_find_34 (by decide) (fun hc => ?_) (fun hc => ?_)
    · have H := H.1 hc
      refine s_aload_n (pc := 59) dX5_find_59 rfl ?_
      refine s_getr (pc := 60) dX5_find_60 fl_X5_9 cSx_33 rfl ?_
      refine s_aload_n (pc := 63) dX5_find_63 rfl ?_
      refine s_geti (pc := 64) (x := h2.1 33 3) dX5_find_64 fl_X5_44 cSx_33 rfl rfl ?_
      obtain ⟨post, hct, H⟩ := H
      refine s_callSN (pc := 67) (as := [jR 34, jI (h2.1 33 3)]) (st := []) (by exact dX5_find_67) mn_X5_53 ⟨rfl, rfl, Nat.le_of_ble_eq_true rfl, Nat.le_of_ble_eq_true rfl⟩ (Nat.le_of_ble_eq_true rfl) _ rfl hct (fun r3 h4 hp => ?_)
      obtain ⟨r3, rfl, hp⟩ := hp
      have H := H r3 h4 hp
      show WV _ _ _ _ 70 [jR 33, jR 17, jI x2, jI r1] [jI r3] h4
      refine s_if_ne (pc := 70) (tgt := 76) dX5_find_70 (by decide) (fun hc => ?_) (fun hc => ?_)
      · have H := H.2 hc
        obtain ⟨k5, H⟩ := H
        refine s_iinc (pc := 76) (lv' := [jR 33, jR 17, jI (x2 + 1), jI r1]) dX5_find_76 rfl (by decide) k5 rfl ?_
        refine s_goto (pc := 79) (tgt := 13) dX5_find_79 (by decide) ?_
        exact H
      · have H := H.1 hc
        refine s_goto (pc := 73) (tgt := 82) dX5_find_73 (by decide) ?_
        exact s_vret dX5_find_82 rfl H
    · have H := H.2 hc
      refine s_aload_n (pc := 37) dX5_find_37 rfl ?_
      refine s_iload_n (pc := 38) dX5_find_38 rfl ?_
      refine s_puti (pc := 39) dX5_find_39 fp_X5_36 cSx_33 rfl ?_
      refine s_aload_n (pc := 42) dX5_find_42 rfl ?_
      refine s_getr (pc := 43) dX5_find_43 fl_X5_9 cSx_33 rfl ?_
      refine s_iconst (pc := 46) dX5_find_46 (j_cst rfl) ?_
      refine s_aload_n (pc := 47) dX5_find_47 rfl ?_
      refine s_getr (pc := 48) dX5_find_48 fl_X5_15 cSx_33 rfl ?_
      refine s_iconst (pc := 51) dX5_find_51 (j_cst rfl) ?_
      refine s_aload_n (pc := 52) dX5_find_52 rfl ?_
      refine s_geti (pc := 53) (x := h2.1 33 3) dX5_find_53 fl_X5_44 cSx_33 rfl rfl ?_
      obtain ⟨k6, H⟩ := H
      obtain ⟨k7, H⟩ := H
      refine s_copy (pc := 56) dX5_find_56 ma_X5_47 ⟨Nat.le_of_ble_eq_true rfl, Nat.le_of_ble_eq_true rfl⟩ cSx_34 cSx_35 ⟨by decide, by decide, k6, k7, k7⟩ ?_
      refine s_aload_n (pc := 59) dX5_find_59 rfl ?_
      refine s_getr (pc := 60) dX5_find_60 fl_X5_9 cSx_33 rfl ?_
      refine s_aload_n (pc := 63) dX5_find_63 rfl ?_
      refine s_geti (pc := 64) (x := h2.1 33 3) dX5_find_64 fl_X5_44 cSx_33 rfl rfl ?_
      obtain ⟨post, hct, H⟩ := H
      refine s_callSN (pc := 67) (as := [jR 34, jI (h2.1 33 3)]) (st := []) (by exact dX5_find_67) mn_X5_53 ⟨rfl, rfl, Nat.le_of_ble_eq_true rfl, Nat.le_of_ble_eq_true rfl⟩ (Nat.le_of_ble_eq_true rfl) _ rfl hct (fun r8 h9 hp => ?_)
      obtain ⟨r8, rfl, hp⟩ := hp
      have H := H r8 h9 hp
      show WV _ _ _ _ 70 [jR 33, jR 17, jI x2, jI r1] [jI r8] h9
      refine s_if_ne (pc := 70) (tgt := 76) dX5_find_70 (by decide) (fun hc => ?_) (fun hc => ?_)
      · have H := H.2 hc
        obtain ⟨k10, H⟩ := H
        refine s_iinc (pc := 76) (lv' := [jR 33, jR 17, jI (x2 + 1), jI r1]) dX5_find_76 rfl (by decide) k10 rfl ?_
        refine s_goto (pc := 79) (tgt := 13) dX5_find_79 (by decide) ?_
        exact H
      · have H := H.1 hc
        refine s_goto (pc := 73) (tgt := 82) dX5_find_73 (by decide) ?_
        exact s_vret dX5_find_82 rfl H
theorem en_X7_bestRow_0 {x1 : Int} {h : jH} {post : jQ} (k : ∀ G, WV Sx G M_X7_bestRow post 0 [jR 0, jI x1] [] h) : CT Sx M_X7_bestRow [jR 0, jI x1] h post := CT.of (by decide +kernel) (by simp [j_un]) (Nat.le_of_ble_eq_true rfl) _ rfl k
set_option maxRecDepth 20000 in
theorem vc_X7_bestRow_0_0 {G : jG} {Q : jQ} {x1 : Int} {h : jH}
    (H : ((-1) ≤ x1 → ∃ post : jH → Prop, CT Sx M_X5_find [jR 33, jR 17] h (jPv post) ∧ ∀ (h2 : jH), post h2 → ((x1 = (-1) → ∃ post : Int → jH → Prop, CT Sx M_X2_those [jR 17, jI 1] h2 (jPi post) ∧ ∀ (r4 : Int) (h5 : jH), post r4 h5 → (∃ post : Int → jH → Prop, CT Sx M_X2_waitedOf [jR 17, jI r4] h5 (jPi post) ∧ ∀ (r6 : Int) (h7 : jH), post r6 h7 → ((j_rg ((h2.1 33 4) + r6)) ∧ (Q (some (jI ((h2.1 33 4) + r6))) h7)))) ∧ (¬ x1 = (-1) → ((h2.1 33 3) ≤ x1 → Q (some (jI (-5))) h2) ∧ (¬ (h2.1 33 3) ≤ x1 → (0 ≤ x1 ∧ x1 < 7) ∧ (Q (some (jI (h2.1 35 (Int.toNat x1)))) h2))))) ∧ (¬ (-1) ≤ x1 → Q (some (jI (-1))) h)) :
    WV Sx G M_X7_bestRow Q 0 [jR 0, jI x1] [] h := by
  refine s_iload_n (pc := 0) dX7_bestRow_0 rfl ?_
  refine s_iconst (pc := 1) dX7_bestRow_1 (j_cst rfl) ?_
  refine s_icmp_ge (pc := 2) (tgt := 7) dX7_bestRow_2 (by decide) (fun hc => ?_) (fun hc => ?_)
  · have H := H.1 hc
    refine s_aload_n (pc := 7) dX7_bestRow_7 rfl ?_
    refine s_getr (pc := 8) dX7_bestRow_8 fl_X7_62 cSx_0 rfl ?_
    refine s_aload_n (pc := 11) dX7_bestRow_11 rfl ?_
    refine s_getr (pc := 12) dX7_bestRow_12 fl_X7_34 cSx_0 rfl ?_
    obtain ⟨post, hct, H⟩ := H
    refine s_callV (pc := 15) (as := [jR 17]) (st := []) (by exact dX7_bestRow_15) mv_X7_203 ⟨rfl, rfl, Nat.le_of_ble_eq_true rfl, Nat.le_of_ble_eq_true rfl⟩ cSx_33 rfl rfl (Nat.le_of_ble_eq_true rfl) _ rfl hct (fun r1 h2 hp => ?_)
    obtain ⟨rfl, hp⟩ := hp
    have H := H h2 hp
    show WV _ _ _ _ 18 [jR 0, jI x1] [] h2
    refine s_iload_n (pc := 18) dX7_bestRow_18 rfl ?_
    refine s_iconst (pc := 19) dX7_bestRow_19 (j_cst rfl) ?_
    refine s_icmp_ne (pc := 20) (tgt := 47) dX7_bestRow_20 (by decide) (fun hc => ?_) (fun hc => ?_)
    · have H := H.2 hc
      refine s_iload_n (pc := 47) dX7_bestRow_47 rfl ?_
      refine s_aload_n (pc := 48) dX7_bestRow_48 rfl ?_
      refine s_getr (pc := 49) dX7_bestRow_49 fl_X7_62 cSx_0 rfl ?_
      refine s_geti (pc := 52) (x := h2.1 33 3) dX7_bestRow_52 fl_X7_209 cSx_33 rfl rfl ?_
      refine s_icmp_ge (pc := 55) (tgt := 70) dX7_bestRow_55 (by decide) (fun hc => ?_) (fun hc => ?_)
      · have H := H.1 hc
        refine s_bipush (pc := 70) dX7_bestRow_70 rfl (j_cst rfl) ?_
        exact s_iret dX7_bestRow_72 rfl H
      · have H := H.2 hc
        refine s_aload_n (pc := 58) dX7_bestRow_58 rfl ?_
        refine s_getr (pc := 59) dX7_bestRow_59 fl_X7_62 cSx_0 rfl ?_
        refine s_getr (pc := 62) dX7_bestRow_62 fl_X7_212 cSx_33 rfl ?_
        refine s_iload_n (pc := 65) dX7_bestRow_65 rfl ?_
        obtain ⟨k3, H⟩ := H
        refine s_iald (pc := 66) (x := h2.1 35 (Int.toNat x1)) dX7_bestRow_66 cSx_35 k3 rfl ?_
        refine s_goto (pc := 67) (tgt := 72) dX7_bestRow_67 (by decide) ?_
        exact s_iret dX7_bestRow_72 rfl H
    · have H := H.1 hc
      refine s_aload_n (pc := 23) dX7_bestRow_23 rfl ?_
      refine s_getr (pc := 24) dX7_bestRow_24 fl_X7_62 cSx_0 rfl ?_
      refine s_geti (pc := 27) (x := h2.1 33 4) dX7_bestRow_27 fl_X7_206 cSx_33 rfl rfl ?_
      refine s_aload_n (pc := 30) dX7_bestRow_30 rfl ?_
      refine s_getr (pc := 31) dX7_bestRow_31 fl_X7_34 cSx_0 rfl ?_
      refine s_aload_n (pc := 34) dX7_bestRow_34 rfl ?_
      refine s_getr (pc := 35) dX7_bestRow_35 fl_X7_34 cSx_0 rfl ?_
      refine s_iconst (pc := 38) dX7_bestRow_38 (j_cst rfl) ?_
      obtain ⟨post, hct, H⟩ := H
      refine s_callV (pc := 39) (as := [jI 1]) (st := [jR 17, jI (h2.1 33 4)]) (by exact dX7_bestRow_39) mv_X7_137 ⟨rfl, rfl, Nat.le_of_ble_eq_true rfl, Nat.le_of_ble_eq_true rfl⟩ cSx_17 rfl rfl (Nat.le_of_ble_eq_true rfl) _ rfl hct (fun r4 h5 hp => ?_)
      obtain ⟨r4, rfl, hp⟩ := hp
      have H := H r4 h5 hp
      show WV _ _ _ _ 42 [jR 0, jI x1] [jI r4, jR 17, jI (h2.1 33 4)] h5
      obtain ⟨post, hct, H⟩ := H
      refine s_callV (pc := 42) (as := [jI r4]) (st := [jI (h2.1 33 4)]) (by exact dX7_bestRow_42) mv_X7_193 ⟨rfl, rfl, Nat.le_of_ble_eq_true rfl, Nat.le_of_ble_eq_true rfl⟩ cSx_17 rfl rfl (Nat.le_of_ble_eq_true rfl) _ rfl hct (fun r6 h7 hp => ?_)
      obtain ⟨r6, rfl, hp⟩ := hp
      have H := H r6 h7 hp
      show WV _ _ _ _ 45 [jR 0, jI x1] [jI r6, jI (h2.1 33 4)] h7
      obtain ⟨k8, H⟩ := H
      refine s_iadd (pc := 45) dX7_bestRow_45 k8 ?_
      exact s_iret dX7_bestRow_46 rfl H
  · have H := H.2 hc
    refine s_iconst (pc := 5) dX7_bestRow_5 (j_cst rfl) ?_
    exact s_iret dX7_bestRow_6 rfl H
theorem en_X2_sumOf_17_20 {x2 : Int} {h : jH} {post : jQ} (k : ∀ G, WV Sx G M_X2_sumOf post 0 [jR 17, jR 20, jI x2, jU, jU] [] h) : CT Sx M_X2_sumOf [jR 17, jR 20, jI x2] h post := CT.of (by decide +kernel) (by simp [j_un]) (Nat.le_of_ble_eq_true rfl) _ rfl k
set_option maxRecDepth 20000 in
theorem vc_X2_sumOf_17_20_0 {G : jG} {Q : jQ} {x2 : Int} {h : jH}
    (H : WV Sx G M_X2_sumOf Q 5 [jR 17, jR 20, jI x2, jI 0, jI 0] [] h) :
    WV Sx G M_X2_sumOf Q 0 [jR 17, jR 20, jI x2, jU, jU] [] h := by
  refine s_iconst (pc := 0) dX2_sumOf_0 (j_cst rfl) ?_
  refine s_istore_n (pc := 1) (lv' := [jR 17, jR 20, jI x2, jI 0, jU]) dX2_sumOf_1 (by decide) rfl ?_
  refine s_iconst (pc := 2) dX2_sumOf_2 (j_cst rfl) ?_
  refine s_istore (pc := 3) (lv' := [jR 17, jR 20, jI x2, jI 0, jI 0]) dX2_sumOf_3 (by decide) rfl ?_
  exact H
set_option maxRecDepth 20000 in
theorem vc_X2_sumOf_17_20_5 {G : jG} {Q : jQ} {x2 x3 x4 : Int} {h : jH}
    (H : ((h.1 2 2) ≤ x4 → Q (some (jI x3)) h) ∧ (¬ (h.1 2 2) ≤ x4 → ((b_and (b_shr x2 x4) 1) = 1 → (0 ≤ x4 ∧ x4 < 7) ∧ ((j_rg (x3 + (h.1 20 (Int.toNat x4)))) ∧ ((j_rg (x4 + 1)) ∧ (WV Sx G M_X2_sumOf Q 5 [jR 17, jR 20, jI x2, jI (x3 + (h.1 20 (Int.toNat x4))), jI (x4 + 1)] [] h)))) ∧ (¬ (b_and (b_shr x2 x4) 1) = 1 → (j_rg (x4 + 1)) ∧ (WV Sx G M_X2_sumOf Q 5 [jR 17, jR 20, jI x2, jI x3, jI (x4 + 1)] [] h)))) :
    WV Sx G M_X2_sumOf Q 5 [jR 17, jR 20, jI x2, jI x3, jI x4] [] h := by
  refine s_iload (pc := 5) dX2_sumOf_5 rfl ?_
  refine s_aload_n (pc := 7) dX2_sumOf_7 rfl ?_
  refine s_getr (pc := 8) dX2_sumOf_8 fl_X2_24 cSx_17 rfl ?_
  refine s_geti (pc := 11) (x := h.1 2 2) dX2_sumOf_11 fl_X2_44 cSx_2 rfl rfl ?_
  refine s_icmp_ge (pc := 14) (tgt := 40) dX2_sumOf_14 (by decide) (fun hc => ?_) (fun hc => ?_)
  · have H := H.1 hc
    refine s_iload_n (pc := 40) dX2_sumOf_40 rfl ?_
    exact s_iret dX2_sumOf_41 rfl H
  · have H := H.2 hc
    refine s_iload_n (pc := 17) dX2_sumOf_17 rfl ?_
    refine s_iload (pc := 18) dX2_sumOf_18 rfl ?_
    refine s_ishr (pc := 20) dX2_sumOf_20 ?_
    refine s_iconst (pc := 21) dX2_sumOf_21 (j_cst rfl) ?_
    refine s_iand (pc := 22) dX2_sumOf_22 ?_
    refine s_iconst (pc := 23) dX2_sumOf_23 (j_cst rfl) ?_
    refine s_icmp_ne (pc := 24) (tgt := 34) dX2_sumOf_24 (by decide) (fun hc => ?_) (fun hc => ?_)
    · have H := H.2 hc
      obtain ⟨k1, H⟩ := H
      refine s_iinc (pc := 34) (lv' := [jR 17, jR 20, jI x2, jI x3, jI (x4 + 1)]) dX2_sumOf_34 rfl (by decide) k1 rfl ?_
      refine s_goto (pc := 37) (tgt := 5) dX2_sumOf_37 (by decide) ?_
      exact H
    · have H := H.1 hc
      refine s_iload_n (pc := 27) dX2_sumOf_27 rfl ?_
      refine s_aload_n (pc := 28) dX2_sumOf_28 rfl ?_
      refine s_iload (pc := 29) dX2_sumOf_29 rfl ?_
      obtain ⟨k2, H⟩ := H
      refine s_iald (pc := 31) (x := h.1 20 (Int.toNat x4)) dX2_sumOf_31 cSx_20 k2 rfl ?_
      obtain ⟨k3, H⟩ := H
      refine s_iadd (pc := 32) dX2_sumOf_32 k3 ?_
      refine s_istore_n (pc := 33) (lv' := [jR 17, jR 20, jI x2, jI (x3 + (h.1 20 (Int.toNat x4))), jI x4]) dX2_sumOf_33 (by decide) rfl ?_
      obtain ⟨k4, H⟩ := H
      refine s_iinc (pc := 34) (lv' := [jR 17, jR 20, jI x2, jI (x3 + (h.1 20 (Int.toNat x4))), jI (x4 + 1)]) dX2_sumOf_34 rfl (by decide) k4 rfl ?_
      refine s_goto (pc := 37) (tgt := 5) dX2_sumOf_37 (by decide) ?_
      exact H
theorem en_X2_leftOf_17 {x1 : Int} {h : jH} {post : jQ} (k : ∀ G, WV Sx G M_X2_leftOf post 0 [jR 17, jI x1] [] h) : CT Sx M_X2_leftOf [jR 17, jI x1] h post := CT.of (by decide +kernel) (by simp [j_un]) (Nat.le_of_ble_eq_true rfl) _ rfl k
set_option maxRecDepth 20000 in
theorem vc_X2_leftOf_17_0 {G : jG} {Q : jQ} {x1 : Int} {h : jH}
    (H : ∃ post : Int → jH → Prop, CT Sx M_X2_sumOf [jR 17, jR 20, jI x1] h (jPi post) ∧ ∀ (r1 : Int) (h2 : jH), post r1 h2 → (Q (some (jI r1)) h2)) :
    WV Sx G M_X2_leftOf Q 0 [jR 17, jI x1] [] h := by
  refine s_aload_n (pc := 0) dX2_leftOf_0 rfl ?_
  refine s_aload_n (pc := 1) dX2_leftOf_1 rfl ?_
  refine s_getr (pc := 2) dX2_leftOf_2 fl_X2_18 cSx_17 rfl ?_
  refine s_iload_n (pc := 5) dX2_leftOf_5 rfl ?_
  obtain ⟨post, hct, H⟩ := H
  refine s_callV (pc := 6) (as := [jR 20, jI x1]) (st := []) (by exact dX2_leftOf_6) mv_X2_79 ⟨rfl, rfl, Nat.le_of_ble_eq_true rfl, Nat.le_of_ble_eq_true rfl⟩ cSx_17 rfl rfl (Nat.le_of_ble_eq_true rfl) _ rfl hct (fun r1 h2 hp => ?_)
  obtain ⟨r1, rfl, hp⟩ := hp
  have H := H r1 h2 hp
  show WV _ _ _ _ 9 [jR 17, jI x1] [jI r1] h2
  exact s_iret dX2_leftOf_9 rfl H
theorem en_X2_cutsLess_17 {x1 x2 : Int} {h : jH} {post : jQ} (k : ∀ G, WV Sx G M_X2_cutsLess post 0 [jR 17, jI x1, jI x2, jU] [] h) : CT Sx M_X2_cutsLess [jR 17, jI x1, jI x2] h post := CT.of (by decide +kernel) (by simp [j_un]) (Nat.le_of_ble_eq_true rfl) _ rfl k
set_option maxRecDepth 20000 in
theorem vc_X2_cutsLess_17_0 {G : jG} {Q : jQ} {x1 x2 : Int} {h : jH}
    (H : ∃ post : Int → jH → Prop, CT Sx M_J6_bitCount_0f7a4 [jI x2] h (jPi post) ∧ ∀ (r1 : Int) (h2 : jH), post r1 h2 → (∃ post : Int → jH → Prop, CT Sx M_J6_bitCount_0f7a4 [jI x1] h2 (jPi post) ∧ ∀ (r3 : Int) (h4 : jH), post r3 h4 → ((j_rg (r1 - r3)) ∧ ((0 < (r1 - r3) → Q (some (jI 1)) h4) ∧ (¬ 0 < (r1 - r3) → ((r1 - r3) = 0 → ∃ post : Int → jH → Prop, CT Sx M_X2_leftOf [jR 17, jI x1] h4 (jPi post) ∧ ∀ (r6 : Int) (h7 : jH), post r6 h7 → (∃ post : Int → jH → Prop, CT Sx M_X2_leftOf [jR 17, jI x2] h7 (jPi post) ∧ ∀ (r8 : Int) (h9 : jH), post r8 h9 → ((r8 ≤ r6 → Q (some (jI 0)) h9) ∧ (¬ r8 ≤ r6 → Q (some (jI 1)) h9)))) ∧ (¬ (r1 - r3) = 0 → Q (some (jI 0)) h4)))))) :
    WV Sx G M_X2_cutsLess Q 0 [jR 17, jI x1, jI x2, jU] [] h := by
  refine s_iload_n (pc := 0) dX2_cutsLess_0 rfl ?_
  obtain ⟨post, hct, H⟩ := H
  refine s_callS (pc := 1) (as := [jI x2]) (st := []) (by exact dX2_cutsLess_1) ms_X2_60 ⟨rfl, rfl, Nat.le_of_ble_eq_true rfl, Nat.le_of_ble_eq_true rfl⟩ (Nat.le_of_ble_eq_true rfl) _ rfl hct (fun r1 h2 hp => ?_)
  obtain ⟨r1, rfl, hp⟩ := hp
  have H := H r1 h2 hp
  show WV _ _ _ _ 4 [jR 17, jI x1, jI x2, jU] [jI r1] h2
  refine s_iload_n (pc := 4) dX2_cutsLess_4 rfl ?_
  obtain ⟨post, hct, H⟩ := H
  refine s_callS (pc := 5) (as := [jI x1]) (st := [jI r1]) (by exact dX2_cutsLess_5) ms_X2_60 ⟨rfl, rfl, Nat.le_of_ble_eq_true rfl, Nat.le_of_ble_eq_true rfl⟩ (Nat.le_of_ble_eq_true rfl) _ rfl hct (fun r3 h4 hp => ?_)
  obtain ⟨r3, rfl, hp⟩ := hp
  have H := H r3 h4 hp
  show WV _ _ _ _ 8 [jR 17, jI x1, jI x2, jU] [jI r3, jI r1] h4
  obtain ⟨k5, H⟩ := H
  refine s_isub (pc := 8) dX2_cutsLess_8 k5 ?_
  refine s_istore_n (pc := 9) (lv' := [jR 17, jI x1, jI x2, jI (r1 - r3)]) dX2_cutsLess_9 (by decide) rfl ?_
  refine s_iload_n (pc := 10) dX2_cutsLess_10 rfl ?_
  refine s_if_gt (pc := 11) (tgt := 31) dX2_cutsLess_11 (by decide) (fun hc => ?_) (fun hc => ?_)
  · have H := H.1 hc
    refine s_iconst (pc := 31) dX2_cutsLess_31 (j_cst rfl) ?_
    refine s_goto (pc := 32) (tgt := 36) dX2_cutsLess_32 (by decide) ?_
    exact s_zret dX2_cutsLess_36 rfl (Or.inr rfl) H
  · have H := H.2 hc
    refine s_iload_n (pc := 14) dX2_cutsLess_14 rfl ?_
    refine s_if_ne (pc := 15) (tgt := 35) dX2_cutsLess_15 (by decide) (fun hc => ?_) (fun hc => ?_)
    · have H := H.2 hc
      refine s_iconst (pc := 35) dX2_cutsLess_35 (j_cst rfl) ?_
      exact s_zret dX2_cutsLess_36 rfl (Or.inl rfl) H
    · have H := H.1 hc
      refine s_aload_n (pc := 18) dX2_cutsLess_18 rfl ?_
      refine s_iload_n (pc := 19) dX2_cutsLess_19 rfl ?_
      obtain ⟨post, hct, H⟩ := H
      refine s_callV (pc := 20) (as := [jI x1]) (st := []) (by exact dX2_cutsLess_20) mv_X2_89 ⟨rfl, rfl, Nat.le_of_ble_eq_true rfl, Nat.le_of_ble_eq_true rfl⟩ cSx_17 rfl rfl (Nat.le_of_ble_eq_true rfl) _ rfl hct (fun r6 h7 hp => ?_)
      obtain ⟨r6, rfl, hp⟩ := hp
      have H := H r6 h7 hp
      show WV _ _ _ _ 23 [jR 17, jI x1, jI x2, jI (r1 - r3)] [jI r6] h7
      refine s_aload_n (pc := 23) dX2_cutsLess_23 rfl ?_
      refine s_iload_n (pc := 24) dX2_cutsLess_24 rfl ?_
      obtain ⟨post, hct, H⟩ := H
      refine s_callV (pc := 25) (as := [jI x2]) (st := [jI r6]) (by exact dX2_cutsLess_25) mv_X2_89 ⟨rfl, rfl, Nat.le_of_ble_eq_true rfl, Nat.le_of_ble_eq_true rfl⟩ cSx_17 rfl rfl (Nat.le_of_ble_eq_true rfl) _ rfl hct (fun r8 h9 hp => ?_)
      obtain ⟨r8, rfl, hp⟩ := hp
      have H := H r8 h9 hp
      show WV _ _ _ _ 28 [jR 17, jI x1, jI x2, jI (r1 - r3)] [jI r8, jI r6] h9
      refine s_icmp_ge (pc := 28) (tgt := 35) dX2_cutsLess_28 (by decide) (fun hc => ?_) (fun hc => ?_)
      · have H := H.1 hc
        refine s_iconst (pc := 35) dX2_cutsLess_35 (j_cst rfl) ?_
        exact s_zret dX2_cutsLess_36 rfl (Or.inl rfl) H
      · have H := H.2 hc
        refine s_iconst (pc := 31) dX2_cutsLess_31 (j_cst rfl) ?_
        refine s_goto (pc := 32) (tgt := 36) dX2_cutsLess_32 (by decide) ?_
        exact s_zret dX2_cutsLess_36 rfl (Or.inr rfl) H
theorem en_X2_leastCut_17 {x1 : Int} {h : jH} {post : jQ} (k : ∀ G, WV Sx G M_X2_leastCut post 0 [jR 17, jI x1, jU, jU, jU, jU] [] h) : CT Sx M_X2_leastCut [jR 17, jI x1] h post := CT.of (by decide +kernel) (by simp [j_un]) (Nat.le_of_ble_eq_true rfl) _ rfl k
set_option maxRecDepth 20000 in
theorem vc_X2_leastCut_17_0 {G : jG} {Q : jQ} {x1 : Int} {h : jH}
    (H : ∃ post : Int → jH → Prop, CT Sx M_X2_those [jR 17, jI 2] h (jPi post) ∧ ∀ (r1 : Int) (h2 : jH), post r1 h2 → (WV Sx G M_X2_leastCut Q 11 [jR 17, jI x1, jI r1, jI r1, jI 0, jU] [] h2)) :
    WV Sx G M_X2_leastCut Q 0 [jR 17, jI x1, jU, jU, jU, jU] [] h := by
  refine s_aload_n (pc := 0) dX2_leastCut_0 rfl ?_
  refine s_iconst (pc := 1) dX2_leastCut_1 (j_cst rfl) ?_
  obtain ⟨post, hct, H⟩ := H
  refine s_callV (pc := 2) (as := [jI 2]) (st := []) (by exact dX2_leastCut_2) mv_X2_69 ⟨rfl, rfl, Nat.le_of_ble_eq_true rfl, Nat.le_of_ble_eq_true rfl⟩ cSx_17 rfl rfl (Nat.le_of_ble_eq_true rfl) _ rfl hct (fun r1 h2 hp => ?_)
  obtain ⟨r1, rfl, hp⟩ := hp
  have H := H r1 h2 hp
  show WV _ _ _ _ 5 [jR 17, jI x1, jU, jU, jU, jU] [jI r1] h2
  refine s_istore_n (pc := 5) (lv' := [jR 17, jI x1, jI r1, jU, jU, jU]) dX2_leastCut_5 (by decide) rfl ?_
  refine s_iload_n (pc := 6) dX2_leastCut_6 rfl ?_
  refine s_istore_n (pc := 7) (lv' := [jR 17, jI x1, jI r1, jI r1, jU, jU]) dX2_leastCut_7 (by decide) rfl ?_
  refine s_iconst (pc := 8) dX2_leastCut_8 (j_cst rfl) ?_
  refine s_istore (pc := 9) (lv' := [jR 17, jI x1, jI r1, jI r1, jI 0, jU]) dX2_leastCut_9 (by decide) rfl ?_
  exact H
set_option maxRecDepth 20000 in
theorem vc_X2_leastCut_17_11 {G : jG} {Q : jQ} {x1 x2 x3 x4 : Int} {u5 : jV} {h : jH}
    (H : (x2 ≤ x4 → Q (some (jI x3)) h) ∧ (¬ x2 ≤ x4 → ((b_and x4 x2) = x4 → ∃ post : Int → jH → Prop, CT Sx M_X2_hasRoom [jR 17, jI x1, jI (b_and x2 (b_xor x4 (-1))), jI (h.1 2 1)] h (jPi post) ∧ ∀ (r2 : Int) (h3 : jH), post r2 h3 → ((r2 = 0 → (j_rg (x4 + 1)) ∧ (WV Sx G M_X2_leastCut Q 11 [jR 17, jI x1, jI x2, jI x3, jI (x4 + 1), jI 1] [] h3)) ∧ (¬ r2 = 0 → ∃ post : Int → jH → Prop, CT Sx M_X2_cutsLess [jR 17, jI x4, jI x3] h3 (jPi post) ∧ ∀ (r5 : Int) (h6 : jH), post r5 h6 → ((r5 = 0 → (j_rg (x4 + 1)) ∧ (WV Sx G M_X2_leastCut Q 11 [jR 17, jI x1, jI x2, jI x3, jI (x4 + 1), jI 1] [] h6)) ∧ (¬ r5 = 0 → (j_rg (x4 + 1)) ∧ (WV Sx G M_X2_leastCut Q 11 [jR 17, jI x1, jI x2, jI x4, jI (x4 + 1), jI 1] [] h6)))))) ∧ (¬ (b_and x4 x2) = x4 → (j_rg (x4 + 1)) ∧ (WV Sx G M_X2_leastCut Q 11 [jR 17, jI x1, jI x2, jI x3, jI (x4 + 1), jI 0] [] h)))) :
    WV Sx G M_X2_leastCut Q 11 [jR 17, jI x1, jI x2, jI x3, jI x4, u5] [] h := by
  refine s_iload (pc := 11) dX2_leastCut_11 rfl ?_
  refine s_iload_n (pc := 13) dX2_leastCut_13 rfl ?_
  refine s_icmp_ge (pc := 14) (tgt := 78) dX2_leastCut_14 (by decide) (fun hc => ?_) (fun hc => ?_)
  · have H := H.1 hc
    refine s_iload_n (pc := 78) dX2_leastCut_78 rfl ?_
    exact s_iret dX2_leastCut_79 rfl H
  · have H := H.2 hc
    refine s_iload (pc := 17) dX2_leastCut_17 rfl ?_
    refine s_iload_n (pc := 19) dX2_leastCut_19 rfl ?_
    refine s_iand (pc := 20) dX2_leastCut_20 ?_
    refine s_iload (pc := 21) dX2_leastCut_21 rfl ?_
    refine s_icmp_ne (pc := 23) (tgt := 30) dX2_leastCut_23 (by decide) (fun hc => ?_) (fun hc => ?_)
    · have H := H.2 hc
      refine s_iconst (pc := 30) dX2_leastCut_30 (j_cst rfl) ?_
      refine s_istore (pc := 31) (lv' := [jR 17, jI x1, jI x2, jI x3, jI x4, jI 0]) dX2_leastCut_31 (by decide) rfl ?_
      refine s_iload (pc := 33) dX2_leastCut_33 rfl ?_
      refine s_if_eq (pc := 35) (tgt := 72) dX2_leastCut_35 (by decide) (fun _ => ?_) (fun hc => absurd (by decide) hc)
      obtain ⟨k1, H⟩ := H
      refine s_iinc (pc := 72) (lv' := [jR 17, jI x1, jI x2, jI x3, jI (x4 + 1), jI 0]) dX2_leastCut_72 rfl (by decide) k1 rfl ?_
      refine s_goto (pc := 75) (tgt := 11) dX2_leastCut_75 (by decide) ?_
      exact H
    · have H := H.1 hc
      refine s_iconst (pc := 26) dX2_leastCut_26 (j_cst rfl) ?_
      refine s_goto (pc := 27) (tgt := 31) dX2_leastCut_27 (by decide) ?_
      refine s_istore (pc := 31) (lv' := [jR 17, jI x1, jI x2, jI x3, jI x4, jI 1]) dX2_leastCut_31 (by decide) rfl ?_
      refine s_iload (pc := 33) dX2_leastCut_33 rfl ?_
      refine s_if_eq (pc := 35) (tgt := 72) dX2_leastCut_35 (by decide) (fun hc => absurd hc (by decide)) (fun _ => ?_)
      refine s_aload_n (pc := 38) dX2_leastCut_38 rfl ?_
      refine s_iload_n (pc := 39) dX2_leastCut_39 rfl ?_
      refine s_iload_n (pc := 40) dX2_leastCut_40 rfl ?_
      refine s_iload (pc := 41) dX2_leastCut_41 rfl ?_
      refine s_iconst (pc := 43) dX2_leastCut_43 (j_cst rfl) ?_
      refine s_ixor (pc := 44) dX2_leastCut_44 ?_
      refine s_iand (pc := 45) dX2_leastCut_45 ?_
      refine s_aload_n (pc := 46) dX2_leastCut_46 rfl ?_
      refine s_getr (pc := 47) dX2_leastCut_47 fl_X2_24 cSx_17 rfl ?_
      refine s_geti (pc := 50) (x := h.1 2 1) dX2_leastCut_50 fl_X2_83 cSx_2 rfl rfl ?_
      obtain ⟨post, hct, H⟩ := H
      refine s_callV (pc := 53) (as := [jI x1, jI (b_and x2 (b_xor x4 (-1))), jI (h.1 2 1)]) (st := []) (by exact dX2_leastCut_53) mv_X2_72 ⟨rfl, rfl, Nat.le_of_ble_eq_true rfl, Nat.le_of_ble_eq_true rfl⟩ cSx_17 rfl rfl (Nat.le_of_ble_eq_true rfl) _ rfl hct (fun r2 h3 hp => ?_)
      obtain ⟨r2, rfl, hp⟩ := hp
      have H := H r2 h3 hp
      show WV _ _ _ _ 56 [jR 17, jI x1, jI x2, jI x3, jI x4, jI 1] [jI r2] h3
      refine s_if_eq (pc := 56) (tgt := 72) dX2_leastCut_56 (by decide) (fun hc => ?_) (fun hc => ?_)
      · have H := H.1 hc
        obtain ⟨k4, H⟩ := H
        refine s_iinc (pc := 72) (lv' := [jR 17, jI x1, jI x2, jI x3, jI (x4 + 1), jI 1]) dX2_leastCut_72 rfl (by decide) k4 rfl ?_
        refine s_goto (pc := 75) (tgt := 11) dX2_leastCut_75 (by decide) ?_
        exact H
      · have H := H.2 hc
        refine s_aload_n (pc := 59) dX2_leastCut_59 rfl ?_
        refine s_iload (pc := 60) dX2_leastCut_60 rfl ?_
        refine s_iload_n (pc := 62) dX2_leastCut_62 rfl ?_
        obtain ⟨post, hct, H⟩ := H
        refine s_callV (pc := 63) (as := [jI x4, jI x3]) (st := []) (by exact dX2_leastCut_63) mv_X2_86 ⟨rfl, rfl, Nat.le_of_ble_eq_true rfl, Nat.le_of_ble_eq_true rfl⟩ cSx_17 rfl rfl (Nat.le_of_ble_eq_true rfl) _ rfl hct (fun r5 h6 hp => ?_)
        obtain ⟨r5, rfl, hp⟩ := hp
        have H := H r5 h6 hp
        show WV _ _ _ _ 66 [jR 17, jI x1, jI x2, jI x3, jI x4, jI 1] [jI r5] h6
        refine s_if_eq (pc := 66) (tgt := 72) dX2_leastCut_66 (by decide) (fun hc => ?_) (fun hc => ?_)
        · have H := H.1 hc
          obtain ⟨k7, H⟩ := H
          refine s_iinc (pc := 72) (lv' := [jR 17, jI x1, jI x2, jI x3, jI (x4 + 1), jI 1]) dX2_leastCut_72 rfl (by decide) k7 rfl ?_
          refine s_goto (pc := 75) (tgt := 11) dX2_leastCut_75 (by decide) ?_
          exact H
        · have H := H.2 hc
          refine s_iload (pc := 69) dX2_leastCut_69 rfl ?_
          refine s_istore_n (pc := 71) (lv' := [jR 17, jI x1, jI x2, jI x4, jI x4, jI 1]) dX2_leastCut_71 (by decide) rfl ?_
          obtain ⟨k8, H⟩ := H
          refine s_iinc (pc := 72) (lv' := [jR 17, jI x1, jI x2, jI x4, jI (x4 + 1), jI 1]) dX2_leastCut_72 rfl (by decide) k8 rfl ?_
          refine s_goto (pc := 75) (tgt := 11) dX2_leastCut_75 (by decide) ?_
          exact H
theorem en_X7_cutFor_0 {x1 : Int} {h : jH} {post : jQ} (k : ∀ G, WV Sx G M_X7_cutFor post 0 [jR 0, jI x1] [] h) : CT Sx M_X7_cutFor [jR 0, jI x1] h post := CT.of (by decide +kernel) (by simp [j_un]) (Nat.le_of_ble_eq_true rfl) _ rfl k
set_option maxRecDepth 20000 in
theorem vc_X7_cutFor_0_0 {G : jG} {Q : jQ} {x1 : Int} {h : jH}
    (H : ∃ post : Int → jH → Prop, CT Sx M_X6_hasCall [jR 2, jI x1] h (jPi post) ∧ ∀ (r1 : Int) (h2 : jH), post r1 h2 → ((r1 = 0 → Q (some (jI (-1))) h2) ∧ (¬ r1 = 0 → (0 ≤ x1 ∧ x1 < 7) ∧ (((h2.1 19 (Int.toNat x1)) = 1 → ∃ post : Int → jH → Prop, CT Sx M_X2_leastCut [jR 17, jI x1] h2 (jPi post) ∧ ∀ (r4 : Int) (h5 : jH), post r4 h5 → (Q (some (jI r4)) h5)) ∧ (¬ (h2.1 19 (Int.toNat x1)) = 1 → Q (some (jI (-2))) h2))))) :
    WV Sx G M_X7_cutFor Q 0 [jR 0, jI x1] [] h := by
  refine s_aload_n (pc := 0) dX7_cutFor_0 rfl ?_
  refine s_getr (pc := 1) dX7_cutFor_1 fl_X7_16 cSx_0 rfl ?_
  refine s_iload_n (pc := 4) dX7_cutFor_4 rfl ?_
  obtain ⟨post, hct, H⟩ := H
  refine s_callV (pc := 5) (as := [jI x1]) (st := []) (by exact dX7_cutFor_5) mv_X7_107 ⟨rfl, rfl, Nat.le_of_ble_eq_true rfl, Nat.le_of_ble_eq_true rfl⟩ cSx_2 rfl rfl (Nat.le_of_ble_eq_true rfl) _ rfl hct (fun r1 h2 hp => ?_)
  obtain ⟨r1, rfl, hp⟩ := hp
  have H := H r1 h2 hp
  show WV _ _ _ _ 8 [jR 0, jI x1] [jI r1] h2
  refine s_if_ne (pc := 8) (tgt := 13) dX7_cutFor_8 (by decide) (fun hc => ?_) (fun hc => ?_)
  · have H := H.2 hc
    refine s_aload_n (pc := 13) dX7_cutFor_13 rfl ?_
    refine s_getr (pc := 14) dX7_cutFor_14 fl_X7_34 cSx_0 rfl ?_
    refine s_getr (pc := 17) dX7_cutFor_17 fl_X7_125 cSx_17 rfl ?_
    refine s_iload_n (pc := 20) dX7_cutFor_20 rfl ?_
    obtain ⟨k3, H⟩ := H
    refine s_iald (pc := 21) (x := h2.1 19 (Int.toNat x1)) dX7_cutFor_21 cSx_19 k3 rfl ?_
    refine s_iconst (pc := 22) dX7_cutFor_22 (j_cst rfl) ?_
    refine s_icmp_eq (pc := 23) (tgt := 29) dX7_cutFor_23 (by decide) (fun hc => ?_) (fun hc => ?_)
    · have H := H.1 hc
      refine s_aload_n (pc := 29) dX7_cutFor_29 rfl ?_
      refine s_getr (pc := 30) dX7_cutFor_30 fl_X7_34 cSx_0 rfl ?_
      refine s_iload_n (pc := 33) dX7_cutFor_33 rfl ?_
      obtain ⟨post, hct, H⟩ := H
      refine s_callV (pc := 34) (as := [jI x1]) (st := []) (by exact dX7_cutFor_34) mv_X7_215 ⟨rfl, rfl, Nat.le_of_ble_eq_true rfl, Nat.le_of_ble_eq_true rfl⟩ cSx_17 rfl rfl (Nat.le_of_ble_eq_true rfl) _ rfl hct (fun r4 h5 hp => ?_)
      obtain ⟨r4, rfl, hp⟩ := hp
      have H := H r4 h5 hp
      show WV _ _ _ _ 37 [jR 0, jI x1] [jI r4] h5
      exact s_iret dX7_cutFor_37 rfl H
    · have H := H.2 hc
      refine s_bipush (pc := 26) dX7_cutFor_26 rfl (j_cst rfl) ?_
      exact s_iret dX7_cutFor_28 rfl H
  · have H := H.1 hc
    refine s_iconst (pc := 11) dX7_cutFor_11 (j_cst rfl) ?_
    exact s_iret dX7_cutFor_12 rfl H
theorem en_X6_apart_2_18 {x1 : Int} {h : jH} {post : jQ} (k : ∀ G, WV Sx G M_X6_apart post 0 [jR 2, jI x1, jR 18] [] h) : CT Sx M_X6_apart [jR 2, jI x1, jR 18] h post := CT.of (by decide +kernel) (by simp [j_un]) (Nat.le_of_ble_eq_true rfl) _ rfl k
set_option maxRecDepth 20000 in
theorem vc_X6_apart_2_18_0 {G : jG} {Q : jQ} {x1 : Int} {h : jH}
    (H : (0 ≤ x1 ∧ x1 < 7) ∧ ((0 ≤ h.1 5 (Int.toNat x1) ∧ h.1 5 (Int.toNat x1) < 6) ∧ ((0 ≤ h.1 6 (Int.toNat x1) ∧ h.1 6 (Int.toNat x1) < 6) ∧ ((j_rg ((h.1 18 (Int.toNat (h.1 5 (Int.toNat x1)))) - (h.1 18 (Int.toNat (h.1 6 (Int.toNat x1)))))) ∧ ((j_rg (-((h.1 18 (Int.toNat (h.1 5 (Int.toNat x1)))) - (h.1 18 (Int.toNat (h.1 6 (Int.toNat x1))))))) ∧ (Q (some (jI (if 0 ≤ (h.1 18 (Int.toNat (h.1 5 (Int.toNat x1)))) - (h.1 18 (Int.toNat (h.1 6 (Int.toNat x1)))) then (h.1 18 (Int.toNat (h.1 5 (Int.toNat x1)))) - (h.1 18 (Int.toNat (h.1 6 (Int.toNat x1)))) else -((h.1 18 (Int.toNat (h.1 5 (Int.toNat x1)))) - (h.1 18 (Int.toNat (h.1 6 (Int.toNat x1)))))))) h)))))) :
    WV Sx G M_X6_apart Q 0 [jR 2, jI x1, jR 18] [] h := by
  refine s_aload_n (pc := 0) dX6_apart_0 rfl ?_
  refine s_aload_n (pc := 1) dX6_apart_1 rfl ?_
  refine s_getr (pc := 2) dX6_apart_2 fl_X6_18 cSx_2 rfl ?_
  refine s_iload_n (pc := 5) dX6_apart_5 rfl ?_
  obtain ⟨k1, H⟩ := H
  refine s_iald (pc := 6) (x := h.1 5 (Int.toNat x1)) dX6_apart_6 cSx_5 k1 rfl ?_
  obtain ⟨k2, H⟩ := H
  refine s_iald (pc := 7) (x := h.1 18 (Int.toNat (h.1 5 (Int.toNat x1)))) dX6_apart_7 cSx_18 k2 rfl ?_
  refine s_aload_n (pc := 8) dX6_apart_8 rfl ?_
  refine s_aload_n (pc := 9) dX6_apart_9 rfl ?_
  refine s_getr (pc := 10) dX6_apart_10 fl_X6_21 cSx_2 rfl ?_
  refine s_iload_n (pc := 13) dX6_apart_13 rfl ?_
  refine s_iald (pc := 14) (x := h.1 6 (Int.toNat x1)) dX6_apart_14 cSx_6 k1 rfl ?_
  obtain ⟨k3, H⟩ := H
  refine s_iald (pc := 15) (x := h.1 18 (Int.toNat (h.1 6 (Int.toNat x1)))) dX6_apart_15 cSx_18 k3 rfl ?_
  obtain ⟨k4, H⟩ := H
  refine s_isub (pc := 16) dX6_apart_16 k4 ?_
  obtain ⟨k5, H⟩ := H
  refine s_abs (pc := 17) dX6_apart_17 mm_X6_43 ⟨Nat.le_of_ble_eq_true rfl, Nat.le_of_ble_eq_true rfl⟩ k5 ?_
  exact s_iret dX6_apart_20 rfl H
theorem en_X1_inAll_39_18 {h : jH} {post : jQ} (k : ∀ G, WV Sx G M_X1_inAll post 0 [jR 39, jR 18, jU, jU] [] h) : CT Sx M_X1_inAll [jR 39, jR 18] h post := CT.of (by decide +kernel) (by simp [j_un]) (Nat.le_of_ble_eq_true rfl) _ rfl k
set_option maxRecDepth 20000 in
theorem vc_X1_inAll_39_18_0 {G : jG} {Q : jQ} {h : jH}
    (H : WV Sx G M_X1_inAll Q 4 [jR 39, jR 18, jI 0, jI 0] [] h) :
    WV Sx G M_X1_inAll Q 0 [jR 39, jR 18, jU, jU] [] h := by
  refine s_iconst (pc := 0) dX1_inAll_0 (j_cst rfl) ?_
  refine s_istore_n (pc := 1) (lv' := [jR 39, jR 18, jI 0, jU]) dX1_inAll_1 (by decide) rfl ?_
  refine s_iconst (pc := 2) dX1_inAll_2 (j_cst rfl) ?_
  refine s_istore_n (pc := 3) (lv' := [jR 39, jR 18, jI 0, jI 0]) dX1_inAll_3 (by decide) rfl ?_
  exact H
set_option maxRecDepth 20000 in
theorem vc_X1_inAll_39_18_4 {G : jG} {Q : jQ} {x2 x3 : Int} {h : jH}
    (H : ((h.1 2 2) ≤ x3 → Q (some (jI x2)) h) ∧ (¬ (h.1 2 2) ≤ x3 → ∃ post : Int → jH → Prop, CT Sx M_X6_apart [jR 2, jI x3, jR 18] h (jPi post) ∧ ∀ (r1 : Int) (h2 : jH), post r1 h2 → ((j_rg (x2 + r1)) ∧ ((j_rg (x3 + 1)) ∧ (WV Sx G M_X1_inAll Q 4 [jR 39, jR 18, jI (x2 + r1), jI (x3 + 1)] [] h2))))) :
    WV Sx G M_X1_inAll Q 4 [jR 39, jR 18, jI x2, jI x3] [] h := by
  refine s_iload_n (pc := 4) dX1_inAll_4 rfl ?_
  refine s_aload_n (pc := 5) dX1_inAll_5 rfl ?_
  refine s_getr (pc := 6) dX1_inAll_6 fl_X1_18 cSx_39 rfl ?_
  refine s_geti (pc := 9) (x := h.1 2 2) dX1_inAll_9 fl_X1_22 cSx_2 rfl rfl ?_
  refine s_icmp_ge (pc := 12) (tgt := 33) dX1_inAll_12 (by decide) (fun hc => ?_) (fun hc => ?_)
  · have H := H.1 hc
    refine s_iload_n (pc := 33) dX1_inAll_33 rfl ?_
    exact s_iret dX1_inAll_34 rfl H
  · have H := H.2 hc
    refine s_iload_n (pc := 15) dX1_inAll_15 rfl ?_
    refine s_aload_n (pc := 16) dX1_inAll_16 rfl ?_
    refine s_getr (pc := 17) dX1_inAll_17 fl_X1_18 cSx_39 rfl ?_
    refine s_iload_n (pc := 20) dX1_inAll_20 rfl ?_
    refine s_aload_n (pc := 21) dX1_inAll_21 rfl ?_
    obtain ⟨post, hct, H⟩ := H
    refine s_callV (pc := 22) (as := [jI x3, jR 18]) (st := [jI x2]) (by exact dX1_inAll_22) mv_X1_28 ⟨rfl, rfl, Nat.le_of_ble_eq_true rfl, Nat.le_of_ble_eq_true rfl⟩ cSx_2 rfl rfl (Nat.le_of_ble_eq_true rfl) _ rfl hct (fun r1 h2 hp => ?_)
    obtain ⟨r1, rfl, hp⟩ := hp
    have H := H r1 h2 hp
    show WV _ _ _ _ 25 [jR 39, jR 18, jI x2, jI x3] [jI r1, jI x2] h2
    obtain ⟨k3, H⟩ := H
    refine s_iadd (pc := 25) dX1_inAll_25 k3 ?_
    refine s_istore_n (pc := 26) (lv' := [jR 39, jR 18, jI (x2 + r1), jI x3]) dX1_inAll_26 (by decide) rfl ?_
    obtain ⟨k4, H⟩ := H
    refine s_iinc (pc := 27) (lv' := [jR 39, jR 18, jI (x2 + r1), jI (x3 + 1)]) dX1_inAll_27 rfl (by decide) k4 rfl ?_
    refine s_goto (pc := 30) (tgt := 4) dX1_inAll_30 (by decide) ?_
    exact H
theorem en_X7_longCords_0 {h : jH} {post : jQ} (k : ∀ G, WV Sx G M_X7_longCords post 0 [jR 0] [] h) : CT Sx M_X7_longCords [jR 0] h post := CT.of (by decide +kernel) (by simp [j_un]) (Nat.le_of_ble_eq_true rfl) _ rfl k
set_option maxRecDepth 20000 in
theorem vc_X7_longCords_0_0 {G : jG} {Q : jQ} {h : jH}
    (H : ∃ post : Int → jH → Prop, CT Sx M_X1_inAll [jR 39, jR 18] h (jPi post) ∧ ∀ (r1 : Int) (h2 : jH), post r1 h2 → (Q (some (jI r1)) h2)) :
    WV Sx G M_X7_longCords Q 0 [jR 0] [] h := by
  refine s_aload_n (pc := 0) dX7_longCords_0 rfl ?_
  refine s_getr (pc := 1) dX7_longCords_1 fl_X7_69 cSx_0 rfl ?_
  refine s_aload_n (pc := 4) dX7_longCords_4 rfl ?_
  refine s_getr (pc := 5) dX7_longCords_5 fl_X7_34 cSx_0 rfl ?_
  refine s_getr (pc := 8) dX7_longCords_8 fl_X7_101 cSx_17 rfl ?_
  obtain ⟨post, hct, H⟩ := H
  refine s_callV (pc := 11) (as := [jR 18]) (st := []) (by exact dX7_longCords_11) mv_X7_218 ⟨rfl, rfl, Nat.le_of_ble_eq_true rfl, Nat.le_of_ble_eq_true rfl⟩ cSx_39 rfl rfl (Nat.le_of_ble_eq_true rfl) _ rfl hct (fun r1 h2 hp => ?_)
  obtain ⟨r1, rfl, hp⟩ := hp
  have H := H r1 h2 hp
  show WV _ _ _ _ 14 [jR 0] [jI r1] h2
  exact s_iret dX7_longCords_14 rfl H
theorem en_X6_apart_2_40 {x1 : Int} {h : jH} {post : jQ} (k : ∀ G, WV Sx G M_X6_apart post 0 [jR 2, jI x1, jR 40] [] h) : CT Sx M_X6_apart [jR 2, jI x1, jR 40] h post := CT.of (by decide +kernel) (by simp [j_un]) (Nat.le_of_ble_eq_true rfl) _ rfl k
set_option maxRecDepth 20000 in
theorem vc_X6_apart_2_40_0 {G : jG} {Q : jQ} {x1 : Int} {h : jH}
    (H : (0 ≤ x1 ∧ x1 < 7) ∧ ((0 ≤ h.1 5 (Int.toNat x1) ∧ h.1 5 (Int.toNat x1) < 6) ∧ ((0 ≤ h.1 6 (Int.toNat x1) ∧ h.1 6 (Int.toNat x1) < 6) ∧ ((j_rg ((h.1 40 (Int.toNat (h.1 5 (Int.toNat x1)))) - (h.1 40 (Int.toNat (h.1 6 (Int.toNat x1)))))) ∧ ((j_rg (-((h.1 40 (Int.toNat (h.1 5 (Int.toNat x1)))) - (h.1 40 (Int.toNat (h.1 6 (Int.toNat x1))))))) ∧ (Q (some (jI (if 0 ≤ (h.1 40 (Int.toNat (h.1 5 (Int.toNat x1)))) - (h.1 40 (Int.toNat (h.1 6 (Int.toNat x1)))) then (h.1 40 (Int.toNat (h.1 5 (Int.toNat x1)))) - (h.1 40 (Int.toNat (h.1 6 (Int.toNat x1)))) else -((h.1 40 (Int.toNat (h.1 5 (Int.toNat x1)))) - (h.1 40 (Int.toNat (h.1 6 (Int.toNat x1)))))))) h)))))) :
    WV Sx G M_X6_apart Q 0 [jR 2, jI x1, jR 40] [] h := by
  refine s_aload_n (pc := 0) dX6_apart_0 rfl ?_
  refine s_aload_n (pc := 1) dX6_apart_1 rfl ?_
  refine s_getr (pc := 2) dX6_apart_2 fl_X6_18 cSx_2 rfl ?_
  refine s_iload_n (pc := 5) dX6_apart_5 rfl ?_
  obtain ⟨k1, H⟩ := H
  refine s_iald (pc := 6) (x := h.1 5 (Int.toNat x1)) dX6_apart_6 cSx_5 k1 rfl ?_
  obtain ⟨k2, H⟩ := H
  refine s_iald (pc := 7) (x := h.1 40 (Int.toNat (h.1 5 (Int.toNat x1)))) dX6_apart_7 cSx_40 k2 rfl ?_
  refine s_aload_n (pc := 8) dX6_apart_8 rfl ?_
  refine s_aload_n (pc := 9) dX6_apart_9 rfl ?_
  refine s_getr (pc := 10) dX6_apart_10 fl_X6_21 cSx_2 rfl ?_
  refine s_iload_n (pc := 13) dX6_apart_13 rfl ?_
  refine s_iald (pc := 14) (x := h.1 6 (Int.toNat x1)) dX6_apart_14 cSx_6 k1 rfl ?_
  obtain ⟨k3, H⟩ := H
  refine s_iald (pc := 15) (x := h.1 40 (Int.toNat (h.1 6 (Int.toNat x1)))) dX6_apart_15 cSx_40 k3 rfl ?_
  obtain ⟨k4, H⟩ := H
  refine s_isub (pc := 16) dX6_apart_16 k4 ?_
  obtain ⟨k5, H⟩ := H
  refine s_abs (pc := 17) dX6_apart_17 mm_X6_43 ⟨Nat.le_of_ble_eq_true rfl, Nat.le_of_ble_eq_true rfl⟩ k5 ?_
  exact s_iret dX6_apart_20 rfl H
theorem en_X1_inAll_39_40 {h : jH} {post : jQ} (k : ∀ G, WV Sx G M_X1_inAll post 0 [jR 39, jR 40, jU, jU] [] h) : CT Sx M_X1_inAll [jR 39, jR 40] h post := CT.of (by decide +kernel) (by simp [j_un]) (Nat.le_of_ble_eq_true rfl) _ rfl k
set_option maxRecDepth 20000 in
theorem vc_X1_inAll_39_40_0 {G : jG} {Q : jQ} {h : jH}
    (H : WV Sx G M_X1_inAll Q 4 [jR 39, jR 40, jI 0, jI 0] [] h) :
    WV Sx G M_X1_inAll Q 0 [jR 39, jR 40, jU, jU] [] h := by
  refine s_iconst (pc := 0) dX1_inAll_0 (j_cst rfl) ?_
  refine s_istore_n (pc := 1) (lv' := [jR 39, jR 40, jI 0, jU]) dX1_inAll_1 (by decide) rfl ?_
  refine s_iconst (pc := 2) dX1_inAll_2 (j_cst rfl) ?_
  refine s_istore_n (pc := 3) (lv' := [jR 39, jR 40, jI 0, jI 0]) dX1_inAll_3 (by decide) rfl ?_
  exact H
set_option maxRecDepth 20000 in
theorem vc_X1_inAll_39_40_4 {G : jG} {Q : jQ} {x2 x3 : Int} {h : jH}
    (H : ((h.1 2 2) ≤ x3 → Q (some (jI x2)) h) ∧ (¬ (h.1 2 2) ≤ x3 → ∃ post : Int → jH → Prop, CT Sx M_X6_apart [jR 2, jI x3, jR 40] h (jPi post) ∧ ∀ (r1 : Int) (h2 : jH), post r1 h2 → ((j_rg (x2 + r1)) ∧ ((j_rg (x3 + 1)) ∧ (WV Sx G M_X1_inAll Q 4 [jR 39, jR 40, jI (x2 + r1), jI (x3 + 1)] [] h2))))) :
    WV Sx G M_X1_inAll Q 4 [jR 39, jR 40, jI x2, jI x3] [] h := by
  refine s_iload_n (pc := 4) dX1_inAll_4 rfl ?_
  refine s_aload_n (pc := 5) dX1_inAll_5 rfl ?_
  refine s_getr (pc := 6) dX1_inAll_6 fl_X1_18 cSx_39 rfl ?_
  refine s_geti (pc := 9) (x := h.1 2 2) dX1_inAll_9 fl_X1_22 cSx_2 rfl rfl ?_
  refine s_icmp_ge (pc := 12) (tgt := 33) dX1_inAll_12 (by decide) (fun hc => ?_) (fun hc => ?_)
  · have H := H.1 hc
    refine s_iload_n (pc := 33) dX1_inAll_33 rfl ?_
    exact s_iret dX1_inAll_34 rfl H
  · have H := H.2 hc
    refine s_iload_n (pc := 15) dX1_inAll_15 rfl ?_
    refine s_aload_n (pc := 16) dX1_inAll_16 rfl ?_
    refine s_getr (pc := 17) dX1_inAll_17 fl_X1_18 cSx_39 rfl ?_
    refine s_iload_n (pc := 20) dX1_inAll_20 rfl ?_
    refine s_aload_n (pc := 21) dX1_inAll_21 rfl ?_
    obtain ⟨post, hct, H⟩ := H
    refine s_callV (pc := 22) (as := [jI x3, jR 40]) (st := [jI x2]) (by exact dX1_inAll_22) mv_X1_28 ⟨rfl, rfl, Nat.le_of_ble_eq_true rfl, Nat.le_of_ble_eq_true rfl⟩ cSx_2 rfl rfl (Nat.le_of_ble_eq_true rfl) _ rfl hct (fun r1 h2 hp => ?_)
    obtain ⟨r1, rfl, hp⟩ := hp
    have H := H r1 h2 hp
    show WV _ _ _ _ 25 [jR 39, jR 40, jI x2, jI x3] [jI r1, jI x2] h2
    obtain ⟨k3, H⟩ := H
    refine s_iadd (pc := 25) dX1_inAll_25 k3 ?_
    refine s_istore_n (pc := 26) (lv' := [jR 39, jR 40, jI (x2 + r1), jI x3]) dX1_inAll_26 (by decide) rfl ?_
    obtain ⟨k4, H⟩ := H
    refine s_iinc (pc := 27) (lv' := [jR 39, jR 40, jI (x2 + r1), jI (x3 + 1)]) dX1_inAll_27 rfl (by decide) k4 rfl ?_
    refine s_goto (pc := 30) (tgt := 4) dX1_inAll_30 (by decide) ?_
    exact H
theorem en_X7_exchange_40 {x1 x2 : Int} {h : jH} {post : jQ} (k : ∀ G, WV Sx G M_X7_exchange post 0 [jR 40, jI x1, jI x2, jU] [] h) : CT Sx M_X7_exchange [jR 40, jI x1, jI x2] h post := CT.of (by decide +kernel) (by simp [j_un]) (Nat.le_of_ble_eq_true rfl) _ rfl k
set_option maxRecDepth 20000 in
theorem vc_X7_exchange_40_0 {G : jG} {Q : jQ} {x1 x2 : Int} {h : jH}
    (H : (0 ≤ x1 ∧ x1 < 6) ∧ ((0 ≤ x2 ∧ x2 < 6) ∧ (Q none (j_up (j_up h 40 (Int.toNat x1) (h.1 40 (Int.toNat x2))) 40 (Int.toNat x2) (h.1 40 (Int.toNat x1)))))) :
    WV Sx G M_X7_exchange Q 0 [jR 40, jI x1, jI x2, jU] [] h := by
  refine s_aload_n (pc := 0) dX7_exchange_0 rfl ?_
  refine s_iload_n (pc := 1) dX7_exchange_1 rfl ?_
  obtain ⟨k1, H⟩ := H
  refine s_iald (pc := 2) (x := h.1 40 (Int.toNat x1)) dX7_exchange_2 cSx_40 k1 rfl ?_
  refine s_istore_n (pc := 3) (lv' := [jR 40, jI x1, jI x2, jI (h.1 40 (Int.toNat x1))]) dX7_exchange_3 (by decide) rfl ?_
  refine s_aload_n (pc := 4) dX7_exchange_4 rfl ?_
  refine s_iload_n (pc := 5) dX7_exchange_5 rfl ?_
  refine s_aload_n (pc := 6) dX7_exchange_6 rfl ?_
  refine s_iload_n (pc := 7) dX7_exchange_7 rfl ?_
  obtain ⟨k2, H⟩ := H
  refine s_iald (pc := 8) (x := h.1 40 (Int.toNat x2)) dX7_exchange_8 cSx_40 k2 rfl ?_
  refine s_iast (pc := 9) dX7_exchange_9 cSx_40 k1 ?_
  refine s_aload_n (pc := 10) dX7_exchange_10 rfl ?_
  refine s_iload_n (pc := 11) dX7_exchange_11 rfl ?_
  refine s_iload_n (pc := 12) dX7_exchange_12 rfl ?_
  refine s_iast (pc := 13) dX7_exchange_13 cSx_40 k2 ?_
  exact s_vret dX7_exchange_14 rfl H
theorem en_X1_bestExchange_39_18 {h : jH} {post : jQ} (k : ∀ G, WV Sx G M_X1_bestExchange post 0 [jR 39, jR 18, jU, jU, jU, jU, jU] [] h) : CT Sx M_X1_bestExchange [jR 39, jR 18] h post := CT.of (by decide +kernel) (by simp [j_un]) (Nat.le_of_ble_eq_true rfl) _ rfl k
set_option maxRecDepth 20000 in
theorem vc_X1_bestExchange_39_18_0 {G : jG} {Q : jQ} {h : jH}
    (H : ∃ post : Int → jH → Prop, CT Sx M_X1_inAll [jR 39, jR 40] (j_cp h 18 0 40 0 6) (jPi post) ∧ ∀ (r1 : Int) (h2 : jH), post r1 h2 → (WV Sx G M_X1_bestExchange Q 27 [jR 39, jR 18, jI r1, jI (-9), jI 0, jU, jU] [] h2)) :
    WV Sx G M_X1_bestExchange Q 0 [jR 39, jR 18, jU, jU, jU, jU, jU] [] h := by
  refine s_aload_n (pc := 0) dX1_bestExchange_0 rfl ?_
  refine s_iconst (pc := 1) dX1_bestExchange_1 (j_cst rfl) ?_
  refine s_aload_n (pc := 2) dX1_bestExchange_2 rfl ?_
  refine s_getr (pc := 3) dX1_bestExchange_3 fl_X1_9 cSx_39 rfl ?_
  refine s_iconst (pc := 6) dX1_bestExchange_6 (j_cst rfl) ?_
  refine s_bipush (pc := 7) dX1_bestExchange_7 rfl (j_cst rfl) ?_
  refine s_copy (pc := 9) dX1_bestExchange_9 ma_X1_32 ⟨Nat.le_of_ble_eq_true rfl, Nat.le_of_ble_eq_true rfl⟩ cSx_18 cSx_40 ⟨by decide, by decide, by decide, by decide, by decide⟩ ?_
  refine s_aload_n (pc := 12) dX1_bestExchange_12 rfl ?_
  refine s_aload_n (pc := 13) dX1_bestExchange_13 rfl ?_
  refine s_getr (pc := 14) dX1_bestExchange_14 fl_X1_9 cSx_39 rfl ?_
  obtain ⟨post, hct, H⟩ := H
  refine s_callV (pc := 17) (as := [jR 40]) (st := []) (by exact dX1_bestExchange_17) mv_X1_38 ⟨rfl, rfl, Nat.le_of_ble_eq_true rfl, Nat.le_of_ble_eq_true rfl⟩ cSx_39 rfl rfl (Nat.le_of_ble_eq_true rfl) _ rfl hct (fun r1 h2 hp => ?_)
  obtain ⟨r1, rfl, hp⟩ := hp
  have H := H r1 h2 hp
  show WV _ _ _ _ 20 [jR 39, jR 18, jU, jU, jU, jU, jU] [jI r1] h2
  refine s_istore_n (pc := 20) (lv' := [jR 39, jR 18, jI r1, jU, jU, jU, jU]) dX1_bestExchange_20 (by decide) rfl ?_
  refine s_bipush (pc := 21) dX1_bestExchange_21 rfl (j_cst rfl) ?_
  refine s_istore_n (pc := 23) (lv' := [jR 39, jR 18, jI r1, jI (-9), jU, jU, jU]) dX1_bestExchange_23 (by decide) rfl ?_
  refine s_iconst (pc := 24) dX1_bestExchange_24 (j_cst rfl) ?_
  refine s_istore (pc := 25) (lv' := [jR 39, jR 18, jI r1, jI (-9), jI 0, jU, jU]) dX1_bestExchange_25 (by decide) rfl ?_
  exact H
set_option maxRecDepth 20000 in
theorem vc_X1_bestExchange_39_18_27 {G : jG} {Q : jQ} {x2 x3 x4 : Int} {u5 u6 : jV} {h : jH}
    (H : ((h.1 2 0) ≤ x4 → Q (some (jI x3)) h) ∧ (¬ (h.1 2 0) ≤ x4 → (j_rg (x4 + 1)) ∧ (WV Sx G M_X1_bestExchange Q 45 [jR 39, jR 18, jI x2, jI x3, jI x4, jI (x4 + 1), u6] [] h))) :
    WV Sx G M_X1_bestExchange Q 27 [jR 39, jR 18, jI x2, jI x3, jI x4, u5, u6] [] h := by
  refine s_iload (pc := 27) dX1_bestExchange_27 rfl ?_
  refine s_aload_n (pc := 29) dX1_bestExchange_29 rfl ?_
  refine s_getr (pc := 30) dX1_bestExchange_30 fl_X1_18 cSx_39 rfl ?_
  refine s_geti (pc := 33) (x := h.1 2 0) dX1_bestExchange_33 fl_X1_42 cSx_2 rfl rfl ?_
  refine s_icmp_ge (pc := 36) (tgt := 119) dX1_bestExchange_36 (by decide) (fun hc => ?_) (fun hc => ?_)
  · have H := H.1 hc
    refine s_iload_n (pc := 119) dX1_bestExchange_119 rfl ?_
    exact s_iret dX1_bestExchange_120 rfl H
  · have H := H.2 hc
    refine s_iload (pc := 39) dX1_bestExchange_39 rfl ?_
    refine s_iconst (pc := 41) dX1_bestExchange_41 (j_cst rfl) ?_
    obtain ⟨k1, H⟩ := H
    refine s_iadd (pc := 42) dX1_bestExchange_42 k1 ?_
    refine s_istore (pc := 43) (lv' := [jR 39, jR 18, jI x2, jI x3, jI x4, jI (x4 + 1), u6]) dX1_bestExchange_43 (by decide) rfl ?_
    exact H
set_option maxRecDepth 20000 in
theorem vc_X1_bestExchange_39_18_45 {G : jG} {Q : jQ} {x2 x3 x4 x5 : Int} {u6 : jV} {h : jH}
    (H : ((h.1 2 0) ≤ x5 → (j_rg (x4 + 1)) ∧ (WV Sx G M_X1_bestExchange Q 27 [jR 39, jR 18, jI x2, jI x3, jI (x4 + 1), jI x5, u6] [] h)) ∧ (¬ (h.1 2 0) ≤ x5 → ∃ post : jH → Prop, CT Sx M_X7_exchange [jR 40, jI x4, jI x5] h (jPv post) ∧ ∀ (h3 : jH), post h3 → (∃ post : Int → jH → Prop, CT Sx M_X1_inAll [jR 39, jR 40] h3 (jPi post) ∧ ∀ (r4 : Int) (h5 : jH), post r4 h5 → (∃ post : jH → Prop, CT Sx M_X7_exchange [jR 40, jI x4, jI x5] h5 (jPv post) ∧ ∀ (h7 : jH), post h7 → ((x2 ≤ r4 → (j_rg (x5 + 1)) ∧ (WV Sx G M_X1_bestExchange Q 45 [jR 39, jR 18, jI x2, jI x3, jI x4, jI (x5 + 1), jI r4] [] h7)) ∧ (¬ x2 ≤ r4 → (j_rg (10 * x4)) ∧ ((j_rg ((10 * x4) + x5)) ∧ ((j_rg (x5 + 1)) ∧ (WV Sx G M_X1_bestExchange Q 45 [jR 39, jR 18, jI r4, jI ((10 * x4) + x5), jI x4, jI (x5 + 1), jI r4] [] h7))))))))) :
    WV Sx G M_X1_bestExchange Q 45 [jR 39, jR 18, jI x2, jI x3, jI x4, jI x5, u6] [] h := by
  refine s_iload (pc := 45) dX1_bestExchange_45 rfl ?_
  refine s_aload_n (pc := 47) dX1_bestExchange_47 rfl ?_
  refine s_getr (pc := 48) dX1_bestExchange_48 fl_X1_18 cSx_39 rfl ?_
  refine s_geti (pc := 51) (x := h.1 2 0) dX1_bestExchange_51 fl_X1_42 cSx_2 rfl rfl ?_
  refine s_icmp_ge (pc := 54) (tgt := 113) dX1_bestExchange_54 (by decide) (fun hc => ?_) (fun hc => ?_)
  · have H := H.1 hc
    obtain ⟨k1, H⟩ := H
    refine s_iinc (pc := 113) (lv' := [jR 39, jR 18, jI x2, jI x3, jI (x4 + 1), jI x5, u6]) dX1_bestExchange_113 rfl (by decide) k1 rfl ?_
    refine s_goto (pc := 116) (tgt := 27) dX1_bestExchange_116 (by decide) ?_
    exact H
  · have H := H.2 hc
    refine s_aload_n (pc := 57) dX1_bestExchange_57 rfl ?_
    refine s_getr (pc := 58) dX1_bestExchange_58 fl_X1_9 cSx_39 rfl ?_
    refine s_iload (pc := 61) dX1_bestExchange_61 rfl ?_
    refine s_iload (pc := 63) dX1_bestExchange_63 rfl ?_
    obtain ⟨post, hct, H⟩ := H
    refine s_callSN (pc := 65) (as := [jR 40, jI x4, jI x5]) (st := []) (by exact dX1_bestExchange_65) mn_X1_45 ⟨rfl, rfl, Nat.le_of_ble_eq_true rfl, Nat.le_of_ble_eq_true rfl⟩ (Nat.le_of_ble_eq_true rfl) _ rfl hct (fun r2 h3 hp => ?_)
    obtain ⟨rfl, hp⟩ := hp
    have H := H h3 hp
    show WV _ _ _ _ 68 [jR 39, jR 18, jI x2, jI x3, jI x4, jI x5, u6] [] h3
    refine s_aload_n (pc := 68) dX1_bestExchange_68 rfl ?_
    refine s_aload_n (pc := 69) dX1_bestExchange_69 rfl ?_
    refine s_getr (pc := 70) dX1_bestExchange_70 fl_X1_9 cSx_39 rfl ?_
    obtain ⟨post, hct, H⟩ := H
    refine s_callV (pc := 73) (as := [jR 40]) (st := []) (by exact dX1_bestExchange_73) mv_X1_38 ⟨rfl, rfl, Nat.le_of_ble_eq_true rfl, Nat.le_of_ble_eq_true rfl⟩ cSx_39 rfl rfl (Nat.le_of_ble_eq_true rfl) _ rfl hct (fun r4 h5 hp => ?_)
    obtain ⟨r4, rfl, hp⟩ := hp
    have H := H r4 h5 hp
    show WV _ _ _ _ 76 [jR 39, jR 18, jI x2, jI x3, jI x4, jI x5, u6] [jI r4] h5
    refine s_istore (pc := 76) (lv' := [jR 39, jR 18, jI x2, jI x3, jI x4, jI x5, jI r4]) dX1_bestExchange_76 (by decide) rfl ?_
    refine s_aload_n (pc := 78) dX1_bestExchange_78 rfl ?_
    refine s_getr (pc := 79) dX1_bestExchange_79 fl_X1_9 cSx_39 rfl ?_
    refine s_iload (pc := 82) dX1_bestExchange_82 rfl ?_
    refine s_iload (pc := 84) dX1_bestExchange_84 rfl ?_
    obtain ⟨post, hct, H⟩ := H
    refine s_callSN (pc := 86) (as := [jR 40, jI x4, jI x5]) (st := []) (by exact dX1_bestExchange_86) mn_X1_45 ⟨rfl, rfl, Nat.le_of_ble_eq_true rfl, Nat.le_of_ble_eq_true rfl⟩ (Nat.le_of_ble_eq_true rfl) _ rfl hct (fun r6 h7 hp => ?_)
    obtain ⟨rfl, hp⟩ := hp
    have H := H h7 hp
    show WV _ _ _ _ 89 [jR 39, jR 18, jI x2, jI x3, jI x4, jI x5, jI r4] [] h7
    refine s_iload (pc := 89) dX1_bestExchange_89 rfl ?_
    refine s_iload_n (pc := 91) dX1_bestExchange_91 rfl ?_
    refine s_icmp_ge (pc := 92) (tgt := 107) dX1_bestExchange_92 (by decide) (fun hc => ?_) (fun hc => ?_)
    · have H := H.1 hc
      obtain ⟨k8, H⟩ := H
      refine s_iinc (pc := 107) (lv' := [jR 39, jR 18, jI x2, jI x3, jI x4, jI (x5 + 1), jI r4]) dX1_bestExchange_107 rfl (by decide) k8 rfl ?_
      refine s_goto (pc := 110) (tgt := 45) dX1_bestExchange_110 (by decide) ?_
      exact H
    · have H := H.2 hc
      refine s_iload (pc := 95) dX1_bestExchange_95 rfl ?_
      refine s_istore_n (pc := 97) (lv' := [jR 39, jR 18, jI r4, jI x3, jI x4, jI x5, jI r4]) dX1_bestExchange_97 (by decide) rfl ?_
      refine s_bipush (pc := 98) dX1_bestExchange_98 rfl (j_cst rfl) ?_
      refine s_iload (pc := 100) dX1_bestExchange_100 rfl ?_
      obtain ⟨k9, H⟩ := H
      refine s_imul (pc := 102) dX1_bestExchange_102 k9 ?_
      refine s_iload (pc := 103) dX1_bestExchange_103 rfl ?_
      obtain ⟨k10, H⟩ := H
      refine s_iadd (pc := 105) dX1_bestExchange_105 k10 ?_
      refine s_istore_n (pc := 106) (lv' := [jR 39, jR 18, jI r4, jI ((10 * x4) + x5), jI x4, jI x5, jI r4]) dX1_bestExchange_106 (by decide) rfl ?_
      obtain ⟨k11, H⟩ := H
      refine s_iinc (pc := 107) (lv' := [jR 39, jR 18, jI r4, jI ((10 * x4) + x5), jI x4, jI (x5 + 1), jI r4]) dX1_bestExchange_107 rfl (by decide) k11 rfl ?_
      refine s_goto (pc := 110) (tgt := 45) dX1_bestExchange_110 (by decide) ?_
      exact H
theorem en_X7_change_0 {h : jH} {post : jQ} (k : ∀ G, WV Sx G M_X7_change post 0 [jR 0] [] h) : CT Sx M_X7_change [jR 0] h post := CT.of (by decide +kernel) (by simp [j_un]) (Nat.le_of_ble_eq_true rfl) _ rfl k
set_option maxRecDepth 20000 in
theorem vc_X7_change_0_0 {G : jG} {Q : jQ} {h : jH}
    (H : ∃ post : Int → jH → Prop, CT Sx M_X1_bestExchange [jR 39, jR 18] h (jPi post) ∧ ∀ (r1 : Int) (h2 : jH), post r1 h2 → (Q (some (jI r1)) h2)) :
    WV Sx G M_X7_change Q 0 [jR 0] [] h := by
  refine s_aload_n (pc := 0) dX7_change_0 rfl ?_
  refine s_getr (pc := 1) dX7_change_1 fl_X7_69 cSx_0 rfl ?_
  refine s_aload_n (pc := 4) dX7_change_4 rfl ?_
  refine s_getr (pc := 5) dX7_change_5 fl_X7_34 cSx_0 rfl ?_
  refine s_getr (pc := 8) dX7_change_8 fl_X7_101 cSx_17 rfl ?_
  obtain ⟨post, hct, H⟩ := H
  refine s_callV (pc := 11) (as := [jR 18]) (st := []) (by exact dX7_change_11) mv_X7_222 ⟨rfl, rfl, Nat.le_of_ble_eq_true rfl, Nat.le_of_ble_eq_true rfl⟩ cSx_39 rfl rfl (Nat.le_of_ble_eq_true rfl) _ rfl hct (fun r1 h2 hp => ?_)
  obtain ⟨r1, rfl, hp⟩ := hp
  have H := H r1 h2 hp
  show WV _ _ _ _ 14 [jR 0] [jI r1] h2
  exact s_iret dX7_change_14 rfl H
theorem en_X7_nextRow_40 {x1 : Int} {h : jH} {post : jQ} (k : ∀ G, WV Sx G M_X7_nextRow post 0 [jR 40, jI x1, jU, jU, jU, jU] [] h) : CT Sx M_X7_nextRow [jR 40, jI x1] h post := CT.of (by decide +kernel) (by simp [j_un]) (Nat.le_of_ble_eq_true rfl) _ rfl k
set_option maxRecDepth 20000 in
theorem vc_X7_nextRow_40_0 {G : jG} {Q : jQ} {x1 : Int} {h : jH}
    (H : (j_rg (x1 - 2)) ∧ (WV Sx G M_X7_nextRow Q 4 [jR 40, jI x1, jI (x1 - 2), jU, jU, jU] [] h)) :
    WV Sx G M_X7_nextRow Q 0 [jR 40, jI x1, jU, jU, jU, jU] [] h := by
  refine s_iload_n (pc := 0) dX7_nextRow_0 rfl ?_
  refine s_iconst (pc := 1) dX7_nextRow_1 (j_cst rfl) ?_
  obtain ⟨k1, H⟩ := H
  refine s_isub (pc := 2) dX7_nextRow_2 k1 ?_
  refine s_istore_n (pc := 3) (lv' := [jR 40, jI x1, jI (x1 - 2), jU, jU, jU]) dX7_nextRow_3 (by decide) rfl ?_
  exact H
set_option maxRecDepth 20000 in
theorem vc_X7_nextRow_40_4 {G : jG} {Q : jQ} {x1 x2 : Int} {h : jH}
    (H : (x2 < 0 → (0 ≤ x2 → (j_rg (x1 - 1)) ∧ (WV Sx G M_X7_nextRow Q 35 [jR 40, jI x1, jI x2, jI (x1 - 1), jU, jU] [] h)) ∧ (¬ 0 ≤ x2 → Q (some (jI 0)) h)) ∧ (¬ x2 < 0 → (0 ≤ x2 ∧ x2 < 6) ∧ ((j_rg (x2 + 1)) ∧ ((0 ≤ x2 + 1 ∧ x2 + 1 < 6) ∧ (((h.1 40 (Int.toNat x2)) ≤ (h.1 40 (Int.toNat (x2 + 1))) → (0 ≤ x2 → (j_rg (x1 - 1)) ∧ (WV Sx G M_X7_nextRow Q 35 [jR 40, jI x1, jI x2, jI (x1 - 1), jU, jU] [] h)) ∧ (¬ 0 ≤ x2 → Q (some (jI 0)) h)) ∧ (¬ (h.1 40 (Int.toNat x2)) ≤ (h.1 40 (Int.toNat (x2 + 1))) → (j_rg (x2 + (-1))) ∧ (WV Sx G M_X7_nextRow Q 4 [jR 40, jI x1, jI (x2 + (-1)), jU, jU, jU] [] h))))))) :
    WV Sx G M_X7_nextRow Q 4 [jR 40, jI x1, jI x2, jU, jU, jU] [] h := by
  refine s_iload_n (pc := 4) dX7_nextRow_4 rfl ?_
  refine s_if_lt (pc := 5) (tgt := 25) dX7_nextRow_5 (by decide) (fun hc => ?_) (fun hc => ?_)
  · have H := H.1 hc
    refine s_iload_n (pc := 25) dX7_nextRow_25 rfl ?_
    refine s_if_ge (pc := 26) (tgt := 31) dX7_nextRow_26 (by decide) (fun hc => ?_) (fun hc => ?_)
    · have H := H.1 hc
      refine s_iload_n (pc := 31) dX7_nextRow_31 rfl ?_
      refine s_iconst (pc := 32) dX7_nextRow_32 (j_cst rfl) ?_
      obtain ⟨k1, H⟩ := H
      refine s_isub (pc := 33) dX7_nextRow_33 k1 ?_
      refine s_istore_n (pc := 34) (lv' := [jR 40, jI x1, jI x2, jI (x1 - 1), jU, jU]) dX7_nextRow_34 (by decide) rfl ?_
      exact H
    · have H := H.2 hc
      refine s_iconst (pc := 29) dX7_nextRow_29 (j_cst rfl) ?_
      exact s_zret dX7_nextRow_30 rfl (Or.inl rfl) H
  · have H := H.2 hc
    refine s_aload_n (pc := 8) dX7_nextRow_8 rfl ?_
    refine s_iload_n (pc := 9) dX7_nextRow_9 rfl ?_
    obtain ⟨k2, H⟩ := H
    refine s_iald (pc := 10) (x := h.1 40 (Int.toNat x2)) dX7_nextRow_10 cSx_40 k2 rfl ?_
    refine s_aload_n (pc := 11) dX7_nextRow_11 rfl ?_
    refine s_iload_n (pc := 12) dX7_nextRow_12 rfl ?_
    refine s_iconst (pc := 13) dX7_nextRow_13 (j_cst rfl) ?_
    obtain ⟨k3, H⟩ := H
    refine s_iadd (pc := 14) dX7_nextRow_14 k3 ?_
    obtain ⟨k4, H⟩ := H
    refine s_iald (pc := 15) (x := h.1 40 (Int.toNat (x2 + 1))) dX7_nextRow_15 cSx_40 k4 rfl ?_
    refine s_icmp_le (pc := 16) (tgt := 25) dX7_nextRow_16 (by decide) (fun hc => ?_) (fun hc => ?_)
    · have H := H.1 hc
      refine s_iload_n (pc := 25) dX7_nextRow_25 rfl ?_
      refine s_if_ge (pc := 26) (tgt := 31) dX7_nextRow_26 (by decide) (fun hc => ?_) (fun hc => ?_)
      · have H := H.1 hc
        refine s_iload_n (pc := 31) dX7_nextRow_31 rfl ?_
        refine s_iconst (pc := 32) dX7_nextRow_32 (j_cst rfl) ?_
        obtain ⟨k5, H⟩ := H
        refine s_isub (pc := 33) dX7_nextRow_33 k5 ?_
        refine s_istore_n (pc := 34) (lv' := [jR 40, jI x1, jI x2, jI (x1 - 1), jU, jU]) dX7_nextRow_34 (by decide) rfl ?_
        exact H
      · have H := H.2 hc
        refine s_iconst (pc := 29) dX7_nextRow_29 (j_cst rfl) ?_
        exact s_zret dX7_nextRow_30 rfl (Or.inl rfl) H
    · have H := H.2 hc
      obtain ⟨k6, H⟩ := H
      refine s_iinc (pc := 19) (lv' := [jR 40, jI x1, jI (x2 + (-1)), jU, jU, jU]) dX7_nextRow_19 rfl (by decide) k6 rfl ?_
      refine s_goto (pc := 22) (tgt := 4) dX7_nextRow_22 (by decide) ?_
      exact H
set_option maxRecDepth 20000 in
theorem vc_X7_nextRow_40_35 {G : jG} {Q : jQ} {x1 x2 x3 : Int} {h : jH}
    (H : (x3 ≤ x2 → ∃ post : jH → Prop, CT Sx M_X7_exchange [jR 40, jI x2, jI x3] h (jPv post) ∧ ∀ (h2 : jH), post h2 → ((j_rg (x2 + 1)) ∧ ((j_rg (x1 - 1)) ∧ (WV Sx G M_X7_nextRow Q 71 [jR 40, jI x1, jI x2, jI x3, jI (x2 + 1), jI (x1 - 1)] [] h2)))) ∧ (¬ x3 ≤ x2 → (0 ≤ x3 ∧ x3 < 6) ∧ ((0 ≤ x2 ∧ x2 < 6) ∧ (((h.1 40 (Int.toNat x2)) ≤ (h.1 40 (Int.toNat x3)) → ∃ post : jH → Prop, CT Sx M_X7_exchange [jR 40, jI x2, jI x3] h (jPv post) ∧ ∀ (h8 : jH), post h8 → ((j_rg (x2 + 1)) ∧ ((j_rg (x1 - 1)) ∧ (WV Sx G M_X7_nextRow Q 71 [jR 40, jI x1, jI x2, jI x3, jI (x2 + 1), jI (x1 - 1)] [] h8)))) ∧ (¬ (h.1 40 (Int.toNat x2)) ≤ (h.1 40 (Int.toNat x3)) → (j_rg (x3 + (-1))) ∧ (WV Sx G M_X7_nextRow Q 35 [jR 40, jI x1, jI x2, jI (x3 + (-1)), jU, jU] [] h)))))) :
    WV Sx G M_X7_nextRow Q 35 [jR 40, jI x1, jI x2, jI x3, jU, jU] [] h := by
  refine s_iload_n (pc := 35) dX7_nextRow_35 rfl ?_
  refine s_iload_n (pc := 36) dX7_nextRow_36 rfl ?_
  refine s_icmp_le (pc := 37) (tgt := 55) dX7_nextRow_37 (by decide) (fun hc => ?_) (fun hc => ?_)
  · have H := H.1 hc
    refine s_aload_n (pc := 55) dX7_nextRow_55 rfl ?_
    refine s_iload_n (pc := 56) dX7_nextRow_56 rfl ?_
    refine s_iload_n (pc := 57) dX7_nextRow_57 rfl ?_
    obtain ⟨post, hct, H⟩ := H
    refine s_callS (pc := 58) (as := [jR 40, jI x2, jI x3]) (st := []) (by exact dX7_nextRow_58) ms_X7_176 ⟨rfl, rfl, Nat.le_of_ble_eq_true rfl, Nat.le_of_ble_eq_true rfl⟩ (Nat.le_of_ble_eq_true rfl) _ rfl hct (fun r1 h2 hp => ?_)
    obtain ⟨rfl, hp⟩ := hp
    have H := H h2 hp
    show WV _ _ _ _ 61 [jR 40, jI x1, jI x2, jI x3, jU, jU] [] h2
    refine s_iload_n (pc := 61) dX7_nextRow_61 rfl ?_
    refine s_iconst (pc := 62) dX7_nextRow_62 (j_cst rfl) ?_
    obtain ⟨k3, H⟩ := H
    refine s_iadd (pc := 63) dX7_nextRow_63 k3 ?_
    refine s_istore (pc := 64) (lv' := [jR 40, jI x1, jI x2, jI x3, jI (x2 + 1), jU]) dX7_nextRow_64 (by decide) rfl ?_
    refine s_iload_n (pc := 66) dX7_nextRow_66 rfl ?_
    refine s_iconst (pc := 67) dX7_nextRow_67 (j_cst rfl) ?_
    obtain ⟨k4, H⟩ := H
    refine s_isub (pc := 68) dX7_nextRow_68 k4 ?_
    refine s_istore (pc := 69) (lv' := [jR 40, jI x1, jI x2, jI x3, jI (x2 + 1), jI (x1 - 1)]) dX7_nextRow_69 (by decide) rfl ?_
    exact H
  · have H := H.2 hc
    refine s_aload_n (pc := 40) dX7_nextRow_40 rfl ?_
    refine s_iload_n (pc := 41) dX7_nextRow_41 rfl ?_
    obtain ⟨k5, H⟩ := H
    refine s_iald (pc := 42) (x := h.1 40 (Int.toNat x3)) dX7_nextRow_42 cSx_40 k5 rfl ?_
    refine s_aload_n (pc := 43) dX7_nextRow_43 rfl ?_
    refine s_iload_n (pc := 44) dX7_nextRow_44 rfl ?_
    obtain ⟨k6, H⟩ := H
    refine s_iald (pc := 45) (x := h.1 40 (Int.toNat x2)) dX7_nextRow_45 cSx_40 k6 rfl ?_
    refine s_icmp_ge (pc := 46) (tgt := 55) dX7_nextRow_46 (by decide) (fun hc => ?_) (fun hc => ?_)
    · have H := H.1 hc
      refine s_aload_n (pc := 55) dX7_nextRow_55 rfl ?_
      refine s_iload_n (pc := 56) dX7_nextRow_56 rfl ?_
      refine s_iload_n (pc := 57) dX7_nextRow_57 rfl ?_
      obtain ⟨post, hct, H⟩ := H
      refine s_callS (pc := 58) (as := [jR 40, jI x2, jI x3]) (st := []) (by exact dX7_nextRow_58) ms_X7_176 ⟨rfl, rfl, Nat.le_of_ble_eq_true rfl, Nat.le_of_ble_eq_true rfl⟩ (Nat.le_of_ble_eq_true rfl) _ rfl hct (fun r7 h8 hp => ?_)
      obtain ⟨rfl, hp⟩ := hp
      have H := H h8 hp
      show WV _ _ _ _ 61 [jR 40, jI x1, jI x2, jI x3, jU, jU] [] h8
      refine s_iload_n (pc := 61) dX7_nextRow_61 rfl ?_
      refine s_iconst (pc := 62) dX7_nextRow_62 (j_cst rfl) ?_
      obtain ⟨k9, H⟩ := H
      refine s_iadd (pc := 63) dX7_nextRow_63 k9 ?_
      refine s_istore (pc := 64) (lv' := [jR 40, jI x1, jI x2, jI x3, jI (x2 + 1), jU]) dX7_nextRow_64 (by decide) rfl ?_
      refine s_iload_n (pc := 66) dX7_nextRow_66 rfl ?_
      refine s_iconst (pc := 67) dX7_nextRow_67 (j_cst rfl) ?_
      obtain ⟨k10, H⟩ := H
      refine s_isub (pc := 68) dX7_nextRow_68 k10 ?_
      refine s_istore (pc := 69) (lv' := [jR 40, jI x1, jI x2, jI x3, jI (x2 + 1), jI (x1 - 1)]) dX7_nextRow_69 (by decide) rfl ?_
      exact H
    · have H := H.2 hc
      obtain ⟨k11, H⟩ := H
      refine s_iinc (pc := 49) (lv' := [jR 40, jI x1, jI x2, jI (x3 + (-1)), jU, jU]) dX7_nextRow_49 rfl (by decide) k11 rfl ?_
      refine s_goto (pc := 52) (tgt := 35) dX7_nextRow_52 (by decide) ?_
      exact H
set_option maxRecDepth 20000 in
theorem vc_X7_nextRow_40_71 {G : jG} {Q : jQ} {x1 x2 x3 x4 x5 : Int} {h : jH}
    (H : (x5 ≤ x4 → Q (some (jI 1)) h) ∧ (¬ x5 ≤ x4 → ∃ post : jH → Prop, CT Sx M_X7_exchange [jR 40, jI x4, jI x5] h (jPv post) ∧ ∀ (h2 : jH), post h2 → ((j_rg (x4 + 1)) ∧ ((j_rg (x5 + (-1))) ∧ (WV Sx G M_X7_nextRow Q 71 [jR 40, jI x1, jI x2, jI x3, jI (x4 + 1), jI (x5 + (-1))] [] h2))))) :
    WV Sx G M_X7_nextRow Q 71 [jR 40, jI x1, jI x2, jI x3, jI x4, jI x5] [] h := by
  refine s_iload (pc := 71) dX7_nextRow_71 rfl ?_
  refine s_iload (pc := 73) dX7_nextRow_73 rfl ?_
  refine s_icmp_ge (pc := 75) (tgt := 95) dX7_nextRow_75 (by decide) (fun hc => ?_) (fun hc => ?_)
  · have H := H.1 hc
    refine s_iconst (pc := 95) dX7_nextRow_95 (j_cst rfl) ?_
    exact s_zret dX7_nextRow_96 rfl (Or.inr rfl) H
  · have H := H.2 hc
    refine s_aload_n (pc := 78) dX7_nextRow_78 rfl ?_
    refine s_iload (pc := 79) dX7_nextRow_79 rfl ?_
    refine s_iload (pc := 81) dX7_nextRow_81 rfl ?_
    obtain ⟨post, hct, H⟩ := H
    refine s_callS (pc := 83) (as := [jR 40, jI x4, jI x5]) (st := []) (by exact dX7_nextRow_83) ms_X7_176 ⟨rfl, rfl, Nat.le_of_ble_eq_true rfl, Nat.le_of_ble_eq_true rfl⟩ (Nat.le_of_ble_eq_true rfl) _ rfl hct (fun r1 h2 hp => ?_)
    obtain ⟨rfl, hp⟩ := hp
    have H := H h2 hp
    show WV _ _ _ _ 86 [jR 40, jI x1, jI x2, jI x3, jI x4, jI x5] [] h2
    obtain ⟨k3, H⟩ := H
    refine s_iinc (pc := 86) (lv' := [jR 40, jI x1, jI x2, jI x3, jI (x4 + 1), jI x5]) dX7_nextRow_86 rfl (by decide) k3 rfl ?_
    obtain ⟨k4, H⟩ := H
    refine s_iinc (pc := 89) (lv' := [jR 40, jI x1, jI x2, jI x3, jI (x4 + 1), jI (x5 + (-1))]) dX7_nextRow_89 rfl (by decide) k4 rfl ?_
    refine s_goto (pc := 92) (tgt := 71) dX7_nextRow_92 (by decide) ?_
    exact H
theorem en_X1_find_39 {h : jH} {post : jQ} (k : ∀ G, WV Sx G M_X1_find post 0 [jR 39, jU, jU] [] h) : CT Sx M_X1_find [jR 39] h post := CT.of (by decide +kernel) (by simp [j_un]) (Nat.le_of_ble_eq_true rfl) _ rfl k
set_option maxRecDepth 20000 in
theorem vc_X1_find_39_0 {G : jG} {Q : jQ} {h : jH}
    (H : WV Sx G M_X1_find Q 2 [jR 39, jI 0, jU] [] h) :
    WV Sx G M_X1_find Q 0 [jR 39, jU, jU] [] h := by
  refine s_iconst (pc := 0) dX1_find_0 (j_cst rfl) ?_
  refine s_istore_n (pc := 1) (lv' := [jR 39, jI 0, jU]) dX1_find_1 (by decide) rfl ?_
  exact H
set_option maxRecDepth 20000 in
theorem vc_X1_find_39_2 {G : jG} {Q : jQ} {x1 : Int} {h : jH}
    (H : ((h.1 2 0) ≤ x1 → WV Sx G M_X1_find Q 34 [jR 39, jI 0, jU] [] (j_up h 39 3 1000000)) ∧ (¬ (h.1 2 0) ≤ x1 → (0 ≤ x1 ∧ x1 < 6) ∧ ((j_rg (x1 + 1)) ∧ (WV Sx G M_X1_find Q 2 [jR 39, jI (x1 + 1), jU] [] (j_up h 40 (Int.toNat x1) x1))))) :
    WV Sx G M_X1_find Q 2 [jR 39, jI x1, jU] [] h := by
  refine s_iload_n (pc := 2) dX1_find_2 rfl ?_
  refine s_aload_n (pc := 3) dX1_find_3 rfl ?_
  refine s_getr (pc := 4) dX1_find_4 fl_X1_18 cSx_39 rfl ?_
  refine s_geti (pc := 7) (x := h.1 2 0) dX1_find_7 fl_X1_42 cSx_2 rfl rfl ?_
  refine s_icmp_ge (pc := 10) (tgt := 26) dX1_find_10 (by decide) (fun hc => ?_) (fun hc => ?_)
  · have H := H.1 hc
    refine s_aload_n (pc := 26) dX1_find_26 rfl ?_
    refine s_ldc (pc := 27) dX1_find_27 kc_X1_49 (j_cst rfl) ?_
    refine s_puti (pc := 29) dX1_find_29 fp_X1_50 cSx_39 rfl ?_
    refine s_iconst (pc := 32) dX1_find_32 (j_cst rfl) ?_
    refine s_istore_n (pc := 33) (lv' := [jR 39, jI 0, jU]) dX1_find_33 (by decide) rfl ?_
    exact H
  · have H := H.2 hc
    refine s_aload_n (pc := 13) dX1_find_13 rfl ?_
    refine s_getr (pc := 14) dX1_find_14 fl_X1_9 cSx_39 rfl ?_
    refine s_iload_n (pc := 17) dX1_find_17 rfl ?_
    refine s_iload_n (pc := 18) dX1_find_18 rfl ?_
    obtain ⟨k1, H⟩ := H
    refine s_iast (pc := 19) dX1_find_19 cSx_40 k1 ?_
    obtain ⟨k2, H⟩ := H
    refine s_iinc (pc := 20) (lv' := [jR 39, jI (x1 + 1), jU]) dX1_find_20 rfl (by decide) k2 rfl ?_
    refine s_goto (pc := 23) (tgt := 2) dX1_find_23 (by decide) ?_
    exact H
set_option maxRecDepth 20000 in
theorem vc_X1_find_39_34 {G : jG} {Q : jQ} {x1 : Int} {u2 : jV} {h : jH}
    (H : (720 ≤ x1 → Q none h) ∧ (¬ 720 ≤ x1 → ∃ post : Int → jH → Prop, CT Sx M_X1_inAll [jR 39, jR 40] h (jPi post) ∧ ∀ (r1 : Int) (h2 : jH), post r1 h2 → (((h2.1 39 3) ≤ r1 → ∃ post : Int → jH → Prop, CT Sx M_X7_nextRow [jR 40, jI (h2.1 2 0)] h2 (jPi post) ∧ ∀ (r3 : Int) (h4 : jH), post r3 h4 → ((r3 = 0 → Q none h4) ∧ (¬ r3 = 0 → (j_rg (x1 + 1)) ∧ (WV Sx G M_X1_find Q 34 [jR 39, jI (x1 + 1), jI r1] [] h4)))) ∧ (¬ (h2.1 39 3) ≤ r1 → (0 ≤ h2.1 2 0) ∧ ((0 + (h2.1 2 0) ≤ 6) ∧ (∃ post : Int → jH → Prop, CT Sx M_X7_nextRow [jR 40, jI (h2.1 2 0)] (j_cp (j_up h2 39 3 r1) 40 0 41 0 (Int.toNat (h2.1 2 0))) (jPi post) ∧ ∀ (r8 : Int) (h9 : jH), post r8 h9 → ((r8 = 0 → Q none h9) ∧ (¬ r8 = 0 → (j_rg (x1 + 1)) ∧ (WV Sx G M_X1_find Q 34 [jR 39, jI (x1 + 1), jI r1] [] h9))))))))) :
    WV Sx G M_X1_find Q 34 [jR 39, jI x1, u2] [] h := by
  refine s_iload_n (pc := 34) dX1_find_34 rfl ?_
  refine s_sipush (pc := 35) dX1_find_35 rfl (j_cst rfl) ?_
  refine s_icmp_ge (pc := 38) (tgt := 109) dX1_find_38 (by decide) (fun hc => ?_) (fun hc => ?_)
  · have H := H.1 hc
    exact s_vret dX1_find_109 rfl H
  · have H := H.2 hc
    refine s_aload_n (pc := 41) dX1_find_41 rfl ?_
    refine s_aload_n (pc := 42) dX1_find_42 rfl ?_
    refine s_getr (pc := 43) dX1_find_43 fl_X1_9 cSx_39 rfl ?_
    obtain ⟨post, hct, H⟩ := H
    refine s_callV (pc := 46) (as := [jR 40]) (st := []) (by exact dX1_find_46) mv_X1_38 ⟨rfl, rfl, Nat.le_of_ble_eq_true rfl, Nat.le_of_ble_eq_true rfl⟩ cSx_39 rfl rfl (Nat.le_of_ble_eq_true rfl) _ rfl hct (fun r1 h2 hp => ?_)
    obtain ⟨r1, rfl, hp⟩ := hp
    have H := H r1 h2 hp
    show WV _ _ _ _ 49 [jR 39, jI x1, u2] [jI r1] h2
    refine s_istore_n (pc := 49) (lv' := [jR 39, jI x1, jI r1]) dX1_find_49 (by decide) rfl ?_
    refine s_iload_n (pc := 50) dX1_find_50 rfl ?_
    refine s_aload_n (pc := 51) dX1_find_51 rfl ?_
    refine s_geti (pc := 52) (x := h2.1 39 3) dX1_find_52 fl_X1_50 cSx_39 rfl rfl ?_
    refine s_icmp_ge (pc := 55) (tgt := 83) dX1_find_55 (by decide) (fun hc => ?_) (fun hc => ?_)
    · have H := H.1 hc
      refine s_aload_n (pc := 83) dX1_find_83 rfl ?_
      refine s_getr (pc := 84) dX1_find_84 fl_X1_9 cSx_39 rfl ?_
      refine s_aload_n (pc := 87) dX1_find_87 rfl ?_
      refine s_getr (pc := 88) dX1_find_88 fl_X1_18 cSx_39 rfl ?_
      refine s_geti (pc := 91) (x := h2.1 2 0) dX1_find_91 fl_X1_42 cSx_2 rfl rfl ?_
      obtain ⟨post, hct, H⟩ := H
      refine s_callSN (pc := 94) (as := [jR 40, jI (h2.1 2 0)]) (st := []) (by exact dX1_find_94) mn_X1_53 ⟨rfl, rfl, Nat.le_of_ble_eq_true rfl, Nat.le_of_ble_eq_true rfl⟩ (Nat.le_of_ble_eq_true rfl) _ rfl hct (fun r3 h4 hp => ?_)
      obtain ⟨r3, rfl, hp⟩ := hp
      have H := H r3 h4 hp
      show WV _ _ _ _ 97 [jR 39, jI x1, jI r1] [jI r3] h4
      refine s_if_ne (pc := 97) (tgt := 103) dX1_find_97 (by decide) (fun hc => ?_) (fun hc => ?_)
      · have H := H.2 hc
        obtain ⟨k5, H⟩ := H
        refine s_iinc (pc := 103) (lv' := [jR 39, jI (x1 + 1), jI r1]) dX1_find_103 rfl (by decide) k5 rfl ?_
        refine s_goto (pc := 106) (tgt := 34) dX1_find_106 (by decide) ?_
        exact H
      · have H := H.1 hc
        refine s_goto (pc := 100) (tgt := 109) dX1_find_100 (by decide) ?_
        exact s_vret dX1_find_109 rfl H
    · have H := H.2 hc
      refine s_aload_n (pc := 58) dX1_find_58 rfl ?_
      refine s_iload_n (pc := 59) dX1_find_59 rfl ?_
      refine s_puti (pc := 60) dX1_find_60 fp_X1_50 cSx_39 rfl ?_
      refine s_aload_n (pc := 63) dX1_find_63 rfl ?_
      refine s_getr (pc := 64) dX1_find_64 fl_X1_9 cSx_39 rfl ?_
      refine s_iconst (pc := 67) dX1_find_67 (j_cst rfl) ?_
      refine s_aload_n (pc := 68) dX1_find_68 rfl ?_
      refine s_getr (pc := 69) dX1_find_69 fl_X1_15 cSx_39 rfl ?_
      refine s_iconst (pc := 72) dX1_find_72 (j_cst rfl) ?_
      refine s_aload_n (pc := 73) dX1_find_73 rfl ?_
      refine s_getr (pc := 74) dX1_find_74 fl_X1_18 cSx_39 rfl ?_
      refine s_geti (pc := 77) (x := h2.1 2 0) dX1_find_77 fl_X1_42 cSx_2 rfl rfl ?_
      obtain ⟨k6, H⟩ := H
      obtain ⟨k7, H⟩ := H
      refine s_copy (pc := 80) dX1_find_80 ma_X1_32 ⟨Nat.le_of_ble_eq_true rfl, Nat.le_of_ble_eq_true rfl⟩ cSx_40 cSx_41 ⟨by decide, by decide, k6, k7, k7⟩ ?_
      refine s_aload_n (pc := 83) dX1_find_83 rfl ?_
      refine s_getr (pc := 84) dX1_find_84 fl_X1_9 cSx_39 rfl ?_
      refine s_aload_n (pc := 87) dX1_find_87 rfl ?_
      refine s_getr (pc := 88) dX1_find_88 fl_X1_18 cSx_39 rfl ?_
      refine s_geti (pc := 91) (x := h2.1 2 0) dX1_find_91 fl_X1_42 cSx_2 rfl rfl ?_
      obtain ⟨post, hct, H⟩ := H
      refine s_callSN (pc := 94) (as := [jR 40, jI (h2.1 2 0)]) (st := []) (by exact dX1_find_94) mn_X1_53 ⟨rfl, rfl, Nat.le_of_ble_eq_true rfl, Nat.le_of_ble_eq_true rfl⟩ (Nat.le_of_ble_eq_true rfl) _ rfl hct (fun r8 h9 hp => ?_)
      obtain ⟨r8, rfl, hp⟩ := hp
      have H := H r8 h9 hp
      show WV _ _ _ _ 97 [jR 39, jI x1, jI r1] [jI r8] h9
      refine s_if_ne (pc := 97) (tgt := 103) dX1_find_97 (by decide) (fun hc => ?_) (fun hc => ?_)
      · have H := H.2 hc
        obtain ⟨k10, H⟩ := H
        refine s_iinc (pc := 103) (lv' := [jR 39, jI (x1 + 1), jI r1]) dX1_find_103 rfl (by decide) k10 rfl ?_
        refine s_goto (pc := 106) (tgt := 34) dX1_find_106 (by decide) ?_
        exact H
      · have H := H.1 hc
        refine s_goto (pc := 100) (tgt := 109) dX1_find_100 (by decide) ?_
        exact s_vret dX1_find_109 rfl H
theorem en_X7_bestHoles_0 {x1 : Int} {h : jH} {post : jQ} (k : ∀ G, WV Sx G M_X7_bestHoles post 0 [jR 0, jI x1] [] h) : CT Sx M_X7_bestHoles [jR 0, jI x1] h post := CT.of (by decide +kernel) (by simp [j_un]) (Nat.le_of_ble_eq_true rfl) _ rfl k
set_option maxRecDepth 20000 in
theorem vc_X7_bestHoles_0_0 {G : jG} {Q : jQ} {x1 : Int} {h : jH}
    (H : (x1 = (-1) → ∃ post : jH → Prop, CT Sx M_X1_find [jR 39] h (jPv post) ∧ ∀ (h2 : jH), post h2 → ((x1 = (-1) → Q (some (jI (h2.1 39 3))) h2) ∧ (¬ x1 = (-1) → (0 ≤ x1 ∧ x1 < 6) ∧ (Q (some (jI (h2.1 41 (Int.toNat x1)))) h2)))) ∧ (¬ x1 = (-1) → ∃ post : Int → jH → Prop, CT Sx M_X6_hasLine [jR 2, jI x1] h (jPi post) ∧ ∀ (r4 : Int) (h5 : jH), post r4 h5 → ((r4 = 0 → Q (some (jI (-1))) h5) ∧ (¬ r4 = 0 → ∃ post : jH → Prop, CT Sx M_X1_find [jR 39] h5 (jPv post) ∧ ∀ (h7 : jH), post h7 → ((x1 = (-1) → Q (some (jI (h7.1 39 3))) h7) ∧ (¬ x1 = (-1) → (0 ≤ x1 ∧ x1 < 6) ∧ (Q (some (jI (h7.1 41 (Int.toNat x1)))) h7))))))) :
    WV Sx G M_X7_bestHoles Q 0 [jR 0, jI x1] [] h := by
  refine s_iload_n (pc := 0) dX7_bestHoles_0 rfl ?_
  refine s_iconst (pc := 1) dX7_bestHoles_1 (j_cst rfl) ?_
  refine s_icmp_eq (pc := 2) (tgt := 18) dX7_bestHoles_2 (by decide) (fun hc => ?_) (fun hc => ?_)
  · have H := H.1 hc
    refine s_aload_n (pc := 18) dX7_bestHoles_18 rfl ?_
    refine s_getr (pc := 19) dX7_bestHoles_19 fl_X7_69 cSx_0 rfl ?_
    obtain ⟨post, hct, H⟩ := H
    refine s_callV (pc := 22) (as := []) (st := []) (by exact dX7_bestHoles_22) mv_X7_225 ⟨rfl, rfl, Nat.le_of_ble_eq_true rfl, Nat.le_of_ble_eq_true rfl⟩ cSx_39 rfl rfl (Nat.le_of_ble_eq_true rfl) _ rfl hct (fun r1 h2 hp => ?_)
    obtain ⟨rfl, hp⟩ := hp
    have H := H h2 hp
    show WV _ _ _ _ 25 [jR 0, jI x1] [] h2
    refine s_iload_n (pc := 25) dX7_bestHoles_25 rfl ?_
    refine s_iconst (pc := 26) dX7_bestHoles_26 (j_cst rfl) ?_
    refine s_icmp_ne (pc := 27) (tgt := 40) dX7_bestHoles_27 (by decide) (fun hc => ?_) (fun hc => ?_)
    · have H := H.2 hc
      refine s_aload_n (pc := 40) dX7_bestHoles_40 rfl ?_
      refine s_getr (pc := 41) dX7_bestHoles_41 fl_X7_69 cSx_0 rfl ?_
      refine s_getr (pc := 44) dX7_bestHoles_44 fl_X7_228 cSx_39 rfl ?_
      refine s_iload_n (pc := 47) dX7_bestHoles_47 rfl ?_
      obtain ⟨k3, H⟩ := H
      refine s_iald (pc := 48) (x := h2.1 41 (Int.toNat x1)) dX7_bestHoles_48 cSx_41 k3 rfl ?_
      exact s_iret dX7_bestHoles_49 rfl H
    · have H := H.1 hc
      refine s_aload_n (pc := 30) dX7_bestHoles_30 rfl ?_
      refine s_getr (pc := 31) dX7_bestHoles_31 fl_X7_69 cSx_0 rfl ?_
      refine s_geti (pc := 34) (x := h2.1 39 3) dX7_bestHoles_34 fl_X7_227 cSx_39 rfl rfl ?_
      refine s_goto (pc := 37) (tgt := 49) dX7_bestHoles_37 (by decide) ?_
      exact s_iret dX7_bestHoles_49 rfl H
  · have H := H.2 hc
    refine s_aload_n (pc := 5) dX7_bestHoles_5 rfl ?_
    refine s_getr (pc := 6) dX7_bestHoles_6 fl_X7_16 cSx_0 rfl ?_
    refine s_iload_n (pc := 9) dX7_bestHoles_9 rfl ?_
    obtain ⟨post, hct, H⟩ := H
    refine s_callV (pc := 10) (as := [jI x1]) (st := []) (by exact dX7_bestHoles_10) mv_X7_97 ⟨rfl, rfl, Nat.le_of_ble_eq_true rfl, Nat.le_of_ble_eq_true rfl⟩ cSx_2 rfl rfl (Nat.le_of_ble_eq_true rfl) _ rfl hct (fun r4 h5 hp => ?_)
    obtain ⟨r4, rfl, hp⟩ := hp
    have H := H r4 h5 hp
    show WV _ _ _ _ 13 [jR 0, jI x1] [jI r4] h5
    refine s_if_ne (pc := 13) (tgt := 18) dX7_bestHoles_13 (by decide) (fun hc => ?_) (fun hc => ?_)
    · have H := H.2 hc
      refine s_aload_n (pc := 18) dX7_bestHoles_18 rfl ?_
      refine s_getr (pc := 19) dX7_bestHoles_19 fl_X7_69 cSx_0 rfl ?_
      obtain ⟨post, hct, H⟩ := H
      refine s_callV (pc := 22) (as := []) (st := []) (by exact dX7_bestHoles_22) mv_X7_225 ⟨rfl, rfl, Nat.le_of_ble_eq_true rfl, Nat.le_of_ble_eq_true rfl⟩ cSx_39 rfl rfl (Nat.le_of_ble_eq_true rfl) _ rfl hct (fun r6 h7 hp => ?_)
      obtain ⟨rfl, hp⟩ := hp
      have H := H h7 hp
      show WV _ _ _ _ 25 [jR 0, jI x1] [] h7
      refine s_iload_n (pc := 25) dX7_bestHoles_25 rfl ?_
      refine s_iconst (pc := 26) dX7_bestHoles_26 (j_cst rfl) ?_
      refine s_icmp_ne (pc := 27) (tgt := 40) dX7_bestHoles_27 (by decide) (fun hc => ?_) (fun hc => ?_)
      · have H := H.2 hc
        refine s_aload_n (pc := 40) dX7_bestHoles_40 rfl ?_
        refine s_getr (pc := 41) dX7_bestHoles_41 fl_X7_69 cSx_0 rfl ?_
        refine s_getr (pc := 44) dX7_bestHoles_44 fl_X7_228 cSx_39 rfl ?_
        refine s_iload_n (pc := 47) dX7_bestHoles_47 rfl ?_
        obtain ⟨k8, H⟩ := H
        refine s_iald (pc := 48) (x := h7.1 41 (Int.toNat x1)) dX7_bestHoles_48 cSx_41 k8 rfl ?_
        exact s_iret dX7_bestHoles_49 rfl H
      · have H := H.1 hc
        refine s_aload_n (pc := 30) dX7_bestHoles_30 rfl ?_
        refine s_getr (pc := 31) dX7_bestHoles_31 fl_X7_69 cSx_0 rfl ?_
        refine s_geti (pc := 34) (x := h7.1 39 3) dX7_bestHoles_34 fl_X7_227 cSx_39 rfl rfl ?_
        refine s_goto (pc := 37) (tgt := 49) dX7_bestHoles_37 (by decide) ?_
        exact s_iret dX7_bestHoles_49 rfl H
    · have H := H.1 hc
      refine s_iconst (pc := 16) dX7_bestHoles_16 (j_cst rfl) ?_
      exact s_iret dX7_bestHoles_17 rfl H
theorem en_X6_fallingAt_2 {x1 : Int} {h : jH} {post : jQ} (k : ∀ G, WV Sx G M_X6_fallingAt post 0 [jR 2, jI x1, jU, jU] [] h) : CT Sx M_X6_fallingAt [jR 2, jI x1] h post := CT.of (by decide +kernel) (by simp [j_un]) (Nat.le_of_ble_eq_true rfl) _ rfl k
set_option maxRecDepth 20000 in
theorem vc_X6_fallingAt_2_0 {G : jG} {Q : jQ} {x1 : Int} {h : jH}
    (H : WV Sx G M_X6_fallingAt Q 4 [jR 2, jI x1, jI 0, jI 0] [] h) :
    WV Sx G M_X6_fallingAt Q 0 [jR 2, jI x1, jU, jU] [] h := by
  refine s_iconst (pc := 0) dX6_fallingAt_0 (j_cst rfl) ?_
  refine s_istore_n (pc := 1) (lv' := [jR 2, jI x1, jI 0, jU]) dX6_fallingAt_1 (by decide) rfl ?_
  refine s_iconst (pc := 2) dX6_fallingAt_2 (j_cst rfl) ?_
  refine s_istore_n (pc := 3) (lv' := [jR 2, jI x1, jI 0, jI 0]) dX6_fallingAt_3 (by decide) rfl ?_
  exact H
set_option maxRecDepth 20000 in
theorem vc_X6_fallingAt_2_4 {G : jG} {Q : jQ} {x1 x2 x3 : Int} {h : jH}
    (H : ((h.1 2 2) ≤ x3 → Q (some (jI x2)) h) ∧ (¬ (h.1 2 2) ≤ x3 → (0 ≤ x3 ∧ x3 < 7) ∧ (((h.1 4 (Int.toNat x3)) = x1 → (j_rg (x2 + 1)) ∧ ((j_rg (x3 + 1)) ∧ (WV Sx G M_X6_fallingAt Q 4 [jR 2, jI x1, jI (x2 + 1), jI (x3 + 1)] [] h))) ∧ (¬ (h.1 4 (Int.toNat x3)) = x1 → (j_rg (x3 + 1)) ∧ (WV Sx G M_X6_fallingAt Q 4 [jR 2, jI x1, jI x2, jI (x3 + 1)] [] h))))) :
    WV Sx G M_X6_fallingAt Q 4 [jR 2, jI x1, jI x2, jI x3] [] h := by
  refine s_iload_n (pc := 4) dX6_fallingAt_4 rfl ?_
  refine s_aload_n (pc := 5) dX6_fallingAt_5 rfl ?_
  refine s_geti (pc := 6) (x := h.1 2 2) dX6_fallingAt_6 fl_X6_40 cSx_2 rfl rfl ?_
  refine s_icmp_ge (pc := 9) (tgt := 31) dX6_fallingAt_9 (by decide) (fun hc => ?_) (fun hc => ?_)
  · have H := H.1 hc
    refine s_iload_n (pc := 31) dX6_fallingAt_31 rfl ?_
    exact s_iret dX6_fallingAt_32 rfl H
  · have H := H.2 hc
    refine s_aload_n (pc := 12) dX6_fallingAt_12 rfl ?_
    refine s_getr (pc := 13) dX6_fallingAt_13 fl_X6_15 cSx_2 rfl ?_
    refine s_iload_n (pc := 16) dX6_fallingAt_16 rfl ?_
    obtain ⟨k1, H⟩ := H
    refine s_iald (pc := 17) (x := h.1 4 (Int.toNat x3)) dX6_fallingAt_17 cSx_4 k1 rfl ?_
    refine s_iload_n (pc := 18) dX6_fallingAt_18 rfl ?_
    refine s_icmp_ne (pc := 19) (tgt := 25) dX6_fallingAt_19 (by decide) (fun hc => ?_) (fun hc => ?_)
    · have H := H.2 hc
      obtain ⟨k2, H⟩ := H
      refine s_iinc (pc := 25) (lv' := [jR 2, jI x1, jI x2, jI (x3 + 1)]) dX6_fallingAt_25 rfl (by decide) k2 rfl ?_
      refine s_goto (pc := 28) (tgt := 4) dX6_fallingAt_28 (by decide) ?_
      exact H
    · have H := H.1 hc
      obtain ⟨k3, H⟩ := H
      refine s_iinc (pc := 22) (lv' := [jR 2, jI x1, jI (x2 + 1), jI x3]) dX6_fallingAt_22 rfl (by decide) k3 rfl ?_
      obtain ⟨k4, H⟩ := H
      refine s_iinc (pc := 25) (lv' := [jR 2, jI x1, jI (x2 + 1), jI (x3 + 1)]) dX6_fallingAt_25 rfl (by decide) k4 rfl ?_
      refine s_goto (pc := 28) (tgt := 4) dX6_fallingAt_28 (by decide) ?_
      exact H
theorem en_X7_atOnce_0 {x1 : Int} {h : jH} {post : jQ} (k : ∀ G, WV Sx G M_X7_atOnce post 0 [jR 0, jI x1, jU, jU, jU, jU] [] h) : CT Sx M_X7_atOnce [jR 0, jI x1] h post := CT.of (by decide +kernel) (by simp [j_un]) (Nat.le_of_ble_eq_true rfl) _ rfl k
set_option maxRecDepth 20000 in
theorem vc_X7_atOnce_0_0 {G : jG} {Q : jQ} {x1 : Int} {h : jH}
    (H : (x1 < 0 → Q (some (jI (-1))) h) ∧ (¬ x1 < 0 → (x1 ≤ 1 → WV Sx G M_X7_atOnce Q 18 [jR 0, jI x1, jI 0, jI 0, jI 0, jU] [] h) ∧ (¬ x1 ≤ 1 → Q (some (jI (-1))) h))) :
    WV Sx G M_X7_atOnce Q 0 [jR 0, jI x1, jU, jU, jU, jU] [] h := by
  refine s_iload_n (pc := 0) dX7_atOnce_0 rfl ?_
  refine s_if_lt (pc := 1) (tgt := 9) dX7_atOnce_1 (by decide) (fun hc => ?_) (fun hc => ?_)
  · have H := H.1 hc
    refine s_iconst (pc := 9) dX7_atOnce_9 (j_cst rfl) ?_
    exact s_iret dX7_atOnce_10 rfl H
  · have H := H.2 hc
    refine s_iload_n (pc := 4) dX7_atOnce_4 rfl ?_
    refine s_iconst (pc := 5) dX7_atOnce_5 (j_cst rfl) ?_
    refine s_icmp_le (pc := 6) (tgt := 11) dX7_atOnce_6 (by decide) (fun hc => ?_) (fun hc => ?_)
    · have H := H.1 hc
      refine s_iconst (pc := 11) dX7_atOnce_11 (j_cst rfl) ?_
      refine s_istore_n (pc := 12) (lv' := [jR 0, jI x1, jI 0, jU, jU, jU]) dX7_atOnce_12 (by decide) rfl ?_
      refine s_iconst (pc := 13) dX7_atOnce_13 (j_cst rfl) ?_
      refine s_istore_n (pc := 14) (lv' := [jR 0, jI x1, jI 0, jI 0, jU, jU]) dX7_atOnce_14 (by decide) rfl ?_
      refine s_iconst (pc := 15) dX7_atOnce_15 (j_cst rfl) ?_
      refine s_istore (pc := 16) (lv' := [jR 0, jI x1, jI 0, jI 0, jI 0, jU]) dX7_atOnce_16 (by decide) rfl ?_
      exact H
    · have H := H.2 hc
      refine s_iconst (pc := 9) dX7_atOnce_9 (j_cst rfl) ?_
      exact s_iret dX7_atOnce_10 rfl H
set_option maxRecDepth 20000 in
theorem vc_X7_atOnce_0_18 {G : jG} {Q : jQ} {x1 x2 x3 x4 : Int} {u5 : jV} {h : jH}
    (H : (40 < x4 → (x1 = 0 → Q (some (jI x2)) h) ∧ (¬ x1 = 0 → Q (some (jI x3)) h)) ∧ (¬ 40 < x4 → ∃ post : Int → jH → Prop, CT Sx M_X6_fallingAt [jR 2, jI x4] h (jPi post) ∧ ∀ (r1 : Int) (h2 : jH), post r1 h2 → ((r1 ≤ x3 → (j_rg (x4 + 1)) ∧ (WV Sx G M_X7_atOnce Q 18 [jR 0, jI x1, jI x2, jI x3, jI (x4 + 1), jI r1] [] h2)) ∧ (¬ r1 ≤ x3 → (j_rg (x4 + 1)) ∧ (WV Sx G M_X7_atOnce Q 18 [jR 0, jI x1, jI x4, jI r1, jI (x4 + 1), jI r1] [] h2))))) :
    WV Sx G M_X7_atOnce Q 18 [jR 0, jI x1, jI x2, jI x3, jI x4, u5] [] h := by
  refine s_iload (pc := 18) dX7_atOnce_18 rfl ?_
  refine s_bipush (pc := 20) dX7_atOnce_20 rfl (j_cst rfl) ?_
  refine s_icmp_gt (pc := 22) (tgt := 54) dX7_atOnce_22 (by decide) (fun hc => ?_) (fun hc => ?_)
  · have H := H.1 hc
    refine s_iload_n (pc := 54) dX7_atOnce_54 rfl ?_
    refine s_if_ne (pc := 55) (tgt := 62) dX7_atOnce_55 (by decide) (fun hc => ?_) (fun hc => ?_)
    · have H := H.2 hc
      refine s_iload_n (pc := 62) dX7_atOnce_62 rfl ?_
      exact s_iret dX7_atOnce_63 rfl H
    · have H := H.1 hc
      refine s_iload_n (pc := 58) dX7_atOnce_58 rfl ?_
      refine s_goto (pc := 59) (tgt := 63) dX7_atOnce_59 (by decide) ?_
      exact s_iret dX7_atOnce_63 rfl H
  · have H := H.2 hc
    refine s_aload_n (pc := 25) dX7_atOnce_25 rfl ?_
    refine s_getr (pc := 26) dX7_atOnce_26 fl_X7_16 cSx_0 rfl ?_
    refine s_iload (pc := 29) dX7_atOnce_29 rfl ?_
    obtain ⟨post, hct, H⟩ := H
    refine s_callV (pc := 31) (as := [jI x4]) (st := []) (by exact dX7_atOnce_31) mv_X7_229 ⟨rfl, rfl, Nat.le_of_ble_eq_true rfl, Nat.le_of_ble_eq_true rfl⟩ cSx_2 rfl rfl (Nat.le_of_ble_eq_true rfl) _ rfl hct (fun r1 h2 hp => ?_)
    obtain ⟨r1, rfl, hp⟩ := hp
    have H := H r1 h2 hp
    show WV _ _ _ _ 34 [jR 0, jI x1, jI x2, jI x3, jI x4, u5] [jI r1] h2
    refine s_istore (pc := 34) (lv' := [jR 0, jI x1, jI x2, jI x3, jI x4, jI r1]) dX7_atOnce_34 (by decide) rfl ?_
    refine s_iload (pc := 36) dX7_atOnce_36 rfl ?_
    refine s_iload_n (pc := 38) dX7_atOnce_38 rfl ?_
    refine s_icmp_le (pc := 39) (tgt := 48) dX7_atOnce_39 (by decide) (fun hc => ?_) (fun hc => ?_)
    · have H := H.1 hc
      obtain ⟨k3, H⟩ := H
      refine s_iinc (pc := 48) (lv' := [jR 0, jI x1, jI x2, jI x3, jI (x4 + 1), jI r1]) dX7_atOnce_48 rfl (by decide) k3 rfl ?_
      refine s_goto (pc := 51) (tgt := 18) dX7_atOnce_51 (by decide) ?_
      exact H
    · have H := H.2 hc
      refine s_iload (pc := 42) dX7_atOnce_42 rfl ?_
      refine s_istore_n (pc := 44) (lv' := [jR 0, jI x1, jI x2, jI r1, jI x4, jI r1]) dX7_atOnce_44 (by decide) rfl ?_
      refine s_iload (pc := 45) dX7_atOnce_45 rfl ?_
      refine s_istore_n (pc := 47) (lv' := [jR 0, jI x1, jI x4, jI r1, jI x4, jI r1]) dX7_atOnce_47 (by decide) rfl ?_
      obtain ⟨k4, H⟩ := H
      refine s_iinc (pc := 48) (lv' := [jR 0, jI x1, jI x4, jI r1, jI (x4 + 1), jI r1]) dX7_atOnce_48 rfl (by decide) k4 rfl ?_
      refine s_goto (pc := 51) (tgt := 18) dX7_atOnce_51 (by decide) ?_
      exact H
theorem en_X7_under_0 {x1 : Int} {h : jH} {post : jQ} (k : ∀ G, WV Sx G M_X7_under post 0 [jR 0, jI x1] [] h) : CT Sx M_X7_under [jR 0, jI x1] h post := CT.of (by decide +kernel) (by simp [j_un]) (Nat.le_of_ble_eq_true rfl) _ rfl k
set_option maxRecDepth 20000 in
theorem vc_X7_under_0_0 {G : jG} {Q : jQ} {x1 : Int} {h : jH}
    (H : ∃ post : Int → jH → Prop, CT Sx M_X6_hasCall [jR 2, jI x1] h (jPi post) ∧ ∀ (r1 : Int) (h2 : jH), post r1 h2 → ((r1 = 0 → Q (some (jI (-1))) h2) ∧ (¬ r1 = 0 → ∃ post : Int → jH → Prop, CT Sx M_X2_crossedBy [jR 17, jI x1] h2 (jPi post) ∧ ∀ (r3 : Int) (h4 : jH), post r3 h4 → (Q (some (jI r3)) h4)))) :
    WV Sx G M_X7_under Q 0 [jR 0, jI x1] [] h := by
  refine s_aload_n (pc := 0) dX7_under_0 rfl ?_
  refine s_getr (pc := 1) dX7_under_1 fl_X7_16 cSx_0 rfl ?_
  refine s_iload_n (pc := 4) dX7_under_4 rfl ?_
  obtain ⟨post, hct, H⟩ := H
  refine s_callV (pc := 5) (as := [jI x1]) (st := []) (by exact dX7_under_5) mv_X7_107 ⟨rfl, rfl, Nat.le_of_ble_eq_true rfl, Nat.le_of_ble_eq_true rfl⟩ cSx_2 rfl rfl (Nat.le_of_ble_eq_true rfl) _ rfl hct (fun r1 h2 hp => ?_)
  obtain ⟨r1, rfl, hp⟩ := hp
  have H := H r1 h2 hp
  show WV _ _ _ _ 8 [jR 0, jI x1] [jI r1] h2
  refine s_if_ne (pc := 8) (tgt := 13) dX7_under_8 (by decide) (fun hc => ?_) (fun hc => ?_)
  · have H := H.2 hc
    refine s_aload_n (pc := 13) dX7_under_13 rfl ?_
    refine s_getr (pc := 14) dX7_under_14 fl_X7_34 cSx_0 rfl ?_
    refine s_iload_n (pc := 17) dX7_under_17 rfl ?_
    obtain ⟨post, hct, H⟩ := H
    refine s_callV (pc := 18) (as := [jI x1]) (st := []) (by exact dX7_under_18) mv_X7_232 ⟨rfl, rfl, Nat.le_of_ble_eq_true rfl, Nat.le_of_ble_eq_true rfl⟩ cSx_17 rfl rfl (Nat.le_of_ble_eq_true rfl) _ rfl hct (fun r3 h4 hp => ?_)
    obtain ⟨r3, rfl, hp⟩ := hp
    have H := H r3 h4 hp
    show WV _ _ _ _ 21 [jR 0, jI x1] [jI r3] h4
    exact s_iret dX7_under_21 rfl H
  · have H := H.1 hc
    refine s_iconst (pc := 11) dX7_under_11 (j_cst rfl) ?_
    exact s_iret dX7_under_12 rfl H
theorem en_X7_commonDivisor {x0 : Int} {h : jH} {post : jQ} (k : ∀ G, WV Sx G M_X7_commonDivisor post 0 [jI x0, jU] [] h) : CT Sx M_X7_commonDivisor [jI x0] h post := CT.of (by decide +kernel) (by simp [j_un]) (Nat.le_of_ble_eq_true rfl) _ rfl k
set_option maxRecDepth 20000 in
theorem vc_X7_commonDivisor_0 {G : jG} {Q : jQ} {x0 : Int} {h : jH}
    (H : WV Sx G M_X7_commonDivisor Q 3 [jI x0, jI 10] [] h) :
    WV Sx G M_X7_commonDivisor Q 0 [jI x0, jU] [] h := by
  refine s_bipush (pc := 0) dX7_commonDivisor_0 rfl (j_cst rfl) ?_
  refine s_istore_n (pc := 2) (lv' := [jI x0, jI 10]) dX7_commonDivisor_2 (by decide) rfl ?_
  exact H
set_option maxRecDepth 20000 in
theorem vc_X7_commonDivisor_3 {G : jG} {Q : jQ} {x0 x1 : Int} {h : jH}
    (H : (x1 ≤ 1 → Q (some (jI 1)) h) ∧ (¬ x1 ≤ 1 → (0 < x1) ∧ (((Int.tmod x0 x1) = 0 → ((Int.tmod 10 x1) = 0 → Q (some (jI x1)) h) ∧ (¬ (Int.tmod 10 x1) = 0 → (j_rg (x1 + (-1))) ∧ (WV Sx G M_X7_commonDivisor Q 3 [jI x0, jI (x1 + (-1))] [] h))) ∧ (¬ (Int.tmod x0 x1) = 0 → (j_rg (x1 + (-1))) ∧ (WV Sx G M_X7_commonDivisor Q 3 [jI x0, jI (x1 + (-1))] [] h))))) :
    WV Sx G M_X7_commonDivisor Q 3 [jI x0, jI x1] [] h := by
  refine s_iload_n (pc := 3) dX7_commonDivisor_3 rfl ?_
  refine s_iconst (pc := 4) dX7_commonDivisor_4 (j_cst rfl) ?_
  refine s_icmp_le (pc := 5) (tgt := 29) dX7_commonDivisor_5 (by decide) (fun hc => ?_) (fun hc => ?_)
  · have H := H.1 hc
    refine s_iconst (pc := 29) dX7_commonDivisor_29 (j_cst rfl) ?_
    exact s_iret dX7_commonDivisor_30 rfl H
  · have H := H.2 hc
    refine s_iload_n (pc := 8) dX7_commonDivisor_8 rfl ?_
    refine s_iload_n (pc := 9) dX7_commonDivisor_9 rfl ?_
    obtain ⟨k1, H⟩ := H
    refine s_irem (pc := 10) dX7_commonDivisor_10 k1 ?_
    refine s_if_ne (pc := 11) (tgt := 23) dX7_commonDivisor_11 (by decide) (fun hc => ?_) (fun hc => ?_)
    · have H := H.2 hc
      obtain ⟨k2, H⟩ := H
      refine s_iinc (pc := 23) (lv' := [jI x0, jI (x1 + (-1))]) dX7_commonDivisor_23 rfl (by decide) k2 rfl ?_
      refine s_goto (pc := 26) (tgt := 3) dX7_commonDivisor_26 (by decide) ?_
      exact H
    · have H := H.1 hc
      refine s_bipush (pc := 14) dX7_commonDivisor_14 rfl (j_cst rfl) ?_
      refine s_iload_n (pc := 16) dX7_commonDivisor_16 rfl ?_
      refine s_irem (pc := 17) dX7_commonDivisor_17 k1 ?_
      refine s_if_ne (pc := 18) (tgt := 23) dX7_commonDivisor_18 (by decide) (fun hc => ?_) (fun hc => ?_)
      · have H := H.2 hc
        obtain ⟨k3, H⟩ := H
        refine s_iinc (pc := 23) (lv' := [jI x0, jI (x1 + (-1))]) dX7_commonDivisor_23 rfl (by decide) k3 rfl ?_
        refine s_goto (pc := 26) (tgt := 3) dX7_commonDivisor_26 (by decide) ?_
        exact H
      · have H := H.1 hc
        refine s_iload_n (pc := 21) dX7_commonDivisor_21 rfl ?_
        exact s_iret dX7_commonDivisor_22 rfl H
theorem en_X7_tenthsFree_0 {x1 x2 x3 : Int} {h : jH} {post : jQ} (k : ∀ G, WV Sx G M_X7_tenthsFree post 0 [jR 0, jI x1, jI x2, jI x3] [] h) : CT Sx M_X7_tenthsFree [jR 0, jI x1, jI x2, jI x3] h post := CT.of (by decide +kernel) (by simp [j_un]) (Nat.le_of_ble_eq_true rfl) _ rfl k
set_option maxRecDepth 20000 in
theorem vc_X7_tenthsFree_0_0 {G : jG} {Q : jQ} {x1 x2 x3 : Int} {h : jH}
    (H : ∃ post : Int → jH → Prop, CT Sx M_X6_hasCall [jR 2, jI x1] h (jPi post) ∧ ∀ (r1 : Int) (h2 : jH), post r1 h2 → ((r1 = 0 → Q (some (jI 10)) h2) ∧ (¬ r1 = 0 → (0 ≤ x1 ∧ x1 < 7) ∧ ((j_rg (2 * (h2.1 20 (Int.toNat x1)))) ∧ ((x3 < (2 * (h2.1 20 (Int.toNat x1))) → (x3 < (h2.1 20 (Int.toNat x1)) → Q (some (jI 0)) h2) ∧ (¬ x3 < (h2.1 20 (Int.toNat x1)) → (j_rg (10 - x2)) ∧ (Q (some (jI (10 - x2))) h2))) ∧ (¬ x3 < (2 * (h2.1 20 (Int.toNat x1))) → Q (some (jI 10)) h2)))))) :
    WV Sx G M_X7_tenthsFree Q 0 [jR 0, jI x1, jI x2, jI x3] [] h := by
  refine s_aload_n (pc := 0) dX7_tenthsFree_0 rfl ?_
  refine s_getr (pc := 1) dX7_tenthsFree_1 fl_X7_16 cSx_0 rfl ?_
  refine s_iload_n (pc := 4) dX7_tenthsFree_4 rfl ?_
  obtain ⟨post, hct, H⟩ := H
  refine s_callV (pc := 5) (as := [jI x1]) (st := []) (by exact dX7_tenthsFree_5) mv_X7_107 ⟨rfl, rfl, Nat.le_of_ble_eq_true rfl, Nat.le_of_ble_eq_true rfl⟩ cSx_2 rfl rfl (Nat.le_of_ble_eq_true rfl) _ rfl hct (fun r1 h2 hp => ?_)
  obtain ⟨r1, rfl, hp⟩ := hp
  have H := H r1 h2 hp
  show WV _ _ _ _ 8 [jR 0, jI x1, jI x2, jI x3] [jI r1] h2
  refine s_if_eq (pc := 8) (tgt := 26) dX7_tenthsFree_8 (by decide) (fun hc => ?_) (fun hc => ?_)
  · have H := H.1 hc
    refine s_bipush (pc := 26) dX7_tenthsFree_26 rfl (j_cst rfl) ?_
    exact s_iret dX7_tenthsFree_28 rfl H
  · have H := H.2 hc
    refine s_iload_n (pc := 11) dX7_tenthsFree_11 rfl ?_
    refine s_iconst (pc := 12) dX7_tenthsFree_12 (j_cst rfl) ?_
    refine s_aload_n (pc := 13) dX7_tenthsFree_13 rfl ?_
    refine s_getr (pc := 14) dX7_tenthsFree_14 fl_X7_34 cSx_0 rfl ?_
    refine s_getr (pc := 17) dX7_tenthsFree_17 fl_X7_128 cSx_17 rfl ?_
    refine s_iload_n (pc := 20) dX7_tenthsFree_20 rfl ?_
    obtain ⟨k3, H⟩ := H
    refine s_iald (pc := 21) (x := h2.1 20 (Int.toNat x1)) dX7_tenthsFree_21 cSx_20 k3 rfl ?_
    obtain ⟨k4, H⟩ := H
    refine s_imul (pc := 22) dX7_tenthsFree_22 k4 ?_
    refine s_icmp_lt (pc := 23) (tgt := 29) dX7_tenthsFree_23 (by decide) (fun hc => ?_) (fun hc => ?_)
    · have H := H.1 hc
      refine s_iload_n (pc := 29) dX7_tenthsFree_29 rfl ?_
      refine s_aload_n (pc := 30) dX7_tenthsFree_30 rfl ?_
      refine s_getr (pc := 31) dX7_tenthsFree_31 fl_X7_34 cSx_0 rfl ?_
      refine s_getr (pc := 34) dX7_tenthsFree_34 fl_X7_128 cSx_17 rfl ?_
      refine s_iload_n (pc := 37) dX7_tenthsFree_37 rfl ?_
      refine s_iald (pc := 38) (x := h2.1 20 (Int.toNat x1)) dX7_tenthsFree_38 cSx_20 k3 rfl ?_
      refine s_icmp_lt (pc := 39) (tgt := 49) dX7_tenthsFree_39 (by decide) (fun hc => ?_) (fun hc => ?_)
      · have H := H.1 hc
        refine s_iconst (pc := 49) dX7_tenthsFree_49 (j_cst rfl) ?_
        exact s_iret dX7_tenthsFree_50 rfl H
      · have H := H.2 hc
        refine s_bipush (pc := 42) dX7_tenthsFree_42 rfl (j_cst rfl) ?_
        refine s_iload_n (pc := 44) dX7_tenthsFree_44 rfl ?_
        obtain ⟨k5, H⟩ := H
        refine s_isub (pc := 45) dX7_tenthsFree_45 k5 ?_
        refine s_goto (pc := 46) (tgt := 50) dX7_tenthsFree_46 (by decide) ?_
        exact s_iret dX7_tenthsFree_50 rfl H
    · have H := H.2 hc
      refine s_bipush (pc := 26) dX7_tenthsFree_26 rfl (j_cst rfl) ?_
      exact s_iret dX7_tenthsFree_28 rfl H
theorem en_X7_odds_0 {x1 x2 x3 x4 : Int} {h : jH} {post : jQ} (k : ∀ G, WV Sx G M_X7_odds post 0 [jR 0, jI x1, jI x2, jI x3, jI x4, jU, jU] [] h) : CT Sx M_X7_odds [jR 0, jI x1, jI x2, jI x3, jI x4] h post := CT.of (by decide +kernel) (by simp [j_un]) (Nat.le_of_ble_eq_true rfl) _ rfl k
set_option maxRecDepth 20000 in
theorem vc_X7_odds_0_0 {G : jG} {Q : jQ} {x1 x2 x3 x4 : Int} {h : jH}
    (H : ∃ post : Int → jH → Prop, CT Sx M_X6_hasLine [jR 2, jI x1] h (jPi post) ∧ ∀ (r1 : Int) (h2 : jH), post r1 h2 → ((r1 = 0 → Q (some (jI (-1))) h2) ∧ (¬ r1 = 0 → (x2 < 0 → Q (some (jI (-1))) h2) ∧ (¬ x2 < 0 → (10 < x2 → Q (some (jI (-1))) h2) ∧ (¬ 10 < x2 → (x3 < 0 → Q (some (jI (-1))) h2) ∧ (¬ x3 < 0 → (40 < x3 → Q (some (jI (-1))) h2) ∧ (¬ 40 < x3 → (x4 < 0 → Q (some (jI (-1))) h2) ∧ (¬ x4 < 0 → (x4 ≤ 1 → ∃ post : Int → jH → Prop, CT Sx M_X2_engagedBy [jR 17, jI x1] h2 (jPi post) ∧ ∀ (r3 : Int) (h4 : jH), post r3 h4 → (∃ post : Int → jH → Prop, CT Sx M_X7_tenthsFree [jR 0, jI r3, jI x2, jI x3] h4 (jPi post) ∧ ∀ (r5 : Int) (h6 : jH), post r5 h6 → (∃ post : Int → jH → Prop, CT Sx M_X7_commonDivisor [jI r5] h6 (jPi post) ∧ ∀ (r7 : Int) (h8 : jH), post r7 h8 → ((x4 = 0 → (0 < r7) ∧ (Q (some (jI (Int.tdiv r5 r7))) h8)) ∧ (¬ x4 = 0 → (0 < r7) ∧ (Q (some (jI (Int.tdiv 10 r7))) h8)))))) ∧ (¬ x4 ≤ 1 → Q (some (jI (-1))) h2))))))))) :
    WV Sx G M_X7_odds Q 0 [jR 0, jI x1, jI x2, jI x3, jI x4, jU, jU] [] h := by
  refine s_aload_n (pc := 0) dX7_odds_0 rfl ?_
  refine s_getr (pc := 1) dX7_odds_1 fl_X7_16 cSx_0 rfl ?_
  refine s_iload_n (pc := 4) dX7_odds_4 rfl ?_
  obtain ⟨post, hct, H⟩ := H
  refine s_callV (pc := 5) (as := [jI x1]) (st := []) (by exact dX7_odds_5) mv_X7_97 ⟨rfl, rfl, Nat.le_of_ble_eq_true rfl, Nat.le_of_ble_eq_true rfl⟩ cSx_2 rfl rfl (Nat.le_of_ble_eq_true rfl) _ rfl hct (fun r1 h2 hp => ?_)
  obtain ⟨r1, rfl, hp⟩ := hp
  have H := H r1 h2 hp
  show WV _ _ _ _ 8 [jR 0, jI x1, jI x2, jI x3, jI x4, jU, jU] [jI r1] h2
  refine s_if_eq (pc := 8) (tgt := 42) dX7_odds_8 (by decide) (fun hc => ?_) (fun hc => ?_)
  · have H := H.1 hc
    refine s_iconst (pc := 42) dX7_odds_42 (j_cst rfl) ?_
    exact s_iret dX7_odds_43 rfl H
  · have H := H.2 hc
    refine s_iload_n (pc := 11) dX7_odds_11 rfl ?_
    refine s_if_lt (pc := 12) (tgt := 42) dX7_odds_12 (by decide) (fun hc => ?_) (fun hc => ?_)
    · have H := H.1 hc
      refine s_iconst (pc := 42) dX7_odds_42 (j_cst rfl) ?_
      exact s_iret dX7_odds_43 rfl H
    · have H := H.2 hc
      refine s_iload_n (pc := 15) dX7_odds_15 rfl ?_
      refine s_bipush (pc := 16) dX7_odds_16 rfl (j_cst rfl) ?_
      refine s_icmp_gt (pc := 18) (tgt := 42) dX7_odds_18 (by decide) (fun hc => ?_) (fun hc => ?_)
      · have H := H.1 hc
        refine s_iconst (pc := 42) dX7_odds_42 (j_cst rfl) ?_
        exact s_iret dX7_odds_43 rfl H
      · have H := H.2 hc
        refine s_iload_n (pc := 21) dX7_odds_21 rfl ?_
        refine s_if_lt (pc := 22) (tgt := 42) dX7_odds_22 (by decide) (fun hc => ?_) (fun hc => ?_)
        · have H := H.1 hc
          refine s_iconst (pc := 42) dX7_odds_42 (j_cst rfl) ?_
          exact s_iret dX7_odds_43 rfl H
        · have H := H.2 hc
          refine s_iload_n (pc := 25) dX7_odds_25 rfl ?_
          refine s_bipush (pc := 26) dX7_odds_26 rfl (j_cst rfl) ?_
          refine s_icmp_gt (pc := 28) (tgt := 42) dX7_odds_28 (by decide) (fun hc => ?_) (fun hc => ?_)
          · have H := H.1 hc
            refine s_iconst (pc := 42) dX7_odds_42 (j_cst rfl) ?_
            exact s_iret dX7_odds_43 rfl H
          · have H := H.2 hc
            refine s_iload (pc := 31) dX7_odds_31 rfl ?_
            refine s_if_lt (pc := 33) (tgt := 42) dX7_odds_33 (by decide) (fun hc => ?_) (fun hc => ?_)
            · have H := H.1 hc
              refine s_iconst (pc := 42) dX7_odds_42 (j_cst rfl) ?_
              exact s_iret dX7_odds_43 rfl H
            · have H := H.2 hc
              refine s_iload (pc := 36) dX7_odds_36 rfl ?_
              refine s_iconst (pc := 38) dX7_odds_38 (j_cst rfl) ?_
              refine s_icmp_le (pc := 39) (tgt := 44) dX7_odds_39 (by decide) (fun hc => ?_) (fun hc => ?_)
              · have H := H.1 hc
                refine s_aload_n (pc := 44) dX7_odds_44 rfl ?_
                refine s_aload_n (pc := 45) dX7_odds_45 rfl ?_
                refine s_getr (pc := 46) dX7_odds_46 fl_X7_34 cSx_0 rfl ?_
                refine s_iload_n (pc := 49) dX7_odds_49 rfl ?_
                obtain ⟨post, hct, H⟩ := H
                refine s_callV (pc := 50) (as := [jI x1]) (st := [jR 0]) (by exact dX7_odds_50) mv_X7_104 ⟨rfl, rfl, Nat.le_of_ble_eq_true rfl, Nat.le_of_ble_eq_true rfl⟩ cSx_17 rfl rfl (Nat.le_of_ble_eq_true rfl) _ rfl hct (fun r3 h4 hp => ?_)
                obtain ⟨r3, rfl, hp⟩ := hp
                have H := H r3 h4 hp
                show WV _ _ _ _ 53 [jR 0, jI x1, jI x2, jI x3, jI x4, jU, jU] [jI r3, jR 0] h4
                refine s_iload_n (pc := 53) dX7_odds_53 rfl ?_
                refine s_iload_n (pc := 54) dX7_odds_54 rfl ?_
                obtain ⟨post, hct, H⟩ := H
                refine s_callV (pc := 55) (as := [jI r3, jI x2, jI x3]) (st := []) (by exact dX7_odds_55) mv_X7_235 ⟨rfl, rfl, Nat.le_of_ble_eq_true rfl, Nat.le_of_ble_eq_true rfl⟩ cSx_0 rfl rfl (Nat.le_of_ble_eq_true rfl) _ rfl hct (fun r5 h6 hp => ?_)
                obtain ⟨r5, rfl, hp⟩ := hp
                have H := H r5 h6 hp
                show WV _ _ _ _ 58 [jR 0, jI x1, jI x2, jI x3, jI x4, jU, jU] [jI r5] h6
                refine s_istore (pc := 58) (lv' := [jR 0, jI x1, jI x2, jI x3, jI x4, jI r5, jU]) dX7_odds_58 (by decide) rfl ?_
                refine s_iload (pc := 60) dX7_odds_60 rfl ?_
                obtain ⟨post, hct, H⟩ := H
                refine s_callS (pc := 62) (as := [jI r5]) (st := []) (by exact dX7_odds_62) ms_X7_239 ⟨rfl, rfl, Nat.le_of_ble_eq_true rfl, Nat.le_of_ble_eq_true rfl⟩ (Nat.le_of_ble_eq_true rfl) _ rfl hct (fun r7 h8 hp => ?_)
                obtain ⟨r7, rfl, hp⟩ := hp
                have H := H r7 h8 hp
                show WV _ _ _ _ 65 [jR 0, jI x1, jI x2, jI x3, jI x4, jI r5, jU] [jI r7] h8
                refine s_istore (pc := 65) (lv' := [jR 0, jI x1, jI x2, jI x3, jI x4, jI r5, jI r7]) dX7_odds_65 (by decide) rfl ?_
                refine s_iload (pc := 67) dX7_odds_67 rfl ?_
                refine s_if_ne (pc := 69) (tgt := 77) dX7_odds_69 (by decide) (fun hc => ?_) (fun hc => ?_)
                · have H := H.2 hc
                  refine s_bipush (pc := 77) dX7_odds_77 rfl (j_cst rfl) ?_
                  refine s_iload (pc := 79) dX7_odds_79 rfl ?_
                  obtain ⟨k9, H⟩ := H
                  refine s_idiv (pc := 81) dX7_odds_81 k9 ?_
                  exact s_iret dX7_odds_82 rfl H
                · have H := H.1 hc
                  refine s_iload (pc := 72) dX7_odds_72 rfl ?_
                  refine s_goto (pc := 74) (tgt := 79) dX7_odds_74 (by decide) ?_
                  refine s_iload (pc := 79) dX7_odds_79 rfl ?_
                  obtain ⟨k10, H⟩ := H
                  refine s_idiv (pc := 81) dX7_odds_81 k10 ?_
                  exact s_iret dX7_odds_82 rfl H
              · have H := H.2 hc
                refine s_iconst (pc := 42) dX7_odds_42 (j_cst rfl) ?_
                exact s_iret dX7_odds_43 rfl H
theorem en_X7_asCall_0 {x1 : Int} {h : jH} {post : jQ} (k : ∀ G, WV Sx G M_X7_asCall post 0 [jR 0, jI x1] [] h) : CT Sx M_X7_asCall [jR 0, jI x1] h post := CT.of (by decide +kernel) (by simp [j_un]) (Nat.le_of_ble_eq_true rfl) _ rfl k
set_option maxRecDepth 20000 in
theorem vc_X7_asCall_0_0 {G : jG} {Q : jQ} {x1 : Int} {h : jH}
    (H : (0 ≤ x1 ∧ x1 < 7) ∧ (Q (some (jI (h.1 8 (Int.toNat x1)))) (j_upl h 0 ((h.2 0) + 1)))) :
    WV Sx G M_X7_asCall Q 0 [jR 0, jI x1] [] h := by
  refine s_aload_n (pc := 0) dX7_asCall_0 rfl ?_
  refine s_dup (pc := 1) dX7_asCall_1 rfl ?_
  refine s_getl (pc := 2) (x := h.2 0) dX7_asCall_2 fl_X7_77 cSx_0 rfl rfl ?_
  refine s_lconst (pc := 5) (v := 1) dX7_asCall_5 rfl ?_
  refine s_ladd (pc := 6) dX7_asCall_6 ?_
  refine s_putl (pc := 7) dX7_asCall_7 fp_X7_77 cSx_0 rfl (fun i hi => j_one_Sx i hi) ?_
  refine s_aload_n (pc := 10) dX7_asCall_10 rfl ?_
  refine s_getr (pc := 11) dX7_asCall_11 fl_X7_16 cSx_0 rfl ?_
  refine s_getr (pc := 14) dX7_asCall_14 fl_X7_122 cSx_2 rfl ?_
  refine s_iload_n (pc := 17) dX7_asCall_17 rfl ?_
  obtain ⟨k1, H⟩ := H
  refine s_iald (pc := 18) (x := h.1 8 (Int.toNat x1)) dX7_asCall_18 cSx_8 k1 rfl ?_
  exact s_iret dX7_asCall_19 rfl H
theorem en_X7_asDoctor_0 {x1 : Int} {h : jH} {post : jQ} (k : ∀ G, WV Sx G M_X7_asDoctor post 0 [jR 0, jI x1] [] h) : CT Sx M_X7_asDoctor [jR 0, jI x1] h post := CT.of (by decide +kernel) (by simp [j_un]) (Nat.le_of_ble_eq_true rfl) _ rfl k
set_option maxRecDepth 20000 in
theorem vc_X7_asDoctor_0_0 {G : jG} {Q : jQ} {x1 : Int} {h : jH}
    (H : ∃ post : Int → jH → Prop, CT Sx M_X7_asCall [jR 0, jI x1] (j_upl h 0 ((h.2 0) + 10)) (jPi post) ∧ ∀ (r1 : Int) (h2 : jH), post r1 h2 → ((0 ≤ x1 ∧ x1 < 7) ∧ ((j_rg (r1 + (h2.1 21 (Int.toNat x1)))) ∧ (Q (some (jI (r1 + (h2.1 21 (Int.toNat x1))))) h2)))) :
    WV Sx G M_X7_asDoctor Q 0 [jR 0, jI x1] [] h := by
  refine s_aload_n (pc := 0) dX7_asDoctor_0 rfl ?_
  refine s_dup (pc := 1) dX7_asDoctor_1 rfl ?_
  refine s_getl (pc := 2) (x := h.2 0) dX7_asDoctor_2 fl_X7_77 cSx_0 rfl rfl ?_
  refine s_ldc2 (pc := 5) dX7_asDoctor_5 kl_X7_261 ?_
  refine s_ladd (pc := 8) dX7_asDoctor_8 ?_
  refine s_putl (pc := 9) dX7_asDoctor_9 fp_X7_77 cSx_0 rfl (fun i hi => j_one_Sx i hi) ?_
  refine s_aload_n (pc := 12) dX7_asDoctor_12 rfl ?_
  refine s_iload_n (pc := 13) dX7_asDoctor_13 rfl ?_
  obtain ⟨post, hct, H⟩ := H
  refine s_callV (pc := 14) (as := [jI x1]) (st := []) (by exact dX7_asDoctor_14) mv_X7_243 ⟨rfl, rfl, Nat.le_of_ble_eq_true rfl, Nat.le_of_ble_eq_true rfl⟩ cSx_0 rfl rfl (Nat.le_of_ble_eq_true rfl) _ rfl hct (fun r1 h2 hp => ?_)
  obtain ⟨r1, rfl, hp⟩ := hp
  have H := H r1 h2 hp
  show WV _ _ _ _ 17 [jR 0, jI x1] [jI r1] h2
  refine s_aload_n (pc := 17) dX7_asDoctor_17 rfl ?_
  refine s_getr (pc := 18) dX7_asDoctor_18 fl_X7_34 cSx_0 rfl ?_
  refine s_getr (pc := 21) dX7_asDoctor_21 fl_X7_131 cSx_17 rfl ?_
  refine s_iload_n (pc := 24) dX7_asDoctor_24 rfl ?_
  obtain ⟨k3, H⟩ := H
  refine s_iald (pc := 25) (x := h2.1 21 (Int.toNat x1)) dX7_asDoctor_25 cSx_21 k3 rfl ?_
  obtain ⟨k4, H⟩ := H
  refine s_iadd (pc := 26) dX7_asDoctor_26 k4 ?_
  exact s_iret dX7_asDoctor_27 rfl H
theorem en_X7_asFire_0 {x1 : Int} {h : jH} {post : jQ} (k : ∀ G, WV Sx G M_X7_asFire post 0 [jR 0, jI x1] [] h) : CT Sx M_X7_asFire [jR 0, jI x1] h post := CT.of (by decide +kernel) (by simp [j_un]) (Nat.le_of_ble_eq_true rfl) _ rfl k
set_option maxRecDepth 20000 in
theorem vc_X7_asFire_0_0 {G : jG} {Q : jQ} {x1 : Int} {h : jH}
    (H : ∃ post : Int → jH → Prop, CT Sx M_X7_asDoctor [jR 0, jI x1] (j_upl h 0 ((h.2 0) + 1000)) (jPi post) ∧ ∀ (r1 : Int) (h2 : jH), post r1 h2 → ((j_rg (2 * r1)) ∧ (Q (some (jI (2 * r1))) h2))) :
    WV Sx G M_X7_asFire Q 0 [jR 0, jI x1] [] h := by
  refine s_aload_n (pc := 0) dX7_asFire_0 rfl ?_
  refine s_dup (pc := 1) dX7_asFire_1 rfl ?_
  refine s_getl (pc := 2) (x := h.2 0) dX7_asFire_2 fl_X7_77 cSx_0 rfl rfl ?_
  refine s_ldc2 (pc := 5) dX7_asFire_5 kl_X7_265 ?_
  refine s_ladd (pc := 8) dX7_asFire_8 ?_
  refine s_putl (pc := 9) dX7_asFire_9 fp_X7_77 cSx_0 rfl (fun i hi => j_one_Sx i hi) ?_
  refine s_iconst (pc := 12) dX7_asFire_12 (j_cst rfl) ?_
  refine s_aload_n (pc := 13) dX7_asFire_13 rfl ?_
  refine s_iload_n (pc := 14) dX7_asFire_14 rfl ?_
  obtain ⟨post, hct, H⟩ := H
  refine s_callV (pc := 15) (as := [jI x1]) (st := [jI 2]) (by exact dX7_asFire_15) mv_X7_246 ⟨rfl, rfl, Nat.le_of_ble_eq_true rfl, Nat.le_of_ble_eq_true rfl⟩ cSx_0 rfl rfl (Nat.le_of_ble_eq_true rfl) _ rfl hct (fun r1 h2 hp => ?_)
  obtain ⟨r1, rfl, hp⟩ := hp
  have H := H r1 h2 hp
  show WV _ _ _ _ 18 [jR 0, jI x1] [jI r1, jI 2] h2
  obtain ⟨k3, H⟩ := H
  refine s_imul (pc := 18) dX7_asFire_18 k3 ?_
  exact s_iret dX7_asFire_19 rfl H
theorem en_X7_asGossip_0 {x1 : Int} {h : jH} {post : jQ} (k : ∀ G, WV Sx G M_X7_asGossip post 0 [jR 0, jI x1] [] h) : CT Sx M_X7_asGossip [jR 0, jI x1] h post := CT.of (by decide +kernel) (by simp [j_un]) (Nat.le_of_ble_eq_true rfl) _ rfl k
set_option maxRecDepth 20000 in
theorem vc_X7_asGossip_0_0 {G : jG} {Q : jQ} {x1 : Int} {h : jH}
    (H : ∃ post : Int → jH → Prop, CT Sx M_X7_asCall [jR 0, jI x1] (j_upl h 0 ((h.2 0) + 100)) (jPi post) ∧ ∀ (r1 : Int) (h2 : jH), post r1 h2 → ((0 ≤ x1 ∧ x1 < 7) ∧ ((j_rg (r1 - (h2.1 7 (Int.toNat x1)))) ∧ (Q (some (jI (r1 - (h2.1 7 (Int.toNat x1))))) h2)))) :
    WV Sx G M_X7_asGossip Q 0 [jR 0, jI x1] [] h := by
  refine s_aload_n (pc := 0) dX7_asGossip_0 rfl ?_
  refine s_dup (pc := 1) dX7_asGossip_1 rfl ?_
  refine s_getl (pc := 2) (x := h.2 0) dX7_asGossip_2 fl_X7_77 cSx_0 rfl rfl ?_
  refine s_ldc2 (pc := 5) dX7_asGossip_5 kl_X7_263 ?_
  refine s_ladd (pc := 8) dX7_asGossip_8 ?_
  refine s_putl (pc := 9) dX7_asGossip_9 fp_X7_77 cSx_0 rfl (fun i hi => j_one_Sx i hi) ?_
  refine s_aload_n (pc := 12) dX7_asGossip_12 rfl ?_
  refine s_iload_n (pc := 13) dX7_asGossip_13 rfl ?_
  obtain ⟨post, hct, H⟩ := H
  refine s_callV (pc := 14) (as := [jI x1]) (st := []) (by exact dX7_asGossip_14) mv_X7_243 ⟨rfl, rfl, Nat.le_of_ble_eq_true rfl, Nat.le_of_ble_eq_true rfl⟩ cSx_0 rfl rfl (Nat.le_of_ble_eq_true rfl) _ rfl hct (fun r1 h2 hp => ?_)
  obtain ⟨r1, rfl, hp⟩ := hp
  have H := H r1 h2 hp
  show WV _ _ _ _ 17 [jR 0, jI x1] [jI r1] h2
  refine s_aload_n (pc := 17) dX7_asGossip_17 rfl ?_
  refine s_getr (pc := 18) dX7_asGossip_18 fl_X7_16 cSx_0 rfl ?_
  refine s_getr (pc := 21) dX7_asGossip_21 fl_X7_119 cSx_2 rfl ?_
  refine s_iload_n (pc := 24) dX7_asGossip_24 rfl ?_
  obtain ⟨k3, H⟩ := H
  refine s_iald (pc := 25) (x := h2.1 7 (Int.toNat x1)) dX7_asGossip_25 cSx_7 k3 rfl ?_
  obtain ⟨k4, H⟩ := H
  refine s_isub (pc := 26) dX7_asGossip_26 k4 ?_
  exact s_iret dX7_asGossip_27 rfl H
theorem en_X7_asWife_0 {x1 : Int} {h : jH} {post : jQ} (k : ∀ G, WV Sx G M_X7_asWife post 0 [jR 0, jI x1] [] h) : CT Sx M_X7_asWife [jR 0, jI x1] h post := CT.of (by decide +kernel) (by simp [j_un]) (Nat.le_of_ble_eq_true rfl) _ rfl k
set_option maxRecDepth 20000 in
theorem vc_X7_asWife_0_0 {G : jG} {Q : jQ} {x1 : Int} {h : jH}
    (H : ∃ post : Int → jH → Prop, CT Sx M_X7_asGossip [jR 0, jI x1] (j_upl h 0 ((h.2 0) + 10000)) (jPi post) ∧ ∀ (r1 : Int) (h2 : jH), post r1 h2 → ((j_rg (r1 + x1)) ∧ (Q (some (jI (r1 + x1))) h2))) :
    WV Sx G M_X7_asWife Q 0 [jR 0, jI x1] [] h := by
  refine s_aload_n (pc := 0) dX7_asWife_0 rfl ?_
  refine s_dup (pc := 1) dX7_asWife_1 rfl ?_
  refine s_getl (pc := 2) (x := h.2 0) dX7_asWife_2 fl_X7_77 cSx_0 rfl rfl ?_
  refine s_ldc2 (pc := 5) dX7_asWife_5 kl_X7_267 ?_
  refine s_ladd (pc := 8) dX7_asWife_8 ?_
  refine s_putl (pc := 9) dX7_asWife_9 fp_X7_77 cSx_0 rfl (fun i hi => j_one_Sx i hi) ?_
  refine s_aload_n (pc := 12) dX7_asWife_12 rfl ?_
  refine s_iload_n (pc := 13) dX7_asWife_13 rfl ?_
  obtain ⟨post, hct, H⟩ := H
  refine s_callV (pc := 14) (as := [jI x1]) (st := []) (by exact dX7_asWife_14) mv_X7_249 ⟨rfl, rfl, Nat.le_of_ble_eq_true rfl, Nat.le_of_ble_eq_true rfl⟩ cSx_0 rfl rfl (Nat.le_of_ble_eq_true rfl) _ rfl hct (fun r1 h2 hp => ?_)
  obtain ⟨r1, rfl, hp⟩ := hp
  have H := H r1 h2 hp
  show WV _ _ _ _ 17 [jR 0, jI x1] [jI r1] h2
  refine s_iload_n (pc := 17) dX7_asWife_17 rfl ?_
  obtain ⟨k3, H⟩ := H
  refine s_iadd (pc := 18) dX7_asWife_18 k3 ?_
  exact s_iret dX7_asWife_19 rfl H
theorem en_X7_asWrong_0 {x1 : Int} {h : jH} {post : jQ} (k : ∀ G, WV Sx G M_X7_asWrong post 0 [jR 0, jI x1] [] h) : CT Sx M_X7_asWrong [jR 0, jI x1] h post := CT.of (by decide +kernel) (by simp [j_un]) (Nat.le_of_ble_eq_true rfl) _ rfl k
set_option maxRecDepth 20000 in
theorem vc_X7_asWrong_0_0 {G : jG} {Q : jQ} {x1 : Int} {h : jH}
    (H : ∃ post : Int → jH → Prop, CT Sx M_X7_asCall [jR 0, jI x1] (j_upl h 0 ((h.2 0) + 100000)) (jPi post) ∧ ∀ (r1 : Int) (h2 : jH), post r1 h2 → (∃ post : Int → jH → Prop, CT Sx M_X6_apart [jR 2, jI x1, jR 18] h2 (jPi post) ∧ ∀ (r3 : Int) (h4 : jH), post r3 h4 → ((j_rg (r1 + r3)) ∧ (Q (some (jI (r1 + r3))) h4)))) :
    WV Sx G M_X7_asWrong Q 0 [jR 0, jI x1] [] h := by
  refine s_aload_n (pc := 0) dX7_asWrong_0 rfl ?_
  refine s_dup (pc := 1) dX7_asWrong_1 rfl ?_
  refine s_getl (pc := 2) (x := h.2 0) dX7_asWrong_2 fl_X7_77 cSx_0 rfl rfl ?_
  refine s_ldc2 (pc := 5) dX7_asWrong_5 kl_X7_269 ?_
  refine s_ladd (pc := 8) dX7_asWrong_8 ?_
  refine s_putl (pc := 9) dX7_asWrong_9 fp_X7_77 cSx_0 rfl (fun i hi => j_one_Sx i hi) ?_
  refine s_aload_n (pc := 12) dX7_asWrong_12 rfl ?_
  refine s_iload_n (pc := 13) dX7_asWrong_13 rfl ?_
  obtain ⟨post, hct, H⟩ := H
  refine s_callV (pc := 14) (as := [jI x1]) (st := []) (by exact dX7_asWrong_14) mv_X7_243 ⟨rfl, rfl, Nat.le_of_ble_eq_true rfl, Nat.le_of_ble_eq_true rfl⟩ cSx_0 rfl rfl (Nat.le_of_ble_eq_true rfl) _ rfl hct (fun r1 h2 hp => ?_)
  obtain ⟨r1, rfl, hp⟩ := hp
  have H := H r1 h2 hp
  show WV _ _ _ _ 17 [jR 0, jI x1] [jI r1] h2
  refine s_aload_n (pc := 17) dX7_asWrong_17 rfl ?_
  refine s_getr (pc := 18) dX7_asWrong_18 fl_X7_16 cSx_0 rfl ?_
  refine s_iload_n (pc := 21) dX7_asWrong_21 rfl ?_
  refine s_aload_n (pc := 22) dX7_asWrong_22 rfl ?_
  refine s_getr (pc := 23) dX7_asWrong_23 fl_X7_34 cSx_0 rfl ?_
  refine s_getr (pc := 26) dX7_asWrong_26 fl_X7_101 cSx_17 rfl ?_
  obtain ⟨post, hct, H⟩ := H
  refine s_callV (pc := 29) (as := [jI x1, jR 18]) (st := [jI r1]) (by exact dX7_asWrong_29) mv_X7_271 ⟨rfl, rfl, Nat.le_of_ble_eq_true rfl, Nat.le_of_ble_eq_true rfl⟩ cSx_2 rfl rfl (Nat.le_of_ble_eq_true rfl) _ rfl hct (fun r3 h4 hp => ?_)
  obtain ⟨r3, rfl, hp⟩ := hp
  have H := H r3 h4 hp
  show WV _ _ _ _ 32 [jR 0, jI x1] [jI r3, jI r1] h4
  obtain ⟨k5, H⟩ := H
  refine s_iadd (pc := 32) dX7_asWrong_32 k5 ?_
  exact s_iret dX7_asWrong_33 rfl H
theorem en_X7_rate_0 {x1 x2 : Int} {h : jH} {post : jQ} (k : ∀ G, WV Sx G M_X7_rate post 0 [jR 0, jI x1, jI x2] [] h) : CT Sx M_X7_rate [jR 0, jI x1, jI x2] h post := CT.of (by decide +kernel) (by simp [j_un]) (Nat.le_of_ble_eq_true rfl) _ rfl k
set_option maxRecDepth 20000 in
theorem vc_X7_rate_0_0 {G : jG} {Q : jQ} {x1 x2 : Int} {h : jH}
    (H : ∃ post : Int → jH → Prop, CT Sx M_X6_hasCall [jR 2, jI x2] h (jPi post) ∧ ∀ (r1 : Int) (h2 : jH), post r1 h2 → ((r1 = 0 → Q (some (jI (-1000000))) h2) ∧ (¬ r1 = 0 → (x1 = 0 → ∃ post : Int → jH → Prop, CT Sx M_X7_asCall [jR 0, jI x2] h2 (jPi post) ∧ ∀ (r3 : Int) (h4 : jH), post r3 h4 → (Q (some (jI r3)) h4)) ∧ (x1 = 1 → ∃ post : Int → jH → Prop, CT Sx M_X7_asDoctor [jR 0, jI x2] h2 (jPi post) ∧ ∀ (r5 : Int) (h6 : jH), post r5 h6 → (Q (some (jI r5)) h6)) ∧ (x1 = 2 → ∃ post : Int → jH → Prop, CT Sx M_X7_asGossip [jR 0, jI x2] h2 (jPi post) ∧ ∀ (r7 : Int) (h8 : jH), post r7 h8 → (Q (some (jI r7)) h8)) ∧ (x1 = 3 → ∃ post : Int → jH → Prop, CT Sx M_X7_asFire [jR 0, jI x2] h2 (jPi post) ∧ ∀ (r9 : Int) (h10 : jH), post r9 h10 → (Q (some (jI r9)) h10)) ∧ (x1 = 4 → ∃ post : Int → jH → Prop, CT Sx M_X7_asWife [jR 0, jI x2] h2 (jPi post) ∧ ∀ (r11 : Int) (h12 : jH), post r11 h12 → (Q (some (jI r11)) h12)) ∧ (x1 = 5 → ∃ post : Int → jH → Prop, CT Sx M_X7_asWrong [jR 0, jI x2] h2 (jPi post) ∧ ∀ (r13 : Int) (h14 : jH), post r13 h14 → (Q (some (jI r13)) h14)) ∧ (x1 < 0 ∨ 5 < x1 → Q (some (jI (-1000000))) h2)))) :
    WV Sx G M_X7_rate Q 0 [jR 0, jI x1, jI x2] [] h := by
  refine s_aload_n (pc := 0) dX7_rate_0 rfl ?_
  refine s_getr (pc := 1) dX7_rate_1 fl_X7_16 cSx_0 rfl ?_
  refine s_iload_n (pc := 4) dX7_rate_4 rfl ?_
  obtain ⟨post, hct, H⟩ := H
  refine s_callV (pc := 5) (as := [jI x2]) (st := []) (by exact dX7_rate_5) mv_X7_107 ⟨rfl, rfl, Nat.le_of_ble_eq_true rfl, Nat.le_of_ble_eq_true rfl⟩ cSx_2 rfl rfl (Nat.le_of_ble_eq_true rfl) _ rfl hct (fun r1 h2 hp => ?_)
  obtain ⟨r1, rfl, hp⟩ := hp
  have H := H r1 h2 hp
  show WV _ _ _ _ 8 [jR 0, jI x1, jI x2] [jI r1] h2
  refine s_if_ne (pc := 8) (tgt := 14) dX7_rate_8 (by decide) (fun hc => ?_) (fun hc => ?_)
  · have H := H.2 hc
    refine s_iload_n (pc := 14) dX7_rate_14 rfl ?_
    refine s_table (pc := 15) dX7_rate_15 (fun i => ([52, 58, 64, 70, 76, 82] : List Nat).getD i 0) 88 (by decide) (by decide) (by decide) (fun i hi hx => ?_) (fun hc => ?_)
    · rcases (show i = 0 ∨ i = 1 ∨ i = 2 ∨ i = 3 ∨ i = 4 ∨ i = 5 by have hi : i < 6 := hi; omega) with rfl | rfl | rfl | rfl | rfl | rfl
      · have H := H.1 (by simpa using hx)
        refine s_aload_n (pc := 52) dX7_rate_52 rfl ?_
        refine s_iload_n (pc := 53) dX7_rate_53 rfl ?_
        obtain ⟨post, hct, H⟩ := H
        refine s_callV (pc := 54) (as := [jI x2]) (st := []) (by exact dX7_rate_54) mv_X7_243 ⟨rfl, rfl, Nat.le_of_ble_eq_true rfl, Nat.le_of_ble_eq_true rfl⟩ cSx_0 rfl rfl (Nat.le_of_ble_eq_true rfl) _ rfl hct (fun r3 h4 hp => ?_)
        obtain ⟨r3, rfl, hp⟩ := hp
        have H := H r3 h4 hp
        show WV _ _ _ _ 57 [jR 0, jI x1, jI x2] [jI r3] h4
        exact s_iret dX7_rate_57 rfl H
      · have H := H.2.1 (by simpa using hx)
        refine s_aload_n (pc := 58) dX7_rate_58 rfl ?_
        refine s_iload_n (pc := 59) dX7_rate_59 rfl ?_
        obtain ⟨post, hct, H⟩ := H
        refine s_callV (pc := 60) (as := [jI x2]) (st := []) (by exact dX7_rate_60) mv_X7_246 ⟨rfl, rfl, Nat.le_of_ble_eq_true rfl, Nat.le_of_ble_eq_true rfl⟩ cSx_0 rfl rfl (Nat.le_of_ble_eq_true rfl) _ rfl hct (fun r5 h6 hp => ?_)
        obtain ⟨r5, rfl, hp⟩ := hp
        have H := H r5 h6 hp
        show WV _ _ _ _ 63 [jR 0, jI x1, jI x2] [jI r5] h6
        exact s_iret dX7_rate_63 rfl H
      · have H := H.2.2.1 (by simpa using hx)
        refine s_aload_n (pc := 64) dX7_rate_64 rfl ?_
        refine s_iload_n (pc := 65) dX7_rate_65 rfl ?_
        obtain ⟨post, hct, H⟩ := H
        refine s_callV (pc := 66) (as := [jI x2]) (st := []) (by exact dX7_rate_66) mv_X7_249 ⟨rfl, rfl, Nat.le_of_ble_eq_true rfl, Nat.le_of_ble_eq_true rfl⟩ cSx_0 rfl rfl (Nat.le_of_ble_eq_true rfl) _ rfl hct (fun r7 h8 hp => ?_)
        obtain ⟨r7, rfl, hp⟩ := hp
        have H := H r7 h8 hp
        show WV _ _ _ _ 69 [jR 0, jI x1, jI x2] [jI r7] h8
        exact s_iret dX7_rate_69 rfl H
      · have H := H.2.2.2.1 (by simpa using hx)
        refine s_aload_n (pc := 70) dX7_rate_70 rfl ?_
        refine s_iload_n (pc := 71) dX7_rate_71 rfl ?_
        obtain ⟨post, hct, H⟩ := H
        refine s_callV (pc := 72) (as := [jI x2]) (st := []) (by exact dX7_rate_72) mv_X7_252 ⟨rfl, rfl, Nat.le_of_ble_eq_true rfl, Nat.le_of_ble_eq_true rfl⟩ cSx_0 rfl rfl (Nat.le_of_ble_eq_true rfl) _ rfl hct (fun r9 h10 hp => ?_)
        obtain ⟨r9, rfl, hp⟩ := hp
        have H := H r9 h10 hp
        show WV _ _ _ _ 75 [jR 0, jI x1, jI x2] [jI r9] h10
        exact s_iret dX7_rate_75 rfl H
      · have H := H.2.2.2.2.1 (by simpa using hx)
        refine s_aload_n (pc := 76) dX7_rate_76 rfl ?_
        refine s_iload_n (pc := 77) dX7_rate_77 rfl ?_
        obtain ⟨post, hct, H⟩ := H
        refine s_callV (pc := 78) (as := [jI x2]) (st := []) (by exact dX7_rate_78) mv_X7_255 ⟨rfl, rfl, Nat.le_of_ble_eq_true rfl, Nat.le_of_ble_eq_true rfl⟩ cSx_0 rfl rfl (Nat.le_of_ble_eq_true rfl) _ rfl hct (fun r11 h12 hp => ?_)
        obtain ⟨r11, rfl, hp⟩ := hp
        have H := H r11 h12 hp
        show WV _ _ _ _ 81 [jR 0, jI x1, jI x2] [jI r11] h12
        exact s_iret dX7_rate_81 rfl H
      · have H := H.2.2.2.2.2.1 (by simpa using hx)
        refine s_aload_n (pc := 82) dX7_rate_82 rfl ?_
        refine s_iload_n (pc := 83) dX7_rate_83 rfl ?_
        obtain ⟨post, hct, H⟩ := H
        refine s_callV (pc := 84) (as := [jI x2]) (st := []) (by exact dX7_rate_84) mv_X7_258 ⟨rfl, rfl, Nat.le_of_ble_eq_true rfl, Nat.le_of_ble_eq_true rfl⟩ cSx_0 rfl rfl (Nat.le_of_ble_eq_true rfl) _ rfl hct (fun r13 h14 hp => ?_)
        obtain ⟨r13, rfl, hp⟩ := hp
        have H := H r13 h14 hp
        show WV _ _ _ _ 87 [jR 0, jI x1, jI x2] [jI r13] h14
        exact s_iret dX7_rate_87 rfl H
    · have H := H.2.2.2.2.2.2 hc
      refine s_ldc (pc := 88) dX7_rate_88 kc_X7_242 (j_cst rfl) ?_
      exact s_iret dX7_rate_90 rfl H
  · have H := H.1 hc
    refine s_ldc (pc := 11) dX7_rate_11 kc_X7_242 (j_cst rfl) ?_
    exact s_iret dX7_rate_13 rfl H
theorem en_X2_save_17_24 {x2 : Int} {h : jH} {post : jQ} (k : ∀ G, WV Sx G M_X2_save post 0 [jR 17, jR 24, jI x2, jU] [] h) : CT Sx M_X2_save [jR 17, jR 24, jI x2] h post := CT.of (by decide +kernel) (by simp [j_un]) (Nat.le_of_ble_eq_true rfl) _ rfl k
set_option maxRecDepth 20000 in
theorem vc_X2_save_17_24_0 {G : jG} {Q : jQ} {x2 : Int} {h : jH}
    (H : (0 ≤ x2 ∧ x2 < 56) ∧ ((j_rg (x2 + 1)) ∧ ((0 ≤ x2 + 1) ∧ (((x2 + 1) + 6 ≤ 56) ∧ ((j_rg ((x2 + 1) + 6)) ∧ ((0 ≤ (x2 + 1) + 6) ∧ ((((x2 + 1) + 6) + 7 ≤ 56) ∧ ((j_rg (((x2 + 1) + 6) + 7)) ∧ ((0 ≤ ((x2 + 1) + 6) + 7) ∧ (((((x2 + 1) + 6) + 7) + 7 ≤ 56) ∧ ((j_rg (((x2 + 1) + 6) + 14)) ∧ ((0 ≤ ((x2 + 1) + 6) + 14) ∧ (((((x2 + 1) + 6) + 14) + 7 ≤ 56) ∧ (Q none (j_cp (j_cp (j_cp (j_cp (j_up h 24 (Int.toNat x2) (h.1 17 1)) 18 0 24 (Int.toNat (x2 + 1)) 6) 19 0 24 (Int.toNat ((x2 + 1) + 6)) 7) 20 0 24 (Int.toNat (((x2 + 1) + 6) + 7)) 7) 21 0 24 (Int.toNat (((x2 + 1) + 6) + 14)) 7))))))))))))))) :
    WV Sx G M_X2_save Q 0 [jR 17, jR 24, jI x2, jU] [] h := by
  refine s_aload_n (pc := 0) dX2_save_0 rfl ?_
  refine s_iload_n (pc := 1) dX2_save_1 rfl ?_
  refine s_aload_n (pc := 2) dX2_save_2 rfl ?_
  refine s_geti (pc := 3) (x := h.1 17 1) dX2_save_3 fl_X2_28 cSx_17 rfl rfl ?_
  obtain ⟨k1, H⟩ := H
  refine s_iast (pc := 6) dX2_save_6 cSx_24 k1 ?_
  refine s_aload_n (pc := 7) dX2_save_7 rfl ?_
  refine s_getr (pc := 8) dX2_save_8 fl_X2_9 cSx_17 rfl ?_
  refine s_iconst (pc := 11) dX2_save_11 (j_cst rfl) ?_
  refine s_aload_n (pc := 12) dX2_save_12 rfl ?_
  refine s_iload_n (pc := 13) dX2_save_13 rfl ?_
  refine s_iconst (pc := 14) dX2_save_14 (j_cst rfl) ?_
  obtain ⟨k2, H⟩ := H
  refine s_iadd (pc := 15) dX2_save_15 k2 ?_
  refine s_bipush (pc := 16) dX2_save_16 rfl (j_cst rfl) ?_
  obtain ⟨k3, H⟩ := H
  obtain ⟨k4, H⟩ := H
  refine s_copy (pc := 18) dX2_save_18 ma_X2_35 ⟨Nat.le_of_ble_eq_true rfl, Nat.le_of_ble_eq_true rfl⟩ cSx_18 cSx_24 ⟨by decide, k3, by decide, by decide, k4⟩ ?_
  refine s_iload_n (pc := 21) dX2_save_21 rfl ?_
  refine s_iconst (pc := 22) dX2_save_22 (j_cst rfl) ?_
  refine s_iadd (pc := 23) dX2_save_23 k2 ?_
  refine s_bipush (pc := 24) dX2_save_24 rfl (j_cst rfl) ?_
  obtain ⟨k5, H⟩ := H
  refine s_iadd (pc := 26) dX2_save_26 k5 ?_
  refine s_istore_n (pc := 27) (lv' := [jR 17, jR 24, jI x2, jI ((x2 + 1) + 6)]) dX2_save_27 (by decide) rfl ?_
  refine s_aload_n (pc := 28) dX2_save_28 rfl ?_
  refine s_getr (pc := 29) dX2_save_29 fl_X2_15 cSx_17 rfl ?_
  refine s_iconst (pc := 32) dX2_save_32 (j_cst rfl) ?_
  refine s_aload_n (pc := 33) dX2_save_33 rfl ?_
  refine s_iload_n (pc := 34) dX2_save_34 rfl ?_
  refine s_bipush (pc := 35) dX2_save_35 rfl (j_cst rfl) ?_
  obtain ⟨k6, H⟩ := H
  obtain ⟨k7, H⟩ := H
  refine s_copy (pc := 37) dX2_save_37 ma_X2_35 ⟨Nat.le_of_ble_eq_true rfl, Nat.le_of_ble_eq_true rfl⟩ cSx_19 cSx_24 ⟨by decide, k6, by decide, by decide, k7⟩ ?_
  refine s_aload_n (pc := 40) dX2_save_40 rfl ?_
  refine s_getr (pc := 41) dX2_save_41 fl_X2_18 cSx_17 rfl ?_
  refine s_iconst (pc := 44) dX2_save_44 (j_cst rfl) ?_
  refine s_aload_n (pc := 45) dX2_save_45 rfl ?_
  refine s_iload_n (pc := 46) dX2_save_46 rfl ?_
  refine s_bipush (pc := 47) dX2_save_47 rfl (j_cst rfl) ?_
  obtain ⟨k8, H⟩ := H
  refine s_iadd (pc := 49) dX2_save_49 k8 ?_
  refine s_bipush (pc := 50) dX2_save_50 rfl (j_cst rfl) ?_
  obtain ⟨k9, H⟩ := H
  obtain ⟨k10, H⟩ := H
  refine s_copy (pc := 52) dX2_save_52 ma_X2_35 ⟨Nat.le_of_ble_eq_true rfl, Nat.le_of_ble_eq_true rfl⟩ cSx_20 cSx_24 ⟨by decide, k9, by decide, by decide, k10⟩ ?_
  refine s_aload_n (pc := 55) dX2_save_55 rfl ?_
  refine s_getr (pc := 56) dX2_save_56 fl_X2_21 cSx_17 rfl ?_
  refine s_iconst (pc := 59) dX2_save_59 (j_cst rfl) ?_
  refine s_aload_n (pc := 60) dX2_save_60 rfl ?_
  refine s_iload_n (pc := 61) dX2_save_61 rfl ?_
  refine s_bipush (pc := 62) dX2_save_62 rfl (j_cst rfl) ?_
  obtain ⟨k11, H⟩ := H
  refine s_iadd (pc := 64) dX2_save_64 k11 ?_
  refine s_bipush (pc := 65) dX2_save_65 rfl (j_cst rfl) ?_
  obtain ⟨k12, H⟩ := H
  obtain ⟨k13, H⟩ := H
  refine s_copy (pc := 67) dX2_save_67 ma_X2_35 ⟨Nat.le_of_ble_eq_true rfl, Nat.le_of_ble_eq_true rfl⟩ cSx_21 cSx_24 ⟨by decide, k12, by decide, by decide, k13⟩ ?_
  exact s_vret dX2_save_70 rfl H
theorem en_X7_isImage {x0 : Int} {h : jH} {post : jQ} (k : ∀ G, WV Sx G M_X7_isImage post 0 [jI x0] [] h) : CT Sx M_X7_isImage [jI x0] h post := CT.of (by decide +kernel) (by simp [j_un]) (Nat.le_of_ble_eq_true rfl) _ rfl k
set_option maxRecDepth 20000 in
theorem vc_X7_isImage_0 {G : jG} {Q : jQ} {x0 : Int} {h : jH}
    (H : (x0 < 0 → Q (some (jI 0)) h) ∧ (¬ x0 < 0 → (2 ≤ x0 → Q (some (jI 0)) h) ∧ (¬ 2 ≤ x0 → Q (some (jI 1)) h))) :
    WV Sx G M_X7_isImage Q 0 [jI x0] [] h := by
  refine s_iload_n (pc := 0) dX7_isImage_0 rfl ?_
  refine s_if_lt (pc := 1) (tgt := 13) dX7_isImage_1 (by decide) (fun hc => ?_) (fun hc => ?_)
  · have H := H.1 hc
    refine s_iconst (pc := 13) dX7_isImage_13 (j_cst rfl) ?_
    exact s_zret dX7_isImage_14 rfl (Or.inl rfl) H
  · have H := H.2 hc
    refine s_iload_n (pc := 4) dX7_isImage_4 rfl ?_
    refine s_iconst (pc := 5) dX7_isImage_5 (j_cst rfl) ?_
    refine s_icmp_ge (pc := 6) (tgt := 13) dX7_isImage_6 (by decide) (fun hc => ?_) (fun hc => ?_)
    · have H := H.1 hc
      refine s_iconst (pc := 13) dX7_isImage_13 (j_cst rfl) ?_
      exact s_zret dX7_isImage_14 rfl (Or.inl rfl) H
    · have H := H.2 hc
      refine s_iconst (pc := 9) dX7_isImage_9 (j_cst rfl) ?_
      refine s_goto (pc := 10) (tgt := 14) dX7_isImage_10 (by decide) ?_
      exact s_zret dX7_isImage_14 rfl (Or.inr rfl) H
theorem en_X7_keep_0 {x1 : Int} {h : jH} {post : jQ} (k : ∀ G, WV Sx G M_X7_keep post 0 [jR 0, jI x1] [] h) : CT Sx M_X7_keep [jR 0, jI x1] h post := CT.of (by decide +kernel) (by simp [j_un]) (Nat.le_of_ble_eq_true rfl) _ rfl k
set_option maxRecDepth 20000 in
theorem vc_X7_keep_0_0 {G : jG} {Q : jQ} {x1 : Int} {h : jH}
    (H : ∃ post : Int → jH → Prop, CT Sx M_X7_isImage [jI x1] h (jPi post) ∧ ∀ (r1 : Int) (h2 : jH), post r1 h2 → ((r1 = 0 → Q (some (jI (-1))) h2) ∧ (¬ r1 = 0 → (j_rg (x1 * 28)) ∧ (∃ post : jH → Prop, CT Sx M_X2_save [jR 17, jR 24, jI (x1 * 28)] h2 (jPv post) ∧ ∀ (h5 : jH), post h5 → ((0 ≤ x1 ∧ x1 < 2) ∧ (Q (some (jI (h5.1 17 1))) (j_up h5 25 (Int.toNat x1) 1))))))) :
    WV Sx G M_X7_keep Q 0 [jR 0, jI x1] [] h := by
  refine s_iload_n (pc := 0) dX7_keep_0 rfl ?_
  obtain ⟨post, hct, H⟩ := H
  refine s_callS (pc := 1) (as := [jI x1]) (st := []) (by exact dX7_keep_1) ms_X7_275 ⟨rfl, rfl, Nat.le_of_ble_eq_true rfl, Nat.le_of_ble_eq_true rfl⟩ (Nat.le_of_ble_eq_true rfl) _ rfl hct (fun r1 h2 hp => ?_)
  obtain ⟨r1, rfl, hp⟩ := hp
  have H := H r1 h2 hp
  show WV _ _ _ _ 4 [jR 0, jI x1] [jI r1] h2
  refine s_if_ne (pc := 4) (tgt := 9) dX7_keep_4 (by decide) (fun hc => ?_) (fun hc => ?_)
  · have H := H.2 hc
    refine s_aload_n (pc := 9) dX7_keep_9 rfl ?_
    refine s_getr (pc := 10) dX7_keep_10 fl_X7_34 cSx_0 rfl ?_
    refine s_aload_n (pc := 13) dX7_keep_13 rfl ?_
    refine s_getr (pc := 14) dX7_keep_14 fl_X7_45 cSx_0 rfl ?_
    refine s_iload_n (pc := 17) dX7_keep_17 rfl ?_
    refine s_bipush (pc := 18) dX7_keep_18 rfl (j_cst rfl) ?_
    obtain ⟨k3, H⟩ := H
    refine s_imul (pc := 20) dX7_keep_20 k3 ?_
    obtain ⟨post, hct, H⟩ := H
    refine s_callV (pc := 21) (as := [jR 24, jI (x1 * 28)]) (st := []) (by exact dX7_keep_21) mv_X7_278 ⟨rfl, rfl, Nat.le_of_ble_eq_true rfl, Nat.le_of_ble_eq_true rfl⟩ cSx_17 rfl rfl (Nat.le_of_ble_eq_true rfl) _ rfl hct (fun r4 h5 hp => ?_)
    obtain ⟨rfl, hp⟩ := hp
    have H := H h5 hp
    show WV _ _ _ _ 24 [jR 0, jI x1] [] h5
    refine s_aload_n (pc := 24) dX7_keep_24 rfl ?_
    refine s_getr (pc := 25) dX7_keep_25 fl_X7_48 cSx_0 rfl ?_
    refine s_iload_n (pc := 28) dX7_keep_28 rfl ?_
    refine s_iconst (pc := 29) dX7_keep_29 (j_cst rfl) ?_
    obtain ⟨k6, H⟩ := H
    refine s_zast (pc := 30) dX7_keep_30 cSx_25 k6 (Or.inr rfl) ?_
    refine s_aload_n (pc := 31) dX7_keep_31 rfl ?_
    refine s_getr (pc := 32) dX7_keep_32 fl_X7_34 cSx_0 rfl ?_
    refine s_geti (pc := 35) (x := h5.1 17 1) dX7_keep_35 fl_X7_134 cSx_17 rfl rfl ?_
    exact s_iret dX7_keep_38 rfl H
  · have H := H.1 hc
    refine s_iconst (pc := 7) dX7_keep_7 (j_cst rfl) ?_
    exact s_iret dX7_keep_8 rfl H
theorem en_X2_load_17_24 {x2 : Int} {h : jH} {post : jQ} (k : ∀ G, WV Sx G M_X2_load post 0 [jR 17, jR 24, jI x2, jU] [] h) : CT Sx M_X2_load [jR 17, jR 24, jI x2] h post := CT.of (by decide +kernel) (by simp [j_un]) (Nat.le_of_ble_eq_true rfl) _ rfl k
set_option maxRecDepth 20000 in
theorem vc_X2_load_17_24_0 {G : jG} {Q : jQ} {x2 : Int} {h : jH}
    (H : (0 ≤ x2 ∧ x2 < 56) ∧ ((j_rg (x2 + 1)) ∧ ((0 ≤ x2 + 1) ∧ (((x2 + 1) + 6 ≤ 56) ∧ ((j_rg ((x2 + 1) + 6)) ∧ ((0 ≤ (x2 + 1) + 6) ∧ ((((x2 + 1) + 6) + 7 ≤ 56) ∧ ((j_rg (((x2 + 1) + 6) + 7)) ∧ ((0 ≤ ((x2 + 1) + 6) + 7) ∧ (((((x2 + 1) + 6) + 7) + 7 ≤ 56) ∧ ((j_rg (((x2 + 1) + 6) + 14)) ∧ ((0 ≤ ((x2 + 1) + 6) + 14) ∧ (((((x2 + 1) + 6) + 14) + 7 ≤ 56) ∧ (Q none (j_cp (j_cp (j_cp (j_cp (j_up h 17 1 (h.1 24 (Int.toNat x2))) 24 (Int.toNat (x2 + 1)) 18 0 6) 24 (Int.toNat ((x2 + 1) + 6)) 19 0 7) 24 (Int.toNat (((x2 + 1) + 6) + 7)) 20 0 7) 24 (Int.toNat (((x2 + 1) + 6) + 14)) 21 0 7))))))))))))))) :
    WV Sx G M_X2_load Q 0 [jR 17, jR 24, jI x2, jU] [] h := by
  refine s_aload_n (pc := 0) dX2_load_0 rfl ?_
  refine s_aload_n (pc := 1) dX2_load_1 rfl ?_
  refine s_iload_n (pc := 2) dX2_load_2 rfl ?_
  obtain ⟨k1, H⟩ := H
  refine s_iald (pc := 3) (x := h.1 24 (Int.toNat x2)) dX2_load_3 cSx_24 k1 rfl ?_
  refine s_puti (pc := 4) dX2_load_4 fp_X2_28 cSx_17 rfl ?_
  refine s_aload_n (pc := 7) dX2_load_7 rfl ?_
  refine s_iload_n (pc := 8) dX2_load_8 rfl ?_
  refine s_iconst (pc := 9) dX2_load_9 (j_cst rfl) ?_
  obtain ⟨k2, H⟩ := H
  refine s_iadd (pc := 10) dX2_load_10 k2 ?_
  refine s_aload_n (pc := 11) dX2_load_11 rfl ?_
  refine s_getr (pc := 12) dX2_load_12 fl_X2_9 cSx_17 rfl ?_
  refine s_iconst (pc := 15) dX2_load_15 (j_cst rfl) ?_
  refine s_bipush (pc := 16) dX2_load_16 rfl (j_cst rfl) ?_
  obtain ⟨k3, H⟩ := H
  obtain ⟨k4, H⟩ := H
  refine s_copy (pc := 18) dX2_load_18 ma_X2_35 ⟨Nat.le_of_ble_eq_true rfl, Nat.le_of_ble_eq_true rfl⟩ cSx_24 cSx_18 ⟨k3, by decide, by decide, k4, by decide⟩ ?_
  refine s_iload_n (pc := 21) dX2_load_21 rfl ?_
  refine s_iconst (pc := 22) dX2_load_22 (j_cst rfl) ?_
  refine s_iadd (pc := 23) dX2_load_23 k2 ?_
  refine s_bipush (pc := 24) dX2_load_24 rfl (j_cst rfl) ?_
  obtain ⟨k5, H⟩ := H
  refine s_iadd (pc := 26) dX2_load_26 k5 ?_
  refine s_istore_n (pc := 27) (lv' := [jR 17, jR 24, jI x2, jI ((x2 + 1) + 6)]) dX2_load_27 (by decide) rfl ?_
  refine s_aload_n (pc := 28) dX2_load_28 rfl ?_
  refine s_iload_n (pc := 29) dX2_load_29 rfl ?_
  refine s_aload_n (pc := 30) dX2_load_30 rfl ?_
  refine s_getr (pc := 31) dX2_load_31 fl_X2_15 cSx_17 rfl ?_
  refine s_iconst (pc := 34) dX2_load_34 (j_cst rfl) ?_
  refine s_bipush (pc := 35) dX2_load_35 rfl (j_cst rfl) ?_
  obtain ⟨k6, H⟩ := H
  obtain ⟨k7, H⟩ := H
  refine s_copy (pc := 37) dX2_load_37 ma_X2_35 ⟨Nat.le_of_ble_eq_true rfl, Nat.le_of_ble_eq_true rfl⟩ cSx_24 cSx_19 ⟨k6, by decide, by decide, k7, by decide⟩ ?_
  refine s_aload_n (pc := 40) dX2_load_40 rfl ?_
  refine s_iload_n (pc := 41) dX2_load_41 rfl ?_
  refine s_bipush (pc := 42) dX2_load_42 rfl (j_cst rfl) ?_
  obtain ⟨k8, H⟩ := H
  refine s_iadd (pc := 44) dX2_load_44 k8 ?_
  refine s_aload_n (pc := 45) dX2_load_45 rfl ?_
  refine s_getr (pc := 46) dX2_load_46 fl_X2_18 cSx_17 rfl ?_
  refine s_iconst (pc := 49) dX2_load_49 (j_cst rfl) ?_
  refine s_bipush (pc := 50) dX2_load_50 rfl (j_cst rfl) ?_
  obtain ⟨k9, H⟩ := H
  obtain ⟨k10, H⟩ := H
  refine s_copy (pc := 52) dX2_load_52 ma_X2_35 ⟨Nat.le_of_ble_eq_true rfl, Nat.le_of_ble_eq_true rfl⟩ cSx_24 cSx_20 ⟨k9, by decide, by decide, k10, by decide⟩ ?_
  refine s_aload_n (pc := 55) dX2_load_55 rfl ?_
  refine s_iload_n (pc := 56) dX2_load_56 rfl ?_
  refine s_bipush (pc := 57) dX2_load_57 rfl (j_cst rfl) ?_
  obtain ⟨k11, H⟩ := H
  refine s_iadd (pc := 59) dX2_load_59 k11 ?_
  refine s_aload_n (pc := 60) dX2_load_60 rfl ?_
  refine s_getr (pc := 61) dX2_load_61 fl_X2_21 cSx_17 rfl ?_
  refine s_iconst (pc := 64) dX2_load_64 (j_cst rfl) ?_
  refine s_bipush (pc := 65) dX2_load_65 rfl (j_cst rfl) ?_
  obtain ⟨k12, H⟩ := H
  obtain ⟨k13, H⟩ := H
  refine s_copy (pc := 67) dX2_load_67 ma_X2_35 ⟨Nat.le_of_ble_eq_true rfl, Nat.le_of_ble_eq_true rfl⟩ cSx_24 cSx_21 ⟨k12, by decide, by decide, k13, by decide⟩ ?_
  exact s_vret dX2_load_70 rfl H
theorem en_X7_back_0 {x1 : Int} {h : jH} {post : jQ} (k : ∀ G, WV Sx G M_X7_back post 0 [jR 0, jI x1] [] h) : CT Sx M_X7_back [jR 0, jI x1] h post := CT.of (by decide +kernel) (by simp [j_un]) (Nat.le_of_ble_eq_true rfl) _ rfl k
set_option maxRecDepth 20000 in
theorem vc_X7_back_0_0 {G : jG} {Q : jQ} {x1 : Int} {h : jH}
    (H : ∃ post : Int → jH → Prop, CT Sx M_X7_isImage [jI x1] h (jPi post) ∧ ∀ (r1 : Int) (h2 : jH), post r1 h2 → ((r1 = 0 → Q (some (jI (-1))) h2) ∧ (¬ r1 = 0 → (0 ≤ x1 ∧ x1 < 2) ∧ (((h2.1 25 (Int.toNat x1)) = 0 → Q (some (jI (-2))) h2) ∧ (¬ (h2.1 25 (Int.toNat x1)) = 0 → (j_rg (x1 * 28)) ∧ (∃ post : jH → Prop, CT Sx M_X2_load [jR 17, jR 24, jI (x1 * 28)] h2 (jPv post) ∧ ∀ (h6 : jH), post h6 → (∃ post : jH → Prop, CT Sx M_X3_forget [jR 22] h6 (jPv post) ∧ ∀ (h8 : jH), post h8 → (Q (some (jI (h8.1 17 1))) h8)))))))) :
    WV Sx G M_X7_back Q 0 [jR 0, jI x1] [] h := by
  refine s_iload_n (pc := 0) dX7_back_0 rfl ?_
  obtain ⟨post, hct, H⟩ := H
  refine s_callS (pc := 1) (as := [jI x1]) (st := []) (by exact dX7_back_1) ms_X7_275 ⟨rfl, rfl, Nat.le_of_ble_eq_true rfl, Nat.le_of_ble_eq_true rfl⟩ (Nat.le_of_ble_eq_true rfl) _ rfl hct (fun r1 h2 hp => ?_)
  obtain ⟨r1, rfl, hp⟩ := hp
  have H := H r1 h2 hp
  show WV _ _ _ _ 4 [jR 0, jI x1] [jI r1] h2
  refine s_if_ne (pc := 4) (tgt := 9) dX7_back_4 (by decide) (fun hc => ?_) (fun hc => ?_)
  · have H := H.2 hc
    refine s_aload_n (pc := 9) dX7_back_9 rfl ?_
    refine s_getr (pc := 10) dX7_back_10 fl_X7_48 cSx_0 rfl ?_
    refine s_iload_n (pc := 13) dX7_back_13 rfl ?_
    obtain ⟨k3, H⟩ := H
    refine s_zald (pc := 14) (x := h2.1 25 (Int.toNat x1)) dX7_back_14 cSx_25 k3 rfl ?_
    refine s_if_ne (pc := 15) (tgt := 21) dX7_back_15 (by decide) (fun hc => ?_) (fun hc => ?_)
    · have H := H.2 hc
      refine s_aload_n (pc := 21) dX7_back_21 rfl ?_
      refine s_getr (pc := 22) dX7_back_22 fl_X7_34 cSx_0 rfl ?_
      refine s_aload_n (pc := 25) dX7_back_25 rfl ?_
      refine s_getr (pc := 26) dX7_back_26 fl_X7_45 cSx_0 rfl ?_
      refine s_iload_n (pc := 29) dX7_back_29 rfl ?_
      refine s_bipush (pc := 30) dX7_back_30 rfl (j_cst rfl) ?_
      obtain ⟨k4, H⟩ := H
      refine s_imul (pc := 32) dX7_back_32 k4 ?_
      obtain ⟨post, hct, H⟩ := H
      refine s_callV (pc := 33) (as := [jR 24, jI (x1 * 28)]) (st := []) (by exact dX7_back_33) mv_X7_282 ⟨rfl, rfl, Nat.le_of_ble_eq_true rfl, Nat.le_of_ble_eq_true rfl⟩ cSx_17 rfl rfl (Nat.le_of_ble_eq_true rfl) _ rfl hct (fun r5 h6 hp => ?_)
      obtain ⟨rfl, hp⟩ := hp
      have H := H h6 hp
      show WV _ _ _ _ 36 [jR 0, jI x1] [] h6
      refine s_aload_n (pc := 36) dX7_back_36 rfl ?_
      refine s_getr (pc := 37) dX7_back_37 fl_X7_41 cSx_0 rfl ?_
      obtain ⟨post, hct, H⟩ := H
      refine s_callV (pc := 40) (as := []) (st := []) (by exact dX7_back_40) mv_X7_94 ⟨rfl, rfl, Nat.le_of_ble_eq_true rfl, Nat.le_of_ble_eq_true rfl⟩ cSx_22 rfl rfl (Nat.le_of_ble_eq_true rfl) _ rfl hct (fun r7 h8 hp => ?_)
      obtain ⟨rfl, hp⟩ := hp
      have H := H h8 hp
      show WV _ _ _ _ 43 [jR 0, jI x1] [] h8
      refine s_aload_n (pc := 43) dX7_back_43 rfl ?_
      refine s_getr (pc := 44) dX7_back_44 fl_X7_34 cSx_0 rfl ?_
      refine s_geti (pc := 47) (x := h8.1 17 1) dX7_back_47 fl_X7_134 cSx_17 rfl rfl ?_
      exact s_iret dX7_back_50 rfl H
    · have H := H.1 hc
      refine s_bipush (pc := 18) dX7_back_18 rfl (j_cst rfl) ?_
      exact s_iret dX7_back_20 rfl H
  · have H := H.1 hc
    refine s_iconst (pc := 7) dX7_back_7 (j_cst rfl) ?_
    exact s_iret dX7_back_8 rfl H
theorem en_X7_count_0 {x1 : Int} {h : jH} {post : jQ} (k : ∀ G, WV Sx G M_X7_count post 0 [jR 0, jI x1] [] h) : CT Sx M_X7_count [jR 0, jI x1] h post := CT.of (by decide +kernel) (by simp [j_un]) (Nat.le_of_ble_eq_true rfl) _ rfl k
set_option maxRecDepth 20000 in
theorem vc_X7_count_0_0 {G : jG} {Q : jQ} {x1 : Int} {h : jH}
    (H : (x1 = 0 → Q (some (jI (h.1 2 0))) h) ∧ (x1 = 1 → Q (some (jI (h.1 2 1))) h) ∧ (x1 = 2 → Q (some (jI (h.1 2 2))) h) ∧ (x1 = 3 → Q (some (jI (h.1 0 10))) h) ∧ (x1 < 0 ∨ 3 < x1 → Q (some (jI (-1))) h)) :
    WV Sx G M_X7_count Q 0 [jR 0, jI x1] [] h := by
  refine s_iload_n (pc := 0) dX7_count_0 rfl ?_
  refine s_table (pc := 1) dX7_count_1 (fun i => ([32, 40, 48, 56] : List Nat).getD i 0) 61 (by decide) (by decide) (by decide) (fun i hi hx => ?_) (fun hc => ?_)
  · rcases (show i = 0 ∨ i = 1 ∨ i = 2 ∨ i = 3 by have hi : i < 4 := hi; omega) with rfl | rfl | rfl | rfl
    · have H := H.1 (by simpa using hx)
      refine s_aload_n (pc := 32) dX7_count_32 rfl ?_
      refine s_getr (pc := 33) dX7_count_33 fl_X7_16 cSx_0 rfl ?_
      refine s_geti (pc := 36) (x := h.1 2 0) dX7_count_36 fl_X7_285 cSx_2 rfl rfl ?_
      exact s_iret dX7_count_39 rfl H
    · have H := H.2.1 (by simpa using hx)
      refine s_aload_n (pc := 40) dX7_count_40 rfl ?_
      refine s_getr (pc := 41) dX7_count_41 fl_X7_16 cSx_0 rfl ?_
      refine s_geti (pc := 44) (x := h.1 2 1) dX7_count_44 fl_X7_150 cSx_2 rfl rfl ?_
      exact s_iret dX7_count_47 rfl H
    · have H := H.2.2.1 (by simpa using hx)
      refine s_aload_n (pc := 48) dX7_count_48 rfl ?_
      refine s_getr (pc := 49) dX7_count_49 fl_X7_16 cSx_0 rfl ?_
      refine s_geti (pc := 52) (x := h.1 2 2) dX7_count_52 fl_X7_288 cSx_2 rfl rfl ?_
      exact s_iret dX7_count_55 rfl H
    · have H := H.2.2.2.1 (by simpa using hx)
      refine s_aload_n (pc := 56) dX7_count_56 rfl ?_
      refine s_geti (pc := 57) (x := h.1 0 10) dX7_count_57 fl_X7_73 cSx_0 rfl rfl ?_
      exact s_iret dX7_count_60 rfl H
  · have H := H.2.2.2.2 hc
    refine s_iconst (pc := 61) dX7_count_61 (j_cst rfl) ?_
    exact s_iret dX7_count_62 rfl H
theorem en_X7_trace_0 {h : jH} {post : jQ} (k : ∀ G, WV Sx G M_X7_trace post 0 [jR 0] [] h) : CT Sx M_X7_trace [jR 0] h post := CT.of (by decide +kernel) (by simp [j_un]) (Nat.le_of_ble_eq_true rfl) _ rfl k
set_option maxRecDepth 20000 in
theorem vc_X7_trace_0_0 {G : jG} {Q : jQ} {h : jH}
    (H : Q (some (jL (h.2 0))) h) :
    WV Sx G M_X7_trace Q 0 [jR 0] [] h := by
  refine s_aload_n (pc := 0) dX7_trace_0 rfl ?_
  refine s_getl (pc := 1) (x := h.2 0) dX7_trace_1 fl_X7_77 cSx_0 rfl rfl ?_
  exact s_lret dX7_trace_4 rfl H
