theorem en_X3_add_22_17 {h : jH} {post : jQ} (k : ∀ G, WV Sx G M_X3_add post 0 [jR 22, jR 17] [] h) : CT Sx M_X3_add [jR 22, jR 17] h post := CT.of (by decide +kernel) (by simp [j_un]) (Nat.le_of_ble_eq_true rfl) _ rfl k
set_option maxRecDepth 20000 in
theorem vc_X3_add_22_17_0 {G : jG} {Q : jQ} {h : jH}
    (H : (j_rg ((h.1 22 1) * 28)) ∧ (∃ post : jH → Prop, CT Sx M_X2_save [jR 17, jR 23, jI ((h.1 22 1) * 28)] h (jPv post) ∧ ∀ (h3 : jH), post h3 → ((j_rg ((h3.1 22 1) + 1)) ∧ ((j_rg ((h3.1 22 2) + 1)) ∧ (Q none (j_up (j_up h3 22 1 (Int.tmod ((h3.1 22 1) + 1) 10)) 22 2 (min 10 ((h3.1 22 2) + 1)))))))) :
    WV Sx G M_X3_add Q 0 [jR 22, jR 17] [] h := by
  refine s_aload_n (pc := 0) dX3_add_0 rfl ?_
  refine s_aload_n (pc := 1) dX3_add_1 rfl ?_
  refine s_getr (pc := 2) dX3_add_2 fl_X3_11 cSx_22 rfl ?_
  refine s_aload_n (pc := 5) dX3_add_5 rfl ?_
  refine s_geti (pc := 6) (x := h.1 22 1) dX3_add_6 fl_X3_15 cSx_22 rfl rfl ?_
  refine s_bipush (pc := 9) dX3_add_9 rfl (j_cst rfl) ?_
  obtain ⟨k1, H⟩ := H
  refine s_imul (pc := 11) dX3_add_11 k1 ?_
  obtain ⟨post, hct, H⟩ := H
  refine s_callV (pc := 12) (as := [jR 23, jI ((h.1 22 1) * 28)]) (st := []) (by exact dX3_add_12) mv_X3_22 ⟨rfl, rfl, Nat.le_of_ble_eq_true rfl, Nat.le_of_ble_eq_true rfl⟩ cSx_17 rfl rfl (Nat.le_of_ble_eq_true rfl) _ rfl hct (fun r2 h3 hp => ?_)
  obtain ⟨rfl, hp⟩ := hp
  have H := H h3 hp
  show WV _ _ _ _ 15 [jR 22, jR 17] [] h3
  refine s_aload_n (pc := 15) dX3_add_15 rfl ?_
  refine s_aload_n (pc := 16) dX3_add_16 rfl ?_
  refine s_geti (pc := 17) (x := h3.1 22 1) dX3_add_17 fl_X3_15 cSx_22 rfl rfl ?_
  refine s_iconst (pc := 20) dX3_add_20 (j_cst rfl) ?_
  obtain ⟨k4, H⟩ := H
  refine s_iadd (pc := 21) dX3_add_21 k4 ?_
  refine s_bipush (pc := 22) dX3_add_22 rfl (j_cst rfl) ?_
  refine s_irem (pc := 24) dX3_add_24 (by decide) ?_
  refine s_puti (pc := 25) dX3_add_25 fp_X3_15 cSx_22 rfl ?_
  refine s_aload_n (pc := 28) dX3_add_28 rfl ?_
  refine s_bipush (pc := 29) dX3_add_29 rfl (j_cst rfl) ?_
  refine s_aload_n (pc := 31) dX3_add_31 rfl ?_
  refine s_geti (pc := 32) (x := h3.1 22 2) dX3_add_32 fl_X3_19 cSx_22 rfl rfl ?_
  refine s_iconst (pc := 35) dX3_add_35 (j_cst rfl) ?_
  obtain ⟨k5, H⟩ := H
  refine s_iadd (pc := 36) dX3_add_36 k5 ?_
  refine s_min (pc := 37) dX3_add_37 mm_X3_26 ⟨Nat.le_of_ble_eq_true rfl, Nat.le_of_ble_eq_true rfl⟩ ?_
  refine s_puti (pc := 40) dX3_add_40 fp_X3_19 cSx_22 rfl ?_
  exact s_vret dX3_add_43 rfl H
theorem en_X7_minute_0 {h : jH} {post : jQ} (k : ∀ G, WV Sx G M_X7_minute post 0 [jR 0] [] h) : CT Sx M_X7_minute [jR 0] h post := CT.of (by decide +kernel) (by simp [j_un]) (Nat.le_of_ble_eq_true rfl) _ rfl k
set_option maxRecDepth 20000 in
theorem vc_X7_minute_0_0 {G : jG} {Q : jQ} {h : jH}
    (H : ((h.1 17 1) < 99 → ∃ post : jH → Prop, CT Sx M_X3_add [jR 22, jR 17] h (jPv post) ∧ ∀ (h2 : jH), post h2 → (∃ post : jH → Prop, CT Sx M_X2_passMinute [jR 17] h2 (jPv post) ∧ ∀ (h4 : jH), post h4 → (Q (some (jI (h4.1 17 1))) h4))) ∧ (¬ (h.1 17 1) < 99 → Q (some (jI (-2))) h)) :
    WV Sx G M_X7_minute Q 0 [jR 0] [] h := by
  refine s_aload_n (pc := 0) dX7_minute_0 rfl ?_
  refine s_getr (pc := 1) dX7_minute_1 fl_X7_34 cSx_0 rfl ?_
  refine s_geti (pc := 4) (x := h.1 17 1) dX7_minute_4 fl_X7_134 cSx_17 rfl rfl ?_
  refine s_bipush (pc := 7) dX7_minute_7 rfl (j_cst rfl) ?_
  refine s_icmp_lt (pc := 9) (tgt := 15) dX7_minute_9 (by decide) (fun hc => ?_) (fun hc => ?_)
  · have H := H.1 hc
    refine s_aload_n (pc := 15) dX7_minute_15 rfl ?_
    refine s_getr (pc := 16) dX7_minute_16 fl_X7_41 cSx_0 rfl ?_
    refine s_aload_n (pc := 19) dX7_minute_19 rfl ?_
    refine s_getr (pc := 20) dX7_minute_20 fl_X7_34 cSx_0 rfl ?_
    obtain ⟨post, hct, H⟩ := H
    refine s_callV (pc := 23) (as := [jR 17]) (st := []) (by exact dX7_minute_23) mv_X7_158 ⟨rfl, rfl, Nat.le_of_ble_eq_true rfl, Nat.le_of_ble_eq_true rfl⟩ cSx_22 rfl rfl (Nat.le_of_ble_eq_true rfl) _ rfl hct (fun r1 h2 hp => ?_)
    obtain ⟨rfl, hp⟩ := hp
    have H := H h2 hp
    show WV _ _ _ _ 26 [jR 0] [] h2
    refine s_aload_n (pc := 26) dX7_minute_26 rfl ?_
    refine s_getr (pc := 27) dX7_minute_27 fl_X7_34 cSx_0 rfl ?_
    obtain ⟨post, hct, H⟩ := H
    refine s_callV (pc := 30) (as := []) (st := []) (by exact dX7_minute_30) mv_X7_162 ⟨rfl, rfl, Nat.le_of_ble_eq_true rfl, Nat.le_of_ble_eq_true rfl⟩ cSx_17 rfl rfl (Nat.le_of_ble_eq_true rfl) _ rfl hct (fun r3 h4 hp => ?_)
    obtain ⟨rfl, hp⟩ := hp
    have H := H h4 hp
    show WV _ _ _ _ 33 [jR 0] [] h4
    refine s_aload_n (pc := 33) dX7_minute_33 rfl ?_
    refine s_getr (pc := 34) dX7_minute_34 fl_X7_34 cSx_0 rfl ?_
    refine s_geti (pc := 37) (x := h4.1 17 1) dX7_minute_37 fl_X7_134 cSx_17 rfl rfl ?_
    exact s_iret dX7_minute_40 rfl H
  · have H := H.2 hc
    refine s_bipush (pc := 12) dX7_minute_12 rfl (j_cst rfl) ?_
    exact s_iret dX7_minute_14 rfl H
theorem en_X2_linesFree_17 {x1 x2 : Int} {h : jH} {post : jQ} (k : ∀ G, WV Sx G M_X2_linesFree post 0 [jR 17, jI x1, jI x2, jU] [] h) : CT Sx M_X2_linesFree [jR 17, jI x1, jI x2] h post := CT.of (by decide +kernel) (by simp [j_un]) (Nat.le_of_ble_eq_true rfl) _ rfl k
set_option maxRecDepth 20000 in
theorem vc_X2_linesFree_17_0 {G : jG} {Q : jQ} {x1 x2 : Int} {h : jH}
    (H : WV Sx G M_X2_linesFree Q 2 [jR 17, jI x1, jI x2, jI 0] [] h) :
    WV Sx G M_X2_linesFree Q 0 [jR 17, jI x1, jI x2, jU] [] h := by
  refine s_iconst (pc := 0) dX2_linesFree_0 (j_cst rfl) ?_
  refine s_istore_n (pc := 1) (lv' := [jR 17, jI x1, jI x2, jI 0]) dX2_linesFree_1 (by decide) rfl ?_
  exact H
set_option maxRecDepth 20000 in
theorem vc_X2_linesFree_17_2 {G : jG} {Q : jQ} {x1 x2 x3 : Int} {h : jH}
    (H : ((h.1 2 2) ≤ x3 → Q (some (jI 1)) h) ∧ (¬ (h.1 2 2) ≤ x3 → ((b_and (b_shr x2 x3) 1) = 1 → ∃ post : Int → jH → Prop, CT Sx M_X6_shareLine [jR 2, jI x1, jI x3] h (jPi post) ∧ ∀ (r2 : Int) (h3 : jH), post r2 h3 → ((r2 = 0 → (j_rg (x3 + 1)) ∧ (WV Sx G M_X2_linesFree Q 2 [jR 17, jI x1, jI x2, jI (x3 + 1)] [] h3)) ∧ (¬ r2 = 0 → Q (some (jI 0)) h3))) ∧ (¬ (b_and (b_shr x2 x3) 1) = 1 → (j_rg (x3 + 1)) ∧ (WV Sx G M_X2_linesFree Q 2 [jR 17, jI x1, jI x2, jI (x3 + 1)] [] h)))) :
    WV Sx G M_X2_linesFree Q 2 [jR 17, jI x1, jI x2, jI x3] [] h := by
  refine s_iload_n (pc := 2) dX2_linesFree_2 rfl ?_
  refine s_aload_n (pc := 3) dX2_linesFree_3 rfl ?_
  refine s_getr (pc := 4) dX2_linesFree_4 fl_X2_24 cSx_17 rfl ?_
  refine s_geti (pc := 7) (x := h.1 2 2) dX2_linesFree_7 fl_X2_44 cSx_2 rfl rfl ?_
  refine s_icmp_ge (pc := 10) (tgt := 42) dX2_linesFree_10 (by decide) (fun hc => ?_) (fun hc => ?_)
  · have H := H.1 hc
    refine s_iconst (pc := 42) dX2_linesFree_42 (j_cst rfl) ?_
    exact s_zret dX2_linesFree_43 rfl (Or.inr rfl) H
  · have H := H.2 hc
    refine s_iload_n (pc := 13) dX2_linesFree_13 rfl ?_
    refine s_iload_n (pc := 14) dX2_linesFree_14 rfl ?_
    refine s_ishr (pc := 15) dX2_linesFree_15 ?_
    refine s_iconst (pc := 16) dX2_linesFree_16 (j_cst rfl) ?_
    refine s_iand (pc := 17) dX2_linesFree_17 ?_
    refine s_iconst (pc := 18) dX2_linesFree_18 (j_cst rfl) ?_
    refine s_icmp_ne (pc := 19) (tgt := 36) dX2_linesFree_19 (by decide) (fun hc => ?_) (fun hc => ?_)
    · have H := H.2 hc
      obtain ⟨k1, H⟩ := H
      refine s_iinc (pc := 36) (lv' := [jR 17, jI x1, jI x2, jI (x3 + 1)]) dX2_linesFree_36 rfl (by decide) k1 rfl ?_
      refine s_goto (pc := 39) (tgt := 2) dX2_linesFree_39 (by decide) ?_
      exact H
    · have H := H.1 hc
      refine s_aload_n (pc := 22) dX2_linesFree_22 rfl ?_
      refine s_getr (pc := 23) dX2_linesFree_23 fl_X2_24 cSx_17 rfl ?_
      refine s_iload_n (pc := 26) dX2_linesFree_26 rfl ?_
      refine s_iload_n (pc := 27) dX2_linesFree_27 rfl ?_
      obtain ⟨post, hct, H⟩ := H
      refine s_callV (pc := 28) (as := [jI x1, jI x3]) (st := []) (by exact dX2_linesFree_28) mv_X2_56 ⟨rfl, rfl, Nat.le_of_ble_eq_true rfl, Nat.le_of_ble_eq_true rfl⟩ cSx_2 rfl rfl (Nat.le_of_ble_eq_true rfl) _ rfl hct (fun r2 h3 hp => ?_)
      obtain ⟨r2, rfl, hp⟩ := hp
      have H := H r2 h3 hp
      show WV _ _ _ _ 31 [jR 17, jI x1, jI x2, jI x3] [jI r2] h3
      refine s_if_eq (pc := 31) (tgt := 36) dX2_linesFree_31 (by decide) (fun hc => ?_) (fun hc => ?_)
      · have H := H.1 hc
        obtain ⟨k4, H⟩ := H
        refine s_iinc (pc := 36) (lv' := [jR 17, jI x1, jI x2, jI (x3 + 1)]) dX2_linesFree_36 rfl (by decide) k4 rfl ?_
        refine s_goto (pc := 39) (tgt := 2) dX2_linesFree_39 (by decide) ?_
        exact H
      · have H := H.2 hc
        refine s_iconst (pc := 34) dX2_linesFree_34 (j_cst rfl) ?_
        exact s_zret dX2_linesFree_35 rfl (Or.inl rfl) H
theorem en_X2_hasRoom_17 {x1 x2 x3 : Int} {h : jH} {post : jQ} (k : ∀ G, WV Sx G M_X2_hasRoom post 0 [jR 17, jI x1, jI x2, jI x3] [] h) : CT Sx M_X2_hasRoom [jR 17, jI x1, jI x2, jI x3] h post := CT.of (by decide +kernel) (by simp [j_un]) (Nat.le_of_ble_eq_true rfl) _ rfl k
set_option maxRecDepth 20000 in
theorem vc_X2_hasRoom_17_0 {G : jG} {Q : jQ} {x1 x2 x3 : Int} {h : jH}
    (H : ∃ post : Int → jH → Prop, CT Sx M_J6_bitCount_0f7a4 [jI x2] h (jPi post) ∧ ∀ (r1 : Int) (h2 : jH), post r1 h2 → ((x3 ≤ r1 → Q (some (jI 0)) h2) ∧ (¬ x3 ≤ r1 → ∃ post : Int → jH → Prop, CT Sx M_X2_linesFree [jR 17, jI x1, jI x2] h2 (jPi post) ∧ ∀ (r3 : Int) (h4 : jH), post r3 h4 → ((r3 = 0 → Q (some (jI 0)) h4) ∧ (¬ r3 = 0 → Q (some (jI 1)) h4))))) :
    WV Sx G M_X2_hasRoom Q 0 [jR 17, jI x1, jI x2, jI x3] [] h := by
  refine s_iload_n (pc := 0) dX2_hasRoom_0 rfl ?_
  obtain ⟨post, hct, H⟩ := H
  refine s_callS (pc := 1) (as := [jI x2]) (st := []) (by exact dX2_hasRoom_1) ms_X2_60 ⟨rfl, rfl, Nat.le_of_ble_eq_true rfl, Nat.le_of_ble_eq_true rfl⟩ (Nat.le_of_ble_eq_true rfl) _ rfl hct (fun r1 h2 hp => ?_)
  obtain ⟨r1, rfl, hp⟩ := hp
  have H := H r1 h2 hp
  show WV _ _ _ _ 4 [jR 17, jI x1, jI x2, jI x3] [jI r1] h2
  refine s_iload_n (pc := 4) dX2_hasRoom_4 rfl ?_
  refine s_icmp_ge (pc := 5) (tgt := 21) dX2_hasRoom_5 (by decide) (fun hc => ?_) (fun hc => ?_)
  · have H := H.1 hc
    refine s_iconst (pc := 21) dX2_hasRoom_21 (j_cst rfl) ?_
    exact s_zret dX2_hasRoom_22 rfl (Or.inl rfl) H
  · have H := H.2 hc
    refine s_aload_n (pc := 8) dX2_hasRoom_8 rfl ?_
    refine s_iload_n (pc := 9) dX2_hasRoom_9 rfl ?_
    refine s_iload_n (pc := 10) dX2_hasRoom_10 rfl ?_
    obtain ⟨post, hct, H⟩ := H
    refine s_callV (pc := 11) (as := [jI x1, jI x2]) (st := []) (by exact dX2_hasRoom_11) mv_X2_66 ⟨rfl, rfl, Nat.le_of_ble_eq_true rfl, Nat.le_of_ble_eq_true rfl⟩ cSx_17 rfl rfl (Nat.le_of_ble_eq_true rfl) _ rfl hct (fun r3 h4 hp => ?_)
    obtain ⟨r3, rfl, hp⟩ := hp
    have H := H r3 h4 hp
    show WV _ _ _ _ 14 [jR 17, jI x1, jI x2, jI x3] [jI r3] h4
    refine s_if_eq (pc := 14) (tgt := 21) dX2_hasRoom_14 (by decide) (fun hc => ?_) (fun hc => ?_)
    · have H := H.1 hc
      refine s_iconst (pc := 21) dX2_hasRoom_21 (j_cst rfl) ?_
      exact s_zret dX2_hasRoom_22 rfl (Or.inl rfl) H
    · have H := H.2 hc
      refine s_iconst (pc := 17) dX2_hasRoom_17 (j_cst rfl) ?_
      refine s_goto (pc := 18) (tgt := 22) dX2_hasRoom_18 (by decide) ?_
      exact s_zret dX2_hasRoom_22 rfl (Or.inr rfl) H
theorem en_X2_canBePlugged_17 {x1 x2 : Int} {h : jH} {post : jQ} (k : ∀ G, WV Sx G M_X2_canBePlugged post 0 [jR 17, jI x1, jI x2] [] h) : CT Sx M_X2_canBePlugged [jR 17, jI x1, jI x2] h post := CT.of (by decide +kernel) (by simp [j_un]) (Nat.le_of_ble_eq_true rfl) _ rfl k
set_option maxRecDepth 20000 in
theorem vc_X2_canBePlugged_17_0 {G : jG} {Q : jQ} {x1 x2 : Int} {h : jH}
    (H : (0 ≤ x1 ∧ x1 < 7) ∧ (((h.1 19 (Int.toNat x1)) = 1 → ∃ post : Int → jH → Prop, CT Sx M_X2_those [jR 17, jI 2] h (jPi post) ∧ ∀ (r2 : Int) (h3 : jH), post r2 h3 → (∃ post : Int → jH → Prop, CT Sx M_X2_hasRoom [jR 17, jI x1, jI r2, jI x2] h3 (jPi post) ∧ ∀ (r4 : Int) (h5 : jH), post r4 h5 → ((r4 = 0 → Q (some (jI 0)) h5) ∧ (¬ r4 = 0 → Q (some (jI 1)) h5)))) ∧ (¬ (h.1 19 (Int.toNat x1)) = 1 → Q (some (jI 0)) h))) :
    WV Sx G M_X2_canBePlugged Q 0 [jR 17, jI x1, jI x2] [] h := by
  refine s_aload_n (pc := 0) dX2_canBePlugged_0 rfl ?_
  refine s_getr (pc := 1) dX2_canBePlugged_1 fl_X2_15 cSx_17 rfl ?_
  refine s_iload_n (pc := 4) dX2_canBePlugged_4 rfl ?_
  obtain ⟨k1, H⟩ := H
  refine s_iald (pc := 5) (x := h.1 19 (Int.toNat x1)) dX2_canBePlugged_5 cSx_19 k1 rfl ?_
  refine s_iconst (pc := 6) dX2_canBePlugged_6 (j_cst rfl) ?_
  refine s_icmp_ne (pc := 7) (tgt := 28) dX2_canBePlugged_7 (by decide) (fun hc => ?_) (fun hc => ?_)
  · have H := H.2 hc
    refine s_iconst (pc := 28) dX2_canBePlugged_28 (j_cst rfl) ?_
    exact s_zret dX2_canBePlugged_29 rfl (Or.inl rfl) H
  · have H := H.1 hc
    refine s_aload_n (pc := 10) dX2_canBePlugged_10 rfl ?_
    refine s_iload_n (pc := 11) dX2_canBePlugged_11 rfl ?_
    refine s_aload_n (pc := 12) dX2_canBePlugged_12 rfl ?_
    refine s_iconst (pc := 13) dX2_canBePlugged_13 (j_cst rfl) ?_
    obtain ⟨post, hct, H⟩ := H
    refine s_callV (pc := 14) (as := [jI 2]) (st := [jI x1, jR 17]) (by exact dX2_canBePlugged_14) mv_X2_69 ⟨rfl, rfl, Nat.le_of_ble_eq_true rfl, Nat.le_of_ble_eq_true rfl⟩ cSx_17 rfl rfl (Nat.le_of_ble_eq_true rfl) _ rfl hct (fun r2 h3 hp => ?_)
    obtain ⟨r2, rfl, hp⟩ := hp
    have H := H r2 h3 hp
    show WV _ _ _ _ 17 [jR 17, jI x1, jI x2] [jI r2, jI x1, jR 17] h3
    refine s_iload_n (pc := 17) dX2_canBePlugged_17 rfl ?_
    obtain ⟨post, hct, H⟩ := H
    refine s_callV (pc := 18) (as := [jI x1, jI r2, jI x2]) (st := []) (by exact dX2_canBePlugged_18) mv_X2_72 ⟨rfl, rfl, Nat.le_of_ble_eq_true rfl, Nat.le_of_ble_eq_true rfl⟩ cSx_17 rfl rfl (Nat.le_of_ble_eq_true rfl) _ rfl hct (fun r4 h5 hp => ?_)
    obtain ⟨r4, rfl, hp⟩ := hp
    have H := H r4 h5 hp
    show WV _ _ _ _ 21 [jR 17, jI x1, jI x2] [jI r4] h5
    refine s_if_eq (pc := 21) (tgt := 28) dX2_canBePlugged_21 (by decide) (fun hc => ?_) (fun hc => ?_)
    · have H := H.1 hc
      refine s_iconst (pc := 28) dX2_canBePlugged_28 (j_cst rfl) ?_
      exact s_zret dX2_canBePlugged_29 rfl (Or.inl rfl) H
    · have H := H.2 hc
      refine s_iconst (pc := 24) dX2_canBePlugged_24 (j_cst rfl) ?_
      refine s_goto (pc := 25) (tgt := 29) dX2_canBePlugged_25 (by decide) ?_
      exact s_zret dX2_canBePlugged_29 rfl (Or.inr rfl) H
theorem en_X2_plug_17 {x1 : Int} {h : jH} {post : jQ} (k : ∀ G, WV Sx G M_X2_plug post 0 [jR 17, jI x1] [] h) : CT Sx M_X2_plug [jR 17, jI x1] h post := CT.of (by decide +kernel) (by simp [j_un]) (Nat.le_of_ble_eq_true rfl) _ rfl k
set_option maxRecDepth 20000 in
theorem vc_X2_plug_17_0 {G : jG} {Q : jQ} {x1 : Int} {h : jH}
    (H : (0 ≤ x1 ∧ x1 < 7) ∧ (Q none (j_up (j_up h 19 (Int.toNat x1) 2) 20 (Int.toNat x1) (h.1 7 (Int.toNat x1))))) :
    WV Sx G M_X2_plug Q 0 [jR 17, jI x1] [] h := by
  refine s_aload_n (pc := 0) dX2_plug_0 rfl ?_
  refine s_getr (pc := 1) dX2_plug_1 fl_X2_15 cSx_17 rfl ?_
  refine s_iload_n (pc := 4) dX2_plug_4 rfl ?_
  refine s_iconst (pc := 5) dX2_plug_5 (j_cst rfl) ?_
  obtain ⟨k1, H⟩ := H
  refine s_iast (pc := 6) dX2_plug_6 cSx_19 k1 ?_
  refine s_aload_n (pc := 7) dX2_plug_7 rfl ?_
  refine s_getr (pc := 8) dX2_plug_8 fl_X2_18 cSx_17 rfl ?_
  refine s_iload_n (pc := 11) dX2_plug_11 rfl ?_
  refine s_aload_n (pc := 12) dX2_plug_12 rfl ?_
  refine s_getr (pc := 13) dX2_plug_13 fl_X2_24 cSx_17 rfl ?_
  refine s_getr (pc := 16) dX2_plug_16 fl_X2_76 cSx_2 rfl ?_
  refine s_iload_n (pc := 19) dX2_plug_19 rfl ?_
  refine s_iald (pc := 20) (x := h.1 7 (Int.toNat x1)) dX2_plug_20 cSx_7 k1 rfl ?_
  refine s_iast (pc := 21) dX2_plug_21 cSx_20 k1 ?_
  exact s_vret dX2_plug_22 rfl H
theorem en_X7_plugs_0 {x1 : Int} {h : jH} {post : jQ} (k : ∀ G, WV Sx G M_X7_plugs post 0 [jR 0, jI x1] [] h) : CT Sx M_X7_plugs [jR 0, jI x1] h post := CT.of (by decide +kernel) (by simp [j_un]) (Nat.le_of_ble_eq_true rfl) _ rfl k
set_option maxRecDepth 20000 in
theorem vc_X7_plugs_0_0 {G : jG} {Q : jQ} {x1 : Int} {h : jH}
    (H : ∃ post : Int → jH → Prop, CT Sx M_X6_hasCall [jR 2, jI x1] h (jPi post) ∧ ∀ (r1 : Int) (h2 : jH), post r1 h2 → ((r1 = 0 → Q (some (jI (-1))) h2) ∧ (¬ r1 = 0 → ∃ post : Int → jH → Prop, CT Sx M_X2_canBePlugged [jR 17, jI x1, jI (h2.1 2 1)] h2 (jPi post) ∧ ∀ (r3 : Int) (h4 : jH), post r3 h4 → ((r3 = 0 → Q (some (jI (-2))) h4) ∧ (¬ r3 = 0 → ∃ post : jH → Prop, CT Sx M_X3_add [jR 22, jR 17] h4 (jPv post) ∧ ∀ (h6 : jH), post h6 → (∃ post : jH → Prop, CT Sx M_X2_plug [jR 17, jI x1] h6 (jPv post) ∧ ∀ (h8 : jH), post h8 → (∃ post : Int → jH → Prop, CT Sx M_X7_freeCords [jR 0] h8 (jPi post) ∧ ∀ (r9 : Int) (h10 : jH), post r9 h10 → (Q (some (jI r9)) h10)))))))) :
    WV Sx G M_X7_plugs Q 0 [jR 0, jI x1] [] h := by
  refine s_aload_n (pc := 0) dX7_plugs_0 rfl ?_
  refine s_getr (pc := 1) dX7_plugs_1 fl_X7_16 cSx_0 rfl ?_
  refine s_iload_n (pc := 4) dX7_plugs_4 rfl ?_
  obtain ⟨post, hct, H⟩ := H
  refine s_callV (pc := 5) (as := [jI x1]) (st := []) (by exact dX7_plugs_5) mv_X7_107 ⟨rfl, rfl, Nat.le_of_ble_eq_true rfl, Nat.le_of_ble_eq_true rfl⟩ cSx_2 rfl rfl (Nat.le_of_ble_eq_true rfl) _ rfl hct (fun r1 h2 hp => ?_)
  obtain ⟨r1, rfl, hp⟩ := hp
  have H := H r1 h2 hp
  show WV _ _ _ _ 8 [jR 0, jI x1] [jI r1] h2
  refine s_if_ne (pc := 8) (tgt := 13) dX7_plugs_8 (by decide) (fun hc => ?_) (fun hc => ?_)
  · have H := H.2 hc
    refine s_aload_n (pc := 13) dX7_plugs_13 rfl ?_
    refine s_getr (pc := 14) dX7_plugs_14 fl_X7_34 cSx_0 rfl ?_
    refine s_iload_n (pc := 17) dX7_plugs_17 rfl ?_
    refine s_aload_n (pc := 18) dX7_plugs_18 rfl ?_
    refine s_getr (pc := 19) dX7_plugs_19 fl_X7_16 cSx_0 rfl ?_
    refine s_geti (pc := 22) (x := h2.1 2 1) dX7_plugs_22 fl_X7_150 cSx_2 rfl rfl ?_
    obtain ⟨post, hct, H⟩ := H
    refine s_callV (pc := 25) (as := [jI x1, jI (h2.1 2 1)]) (st := []) (by exact dX7_plugs_25) mv_X7_165 ⟨rfl, rfl, Nat.le_of_ble_eq_true rfl, Nat.le_of_ble_eq_true rfl⟩ cSx_17 rfl rfl (Nat.le_of_ble_eq_true rfl) _ rfl hct (fun r3 h4 hp => ?_)
    obtain ⟨r3, rfl, hp⟩ := hp
    have H := H r3 h4 hp
    show WV _ _ _ _ 28 [jR 0, jI x1] [jI r3] h4
    refine s_if_ne (pc := 28) (tgt := 34) dX7_plugs_28 (by decide) (fun hc => ?_) (fun hc => ?_)
    · have H := H.2 hc
      refine s_aload_n (pc := 34) dX7_plugs_34 rfl ?_
      refine s_getr (pc := 35) dX7_plugs_35 fl_X7_41 cSx_0 rfl ?_
      refine s_aload_n (pc := 38) dX7_plugs_38 rfl ?_
      refine s_getr (pc := 39) dX7_plugs_39 fl_X7_34 cSx_0 rfl ?_
      obtain ⟨post, hct, H⟩ := H
      refine s_callV (pc := 42) (as := [jR 17]) (st := []) (by exact dX7_plugs_42) mv_X7_158 ⟨rfl, rfl, Nat.le_of_ble_eq_true rfl, Nat.le_of_ble_eq_true rfl⟩ cSx_22 rfl rfl (Nat.le_of_ble_eq_true rfl) _ rfl hct (fun r5 h6 hp => ?_)
      obtain ⟨rfl, hp⟩ := hp
      have H := H h6 hp
      show WV _ _ _ _ 45 [jR 0, jI x1] [] h6
      refine s_aload_n (pc := 45) dX7_plugs_45 rfl ?_
      refine s_getr (pc := 46) dX7_plugs_46 fl_X7_34 cSx_0 rfl ?_
      refine s_iload_n (pc := 49) dX7_plugs_49 rfl ?_
      obtain ⟨post, hct, H⟩ := H
      refine s_callV (pc := 50) (as := [jI x1]) (st := []) (by exact dX7_plugs_50) mv_X7_169 ⟨rfl, rfl, Nat.le_of_ble_eq_true rfl, Nat.le_of_ble_eq_true rfl⟩ cSx_17 rfl rfl (Nat.le_of_ble_eq_true rfl) _ rfl hct (fun r7 h8 hp => ?_)
      obtain ⟨rfl, hp⟩ := hp
      have H := H h8 hp
      show WV _ _ _ _ 53 [jR 0, jI x1] [] h8
      refine s_aload_n (pc := 53) dX7_plugs_53 rfl ?_
      obtain ⟨post, hct, H⟩ := H
      refine s_callV (pc := 54) (as := []) (st := []) (by exact dX7_plugs_54) mv_X7_140 ⟨rfl, rfl, Nat.le_of_ble_eq_true rfl, Nat.le_of_ble_eq_true rfl⟩ cSx_0 rfl rfl (Nat.le_of_ble_eq_true rfl) _ rfl hct (fun r9 h10 hp => ?_)
      obtain ⟨r9, rfl, hp⟩ := hp
      have H := H r9 h10 hp
      show WV _ _ _ _ 57 [jR 0, jI x1] [jI r9] h10
      exact s_iret dX7_plugs_57 rfl H
    · have H := H.1 hc
      refine s_bipush (pc := 31) dX7_plugs_31 rfl (j_cst rfl) ?_
      exact s_iret dX7_plugs_33 rfl H
  · have H := H.1 hc
    refine s_iconst (pc := 11) dX7_plugs_11 (j_cst rfl) ?_
    exact s_iret dX7_plugs_12 rfl H
theorem en_X2_pull_17 {x1 : Int} {h : jH} {post : jQ} (k : ∀ G, WV Sx G M_X2_pull post 0 [jR 17, jI x1] [] h) : CT Sx M_X2_pull [jR 17, jI x1] h post := CT.of (by decide +kernel) (by simp [j_un]) (Nat.le_of_ble_eq_true rfl) _ rfl k
set_option maxRecDepth 20000 in
theorem vc_X2_pull_17_0 {G : jG} {Q : jQ} {x1 : Int} {h : jH}
    (H : (0 ≤ x1 ∧ x1 < 7) ∧ (Q none (j_up (j_up h 19 (Int.toNat x1) 4) 20 (Int.toNat x1) 0))) :
    WV Sx G M_X2_pull Q 0 [jR 17, jI x1] [] h := by
  refine s_aload_n (pc := 0) dX2_pull_0 rfl ?_
  refine s_getr (pc := 1) dX2_pull_1 fl_X2_15 cSx_17 rfl ?_
  refine s_iload_n (pc := 4) dX2_pull_4 rfl ?_
  refine s_iconst (pc := 5) dX2_pull_5 (j_cst rfl) ?_
  obtain ⟨k1, H⟩ := H
  refine s_iast (pc := 6) dX2_pull_6 cSx_19 k1 ?_
  refine s_aload_n (pc := 7) dX2_pull_7 rfl ?_
  refine s_getr (pc := 8) dX2_pull_8 fl_X2_18 cSx_17 rfl ?_
  refine s_iload_n (pc := 11) dX2_pull_11 rfl ?_
  refine s_iconst (pc := 12) dX2_pull_12 (j_cst rfl) ?_
  refine s_iast (pc := 13) dX2_pull_13 cSx_20 k1 ?_
  exact s_vret dX2_pull_14 rfl H
theorem en_X7_pulls_0 {x1 : Int} {h : jH} {post : jQ} (k : ∀ G, WV Sx G M_X7_pulls post 0 [jR 0, jI x1, jU] [] h) : CT Sx M_X7_pulls [jR 0, jI x1] h post := CT.of (by decide +kernel) (by simp [j_un]) (Nat.le_of_ble_eq_true rfl) _ rfl k
set_option maxRecDepth 20000 in
theorem vc_X7_pulls_0_0 {G : jG} {Q : jQ} {x1 : Int} {h : jH}
    (H : ∃ post : Int → jH → Prop, CT Sx M_X6_hasCall [jR 2, jI x1] h (jPi post) ∧ ∀ (r1 : Int) (h2 : jH), post r1 h2 → ((r1 = 0 → Q (some (jI (-1))) h2) ∧ (¬ r1 = 0 → (0 ≤ x1 ∧ x1 < 7) ∧ (((h2.1 19 (Int.toNat x1)) = 2 → ∃ post : jH → Prop, CT Sx M_X3_add [jR 22, jR 17] h2 (jPv post) ∧ ∀ (h5 : jH), post h5 → (∃ post : jH → Prop, CT Sx M_X2_pull [jR 17, jI x1] h5 (jPv post) ∧ ∀ (h7 : jH), post h7 → (Q (some (jI (h2.1 20 (Int.toNat x1)))) h7))) ∧ (¬ (h2.1 19 (Int.toNat x1)) = 2 → Q (some (jI (-2))) h2))))) :
    WV Sx G M_X7_pulls Q 0 [jR 0, jI x1, jU] [] h := by
  refine s_aload_n (pc := 0) dX7_pulls_0 rfl ?_
  refine s_getr (pc := 1) dX7_pulls_1 fl_X7_16 cSx_0 rfl ?_
  refine s_iload_n (pc := 4) dX7_pulls_4 rfl ?_
  obtain ⟨post, hct, H⟩ := H
  refine s_callV (pc := 5) (as := [jI x1]) (st := []) (by exact dX7_pulls_5) mv_X7_107 ⟨rfl, rfl, Nat.le_of_ble_eq_true rfl, Nat.le_of_ble_eq_true rfl⟩ cSx_2 rfl rfl (Nat.le_of_ble_eq_true rfl) _ rfl hct (fun r1 h2 hp => ?_)
  obtain ⟨r1, rfl, hp⟩ := hp
  have H := H r1 h2 hp
  show WV _ _ _ _ 8 [jR 0, jI x1, jU] [jI r1] h2
  refine s_if_ne (pc := 8) (tgt := 13) dX7_pulls_8 (by decide) (fun hc => ?_) (fun hc => ?_)
  · have H := H.2 hc
    refine s_aload_n (pc := 13) dX7_pulls_13 rfl ?_
    refine s_getr (pc := 14) dX7_pulls_14 fl_X7_34 cSx_0 rfl ?_
    refine s_getr (pc := 17) dX7_pulls_17 fl_X7_125 cSx_17 rfl ?_
    refine s_iload_n (pc := 20) dX7_pulls_20 rfl ?_
    obtain ⟨k3, H⟩ := H
    refine s_iald (pc := 21) (x := h2.1 19 (Int.toNat x1)) dX7_pulls_21 cSx_19 k3 rfl ?_
    refine s_iconst (pc := 22) dX7_pulls_22 (j_cst rfl) ?_
    refine s_icmp_eq (pc := 23) (tgt := 29) dX7_pulls_23 (by decide) (fun hc => ?_) (fun hc => ?_)
    · have H := H.1 hc
      refine s_aload_n (pc := 29) dX7_pulls_29 rfl ?_
      refine s_getr (pc := 30) dX7_pulls_30 fl_X7_34 cSx_0 rfl ?_
      refine s_getr (pc := 33) dX7_pulls_33 fl_X7_128 cSx_17 rfl ?_
      refine s_iload_n (pc := 36) dX7_pulls_36 rfl ?_
      refine s_iald (pc := 37) (x := h2.1 20 (Int.toNat x1)) dX7_pulls_37 cSx_20 k3 rfl ?_
      refine s_istore_n (pc := 38) (lv' := [jR 0, jI x1, jI (h2.1 20 (Int.toNat x1))]) dX7_pulls_38 (by decide) rfl ?_
      refine s_aload_n (pc := 39) dX7_pulls_39 rfl ?_
      refine s_getr (pc := 40) dX7_pulls_40 fl_X7_41 cSx_0 rfl ?_
      refine s_aload_n (pc := 43) dX7_pulls_43 rfl ?_
      refine s_getr (pc := 44) dX7_pulls_44 fl_X7_34 cSx_0 rfl ?_
      obtain ⟨post, hct, H⟩ := H
      refine s_callV (pc := 47) (as := [jR 17]) (st := []) (by exact dX7_pulls_47) mv_X7_158 ⟨rfl, rfl, Nat.le_of_ble_eq_true rfl, Nat.le_of_ble_eq_true rfl⟩ cSx_22 rfl rfl (Nat.le_of_ble_eq_true rfl) _ rfl hct (fun r4 h5 hp => ?_)
      obtain ⟨rfl, hp⟩ := hp
      have H := H h5 hp
      show WV _ _ _ _ 50 [jR 0, jI x1, jI (h2.1 20 (Int.toNat x1))] [] h5
      refine s_aload_n (pc := 50) dX7_pulls_50 rfl ?_
      refine s_getr (pc := 51) dX7_pulls_51 fl_X7_34 cSx_0 rfl ?_
      refine s_iload_n (pc := 54) dX7_pulls_54 rfl ?_
      obtain ⟨post, hct, H⟩ := H
      refine s_callV (pc := 55) (as := [jI x1]) (st := []) (by exact dX7_pulls_55) mv_X7_173 ⟨rfl, rfl, Nat.le_of_ble_eq_true rfl, Nat.le_of_ble_eq_true rfl⟩ cSx_17 rfl rfl (Nat.le_of_ble_eq_true rfl) _ rfl hct (fun r6 h7 hp => ?_)
      obtain ⟨rfl, hp⟩ := hp
      have H := H h7 hp
      show WV _ _ _ _ 58 [jR 0, jI x1, jI (h2.1 20 (Int.toNat x1))] [] h7
      refine s_iload_n (pc := 58) dX7_pulls_58 rfl ?_
      exact s_iret dX7_pulls_59 rfl H
    · have H := H.2 hc
      refine s_bipush (pc := 26) dX7_pulls_26 rfl (j_cst rfl) ?_
      exact s_iret dX7_pulls_28 rfl H
  · have H := H.1 hc
    refine s_iconst (pc := 11) dX7_pulls_11 (j_cst rfl) ?_
    exact s_iret dX7_pulls_12 rfl H
theorem en_X7_exchange_18 {x1 x2 : Int} {h : jH} {post : jQ} (k : ∀ G, WV Sx G M_X7_exchange post 0 [jR 18, jI x1, jI x2, jU] [] h) : CT Sx M_X7_exchange [jR 18, jI x1, jI x2] h post := CT.of (by decide +kernel) (by simp [j_un]) (Nat.le_of_ble_eq_true rfl) _ rfl k
set_option maxRecDepth 20000 in
theorem vc_X7_exchange_18_0 {G : jG} {Q : jQ} {x1 x2 : Int} {h : jH}
    (H : (0 ≤ x1 ∧ x1 < 6) ∧ ((0 ≤ x2 ∧ x2 < 6) ∧ (Q none (j_up (j_up h 18 (Int.toNat x1) (h.1 18 (Int.toNat x2))) 18 (Int.toNat x2) (h.1 18 (Int.toNat x1)))))) :
    WV Sx G M_X7_exchange Q 0 [jR 18, jI x1, jI x2, jU] [] h := by
  refine s_aload_n (pc := 0) dX7_exchange_0 rfl ?_
  refine s_iload_n (pc := 1) dX7_exchange_1 rfl ?_
  obtain ⟨k1, H⟩ := H
  refine s_iald (pc := 2) (x := h.1 18 (Int.toNat x1)) dX7_exchange_2 cSx_18 k1 rfl ?_
  refine s_istore_n (pc := 3) (lv' := [jR 18, jI x1, jI x2, jI (h.1 18 (Int.toNat x1))]) dX7_exchange_3 (by decide) rfl ?_
  refine s_aload_n (pc := 4) dX7_exchange_4 rfl ?_
  refine s_iload_n (pc := 5) dX7_exchange_5 rfl ?_
  refine s_aload_n (pc := 6) dX7_exchange_6 rfl ?_
  refine s_iload_n (pc := 7) dX7_exchange_7 rfl ?_
  obtain ⟨k2, H⟩ := H
  refine s_iald (pc := 8) (x := h.1 18 (Int.toNat x2)) dX7_exchange_8 cSx_18 k2 rfl ?_
  refine s_iast (pc := 9) dX7_exchange_9 cSx_18 k1 ?_
  refine s_aload_n (pc := 10) dX7_exchange_10 rfl ?_
  refine s_iload_n (pc := 11) dX7_exchange_11 rfl ?_
  refine s_iload_n (pc := 12) dX7_exchange_12 rfl ?_
  refine s_iast (pc := 13) dX7_exchange_13 cSx_18 k2 ?_
  exact s_vret dX7_exchange_14 rfl H
theorem en_X7_swaps_0 {x1 x2 : Int} {h : jH} {post : jQ} (k : ∀ G, WV Sx G M_X7_swaps post 0 [jR 0, jI x1, jI x2] [] h) : CT Sx M_X7_swaps [jR 0, jI x1, jI x2] h post := CT.of (by decide +kernel) (by simp [j_un]) (Nat.le_of_ble_eq_true rfl) _ rfl k
set_option maxRecDepth 20000 in
theorem vc_X7_swaps_0_0 {G : jG} {Q : jQ} {x1 x2 : Int} {h : jH}
    (H : ∃ post : Int → jH → Prop, CT Sx M_X6_hasLine [jR 2, jI x1] h (jPi post) ∧ ∀ (r1 : Int) (h2 : jH), post r1 h2 → ((r1 = 0 → Q (some (jI (-1))) h2) ∧ (¬ r1 = 0 → ∃ post : Int → jH → Prop, CT Sx M_X6_hasLine [jR 2, jI x2] h2 (jPi post) ∧ ∀ (r3 : Int) (h4 : jH), post r3 h4 → ((r3 = 0 → Q (some (jI (-1))) h4) ∧ (¬ r3 = 0 → (x1 = x2 → Q (some (jI (-1))) h4) ∧ (¬ x1 = x2 → ∃ post : Int → jH → Prop, CT Sx M_X2_engagedBy [jR 17, jI x1] h4 (jPi post) ∧ ∀ (r5 : Int) (h6 : jH), post r5 h6 → ((r5 = (-9) → ∃ post : Int → jH → Prop, CT Sx M_X2_engagedBy [jR 17, jI x2] h6 (jPi post) ∧ ∀ (r7 : Int) (h8 : jH), post r7 h8 → ((r7 = (-9) → ∃ post : jH → Prop, CT Sx M_X3_add [jR 22, jR 17] h8 (jPv post) ∧ ∀ (h10 : jH), post h10 → (∃ post : jH → Prop, CT Sx M_X7_exchange [jR 18, jI x1, jI x2] h10 (jPv post) ∧ ∀ (h12 : jH), post h12 → ((0 ≤ x1 ∧ x1 < 6) ∧ (Q (some (jI (h12.1 18 (Int.toNat x1)))) h12)))) ∧ (¬ r7 = (-9) → Q (some (jI (-2))) h8))) ∧ (¬ r5 = (-9) → Q (some (jI (-2))) h6)))))))) :
    WV Sx G M_X7_swaps Q 0 [jR 0, jI x1, jI x2] [] h := by
  refine s_aload_n (pc := 0) dX7_swaps_0 rfl ?_
  refine s_getr (pc := 1) dX7_swaps_1 fl_X7_16 cSx_0 rfl ?_
  refine s_iload_n (pc := 4) dX7_swaps_4 rfl ?_
  obtain ⟨post, hct, H⟩ := H
  refine s_callV (pc := 5) (as := [jI x1]) (st := []) (by exact dX7_swaps_5) mv_X7_97 ⟨rfl, rfl, Nat.le_of_ble_eq_true rfl, Nat.le_of_ble_eq_true rfl⟩ cSx_2 rfl rfl (Nat.le_of_ble_eq_true rfl) _ rfl hct (fun r1 h2 hp => ?_)
  obtain ⟨r1, rfl, hp⟩ := hp
  have H := H r1 h2 hp
  show WV _ _ _ _ 8 [jR 0, jI x1, jI x2] [jI r1] h2
  refine s_if_eq (pc := 8) (tgt := 27) dX7_swaps_8 (by decide) (fun hc => ?_) (fun hc => ?_)
  · have H := H.1 hc
    refine s_iconst (pc := 27) dX7_swaps_27 (j_cst rfl) ?_
    exact s_iret dX7_swaps_28 rfl H
  · have H := H.2 hc
    refine s_aload_n (pc := 11) dX7_swaps_11 rfl ?_
    refine s_getr (pc := 12) dX7_swaps_12 fl_X7_16 cSx_0 rfl ?_
    refine s_iload_n (pc := 15) dX7_swaps_15 rfl ?_
    obtain ⟨post, hct, H⟩ := H
    refine s_callV (pc := 16) (as := [jI x2]) (st := []) (by exact dX7_swaps_16) mv_X7_97 ⟨rfl, rfl, Nat.le_of_ble_eq_true rfl, Nat.le_of_ble_eq_true rfl⟩ cSx_2 rfl rfl (Nat.le_of_ble_eq_true rfl) _ rfl hct (fun r3 h4 hp => ?_)
    obtain ⟨r3, rfl, hp⟩ := hp
    have H := H r3 h4 hp
    show WV _ _ _ _ 19 [jR 0, jI x1, jI x2] [jI r3] h4
    refine s_if_eq (pc := 19) (tgt := 27) dX7_swaps_19 (by decide) (fun hc => ?_) (fun hc => ?_)
    · have H := H.1 hc
      refine s_iconst (pc := 27) dX7_swaps_27 (j_cst rfl) ?_
      exact s_iret dX7_swaps_28 rfl H
    · have H := H.2 hc
      refine s_iload_n (pc := 22) dX7_swaps_22 rfl ?_
      refine s_iload_n (pc := 23) dX7_swaps_23 rfl ?_
      refine s_icmp_ne (pc := 24) (tgt := 29) dX7_swaps_24 (by decide) (fun hc => ?_) (fun hc => ?_)
      · have H := H.2 hc
        refine s_aload_n (pc := 29) dX7_swaps_29 rfl ?_
        refine s_getr (pc := 30) dX7_swaps_30 fl_X7_34 cSx_0 rfl ?_
        refine s_iload_n (pc := 33) dX7_swaps_33 rfl ?_
        obtain ⟨post, hct, H⟩ := H
        refine s_callV (pc := 34) (as := [jI x1]) (st := []) (by exact dX7_swaps_34) mv_X7_104 ⟨rfl, rfl, Nat.le_of_ble_eq_true rfl, Nat.le_of_ble_eq_true rfl⟩ cSx_17 rfl rfl (Nat.le_of_ble_eq_true rfl) _ rfl hct (fun r5 h6 hp => ?_)
        obtain ⟨r5, rfl, hp⟩ := hp
        have H := H r5 h6 hp
        show WV _ _ _ _ 37 [jR 0, jI x1, jI x2] [jI r5] h6
        refine s_bipush (pc := 37) dX7_swaps_37 rfl (j_cst rfl) ?_
        refine s_icmp_ne (pc := 39) (tgt := 55) dX7_swaps_39 (by decide) (fun hc => ?_) (fun hc => ?_)
        · have H := H.2 hc
          refine s_bipush (pc := 55) dX7_swaps_55 rfl (j_cst rfl) ?_
          exact s_iret dX7_swaps_57 rfl H
        · have H := H.1 hc
          refine s_aload_n (pc := 42) dX7_swaps_42 rfl ?_
          refine s_getr (pc := 43) dX7_swaps_43 fl_X7_34 cSx_0 rfl ?_
          refine s_iload_n (pc := 46) dX7_swaps_46 rfl ?_
          obtain ⟨post, hct, H⟩ := H
          refine s_callV (pc := 47) (as := [jI x2]) (st := []) (by exact dX7_swaps_47) mv_X7_104 ⟨rfl, rfl, Nat.le_of_ble_eq_true rfl, Nat.le_of_ble_eq_true rfl⟩ cSx_17 rfl rfl (Nat.le_of_ble_eq_true rfl) _ rfl hct (fun r7 h8 hp => ?_)
          obtain ⟨r7, rfl, hp⟩ := hp
          have H := H r7 h8 hp
          show WV _ _ _ _ 50 [jR 0, jI x1, jI x2] [jI r7] h8
          refine s_bipush (pc := 50) dX7_swaps_50 rfl (j_cst rfl) ?_
          refine s_icmp_eq (pc := 52) (tgt := 58) dX7_swaps_52 (by decide) (fun hc => ?_) (fun hc => ?_)
          · have H := H.1 hc
            refine s_aload_n (pc := 58) dX7_swaps_58 rfl ?_
            refine s_getr (pc := 59) dX7_swaps_59 fl_X7_41 cSx_0 rfl ?_
            refine s_aload_n (pc := 62) dX7_swaps_62 rfl ?_
            refine s_getr (pc := 63) dX7_swaps_63 fl_X7_34 cSx_0 rfl ?_
            obtain ⟨post, hct, H⟩ := H
            refine s_callV (pc := 66) (as := [jR 17]) (st := []) (by exact dX7_swaps_66) mv_X7_158 ⟨rfl, rfl, Nat.le_of_ble_eq_true rfl, Nat.le_of_ble_eq_true rfl⟩ cSx_22 rfl rfl (Nat.le_of_ble_eq_true rfl) _ rfl hct (fun r9 h10 hp => ?_)
            obtain ⟨rfl, hp⟩ := hp
            have H := H h10 hp
            show WV _ _ _ _ 69 [jR 0, jI x1, jI x2] [] h10
            refine s_aload_n (pc := 69) dX7_swaps_69 rfl ?_
            refine s_getr (pc := 70) dX7_swaps_70 fl_X7_34 cSx_0 rfl ?_
            refine s_getr (pc := 73) dX7_swaps_73 fl_X7_101 cSx_17 rfl ?_
            refine s_iload_n (pc := 76) dX7_swaps_76 rfl ?_
            refine s_iload_n (pc := 77) dX7_swaps_77 rfl ?_
            obtain ⟨post, hct, H⟩ := H
            refine s_callS (pc := 78) (as := [jR 18, jI x1, jI x2]) (st := []) (by exact dX7_swaps_78) ms_X7_176 ⟨rfl, rfl, Nat.le_of_ble_eq_true rfl, Nat.le_of_ble_eq_true rfl⟩ (Nat.le_of_ble_eq_true rfl) _ rfl hct (fun r11 h12 hp => ?_)
            obtain ⟨rfl, hp⟩ := hp
            have H := H h12 hp
            show WV _ _ _ _ 81 [jR 0, jI x1, jI x2] [] h12
            refine s_aload_n (pc := 81) dX7_swaps_81 rfl ?_
            refine s_getr (pc := 82) dX7_swaps_82 fl_X7_34 cSx_0 rfl ?_
            refine s_getr (pc := 85) dX7_swaps_85 fl_X7_101 cSx_17 rfl ?_
            refine s_iload_n (pc := 88) dX7_swaps_88 rfl ?_
            obtain ⟨k13, H⟩ := H
            refine s_iald (pc := 89) (x := h12.1 18 (Int.toNat x1)) dX7_swaps_89 cSx_18 k13 rfl ?_
            exact s_iret dX7_swaps_90 rfl H
          · have H := H.2 hc
            refine s_bipush (pc := 55) dX7_swaps_55 rfl (j_cst rfl) ?_
            exact s_iret dX7_swaps_57 rfl H
      · have H := H.1 hc
        refine s_iconst (pc := 27) dX7_swaps_27 (j_cst rfl) ?_
        exact s_iret dX7_swaps_28 rfl H
theorem en_X2_load_17_23 {x2 : Int} {h : jH} {post : jQ} (k : ∀ G, WV Sx G M_X2_load post 0 [jR 17, jR 23, jI x2, jU] [] h) : CT Sx M_X2_load [jR 17, jR 23, jI x2] h post := CT.of (by decide +kernel) (by simp [j_un]) (Nat.le_of_ble_eq_true rfl) _ rfl k
set_option maxRecDepth 20000 in
theorem vc_X2_load_17_23_0 {G : jG} {Q : jQ} {x2 : Int} {h : jH}
    (H : (0 ≤ x2 ∧ x2 < 280) ∧ ((j_rg (x2 + 1)) ∧ ((0 ≤ x2 + 1) ∧ (((x2 + 1) + 6 ≤ 280) ∧ ((j_rg ((x2 + 1) + 6)) ∧ ((0 ≤ (x2 + 1) + 6) ∧ ((((x2 + 1) + 6) + 7 ≤ 280) ∧ ((j_rg (((x2 + 1) + 6) + 7)) ∧ ((0 ≤ ((x2 + 1) + 6) + 7) ∧ (((((x2 + 1) + 6) + 7) + 7 ≤ 280) ∧ ((j_rg (((x2 + 1) + 6) + 14)) ∧ ((0 ≤ ((x2 + 1) + 6) + 14) ∧ (((((x2 + 1) + 6) + 14) + 7 ≤ 280) ∧ (Q none (j_cp (j_cp (j_cp (j_cp (j_up h 17 1 (h.1 23 (Int.toNat x2))) 23 (Int.toNat (x2 + 1)) 18 0 6) 23 (Int.toNat ((x2 + 1) + 6)) 19 0 7) 23 (Int.toNat (((x2 + 1) + 6) + 7)) 20 0 7) 23 (Int.toNat (((x2 + 1) + 6) + 14)) 21 0 7))))))))))))))) :
    WV Sx G M_X2_load Q 0 [jR 17, jR 23, jI x2, jU] [] h := by
  refine s_aload_n (pc := 0) dX2_load_0 rfl ?_
  refine s_aload_n (pc := 1) dX2_load_1 rfl ?_
  refine s_iload_n (pc := 2) dX2_load_2 rfl ?_
  obtain ⟨k1, H⟩ := H
  refine s_iald (pc := 3) (x := h.1 23 (Int.toNat x2)) dX2_load_3 cSx_23 k1 rfl ?_
  refine s_puti (pc := 4) dX2_load_4 fp_X2_28 cSx_17 rfl ?_
  refine s_aload_n (pc := 7) dX2_load_7 rfl ?_
  refine s_iload_n (pc := 8) dX2_load_8 rfl ?_
  refine s_iconst (pc := 9) dX2_load_9 (j_cst rfl) ?_
  obtain ⟨k2, H⟩ := H
  refine s_iadd (pc := 10) dX2_load_10 k2 ?_
  refine s_aload_n (pc := 11) dX2_load_11 rfl ?_
  refine s_getr (pc := 12) dX2_load_12 fl_X2_9 cSx_17 rfl ?_
  refine s_iconst (pc := 15) dX2_load_15 (j_cst rfl) ?_
  refine s_bipush (pc := 16) dX2_load_16 rfl (j_cst rfl) ?_
  obtain ⟨k3, H⟩ := H
  obtain ⟨k4, H⟩ := H
  refine s_copy (pc := 18) dX2_load_18 ma_X2_35 ⟨Nat.le_of_ble_eq_true rfl, Nat.le_of_ble_eq_true rfl⟩ cSx_23 cSx_18 ⟨k3, by decide, by decide, k4, by decide⟩ ?_
  refine s_iload_n (pc := 21) dX2_load_21 rfl ?_
  refine s_iconst (pc := 22) dX2_load_22 (j_cst rfl) ?_
  refine s_iadd (pc := 23) dX2_load_23 k2 ?_
  refine s_bipush (pc := 24) dX2_load_24 rfl (j_cst rfl) ?_
  obtain ⟨k5, H⟩ := H
  refine s_iadd (pc := 26) dX2_load_26 k5 ?_
  refine s_istore_n (pc := 27) (lv' := [jR 17, jR 23, jI x2, jI ((x2 + 1) + 6)]) dX2_load_27 (by decide) rfl ?_
  refine s_aload_n (pc := 28) dX2_load_28 rfl ?_
  refine s_iload_n (pc := 29) dX2_load_29 rfl ?_
  refine s_aload_n (pc := 30) dX2_load_30 rfl ?_
  refine s_getr (pc := 31) dX2_load_31 fl_X2_15 cSx_17 rfl ?_
  refine s_iconst (pc := 34) dX2_load_34 (j_cst rfl) ?_
  refine s_bipush (pc := 35) dX2_load_35 rfl (j_cst rfl) ?_
  obtain ⟨k6, H⟩ := H
  obtain ⟨k7, H⟩ := H
  refine s_copy (pc := 37) dX2_load_37 ma_X2_35 ⟨Nat.le_of_ble_eq_true rfl, Nat.le_of_ble_eq_true rfl⟩ cSx_23 cSx_19 ⟨k6, by decide, by decide, k7, by decide⟩ ?_
  refine s_aload_n (pc := 40) dX2_load_40 rfl ?_
  refine s_iload_n (pc := 41) dX2_load_41 rfl ?_
  refine s_bipush (pc := 42) dX2_load_42 rfl (j_cst rfl) ?_
  obtain ⟨k8, H⟩ := H
  refine s_iadd (pc := 44) dX2_load_44 k8 ?_
  refine s_aload_n (pc := 45) dX2_load_45 rfl ?_
  refine s_getr (pc := 46) dX2_load_46 fl_X2_18 cSx_17 rfl ?_
  refine s_iconst (pc := 49) dX2_load_49 (j_cst rfl) ?_
  refine s_bipush (pc := 50) dX2_load_50 rfl (j_cst rfl) ?_
  obtain ⟨k9, H⟩ := H
  obtain ⟨k10, H⟩ := H
  refine s_copy (pc := 52) dX2_load_52 ma_X2_35 ⟨Nat.le_of_ble_eq_true rfl, Nat.le_of_ble_eq_true rfl⟩ cSx_23 cSx_20 ⟨k9, by decide, by decide, k10, by decide⟩ ?_
  refine s_aload_n (pc := 55) dX2_load_55 rfl ?_
  refine s_iload_n (pc := 56) dX2_load_56 rfl ?_
  refine s_bipush (pc := 57) dX2_load_57 rfl (j_cst rfl) ?_
  obtain ⟨k11, H⟩ := H
  refine s_iadd (pc := 59) dX2_load_59 k11 ?_
  refine s_aload_n (pc := 60) dX2_load_60 rfl ?_
  refine s_getr (pc := 61) dX2_load_61 fl_X2_21 cSx_17 rfl ?_
  refine s_iconst (pc := 64) dX2_load_64 (j_cst rfl) ?_
  refine s_bipush (pc := 65) dX2_load_65 rfl (j_cst rfl) ?_
  obtain ⟨k12, H⟩ := H
  obtain ⟨k13, H⟩ := H
  refine s_copy (pc := 67) dX2_load_67 ma_X2_35 ⟨Nat.le_of_ble_eq_true rfl, Nat.le_of_ble_eq_true rfl⟩ cSx_23 cSx_21 ⟨k12, by decide, by decide, k13, by decide⟩ ?_
  exact s_vret dX2_load_70 rfl H
theorem en_X3_takeBack_22_17 {h : jH} {post : jQ} (k : ∀ G, WV Sx G M_X3_takeBack post 0 [jR 22, jR 17] [] h) : CT Sx M_X3_takeBack [jR 22, jR 17] h post := CT.of (by decide +kernel) (by simp [j_un]) (Nat.le_of_ble_eq_true rfl) _ rfl k
set_option maxRecDepth 20000 in
theorem vc_X3_takeBack_22_17_0 {G : jG} {Q : jQ} {h : jH}
    (H : (j_rg ((h.1 22 1) + 10)) ∧ ((j_rg (((h.1 22 1) + 10) - 1)) ∧ ((j_rg ((h.1 22 2) - 1)) ∧ ((j_rg ((Int.tmod (((h.1 22 1) + 10) - 1) 10) * 28)) ∧ (∃ post : jH → Prop, CT Sx M_X2_load [jR 17, jR 23, jI ((Int.tmod (((h.1 22 1) + 10) - 1) 10) * 28)] (j_up (j_up h 22 1 (Int.tmod (((h.1 22 1) + 10) - 1) 10)) 22 2 ((h.1 22 2) - 1)) (jPv post) ∧ ∀ (h6 : jH), post h6 → (Q none h6)))))) :
    WV Sx G M_X3_takeBack Q 0 [jR 22, jR 17] [] h := by
  refine s_aload_n (pc := 0) dX3_takeBack_0 rfl ?_
  refine s_aload_n (pc := 1) dX3_takeBack_1 rfl ?_
  refine s_geti (pc := 2) (x := h.1 22 1) dX3_takeBack_2 fl_X3_15 cSx_22 rfl rfl ?_
  refine s_bipush (pc := 5) dX3_takeBack_5 rfl (j_cst rfl) ?_
  obtain ⟨k1, H⟩ := H
  refine s_iadd (pc := 7) dX3_takeBack_7 k1 ?_
  refine s_iconst (pc := 8) dX3_takeBack_8 (j_cst rfl) ?_
  obtain ⟨k2, H⟩ := H
  refine s_isub (pc := 9) dX3_takeBack_9 k2 ?_
  refine s_bipush (pc := 10) dX3_takeBack_10 rfl (j_cst rfl) ?_
  refine s_irem (pc := 12) dX3_takeBack_12 (by decide) ?_
  refine s_puti (pc := 13) dX3_takeBack_13 fp_X3_15 cSx_22 rfl ?_
  refine s_aload_n (pc := 16) dX3_takeBack_16 rfl ?_
  refine s_dup (pc := 17) dX3_takeBack_17 rfl ?_
  refine s_geti (pc := 18) (x := h.1 22 2) dX3_takeBack_18 fl_X3_19 cSx_22 rfl rfl ?_
  refine s_iconst (pc := 21) dX3_takeBack_21 (j_cst rfl) ?_
  obtain ⟨k3, H⟩ := H
  refine s_isub (pc := 22) dX3_takeBack_22 k3 ?_
  refine s_puti (pc := 23) dX3_takeBack_23 fp_X3_19 cSx_22 rfl ?_
  refine s_aload_n (pc := 26) dX3_takeBack_26 rfl ?_
  refine s_aload_n (pc := 27) dX3_takeBack_27 rfl ?_
  refine s_getr (pc := 28) dX3_takeBack_28 fl_X3_11 cSx_22 rfl ?_
  refine s_aload_n (pc := 31) dX3_takeBack_31 rfl ?_
  refine s_geti (pc := 32) (x := Int.tmod (((h.1 22 1) + 10) - 1) 10) dX3_takeBack_32 fl_X3_15 cSx_22 rfl rfl ?_
  refine s_bipush (pc := 35) dX3_takeBack_35 rfl (j_cst rfl) ?_
  obtain ⟨k4, H⟩ := H
  refine s_imul (pc := 37) dX3_takeBack_37 k4 ?_
  obtain ⟨post, hct, H⟩ := H
  refine s_callV (pc := 38) (as := [jR 23, jI ((Int.tmod (((h.1 22 1) + 10) - 1) 10) * 28)]) (st := []) (by exact dX3_takeBack_38) mv_X3_32 ⟨rfl, rfl, Nat.le_of_ble_eq_true rfl, Nat.le_of_ble_eq_true rfl⟩ cSx_17 rfl rfl (Nat.le_of_ble_eq_true rfl) _ rfl hct (fun r5 h6 hp => ?_)
  obtain ⟨rfl, hp⟩ := hp
  have H := H h6 hp
  show WV _ _ _ _ 41 [jR 22, jR 17] [] h6
  exact s_vret dX3_takeBack_41 rfl H
theorem en_X7_undo_0 {h : jH} {post : jQ} (k : ∀ G, WV Sx G M_X7_undo post 0 [jR 0] [] h) : CT Sx M_X7_undo [jR 0] h post := CT.of (by decide +kernel) (by simp [j_un]) (Nat.le_of_ble_eq_true rfl) _ rfl k
set_option maxRecDepth 20000 in
theorem vc_X7_undo_0_0 {G : jG} {Q : jQ} {h : jH}
    (H : ((h.1 22 2) = 0 → Q (some (jI (-2))) h) ∧ (¬ (h.1 22 2) = 0 → ∃ post : jH → Prop, CT Sx M_X3_takeBack [jR 22, jR 17] h (jPv post) ∧ ∀ (h2 : jH), post h2 → (Q (some (jI (h2.1 22 2))) h2))) :
    WV Sx G M_X7_undo Q 0 [jR 0] [] h := by
  refine s_aload_n (pc := 0) dX7_undo_0 rfl ?_
  refine s_getr (pc := 1) dX7_undo_1 fl_X7_41 cSx_0 rfl ?_
  refine s_geti (pc := 4) (x := h.1 22 2) dX7_undo_4 fl_X7_147 cSx_22 rfl rfl ?_
  refine s_if_ne (pc := 7) (tgt := 13) dX7_undo_7 (by decide) (fun hc => ?_) (fun hc => ?_)
  · have H := H.2 hc
    refine s_aload_n (pc := 13) dX7_undo_13 rfl ?_
    refine s_getr (pc := 14) dX7_undo_14 fl_X7_41 cSx_0 rfl ?_
    refine s_aload_n (pc := 17) dX7_undo_17 rfl ?_
    refine s_getr (pc := 18) dX7_undo_18 fl_X7_34 cSx_0 rfl ?_
    obtain ⟨post, hct, H⟩ := H
    refine s_callV (pc := 21) (as := [jR 17]) (st := []) (by exact dX7_undo_21) mv_X7_180 ⟨rfl, rfl, Nat.le_of_ble_eq_true rfl, Nat.le_of_ble_eq_true rfl⟩ cSx_22 rfl rfl (Nat.le_of_ble_eq_true rfl) _ rfl hct (fun r1 h2 hp => ?_)
    obtain ⟨rfl, hp⟩ := hp
    have H := H h2 hp
    show WV _ _ _ _ 24 [jR 0] [] h2
    refine s_aload_n (pc := 24) dX7_undo_24 rfl ?_
    refine s_getr (pc := 25) dX7_undo_25 fl_X7_41 cSx_0 rfl ?_
    refine s_geti (pc := 28) (x := h2.1 22 2) dX7_undo_28 fl_X7_147 cSx_22 rfl rfl ?_
    exact s_iret dX7_undo_31 rfl H
  · have H := H.1 hc
    refine s_bipush (pc := 10) dX7_undo_10 rfl (j_cst rfl) ?_
    exact s_iret dX7_undo_12 rfl H
theorem en_X0_lowest {x0 : Int} {h : jH} {post : jQ} (k : ∀ G, WV Sx G M_X0_lowest post 0 [jI x0, jU] [] h) : CT Sx M_X0_lowest [jI x0] h post := CT.of (by decide +kernel) (by simp [j_un]) (Nat.le_of_ble_eq_true rfl) _ rfl k
set_option maxRecDepth 20000 in
theorem vc_X0_lowest_0 {G : jG} {Q : jQ} {x0 : Int} {h : jH}
    (H : WV Sx G M_X0_lowest Q 2 [jI x0, jI 0] [] h) :
    WV Sx G M_X0_lowest Q 0 [jI x0, jU] [] h := by
  refine s_iconst (pc := 0) dX0_lowest_0 (j_cst rfl) ?_
  refine s_istore_n (pc := 1) (lv' := [jI x0, jI 0]) dX0_lowest_1 (by decide) rfl ?_
  exact H
set_option maxRecDepth 20000 in
theorem vc_X0_lowest_2 {G : jG} {Q : jQ} {x0 x1 : Int} {h : jH}
    (H : (7 ≤ x1 → Q (some (jI (-9))) h) ∧ (¬ 7 ≤ x1 → ((b_and (b_shr x0 x1) 1) = 1 → Q (some (jI x1)) h) ∧ (¬ (b_and (b_shr x0 x1) 1) = 1 → (j_rg (x1 + 1)) ∧ (WV Sx G M_X0_lowest Q 2 [jI x0, jI (x1 + 1)] [] h)))) :
    WV Sx G M_X0_lowest Q 2 [jI x0, jI x1] [] h := by
  refine s_iload_n (pc := 2) dX0_lowest_2 rfl ?_
  refine s_bipush (pc := 3) dX0_lowest_3 rfl (j_cst rfl) ?_
  refine s_icmp_ge (pc := 5) (tgt := 25) dX0_lowest_5 (by decide) (fun hc => ?_) (fun hc => ?_)
  · have H := H.1 hc
    refine s_bipush (pc := 25) dX0_lowest_25 rfl (j_cst rfl) ?_
    exact s_iret dX0_lowest_27 rfl H
  · have H := H.2 hc
    refine s_iload_n (pc := 8) dX0_lowest_8 rfl ?_
    refine s_iload_n (pc := 9) dX0_lowest_9 rfl ?_
    refine s_ishr (pc := 10) dX0_lowest_10 ?_
    refine s_iconst (pc := 11) dX0_lowest_11 (j_cst rfl) ?_
    refine s_iand (pc := 12) dX0_lowest_12 ?_
    refine s_iconst (pc := 13) dX0_lowest_13 (j_cst rfl) ?_
    refine s_icmp_ne (pc := 14) (tgt := 19) dX0_lowest_14 (by decide) (fun hc => ?_) (fun hc => ?_)
    · have H := H.2 hc
      obtain ⟨k1, H⟩ := H
      refine s_iinc (pc := 19) (lv' := [jI x0, jI (x1 + 1)]) dX0_lowest_19 rfl (by decide) k1 rfl ?_
      refine s_goto (pc := 22) (tgt := 2) dX0_lowest_22 (by decide) ?_
      exact H
    · have H := H.1 hc
      refine s_iload_n (pc := 17) dX0_lowest_17 rfl ?_
      exact s_iret dX0_lowest_18 rfl H
theorem en_X2_linesFree_28 {x1 x2 : Int} {h : jH} {post : jQ} (k : ∀ G, WV Sx G M_X2_linesFree post 0 [jR 28, jI x1, jI x2, jU] [] h) : CT Sx M_X2_linesFree [jR 28, jI x1, jI x2] h post := CT.of (by decide +kernel) (by simp [j_un]) (Nat.le_of_ble_eq_true rfl) _ rfl k
set_option maxRecDepth 20000 in
theorem vc_X2_linesFree_28_0 {G : jG} {Q : jQ} {x1 x2 : Int} {h : jH}
    (H : WV Sx G M_X2_linesFree Q 2 [jR 28, jI x1, jI x2, jI 0] [] h) :
    WV Sx G M_X2_linesFree Q 0 [jR 28, jI x1, jI x2, jU] [] h := by
  refine s_iconst (pc := 0) dX2_linesFree_0 (j_cst rfl) ?_
  refine s_istore_n (pc := 1) (lv' := [jR 28, jI x1, jI x2, jI 0]) dX2_linesFree_1 (by decide) rfl ?_
  exact H
set_option maxRecDepth 20000 in
theorem vc_X2_linesFree_28_2 {G : jG} {Q : jQ} {x1 x2 x3 : Int} {h : jH}
    (H : ((h.1 2 2) ≤ x3 → Q (some (jI 1)) h) ∧ (¬ (h.1 2 2) ≤ x3 → ((b_and (b_shr x2 x3) 1) = 1 → ∃ post : Int → jH → Prop, CT Sx M_X6_shareLine [jR 2, jI x1, jI x3] h (jPi post) ∧ ∀ (r2 : Int) (h3 : jH), post r2 h3 → ((r2 = 0 → (j_rg (x3 + 1)) ∧ (WV Sx G M_X2_linesFree Q 2 [jR 28, jI x1, jI x2, jI (x3 + 1)] [] h3)) ∧ (¬ r2 = 0 → Q (some (jI 0)) h3))) ∧ (¬ (b_and (b_shr x2 x3) 1) = 1 → (j_rg (x3 + 1)) ∧ (WV Sx G M_X2_linesFree Q 2 [jR 28, jI x1, jI x2, jI (x3 + 1)] [] h)))) :
    WV Sx G M_X2_linesFree Q 2 [jR 28, jI x1, jI x2, jI x3] [] h := by
  refine s_iload_n (pc := 2) dX2_linesFree_2 rfl ?_
  refine s_aload_n (pc := 3) dX2_linesFree_3 rfl ?_
  refine s_getr (pc := 4) dX2_linesFree_4 fl_X2_24 cSx_28 rfl ?_
  refine s_geti (pc := 7) (x := h.1 2 2) dX2_linesFree_7 fl_X2_44 cSx_2 rfl rfl ?_
  refine s_icmp_ge (pc := 10) (tgt := 42) dX2_linesFree_10 (by decide) (fun hc => ?_) (fun hc => ?_)
  · have H := H.1 hc
    refine s_iconst (pc := 42) dX2_linesFree_42 (j_cst rfl) ?_
    exact s_zret dX2_linesFree_43 rfl (Or.inr rfl) H
  · have H := H.2 hc
    refine s_iload_n (pc := 13) dX2_linesFree_13 rfl ?_
    refine s_iload_n (pc := 14) dX2_linesFree_14 rfl ?_
    refine s_ishr (pc := 15) dX2_linesFree_15 ?_
    refine s_iconst (pc := 16) dX2_linesFree_16 (j_cst rfl) ?_
    refine s_iand (pc := 17) dX2_linesFree_17 ?_
    refine s_iconst (pc := 18) dX2_linesFree_18 (j_cst rfl) ?_
    refine s_icmp_ne (pc := 19) (tgt := 36) dX2_linesFree_19 (by decide) (fun hc => ?_) (fun hc => ?_)
    · have H := H.2 hc
      obtain ⟨k1, H⟩ := H
      refine s_iinc (pc := 36) (lv' := [jR 28, jI x1, jI x2, jI (x3 + 1)]) dX2_linesFree_36 rfl (by decide) k1 rfl ?_
      refine s_goto (pc := 39) (tgt := 2) dX2_linesFree_39 (by decide) ?_
      exact H
    · have H := H.1 hc
      refine s_aload_n (pc := 22) dX2_linesFree_22 rfl ?_
      refine s_getr (pc := 23) dX2_linesFree_23 fl_X2_24 cSx_28 rfl ?_
      refine s_iload_n (pc := 26) dX2_linesFree_26 rfl ?_
      refine s_iload_n (pc := 27) dX2_linesFree_27 rfl ?_
      obtain ⟨post, hct, H⟩ := H
      refine s_callV (pc := 28) (as := [jI x1, jI x3]) (st := []) (by exact dX2_linesFree_28) mv_X2_56 ⟨rfl, rfl, Nat.le_of_ble_eq_true rfl, Nat.le_of_ble_eq_true rfl⟩ cSx_2 rfl rfl (Nat.le_of_ble_eq_true rfl) _ rfl hct (fun r2 h3 hp => ?_)
      obtain ⟨r2, rfl, hp⟩ := hp
      have H := H r2 h3 hp
      show WV _ _ _ _ 31 [jR 28, jI x1, jI x2, jI x3] [jI r2] h3
      refine s_if_eq (pc := 31) (tgt := 36) dX2_linesFree_31 (by decide) (fun hc => ?_) (fun hc => ?_)
      · have H := H.1 hc
        obtain ⟨k4, H⟩ := H
        refine s_iinc (pc := 36) (lv' := [jR 28, jI x1, jI x2, jI (x3 + 1)]) dX2_linesFree_36 rfl (by decide) k4 rfl ?_
        refine s_goto (pc := 39) (tgt := 2) dX2_linesFree_39 (by decide) ?_
        exact H
      · have H := H.2 hc
        refine s_iconst (pc := 34) dX2_linesFree_34 (j_cst rfl) ?_
        exact s_zret dX2_linesFree_35 rfl (Or.inl rfl) H
theorem en_X2_hasRoom_28 {x1 x2 x3 : Int} {h : jH} {post : jQ} (k : ∀ G, WV Sx G M_X2_hasRoom post 0 [jR 28, jI x1, jI x2, jI x3] [] h) : CT Sx M_X2_hasRoom [jR 28, jI x1, jI x2, jI x3] h post := CT.of (by decide +kernel) (by simp [j_un]) (Nat.le_of_ble_eq_true rfl) _ rfl k
set_option maxRecDepth 20000 in
theorem vc_X2_hasRoom_28_0 {G : jG} {Q : jQ} {x1 x2 x3 : Int} {h : jH}
    (H : ∃ post : Int → jH → Prop, CT Sx M_J6_bitCount_0f7a4 [jI x2] h (jPi post) ∧ ∀ (r1 : Int) (h2 : jH), post r1 h2 → ((x3 ≤ r1 → Q (some (jI 0)) h2) ∧ (¬ x3 ≤ r1 → ∃ post : Int → jH → Prop, CT Sx M_X2_linesFree [jR 28, jI x1, jI x2] h2 (jPi post) ∧ ∀ (r3 : Int) (h4 : jH), post r3 h4 → ((r3 = 0 → Q (some (jI 0)) h4) ∧ (¬ r3 = 0 → Q (some (jI 1)) h4))))) :
    WV Sx G M_X2_hasRoom Q 0 [jR 28, jI x1, jI x2, jI x3] [] h := by
  refine s_iload_n (pc := 0) dX2_hasRoom_0 rfl ?_
  obtain ⟨post, hct, H⟩ := H
  refine s_callS (pc := 1) (as := [jI x2]) (st := []) (by exact dX2_hasRoom_1) ms_X2_60 ⟨rfl, rfl, Nat.le_of_ble_eq_true rfl, Nat.le_of_ble_eq_true rfl⟩ (Nat.le_of_ble_eq_true rfl) _ rfl hct (fun r1 h2 hp => ?_)
  obtain ⟨r1, rfl, hp⟩ := hp
  have H := H r1 h2 hp
  show WV _ _ _ _ 4 [jR 28, jI x1, jI x2, jI x3] [jI r1] h2
  refine s_iload_n (pc := 4) dX2_hasRoom_4 rfl ?_
  refine s_icmp_ge (pc := 5) (tgt := 21) dX2_hasRoom_5 (by decide) (fun hc => ?_) (fun hc => ?_)
  · have H := H.1 hc
    refine s_iconst (pc := 21) dX2_hasRoom_21 (j_cst rfl) ?_
    exact s_zret dX2_hasRoom_22 rfl (Or.inl rfl) H
  · have H := H.2 hc
    refine s_aload_n (pc := 8) dX2_hasRoom_8 rfl ?_
    refine s_iload_n (pc := 9) dX2_hasRoom_9 rfl ?_
    refine s_iload_n (pc := 10) dX2_hasRoom_10 rfl ?_
    obtain ⟨post, hct, H⟩ := H
    refine s_callV (pc := 11) (as := [jI x1, jI x2]) (st := []) (by exact dX2_hasRoom_11) mv_X2_66 ⟨rfl, rfl, Nat.le_of_ble_eq_true rfl, Nat.le_of_ble_eq_true rfl⟩ cSx_28 rfl rfl (Nat.le_of_ble_eq_true rfl) _ rfl hct (fun r3 h4 hp => ?_)
    obtain ⟨r3, rfl, hp⟩ := hp
    have H := H r3 h4 hp
    show WV _ _ _ _ 14 [jR 28, jI x1, jI x2, jI x3] [jI r3] h4
    refine s_if_eq (pc := 14) (tgt := 21) dX2_hasRoom_14 (by decide) (fun hc => ?_) (fun hc => ?_)
    · have H := H.1 hc
      refine s_iconst (pc := 21) dX2_hasRoom_21 (j_cst rfl) ?_
      exact s_zret dX2_hasRoom_22 rfl (Or.inl rfl) H
    · have H := H.2 hc
      refine s_iconst (pc := 17) dX2_hasRoom_17 (j_cst rfl) ?_
      refine s_goto (pc := 18) (tgt := 22) dX2_hasRoom_18 (by decide) ?_
      exact s_zret dX2_hasRoom_22 rfl (Or.inr rfl) H
theorem en_X2_those_28 {x1 : Int} {h : jH} {post : jQ} (k : ∀ G, WV Sx G M_X2_those post 0 [jR 28, jI x1, jU, jU] [] h) : CT Sx M_X2_those [jR 28, jI x1] h post := CT.of (by decide +kernel) (by simp [j_un]) (Nat.le_of_ble_eq_true rfl) _ rfl k
set_option maxRecDepth 20000 in
theorem vc_X2_those_28_0 {G : jG} {Q : jQ} {x1 : Int} {h : jH}
    (H : WV Sx G M_X2_those Q 4 [jR 28, jI x1, jI 0, jI 0] [] h) :
    WV Sx G M_X2_those Q 0 [jR 28, jI x1, jU, jU] [] h := by
  refine s_iconst (pc := 0) dX2_those_0 (j_cst rfl) ?_
  refine s_istore_n (pc := 1) (lv' := [jR 28, jI x1, jI 0, jU]) dX2_those_1 (by decide) rfl ?_
  refine s_iconst (pc := 2) dX2_those_2 (j_cst rfl) ?_
  refine s_istore_n (pc := 3) (lv' := [jR 28, jI x1, jI 0, jI 0]) dX2_those_3 (by decide) rfl ?_
  exact H
set_option maxRecDepth 20000 in
theorem vc_X2_those_28_4 {G : jG} {Q : jQ} {x1 x2 x3 : Int} {h : jH}
    (H : ((h.1 2 2) ≤ x3 → Q (some (jI x2)) h) ∧ (¬ (h.1 2 2) ≤ x3 → (0 ≤ x3 ∧ x3 < 7) ∧ (((h.1 30 (Int.toNat x3)) = x1 → (j_rg (x3 + 1)) ∧ (WV Sx G M_X2_those Q 4 [jR 28, jI x1, jI (b_or x2 (b_shl 1 x3)), jI (x3 + 1)] [] h)) ∧ (¬ (h.1 30 (Int.toNat x3)) = x1 → (j_rg (x3 + 1)) ∧ (WV Sx G M_X2_those Q 4 [jR 28, jI x1, jI x2, jI (x3 + 1)] [] h))))) :
    WV Sx G M_X2_those Q 4 [jR 28, jI x1, jI x2, jI x3] [] h := by
  refine s_iload_n (pc := 4) dX2_those_4 rfl ?_
  refine s_aload_n (pc := 5) dX2_those_5 rfl ?_
  refine s_getr (pc := 6) dX2_those_6 fl_X2_24 cSx_28 rfl ?_
  refine s_geti (pc := 9) (x := h.1 2 2) dX2_those_9 fl_X2_44 cSx_2 rfl rfl ?_
  refine s_icmp_ge (pc := 12) (tgt := 37) dX2_those_12 (by decide) (fun hc => ?_) (fun hc => ?_)
  · have H := H.1 hc
    refine s_iload_n (pc := 37) dX2_those_37 rfl ?_
    exact s_iret dX2_those_38 rfl H
  · have H := H.2 hc
    refine s_aload_n (pc := 15) dX2_those_15 rfl ?_
    refine s_getr (pc := 16) dX2_those_16 fl_X2_15 cSx_28 rfl ?_
    refine s_iload_n (pc := 19) dX2_those_19 rfl ?_
    obtain ⟨k1, H⟩ := H
    refine s_iald (pc := 20) (x := h.1 30 (Int.toNat x3)) dX2_those_20 cSx_30 k1 rfl ?_
    refine s_iload_n (pc := 21) dX2_those_21 rfl ?_
    refine s_icmp_ne (pc := 22) (tgt := 31) dX2_those_22 (by decide) (fun hc => ?_) (fun hc => ?_)
    · have H := H.2 hc
      obtain ⟨k2, H⟩ := H
      refine s_iinc (pc := 31) (lv' := [jR 28, jI x1, jI x2, jI (x3 + 1)]) dX2_those_31 rfl (by decide) k2 rfl ?_
      refine s_goto (pc := 34) (tgt := 4) dX2_those_34 (by decide) ?_
      exact H
    · have H := H.1 hc
      refine s_iload_n (pc := 25) dX2_those_25 rfl ?_
      refine s_iconst (pc := 26) dX2_those_26 (j_cst rfl) ?_
      refine s_iload_n (pc := 27) dX2_those_27 rfl ?_
      refine s_ishl (pc := 28) dX2_those_28 ?_
      refine s_ior (pc := 29) dX2_those_29 ?_
      refine s_istore_n (pc := 30) (lv' := [jR 28, jI x1, jI (b_or x2 (b_shl 1 x3)), jI x3]) dX2_those_30 (by decide) rfl ?_
      obtain ⟨k3, H⟩ := H
      refine s_iinc (pc := 31) (lv' := [jR 28, jI x1, jI (b_or x2 (b_shl 1 x3)), jI (x3 + 1)]) dX2_those_31 rfl (by decide) k3 rfl ?_
      refine s_goto (pc := 34) (tgt := 4) dX2_those_34 (by decide) ?_
      exact H
theorem en_X2_canBePlugged_28 {x1 x2 : Int} {h : jH} {post : jQ} (k : ∀ G, WV Sx G M_X2_canBePlugged post 0 [jR 28, jI x1, jI x2] [] h) : CT Sx M_X2_canBePlugged [jR 28, jI x1, jI x2] h post := CT.of (by decide +kernel) (by simp [j_un]) (Nat.le_of_ble_eq_true rfl) _ rfl k
set_option maxRecDepth 20000 in
theorem vc_X2_canBePlugged_28_0 {G : jG} {Q : jQ} {x1 x2 : Int} {h : jH}
    (H : (0 ≤ x1 ∧ x1 < 7) ∧ (((h.1 30 (Int.toNat x1)) = 1 → ∃ post : Int → jH → Prop, CT Sx M_X2_those [jR 28, jI 2] h (jPi post) ∧ ∀ (r2 : Int) (h3 : jH), post r2 h3 → (∃ post : Int → jH → Prop, CT Sx M_X2_hasRoom [jR 28, jI x1, jI r2, jI x2] h3 (jPi post) ∧ ∀ (r4 : Int) (h5 : jH), post r4 h5 → ((r4 = 0 → Q (some (jI 0)) h5) ∧ (¬ r4 = 0 → Q (some (jI 1)) h5)))) ∧ (¬ (h.1 30 (Int.toNat x1)) = 1 → Q (some (jI 0)) h))) :
    WV Sx G M_X2_canBePlugged Q 0 [jR 28, jI x1, jI x2] [] h := by
  refine s_aload_n (pc := 0) dX2_canBePlugged_0 rfl ?_
  refine s_getr (pc := 1) dX2_canBePlugged_1 fl_X2_15 cSx_28 rfl ?_
  refine s_iload_n (pc := 4) dX2_canBePlugged_4 rfl ?_
  obtain ⟨k1, H⟩ := H
  refine s_iald (pc := 5) (x := h.1 30 (Int.toNat x1)) dX2_canBePlugged_5 cSx_30 k1 rfl ?_
  refine s_iconst (pc := 6) dX2_canBePlugged_6 (j_cst rfl) ?_
  refine s_icmp_ne (pc := 7) (tgt := 28) dX2_canBePlugged_7 (by decide) (fun hc => ?_) (fun hc => ?_)
  · have H := H.2 hc
    refine s_iconst (pc := 28) dX2_canBePlugged_28 (j_cst rfl) ?_
    exact s_zret dX2_canBePlugged_29 rfl (Or.inl rfl) H
  · have H := H.1 hc
    refine s_aload_n (pc := 10) dX2_canBePlugged_10 rfl ?_
    refine s_iload_n (pc := 11) dX2_canBePlugged_11 rfl ?_
    refine s_aload_n (pc := 12) dX2_canBePlugged_12 rfl ?_
    refine s_iconst (pc := 13) dX2_canBePlugged_13 (j_cst rfl) ?_
    obtain ⟨post, hct, H⟩ := H
    refine s_callV (pc := 14) (as := [jI 2]) (st := [jI x1, jR 28]) (by exact dX2_canBePlugged_14) mv_X2_69 ⟨rfl, rfl, Nat.le_of_ble_eq_true rfl, Nat.le_of_ble_eq_true rfl⟩ cSx_28 rfl rfl (Nat.le_of_ble_eq_true rfl) _ rfl hct (fun r2 h3 hp => ?_)
    obtain ⟨r2, rfl, hp⟩ := hp
    have H := H r2 h3 hp
    show WV _ _ _ _ 17 [jR 28, jI x1, jI x2] [jI r2, jI x1, jR 28] h3
    refine s_iload_n (pc := 17) dX2_canBePlugged_17 rfl ?_
    obtain ⟨post, hct, H⟩ := H
    refine s_callV (pc := 18) (as := [jI x1, jI r2, jI x2]) (st := []) (by exact dX2_canBePlugged_18) mv_X2_72 ⟨rfl, rfl, Nat.le_of_ble_eq_true rfl, Nat.le_of_ble_eq_true rfl⟩ cSx_28 rfl rfl (Nat.le_of_ble_eq_true rfl) _ rfl hct (fun r4 h5 hp => ?_)
    obtain ⟨r4, rfl, hp⟩ := hp
    have H := H r4 h5 hp
    show WV _ _ _ _ 21 [jR 28, jI x1, jI x2] [jI r4] h5
    refine s_if_eq (pc := 21) (tgt := 28) dX2_canBePlugged_21 (by decide) (fun hc => ?_) (fun hc => ?_)
    · have H := H.1 hc
      refine s_iconst (pc := 28) dX2_canBePlugged_28 (j_cst rfl) ?_
      exact s_zret dX2_canBePlugged_29 rfl (Or.inl rfl) H
    · have H := H.2 hc
      refine s_iconst (pc := 24) dX2_canBePlugged_24 (j_cst rfl) ?_
      refine s_goto (pc := 25) (tgt := 29) dX2_canBePlugged_25 (by decide) ?_
      exact s_zret dX2_canBePlugged_29 rfl (Or.inr rfl) H
theorem en_X2_plug_28 {x1 : Int} {h : jH} {post : jQ} (k : ∀ G, WV Sx G M_X2_plug post 0 [jR 28, jI x1] [] h) : CT Sx M_X2_plug [jR 28, jI x1] h post := CT.of (by decide +kernel) (by simp [j_un]) (Nat.le_of_ble_eq_true rfl) _ rfl k
set_option maxRecDepth 20000 in
theorem vc_X2_plug_28_0 {G : jG} {Q : jQ} {x1 : Int} {h : jH}
    (H : (0 ≤ x1 ∧ x1 < 7) ∧ (Q none (j_up (j_up h 30 (Int.toNat x1) 2) 31 (Int.toNat x1) (h.1 7 (Int.toNat x1))))) :
    WV Sx G M_X2_plug Q 0 [jR 28, jI x1] [] h := by
  refine s_aload_n (pc := 0) dX2_plug_0 rfl ?_
  refine s_getr (pc := 1) dX2_plug_1 fl_X2_15 cSx_28 rfl ?_
  refine s_iload_n (pc := 4) dX2_plug_4 rfl ?_
  refine s_iconst (pc := 5) dX2_plug_5 (j_cst rfl) ?_
  obtain ⟨k1, H⟩ := H
  refine s_iast (pc := 6) dX2_plug_6 cSx_30 k1 ?_
  refine s_aload_n (pc := 7) dX2_plug_7 rfl ?_
  refine s_getr (pc := 8) dX2_plug_8 fl_X2_18 cSx_28 rfl ?_
  refine s_iload_n (pc := 11) dX2_plug_11 rfl ?_
  refine s_aload_n (pc := 12) dX2_plug_12 rfl ?_
  refine s_getr (pc := 13) dX2_plug_13 fl_X2_24 cSx_28 rfl ?_
  refine s_getr (pc := 16) dX2_plug_16 fl_X2_76 cSx_2 rfl ?_
  refine s_iload_n (pc := 19) dX2_plug_19 rfl ?_
  refine s_iald (pc := 20) (x := h.1 7 (Int.toNat x1)) dX2_plug_20 cSx_7 k1 rfl ?_
  refine s_iast (pc := 21) dX2_plug_21 cSx_31 k1 ?_
  exact s_vret dX2_plug_22 rfl H
theorem en_X0_plugAll_26 {x1 : Int} {h : jH} {post : jQ} (k : ∀ G, WV Sx G M_X0_plugAll post 0 [jR 26, jI x1, jU] [] h) : CT Sx M_X0_plugAll [jR 26, jI x1] h post := CT.of (by decide +kernel) (by simp [j_un]) (Nat.le_of_ble_eq_true rfl) _ rfl k
set_option maxRecDepth 20000 in
theorem vc_X0_plugAll_26_0 {G : jG} {Q : jQ} {x1 : Int} {h : jH}
    (H : WV Sx G M_X0_plugAll Q 2 [jR 26, jI x1, jI 0] [] h) :
    WV Sx G M_X0_plugAll Q 0 [jR 26, jI x1, jU] [] h := by
  refine s_iconst (pc := 0) dX0_plugAll_0 (j_cst rfl) ?_
  refine s_istore_n (pc := 1) (lv' := [jR 26, jI x1, jI 0]) dX0_plugAll_1 (by decide) rfl ?_
  exact H
set_option maxRecDepth 20000 in
theorem vc_X0_plugAll_26_2 {G : jG} {Q : jQ} {x1 x2 : Int} {h : jH}
    (H : ((h.1 2 2) ≤ x2 → Q none h) ∧ (¬ (h.1 2 2) ≤ x2 → (0 ≤ x2 ∧ x2 < 7) ∧ (∃ post : Int → jH → Prop, CT Sx M_X2_canBePlugged [jR 28, jI (h.1 27 (Int.toNat x2)), jI x1] h (jPi post) ∧ ∀ (r2 : Int) (h3 : jH), post r2 h3 → ((r2 = 0 → (j_rg (x2 + 1)) ∧ (WV Sx G M_X0_plugAll Q 2 [jR 26, jI x1, jI (x2 + 1)] [] h3)) ∧ (¬ r2 = 0 → ∃ post : jH → Prop, CT Sx M_X2_plug [jR 28, jI (h3.1 27 (Int.toNat x2))] h3 (jPv post) ∧ ∀ (h6 : jH), post h6 → ((j_rg (x2 + 1)) ∧ (WV Sx G M_X0_plugAll Q 2 [jR 26, jI x1, jI (x2 + 1)] [] h6))))))) :
    WV Sx G M_X0_plugAll Q 2 [jR 26, jI x1, jI x2] [] h := by
  refine s_iload_n (pc := 2) dX0_plugAll_2 rfl ?_
  refine s_aload_n (pc := 3) dX0_plugAll_3 rfl ?_
  refine s_getr (pc := 4) dX0_plugAll_4 fl_X0_19 cSx_26 rfl ?_
  refine s_geti (pc := 7) (x := h.1 2 2) dX0_plugAll_7 fl_X0_60 cSx_2 rfl rfl ?_
  refine s_icmp_ge (pc := 10) (tgt := 49) dX0_plugAll_10 (by decide) (fun hc => ?_) (fun hc => ?_)
  · have H := H.1 hc
    exact s_vret dX0_plugAll_49 rfl H
  · have H := H.2 hc
    refine s_aload_n (pc := 13) dX0_plugAll_13 rfl ?_
    refine s_getr (pc := 14) dX0_plugAll_14 fl_X0_28 cSx_26 rfl ?_
    refine s_aload_n (pc := 17) dX0_plugAll_17 rfl ?_
    refine s_getr (pc := 18) dX0_plugAll_18 fl_X0_9 cSx_26 rfl ?_
    refine s_iload_n (pc := 21) dX0_plugAll_21 rfl ?_
    obtain ⟨k1, H⟩ := H
    refine s_iald (pc := 22) (x := h.1 27 (Int.toNat x2)) dX0_plugAll_22 cSx_27 k1 rfl ?_
    refine s_iload_n (pc := 23) dX0_plugAll_23 rfl ?_
    obtain ⟨post, hct, H⟩ := H
    refine s_callV (pc := 24) (as := [jI (h.1 27 (Int.toNat x2)), jI x1]) (st := []) (by exact dX0_plugAll_24) mv_X0_78 ⟨rfl, rfl, Nat.le_of_ble_eq_true rfl, Nat.le_of_ble_eq_true rfl⟩ cSx_28 rfl rfl (Nat.le_of_ble_eq_true rfl) _ rfl hct (fun r2 h3 hp => ?_)
    obtain ⟨r2, rfl, hp⟩ := hp
    have H := H r2 h3 hp
    show WV _ _ _ _ 27 [jR 26, jI x1, jI x2] [jI r2] h3
    refine s_if_eq (pc := 27) (tgt := 43) dX0_plugAll_27 (by decide) (fun hc => ?_) (fun hc => ?_)
    · have H := H.1 hc
      obtain ⟨k4, H⟩ := H
      refine s_iinc (pc := 43) (lv' := [jR 26, jI x1, jI (x2 + 1)]) dX0_plugAll_43 rfl (by decide) k4 rfl ?_
      refine s_goto (pc := 46) (tgt := 2) dX0_plugAll_46 (by decide) ?_
      exact H
    · have H := H.2 hc
      refine s_aload_n (pc := 30) dX0_plugAll_30 rfl ?_
      refine s_getr (pc := 31) dX0_plugAll_31 fl_X0_28 cSx_26 rfl ?_
      refine s_aload_n (pc := 34) dX0_plugAll_34 rfl ?_
      refine s_getr (pc := 35) dX0_plugAll_35 fl_X0_9 cSx_26 rfl ?_
      refine s_iload_n (pc := 38) dX0_plugAll_38 rfl ?_
      refine s_iald (pc := 39) (x := h3.1 27 (Int.toNat x2)) dX0_plugAll_39 cSx_27 k1 rfl ?_
      obtain ⟨post, hct, H⟩ := H
      refine s_callV (pc := 40) (as := [jI (h3.1 27 (Int.toNat x2))]) (st := []) (by exact dX0_plugAll_40) mv_X0_82 ⟨rfl, rfl, Nat.le_of_ble_eq_true rfl, Nat.le_of_ble_eq_true rfl⟩ cSx_28 rfl rfl (Nat.le_of_ble_eq_true rfl) _ rfl hct (fun r5 h6 hp => ?_)
      obtain ⟨rfl, hp⟩ := hp
      have H := H h6 hp
      show WV _ _ _ _ 43 [jR 26, jI x1, jI x2] [] h6
      obtain ⟨k7, H⟩ := H
      refine s_iinc (pc := 43) (lv' := [jR 26, jI x1, jI (x2 + 1)]) dX0_plugAll_43 rfl (by decide) k7 rfl ?_
      refine s_goto (pc := 46) (tgt := 2) dX0_plugAll_46 (by decide) ?_
      exact H
theorem en_X0_key_26 {x1 x2 : Int} {h : jH} {post : jQ} (k : ∀ G, WV Sx G M_X0_key post 0 [jR 26, jI x1, jI x2] [] h) : CT Sx M_X0_key [jR 26, jI x1, jI x2] h post := CT.of (by decide +kernel) (by simp [j_un]) (Nat.le_of_ble_eq_true rfl) _ rfl k
set_option maxRecDepth 20000 in
theorem vc_X0_key_26_0 {G : jG} {Q : jQ} {x1 x2 : Int} {h : jH}
    (H : (x2 = 0 → (0 ≤ x1 ∧ x1 < 7) ∧ (Q (some (jI (h.1 4 (Int.toNat x1)))) h)) ∧ (x2 = 1 → (0 ≤ x1 ∧ x1 < 7) ∧ ((j_rg (-(h.1 8 (Int.toNat x1)))) ∧ (Q (some (jI (-(h.1 8 (Int.toNat x1))))) h))) ∧ (¬ x2 = 0 ∧ ¬ x2 = 1 → (0 ≤ x1 ∧ x1 < 7) ∧ (Q (some (jI (h.1 7 (Int.toNat x1)))) h))) :
    WV Sx G M_X0_key Q 0 [jR 26, jI x1, jI x2] [] h := by
  refine s_iload_n (pc := 0) dX0_key_0 rfl ?_
  by_cases hc0 : x2 = 0
  · have H := H.1 hc0
    refine s_lookup (pc := 1) (off := 27) (tgt := 28) dX0_key_1 (by decide) (by rw [hc0]; decide) (by decide) ?_
    refine s_aload_n (pc := 28) dX0_key_28 rfl ?_
    refine s_getr (pc := 29) dX0_key_29 fl_X0_19 cSx_26 rfl ?_
    refine s_getr (pc := 32) dX0_key_32 fl_X0_69 cSx_2 rfl ?_
    refine s_iload_n (pc := 35) dX0_key_35 rfl ?_
    obtain ⟨k1, H⟩ := H
    refine s_iald (pc := 36) (x := h.1 4 (Int.toNat x1)) dX0_key_36 cSx_4 k1 rfl ?_
    exact s_iret dX0_key_37 rfl H
  by_cases hc1 : x2 = 1
  · have H := H.2.1 hc1
    refine s_lookup (pc := 1) (off := 37) (tgt := 38) dX0_key_1 (by decide) (by rw [hc1]; decide) (by decide) ?_
    refine s_aload_n (pc := 38) dX0_key_38 rfl ?_
    refine s_getr (pc := 39) dX0_key_39 fl_X0_19 cSx_26 rfl ?_
    refine s_getr (pc := 42) dX0_key_42 fl_X0_72 cSx_2 rfl ?_
    refine s_iload_n (pc := 45) dX0_key_45 rfl ?_
    obtain ⟨k2, H⟩ := H
    refine s_iald (pc := 46) (x := h.1 8 (Int.toNat x1)) dX0_key_46 cSx_8 k2 rfl ?_
    obtain ⟨k3, H⟩ := H
    refine s_ineg (pc := 47) dX0_key_47 k3 ?_
    exact s_iret dX0_key_48 rfl H
  · have H := H.2.2 ⟨hc0, hc1⟩
    refine s_lookup (pc := 1) (off := 48) (tgt := 49) dX0_key_1 (by decide) (by simp only [Op.lookupswitch.offset]; rw [if_neg (by omega), if_neg (by omega)]) (by decide) ?_
    refine s_aload_n (pc := 49) dX0_key_49 rfl ?_
    refine s_getr (pc := 50) dX0_key_50 fl_X0_19 cSx_26 rfl ?_
    refine s_getr (pc := 53) dX0_key_53 fl_X0_75 cSx_2 rfl ?_
    refine s_iload_n (pc := 56) dX0_key_56 rfl ?_
    obtain ⟨k4, H⟩ := H
    refine s_iald (pc := 57) (x := h.1 7 (Int.toNat x1)) dX0_key_57 cSx_7 k4 rfl ?_
    exact s_iret dX0_key_58 rfl H
theorem en_X0_sort_26 {x1 : Int} {h : jH} {post : jQ} (k : ∀ G, WV Sx G M_X0_sort post 0 [jR 26, jI x1, jU, jU] [] h) : CT Sx M_X0_sort [jR 26, jI x1] h post := CT.of (by decide +kernel) (by simp [j_un]) (Nat.le_of_ble_eq_true rfl) _ rfl k
set_option maxRecDepth 20000 in
theorem vc_X0_sort_26_0 {G : jG} {Q : jQ} {x1 : Int} {h : jH}
    (H : WV Sx G M_X0_sort Q 2 [jR 26, jI x1, jI 0, jU] [] h) :
    WV Sx G M_X0_sort Q 0 [jR 26, jI x1, jU, jU] [] h := by
  refine s_iconst (pc := 0) dX0_sort_0 (j_cst rfl) ?_
  refine s_istore_n (pc := 1) (lv' := [jR 26, jI x1, jI 0, jU]) dX0_sort_1 (by decide) rfl ?_
  exact H
set_option maxRecDepth 20000 in
theorem vc_X0_sort_26_2 {G : jG} {Q : jQ} {x1 x2 : Int} {u3 : jV} {h : jH}
    (H : ((h.1 2 2) ≤ x2 → Q none h) ∧ (¬ (h.1 2 2) ≤ x2 → WV Sx G M_X0_sort Q 15 [jR 26, jI x1, jI x2, jI x2] [] h)) :
    WV Sx G M_X0_sort Q 2 [jR 26, jI x1, jI x2, u3] [] h := by
  refine s_iload_n (pc := 2) dX0_sort_2 rfl ?_
  refine s_aload_n (pc := 3) dX0_sort_3 rfl ?_
  refine s_getr (pc := 4) dX0_sort_4 fl_X0_19 cSx_26 rfl ?_
  refine s_geti (pc := 7) (x := h.1 2 2) dX0_sort_7 fl_X0_60 cSx_2 rfl rfl ?_
  refine s_icmp_ge (pc := 10) (tgt := 74) dX0_sort_10 (by decide) (fun hc => ?_) (fun hc => ?_)
  · have H := H.1 hc
    exact s_vret dX0_sort_74 rfl H
  · have H := H.2 hc
    refine s_iload_n (pc := 13) dX0_sort_13 rfl ?_
    refine s_istore_n (pc := 14) (lv' := [jR 26, jI x1, jI x2, jI x2]) dX0_sort_14 (by decide) rfl ?_
    exact H
set_option maxRecDepth 20000 in
theorem vc_X0_sort_26_15 {G : jG} {Q : jQ} {x1 x2 x3 : Int} {h : jH}
    (H : (x3 ≤ 0 → (0 ≤ x3 ∧ x3 < 7) ∧ ((j_rg (x2 + 1)) ∧ (WV Sx G M_X0_sort Q 2 [jR 26, jI x1, jI (x2 + 1), jI x3] [] (j_up h 27 (Int.toNat x3) x2)))) ∧ (¬ x3 ≤ 0 → ∃ post : Int → jH → Prop, CT Sx M_X0_key [jR 26, jI x2, jI x1] h (jPi post) ∧ ∀ (r3 : Int) (h4 : jH), post r3 h4 → ((j_rg (x3 - 1)) ∧ ((0 ≤ x3 - 1 ∧ x3 - 1 < 7) ∧ (∃ post : Int → jH → Prop, CT Sx M_X0_key [jR 26, jI (h4.1 27 (Int.toNat (x3 - 1))), jI x1] h4 (jPi post) ∧ ∀ (r7 : Int) (h8 : jH), post r7 h8 → ((r7 ≤ r3 → (0 ≤ x3 ∧ x3 < 7) ∧ ((j_rg (x2 + 1)) ∧ (WV Sx G M_X0_sort Q 2 [jR 26, jI x1, jI (x2 + 1), jI x3] [] (j_up h8 27 (Int.toNat x3) x2)))) ∧ (¬ r7 ≤ r3 → (0 ≤ x3 ∧ x3 < 7) ∧ ((j_rg (x3 + (-1))) ∧ (WV Sx G M_X0_sort Q 15 [jR 26, jI x1, jI x2, jI (x3 + (-1))] [] (j_up h8 27 (Int.toNat x3) (h8.1 27 (Int.toNat (x3 - 1))))))))))))) :
    WV Sx G M_X0_sort Q 15 [jR 26, jI x1, jI x2, jI x3] [] h := by
  refine s_iload_n (pc := 15) dX0_sort_15 rfl ?_
  refine s_if_le (pc := 16) (tgt := 61) dX0_sort_16 (by decide) (fun hc => ?_) (fun hc => ?_)
  · have H := H.1 hc
    refine s_aload_n (pc := 61) dX0_sort_61 rfl ?_
    refine s_getr (pc := 62) dX0_sort_62 fl_X0_9 cSx_26 rfl ?_
    refine s_iload_n (pc := 65) dX0_sort_65 rfl ?_
    refine s_iload_n (pc := 66) dX0_sort_66 rfl ?_
    obtain ⟨k1, H⟩ := H
    refine s_iast (pc := 67) dX0_sort_67 cSx_27 k1 ?_
    obtain ⟨k2, H⟩ := H
    refine s_iinc (pc := 68) (lv' := [jR 26, jI x1, jI (x2 + 1), jI x3]) dX0_sort_68 rfl (by decide) k2 rfl ?_
    refine s_goto (pc := 71) (tgt := 2) dX0_sort_71 (by decide) ?_
    exact H
  · have H := H.2 hc
    refine s_aload_n (pc := 19) dX0_sort_19 rfl ?_
    refine s_iload_n (pc := 20) dX0_sort_20 rfl ?_
    refine s_iload_n (pc := 21) dX0_sort_21 rfl ?_
    obtain ⟨post, hct, H⟩ := H
    refine s_callV (pc := 22) (as := [jI x2, jI x1]) (st := []) (by exact dX0_sort_22) mv_X0_65 ⟨rfl, rfl, Nat.le_of_ble_eq_true rfl, Nat.le_of_ble_eq_true rfl⟩ cSx_26 rfl rfl (Nat.le_of_ble_eq_true rfl) _ rfl hct (fun r3 h4 hp => ?_)
    obtain ⟨r3, rfl, hp⟩ := hp
    have H := H r3 h4 hp
    show WV _ _ _ _ 25 [jR 26, jI x1, jI x2, jI x3] [jI r3] h4
    refine s_aload_n (pc := 25) dX0_sort_25 rfl ?_
    refine s_aload_n (pc := 26) dX0_sort_26 rfl ?_
    refine s_getr (pc := 27) dX0_sort_27 fl_X0_9 cSx_26 rfl ?_
    refine s_iload_n (pc := 30) dX0_sort_30 rfl ?_
    refine s_iconst (pc := 31) dX0_sort_31 (j_cst rfl) ?_
    obtain ⟨k5, H⟩ := H
    refine s_isub (pc := 32) dX0_sort_32 k5 ?_
    obtain ⟨k6, H⟩ := H
    refine s_iald (pc := 33) (x := h4.1 27 (Int.toNat (x3 - 1))) dX0_sort_33 cSx_27 k6 rfl ?_
    refine s_iload_n (pc := 34) dX0_sort_34 rfl ?_
    obtain ⟨post, hct, H⟩ := H
    refine s_callV (pc := 35) (as := [jI (h4.1 27 (Int.toNat (x3 - 1))), jI x1]) (st := [jI r3]) (by exact dX0_sort_35) mv_X0_65 ⟨rfl, rfl, Nat.le_of_ble_eq_true rfl, Nat.le_of_ble_eq_true rfl⟩ cSx_26 rfl rfl (Nat.le_of_ble_eq_true rfl) _ rfl hct (fun r7 h8 hp => ?_)
    obtain ⟨r7, rfl, hp⟩ := hp
    have H := H r7 h8 hp
    show WV _ _ _ _ 38 [jR 26, jI x1, jI x2, jI x3] [jI r7, jI r3] h8
    refine s_icmp_ge (pc := 38) (tgt := 61) dX0_sort_38 (by decide) (fun hc => ?_) (fun hc => ?_)
    · have H := H.1 hc
      refine s_aload_n (pc := 61) dX0_sort_61 rfl ?_
      refine s_getr (pc := 62) dX0_sort_62 fl_X0_9 cSx_26 rfl ?_
      refine s_iload_n (pc := 65) dX0_sort_65 rfl ?_
      refine s_iload_n (pc := 66) dX0_sort_66 rfl ?_
      obtain ⟨k9, H⟩ := H
      refine s_iast (pc := 67) dX0_sort_67 cSx_27 k9 ?_
      obtain ⟨k10, H⟩ := H
      refine s_iinc (pc := 68) (lv' := [jR 26, jI x1, jI (x2 + 1), jI x3]) dX0_sort_68 rfl (by decide) k10 rfl ?_
      refine s_goto (pc := 71) (tgt := 2) dX0_sort_71 (by decide) ?_
      exact H
    · have H := H.2 hc
      refine s_aload_n (pc := 41) dX0_sort_41 rfl ?_
      refine s_getr (pc := 42) dX0_sort_42 fl_X0_9 cSx_26 rfl ?_
      refine s_iload_n (pc := 45) dX0_sort_45 rfl ?_
      refine s_aload_n (pc := 46) dX0_sort_46 rfl ?_
      refine s_getr (pc := 47) dX0_sort_47 fl_X0_9 cSx_26 rfl ?_
      refine s_iload_n (pc := 50) dX0_sort_50 rfl ?_
      refine s_iconst (pc := 51) dX0_sort_51 (j_cst rfl) ?_
      refine s_isub (pc := 52) dX0_sort_52 k5 ?_
      refine s_iald (pc := 53) (x := h8.1 27 (Int.toNat (x3 - 1))) dX0_sort_53 cSx_27 k6 rfl ?_
      obtain ⟨k11, H⟩ := H
      refine s_iast (pc := 54) dX0_sort_54 cSx_27 k11 ?_
      obtain ⟨k12, H⟩ := H
      refine s_iinc (pc := 55) (lv' := [jR 26, jI x1, jI x2, jI (x3 + (-1))]) dX0_sort_55 rfl (by decide) k12 rfl ?_
      refine s_goto (pc := 58) (tgt := 15) dX0_sort_58 (by decide) ?_
      exact H
theorem en_X2_become_28_17 {h : jH} {post : jQ} (k : ∀ G, WV Sx G M_X2_become post 0 [jR 28, jR 17] [] h) : CT Sx M_X2_become [jR 28, jR 17] h post := CT.of (by decide +kernel) (by simp [j_un]) (Nat.le_of_ble_eq_true rfl) _ rfl k
set_option maxRecDepth 20000 in
theorem vc_X2_become_28_17_0 {G : jG} {Q : jQ} {h : jH}
    (H : Q none (j_cp (j_cp (j_cp (j_cp (j_up h 28 1 (h.1 17 1)) 18 0 29 0 6) 19 0 30 0 7) 20 0 31 0 7) 21 0 32 0 7)) :
    WV Sx G M_X2_become Q 0 [jR 28, jR 17] [] h := by
  refine s_aload_n (pc := 0) dX2_become_0 rfl ?_
  refine s_aload_n (pc := 1) dX2_become_1 rfl ?_
  refine s_geti (pc := 2) (x := h.1 17 1) dX2_become_2 fl_X2_28 cSx_17 rfl rfl ?_
  refine s_puti (pc := 5) dX2_become_5 fp_X2_28 cSx_28 rfl ?_
  refine s_aload_n (pc := 8) dX2_become_8 rfl ?_
  refine s_getr (pc := 9) dX2_become_9 fl_X2_9 cSx_17 rfl ?_
  refine s_iconst (pc := 12) dX2_become_12 (j_cst rfl) ?_
  refine s_aload_n (pc := 13) dX2_become_13 rfl ?_
  refine s_getr (pc := 14) dX2_become_14 fl_X2_9 cSx_28 rfl ?_
  refine s_iconst (pc := 17) dX2_become_17 (j_cst rfl) ?_
  refine s_bipush (pc := 18) dX2_become_18 rfl (j_cst rfl) ?_
  refine s_copy (pc := 20) dX2_become_20 ma_X2_35 ⟨Nat.le_of_ble_eq_true rfl, Nat.le_of_ble_eq_true rfl⟩ cSx_18 cSx_29 ⟨by decide, by decide, by decide, by decide, by decide⟩ ?_
  refine s_aload_n (pc := 23) dX2_become_23 rfl ?_
  refine s_getr (pc := 24) dX2_become_24 fl_X2_15 cSx_17 rfl ?_
  refine s_iconst (pc := 27) dX2_become_27 (j_cst rfl) ?_
  refine s_aload_n (pc := 28) dX2_become_28 rfl ?_
  refine s_getr (pc := 29) dX2_become_29 fl_X2_15 cSx_28 rfl ?_
  refine s_iconst (pc := 32) dX2_become_32 (j_cst rfl) ?_
  refine s_bipush (pc := 33) dX2_become_33 rfl (j_cst rfl) ?_
  refine s_copy (pc := 35) dX2_become_35 ma_X2_35 ⟨Nat.le_of_ble_eq_true rfl, Nat.le_of_ble_eq_true rfl⟩ cSx_19 cSx_30 ⟨by decide, by decide, by decide, by decide, by decide⟩ ?_
  refine s_aload_n (pc := 38) dX2_become_38 rfl ?_
  refine s_getr (pc := 39) dX2_become_39 fl_X2_18 cSx_17 rfl ?_
  refine s_iconst (pc := 42) dX2_become_42 (j_cst rfl) ?_
  refine s_aload_n (pc := 43) dX2_become_43 rfl ?_
  refine s_getr (pc := 44) dX2_become_44 fl_X2_18 cSx_28 rfl ?_
  refine s_iconst (pc := 47) dX2_become_47 (j_cst rfl) ?_
  refine s_bipush (pc := 48) dX2_become_48 rfl (j_cst rfl) ?_
  refine s_copy (pc := 50) dX2_become_50 ma_X2_35 ⟨Nat.le_of_ble_eq_true rfl, Nat.le_of_ble_eq_true rfl⟩ cSx_20 cSx_31 ⟨by decide, by decide, by decide, by decide, by decide⟩ ?_
  refine s_aload_n (pc := 53) dX2_become_53 rfl ?_
  refine s_getr (pc := 54) dX2_become_54 fl_X2_21 cSx_17 rfl ?_
  refine s_iconst (pc := 57) dX2_become_57 (j_cst rfl) ?_
  refine s_aload_n (pc := 58) dX2_become_58 rfl ?_
  refine s_getr (pc := 59) dX2_become_59 fl_X2_21 cSx_28 rfl ?_
  refine s_iconst (pc := 62) dX2_become_62 (j_cst rfl) ?_
  refine s_bipush (pc := 63) dX2_become_63 rfl (j_cst rfl) ?_
  refine s_copy (pc := 65) dX2_become_65 ma_X2_35 ⟨Nat.le_of_ble_eq_true rfl, Nat.le_of_ble_eq_true rfl⟩ cSx_21 cSx_32 ⟨by decide, by decide, by decide, by decide, by decide⟩ ?_
  exact s_vret dX2_become_68 rfl H
theorem en_X2_lacksCord_28 {x1 : Int} {h : jH} {post : jQ} (k : ∀ G, WV Sx G M_X2_lacksCord post 0 [jR 28, jI x1, jU, jU] [] h) : CT Sx M_X2_lacksCord [jR 28, jI x1] h post := CT.of (by decide +kernel) (by simp [j_un]) (Nat.le_of_ble_eq_true rfl) _ rfl k
set_option maxRecDepth 20000 in
theorem vc_X2_lacksCord_28_0 {G : jG} {Q : jQ} {x1 : Int} {h : jH}
    (H : ∃ post : Int → jH → Prop, CT Sx M_X2_those [jR 28, jI 2] h (jPi post) ∧ ∀ (r1 : Int) (h2 : jH), post r1 h2 → (∃ post : Int → jH → Prop, CT Sx M_J6_bitCount_0f7a4 [jI r1] h2 (jPi post) ∧ ∀ (r3 : Int) (h4 : jH), post r3 h4 → ((x1 ≤ r3 → WV Sx G M_X2_lacksCord Q 18 [jR 28, jI x1, jI r1, jI 0] [] h4) ∧ (¬ x1 ≤ r3 → Q (some (jI 0)) h4)))) :
    WV Sx G M_X2_lacksCord Q 0 [jR 28, jI x1, jU, jU] [] h := by
  refine s_aload_n (pc := 0) dX2_lacksCord_0 rfl ?_
  refine s_iconst (pc := 1) dX2_lacksCord_1 (j_cst rfl) ?_
  obtain ⟨post, hct, H⟩ := H
  refine s_callV (pc := 2) (as := [jI 2]) (st := []) (by exact dX2_lacksCord_2) mv_X2_69 ⟨rfl, rfl, Nat.le_of_ble_eq_true rfl, Nat.le_of_ble_eq_true rfl⟩ cSx_28 rfl rfl (Nat.le_of_ble_eq_true rfl) _ rfl hct (fun r1 h2 hp => ?_)
  obtain ⟨r1, rfl, hp⟩ := hp
  have H := H r1 h2 hp
  show WV _ _ _ _ 5 [jR 28, jI x1, jU, jU] [jI r1] h2
  refine s_istore_n (pc := 5) (lv' := [jR 28, jI x1, jI r1, jU]) dX2_lacksCord_5 (by decide) rfl ?_
  refine s_iload_n (pc := 6) dX2_lacksCord_6 rfl ?_
  obtain ⟨post, hct, H⟩ := H
  refine s_callS (pc := 7) (as := [jI r1]) (st := []) (by exact dX2_lacksCord_7) ms_X2_60 ⟨rfl, rfl, Nat.le_of_ble_eq_true rfl, Nat.le_of_ble_eq_true rfl⟩ (Nat.le_of_ble_eq_true rfl) _ rfl hct (fun r3 h4 hp => ?_)
  obtain ⟨r3, rfl, hp⟩ := hp
  have H := H r3 h4 hp
  show WV _ _ _ _ 10 [jR 28, jI x1, jI r1, jU] [jI r3] h4
  refine s_iload_n (pc := 10) dX2_lacksCord_10 rfl ?_
  refine s_icmp_ge (pc := 11) (tgt := 16) dX2_lacksCord_11 (by decide) (fun hc => ?_) (fun hc => ?_)
  · have H := H.1 hc
    refine s_iconst (pc := 16) dX2_lacksCord_16 (j_cst rfl) ?_
    refine s_istore_n (pc := 17) (lv' := [jR 28, jI x1, jI r1, jI 0]) dX2_lacksCord_17 (by decide) rfl ?_
    exact H
  · have H := H.2 hc
    refine s_iconst (pc := 14) dX2_lacksCord_14 (j_cst rfl) ?_
    exact s_zret dX2_lacksCord_15 rfl (Or.inl rfl) H
set_option maxRecDepth 20000 in
theorem vc_X2_lacksCord_28_18 {G : jG} {Q : jQ} {x1 x2 x3 : Int} {h : jH}
    (H : ((h.1 2 2) ≤ x3 → Q (some (jI 0)) h) ∧ (¬ (h.1 2 2) ≤ x3 → (0 ≤ x3 ∧ x3 < 7) ∧ (((h.1 30 (Int.toNat x3)) = 1 → ∃ post : Int → jH → Prop, CT Sx M_X2_linesFree [jR 28, jI x3, jI x2] h (jPi post) ∧ ∀ (r3 : Int) (h4 : jH), post r3 h4 → ((r3 = 0 → (j_rg (x3 + 1)) ∧ (WV Sx G M_X2_lacksCord Q 18 [jR 28, jI x1, jI x2, jI (x3 + 1)] [] h4)) ∧ (¬ r3 = 0 → Q (some (jI 1)) h4))) ∧ (¬ (h.1 30 (Int.toNat x3)) = 1 → (j_rg (x3 + 1)) ∧ (WV Sx G M_X2_lacksCord Q 18 [jR 28, jI x1, jI x2, jI (x3 + 1)] [] h))))) :
    WV Sx G M_X2_lacksCord Q 18 [jR 28, jI x1, jI x2, jI x3] [] h := by
  refine s_iload_n (pc := 18) dX2_lacksCord_18 rfl ?_
  refine s_aload_n (pc := 19) dX2_lacksCord_19 rfl ?_
  refine s_getr (pc := 20) dX2_lacksCord_20 fl_X2_24 cSx_28 rfl ?_
  refine s_geti (pc := 23) (x := h.1 2 2) dX2_lacksCord_23 fl_X2_44 cSx_2 rfl rfl ?_
  refine s_icmp_ge (pc := 26) (tgt := 56) dX2_lacksCord_26 (by decide) (fun hc => ?_) (fun hc => ?_)
  · have H := H.1 hc
    refine s_iconst (pc := 56) dX2_lacksCord_56 (j_cst rfl) ?_
    exact s_zret dX2_lacksCord_57 rfl (Or.inl rfl) H
  · have H := H.2 hc
    refine s_aload_n (pc := 29) dX2_lacksCord_29 rfl ?_
    refine s_getr (pc := 30) dX2_lacksCord_30 fl_X2_15 cSx_28 rfl ?_
    refine s_iload_n (pc := 33) dX2_lacksCord_33 rfl ?_
    obtain ⟨k1, H⟩ := H
    refine s_iald (pc := 34) (x := h.1 30 (Int.toNat x3)) dX2_lacksCord_34 cSx_30 k1 rfl ?_
    refine s_iconst (pc := 35) dX2_lacksCord_35 (j_cst rfl) ?_
    refine s_icmp_ne (pc := 36) (tgt := 50) dX2_lacksCord_36 (by decide) (fun hc => ?_) (fun hc => ?_)
    · have H := H.2 hc
      obtain ⟨k2, H⟩ := H
      refine s_iinc (pc := 50) (lv' := [jR 28, jI x1, jI x2, jI (x3 + 1)]) dX2_lacksCord_50 rfl (by decide) k2 rfl ?_
      refine s_goto (pc := 53) (tgt := 18) dX2_lacksCord_53 (by decide) ?_
      exact H
    · have H := H.1 hc
      refine s_aload_n (pc := 39) dX2_lacksCord_39 rfl ?_
      refine s_iload_n (pc := 40) dX2_lacksCord_40 rfl ?_
      refine s_iload_n (pc := 41) dX2_lacksCord_41 rfl ?_
      obtain ⟨post, hct, H⟩ := H
      refine s_callV (pc := 42) (as := [jI x3, jI x2]) (st := []) (by exact dX2_lacksCord_42) mv_X2_66 ⟨rfl, rfl, Nat.le_of_ble_eq_true rfl, Nat.le_of_ble_eq_true rfl⟩ cSx_28 rfl rfl (Nat.le_of_ble_eq_true rfl) _ rfl hct (fun r3 h4 hp => ?_)
      obtain ⟨r3, rfl, hp⟩ := hp
      have H := H r3 h4 hp
      show WV _ _ _ _ 45 [jR 28, jI x1, jI x2, jI x3] [jI r3] h4
      refine s_if_eq (pc := 45) (tgt := 50) dX2_lacksCord_45 (by decide) (fun hc => ?_) (fun hc => ?_)
      · have H := H.1 hc
        obtain ⟨k5, H⟩ := H
        refine s_iinc (pc := 50) (lv' := [jR 28, jI x1, jI x2, jI (x3 + 1)]) dX2_lacksCord_50 rfl (by decide) k5 rfl ?_
        refine s_goto (pc := 53) (tgt := 18) dX2_lacksCord_53 (by decide) ?_
        exact H
      · have H := H.2 hc
        refine s_iconst (pc := 48) dX2_lacksCord_48 (j_cst rfl) ?_
        exact s_zret dX2_lacksCord_49 rfl (Or.inr rfl) H
theorem en_X2_letFall_28 {h : jH} {post : jQ} (k : ∀ G, WV Sx G M_X2_letFall post 0 [jR 28, jU] [] h) : CT Sx M_X2_letFall [jR 28] h post := CT.of (by decide +kernel) (by simp [j_un]) (Nat.le_of_ble_eq_true rfl) _ rfl k
set_option maxRecDepth 20000 in
theorem vc_X2_letFall_28_0 {G : jG} {Q : jQ} {h : jH}
    (H : WV Sx G M_X2_letFall Q 2 [jR 28, jI 0] [] h) :
    WV Sx G M_X2_letFall Q 0 [jR 28, jU] [] h := by
  refine s_iconst (pc := 0) dX2_letFall_0 (j_cst rfl) ?_
  refine s_istore_n (pc := 1) (lv' := [jR 28, jI 0]) dX2_letFall_1 (by decide) rfl ?_
  exact H
set_option maxRecDepth 20000 in
theorem vc_X2_letFall_28_2 {G : jG} {Q : jQ} {x1 : Int} {h : jH}
    (H : ((h.1 2 2) ≤ x1 → Q none h) ∧ (¬ (h.1 2 2) ≤ x1 → (0 ≤ x1 ∧ x1 < 7) ∧ (((h.1 30 (Int.toNat x1)) = 0 → ((h.1 4 (Int.toNat x1)) = (h.1 28 1) → (j_rg (x1 + 1)) ∧ (WV Sx G M_X2_letFall Q 2 [jR 28, jI (x1 + 1)] [] (j_up h 30 (Int.toNat x1) 1))) ∧ (¬ (h.1 4 (Int.toNat x1)) = (h.1 28 1) → (j_rg (x1 + 1)) ∧ (WV Sx G M_X2_letFall Q 2 [jR 28, jI (x1 + 1)] [] h))) ∧ (¬ (h.1 30 (Int.toNat x1)) = 0 → (j_rg (x1 + 1)) ∧ (WV Sx G M_X2_letFall Q 2 [jR 28, jI (x1 + 1)] [] h))))) :
    WV Sx G M_X2_letFall Q 2 [jR 28, jI x1] [] h := by
  refine s_iload_n (pc := 2) dX2_letFall_2 rfl ?_
  refine s_aload_n (pc := 3) dX2_letFall_3 rfl ?_
  refine s_getr (pc := 4) dX2_letFall_4 fl_X2_24 cSx_28 rfl ?_
  refine s_geti (pc := 7) (x := h.1 2 2) dX2_letFall_7 fl_X2_44 cSx_2 rfl rfl ?_
  refine s_icmp_ge (pc := 10) (tgt := 51) dX2_letFall_10 (by decide) (fun hc => ?_) (fun hc => ?_)
  · have H := H.1 hc
    exact s_vret dX2_letFall_51 rfl H
  · have H := H.2 hc
    refine s_aload_n (pc := 13) dX2_letFall_13 rfl ?_
    refine s_getr (pc := 14) dX2_letFall_14 fl_X2_15 cSx_28 rfl ?_
    refine s_iload_n (pc := 17) dX2_letFall_17 rfl ?_
    obtain ⟨k1, H⟩ := H
    refine s_iald (pc := 18) (x := h.1 30 (Int.toNat x1)) dX2_letFall_18 cSx_30 k1 rfl ?_
    refine s_if_ne (pc := 19) (tgt := 45) dX2_letFall_19 (by decide) (fun hc => ?_) (fun hc => ?_)
    · have H := H.2 hc
      obtain ⟨k2, H⟩ := H
      refine s_iinc (pc := 45) (lv' := [jR 28, jI (x1 + 1)]) dX2_letFall_45 rfl (by decide) k2 rfl ?_
      refine s_goto (pc := 48) (tgt := 2) dX2_letFall_48 (by decide) ?_
      exact H
    · have H := H.1 hc
      refine s_aload_n (pc := 22) dX2_letFall_22 rfl ?_
      refine s_getr (pc := 23) dX2_letFall_23 fl_X2_24 cSx_28 rfl ?_
      refine s_getr (pc := 26) dX2_letFall_26 fl_X2_47 cSx_2 rfl ?_
      refine s_iload_n (pc := 29) dX2_letFall_29 rfl ?_
      refine s_iald (pc := 30) (x := h.1 4 (Int.toNat x1)) dX2_letFall_30 cSx_4 k1 rfl ?_
      refine s_aload_n (pc := 31) dX2_letFall_31 rfl ?_
      refine s_geti (pc := 32) (x := h.1 28 1) dX2_letFall_32 fl_X2_28 cSx_28 rfl rfl ?_
      refine s_icmp_ne (pc := 35) (tgt := 45) dX2_letFall_35 (by decide) (fun hc => ?_) (fun hc => ?_)
      · have H := H.2 hc
        obtain ⟨k3, H⟩ := H
        refine s_iinc (pc := 45) (lv' := [jR 28, jI (x1 + 1)]) dX2_letFall_45 rfl (by decide) k3 rfl ?_
        refine s_goto (pc := 48) (tgt := 2) dX2_letFall_48 (by decide) ?_
        exact H
      · have H := H.1 hc
        refine s_aload_n (pc := 38) dX2_letFall_38 rfl ?_
        refine s_getr (pc := 39) dX2_letFall_39 fl_X2_15 cSx_28 rfl ?_
        refine s_iload_n (pc := 42) dX2_letFall_42 rfl ?_
        refine s_iconst (pc := 43) dX2_letFall_43 (j_cst rfl) ?_
        refine s_iast (pc := 44) dX2_letFall_44 cSx_30 k1 ?_
        obtain ⟨k4, H⟩ := H
        refine s_iinc (pc := 45) (lv' := [jR 28, jI (x1 + 1)]) dX2_letFall_45 rfl (by decide) k4 rfl ?_
        refine s_goto (pc := 48) (tgt := 2) dX2_letFall_48 (by decide) ?_
        exact H
theorem en_X2_passMinute_28 {h : jH} {post : jQ} (k : ∀ G, WV Sx G M_X2_passMinute post 0 [jR 28, jU] [] h) : CT Sx M_X2_passMinute [jR 28] h post := CT.of (by decide +kernel) (by simp [j_un]) (Nat.le_of_ble_eq_true rfl) _ rfl k
set_option maxRecDepth 20000 in
theorem vc_X2_passMinute_28_0 {G : jG} {Q : jQ} {h : jH}
    (H : WV Sx G M_X2_passMinute Q 2 [jR 28, jI 0] [] h) :
    WV Sx G M_X2_passMinute Q 0 [jR 28, jU] [] h := by
  refine s_iconst (pc := 0) dX2_passMinute_0 (j_cst rfl) ?_
  refine s_istore_n (pc := 1) (lv' := [jR 28, jI 0]) dX2_passMinute_1 (by decide) rfl ?_
  exact H
set_option maxRecDepth 20000 in
theorem vc_X2_passMinute_28_2 {G : jG} {Q : jQ} {x1 : Int} {h : jH}
    (H : ((h.1 2 2) ≤ x1 → (j_rg ((h.1 28 1) + 1)) ∧ (∃ post : jH → Prop, CT Sx M_X2_letFall [jR 28] (j_up h 28 1 ((h.1 28 1) + 1)) (jPv post) ∧ ∀ (h3 : jH), post h3 → (Q none h3))) ∧ (¬ (h.1 2 2) ≤ x1 → (0 ≤ x1 ∧ x1 < 7) ∧ (((h.1 30 (Int.toNat x1)) = 2 → (j_rg ((h.1 31 (Int.toNat x1)) - 1)) ∧ ((0 < ((h.1 31 (Int.toNat x1)) - 1) → (j_rg (x1 + 1)) ∧ (WV Sx G M_X2_passMinute Q 2 [jR 28, jI (x1 + 1)] [] (j_up h 31 (Int.toNat x1) ((h.1 31 (Int.toNat x1)) - 1)))) ∧ (¬ 0 < ((h.1 31 (Int.toNat x1)) - 1) → (j_rg (x1 + 1)) ∧ (WV Sx G M_X2_passMinute Q 2 [jR 28, jI (x1 + 1)] [] (j_up (j_up h 31 (Int.toNat x1) ((h.1 31 (Int.toNat x1)) - 1)) 30 (Int.toNat x1) 3))))) ∧ (¬ (h.1 30 (Int.toNat x1)) = 2 → ((h.1 30 (Int.toNat x1)) = 1 → (j_rg ((h.1 32 (Int.toNat x1)) + 1)) ∧ ((j_rg (x1 + 1)) ∧ (WV Sx G M_X2_passMinute Q 2 [jR 28, jI (x1 + 1)] [] (j_up h 32 (Int.toNat x1) ((h.1 32 (Int.toNat x1)) + 1))))) ∧ (¬ (h.1 30 (Int.toNat x1)) = 1 → (j_rg (x1 + 1)) ∧ (WV Sx G M_X2_passMinute Q 2 [jR 28, jI (x1 + 1)] [] h)))))) :
    WV Sx G M_X2_passMinute Q 2 [jR 28, jI x1] [] h := by
  refine s_iload_n (pc := 2) dX2_passMinute_2 rfl ?_
  refine s_aload_n (pc := 3) dX2_passMinute_3 rfl ?_
  refine s_getr (pc := 4) dX2_passMinute_4 fl_X2_24 cSx_28 rfl ?_
  refine s_geti (pc := 7) (x := h.1 2 2) dX2_passMinute_7 fl_X2_44 cSx_2 rfl rfl ?_
  refine s_icmp_ge (pc := 10) (tgt := 78) dX2_passMinute_10 (by decide) (fun hc => ?_) (fun hc => ?_)
  · have H := H.1 hc
    refine s_aload_n (pc := 78) dX2_passMinute_78 rfl ?_
    refine s_dup (pc := 79) dX2_passMinute_79 rfl ?_
    refine s_geti (pc := 80) (x := h.1 28 1) dX2_passMinute_80 fl_X2_28 cSx_28 rfl rfl ?_
    refine s_iconst (pc := 83) dX2_passMinute_83 (j_cst rfl) ?_
    obtain ⟨k1, H⟩ := H
    refine s_iadd (pc := 84) dX2_passMinute_84 k1 ?_
    refine s_puti (pc := 85) dX2_passMinute_85 fp_X2_28 cSx_28 rfl ?_
    refine s_aload_n (pc := 88) dX2_passMinute_88 rfl ?_
    obtain ⟨post, hct, H⟩ := H
    refine s_callV (pc := 89) (as := []) (st := []) (by exact dX2_passMinute_89) mv_X2_41 ⟨rfl, rfl, Nat.le_of_ble_eq_true rfl, Nat.le_of_ble_eq_true rfl⟩ cSx_28 rfl rfl (Nat.le_of_ble_eq_true rfl) _ rfl hct (fun r2 h3 hp => ?_)
    obtain ⟨rfl, hp⟩ := hp
    have H := H h3 hp
    show WV _ _ _ _ 92 [jR 28, jI x1] [] h3
    exact s_vret dX2_passMinute_92 rfl H
  · have H := H.2 hc
    refine s_aload_n (pc := 13) dX2_passMinute_13 rfl ?_
    refine s_getr (pc := 14) dX2_passMinute_14 fl_X2_15 cSx_28 rfl ?_
    refine s_iload_n (pc := 17) dX2_passMinute_17 rfl ?_
    obtain ⟨k4, H⟩ := H
    refine s_iald (pc := 18) (x := h.1 30 (Int.toNat x1)) dX2_passMinute_18 cSx_30 k4 rfl ?_
    refine s_iconst (pc := 19) dX2_passMinute_19 (j_cst rfl) ?_
    refine s_icmp_ne (pc := 20) (tgt := 52) dX2_passMinute_20 (by decide) (fun hc => ?_) (fun hc => ?_)
    · have H := H.2 hc
      refine s_aload_n (pc := 52) dX2_passMinute_52 rfl ?_
      refine s_getr (pc := 53) dX2_passMinute_53 fl_X2_15 cSx_28 rfl ?_
      refine s_iload_n (pc := 56) dX2_passMinute_56 rfl ?_
      refine s_iald (pc := 57) (x := h.1 30 (Int.toNat x1)) dX2_passMinute_57 cSx_30 k4 rfl ?_
      refine s_iconst (pc := 58) dX2_passMinute_58 (j_cst rfl) ?_
      refine s_icmp_ne (pc := 59) (tgt := 72) dX2_passMinute_59 (by decide) (fun hc => ?_) (fun hc => ?_)
      · have H := H.2 hc
        obtain ⟨k5, H⟩ := H
        refine s_iinc (pc := 72) (lv' := [jR 28, jI (x1 + 1)]) dX2_passMinute_72 rfl (by decide) k5 rfl ?_
        refine s_goto (pc := 75) (tgt := 2) dX2_passMinute_75 (by decide) ?_
        exact H
      · have H := H.1 hc
        refine s_aload_n (pc := 62) dX2_passMinute_62 rfl ?_
        refine s_getr (pc := 63) dX2_passMinute_63 fl_X2_21 cSx_28 rfl ?_
        refine s_iload_n (pc := 66) dX2_passMinute_66 rfl ?_
        refine s_dup2 (pc := 67) dX2_passMinute_67 rfl rfl ?_
        refine s_iald (pc := 68) (x := h.1 32 (Int.toNat x1)) dX2_passMinute_68 cSx_32 k4 rfl ?_
        refine s_iconst (pc := 69) dX2_passMinute_69 (j_cst rfl) ?_
        obtain ⟨k6, H⟩ := H
        refine s_iadd (pc := 70) dX2_passMinute_70 k6 ?_
        refine s_iast (pc := 71) dX2_passMinute_71 cSx_32 k4 ?_
        obtain ⟨k7, H⟩ := H
        refine s_iinc (pc := 72) (lv' := [jR 28, jI (x1 + 1)]) dX2_passMinute_72 rfl (by decide) k7 rfl ?_
        refine s_goto (pc := 75) (tgt := 2) dX2_passMinute_75 (by decide) ?_
        exact H
    · have H := H.1 hc
      refine s_aload_n (pc := 23) dX2_passMinute_23 rfl ?_
      refine s_getr (pc := 24) dX2_passMinute_24 fl_X2_18 cSx_28 rfl ?_
      refine s_iload_n (pc := 27) dX2_passMinute_27 rfl ?_
      refine s_dup2 (pc := 28) dX2_passMinute_28 rfl rfl ?_
      refine s_iald (pc := 29) (x := h.1 31 (Int.toNat x1)) dX2_passMinute_29 cSx_31 k4 rfl ?_
      refine s_iconst (pc := 30) dX2_passMinute_30 (j_cst rfl) ?_
      obtain ⟨k8, H⟩ := H
      refine s_isub (pc := 31) dX2_passMinute_31 k8 ?_
      refine s_iast (pc := 32) dX2_passMinute_32 cSx_31 k4 ?_
      refine s_aload_n (pc := 33) dX2_passMinute_33 rfl ?_
      refine s_getr (pc := 34) dX2_passMinute_34 fl_X2_18 cSx_28 rfl ?_
      refine s_iload_n (pc := 37) dX2_passMinute_37 rfl ?_
      refine s_iald (pc := 38) (x := (h.1 31 (Int.toNat x1)) - 1) dX2_passMinute_38 cSx_31 k4 (by simp [j_up]) ?_
      refine s_if_gt (pc := 39) (tgt := 72) dX2_passMinute_39 (by decide) (fun hc => ?_) (fun hc => ?_)
      · have H := H.1 hc
        obtain ⟨k9, H⟩ := H
        refine s_iinc (pc := 72) (lv' := [jR 28, jI (x1 + 1)]) dX2_passMinute_72 rfl (by decide) k9 rfl ?_
        refine s_goto (pc := 75) (tgt := 2) dX2_passMinute_75 (by decide) ?_
        exact H
      · have H := H.2 hc
        refine s_aload_n (pc := 42) dX2_passMinute_42 rfl ?_
        refine s_getr (pc := 43) dX2_passMinute_43 fl_X2_15 cSx_28 rfl ?_
        refine s_iload_n (pc := 46) dX2_passMinute_46 rfl ?_
        refine s_iconst (pc := 47) dX2_passMinute_47 (j_cst rfl) ?_
        refine s_iast (pc := 48) dX2_passMinute_48 cSx_30 k4 ?_
        refine s_goto (pc := 49) (tgt := 72) dX2_passMinute_49 (by decide) ?_
        obtain ⟨k10, H⟩ := H
        refine s_iinc (pc := 72) (lv' := [jR 28, jI (x1 + 1)]) dX2_passMinute_72 rfl (by decide) k10 rfl ?_
        refine s_goto (pc := 75) (tgt := 2) dX2_passMinute_75 (by decide) ?_
        exact H
theorem en_X0_go_26_17 {x2 x3 x4 : Int} {h : jH} {post : jQ} (k : ∀ G, WV Sx G M_X0_go post 0 [jR 26, jR 17, jI x2, jI x3, jI x4, jU, jU] [] h) : CT Sx M_X0_go [jR 26, jR 17, jI x2, jI x3, jI x4] h post := CT.of (by decide +kernel) (by simp [j_un]) (Nat.le_of_ble_eq_true rfl) _ rfl k
set_option maxRecDepth 20000 in
theorem vc_X0_go_26_17_0 {G : jG} {Q : jQ} {x2 x3 x4 : Int} {h : jH}
    (H : ∃ post : jH → Prop, CT Sx M_X2_become [jR 28, jR 17] h (jPv post) ∧ ∀ (h2 : jH), post h2 → (∃ post : jH → Prop, CT Sx M_X0_sort [jR 26, jI x2] h2 (jPv post) ∧ ∀ (h4 : jH), post h4 → (∃ post : Int → jH → Prop, CT Sx M_X2_those [jR 17, jI 3] (j_up (j_up h4 26 3 (-9)) 26 4 0) (jPi post) ∧ ∀ (r5 : Int) (h6 : jH), post r5 h6 → (WV Sx G M_X0_go Q 34 [jR 26, jR 17, jI x2, jI x3, jI x4, jI r5, jI 0] [] h6)))) :
    WV Sx G M_X0_go Q 0 [jR 26, jR 17, jI x2, jI x3, jI x4, jU, jU] [] h := by
  refine s_aload_n (pc := 0) dX0_go_0 rfl ?_
  refine s_getr (pc := 1) dX0_go_1 fl_X0_28 cSx_26 rfl ?_
  refine s_aload_n (pc := 4) dX0_go_4 rfl ?_
  obtain ⟨post, hct, H⟩ := H
  refine s_callV (pc := 5) (as := [jR 17]) (st := []) (by exact dX0_go_5) mv_X0_32 ⟨rfl, rfl, Nat.le_of_ble_eq_true rfl, Nat.le_of_ble_eq_true rfl⟩ cSx_28 rfl rfl (Nat.le_of_ble_eq_true rfl) _ rfl hct (fun r1 h2 hp => ?_)
  obtain ⟨rfl, hp⟩ := hp
  have H := H h2 hp
  show WV _ _ _ _ 8 [jR 26, jR 17, jI x2, jI x3, jI x4, jU, jU] [] h2
  refine s_aload_n (pc := 8) dX0_go_8 rfl ?_
  refine s_iload_n (pc := 9) dX0_go_9 rfl ?_
  obtain ⟨post, hct, H⟩ := H
  refine s_callV (pc := 10) (as := [jI x2]) (st := []) (by exact dX0_go_10) mv_X0_36 ⟨rfl, rfl, Nat.le_of_ble_eq_true rfl, Nat.le_of_ble_eq_true rfl⟩ cSx_26 rfl rfl (Nat.le_of_ble_eq_true rfl) _ rfl hct (fun r3 h4 hp => ?_)
  obtain ⟨rfl, hp⟩ := hp
  have H := H h4 hp
  show WV _ _ _ _ 13 [jR 26, jR 17, jI x2, jI x3, jI x4, jU, jU] [] h4
  refine s_aload_n (pc := 13) dX0_go_13 rfl ?_
  refine s_bipush (pc := 14) dX0_go_14 rfl (j_cst rfl) ?_
  refine s_puti (pc := 16) dX0_go_16 fp_X0_15 cSx_26 rfl ?_
  refine s_aload_n (pc := 19) dX0_go_19 rfl ?_
  refine s_iconst (pc := 20) dX0_go_20 (j_cst rfl) ?_
  refine s_putz (pc := 21) dX0_go_21 fp_X0_40 cSx_26 rfl (Or.inl rfl) ?_
  refine s_aload_n (pc := 24) dX0_go_24 rfl ?_
  refine s_iconst (pc := 25) dX0_go_25 (j_cst rfl) ?_
  obtain ⟨post, hct, H⟩ := H
  refine s_callV (pc := 26) (as := [jI 3]) (st := []) (by exact dX0_go_26) mv_X0_44 ⟨rfl, rfl, Nat.le_of_ble_eq_true rfl, Nat.le_of_ble_eq_true rfl⟩ cSx_17 rfl rfl (Nat.le_of_ble_eq_true rfl) _ rfl hct (fun r5 h6 hp => ?_)
  obtain ⟨r5, rfl, hp⟩ := hp
  have H := H r5 h6 hp
  show WV _ _ _ _ 29 [jR 26, jR 17, jI x2, jI x3, jI x4, jU, jU] [jI r5] h6
  refine s_istore (pc := 29) (lv' := [jR 26, jR 17, jI x2, jI x3, jI x4, jI r5, jU]) dX0_go_29 (by decide) rfl ?_
  refine s_iconst (pc := 31) dX0_go_31 (j_cst rfl) ?_
  refine s_istore (pc := 32) (lv' := [jR 26, jR 17, jI x2, jI x3, jI x4, jI r5, jI 0]) dX0_go_32 (by decide) rfl ?_
  exact H
set_option maxRecDepth 20000 in
theorem vc_X0_go_26_17_34 {G : jG} {Q : jQ} {x2 x3 x4 x5 x6 : Int} {h : jH}
    (H : (x3 ≤ x6 → Q none h) ∧ (¬ x3 ≤ x6 → ∃ post : jH → Prop, CT Sx M_X0_plugAll [jR 26, jI x4] h (jPv post) ∧ ∀ (h2 : jH), post h2 → (∃ post : Int → jH → Prop, CT Sx M_X2_lacksCord [jR 28, jI x4] h2 (jPi post) ∧ ∀ (r3 : Int) (h4 : jH), post r3 h4 → ((b_or (h2.1 26 4) r3 = 0 ∨ b_or (h2.1 26 4) r3 = 1) ∧ (∃ post : jH → Prop, CT Sx M_X2_passMinute [jR 28] (j_up h4 26 4 (b_or (h2.1 26 4) r3)) (jPv post) ∧ ∀ (h7 : jH), post h7 → (((h7.1 26 3) = (-9) → ∃ post : Int → jH → Prop, CT Sx M_X2_those [jR 28, jI 3] h7 (jPi post) ∧ ∀ (r9 : Int) (h10 : jH), post r9 h10 → (∃ post : Int → jH → Prop, CT Sx M_X0_lowest [jI (b_and r9 (b_xor x5 (-1)))] h10 (jPi post) ∧ ∀ (r11 : Int) (h12 : jH), post r11 h12 → ((j_rg (x6 + 1)) ∧ (WV Sx G M_X0_go Q 34 [jR 26, jR 17, jI x2, jI x3, jI x4, jI x5, jI (x6 + 1)] [] (j_up h12 26 3 r11))))) ∧ (¬ (h7.1 26 3) = (-9) → (j_rg (x6 + 1)) ∧ (WV Sx G M_X0_go Q 34 [jR 26, jR 17, jI x2, jI x3, jI x4, jI x5, jI (x6 + 1)] [] h7)))))))) :
    WV Sx G M_X0_go Q 34 [jR 26, jR 17, jI x2, jI x3, jI x4, jI x5, jI x6] [] h := by
  refine s_iload (pc := 34) dX0_go_34 rfl ?_
  refine s_iload_n (pc := 36) dX0_go_36 rfl ?_
  refine s_icmp_ge (pc := 37) (tgt := 106) dX0_go_37 (by decide) (fun hc => ?_) (fun hc => ?_)
  · have H := H.1 hc
    exact s_vret dX0_go_106 rfl H
  · have H := H.2 hc
    refine s_aload_n (pc := 40) dX0_go_40 rfl ?_
    refine s_iload (pc := 41) dX0_go_41 rfl ?_
    obtain ⟨post, hct, H⟩ := H
    refine s_callV (pc := 43) (as := [jI x4]) (st := []) (by exact dX0_go_43) mv_X0_48 ⟨rfl, rfl, Nat.le_of_ble_eq_true rfl, Nat.le_of_ble_eq_true rfl⟩ cSx_26 rfl rfl (Nat.le_of_ble_eq_true rfl) _ rfl hct (fun r1 h2 hp => ?_)
    obtain ⟨rfl, hp⟩ := hp
    have H := H h2 hp
    show WV _ _ _ _ 46 [jR 26, jR 17, jI x2, jI x3, jI x4, jI x5, jI x6] [] h2
    refine s_aload_n (pc := 46) dX0_go_46 rfl ?_
    refine s_dup (pc := 47) dX0_go_47 rfl ?_
    refine s_geti (pc := 48) (x := h2.1 26 4) dX0_go_48 fl_X0_40 cSx_26 rfl rfl ?_
    refine s_aload_n (pc := 51) dX0_go_51 rfl ?_
    refine s_getr (pc := 52) dX0_go_52 fl_X0_28 cSx_26 rfl ?_
    refine s_iload (pc := 55) dX0_go_55 rfl ?_
    obtain ⟨post, hct, H⟩ := H
    refine s_callV (pc := 57) (as := [jI x4]) (st := [jI (h2.1 26 4), jR 26]) (by exact dX0_go_57) mv_X0_51 ⟨rfl, rfl, Nat.le_of_ble_eq_true rfl, Nat.le_of_ble_eq_true rfl⟩ cSx_28 rfl rfl (Nat.le_of_ble_eq_true rfl) _ rfl hct (fun r3 h4 hp => ?_)
    obtain ⟨r3, rfl, hp⟩ := hp
    have H := H r3 h4 hp
    show WV _ _ _ _ 60 [jR 26, jR 17, jI x2, jI x3, jI x4, jI x5, jI x6] [jI r3, jI (h2.1 26 4), jR 26] h4
    refine s_ior (pc := 60) dX0_go_60 ?_
    obtain ⟨k5, H⟩ := H
    refine s_putz (pc := 61) dX0_go_61 fp_X0_40 cSx_26 rfl k5 ?_
    refine s_aload_n (pc := 64) dX0_go_64 rfl ?_
    refine s_getr (pc := 65) dX0_go_65 fl_X0_28 cSx_26 rfl ?_
    obtain ⟨post, hct, H⟩ := H
    refine s_callV (pc := 68) (as := []) (st := []) (by exact dX0_go_68) mv_X0_54 ⟨rfl, rfl, Nat.le_of_ble_eq_true rfl, Nat.le_of_ble_eq_true rfl⟩ cSx_28 rfl rfl (Nat.le_of_ble_eq_true rfl) _ rfl hct (fun r6 h7 hp => ?_)
    obtain ⟨rfl, hp⟩ := hp
    have H := H h7 hp
    show WV _ _ _ _ 71 [jR 26, jR 17, jI x2, jI x3, jI x4, jI x5, jI x6] [] h7
    refine s_aload_n (pc := 71) dX0_go_71 rfl ?_
    refine s_geti (pc := 72) (x := h7.1 26 3) dX0_go_72 fl_X0_15 cSx_26 rfl rfl ?_
    refine s_bipush (pc := 75) dX0_go_75 rfl (j_cst rfl) ?_
    refine s_icmp_ne (pc := 77) (tgt := 100) dX0_go_77 (by decide) (fun hc => ?_) (fun hc => ?_)
    · have H := H.2 hc
      obtain ⟨k8, H⟩ := H
      refine s_iinc (pc := 100) (lv' := [jR 26, jR 17, jI x2, jI x3, jI x4, jI x5, jI (x6 + 1)]) dX0_go_100 rfl (by decide) k8 rfl ?_
      refine s_goto (pc := 103) (tgt := 34) dX0_go_103 (by decide) ?_
      exact H
    · have H := H.1 hc
      refine s_aload_n (pc := 80) dX0_go_80 rfl ?_
      refine s_aload_n (pc := 81) dX0_go_81 rfl ?_
      refine s_getr (pc := 82) dX0_go_82 fl_X0_28 cSx_26 rfl ?_
      refine s_iconst (pc := 85) dX0_go_85 (j_cst rfl) ?_
      obtain ⟨post, hct, H⟩ := H
      refine s_callV (pc := 86) (as := [jI 3]) (st := [jR 26]) (by exact dX0_go_86) mv_X0_44 ⟨rfl, rfl, Nat.le_of_ble_eq_true rfl, Nat.le_of_ble_eq_true rfl⟩ cSx_28 rfl rfl (Nat.le_of_ble_eq_true rfl) _ rfl hct (fun r9 h10 hp => ?_)
      obtain ⟨r9, rfl, hp⟩ := hp
      have H := H r9 h10 hp
      show WV _ _ _ _ 89 [jR 26, jR 17, jI x2, jI x3, jI x4, jI x5, jI x6] [jI r9, jR 26] h10
      refine s_iload (pc := 89) dX0_go_89 rfl ?_
      refine s_iconst (pc := 91) dX0_go_91 (j_cst rfl) ?_
      refine s_ixor (pc := 92) dX0_go_92 ?_
      refine s_iand (pc := 93) dX0_go_93 ?_
      obtain ⟨post, hct, H⟩ := H
      refine s_callS (pc := 94) (as := [jI (b_and r9 (b_xor x5 (-1)))]) (st := [jR 26]) (by exact dX0_go_94) ms_X0_57 ⟨rfl, rfl, Nat.le_of_ble_eq_true rfl, Nat.le_of_ble_eq_true rfl⟩ (Nat.le_of_ble_eq_true rfl) _ rfl hct (fun r11 h12 hp => ?_)
      obtain ⟨r11, rfl, hp⟩ := hp
      have H := H r11 h12 hp
      show WV _ _ _ _ 97 [jR 26, jR 17, jI x2, jI x3, jI x4, jI x5, jI x6] [jI r11, jR 26] h12
      refine s_puti (pc := 97) dX0_go_97 fp_X0_15 cSx_26 rfl ?_
      obtain ⟨k13, H⟩ := H
      refine s_iinc (pc := 100) (lv' := [jR 26, jR 17, jI x2, jI x3, jI x4, jI x5, jI (x6 + 1)]) dX0_go_100 rfl (by decide) k13 rfl ?_
      refine s_goto (pc := 103) (tgt := 34) dX0_go_103 (by decide) ?_
      exact H
theorem en_X2_sumOf_28_32 {x2 : Int} {h : jH} {post : jQ} (k : ∀ G, WV Sx G M_X2_sumOf post 0 [jR 28, jR 32, jI x2, jU, jU] [] h) : CT Sx M_X2_sumOf [jR 28, jR 32, jI x2] h post := CT.of (by decide +kernel) (by simp [j_un]) (Nat.le_of_ble_eq_true rfl) _ rfl k
set_option maxRecDepth 20000 in
theorem vc_X2_sumOf_28_32_0 {G : jG} {Q : jQ} {x2 : Int} {h : jH}
    (H : WV Sx G M_X2_sumOf Q 5 [jR 28, jR 32, jI x2, jI 0, jI 0] [] h) :
    WV Sx G M_X2_sumOf Q 0 [jR 28, jR 32, jI x2, jU, jU] [] h := by
  refine s_iconst (pc := 0) dX2_sumOf_0 (j_cst rfl) ?_
  refine s_istore_n (pc := 1) (lv' := [jR 28, jR 32, jI x2, jI 0, jU]) dX2_sumOf_1 (by decide) rfl ?_
  refine s_iconst (pc := 2) dX2_sumOf_2 (j_cst rfl) ?_
  refine s_istore (pc := 3) (lv' := [jR 28, jR 32, jI x2, jI 0, jI 0]) dX2_sumOf_3 (by decide) rfl ?_
  exact H
set_option maxRecDepth 20000 in
theorem vc_X2_sumOf_28_32_5 {G : jG} {Q : jQ} {x2 x3 x4 : Int} {h : jH}
    (H : ((h.1 2 2) ≤ x4 → Q (some (jI x3)) h) ∧ (¬ (h.1 2 2) ≤ x4 → ((b_and (b_shr x2 x4) 1) = 1 → (0 ≤ x4 ∧ x4 < 7) ∧ ((j_rg (x3 + (h.1 32 (Int.toNat x4)))) ∧ ((j_rg (x4 + 1)) ∧ (WV Sx G M_X2_sumOf Q 5 [jR 28, jR 32, jI x2, jI (x3 + (h.1 32 (Int.toNat x4))), jI (x4 + 1)] [] h)))) ∧ (¬ (b_and (b_shr x2 x4) 1) = 1 → (j_rg (x4 + 1)) ∧ (WV Sx G M_X2_sumOf Q 5 [jR 28, jR 32, jI x2, jI x3, jI (x4 + 1)] [] h)))) :
    WV Sx G M_X2_sumOf Q 5 [jR 28, jR 32, jI x2, jI x3, jI x4] [] h := by
  refine s_iload (pc := 5) dX2_sumOf_5 rfl ?_
  refine s_aload_n (pc := 7) dX2_sumOf_7 rfl ?_
  refine s_getr (pc := 8) dX2_sumOf_8 fl_X2_24 cSx_28 rfl ?_
  refine s_geti (pc := 11) (x := h.1 2 2) dX2_sumOf_11 fl_X2_44 cSx_2 rfl rfl ?_
  refine s_icmp_ge (pc := 14) (tgt := 40) dX2_sumOf_14 (by decide) (fun hc => ?_) (fun hc => ?_)
  · have H := H.1 hc
    refine s_iload_n (pc := 40) dX2_sumOf_40 rfl ?_
    exact s_iret dX2_sumOf_41 rfl H
  · have H := H.2 hc
    refine s_iload_n (pc := 17) dX2_sumOf_17 rfl ?_
    refine s_iload (pc := 18) dX2_sumOf_18 rfl ?_
    refine s_ishr (pc := 20) dX2_sumOf_20 ?_
    refine s_iconst (pc := 21) dX2_sumOf_21 (j_cst rfl) ?_
    refine s_iand (pc := 22) dX2_sumOf_22 ?_
    refine s_iconst (pc := 23) dX2_sumOf_23 (j_cst rfl) ?_
    refine s_icmp_ne (pc := 24) (tgt := 34) dX2_sumOf_24 (by decide) (fun hc => ?_) (fun hc => ?_)
    · have H := H.2 hc
      obtain ⟨k1, H⟩ := H
      refine s_iinc (pc := 34) (lv' := [jR 28, jR 32, jI x2, jI x3, jI (x4 + 1)]) dX2_sumOf_34 rfl (by decide) k1 rfl ?_
      refine s_goto (pc := 37) (tgt := 5) dX2_sumOf_37 (by decide) ?_
      exact H
    · have H := H.1 hc
      refine s_iload_n (pc := 27) dX2_sumOf_27 rfl ?_
      refine s_aload_n (pc := 28) dX2_sumOf_28 rfl ?_
      refine s_iload (pc := 29) dX2_sumOf_29 rfl ?_
      obtain ⟨k2, H⟩ := H
      refine s_iald (pc := 31) (x := h.1 32 (Int.toNat x4)) dX2_sumOf_31 cSx_32 k2 rfl ?_
      obtain ⟨k3, H⟩ := H
      refine s_iadd (pc := 32) dX2_sumOf_32 k3 ?_
      refine s_istore_n (pc := 33) (lv' := [jR 28, jR 32, jI x2, jI (x3 + (h.1 32 (Int.toNat x4))), jI x4]) dX2_sumOf_33 (by decide) rfl ?_
      obtain ⟨k4, H⟩ := H
      refine s_iinc (pc := 34) (lv' := [jR 28, jR 32, jI x2, jI (x3 + (h.1 32 (Int.toNat x4))), jI (x4 + 1)]) dX2_sumOf_34 rfl (by decide) k4 rfl ?_
      refine s_goto (pc := 37) (tgt := 5) dX2_sumOf_37 (by decide) ?_
      exact H
theorem en_X2_waitedOf_28 {x1 : Int} {h : jH} {post : jQ} (k : ∀ G, WV Sx G M_X2_waitedOf post 0 [jR 28, jI x1] [] h) : CT Sx M_X2_waitedOf [jR 28, jI x1] h post := CT.of (by decide +kernel) (by simp [j_un]) (Nat.le_of_ble_eq_true rfl) _ rfl k
set_option maxRecDepth 20000 in
theorem vc_X2_waitedOf_28_0 {G : jG} {Q : jQ} {x1 : Int} {h : jH}
    (H : ∃ post : Int → jH → Prop, CT Sx M_X2_sumOf [jR 28, jR 32, jI x1] h (jPi post) ∧ ∀ (r1 : Int) (h2 : jH), post r1 h2 → (Q (some (jI r1)) h2)) :
    WV Sx G M_X2_waitedOf Q 0 [jR 28, jI x1] [] h := by
  refine s_aload_n (pc := 0) dX2_waitedOf_0 rfl ?_
  refine s_aload_n (pc := 1) dX2_waitedOf_1 rfl ?_
  refine s_getr (pc := 2) dX2_waitedOf_2 fl_X2_21 cSx_28 rfl ?_
  refine s_iload_n (pc := 5) dX2_waitedOf_5 rfl ?_
  obtain ⟨post, hct, H⟩ := H
  refine s_callV (pc := 6) (as := [jR 32, jI x1]) (st := []) (by exact dX2_waitedOf_6) mv_X2_79 ⟨rfl, rfl, Nat.le_of_ble_eq_true rfl, Nat.le_of_ble_eq_true rfl⟩ cSx_28 rfl rfl (Nat.le_of_ble_eq_true rfl) _ rfl hct (fun r1 h2 hp => ?_)
  obtain ⟨r1, rfl, hp⟩ := hp
  have H := H r1 h2 hp
  show WV _ _ _ _ 9 [jR 28, jI x1] [jI r1] h2
  exact s_iret dX2_waitedOf_9 rfl H
theorem en_X7_isRule {x0 : Int} {h : jH} {post : jQ} (k : ∀ G, WV Sx G M_X7_isRule post 0 [jI x0] [] h) : CT Sx M_X7_isRule [jI x0] h post := CT.of (by decide +kernel) (by simp [j_un]) (Nat.le_of_ble_eq_true rfl) _ rfl k
set_option maxRecDepth 20000 in
theorem vc_X7_isRule_0 {G : jG} {Q : jQ} {x0 : Int} {h : jH}
    (H : (x0 < 0 → Q (some (jI 0)) h) ∧ (¬ x0 < 0 → (2 < x0 → Q (some (jI 0)) h) ∧ (¬ 2 < x0 → Q (some (jI 1)) h))) :
    WV Sx G M_X7_isRule Q 0 [jI x0] [] h := by
  refine s_iload_n (pc := 0) dX7_isRule_0 rfl ?_
  refine s_if_lt (pc := 1) (tgt := 13) dX7_isRule_1 (by decide) (fun hc => ?_) (fun hc => ?_)
  · have H := H.1 hc
    refine s_iconst (pc := 13) dX7_isRule_13 (j_cst rfl) ?_
    exact s_zret dX7_isRule_14 rfl (Or.inl rfl) H
  · have H := H.2 hc
    refine s_iload_n (pc := 4) dX7_isRule_4 rfl ?_
    refine s_iconst (pc := 5) dX7_isRule_5 (j_cst rfl) ?_
    refine s_icmp_gt (pc := 6) (tgt := 13) dX7_isRule_6 (by decide) (fun hc => ?_) (fun hc => ?_)
    · have H := H.1 hc
      refine s_iconst (pc := 13) dX7_isRule_13 (j_cst rfl) ?_
      exact s_zret dX7_isRule_14 rfl (Or.inl rfl) H
    · have H := H.2 hc
      refine s_iconst (pc := 9) dX7_isRule_9 (j_cst rfl) ?_
      refine s_goto (pc := 10) (tgt := 14) dX7_isRule_10 (by decide) ?_
      exact s_zret dX7_isRule_14 rfl (Or.inr rfl) H
theorem en_X7_byRule_0 {x1 x2 x3 : Int} {h : jH} {post : jQ} (k : ∀ G, WV Sx G M_X7_byRule post 0 [jR 0, jI x1, jI x2, jI x3] [] h) : CT Sx M_X7_byRule [jR 0, jI x1, jI x2, jI x3] h post := CT.of (by decide +kernel) (by simp [j_un]) (Nat.le_of_ble_eq_true rfl) _ rfl k
set_option maxRecDepth 20000 in
theorem vc_X7_byRule_0_0 {G : jG} {Q : jQ} {x1 x2 x3 : Int} {h : jH}
    (H : ∃ post : Int → jH → Prop, CT Sx M_X7_isRule [jI x1] h (jPi post) ∧ ∀ (r1 : Int) (h2 : jH), post r1 h2 → ((r1 = 0 → Q (some (jI (-1))) h2) ∧ (¬ r1 = 0 → (x2 < 0 → Q (some (jI (-1))) h2) ∧ (¬ x2 < 0 → (60 < x2 → Q (some (jI (-1))) h2) ∧ (¬ 60 < x2 → (x3 < 0 → Q (some (jI (-1))) h2) ∧ (¬ x3 < 0 → (x3 ≤ 2 → ∃ post : jH → Prop, CT Sx M_X0_go [jR 26, jR 17, jI x1, jI x2, jI (h2.1 2 1)] h2 (jPv post) ∧ ∀ (h4 : jH), post h4 → ((x3 = 0 → ∃ post : Int → jH → Prop, CT Sx M_X2_those [jR 28, jI 3] h4 (jPi post) ∧ ∀ (r5 : Int) (h6 : jH), post r5 h6 → (∃ post : Int → jH → Prop, CT Sx M_J6_bitCount_0f7a4 [jI r5] h6 (jPi post) ∧ ∀ (r7 : Int) (h8 : jH), post r7 h8 → (Q (some (jI r7)) h8))) ∧ (x3 = 1 → ∃ post : Int → jH → Prop, CT Sx M_X2_waitedOf [jR 28, jI 127] h4 (jPi post) ∧ ∀ (r9 : Int) (h10 : jH), post r9 h10 → (Q (some (jI r9)) h10)) ∧ (¬ x3 = 0 ∧ ¬ x3 = 1 → Q (some (jI (h4.1 26 3))) h4))) ∧ (¬ x3 ≤ 2 → Q (some (jI (-1))) h2))))))) :
    WV Sx G M_X7_byRule Q 0 [jR 0, jI x1, jI x2, jI x3] [] h := by
  refine s_iload_n (pc := 0) dX7_byRule_0 rfl ?_
  obtain ⟨post, hct, H⟩ := H
  refine s_callS (pc := 1) (as := [jI x1]) (st := []) (by exact dX7_byRule_1) ms_X7_183 ⟨rfl, rfl, Nat.le_of_ble_eq_true rfl, Nat.le_of_ble_eq_true rfl⟩ (Nat.le_of_ble_eq_true rfl) _ rfl hct (fun r1 h2 hp => ?_)
  obtain ⟨r1, rfl, hp⟩ := hp
  have H := H r1 h2 hp
  show WV _ _ _ _ 4 [jR 0, jI x1, jI x2, jI x3] [jI r1] h2
  refine s_if_eq (pc := 4) (tgt := 26) dX7_byRule_4 (by decide) (fun hc => ?_) (fun hc => ?_)
  · have H := H.1 hc
    refine s_iconst (pc := 26) dX7_byRule_26 (j_cst rfl) ?_
    exact s_iret dX7_byRule_27 rfl H
  · have H := H.2 hc
    refine s_iload_n (pc := 7) dX7_byRule_7 rfl ?_
    refine s_if_lt (pc := 8) (tgt := 26) dX7_byRule_8 (by decide) (fun hc => ?_) (fun hc => ?_)
    · have H := H.1 hc
      refine s_iconst (pc := 26) dX7_byRule_26 (j_cst rfl) ?_
      exact s_iret dX7_byRule_27 rfl H
    · have H := H.2 hc
      refine s_iload_n (pc := 11) dX7_byRule_11 rfl ?_
      refine s_bipush (pc := 12) dX7_byRule_12 rfl (j_cst rfl) ?_
      refine s_icmp_gt (pc := 14) (tgt := 26) dX7_byRule_14 (by decide) (fun hc => ?_) (fun hc => ?_)
      · have H := H.1 hc
        refine s_iconst (pc := 26) dX7_byRule_26 (j_cst rfl) ?_
        exact s_iret dX7_byRule_27 rfl H
      · have H := H.2 hc
        refine s_iload_n (pc := 17) dX7_byRule_17 rfl ?_
        refine s_if_lt (pc := 18) (tgt := 26) dX7_byRule_18 (by decide) (fun hc => ?_) (fun hc => ?_)
        · have H := H.1 hc
          refine s_iconst (pc := 26) dX7_byRule_26 (j_cst rfl) ?_
          exact s_iret dX7_byRule_27 rfl H
        · have H := H.2 hc
          refine s_iload_n (pc := 21) dX7_byRule_21 rfl ?_
          refine s_iconst (pc := 22) dX7_byRule_22 (j_cst rfl) ?_
          refine s_icmp_le (pc := 23) (tgt := 28) dX7_byRule_23 (by decide) (fun hc => ?_) (fun hc => ?_)
          · have H := H.1 hc
            refine s_aload_n (pc := 28) dX7_byRule_28 rfl ?_
            refine s_getr (pc := 29) dX7_byRule_29 fl_X7_55 cSx_0 rfl ?_
            refine s_aload_n (pc := 32) dX7_byRule_32 rfl ?_
            refine s_getr (pc := 33) dX7_byRule_33 fl_X7_34 cSx_0 rfl ?_
            refine s_iload_n (pc := 36) dX7_byRule_36 rfl ?_
            refine s_iload_n (pc := 37) dX7_byRule_37 rfl ?_
            refine s_aload_n (pc := 38) dX7_byRule_38 rfl ?_
            refine s_getr (pc := 39) dX7_byRule_39 fl_X7_16 cSx_0 rfl ?_
            refine s_geti (pc := 42) (x := h2.1 2 1) dX7_byRule_42 fl_X7_150 cSx_2 rfl rfl ?_
            obtain ⟨post, hct, H⟩ := H
            refine s_callV (pc := 45) (as := [jR 17, jI x1, jI x2, jI (h2.1 2 1)]) (st := []) (by exact dX7_byRule_45) mv_X7_186 ⟨rfl, rfl, Nat.le_of_ble_eq_true rfl, Nat.le_of_ble_eq_true rfl⟩ cSx_26 rfl rfl (Nat.le_of_ble_eq_true rfl) _ rfl hct (fun r3 h4 hp => ?_)
            obtain ⟨rfl, hp⟩ := hp
            have H := H h4 hp
            show WV _ _ _ _ 48 [jR 0, jI x1, jI x2, jI x3] [] h4
            refine s_iload_n (pc := 48) dX7_byRule_48 rfl ?_
            by_cases hc0 : x3 = 0
            · have H := H.1 hc0
              refine s_lookup (pc := 49) (off := 27) (tgt := 76) dX7_byRule_49 (by decide) (by rw [hc0]; decide) (by decide) ?_
              refine s_aload_n (pc := 76) dX7_byRule_76 rfl ?_
              refine s_getr (pc := 77) dX7_byRule_77 fl_X7_55 cSx_0 rfl ?_
              refine s_getr (pc := 80) dX7_byRule_80 fl_X7_190 cSx_26 rfl ?_
              refine s_iconst (pc := 83) dX7_byRule_83 (j_cst rfl) ?_
              obtain ⟨post, hct, H⟩ := H
              refine s_callV (pc := 84) (as := [jI 3]) (st := []) (by exact dX7_byRule_84) mv_X7_137 ⟨rfl, rfl, Nat.le_of_ble_eq_true rfl, Nat.le_of_ble_eq_true rfl⟩ cSx_28 rfl rfl (Nat.le_of_ble_eq_true rfl) _ rfl hct (fun r5 h6 hp => ?_)
              obtain ⟨r5, rfl, hp⟩ := hp
              have H := H r5 h6 hp
              show WV _ _ _ _ 87 [jR 0, jI x1, jI x2, jI x3] [jI r5] h6
              obtain ⟨post, hct, H⟩ := H
              refine s_callS (pc := 87) (as := [jI r5]) (st := []) (by exact dX7_byRule_87) ms_X7_153 ⟨rfl, rfl, Nat.le_of_ble_eq_true rfl, Nat.le_of_ble_eq_true rfl⟩ (Nat.le_of_ble_eq_true rfl) _ rfl hct (fun r7 h8 hp => ?_)
              obtain ⟨r7, rfl, hp⟩ := hp
              have H := H r7 h8 hp
              show WV _ _ _ _ 90 [jR 0, jI x1, jI x2, jI x3] [jI r7] h8
              exact s_iret dX7_byRule_90 rfl H
            by_cases hc1 : x3 = 1
            · have H := H.2.1 hc1
              refine s_lookup (pc := 49) (off := 42) (tgt := 91) dX7_byRule_49 (by decide) (by rw [hc1]; decide) (by decide) ?_
              refine s_aload_n (pc := 91) dX7_byRule_91 rfl ?_
              refine s_getr (pc := 92) dX7_byRule_92 fl_X7_55 cSx_0 rfl ?_
              refine s_getr (pc := 95) dX7_byRule_95 fl_X7_190 cSx_26 rfl ?_
              refine s_bipush (pc := 98) dX7_byRule_98 rfl (j_cst rfl) ?_
              obtain ⟨post, hct, H⟩ := H
              refine s_callV (pc := 100) (as := [jI 127]) (st := []) (by exact dX7_byRule_100) mv_X7_193 ⟨rfl, rfl, Nat.le_of_ble_eq_true rfl, Nat.le_of_ble_eq_true rfl⟩ cSx_28 rfl rfl (Nat.le_of_ble_eq_true rfl) _ rfl hct (fun r9 h10 hp => ?_)
              obtain ⟨r9, rfl, hp⟩ := hp
              have H := H r9 h10 hp
              show WV _ _ _ _ 103 [jR 0, jI x1, jI x2, jI x3] [jI r9] h10
              exact s_iret dX7_byRule_103 rfl H
            · have H := H.2.2 ⟨hc0, hc1⟩
              refine s_lookup (pc := 49) (off := 55) (tgt := 104) dX7_byRule_49 (by decide) (by simp only [Op.lookupswitch.offset]; rw [if_neg (by omega), if_neg (by omega)]) (by decide) ?_
              refine s_aload_n (pc := 104) dX7_byRule_104 rfl ?_
              refine s_getr (pc := 105) dX7_byRule_105 fl_X7_55 cSx_0 rfl ?_
              refine s_geti (pc := 108) (x := h4.1 26 3) dX7_byRule_108 fl_X7_196 cSx_26 rfl rfl ?_
              exact s_iret dX7_byRule_111 rfl H
          · have H := H.2 hc
            refine s_iconst (pc := 26) dX7_byRule_26 (j_cst rfl) ?_
            exact s_iret dX7_byRule_27 rfl H
theorem en_X7_enough_0 {x1 : Int} {h : jH} {post : jQ} (k : ∀ G, WV Sx G M_X7_enough post 0 [jR 0, jI x1, jU] [] h) : CT Sx M_X7_enough [jR 0, jI x1] h post := CT.of (by decide +kernel) (by simp [j_un]) (Nat.le_of_ble_eq_true rfl) _ rfl k
set_option maxRecDepth 20000 in
theorem vc_X7_enough_0_0 {G : jG} {Q : jQ} {x1 : Int} {h : jH}
    (H : ∃ post : Int → jH → Prop, CT Sx M_X7_isRule [jI x1] h (jPi post) ∧ ∀ (r1 : Int) (h2 : jH), post r1 h2 → ((r1 = 0 → Q (some (jI (-1))) h2) ∧ (¬ r1 = 0 → WV Sx G M_X7_enough Q 11 [jR 0, jI x1, jI 1] [] h2))) :
    WV Sx G M_X7_enough Q 0 [jR 0, jI x1, jU] [] h := by
  refine s_iload_n (pc := 0) dX7_enough_0 rfl ?_
  obtain ⟨post, hct, H⟩ := H
  refine s_callS (pc := 1) (as := [jI x1]) (st := []) (by exact dX7_enough_1) ms_X7_183 ⟨rfl, rfl, Nat.le_of_ble_eq_true rfl, Nat.le_of_ble_eq_true rfl⟩ (Nat.le_of_ble_eq_true rfl) _ rfl hct (fun r1 h2 hp => ?_)
  obtain ⟨r1, rfl, hp⟩ := hp
  have H := H r1 h2 hp
  show WV _ _ _ _ 4 [jR 0, jI x1, jU] [jI r1] h2
  refine s_if_ne (pc := 4) (tgt := 9) dX7_enough_4 (by decide) (fun hc => ?_) (fun hc => ?_)
  · have H := H.2 hc
    refine s_iconst (pc := 9) dX7_enough_9 (j_cst rfl) ?_
    refine s_istore_n (pc := 10) (lv' := [jR 0, jI x1, jI 1]) dX7_enough_10 (by decide) rfl ?_
    exact H
  · have H := H.1 hc
    refine s_iconst (pc := 7) dX7_enough_7 (j_cst rfl) ?_
    exact s_iret dX7_enough_8 rfl H
set_option maxRecDepth 20000 in
theorem vc_X7_enough_0_11 {G : jG} {Q : jQ} {x1 x2 : Int} {h : jH}
    (H : (4 < x2 → Q (some (jI (-9))) h) ∧ (¬ 4 < x2 → ∃ post : jH → Prop, CT Sx M_X0_go [jR 26, jR 17, jI x1, jI 60, jI x2] h (jPv post) ∧ ∀ (h2 : jH), post h2 → (((h2.1 26 4) = 0 → Q (some (jI x2)) h2) ∧ (¬ (h2.1 26 4) = 0 → (j_rg (x2 + 1)) ∧ (WV Sx G M_X7_enough Q 11 [jR 0, jI x1, jI (x2 + 1)] [] h2))))) :
    WV Sx G M_X7_enough Q 11 [jR 0, jI x1, jI x2] [] h := by
  refine s_iload_n (pc := 11) dX7_enough_11 rfl ?_
  refine s_iconst (pc := 12) dX7_enough_12 (j_cst rfl) ?_
  refine s_icmp_gt (pc := 13) (tgt := 49) dX7_enough_13 (by decide) (fun hc => ?_) (fun hc => ?_)
  · have H := H.1 hc
    refine s_bipush (pc := 49) dX7_enough_49 rfl (j_cst rfl) ?_
    exact s_iret dX7_enough_51 rfl H
  · have H := H.2 hc
    refine s_aload_n (pc := 16) dX7_enough_16 rfl ?_
    refine s_getr (pc := 17) dX7_enough_17 fl_X7_55 cSx_0 rfl ?_
    refine s_aload_n (pc := 20) dX7_enough_20 rfl ?_
    refine s_getr (pc := 21) dX7_enough_21 fl_X7_34 cSx_0 rfl ?_
    refine s_iload_n (pc := 24) dX7_enough_24 rfl ?_
    refine s_bipush (pc := 25) dX7_enough_25 rfl (j_cst rfl) ?_
    refine s_iload_n (pc := 27) dX7_enough_27 rfl ?_
    obtain ⟨post, hct, H⟩ := H
    refine s_callV (pc := 28) (as := [jR 17, jI x1, jI 60, jI x2]) (st := []) (by exact dX7_enough_28) mv_X7_186 ⟨rfl, rfl, Nat.le_of_ble_eq_true rfl, Nat.le_of_ble_eq_true rfl⟩ cSx_26 rfl rfl (Nat.le_of_ble_eq_true rfl) _ rfl hct (fun r1 h2 hp => ?_)
    obtain ⟨rfl, hp⟩ := hp
    have H := H h2 hp
    show WV _ _ _ _ 31 [jR 0, jI x1, jI x2] [] h2
    refine s_aload_n (pc := 31) dX7_enough_31 rfl ?_
    refine s_getr (pc := 32) dX7_enough_32 fl_X7_55 cSx_0 rfl ?_
    refine s_geti (pc := 35) (x := h2.1 26 4) dX7_enough_35 fl_X7_199 cSx_26 rfl rfl ?_
    refine s_if_ne (pc := 38) (tgt := 43) dX7_enough_38 (by decide) (fun hc => ?_) (fun hc => ?_)
    · have H := H.2 hc
      obtain ⟨k3, H⟩ := H
      refine s_iinc (pc := 43) (lv' := [jR 0, jI x1, jI (x2 + 1)]) dX7_enough_43 rfl (by decide) k3 rfl ?_
      refine s_goto (pc := 46) (tgt := 11) dX7_enough_46 (by decide) ?_
      exact H
    · have H := H.1 hc
      refine s_iload_n (pc := 41) dX7_enough_41 rfl ?_
      exact s_iret dX7_enough_42 rfl H
theorem en_X2_sumOf_17_21 {x2 : Int} {h : jH} {post : jQ} (k : ∀ G, WV Sx G M_X2_sumOf post 0 [jR 17, jR 21, jI x2, jU, jU] [] h) : CT Sx M_X2_sumOf [jR 17, jR 21, jI x2] h post := CT.of (by decide +kernel) (by simp [j_un]) (Nat.le_of_ble_eq_true rfl) _ rfl k
set_option maxRecDepth 20000 in
theorem vc_X2_sumOf_17_21_0 {G : jG} {Q : jQ} {x2 : Int} {h : jH}
    (H : WV Sx G M_X2_sumOf Q 5 [jR 17, jR 21, jI x2, jI 0, jI 0] [] h) :
    WV Sx G M_X2_sumOf Q 0 [jR 17, jR 21, jI x2, jU, jU] [] h := by
  refine s_iconst (pc := 0) dX2_sumOf_0 (j_cst rfl) ?_
  refine s_istore_n (pc := 1) (lv' := [jR 17, jR 21, jI x2, jI 0, jU]) dX2_sumOf_1 (by decide) rfl ?_
  refine s_iconst (pc := 2) dX2_sumOf_2 (j_cst rfl) ?_
  refine s_istore (pc := 3) (lv' := [jR 17, jR 21, jI x2, jI 0, jI 0]) dX2_sumOf_3 (by decide) rfl ?_
  exact H
set_option maxRecDepth 20000 in
theorem vc_X2_sumOf_17_21_5 {G : jG} {Q : jQ} {x2 x3 x4 : Int} {h : jH}
    (H : ((h.1 2 2) ≤ x4 → Q (some (jI x3)) h) ∧ (¬ (h.1 2 2) ≤ x4 → ((b_and (b_shr x2 x4) 1) = 1 → (0 ≤ x4 ∧ x4 < 7) ∧ ((j_rg (x3 + (h.1 21 (Int.toNat x4)))) ∧ ((j_rg (x4 + 1)) ∧ (WV Sx G M_X2_sumOf Q 5 [jR 17, jR 21, jI x2, jI (x3 + (h.1 21 (Int.toNat x4))), jI (x4 + 1)] [] h)))) ∧ (¬ (b_and (b_shr x2 x4) 1) = 1 → (j_rg (x4 + 1)) ∧ (WV Sx G M_X2_sumOf Q 5 [jR 17, jR 21, jI x2, jI x3, jI (x4 + 1)] [] h)))) :
    WV Sx G M_X2_sumOf Q 5 [jR 17, jR 21, jI x2, jI x3, jI x4] [] h := by
  refine s_iload (pc := 5) dX2_sumOf_5 rfl ?_
  refine s_aload_n (pc := 7) dX2_sumOf_7 rfl ?_
  refine s_getr (pc := 8) dX2_sumOf_8 fl_X2_24 cSx_17 rfl ?_
  refine s_geti (pc := 11) (x := h.1 2 2) dX2_sumOf_11 fl_X2_44 cSx_2 rfl rfl ?_
  refine s_icmp_ge (pc := 14) (tgt := 40) dX2_sumOf_14 (by decide) (fun hc => ?_) (fun hc => ?_)
  · have H := H.1 hc
    refine s_iload_n (pc := 40) dX2_sumOf_40 rfl ?_
    exact s_iret dX2_sumOf_41 rfl H
  · have H := H.2 hc
    refine s_iload_n (pc := 17) dX2_sumOf_17 rfl ?_
    refine s_iload (pc := 18) dX2_sumOf_18 rfl ?_
    refine s_ishr (pc := 20) dX2_sumOf_20 ?_
    refine s_iconst (pc := 21) dX2_sumOf_21 (j_cst rfl) ?_
    refine s_iand (pc := 22) dX2_sumOf_22 ?_
    refine s_iconst (pc := 23) dX2_sumOf_23 (j_cst rfl) ?_
    refine s_icmp_ne (pc := 24) (tgt := 34) dX2_sumOf_24 (by decide) (fun hc => ?_) (fun hc => ?_)
    · have H := H.2 hc
      obtain ⟨k1, H⟩ := H
      refine s_iinc (pc := 34) (lv' := [jR 17, jR 21, jI x2, jI x3, jI (x4 + 1)]) dX2_sumOf_34 rfl (by decide) k1 rfl ?_
      refine s_goto (pc := 37) (tgt := 5) dX2_sumOf_37 (by decide) ?_
      exact H
    · have H := H.1 hc
      refine s_iload_n (pc := 27) dX2_sumOf_27 rfl ?_
      refine s_aload_n (pc := 28) dX2_sumOf_28 rfl ?_
      refine s_iload (pc := 29) dX2_sumOf_29 rfl ?_
      obtain ⟨k2, H⟩ := H
      refine s_iald (pc := 31) (x := h.1 21 (Int.toNat x4)) dX2_sumOf_31 cSx_21 k2 rfl ?_
      obtain ⟨k3, H⟩ := H
      refine s_iadd (pc := 32) dX2_sumOf_32 k3 ?_
      refine s_istore_n (pc := 33) (lv' := [jR 17, jR 21, jI x2, jI (x3 + (h.1 21 (Int.toNat x4))), jI x4]) dX2_sumOf_33 (by decide) rfl ?_
      obtain ⟨k4, H⟩ := H
      refine s_iinc (pc := 34) (lv' := [jR 17, jR 21, jI x2, jI (x3 + (h.1 21 (Int.toNat x4))), jI (x4 + 1)]) dX2_sumOf_34 rfl (by decide) k4 rfl ?_
      refine s_goto (pc := 37) (tgt := 5) dX2_sumOf_37 (by decide) ?_
      exact H
theorem en_X2_waitedOf_17 {x1 : Int} {h : jH} {post : jQ} (k : ∀ G, WV Sx G M_X2_waitedOf post 0 [jR 17, jI x1] [] h) : CT Sx M_X2_waitedOf [jR 17, jI x1] h post := CT.of (by decide +kernel) (by simp [j_un]) (Nat.le_of_ble_eq_true rfl) _ rfl k
set_option maxRecDepth 20000 in
theorem vc_X2_waitedOf_17_0 {G : jG} {Q : jQ} {x1 : Int} {h : jH}
    (H : ∃ post : Int → jH → Prop, CT Sx M_X2_sumOf [jR 17, jR 21, jI x1] h (jPi post) ∧ ∀ (r1 : Int) (h2 : jH), post r1 h2 → (Q (some (jI r1)) h2)) :
    WV Sx G M_X2_waitedOf Q 0 [jR 17, jI x1] [] h := by
  refine s_aload_n (pc := 0) dX2_waitedOf_0 rfl ?_
  refine s_aload_n (pc := 1) dX2_waitedOf_1 rfl ?_
  refine s_getr (pc := 2) dX2_waitedOf_2 fl_X2_21 cSx_17 rfl ?_
  refine s_iload_n (pc := 5) dX2_waitedOf_5 rfl ?_
  obtain ⟨post, hct, H⟩ := H
  refine s_callV (pc := 6) (as := [jR 21, jI x1]) (st := []) (by exact dX2_waitedOf_6) mv_X2_79 ⟨rfl, rfl, Nat.le_of_ble_eq_true rfl, Nat.le_of_ble_eq_true rfl⟩ cSx_17 rfl rfl (Nat.le_of_ble_eq_true rfl) _ rfl hct (fun r1 h2 hp => ?_)
  obtain ⟨r1, rfl, hp⟩ := hp
  have H := H r1 h2 hp
  show WV _ _ _ _ 9 [jR 17, jI x1] [jI r1] h2
  exact s_iret dX2_waitedOf_9 rfl H
theorem en_X5_prepare_33_17 {h : jH} {post : jQ} (k : ∀ G, WV Sx G M_X5_prepare post 0 [jR 33, jR 17, jU] [] h) : CT Sx M_X5_prepare [jR 33, jR 17] h post := CT.of (by decide +kernel) (by simp [j_un]) (Nat.le_of_ble_eq_true rfl) _ rfl k
set_option maxRecDepth 20000 in
theorem vc_X5_prepare_33_17_0 {G : jG} {Q : jQ} {h : jH}
    (H : WV Sx G M_X5_prepare Q 7 [jR 33, jR 17, jI 0] [] (j_up h 33 3 0)) :
    WV Sx G M_X5_prepare Q 0 [jR 33, jR 17, jU] [] h := by
  refine s_aload_n (pc := 0) dX5_prepare_0 rfl ?_
  refine s_iconst (pc := 1) dX5_prepare_1 (j_cst rfl) ?_
  refine s_puti (pc := 2) dX5_prepare_2 fp_X5_44 cSx_33 rfl ?_
  refine s_iconst (pc := 5) dX5_prepare_5 (j_cst rfl) ?_
  refine s_istore_n (pc := 6) (lv' := [jR 33, jR 17, jI 0]) dX5_prepare_6 (by decide) rfl ?_
  exact H
set_option maxRecDepth 20000 in
theorem vc_X5_prepare_33_17_7 {G : jG} {Q : jQ} {x2 : Int} {h : jH}
    (H : ((h.1 2 2) ≤ x2 → Q none h) ∧ (¬ (h.1 2 2) ≤ x2 → (0 ≤ x2 ∧ x2 < 7) ∧ (((h.1 19 (Int.toNat x2)) = 2 → ((h.1 19 (Int.toNat x2)) = 1 → (0 ≤ h.1 33 3 ∧ h.1 33 3 < 7) ∧ ((j_rg ((h.1 33 3) + 1)) ∧ ((j_rg (x2 + 1)) ∧ (WV Sx G M_X5_prepare Q 7 [jR 33, jR 17, jI (x2 + 1)] [] (j_up (j_up (j_up (j_up h 36 (Int.toNat x2) (b_or (b_shl 1 (h.1 5 (Int.toNat x2))) (b_shl 1 (h.1 6 (Int.toNat x2))))) 37 (Int.toNat x2) (h.1 20 (Int.toNat x2))) 34 (Int.toNat (h.1 33 3)) x2) 33 3 ((h.1 33 3) + 1)))))) ∧ (¬ (h.1 19 (Int.toNat x2)) = 1 → (j_rg (x2 + 1)) ∧ (WV Sx G M_X5_prepare Q 7 [jR 33, jR 17, jI (x2 + 1)] [] (j_up (j_up h 36 (Int.toNat x2) (b_or (b_shl 1 (h.1 5 (Int.toNat x2))) (b_shl 1 (h.1 6 (Int.toNat x2))))) 37 (Int.toNat x2) (h.1 20 (Int.toNat x2)))))) ∧ (¬ (h.1 19 (Int.toNat x2)) = 2 → ((h.1 19 (Int.toNat x2)) = 1 → (0 ≤ h.1 33 3 ∧ h.1 33 3 < 7) ∧ ((j_rg ((h.1 33 3) + 1)) ∧ ((j_rg (x2 + 1)) ∧ (WV Sx G M_X5_prepare Q 7 [jR 33, jR 17, jI (x2 + 1)] [] (j_up (j_up (j_up (j_up h 36 (Int.toNat x2) (b_or (b_shl 1 (h.1 5 (Int.toNat x2))) (b_shl 1 (h.1 6 (Int.toNat x2))))) 37 (Int.toNat x2) 0) 34 (Int.toNat (h.1 33 3)) x2) 33 3 ((h.1 33 3) + 1)))))) ∧ (¬ (h.1 19 (Int.toNat x2)) = 1 → (j_rg (x2 + 1)) ∧ (WV Sx G M_X5_prepare Q 7 [jR 33, jR 17, jI (x2 + 1)] [] (j_up (j_up h 36 (Int.toNat x2) (b_or (b_shl 1 (h.1 5 (Int.toNat x2))) (b_shl 1 (h.1 6 (Int.toNat x2))))) 37 (Int.toNat x2) 0))))))) :
    WV Sx G M_X5_prepare Q 7 [jR 33, jR 17, jI x2] [] h := by
  refine s_iload_n (pc := 7) dX5_prepare_7 rfl ?_
  refine s_aload_n (pc := 8) dX5_prepare_8 rfl ?_
  refine s_getr (pc := 9) dX5_prepare_9 fl_X5_27 cSx_33 rfl ?_
  refine s_geti (pc := 12) (x := h.1 2 2) dX5_prepare_12 fl_X5_57 cSx_2 rfl rfl ?_
  refine s_icmp_ge (pc := 15) (tgt := 109) dX5_prepare_15 (by decide) (fun hc => ?_) (fun hc => ?_)
  · have H := H.1 hc
    exact s_vret dX5_prepare_109 rfl H
  · have H := H.2 hc
    refine s_aload_n (pc := 18) dX5_prepare_18 rfl ?_
    refine s_getr (pc := 19) dX5_prepare_19 fl_X5_18 cSx_33 rfl ?_
    refine s_iload_n (pc := 22) dX5_prepare_22 rfl ?_
    refine s_iconst (pc := 23) dX5_prepare_23 (j_cst rfl) ?_
    refine s_aload_n (pc := 24) dX5_prepare_24 rfl ?_
    refine s_getr (pc := 25) dX5_prepare_25 fl_X5_27 cSx_33 rfl ?_
    refine s_getr (pc := 28) dX5_prepare_28 fl_X5_62 cSx_2 rfl ?_
    refine s_iload_n (pc := 31) dX5_prepare_31 rfl ?_
    obtain ⟨k1, H⟩ := H
    refine s_iald (pc := 32) (x := h.1 5 (Int.toNat x2)) dX5_prepare_32 cSx_5 k1 rfl ?_
    refine s_ishl (pc := 33) dX5_prepare_33 ?_
    refine s_iconst (pc := 34) dX5_prepare_34 (j_cst rfl) ?_
    refine s_aload_n (pc := 35) dX5_prepare_35 rfl ?_
    refine s_getr (pc := 36) dX5_prepare_36 fl_X5_27 cSx_33 rfl ?_
    refine s_getr (pc := 39) dX5_prepare_39 fl_X5_65 cSx_2 rfl ?_
    refine s_iload_n (pc := 42) dX5_prepare_42 rfl ?_
    refine s_iald (pc := 43) (x := h.1 6 (Int.toNat x2)) dX5_prepare_43 cSx_6 k1 rfl ?_
    refine s_ishl (pc := 44) dX5_prepare_44 ?_
    refine s_ior (pc := 45) dX5_prepare_45 ?_
    refine s_iast (pc := 46) dX5_prepare_46 cSx_36 k1 ?_
    refine s_aload_n (pc := 47) dX5_prepare_47 rfl ?_
    refine s_getr (pc := 48) dX5_prepare_48 fl_X5_21 cSx_33 rfl ?_
    refine s_iload_n (pc := 51) dX5_prepare_51 rfl ?_
    refine s_aload_n (pc := 52) dX5_prepare_52 rfl ?_
    refine s_getr (pc := 53) dX5_prepare_53 fl_X5_68 cSx_17 rfl ?_
    refine s_iload_n (pc := 56) dX5_prepare_56 rfl ?_
    refine s_iald (pc := 57) (x := h.1 19 (Int.toNat x2)) dX5_prepare_57 cSx_19 k1 rfl ?_
    refine s_iconst (pc := 58) dX5_prepare_58 (j_cst rfl) ?_
    refine s_icmp_ne (pc := 59) (tgt := 71) dX5_prepare_59 (by decide) (fun hc => ?_) (fun hc => ?_)
    · have H := H.2 hc
      refine s_iconst (pc := 71) dX5_prepare_71 (j_cst rfl) ?_
      refine s_iast (pc := 72) dX5_prepare_72 cSx_37 k1 ?_
      refine s_aload_n (pc := 73) dX5_prepare_73 rfl ?_
      refine s_getr (pc := 74) dX5_prepare_74 fl_X5_68 cSx_17 rfl ?_
      refine s_iload_n (pc := 77) dX5_prepare_77 rfl ?_
      refine s_iald (pc := 78) (x := h.1 19 (Int.toNat x2)) dX5_prepare_78 cSx_19 k1 rfl ?_
      refine s_iconst (pc := 79) dX5_prepare_79 (j_cst rfl) ?_
      refine s_icmp_ne (pc := 80) (tgt := 103) dX5_prepare_80 (by decide) (fun hc => ?_) (fun hc => ?_)
      · have H := H.2 hc
        obtain ⟨k2, H⟩ := H
        refine s_iinc (pc := 103) (lv' := [jR 33, jR 17, jI (x2 + 1)]) dX5_prepare_103 rfl (by decide) k2 rfl ?_
        refine s_goto (pc := 106) (tgt := 7) dX5_prepare_106 (by decide) ?_
        exact H
      · have H := H.1 hc
        refine s_aload_n (pc := 83) dX5_prepare_83 rfl ?_
        refine s_getr (pc := 84) dX5_prepare_84 fl_X5_9 cSx_33 rfl ?_
        refine s_aload_n (pc := 87) dX5_prepare_87 rfl ?_
        refine s_geti (pc := 88) (x := h.1 33 3) dX5_prepare_88 fl_X5_44 cSx_33 rfl rfl ?_
        refine s_iload_n (pc := 91) dX5_prepare_91 rfl ?_
        obtain ⟨k3, H⟩ := H
        refine s_iast (pc := 92) dX5_prepare_92 cSx_34 k3 ?_
        refine s_aload_n (pc := 93) dX5_prepare_93 rfl ?_
        refine s_dup (pc := 94) dX5_prepare_94 rfl ?_
        refine s_geti (pc := 95) (x := h.1 33 3) dX5_prepare_95 fl_X5_44 cSx_33 rfl rfl ?_
        refine s_iconst (pc := 98) dX5_prepare_98 (j_cst rfl) ?_
        obtain ⟨k4, H⟩ := H
        refine s_iadd (pc := 99) dX5_prepare_99 k4 ?_
        refine s_puti (pc := 100) dX5_prepare_100 fp_X5_44 cSx_33 rfl ?_
        obtain ⟨k5, H⟩ := H
        refine s_iinc (pc := 103) (lv' := [jR 33, jR 17, jI (x2 + 1)]) dX5_prepare_103 rfl (by decide) k5 rfl ?_
        refine s_goto (pc := 106) (tgt := 7) dX5_prepare_106 (by decide) ?_
        exact H
    · have H := H.1 hc
      refine s_aload_n (pc := 62) dX5_prepare_62 rfl ?_
      refine s_getr (pc := 63) dX5_prepare_63 fl_X5_73 cSx_17 rfl ?_
      refine s_iload_n (pc := 66) dX5_prepare_66 rfl ?_
      refine s_iald (pc := 67) (x := h.1 20 (Int.toNat x2)) dX5_prepare_67 cSx_20 k1 rfl ?_
      refine s_goto (pc := 68) (tgt := 72) dX5_prepare_68 (by decide) ?_
      refine s_iast (pc := 72) dX5_prepare_72 cSx_37 k1 ?_
      refine s_aload_n (pc := 73) dX5_prepare_73 rfl ?_
      refine s_getr (pc := 74) dX5_prepare_74 fl_X5_68 cSx_17 rfl ?_
      refine s_iload_n (pc := 77) dX5_prepare_77 rfl ?_
      refine s_iald (pc := 78) (x := h.1 19 (Int.toNat x2)) dX5_prepare_78 cSx_19 k1 rfl ?_
      refine s_iconst (pc := 79) dX5_prepare_79 (j_cst rfl) ?_
      refine s_icmp_ne (pc := 80) (tgt := 103) dX5_prepare_80 (by decide) (fun hc => ?_) (fun hc => ?_)
      · have H := H.2 hc
        obtain ⟨k6, H⟩ := H
        refine s_iinc (pc := 103) (lv' := [jR 33, jR 17, jI (x2 + 1)]) dX5_prepare_103 rfl (by decide) k6 rfl ?_
        refine s_goto (pc := 106) (tgt := 7) dX5_prepare_106 (by decide) ?_
        exact H
      · have H := H.1 hc
        refine s_aload_n (pc := 83) dX5_prepare_83 rfl ?_
        refine s_getr (pc := 84) dX5_prepare_84 fl_X5_9 cSx_33 rfl ?_
        refine s_aload_n (pc := 87) dX5_prepare_87 rfl ?_
        refine s_geti (pc := 88) (x := h.1 33 3) dX5_prepare_88 fl_X5_44 cSx_33 rfl rfl ?_
        refine s_iload_n (pc := 91) dX5_prepare_91 rfl ?_
        obtain ⟨k7, H⟩ := H
        refine s_iast (pc := 92) dX5_prepare_92 cSx_34 k7 ?_
        refine s_aload_n (pc := 93) dX5_prepare_93 rfl ?_
        refine s_dup (pc := 94) dX5_prepare_94 rfl ?_
        refine s_geti (pc := 95) (x := h.1 33 3) dX5_prepare_95 fl_X5_44 cSx_33 rfl rfl ?_
        refine s_iconst (pc := 98) dX5_prepare_98 (j_cst rfl) ?_
        obtain ⟨k8, H⟩ := H
        refine s_iadd (pc := 99) dX5_prepare_99 k8 ?_
        refine s_puti (pc := 100) dX5_prepare_100 fp_X5_44 cSx_33 rfl ?_
        obtain ⟨k9, H⟩ := H
        refine s_iinc (pc := 103) (lv' := [jR 33, jR 17, jI (x2 + 1)]) dX5_prepare_103 rfl (by decide) k9 rfl ?_
        refine s_goto (pc := 106) (tgt := 7) dX5_prepare_106 (by decide) ?_
        exact H
theorem en_X5_nextEnd_33 {x1 : Int} {h : jH} {post : jQ} (k : ∀ G, WV Sx G M_X5_nextEnd post 0 [jR 33, jI x1, jU, jU] [] h) : CT Sx M_X5_nextEnd [jR 33, jI x1] h post := CT.of (by decide +kernel) (by simp [j_un]) (Nat.le_of_ble_eq_true rfl) _ rfl k
set_option maxRecDepth 20000 in
theorem vc_X5_nextEnd_33_0 {G : jG} {Q : jQ} {x1 : Int} {h : jH}
    (H : WV Sx G M_X5_nextEnd Q 5 [jR 33, jI x1, jI 30, jI 0] [] h) :
    WV Sx G M_X5_nextEnd Q 0 [jR 33, jI x1, jU, jU] [] h := by
  refine s_bipush (pc := 0) dX5_nextEnd_0 rfl (j_cst rfl) ?_
  refine s_istore_n (pc := 2) (lv' := [jR 33, jI x1, jI 30, jU]) dX5_nextEnd_2 (by decide) rfl ?_
  refine s_iconst (pc := 3) dX5_nextEnd_3 (j_cst rfl) ?_
  refine s_istore_n (pc := 4) (lv' := [jR 33, jI x1, jI 30, jI 0]) dX5_nextEnd_4 (by decide) rfl ?_
  exact H
set_option maxRecDepth 20000 in
theorem vc_X5_nextEnd_33_5 {G : jG} {Q : jQ} {x1 x2 x3 : Int} {h : jH}
    (H : ((h.1 2 2) ≤ x3 → Q (some (jI x2)) h) ∧ (¬ (h.1 2 2) ≤ x3 → (0 ≤ x3 ∧ x3 < 7) ∧ (((h.1 38 (Int.toNat x3)) ≤ x1 → (j_rg (x3 + 1)) ∧ (WV Sx G M_X5_nextEnd Q 5 [jR 33, jI x1, jI x2, jI (x3 + 1)] [] h)) ∧ (¬ (h.1 38 (Int.toNat x3)) ≤ x1 → (x2 ≤ (h.1 38 (Int.toNat x3)) → (j_rg (x3 + 1)) ∧ (WV Sx G M_X5_nextEnd Q 5 [jR 33, jI x1, jI x2, jI (x3 + 1)] [] h)) ∧ (¬ x2 ≤ (h.1 38 (Int.toNat x3)) → (j_rg (x3 + 1)) ∧ (WV Sx G M_X5_nextEnd Q 5 [jR 33, jI x1, jI (h.1 38 (Int.toNat x3)), jI (x3 + 1)] [] h)))))) :
    WV Sx G M_X5_nextEnd Q 5 [jR 33, jI x1, jI x2, jI x3] [] h := by
  refine s_iload_n (pc := 5) dX5_nextEnd_5 rfl ?_
  refine s_aload_n (pc := 6) dX5_nextEnd_6 rfl ?_
  refine s_getr (pc := 7) dX5_nextEnd_7 fl_X5_27 cSx_33 rfl ?_
  refine s_geti (pc := 10) (x := h.1 2 2) dX5_nextEnd_10 fl_X5_57 cSx_2 rfl rfl ?_
  refine s_icmp_ge (pc := 13) (tgt := 49) dX5_nextEnd_13 (by decide) (fun hc => ?_) (fun hc => ?_)
  · have H := H.1 hc
    refine s_iload_n (pc := 49) dX5_nextEnd_49 rfl ?_
    exact s_iret dX5_nextEnd_50 rfl H
  · have H := H.2 hc
    refine s_aload_n (pc := 16) dX5_nextEnd_16 rfl ?_
    refine s_getr (pc := 17) dX5_nextEnd_17 fl_X5_24 cSx_33 rfl ?_
    refine s_iload_n (pc := 20) dX5_nextEnd_20 rfl ?_
    obtain ⟨k1, H⟩ := H
    refine s_iald (pc := 21) (x := h.1 38 (Int.toNat x3)) dX5_nextEnd_21 cSx_38 k1 rfl ?_
    refine s_iload_n (pc := 22) dX5_nextEnd_22 rfl ?_
    refine s_icmp_le (pc := 23) (tgt := 43) dX5_nextEnd_23 (by decide) (fun hc => ?_) (fun hc => ?_)
    · have H := H.1 hc
      obtain ⟨k2, H⟩ := H
      refine s_iinc (pc := 43) (lv' := [jR 33, jI x1, jI x2, jI (x3 + 1)]) dX5_nextEnd_43 rfl (by decide) k2 rfl ?_
      refine s_goto (pc := 46) (tgt := 5) dX5_nextEnd_46 (by decide) ?_
      exact H
    · have H := H.2 hc
      refine s_aload_n (pc := 26) dX5_nextEnd_26 rfl ?_
      refine s_getr (pc := 27) dX5_nextEnd_27 fl_X5_24 cSx_33 rfl ?_
      refine s_iload_n (pc := 30) dX5_nextEnd_30 rfl ?_
      refine s_iald (pc := 31) (x := h.1 38 (Int.toNat x3)) dX5_nextEnd_31 cSx_38 k1 rfl ?_
      refine s_iload_n (pc := 32) dX5_nextEnd_32 rfl ?_
      refine s_icmp_ge (pc := 33) (tgt := 43) dX5_nextEnd_33 (by decide) (fun hc => ?_) (fun hc => ?_)
      · have H := H.1 hc
        obtain ⟨k3, H⟩ := H
        refine s_iinc (pc := 43) (lv' := [jR 33, jI x1, jI x2, jI (x3 + 1)]) dX5_nextEnd_43 rfl (by decide) k3 rfl ?_
        refine s_goto (pc := 46) (tgt := 5) dX5_nextEnd_46 (by decide) ?_
        exact H
      · have H := H.2 hc
        refine s_aload_n (pc := 36) dX5_nextEnd_36 rfl ?_
        refine s_getr (pc := 37) dX5_nextEnd_37 fl_X5_24 cSx_33 rfl ?_
        refine s_iload_n (pc := 40) dX5_nextEnd_40 rfl ?_
        refine s_iald (pc := 41) (x := h.1 38 (Int.toNat x3)) dX5_nextEnd_41 cSx_38 k1 rfl ?_
        refine s_istore_n (pc := 42) (lv' := [jR 33, jI x1, jI (h.1 38 (Int.toNat x3)), jI x3]) dX5_nextEnd_42 (by decide) rfl ?_
        obtain ⟨k4, H⟩ := H
        refine s_iinc (pc := 43) (lv' := [jR 33, jI x1, jI (h.1 38 (Int.toNat x3)), jI (x3 + 1)]) dX5_nextEnd_43 rfl (by decide) k4 rfl ?_
        refine s_goto (pc := 46) (tgt := 5) dX5_nextEnd_46 (by decide) ?_
        exact H
theorem en_X5_plugAlong_33 {x1 : Int} {h : jH} {post : jQ} (k : ∀ G, WV Sx G M_X5_plugAlong post 0 [jR 33, jI x1, jU, jU, jU, jU, jU] [] h) : CT Sx M_X5_plugAlong [jR 33, jI x1] h post := CT.of (by decide +kernel) (by simp [j_un]) (Nat.le_of_ble_eq_true rfl) _ rfl k
set_option maxRecDepth 20000 in
theorem vc_X5_plugAlong_33_0 {G : jG} {Q : jQ} {x1 : Int} {h : jH}
    (H : WV Sx G M_X5_plugAlong Q 13 [jR 33, jI x1, jI 0, jI (h.1 2 1), jI 0, jU, jU] [] h) :
    WV Sx G M_X5_plugAlong Q 0 [jR 33, jI x1, jU, jU, jU, jU, jU] [] h := by
  refine s_iconst (pc := 0) dX5_plugAlong_0 (j_cst rfl) ?_
  refine s_istore_n (pc := 1) (lv' := [jR 33, jI x1, jI 0, jU, jU, jU, jU]) dX5_plugAlong_1 (by decide) rfl ?_
  refine s_aload_n (pc := 2) dX5_plugAlong_2 rfl ?_
  refine s_getr (pc := 3) dX5_plugAlong_3 fl_X5_27 cSx_33 rfl ?_
  refine s_geti (pc := 6) (x := h.1 2 1) dX5_plugAlong_6 fl_X5_82 cSx_2 rfl rfl ?_
  refine s_istore_n (pc := 9) (lv' := [jR 33, jI x1, jI 0, jI (h.1 2 1), jU, jU, jU]) dX5_plugAlong_9 (by decide) rfl ?_
  refine s_iconst (pc := 10) dX5_plugAlong_10 (j_cst rfl) ?_
  refine s_istore (pc := 11) (lv' := [jR 33, jI x1, jI 0, jI (h.1 2 1), jI 0, jU, jU]) dX5_plugAlong_11 (by decide) rfl ?_
  exact H
set_option maxRecDepth 20000 in
theorem vc_X5_plugAlong_33_13 {G : jG} {Q : jQ} {x1 x2 x3 x4 : Int} {h : jH}
    (H : ((h.1 2 2) ≤ x4 → WV Sx G M_X5_plugAlong Q 61 [jR 33, jI x1, jI x2, jI x3, jI 0, jI 0, jU] [] h) ∧ (¬ (h.1 2 2) ≤ x4 → (0 ≤ x4 ∧ x4 < 7) ∧ (((h.1 38 (Int.toNat x4)) ≤ x1 → (j_rg (x4 + 1)) ∧ (WV Sx G M_X5_plugAlong Q 13 [jR 33, jI x1, jI x2, jI x3, jI (x4 + 1), jU, jU] [] h)) ∧ (¬ (h.1 38 (Int.toNat x4)) ≤ x1 → (j_rg (x3 + (-1))) ∧ ((j_rg (x4 + 1)) ∧ (WV Sx G M_X5_plugAlong Q 13 [jR 33, jI x1, jI (b_or x2 (h.1 36 (Int.toNat x4))), jI (x3 + (-1)), jI (x4 + 1), jU, jU] [] h)))))) :
    WV Sx G M_X5_plugAlong Q 13 [jR 33, jI x1, jI x2, jI x3, jI x4, jU, jU] [] h := by
  refine s_iload (pc := 13) dX5_plugAlong_13 rfl ?_
  refine s_aload_n (pc := 15) dX5_plugAlong_15 rfl ?_
  refine s_getr (pc := 16) dX5_plugAlong_16 fl_X5_27 cSx_33 rfl ?_
  refine s_geti (pc := 19) (x := h.1 2 2) dX5_plugAlong_19 fl_X5_57 cSx_2 rfl rfl ?_
  refine s_icmp_ge (pc := 22) (tgt := 55) dX5_plugAlong_22 (by decide) (fun hc => ?_) (fun hc => ?_)
  · have H := H.1 hc
    refine s_iconst (pc := 55) dX5_plugAlong_55 (j_cst rfl) ?_
    refine s_istore (pc := 56) (lv' := [jR 33, jI x1, jI x2, jI x3, jI 0, jU, jU]) dX5_plugAlong_56 (by decide) rfl ?_
    refine s_iconst (pc := 58) dX5_plugAlong_58 (j_cst rfl) ?_
    refine s_istore (pc := 59) (lv' := [jR 33, jI x1, jI x2, jI x3, jI 0, jI 0, jU]) dX5_plugAlong_59 (by decide) rfl ?_
    exact H
  · have H := H.2 hc
    refine s_aload_n (pc := 25) dX5_plugAlong_25 rfl ?_
    refine s_getr (pc := 26) dX5_plugAlong_26 fl_X5_24 cSx_33 rfl ?_
    refine s_iload (pc := 29) dX5_plugAlong_29 rfl ?_
    obtain ⟨k1, H⟩ := H
    refine s_iald (pc := 31) (x := h.1 38 (Int.toNat x4)) dX5_plugAlong_31 cSx_38 k1 rfl ?_
    refine s_iload_n (pc := 32) dX5_plugAlong_32 rfl ?_
    refine s_icmp_le (pc := 33) (tgt := 49) dX5_plugAlong_33 (by decide) (fun hc => ?_) (fun hc => ?_)
    · have H := H.1 hc
      obtain ⟨k2, H⟩ := H
      refine s_iinc (pc := 49) (lv' := [jR 33, jI x1, jI x2, jI x3, jI (x4 + 1), jU, jU]) dX5_plugAlong_49 rfl (by decide) k2 rfl ?_
      refine s_goto (pc := 52) (tgt := 13) dX5_plugAlong_52 (by decide) ?_
      exact H
    · have H := H.2 hc
      refine s_iload_n (pc := 36) dX5_plugAlong_36 rfl ?_
      refine s_aload_n (pc := 37) dX5_plugAlong_37 rfl ?_
      refine s_getr (pc := 38) dX5_plugAlong_38 fl_X5_18 cSx_33 rfl ?_
      refine s_iload (pc := 41) dX5_plugAlong_41 rfl ?_
      refine s_iald (pc := 43) (x := h.1 36 (Int.toNat x4)) dX5_plugAlong_43 cSx_36 k1 rfl ?_
      refine s_ior (pc := 44) dX5_plugAlong_44 ?_
      refine s_istore_n (pc := 45) (lv' := [jR 33, jI x1, jI (b_or x2 (h.1 36 (Int.toNat x4))), jI x3, jI x4, jU, jU]) dX5_plugAlong_45 (by decide) rfl ?_
      obtain ⟨k3, H⟩ := H
      refine s_iinc (pc := 46) (lv' := [jR 33, jI x1, jI (b_or x2 (h.1 36 (Int.toNat x4))), jI (x3 + (-1)), jI x4, jU, jU]) dX5_plugAlong_46 rfl (by decide) k3 rfl ?_
      obtain ⟨k4, H⟩ := H
      refine s_iinc (pc := 49) (lv' := [jR 33, jI x1, jI (b_or x2 (h.1 36 (Int.toNat x4))), jI (x3 + (-1)), jI (x4 + 1), jU, jU]) dX5_plugAlong_49 rfl (by decide) k4 rfl ?_
      refine s_goto (pc := 52) (tgt := 13) dX5_plugAlong_52 (by decide) ?_
      exact H
set_option maxRecDepth 20000 in
theorem vc_X5_plugAlong_33_61 {G : jG} {Q : jQ} {x1 x2 x3 x4 x5 : Int} {u6 : jV} {h : jH}
    (H : ((h.1 33 3) ≤ x5 → Q (some (jI x4)) h) ∧ (¬ (h.1 33 3) ≤ x5 → (0 ≤ x5 ∧ x5 < 7) ∧ ((0 ≤ h.1 34 (Int.toNat x5) ∧ h.1 34 (Int.toNat x5) < 7) ∧ (((h.1 38 (Int.toNat (h.1 34 (Int.toNat x5)))) = 0 → (x3 ≤ 0 → (j_rg (x4 + 1)) ∧ ((j_rg (x5 + 1)) ∧ (WV Sx G M_X5_plugAlong Q 61 [jR 33, jI x1, jI x2, jI x3, jI (x4 + 1), jI (x5 + 1), jI (h.1 34 (Int.toNat x5))] [] h))) ∧ (¬ x3 ≤ 0 → ((b_and x2 (h.1 36 (Int.toNat (h.1 34 (Int.toNat x5))))) = 0 → (j_rg (x1 + (h.1 7 (Int.toNat (h.1 34 (Int.toNat x5)))))) ∧ ((j_rg (x3 + (-1))) ∧ ((j_rg (x5 + 1)) ∧ (WV Sx G M_X5_plugAlong Q 61 [jR 33, jI x1, jI (b_or x2 (h.1 36 (Int.toNat (h.1 34 (Int.toNat x5))))), jI (x3 + (-1)), jI x4, jI (x5 + 1), jI (h.1 34 (Int.toNat x5))] [] (j_up h 38 (Int.toNat (h.1 34 (Int.toNat x5))) (x1 + (h.1 7 (Int.toNat (h.1 34 (Int.toNat x5)))))))))) ∧ (¬ (b_and x2 (h.1 36 (Int.toNat (h.1 34 (Int.toNat x5))))) = 0 → (j_rg (x4 + 1)) ∧ ((j_rg (x5 + 1)) ∧ (WV Sx G M_X5_plugAlong Q 61 [jR 33, jI x1, jI x2, jI x3, jI (x4 + 1), jI (x5 + 1), jI (h.1 34 (Int.toNat x5))] [] h))))) ∧ (¬ (h.1 38 (Int.toNat (h.1 34 (Int.toNat x5)))) = 0 → (j_rg (x5 + 1)) ∧ (WV Sx G M_X5_plugAlong Q 61 [jR 33, jI x1, jI x2, jI x3, jI x4, jI (x5 + 1), jI (h.1 34 (Int.toNat x5))] [] h)))))) :
    WV Sx G M_X5_plugAlong Q 61 [jR 33, jI x1, jI x2, jI x3, jI x4, jI x5, u6] [] h := by
  refine s_iload (pc := 61) dX5_plugAlong_61 rfl ?_
  refine s_aload_n (pc := 63) dX5_plugAlong_63 rfl ?_
  refine s_geti (pc := 64) (x := h.1 33 3) dX5_plugAlong_64 fl_X5_44 cSx_33 rfl rfl ?_
  refine s_icmp_ge (pc := 67) (tgt := 152) dX5_plugAlong_67 (by decide) (fun hc => ?_) (fun hc => ?_)
  · have H := H.1 hc
    refine s_iload (pc := 152) dX5_plugAlong_152 rfl ?_
    exact s_iret dX5_plugAlong_154 rfl H
  · have H := H.2 hc
    refine s_aload_n (pc := 70) dX5_plugAlong_70 rfl ?_
    refine s_getr (pc := 71) dX5_plugAlong_71 fl_X5_9 cSx_33 rfl ?_
    refine s_iload (pc := 74) dX5_plugAlong_74 rfl ?_
    obtain ⟨k1, H⟩ := H
    refine s_iald (pc := 76) (x := h.1 34 (Int.toNat x5)) dX5_plugAlong_76 cSx_34 k1 rfl ?_
    refine s_istore (pc := 77) (lv' := [jR 33, jI x1, jI x2, jI x3, jI x4, jI x5, jI (h.1 34 (Int.toNat x5))]) dX5_plugAlong_77 (by decide) rfl ?_
    refine s_aload_n (pc := 79) dX5_plugAlong_79 rfl ?_
    refine s_getr (pc := 80) dX5_plugAlong_80 fl_X5_24 cSx_33 rfl ?_
    refine s_iload (pc := 83) dX5_plugAlong_83 rfl ?_
    obtain ⟨k2, H⟩ := H
    refine s_iald (pc := 85) (x := h.1 38 (Int.toNat (h.1 34 (Int.toNat x5)))) dX5_plugAlong_85 cSx_38 k2 rfl ?_
    refine s_if_eq (pc := 86) (tgt := 92) dX5_plugAlong_86 (by decide) (fun hc => ?_) (fun hc => ?_)
    · have H := H.1 hc
      refine s_iload_n (pc := 92) dX5_plugAlong_92 rfl ?_
      refine s_if_le (pc := 93) (tgt := 143) dX5_plugAlong_93 (by decide) (fun hc => ?_) (fun hc => ?_)
      · have H := H.1 hc
        obtain ⟨k3, H⟩ := H
        refine s_iinc (pc := 143) (lv' := [jR 33, jI x1, jI x2, jI x3, jI (x4 + 1), jI x5, jI (h.1 34 (Int.toNat x5))]) dX5_plugAlong_143 rfl (by decide) k3 rfl ?_
        obtain ⟨k4, H⟩ := H
        refine s_iinc (pc := 146) (lv' := [jR 33, jI x1, jI x2, jI x3, jI (x4 + 1), jI (x5 + 1), jI (h.1 34 (Int.toNat x5))]) dX5_plugAlong_146 rfl (by decide) k4 rfl ?_
        refine s_goto (pc := 149) (tgt := 61) dX5_plugAlong_149 (by decide) ?_
        exact H
      · have H := H.2 hc
        refine s_iload_n (pc := 96) dX5_plugAlong_96 rfl ?_
        refine s_aload_n (pc := 97) dX5_plugAlong_97 rfl ?_
        refine s_getr (pc := 98) dX5_plugAlong_98 fl_X5_18 cSx_33 rfl ?_
        refine s_iload (pc := 101) dX5_plugAlong_101 rfl ?_
        refine s_iald (pc := 103) (x := h.1 36 (Int.toNat (h.1 34 (Int.toNat x5)))) dX5_plugAlong_103 cSx_36 k2 rfl ?_
        refine s_iand (pc := 104) dX5_plugAlong_104 ?_
        refine s_if_ne (pc := 105) (tgt := 143) dX5_plugAlong_105 (by decide) (fun hc => ?_) (fun hc => ?_)
        · have H := H.2 hc
          obtain ⟨k5, H⟩ := H
          refine s_iinc (pc := 143) (lv' := [jR 33, jI x1, jI x2, jI x3, jI (x4 + 1), jI x5, jI (h.1 34 (Int.toNat x5))]) dX5_plugAlong_143 rfl (by decide) k5 rfl ?_
          obtain ⟨k6, H⟩ := H
          refine s_iinc (pc := 146) (lv' := [jR 33, jI x1, jI x2, jI x3, jI (x4 + 1), jI (x5 + 1), jI (h.1 34 (Int.toNat x5))]) dX5_plugAlong_146 rfl (by decide) k6 rfl ?_
          refine s_goto (pc := 149) (tgt := 61) dX5_plugAlong_149 (by decide) ?_
          exact H
        · have H := H.1 hc
          refine s_aload_n (pc := 108) dX5_plugAlong_108 rfl ?_
          refine s_getr (pc := 109) dX5_plugAlong_109 fl_X5_24 cSx_33 rfl ?_
          refine s_iload (pc := 112) dX5_plugAlong_112 rfl ?_
          refine s_iload_n (pc := 114) dX5_plugAlong_114 rfl ?_
          refine s_aload_n (pc := 115) dX5_plugAlong_115 rfl ?_
          refine s_getr (pc := 116) dX5_plugAlong_116 fl_X5_27 cSx_33 rfl ?_
          refine s_getr (pc := 119) dX5_plugAlong_119 fl_X5_85 cSx_2 rfl ?_
          refine s_iload (pc := 122) dX5_plugAlong_122 rfl ?_
          refine s_iald (pc := 124) (x := h.1 7 (Int.toNat (h.1 34 (Int.toNat x5)))) dX5_plugAlong_124 cSx_7 k2 rfl ?_
          obtain ⟨k7, H⟩ := H
          refine s_iadd (pc := 125) dX5_plugAlong_125 k7 ?_
          refine s_iast (pc := 126) dX5_plugAlong_126 cSx_38 k2 ?_
          refine s_iload_n (pc := 127) dX5_plugAlong_127 rfl ?_
          refine s_aload_n (pc := 128) dX5_plugAlong_128 rfl ?_
          refine s_getr (pc := 129) dX5_plugAlong_129 fl_X5_18 cSx_33 rfl ?_
          refine s_iload (pc := 132) dX5_plugAlong_132 rfl ?_
          refine s_iald (pc := 134) (x := h.1 36 (Int.toNat (h.1 34 (Int.toNat x5)))) dX5_plugAlong_134 cSx_36 k2 rfl ?_
          refine s_ior (pc := 135) dX5_plugAlong_135 ?_
          refine s_istore_n (pc := 136) (lv' := [jR 33, jI x1, jI (b_or x2 (h.1 36 (Int.toNat (h.1 34 (Int.toNat x5))))), jI x3, jI x4, jI x5, jI (h.1 34 (Int.toNat x5))]) dX5_plugAlong_136 (by decide) rfl ?_
          obtain ⟨k8, H⟩ := H
          refine s_iinc (pc := 137) (lv' := [jR 33, jI x1, jI (b_or x2 (h.1 36 (Int.toNat (h.1 34 (Int.toNat x5))))), jI (x3 + (-1)), jI x4, jI x5, jI (h.1 34 (Int.toNat x5))]) dX5_plugAlong_137 rfl (by decide) k8 rfl ?_
          refine s_goto (pc := 140) (tgt := 146) dX5_plugAlong_140 (by decide) ?_
          obtain ⟨k9, H⟩ := H
          refine s_iinc (pc := 146) (lv' := [jR 33, jI x1, jI (b_or x2 (h.1 36 (Int.toNat (h.1 34 (Int.toNat x5))))), jI (x3 + (-1)), jI x4, jI (x5 + 1), jI (h.1 34 (Int.toNat x5))]) dX5_plugAlong_146 rfl (by decide) k9 rfl ?_
          refine s_goto (pc := 149) (tgt := 61) dX5_plugAlong_149 (by decide) ?_
          exact H
    · have H := H.2 hc
      refine s_goto (pc := 89) (tgt := 146) dX5_plugAlong_89 (by decide) ?_
      obtain ⟨k10, H⟩ := H
      refine s_iinc (pc := 146) (lv' := [jR 33, jI x1, jI x2, jI x3, jI x4, jI (x5 + 1), jI (h.1 34 (Int.toNat x5))]) dX5_plugAlong_146 rfl (by decide) k10 rfl ?_
      refine s_goto (pc := 149) (tgt := 61) dX5_plugAlong_149 (by decide) ?_
      exact H
theorem en_X5_waitsFor_33 {x1 : Int} {h : jH} {post : jQ} (k : ∀ G, WV Sx G M_X5_waitsFor post 0 [jR 33, jI x1, jU, jU, jU, jU, jU] [] h) : CT Sx M_X5_waitsFor [jR 33, jI x1] h post := CT.of (by decide +kernel) (by simp [j_un]) (Nat.le_of_ble_eq_true rfl) _ rfl k
set_option maxRecDepth 20000 in
theorem vc_X5_waitsFor_33_0 {G : jG} {Q : jQ} {x1 : Int} {h : jH}
    (H : WV Sx G M_X5_waitsFor Q 22 [jR 33, jI x1, jI 0, jI 0, jI 0, jU, jU] [] (j_cp h 37 0 38 0 7)) :
    WV Sx G M_X5_waitsFor Q 0 [jR 33, jI x1, jU, jU, jU, jU, jU] [] h := by
  refine s_aload_n (pc := 0) dX5_waitsFor_0 rfl ?_
  refine s_getr (pc := 1) dX5_waitsFor_1 fl_X5_21 cSx_33 rfl ?_
  refine s_iconst (pc := 4) dX5_waitsFor_4 (j_cst rfl) ?_
  refine s_aload_n (pc := 5) dX5_waitsFor_5 rfl ?_
  refine s_getr (pc := 6) dX5_waitsFor_6 fl_X5_24 cSx_33 rfl ?_
  refine s_iconst (pc := 9) dX5_waitsFor_9 (j_cst rfl) ?_
  refine s_bipush (pc := 10) dX5_waitsFor_10 rfl (j_cst rfl) ?_
  refine s_copy (pc := 12) dX5_waitsFor_12 ma_X5_47 ⟨Nat.le_of_ble_eq_true rfl, Nat.le_of_ble_eq_true rfl⟩ cSx_37 cSx_38 ⟨by decide, by decide, by decide, by decide, by decide⟩ ?_
  refine s_iconst (pc := 15) dX5_waitsFor_15 (j_cst rfl) ?_
  refine s_istore_n (pc := 16) (lv' := [jR 33, jI x1, jI 0, jU, jU, jU, jU]) dX5_waitsFor_16 (by decide) rfl ?_
  refine s_iconst (pc := 17) dX5_waitsFor_17 (j_cst rfl) ?_
  refine s_istore_n (pc := 18) (lv' := [jR 33, jI x1, jI 0, jI 0, jU, jU, jU]) dX5_waitsFor_18 (by decide) rfl ?_
  refine s_iconst (pc := 19) dX5_waitsFor_19 (j_cst rfl) ?_
  refine s_istore (pc := 20) (lv' := [jR 33, jI x1, jI 0, jI 0, jI 0, jU, jU]) dX5_waitsFor_20 (by decide) rfl ?_
  exact H
set_option maxRecDepth 20000 in
theorem vc_X5_waitsFor_33_22 {G : jG} {Q : jQ} {x1 x2 x3 x4 : Int} {u5 u6 : jV} {h : jH}
    (H : (30 ≤ x4 → Q (some (jI x2)) h) ∧ (¬ 30 ≤ x4 → (30 ≤ x3 → Q (some (jI x2)) h) ∧ (¬ 30 ≤ x3 → (x1 ≤ x2 → Q (some (jI x2)) h) ∧ (¬ x1 ≤ x2 → ∃ post : Int → jH → Prop, CT Sx M_X5_plugAlong [jR 33, jI x3] h (jPi post) ∧ ∀ (r1 : Int) (h2 : jH), post r1 h2 → ((r1 = 0 → Q (some (jI x2)) h2) ∧ (¬ r1 = 0 → ∃ post : Int → jH → Prop, CT Sx M_X5_nextEnd [jR 33, jI x3] h2 (jPi post) ∧ ∀ (r3 : Int) (h4 : jH), post r3 h4 → ((j_rg (r3 - x3)) ∧ ((j_rg (r1 * (r3 - x3))) ∧ ((j_rg (x2 + (r1 * (r3 - x3)))) ∧ ((j_rg (x4 + 1)) ∧ (WV Sx G M_X5_waitsFor Q 22 [jR 33, jI x1, jI (x2 + (r1 * (r3 - x3))), jI r3, jI (x4 + 1), jI r1, jI r3] [] h4))))))))))) :
    WV Sx G M_X5_waitsFor Q 22 [jR 33, jI x1, jI x2, jI x3, jI x4, u5, u6] [] h := by
  refine s_iload (pc := 22) dX5_waitsFor_22 rfl ?_
  refine s_bipush (pc := 24) dX5_waitsFor_24 rfl (j_cst rfl) ?_
  refine s_icmp_ge (pc := 26) (tgt := 81) dX5_waitsFor_26 (by decide) (fun hc => ?_) (fun hc => ?_)
  · have H := H.1 hc
    refine s_iload_n (pc := 81) dX5_waitsFor_81 rfl ?_
    exact s_iret dX5_waitsFor_82 rfl H
  · have H := H.2 hc
    refine s_iload_n (pc := 29) dX5_waitsFor_29 rfl ?_
    refine s_bipush (pc := 30) dX5_waitsFor_30 rfl (j_cst rfl) ?_
    refine s_icmp_ge (pc := 32) (tgt := 81) dX5_waitsFor_32 (by decide) (fun hc => ?_) (fun hc => ?_)
    · have H := H.1 hc
      refine s_iload_n (pc := 81) dX5_waitsFor_81 rfl ?_
      exact s_iret dX5_waitsFor_82 rfl H
    · have H := H.2 hc
      refine s_iload_n (pc := 35) dX5_waitsFor_35 rfl ?_
      refine s_iload_n (pc := 36) dX5_waitsFor_36 rfl ?_
      refine s_icmp_ge (pc := 37) (tgt := 81) dX5_waitsFor_37 (by decide) (fun hc => ?_) (fun hc => ?_)
      · have H := H.1 hc
        refine s_iload_n (pc := 81) dX5_waitsFor_81 rfl ?_
        exact s_iret dX5_waitsFor_82 rfl H
      · have H := H.2 hc
        refine s_aload_n (pc := 40) dX5_waitsFor_40 rfl ?_
        refine s_iload_n (pc := 41) dX5_waitsFor_41 rfl ?_
        obtain ⟨post, hct, H⟩ := H
        refine s_callV (pc := 42) (as := [jI x3]) (st := []) (by exact dX5_waitsFor_42) mv_X5_76 ⟨rfl, rfl, Nat.le_of_ble_eq_true rfl, Nat.le_of_ble_eq_true rfl⟩ cSx_33 rfl rfl (Nat.le_of_ble_eq_true rfl) _ rfl hct (fun r1 h2 hp => ?_)
        obtain ⟨r1, rfl, hp⟩ := hp
        have H := H r1 h2 hp
        show WV _ _ _ _ 45 [jR 33, jI x1, jI x2, jI x3, jI x4, u5, u6] [jI r1] h2
        refine s_istore (pc := 45) (lv' := [jR 33, jI x1, jI x2, jI x3, jI x4, jI r1, u6]) dX5_waitsFor_45 (by decide) rfl ?_
        refine s_iload (pc := 47) dX5_waitsFor_47 rfl ?_
        refine s_if_ne (pc := 49) (tgt := 55) dX5_waitsFor_49 (by decide) (fun hc => ?_) (fun hc => ?_)
        · have H := H.2 hc
          refine s_aload_n (pc := 55) dX5_waitsFor_55 rfl ?_
          refine s_iload_n (pc := 56) dX5_waitsFor_56 rfl ?_
          obtain ⟨post, hct, H⟩ := H
          refine s_callV (pc := 57) (as := [jI x3]) (st := []) (by exact dX5_waitsFor_57) mv_X5_79 ⟨rfl, rfl, Nat.le_of_ble_eq_true rfl, Nat.le_of_ble_eq_true rfl⟩ cSx_33 rfl rfl (Nat.le_of_ble_eq_true rfl) _ rfl hct (fun r3 h4 hp => ?_)
          obtain ⟨r3, rfl, hp⟩ := hp
          have H := H r3 h4 hp
          show WV _ _ _ _ 60 [jR 33, jI x1, jI x2, jI x3, jI x4, jI r1, u6] [jI r3] h4
          refine s_istore (pc := 60) (lv' := [jR 33, jI x1, jI x2, jI x3, jI x4, jI r1, jI r3]) dX5_waitsFor_60 (by decide) rfl ?_
          refine s_iload_n (pc := 62) dX5_waitsFor_62 rfl ?_
          refine s_iload (pc := 63) dX5_waitsFor_63 rfl ?_
          refine s_iload (pc := 65) dX5_waitsFor_65 rfl ?_
          refine s_iload_n (pc := 67) dX5_waitsFor_67 rfl ?_
          obtain ⟨k5, H⟩ := H
          refine s_isub (pc := 68) dX5_waitsFor_68 k5 ?_
          obtain ⟨k6, H⟩ := H
          refine s_imul (pc := 69) dX5_waitsFor_69 k6 ?_
          obtain ⟨k7, H⟩ := H
          refine s_iadd (pc := 70) dX5_waitsFor_70 k7 ?_
          refine s_istore_n (pc := 71) (lv' := [jR 33, jI x1, jI (x2 + (r1 * (r3 - x3))), jI x3, jI x4, jI r1, jI r3]) dX5_waitsFor_71 (by decide) rfl ?_
          refine s_iload (pc := 72) dX5_waitsFor_72 rfl ?_
          refine s_istore_n (pc := 74) (lv' := [jR 33, jI x1, jI (x2 + (r1 * (r3 - x3))), jI r3, jI x4, jI r1, jI r3]) dX5_waitsFor_74 (by decide) rfl ?_
          obtain ⟨k8, H⟩ := H
          refine s_iinc (pc := 75) (lv' := [jR 33, jI x1, jI (x2 + (r1 * (r3 - x3))), jI r3, jI (x4 + 1), jI r1, jI r3]) dX5_waitsFor_75 rfl (by decide) k8 rfl ?_
          refine s_goto (pc := 78) (tgt := 22) dX5_waitsFor_78 (by decide) ?_
          exact H
        · have H := H.1 hc
          refine s_goto (pc := 52) (tgt := 81) dX5_waitsFor_52 (by decide) ?_
          refine s_iload_n (pc := 81) dX5_waitsFor_81 rfl ?_
          exact s_iret dX5_waitsFor_82 rfl H
