theorem j_one_Sx : ∀ i, ([some (some 1), some (some 2), some (some 9), some (some 17), some (some 22), some (some 24), some (some 25), some (some 26), some (some 33), some (some 39), some none, none] : List (Option (Option Nat)))[i]? = some none → i = 11 := by
  intro i h
  rcases Nat.lt_or_ge i 12 with q | q
  · exact (by decide : ∀ i, i < 12 → ([some (some 1), some (some 2), some (some 9), some (some 17), some (some 22), some (some 24), some (some 25), some (some 26), some (some 33), some (some 39), some none, none] : List (Option (Option Nat)))[i]? = some none → i = 11) i q h
  · rw [List.getElem?_eq_none (by simpa using q)] at h
    cases h
theorem en_X7_type_0 {x1 : Int} {h : jH} {post : jQ} (k : ∀ G, WV Sx G M_X7_type post 0 [jR 0, jI x1] [] h) : CT Sx M_X7_type [jR 0, jI x1] h post := CT.of (by decide +kernel) (by simp [j_un]) (Nat.le_of_ble_eq_true rfl) _ rfl k
set_option maxRecDepth 20000 in
theorem vc_X7_type_0_0 {G : jG} {Q : jQ} {x1 : Int} {h : jH}
    (H : (x1 < 0 → Q (some (jI (-1))) h) ∧ (¬ x1 < 0 → (x1 ≤ 255 → ((h.1 0 10) < 200 → (0 ≤ h.1 0 10 ∧ h.1 0 10 < 200) ∧ ((j_rg ((h.1 0 10) + 1)) ∧ (Q (some (jI ((h.1 0 10) + 1))) (j_up (j_up h 1 (Int.toNat (h.1 0 10)) x1) 0 10 ((h.1 0 10) + 1))))) ∧ (¬ (h.1 0 10) < 200 → Q (some (jI (-3))) h)) ∧ (¬ x1 ≤ 255 → Q (some (jI (-1))) h))) :
    WV Sx G M_X7_type Q 0 [jR 0, jI x1] [] h := by
  refine s_iload_n (pc := 0) dX7_type_0 rfl ?_
  refine s_if_lt (pc := 1) (tgt := 11) dX7_type_1 (by decide) (fun hc => ?_) (fun hc => ?_)
  · have H := H.1 hc
    refine s_iconst (pc := 11) dX7_type_11 (j_cst rfl) ?_
    exact s_iret dX7_type_12 rfl H
  · have H := H.2 hc
    refine s_iload_n (pc := 4) dX7_type_4 rfl ?_
    refine s_sipush (pc := 5) dX7_type_5 rfl (j_cst rfl) ?_
    refine s_icmp_le (pc := 8) (tgt := 13) dX7_type_8 (by decide) (fun hc => ?_) (fun hc => ?_)
    · have H := H.1 hc
      refine s_aload_n (pc := 13) dX7_type_13 rfl ?_
      refine s_geti (pc := 14) (x := h.1 0 10) dX7_type_14 fl_X7_73 cSx_0 rfl rfl ?_
      refine s_sipush (pc := 17) dX7_type_17 rfl (j_cst rfl) ?_
      refine s_icmp_lt (pc := 20) (tgt := 26) dX7_type_20 (by decide) (fun hc => ?_) (fun hc => ?_)
      · have H := H.1 hc
        refine s_aload_n (pc := 26) dX7_type_26 rfl ?_
        refine s_getr (pc := 27) dX7_type_27 fl_X7_9 cSx_0 rfl ?_
        refine s_aload_n (pc := 30) dX7_type_30 rfl ?_
        refine s_geti (pc := 31) (x := h.1 0 10) dX7_type_31 fl_X7_73 cSx_0 rfl rfl ?_
        refine s_iload_n (pc := 34) dX7_type_34 rfl ?_
        obtain ⟨k1, H⟩ := H
        refine s_iast (pc := 35) dX7_type_35 cSx_1 k1 ?_
        refine s_aload_n (pc := 36) dX7_type_36 rfl ?_
        refine s_dup (pc := 37) dX7_type_37 rfl ?_
        refine s_geti (pc := 38) (x := h.1 0 10) dX7_type_38 fl_X7_73 cSx_0 rfl rfl ?_
        refine s_iconst (pc := 41) dX7_type_41 (j_cst rfl) ?_
        obtain ⟨k2, H⟩ := H
        refine s_iadd (pc := 42) dX7_type_42 k2 ?_
        refine s_puti (pc := 43) dX7_type_43 fp_X7_73 cSx_0 rfl ?_
        refine s_aload_n (pc := 46) dX7_type_46 rfl ?_
        refine s_geti (pc := 47) (x := (h.1 0 10) + 1) dX7_type_47 fl_X7_73 cSx_0 rfl rfl ?_
        exact s_iret dX7_type_50 rfl H
      · have H := H.2 hc
        refine s_bipush (pc := 23) dX7_type_23 rfl (j_cst rfl) ?_
        exact s_iret dX7_type_25 rfl H
    · have H := H.2 hc
      refine s_iconst (pc := 11) dX7_type_11 (j_cst rfl) ?_
      exact s_iret dX7_type_12 rfl H
theorem en_X7_clear_0 {h : jH} {post : jQ} (k : ∀ G, WV Sx G M_X7_clear post 0 [jR 0, jU] [] h) : CT Sx M_X7_clear [jR 0] h post := CT.of (by decide +kernel) (by simp [j_un]) (Nat.le_of_ble_eq_true rfl) _ rfl k
set_option maxRecDepth 20000 in
theorem vc_X7_clear_0_0 {G : jG} {Q : jQ} {h : jH}
    (H : Q (some (jI (h.1 0 10))) (j_up h 0 10 0)) :
    WV Sx G M_X7_clear Q 0 [jR 0, jU] [] h := by
  refine s_aload_n (pc := 0) dX7_clear_0 rfl ?_
  refine s_geti (pc := 1) (x := h.1 0 10) dX7_clear_1 fl_X7_73 cSx_0 rfl rfl ?_
  refine s_istore_n (pc := 4) (lv' := [jR 0, jI (h.1 0 10)]) dX7_clear_4 (by decide) rfl ?_
  refine s_aload_n (pc := 5) dX7_clear_5 rfl ?_
  refine s_iconst (pc := 6) dX7_clear_6 (j_cst rfl) ?_
  refine s_puti (pc := 7) dX7_clear_7 fp_X7_73 cSx_0 rfl ?_
  refine s_iload_n (pc := 10) dX7_clear_10 rfl ?_
  exact s_iret dX7_clear_11 rfl H
theorem en_X2_letFall_17 {h : jH} {post : jQ} (k : ∀ G, WV Sx G M_X2_letFall post 0 [jR 17, jU] [] h) : CT Sx M_X2_letFall [jR 17] h post := CT.of (by decide +kernel) (by simp [j_un]) (Nat.le_of_ble_eq_true rfl) _ rfl k
set_option maxRecDepth 20000 in
theorem vc_X2_letFall_17_0 {G : jG} {Q : jQ} {h : jH}
    (H : WV Sx G M_X2_letFall Q 2 [jR 17, jI 0] [] h) :
    WV Sx G M_X2_letFall Q 0 [jR 17, jU] [] h := by
  refine s_iconst (pc := 0) dX2_letFall_0 (j_cst rfl) ?_
  refine s_istore_n (pc := 1) (lv' := [jR 17, jI 0]) dX2_letFall_1 (by decide) rfl ?_
  exact H
set_option maxRecDepth 20000 in
theorem vc_X2_letFall_17_2 {G : jG} {Q : jQ} {x1 : Int} {h : jH}
    (H : ((h.1 2 2) ≤ x1 → Q none h) ∧ (¬ (h.1 2 2) ≤ x1 → (0 ≤ x1 ∧ x1 < 7) ∧ (((h.1 19 (Int.toNat x1)) = 0 → ((h.1 4 (Int.toNat x1)) = (h.1 17 1) → (j_rg (x1 + 1)) ∧ (WV Sx G M_X2_letFall Q 2 [jR 17, jI (x1 + 1)] [] (j_up h 19 (Int.toNat x1) 1))) ∧ (¬ (h.1 4 (Int.toNat x1)) = (h.1 17 1) → (j_rg (x1 + 1)) ∧ (WV Sx G M_X2_letFall Q 2 [jR 17, jI (x1 + 1)] [] h))) ∧ (¬ (h.1 19 (Int.toNat x1)) = 0 → (j_rg (x1 + 1)) ∧ (WV Sx G M_X2_letFall Q 2 [jR 17, jI (x1 + 1)] [] h))))) :
    WV Sx G M_X2_letFall Q 2 [jR 17, jI x1] [] h := by
  refine s_iload_n (pc := 2) dX2_letFall_2 rfl ?_
  refine s_aload_n (pc := 3) dX2_letFall_3 rfl ?_
  refine s_getr (pc := 4) dX2_letFall_4 fl_X2_24 cSx_17 rfl ?_
  refine s_geti (pc := 7) (x := h.1 2 2) dX2_letFall_7 fl_X2_44 cSx_2 rfl rfl ?_
  refine s_icmp_ge (pc := 10) (tgt := 51) dX2_letFall_10 (by decide) (fun hc => ?_) (fun hc => ?_)
  · have H := H.1 hc
    exact s_vret dX2_letFall_51 rfl H
  · have H := H.2 hc
    refine s_aload_n (pc := 13) dX2_letFall_13 rfl ?_
    refine s_getr (pc := 14) dX2_letFall_14 fl_X2_15 cSx_17 rfl ?_
    refine s_iload_n (pc := 17) dX2_letFall_17 rfl ?_
    obtain ⟨k1, H⟩ := H
    refine s_iald (pc := 18) (x := h.1 19 (Int.toNat x1)) dX2_letFall_18 cSx_19 k1 rfl ?_
    refine s_if_ne (pc := 19) (tgt := 45) dX2_letFall_19 (by decide) (fun hc => ?_) (fun hc => ?_)
    · have H := H.2 hc
      obtain ⟨k2, H⟩ := H
      refine s_iinc (pc := 45) (lv' := [jR 17, jI (x1 + 1)]) dX2_letFall_45 rfl (by decide) k2 rfl ?_
      refine s_goto (pc := 48) (tgt := 2) dX2_letFall_48 (by decide) ?_
      exact H
    · have H := H.1 hc
      refine s_aload_n (pc := 22) dX2_letFall_22 rfl ?_
      refine s_getr (pc := 23) dX2_letFall_23 fl_X2_24 cSx_17 rfl ?_
      refine s_getr (pc := 26) dX2_letFall_26 fl_X2_47 cSx_2 rfl ?_
      refine s_iload_n (pc := 29) dX2_letFall_29 rfl ?_
      refine s_iald (pc := 30) (x := h.1 4 (Int.toNat x1)) dX2_letFall_30 cSx_4 k1 rfl ?_
      refine s_aload_n (pc := 31) dX2_letFall_31 rfl ?_
      refine s_geti (pc := 32) (x := h.1 17 1) dX2_letFall_32 fl_X2_28 cSx_17 rfl rfl ?_
      refine s_icmp_ne (pc := 35) (tgt := 45) dX2_letFall_35 (by decide) (fun hc => ?_) (fun hc => ?_)
      · have H := H.2 hc
        obtain ⟨k3, H⟩ := H
        refine s_iinc (pc := 45) (lv' := [jR 17, jI (x1 + 1)]) dX2_letFall_45 rfl (by decide) k3 rfl ?_
        refine s_goto (pc := 48) (tgt := 2) dX2_letFall_48 (by decide) ?_
        exact H
      · have H := H.1 hc
        refine s_aload_n (pc := 38) dX2_letFall_38 rfl ?_
        refine s_getr (pc := 39) dX2_letFall_39 fl_X2_15 cSx_17 rfl ?_
        refine s_iload_n (pc := 42) dX2_letFall_42 rfl ?_
        refine s_iconst (pc := 43) dX2_letFall_43 (j_cst rfl) ?_
        refine s_iast (pc := 44) dX2_letFall_44 cSx_19 k1 ?_
        obtain ⟨k4, H⟩ := H
        refine s_iinc (pc := 45) (lv' := [jR 17, jI (x1 + 1)]) dX2_letFall_45 rfl (by decide) k4 rfl ?_
        refine s_goto (pc := 48) (tgt := 2) dX2_letFall_48 (by decide) ?_
        exact H
theorem en_X2_begin_17 {h : jH} {post : jQ} (k : ∀ G, WV Sx G M_X2_begin post 0 [jR 17, jU] [] h) : CT Sx M_X2_begin [jR 17] h post := CT.of (by decide +kernel) (by simp [j_un]) (Nat.le_of_ble_eq_true rfl) _ rfl k
set_option maxRecDepth 20000 in
theorem vc_X2_begin_17_0 {G : jG} {Q : jQ} {h : jH}
    (H : WV Sx G M_X2_begin Q 25 [jR 17, jI 0] [] (j_cp (j_up h 17 1 0) 3 0 18 0 6)) :
    WV Sx G M_X2_begin Q 0 [jR 17, jU] [] h := by
  refine s_aload_n (pc := 0) dX2_begin_0 rfl ?_
  refine s_iconst (pc := 1) dX2_begin_1 (j_cst rfl) ?_
  refine s_puti (pc := 2) dX2_begin_2 fp_X2_28 cSx_17 rfl ?_
  refine s_aload_n (pc := 5) dX2_begin_5 rfl ?_
  refine s_getr (pc := 6) dX2_begin_6 fl_X2_24 cSx_17 rfl ?_
  refine s_getr (pc := 9) dX2_begin_9 fl_X2_32 cSx_2 rfl ?_
  refine s_iconst (pc := 12) dX2_begin_12 (j_cst rfl) ?_
  refine s_aload_n (pc := 13) dX2_begin_13 rfl ?_
  refine s_getr (pc := 14) dX2_begin_14 fl_X2_9 cSx_17 rfl ?_
  refine s_iconst (pc := 17) dX2_begin_17 (j_cst rfl) ?_
  refine s_bipush (pc := 18) dX2_begin_18 rfl (j_cst rfl) ?_
  refine s_copy (pc := 20) dX2_begin_20 ma_X2_35 ⟨Nat.le_of_ble_eq_true rfl, Nat.le_of_ble_eq_true rfl⟩ cSx_3 cSx_18 ⟨by decide, by decide, by decide, by decide, by decide⟩ ?_
  refine s_iconst (pc := 23) dX2_begin_23 (j_cst rfl) ?_
  refine s_istore_n (pc := 24) (lv' := [jR 17, jI 0]) dX2_begin_24 (by decide) rfl ?_
  exact H
set_option maxRecDepth 20000 in
theorem vc_X2_begin_17_25 {G : jG} {Q : jQ} {x1 : Int} {h : jH}
    (H : (7 ≤ x1 → ∃ post : jH → Prop, CT Sx M_X2_letFall [jR 17] h (jPv post) ∧ ∀ (h2 : jH), post h2 → (Q none h2)) ∧ (¬ 7 ≤ x1 → (0 ≤ x1 ∧ x1 < 7) ∧ ((j_rg (x1 + 1)) ∧ (WV Sx G M_X2_begin Q 25 [jR 17, jI (x1 + 1)] [] (j_up (j_up (j_up h 19 (Int.toNat x1) 0) 20 (Int.toNat x1) 0) 21 (Int.toNat x1) 0))))) :
    WV Sx G M_X2_begin Q 25 [jR 17, jI x1] [] h := by
  refine s_iload_n (pc := 25) dX2_begin_25 rfl ?_
  refine s_bipush (pc := 26) dX2_begin_26 rfl (j_cst rfl) ?_
  refine s_icmp_ge (pc := 28) (tgt := 58) dX2_begin_28 (by decide) (fun hc => ?_) (fun hc => ?_)
  · have H := H.1 hc
    refine s_aload_n (pc := 58) dX2_begin_58 rfl ?_
    obtain ⟨post, hct, H⟩ := H
    refine s_callV (pc := 59) (as := []) (st := []) (by exact dX2_begin_59) mv_X2_41 ⟨rfl, rfl, Nat.le_of_ble_eq_true rfl, Nat.le_of_ble_eq_true rfl⟩ cSx_17 rfl rfl (Nat.le_of_ble_eq_true rfl) _ rfl hct (fun r1 h2 hp => ?_)
    obtain ⟨rfl, hp⟩ := hp
    have H := H h2 hp
    show WV _ _ _ _ 62 [jR 17, jI x1] [] h2
    exact s_vret dX2_begin_62 rfl H
  · have H := H.2 hc
    refine s_aload_n (pc := 31) dX2_begin_31 rfl ?_
    refine s_getr (pc := 32) dX2_begin_32 fl_X2_15 cSx_17 rfl ?_
    refine s_iload_n (pc := 35) dX2_begin_35 rfl ?_
    refine s_iconst (pc := 36) dX2_begin_36 (j_cst rfl) ?_
    obtain ⟨k3, H⟩ := H
    refine s_iast (pc := 37) dX2_begin_37 cSx_19 k3 ?_
    refine s_aload_n (pc := 38) dX2_begin_38 rfl ?_
    refine s_getr (pc := 39) dX2_begin_39 fl_X2_18 cSx_17 rfl ?_
    refine s_iload_n (pc := 42) dX2_begin_42 rfl ?_
    refine s_iconst (pc := 43) dX2_begin_43 (j_cst rfl) ?_
    refine s_iast (pc := 44) dX2_begin_44 cSx_20 k3 ?_
    refine s_aload_n (pc := 45) dX2_begin_45 rfl ?_
    refine s_getr (pc := 46) dX2_begin_46 fl_X2_21 cSx_17 rfl ?_
    refine s_iload_n (pc := 49) dX2_begin_49 rfl ?_
    refine s_iconst (pc := 50) dX2_begin_50 (j_cst rfl) ?_
    refine s_iast (pc := 51) dX2_begin_51 cSx_21 k3 ?_
    obtain ⟨k4, H⟩ := H
    refine s_iinc (pc := 52) (lv' := [jR 17, jI (x1 + 1)]) dX2_begin_52 rfl (by decide) k4 rfl ?_
    refine s_goto (pc := 55) (tgt := 25) dX2_begin_55 (by decide) ?_
    exact H
theorem en_X3_forget_22 {h : jH} {post : jQ} (k : ∀ G, WV Sx G M_X3_forget post 0 [jR 22] [] h) : CT Sx M_X3_forget [jR 22] h post := CT.of (by decide +kernel) (by simp [j_un]) (Nat.le_of_ble_eq_true rfl) _ rfl k
set_option maxRecDepth 20000 in
theorem vc_X3_forget_22_0 {G : jG} {Q : jQ} {h : jH}
    (H : Q none (j_up h 22 2 0)) :
    WV Sx G M_X3_forget Q 0 [jR 22] [] h := by
  refine s_aload_n (pc := 0) dX3_forget_0 rfl ?_
  refine s_iconst (pc := 1) dX3_forget_1 (j_cst rfl) ?_
  refine s_puti (pc := 2) dX3_forget_2 fp_X3_19 cSx_22 rfl ?_
  exact s_vret dX3_forget_5 rfl H
theorem en_X4_failAt_9 {x1 : Int} {h : jH} {post : jQ} (k : ∀ G, WV Sx G M_X4_failAt post 0 [jR 9, jI x1] [] h) : CT Sx M_X4_failAt [jR 9, jI x1] h post := CT.of (by decide +kernel) (by simp [j_un]) (Nat.le_of_ble_eq_true rfl) _ rfl k
set_option maxRecDepth 20000 in
theorem vc_X4_failAt_9_0 {G : jG} {Q : jQ} {x1 : Int} {h : jH}
    (H : ((h.1 9 4) = (-1) → Q none (j_up h 9 4 x1)) ∧ (¬ (h.1 9 4) = (-1) → Q none h)) :
    WV Sx G M_X4_failAt Q 0 [jR 9, jI x1] [] h := by
  refine s_aload_n (pc := 0) dX4_failAt_0 rfl ?_
  refine s_geti (pc := 1) (x := h.1 9 4) dX4_failAt_1 fl_X4_35 cSx_9 rfl rfl ?_
  refine s_iconst (pc := 4) dX4_failAt_4 (j_cst rfl) ?_
  refine s_icmp_ne (pc := 5) (tgt := 13) dX4_failAt_5 (by decide) (fun hc => ?_) (fun hc => ?_)
  · have H := H.2 hc
    exact s_vret dX4_failAt_13 rfl H
  · have H := H.1 hc
    refine s_aload_n (pc := 8) dX4_failAt_8 rfl ?_
    refine s_iload_n (pc := 9) dX4_failAt_9 rfl ?_
    refine s_puti (pc := 10) dX4_failAt_10 fp_X4_35 cSx_9 rfl ?_
    exact s_vret dX4_failAt_13 rfl H
theorem en_X4_letterHere_9 {h : jH} {post : jQ} (k : ∀ G, WV Sx G M_X4_letterHere post 0 [jR 9] [] h) : CT Sx M_X4_letterHere [jR 9] h post := CT.of (by decide +kernel) (by simp [j_un]) (Nat.le_of_ble_eq_true rfl) _ rfl k
set_option maxRecDepth 20000 in
theorem vc_X4_letterHere_9_0 {G : jG} {Q : jQ} {h : jH}
    (H : ((h.1 9 3) < 0 → Q (some (jI (-9))) h) ∧ (¬ (h.1 9 3) < 0 → ((h.1 9 2) ≤ (h.1 9 3) → Q (some (jI (-9))) h) ∧ (¬ (h.1 9 2) ≤ (h.1 9 3) → (0 ≤ h.1 9 3 ∧ h.1 9 3 < 200) ∧ (Q (some (jI (h.1 1 (Int.toNat (h.1 9 3))))) h)))) :
    WV Sx G M_X4_letterHere Q 0 [jR 9] [] h := by
  refine s_aload_n (pc := 0) dX4_letterHere_0 rfl ?_
  refine s_geti (pc := 1) (x := h.1 9 3) dX4_letterHere_1 fl_X4_32 cSx_9 rfl rfl ?_
  refine s_if_lt (pc := 4) (tgt := 30) dX4_letterHere_4 (by decide) (fun hc => ?_) (fun hc => ?_)
  · have H := H.1 hc
    refine s_bipush (pc := 30) dX4_letterHere_30 rfl (j_cst rfl) ?_
    exact s_iret dX4_letterHere_32 rfl H
  · have H := H.2 hc
    refine s_aload_n (pc := 7) dX4_letterHere_7 rfl ?_
    refine s_geti (pc := 8) (x := h.1 9 3) dX4_letterHere_8 fl_X4_32 cSx_9 rfl rfl ?_
    refine s_aload_n (pc := 11) dX4_letterHere_11 rfl ?_
    refine s_geti (pc := 12) (x := h.1 9 2) dX4_letterHere_12 fl_X4_28 cSx_9 rfl rfl ?_
    refine s_icmp_ge (pc := 15) (tgt := 30) dX4_letterHere_15 (by decide) (fun hc => ?_) (fun hc => ?_)
    · have H := H.1 hc
      refine s_bipush (pc := 30) dX4_letterHere_30 rfl (j_cst rfl) ?_
      exact s_iret dX4_letterHere_32 rfl H
    · have H := H.2 hc
      refine s_aload_n (pc := 18) dX4_letterHere_18 rfl ?_
      refine s_getr (pc := 19) dX4_letterHere_19 fl_X4_18 cSx_9 rfl ?_
      refine s_aload_n (pc := 22) dX4_letterHere_22 rfl ?_
      refine s_geti (pc := 23) (x := h.1 9 3) dX4_letterHere_23 fl_X4_32 cSx_9 rfl rfl ?_
      obtain ⟨k1, H⟩ := H
      refine s_iald (pc := 26) (x := h.1 1 (Int.toNat (h.1 9 3))) dX4_letterHere_26 cSx_1 k1 rfl ?_
      refine s_goto (pc := 27) (tgt := 32) dX4_letterHere_27 (by decide) ?_
      exact s_iret dX4_letterHere_32 rfl H
theorem en_X4_isDigit {x0 : Int} {h : jH} {post : jQ} (k : ∀ G, WV Sx G M_X4_isDigit post 0 [jI x0] [] h) : CT Sx M_X4_isDigit [jI x0] h post := CT.of (by decide +kernel) (by simp [j_un]) (Nat.le_of_ble_eq_true rfl) _ rfl k
set_option maxRecDepth 20000 in
theorem vc_X4_isDigit_0 {G : jG} {Q : jQ} {x0 : Int} {h : jH}
    (H : (x0 < 48 → Q (some (jI 0)) h) ∧ (¬ x0 < 48 → (57 < x0 → Q (some (jI 0)) h) ∧ (¬ 57 < x0 → Q (some (jI 1)) h))) :
    WV Sx G M_X4_isDigit Q 0 [jI x0] [] h := by
  refine s_iload_n (pc := 0) dX4_isDigit_0 rfl ?_
  refine s_bipush (pc := 1) dX4_isDigit_1 rfl (j_cst rfl) ?_
  refine s_icmp_lt (pc := 3) (tgt := 16) dX4_isDigit_3 (by decide) (fun hc => ?_) (fun hc => ?_)
  · have H := H.1 hc
    refine s_iconst (pc := 16) dX4_isDigit_16 (j_cst rfl) ?_
    exact s_zret dX4_isDigit_17 rfl (Or.inl rfl) H
  · have H := H.2 hc
    refine s_iload_n (pc := 6) dX4_isDigit_6 rfl ?_
    refine s_bipush (pc := 7) dX4_isDigit_7 rfl (j_cst rfl) ?_
    refine s_icmp_gt (pc := 9) (tgt := 16) dX4_isDigit_9 (by decide) (fun hc => ?_) (fun hc => ?_)
    · have H := H.1 hc
      refine s_iconst (pc := 16) dX4_isDigit_16 (j_cst rfl) ?_
      exact s_zret dX4_isDigit_17 rfl (Or.inl rfl) H
    · have H := H.2 hc
      refine s_iconst (pc := 12) dX4_isDigit_12 (j_cst rfl) ?_
      refine s_goto (pc := 13) (tgt := 17) dX4_isDigit_13 (by decide) ?_
      exact s_zret dX4_isDigit_17 rfl (Or.inr rfl) H
theorem en_X4_skipBlanks_9 {h : jH} {post : jQ} (k : ∀ G, WV Sx G M_X4_skipBlanks post 0 [jR 9] [] h) : CT Sx M_X4_skipBlanks [jR 9] h post := CT.of (by decide +kernel) (by simp [j_un]) (Nat.le_of_ble_eq_true rfl) _ rfl k
set_option maxRecDepth 20000 in
theorem vc_X4_skipBlanks_9_0 {G : jG} {Q : jQ} {h : jH}
    (H : ((h.1 9 2) ≤ (h.1 9 3) → Q none h) ∧ (¬ (h.1 9 2) ≤ (h.1 9 3) → (0 ≤ h.1 9 3 ∧ h.1 9 3 < 200) ∧ (((h.1 1 (Int.toNat (h.1 9 3))) = 32 → (j_rg ((h.1 9 3) + 1)) ∧ (WV Sx G M_X4_skipBlanks Q 0 [jR 9] [] (j_up h 9 3 ((h.1 9 3) + 1)))) ∧ (¬ (h.1 1 (Int.toNat (h.1 9 3))) = 32 → Q none h)))) :
    WV Sx G M_X4_skipBlanks Q 0 [jR 9] [] h := by
  refine s_aload_n (pc := 0) dX4_skipBlanks_0 rfl ?_
  refine s_geti (pc := 1) (x := h.1 9 3) dX4_skipBlanks_1 fl_X4_32 cSx_9 rfl rfl ?_
  refine s_aload_n (pc := 4) dX4_skipBlanks_4 rfl ?_
  refine s_geti (pc := 5) (x := h.1 9 2) dX4_skipBlanks_5 fl_X4_28 cSx_9 rfl rfl ?_
  refine s_icmp_ge (pc := 8) (tgt := 38) dX4_skipBlanks_8 (by decide) (fun hc => ?_) (fun hc => ?_)
  · have H := H.1 hc
    exact s_vret dX4_skipBlanks_38 rfl H
  · have H := H.2 hc
    refine s_aload_n (pc := 11) dX4_skipBlanks_11 rfl ?_
    refine s_getr (pc := 12) dX4_skipBlanks_12 fl_X4_18 cSx_9 rfl ?_
    refine s_aload_n (pc := 15) dX4_skipBlanks_15 rfl ?_
    refine s_geti (pc := 16) (x := h.1 9 3) dX4_skipBlanks_16 fl_X4_32 cSx_9 rfl rfl ?_
    obtain ⟨k1, H⟩ := H
    refine s_iald (pc := 19) (x := h.1 1 (Int.toNat (h.1 9 3))) dX4_skipBlanks_19 cSx_1 k1 rfl ?_
    refine s_bipush (pc := 20) dX4_skipBlanks_20 rfl (j_cst rfl) ?_
    refine s_icmp_ne (pc := 22) (tgt := 38) dX4_skipBlanks_22 (by decide) (fun hc => ?_) (fun hc => ?_)
    · have H := H.2 hc
      exact s_vret dX4_skipBlanks_38 rfl H
    · have H := H.1 hc
      refine s_aload_n (pc := 25) dX4_skipBlanks_25 rfl ?_
      refine s_dup (pc := 26) dX4_skipBlanks_26 rfl ?_
      refine s_geti (pc := 27) (x := h.1 9 3) dX4_skipBlanks_27 fl_X4_32 cSx_9 rfl rfl ?_
      refine s_iconst (pc := 30) dX4_skipBlanks_30 (j_cst rfl) ?_
      obtain ⟨k2, H⟩ := H
      refine s_iadd (pc := 31) dX4_skipBlanks_31 k2 ?_
      refine s_puti (pc := 32) dX4_skipBlanks_32 fp_X4_32 cSx_9 rfl ?_
      refine s_goto (pc := 35) (tgt := 0) dX4_skipBlanks_35 (by decide) ?_
      exact H
theorem en_X4_readNumber_9 {x1 x2 x3 : Int} {h : jH} {post : jQ} (k : ∀ G, WV Sx G M_X4_readNumber post 0 [jR 9, jI x1, jI x2, jI x3, jU, jU, jU, jU] [] h) : CT Sx M_X4_readNumber [jR 9, jI x1, jI x2, jI x3] h post := CT.of (by decide +kernel) (by simp [j_un]) (Nat.le_of_ble_eq_true rfl) _ rfl k
set_option maxRecDepth 20000 in
theorem vc_X4_readNumber_9_0 {G : jG} {Q : jQ} {x1 x2 x3 : Int} {h : jH}
    (H : ∃ post : jH → Prop, CT Sx M_X4_skipBlanks [jR 9] h (jPv post) ∧ ∀ (h2 : jH), post h2 → (((h2.1 9 4) = (-1) → ∃ post : Int → jH → Prop, CT Sx M_X4_letterHere [jR 9] h2 (jPi post) ∧ ∀ (r3 : Int) (h4 : jH), post r3 h4 → (WV Sx G M_X4_readNumber Q 29 [jR 9, jI x1, jI x2, jI x3, jI (h2.1 9 3), jI r3, jI 0, jU] [] h4)) ∧ (¬ (h2.1 9 4) = (-1) → Q (some (jI x1)) h2))) :
    WV Sx G M_X4_readNumber Q 0 [jR 9, jI x1, jI x2, jI x3, jU, jU, jU, jU] [] h := by
  refine s_aload_n (pc := 0) dX4_readNumber_0 rfl ?_
  obtain ⟨post, hct, H⟩ := H
  refine s_callV (pc := 1) (as := []) (st := []) (by exact dX4_readNumber_1) mv_X4_48 ⟨rfl, rfl, Nat.le_of_ble_eq_true rfl, Nat.le_of_ble_eq_true rfl⟩ cSx_9 rfl rfl (Nat.le_of_ble_eq_true rfl) _ rfl hct (fun r1 h2 hp => ?_)
  obtain ⟨rfl, hp⟩ := hp
  have H := H h2 hp
  show WV _ _ _ _ 4 [jR 9, jI x1, jI x2, jI x3, jU, jU, jU, jU] [] h2
  refine s_aload_n (pc := 4) dX4_readNumber_4 rfl ?_
  refine s_geti (pc := 5) (x := h2.1 9 4) dX4_readNumber_5 fl_X4_35 cSx_9 rfl rfl ?_
  refine s_iconst (pc := 8) dX4_readNumber_8 (j_cst rfl) ?_
  refine s_icmp_eq (pc := 9) (tgt := 14) dX4_readNumber_9 (by decide) (fun hc => ?_) (fun hc => ?_)
  · have H := H.1 hc
    refine s_aload_n (pc := 14) dX4_readNumber_14 rfl ?_
    refine s_geti (pc := 15) (x := h2.1 9 3) dX4_readNumber_15 fl_X4_32 cSx_9 rfl rfl ?_
    refine s_istore (pc := 18) (lv' := [jR 9, jI x1, jI x2, jI x3, jI (h2.1 9 3), jU, jU, jU]) dX4_readNumber_18 (by decide) rfl ?_
    refine s_aload_n (pc := 20) dX4_readNumber_20 rfl ?_
    obtain ⟨post, hct, H⟩ := H
    refine s_callV (pc := 21) (as := []) (st := []) (by exact dX4_readNumber_21) mv_X4_54 ⟨rfl, rfl, Nat.le_of_ble_eq_true rfl, Nat.le_of_ble_eq_true rfl⟩ cSx_9 rfl rfl (Nat.le_of_ble_eq_true rfl) _ rfl hct (fun r3 h4 hp => ?_)
    obtain ⟨r3, rfl, hp⟩ := hp
    have H := H r3 h4 hp
    show WV _ _ _ _ 24 [jR 9, jI x1, jI x2, jI x3, jI (h2.1 9 3), jU, jU, jU] [jI r3] h4
    refine s_istore (pc := 24) (lv' := [jR 9, jI x1, jI x2, jI x3, jI (h2.1 9 3), jI r3, jU, jU]) dX4_readNumber_24 (by decide) rfl ?_
    refine s_iconst (pc := 26) dX4_readNumber_26 (j_cst rfl) ?_
    refine s_istore (pc := 27) (lv' := [jR 9, jI x1, jI x2, jI x3, jI (h2.1 9 3), jI r3, jI 0, jU]) dX4_readNumber_27 (by decide) rfl ?_
    exact H
  · have H := H.2 hc
    refine s_iload_n (pc := 12) dX4_readNumber_12 rfl ?_
    exact s_iret dX4_readNumber_13 rfl H
set_option maxRecDepth 20000 in
theorem vc_X4_readNumber_9_29 {G : jG} {Q : jQ} {x1 x2 x3 x4 x5 x6 : Int} {h : jH}
    (H : ((h.1 9 2) ≤ (h.1 9 3) → WV Sx G M_X4_readNumber Q 83 [jR 9, jI x1, jI x2, jI x3, jI x4, jI x5, jI x6, jU] [] h) ∧ (¬ (h.1 9 2) ≤ (h.1 9 3) → ∃ post : Int → jH → Prop, CT Sx M_X4_letterHere [jR 9] h (jPi post) ∧ ∀ (r1 : Int) (h2 : jH), post r1 h2 → (∃ post : Int → jH → Prop, CT Sx M_X4_isDigit [jI r1] h2 (jPi post) ∧ ∀ (r3 : Int) (h4 : jH), post r3 h4 → ((r3 = 0 → WV Sx G M_X4_readNumber Q 83 [jR 9, jI x1, jI x2, jI x3, jI x4, jI x5, jI x6, jU] [] h4) ∧ (¬ r3 = 0 → (j_rg (10 * x6)) ∧ (∃ post : Int → jH → Prop, CT Sx M_X4_letterHere [jR 9] h4 (jPi post) ∧ ∀ (r6 : Int) (h7 : jH), post r6 h7 → ((j_rg ((10 * x6) + r6)) ∧ ((j_rg (((10 * x6) + r6) - 48)) ∧ ((j_rg ((h7.1 9 3) + 1)) ∧ (WV Sx G M_X4_readNumber Q 29 [jR 9, jI x1, jI x2, jI x3, jI x4, jI x5, jI (min 100 (((10 * x6) + r6) - 48)), jU] [] (j_up h7 9 3 ((h7.1 9 3) + 1)))))))))))) :
    WV Sx G M_X4_readNumber Q 29 [jR 9, jI x1, jI x2, jI x3, jI x4, jI x5, jI x6, jU] [] h := by
  refine s_aload_n (pc := 29) dX4_readNumber_29 rfl ?_
  refine s_geti (pc := 30) (x := h.1 9 3) dX4_readNumber_30 fl_X4_32 cSx_9 rfl rfl ?_
  refine s_aload_n (pc := 33) dX4_readNumber_33 rfl ?_
  refine s_geti (pc := 34) (x := h.1 9 2) dX4_readNumber_34 fl_X4_28 cSx_9 rfl rfl ?_
  refine s_icmp_ge (pc := 37) (tgt := 83) dX4_readNumber_37 (by decide) (fun hc => ?_) (fun hc => ?_)
  · have H := H.1 hc
    exact H
  · have H := H.2 hc
    refine s_aload_n (pc := 40) dX4_readNumber_40 rfl ?_
    obtain ⟨post, hct, H⟩ := H
    refine s_callV (pc := 41) (as := []) (st := []) (by exact dX4_readNumber_41) mv_X4_54 ⟨rfl, rfl, Nat.le_of_ble_eq_true rfl, Nat.le_of_ble_eq_true rfl⟩ cSx_9 rfl rfl (Nat.le_of_ble_eq_true rfl) _ rfl hct (fun r1 h2 hp => ?_)
    obtain ⟨r1, rfl, hp⟩ := hp
    have H := H r1 h2 hp
    show WV _ _ _ _ 44 [jR 9, jI x1, jI x2, jI x3, jI x4, jI x5, jI x6, jU] [jI r1] h2
    obtain ⟨post, hct, H⟩ := H
    refine s_callS (pc := 44) (as := [jI r1]) (st := []) (by exact dX4_readNumber_44) ms_X4_108 ⟨rfl, rfl, Nat.le_of_ble_eq_true rfl, Nat.le_of_ble_eq_true rfl⟩ (Nat.le_of_ble_eq_true rfl) _ rfl hct (fun r3 h4 hp => ?_)
    obtain ⟨r3, rfl, hp⟩ := hp
    have H := H r3 h4 hp
    show WV _ _ _ _ 47 [jR 9, jI x1, jI x2, jI x3, jI x4, jI x5, jI x6, jU] [jI r3] h4
    refine s_if_eq (pc := 47) (tgt := 83) dX4_readNumber_47 (by decide) (fun hc => ?_) (fun hc => ?_)
    · have H := H.1 hc
      exact H
    · have H := H.2 hc
      refine s_bipush (pc := 50) dX4_readNumber_50 rfl (j_cst rfl) ?_
      refine s_bipush (pc := 52) dX4_readNumber_52 rfl (j_cst rfl) ?_
      refine s_iload (pc := 54) dX4_readNumber_54 rfl ?_
      obtain ⟨k5, H⟩ := H
      refine s_imul (pc := 56) dX4_readNumber_56 k5 ?_
      refine s_aload_n (pc := 57) dX4_readNumber_57 rfl ?_
      obtain ⟨post, hct, H⟩ := H
      refine s_callV (pc := 58) (as := []) (st := [jI (10 * x6), jI 100]) (by exact dX4_readNumber_58) mv_X4_54 ⟨rfl, rfl, Nat.le_of_ble_eq_true rfl, Nat.le_of_ble_eq_true rfl⟩ cSx_9 rfl rfl (Nat.le_of_ble_eq_true rfl) _ rfl hct (fun r6 h7 hp => ?_)
      obtain ⟨r6, rfl, hp⟩ := hp
      have H := H r6 h7 hp
      show WV _ _ _ _ 61 [jR 9, jI x1, jI x2, jI x3, jI x4, jI x5, jI x6, jU] [jI r6, jI (10 * x6), jI 100] h7
      obtain ⟨k8, H⟩ := H
      refine s_iadd (pc := 61) dX4_readNumber_61 k8 ?_
      refine s_bipush (pc := 62) dX4_readNumber_62 rfl (j_cst rfl) ?_
      obtain ⟨k9, H⟩ := H
      refine s_isub (pc := 64) dX4_readNumber_64 k9 ?_
      refine s_min (pc := 65) dX4_readNumber_65 mm_X4_22 ⟨Nat.le_of_ble_eq_true rfl, Nat.le_of_ble_eq_true rfl⟩ ?_
      refine s_istore (pc := 68) (lv' := [jR 9, jI x1, jI x2, jI x3, jI x4, jI x5, jI (min 100 (((10 * x6) + r6) - 48)), jU]) dX4_readNumber_68 (by decide) rfl ?_
      refine s_aload_n (pc := 70) dX4_readNumber_70 rfl ?_
      refine s_dup (pc := 71) dX4_readNumber_71 rfl ?_
      refine s_geti (pc := 72) (x := h7.1 9 3) dX4_readNumber_72 fl_X4_32 cSx_9 rfl rfl ?_
      refine s_iconst (pc := 75) dX4_readNumber_75 (j_cst rfl) ?_
      obtain ⟨k10, H⟩ := H
      refine s_iadd (pc := 76) dX4_readNumber_76 k10 ?_
      refine s_puti (pc := 77) dX4_readNumber_77 fp_X4_32 cSx_9 rfl ?_
      refine s_goto (pc := 80) (tgt := 29) dX4_readNumber_80 (by decide) ?_
      exact H
set_option maxRecDepth 20000 in
theorem vc_X4_readNumber_9_83 {G : jG} {Q : jQ} {x1 x2 x3 x4 x5 x6 : Int} {h : jH}
    (H : (x5 = 48 → (j_rg ((h.1 9 3) - x4)) ∧ ((((h.1 9 3) - x4) ≤ 1 → WV Sx G M_X4_readNumber Q 106 [jR 9, jI x1, jI x2, jI x3, jI x4, jI x5, jI x6, jU] [jI 0] h) ∧ (¬ ((h.1 9 3) - x4) ≤ 1 → WV Sx G M_X4_readNumber Q 106 [jR 9, jI x1, jI x2, jI x3, jI x4, jI x5, jI x6, jU] [jI 1] h))) ∧ (¬ x5 = 48 → WV Sx G M_X4_readNumber Q 106 [jR 9, jI x1, jI x2, jI x3, jI x4, jI x5, jI x6, jU] [jI 0] h)) :
    WV Sx G M_X4_readNumber Q 83 [jR 9, jI x1, jI x2, jI x3, jI x4, jI x5, jI x6, jU] [] h := by
  refine s_iload (pc := 83) dX4_readNumber_83 rfl ?_
  refine s_bipush (pc := 85) dX4_readNumber_85 rfl (j_cst rfl) ?_
  refine s_icmp_ne (pc := 87) (tgt := 105) dX4_readNumber_87 (by decide) (fun hc => ?_) (fun hc => ?_)
  · have H := H.2 hc
    refine s_iconst (pc := 105) dX4_readNumber_105 (j_cst rfl) ?_
    exact H
  · have H := H.1 hc
    refine s_aload_n (pc := 90) dX4_readNumber_90 rfl ?_
    refine s_geti (pc := 91) (x := h.1 9 3) dX4_readNumber_91 fl_X4_32 cSx_9 rfl rfl ?_
    refine s_iload (pc := 94) dX4_readNumber_94 rfl ?_
    obtain ⟨k1, H⟩ := H
    refine s_isub (pc := 96) dX4_readNumber_96 k1 ?_
    refine s_iconst (pc := 97) dX4_readNumber_97 (j_cst rfl) ?_
    refine s_icmp_le (pc := 98) (tgt := 105) dX4_readNumber_98 (by decide) (fun hc => ?_) (fun hc => ?_)
    · have H := H.1 hc
      refine s_iconst (pc := 105) dX4_readNumber_105 (j_cst rfl) ?_
      exact H
    · have H := H.2 hc
      refine s_iconst (pc := 101) dX4_readNumber_101 (j_cst rfl) ?_
      refine s_goto (pc := 102) (tgt := 106) dX4_readNumber_102 (by decide) ?_
      exact H
set_option maxRecDepth 20000 in
theorem vc_X4_readNumber_9_106 {G : jG} {Q : jQ} {x1 x2 x3 x4 x5 x6 y0 : Int} {h : jH}
    (H : ((h.1 9 3) = x4 → WV Sx G M_X4_readNumber Q 140 [jR 9, jI x1, jI x2, jI x3, jI x4, jI x5, jI x6, jI y0] [] h) ∧ (¬ (h.1 9 3) = x4 → (y0 = 0 → (x6 < x1 → WV Sx G M_X4_readNumber Q 140 [jR 9, jI x1, jI x2, jI x3, jI x4, jI x5, jI x6, jI y0] [] h) ∧ (¬ x6 < x1 → (x2 < x6 → WV Sx G M_X4_readNumber Q 140 [jR 9, jI x1, jI x2, jI x3, jI x4, jI x5, jI x6, jI y0] [] h) ∧ (¬ x2 < x6 → (x6 = x3 → WV Sx G M_X4_readNumber Q 140 [jR 9, jI x1, jI x2, jI x3, jI x4, jI x5, jI x6, jI y0] [] h) ∧ (¬ x6 = x3 → Q (some (jI x6)) h)))) ∧ (¬ y0 = 0 → WV Sx G M_X4_readNumber Q 140 [jR 9, jI x1, jI x2, jI x3, jI x4, jI x5, jI x6, jI y0] [] h))) :
    WV Sx G M_X4_readNumber Q 106 [jR 9, jI x1, jI x2, jI x3, jI x4, jI x5, jI x6, jU] [jI y0] h := by
  refine s_istore (pc := 106) (lv' := [jR 9, jI x1, jI x2, jI x3, jI x4, jI x5, jI x6, jI y0]) dX4_readNumber_106 (by decide) rfl ?_
  refine s_aload_n (pc := 108) dX4_readNumber_108 rfl ?_
  refine s_geti (pc := 109) (x := h.1 9 3) dX4_readNumber_109 fl_X4_32 cSx_9 rfl rfl ?_
  refine s_iload (pc := 112) dX4_readNumber_112 rfl ?_
  refine s_icmp_eq (pc := 114) (tgt := 140) dX4_readNumber_114 (by decide) (fun hc => ?_) (fun hc => ?_)
  · have H := H.1 hc
    exact H
  · have H := H.2 hc
    refine s_iload (pc := 117) dX4_readNumber_117 rfl ?_
    refine s_if_ne (pc := 119) (tgt := 140) dX4_readNumber_119 (by decide) (fun hc => ?_) (fun hc => ?_)
    · have H := H.2 hc
      exact H
    · have H := H.1 hc
      refine s_iload (pc := 122) dX4_readNumber_122 rfl ?_
      refine s_iload_n (pc := 124) dX4_readNumber_124 rfl ?_
      refine s_icmp_lt (pc := 125) (tgt := 140) dX4_readNumber_125 (by decide) (fun hc => ?_) (fun hc => ?_)
      · have H := H.1 hc
        exact H
      · have H := H.2 hc
        refine s_iload (pc := 128) dX4_readNumber_128 rfl ?_
        refine s_iload_n (pc := 130) dX4_readNumber_130 rfl ?_
        refine s_icmp_gt (pc := 131) (tgt := 140) dX4_readNumber_131 (by decide) (fun hc => ?_) (fun hc => ?_)
        · have H := H.1 hc
          exact H
        · have H := H.2 hc
          refine s_iload (pc := 134) dX4_readNumber_134 rfl ?_
          refine s_iload_n (pc := 136) dX4_readNumber_136 rfl ?_
          refine s_icmp_ne (pc := 137) (tgt := 148) dX4_readNumber_137 (by decide) (fun hc => ?_) (fun hc => ?_)
          · have H := H.2 hc
            refine s_iload (pc := 148) dX4_readNumber_148 rfl ?_
            exact s_iret dX4_readNumber_150 rfl H
          · have H := H.1 hc
            exact H
set_option maxRecDepth 20000 in
theorem vc_X4_readNumber_9_140 {G : jG} {Q : jQ} {x1 x2 x3 x4 x5 x6 x7 : Int} {h : jH}
    (H : ∃ post : jH → Prop, CT Sx M_X4_failAt [jR 9, jI x4] h (jPv post) ∧ ∀ (h2 : jH), post h2 → (Q (some (jI x1)) h2)) :
    WV Sx G M_X4_readNumber Q 140 [jR 9, jI x1, jI x2, jI x3, jI x4, jI x5, jI x6, jI x7] [] h := by
  refine s_aload_n (pc := 140) dX4_readNumber_140 rfl ?_
  refine s_iload (pc := 141) dX4_readNumber_141 rfl ?_
  obtain ⟨post, hct, H⟩ := H
  refine s_callV (pc := 143) (as := [jI x4]) (st := []) (by exact dX4_readNumber_143) mv_X4_73 ⟨rfl, rfl, Nat.le_of_ble_eq_true rfl, Nat.le_of_ble_eq_true rfl⟩ cSx_9 rfl rfl (Nat.le_of_ble_eq_true rfl) _ rfl hct (fun r1 h2 hp => ?_)
  obtain ⟨rfl, hp⟩ := hp
  have H := H h2 hp
  show WV _ _ _ _ 146 [jR 9, jI x1, jI x2, jI x3, jI x4, jI x5, jI x6, jI x7] [] h2
  refine s_iload_n (pc := 146) dX4_readNumber_146 rfl ?_
  exact s_iret dX4_readNumber_147 rfl H
theorem en_X4_readCall_9 {h : jH} {post : jQ} (k : ∀ G, WV Sx G M_X4_readCall post 0 [jR 9, jU] [] h) : CT Sx M_X4_readCall [jR 9] h post := CT.of (by decide +kernel) (by simp [j_un]) (Nat.le_of_ble_eq_true rfl) _ rfl k
set_option maxRecDepth 20000 in
theorem vc_X4_readCall_9_0 {G : jG} {Q : jQ} {h : jH}
    (H : ∃ post : Int → jH → Prop, CT Sx M_X4_readNumber [jR 9, jI 0, jI 40, jI (-9)] h (jPi post) ∧ ∀ (r1 : Int) (h2 : jH), post r1 h2 → ((0 ≤ h.1 10 2 ∧ h.1 10 2 < 7) ∧ ((j_rg ((h2.1 10 0) - 1)) ∧ (∃ post : Int → jH → Prop, CT Sx M_X4_readNumber [jR 9, jI 0, jI ((h2.1 10 0) - 1), jI (-9)] (j_up h2 12 (Int.toNat (h.1 10 2)) r1) (jPi post) ∧ ∀ (r5 : Int) (h6 : jH), post r5 h6 → ((j_rg ((h6.1 10 0) - 1)) ∧ (∃ post : Int → jH → Prop, CT Sx M_X4_readNumber [jR 9, jI 0, jI ((h6.1 10 0) - 1), jI r5] (j_up h6 13 (Int.toNat (h.1 10 2)) r5) (jPi post) ∧ ∀ (r8 : Int) (h9 : jH), post r8 h9 → (∃ post : Int → jH → Prop, CT Sx M_X4_readNumber [jR 9, jI 1, jI 20, jI (-9)] (j_up h9 14 (Int.toNat (h.1 10 2)) r8) (jPi post) ∧ ∀ (r10 : Int) (h11 : jH), post r10 h11 → (∃ post : Int → jH → Prop, CT Sx M_X4_readNumber [jR 9, jI 0, jI 9, jI (-9)] (j_up h11 15 (Int.toNat (h.1 10 2)) r10) (jPi post) ∧ ∀ (r12 : Int) (h13 : jH), post r12 h13 → ((j_rg ((h.1 10 2) + 1)) ∧ (Q none (j_up (j_up h13 16 (Int.toNat (h.1 10 2)) r12) 10 2 ((h.1 10 2) + 1)))))))))))) :
    WV Sx G M_X4_readCall Q 0 [jR 9, jU] [] h := by
  refine s_aload_n (pc := 0) dX4_readCall_0 rfl ?_
  refine s_getr (pc := 1) dX4_readCall_1 fl_X4_12 cSx_9 rfl ?_
  refine s_geti (pc := 4) (x := h.1 10 2) dX4_readCall_4 fl_X4_67 cSx_10 rfl rfl ?_
  refine s_istore_n (pc := 7) (lv' := [jR 9, jI (h.1 10 2)]) dX4_readCall_7 (by decide) rfl ?_
  refine s_aload_n (pc := 8) dX4_readCall_8 rfl ?_
  refine s_getr (pc := 9) dX4_readCall_9 fl_X4_12 cSx_9 rfl ?_
  refine s_getr (pc := 12) dX4_readCall_12 fl_X4_94 cSx_10 rfl ?_
  refine s_iload_n (pc := 15) dX4_readCall_15 rfl ?_
  refine s_aload_n (pc := 16) dX4_readCall_16 rfl ?_
  refine s_iconst (pc := 17) dX4_readCall_17 (j_cst rfl) ?_
  refine s_bipush (pc := 18) dX4_readCall_18 rfl (j_cst rfl) ?_
  refine s_bipush (pc := 20) dX4_readCall_20 rfl (j_cst rfl) ?_
  obtain ⟨post, hct, H⟩ := H
  refine s_callV (pc := 22) (as := [jI 0, jI 40, jI (-9)]) (st := [jI (h.1 10 2), jR 12]) (by exact dX4_readCall_22) mv_X4_80 ⟨rfl, rfl, Nat.le_of_ble_eq_true rfl, Nat.le_of_ble_eq_true rfl⟩ cSx_9 rfl rfl (Nat.le_of_ble_eq_true rfl) _ rfl hct (fun r1 h2 hp => ?_)
  obtain ⟨r1, rfl, hp⟩ := hp
  have H := H r1 h2 hp
  show WV _ _ _ _ 25 [jR 9, jI (h.1 10 2)] [jI r1, jI (h.1 10 2), jR 12] h2
  obtain ⟨k3, H⟩ := H
  refine s_iast (pc := 25) dX4_readCall_25 cSx_12 k3 ?_
  refine s_aload_n (pc := 26) dX4_readCall_26 rfl ?_
  refine s_getr (pc := 27) dX4_readCall_27 fl_X4_12 cSx_9 rfl ?_
  refine s_getr (pc := 30) dX4_readCall_30 fl_X4_97 cSx_10 rfl ?_
  refine s_iload_n (pc := 33) dX4_readCall_33 rfl ?_
  refine s_aload_n (pc := 34) dX4_readCall_34 rfl ?_
  refine s_iconst (pc := 35) dX4_readCall_35 (j_cst rfl) ?_
  refine s_aload_n (pc := 36) dX4_readCall_36 rfl ?_
  refine s_getr (pc := 37) dX4_readCall_37 fl_X4_12 cSx_9 rfl ?_
  refine s_geti (pc := 40) (x := h2.1 10 0) dX4_readCall_40 fl_X4_84 cSx_10 rfl rfl ?_
  refine s_iconst (pc := 43) dX4_readCall_43 (j_cst rfl) ?_
  obtain ⟨k4, H⟩ := H
  refine s_isub (pc := 44) dX4_readCall_44 k4 ?_
  refine s_bipush (pc := 45) dX4_readCall_45 rfl (j_cst rfl) ?_
  obtain ⟨post, hct, H⟩ := H
  refine s_callV (pc := 47) (as := [jI 0, jI ((h2.1 10 0) - 1), jI (-9)]) (st := [jI (h.1 10 2), jR 13]) (by exact dX4_readCall_47) mv_X4_80 ⟨rfl, rfl, Nat.le_of_ble_eq_true rfl, Nat.le_of_ble_eq_true rfl⟩ cSx_9 rfl rfl (Nat.le_of_ble_eq_true rfl) _ rfl hct (fun r5 h6 hp => ?_)
  obtain ⟨r5, rfl, hp⟩ := hp
  have H := H r5 h6 hp
  show WV _ _ _ _ 50 [jR 9, jI (h.1 10 2)] [jI r5, jI (h.1 10 2), jR 13] h6
  refine s_iast (pc := 50) dX4_readCall_50 cSx_13 k3 ?_
  refine s_aload_n (pc := 51) dX4_readCall_51 rfl ?_
  refine s_getr (pc := 52) dX4_readCall_52 fl_X4_12 cSx_9 rfl ?_
  refine s_getr (pc := 55) dX4_readCall_55 fl_X4_100 cSx_10 rfl ?_
  refine s_iload_n (pc := 58) dX4_readCall_58 rfl ?_
  refine s_aload_n (pc := 59) dX4_readCall_59 rfl ?_
  refine s_iconst (pc := 60) dX4_readCall_60 (j_cst rfl) ?_
  refine s_aload_n (pc := 61) dX4_readCall_61 rfl ?_
  refine s_getr (pc := 62) dX4_readCall_62 fl_X4_12 cSx_9 rfl ?_
  refine s_geti (pc := 65) (x := h6.1 10 0) dX4_readCall_65 fl_X4_84 cSx_10 rfl rfl ?_
  refine s_iconst (pc := 68) dX4_readCall_68 (j_cst rfl) ?_
  obtain ⟨k7, H⟩ := H
  refine s_isub (pc := 69) dX4_readCall_69 k7 ?_
  refine s_aload_n (pc := 70) dX4_readCall_70 rfl ?_
  refine s_getr (pc := 71) dX4_readCall_71 fl_X4_12 cSx_9 rfl ?_
  refine s_getr (pc := 74) dX4_readCall_74 fl_X4_97 cSx_10 rfl ?_
  refine s_iload_n (pc := 77) dX4_readCall_77 rfl ?_
  refine s_iald (pc := 78) (x := r5) dX4_readCall_78 cSx_13 k3 (by simp [j_up]) ?_
  obtain ⟨post, hct, H⟩ := H
  refine s_callV (pc := 79) (as := [jI 0, jI ((h6.1 10 0) - 1), jI r5]) (st := [jI (h.1 10 2), jR 14]) (by exact dX4_readCall_79) mv_X4_80 ⟨rfl, rfl, Nat.le_of_ble_eq_true rfl, Nat.le_of_ble_eq_true rfl⟩ cSx_9 rfl rfl (Nat.le_of_ble_eq_true rfl) _ rfl hct (fun r8 h9 hp => ?_)
  obtain ⟨r8, rfl, hp⟩ := hp
  have H := H r8 h9 hp
  show WV _ _ _ _ 82 [jR 9, jI (h.1 10 2)] [jI r8, jI (h.1 10 2), jR 14] h9
  refine s_iast (pc := 82) dX4_readCall_82 cSx_14 k3 ?_
  refine s_aload_n (pc := 83) dX4_readCall_83 rfl ?_
  refine s_getr (pc := 84) dX4_readCall_84 fl_X4_12 cSx_9 rfl ?_
  refine s_getr (pc := 87) dX4_readCall_87 fl_X4_103 cSx_10 rfl ?_
  refine s_iload_n (pc := 90) dX4_readCall_90 rfl ?_
  refine s_aload_n (pc := 91) dX4_readCall_91 rfl ?_
  refine s_iconst (pc := 92) dX4_readCall_92 (j_cst rfl) ?_
  refine s_bipush (pc := 93) dX4_readCall_93 rfl (j_cst rfl) ?_
  refine s_bipush (pc := 95) dX4_readCall_95 rfl (j_cst rfl) ?_
  obtain ⟨post, hct, H⟩ := H
  refine s_callV (pc := 97) (as := [jI 1, jI 20, jI (-9)]) (st := [jI (h.1 10 2), jR 15]) (by exact dX4_readCall_97) mv_X4_80 ⟨rfl, rfl, Nat.le_of_ble_eq_true rfl, Nat.le_of_ble_eq_true rfl⟩ cSx_9 rfl rfl (Nat.le_of_ble_eq_true rfl) _ rfl hct (fun r10 h11 hp => ?_)
  obtain ⟨r10, rfl, hp⟩ := hp
  have H := H r10 h11 hp
  show WV _ _ _ _ 100 [jR 9, jI (h.1 10 2)] [jI r10, jI (h.1 10 2), jR 15] h11
  refine s_iast (pc := 100) dX4_readCall_100 cSx_15 k3 ?_
  refine s_aload_n (pc := 101) dX4_readCall_101 rfl ?_
  refine s_getr (pc := 102) dX4_readCall_102 fl_X4_12 cSx_9 rfl ?_
  refine s_getr (pc := 105) dX4_readCall_105 fl_X4_105 cSx_10 rfl ?_
  refine s_iload_n (pc := 108) dX4_readCall_108 rfl ?_
  refine s_aload_n (pc := 109) dX4_readCall_109 rfl ?_
  refine s_iconst (pc := 110) dX4_readCall_110 (j_cst rfl) ?_
  refine s_bipush (pc := 111) dX4_readCall_111 rfl (j_cst rfl) ?_
  refine s_bipush (pc := 113) dX4_readCall_113 rfl (j_cst rfl) ?_
  obtain ⟨post, hct, H⟩ := H
  refine s_callV (pc := 115) (as := [jI 0, jI 9, jI (-9)]) (st := [jI (h.1 10 2), jR 16]) (by exact dX4_readCall_115) mv_X4_80 ⟨rfl, rfl, Nat.le_of_ble_eq_true rfl, Nat.le_of_ble_eq_true rfl⟩ cSx_9 rfl rfl (Nat.le_of_ble_eq_true rfl) _ rfl hct (fun r12 h13 hp => ?_)
  obtain ⟨r12, rfl, hp⟩ := hp
  have H := H r12 h13 hp
  show WV _ _ _ _ 118 [jR 9, jI (h.1 10 2)] [jI r12, jI (h.1 10 2), jR 16] h13
  refine s_iast (pc := 118) dX4_readCall_118 cSx_16 k3 ?_
  refine s_aload_n (pc := 119) dX4_readCall_119 rfl ?_
  refine s_getr (pc := 120) dX4_readCall_120 fl_X4_12 cSx_9 rfl ?_
  refine s_iload_n (pc := 123) dX4_readCall_123 rfl ?_
  refine s_iconst (pc := 124) dX4_readCall_124 (j_cst rfl) ?_
  obtain ⟨k14, H⟩ := H
  refine s_iadd (pc := 125) dX4_readCall_125 k14 ?_
  refine s_puti (pc := 126) dX4_readCall_126 fp_X4_67 cSx_10 rfl ?_
  exact s_vret dX4_readCall_129 rfl H
theorem en_X4_readCords_9 {h : jH} {post : jQ} (k : ∀ G, WV Sx G M_X4_readCords post 0 [jR 9] [] h) : CT Sx M_X4_readCords [jR 9] h post := CT.of (by decide +kernel) (by simp [j_un]) (Nat.le_of_ble_eq_true rfl) _ rfl k
set_option maxRecDepth 20000 in
theorem vc_X4_readCords_9_0 {G : jG} {Q : jQ} {h : jH}
    (H : ∃ post : Int → jH → Prop, CT Sx M_X4_readNumber [jR 9, jI 1, jI 4, jI (-9)] h (jPi post) ∧ ∀ (r1 : Int) (h2 : jH), post r1 h2 → (Q none (j_up (j_up h2 10 1 r1) 9 6 1))) :
    WV Sx G M_X4_readCords Q 0 [jR 9] [] h := by
  refine s_aload_n (pc := 0) dX4_readCords_0 rfl ?_
  refine s_getr (pc := 1) dX4_readCords_1 fl_X4_12 cSx_9 rfl ?_
  refine s_aload_n (pc := 4) dX4_readCords_4 rfl ?_
  refine s_iconst (pc := 5) dX4_readCords_5 (j_cst rfl) ?_
  refine s_iconst (pc := 6) dX4_readCords_6 (j_cst rfl) ?_
  refine s_bipush (pc := 7) dX4_readCords_7 rfl (j_cst rfl) ?_
  obtain ⟨post, hct, H⟩ := H
  refine s_callV (pc := 9) (as := [jI 1, jI 4, jI (-9)]) (st := [jR 10]) (by exact dX4_readCords_9) mv_X4_80 ⟨rfl, rfl, Nat.le_of_ble_eq_true rfl, Nat.le_of_ble_eq_true rfl⟩ cSx_9 rfl rfl (Nat.le_of_ble_eq_true rfl) _ rfl hct (fun r1 h2 hp => ?_)
  obtain ⟨r1, rfl, hp⟩ := hp
  have H := H r1 h2 hp
  show WV _ _ _ _ 12 [jR 9] [jI r1, jR 10] h2
  refine s_puti (pc := 12) dX4_readCords_12 fp_X4_87 cSx_10 rfl ?_
  refine s_aload_n (pc := 15) dX4_readCords_15 rfl ?_
  refine s_iconst (pc := 16) dX4_readCords_16 (j_cst rfl) ?_
  refine s_putz (pc := 17) dX4_readCords_17 fp_X4_41 cSx_9 rfl (Or.inr rfl) ?_
  exact s_vret dX4_readCords_20 rfl H
theorem en_X4_readEnd_9 {h : jH} {post : jQ} (k : ∀ G, WV Sx G M_X4_readEnd post 0 [jR 9] [] h) : CT Sx M_X4_readEnd [jR 9] h post := CT.of (by decide +kernel) (by simp [j_un]) (Nat.le_of_ble_eq_true rfl) _ rfl k
set_option maxRecDepth 20000 in
theorem vc_X4_readEnd_9_0 {G : jG} {Q : jQ} {h : jH}
    (H : ∃ post : jH → Prop, CT Sx M_X4_skipBlanks [jR 9] h (jPv post) ∧ ∀ (h2 : jH), post h2 → (∃ post : Int → jH → Prop, CT Sx M_X4_letterHere [jR 9] h2 (jPi post) ∧ ∀ (r3 : Int) (h4 : jH), post r3 h4 → ((r3 = 59 → (j_rg ((h4.1 9 3) + 1)) ∧ (Q none (j_up h4 9 3 ((h4.1 9 3) + 1)))) ∧ (¬ r3 = 59 → ∃ post : jH → Prop, CT Sx M_X4_failAt [jR 9, jI (h4.1 9 3)] h4 (jPv post) ∧ ∀ (h7 : jH), post h7 → ((j_rg ((h7.1 9 3) + 1)) ∧ (Q none (j_up h7 9 3 ((h7.1 9 3) + 1)))))))) :
    WV Sx G M_X4_readEnd Q 0 [jR 9] [] h := by
  refine s_aload_n (pc := 0) dX4_readEnd_0 rfl ?_
  obtain ⟨post, hct, H⟩ := H
  refine s_callV (pc := 1) (as := []) (st := []) (by exact dX4_readEnd_1) mv_X4_48 ⟨rfl, rfl, Nat.le_of_ble_eq_true rfl, Nat.le_of_ble_eq_true rfl⟩ cSx_9 rfl rfl (Nat.le_of_ble_eq_true rfl) _ rfl hct (fun r1 h2 hp => ?_)
  obtain ⟨rfl, hp⟩ := hp
  have H := H h2 hp
  show WV _ _ _ _ 4 [jR 9] [] h2
  refine s_aload_n (pc := 4) dX4_readEnd_4 rfl ?_
  obtain ⟨post, hct, H⟩ := H
  refine s_callV (pc := 5) (as := []) (st := []) (by exact dX4_readEnd_5) mv_X4_54 ⟨rfl, rfl, Nat.le_of_ble_eq_true rfl, Nat.le_of_ble_eq_true rfl⟩ cSx_9 rfl rfl (Nat.le_of_ble_eq_true rfl) _ rfl hct (fun r3 h4 hp => ?_)
  obtain ⟨r3, rfl, hp⟩ := hp
  have H := H r3 h4 hp
  show WV _ _ _ _ 8 [jR 9] [jI r3] h4
  refine s_bipush (pc := 8) dX4_readEnd_8 rfl (j_cst rfl) ?_
  refine s_icmp_eq (pc := 10) (tgt := 21) dX4_readEnd_10 (by decide) (fun hc => ?_) (fun hc => ?_)
  · have H := H.1 hc
    refine s_aload_n (pc := 21) dX4_readEnd_21 rfl ?_
    refine s_dup (pc := 22) dX4_readEnd_22 rfl ?_
    refine s_geti (pc := 23) (x := h4.1 9 3) dX4_readEnd_23 fl_X4_32 cSx_9 rfl rfl ?_
    refine s_iconst (pc := 26) dX4_readEnd_26 (j_cst rfl) ?_
    obtain ⟨k5, H⟩ := H
    refine s_iadd (pc := 27) dX4_readEnd_27 k5 ?_
    refine s_puti (pc := 28) dX4_readEnd_28 fp_X4_32 cSx_9 rfl ?_
    exact s_vret dX4_readEnd_31 rfl H
  · have H := H.2 hc
    refine s_aload_n (pc := 13) dX4_readEnd_13 rfl ?_
    refine s_aload_n (pc := 14) dX4_readEnd_14 rfl ?_
    refine s_geti (pc := 15) (x := h4.1 9 3) dX4_readEnd_15 fl_X4_32 cSx_9 rfl rfl ?_
    obtain ⟨post, hct, H⟩ := H
    refine s_callV (pc := 18) (as := [jI (h4.1 9 3)]) (st := []) (by exact dX4_readEnd_18) mv_X4_73 ⟨rfl, rfl, Nat.le_of_ble_eq_true rfl, Nat.le_of_ble_eq_true rfl⟩ cSx_9 rfl rfl (Nat.le_of_ble_eq_true rfl) _ rfl hct (fun r6 h7 hp => ?_)
    obtain ⟨rfl, hp⟩ := hp
    have H := H h7 hp
    show WV _ _ _ _ 21 [jR 9] [] h7
    refine s_aload_n (pc := 21) dX4_readEnd_21 rfl ?_
    refine s_dup (pc := 22) dX4_readEnd_22 rfl ?_
    refine s_geti (pc := 23) (x := h7.1 9 3) dX4_readEnd_23 fl_X4_32 cSx_9 rfl rfl ?_
    refine s_iconst (pc := 26) dX4_readEnd_26 (j_cst rfl) ?_
    obtain ⟨k8, H⟩ := H
    refine s_iadd (pc := 27) dX4_readEnd_27 k8 ?_
    refine s_puti (pc := 28) dX4_readEnd_28 fp_X4_32 cSx_9 rfl ?_
    exact s_vret dX4_readEnd_31 rfl H
theorem en_X6_giveHole_10 {x1 x2 : Int} {h : jH} {post : jQ} (k : ∀ G, WV Sx G M_X6_giveHole post 0 [jR 10, jI x1, jI x2, jU] [] h) : CT Sx M_X6_giveHole [jR 10, jI x1, jI x2] h post := CT.of (by decide +kernel) (by simp [j_un]) (Nat.le_of_ble_eq_true rfl) _ rfl k
set_option maxRecDepth 20000 in
theorem vc_X6_giveHole_10_0 {G : jG} {Q : jQ} {x1 x2 : Int} {h : jH}
    (H : WV Sx G M_X6_giveHole Q 2 [jR 10, jI x1, jI x2, jI 0] [] h) :
    WV Sx G M_X6_giveHole Q 0 [jR 10, jI x1, jI x2, jU] [] h := by
  refine s_iconst (pc := 0) dX6_giveHole_0 (j_cst rfl) ?_
  refine s_istore_n (pc := 1) (lv' := [jR 10, jI x1, jI x2, jI 0]) dX6_giveHole_1 (by decide) rfl ?_
  exact H
set_option maxRecDepth 20000 in
theorem vc_X6_giveHole_10_2 {G : jG} {Q : jQ} {x1 x2 x3 : Int} {h : jH}
    (H : ((h.1 10 0) ≤ x3 → (0 ≤ x1 ∧ x1 < 6) ∧ (Q none (j_up h 11 (Int.toNat x1) x2))) ∧ (¬ (h.1 10 0) ≤ x3 → (0 ≤ x3 ∧ x3 < 6) ∧ (((h.1 11 (Int.toNat x3)) = x2 → (0 ≤ x1 ∧ x1 < 6) ∧ ((j_rg (x3 + 1)) ∧ (WV Sx G M_X6_giveHole Q 2 [jR 10, jI x1, jI x2, jI (x3 + 1)] [] (j_up h 11 (Int.toNat x3) (h.1 11 (Int.toNat x1)))))) ∧ (¬ (h.1 11 (Int.toNat x3)) = x2 → (j_rg (x3 + 1)) ∧ (WV Sx G M_X6_giveHole Q 2 [jR 10, jI x1, jI x2, jI (x3 + 1)] [] h))))) :
    WV Sx G M_X6_giveHole Q 2 [jR 10, jI x1, jI x2, jI x3] [] h := by
  refine s_iload_n (pc := 2) dX6_giveHole_2 rfl ?_
  refine s_aload_n (pc := 3) dX6_giveHole_3 rfl ?_
  refine s_geti (pc := 4) (x := h.1 10 0) dX6_giveHole_4 fl_X6_33 cSx_10 rfl rfl ?_
  refine s_icmp_ge (pc := 7) (tgt := 38) dX6_giveHole_7 (by decide) (fun hc => ?_) (fun hc => ?_)
  · have H := H.1 hc
    refine s_aload_n (pc := 38) dX6_giveHole_38 rfl ?_
    refine s_getr (pc := 39) dX6_giveHole_39 fl_X6_9 cSx_10 rfl ?_
    refine s_iload_n (pc := 42) dX6_giveHole_42 rfl ?_
    refine s_iload_n (pc := 43) dX6_giveHole_43 rfl ?_
    obtain ⟨k1, H⟩ := H
    refine s_iast (pc := 44) dX6_giveHole_44 cSx_11 k1 ?_
    exact s_vret dX6_giveHole_45 rfl H
  · have H := H.2 hc
    refine s_aload_n (pc := 10) dX6_giveHole_10 rfl ?_
    refine s_getr (pc := 11) dX6_giveHole_11 fl_X6_9 cSx_10 rfl ?_
    refine s_iload_n (pc := 14) dX6_giveHole_14 rfl ?_
    obtain ⟨k2, H⟩ := H
    refine s_iald (pc := 15) (x := h.1 11 (Int.toNat x3)) dX6_giveHole_15 cSx_11 k2 rfl ?_
    refine s_iload_n (pc := 16) dX6_giveHole_16 rfl ?_
    refine s_icmp_ne (pc := 17) (tgt := 32) dX6_giveHole_17 (by decide) (fun hc => ?_) (fun hc => ?_)
    · have H := H.2 hc
      obtain ⟨k3, H⟩ := H
      refine s_iinc (pc := 32) (lv' := [jR 10, jI x1, jI x2, jI (x3 + 1)]) dX6_giveHole_32 rfl (by decide) k3 rfl ?_
      refine s_goto (pc := 35) (tgt := 2) dX6_giveHole_35 (by decide) ?_
      exact H
    · have H := H.1 hc
      refine s_aload_n (pc := 20) dX6_giveHole_20 rfl ?_
      refine s_getr (pc := 21) dX6_giveHole_21 fl_X6_9 cSx_10 rfl ?_
      refine s_iload_n (pc := 24) dX6_giveHole_24 rfl ?_
      refine s_aload_n (pc := 25) dX6_giveHole_25 rfl ?_
      refine s_getr (pc := 26) dX6_giveHole_26 fl_X6_9 cSx_10 rfl ?_
      refine s_iload_n (pc := 29) dX6_giveHole_29 rfl ?_
      obtain ⟨k4, H⟩ := H
      refine s_iald (pc := 30) (x := h.1 11 (Int.toNat x1)) dX6_giveHole_30 cSx_11 k4 rfl ?_
      refine s_iast (pc := 31) dX6_giveHole_31 cSx_11 k2 ?_
      obtain ⟨k5, H⟩ := H
      refine s_iinc (pc := 32) (lv' := [jR 10, jI x1, jI x2, jI (x3 + 1)]) dX6_giveHole_32 rfl (by decide) k5 rfl ?_
      refine s_goto (pc := 35) (tgt := 2) dX6_giveHole_35 (by decide) ?_
      exact H
theorem en_X4_readHole_9 {h : jH} {post : jQ} (k : ∀ G, WV Sx G M_X4_readHole post 0 [jR 9, jU, jU] [] h) : CT Sx M_X4_readHole [jR 9] h post := CT.of (by decide +kernel) (by simp [j_un]) (Nat.le_of_ble_eq_true rfl) _ rfl k
set_option maxRecDepth 20000 in
theorem vc_X4_readHole_9_0 {G : jG} {Q : jQ} {h : jH}
    (H : (j_rg ((h.1 10 0) - 1)) ∧ (∃ post : Int → jH → Prop, CT Sx M_X4_readNumber [jR 9, jI 0, jI ((h.1 10 0) - 1), jI (-9)] h (jPi post) ∧ ∀ (r2 : Int) (h3 : jH), post r2 h3 → ((j_rg ((h3.1 10 0) - 1)) ∧ (∃ post : Int → jH → Prop, CT Sx M_X4_readNumber [jR 9, jI 0, jI ((h3.1 10 0) - 1), jI (-9)] h3 (jPi post) ∧ ∀ (r5 : Int) (h6 : jH), post r5 h6 → (((h6.1 9 4) = (-1) → ∃ post : jH → Prop, CT Sx M_X6_giveHole [jR 10, jI r2, jI r5] h6 (jPv post) ∧ ∀ (h8 : jH), post h8 → (Q none h8)) ∧ (¬ (h6.1 9 4) = (-1) → Q none h6)))))) :
    WV Sx G M_X4_readHole Q 0 [jR 9, jU, jU] [] h := by
  refine s_aload_n (pc := 0) dX4_readHole_0 rfl ?_
  refine s_iconst (pc := 1) dX4_readHole_1 (j_cst rfl) ?_
  refine s_aload_n (pc := 2) dX4_readHole_2 rfl ?_
  refine s_getr (pc := 3) dX4_readHole_3 fl_X4_12 cSx_9 rfl ?_
  refine s_geti (pc := 6) (x := h.1 10 0) dX4_readHole_6 fl_X4_84 cSx_10 rfl rfl ?_
  refine s_iconst (pc := 9) dX4_readHole_9 (j_cst rfl) ?_
  obtain ⟨k1, H⟩ := H
  refine s_isub (pc := 10) dX4_readHole_10 k1 ?_
  refine s_bipush (pc := 11) dX4_readHole_11 rfl (j_cst rfl) ?_
  obtain ⟨post, hct, H⟩ := H
  refine s_callV (pc := 13) (as := [jI 0, jI ((h.1 10 0) - 1), jI (-9)]) (st := []) (by exact dX4_readHole_13) mv_X4_80 ⟨rfl, rfl, Nat.le_of_ble_eq_true rfl, Nat.le_of_ble_eq_true rfl⟩ cSx_9 rfl rfl (Nat.le_of_ble_eq_true rfl) _ rfl hct (fun r2 h3 hp => ?_)
  obtain ⟨r2, rfl, hp⟩ := hp
  have H := H r2 h3 hp
  show WV _ _ _ _ 16 [jR 9, jU, jU] [jI r2] h3
  refine s_istore_n (pc := 16) (lv' := [jR 9, jI r2, jU]) dX4_readHole_16 (by decide) rfl ?_
  refine s_aload_n (pc := 17) dX4_readHole_17 rfl ?_
  refine s_iconst (pc := 18) dX4_readHole_18 (j_cst rfl) ?_
  refine s_aload_n (pc := 19) dX4_readHole_19 rfl ?_
  refine s_getr (pc := 20) dX4_readHole_20 fl_X4_12 cSx_9 rfl ?_
  refine s_geti (pc := 23) (x := h3.1 10 0) dX4_readHole_23 fl_X4_84 cSx_10 rfl rfl ?_
  refine s_iconst (pc := 26) dX4_readHole_26 (j_cst rfl) ?_
  obtain ⟨k4, H⟩ := H
  refine s_isub (pc := 27) dX4_readHole_27 k4 ?_
  refine s_bipush (pc := 28) dX4_readHole_28 rfl (j_cst rfl) ?_
  obtain ⟨post, hct, H⟩ := H
  refine s_callV (pc := 30) (as := [jI 0, jI ((h3.1 10 0) - 1), jI (-9)]) (st := []) (by exact dX4_readHole_30) mv_X4_80 ⟨rfl, rfl, Nat.le_of_ble_eq_true rfl, Nat.le_of_ble_eq_true rfl⟩ cSx_9 rfl rfl (Nat.le_of_ble_eq_true rfl) _ rfl hct (fun r5 h6 hp => ?_)
  obtain ⟨r5, rfl, hp⟩ := hp
  have H := H r5 h6 hp
  show WV _ _ _ _ 33 [jR 9, jI r2, jU] [jI r5] h6
  refine s_istore_n (pc := 33) (lv' := [jR 9, jI r2, jI r5]) dX4_readHole_33 (by decide) rfl ?_
  refine s_aload_n (pc := 34) dX4_readHole_34 rfl ?_
  refine s_geti (pc := 35) (x := h6.1 9 4) dX4_readHole_35 fl_X4_35 cSx_9 rfl rfl ?_
  refine s_iconst (pc := 38) dX4_readHole_38 (j_cst rfl) ?_
  refine s_icmp_ne (pc := 39) (tgt := 51) dX4_readHole_39 (by decide) (fun hc => ?_) (fun hc => ?_)
  · have H := H.2 hc
    exact s_vret dX4_readHole_51 rfl H
  · have H := H.1 hc
    refine s_aload_n (pc := 42) dX4_readHole_42 rfl ?_
    refine s_getr (pc := 43) dX4_readHole_43 fl_X4_12 cSx_9 rfl ?_
    refine s_iload_n (pc := 46) dX4_readHole_46 rfl ?_
    refine s_iload_n (pc := 47) dX4_readHole_47 rfl ?_
    obtain ⟨post, hct, H⟩ := H
    refine s_callV (pc := 48) (as := [jI r2, jI r5]) (st := []) (by exact dX4_readHole_48) mv_X4_90 ⟨rfl, rfl, Nat.le_of_ble_eq_true rfl, Nat.le_of_ble_eq_true rfl⟩ cSx_10 rfl rfl (Nat.le_of_ble_eq_true rfl) _ rfl hct (fun r7 h8 hp => ?_)
    obtain ⟨rfl, hp⟩ := hp
    have H := H h8 hp
    show WV _ _ _ _ 51 [jR 9, jI r2, jI r5] [] h8
    exact s_vret dX4_readHole_51 rfl H
theorem en_X4_readLines_9 {h : jH} {post : jQ} (k : ∀ G, WV Sx G M_X4_readLines post 0 [jR 9] [] h) : CT Sx M_X4_readLines [jR 9] h post := CT.of (by decide +kernel) (by simp [j_un]) (Nat.le_of_ble_eq_true rfl) _ rfl k
set_option maxRecDepth 20000 in
theorem vc_X4_readLines_9_0 {G : jG} {Q : jQ} {h : jH}
    (H : ∃ post : Int → jH → Prop, CT Sx M_X4_readNumber [jR 9, jI 2, jI 6, jI (-9)] h (jPi post) ∧ ∀ (r1 : Int) (h2 : jH), post r1 h2 → (Q none (j_up h2 10 0 r1))) :
    WV Sx G M_X4_readLines Q 0 [jR 9] [] h := by
  refine s_aload_n (pc := 0) dX4_readLines_0 rfl ?_
  refine s_getr (pc := 1) dX4_readLines_1 fl_X4_12 cSx_9 rfl ?_
  refine s_aload_n (pc := 4) dX4_readLines_4 rfl ?_
  refine s_iconst (pc := 5) dX4_readLines_5 (j_cst rfl) ?_
  refine s_bipush (pc := 6) dX4_readLines_6 rfl (j_cst rfl) ?_
  refine s_bipush (pc := 8) dX4_readLines_8 rfl (j_cst rfl) ?_
  obtain ⟨post, hct, H⟩ := H
  refine s_callV (pc := 10) (as := [jI 2, jI 6, jI (-9)]) (st := [jR 10]) (by exact dX4_readLines_10) mv_X4_80 ⟨rfl, rfl, Nat.le_of_ble_eq_true rfl, Nat.le_of_ble_eq_true rfl⟩ cSx_9 rfl rfl (Nat.le_of_ble_eq_true rfl) _ rfl hct (fun r1 h2 hp => ?_)
  obtain ⟨r1, rfl, hp⟩ := hp
  have H := H r1 h2 hp
  show WV _ _ _ _ 13 [jR 9] [jI r1, jR 10] h2
  refine s_puti (pc := 13) dX4_readLines_13 fp_X4_84 cSx_10 rfl ?_
  exact s_vret dX4_readLines_16 rfl H
theorem en_X4_readItem_9 {h : jH} {post : jQ} (k : ∀ G, WV Sx G M_X4_readItem post 0 [jR 9, jU, jU] [] h) : CT Sx M_X4_readItem [jR 9] h post := CT.of (by decide +kernel) (by simp [j_un]) (Nat.le_of_ble_eq_true rfl) _ rfl k
set_option maxRecDepth 20000 in
theorem vc_X4_readItem_9_0 {G : jG} {Q : jQ} {h : jH}
    (H : ∃ post : Int → jH → Prop, CT Sx M_X4_letterHere [jR 9] h (jPi post) ∧ ∀ (r1 : Int) (h2 : jH), post r1 h2 → ((j_rg ((h2.1 9 3) + 1)) ∧ ((r1 = 108 → ((h2.1 9 5) = 0 → ∃ post : jH → Prop, CT Sx M_X4_readLines [jR 9] (j_up h2 9 3 ((h2.1 9 3) + 1)) (jPv post) ∧ ∀ (h5 : jH), post h5 → (WV Sx G M_X4_readItem Q 103 [jR 9, jI (h.1 9 3), jI r1] [] h5)) ∧ (¬ (h2.1 9 5) = 0 → WV Sx G M_X4_readItem Q 40 [jR 9, jI (h.1 9 3), jI r1] [] (j_up h2 9 3 ((h2.1 9 3) + 1)))) ∧ (¬ r1 = 108 → WV Sx G M_X4_readItem Q 40 [jR 9, jI (h.1 9 3), jI r1] [] (j_up h2 9 3 ((h2.1 9 3) + 1)))))) :
    WV Sx G M_X4_readItem Q 0 [jR 9, jU, jU] [] h := by
  refine s_aload_n (pc := 0) dX4_readItem_0 rfl ?_
  refine s_geti (pc := 1) (x := h.1 9 3) dX4_readItem_1 fl_X4_32 cSx_9 rfl rfl ?_
  refine s_istore_n (pc := 4) (lv' := [jR 9, jI (h.1 9 3), jU]) dX4_readItem_4 (by decide) rfl ?_
  refine s_aload_n (pc := 5) dX4_readItem_5 rfl ?_
  obtain ⟨post, hct, H⟩ := H
  refine s_callV (pc := 6) (as := []) (st := []) (by exact dX4_readItem_6) mv_X4_54 ⟨rfl, rfl, Nat.le_of_ble_eq_true rfl, Nat.le_of_ble_eq_true rfl⟩ cSx_9 rfl rfl (Nat.le_of_ble_eq_true rfl) _ rfl hct (fun r1 h2 hp => ?_)
  obtain ⟨r1, rfl, hp⟩ := hp
  have H := H r1 h2 hp
  show WV _ _ _ _ 9 [jR 9, jI (h.1 9 3), jU] [jI r1] h2
  refine s_istore_n (pc := 9) (lv' := [jR 9, jI (h.1 9 3), jI r1]) dX4_readItem_9 (by decide) rfl ?_
  refine s_aload_n (pc := 10) dX4_readItem_10 rfl ?_
  refine s_dup (pc := 11) dX4_readItem_11 rfl ?_
  refine s_geti (pc := 12) (x := h2.1 9 3) dX4_readItem_12 fl_X4_32 cSx_9 rfl rfl ?_
  refine s_iconst (pc := 15) dX4_readItem_15 (j_cst rfl) ?_
  obtain ⟨k3, H⟩ := H
  refine s_iadd (pc := 16) dX4_readItem_16 k3 ?_
  refine s_puti (pc := 17) dX4_readItem_17 fp_X4_32 cSx_9 rfl ?_
  refine s_iload_n (pc := 20) dX4_readItem_20 rfl ?_
  refine s_bipush (pc := 21) dX4_readItem_21 rfl (j_cst rfl) ?_
  refine s_icmp_ne (pc := 23) (tgt := 40) dX4_readItem_23 (by decide) (fun hc => ?_) (fun hc => ?_)
  · have H := H.2 hc
    exact H
  · have H := H.1 hc
    refine s_aload_n (pc := 26) dX4_readItem_26 rfl ?_
    refine s_geti (pc := 27) (x := h2.1 9 5) dX4_readItem_27 fl_X4_38 cSx_9 rfl rfl ?_
    refine s_if_ne (pc := 30) (tgt := 40) dX4_readItem_30 (by decide) (fun hc => ?_) (fun hc => ?_)
    · have H := H.2 hc
      exact H
    · have H := H.1 hc
      refine s_aload_n (pc := 33) dX4_readItem_33 rfl ?_
      obtain ⟨post, hct, H⟩ := H
      refine s_callV (pc := 34) (as := []) (st := []) (by exact dX4_readItem_34) mv_X4_58 ⟨rfl, rfl, Nat.le_of_ble_eq_true rfl, Nat.le_of_ble_eq_true rfl⟩ cSx_9 rfl rfl (Nat.le_of_ble_eq_true rfl) _ rfl hct (fun r4 h5 hp => ?_)
      obtain ⟨rfl, hp⟩ := hp
      have H := H h5 hp
      show WV _ _ _ _ 37 [jR 9, jI (h.1 9 3), jI r1] [] h5
      refine s_goto (pc := 37) (tgt := 103) dX4_readItem_37 (by decide) ?_
      exact H
set_option maxRecDepth 20000 in
theorem vc_X4_readItem_9_40 {G : jG} {Q : jQ} {x1 x2 : Int} {h : jH}
    (H : (x2 = 120 → ((h.1 9 6) = 0 → ∃ post : jH → Prop, CT Sx M_X4_readCords [jR 9] h (jPv post) ∧ ∀ (h2 : jH), post h2 → (WV Sx G M_X4_readItem Q 103 [jR 9, jI x1, jI x2] [] h2)) ∧ (¬ (h.1 9 6) = 0 → WV Sx G M_X4_readItem Q 60 [jR 9, jI x1, jI x2] [] h)) ∧ (¬ x2 = 120 → WV Sx G M_X4_readItem Q 60 [jR 9, jI x1, jI x2] [] h)) :
    WV Sx G M_X4_readItem Q 40 [jR 9, jI x1, jI x2] [] h := by
  refine s_iload_n (pc := 40) dX4_readItem_40 rfl ?_
  refine s_bipush (pc := 41) dX4_readItem_41 rfl (j_cst rfl) ?_
  refine s_icmp_ne (pc := 43) (tgt := 60) dX4_readItem_43 (by decide) (fun hc => ?_) (fun hc => ?_)
  · have H := H.2 hc
    exact H
  · have H := H.1 hc
    refine s_aload_n (pc := 46) dX4_readItem_46 rfl ?_
    refine s_geti (pc := 47) (x := h.1 9 6) dX4_readItem_47 fl_X4_41 cSx_9 rfl rfl ?_
    refine s_if_ne (pc := 50) (tgt := 60) dX4_readItem_50 (by decide) (fun hc => ?_) (fun hc => ?_)
    · have H := H.2 hc
      exact H
    · have H := H.1 hc
      refine s_aload_n (pc := 53) dX4_readItem_53 rfl ?_
      obtain ⟨post, hct, H⟩ := H
      refine s_callV (pc := 54) (as := []) (st := []) (by exact dX4_readItem_54) mv_X4_61 ⟨rfl, rfl, Nat.le_of_ble_eq_true rfl, Nat.le_of_ble_eq_true rfl⟩ cSx_9 rfl rfl (Nat.le_of_ble_eq_true rfl) _ rfl hct (fun r1 h2 hp => ?_)
      obtain ⟨rfl, hp⟩ := hp
      have H := H h2 hp
      show WV _ _ _ _ 57 [jR 9, jI x1, jI x2] [] h2
      refine s_goto (pc := 57) (tgt := 103) dX4_readItem_57 (by decide) ?_
      exact H
set_option maxRecDepth 20000 in
theorem vc_X4_readItem_9_60 {G : jG} {Q : jQ} {x1 x2 : Int} {h : jH}
    (H : (x2 = 104 → ∃ post : jH → Prop, CT Sx M_X4_readHole [jR 9] h (jPv post) ∧ ∀ (h4 : jH), post h4 → (WV Sx G M_X4_readItem Q 103 [jR 9, jI x1, jI x2] [] h4)) ∧ (¬ x2 = 104 → (x2 = 99 → (7 ≤ (h.1 10 2) → WV Sx G M_X4_readItem Q 98 [jR 9, jI x1, jI x2] [] h) ∧ (¬ 7 ≤ (h.1 10 2) → ∃ post : jH → Prop, CT Sx M_X4_readCall [jR 9] h (jPv post) ∧ ∀ (h2 : jH), post h2 → (WV Sx G M_X4_readItem Q 103 [jR 9, jI x1, jI x2] [] h2))) ∧ (¬ x2 = 99 → WV Sx G M_X4_readItem Q 98 [jR 9, jI x1, jI x2] [] h))) :
    WV Sx G M_X4_readItem Q 60 [jR 9, jI x1, jI x2] [] h := by
  refine s_iload_n (pc := 60) dX4_readItem_60 rfl ?_
  refine s_bipush (pc := 61) dX4_readItem_61 rfl (j_cst rfl) ?_
  refine s_icmp_ne (pc := 63) (tgt := 73) dX4_readItem_63 (by decide) (fun hc => ?_) (fun hc => ?_)
  · have H := H.2 hc
    refine s_iload_n (pc := 73) dX4_readItem_73 rfl ?_
    refine s_bipush (pc := 74) dX4_readItem_74 rfl (j_cst rfl) ?_
    refine s_icmp_ne (pc := 76) (tgt := 98) dX4_readItem_76 (by decide) (fun hc => ?_) (fun hc => ?_)
    · have H := H.2 hc
      exact H
    · have H := H.1 hc
      refine s_aload_n (pc := 79) dX4_readItem_79 rfl ?_
      refine s_getr (pc := 80) dX4_readItem_80 fl_X4_12 cSx_9 rfl ?_
      refine s_geti (pc := 83) (x := h.1 10 2) dX4_readItem_83 fl_X4_67 cSx_10 rfl rfl ?_
      refine s_bipush (pc := 86) dX4_readItem_86 rfl (j_cst rfl) ?_
      refine s_icmp_ge (pc := 88) (tgt := 98) dX4_readItem_88 (by decide) (fun hc => ?_) (fun hc => ?_)
      · have H := H.1 hc
        exact H
      · have H := H.2 hc
        refine s_aload_n (pc := 91) dX4_readItem_91 rfl ?_
        obtain ⟨post, hct, H⟩ := H
        refine s_callV (pc := 92) (as := []) (st := []) (by exact dX4_readItem_92) mv_X4_70 ⟨rfl, rfl, Nat.le_of_ble_eq_true rfl, Nat.le_of_ble_eq_true rfl⟩ cSx_9 rfl rfl (Nat.le_of_ble_eq_true rfl) _ rfl hct (fun r1 h2 hp => ?_)
        obtain ⟨rfl, hp⟩ := hp
        have H := H h2 hp
        show WV _ _ _ _ 95 [jR 9, jI x1, jI x2] [] h2
        refine s_goto (pc := 95) (tgt := 103) dX4_readItem_95 (by decide) ?_
        exact H
  · have H := H.1 hc
    refine s_aload_n (pc := 66) dX4_readItem_66 rfl ?_
    obtain ⟨post, hct, H⟩ := H
    refine s_callV (pc := 67) (as := []) (st := []) (by exact dX4_readItem_67) mv_X4_64 ⟨rfl, rfl, Nat.le_of_ble_eq_true rfl, Nat.le_of_ble_eq_true rfl⟩ cSx_9 rfl rfl (Nat.le_of_ble_eq_true rfl) _ rfl hct (fun r3 h4 hp => ?_)
    obtain ⟨rfl, hp⟩ := hp
    have H := H h4 hp
    show WV _ _ _ _ 70 [jR 9, jI x1, jI x2] [] h4
    refine s_goto (pc := 70) (tgt := 103) dX4_readItem_70 (by decide) ?_
    exact H
set_option maxRecDepth 20000 in
theorem vc_X4_readItem_9_98 {G : jG} {Q : jQ} {x1 x2 : Int} {h : jH}
    (H : ∃ post : jH → Prop, CT Sx M_X4_failAt [jR 9, jI x1] h (jPv post) ∧ ∀ (h2 : jH), post h2 → (WV Sx G M_X4_readItem Q 103 [jR 9, jI x1, jI x2] [] h2)) :
    WV Sx G M_X4_readItem Q 98 [jR 9, jI x1, jI x2] [] h := by
  refine s_aload_n (pc := 98) dX4_readItem_98 rfl ?_
  refine s_iload_n (pc := 99) dX4_readItem_99 rfl ?_
  obtain ⟨post, hct, H⟩ := H
  refine s_callV (pc := 100) (as := [jI x1]) (st := []) (by exact dX4_readItem_100) mv_X4_73 ⟨rfl, rfl, Nat.le_of_ble_eq_true rfl, Nat.le_of_ble_eq_true rfl⟩ cSx_9 rfl rfl (Nat.le_of_ble_eq_true rfl) _ rfl hct (fun r1 h2 hp => ?_)
  obtain ⟨rfl, hp⟩ := hp
  have H := H h2 hp
  show WV _ _ _ _ 103 [jR 9, jI x1, jI x2] [] h2
  exact H
set_option maxRecDepth 20000 in
theorem vc_X4_readItem_9_103 {G : jG} {Q : jQ} {x1 x2 : Int} {h : jH}
    (H : ∃ post : jH → Prop, CT Sx M_X4_readEnd [jR 9] h (jPv post) ∧ ∀ (h2 : jH), post h2 → (Q none h2)) :
    WV Sx G M_X4_readItem Q 103 [jR 9, jI x1, jI x2] [] h := by
  refine s_aload_n (pc := 103) dX4_readItem_103 rfl ?_
  obtain ⟨post, hct, H⟩ := H
  refine s_callV (pc := 104) (as := []) (st := []) (by exact dX4_readItem_104) mv_X4_77 ⟨rfl, rfl, Nat.le_of_ble_eq_true rfl, Nat.le_of_ble_eq_true rfl⟩ cSx_9 rfl rfl (Nat.le_of_ble_eq_true rfl) _ rfl hct (fun r1 h2 hp => ?_)
  obtain ⟨rfl, hp⟩ := hp
  have H := H h2 hp
  show WV _ _ _ _ 107 [jR 9, jI x1, jI x2] [] h2
  exact s_vret dX4_readItem_107 rfl H
theorem en_X6_asAtFirst_10 {h : jH} {post : jQ} (k : ∀ G, WV Sx G M_X6_asAtFirst post 0 [jR 10, jU] [] h) : CT Sx M_X6_asAtFirst [jR 10] h post := CT.of (by decide +kernel) (by simp [j_un]) (Nat.le_of_ble_eq_true rfl) _ rfl k
set_option maxRecDepth 20000 in
theorem vc_X6_asAtFirst_10_0 {G : jG} {Q : jQ} {h : jH}
    (H : WV Sx G M_X6_asAtFirst Q 17 [jR 10, jI 0] [] (j_up (j_up (j_up h 10 0 2) 10 1 1) 10 2 0)) :
    WV Sx G M_X6_asAtFirst Q 0 [jR 10, jU] [] h := by
  refine s_aload_n (pc := 0) dX6_asAtFirst_0 rfl ?_
  refine s_iconst (pc := 1) dX6_asAtFirst_1 (j_cst rfl) ?_
  refine s_puti (pc := 2) dX6_asAtFirst_2 fp_X6_33 cSx_10 rfl ?_
  refine s_aload_n (pc := 5) dX6_asAtFirst_5 rfl ?_
  refine s_iconst (pc := 6) dX6_asAtFirst_6 (j_cst rfl) ?_
  refine s_puti (pc := 7) dX6_asAtFirst_7 fp_X6_37 cSx_10 rfl ?_
  refine s_aload_n (pc := 10) dX6_asAtFirst_10 rfl ?_
  refine s_iconst (pc := 11) dX6_asAtFirst_11 (j_cst rfl) ?_
  refine s_puti (pc := 12) dX6_asAtFirst_12 fp_X6_40 cSx_10 rfl ?_
  refine s_iconst (pc := 15) dX6_asAtFirst_15 (j_cst rfl) ?_
  refine s_istore_n (pc := 16) (lv' := [jR 10, jI 0]) dX6_asAtFirst_16 (by decide) rfl ?_
  exact H
set_option maxRecDepth 20000 in
theorem vc_X6_asAtFirst_10_17 {G : jG} {Q : jQ} {x1 : Int} {h : jH}
    (H : (6 ≤ x1 → Q none h) ∧ (¬ 6 ≤ x1 → (0 ≤ x1 ∧ x1 < 6) ∧ ((j_rg (x1 + 1)) ∧ (WV Sx G M_X6_asAtFirst Q 17 [jR 10, jI (x1 + 1)] [] (j_up h 11 (Int.toNat x1) x1))))) :
    WV Sx G M_X6_asAtFirst Q 17 [jR 10, jI x1] [] h := by
  refine s_iload_n (pc := 17) dX6_asAtFirst_17 rfl ?_
  refine s_bipush (pc := 18) dX6_asAtFirst_18 rfl (j_cst rfl) ?_
  refine s_icmp_ge (pc := 20) (tgt := 36) dX6_asAtFirst_20 (by decide) (fun hc => ?_) (fun hc => ?_)
  · have H := H.1 hc
    exact s_vret dX6_asAtFirst_36 rfl H
  · have H := H.2 hc
    refine s_aload_n (pc := 23) dX6_asAtFirst_23 rfl ?_
    refine s_getr (pc := 24) dX6_asAtFirst_24 fl_X6_9 cSx_10 rfl ?_
    refine s_iload_n (pc := 27) dX6_asAtFirst_27 rfl ?_
    refine s_iload_n (pc := 28) dX6_asAtFirst_28 rfl ?_
    obtain ⟨k1, H⟩ := H
    refine s_iast (pc := 29) dX6_asAtFirst_29 cSx_11 k1 ?_
    obtain ⟨k2, H⟩ := H
    refine s_iinc (pc := 30) (lv' := [jR 10, jI (x1 + 1)]) dX6_asAtFirst_30 rfl (by decide) k2 rfl ?_
    refine s_goto (pc := 33) (tgt := 17) dX6_asAtFirst_33 (by decide) ?_
    exact H
theorem en_X4_read_9 {x1 : Int} {h : jH} {post : jQ} (k : ∀ G, WV Sx G M_X4_read post 0 [jR 9, jI x1, jU] [] h) : CT Sx M_X4_read [jR 9, jI x1] h post := CT.of (by decide +kernel) (by simp [j_un]) (Nat.le_of_ble_eq_true rfl) _ rfl k
set_option maxRecDepth 20000 in
theorem vc_X4_read_9_0 {G : jG} {Q : jQ} {x1 : Int} {h : jH}
    (H : ∃ post : jH → Prop, CT Sx M_X6_asAtFirst [jR 10] (j_up (j_up (j_up (j_up (j_up h 9 2 (min x1 200)) 9 3 0) 9 4 (-1)) 9 5 0) 9 6 0) (jPv post) ∧ ∀ (h2 : jH), post h2 → (∃ post : jH → Prop, CT Sx M_X4_skipBlanks [jR 9] h2 (jPv post) ∧ ∀ (h4 : jH), post h4 → (WV Sx G M_X4_read Q 46 [jR 9, jI x1, jI 0] [] h4))) :
    WV Sx G M_X4_read Q 0 [jR 9, jI x1, jU] [] h := by
  refine s_aload_n (pc := 0) dX4_read_0 rfl ?_
  refine s_iload_n (pc := 1) dX4_read_1 rfl ?_
  refine s_aload_n (pc := 2) dX4_read_2 rfl ?_
  refine s_getr (pc := 3) dX4_read_3 fl_X4_18 cSx_9 rfl ?_
  refine s_alen (pc := 6) (v := 200) dX4_read_6 cSx_1 rfl (j_cst rfl) ?_
  refine s_min (pc := 7) dX4_read_7 mm_X4_22 ⟨Nat.le_of_ble_eq_true rfl, Nat.le_of_ble_eq_true rfl⟩ ?_
  refine s_puti (pc := 10) dX4_read_10 fp_X4_28 cSx_9 rfl ?_
  refine s_aload_n (pc := 13) dX4_read_13 rfl ?_
  refine s_iconst (pc := 14) dX4_read_14 (j_cst rfl) ?_
  refine s_puti (pc := 15) dX4_read_15 fp_X4_32 cSx_9 rfl ?_
  refine s_aload_n (pc := 18) dX4_read_18 rfl ?_
  refine s_iconst (pc := 19) dX4_read_19 (j_cst rfl) ?_
  refine s_puti (pc := 20) dX4_read_20 fp_X4_35 cSx_9 rfl ?_
  refine s_aload_n (pc := 23) dX4_read_23 rfl ?_
  refine s_iconst (pc := 24) dX4_read_24 (j_cst rfl) ?_
  refine s_puti (pc := 25) dX4_read_25 fp_X4_38 cSx_9 rfl ?_
  refine s_aload_n (pc := 28) dX4_read_28 rfl ?_
  refine s_iconst (pc := 29) dX4_read_29 (j_cst rfl) ?_
  refine s_putz (pc := 30) dX4_read_30 fp_X4_41 cSx_9 rfl (Or.inl rfl) ?_
  refine s_aload_n (pc := 33) dX4_read_33 rfl ?_
  refine s_getr (pc := 34) dX4_read_34 fl_X4_12 cSx_9 rfl ?_
  obtain ⟨post, hct, H⟩ := H
  refine s_callV (pc := 37) (as := []) (st := []) (by exact dX4_read_37) mv_X4_45 ⟨rfl, rfl, Nat.le_of_ble_eq_true rfl, Nat.le_of_ble_eq_true rfl⟩ cSx_10 rfl rfl (Nat.le_of_ble_eq_true rfl) _ rfl hct (fun r1 h2 hp => ?_)
  obtain ⟨rfl, hp⟩ := hp
  have H := H h2 hp
  show WV _ _ _ _ 40 [jR 9, jI x1, jU] [] h2
  refine s_aload_n (pc := 40) dX4_read_40 rfl ?_
  obtain ⟨post, hct, H⟩ := H
  refine s_callV (pc := 41) (as := []) (st := []) (by exact dX4_read_41) mv_X4_48 ⟨rfl, rfl, Nat.le_of_ble_eq_true rfl, Nat.le_of_ble_eq_true rfl⟩ cSx_9 rfl rfl (Nat.le_of_ble_eq_true rfl) _ rfl hct (fun r3 h4 hp => ?_)
  obtain ⟨rfl, hp⟩ := hp
  have H := H h4 hp
  show WV _ _ _ _ 44 [jR 9, jI x1, jU] [] h4
  refine s_iconst (pc := 44) dX4_read_44 (j_cst rfl) ?_
  refine s_istore_n (pc := 45) (lv' := [jR 9, jI x1, jI 0]) dX4_read_45 (by decide) rfl ?_
  exact H
set_option maxRecDepth 20000 in
theorem vc_X4_read_9_46 {G : jG} {Q : jQ} {x1 x2 : Int} {h : jH}
    (H : (200 ≤ x2 → ((h.1 9 4) = (-1) → Q (some (jI (h.1 9 5))) h) ∧ (¬ (h.1 9 4) = (-1) → (j_rg ((-10) - (h.1 9 4))) ∧ (Q (some (jI ((-10) - (h.1 9 4)))) h))) ∧ (¬ 200 ≤ x2 → ((h.1 9 2) ≤ (h.1 9 3) → ((h.1 9 4) = (-1) → Q (some (jI (h.1 9 5))) h) ∧ (¬ (h.1 9 4) = (-1) → (j_rg ((-10) - (h.1 9 4))) ∧ (Q (some (jI ((-10) - (h.1 9 4)))) h))) ∧ (¬ (h.1 9 2) ≤ (h.1 9 3) → ((h.1 9 4) = (-1) → ∃ post : jH → Prop, CT Sx M_X4_readItem [jR 9] h (jPv post) ∧ ∀ (h5 : jH), post h5 → ((j_rg ((h5.1 9 5) + 1)) ∧ (∃ post : jH → Prop, CT Sx M_X4_skipBlanks [jR 9] (j_up h5 9 5 ((h5.1 9 5) + 1)) (jPv post) ∧ ∀ (h8 : jH), post h8 → ((j_rg (x2 + 1)) ∧ (WV Sx G M_X4_read Q 46 [jR 9, jI x1, jI (x2 + 1)] [] h8))))) ∧ (¬ (h.1 9 4) = (-1) → ((h.1 9 4) = (-1) → Q (some (jI (h.1 9 5))) h) ∧ (¬ (h.1 9 4) = (-1) → (j_rg ((-10) - (h.1 9 4))) ∧ (Q (some (jI ((-10) - (h.1 9 4)))) h)))))) :
    WV Sx G M_X4_read Q 46 [jR 9, jI x1, jI x2] [] h := by
  refine s_iload_n (pc := 46) dX4_read_46 rfl ?_
  refine s_sipush (pc := 47) dX4_read_47 rfl (j_cst rfl) ?_
  refine s_icmp_ge (pc := 50) (tgt := 96) dX4_read_50 (by decide) (fun hc => ?_) (fun hc => ?_)
  · have H := H.1 hc
    refine s_aload_n (pc := 96) dX4_read_96 rfl ?_
    refine s_geti (pc := 97) (x := h.1 9 4) dX4_read_97 fl_X4_35 cSx_9 rfl rfl ?_
    refine s_iconst (pc := 100) dX4_read_100 (j_cst rfl) ?_
    refine s_icmp_ne (pc := 101) (tgt := 111) dX4_read_101 (by decide) (fun hc => ?_) (fun hc => ?_)
    · have H := H.2 hc
      refine s_bipush (pc := 111) dX4_read_111 rfl (j_cst rfl) ?_
      refine s_aload_n (pc := 113) dX4_read_113 rfl ?_
      refine s_geti (pc := 114) (x := h.1 9 4) dX4_read_114 fl_X4_35 cSx_9 rfl rfl ?_
      obtain ⟨k1, H⟩ := H
      refine s_isub (pc := 117) dX4_read_117 k1 ?_
      exact s_iret dX4_read_118 rfl H
    · have H := H.1 hc
      refine s_aload_n (pc := 104) dX4_read_104 rfl ?_
      refine s_geti (pc := 105) (x := h.1 9 5) dX4_read_105 fl_X4_38 cSx_9 rfl rfl ?_
      refine s_goto (pc := 108) (tgt := 118) dX4_read_108 (by decide) ?_
      exact s_iret dX4_read_118 rfl H
  · have H := H.2 hc
    refine s_aload_n (pc := 53) dX4_read_53 rfl ?_
    refine s_geti (pc := 54) (x := h.1 9 3) dX4_read_54 fl_X4_32 cSx_9 rfl rfl ?_
    refine s_aload_n (pc := 57) dX4_read_57 rfl ?_
    refine s_geti (pc := 58) (x := h.1 9 2) dX4_read_58 fl_X4_28 cSx_9 rfl rfl ?_
    refine s_icmp_ge (pc := 61) (tgt := 96) dX4_read_61 (by decide) (fun hc => ?_) (fun hc => ?_)
    · have H := H.1 hc
      refine s_aload_n (pc := 96) dX4_read_96 rfl ?_
      refine s_geti (pc := 97) (x := h.1 9 4) dX4_read_97 fl_X4_35 cSx_9 rfl rfl ?_
      refine s_iconst (pc := 100) dX4_read_100 (j_cst rfl) ?_
      refine s_icmp_ne (pc := 101) (tgt := 111) dX4_read_101 (by decide) (fun hc => ?_) (fun hc => ?_)
      · have H := H.2 hc
        refine s_bipush (pc := 111) dX4_read_111 rfl (j_cst rfl) ?_
        refine s_aload_n (pc := 113) dX4_read_113 rfl ?_
        refine s_geti (pc := 114) (x := h.1 9 4) dX4_read_114 fl_X4_35 cSx_9 rfl rfl ?_
        obtain ⟨k2, H⟩ := H
        refine s_isub (pc := 117) dX4_read_117 k2 ?_
        exact s_iret dX4_read_118 rfl H
      · have H := H.1 hc
        refine s_aload_n (pc := 104) dX4_read_104 rfl ?_
        refine s_geti (pc := 105) (x := h.1 9 5) dX4_read_105 fl_X4_38 cSx_9 rfl rfl ?_
        refine s_goto (pc := 108) (tgt := 118) dX4_read_108 (by decide) ?_
        exact s_iret dX4_read_118 rfl H
    · have H := H.2 hc
      refine s_aload_n (pc := 64) dX4_read_64 rfl ?_
      refine s_geti (pc := 65) (x := h.1 9 4) dX4_read_65 fl_X4_35 cSx_9 rfl rfl ?_
      refine s_iconst (pc := 68) dX4_read_68 (j_cst rfl) ?_
      refine s_icmp_ne (pc := 69) (tgt := 96) dX4_read_69 (by decide) (fun hc => ?_) (fun hc => ?_)
      · have H := H.2 hc
        refine s_aload_n (pc := 96) dX4_read_96 rfl ?_
        refine s_geti (pc := 97) (x := h.1 9 4) dX4_read_97 fl_X4_35 cSx_9 rfl rfl ?_
        refine s_iconst (pc := 100) dX4_read_100 (j_cst rfl) ?_
        refine s_icmp_ne (pc := 101) (tgt := 111) dX4_read_101 (by decide) (fun hc => ?_) (fun hc => ?_)
        · have H := H.2 hc
          refine s_bipush (pc := 111) dX4_read_111 rfl (j_cst rfl) ?_
          refine s_aload_n (pc := 113) dX4_read_113 rfl ?_
          refine s_geti (pc := 114) (x := h.1 9 4) dX4_read_114 fl_X4_35 cSx_9 rfl rfl ?_
          obtain ⟨k3, H⟩ := H
          refine s_isub (pc := 117) dX4_read_117 k3 ?_
          exact s_iret dX4_read_118 rfl H
        · have H := H.1 hc
          refine s_aload_n (pc := 104) dX4_read_104 rfl ?_
          refine s_geti (pc := 105) (x := h.1 9 5) dX4_read_105 fl_X4_38 cSx_9 rfl rfl ?_
          refine s_goto (pc := 108) (tgt := 118) dX4_read_108 (by decide) ?_
          exact s_iret dX4_read_118 rfl H
      · have H := H.1 hc
        refine s_aload_n (pc := 72) dX4_read_72 rfl ?_
        obtain ⟨post, hct, H⟩ := H
        refine s_callV (pc := 73) (as := []) (st := []) (by exact dX4_read_73) mv_X4_51 ⟨rfl, rfl, Nat.le_of_ble_eq_true rfl, Nat.le_of_ble_eq_true rfl⟩ cSx_9 rfl rfl (Nat.le_of_ble_eq_true rfl) _ rfl hct (fun r4 h5 hp => ?_)
        obtain ⟨rfl, hp⟩ := hp
        have H := H h5 hp
        show WV _ _ _ _ 76 [jR 9, jI x1, jI x2] [] h5
        refine s_aload_n (pc := 76) dX4_read_76 rfl ?_
        refine s_dup (pc := 77) dX4_read_77 rfl ?_
        refine s_geti (pc := 78) (x := h5.1 9 5) dX4_read_78 fl_X4_38 cSx_9 rfl rfl ?_
        refine s_iconst (pc := 81) dX4_read_81 (j_cst rfl) ?_
        obtain ⟨k6, H⟩ := H
        refine s_iadd (pc := 82) dX4_read_82 k6 ?_
        refine s_puti (pc := 83) dX4_read_83 fp_X4_38 cSx_9 rfl ?_
        refine s_aload_n (pc := 86) dX4_read_86 rfl ?_
        obtain ⟨post, hct, H⟩ := H
        refine s_callV (pc := 87) (as := []) (st := []) (by exact dX4_read_87) mv_X4_48 ⟨rfl, rfl, Nat.le_of_ble_eq_true rfl, Nat.le_of_ble_eq_true rfl⟩ cSx_9 rfl rfl (Nat.le_of_ble_eq_true rfl) _ rfl hct (fun r7 h8 hp => ?_)
        obtain ⟨rfl, hp⟩ := hp
        have H := H h8 hp
        show WV _ _ _ _ 90 [jR 9, jI x1, jI x2] [] h8
        obtain ⟨k9, H⟩ := H
        refine s_iinc (pc := 90) (lv' := [jR 9, jI x1, jI (x2 + 1)]) dX4_read_90 rfl (by decide) k9 rfl ?_
        refine s_goto (pc := 93) (tgt := 46) dX4_read_93 (by decide) ?_
        exact H
theorem en_X6_become_2_10 {h : jH} {post : jQ} (k : ∀ G, WV Sx G M_X6_become post 0 [jR 2, jR 10] [] h) : CT Sx M_X6_become [jR 2, jR 10] h post := CT.of (by decide +kernel) (by simp [j_un]) (Nat.le_of_ble_eq_true rfl) _ rfl k
set_option maxRecDepth 20000 in
theorem vc_X6_become_2_10_0 {G : jG} {Q : jQ} {h : jH}
    (H : Q none (j_cp (j_cp (j_cp (j_cp (j_cp (j_cp (j_up (j_up (j_up h 2 0 (h.1 10 0)) 2 1 (h.1 10 1)) 2 2 (h.1 10 2)) 11 0 3 0 6) 12 0 4 0 7) 13 0 5 0 7) 14 0 6 0 7) 15 0 7 0 7) 16 0 8 0 7)) :
    WV Sx G M_X6_become Q 0 [jR 2, jR 10] [] h := by
  refine s_aload_n (pc := 0) dX6_become_0 rfl ?_
  refine s_aload_n (pc := 1) dX6_become_1 rfl ?_
  refine s_geti (pc := 2) (x := h.1 10 0) dX6_become_2 fl_X6_33 cSx_10 rfl rfl ?_
  refine s_puti (pc := 5) dX6_become_5 fp_X6_33 cSx_2 rfl ?_
  refine s_aload_n (pc := 8) dX6_become_8 rfl ?_
  refine s_aload_n (pc := 9) dX6_become_9 rfl ?_
  refine s_geti (pc := 10) (x := h.1 10 1) dX6_become_10 fl_X6_37 cSx_10 rfl rfl ?_
  refine s_puti (pc := 13) dX6_become_13 fp_X6_37 cSx_2 rfl ?_
  refine s_aload_n (pc := 16) dX6_become_16 rfl ?_
  refine s_aload_n (pc := 17) dX6_become_17 rfl ?_
  refine s_geti (pc := 18) (x := h.1 10 2) dX6_become_18 fl_X6_40 cSx_10 rfl rfl ?_
  refine s_puti (pc := 21) dX6_become_21 fp_X6_40 cSx_2 rfl ?_
  refine s_aload_n (pc := 24) dX6_become_24 rfl ?_
  refine s_getr (pc := 25) dX6_become_25 fl_X6_9 cSx_10 rfl ?_
  refine s_iconst (pc := 28) dX6_become_28 (j_cst rfl) ?_
  refine s_aload_n (pc := 29) dX6_become_29 rfl ?_
  refine s_getr (pc := 30) dX6_become_30 fl_X6_9 cSx_2 rfl ?_
  refine s_iconst (pc := 33) dX6_become_33 (j_cst rfl) ?_
  refine s_bipush (pc := 34) dX6_become_34 rfl (j_cst rfl) ?_
  refine s_copy (pc := 36) dX6_become_36 ma_X6_49 ⟨Nat.le_of_ble_eq_true rfl, Nat.le_of_ble_eq_true rfl⟩ cSx_11 cSx_3 ⟨by decide, by decide, by decide, by decide, by decide⟩ ?_
  refine s_aload_n (pc := 39) dX6_become_39 rfl ?_
  refine s_getr (pc := 40) dX6_become_40 fl_X6_15 cSx_10 rfl ?_
  refine s_iconst (pc := 43) dX6_become_43 (j_cst rfl) ?_
  refine s_aload_n (pc := 44) dX6_become_44 rfl ?_
  refine s_getr (pc := 45) dX6_become_45 fl_X6_15 cSx_2 rfl ?_
  refine s_iconst (pc := 48) dX6_become_48 (j_cst rfl) ?_
  refine s_bipush (pc := 49) dX6_become_49 rfl (j_cst rfl) ?_
  refine s_copy (pc := 51) dX6_become_51 ma_X6_49 ⟨Nat.le_of_ble_eq_true rfl, Nat.le_of_ble_eq_true rfl⟩ cSx_12 cSx_4 ⟨by decide, by decide, by decide, by decide, by decide⟩ ?_
  refine s_aload_n (pc := 54) dX6_become_54 rfl ?_
  refine s_getr (pc := 55) dX6_become_55 fl_X6_18 cSx_10 rfl ?_
  refine s_iconst (pc := 58) dX6_become_58 (j_cst rfl) ?_
  refine s_aload_n (pc := 59) dX6_become_59 rfl ?_
  refine s_getr (pc := 60) dX6_become_60 fl_X6_18 cSx_2 rfl ?_
  refine s_iconst (pc := 63) dX6_become_63 (j_cst rfl) ?_
  refine s_bipush (pc := 64) dX6_become_64 rfl (j_cst rfl) ?_
  refine s_copy (pc := 66) dX6_become_66 ma_X6_49 ⟨Nat.le_of_ble_eq_true rfl, Nat.le_of_ble_eq_true rfl⟩ cSx_13 cSx_5 ⟨by decide, by decide, by decide, by decide, by decide⟩ ?_
  refine s_aload_n (pc := 69) dX6_become_69 rfl ?_
  refine s_getr (pc := 70) dX6_become_70 fl_X6_21 cSx_10 rfl ?_
  refine s_iconst (pc := 73) dX6_become_73 (j_cst rfl) ?_
  refine s_aload_n (pc := 74) dX6_become_74 rfl ?_
  refine s_getr (pc := 75) dX6_become_75 fl_X6_21 cSx_2 rfl ?_
  refine s_iconst (pc := 78) dX6_become_78 (j_cst rfl) ?_
  refine s_bipush (pc := 79) dX6_become_79 rfl (j_cst rfl) ?_
  refine s_copy (pc := 81) dX6_become_81 ma_X6_49 ⟨Nat.le_of_ble_eq_true rfl, Nat.le_of_ble_eq_true rfl⟩ cSx_14 cSx_6 ⟨by decide, by decide, by decide, by decide, by decide⟩ ?_
  refine s_aload_n (pc := 84) dX6_become_84 rfl ?_
  refine s_getr (pc := 85) dX6_become_85 fl_X6_24 cSx_10 rfl ?_
  refine s_iconst (pc := 88) dX6_become_88 (j_cst rfl) ?_
  refine s_aload_n (pc := 89) dX6_become_89 rfl ?_
  refine s_getr (pc := 90) dX6_become_90 fl_X6_24 cSx_2 rfl ?_
  refine s_iconst (pc := 93) dX6_become_93 (j_cst rfl) ?_
  refine s_bipush (pc := 94) dX6_become_94 rfl (j_cst rfl) ?_
  refine s_copy (pc := 96) dX6_become_96 ma_X6_49 ⟨Nat.le_of_ble_eq_true rfl, Nat.le_of_ble_eq_true rfl⟩ cSx_15 cSx_7 ⟨by decide, by decide, by decide, by decide, by decide⟩ ?_
  refine s_aload_n (pc := 99) dX6_become_99 rfl ?_
  refine s_getr (pc := 100) dX6_become_100 fl_X6_27 cSx_10 rfl ?_
  refine s_iconst (pc := 103) dX6_become_103 (j_cst rfl) ?_
  refine s_aload_n (pc := 104) dX6_become_104 rfl ?_
  refine s_getr (pc := 105) dX6_become_105 fl_X6_27 cSx_2 rfl ?_
  refine s_iconst (pc := 108) dX6_become_108 (j_cst rfl) ?_
  refine s_bipush (pc := 109) dX6_become_109 rfl (j_cst rfl) ?_
  refine s_copy (pc := 111) dX6_become_111 ma_X6_49 ⟨Nat.le_of_ble_eq_true rfl, Nat.le_of_ble_eq_true rfl⟩ cSx_16 cSx_8 ⟨by decide, by decide, by decide, by decide, by decide⟩ ?_
  exact s_vret dX6_become_114 rfl H
theorem en_X7_board_0 {h : jH} {post : jQ} (k : ∀ G, WV Sx G M_X7_board post 0 [jR 0, jU, jU] [] h) : CT Sx M_X7_board [jR 0] h post := CT.of (by decide +kernel) (by simp [j_un]) (Nat.le_of_ble_eq_true rfl) _ rfl k
set_option maxRecDepth 20000 in
theorem vc_X7_board_0_0 {G : jG} {Q : jQ} {h : jH}
    (H : ∃ post : Int → jH → Prop, CT Sx M_X4_read [jR 9, jI (h.1 0 10)] h (jPi post) ∧ ∀ (r1 : Int) (h2 : jH), post r1 h2 → ((0 ≤ r1 → ∃ post : jH → Prop, CT Sx M_X6_become [jR 2, jR 10] h2 (jPv post) ∧ ∀ (h4 : jH), post h4 → (∃ post : jH → Prop, CT Sx M_X2_begin [jR 17] h4 (jPv post) ∧ ∀ (h6 : jH), post h6 → (∃ post : jH → Prop, CT Sx M_X3_forget [jR 22] h6 (jPv post) ∧ ∀ (h8 : jH), post h8 → (WV Sx G M_X7_board Q 48 [jR 0, jI r1, jI 0] [] h8)))) ∧ (¬ 0 ≤ r1 → Q (some (jI r1)) h2))) :
    WV Sx G M_X7_board Q 0 [jR 0, jU, jU] [] h := by
  refine s_aload_n (pc := 0) dX7_board_0 rfl ?_
  refine s_getr (pc := 1) dX7_board_1 fl_X7_25 cSx_0 rfl ?_
  refine s_aload_n (pc := 4) dX7_board_4 rfl ?_
  refine s_geti (pc := 5) (x := h.1 0 10) dX7_board_5 fl_X7_73 cSx_0 rfl rfl ?_
  obtain ⟨post, hct, H⟩ := H
  refine s_callV (pc := 8) (as := [jI (h.1 0 10)]) (st := []) (by exact dX7_board_8) mv_X7_84 ⟨rfl, rfl, Nat.le_of_ble_eq_true rfl, Nat.le_of_ble_eq_true rfl⟩ cSx_9 rfl rfl (Nat.le_of_ble_eq_true rfl) _ rfl hct (fun r1 h2 hp => ?_)
  obtain ⟨r1, rfl, hp⟩ := hp
  have H := H r1 h2 hp
  show WV _ _ _ _ 11 [jR 0, jU, jU] [jI r1] h2
  refine s_istore_n (pc := 11) (lv' := [jR 0, jI r1, jU]) dX7_board_11 (by decide) rfl ?_
  refine s_iload_n (pc := 12) dX7_board_12 rfl ?_
  refine s_if_ge (pc := 13) (tgt := 18) dX7_board_13 (by decide) (fun hc => ?_) (fun hc => ?_)
  · have H := H.1 hc
    refine s_aload_n (pc := 18) dX7_board_18 rfl ?_
    refine s_getr (pc := 19) dX7_board_19 fl_X7_16 cSx_0 rfl ?_
    refine s_aload_n (pc := 22) dX7_board_22 rfl ?_
    refine s_getr (pc := 23) dX7_board_23 fl_X7_25 cSx_0 rfl ?_
    refine s_getr (pc := 26) dX7_board_26 fl_X7_88 cSx_9 rfl ?_
    obtain ⟨post, hct, H⟩ := H
    refine s_callV (pc := 29) (as := [jR 10]) (st := []) (by exact dX7_board_29) mv_X7_91 ⟨rfl, rfl, Nat.le_of_ble_eq_true rfl, Nat.le_of_ble_eq_true rfl⟩ cSx_2 rfl rfl (Nat.le_of_ble_eq_true rfl) _ rfl hct (fun r3 h4 hp => ?_)
    obtain ⟨rfl, hp⟩ := hp
    have H := H h4 hp
    show WV _ _ _ _ 32 [jR 0, jI r1, jU] [] h4
    refine s_aload_n (pc := 32) dX7_board_32 rfl ?_
    refine s_getr (pc := 33) dX7_board_33 fl_X7_34 cSx_0 rfl ?_
    obtain ⟨post, hct, H⟩ := H
    refine s_callV (pc := 36) (as := []) (st := []) (by exact dX7_board_36) mv_X7_81 ⟨rfl, rfl, Nat.le_of_ble_eq_true rfl, Nat.le_of_ble_eq_true rfl⟩ cSx_17 rfl rfl (Nat.le_of_ble_eq_true rfl) _ rfl hct (fun r5 h6 hp => ?_)
    obtain ⟨rfl, hp⟩ := hp
    have H := H h6 hp
    show WV _ _ _ _ 39 [jR 0, jI r1, jU] [] h6
    refine s_aload_n (pc := 39) dX7_board_39 rfl ?_
    refine s_getr (pc := 40) dX7_board_40 fl_X7_41 cSx_0 rfl ?_
    obtain ⟨post, hct, H⟩ := H
    refine s_callV (pc := 43) (as := []) (st := []) (by exact dX7_board_43) mv_X7_94 ⟨rfl, rfl, Nat.le_of_ble_eq_true rfl, Nat.le_of_ble_eq_true rfl⟩ cSx_22 rfl rfl (Nat.le_of_ble_eq_true rfl) _ rfl hct (fun r7 h8 hp => ?_)
    obtain ⟨rfl, hp⟩ := hp
    have H := H h8 hp
    show WV _ _ _ _ 46 [jR 0, jI r1, jU] [] h8
    refine s_iconst (pc := 46) dX7_board_46 (j_cst rfl) ?_
    refine s_istore_n (pc := 47) (lv' := [jR 0, jI r1, jI 0]) dX7_board_47 (by decide) rfl ?_
    exact H
  · have H := H.2 hc
    refine s_iload_n (pc := 16) dX7_board_16 rfl ?_
    exact s_iret dX7_board_17 rfl H
set_option maxRecDepth 20000 in
theorem vc_X7_board_0_48 {G : jG} {Q : jQ} {x1 x2 : Int} {h : jH}
    (H : (2 ≤ x2 → Q (some (jI x1)) (j_up h 0 10 0)) ∧ (¬ 2 ≤ x2 → (0 ≤ x2 ∧ x2 < 2) ∧ ((j_rg (x2 + 1)) ∧ (WV Sx G M_X7_board Q 48 [jR 0, jI x1, jI (x2 + 1)] [] (j_up h 25 (Int.toNat x2) 0))))) :
    WV Sx G M_X7_board Q 48 [jR 0, jI x1, jI x2] [] h := by
  refine s_iload_n (pc := 48) dX7_board_48 rfl ?_
  refine s_iconst (pc := 49) dX7_board_49 (j_cst rfl) ?_
  refine s_icmp_ge (pc := 50) (tgt := 66) dX7_board_50 (by decide) (fun hc => ?_) (fun hc => ?_)
  · have H := H.1 hc
    refine s_aload_n (pc := 66) dX7_board_66 rfl ?_
    refine s_iconst (pc := 67) dX7_board_67 (j_cst rfl) ?_
    refine s_puti (pc := 68) dX7_board_68 fp_X7_73 cSx_0 rfl ?_
    refine s_iload_n (pc := 71) dX7_board_71 rfl ?_
    exact s_iret dX7_board_72 rfl H
  · have H := H.2 hc
    refine s_aload_n (pc := 53) dX7_board_53 rfl ?_
    refine s_getr (pc := 54) dX7_board_54 fl_X7_48 cSx_0 rfl ?_
    refine s_iload_n (pc := 57) dX7_board_57 rfl ?_
    refine s_iconst (pc := 58) dX7_board_58 (j_cst rfl) ?_
    obtain ⟨k1, H⟩ := H
    refine s_zast (pc := 59) dX7_board_59 cSx_25 k1 (Or.inl rfl) ?_
    obtain ⟨k2, H⟩ := H
    refine s_iinc (pc := 60) (lv' := [jR 0, jI x1, jI (x2 + 1)]) dX7_board_60 rfl (by decide) k2 rfl ?_
    refine s_goto (pc := 63) (tgt := 48) dX7_board_63 (by decide) ?_
    exact H
theorem en_X2_engagedBy_17 {x1 : Int} {h : jH} {post : jQ} (k : ∀ G, WV Sx G M_X2_engagedBy post 0 [jR 17, jI x1, jU] [] h) : CT Sx M_X2_engagedBy [jR 17, jI x1] h post := CT.of (by decide +kernel) (by simp [j_un]) (Nat.le_of_ble_eq_true rfl) _ rfl k
set_option maxRecDepth 20000 in
theorem vc_X2_engagedBy_17_0 {G : jG} {Q : jQ} {x1 : Int} {h : jH}
    (H : WV Sx G M_X2_engagedBy Q 2 [jR 17, jI x1, jI 0] [] h) :
    WV Sx G M_X2_engagedBy Q 0 [jR 17, jI x1, jU] [] h := by
  refine s_iconst (pc := 0) dX2_engagedBy_0 (j_cst rfl) ?_
  refine s_istore_n (pc := 1) (lv' := [jR 17, jI x1, jI 0]) dX2_engagedBy_1 (by decide) rfl ?_
  exact H
set_option maxRecDepth 20000 in
theorem vc_X2_engagedBy_17_2 {G : jG} {Q : jQ} {x1 x2 : Int} {h : jH}
    (H : ((h.1 2 2) ≤ x2 → Q (some (jI (-9))) h) ∧ (¬ (h.1 2 2) ≤ x2 → (0 ≤ x2 ∧ x2 < 7) ∧ (((h.1 19 (Int.toNat x2)) = 2 → ((h.1 5 (Int.toNat x2)) = x1 → Q (some (jI x2)) h) ∧ (¬ (h.1 5 (Int.toNat x2)) = x1 → ((h.1 6 (Int.toNat x2)) = x1 → Q (some (jI x2)) h) ∧ (¬ (h.1 6 (Int.toNat x2)) = x1 → (j_rg (x2 + 1)) ∧ (WV Sx G M_X2_engagedBy Q 2 [jR 17, jI x1, jI (x2 + 1)] [] h)))) ∧ (¬ (h.1 19 (Int.toNat x2)) = 2 → (j_rg (x2 + 1)) ∧ (WV Sx G M_X2_engagedBy Q 2 [jR 17, jI x1, jI (x2 + 1)] [] h))))) :
    WV Sx G M_X2_engagedBy Q 2 [jR 17, jI x1, jI x2] [] h := by
  refine s_iload_n (pc := 2) dX2_engagedBy_2 rfl ?_
  refine s_aload_n (pc := 3) dX2_engagedBy_3 rfl ?_
  refine s_getr (pc := 4) dX2_engagedBy_4 fl_X2_24 cSx_17 rfl ?_
  refine s_geti (pc := 7) (x := h.1 2 2) dX2_engagedBy_7 fl_X2_44 cSx_2 rfl rfl ?_
  refine s_icmp_ge (pc := 10) (tgt := 57) dX2_engagedBy_10 (by decide) (fun hc => ?_) (fun hc => ?_)
  · have H := H.1 hc
    refine s_bipush (pc := 57) dX2_engagedBy_57 rfl (j_cst rfl) ?_
    exact s_iret dX2_engagedBy_59 rfl H
  · have H := H.2 hc
    refine s_aload_n (pc := 13) dX2_engagedBy_13 rfl ?_
    refine s_getr (pc := 14) dX2_engagedBy_14 fl_X2_15 cSx_17 rfl ?_
    refine s_iload_n (pc := 17) dX2_engagedBy_17 rfl ?_
    obtain ⟨k1, H⟩ := H
    refine s_iald (pc := 18) (x := h.1 19 (Int.toNat x2)) dX2_engagedBy_18 cSx_19 k1 rfl ?_
    refine s_iconst (pc := 19) dX2_engagedBy_19 (j_cst rfl) ?_
    refine s_icmp_ne (pc := 20) (tgt := 51) dX2_engagedBy_20 (by decide) (fun hc => ?_) (fun hc => ?_)
    · have H := H.2 hc
      obtain ⟨k2, H⟩ := H
      refine s_iinc (pc := 51) (lv' := [jR 17, jI x1, jI (x2 + 1)]) dX2_engagedBy_51 rfl (by decide) k2 rfl ?_
      refine s_goto (pc := 54) (tgt := 2) dX2_engagedBy_54 (by decide) ?_
      exact H
    · have H := H.1 hc
      refine s_aload_n (pc := 23) dX2_engagedBy_23 rfl ?_
      refine s_getr (pc := 24) dX2_engagedBy_24 fl_X2_24 cSx_17 rfl ?_
      refine s_getr (pc := 27) dX2_engagedBy_27 fl_X2_50 cSx_2 rfl ?_
      refine s_iload_n (pc := 30) dX2_engagedBy_30 rfl ?_
      refine s_iald (pc := 31) (x := h.1 5 (Int.toNat x2)) dX2_engagedBy_31 cSx_5 k1 rfl ?_
      refine s_iload_n (pc := 32) dX2_engagedBy_32 rfl ?_
      refine s_icmp_eq (pc := 33) (tgt := 49) dX2_engagedBy_33 (by decide) (fun hc => ?_) (fun hc => ?_)
      · have H := H.1 hc
        refine s_iload_n (pc := 49) dX2_engagedBy_49 rfl ?_
        exact s_iret dX2_engagedBy_50 rfl H
      · have H := H.2 hc
        refine s_aload_n (pc := 36) dX2_engagedBy_36 rfl ?_
        refine s_getr (pc := 37) dX2_engagedBy_37 fl_X2_24 cSx_17 rfl ?_
        refine s_getr (pc := 40) dX2_engagedBy_40 fl_X2_53 cSx_2 rfl ?_
        refine s_iload_n (pc := 43) dX2_engagedBy_43 rfl ?_
        refine s_iald (pc := 44) (x := h.1 6 (Int.toNat x2)) dX2_engagedBy_44 cSx_6 k1 rfl ?_
        refine s_iload_n (pc := 45) dX2_engagedBy_45 rfl ?_
        refine s_icmp_ne (pc := 46) (tgt := 51) dX2_engagedBy_46 (by decide) (fun hc => ?_) (fun hc => ?_)
        · have H := H.2 hc
          obtain ⟨k3, H⟩ := H
          refine s_iinc (pc := 51) (lv' := [jR 17, jI x1, jI (x2 + 1)]) dX2_engagedBy_51 rfl (by decide) k3 rfl ?_
          refine s_goto (pc := 54) (tgt := 2) dX2_engagedBy_54 (by decide) ?_
          exact H
        · have H := H.1 hc
          refine s_iload_n (pc := 49) dX2_engagedBy_49 rfl ?_
          exact s_iret dX2_engagedBy_50 rfl H
theorem en_X6_hasLine_2 {x1 : Int} {h : jH} {post : jQ} (k : ∀ G, WV Sx G M_X6_hasLine post 0 [jR 2, jI x1] [] h) : CT Sx M_X6_hasLine [jR 2, jI x1] h post := CT.of (by decide +kernel) (by simp [j_un]) (Nat.le_of_ble_eq_true rfl) _ rfl k
set_option maxRecDepth 20000 in
theorem vc_X6_hasLine_2_0 {G : jG} {Q : jQ} {x1 : Int} {h : jH}
    (H : (x1 < 0 → Q (some (jI 0)) h) ∧ (¬ x1 < 0 → ((h.1 2 0) ≤ x1 → Q (some (jI 0)) h) ∧ (¬ (h.1 2 0) ≤ x1 → Q (some (jI 1)) h))) :
    WV Sx G M_X6_hasLine Q 0 [jR 2, jI x1] [] h := by
  refine s_iload_n (pc := 0) dX6_hasLine_0 rfl ?_
  refine s_if_lt (pc := 1) (tgt := 16) dX6_hasLine_1 (by decide) (fun hc => ?_) (fun hc => ?_)
  · have H := H.1 hc
    refine s_iconst (pc := 16) dX6_hasLine_16 (j_cst rfl) ?_
    exact s_zret dX6_hasLine_17 rfl (Or.inl rfl) H
  · have H := H.2 hc
    refine s_iload_n (pc := 4) dX6_hasLine_4 rfl ?_
    refine s_aload_n (pc := 5) dX6_hasLine_5 rfl ?_
    refine s_geti (pc := 6) (x := h.1 2 0) dX6_hasLine_6 fl_X6_33 cSx_2 rfl rfl ?_
    refine s_icmp_ge (pc := 9) (tgt := 16) dX6_hasLine_9 (by decide) (fun hc => ?_) (fun hc => ?_)
    · have H := H.1 hc
      refine s_iconst (pc := 16) dX6_hasLine_16 (j_cst rfl) ?_
      exact s_zret dX6_hasLine_17 rfl (Or.inl rfl) H
    · have H := H.2 hc
      refine s_iconst (pc := 12) dX6_hasLine_12 (j_cst rfl) ?_
      refine s_goto (pc := 13) (tgt := 17) dX6_hasLine_13 (by decide) ?_
      exact s_zret dX6_hasLine_17 rfl (Or.inr rfl) H
theorem en_X7_line_0 {x1 x2 : Int} {h : jH} {post : jQ} (k : ∀ G, WV Sx G M_X7_line post 0 [jR 0, jI x1, jI x2] [] h) : CT Sx M_X7_line [jR 0, jI x1, jI x2] h post := CT.of (by decide +kernel) (by simp [j_un]) (Nat.le_of_ble_eq_true rfl) _ rfl k
set_option maxRecDepth 20000 in
theorem vc_X7_line_0_0 {G : jG} {Q : jQ} {x1 x2 : Int} {h : jH}
    (H : ∃ post : Int → jH → Prop, CT Sx M_X6_hasLine [jR 2, jI x1] h (jPi post) ∧ ∀ (r1 : Int) (h2 : jH), post r1 h2 → ((r1 = 0 → Q (some (jI (-1))) h2) ∧ (¬ r1 = 0 → (x2 < 0 → Q (some (jI (-1))) h2) ∧ (¬ x2 < 0 → (x2 ≤ 1 → (x2 = 0 → (0 ≤ x1 ∧ x1 < 6) ∧ (Q (some (jI (h2.1 18 (Int.toNat x1)))) h2)) ∧ (¬ x2 = 0 → ∃ post : Int → jH → Prop, CT Sx M_X2_engagedBy [jR 17, jI x1] h2 (jPi post) ∧ ∀ (r3 : Int) (h4 : jH), post r3 h4 → (Q (some (jI r3)) h4))) ∧ (¬ x2 ≤ 1 → Q (some (jI (-1))) h2))))) :
    WV Sx G M_X7_line Q 0 [jR 0, jI x1, jI x2] [] h := by
  refine s_aload_n (pc := 0) dX7_line_0 rfl ?_
  refine s_getr (pc := 1) dX7_line_1 fl_X7_16 cSx_0 rfl ?_
  refine s_iload_n (pc := 4) dX7_line_4 rfl ?_
  obtain ⟨post, hct, H⟩ := H
  refine s_callV (pc := 5) (as := [jI x1]) (st := []) (by exact dX7_line_5) mv_X7_97 ⟨rfl, rfl, Nat.le_of_ble_eq_true rfl, Nat.le_of_ble_eq_true rfl⟩ cSx_2 rfl rfl (Nat.le_of_ble_eq_true rfl) _ rfl hct (fun r1 h2 hp => ?_)
  obtain ⟨r1, rfl, hp⟩ := hp
  have H := H r1 h2 hp
  show WV _ _ _ _ 8 [jR 0, jI x1, jI x2] [jI r1] h2
  refine s_if_eq (pc := 8) (tgt := 20) dX7_line_8 (by decide) (fun hc => ?_) (fun hc => ?_)
  · have H := H.1 hc
    refine s_iconst (pc := 20) dX7_line_20 (j_cst rfl) ?_
    exact s_iret dX7_line_21 rfl H
  · have H := H.2 hc
    refine s_iload_n (pc := 11) dX7_line_11 rfl ?_
    refine s_if_lt (pc := 12) (tgt := 20) dX7_line_12 (by decide) (fun hc => ?_) (fun hc => ?_)
    · have H := H.1 hc
      refine s_iconst (pc := 20) dX7_line_20 (j_cst rfl) ?_
      exact s_iret dX7_line_21 rfl H
    · have H := H.2 hc
      refine s_iload_n (pc := 15) dX7_line_15 rfl ?_
      refine s_iconst (pc := 16) dX7_line_16 (j_cst rfl) ?_
      refine s_icmp_le (pc := 17) (tgt := 22) dX7_line_17 (by decide) (fun hc => ?_) (fun hc => ?_)
      · have H := H.1 hc
        refine s_iload_n (pc := 22) dX7_line_22 rfl ?_
        refine s_if_ne (pc := 23) (tgt := 38) dX7_line_23 (by decide) (fun hc => ?_) (fun hc => ?_)
        · have H := H.2 hc
          refine s_aload_n (pc := 38) dX7_line_38 rfl ?_
          refine s_getr (pc := 39) dX7_line_39 fl_X7_34 cSx_0 rfl ?_
          refine s_iload_n (pc := 42) dX7_line_42 rfl ?_
          obtain ⟨post, hct, H⟩ := H
          refine s_callV (pc := 43) (as := [jI x1]) (st := []) (by exact dX7_line_43) mv_X7_104 ⟨rfl, rfl, Nat.le_of_ble_eq_true rfl, Nat.le_of_ble_eq_true rfl⟩ cSx_17 rfl rfl (Nat.le_of_ble_eq_true rfl) _ rfl hct (fun r3 h4 hp => ?_)
          obtain ⟨r3, rfl, hp⟩ := hp
          have H := H r3 h4 hp
          show WV _ _ _ _ 46 [jR 0, jI x1, jI x2] [jI r3] h4
          exact s_iret dX7_line_46 rfl H
        · have H := H.1 hc
          refine s_aload_n (pc := 26) dX7_line_26 rfl ?_
          refine s_getr (pc := 27) dX7_line_27 fl_X7_34 cSx_0 rfl ?_
          refine s_getr (pc := 30) dX7_line_30 fl_X7_101 cSx_17 rfl ?_
          refine s_iload_n (pc := 33) dX7_line_33 rfl ?_
          obtain ⟨k5, H⟩ := H
          refine s_iald (pc := 34) (x := h2.1 18 (Int.toNat x1)) dX7_line_34 cSx_18 k5 rfl ?_
          refine s_goto (pc := 35) (tgt := 46) dX7_line_35 (by decide) ?_
          exact s_iret dX7_line_46 rfl H
      · have H := H.2 hc
        refine s_iconst (pc := 20) dX7_line_20 (j_cst rfl) ?_
        exact s_iret dX7_line_21 rfl H
theorem en_X6_hasCall_2 {x1 : Int} {h : jH} {post : jQ} (k : ∀ G, WV Sx G M_X6_hasCall post 0 [jR 2, jI x1] [] h) : CT Sx M_X6_hasCall [jR 2, jI x1] h post := CT.of (by decide +kernel) (by simp [j_un]) (Nat.le_of_ble_eq_true rfl) _ rfl k
set_option maxRecDepth 20000 in
theorem vc_X6_hasCall_2_0 {G : jG} {Q : jQ} {x1 : Int} {h : jH}
    (H : (x1 < 0 → Q (some (jI 0)) h) ∧ (¬ x1 < 0 → ((h.1 2 2) ≤ x1 → Q (some (jI 0)) h) ∧ (¬ (h.1 2 2) ≤ x1 → Q (some (jI 1)) h))) :
    WV Sx G M_X6_hasCall Q 0 [jR 2, jI x1] [] h := by
  refine s_iload_n (pc := 0) dX6_hasCall_0 rfl ?_
  refine s_if_lt (pc := 1) (tgt := 16) dX6_hasCall_1 (by decide) (fun hc => ?_) (fun hc => ?_)
  · have H := H.1 hc
    refine s_iconst (pc := 16) dX6_hasCall_16 (j_cst rfl) ?_
    exact s_zret dX6_hasCall_17 rfl (Or.inl rfl) H
  · have H := H.2 hc
    refine s_iload_n (pc := 4) dX6_hasCall_4 rfl ?_
    refine s_aload_n (pc := 5) dX6_hasCall_5 rfl ?_
    refine s_geti (pc := 6) (x := h.1 2 2) dX6_hasCall_6 fl_X6_40 cSx_2 rfl rfl ?_
    refine s_icmp_ge (pc := 9) (tgt := 16) dX6_hasCall_9 (by decide) (fun hc => ?_) (fun hc => ?_)
    · have H := H.1 hc
      refine s_iconst (pc := 16) dX6_hasCall_16 (j_cst rfl) ?_
      exact s_zret dX6_hasCall_17 rfl (Or.inl rfl) H
    · have H := H.2 hc
      refine s_iconst (pc := 12) dX6_hasCall_12 (j_cst rfl) ?_
      refine s_goto (pc := 13) (tgt := 17) dX6_hasCall_13 (by decide) ?_
      exact s_zret dX6_hasCall_17 rfl (Or.inr rfl) H
theorem en_X7_call_0 {x1 x2 : Int} {h : jH} {post : jQ} (k : ∀ G, WV Sx G M_X7_call post 0 [jR 0, jI x1, jI x2] [] h) : CT Sx M_X7_call [jR 0, jI x1, jI x2] h post := CT.of (by decide +kernel) (by simp [j_un]) (Nat.le_of_ble_eq_true rfl) _ rfl k
set_option maxRecDepth 20000 in
theorem vc_X7_call_0_0 {G : jG} {Q : jQ} {x1 x2 : Int} {h : jH}
    (H : ∃ post : Int → jH → Prop, CT Sx M_X6_hasCall [jR 2, jI x1] h (jPi post) ∧ ∀ (r1 : Int) (h2 : jH), post r1 h2 → ((r1 = 0 → Q (some (jI (-1))) h2) ∧ (¬ r1 = 0 → (x2 = 0 → (0 ≤ x1 ∧ x1 < 7) ∧ (Q (some (jI (h2.1 4 (Int.toNat x1)))) h2)) ∧ (x2 = 1 → (0 ≤ x1 ∧ x1 < 7) ∧ (Q (some (jI (h2.1 5 (Int.toNat x1)))) h2)) ∧ (x2 = 2 → (0 ≤ x1 ∧ x1 < 7) ∧ (Q (some (jI (h2.1 6 (Int.toNat x1)))) h2)) ∧ (x2 = 3 → (0 ≤ x1 ∧ x1 < 7) ∧ (Q (some (jI (h2.1 7 (Int.toNat x1)))) h2)) ∧ (x2 = 4 → (0 ≤ x1 ∧ x1 < 7) ∧ (Q (some (jI (h2.1 8 (Int.toNat x1)))) h2)) ∧ (x2 = 5 → (0 ≤ x1 ∧ x1 < 7) ∧ (Q (some (jI (h2.1 19 (Int.toNat x1)))) h2)) ∧ (x2 = 6 → (0 ≤ x1 ∧ x1 < 7) ∧ (Q (some (jI (h2.1 20 (Int.toNat x1)))) h2)) ∧ (x2 = 7 → (0 ≤ x1 ∧ x1 < 7) ∧ (Q (some (jI (h2.1 21 (Int.toNat x1)))) h2)) ∧ (x2 < 0 ∨ 7 < x2 → Q (some (jI (-1))) h2)))) :
    WV Sx G M_X7_call Q 0 [jR 0, jI x1, jI x2] [] h := by
  refine s_aload_n (pc := 0) dX7_call_0 rfl ?_
  refine s_getr (pc := 1) dX7_call_1 fl_X7_16 cSx_0 rfl ?_
  refine s_iload_n (pc := 4) dX7_call_4 rfl ?_
  obtain ⟨post, hct, H⟩ := H
  refine s_callV (pc := 5) (as := [jI x1]) (st := []) (by exact dX7_call_5) mv_X7_107 ⟨rfl, rfl, Nat.le_of_ble_eq_true rfl, Nat.le_of_ble_eq_true rfl⟩ cSx_2 rfl rfl (Nat.le_of_ble_eq_true rfl) _ rfl hct (fun r1 h2 hp => ?_)
  obtain ⟨r1, rfl, hp⟩ := hp
  have H := H r1 h2 hp
  show WV _ _ _ _ 8 [jR 0, jI x1, jI x2] [jI r1] h2
  refine s_if_ne (pc := 8) (tgt := 13) dX7_call_8 (by decide) (fun hc => ?_) (fun hc => ?_)
  · have H := H.2 hc
    refine s_iload_n (pc := 13) dX7_call_13 rfl ?_
    refine s_table (pc := 14) dX7_call_14 (fun i => ([60, 70, 80, 90, 100, 110, 120, 130] : List Nat).getD i 0) 140 (by decide) (by decide) (by decide) (fun i hi hx => ?_) (fun hc => ?_)
    · rcases (show i = 0 ∨ i = 1 ∨ i = 2 ∨ i = 3 ∨ i = 4 ∨ i = 5 ∨ i = 6 ∨ i = 7 by have hi : i < 8 := hi; omega) with rfl | rfl | rfl | rfl | rfl | rfl | rfl | rfl
      · have H := H.1 (by simpa using hx)
        refine s_aload_n (pc := 60) dX7_call_60 rfl ?_
        refine s_getr (pc := 61) dX7_call_61 fl_X7_16 cSx_0 rfl ?_
        refine s_getr (pc := 64) dX7_call_64 fl_X7_110 cSx_2 rfl ?_
        refine s_iload_n (pc := 67) dX7_call_67 rfl ?_
        obtain ⟨k3, H⟩ := H
        refine s_iald (pc := 68) (x := h2.1 4 (Int.toNat x1)) dX7_call_68 cSx_4 k3 rfl ?_
        exact s_iret dX7_call_69 rfl H
      · have H := H.2.1 (by simpa using hx)
        refine s_aload_n (pc := 70) dX7_call_70 rfl ?_
        refine s_getr (pc := 71) dX7_call_71 fl_X7_16 cSx_0 rfl ?_
        refine s_getr (pc := 74) dX7_call_74 fl_X7_113 cSx_2 rfl ?_
        refine s_iload_n (pc := 77) dX7_call_77 rfl ?_
        obtain ⟨k4, H⟩ := H
        refine s_iald (pc := 78) (x := h2.1 5 (Int.toNat x1)) dX7_call_78 cSx_5 k4 rfl ?_
        exact s_iret dX7_call_79 rfl H
      · have H := H.2.2.1 (by simpa using hx)
        refine s_aload_n (pc := 80) dX7_call_80 rfl ?_
        refine s_getr (pc := 81) dX7_call_81 fl_X7_16 cSx_0 rfl ?_
        refine s_getr (pc := 84) dX7_call_84 fl_X7_116 cSx_2 rfl ?_
        refine s_iload_n (pc := 87) dX7_call_87 rfl ?_
        obtain ⟨k5, H⟩ := H
        refine s_iald (pc := 88) (x := h2.1 6 (Int.toNat x1)) dX7_call_88 cSx_6 k5 rfl ?_
        exact s_iret dX7_call_89 rfl H
      · have H := H.2.2.2.1 (by simpa using hx)
        refine s_aload_n (pc := 90) dX7_call_90 rfl ?_
        refine s_getr (pc := 91) dX7_call_91 fl_X7_16 cSx_0 rfl ?_
        refine s_getr (pc := 94) dX7_call_94 fl_X7_119 cSx_2 rfl ?_
        refine s_iload_n (pc := 97) dX7_call_97 rfl ?_
        obtain ⟨k6, H⟩ := H
        refine s_iald (pc := 98) (x := h2.1 7 (Int.toNat x1)) dX7_call_98 cSx_7 k6 rfl ?_
        exact s_iret dX7_call_99 rfl H
      · have H := H.2.2.2.2.1 (by simpa using hx)
        refine s_aload_n (pc := 100) dX7_call_100 rfl ?_
        refine s_getr (pc := 101) dX7_call_101 fl_X7_16 cSx_0 rfl ?_
        refine s_getr (pc := 104) dX7_call_104 fl_X7_122 cSx_2 rfl ?_
        refine s_iload_n (pc := 107) dX7_call_107 rfl ?_
        obtain ⟨k7, H⟩ := H
        refine s_iald (pc := 108) (x := h2.1 8 (Int.toNat x1)) dX7_call_108 cSx_8 k7 rfl ?_
        exact s_iret dX7_call_109 rfl H
      · have H := H.2.2.2.2.2.1 (by simpa using hx)
        refine s_aload_n (pc := 110) dX7_call_110 rfl ?_
        refine s_getr (pc := 111) dX7_call_111 fl_X7_34 cSx_0 rfl ?_
        refine s_getr (pc := 114) dX7_call_114 fl_X7_125 cSx_17 rfl ?_
        refine s_iload_n (pc := 117) dX7_call_117 rfl ?_
        obtain ⟨k8, H⟩ := H
        refine s_iald (pc := 118) (x := h2.1 19 (Int.toNat x1)) dX7_call_118 cSx_19 k8 rfl ?_
        exact s_iret dX7_call_119 rfl H
      · have H := H.2.2.2.2.2.2.1 (by simpa using hx)
        refine s_aload_n (pc := 120) dX7_call_120 rfl ?_
        refine s_getr (pc := 121) dX7_call_121 fl_X7_34 cSx_0 rfl ?_
        refine s_getr (pc := 124) dX7_call_124 fl_X7_128 cSx_17 rfl ?_
        refine s_iload_n (pc := 127) dX7_call_127 rfl ?_
        obtain ⟨k9, H⟩ := H
        refine s_iald (pc := 128) (x := h2.1 20 (Int.toNat x1)) dX7_call_128 cSx_20 k9 rfl ?_
        exact s_iret dX7_call_129 rfl H
      · have H := H.2.2.2.2.2.2.2.1 (by simpa using hx)
        refine s_aload_n (pc := 130) dX7_call_130 rfl ?_
        refine s_getr (pc := 131) dX7_call_131 fl_X7_34 cSx_0 rfl ?_
        refine s_getr (pc := 134) dX7_call_134 fl_X7_131 cSx_17 rfl ?_
        refine s_iload_n (pc := 137) dX7_call_137 rfl ?_
        obtain ⟨k10, H⟩ := H
        refine s_iald (pc := 138) (x := h2.1 21 (Int.toNat x1)) dX7_call_138 cSx_21 k10 rfl ?_
        exact s_iret dX7_call_139 rfl H
    · have H := H.2.2.2.2.2.2.2.2 hc
      refine s_iconst (pc := 140) dX7_call_140 (j_cst rfl) ?_
      exact s_iret dX7_call_141 rfl H
  · have H := H.1 hc
    refine s_iconst (pc := 11) dX7_call_11 (j_cst rfl) ?_
    exact s_iret dX7_call_12 rfl H
theorem en_J6_bitCount_0f7a4 {x0 : Int} {h : jH} {post : jQ} (k : ∀ G, WV Sx G M_J6_bitCount_0f7a4 post 0 [jI x0] [] h) : CT Sx M_J6_bitCount_0f7a4 [jI x0] h post := CT.of (by decide +kernel) (by simp [j_un]) (Nat.le_of_ble_eq_true rfl) _ rfl k
set_option maxRecDepth 20000 in
theorem vc_J6_bitCount_0f7a4_0 {G : jG} {Q : jQ} {x0 : Int} {h : jH}
    (H : (j_rg (x0 - (b_and (b_ushr x0 1) 1431655765))) ∧ ((j_rg ((b_and (x0 - (b_and (b_ushr x0 1) 1431655765)) 858993459) + (b_and (b_ushr (x0 - (b_and (b_ushr x0 1) 1431655765)) 2) 858993459))) ∧ ((j_rg (((b_and (x0 - (b_and (b_ushr x0 1) 1431655765)) 858993459) + (b_and (b_ushr (x0 - (b_and (b_ushr x0 1) 1431655765)) 2) 858993459)) + (b_ushr ((b_and (x0 - (b_and (b_ushr x0 1) 1431655765)) 858993459) + (b_and (b_ushr (x0 - (b_and (b_ushr x0 1) 1431655765)) 2) 858993459)) 4))) ∧ ((j_rg ((b_and (((b_and (x0 - (b_and (b_ushr x0 1) 1431655765)) 858993459) + (b_and (b_ushr (x0 - (b_and (b_ushr x0 1) 1431655765)) 2) 858993459)) + (b_ushr ((b_and (x0 - (b_and (b_ushr x0 1) 1431655765)) 858993459) + (b_and (b_ushr (x0 - (b_and (b_ushr x0 1) 1431655765)) 2) 858993459)) 4)) 252645135) + (b_ushr (b_and (((b_and (x0 - (b_and (b_ushr x0 1) 1431655765)) 858993459) + (b_and (b_ushr (x0 - (b_and (b_ushr x0 1) 1431655765)) 2) 858993459)) + (b_ushr ((b_and (x0 - (b_and (b_ushr x0 1) 1431655765)) 858993459) + (b_and (b_ushr (x0 - (b_and (b_ushr x0 1) 1431655765)) 2) 858993459)) 4)) 252645135) 8))) ∧ ((j_rg (((b_and (((b_and (x0 - (b_and (b_ushr x0 1) 1431655765)) 858993459) + (b_and (b_ushr (x0 - (b_and (b_ushr x0 1) 1431655765)) 2) 858993459)) + (b_ushr ((b_and (x0 - (b_and (b_ushr x0 1) 1431655765)) 858993459) + (b_and (b_ushr (x0 - (b_and (b_ushr x0 1) 1431655765)) 2) 858993459)) 4)) 252645135) + (b_ushr (b_and (((b_and (x0 - (b_and (b_ushr x0 1) 1431655765)) 858993459) + (b_and (b_ushr (x0 - (b_and (b_ushr x0 1) 1431655765)) 2) 858993459)) + (b_ushr ((b_and (x0 - (b_and (b_ushr x0 1) 1431655765)) 858993459) + (b_and (b_ushr (x0 - (b_and (b_ushr x0 1) 1431655765)) 2) 858993459)) 4)) 252645135) 8)) + (b_ushr ((b_and (((b_and (x0 - (b_and (b_ushr x0 1) 1431655765)) 858993459) + (b_and (b_ushr (x0 - (b_and (b_ushr x0 1) 1431655765)) 2) 858993459)) + (b_ushr ((b_and (x0 - (b_and (b_ushr x0 1) 1431655765)) 858993459) + (b_and (b_ushr (x0 - (b_and (b_ushr x0 1) 1431655765)) 2) 858993459)) 4)) 252645135) + (b_ushr (b_and (((b_and (x0 - (b_and (b_ushr x0 1) 1431655765)) 858993459) + (b_and (b_ushr (x0 - (b_and (b_ushr x0 1) 1431655765)) 2) 858993459)) + (b_ushr ((b_and (x0 - (b_and (b_ushr x0 1) 1431655765)) 858993459) + (b_and (b_ushr (x0 - (b_and (b_ushr x0 1) 1431655765)) 2) 858993459)) 4)) 252645135) 8)) 16))) ∧ (Q (some (jI (b_and (((b_and (((b_and (x0 - (b_and (b_ushr x0 1) 1431655765)) 858993459) + (b_and (b_ushr (x0 - (b_and (b_ushr x0 1) 1431655765)) 2) 858993459)) + (b_ushr ((b_and (x0 - (b_and (b_ushr x0 1) 1431655765)) 858993459) + (b_and (b_ushr (x0 - (b_and (b_ushr x0 1) 1431655765)) 2) 858993459)) 4)) 252645135) + (b_ushr (b_and (((b_and (x0 - (b_and (b_ushr x0 1) 1431655765)) 858993459) + (b_and (b_ushr (x0 - (b_and (b_ushr x0 1) 1431655765)) 2) 858993459)) + (b_ushr ((b_and (x0 - (b_and (b_ushr x0 1) 1431655765)) 858993459) + (b_and (b_ushr (x0 - (b_and (b_ushr x0 1) 1431655765)) 2) 858993459)) 4)) 252645135) 8)) + (b_ushr ((b_and (((b_and (x0 - (b_and (b_ushr x0 1) 1431655765)) 858993459) + (b_and (b_ushr (x0 - (b_and (b_ushr x0 1) 1431655765)) 2) 858993459)) + (b_ushr ((b_and (x0 - (b_and (b_ushr x0 1) 1431655765)) 858993459) + (b_and (b_ushr (x0 - (b_and (b_ushr x0 1) 1431655765)) 2) 858993459)) 4)) 252645135) + (b_ushr (b_and (((b_and (x0 - (b_and (b_ushr x0 1) 1431655765)) 858993459) + (b_and (b_ushr (x0 - (b_and (b_ushr x0 1) 1431655765)) 2) 858993459)) + (b_ushr ((b_and (x0 - (b_and (b_ushr x0 1) 1431655765)) 858993459) + (b_and (b_ushr (x0 - (b_and (b_ushr x0 1) 1431655765)) 2) 858993459)) 4)) 252645135) 8)) 16)) 63))) h)))))) :
    WV Sx G M_J6_bitCount_0f7a4 Q 0 [jI x0] [] h := by
  refine s_iload_n (pc := 0) dJ6_bitCount_0f7a4_0 rfl ?_
  refine s_iload_n (pc := 1) dJ6_bitCount_0f7a4_1 rfl ?_
  refine s_iconst (pc := 2) dJ6_bitCount_0f7a4_2 (j_cst rfl) ?_
  refine s_iushr (pc := 3) dJ6_bitCount_0f7a4_3 ?_
  refine s_ldcw (pc := 4) dJ6_bitCount_0f7a4_4 kc_J6_265 (j_cst rfl) ?_
  refine s_iand (pc := 7) dJ6_bitCount_0f7a4_7 ?_
  obtain ⟨k1, H⟩ := H
  refine s_isub (pc := 8) dJ6_bitCount_0f7a4_8 k1 ?_
  refine s_istore_n (pc := 9) (lv' := [jI (x0 - (b_and (b_ushr x0 1) 1431655765))]) dJ6_bitCount_0f7a4_9 (by decide) rfl ?_
  refine s_iload_n (pc := 10) dJ6_bitCount_0f7a4_10 rfl ?_
  refine s_ldcw (pc := 11) dJ6_bitCount_0f7a4_11 kc_J6_266 (j_cst rfl) ?_
  refine s_iand (pc := 14) dJ6_bitCount_0f7a4_14 ?_
  refine s_iload_n (pc := 15) dJ6_bitCount_0f7a4_15 rfl ?_
  refine s_iconst (pc := 16) dJ6_bitCount_0f7a4_16 (j_cst rfl) ?_
  refine s_iushr (pc := 17) dJ6_bitCount_0f7a4_17 ?_
  refine s_ldcw (pc := 18) dJ6_bitCount_0f7a4_18 kc_J6_266 (j_cst rfl) ?_
  refine s_iand (pc := 21) dJ6_bitCount_0f7a4_21 ?_
  obtain ⟨k2, H⟩ := H
  refine s_iadd (pc := 22) dJ6_bitCount_0f7a4_22 k2 ?_
  refine s_istore_n (pc := 23) (lv' := [jI ((b_and (x0 - (b_and (b_ushr x0 1) 1431655765)) 858993459) + (b_and (b_ushr (x0 - (b_and (b_ushr x0 1) 1431655765)) 2) 858993459))]) dJ6_bitCount_0f7a4_23 (by decide) rfl ?_
  refine s_iload_n (pc := 24) dJ6_bitCount_0f7a4_24 rfl ?_
  refine s_iload_n (pc := 25) dJ6_bitCount_0f7a4_25 rfl ?_
  refine s_iconst (pc := 26) dJ6_bitCount_0f7a4_26 (j_cst rfl) ?_
  refine s_iushr (pc := 27) dJ6_bitCount_0f7a4_27 ?_
  obtain ⟨k3, H⟩ := H
  refine s_iadd (pc := 28) dJ6_bitCount_0f7a4_28 k3 ?_
  refine s_ldcw (pc := 29) dJ6_bitCount_0f7a4_29 kc_J6_267 (j_cst rfl) ?_
  refine s_iand (pc := 32) dJ6_bitCount_0f7a4_32 ?_
  refine s_istore_n (pc := 33) (lv' := [jI (b_and (((b_and (x0 - (b_and (b_ushr x0 1) 1431655765)) 858993459) + (b_and (b_ushr (x0 - (b_and (b_ushr x0 1) 1431655765)) 2) 858993459)) + (b_ushr ((b_and (x0 - (b_and (b_ushr x0 1) 1431655765)) 858993459) + (b_and (b_ushr (x0 - (b_and (b_ushr x0 1) 1431655765)) 2) 858993459)) 4)) 252645135)]) dJ6_bitCount_0f7a4_33 (by decide) rfl ?_
  refine s_iload_n (pc := 34) dJ6_bitCount_0f7a4_34 rfl ?_
  refine s_iload_n (pc := 35) dJ6_bitCount_0f7a4_35 rfl ?_
  refine s_bipush (pc := 36) dJ6_bitCount_0f7a4_36 rfl (j_cst rfl) ?_
  refine s_iushr (pc := 38) dJ6_bitCount_0f7a4_38 ?_
  obtain ⟨k4, H⟩ := H
  refine s_iadd (pc := 39) dJ6_bitCount_0f7a4_39 k4 ?_
  refine s_istore_n (pc := 40) (lv' := [jI ((b_and (((b_and (x0 - (b_and (b_ushr x0 1) 1431655765)) 858993459) + (b_and (b_ushr (x0 - (b_and (b_ushr x0 1) 1431655765)) 2) 858993459)) + (b_ushr ((b_and (x0 - (b_and (b_ushr x0 1) 1431655765)) 858993459) + (b_and (b_ushr (x0 - (b_and (b_ushr x0 1) 1431655765)) 2) 858993459)) 4)) 252645135) + (b_ushr (b_and (((b_and (x0 - (b_and (b_ushr x0 1) 1431655765)) 858993459) + (b_and (b_ushr (x0 - (b_and (b_ushr x0 1) 1431655765)) 2) 858993459)) + (b_ushr ((b_and (x0 - (b_and (b_ushr x0 1) 1431655765)) 858993459) + (b_and (b_ushr (x0 - (b_and (b_ushr x0 1) 1431655765)) 2) 858993459)) 4)) 252645135) 8))]) dJ6_bitCount_0f7a4_40 (by decide) rfl ?_
  refine s_iload_n (pc := 41) dJ6_bitCount_0f7a4_41 rfl ?_
  refine s_iload_n (pc := 42) dJ6_bitCount_0f7a4_42 rfl ?_
  refine s_bipush (pc := 43) dJ6_bitCount_0f7a4_43 rfl (j_cst rfl) ?_
  refine s_iushr (pc := 45) dJ6_bitCount_0f7a4_45 ?_
  obtain ⟨k5, H⟩ := H
  refine s_iadd (pc := 46) dJ6_bitCount_0f7a4_46 k5 ?_
  refine s_istore_n (pc := 47) (lv' := [jI (((b_and (((b_and (x0 - (b_and (b_ushr x0 1) 1431655765)) 858993459) + (b_and (b_ushr (x0 - (b_and (b_ushr x0 1) 1431655765)) 2) 858993459)) + (b_ushr ((b_and (x0 - (b_and (b_ushr x0 1) 1431655765)) 858993459) + (b_and (b_ushr (x0 - (b_and (b_ushr x0 1) 1431655765)) 2) 858993459)) 4)) 252645135) + (b_ushr (b_and (((b_and (x0 - (b_and (b_ushr x0 1) 1431655765)) 858993459) + (b_and (b_ushr (x0 - (b_and (b_ushr x0 1) 1431655765)) 2) 858993459)) + (b_ushr ((b_and (x0 - (b_and (b_ushr x0 1) 1431655765)) 858993459) + (b_and (b_ushr (x0 - (b_and (b_ushr x0 1) 1431655765)) 2) 858993459)) 4)) 252645135) 8)) + (b_ushr ((b_and (((b_and (x0 - (b_and (b_ushr x0 1) 1431655765)) 858993459) + (b_and (b_ushr (x0 - (b_and (b_ushr x0 1) 1431655765)) 2) 858993459)) + (b_ushr ((b_and (x0 - (b_and (b_ushr x0 1) 1431655765)) 858993459) + (b_and (b_ushr (x0 - (b_and (b_ushr x0 1) 1431655765)) 2) 858993459)) 4)) 252645135) + (b_ushr (b_and (((b_and (x0 - (b_and (b_ushr x0 1) 1431655765)) 858993459) + (b_and (b_ushr (x0 - (b_and (b_ushr x0 1) 1431655765)) 2) 858993459)) + (b_ushr ((b_and (x0 - (b_and (b_ushr x0 1) 1431655765)) 858993459) + (b_and (b_ushr (x0 - (b_and (b_ushr x0 1) 1431655765)) 2) 858993459)) 4)) 252645135) 8)) 16))]) dJ6_bitCount_0f7a4_47 (by decide) rfl ?_
  refine s_iload_n (pc := 48) dJ6_bitCount_0f7a4_48 rfl ?_
  refine s_bipush (pc := 49) dJ6_bitCount_0f7a4_49 rfl (j_cst rfl) ?_
  refine s_iand (pc := 51) dJ6_bitCount_0f7a4_51 ?_
  exact s_iret dJ6_bitCount_0f7a4_52 rfl H
theorem en_X2_isBetween_17 {x1 x2 : Int} {h : jH} {post : jQ} (k : ∀ G, WV Sx G M_X2_isBetween post 0 [jR 17, jI x1, jI x2, jU, jU] [] h) : CT Sx M_X2_isBetween [jR 17, jI x1, jI x2] h post := CT.of (by decide +kernel) (by simp [j_un]) (Nat.le_of_ble_eq_true rfl) _ rfl k
set_option maxRecDepth 20000 in
theorem vc_X2_isBetween_17_0 {G : jG} {Q : jQ} {x1 x2 : Int} {h : jH}
    (H : (0 ≤ x1 ∧ x1 < 7) ∧ ((0 ≤ h.1 5 (Int.toNat x1) ∧ h.1 5 (Int.toNat x1) < 6) ∧ ((0 ≤ h.1 6 (Int.toNat x1) ∧ h.1 6 (Int.toNat x1) < 6) ∧ ((x2 ≤ (min (h.1 18 (Int.toNat (h.1 5 (Int.toNat x1)))) (h.1 18 (Int.toNat (h.1 6 (Int.toNat x1))))) → Q (some (jI 0)) h) ∧ (¬ x2 ≤ (min (h.1 18 (Int.toNat (h.1 5 (Int.toNat x1)))) (h.1 18 (Int.toNat (h.1 6 (Int.toNat x1))))) → ((max (h.1 18 (Int.toNat (h.1 5 (Int.toNat x1)))) (h.1 18 (Int.toNat (h.1 6 (Int.toNat x1))))) ≤ x2 → Q (some (jI 0)) h) ∧ (¬ (max (h.1 18 (Int.toNat (h.1 5 (Int.toNat x1)))) (h.1 18 (Int.toNat (h.1 6 (Int.toNat x1))))) ≤ x2 → Q (some (jI 1)) h)))))) :
    WV Sx G M_X2_isBetween Q 0 [jR 17, jI x1, jI x2, jU, jU] [] h := by
  refine s_aload_n (pc := 0) dX2_isBetween_0 rfl ?_
  refine s_getr (pc := 1) dX2_isBetween_1 fl_X2_9 cSx_17 rfl ?_
  refine s_aload_n (pc := 4) dX2_isBetween_4 rfl ?_
  refine s_getr (pc := 5) dX2_isBetween_5 fl_X2_24 cSx_17 rfl ?_
  refine s_getr (pc := 8) dX2_isBetween_8 fl_X2_50 cSx_2 rfl ?_
  refine s_iload_n (pc := 11) dX2_isBetween_11 rfl ?_
  obtain ⟨k1, H⟩ := H
  refine s_iald (pc := 12) (x := h.1 5 (Int.toNat x1)) dX2_isBetween_12 cSx_5 k1 rfl ?_
  obtain ⟨k2, H⟩ := H
  refine s_iald (pc := 13) (x := h.1 18 (Int.toNat (h.1 5 (Int.toNat x1)))) dX2_isBetween_13 cSx_18 k2 rfl ?_
  refine s_istore_n (pc := 14) (lv' := [jR 17, jI x1, jI x2, jI (h.1 18 (Int.toNat (h.1 5 (Int.toNat x1)))), jU]) dX2_isBetween_14 (by decide) rfl ?_
  refine s_aload_n (pc := 15) dX2_isBetween_15 rfl ?_
  refine s_getr (pc := 16) dX2_isBetween_16 fl_X2_9 cSx_17 rfl ?_
  refine s_aload_n (pc := 19) dX2_isBetween_19 rfl ?_
  refine s_getr (pc := 20) dX2_isBetween_20 fl_X2_24 cSx_17 rfl ?_
  refine s_getr (pc := 23) dX2_isBetween_23 fl_X2_53 cSx_2 rfl ?_
  refine s_iload_n (pc := 26) dX2_isBetween_26 rfl ?_
  refine s_iald (pc := 27) (x := h.1 6 (Int.toNat x1)) dX2_isBetween_27 cSx_6 k1 rfl ?_
  obtain ⟨k3, H⟩ := H
  refine s_iald (pc := 28) (x := h.1 18 (Int.toNat (h.1 6 (Int.toNat x1)))) dX2_isBetween_28 cSx_18 k3 rfl ?_
  refine s_istore (pc := 29) (lv' := [jR 17, jI x1, jI x2, jI (h.1 18 (Int.toNat (h.1 5 (Int.toNat x1)))), jI (h.1 18 (Int.toNat (h.1 6 (Int.toNat x1))))]) dX2_isBetween_29 (by decide) rfl ?_
  refine s_iload_n (pc := 31) dX2_isBetween_31 rfl ?_
  refine s_iload (pc := 32) dX2_isBetween_32 rfl ?_
  refine s_min (pc := 34) dX2_isBetween_34 mm_X2_95 ⟨Nat.le_of_ble_eq_true rfl, Nat.le_of_ble_eq_true rfl⟩ ?_
  refine s_iload_n (pc := 37) dX2_isBetween_37 rfl ?_
  refine s_icmp_ge (pc := 38) (tgt := 55) dX2_isBetween_38 (by decide) (fun hc => ?_) (fun hc => ?_)
  · have H := H.1 hc
    refine s_iconst (pc := 55) dX2_isBetween_55 (j_cst rfl) ?_
    exact s_zret dX2_isBetween_56 rfl (Or.inl rfl) H
  · have H := H.2 hc
    refine s_iload_n (pc := 41) dX2_isBetween_41 rfl ?_
    refine s_iload_n (pc := 42) dX2_isBetween_42 rfl ?_
    refine s_iload (pc := 43) dX2_isBetween_43 rfl ?_
    refine s_max (pc := 45) dX2_isBetween_45 mm_X2_101 ⟨Nat.le_of_ble_eq_true rfl, Nat.le_of_ble_eq_true rfl⟩ ?_
    refine s_icmp_ge (pc := 48) (tgt := 55) dX2_isBetween_48 (by decide) (fun hc => ?_) (fun hc => ?_)
    · have H := H.1 hc
      refine s_iconst (pc := 55) dX2_isBetween_55 (j_cst rfl) ?_
      exact s_zret dX2_isBetween_56 rfl (Or.inl rfl) H
    · have H := H.2 hc
      refine s_iconst (pc := 51) dX2_isBetween_51 (j_cst rfl) ?_
      refine s_goto (pc := 52) (tgt := 56) dX2_isBetween_52 (by decide) ?_
      exact s_zret dX2_isBetween_56 rfl (Or.inr rfl) H
theorem en_X6_shareLine_2 {x1 x2 : Int} {h : jH} {post : jQ} (k : ∀ G, WV Sx G M_X6_shareLine post 0 [jR 2, jI x1, jI x2] [] h) : CT Sx M_X6_shareLine [jR 2, jI x1, jI x2] h post := CT.of (by decide +kernel) (by simp [j_un]) (Nat.le_of_ble_eq_true rfl) _ rfl k
set_option maxRecDepth 20000 in
theorem vc_X6_shareLine_2_0 {G : jG} {Q : jQ} {x1 x2 : Int} {h : jH}
    (H : (0 ≤ x1 ∧ x1 < 7) ∧ ((0 ≤ x2 ∧ x2 < 7) ∧ (((h.1 5 (Int.toNat x1)) = (h.1 5 (Int.toNat x2)) → Q (some (jI 1)) h) ∧ (¬ (h.1 5 (Int.toNat x1)) = (h.1 5 (Int.toNat x2)) → ((h.1 5 (Int.toNat x1)) = (h.1 6 (Int.toNat x2)) → Q (some (jI 1)) h) ∧ (¬ (h.1 5 (Int.toNat x1)) = (h.1 6 (Int.toNat x2)) → ((h.1 6 (Int.toNat x1)) = (h.1 5 (Int.toNat x2)) → Q (some (jI 1)) h) ∧ (¬ (h.1 6 (Int.toNat x1)) = (h.1 5 (Int.toNat x2)) → ((h.1 6 (Int.toNat x1)) = (h.1 6 (Int.toNat x2)) → Q (some (jI 1)) h) ∧ (¬ (h.1 6 (Int.toNat x1)) = (h.1 6 (Int.toNat x2)) → Q (some (jI 0)) h))))))) :
    WV Sx G M_X6_shareLine Q 0 [jR 2, jI x1, jI x2] [] h := by
  refine s_aload_n (pc := 0) dX6_shareLine_0 rfl ?_
  refine s_getr (pc := 1) dX6_shareLine_1 fl_X6_18 cSx_2 rfl ?_
  refine s_iload_n (pc := 4) dX6_shareLine_4 rfl ?_
  obtain ⟨k1, H⟩ := H
  refine s_iald (pc := 5) (x := h.1 5 (Int.toNat x1)) dX6_shareLine_5 cSx_5 k1 rfl ?_
  refine s_aload_n (pc := 6) dX6_shareLine_6 rfl ?_
  refine s_getr (pc := 7) dX6_shareLine_7 fl_X6_18 cSx_2 rfl ?_
  refine s_iload_n (pc := 10) dX6_shareLine_10 rfl ?_
  obtain ⟨k2, H⟩ := H
  refine s_iald (pc := 11) (x := h.1 5 (Int.toNat x2)) dX6_shareLine_11 cSx_5 k2 rfl ?_
  refine s_icmp_eq (pc := 12) (tgt := 60) dX6_shareLine_12 (by decide) (fun hc => ?_) (fun hc => ?_)
  · have H := H.1 hc
    refine s_iconst (pc := 60) dX6_shareLine_60 (j_cst rfl) ?_
    refine s_goto (pc := 61) (tgt := 65) dX6_shareLine_61 (by decide) ?_
    exact s_zret dX6_shareLine_65 rfl (Or.inr rfl) H
  · have H := H.2 hc
    refine s_aload_n (pc := 15) dX6_shareLine_15 rfl ?_
    refine s_getr (pc := 16) dX6_shareLine_16 fl_X6_18 cSx_2 rfl ?_
    refine s_iload_n (pc := 19) dX6_shareLine_19 rfl ?_
    refine s_iald (pc := 20) (x := h.1 5 (Int.toNat x1)) dX6_shareLine_20 cSx_5 k1 rfl ?_
    refine s_aload_n (pc := 21) dX6_shareLine_21 rfl ?_
    refine s_getr (pc := 22) dX6_shareLine_22 fl_X6_21 cSx_2 rfl ?_
    refine s_iload_n (pc := 25) dX6_shareLine_25 rfl ?_
    refine s_iald (pc := 26) (x := h.1 6 (Int.toNat x2)) dX6_shareLine_26 cSx_6 k2 rfl ?_
    refine s_icmp_eq (pc := 27) (tgt := 60) dX6_shareLine_27 (by decide) (fun hc => ?_) (fun hc => ?_)
    · have H := H.1 hc
      refine s_iconst (pc := 60) dX6_shareLine_60 (j_cst rfl) ?_
      refine s_goto (pc := 61) (tgt := 65) dX6_shareLine_61 (by decide) ?_
      exact s_zret dX6_shareLine_65 rfl (Or.inr rfl) H
    · have H := H.2 hc
      refine s_aload_n (pc := 30) dX6_shareLine_30 rfl ?_
      refine s_getr (pc := 31) dX6_shareLine_31 fl_X6_21 cSx_2 rfl ?_
      refine s_iload_n (pc := 34) dX6_shareLine_34 rfl ?_
      refine s_iald (pc := 35) (x := h.1 6 (Int.toNat x1)) dX6_shareLine_35 cSx_6 k1 rfl ?_
      refine s_aload_n (pc := 36) dX6_shareLine_36 rfl ?_
      refine s_getr (pc := 37) dX6_shareLine_37 fl_X6_18 cSx_2 rfl ?_
      refine s_iload_n (pc := 40) dX6_shareLine_40 rfl ?_
      refine s_iald (pc := 41) (x := h.1 5 (Int.toNat x2)) dX6_shareLine_41 cSx_5 k2 rfl ?_
      refine s_icmp_eq (pc := 42) (tgt := 60) dX6_shareLine_42 (by decide) (fun hc => ?_) (fun hc => ?_)
      · have H := H.1 hc
        refine s_iconst (pc := 60) dX6_shareLine_60 (j_cst rfl) ?_
        refine s_goto (pc := 61) (tgt := 65) dX6_shareLine_61 (by decide) ?_
        exact s_zret dX6_shareLine_65 rfl (Or.inr rfl) H
      · have H := H.2 hc
        refine s_aload_n (pc := 45) dX6_shareLine_45 rfl ?_
        refine s_getr (pc := 46) dX6_shareLine_46 fl_X6_21 cSx_2 rfl ?_
        refine s_iload_n (pc := 49) dX6_shareLine_49 rfl ?_
        refine s_iald (pc := 50) (x := h.1 6 (Int.toNat x1)) dX6_shareLine_50 cSx_6 k1 rfl ?_
        refine s_aload_n (pc := 51) dX6_shareLine_51 rfl ?_
        refine s_getr (pc := 52) dX6_shareLine_52 fl_X6_21 cSx_2 rfl ?_
        refine s_iload_n (pc := 55) dX6_shareLine_55 rfl ?_
        refine s_iald (pc := 56) (x := h.1 6 (Int.toNat x2)) dX6_shareLine_56 cSx_6 k2 rfl ?_
        refine s_icmp_ne (pc := 57) (tgt := 64) dX6_shareLine_57 (by decide) (fun hc => ?_) (fun hc => ?_)
        · have H := H.2 hc
          refine s_iconst (pc := 64) dX6_shareLine_64 (j_cst rfl) ?_
          exact s_zret dX6_shareLine_65 rfl (Or.inl rfl) H
        · have H := H.1 hc
          refine s_iconst (pc := 60) dX6_shareLine_60 (j_cst rfl) ?_
          refine s_goto (pc := 61) (tgt := 65) dX6_shareLine_61 (by decide) ?_
          exact s_zret dX6_shareLine_65 rfl (Or.inr rfl) H
theorem en_X2_cross_17 {x1 x2 : Int} {h : jH} {post : jQ} (k : ∀ G, WV Sx G M_X2_cross post 0 [jR 17, jI x1, jI x2] [] h) : CT Sx M_X2_cross [jR 17, jI x1, jI x2] h post := CT.of (by decide +kernel) (by simp [j_un]) (Nat.le_of_ble_eq_true rfl) _ rfl k
set_option maxRecDepth 20000 in
theorem vc_X2_cross_17_0 {G : jG} {Q : jQ} {x1 x2 : Int} {h : jH}
    (H : ∃ post : Int → jH → Prop, CT Sx M_X6_shareLine [jR 2, jI x1, jI x2] h (jPi post) ∧ ∀ (r1 : Int) (h2 : jH), post r1 h2 → ((r1 = 0 → (0 ≤ x2 ∧ x2 < 7) ∧ ((0 ≤ h2.1 5 (Int.toNat x2) ∧ h2.1 5 (Int.toNat x2) < 6) ∧ (∃ post : Int → jH → Prop, CT Sx M_X2_isBetween [jR 17, jI x1, jI (h2.1 18 (Int.toNat (h2.1 5 (Int.toNat x2))))] h2 (jPi post) ∧ ∀ (r5 : Int) (h6 : jH), post r5 h6 → ((0 ≤ h6.1 6 (Int.toNat x2) ∧ h6.1 6 (Int.toNat x2) < 6) ∧ (∃ post : Int → jH → Prop, CT Sx M_X2_isBetween [jR 17, jI x1, jI (h6.1 18 (Int.toNat (h6.1 6 (Int.toNat x2))))] h6 (jPi post) ∧ ∀ (r8 : Int) (h9 : jH), post r8 h9 → ((r5 = r8 → Q (some (jI 0)) h9) ∧ (¬ r5 = r8 → Q (some (jI 1)) h9))))))) ∧ (¬ r1 = 0 → Q (some (jI 0)) h2))) :
    WV Sx G M_X2_cross Q 0 [jR 17, jI x1, jI x2] [] h := by
  refine s_aload_n (pc := 0) dX2_cross_0 rfl ?_
  refine s_getr (pc := 1) dX2_cross_1 fl_X2_24 cSx_17 rfl ?_
  refine s_iload_n (pc := 4) dX2_cross_4 rfl ?_
  refine s_iload_n (pc := 5) dX2_cross_5 rfl ?_
  obtain ⟨post, hct, H⟩ := H
  refine s_callV (pc := 6) (as := [jI x1, jI x2]) (st := []) (by exact dX2_cross_6) mv_X2_56 ⟨rfl, rfl, Nat.le_of_ble_eq_true rfl, Nat.le_of_ble_eq_true rfl⟩ cSx_2 rfl rfl (Nat.le_of_ble_eq_true rfl) _ rfl hct (fun r1 h2 hp => ?_)
  obtain ⟨r1, rfl, hp⟩ := hp
  have H := H r1 h2 hp
  show WV _ _ _ _ 9 [jR 17, jI x1, jI x2] [jI r1] h2
  refine s_if_ne (pc := 9) (tgt := 57) dX2_cross_9 (by decide) (fun hc => ?_) (fun hc => ?_)
  · have H := H.2 hc
    refine s_iconst (pc := 57) dX2_cross_57 (j_cst rfl) ?_
    exact s_zret dX2_cross_58 rfl (Or.inl rfl) H
  · have H := H.1 hc
    refine s_aload_n (pc := 12) dX2_cross_12 rfl ?_
    refine s_iload_n (pc := 13) dX2_cross_13 rfl ?_
    refine s_aload_n (pc := 14) dX2_cross_14 rfl ?_
    refine s_getr (pc := 15) dX2_cross_15 fl_X2_9 cSx_17 rfl ?_
    refine s_aload_n (pc := 18) dX2_cross_18 rfl ?_
    refine s_getr (pc := 19) dX2_cross_19 fl_X2_24 cSx_17 rfl ?_
    refine s_getr (pc := 22) dX2_cross_22 fl_X2_50 cSx_2 rfl ?_
    refine s_iload_n (pc := 25) dX2_cross_25 rfl ?_
    obtain ⟨k3, H⟩ := H
    refine s_iald (pc := 26) (x := h2.1 5 (Int.toNat x2)) dX2_cross_26 cSx_5 k3 rfl ?_
    obtain ⟨k4, H⟩ := H
    refine s_iald (pc := 27) (x := h2.1 18 (Int.toNat (h2.1 5 (Int.toNat x2)))) dX2_cross_27 cSx_18 k4 rfl ?_
    obtain ⟨post, hct, H⟩ := H
    refine s_callV (pc := 28) (as := [jI x1, jI (h2.1 18 (Int.toNat (h2.1 5 (Int.toNat x2))))]) (st := []) (by exact dX2_cross_28) mv_X2_92 ⟨rfl, rfl, Nat.le_of_ble_eq_true rfl, Nat.le_of_ble_eq_true rfl⟩ cSx_17 rfl rfl (Nat.le_of_ble_eq_true rfl) _ rfl hct (fun r5 h6 hp => ?_)
    obtain ⟨r5, rfl, hp⟩ := hp
    have H := H r5 h6 hp
    show WV _ _ _ _ 31 [jR 17, jI x1, jI x2] [jI r5] h6
    refine s_aload_n (pc := 31) dX2_cross_31 rfl ?_
    refine s_iload_n (pc := 32) dX2_cross_32 rfl ?_
    refine s_aload_n (pc := 33) dX2_cross_33 rfl ?_
    refine s_getr (pc := 34) dX2_cross_34 fl_X2_9 cSx_17 rfl ?_
    refine s_aload_n (pc := 37) dX2_cross_37 rfl ?_
    refine s_getr (pc := 38) dX2_cross_38 fl_X2_24 cSx_17 rfl ?_
    refine s_getr (pc := 41) dX2_cross_41 fl_X2_53 cSx_2 rfl ?_
    refine s_iload_n (pc := 44) dX2_cross_44 rfl ?_
    refine s_iald (pc := 45) (x := h6.1 6 (Int.toNat x2)) dX2_cross_45 cSx_6 k3 rfl ?_
    obtain ⟨k7, H⟩ := H
    refine s_iald (pc := 46) (x := h6.1 18 (Int.toNat (h6.1 6 (Int.toNat x2)))) dX2_cross_46 cSx_18 k7 rfl ?_
    obtain ⟨post, hct, H⟩ := H
    refine s_callV (pc := 47) (as := [jI x1, jI (h6.1 18 (Int.toNat (h6.1 6 (Int.toNat x2))))]) (st := [jI r5]) (by exact dX2_cross_47) mv_X2_92 ⟨rfl, rfl, Nat.le_of_ble_eq_true rfl, Nat.le_of_ble_eq_true rfl⟩ cSx_17 rfl rfl (Nat.le_of_ble_eq_true rfl) _ rfl hct (fun r8 h9 hp => ?_)
    obtain ⟨r8, rfl, hp⟩ := hp
    have H := H r8 h9 hp
    show WV _ _ _ _ 50 [jR 17, jI x1, jI x2] [jI r8, jI r5] h9
    refine s_icmp_eq (pc := 50) (tgt := 57) dX2_cross_50 (by decide) (fun hc => ?_) (fun hc => ?_)
    · have H := H.1 hc
      refine s_iconst (pc := 57) dX2_cross_57 (j_cst rfl) ?_
      exact s_zret dX2_cross_58 rfl (Or.inl rfl) H
    · have H := H.2 hc
      refine s_iconst (pc := 53) dX2_cross_53 (j_cst rfl) ?_
      refine s_goto (pc := 54) (tgt := 58) dX2_cross_54 (by decide) ?_
      exact s_zret dX2_cross_58 rfl (Or.inr rfl) H
theorem en_X2_crossedBy_17 {x1 : Int} {h : jH} {post : jQ} (k : ∀ G, WV Sx G M_X2_crossedBy post 0 [jR 17, jI x1, jU, jU] [] h) : CT Sx M_X2_crossedBy [jR 17, jI x1] h post := CT.of (by decide +kernel) (by simp [j_un]) (Nat.le_of_ble_eq_true rfl) _ rfl k
set_option maxRecDepth 20000 in
theorem vc_X2_crossedBy_17_0 {G : jG} {Q : jQ} {x1 : Int} {h : jH}
    (H : WV Sx G M_X2_crossedBy Q 4 [jR 17, jI x1, jI 0, jI 0] [] h) :
    WV Sx G M_X2_crossedBy Q 0 [jR 17, jI x1, jU, jU] [] h := by
  refine s_iconst (pc := 0) dX2_crossedBy_0 (j_cst rfl) ?_
  refine s_istore_n (pc := 1) (lv' := [jR 17, jI x1, jI 0, jU]) dX2_crossedBy_1 (by decide) rfl ?_
  refine s_iconst (pc := 2) dX2_crossedBy_2 (j_cst rfl) ?_
  refine s_istore_n (pc := 3) (lv' := [jR 17, jI x1, jI 0, jI 0]) dX2_crossedBy_3 (by decide) rfl ?_
  exact H
set_option maxRecDepth 20000 in
theorem vc_X2_crossedBy_17_4 {G : jG} {Q : jQ} {x1 x2 x3 : Int} {h : jH}
    (H : ((h.1 2 2) ≤ x3 → Q (some (jI x2)) h) ∧ (¬ (h.1 2 2) ≤ x3 → (0 ≤ x3 ∧ x3 < 7) ∧ (((h.1 19 (Int.toNat x3)) = 2 → ∃ post : Int → jH → Prop, CT Sx M_X2_cross [jR 17, jI x1, jI x3] h (jPi post) ∧ ∀ (r3 : Int) (h4 : jH), post r3 h4 → ((r3 = 0 → (j_rg (x3 + 1)) ∧ (WV Sx G M_X2_crossedBy Q 4 [jR 17, jI x1, jI x2, jI (x3 + 1)] [] h4)) ∧ (¬ r3 = 0 → (j_rg (x3 + 1)) ∧ (WV Sx G M_X2_crossedBy Q 4 [jR 17, jI x1, jI (b_or x2 (b_shl 1 x3)), jI (x3 + 1)] [] h4)))) ∧ (¬ (h.1 19 (Int.toNat x3)) = 2 → (j_rg (x3 + 1)) ∧ (WV Sx G M_X2_crossedBy Q 4 [jR 17, jI x1, jI x2, jI (x3 + 1)] [] h))))) :
    WV Sx G M_X2_crossedBy Q 4 [jR 17, jI x1, jI x2, jI x3] [] h := by
  refine s_iload_n (pc := 4) dX2_crossedBy_4 rfl ?_
  refine s_aload_n (pc := 5) dX2_crossedBy_5 rfl ?_
  refine s_getr (pc := 6) dX2_crossedBy_6 fl_X2_24 cSx_17 rfl ?_
  refine s_geti (pc := 9) (x := h.1 2 2) dX2_crossedBy_9 fl_X2_44 cSx_2 rfl rfl ?_
  refine s_icmp_ge (pc := 12) (tgt := 46) dX2_crossedBy_12 (by decide) (fun hc => ?_) (fun hc => ?_)
  · have H := H.1 hc
    refine s_iload_n (pc := 46) dX2_crossedBy_46 rfl ?_
    exact s_iret dX2_crossedBy_47 rfl H
  · have H := H.2 hc
    refine s_aload_n (pc := 15) dX2_crossedBy_15 rfl ?_
    refine s_getr (pc := 16) dX2_crossedBy_16 fl_X2_15 cSx_17 rfl ?_
    refine s_iload_n (pc := 19) dX2_crossedBy_19 rfl ?_
    obtain ⟨k1, H⟩ := H
    refine s_iald (pc := 20) (x := h.1 19 (Int.toNat x3)) dX2_crossedBy_20 cSx_19 k1 rfl ?_
    refine s_iconst (pc := 21) dX2_crossedBy_21 (j_cst rfl) ?_
    refine s_icmp_ne (pc := 22) (tgt := 40) dX2_crossedBy_22 (by decide) (fun hc => ?_) (fun hc => ?_)
    · have H := H.2 hc
      obtain ⟨k2, H⟩ := H
      refine s_iinc (pc := 40) (lv' := [jR 17, jI x1, jI x2, jI (x3 + 1)]) dX2_crossedBy_40 rfl (by decide) k2 rfl ?_
      refine s_goto (pc := 43) (tgt := 4) dX2_crossedBy_43 (by decide) ?_
      exact H
    · have H := H.1 hc
      refine s_aload_n (pc := 25) dX2_crossedBy_25 rfl ?_
      refine s_iload_n (pc := 26) dX2_crossedBy_26 rfl ?_
      refine s_iload_n (pc := 27) dX2_crossedBy_27 rfl ?_
      obtain ⟨post, hct, H⟩ := H
      refine s_callV (pc := 28) (as := [jI x1, jI x3]) (st := []) (by exact dX2_crossedBy_28) mv_X2_104 ⟨rfl, rfl, Nat.le_of_ble_eq_true rfl, Nat.le_of_ble_eq_true rfl⟩ cSx_17 rfl rfl (Nat.le_of_ble_eq_true rfl) _ rfl hct (fun r3 h4 hp => ?_)
      obtain ⟨r3, rfl, hp⟩ := hp
      have H := H r3 h4 hp
      show WV _ _ _ _ 31 [jR 17, jI x1, jI x2, jI x3] [jI r3] h4
      refine s_if_eq (pc := 31) (tgt := 40) dX2_crossedBy_31 (by decide) (fun hc => ?_) (fun hc => ?_)
      · have H := H.1 hc
        obtain ⟨k5, H⟩ := H
        refine s_iinc (pc := 40) (lv' := [jR 17, jI x1, jI x2, jI (x3 + 1)]) dX2_crossedBy_40 rfl (by decide) k5 rfl ?_
        refine s_goto (pc := 43) (tgt := 4) dX2_crossedBy_43 (by decide) ?_
        exact H
      · have H := H.2 hc
        refine s_iload_n (pc := 34) dX2_crossedBy_34 rfl ?_
        refine s_iconst (pc := 35) dX2_crossedBy_35 (j_cst rfl) ?_
        refine s_iload_n (pc := 36) dX2_crossedBy_36 rfl ?_
        refine s_ishl (pc := 37) dX2_crossedBy_37 ?_
        refine s_ior (pc := 38) dX2_crossedBy_38 ?_
        refine s_istore_n (pc := 39) (lv' := [jR 17, jI x1, jI (b_or x2 (b_shl 1 x3)), jI x3]) dX2_crossedBy_39 (by decide) rfl ?_
        obtain ⟨k6, H⟩ := H
        refine s_iinc (pc := 40) (lv' := [jR 17, jI x1, jI (b_or x2 (b_shl 1 x3)), jI (x3 + 1)]) dX2_crossedBy_40 rfl (by decide) k6 rfl ?_
        refine s_goto (pc := 43) (tgt := 4) dX2_crossedBy_43 (by decide) ?_
        exact H
theorem en_X2_crossings_17 {h : jH} {post : jQ} (k : ∀ G, WV Sx G M_X2_crossings post 0 [jR 17, jU, jU] [] h) : CT Sx M_X2_crossings [jR 17] h post := CT.of (by decide +kernel) (by simp [j_un]) (Nat.le_of_ble_eq_true rfl) _ rfl k
set_option maxRecDepth 20000 in
theorem vc_X2_crossings_17_0 {G : jG} {Q : jQ} {h : jH}
    (H : WV Sx G M_X2_crossings Q 4 [jR 17, jI 0, jI 0] [] h) :
    WV Sx G M_X2_crossings Q 0 [jR 17, jU, jU] [] h := by
  refine s_iconst (pc := 0) dX2_crossings_0 (j_cst rfl) ?_
  refine s_istore_n (pc := 1) (lv' := [jR 17, jI 0, jU]) dX2_crossings_1 (by decide) rfl ?_
  refine s_iconst (pc := 2) dX2_crossings_2 (j_cst rfl) ?_
  refine s_istore_n (pc := 3) (lv' := [jR 17, jI 0, jI 0]) dX2_crossings_3 (by decide) rfl ?_
  exact H
set_option maxRecDepth 20000 in
theorem vc_X2_crossings_17_4 {G : jG} {Q : jQ} {x1 x2 : Int} {h : jH}
    (H : ((h.1 2 2) ≤ x2 → Q (some (jI (Int.tdiv x1 2))) h) ∧ (¬ (h.1 2 2) ≤ x2 → (0 ≤ x2 ∧ x2 < 7) ∧ (((h.1 19 (Int.toNat x2)) = 2 → ∃ post : Int → jH → Prop, CT Sx M_X2_crossedBy [jR 17, jI x2] h (jPi post) ∧ ∀ (r3 : Int) (h4 : jH), post r3 h4 → (∃ post : Int → jH → Prop, CT Sx M_J6_bitCount_0f7a4 [jI r3] h4 (jPi post) ∧ ∀ (r5 : Int) (h6 : jH), post r5 h6 → ((j_rg (x1 + r5)) ∧ ((j_rg (x2 + 1)) ∧ (WV Sx G M_X2_crossings Q 4 [jR 17, jI (x1 + r5), jI (x2 + 1)] [] h6))))) ∧ (¬ (h.1 19 (Int.toNat x2)) = 2 → (j_rg (x2 + 1)) ∧ (WV Sx G M_X2_crossings Q 4 [jR 17, jI x1, jI (x2 + 1)] [] h))))) :
    WV Sx G M_X2_crossings Q 4 [jR 17, jI x1, jI x2] [] h := by
  refine s_iload_n (pc := 4) dX2_crossings_4 rfl ?_
  refine s_aload_n (pc := 5) dX2_crossings_5 rfl ?_
  refine s_getr (pc := 6) dX2_crossings_6 fl_X2_24 cSx_17 rfl ?_
  refine s_geti (pc := 9) (x := h.1 2 2) dX2_crossings_9 fl_X2_44 cSx_2 rfl rfl ?_
  refine s_icmp_ge (pc := 12) (tgt := 42) dX2_crossings_12 (by decide) (fun hc => ?_) (fun hc => ?_)
  · have H := H.1 hc
    refine s_iload_n (pc := 42) dX2_crossings_42 rfl ?_
    refine s_iconst (pc := 43) dX2_crossings_43 (j_cst rfl) ?_
    refine s_idiv (pc := 44) dX2_crossings_44 (by decide) ?_
    exact s_iret dX2_crossings_45 rfl H
  · have H := H.2 hc
    refine s_aload_n (pc := 15) dX2_crossings_15 rfl ?_
    refine s_getr (pc := 16) dX2_crossings_16 fl_X2_15 cSx_17 rfl ?_
    refine s_iload_n (pc := 19) dX2_crossings_19 rfl ?_
    obtain ⟨k1, H⟩ := H
    refine s_iald (pc := 20) (x := h.1 19 (Int.toNat x2)) dX2_crossings_20 cSx_19 k1 rfl ?_
    refine s_iconst (pc := 21) dX2_crossings_21 (j_cst rfl) ?_
    refine s_icmp_ne (pc := 22) (tgt := 36) dX2_crossings_22 (by decide) (fun hc => ?_) (fun hc => ?_)
    · have H := H.2 hc
      obtain ⟨k2, H⟩ := H
      refine s_iinc (pc := 36) (lv' := [jR 17, jI x1, jI (x2 + 1)]) dX2_crossings_36 rfl (by decide) k2 rfl ?_
      refine s_goto (pc := 39) (tgt := 4) dX2_crossings_39 (by decide) ?_
      exact H
    · have H := H.1 hc
      refine s_iload_n (pc := 25) dX2_crossings_25 rfl ?_
      refine s_aload_n (pc := 26) dX2_crossings_26 rfl ?_
      refine s_iload_n (pc := 27) dX2_crossings_27 rfl ?_
      obtain ⟨post, hct, H⟩ := H
      refine s_callV (pc := 28) (as := [jI x2]) (st := [jI x1]) (by exact dX2_crossings_28) mv_X2_107 ⟨rfl, rfl, Nat.le_of_ble_eq_true rfl, Nat.le_of_ble_eq_true rfl⟩ cSx_17 rfl rfl (Nat.le_of_ble_eq_true rfl) _ rfl hct (fun r3 h4 hp => ?_)
      obtain ⟨r3, rfl, hp⟩ := hp
      have H := H r3 h4 hp
      show WV _ _ _ _ 31 [jR 17, jI x1, jI x2] [jI r3, jI x1] h4
      obtain ⟨post, hct, H⟩ := H
      refine s_callS (pc := 31) (as := [jI r3]) (st := [jI x1]) (by exact dX2_crossings_31) ms_X2_60 ⟨rfl, rfl, Nat.le_of_ble_eq_true rfl, Nat.le_of_ble_eq_true rfl⟩ (Nat.le_of_ble_eq_true rfl) _ rfl hct (fun r5 h6 hp => ?_)
      obtain ⟨r5, rfl, hp⟩ := hp
      have H := H r5 h6 hp
      show WV _ _ _ _ 34 [jR 17, jI x1, jI x2] [jI r5, jI x1] h6
      obtain ⟨k7, H⟩ := H
      refine s_iadd (pc := 34) dX2_crossings_34 k7 ?_
      refine s_istore_n (pc := 35) (lv' := [jR 17, jI (x1 + r5), jI x2]) dX2_crossings_35 (by decide) rfl ?_
      obtain ⟨k8, H⟩ := H
      refine s_iinc (pc := 36) (lv' := [jR 17, jI (x1 + r5), jI (x2 + 1)]) dX2_crossings_36 rfl (by decide) k8 rfl ?_
      refine s_goto (pc := 39) (tgt := 4) dX2_crossings_39 (by decide) ?_
      exact H
theorem en_X2_those_17 {x1 : Int} {h : jH} {post : jQ} (k : ∀ G, WV Sx G M_X2_those post 0 [jR 17, jI x1, jU, jU] [] h) : CT Sx M_X2_those [jR 17, jI x1] h post := CT.of (by decide +kernel) (by simp [j_un]) (Nat.le_of_ble_eq_true rfl) _ rfl k
set_option maxRecDepth 20000 in
theorem vc_X2_those_17_0 {G : jG} {Q : jQ} {x1 : Int} {h : jH}
    (H : WV Sx G M_X2_those Q 4 [jR 17, jI x1, jI 0, jI 0] [] h) :
    WV Sx G M_X2_those Q 0 [jR 17, jI x1, jU, jU] [] h := by
  refine s_iconst (pc := 0) dX2_those_0 (j_cst rfl) ?_
  refine s_istore_n (pc := 1) (lv' := [jR 17, jI x1, jI 0, jU]) dX2_those_1 (by decide) rfl ?_
  refine s_iconst (pc := 2) dX2_those_2 (j_cst rfl) ?_
  refine s_istore_n (pc := 3) (lv' := [jR 17, jI x1, jI 0, jI 0]) dX2_those_3 (by decide) rfl ?_
  exact H
set_option maxRecDepth 20000 in
theorem vc_X2_those_17_4 {G : jG} {Q : jQ} {x1 x2 x3 : Int} {h : jH}
    (H : ((h.1 2 2) ≤ x3 → Q (some (jI x2)) h) ∧ (¬ (h.1 2 2) ≤ x3 → (0 ≤ x3 ∧ x3 < 7) ∧ (((h.1 19 (Int.toNat x3)) = x1 → (j_rg (x3 + 1)) ∧ (WV Sx G M_X2_those Q 4 [jR 17, jI x1, jI (b_or x2 (b_shl 1 x3)), jI (x3 + 1)] [] h)) ∧ (¬ (h.1 19 (Int.toNat x3)) = x1 → (j_rg (x3 + 1)) ∧ (WV Sx G M_X2_those Q 4 [jR 17, jI x1, jI x2, jI (x3 + 1)] [] h))))) :
    WV Sx G M_X2_those Q 4 [jR 17, jI x1, jI x2, jI x3] [] h := by
  refine s_iload_n (pc := 4) dX2_those_4 rfl ?_
  refine s_aload_n (pc := 5) dX2_those_5 rfl ?_
  refine s_getr (pc := 6) dX2_those_6 fl_X2_24 cSx_17 rfl ?_
  refine s_geti (pc := 9) (x := h.1 2 2) dX2_those_9 fl_X2_44 cSx_2 rfl rfl ?_
  refine s_icmp_ge (pc := 12) (tgt := 37) dX2_those_12 (by decide) (fun hc => ?_) (fun hc => ?_)
  · have H := H.1 hc
    refine s_iload_n (pc := 37) dX2_those_37 rfl ?_
    exact s_iret dX2_those_38 rfl H
  · have H := H.2 hc
    refine s_aload_n (pc := 15) dX2_those_15 rfl ?_
    refine s_getr (pc := 16) dX2_those_16 fl_X2_15 cSx_17 rfl ?_
    refine s_iload_n (pc := 19) dX2_those_19 rfl ?_
    obtain ⟨k1, H⟩ := H
    refine s_iald (pc := 20) (x := h.1 19 (Int.toNat x3)) dX2_those_20 cSx_19 k1 rfl ?_
    refine s_iload_n (pc := 21) dX2_those_21 rfl ?_
    refine s_icmp_ne (pc := 22) (tgt := 31) dX2_those_22 (by decide) (fun hc => ?_) (fun hc => ?_)
    · have H := H.2 hc
      obtain ⟨k2, H⟩ := H
      refine s_iinc (pc := 31) (lv' := [jR 17, jI x1, jI x2, jI (x3 + 1)]) dX2_those_31 rfl (by decide) k2 rfl ?_
      refine s_goto (pc := 34) (tgt := 4) dX2_those_34 (by decide) ?_
      exact H
    · have H := H.1 hc
      refine s_iload_n (pc := 25) dX2_those_25 rfl ?_
      refine s_iconst (pc := 26) dX2_those_26 (j_cst rfl) ?_
      refine s_iload_n (pc := 27) dX2_those_27 rfl ?_
      refine s_ishl (pc := 28) dX2_those_28 ?_
      refine s_ior (pc := 29) dX2_those_29 ?_
      refine s_istore_n (pc := 30) (lv' := [jR 17, jI x1, jI (b_or x2 (b_shl 1 x3)), jI x3]) dX2_those_30 (by decide) rfl ?_
      obtain ⟨k3, H⟩ := H
      refine s_iinc (pc := 31) (lv' := [jR 17, jI x1, jI (b_or x2 (b_shl 1 x3)), jI (x3 + 1)]) dX2_those_31 rfl (by decide) k3 rfl ?_
      refine s_goto (pc := 34) (tgt := 4) dX2_those_34 (by decide) ?_
      exact H
theorem en_X7_freeCords_0 {h : jH} {post : jQ} (k : ∀ G, WV Sx G M_X7_freeCords post 0 [jR 0] [] h) : CT Sx M_X7_freeCords [jR 0] h post := CT.of (by decide +kernel) (by simp [j_un]) (Nat.le_of_ble_eq_true rfl) _ rfl k
set_option maxRecDepth 20000 in
theorem vc_X7_freeCords_0_0 {G : jG} {Q : jQ} {h : jH}
    (H : ∃ post : Int → jH → Prop, CT Sx M_X2_those [jR 17, jI 2] h (jPi post) ∧ ∀ (r1 : Int) (h2 : jH), post r1 h2 → (∃ post : Int → jH → Prop, CT Sx M_J6_bitCount_0f7a4 [jI r1] h2 (jPi post) ∧ ∀ (r3 : Int) (h4 : jH), post r3 h4 → ((j_rg ((h.1 2 1) - r3)) ∧ (Q (some (jI ((h.1 2 1) - r3))) h4)))) :
    WV Sx G M_X7_freeCords Q 0 [jR 0] [] h := by
  refine s_aload_n (pc := 0) dX7_freeCords_0 rfl ?_
  refine s_getr (pc := 1) dX7_freeCords_1 fl_X7_16 cSx_0 rfl ?_
  refine s_geti (pc := 4) (x := h.1 2 1) dX7_freeCords_4 fl_X7_150 cSx_2 rfl rfl ?_
  refine s_aload_n (pc := 7) dX7_freeCords_7 rfl ?_
  refine s_getr (pc := 8) dX7_freeCords_8 fl_X7_34 cSx_0 rfl ?_
  refine s_iconst (pc := 11) dX7_freeCords_11 (j_cst rfl) ?_
  obtain ⟨post, hct, H⟩ := H
  refine s_callV (pc := 12) (as := [jI 2]) (st := [jI (h.1 2 1)]) (by exact dX7_freeCords_12) mv_X7_137 ⟨rfl, rfl, Nat.le_of_ble_eq_true rfl, Nat.le_of_ble_eq_true rfl⟩ cSx_17 rfl rfl (Nat.le_of_ble_eq_true rfl) _ rfl hct (fun r1 h2 hp => ?_)
  obtain ⟨r1, rfl, hp⟩ := hp
  have H := H r1 h2 hp
  show WV _ _ _ _ 15 [jR 0] [jI r1, jI (h.1 2 1)] h2
  obtain ⟨post, hct, H⟩ := H
  refine s_callS (pc := 15) (as := [jI r1]) (st := [jI (h.1 2 1)]) (by exact dX7_freeCords_15) ms_X7_153 ⟨rfl, rfl, Nat.le_of_ble_eq_true rfl, Nat.le_of_ble_eq_true rfl⟩ (Nat.le_of_ble_eq_true rfl) _ rfl hct (fun r3 h4 hp => ?_)
  obtain ⟨r3, rfl, hp⟩ := hp
  have H := H r3 h4 hp
  show WV _ _ _ _ 18 [jR 0] [jI r3, jI (h.1 2 1)] h4
  obtain ⟨k5, H⟩ := H
  refine s_isub (pc := 18) dX7_freeCords_18 k5 ?_
  exact s_iret dX7_freeCords_19 rfl H
theorem en_X7_now_0 {x1 : Int} {h : jH} {post : jQ} (k : ∀ G, WV Sx G M_X7_now post 0 [jR 0, jI x1] [] h) : CT Sx M_X7_now [jR 0, jI x1] h post := CT.of (by decide +kernel) (by simp [j_un]) (Nat.le_of_ble_eq_true rfl) _ rfl k
set_option maxRecDepth 20000 in
theorem vc_X7_now_0_0 {G : jG} {Q : jQ} {x1 : Int} {h : jH}
    (H : (x1 = 0 → Q (some (jI (h.1 17 1))) h) ∧ (x1 = 1 → ∃ post : Int → jH → Prop, CT Sx M_X2_those [jR 17, jI 1] h (jPi post) ∧ ∀ (r1 : Int) (h2 : jH), post r1 h2 → (Q (some (jI r1)) h2)) ∧ (x1 = 2 → ∃ post : Int → jH → Prop, CT Sx M_X2_those [jR 17, jI 2] h (jPi post) ∧ ∀ (r3 : Int) (h4 : jH), post r3 h4 → (Q (some (jI r3)) h4)) ∧ (x1 = 3 → ∃ post : Int → jH → Prop, CT Sx M_X7_freeCords [jR 0] h (jPi post) ∧ ∀ (r5 : Int) (h6 : jH), post r5 h6 → (Q (some (jI r5)) h6)) ∧ (x1 = 4 → ∃ post : Int → jH → Prop, CT Sx M_X2_crossings [jR 17] h (jPi post) ∧ ∀ (r7 : Int) (h8 : jH), post r7 h8 → (Q (some (jI r7)) h8)) ∧ (x1 = 5 → Q (some (jI (h.1 22 2))) h) ∧ (x1 < 0 ∨ 5 < x1 → Q (some (jI (-1))) h)) :
    WV Sx G M_X7_now Q 0 [jR 0, jI x1] [] h := by
  refine s_iload_n (pc := 0) dX7_now_0 rfl ?_
  refine s_table (pc := 1) dX7_now_1 (fun i => ([40, 48, 57, 66, 71, 79] : List Nat).getD i 0) 87 (by decide) (by decide) (by decide) (fun i hi hx => ?_) (fun hc => ?_)
  · rcases (show i = 0 ∨ i = 1 ∨ i = 2 ∨ i = 3 ∨ i = 4 ∨ i = 5 by have hi : i < 6 := hi; omega) with rfl | rfl | rfl | rfl | rfl | rfl
    · have H := H.1 (by simpa using hx)
      refine s_aload_n (pc := 40) dX7_now_40 rfl ?_
      refine s_getr (pc := 41) dX7_now_41 fl_X7_34 cSx_0 rfl ?_
      refine s_geti (pc := 44) (x := h.1 17 1) dX7_now_44 fl_X7_134 cSx_17 rfl rfl ?_
      exact s_iret dX7_now_47 rfl H
    · have H := H.2.1 (by simpa using hx)
      refine s_aload_n (pc := 48) dX7_now_48 rfl ?_
      refine s_getr (pc := 49) dX7_now_49 fl_X7_34 cSx_0 rfl ?_
      refine s_iconst (pc := 52) dX7_now_52 (j_cst rfl) ?_
      obtain ⟨post, hct, H⟩ := H
      refine s_callV (pc := 53) (as := [jI 1]) (st := []) (by exact dX7_now_53) mv_X7_137 ⟨rfl, rfl, Nat.le_of_ble_eq_true rfl, Nat.le_of_ble_eq_true rfl⟩ cSx_17 rfl rfl (Nat.le_of_ble_eq_true rfl) _ rfl hct (fun r1 h2 hp => ?_)
      obtain ⟨r1, rfl, hp⟩ := hp
      have H := H r1 h2 hp
      show WV _ _ _ _ 56 [jR 0, jI x1] [jI r1] h2
      exact s_iret dX7_now_56 rfl H
    · have H := H.2.2.1 (by simpa using hx)
      refine s_aload_n (pc := 57) dX7_now_57 rfl ?_
      refine s_getr (pc := 58) dX7_now_58 fl_X7_34 cSx_0 rfl ?_
      refine s_iconst (pc := 61) dX7_now_61 (j_cst rfl) ?_
      obtain ⟨post, hct, H⟩ := H
      refine s_callV (pc := 62) (as := [jI 2]) (st := []) (by exact dX7_now_62) mv_X7_137 ⟨rfl, rfl, Nat.le_of_ble_eq_true rfl, Nat.le_of_ble_eq_true rfl⟩ cSx_17 rfl rfl (Nat.le_of_ble_eq_true rfl) _ rfl hct (fun r3 h4 hp => ?_)
      obtain ⟨r3, rfl, hp⟩ := hp
      have H := H r3 h4 hp
      show WV _ _ _ _ 65 [jR 0, jI x1] [jI r3] h4
      exact s_iret dX7_now_65 rfl H
    · have H := H.2.2.2.1 (by simpa using hx)
      refine s_aload_n (pc := 66) dX7_now_66 rfl ?_
      obtain ⟨post, hct, H⟩ := H
      refine s_callV (pc := 67) (as := []) (st := []) (by exact dX7_now_67) mv_X7_140 ⟨rfl, rfl, Nat.le_of_ble_eq_true rfl, Nat.le_of_ble_eq_true rfl⟩ cSx_0 rfl rfl (Nat.le_of_ble_eq_true rfl) _ rfl hct (fun r5 h6 hp => ?_)
      obtain ⟨r5, rfl, hp⟩ := hp
      have H := H r5 h6 hp
      show WV _ _ _ _ 70 [jR 0, jI x1] [jI r5] h6
      exact s_iret dX7_now_70 rfl H
    · have H := H.2.2.2.2.1 (by simpa using hx)
      refine s_aload_n (pc := 71) dX7_now_71 rfl ?_
      refine s_getr (pc := 72) dX7_now_72 fl_X7_34 cSx_0 rfl ?_
      obtain ⟨post, hct, H⟩ := H
      refine s_callV (pc := 75) (as := []) (st := []) (by exact dX7_now_75) mv_X7_144 ⟨rfl, rfl, Nat.le_of_ble_eq_true rfl, Nat.le_of_ble_eq_true rfl⟩ cSx_17 rfl rfl (Nat.le_of_ble_eq_true rfl) _ rfl hct (fun r7 h8 hp => ?_)
      obtain ⟨r7, rfl, hp⟩ := hp
      have H := H r7 h8 hp
      show WV _ _ _ _ 78 [jR 0, jI x1] [jI r7] h8
      exact s_iret dX7_now_78 rfl H
    · have H := H.2.2.2.2.2.1 (by simpa using hx)
      refine s_aload_n (pc := 79) dX7_now_79 rfl ?_
      refine s_getr (pc := 80) dX7_now_80 fl_X7_41 cSx_0 rfl ?_
      refine s_geti (pc := 83) (x := h.1 22 2) dX7_now_83 fl_X7_147 cSx_22 rfl rfl ?_
      exact s_iret dX7_now_86 rfl H
  · have H := H.2.2.2.2.2.2 hc
    refine s_iconst (pc := 87) dX7_now_87 (j_cst rfl) ?_
    exact s_iret dX7_now_88 rfl H
theorem en_X2_passMinute_17 {h : jH} {post : jQ} (k : ∀ G, WV Sx G M_X2_passMinute post 0 [jR 17, jU] [] h) : CT Sx M_X2_passMinute [jR 17] h post := CT.of (by decide +kernel) (by simp [j_un]) (Nat.le_of_ble_eq_true rfl) _ rfl k
set_option maxRecDepth 20000 in
theorem vc_X2_passMinute_17_0 {G : jG} {Q : jQ} {h : jH}
    (H : WV Sx G M_X2_passMinute Q 2 [jR 17, jI 0] [] h) :
    WV Sx G M_X2_passMinute Q 0 [jR 17, jU] [] h := by
  refine s_iconst (pc := 0) dX2_passMinute_0 (j_cst rfl) ?_
  refine s_istore_n (pc := 1) (lv' := [jR 17, jI 0]) dX2_passMinute_1 (by decide) rfl ?_
  exact H
set_option maxRecDepth 20000 in
theorem vc_X2_passMinute_17_2 {G : jG} {Q : jQ} {x1 : Int} {h : jH}
    (H : ((h.1 2 2) ≤ x1 → (j_rg ((h.1 17 1) + 1)) ∧ (∃ post : jH → Prop, CT Sx M_X2_letFall [jR 17] (j_up h 17 1 ((h.1 17 1) + 1)) (jPv post) ∧ ∀ (h3 : jH), post h3 → (Q none h3))) ∧ (¬ (h.1 2 2) ≤ x1 → (0 ≤ x1 ∧ x1 < 7) ∧ (((h.1 19 (Int.toNat x1)) = 2 → (j_rg ((h.1 20 (Int.toNat x1)) - 1)) ∧ ((0 < ((h.1 20 (Int.toNat x1)) - 1) → (j_rg (x1 + 1)) ∧ (WV Sx G M_X2_passMinute Q 2 [jR 17, jI (x1 + 1)] [] (j_up h 20 (Int.toNat x1) ((h.1 20 (Int.toNat x1)) - 1)))) ∧ (¬ 0 < ((h.1 20 (Int.toNat x1)) - 1) → (j_rg (x1 + 1)) ∧ (WV Sx G M_X2_passMinute Q 2 [jR 17, jI (x1 + 1)] [] (j_up (j_up h 20 (Int.toNat x1) ((h.1 20 (Int.toNat x1)) - 1)) 19 (Int.toNat x1) 3))))) ∧ (¬ (h.1 19 (Int.toNat x1)) = 2 → ((h.1 19 (Int.toNat x1)) = 1 → (j_rg ((h.1 21 (Int.toNat x1)) + 1)) ∧ ((j_rg (x1 + 1)) ∧ (WV Sx G M_X2_passMinute Q 2 [jR 17, jI (x1 + 1)] [] (j_up h 21 (Int.toNat x1) ((h.1 21 (Int.toNat x1)) + 1))))) ∧ (¬ (h.1 19 (Int.toNat x1)) = 1 → (j_rg (x1 + 1)) ∧ (WV Sx G M_X2_passMinute Q 2 [jR 17, jI (x1 + 1)] [] h)))))) :
    WV Sx G M_X2_passMinute Q 2 [jR 17, jI x1] [] h := by
  refine s_iload_n (pc := 2) dX2_passMinute_2 rfl ?_
  refine s_aload_n (pc := 3) dX2_passMinute_3 rfl ?_
  refine s_getr (pc := 4) dX2_passMinute_4 fl_X2_24 cSx_17 rfl ?_
  refine s_geti (pc := 7) (x := h.1 2 2) dX2_passMinute_7 fl_X2_44 cSx_2 rfl rfl ?_
  refine s_icmp_ge (pc := 10) (tgt := 78) dX2_passMinute_10 (by decide) (fun hc => ?_) (fun hc => ?_)
  · have H := H.1 hc
    refine s_aload_n (pc := 78) dX2_passMinute_78 rfl ?_
    refine s_dup (pc := 79) dX2_passMinute_79 rfl ?_
    refine s_geti (pc := 80) (x := h.1 17 1) dX2_passMinute_80 fl_X2_28 cSx_17 rfl rfl ?_
    refine s_iconst (pc := 83) dX2_passMinute_83 (j_cst rfl) ?_
    obtain ⟨k1, H⟩ := H
    refine s_iadd (pc := 84) dX2_passMinute_84 k1 ?_
    refine s_puti (pc := 85) dX2_passMinute_85 fp_X2_28 cSx_17 rfl ?_
    refine s_aload_n (pc := 88) dX2_passMinute_88 rfl ?_
    obtain ⟨post, hct, H⟩ := H
    refine s_callV (pc := 89) (as := []) (st := []) (by exact dX2_passMinute_89) mv_X2_41 ⟨rfl, rfl, Nat.le_of_ble_eq_true rfl, Nat.le_of_ble_eq_true rfl⟩ cSx_17 rfl rfl (Nat.le_of_ble_eq_true rfl) _ rfl hct (fun r2 h3 hp => ?_)
    obtain ⟨rfl, hp⟩ := hp
    have H := H h3 hp
    show WV _ _ _ _ 92 [jR 17, jI x1] [] h3
    exact s_vret dX2_passMinute_92 rfl H
  · have H := H.2 hc
    refine s_aload_n (pc := 13) dX2_passMinute_13 rfl ?_
    refine s_getr (pc := 14) dX2_passMinute_14 fl_X2_15 cSx_17 rfl ?_
    refine s_iload_n (pc := 17) dX2_passMinute_17 rfl ?_
    obtain ⟨k4, H⟩ := H
    refine s_iald (pc := 18) (x := h.1 19 (Int.toNat x1)) dX2_passMinute_18 cSx_19 k4 rfl ?_
    refine s_iconst (pc := 19) dX2_passMinute_19 (j_cst rfl) ?_
    refine s_icmp_ne (pc := 20) (tgt := 52) dX2_passMinute_20 (by decide) (fun hc => ?_) (fun hc => ?_)
    · have H := H.2 hc
      refine s_aload_n (pc := 52) dX2_passMinute_52 rfl ?_
      refine s_getr (pc := 53) dX2_passMinute_53 fl_X2_15 cSx_17 rfl ?_
      refine s_iload_n (pc := 56) dX2_passMinute_56 rfl ?_
      refine s_iald (pc := 57) (x := h.1 19 (Int.toNat x1)) dX2_passMinute_57 cSx_19 k4 rfl ?_
      refine s_iconst (pc := 58) dX2_passMinute_58 (j_cst rfl) ?_
      refine s_icmp_ne (pc := 59) (tgt := 72) dX2_passMinute_59 (by decide) (fun hc => ?_) (fun hc => ?_)
      · have H := H.2 hc
        obtain ⟨k5, H⟩ := H
        refine s_iinc (pc := 72) (lv' := [jR 17, jI (x1 + 1)]) dX2_passMinute_72 rfl (by decide) k5 rfl ?_
        refine s_goto (pc := 75) (tgt := 2) dX2_passMinute_75 (by decide) ?_
        exact H
      · have H := H.1 hc
        refine s_aload_n (pc := 62) dX2_passMinute_62 rfl ?_
        refine s_getr (pc := 63) dX2_passMinute_63 fl_X2_21 cSx_17 rfl ?_
        refine s_iload_n (pc := 66) dX2_passMinute_66 rfl ?_
        refine s_dup2 (pc := 67) dX2_passMinute_67 rfl rfl ?_
        refine s_iald (pc := 68) (x := h.1 21 (Int.toNat x1)) dX2_passMinute_68 cSx_21 k4 rfl ?_
        refine s_iconst (pc := 69) dX2_passMinute_69 (j_cst rfl) ?_
        obtain ⟨k6, H⟩ := H
        refine s_iadd (pc := 70) dX2_passMinute_70 k6 ?_
        refine s_iast (pc := 71) dX2_passMinute_71 cSx_21 k4 ?_
        obtain ⟨k7, H⟩ := H
        refine s_iinc (pc := 72) (lv' := [jR 17, jI (x1 + 1)]) dX2_passMinute_72 rfl (by decide) k7 rfl ?_
        refine s_goto (pc := 75) (tgt := 2) dX2_passMinute_75 (by decide) ?_
        exact H
    · have H := H.1 hc
      refine s_aload_n (pc := 23) dX2_passMinute_23 rfl ?_
      refine s_getr (pc := 24) dX2_passMinute_24 fl_X2_18 cSx_17 rfl ?_
      refine s_iload_n (pc := 27) dX2_passMinute_27 rfl ?_
      refine s_dup2 (pc := 28) dX2_passMinute_28 rfl rfl ?_
      refine s_iald (pc := 29) (x := h.1 20 (Int.toNat x1)) dX2_passMinute_29 cSx_20 k4 rfl ?_
      refine s_iconst (pc := 30) dX2_passMinute_30 (j_cst rfl) ?_
      obtain ⟨k8, H⟩ := H
      refine s_isub (pc := 31) dX2_passMinute_31 k8 ?_
      refine s_iast (pc := 32) dX2_passMinute_32 cSx_20 k4 ?_
      refine s_aload_n (pc := 33) dX2_passMinute_33 rfl ?_
      refine s_getr (pc := 34) dX2_passMinute_34 fl_X2_18 cSx_17 rfl ?_
      refine s_iload_n (pc := 37) dX2_passMinute_37 rfl ?_
      refine s_iald (pc := 38) (x := (h.1 20 (Int.toNat x1)) - 1) dX2_passMinute_38 cSx_20 k4 (by simp [j_up]) ?_
      refine s_if_gt (pc := 39) (tgt := 72) dX2_passMinute_39 (by decide) (fun hc => ?_) (fun hc => ?_)
      · have H := H.1 hc
        obtain ⟨k9, H⟩ := H
        refine s_iinc (pc := 72) (lv' := [jR 17, jI (x1 + 1)]) dX2_passMinute_72 rfl (by decide) k9 rfl ?_
        refine s_goto (pc := 75) (tgt := 2) dX2_passMinute_75 (by decide) ?_
        exact H
      · have H := H.2 hc
        refine s_aload_n (pc := 42) dX2_passMinute_42 rfl ?_
        refine s_getr (pc := 43) dX2_passMinute_43 fl_X2_15 cSx_17 rfl ?_
        refine s_iload_n (pc := 46) dX2_passMinute_46 rfl ?_
        refine s_iconst (pc := 47) dX2_passMinute_47 (j_cst rfl) ?_
        refine s_iast (pc := 48) dX2_passMinute_48 cSx_19 k4 ?_
        refine s_goto (pc := 49) (tgt := 72) dX2_passMinute_49 (by decide) ?_
        obtain ⟨k10, H⟩ := H
        refine s_iinc (pc := 72) (lv' := [jR 17, jI (x1 + 1)]) dX2_passMinute_72 rfl (by decide) k10 rfl ?_
        refine s_goto (pc := 75) (tgt := 2) dX2_passMinute_75 (by decide) ?_
        exact H
theorem en_X2_save_17_23 {x2 : Int} {h : jH} {post : jQ} (k : ∀ G, WV Sx G M_X2_save post 0 [jR 17, jR 23, jI x2, jU] [] h) : CT Sx M_X2_save [jR 17, jR 23, jI x2] h post := CT.of (by decide +kernel) (by simp [j_un]) (Nat.le_of_ble_eq_true rfl) _ rfl k
set_option maxRecDepth 20000 in
theorem vc_X2_save_17_23_0 {G : jG} {Q : jQ} {x2 : Int} {h : jH}
    (H : (0 ≤ x2 ∧ x2 < 280) ∧ ((j_rg (x2 + 1)) ∧ ((0 ≤ x2 + 1) ∧ (((x2 + 1) + 6 ≤ 280) ∧ ((j_rg ((x2 + 1) + 6)) ∧ ((0 ≤ (x2 + 1) + 6) ∧ ((((x2 + 1) + 6) + 7 ≤ 280) ∧ ((j_rg (((x2 + 1) + 6) + 7)) ∧ ((0 ≤ ((x2 + 1) + 6) + 7) ∧ (((((x2 + 1) + 6) + 7) + 7 ≤ 280) ∧ ((j_rg (((x2 + 1) + 6) + 14)) ∧ ((0 ≤ ((x2 + 1) + 6) + 14) ∧ (((((x2 + 1) + 6) + 14) + 7 ≤ 280) ∧ (Q none (j_cp (j_cp (j_cp (j_cp (j_up h 23 (Int.toNat x2) (h.1 17 1)) 18 0 23 (Int.toNat (x2 + 1)) 6) 19 0 23 (Int.toNat ((x2 + 1) + 6)) 7) 20 0 23 (Int.toNat (((x2 + 1) + 6) + 7)) 7) 21 0 23 (Int.toNat (((x2 + 1) + 6) + 14)) 7))))))))))))))) :
    WV Sx G M_X2_save Q 0 [jR 17, jR 23, jI x2, jU] [] h := by
  refine s_aload_n (pc := 0) dX2_save_0 rfl ?_
  refine s_iload_n (pc := 1) dX2_save_1 rfl ?_
  refine s_aload_n (pc := 2) dX2_save_2 rfl ?_
  refine s_geti (pc := 3) (x := h.1 17 1) dX2_save_3 fl_X2_28 cSx_17 rfl rfl ?_
  obtain ⟨k1, H⟩ := H
  refine s_iast (pc := 6) dX2_save_6 cSx_23 k1 ?_
  refine s_aload_n (pc := 7) dX2_save_7 rfl ?_
  refine s_getr (pc := 8) dX2_save_8 fl_X2_9 cSx_17 rfl ?_
  refine s_iconst (pc := 11) dX2_save_11 (j_cst rfl) ?_
  refine s_aload_n (pc := 12) dX2_save_12 rfl ?_
  refine s_iload_n (pc := 13) dX2_save_13 rfl ?_
  refine s_iconst (pc := 14) dX2_save_14 (j_cst rfl) ?_
  obtain ⟨k2, H⟩ := H
  refine s_iadd (pc := 15) dX2_save_15 k2 ?_
  refine s_bipush (pc := 16) dX2_save_16 rfl (j_cst rfl) ?_
  obtain ⟨k3, H⟩ := H
  obtain ⟨k4, H⟩ := H
  refine s_copy (pc := 18) dX2_save_18 ma_X2_35 ⟨Nat.le_of_ble_eq_true rfl, Nat.le_of_ble_eq_true rfl⟩ cSx_18 cSx_23 ⟨by decide, k3, by decide, by decide, k4⟩ ?_
  refine s_iload_n (pc := 21) dX2_save_21 rfl ?_
  refine s_iconst (pc := 22) dX2_save_22 (j_cst rfl) ?_
  refine s_iadd (pc := 23) dX2_save_23 k2 ?_
  refine s_bipush (pc := 24) dX2_save_24 rfl (j_cst rfl) ?_
  obtain ⟨k5, H⟩ := H
  refine s_iadd (pc := 26) dX2_save_26 k5 ?_
  refine s_istore_n (pc := 27) (lv' := [jR 17, jR 23, jI x2, jI ((x2 + 1) + 6)]) dX2_save_27 (by decide) rfl ?_
  refine s_aload_n (pc := 28) dX2_save_28 rfl ?_
  refine s_getr (pc := 29) dX2_save_29 fl_X2_15 cSx_17 rfl ?_
  refine s_iconst (pc := 32) dX2_save_32 (j_cst rfl) ?_
  refine s_aload_n (pc := 33) dX2_save_33 rfl ?_
  refine s_iload_n (pc := 34) dX2_save_34 rfl ?_
  refine s_bipush (pc := 35) dX2_save_35 rfl (j_cst rfl) ?_
  obtain ⟨k6, H⟩ := H
  obtain ⟨k7, H⟩ := H
  refine s_copy (pc := 37) dX2_save_37 ma_X2_35 ⟨Nat.le_of_ble_eq_true rfl, Nat.le_of_ble_eq_true rfl⟩ cSx_19 cSx_23 ⟨by decide, k6, by decide, by decide, k7⟩ ?_
  refine s_aload_n (pc := 40) dX2_save_40 rfl ?_
  refine s_getr (pc := 41) dX2_save_41 fl_X2_18 cSx_17 rfl ?_
  refine s_iconst (pc := 44) dX2_save_44 (j_cst rfl) ?_
  refine s_aload_n (pc := 45) dX2_save_45 rfl ?_
  refine s_iload_n (pc := 46) dX2_save_46 rfl ?_
  refine s_bipush (pc := 47) dX2_save_47 rfl (j_cst rfl) ?_
  obtain ⟨k8, H⟩ := H
  refine s_iadd (pc := 49) dX2_save_49 k8 ?_
  refine s_bipush (pc := 50) dX2_save_50 rfl (j_cst rfl) ?_
  obtain ⟨k9, H⟩ := H
  obtain ⟨k10, H⟩ := H
  refine s_copy (pc := 52) dX2_save_52 ma_X2_35 ⟨Nat.le_of_ble_eq_true rfl, Nat.le_of_ble_eq_true rfl⟩ cSx_20 cSx_23 ⟨by decide, k9, by decide, by decide, k10⟩ ?_
  refine s_aload_n (pc := 55) dX2_save_55 rfl ?_
  refine s_getr (pc := 56) dX2_save_56 fl_X2_21 cSx_17 rfl ?_
  refine s_iconst (pc := 59) dX2_save_59 (j_cst rfl) ?_
  refine s_aload_n (pc := 60) dX2_save_60 rfl ?_
  refine s_iload_n (pc := 61) dX2_save_61 rfl ?_
  refine s_bipush (pc := 62) dX2_save_62 rfl (j_cst rfl) ?_
  obtain ⟨k11, H⟩ := H
  refine s_iadd (pc := 64) dX2_save_64 k11 ?_
  refine s_bipush (pc := 65) dX2_save_65 rfl (j_cst rfl) ?_
  obtain ⟨k12, H⟩ := H
  obtain ⟨k13, H⟩ := H
  refine s_copy (pc := 67) dX2_save_67 ma_X2_35 ⟨Nat.le_of_ble_eq_true rfl, Nat.le_of_ble_eq_true rfl⟩ cSx_21 cSx_23 ⟨by decide, k12, by decide, by decide, k13⟩ ?_
  exact s_vret dX2_save_70 rfl H
