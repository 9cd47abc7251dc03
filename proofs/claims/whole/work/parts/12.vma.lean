theorem j_one_Sm : ∀ i, ([some none, some (some 1), some none, some none, some none, some none, some none, some none, some none, some none, some (some 2), some none, some (some 3), some none, some none, some none, some (some 4), some (some 5), some (some 6), some (some 7), some (some 8), some (some 9), some none, some (some 10), some (some 11), some (some 12), some none, some none, none] : List (Option (Option Nat)))[i]? = some none → i = 28 := by
  intro i h
  rcases Nat.lt_or_ge i 29 with q | q
  · exact (by decide : ∀ i, i < 29 → ([some none, some (some 1), some none, some none, some none, some none, some none, some none, some none, some none, some (some 2), some none, some (some 3), some none, some none, some none, some (some 4), some (some 5), some (some 6), some (some 7), some (some 8), some (some 9), some none, some (some 10), some (some 11), some (some 12), some none, some none, none] : List (Option (Option Nat)))[i]? = some none → i = 28) i q h
  · rw [List.getElem?_eq_none (by simpa using q)] at h
    cases h
theorem en_X8_in {x0 x1 x2 : Int} {h : jH} {post : jQ} (k : ∀ G, WV Sm G M_X8_in post 0 [jI x0, jI x1, jI x2] [] h) : CT Sm M_X8_in [jI x0, jI x1, jI x2] h post := CT.of (by decide +kernel) (by simp [j_un]) (Nat.le_of_ble_eq_true rfl) _ rfl k
set_option maxRecDepth 20000 in
theorem vc_X8_in_0 {G : jG} {Q : jQ} {x0 x1 x2 : Int} {h : jH}
    (H : (x0 < x1 → Q (some (jI 0)) h) ∧ (¬ x0 < x1 → (x2 < x0 → Q (some (jI 0)) h) ∧ (¬ x2 < x0 → Q (some (jI 1)) h))) :
    WV Sm G M_X8_in Q 0 [jI x0, jI x1, jI x2] [] h := by
  refine s_iload_n (pc := 0) dX8_in_0 rfl ?_
  refine s_iload_n (pc := 1) dX8_in_1 rfl ?_
  refine s_icmp_lt (pc := 2) (tgt := 14) dX8_in_2 (by decide) (fun hc => ?_) (fun hc => ?_)
  · have H := H.1 hc
    refine s_iconst (pc := 14) dX8_in_14 (j_cst rfl) ?_
    exact s_zret dX8_in_15 rfl (Or.inl rfl) H
  · have H := H.2 hc
    refine s_iload_n (pc := 5) dX8_in_5 rfl ?_
    refine s_iload_n (pc := 6) dX8_in_6 rfl ?_
    refine s_icmp_gt (pc := 7) (tgt := 14) dX8_in_7 (by decide) (fun hc => ?_) (fun hc => ?_)
    · have H := H.1 hc
      refine s_iconst (pc := 14) dX8_in_14 (j_cst rfl) ?_
      exact s_zret dX8_in_15 rfl (Or.inl rfl) H
    · have H := H.2 hc
      refine s_iconst (pc := 10) dX8_in_10 (j_cst rfl) ?_
      refine s_goto (pc := 11) (tgt := 15) dX8_in_11 (by decide) ?_
      exact s_zret dX8_in_15 rfl (Or.inr rfl) H
theorem en_X8_type_0 {x1 : Int} {h : jH} {post : jQ} (k : ∀ G, WV Sm G M_X8_type post 0 [jR 0, jI x1] [] h) : CT Sm M_X8_type [jR 0, jI x1] h post := CT.of (by decide +kernel) (by simp [j_un]) (Nat.le_of_ble_eq_true rfl) _ rfl k
set_option maxRecDepth 20000 in
theorem vc_X8_type_0_0 {G : jG} {Q : jQ} {x1 : Int} {h : jH}
    (H : ∃ post : Int → jH → Prop, CT Sm M_X8_in [jI x1, jI 0, jI 255] h (jPi post) ∧ ∀ (r1 : Int) (h2 : jH), post r1 h2 → ((r1 = 0 → Q (some (jI (-1))) h2) ∧ (¬ r1 = 0 → ((h2.1 0 0) = 200 → Q (some (jI (-3))) h2) ∧ (¬ (h2.1 0 0) = 200 → (0 ≤ h2.1 0 0 ∧ h2.1 0 0 < 200) ∧ ((j_rg ((h2.1 0 0) + 1)) ∧ (Q (some (jI ((h2.1 0 0) + 1))) (j_up (j_up h2 1 (Int.toNat (h2.1 0 0)) x1) 0 0 ((h2.1 0 0) + 1)))))))) :
    WV Sm G M_X8_type Q 0 [jR 0, jI x1] [] h := by
  refine s_iload_n (pc := 0) dX8_type_0 rfl ?_
  refine s_iconst (pc := 1) dX8_type_1 (j_cst rfl) ?_
  refine s_sipush (pc := 2) dX8_type_2 rfl (j_cst rfl) ?_
  obtain ⟨post, hct, H⟩ := H
  refine s_callS (pc := 5) (as := [jI x1, jI 0, jI 255]) (st := []) (by exact dX8_type_5) ms_X8_63 ⟨rfl, rfl, Nat.le_of_ble_eq_true rfl, Nat.le_of_ble_eq_true rfl⟩ (Nat.le_of_ble_eq_true rfl) _ rfl hct (fun r1 h2 hp => ?_)
  obtain ⟨r1, rfl, hp⟩ := hp
  have H := H r1 h2 hp
  show WV _ _ _ _ 8 [jR 0, jI x1] [jI r1] h2
  refine s_if_ne (pc := 8) (tgt := 13) dX8_type_8 (by decide) (fun hc => ?_) (fun hc => ?_)
  · have H := H.2 hc
    refine s_aload_n (pc := 13) dX8_type_13 rfl ?_
    refine s_geti (pc := 14) (x := h2.1 0 0) dX8_type_14 fl_X8_67 cSm_0 rfl rfl ?_
    refine s_sipush (pc := 17) dX8_type_17 rfl (j_cst rfl) ?_
    refine s_icmp_ne (pc := 20) (tgt := 26) dX8_type_20 (by decide) (fun hc => ?_) (fun hc => ?_)
    · have H := H.2 hc
      refine s_aload_n (pc := 26) dX8_type_26 rfl ?_
      refine s_getr (pc := 27) dX8_type_27 fl_X8_7 cSm_0 rfl ?_
      refine s_aload_n (pc := 30) dX8_type_30 rfl ?_
      refine s_geti (pc := 31) (x := h2.1 0 0) dX8_type_31 fl_X8_67 cSm_0 rfl rfl ?_
      refine s_iload_n (pc := 34) dX8_type_34 rfl ?_
      obtain ⟨k3, H⟩ := H
      refine s_iast (pc := 35) dX8_type_35 cSm_1 k3 ?_
      refine s_aload_n (pc := 36) dX8_type_36 rfl ?_
      refine s_dup (pc := 37) dX8_type_37 rfl ?_
      refine s_geti (pc := 38) (x := h2.1 0 0) dX8_type_38 fl_X8_67 cSm_0 rfl rfl ?_
      refine s_iconst (pc := 41) dX8_type_41 (j_cst rfl) ?_
      obtain ⟨k4, H⟩ := H
      refine s_iadd (pc := 42) dX8_type_42 k4 ?_
      refine s_puti (pc := 43) dX8_type_43 fp_X8_67 cSm_0 rfl ?_
      refine s_aload_n (pc := 46) dX8_type_46 rfl ?_
      refine s_geti (pc := 47) (x := (h2.1 0 0) + 1) dX8_type_47 fl_X8_67 cSm_0 rfl rfl ?_
      exact s_iret dX8_type_50 rfl H
    · have H := H.1 hc
      refine s_bipush (pc := 23) dX8_type_23 rfl (j_cst rfl) ?_
      exact s_iret dX8_type_25 rfl H
  · have H := H.1 hc
    refine s_iconst (pc := 11) dX8_type_11 (j_cst rfl) ?_
    exact s_iret dX8_type_12 rfl H
theorem en_X8_clear_0 {h : jH} {post : jQ} (k : ∀ G, WV Sm G M_X8_clear post 0 [jR 0, jU] [] h) : CT Sm M_X8_clear [jR 0] h post := CT.of (by decide +kernel) (by simp [j_un]) (Nat.le_of_ble_eq_true rfl) _ rfl k
set_option maxRecDepth 20000 in
theorem vc_X8_clear_0_0 {G : jG} {Q : jQ} {h : jH}
    (H : Q (some (jI (h.1 0 0))) (j_up h 0 0 0)) :
    WV Sm G M_X8_clear Q 0 [jR 0, jU] [] h := by
  refine s_aload_n (pc := 0) dX8_clear_0 rfl ?_
  refine s_geti (pc := 1) (x := h.1 0 0) dX8_clear_1 fl_X8_67 cSm_0 rfl rfl ?_
  refine s_istore_n (pc := 4) (lv' := [jR 0, jI (h.1 0 0)]) dX8_clear_4 (by decide) rfl ?_
  refine s_aload_n (pc := 5) dX8_clear_5 rfl ?_
  refine s_iconst (pc := 6) dX8_clear_6 (j_cst rfl) ?_
  refine s_puti (pc := 7) dX8_clear_7 fp_X8_67 cSm_0 rfl ?_
  refine s_iload_n (pc := 10) dX8_clear_10 rfl ?_
  exact s_iret dX8_clear_11 rfl H
theorem en_X8_begin_0 {h : jH} {post : jQ} (k : ∀ G, WV Sm G M_X8_begin post 0 [jR 0, jU] [] h) : CT Sm M_X8_begin [jR 0] h post := CT.of (by decide +kernel) (by simp [j_un]) (Nat.le_of_ble_eq_true rfl) _ rfl k
set_option maxRecDepth 20000 in
theorem vc_X8_begin_0_0 {G : jG} {Q : jQ} {h : jH}
    (H : WV Sm G M_X8_begin Q 2 [jR 0, jI 0] [] h) :
    WV Sm G M_X8_begin Q 0 [jR 0, jU] [] h := by
  refine s_iconst (pc := 0) dX8_begin_0 (j_cst rfl) ?_
  refine s_istore_n (pc := 1) (lv' := [jR 0, jI 0]) dX8_begin_1 (by decide) rfl ?_
  exact H
set_option maxRecDepth 20000 in
theorem vc_X8_begin_0_2 {G : jG} {Q : jQ} {x1 : Int} {h : jH}
    (H : (28 ≤ x1 → WV Sm G M_X8_begin Q 23 [jR 0, jI 0] [] h) ∧ (¬ 28 ≤ x1 → (0 ≤ x1 ∧ x1 < 28) ∧ ((j_rg (x1 + 1)) ∧ (WV Sm G M_X8_begin Q 2 [jR 0, jI (x1 + 1)] [] (j_up h 5 (Int.toNat x1) 0))))) :
    WV Sm G M_X8_begin Q 2 [jR 0, jI x1] [] h := by
  refine s_iload_n (pc := 2) dX8_begin_2 rfl ?_
  refine s_bipush (pc := 3) dX8_begin_3 rfl (j_cst rfl) ?_
  refine s_icmp_ge (pc := 5) (tgt := 21) dX8_begin_5 (by decide) (fun hc => ?_) (fun hc => ?_)
  · have H := H.1 hc
    refine s_iconst (pc := 21) dX8_begin_21 (j_cst rfl) ?_
    refine s_istore_n (pc := 22) (lv' := [jR 0, jI 0]) dX8_begin_22 (by decide) rfl ?_
    exact H
  · have H := H.2 hc
    refine s_aload_n (pc := 8) dX8_begin_8 rfl ?_
    refine s_getr (pc := 9) dX8_begin_9 fl_X8_29 cSm_0 rfl ?_
    refine s_iload_n (pc := 12) dX8_begin_12 rfl ?_
    refine s_iconst (pc := 13) dX8_begin_13 (j_cst rfl) ?_
    obtain ⟨k1, H⟩ := H
    refine s_iast (pc := 14) dX8_begin_14 cSm_5 k1 ?_
    obtain ⟨k2, H⟩ := H
    refine s_iinc (pc := 15) (lv' := [jR 0, jI (x1 + 1)]) dX8_begin_15 rfl (by decide) k2 rfl ?_
    refine s_goto (pc := 18) (tgt := 2) dX8_begin_18 (by decide) ?_
    exact H
set_option maxRecDepth 20000 in
theorem vc_X8_begin_0_23 {G : jG} {Q : jQ} {x1 : Int} {h : jH}
    (H : (6 ≤ x1 → WV Sm G M_X8_begin Q 51 [jR 0, jI 0] [] h) ∧ (¬ 6 ≤ x1 → (j_rg (1 + x1)) ∧ ((0 ≤ x1 ∧ x1 < 6) ∧ ((0 ≤ 1 + x1 ∧ 1 + x1 < 28) ∧ ((j_rg (x1 + 1)) ∧ (WV Sm G M_X8_begin Q 23 [jR 0, jI (x1 + 1)] [] (j_up h 5 (Int.toNat (1 + x1)) (h.1 2 (Int.toNat x1))))))))) :
    WV Sm G M_X8_begin Q 23 [jR 0, jI x1] [] h := by
  refine s_iload_n (pc := 23) dX8_begin_23 rfl ?_
  refine s_bipush (pc := 24) dX8_begin_24 rfl (j_cst rfl) ?_
  refine s_icmp_ge (pc := 26) (tgt := 49) dX8_begin_26 (by decide) (fun hc => ?_) (fun hc => ?_)
  · have H := H.1 hc
    refine s_iconst (pc := 49) dX8_begin_49 (j_cst rfl) ?_
    refine s_istore_n (pc := 50) (lv' := [jR 0, jI 0]) dX8_begin_50 (by decide) rfl ?_
    exact H
  · have H := H.2 hc
    refine s_aload_n (pc := 29) dX8_begin_29 rfl ?_
    refine s_getr (pc := 30) dX8_begin_30 fl_X8_29 cSm_0 rfl ?_
    refine s_iconst (pc := 33) dX8_begin_33 (j_cst rfl) ?_
    refine s_iload_n (pc := 34) dX8_begin_34 rfl ?_
    obtain ⟨k1, H⟩ := H
    refine s_iadd (pc := 35) dX8_begin_35 k1 ?_
    refine s_aload_n (pc := 36) dX8_begin_36 rfl ?_
    refine s_getr (pc := 37) dX8_begin_37 fl_X8_13 cSm_0 rfl ?_
    refine s_iload_n (pc := 40) dX8_begin_40 rfl ?_
    obtain ⟨k2, H⟩ := H
    refine s_iald (pc := 41) (x := h.1 2 (Int.toNat x1)) dX8_begin_41 cSm_2 k2 rfl ?_
    obtain ⟨k3, H⟩ := H
    refine s_iast (pc := 42) dX8_begin_42 cSm_5 k3 ?_
    obtain ⟨k4, H⟩ := H
    refine s_iinc (pc := 43) (lv' := [jR 0, jI (x1 + 1)]) dX8_begin_43 rfl (by decide) k4 rfl ?_
    refine s_goto (pc := 46) (tgt := 23) dX8_begin_46 (by decide) ?_
    exact H
set_option maxRecDepth 20000 in
theorem vc_X8_begin_0_51 {G : jG} {Q : jQ} {x1 : Int} {h : jH}
    (H : ((h.1 0 15) ≤ x1 → Q none (j_up (j_up (j_up h 8 0 0) 8 1 0) 0 22 0)) ∧ (¬ (h.1 0 15) ≤ x1 → (j_rg (7 + x1)) ∧ ((j_rg (5 * x1)) ∧ ((0 ≤ 5 * x1 ∧ 5 * x1 < 35) ∧ (((h.1 4 (Int.toNat (5 * x1))) = 0 → (0 ≤ 7 + x1 ∧ 7 + x1 < 28) ∧ ((j_rg (x1 + 1)) ∧ (WV Sm G M_X8_begin Q 51 [jR 0, jI (x1 + 1)] [] (j_up h 5 (Int.toNat (7 + x1)) 1)))) ∧ (¬ (h.1 4 (Int.toNat (5 * x1))) = 0 → (0 ≤ 7 + x1 ∧ 7 + x1 < 28) ∧ ((j_rg (x1 + 1)) ∧ (WV Sm G M_X8_begin Q 51 [jR 0, jI (x1 + 1)] [] (j_up h 5 (Int.toNat (7 + x1)) 0))))))))) :
    WV Sm G M_X8_begin Q 51 [jR 0, jI x1] [] h := by
  refine s_iload_n (pc := 51) dX8_begin_51 rfl ?_
  refine s_aload_n (pc := 52) dX8_begin_52 rfl ?_
  refine s_geti (pc := 53) (x := h.1 0 15) dX8_begin_53 fl_X8_57 cSm_0 rfl rfl ?_
  refine s_icmp_ge (pc := 56) (tgt := 90) dX8_begin_56 (by decide) (fun hc => ?_) (fun hc => ?_)
  · have H := H.1 hc
    refine s_aload_n (pc := 90) dX8_begin_90 rfl ?_
    refine s_getr (pc := 91) dX8_begin_91 fl_X8_38 cSm_0 rfl ?_
    refine s_iconst (pc := 94) dX8_begin_94 (j_cst rfl) ?_
    refine s_iconst (pc := 95) dX8_begin_95 (j_cst rfl) ?_
    refine s_zast (pc := 96) dX8_begin_96 cSm_8 ⟨by decide, by decide⟩ (Or.inl rfl) ?_
    refine s_aload_n (pc := 97) dX8_begin_97 rfl ?_
    refine s_getr (pc := 98) dX8_begin_98 fl_X8_38 cSm_0 rfl ?_
    refine s_iconst (pc := 101) dX8_begin_101 (j_cst rfl) ?_
    refine s_iconst (pc := 102) dX8_begin_102 (j_cst rfl) ?_
    refine s_zast (pc := 103) dX8_begin_103 cSm_8 ⟨by decide, by decide⟩ (Or.inl rfl) ?_
    refine s_aload_n (pc := 104) dX8_begin_104 rfl ?_
    refine s_iconst (pc := 105) dX8_begin_105 (j_cst rfl) ?_
    refine s_puti (pc := 106) dX8_begin_106 fp_X8_60 cSm_0 rfl ?_
    exact s_vret dX8_begin_109 rfl H
  · have H := H.2 hc
    refine s_aload_n (pc := 59) dX8_begin_59 rfl ?_
    refine s_getr (pc := 60) dX8_begin_60 fl_X8_29 cSm_0 rfl ?_
    refine s_bipush (pc := 63) dX8_begin_63 rfl (j_cst rfl) ?_
    refine s_iload_n (pc := 65) dX8_begin_65 rfl ?_
    obtain ⟨k1, H⟩ := H
    refine s_iadd (pc := 66) dX8_begin_66 k1 ?_
    refine s_aload_n (pc := 67) dX8_begin_67 rfl ?_
    refine s_getr (pc := 68) dX8_begin_68 fl_X8_26 cSm_0 rfl ?_
    refine s_iconst (pc := 71) dX8_begin_71 (j_cst rfl) ?_
    refine s_iload_n (pc := 72) dX8_begin_72 rfl ?_
    obtain ⟨k2, H⟩ := H
    refine s_imul (pc := 73) dX8_begin_73 k2 ?_
    obtain ⟨k3, H⟩ := H
    refine s_iald (pc := 74) (x := h.1 4 (Int.toNat (5 * x1))) dX8_begin_74 cSm_4 k3 rfl ?_
    refine s_if_ne (pc := 75) (tgt := 82) dX8_begin_75 (by decide) (fun hc => ?_) (fun hc => ?_)
    · have H := H.2 hc
      refine s_iconst (pc := 82) dX8_begin_82 (j_cst rfl) ?_
      obtain ⟨k4, H⟩ := H
      refine s_iast (pc := 83) dX8_begin_83 cSm_5 k4 ?_
      obtain ⟨k5, H⟩ := H
      refine s_iinc (pc := 84) (lv' := [jR 0, jI (x1 + 1)]) dX8_begin_84 rfl (by decide) k5 rfl ?_
      refine s_goto (pc := 87) (tgt := 51) dX8_begin_87 (by decide) ?_
      exact H
    · have H := H.1 hc
      refine s_iconst (pc := 78) dX8_begin_78 (j_cst rfl) ?_
      refine s_goto (pc := 79) (tgt := 83) dX8_begin_79 (by decide) ?_
      obtain ⟨k6, H⟩ := H
      refine s_iast (pc := 83) dX8_begin_83 cSm_5 k6 ?_
      obtain ⟨k7, H⟩ := H
      refine s_iinc (pc := 84) (lv' := [jR 0, jI (x1 + 1)]) dX8_begin_84 rfl (by decide) k7 rfl ?_
      refine s_goto (pc := 87) (tgt := 51) dX8_begin_87 (by decide) ?_
      exact H
theorem en_X8_nextToken_0 {h : jH} {post : jQ} (k : ∀ G, WV Sm G M_X8_nextToken post 0 [jR 0] [] h) : CT Sm M_X8_nextToken [jR 0] h post := CT.of (by decide +kernel) (by simp [j_un]) (Nat.le_of_ble_eq_true rfl) _ rfl k
set_option maxRecDepth 20000 in
theorem vc_X8_nextToken_0_0 {G : jG} {Q : jQ} {h : jH}
    (H : ((h.1 0 0) ≤ (h.1 0 2) → ((h.1 0 2) = (h.1 0 0) → Q none (j_up (j_up (j_up h 0 3 (h.1 0 2)) 0 5 0) 0 4 (-2))) ∧ (¬ (h.1 0 2) = (h.1 0 0) → (0 ≤ h.1 0 2 ∧ h.1 0 2 < 200) ∧ (∃ post : Int → jH → Prop, CT Sm M_X8_in [jI (h.1 1 (Int.toNat (h.1 0 2))), jI 48, jI 57] (j_up (j_up h 0 3 (h.1 0 2)) 0 5 0) (jPi post) ∧ ∀ (r2 : Int) (h3 : jH), post r2 h3 → ((r2 = 0 → (0 ≤ h3.1 0 2 ∧ h3.1 0 2 < 200) ∧ ((j_rg ((h3.1 0 2) + 1)) ∧ (Q none (j_up (j_up h3 0 4 (h3.1 1 (Int.toNat (h3.1 0 2)))) 0 2 ((h3.1 0 2) + 1))))) ∧ (¬ r2 = 0 → WV Sm G M_X8_nextToken Q 90 [jR 0] [] h3))))) ∧ (¬ (h.1 0 0) ≤ (h.1 0 2) → (0 ≤ h.1 0 2 ∧ h.1 0 2 < 200) ∧ (((h.1 1 (Int.toNat (h.1 0 2))) = 32 → (j_rg ((h.1 0 2) + 1)) ∧ (WV Sm G M_X8_nextToken Q 0 [jR 0] [] (j_up h 0 2 ((h.1 0 2) + 1)))) ∧ (¬ (h.1 1 (Int.toNat (h.1 0 2))) = 32 → ((h.1 0 2) = (h.1 0 0) → Q none (j_up (j_up (j_up h 0 3 (h.1 0 2)) 0 5 0) 0 4 (-2))) ∧ (¬ (h.1 0 2) = (h.1 0 0) → ∃ post : Int → jH → Prop, CT Sm M_X8_in [jI (h.1 1 (Int.toNat (h.1 0 2))), jI 48, jI 57] (j_up (j_up h 0 3 (h.1 0 2)) 0 5 0) (jPi post) ∧ ∀ (r7 : Int) (h8 : jH), post r7 h8 → ((r7 = 0 → (0 ≤ h8.1 0 2 ∧ h8.1 0 2 < 200) ∧ ((j_rg ((h8.1 0 2) + 1)) ∧ (Q none (j_up (j_up h8 0 4 (h8.1 1 (Int.toNat (h8.1 0 2)))) 0 2 ((h8.1 0 2) + 1))))) ∧ (¬ r7 = 0 → WV Sm G M_X8_nextToken Q 90 [jR 0] [] h8))))))) :
    WV Sm G M_X8_nextToken Q 0 [jR 0] [] h := by
  refine s_aload_n (pc := 0) dX8_nextToken_0 rfl ?_
  refine s_geti (pc := 1) (x := h.1 0 2) dX8_nextToken_1 fl_X8_70 cSm_0 rfl rfl ?_
  refine s_aload_n (pc := 4) dX8_nextToken_4 rfl ?_
  refine s_geti (pc := 5) (x := h.1 0 0) dX8_nextToken_5 fl_X8_67 cSm_0 rfl rfl ?_
  refine s_icmp_ge (pc := 8) (tgt := 38) dX8_nextToken_8 (by decide) (fun hc => ?_) (fun hc => ?_)
  · have H := H.1 hc
    refine s_aload_n (pc := 38) dX8_nextToken_38 rfl ?_
    refine s_aload_n (pc := 39) dX8_nextToken_39 rfl ?_
    refine s_geti (pc := 40) (x := h.1 0 2) dX8_nextToken_40 fl_X8_70 cSm_0 rfl rfl ?_
    refine s_puti (pc := 43) dX8_nextToken_43 fp_X8_73 cSm_0 rfl ?_
    refine s_aload_n (pc := 46) dX8_nextToken_46 rfl ?_
    refine s_iconst (pc := 47) dX8_nextToken_47 (j_cst rfl) ?_
    refine s_puti (pc := 48) dX8_nextToken_48 fp_X8_76 cSm_0 rfl ?_
    refine s_aload_n (pc := 51) dX8_nextToken_51 rfl ?_
    refine s_geti (pc := 52) (x := h.1 0 2) dX8_nextToken_52 fl_X8_70 cSm_0 rfl rfl ?_
    refine s_aload_n (pc := 55) dX8_nextToken_55 rfl ?_
    refine s_geti (pc := 56) (x := h.1 0 0) dX8_nextToken_56 fl_X8_67 cSm_0 rfl rfl ?_
    refine s_icmp_ne (pc := 59) (tgt := 71) dX8_nextToken_59 (by decide) (fun hc => ?_) (fun hc => ?_)
    · have H := H.2 hc
      refine s_aload_n (pc := 71) dX8_nextToken_71 rfl ?_
      refine s_getr (pc := 72) dX8_nextToken_72 fl_X8_7 cSm_0 rfl ?_
      refine s_aload_n (pc := 75) dX8_nextToken_75 rfl ?_
      refine s_geti (pc := 76) (x := h.1 0 2) dX8_nextToken_76 fl_X8_70 cSm_0 rfl rfl ?_
      obtain ⟨k1, H⟩ := H
      refine s_iald (pc := 79) (x := h.1 1 (Int.toNat (h.1 0 2))) dX8_nextToken_79 cSm_1 k1 rfl ?_
      refine s_bipush (pc := 80) dX8_nextToken_80 rfl (j_cst rfl) ?_
      refine s_bipush (pc := 82) dX8_nextToken_82 rfl (j_cst rfl) ?_
      obtain ⟨post, hct, H⟩ := H
      refine s_callS (pc := 84) (as := [jI (h.1 1 (Int.toNat (h.1 0 2))), jI 48, jI 57]) (st := []) (by exact dX8_nextToken_84) ms_X8_63 ⟨rfl, rfl, Nat.le_of_ble_eq_true rfl, Nat.le_of_ble_eq_true rfl⟩ (Nat.le_of_ble_eq_true rfl) _ rfl hct (fun r2 h3 hp => ?_)
      obtain ⟨r2, rfl, hp⟩ := hp
      have H := H r2 h3 hp
      show WV _ _ _ _ 87 [jR 0] [jI r2] h3
      refine s_if_eq (pc := 87) (tgt := 224) dX8_nextToken_87 (by decide) (fun hc => ?_) (fun hc => ?_)
      · have H := H.1 hc
        refine s_aload_n (pc := 224) dX8_nextToken_224 rfl ?_
        refine s_aload_n (pc := 225) dX8_nextToken_225 rfl ?_
        refine s_getr (pc := 226) dX8_nextToken_226 fl_X8_7 cSm_0 rfl ?_
        refine s_aload_n (pc := 229) dX8_nextToken_229 rfl ?_
        refine s_geti (pc := 230) (x := h3.1 0 2) dX8_nextToken_230 fl_X8_70 cSm_0 rfl rfl ?_
        obtain ⟨k4, H⟩ := H
        refine s_iald (pc := 233) (x := h3.1 1 (Int.toNat (h3.1 0 2))) dX8_nextToken_233 cSm_1 k4 rfl ?_
        refine s_puti (pc := 234) dX8_nextToken_234 fp_X8_79 cSm_0 rfl ?_
        refine s_aload_n (pc := 237) dX8_nextToken_237 rfl ?_
        refine s_dup (pc := 238) dX8_nextToken_238 rfl ?_
        refine s_geti (pc := 239) (x := h3.1 0 2) dX8_nextToken_239 fl_X8_70 cSm_0 rfl rfl ?_
        refine s_iconst (pc := 242) dX8_nextToken_242 (j_cst rfl) ?_
        obtain ⟨k5, H⟩ := H
        refine s_iadd (pc := 243) dX8_nextToken_243 k5 ?_
        refine s_puti (pc := 244) dX8_nextToken_244 fp_X8_70 cSm_0 rfl ?_
        exact s_vret dX8_nextToken_247 rfl H
      · have H := H.2 hc
        exact H
    · have H := H.1 hc
      refine s_aload_n (pc := 62) dX8_nextToken_62 rfl ?_
      refine s_bipush (pc := 63) dX8_nextToken_63 rfl (j_cst rfl) ?_
      refine s_puti (pc := 65) dX8_nextToken_65 fp_X8_79 cSm_0 rfl ?_
      refine s_goto (pc := 68) (tgt := 247) dX8_nextToken_68 (by decide) ?_
      exact s_vret dX8_nextToken_247 rfl H
  · have H := H.2 hc
    refine s_aload_n (pc := 11) dX8_nextToken_11 rfl ?_
    refine s_getr (pc := 12) dX8_nextToken_12 fl_X8_7 cSm_0 rfl ?_
    refine s_aload_n (pc := 15) dX8_nextToken_15 rfl ?_
    refine s_geti (pc := 16) (x := h.1 0 2) dX8_nextToken_16 fl_X8_70 cSm_0 rfl rfl ?_
    obtain ⟨k6, H⟩ := H
    refine s_iald (pc := 19) (x := h.1 1 (Int.toNat (h.1 0 2))) dX8_nextToken_19 cSm_1 k6 rfl ?_
    refine s_bipush (pc := 20) dX8_nextToken_20 rfl (j_cst rfl) ?_
    refine s_icmp_ne (pc := 22) (tgt := 38) dX8_nextToken_22 (by decide) (fun hc => ?_) (fun hc => ?_)
    · have H := H.2 hc
      refine s_aload_n (pc := 38) dX8_nextToken_38 rfl ?_
      refine s_aload_n (pc := 39) dX8_nextToken_39 rfl ?_
      refine s_geti (pc := 40) (x := h.1 0 2) dX8_nextToken_40 fl_X8_70 cSm_0 rfl rfl ?_
      refine s_puti (pc := 43) dX8_nextToken_43 fp_X8_73 cSm_0 rfl ?_
      refine s_aload_n (pc := 46) dX8_nextToken_46 rfl ?_
      refine s_iconst (pc := 47) dX8_nextToken_47 (j_cst rfl) ?_
      refine s_puti (pc := 48) dX8_nextToken_48 fp_X8_76 cSm_0 rfl ?_
      refine s_aload_n (pc := 51) dX8_nextToken_51 rfl ?_
      refine s_geti (pc := 52) (x := h.1 0 2) dX8_nextToken_52 fl_X8_70 cSm_0 rfl rfl ?_
      refine s_aload_n (pc := 55) dX8_nextToken_55 rfl ?_
      refine s_geti (pc := 56) (x := h.1 0 0) dX8_nextToken_56 fl_X8_67 cSm_0 rfl rfl ?_
      refine s_icmp_ne (pc := 59) (tgt := 71) dX8_nextToken_59 (by decide) (fun hc => ?_) (fun hc => ?_)
      · have H := H.2 hc
        refine s_aload_n (pc := 71) dX8_nextToken_71 rfl ?_
        refine s_getr (pc := 72) dX8_nextToken_72 fl_X8_7 cSm_0 rfl ?_
        refine s_aload_n (pc := 75) dX8_nextToken_75 rfl ?_
        refine s_geti (pc := 76) (x := h.1 0 2) dX8_nextToken_76 fl_X8_70 cSm_0 rfl rfl ?_
        refine s_iald (pc := 79) (x := h.1 1 (Int.toNat (h.1 0 2))) dX8_nextToken_79 cSm_1 k6 rfl ?_
        refine s_bipush (pc := 80) dX8_nextToken_80 rfl (j_cst rfl) ?_
        refine s_bipush (pc := 82) dX8_nextToken_82 rfl (j_cst rfl) ?_
        obtain ⟨post, hct, H⟩ := H
        refine s_callS (pc := 84) (as := [jI (h.1 1 (Int.toNat (h.1 0 2))), jI 48, jI 57]) (st := []) (by exact dX8_nextToken_84) ms_X8_63 ⟨rfl, rfl, Nat.le_of_ble_eq_true rfl, Nat.le_of_ble_eq_true rfl⟩ (Nat.le_of_ble_eq_true rfl) _ rfl hct (fun r7 h8 hp => ?_)
        obtain ⟨r7, rfl, hp⟩ := hp
        have H := H r7 h8 hp
        show WV _ _ _ _ 87 [jR 0] [jI r7] h8
        refine s_if_eq (pc := 87) (tgt := 224) dX8_nextToken_87 (by decide) (fun hc => ?_) (fun hc => ?_)
        · have H := H.1 hc
          refine s_aload_n (pc := 224) dX8_nextToken_224 rfl ?_
          refine s_aload_n (pc := 225) dX8_nextToken_225 rfl ?_
          refine s_getr (pc := 226) dX8_nextToken_226 fl_X8_7 cSm_0 rfl ?_
          refine s_aload_n (pc := 229) dX8_nextToken_229 rfl ?_
          refine s_geti (pc := 230) (x := h8.1 0 2) dX8_nextToken_230 fl_X8_70 cSm_0 rfl rfl ?_
          obtain ⟨k9, H⟩ := H
          refine s_iald (pc := 233) (x := h8.1 1 (Int.toNat (h8.1 0 2))) dX8_nextToken_233 cSm_1 k9 rfl ?_
          refine s_puti (pc := 234) dX8_nextToken_234 fp_X8_79 cSm_0 rfl ?_
          refine s_aload_n (pc := 237) dX8_nextToken_237 rfl ?_
          refine s_dup (pc := 238) dX8_nextToken_238 rfl ?_
          refine s_geti (pc := 239) (x := h8.1 0 2) dX8_nextToken_239 fl_X8_70 cSm_0 rfl rfl ?_
          refine s_iconst (pc := 242) dX8_nextToken_242 (j_cst rfl) ?_
          obtain ⟨k10, H⟩ := H
          refine s_iadd (pc := 243) dX8_nextToken_243 k10 ?_
          refine s_puti (pc := 244) dX8_nextToken_244 fp_X8_70 cSm_0 rfl ?_
          exact s_vret dX8_nextToken_247 rfl H
        · have H := H.2 hc
          exact H
      · have H := H.1 hc
        refine s_aload_n (pc := 62) dX8_nextToken_62 rfl ?_
        refine s_bipush (pc := 63) dX8_nextToken_63 rfl (j_cst rfl) ?_
        refine s_puti (pc := 65) dX8_nextToken_65 fp_X8_79 cSm_0 rfl ?_
        refine s_goto (pc := 68) (tgt := 247) dX8_nextToken_68 (by decide) ?_
        exact s_vret dX8_nextToken_247 rfl H
    · have H := H.1 hc
      refine s_aload_n (pc := 25) dX8_nextToken_25 rfl ?_
      refine s_dup (pc := 26) dX8_nextToken_26 rfl ?_
      refine s_geti (pc := 27) (x := h.1 0 2) dX8_nextToken_27 fl_X8_70 cSm_0 rfl rfl ?_
      refine s_iconst (pc := 30) dX8_nextToken_30 (j_cst rfl) ?_
      obtain ⟨k11, H⟩ := H
      refine s_iadd (pc := 31) dX8_nextToken_31 k11 ?_
      refine s_puti (pc := 32) dX8_nextToken_32 fp_X8_70 cSm_0 rfl ?_
      refine s_goto (pc := 35) (tgt := 0) dX8_nextToken_35 (by decide) ?_
      exact H
set_option maxRecDepth 20000 in
theorem vc_X8_nextToken_0_90 {G : jG} {Q : jQ} {h : jH}
    (H : ((h.1 0 0) ≤ (h.1 0 2) → (j_rg ((h.1 0 2) - (h.1 0 3))) ∧ ((((h.1 0 2) - (h.1 0 3)) ≤ 1 → ((h.1 0 5) ≤ 99 → Q none (j_up h 0 4 (-1))) ∧ (¬ (h.1 0 5) ≤ 99 → Q none (j_up h 0 4 (-3)))) ∧ (¬ ((h.1 0 2) - (h.1 0 3)) ≤ 1 → (0 ≤ h.1 0 3 ∧ h.1 0 3 < 200) ∧ (((h.1 1 (Int.toNat (h.1 0 3))) = 48 → Q none (j_up h 0 4 (-3))) ∧ (¬ (h.1 1 (Int.toNat (h.1 0 3))) = 48 → ((h.1 0 5) ≤ 99 → Q none (j_up h 0 4 (-1))) ∧ (¬ (h.1 0 5) ≤ 99 → Q none (j_up h 0 4 (-3)))))))) ∧ (¬ (h.1 0 0) ≤ (h.1 0 2) → (0 ≤ h.1 0 2 ∧ h.1 0 2 < 200) ∧ (∃ post : Int → jH → Prop, CT Sm M_X8_in [jI (h.1 1 (Int.toNat (h.1 0 2))), jI 48, jI 57] h (jPi post) ∧ ∀ (r4 : Int) (h5 : jH), post r4 h5 → ((r4 = 0 → (j_rg ((h5.1 0 2) - (h5.1 0 3))) ∧ ((((h5.1 0 2) - (h5.1 0 3)) ≤ 1 → ((h5.1 0 5) ≤ 99 → Q none (j_up h5 0 4 (-1))) ∧ (¬ (h5.1 0 5) ≤ 99 → Q none (j_up h5 0 4 (-3)))) ∧ (¬ ((h5.1 0 2) - (h5.1 0 3)) ≤ 1 → (0 ≤ h5.1 0 3 ∧ h5.1 0 3 < 200) ∧ (((h5.1 1 (Int.toNat (h5.1 0 3))) = 48 → Q none (j_up h5 0 4 (-3))) ∧ (¬ (h5.1 1 (Int.toNat (h5.1 0 3))) = 48 → ((h5.1 0 5) ≤ 99 → Q none (j_up h5 0 4 (-1))) ∧ (¬ (h5.1 0 5) ≤ 99 → Q none (j_up h5 0 4 (-3)))))))) ∧ (¬ r4 = 0 → (j_rg ((h5.1 0 2) - (h5.1 0 3))) ∧ ((2 ≤ ((h5.1 0 2) - (h5.1 0 3)) → (j_rg ((h5.1 0 2) + 1)) ∧ (WV Sm G M_X8_nextToken Q 90 [jR 0] [] (j_up (j_up h5 0 5 100) 0 2 ((h5.1 0 2) + 1)))) ∧ (¬ 2 ≤ ((h5.1 0 2) - (h5.1 0 3)) → (j_rg (10 * (h5.1 0 5))) ∧ ((0 ≤ h5.1 0 2 ∧ h5.1 0 2 < 200) ∧ ((j_rg ((10 * (h5.1 0 5)) + (h5.1 1 (Int.toNat (h5.1 0 2))))) ∧ ((j_rg (((10 * (h5.1 0 5)) + (h5.1 1 (Int.toNat (h5.1 0 2)))) - 48)) ∧ ((j_rg ((h5.1 0 2) + 1)) ∧ (WV Sm G M_X8_nextToken Q 90 [jR 0] [] (j_up (j_up h5 0 5 (((10 * (h5.1 0 5)) + (h5.1 1 (Int.toNat (h5.1 0 2)))) - 48)) 0 2 ((h5.1 0 2) + 1)))))))))))))) :
    WV Sm G M_X8_nextToken Q 90 [jR 0] [] h := by
  refine s_aload_n (pc := 90) dX8_nextToken_90 rfl ?_
  refine s_geti (pc := 91) (x := h.1 0 2) dX8_nextToken_91 fl_X8_70 cSm_0 rfl rfl ?_
  refine s_aload_n (pc := 94) dX8_nextToken_94 rfl ?_
  refine s_geti (pc := 95) (x := h.1 0 0) dX8_nextToken_95 fl_X8_67 cSm_0 rfl rfl ?_
  refine s_icmp_ge (pc := 98) (tgt := 175) dX8_nextToken_98 (by decide) (fun hc => ?_) (fun hc => ?_)
  · have H := H.1 hc
    refine s_aload_n (pc := 175) dX8_nextToken_175 rfl ?_
    refine s_aload_n (pc := 176) dX8_nextToken_176 rfl ?_
    refine s_geti (pc := 177) (x := h.1 0 2) dX8_nextToken_177 fl_X8_70 cSm_0 rfl rfl ?_
    refine s_aload_n (pc := 180) dX8_nextToken_180 rfl ?_
    refine s_geti (pc := 181) (x := h.1 0 3) dX8_nextToken_181 fl_X8_73 cSm_0 rfl rfl ?_
    obtain ⟨k1, H⟩ := H
    refine s_isub (pc := 184) dX8_nextToken_184 k1 ?_
    refine s_iconst (pc := 185) dX8_nextToken_185 (j_cst rfl) ?_
    refine s_icmp_le (pc := 186) (tgt := 203) dX8_nextToken_186 (by decide) (fun hc => ?_) (fun hc => ?_)
    · have H := H.1 hc
      refine s_aload_n (pc := 203) dX8_nextToken_203 rfl ?_
      refine s_geti (pc := 204) (x := h.1 0 5) dX8_nextToken_204 fl_X8_76 cSm_0 rfl rfl ?_
      refine s_bipush (pc := 207) dX8_nextToken_207 rfl (j_cst rfl) ?_
      refine s_icmp_le (pc := 209) (tgt := 217) dX8_nextToken_209 (by decide) (fun hc => ?_) (fun hc => ?_)
      · have H := H.1 hc
        refine s_iconst (pc := 217) dX8_nextToken_217 (j_cst rfl) ?_
        refine s_puti (pc := 218) dX8_nextToken_218 fp_X8_79 cSm_0 rfl ?_
        refine s_goto (pc := 221) (tgt := 247) dX8_nextToken_221 (by decide) ?_
        exact s_vret dX8_nextToken_247 rfl H
      · have H := H.2 hc
        refine s_bipush (pc := 212) dX8_nextToken_212 rfl (j_cst rfl) ?_
        refine s_goto (pc := 214) (tgt := 218) dX8_nextToken_214 (by decide) ?_
        refine s_puti (pc := 218) dX8_nextToken_218 fp_X8_79 cSm_0 rfl ?_
        refine s_goto (pc := 221) (tgt := 247) dX8_nextToken_221 (by decide) ?_
        exact s_vret dX8_nextToken_247 rfl H
    · have H := H.2 hc
      refine s_aload_n (pc := 189) dX8_nextToken_189 rfl ?_
      refine s_getr (pc := 190) dX8_nextToken_190 fl_X8_7 cSm_0 rfl ?_
      refine s_aload_n (pc := 193) dX8_nextToken_193 rfl ?_
      refine s_geti (pc := 194) (x := h.1 0 3) dX8_nextToken_194 fl_X8_73 cSm_0 rfl rfl ?_
      obtain ⟨k2, H⟩ := H
      refine s_iald (pc := 197) (x := h.1 1 (Int.toNat (h.1 0 3))) dX8_nextToken_197 cSm_1 k2 rfl ?_
      refine s_bipush (pc := 198) dX8_nextToken_198 rfl (j_cst rfl) ?_
      refine s_icmp_eq (pc := 200) (tgt := 212) dX8_nextToken_200 (by decide) (fun hc => ?_) (fun hc => ?_)
      · have H := H.1 hc
        refine s_bipush (pc := 212) dX8_nextToken_212 rfl (j_cst rfl) ?_
        refine s_goto (pc := 214) (tgt := 218) dX8_nextToken_214 (by decide) ?_
        refine s_puti (pc := 218) dX8_nextToken_218 fp_X8_79 cSm_0 rfl ?_
        refine s_goto (pc := 221) (tgt := 247) dX8_nextToken_221 (by decide) ?_
        exact s_vret dX8_nextToken_247 rfl H
      · have H := H.2 hc
        refine s_aload_n (pc := 203) dX8_nextToken_203 rfl ?_
        refine s_geti (pc := 204) (x := h.1 0 5) dX8_nextToken_204 fl_X8_76 cSm_0 rfl rfl ?_
        refine s_bipush (pc := 207) dX8_nextToken_207 rfl (j_cst rfl) ?_
        refine s_icmp_le (pc := 209) (tgt := 217) dX8_nextToken_209 (by decide) (fun hc => ?_) (fun hc => ?_)
        · have H := H.1 hc
          refine s_iconst (pc := 217) dX8_nextToken_217 (j_cst rfl) ?_
          refine s_puti (pc := 218) dX8_nextToken_218 fp_X8_79 cSm_0 rfl ?_
          refine s_goto (pc := 221) (tgt := 247) dX8_nextToken_221 (by decide) ?_
          exact s_vret dX8_nextToken_247 rfl H
        · have H := H.2 hc
          refine s_bipush (pc := 212) dX8_nextToken_212 rfl (j_cst rfl) ?_
          refine s_goto (pc := 214) (tgt := 218) dX8_nextToken_214 (by decide) ?_
          refine s_puti (pc := 218) dX8_nextToken_218 fp_X8_79 cSm_0 rfl ?_
          refine s_goto (pc := 221) (tgt := 247) dX8_nextToken_221 (by decide) ?_
          exact s_vret dX8_nextToken_247 rfl H
  · have H := H.2 hc
    refine s_aload_n (pc := 101) dX8_nextToken_101 rfl ?_
    refine s_getr (pc := 102) dX8_nextToken_102 fl_X8_7 cSm_0 rfl ?_
    refine s_aload_n (pc := 105) dX8_nextToken_105 rfl ?_
    refine s_geti (pc := 106) (x := h.1 0 2) dX8_nextToken_106 fl_X8_70 cSm_0 rfl rfl ?_
    obtain ⟨k3, H⟩ := H
    refine s_iald (pc := 109) (x := h.1 1 (Int.toNat (h.1 0 2))) dX8_nextToken_109 cSm_1 k3 rfl ?_
    refine s_bipush (pc := 110) dX8_nextToken_110 rfl (j_cst rfl) ?_
    refine s_bipush (pc := 112) dX8_nextToken_112 rfl (j_cst rfl) ?_
    obtain ⟨post, hct, H⟩ := H
    refine s_callS (pc := 114) (as := [jI (h.1 1 (Int.toNat (h.1 0 2))), jI 48, jI 57]) (st := []) (by exact dX8_nextToken_114) ms_X8_63 ⟨rfl, rfl, Nat.le_of_ble_eq_true rfl, Nat.le_of_ble_eq_true rfl⟩ (Nat.le_of_ble_eq_true rfl) _ rfl hct (fun r4 h5 hp => ?_)
    obtain ⟨r4, rfl, hp⟩ := hp
    have H := H r4 h5 hp
    show WV _ _ _ _ 117 [jR 0] [jI r4] h5
    refine s_if_eq (pc := 117) (tgt := 175) dX8_nextToken_117 (by decide) (fun hc => ?_) (fun hc => ?_)
    · have H := H.1 hc
      refine s_aload_n (pc := 175) dX8_nextToken_175 rfl ?_
      refine s_aload_n (pc := 176) dX8_nextToken_176 rfl ?_
      refine s_geti (pc := 177) (x := h5.1 0 2) dX8_nextToken_177 fl_X8_70 cSm_0 rfl rfl ?_
      refine s_aload_n (pc := 180) dX8_nextToken_180 rfl ?_
      refine s_geti (pc := 181) (x := h5.1 0 3) dX8_nextToken_181 fl_X8_73 cSm_0 rfl rfl ?_
      obtain ⟨k6, H⟩ := H
      refine s_isub (pc := 184) dX8_nextToken_184 k6 ?_
      refine s_iconst (pc := 185) dX8_nextToken_185 (j_cst rfl) ?_
      refine s_icmp_le (pc := 186) (tgt := 203) dX8_nextToken_186 (by decide) (fun hc => ?_) (fun hc => ?_)
      · have H := H.1 hc
        refine s_aload_n (pc := 203) dX8_nextToken_203 rfl ?_
        refine s_geti (pc := 204) (x := h5.1 0 5) dX8_nextToken_204 fl_X8_76 cSm_0 rfl rfl ?_
        refine s_bipush (pc := 207) dX8_nextToken_207 rfl (j_cst rfl) ?_
        refine s_icmp_le (pc := 209) (tgt := 217) dX8_nextToken_209 (by decide) (fun hc => ?_) (fun hc => ?_)
        · have H := H.1 hc
          refine s_iconst (pc := 217) dX8_nextToken_217 (j_cst rfl) ?_
          refine s_puti (pc := 218) dX8_nextToken_218 fp_X8_79 cSm_0 rfl ?_
          refine s_goto (pc := 221) (tgt := 247) dX8_nextToken_221 (by decide) ?_
          exact s_vret dX8_nextToken_247 rfl H
        · have H := H.2 hc
          refine s_bipush (pc := 212) dX8_nextToken_212 rfl (j_cst rfl) ?_
          refine s_goto (pc := 214) (tgt := 218) dX8_nextToken_214 (by decide) ?_
          refine s_puti (pc := 218) dX8_nextToken_218 fp_X8_79 cSm_0 rfl ?_
          refine s_goto (pc := 221) (tgt := 247) dX8_nextToken_221 (by decide) ?_
          exact s_vret dX8_nextToken_247 rfl H
      · have H := H.2 hc
        refine s_aload_n (pc := 189) dX8_nextToken_189 rfl ?_
        refine s_getr (pc := 190) dX8_nextToken_190 fl_X8_7 cSm_0 rfl ?_
        refine s_aload_n (pc := 193) dX8_nextToken_193 rfl ?_
        refine s_geti (pc := 194) (x := h5.1 0 3) dX8_nextToken_194 fl_X8_73 cSm_0 rfl rfl ?_
        obtain ⟨k7, H⟩ := H
        refine s_iald (pc := 197) (x := h5.1 1 (Int.toNat (h5.1 0 3))) dX8_nextToken_197 cSm_1 k7 rfl ?_
        refine s_bipush (pc := 198) dX8_nextToken_198 rfl (j_cst rfl) ?_
        refine s_icmp_eq (pc := 200) (tgt := 212) dX8_nextToken_200 (by decide) (fun hc => ?_) (fun hc => ?_)
        · have H := H.1 hc
          refine s_bipush (pc := 212) dX8_nextToken_212 rfl (j_cst rfl) ?_
          refine s_goto (pc := 214) (tgt := 218) dX8_nextToken_214 (by decide) ?_
          refine s_puti (pc := 218) dX8_nextToken_218 fp_X8_79 cSm_0 rfl ?_
          refine s_goto (pc := 221) (tgt := 247) dX8_nextToken_221 (by decide) ?_
          exact s_vret dX8_nextToken_247 rfl H
        · have H := H.2 hc
          refine s_aload_n (pc := 203) dX8_nextToken_203 rfl ?_
          refine s_geti (pc := 204) (x := h5.1 0 5) dX8_nextToken_204 fl_X8_76 cSm_0 rfl rfl ?_
          refine s_bipush (pc := 207) dX8_nextToken_207 rfl (j_cst rfl) ?_
          refine s_icmp_le (pc := 209) (tgt := 217) dX8_nextToken_209 (by decide) (fun hc => ?_) (fun hc => ?_)
          · have H := H.1 hc
            refine s_iconst (pc := 217) dX8_nextToken_217 (j_cst rfl) ?_
            refine s_puti (pc := 218) dX8_nextToken_218 fp_X8_79 cSm_0 rfl ?_
            refine s_goto (pc := 221) (tgt := 247) dX8_nextToken_221 (by decide) ?_
            exact s_vret dX8_nextToken_247 rfl H
          · have H := H.2 hc
            refine s_bipush (pc := 212) dX8_nextToken_212 rfl (j_cst rfl) ?_
            refine s_goto (pc := 214) (tgt := 218) dX8_nextToken_214 (by decide) ?_
            refine s_puti (pc := 218) dX8_nextToken_218 fp_X8_79 cSm_0 rfl ?_
            refine s_goto (pc := 221) (tgt := 247) dX8_nextToken_221 (by decide) ?_
            exact s_vret dX8_nextToken_247 rfl H
    · have H := H.2 hc
      refine s_aload_n (pc := 120) dX8_nextToken_120 rfl ?_
      refine s_aload_n (pc := 121) dX8_nextToken_121 rfl ?_
      refine s_geti (pc := 122) (x := h5.1 0 2) dX8_nextToken_122 fl_X8_70 cSm_0 rfl rfl ?_
      refine s_aload_n (pc := 125) dX8_nextToken_125 rfl ?_
      refine s_geti (pc := 126) (x := h5.1 0 3) dX8_nextToken_126 fl_X8_73 cSm_0 rfl rfl ?_
      obtain ⟨k8, H⟩ := H
      refine s_isub (pc := 129) dX8_nextToken_129 k8 ?_
      refine s_iconst (pc := 130) dX8_nextToken_130 (j_cst rfl) ?_
      refine s_icmp_ge (pc := 131) (tgt := 157) dX8_nextToken_131 (by decide) (fun hc => ?_) (fun hc => ?_)
      · have H := H.1 hc
        refine s_bipush (pc := 157) dX8_nextToken_157 rfl (j_cst rfl) ?_
        refine s_puti (pc := 159) dX8_nextToken_159 fp_X8_76 cSm_0 rfl ?_
        refine s_aload_n (pc := 162) dX8_nextToken_162 rfl ?_
        refine s_dup (pc := 163) dX8_nextToken_163 rfl ?_
        refine s_geti (pc := 164) (x := h5.1 0 2) dX8_nextToken_164 fl_X8_70 cSm_0 rfl rfl ?_
        refine s_iconst (pc := 167) dX8_nextToken_167 (j_cst rfl) ?_
        obtain ⟨k9, H⟩ := H
        refine s_iadd (pc := 168) dX8_nextToken_168 k9 ?_
        refine s_puti (pc := 169) dX8_nextToken_169 fp_X8_70 cSm_0 rfl ?_
        refine s_goto (pc := 172) (tgt := 90) dX8_nextToken_172 (by decide) ?_
        exact H
      · have H := H.2 hc
        refine s_bipush (pc := 134) dX8_nextToken_134 rfl (j_cst rfl) ?_
        refine s_aload_n (pc := 136) dX8_nextToken_136 rfl ?_
        refine s_geti (pc := 137) (x := h5.1 0 5) dX8_nextToken_137 fl_X8_76 cSm_0 rfl rfl ?_
        obtain ⟨k10, H⟩ := H
        refine s_imul (pc := 140) dX8_nextToken_140 k10 ?_
        refine s_aload_n (pc := 141) dX8_nextToken_141 rfl ?_
        refine s_getr (pc := 142) dX8_nextToken_142 fl_X8_7 cSm_0 rfl ?_
        refine s_aload_n (pc := 145) dX8_nextToken_145 rfl ?_
        refine s_geti (pc := 146) (x := h5.1 0 2) dX8_nextToken_146 fl_X8_70 cSm_0 rfl rfl ?_
        obtain ⟨k11, H⟩ := H
        refine s_iald (pc := 149) (x := h5.1 1 (Int.toNat (h5.1 0 2))) dX8_nextToken_149 cSm_1 k11 rfl ?_
        obtain ⟨k12, H⟩ := H
        refine s_iadd (pc := 150) dX8_nextToken_150 k12 ?_
        refine s_bipush (pc := 151) dX8_nextToken_151 rfl (j_cst rfl) ?_
        obtain ⟨k13, H⟩ := H
        refine s_isub (pc := 153) dX8_nextToken_153 k13 ?_
        refine s_goto (pc := 154) (tgt := 159) dX8_nextToken_154 (by decide) ?_
        refine s_puti (pc := 159) dX8_nextToken_159 fp_X8_76 cSm_0 rfl ?_
        refine s_aload_n (pc := 162) dX8_nextToken_162 rfl ?_
        refine s_dup (pc := 163) dX8_nextToken_163 rfl ?_
        refine s_geti (pc := 164) (x := h5.1 0 2) dX8_nextToken_164 fl_X8_70 cSm_0 rfl rfl ?_
        refine s_iconst (pc := 167) dX8_nextToken_167 (j_cst rfl) ?_
        obtain ⟨k14, H⟩ := H
        refine s_iadd (pc := 168) dX8_nextToken_168 k14 ?_
        refine s_puti (pc := 169) dX8_nextToken_169 fp_X8_70 cSm_0 rfl ?_
        refine s_goto (pc := 172) (tgt := 90) dX8_nextToken_172 (by decide) ?_
        exact H
theorem en_X8_isEnd_0 {h : jH} {post : jQ} (k : ∀ G, WV Sm G M_X8_isEnd post 0 [jR 0] [] h) : CT Sm M_X8_isEnd [jR 0] h post := CT.of (by decide +kernel) (by simp [j_un]) (Nat.le_of_ble_eq_true rfl) _ rfl k
set_option maxRecDepth 20000 in
theorem vc_X8_isEnd_0_0 {G : jG} {Q : jQ} {h : jH}
    (H : ∃ post : jH → Prop, CT Sm M_X8_nextToken [jR 0] h (jPv post) ∧ ∀ (h2 : jH), post h2 → (((h2.1 0 4) = 59 → Q (some (jI 1)) h2) ∧ (¬ (h2.1 0 4) = 59 → Q (some (jI 0)) h2))) :
    WV Sm G M_X8_isEnd Q 0 [jR 0] [] h := by
  refine s_aload_n (pc := 0) dX8_isEnd_0 rfl ?_
  obtain ⟨post, hct, H⟩ := H
  refine s_callV (pc := 1) (as := []) (st := []) (by exact dX8_isEnd_1) mv_X8_82 ⟨rfl, rfl, Nat.le_of_ble_eq_true rfl, Nat.le_of_ble_eq_true rfl⟩ cSm_0 rfl rfl (Nat.le_of_ble_eq_true rfl) _ rfl hct (fun r1 h2 hp => ?_)
  obtain ⟨rfl, hp⟩ := hp
  have H := H h2 hp
  show WV _ _ _ _ 4 [jR 0] [] h2
  refine s_aload_n (pc := 4) dX8_isEnd_4 rfl ?_
  refine s_geti (pc := 5) (x := h2.1 0 4) dX8_isEnd_5 fl_X8_79 cSm_0 rfl rfl ?_
  refine s_bipush (pc := 8) dX8_isEnd_8 rfl (j_cst rfl) ?_
  refine s_icmp_ne (pc := 10) (tgt := 17) dX8_isEnd_10 (by decide) (fun hc => ?_) (fun hc => ?_)
  · have H := H.2 hc
    refine s_iconst (pc := 17) dX8_isEnd_17 (j_cst rfl) ?_
    exact s_zret dX8_isEnd_18 rfl (Or.inl rfl) H
  · have H := H.1 hc
    refine s_iconst (pc := 13) dX8_isEnd_13 (j_cst rfl) ?_
    refine s_goto (pc := 14) (tgt := 18) dX8_isEnd_14 (by decide) ?_
    exact s_zret dX8_isEnd_18 rfl (Or.inr rfl) H
theorem en_X8_isNumber_0 {x1 x2 : Int} {h : jH} {post : jQ} (k : ∀ G, WV Sm G M_X8_isNumber post 0 [jR 0, jI x1, jI x2] [] h) : CT Sm M_X8_isNumber [jR 0, jI x1, jI x2] h post := CT.of (by decide +kernel) (by simp [j_un]) (Nat.le_of_ble_eq_true rfl) _ rfl k
set_option maxRecDepth 20000 in
theorem vc_X8_isNumber_0_0 {G : jG} {Q : jQ} {x1 x2 : Int} {h : jH}
    (H : ∃ post : jH → Prop, CT Sm M_X8_nextToken [jR 0] h (jPv post) ∧ ∀ (h2 : jH), post h2 → (((h2.1 0 4) = (-1) → ∃ post : Int → jH → Prop, CT Sm M_X8_in [jI (h2.1 0 5), jI x1, jI x2] h2 (jPi post) ∧ ∀ (r3 : Int) (h4 : jH), post r3 h4 → ((r3 = 0 → Q (some (jI 0)) h4) ∧ (¬ r3 = 0 → Q (some (jI 1)) h4))) ∧ (¬ (h2.1 0 4) = (-1) → Q (some (jI 0)) h2))) :
    WV Sm G M_X8_isNumber Q 0 [jR 0, jI x1, jI x2] [] h := by
  refine s_aload_n (pc := 0) dX8_isNumber_0 rfl ?_
  obtain ⟨post, hct, H⟩ := H
  refine s_callV (pc := 1) (as := []) (st := []) (by exact dX8_isNumber_1) mv_X8_82 ⟨rfl, rfl, Nat.le_of_ble_eq_true rfl, Nat.le_of_ble_eq_true rfl⟩ cSm_0 rfl rfl (Nat.le_of_ble_eq_true rfl) _ rfl hct (fun r1 h2 hp => ?_)
  obtain ⟨rfl, hp⟩ := hp
  have H := H h2 hp
  show WV _ _ _ _ 4 [jR 0, jI x1, jI x2] [] h2
  refine s_aload_n (pc := 4) dX8_isNumber_4 rfl ?_
  refine s_geti (pc := 5) (x := h2.1 0 4) dX8_isNumber_5 fl_X8_79 cSm_0 rfl rfl ?_
  refine s_iconst (pc := 8) dX8_isNumber_8 (j_cst rfl) ?_
  refine s_icmp_ne (pc := 9) (tgt := 28) dX8_isNumber_9 (by decide) (fun hc => ?_) (fun hc => ?_)
  · have H := H.2 hc
    refine s_iconst (pc := 28) dX8_isNumber_28 (j_cst rfl) ?_
    exact s_zret dX8_isNumber_29 rfl (Or.inl rfl) H
  · have H := H.1 hc
    refine s_aload_n (pc := 12) dX8_isNumber_12 rfl ?_
    refine s_geti (pc := 13) (x := h2.1 0 5) dX8_isNumber_13 fl_X8_76 cSm_0 rfl rfl ?_
    refine s_iload_n (pc := 16) dX8_isNumber_16 rfl ?_
    refine s_iload_n (pc := 17) dX8_isNumber_17 rfl ?_
    obtain ⟨post, hct, H⟩ := H
    refine s_callS (pc := 18) (as := [jI (h2.1 0 5), jI x1, jI x2]) (st := []) (by exact dX8_isNumber_18) ms_X8_63 ⟨rfl, rfl, Nat.le_of_ble_eq_true rfl, Nat.le_of_ble_eq_true rfl⟩ (Nat.le_of_ble_eq_true rfl) _ rfl hct (fun r3 h4 hp => ?_)
    obtain ⟨r3, rfl, hp⟩ := hp
    have H := H r3 h4 hp
    show WV _ _ _ _ 21 [jR 0, jI x1, jI x2] [jI r3] h4
    refine s_if_eq (pc := 21) (tgt := 28) dX8_isNumber_21 (by decide) (fun hc => ?_) (fun hc => ?_)
    · have H := H.1 hc
      refine s_iconst (pc := 28) dX8_isNumber_28 (j_cst rfl) ?_
      exact s_zret dX8_isNumber_29 rfl (Or.inl rfl) H
    · have H := H.2 hc
      refine s_iconst (pc := 24) dX8_isNumber_24 (j_cst rfl) ?_
      refine s_goto (pc := 25) (tgt := 29) dX8_isNumber_25 (by decide) ?_
      exact s_zret dX8_isNumber_29 rfl (Or.inr rfl) H
theorem en_X8_isCallItem_0 {h : jH} {post : jQ} (k : ∀ G, WV Sm G M_X8_isCallItem post 0 [jR 0, jU, jU, jU] [] h) : CT Sm M_X8_isCallItem [jR 0] h post := CT.of (by decide +kernel) (by simp [j_un]) (Nat.le_of_ble_eq_true rfl) _ rfl k
set_option maxRecDepth 20000 in
theorem vc_X8_isCallItem_0_0 {G : jG} {Q : jQ} {h : jH}
    (H : (j_rg (5 * (h.1 0 11))) ∧ (WV Sm G M_X8_isCallItem Q 9 [jR 0, jI (5 * (h.1 0 11)), jI 0, jU] [] h)) :
    WV Sm G M_X8_isCallItem Q 0 [jR 0, jU, jU, jU] [] h := by
  refine s_iconst (pc := 0) dX8_isCallItem_0 (j_cst rfl) ?_
  refine s_aload_n (pc := 1) dX8_isCallItem_1 rfl ?_
  refine s_geti (pc := 2) (x := h.1 0 11) dX8_isCallItem_2 fl_X8_96 cSm_0 rfl rfl ?_
  obtain ⟨k1, H⟩ := H
  refine s_imul (pc := 5) dX8_isCallItem_5 k1 ?_
  refine s_istore_n (pc := 6) (lv' := [jR 0, jI (5 * (h.1 0 11)), jU, jU]) dX8_isCallItem_6 (by decide) rfl ?_
  refine s_iconst (pc := 7) dX8_isCallItem_7 (j_cst rfl) ?_
  refine s_istore_n (pc := 8) (lv' := [jR 0, jI (5 * (h.1 0 11)), jI 0, jU]) dX8_isCallItem_8 (by decide) rfl ?_
  exact H
set_option maxRecDepth 20000 in
theorem vc_X8_isCallItem_0_9 {G : jG} {Q : jQ} {x1 x2 : Int} {u3 : jV} {h : jH}
    (H : (5 ≤ x2 → (j_rg ((h.1 0 11) + 1)) ∧ (∃ post : Int → jH → Prop, CT Sm M_X8_isEnd [jR 0] (j_up h 0 11 ((h.1 0 11) + 1)) (jPi post) ∧ ∀ (r2 : Int) (h3 : jH), post r2 h3 → ((r2 = 0 ∨ r2 = 1) ∧ (Q (some (jI r2)) h3)))) ∧ (¬ 5 ≤ x2 → (x2 = 0 → WV Sm G M_X8_isCallItem Q 49 [jR 0, jI x1, jI x2, u3] [jI 40] h) ∧ (¬ x2 = 0 → (3 ≤ x2 → (x2 = 3 → WV Sm G M_X8_isCallItem Q 49 [jR 0, jI x1, jI x2, u3] [jI 20] h) ∧ (¬ x2 = 3 → WV Sm G M_X8_isCallItem Q 49 [jR 0, jI x1, jI x2, u3] [jI 9] h)) ∧ (¬ 3 ≤ x2 → (j_rg ((h.1 0 7) - 1)) ∧ (WV Sm G M_X8_isCallItem Q 49 [jR 0, jI x1, jI x2, u3] [jI ((h.1 0 7) - 1)] h))))) :
    WV Sm G M_X8_isCallItem Q 9 [jR 0, jI x1, jI x2, u3] [] h := by
  refine s_iload_n (pc := 9) dX8_isCallItem_9 rfl ?_
  refine s_iconst (pc := 10) dX8_isCallItem_10 (j_cst rfl) ?_
  refine s_icmp_ge (pc := 11) (tgt := 108) dX8_isCallItem_11 (by decide) (fun hc => ?_) (fun hc => ?_)
  · have H := H.1 hc
    refine s_aload_n (pc := 108) dX8_isCallItem_108 rfl ?_
    refine s_dup (pc := 109) dX8_isCallItem_109 rfl ?_
    refine s_geti (pc := 110) (x := h.1 0 11) dX8_isCallItem_110 fl_X8_96 cSm_0 rfl rfl ?_
    refine s_iconst (pc := 113) dX8_isCallItem_113 (j_cst rfl) ?_
    obtain ⟨k1, H⟩ := H
    refine s_iadd (pc := 114) dX8_isCallItem_114 k1 ?_
    refine s_puti (pc := 115) dX8_isCallItem_115 fp_X8_96 cSm_0 rfl ?_
    refine s_aload_n (pc := 118) dX8_isCallItem_118 rfl ?_
    obtain ⟨post, hct, H⟩ := H
    refine s_callV (pc := 119) (as := []) (st := []) (by exact dX8_isCallItem_119) mv_X8_92 ⟨rfl, rfl, Nat.le_of_ble_eq_true rfl, Nat.le_of_ble_eq_true rfl⟩ cSm_0 rfl rfl (Nat.le_of_ble_eq_true rfl) _ rfl hct (fun r2 h3 hp => ?_)
    obtain ⟨r2, rfl, hp⟩ := hp
    have H := H r2 h3 hp
    show WV _ _ _ _ 122 [jR 0, jI x1, jI x2, u3] [jI r2] h3
    obtain ⟨k4, H⟩ := H
    exact s_zret dX8_isCallItem_122 rfl k4 H
  · have H := H.2 hc
    refine s_iload_n (pc := 14) dX8_isCallItem_14 rfl ?_
    refine s_if_ne (pc := 15) (tgt := 23) dX8_isCallItem_15 (by decide) (fun hc => ?_) (fun hc => ?_)
    · have H := H.2 hc
      refine s_iload_n (pc := 23) dX8_isCallItem_23 rfl ?_
      refine s_iconst (pc := 24) dX8_isCallItem_24 (j_cst rfl) ?_
      refine s_icmp_ge (pc := 25) (tgt := 37) dX8_isCallItem_25 (by decide) (fun hc => ?_) (fun hc => ?_)
      · have H := H.1 hc
        refine s_iload_n (pc := 37) dX8_isCallItem_37 rfl ?_
        refine s_iconst (pc := 38) dX8_isCallItem_38 (j_cst rfl) ?_
        refine s_icmp_ne (pc := 39) (tgt := 47) dX8_isCallItem_39 (by decide) (fun hc => ?_) (fun hc => ?_)
        · have H := H.2 hc
          refine s_bipush (pc := 47) dX8_isCallItem_47 rfl (j_cst rfl) ?_
          exact H
        · have H := H.1 hc
          refine s_bipush (pc := 42) dX8_isCallItem_42 rfl (j_cst rfl) ?_
          refine s_goto (pc := 44) (tgt := 49) dX8_isCallItem_44 (by decide) ?_
          exact H
      · have H := H.2 hc
        refine s_aload_n (pc := 28) dX8_isCallItem_28 rfl ?_
        refine s_geti (pc := 29) (x := h.1 0 7) dX8_isCallItem_29 fl_X8_85 cSm_0 rfl rfl ?_
        refine s_iconst (pc := 32) dX8_isCallItem_32 (j_cst rfl) ?_
        obtain ⟨k5, H⟩ := H
        refine s_isub (pc := 33) dX8_isCallItem_33 k5 ?_
        refine s_goto (pc := 34) (tgt := 49) dX8_isCallItem_34 (by decide) ?_
        exact H
    · have H := H.1 hc
      refine s_bipush (pc := 18) dX8_isCallItem_18 rfl (j_cst rfl) ?_
      refine s_goto (pc := 20) (tgt := 49) dX8_isCallItem_20 (by decide) ?_
      exact H
set_option maxRecDepth 20000 in
theorem vc_X8_isCallItem_0_49 {G : jG} {Q : jQ} {x1 x2 y0 : Int} {u3 : jV} {h : jH}
    (H : (x2 = 3 → WV Sm G M_X8_isCallItem Q 61 [jR 0, jI x1, jI x2, jI y0] [jI 1, jR 0] h) ∧ (¬ x2 = 3 → WV Sm G M_X8_isCallItem Q 61 [jR 0, jI x1, jI x2, jI y0] [jI 0, jR 0] h)) :
    WV Sm G M_X8_isCallItem Q 49 [jR 0, jI x1, jI x2, u3] [jI y0] h := by
  refine s_istore_n (pc := 49) (lv' := [jR 0, jI x1, jI x2, jI y0]) dX8_isCallItem_49 (by decide) rfl ?_
  refine s_aload_n (pc := 50) dX8_isCallItem_50 rfl ?_
  refine s_iload_n (pc := 51) dX8_isCallItem_51 rfl ?_
  refine s_iconst (pc := 52) dX8_isCallItem_52 (j_cst rfl) ?_
  refine s_icmp_ne (pc := 53) (tgt := 60) dX8_isCallItem_53 (by decide) (fun hc => ?_) (fun hc => ?_)
  · have H := H.2 hc
    refine s_iconst (pc := 60) dX8_isCallItem_60 (j_cst rfl) ?_
    exact H
  · have H := H.1 hc
    refine s_iconst (pc := 56) dX8_isCallItem_56 (j_cst rfl) ?_
    refine s_goto (pc := 57) (tgt := 61) dX8_isCallItem_57 (by decide) ?_
    exact H
set_option maxRecDepth 20000 in
theorem vc_X8_isCallItem_0_61 {G : jG} {Q : jQ} {x1 x2 x3 y0 : Int} {h : jH}
    (H : ∃ post : Int → jH → Prop, CT Sm M_X8_isNumber [jR 0, jI y0, jI x3] h (jPi post) ∧ ∀ (r1 : Int) (h2 : jH), post r1 h2 → ((r1 = 0 → WV Sm G M_X8_isCallItem Q 88 [jR 0, jI x1, jI x2, jI x3] [] h2) ∧ (¬ r1 = 0 → (x2 = 2 → (j_rg (x1 + 1)) ∧ ((0 ≤ x1 + 1 ∧ x1 + 1 < 35) ∧ (((h2.1 0 5) = (h2.1 3 (Int.toNat (x1 + 1))) → WV Sm G M_X8_isCallItem Q 88 [jR 0, jI x1, jI x2, jI x3] [] h2) ∧ (¬ (h2.1 0 5) = (h2.1 3 (Int.toNat (x1 + 1))) → WV Sm G M_X8_isCallItem Q 90 [jR 0, jI x1, jI x2, jI x3] [] h2)))) ∧ (¬ x2 = 2 → WV Sm G M_X8_isCallItem Q 90 [jR 0, jI x1, jI x2, jI x3] [] h2)))) :
    WV Sm G M_X8_isCallItem Q 61 [jR 0, jI x1, jI x2, jI x3] [jI y0, jR 0] h := by
  refine s_iload_n (pc := 61) dX8_isCallItem_61 rfl ?_
  obtain ⟨post, hct, H⟩ := H
  refine s_callV (pc := 62) (as := [jI y0, jI x3]) (st := []) (by exact dX8_isCallItem_62) mv_X8_88 ⟨rfl, rfl, Nat.le_of_ble_eq_true rfl, Nat.le_of_ble_eq_true rfl⟩ cSm_0 rfl rfl (Nat.le_of_ble_eq_true rfl) _ rfl hct (fun r1 h2 hp => ?_)
  obtain ⟨r1, rfl, hp⟩ := hp
  have H := H r1 h2 hp
  show WV _ _ _ _ 65 [jR 0, jI x1, jI x2, jI x3] [jI r1] h2
  refine s_if_eq (pc := 65) (tgt := 88) dX8_isCallItem_65 (by decide) (fun hc => ?_) (fun hc => ?_)
  · have H := H.1 hc
    exact H
  · have H := H.2 hc
    refine s_iload_n (pc := 68) dX8_isCallItem_68 rfl ?_
    refine s_iconst (pc := 69) dX8_isCallItem_69 (j_cst rfl) ?_
    refine s_icmp_ne (pc := 70) (tgt := 90) dX8_isCallItem_70 (by decide) (fun hc => ?_) (fun hc => ?_)
    · have H := H.2 hc
      exact H
    · have H := H.1 hc
      refine s_aload_n (pc := 73) dX8_isCallItem_73 rfl ?_
      refine s_geti (pc := 74) (x := h2.1 0 5) dX8_isCallItem_74 fl_X8_76 cSm_0 rfl rfl ?_
      refine s_aload_n (pc := 77) dX8_isCallItem_77 rfl ?_
      refine s_getr (pc := 78) dX8_isCallItem_78 fl_X8_16 cSm_0 rfl ?_
      refine s_iload_n (pc := 81) dX8_isCallItem_81 rfl ?_
      refine s_iconst (pc := 82) dX8_isCallItem_82 (j_cst rfl) ?_
      obtain ⟨k3, H⟩ := H
      refine s_iadd (pc := 83) dX8_isCallItem_83 k3 ?_
      obtain ⟨k4, H⟩ := H
      refine s_iald (pc := 84) (x := h2.1 3 (Int.toNat (x1 + 1))) dX8_isCallItem_84 cSm_3 k4 rfl ?_
      refine s_icmp_ne (pc := 85) (tgt := 90) dX8_isCallItem_85 (by decide) (fun hc => ?_) (fun hc => ?_)
      · have H := H.2 hc
        exact H
      · have H := H.1 hc
        exact H
set_option maxRecDepth 20000 in
theorem vc_X8_isCallItem_0_88 {G : jG} {Q : jQ} {x1 x2 x3 : Int} {h : jH}
    (H : Q (some (jI 0)) h) :
    WV Sm G M_X8_isCallItem Q 88 [jR 0, jI x1, jI x2, jI x3] [] h := by
  refine s_iconst (pc := 88) dX8_isCallItem_88 (j_cst rfl) ?_
  exact s_zret dX8_isCallItem_89 rfl (Or.inl rfl) H
set_option maxRecDepth 20000 in
theorem vc_X8_isCallItem_0_90 {G : jG} {Q : jQ} {x1 x2 x3 : Int} {h : jH}
    (H : (j_rg (x1 + x2)) ∧ ((0 ≤ x1 + x2 ∧ x1 + x2 < 35) ∧ ((j_rg (x2 + 1)) ∧ (WV Sm G M_X8_isCallItem Q 9 [jR 0, jI x1, jI (x2 + 1), jI x3] [] (j_up h 3 (Int.toNat (x1 + x2)) (h.1 0 5)))))) :
    WV Sm G M_X8_isCallItem Q 90 [jR 0, jI x1, jI x2, jI x3] [] h := by
  refine s_aload_n (pc := 90) dX8_isCallItem_90 rfl ?_
  refine s_getr (pc := 91) dX8_isCallItem_91 fl_X8_16 cSm_0 rfl ?_
  refine s_iload_n (pc := 94) dX8_isCallItem_94 rfl ?_
  refine s_iload_n (pc := 95) dX8_isCallItem_95 rfl ?_
  obtain ⟨k1, H⟩ := H
  refine s_iadd (pc := 96) dX8_isCallItem_96 k1 ?_
  refine s_aload_n (pc := 97) dX8_isCallItem_97 rfl ?_
  refine s_geti (pc := 98) (x := h.1 0 5) dX8_isCallItem_98 fl_X8_76 cSm_0 rfl rfl ?_
  obtain ⟨k2, H⟩ := H
  refine s_iast (pc := 101) dX8_isCallItem_101 cSm_3 k2 ?_
  obtain ⟨k3, H⟩ := H
  refine s_iinc (pc := 102) (lv' := [jR 0, jI x1, jI (x2 + 1), jI x3]) dX8_isCallItem_102 rfl (by decide) k3 rfl ?_
  refine s_goto (pc := 105) (tgt := 9) dX8_isCallItem_105 (by decide) ?_
  exact H
theorem en_X8_isHole_0 {h : jH} {post : jQ} (k : ∀ G, WV Sm G M_X8_isHole post 0 [jR 0, jU, jU] [] h) : CT Sm M_X8_isHole [jR 0] h post := CT.of (by decide +kernel) (by simp [j_un]) (Nat.le_of_ble_eq_true rfl) _ rfl k
set_option maxRecDepth 20000 in
theorem vc_X8_isHole_0_0 {G : jG} {Q : jQ} {h : jH}
    (H : (j_rg ((h.1 0 7) - 1)) ∧ (∃ post : Int → jH → Prop, CT Sm M_X8_isNumber [jR 0, jI 0, jI ((h.1 0 7) - 1)] h (jPi post) ∧ ∀ (r2 : Int) (h3 : jH), post r2 h3 → ((r2 = 0 → Q (some (jI 0)) h3) ∧ (¬ r2 = 0 → (j_rg ((h3.1 0 7) - 1)) ∧ (∃ post : Int → jH → Prop, CT Sm M_X8_isNumber [jR 0, jI 0, jI ((h3.1 0 7) - 1)] h3 (jPi post) ∧ ∀ (r5 : Int) (h6 : jH), post r5 h6 → ((r5 = 0 → Q (some (jI 0)) h6) ∧ (¬ r5 = 0 → WV Sm G M_X8_isHole Q 39 [jR 0, jI (h3.1 0 5), jI 0] [] h6))))))) :
    WV Sm G M_X8_isHole Q 0 [jR 0, jU, jU] [] h := by
  refine s_aload_n (pc := 0) dX8_isHole_0 rfl ?_
  refine s_iconst (pc := 1) dX8_isHole_1 (j_cst rfl) ?_
  refine s_aload_n (pc := 2) dX8_isHole_2 rfl ?_
  refine s_geti (pc := 3) (x := h.1 0 7) dX8_isHole_3 fl_X8_85 cSm_0 rfl rfl ?_
  refine s_iconst (pc := 6) dX8_isHole_6 (j_cst rfl) ?_
  obtain ⟨k1, H⟩ := H
  refine s_isub (pc := 7) dX8_isHole_7 k1 ?_
  obtain ⟨post, hct, H⟩ := H
  refine s_callV (pc := 8) (as := [jI 0, jI ((h.1 0 7) - 1)]) (st := []) (by exact dX8_isHole_8) mv_X8_88 ⟨rfl, rfl, Nat.le_of_ble_eq_true rfl, Nat.le_of_ble_eq_true rfl⟩ cSm_0 rfl rfl (Nat.le_of_ble_eq_true rfl) _ rfl hct (fun r2 h3 hp => ?_)
  obtain ⟨r2, rfl, hp⟩ := hp
  have H := H r2 h3 hp
  show WV _ _ _ _ 11 [jR 0, jU, jU] [jI r2] h3
  refine s_if_ne (pc := 11) (tgt := 16) dX8_isHole_11 (by decide) (fun hc => ?_) (fun hc => ?_)
  · have H := H.2 hc
    refine s_aload_n (pc := 16) dX8_isHole_16 rfl ?_
    refine s_geti (pc := 17) (x := h3.1 0 5) dX8_isHole_17 fl_X8_76 cSm_0 rfl rfl ?_
    refine s_istore_n (pc := 20) (lv' := [jR 0, jI (h3.1 0 5), jU]) dX8_isHole_20 (by decide) rfl ?_
    refine s_aload_n (pc := 21) dX8_isHole_21 rfl ?_
    refine s_iconst (pc := 22) dX8_isHole_22 (j_cst rfl) ?_
    refine s_aload_n (pc := 23) dX8_isHole_23 rfl ?_
    refine s_geti (pc := 24) (x := h3.1 0 7) dX8_isHole_24 fl_X8_85 cSm_0 rfl rfl ?_
    refine s_iconst (pc := 27) dX8_isHole_27 (j_cst rfl) ?_
    obtain ⟨k4, H⟩ := H
    refine s_isub (pc := 28) dX8_isHole_28 k4 ?_
    obtain ⟨post, hct, H⟩ := H
    refine s_callV (pc := 29) (as := [jI 0, jI ((h3.1 0 7) - 1)]) (st := []) (by exact dX8_isHole_29) mv_X8_88 ⟨rfl, rfl, Nat.le_of_ble_eq_true rfl, Nat.le_of_ble_eq_true rfl⟩ cSm_0 rfl rfl (Nat.le_of_ble_eq_true rfl) _ rfl hct (fun r5 h6 hp => ?_)
    obtain ⟨r5, rfl, hp⟩ := hp
    have H := H r5 h6 hp
    show WV _ _ _ _ 32 [jR 0, jI (h3.1 0 5), jU] [jI r5] h6
    refine s_if_ne (pc := 32) (tgt := 37) dX8_isHole_32 (by decide) (fun hc => ?_) (fun hc => ?_)
    · have H := H.2 hc
      refine s_iconst (pc := 37) dX8_isHole_37 (j_cst rfl) ?_
      refine s_istore_n (pc := 38) (lv' := [jR 0, jI (h3.1 0 5), jI 0]) dX8_isHole_38 (by decide) rfl ?_
      exact H
    · have H := H.1 hc
      refine s_iconst (pc := 35) dX8_isHole_35 (j_cst rfl) ?_
      exact s_zret dX8_isHole_36 rfl (Or.inl rfl) H
  · have H := H.1 hc
    refine s_iconst (pc := 14) dX8_isHole_14 (j_cst rfl) ?_
    exact s_zret dX8_isHole_15 rfl (Or.inl rfl) H
set_option maxRecDepth 20000 in
theorem vc_X8_isHole_0_39 {G : jG} {Q : jQ} {x1 x2 : Int} {h : jH}
    (H : ((h.1 0 7) ≤ x2 → (0 ≤ x1 ∧ x1 < 6) ∧ (∃ post : Int → jH → Prop, CT Sm M_X8_isEnd [jR 0] (j_up h 2 (Int.toNat x1) (h.1 0 5)) (jPi post) ∧ ∀ (r2 : Int) (h3 : jH), post r2 h3 → ((r2 = 0 ∨ r2 = 1) ∧ (Q (some (jI r2)) h3)))) ∧ (¬ (h.1 0 7) ≤ x2 → (x2 = x1 → (0 ≤ x2 ∧ x2 < 6) ∧ ((j_rg (x2 + 1)) ∧ (WV Sm G M_X8_isHole Q 39 [jR 0, jI x1, jI (x2 + 1)] [] (j_up h 2 (Int.toNat x2) (h.1 2 (Int.toNat x2)))))) ∧ (¬ x2 = x1 → (0 ≤ x2 ∧ x2 < 6) ∧ (((h.1 2 (Int.toNat x2)) = (h.1 0 5) → (0 ≤ x1 ∧ x1 < 6) ∧ ((j_rg (x2 + 1)) ∧ (WV Sm G M_X8_isHole Q 39 [jR 0, jI x1, jI (x2 + 1)] [] (j_up h 2 (Int.toNat x2) (h.1 2 (Int.toNat x1)))))) ∧ (¬ (h.1 2 (Int.toNat x2)) = (h.1 0 5) → (j_rg (x2 + 1)) ∧ (WV Sm G M_X8_isHole Q 39 [jR 0, jI x1, jI (x2 + 1)] [] (j_up h 2 (Int.toNat x2) (h.1 2 (Int.toNat x2))))))))) :
    WV Sm G M_X8_isHole Q 39 [jR 0, jI x1, jI x2] [] h := by
  refine s_iload_n (pc := 39) dX8_isHole_39 rfl ?_
  refine s_aload_n (pc := 40) dX8_isHole_40 rfl ?_
  refine s_geti (pc := 41) (x := h.1 0 7) dX8_isHole_41 fl_X8_85 cSm_0 rfl rfl ?_
  refine s_icmp_ge (pc := 44) (tgt := 92) dX8_isHole_44 (by decide) (fun hc => ?_) (fun hc => ?_)
  · have H := H.1 hc
    refine s_aload_n (pc := 92) dX8_isHole_92 rfl ?_
    refine s_getr (pc := 93) dX8_isHole_93 fl_X8_13 cSm_0 rfl ?_
    refine s_iload_n (pc := 96) dX8_isHole_96 rfl ?_
    refine s_aload_n (pc := 97) dX8_isHole_97 rfl ?_
    refine s_geti (pc := 98) (x := h.1 0 5) dX8_isHole_98 fl_X8_76 cSm_0 rfl rfl ?_
    obtain ⟨k1, H⟩ := H
    refine s_iast (pc := 101) dX8_isHole_101 cSm_2 k1 ?_
    refine s_aload_n (pc := 102) dX8_isHole_102 rfl ?_
    obtain ⟨post, hct, H⟩ := H
    refine s_callV (pc := 103) (as := []) (st := []) (by exact dX8_isHole_103) mv_X8_92 ⟨rfl, rfl, Nat.le_of_ble_eq_true rfl, Nat.le_of_ble_eq_true rfl⟩ cSm_0 rfl rfl (Nat.le_of_ble_eq_true rfl) _ rfl hct (fun r2 h3 hp => ?_)
    obtain ⟨r2, rfl, hp⟩ := hp
    have H := H r2 h3 hp
    show WV _ _ _ _ 106 [jR 0, jI x1, jI x2] [jI r2] h3
    obtain ⟨k4, H⟩ := H
    exact s_zret dX8_isHole_106 rfl k4 H
  · have H := H.2 hc
    refine s_aload_n (pc := 47) dX8_isHole_47 rfl ?_
    refine s_getr (pc := 48) dX8_isHole_48 fl_X8_13 cSm_0 rfl ?_
    refine s_iload_n (pc := 51) dX8_isHole_51 rfl ?_
    refine s_iload_n (pc := 52) dX8_isHole_52 rfl ?_
    refine s_iload_n (pc := 53) dX8_isHole_53 rfl ?_
    refine s_icmp_eq (pc := 54) (tgt := 79) dX8_isHole_54 (by decide) (fun hc => ?_) (fun hc => ?_)
    · have H := H.1 hc
      refine s_aload_n (pc := 79) dX8_isHole_79 rfl ?_
      refine s_getr (pc := 80) dX8_isHole_80 fl_X8_13 cSm_0 rfl ?_
      refine s_iload_n (pc := 83) dX8_isHole_83 rfl ?_
      obtain ⟨k5, H⟩ := H
      refine s_iald (pc := 84) (x := h.1 2 (Int.toNat x2)) dX8_isHole_84 cSm_2 k5 rfl ?_
      refine s_iast (pc := 85) dX8_isHole_85 cSm_2 k5 ?_
      obtain ⟨k6, H⟩ := H
      refine s_iinc (pc := 86) (lv' := [jR 0, jI x1, jI (x2 + 1)]) dX8_isHole_86 rfl (by decide) k6 rfl ?_
      refine s_goto (pc := 89) (tgt := 39) dX8_isHole_89 (by decide) ?_
      exact H
    · have H := H.2 hc
      refine s_aload_n (pc := 57) dX8_isHole_57 rfl ?_
      refine s_getr (pc := 58) dX8_isHole_58 fl_X8_13 cSm_0 rfl ?_
      refine s_iload_n (pc := 61) dX8_isHole_61 rfl ?_
      obtain ⟨k7, H⟩ := H
      refine s_iald (pc := 62) (x := h.1 2 (Int.toNat x2)) dX8_isHole_62 cSm_2 k7 rfl ?_
      refine s_aload_n (pc := 63) dX8_isHole_63 rfl ?_
      refine s_geti (pc := 64) (x := h.1 0 5) dX8_isHole_64 fl_X8_76 cSm_0 rfl rfl ?_
      refine s_icmp_ne (pc := 67) (tgt := 79) dX8_isHole_67 (by decide) (fun hc => ?_) (fun hc => ?_)
      · have H := H.2 hc
        refine s_aload_n (pc := 79) dX8_isHole_79 rfl ?_
        refine s_getr (pc := 80) dX8_isHole_80 fl_X8_13 cSm_0 rfl ?_
        refine s_iload_n (pc := 83) dX8_isHole_83 rfl ?_
        refine s_iald (pc := 84) (x := h.1 2 (Int.toNat x2)) dX8_isHole_84 cSm_2 k7 rfl ?_
        refine s_iast (pc := 85) dX8_isHole_85 cSm_2 k7 ?_
        obtain ⟨k8, H⟩ := H
        refine s_iinc (pc := 86) (lv' := [jR 0, jI x1, jI (x2 + 1)]) dX8_isHole_86 rfl (by decide) k8 rfl ?_
        refine s_goto (pc := 89) (tgt := 39) dX8_isHole_89 (by decide) ?_
        exact H
      · have H := H.1 hc
        refine s_aload_n (pc := 70) dX8_isHole_70 rfl ?_
        refine s_getr (pc := 71) dX8_isHole_71 fl_X8_13 cSm_0 rfl ?_
        refine s_iload_n (pc := 74) dX8_isHole_74 rfl ?_
        obtain ⟨k9, H⟩ := H
        refine s_iald (pc := 75) (x := h.1 2 (Int.toNat x1)) dX8_isHole_75 cSm_2 k9 rfl ?_
        refine s_goto (pc := 76) (tgt := 85) dX8_isHole_76 (by decide) ?_
        refine s_iast (pc := 85) dX8_isHole_85 cSm_2 k7 ?_
        obtain ⟨k10, H⟩ := H
        refine s_iinc (pc := 86) (lv' := [jR 0, jI x1, jI (x2 + 1)]) dX8_isHole_86 rfl (by decide) k10 rfl ?_
        refine s_goto (pc := 89) (tgt := 39) dX8_isHole_89 (by decide) ?_
        exact H
theorem en_X8_isItem_0 {h : jH} {post : jQ} (k : ∀ G, WV Sm G M_X8_isItem post 0 [jR 0] [] h) : CT Sm M_X8_isItem [jR 0] h post := CT.of (by decide +kernel) (by simp [j_un]) (Nat.le_of_ble_eq_true rfl) _ rfl k
set_option maxRecDepth 20000 in
theorem vc_X8_isItem_0_0 {G : jG} {Q : jQ} {h : jH}
    (H : ((h.1 0 4) = 108 → ((h.1 0 6) = 0 → ∃ post : Int → jH → Prop, CT Sm M_X8_isNumber [jR 0, jI 2, jI 6] h (jPi post) ∧ ∀ (r31 : Int) (h32 : jH), post r31 h32 → ((r31 = 0 → Q (some (jI 0)) h32) ∧ (¬ r31 = 0 → ∃ post : Int → jH → Prop, CT Sm M_X8_isEnd [jR 0] (j_up h32 0 7 (h32.1 0 5)) (jPi post) ∧ ∀ (r33 : Int) (h34 : jH), post r33 h34 → ((r33 = 0 ∨ r33 = 1) ∧ (Q (some (jI r33)) h34))))) ∧ (¬ (h.1 0 6) = 0 → ((h.1 0 4) = 120 → ((h.1 0 9) = 0 → ∃ post : Int → jH → Prop, CT Sm M_X8_isNumber [jR 0, jI 1, jI 4] (j_up h 0 9 1) (jPi post) ∧ ∀ (r26 : Int) (h27 : jH), post r26 h27 → ((r26 = 0 → Q (some (jI 0)) h27) ∧ (¬ r26 = 0 → ∃ post : Int → jH → Prop, CT Sm M_X8_isEnd [jR 0] (j_up h27 0 8 (h27.1 0 5)) (jPi post) ∧ ∀ (r28 : Int) (h29 : jH), post r28 h29 → ((r28 = 0 ∨ r28 = 1) ∧ (Q (some (jI r28)) h29))))) ∧ (¬ (h.1 0 9) = 0 → ((h.1 0 4) = 104 → ∃ post : Int → jH → Prop, CT Sm M_X8_isHole [jR 0] h (jPi post) ∧ ∀ (r23 : Int) (h24 : jH), post r23 h24 → ((r23 = 0 ∨ r23 = 1) ∧ (Q (some (jI r23)) h24))) ∧ (¬ (h.1 0 4) = 104 → ((h.1 0 4) = 99 → (7 ≤ (h.1 0 11) → Q (some (jI 0)) h) ∧ (¬ 7 ≤ (h.1 0 11) → ∃ post : Int → jH → Prop, CT Sm M_X8_isCallItem [jR 0] h (jPi post) ∧ ∀ (r21 : Int) (h22 : jH), post r21 h22 → ((r21 = 0 → Q (some (jI 0)) h22) ∧ (¬ r21 = 0 → Q (some (jI 1)) h22)))) ∧ (¬ (h.1 0 4) = 99 → Q (some (jI 0)) h)))) ∧ (¬ (h.1 0 4) = 120 → ((h.1 0 4) = 104 → ∃ post : Int → jH → Prop, CT Sm M_X8_isHole [jR 0] h (jPi post) ∧ ∀ (r18 : Int) (h19 : jH), post r18 h19 → ((r18 = 0 ∨ r18 = 1) ∧ (Q (some (jI r18)) h19))) ∧ (¬ (h.1 0 4) = 104 → ((h.1 0 4) = 99 → (7 ≤ (h.1 0 11) → Q (some (jI 0)) h) ∧ (¬ 7 ≤ (h.1 0 11) → ∃ post : Int → jH → Prop, CT Sm M_X8_isCallItem [jR 0] h (jPi post) ∧ ∀ (r16 : Int) (h17 : jH), post r16 h17 → ((r16 = 0 → Q (some (jI 0)) h17) ∧ (¬ r16 = 0 → Q (some (jI 1)) h17)))) ∧ (¬ (h.1 0 4) = 99 → Q (some (jI 0)) h))))) ∧ (¬ (h.1 0 4) = 108 → ((h.1 0 4) = 120 → ((h.1 0 9) = 0 → ∃ post : Int → jH → Prop, CT Sm M_X8_isNumber [jR 0, jI 1, jI 4] (j_up h 0 9 1) (jPi post) ∧ ∀ (r11 : Int) (h12 : jH), post r11 h12 → ((r11 = 0 → Q (some (jI 0)) h12) ∧ (¬ r11 = 0 → ∃ post : Int → jH → Prop, CT Sm M_X8_isEnd [jR 0] (j_up h12 0 8 (h12.1 0 5)) (jPi post) ∧ ∀ (r13 : Int) (h14 : jH), post r13 h14 → ((r13 = 0 ∨ r13 = 1) ∧ (Q (some (jI r13)) h14))))) ∧ (¬ (h.1 0 9) = 0 → ((h.1 0 4) = 104 → ∃ post : Int → jH → Prop, CT Sm M_X8_isHole [jR 0] h (jPi post) ∧ ∀ (r8 : Int) (h9 : jH), post r8 h9 → ((r8 = 0 ∨ r8 = 1) ∧ (Q (some (jI r8)) h9))) ∧ (¬ (h.1 0 4) = 104 → ((h.1 0 4) = 99 → (7 ≤ (h.1 0 11) → Q (some (jI 0)) h) ∧ (¬ 7 ≤ (h.1 0 11) → ∃ post : Int → jH → Prop, CT Sm M_X8_isCallItem [jR 0] h (jPi post) ∧ ∀ (r6 : Int) (h7 : jH), post r6 h7 → ((r6 = 0 → Q (some (jI 0)) h7) ∧ (¬ r6 = 0 → Q (some (jI 1)) h7)))) ∧ (¬ (h.1 0 4) = 99 → Q (some (jI 0)) h)))) ∧ (¬ (h.1 0 4) = 120 → ((h.1 0 4) = 104 → ∃ post : Int → jH → Prop, CT Sm M_X8_isHole [jR 0] h (jPi post) ∧ ∀ (r3 : Int) (h4 : jH), post r3 h4 → ((r3 = 0 ∨ r3 = 1) ∧ (Q (some (jI r3)) h4))) ∧ (¬ (h.1 0 4) = 104 → ((h.1 0 4) = 99 → (7 ≤ (h.1 0 11) → Q (some (jI 0)) h) ∧ (¬ 7 ≤ (h.1 0 11) → ∃ post : Int → jH → Prop, CT Sm M_X8_isCallItem [jR 0] h (jPi post) ∧ ∀ (r1 : Int) (h2 : jH), post r1 h2 → ((r1 = 0 → Q (some (jI 0)) h2) ∧ (¬ r1 = 0 → Q (some (jI 1)) h2)))) ∧ (¬ (h.1 0 4) = 99 → Q (some (jI 0)) h))))) :
    WV Sm G M_X8_isItem Q 0 [jR 0] [] h := by
  refine s_aload_n (pc := 0) dX8_isItem_0 rfl ?_
  refine s_geti (pc := 1) (x := h.1 0 4) dX8_isItem_1 fl_X8_79 cSm_0 rfl rfl ?_
  refine s_bipush (pc := 4) dX8_isItem_4 rfl (j_cst rfl) ?_
  refine s_icmp_ne (pc := 6) (tgt := 41) dX8_isItem_6 (by decide) (fun hc => ?_) (fun hc => ?_)
  · have H := H.2 hc
    refine s_aload_n (pc := 41) dX8_isItem_41 rfl ?_
    refine s_geti (pc := 42) (x := h.1 0 4) dX8_isItem_42 fl_X8_79 cSm_0 rfl rfl ?_
    refine s_bipush (pc := 45) dX8_isItem_45 rfl (j_cst rfl) ?_
    refine s_icmp_ne (pc := 47) (tgt := 86) dX8_isItem_47 (by decide) (fun hc => ?_) (fun hc => ?_)
    · have H := H.2 hc
      refine s_aload_n (pc := 86) dX8_isItem_86 rfl ?_
      refine s_geti (pc := 87) (x := h.1 0 4) dX8_isItem_87 fl_X8_79 cSm_0 rfl rfl ?_
      refine s_bipush (pc := 90) dX8_isItem_90 rfl (j_cst rfl) ?_
      refine s_icmp_ne (pc := 92) (tgt := 100) dX8_isItem_92 (by decide) (fun hc => ?_) (fun hc => ?_)
      · have H := H.2 hc
        refine s_aload_n (pc := 100) dX8_isItem_100 rfl ?_
        refine s_geti (pc := 101) (x := h.1 0 4) dX8_isItem_101 fl_X8_79 cSm_0 rfl rfl ?_
        refine s_bipush (pc := 104) dX8_isItem_104 rfl (j_cst rfl) ?_
        refine s_icmp_ne (pc := 106) (tgt := 129) dX8_isItem_106 (by decide) (fun hc => ?_) (fun hc => ?_)
        · have H := H.2 hc
          refine s_iconst (pc := 129) dX8_isItem_129 (j_cst rfl) ?_
          exact s_zret dX8_isItem_130 rfl (Or.inl rfl) H
        · have H := H.1 hc
          refine s_aload_n (pc := 109) dX8_isItem_109 rfl ?_
          refine s_geti (pc := 110) (x := h.1 0 11) dX8_isItem_110 fl_X8_96 cSm_0 rfl rfl ?_
          refine s_bipush (pc := 113) dX8_isItem_113 rfl (j_cst rfl) ?_
          refine s_icmp_ge (pc := 115) (tgt := 129) dX8_isItem_115 (by decide) (fun hc => ?_) (fun hc => ?_)
          · have H := H.1 hc
            refine s_iconst (pc := 129) dX8_isItem_129 (j_cst rfl) ?_
            exact s_zret dX8_isItem_130 rfl (Or.inl rfl) H
          · have H := H.2 hc
            refine s_aload_n (pc := 118) dX8_isItem_118 rfl ?_
            obtain ⟨post, hct, H⟩ := H
            refine s_callV (pc := 119) (as := []) (st := []) (by exact dX8_isItem_119) mv_X8_112 ⟨rfl, rfl, Nat.le_of_ble_eq_true rfl, Nat.le_of_ble_eq_true rfl⟩ cSm_0 rfl rfl (Nat.le_of_ble_eq_true rfl) _ rfl hct (fun r1 h2 hp => ?_)
            obtain ⟨r1, rfl, hp⟩ := hp
            have H := H r1 h2 hp
            show WV _ _ _ _ 122 [jR 0] [jI r1] h2
            refine s_if_eq (pc := 122) (tgt := 129) dX8_isItem_122 (by decide) (fun hc => ?_) (fun hc => ?_)
            · have H := H.1 hc
              refine s_iconst (pc := 129) dX8_isItem_129 (j_cst rfl) ?_
              exact s_zret dX8_isItem_130 rfl (Or.inl rfl) H
            · have H := H.2 hc
              refine s_iconst (pc := 125) dX8_isItem_125 (j_cst rfl) ?_
              refine s_goto (pc := 126) (tgt := 130) dX8_isItem_126 (by decide) ?_
              exact s_zret dX8_isItem_130 rfl (Or.inr rfl) H
      · have H := H.1 hc
        refine s_aload_n (pc := 95) dX8_isItem_95 rfl ?_
        obtain ⟨post, hct, H⟩ := H
        refine s_callV (pc := 96) (as := []) (st := []) (by exact dX8_isItem_96) mv_X8_109 ⟨rfl, rfl, Nat.le_of_ble_eq_true rfl, Nat.le_of_ble_eq_true rfl⟩ cSm_0 rfl rfl (Nat.le_of_ble_eq_true rfl) _ rfl hct (fun r3 h4 hp => ?_)
        obtain ⟨r3, rfl, hp⟩ := hp
        have H := H r3 h4 hp
        show WV _ _ _ _ 99 [jR 0] [jI r3] h4
        obtain ⟨k5, H⟩ := H
        exact s_zret dX8_isItem_99 rfl k5 H
    · have H := H.1 hc
      refine s_aload_n (pc := 50) dX8_isItem_50 rfl ?_
      refine s_geti (pc := 51) (x := h.1 0 9) dX8_isItem_51 fl_X8_102 cSm_0 rfl rfl ?_
      refine s_if_ne (pc := 54) (tgt := 86) dX8_isItem_54 (by decide) (fun hc => ?_) (fun hc => ?_)
      · have H := H.2 hc
        refine s_aload_n (pc := 86) dX8_isItem_86 rfl ?_
        refine s_geti (pc := 87) (x := h.1 0 4) dX8_isItem_87 fl_X8_79 cSm_0 rfl rfl ?_
        refine s_bipush (pc := 90) dX8_isItem_90 rfl (j_cst rfl) ?_
        refine s_icmp_ne (pc := 92) (tgt := 100) dX8_isItem_92 (by decide) (fun hc => ?_) (fun hc => ?_)
        · have H := H.2 hc
          refine s_aload_n (pc := 100) dX8_isItem_100 rfl ?_
          refine s_geti (pc := 101) (x := h.1 0 4) dX8_isItem_101 fl_X8_79 cSm_0 rfl rfl ?_
          refine s_bipush (pc := 104) dX8_isItem_104 rfl (j_cst rfl) ?_
          refine s_icmp_ne (pc := 106) (tgt := 129) dX8_isItem_106 (by decide) (fun hc => ?_) (fun hc => ?_)
          · have H := H.2 hc
            refine s_iconst (pc := 129) dX8_isItem_129 (j_cst rfl) ?_
            exact s_zret dX8_isItem_130 rfl (Or.inl rfl) H
          · have H := H.1 hc
            refine s_aload_n (pc := 109) dX8_isItem_109 rfl ?_
            refine s_geti (pc := 110) (x := h.1 0 11) dX8_isItem_110 fl_X8_96 cSm_0 rfl rfl ?_
            refine s_bipush (pc := 113) dX8_isItem_113 rfl (j_cst rfl) ?_
            refine s_icmp_ge (pc := 115) (tgt := 129) dX8_isItem_115 (by decide) (fun hc => ?_) (fun hc => ?_)
            · have H := H.1 hc
              refine s_iconst (pc := 129) dX8_isItem_129 (j_cst rfl) ?_
              exact s_zret dX8_isItem_130 rfl (Or.inl rfl) H
            · have H := H.2 hc
              refine s_aload_n (pc := 118) dX8_isItem_118 rfl ?_
              obtain ⟨post, hct, H⟩ := H
              refine s_callV (pc := 119) (as := []) (st := []) (by exact dX8_isItem_119) mv_X8_112 ⟨rfl, rfl, Nat.le_of_ble_eq_true rfl, Nat.le_of_ble_eq_true rfl⟩ cSm_0 rfl rfl (Nat.le_of_ble_eq_true rfl) _ rfl hct (fun r6 h7 hp => ?_)
              obtain ⟨r6, rfl, hp⟩ := hp
              have H := H r6 h7 hp
              show WV _ _ _ _ 122 [jR 0] [jI r6] h7
              refine s_if_eq (pc := 122) (tgt := 129) dX8_isItem_122 (by decide) (fun hc => ?_) (fun hc => ?_)
              · have H := H.1 hc
                refine s_iconst (pc := 129) dX8_isItem_129 (j_cst rfl) ?_
                exact s_zret dX8_isItem_130 rfl (Or.inl rfl) H
              · have H := H.2 hc
                refine s_iconst (pc := 125) dX8_isItem_125 (j_cst rfl) ?_
                refine s_goto (pc := 126) (tgt := 130) dX8_isItem_126 (by decide) ?_
                exact s_zret dX8_isItem_130 rfl (Or.inr rfl) H
        · have H := H.1 hc
          refine s_aload_n (pc := 95) dX8_isItem_95 rfl ?_
          obtain ⟨post, hct, H⟩ := H
          refine s_callV (pc := 96) (as := []) (st := []) (by exact dX8_isItem_96) mv_X8_109 ⟨rfl, rfl, Nat.le_of_ble_eq_true rfl, Nat.le_of_ble_eq_true rfl⟩ cSm_0 rfl rfl (Nat.le_of_ble_eq_true rfl) _ rfl hct (fun r8 h9 hp => ?_)
          obtain ⟨r8, rfl, hp⟩ := hp
          have H := H r8 h9 hp
          show WV _ _ _ _ 99 [jR 0] [jI r8] h9
          obtain ⟨k10, H⟩ := H
          exact s_zret dX8_isItem_99 rfl k10 H
      · have H := H.1 hc
        refine s_aload_n (pc := 57) dX8_isItem_57 rfl ?_
        refine s_iconst (pc := 58) dX8_isItem_58 (j_cst rfl) ?_
        refine s_putz (pc := 59) dX8_isItem_59 fp_X8_102 cSm_0 rfl (Or.inr rfl) ?_
        refine s_aload_n (pc := 62) dX8_isItem_62 rfl ?_
        refine s_iconst (pc := 63) dX8_isItem_63 (j_cst rfl) ?_
        refine s_iconst (pc := 64) dX8_isItem_64 (j_cst rfl) ?_
        obtain ⟨post, hct, H⟩ := H
        refine s_callV (pc := 65) (as := [jI 1, jI 4]) (st := []) (by exact dX8_isItem_65) mv_X8_88 ⟨rfl, rfl, Nat.le_of_ble_eq_true rfl, Nat.le_of_ble_eq_true rfl⟩ cSm_0 rfl rfl (Nat.le_of_ble_eq_true rfl) _ rfl hct (fun r11 h12 hp => ?_)
        obtain ⟨r11, rfl, hp⟩ := hp
        have H := H r11 h12 hp
        show WV _ _ _ _ 68 [jR 0] [jI r11] h12
        refine s_if_ne (pc := 68) (tgt := 73) dX8_isItem_68 (by decide) (fun hc => ?_) (fun hc => ?_)
        · have H := H.2 hc
          refine s_aload_n (pc := 73) dX8_isItem_73 rfl ?_
          refine s_aload_n (pc := 74) dX8_isItem_74 rfl ?_
          refine s_geti (pc := 75) (x := h12.1 0 5) dX8_isItem_75 fl_X8_76 cSm_0 rfl rfl ?_
          refine s_puti (pc := 78) dX8_isItem_78 fp_X8_106 cSm_0 rfl ?_
          refine s_aload_n (pc := 81) dX8_isItem_81 rfl ?_
          obtain ⟨post, hct, H⟩ := H
          refine s_callV (pc := 82) (as := []) (st := []) (by exact dX8_isItem_82) mv_X8_92 ⟨rfl, rfl, Nat.le_of_ble_eq_true rfl, Nat.le_of_ble_eq_true rfl⟩ cSm_0 rfl rfl (Nat.le_of_ble_eq_true rfl) _ rfl hct (fun r13 h14 hp => ?_)
          obtain ⟨r13, rfl, hp⟩ := hp
          have H := H r13 h14 hp
          show WV _ _ _ _ 85 [jR 0] [jI r13] h14
          obtain ⟨k15, H⟩ := H
          exact s_zret dX8_isItem_85 rfl k15 H
        · have H := H.1 hc
          refine s_iconst (pc := 71) dX8_isItem_71 (j_cst rfl) ?_
          exact s_zret dX8_isItem_72 rfl (Or.inl rfl) H
  · have H := H.1 hc
    refine s_aload_n (pc := 9) dX8_isItem_9 rfl ?_
    refine s_geti (pc := 10) (x := h.1 0 6) dX8_isItem_10 fl_X8_99 cSm_0 rfl rfl ?_
    refine s_if_ne (pc := 13) (tgt := 41) dX8_isItem_13 (by decide) (fun hc => ?_) (fun hc => ?_)
    · have H := H.2 hc
      refine s_aload_n (pc := 41) dX8_isItem_41 rfl ?_
      refine s_geti (pc := 42) (x := h.1 0 4) dX8_isItem_42 fl_X8_79 cSm_0 rfl rfl ?_
      refine s_bipush (pc := 45) dX8_isItem_45 rfl (j_cst rfl) ?_
      refine s_icmp_ne (pc := 47) (tgt := 86) dX8_isItem_47 (by decide) (fun hc => ?_) (fun hc => ?_)
      · have H := H.2 hc
        refine s_aload_n (pc := 86) dX8_isItem_86 rfl ?_
        refine s_geti (pc := 87) (x := h.1 0 4) dX8_isItem_87 fl_X8_79 cSm_0 rfl rfl ?_
        refine s_bipush (pc := 90) dX8_isItem_90 rfl (j_cst rfl) ?_
        refine s_icmp_ne (pc := 92) (tgt := 100) dX8_isItem_92 (by decide) (fun hc => ?_) (fun hc => ?_)
        · have H := H.2 hc
          refine s_aload_n (pc := 100) dX8_isItem_100 rfl ?_
          refine s_geti (pc := 101) (x := h.1 0 4) dX8_isItem_101 fl_X8_79 cSm_0 rfl rfl ?_
          refine s_bipush (pc := 104) dX8_isItem_104 rfl (j_cst rfl) ?_
          refine s_icmp_ne (pc := 106) (tgt := 129) dX8_isItem_106 (by decide) (fun hc => ?_) (fun hc => ?_)
          · have H := H.2 hc
            refine s_iconst (pc := 129) dX8_isItem_129 (j_cst rfl) ?_
            exact s_zret dX8_isItem_130 rfl (Or.inl rfl) H
          · have H := H.1 hc
            refine s_aload_n (pc := 109) dX8_isItem_109 rfl ?_
            refine s_geti (pc := 110) (x := h.1 0 11) dX8_isItem_110 fl_X8_96 cSm_0 rfl rfl ?_
            refine s_bipush (pc := 113) dX8_isItem_113 rfl (j_cst rfl) ?_
            refine s_icmp_ge (pc := 115) (tgt := 129) dX8_isItem_115 (by decide) (fun hc => ?_) (fun hc => ?_)
            · have H := H.1 hc
              refine s_iconst (pc := 129) dX8_isItem_129 (j_cst rfl) ?_
              exact s_zret dX8_isItem_130 rfl (Or.inl rfl) H
            · have H := H.2 hc
              refine s_aload_n (pc := 118) dX8_isItem_118 rfl ?_
              obtain ⟨post, hct, H⟩ := H
              refine s_callV (pc := 119) (as := []) (st := []) (by exact dX8_isItem_119) mv_X8_112 ⟨rfl, rfl, Nat.le_of_ble_eq_true rfl, Nat.le_of_ble_eq_true rfl⟩ cSm_0 rfl rfl (Nat.le_of_ble_eq_true rfl) _ rfl hct (fun r16 h17 hp => ?_)
              obtain ⟨r16, rfl, hp⟩ := hp
              have H := H r16 h17 hp
              show WV _ _ _ _ 122 [jR 0] [jI r16] h17
              refine s_if_eq (pc := 122) (tgt := 129) dX8_isItem_122 (by decide) (fun hc => ?_) (fun hc => ?_)
              · have H := H.1 hc
                refine s_iconst (pc := 129) dX8_isItem_129 (j_cst rfl) ?_
                exact s_zret dX8_isItem_130 rfl (Or.inl rfl) H
              · have H := H.2 hc
                refine s_iconst (pc := 125) dX8_isItem_125 (j_cst rfl) ?_
                refine s_goto (pc := 126) (tgt := 130) dX8_isItem_126 (by decide) ?_
                exact s_zret dX8_isItem_130 rfl (Or.inr rfl) H
        · have H := H.1 hc
          refine s_aload_n (pc := 95) dX8_isItem_95 rfl ?_
          obtain ⟨post, hct, H⟩ := H
          refine s_callV (pc := 96) (as := []) (st := []) (by exact dX8_isItem_96) mv_X8_109 ⟨rfl, rfl, Nat.le_of_ble_eq_true rfl, Nat.le_of_ble_eq_true rfl⟩ cSm_0 rfl rfl (Nat.le_of_ble_eq_true rfl) _ rfl hct (fun r18 h19 hp => ?_)
          obtain ⟨r18, rfl, hp⟩ := hp
          have H := H r18 h19 hp
          show WV _ _ _ _ 99 [jR 0] [jI r18] h19
          obtain ⟨k20, H⟩ := H
          exact s_zret dX8_isItem_99 rfl k20 H
      · have H := H.1 hc
        refine s_aload_n (pc := 50) dX8_isItem_50 rfl ?_
        refine s_geti (pc := 51) (x := h.1 0 9) dX8_isItem_51 fl_X8_102 cSm_0 rfl rfl ?_
        refine s_if_ne (pc := 54) (tgt := 86) dX8_isItem_54 (by decide) (fun hc => ?_) (fun hc => ?_)
        · have H := H.2 hc
          refine s_aload_n (pc := 86) dX8_isItem_86 rfl ?_
          refine s_geti (pc := 87) (x := h.1 0 4) dX8_isItem_87 fl_X8_79 cSm_0 rfl rfl ?_
          refine s_bipush (pc := 90) dX8_isItem_90 rfl (j_cst rfl) ?_
          refine s_icmp_ne (pc := 92) (tgt := 100) dX8_isItem_92 (by decide) (fun hc => ?_) (fun hc => ?_)
          · have H := H.2 hc
            refine s_aload_n (pc := 100) dX8_isItem_100 rfl ?_
            refine s_geti (pc := 101) (x := h.1 0 4) dX8_isItem_101 fl_X8_79 cSm_0 rfl rfl ?_
            refine s_bipush (pc := 104) dX8_isItem_104 rfl (j_cst rfl) ?_
            refine s_icmp_ne (pc := 106) (tgt := 129) dX8_isItem_106 (by decide) (fun hc => ?_) (fun hc => ?_)
            · have H := H.2 hc
              refine s_iconst (pc := 129) dX8_isItem_129 (j_cst rfl) ?_
              exact s_zret dX8_isItem_130 rfl (Or.inl rfl) H
            · have H := H.1 hc
              refine s_aload_n (pc := 109) dX8_isItem_109 rfl ?_
              refine s_geti (pc := 110) (x := h.1 0 11) dX8_isItem_110 fl_X8_96 cSm_0 rfl rfl ?_
              refine s_bipush (pc := 113) dX8_isItem_113 rfl (j_cst rfl) ?_
              refine s_icmp_ge (pc := 115) (tgt := 129) dX8_isItem_115 (by decide) (fun hc => ?_) (fun hc => ?_)
              · have H := H.1 hc
                refine s_iconst (pc := 129) dX8_isItem_129 (j_cst rfl) ?_
                exact s_zret dX8_isItem_130 rfl (Or.inl rfl) H
              · have H := H.2 hc
                refine s_aload_n (pc := 118) dX8_isItem_118 rfl ?_
                obtain ⟨post, hct, H⟩ := H
                refine s_callV (pc := 119) (as := []) (st := []) (by exact dX8_isItem_119) mv_X8_112 ⟨rfl, rfl, Nat.le_of_ble_eq_true rfl, Nat.le_of_ble_eq_true rfl⟩ cSm_0 rfl rfl (Nat.le_of_ble_eq_true rfl) _ rfl hct (fun r21 h22 hp => ?_)
                obtain ⟨r21, rfl, hp⟩ := hp
                have H := H r21 h22 hp
                show WV _ _ _ _ 122 [jR 0] [jI r21] h22
                refine s_if_eq (pc := 122) (tgt := 129) dX8_isItem_122 (by decide) (fun hc => ?_) (fun hc => ?_)
                · have H := H.1 hc
                  refine s_iconst (pc := 129) dX8_isItem_129 (j_cst rfl) ?_
                  exact s_zret dX8_isItem_130 rfl (Or.inl rfl) H
                · have H := H.2 hc
                  refine s_iconst (pc := 125) dX8_isItem_125 (j_cst rfl) ?_
                  refine s_goto (pc := 126) (tgt := 130) dX8_isItem_126 (by decide) ?_
                  exact s_zret dX8_isItem_130 rfl (Or.inr rfl) H
          · have H := H.1 hc
            refine s_aload_n (pc := 95) dX8_isItem_95 rfl ?_
            obtain ⟨post, hct, H⟩ := H
            refine s_callV (pc := 96) (as := []) (st := []) (by exact dX8_isItem_96) mv_X8_109 ⟨rfl, rfl, Nat.le_of_ble_eq_true rfl, Nat.le_of_ble_eq_true rfl⟩ cSm_0 rfl rfl (Nat.le_of_ble_eq_true rfl) _ rfl hct (fun r23 h24 hp => ?_)
            obtain ⟨r23, rfl, hp⟩ := hp
            have H := H r23 h24 hp
            show WV _ _ _ _ 99 [jR 0] [jI r23] h24
            obtain ⟨k25, H⟩ := H
            exact s_zret dX8_isItem_99 rfl k25 H
        · have H := H.1 hc
          refine s_aload_n (pc := 57) dX8_isItem_57 rfl ?_
          refine s_iconst (pc := 58) dX8_isItem_58 (j_cst rfl) ?_
          refine s_putz (pc := 59) dX8_isItem_59 fp_X8_102 cSm_0 rfl (Or.inr rfl) ?_
          refine s_aload_n (pc := 62) dX8_isItem_62 rfl ?_
          refine s_iconst (pc := 63) dX8_isItem_63 (j_cst rfl) ?_
          refine s_iconst (pc := 64) dX8_isItem_64 (j_cst rfl) ?_
          obtain ⟨post, hct, H⟩ := H
          refine s_callV (pc := 65) (as := [jI 1, jI 4]) (st := []) (by exact dX8_isItem_65) mv_X8_88 ⟨rfl, rfl, Nat.le_of_ble_eq_true rfl, Nat.le_of_ble_eq_true rfl⟩ cSm_0 rfl rfl (Nat.le_of_ble_eq_true rfl) _ rfl hct (fun r26 h27 hp => ?_)
          obtain ⟨r26, rfl, hp⟩ := hp
          have H := H r26 h27 hp
          show WV _ _ _ _ 68 [jR 0] [jI r26] h27
          refine s_if_ne (pc := 68) (tgt := 73) dX8_isItem_68 (by decide) (fun hc => ?_) (fun hc => ?_)
          · have H := H.2 hc
            refine s_aload_n (pc := 73) dX8_isItem_73 rfl ?_
            refine s_aload_n (pc := 74) dX8_isItem_74 rfl ?_
            refine s_geti (pc := 75) (x := h27.1 0 5) dX8_isItem_75 fl_X8_76 cSm_0 rfl rfl ?_
            refine s_puti (pc := 78) dX8_isItem_78 fp_X8_106 cSm_0 rfl ?_
            refine s_aload_n (pc := 81) dX8_isItem_81 rfl ?_
            obtain ⟨post, hct, H⟩ := H
            refine s_callV (pc := 82) (as := []) (st := []) (by exact dX8_isItem_82) mv_X8_92 ⟨rfl, rfl, Nat.le_of_ble_eq_true rfl, Nat.le_of_ble_eq_true rfl⟩ cSm_0 rfl rfl (Nat.le_of_ble_eq_true rfl) _ rfl hct (fun r28 h29 hp => ?_)
            obtain ⟨r28, rfl, hp⟩ := hp
            have H := H r28 h29 hp
            show WV _ _ _ _ 85 [jR 0] [jI r28] h29
            obtain ⟨k30, H⟩ := H
            exact s_zret dX8_isItem_85 rfl k30 H
          · have H := H.1 hc
            refine s_iconst (pc := 71) dX8_isItem_71 (j_cst rfl) ?_
            exact s_zret dX8_isItem_72 rfl (Or.inl rfl) H
    · have H := H.1 hc
      refine s_aload_n (pc := 16) dX8_isItem_16 rfl ?_
      refine s_iconst (pc := 17) dX8_isItem_17 (j_cst rfl) ?_
      refine s_bipush (pc := 18) dX8_isItem_18 rfl (j_cst rfl) ?_
      obtain ⟨post, hct, H⟩ := H
      refine s_callV (pc := 20) (as := [jI 2, jI 6]) (st := []) (by exact dX8_isItem_20) mv_X8_88 ⟨rfl, rfl, Nat.le_of_ble_eq_true rfl, Nat.le_of_ble_eq_true rfl⟩ cSm_0 rfl rfl (Nat.le_of_ble_eq_true rfl) _ rfl hct (fun r31 h32 hp => ?_)
      obtain ⟨r31, rfl, hp⟩ := hp
      have H := H r31 h32 hp
      show WV _ _ _ _ 23 [jR 0] [jI r31] h32
      refine s_if_ne (pc := 23) (tgt := 28) dX8_isItem_23 (by decide) (fun hc => ?_) (fun hc => ?_)
      · have H := H.2 hc
        refine s_aload_n (pc := 28) dX8_isItem_28 rfl ?_
        refine s_aload_n (pc := 29) dX8_isItem_29 rfl ?_
        refine s_geti (pc := 30) (x := h32.1 0 5) dX8_isItem_30 fl_X8_76 cSm_0 rfl rfl ?_
        refine s_puti (pc := 33) dX8_isItem_33 fp_X8_85 cSm_0 rfl ?_
        refine s_aload_n (pc := 36) dX8_isItem_36 rfl ?_
        obtain ⟨post, hct, H⟩ := H
        refine s_callV (pc := 37) (as := []) (st := []) (by exact dX8_isItem_37) mv_X8_92 ⟨rfl, rfl, Nat.le_of_ble_eq_true rfl, Nat.le_of_ble_eq_true rfl⟩ cSm_0 rfl rfl (Nat.le_of_ble_eq_true rfl) _ rfl hct (fun r33 h34 hp => ?_)
        obtain ⟨r33, rfl, hp⟩ := hp
        have H := H r33 h34 hp
        show WV _ _ _ _ 40 [jR 0] [jI r33] h34
        obtain ⟨k35, H⟩ := H
        exact s_zret dX8_isItem_40 rfl k35 H
      · have H := H.1 hc
        refine s_iconst (pc := 26) dX8_isItem_26 (j_cst rfl) ?_
        exact s_zret dX8_isItem_27 rfl (Or.inl rfl) H
theorem en_X8_isRead_0 {h : jH} {post : jQ} (k : ∀ G, WV Sm G M_X8_isRead post 0 [jR 0, jU] [] h) : CT Sm M_X8_isRead [jR 0] h post := CT.of (by decide +kernel) (by simp [j_un]) (Nat.le_of_ble_eq_true rfl) _ rfl k
set_option maxRecDepth 20000 in
theorem vc_X8_isRead_0_0 {G : jG} {Q : jQ} {h : jH}
    (H : WV Sm G M_X8_isRead Q 32 [jR 0, jI 0] [] (j_up (j_up (j_up (j_up (j_up (j_up h 0 2 0) 0 6 0) 0 7 2) 0 8 1) 0 9 0) 0 11 0)) :
    WV Sm G M_X8_isRead Q 0 [jR 0, jU] [] h := by
  refine s_aload_n (pc := 0) dX8_isRead_0 rfl ?_
  refine s_iconst (pc := 1) dX8_isRead_1 (j_cst rfl) ?_
  refine s_puti (pc := 2) dX8_isRead_2 fp_X8_70 cSm_0 rfl ?_
  refine s_aload_n (pc := 5) dX8_isRead_5 rfl ?_
  refine s_iconst (pc := 6) dX8_isRead_6 (j_cst rfl) ?_
  refine s_puti (pc := 7) dX8_isRead_7 fp_X8_99 cSm_0 rfl ?_
  refine s_aload_n (pc := 10) dX8_isRead_10 rfl ?_
  refine s_iconst (pc := 11) dX8_isRead_11 (j_cst rfl) ?_
  refine s_puti (pc := 12) dX8_isRead_12 fp_X8_85 cSm_0 rfl ?_
  refine s_aload_n (pc := 15) dX8_isRead_15 rfl ?_
  refine s_iconst (pc := 16) dX8_isRead_16 (j_cst rfl) ?_
  refine s_puti (pc := 17) dX8_isRead_17 fp_X8_106 cSm_0 rfl ?_
  refine s_aload_n (pc := 20) dX8_isRead_20 rfl ?_
  refine s_iconst (pc := 21) dX8_isRead_21 (j_cst rfl) ?_
  refine s_putz (pc := 22) dX8_isRead_22 fp_X8_102 cSm_0 rfl (Or.inl rfl) ?_
  refine s_aload_n (pc := 25) dX8_isRead_25 rfl ?_
  refine s_iconst (pc := 26) dX8_isRead_26 (j_cst rfl) ?_
  refine s_puti (pc := 27) dX8_isRead_27 fp_X8_96 cSm_0 rfl ?_
  refine s_iconst (pc := 30) dX8_isRead_30 (j_cst rfl) ?_
  refine s_istore_n (pc := 31) (lv' := [jR 0, jI 0]) dX8_isRead_31 (by decide) rfl ?_
  exact H
set_option maxRecDepth 20000 in
theorem vc_X8_isRead_0_32 {G : jG} {Q : jQ} {x1 : Int} {h : jH}
    (H : (6 ≤ x1 → ∃ post : jH → Prop, CT Sm M_X8_nextToken [jR 0] h (jPv post) ∧ ∀ (h2 : jH), post h2 → (WV Sm G M_X8_isRead Q 55 [jR 0, jI x1] [] h2)) ∧ (¬ 6 ≤ x1 → (0 ≤ x1 ∧ x1 < 6) ∧ ((j_rg (x1 + 1)) ∧ (WV Sm G M_X8_isRead Q 32 [jR 0, jI (x1 + 1)] [] (j_up h 2 (Int.toNat x1) x1))))) :
    WV Sm G M_X8_isRead Q 32 [jR 0, jI x1] [] h := by
  refine s_iload_n (pc := 32) dX8_isRead_32 rfl ?_
  refine s_bipush (pc := 33) dX8_isRead_33 rfl (j_cst rfl) ?_
  refine s_icmp_ge (pc := 35) (tgt := 51) dX8_isRead_35 (by decide) (fun hc => ?_) (fun hc => ?_)
  · have H := H.1 hc
    refine s_aload_n (pc := 51) dX8_isRead_51 rfl ?_
    obtain ⟨post, hct, H⟩ := H
    refine s_callV (pc := 52) (as := []) (st := []) (by exact dX8_isRead_52) mv_X8_82 ⟨rfl, rfl, Nat.le_of_ble_eq_true rfl, Nat.le_of_ble_eq_true rfl⟩ cSm_0 rfl rfl (Nat.le_of_ble_eq_true rfl) _ rfl hct (fun r1 h2 hp => ?_)
    obtain ⟨rfl, hp⟩ := hp
    have H := H h2 hp
    show WV _ _ _ _ 55 [jR 0, jI x1] [] h2
    exact H
  · have H := H.2 hc
    refine s_aload_n (pc := 38) dX8_isRead_38 rfl ?_
    refine s_getr (pc := 39) dX8_isRead_39 fl_X8_13 cSm_0 rfl ?_
    refine s_iload_n (pc := 42) dX8_isRead_42 rfl ?_
    refine s_iload_n (pc := 43) dX8_isRead_43 rfl ?_
    obtain ⟨k3, H⟩ := H
    refine s_iast (pc := 44) dX8_isRead_44 cSm_2 k3 ?_
    obtain ⟨k4, H⟩ := H
    refine s_iinc (pc := 45) (lv' := [jR 0, jI (x1 + 1)]) dX8_isRead_45 rfl (by decide) k4 rfl ?_
    refine s_goto (pc := 48) (tgt := 32) dX8_isRead_48 (by decide) ?_
    exact H
set_option maxRecDepth 20000 in
theorem vc_X8_isRead_0_55 {G : jG} {Q : jQ} {x1 : Int} {h : jH}
    (H : ((h.1 0 4) = (-2) → Q (some (jI 1)) h) ∧ (¬ (h.1 0 4) = (-2) → ∃ post : Int → jH → Prop, CT Sm M_X8_isItem [jR 0] h (jPi post) ∧ ∀ (r1 : Int) (h2 : jH), post r1 h2 → ((r1 = 0 → Q (some (jI 0)) h2) ∧ (¬ r1 = 0 → (j_rg ((h2.1 0 6) + 1)) ∧ (∃ post : jH → Prop, CT Sm M_X8_nextToken [jR 0] (j_up h2 0 6 ((h2.1 0 6) + 1)) (jPv post) ∧ ∀ (h5 : jH), post h5 → (WV Sm G M_X8_isRead Q 55 [jR 0, jI x1] [] h5)))))) :
    WV Sm G M_X8_isRead Q 55 [jR 0, jI x1] [] h := by
  refine s_aload_n (pc := 55) dX8_isRead_55 rfl ?_
  refine s_geti (pc := 56) (x := h.1 0 4) dX8_isRead_56 fl_X8_79 cSm_0 rfl rfl ?_
  refine s_bipush (pc := 59) dX8_isRead_59 rfl (j_cst rfl) ?_
  refine s_icmp_eq (pc := 61) (tgt := 90) dX8_isRead_61 (by decide) (fun hc => ?_) (fun hc => ?_)
  · have H := H.1 hc
    refine s_iconst (pc := 90) dX8_isRead_90 (j_cst rfl) ?_
    exact s_zret dX8_isRead_91 rfl (Or.inr rfl) H
  · have H := H.2 hc
    refine s_aload_n (pc := 64) dX8_isRead_64 rfl ?_
    obtain ⟨post, hct, H⟩ := H
    refine s_callV (pc := 65) (as := []) (st := []) (by exact dX8_isRead_65) mv_X8_115 ⟨rfl, rfl, Nat.le_of_ble_eq_true rfl, Nat.le_of_ble_eq_true rfl⟩ cSm_0 rfl rfl (Nat.le_of_ble_eq_true rfl) _ rfl hct (fun r1 h2 hp => ?_)
    obtain ⟨r1, rfl, hp⟩ := hp
    have H := H r1 h2 hp
    show WV _ _ _ _ 68 [jR 0, jI x1] [jI r1] h2
    refine s_if_ne (pc := 68) (tgt := 73) dX8_isRead_68 (by decide) (fun hc => ?_) (fun hc => ?_)
    · have H := H.2 hc
      refine s_aload_n (pc := 73) dX8_isRead_73 rfl ?_
      refine s_dup (pc := 74) dX8_isRead_74 rfl ?_
      refine s_geti (pc := 75) (x := h2.1 0 6) dX8_isRead_75 fl_X8_99 cSm_0 rfl rfl ?_
      refine s_iconst (pc := 78) dX8_isRead_78 (j_cst rfl) ?_
      obtain ⟨k3, H⟩ := H
      refine s_iadd (pc := 79) dX8_isRead_79 k3 ?_
      refine s_puti (pc := 80) dX8_isRead_80 fp_X8_99 cSm_0 rfl ?_
      refine s_aload_n (pc := 83) dX8_isRead_83 rfl ?_
      obtain ⟨post, hct, H⟩ := H
      refine s_callV (pc := 84) (as := []) (st := []) (by exact dX8_isRead_84) mv_X8_82 ⟨rfl, rfl, Nat.le_of_ble_eq_true rfl, Nat.le_of_ble_eq_true rfl⟩ cSm_0 rfl rfl (Nat.le_of_ble_eq_true rfl) _ rfl hct (fun r4 h5 hp => ?_)
      obtain ⟨rfl, hp⟩ := hp
      have H := H h5 hp
      show WV _ _ _ _ 87 [jR 0, jI x1] [] h5
      refine s_goto (pc := 87) (tgt := 55) dX8_isRead_87 (by decide) ?_
      exact H
    · have H := H.1 hc
      refine s_iconst (pc := 71) dX8_isRead_71 (j_cst rfl) ?_
      exact s_zret dX8_isRead_72 rfl (Or.inl rfl) H
theorem en_X8_board_0 {h : jH} {post : jQ} (k : ∀ G, WV Sm G M_X8_board post 0 [jR 0, jU] [] h) : CT Sm M_X8_board [jR 0] h post := CT.of (by decide +kernel) (by simp [j_un]) (Nat.le_of_ble_eq_true rfl) _ rfl k
set_option maxRecDepth 20000 in
theorem vc_X8_board_0_0 {G : jG} {Q : jQ} {h : jH}
    (H : ∃ post : Int → jH → Prop, CT Sm M_X8_isRead [jR 0] h (jPi post) ∧ ∀ (r1 : Int) (h2 : jH), post r1 h2 → ((r1 = 0 → (j_rg ((-10) - (h2.1 0 3))) ∧ (Q (some (jI ((-10) - (h2.1 0 3)))) h2)) ∧ (¬ r1 = 0 → WV Sm G M_X8_board Q 41 [jR 0, jI 0] [] (j_up (j_up (j_up h2 0 13 (h2.1 0 7)) 0 14 (h2.1 0 8)) 0 15 (h2.1 0 11))))) :
    WV Sm G M_X8_board Q 0 [jR 0, jU] [] h := by
  refine s_aload_n (pc := 0) dX8_board_0 rfl ?_
  obtain ⟨post, hct, H⟩ := H
  refine s_callV (pc := 1) (as := []) (st := []) (by exact dX8_board_1) mv_X8_118 ⟨rfl, rfl, Nat.le_of_ble_eq_true rfl, Nat.le_of_ble_eq_true rfl⟩ cSm_0 rfl rfl (Nat.le_of_ble_eq_true rfl) _ rfl hct (fun r1 h2 hp => ?_)
  obtain ⟨r1, rfl, hp⟩ := hp
  have H := H r1 h2 hp
  show WV _ _ _ _ 4 [jR 0, jU] [jI r1] h2
  refine s_if_ne (pc := 4) (tgt := 15) dX8_board_4 (by decide) (fun hc => ?_) (fun hc => ?_)
  · have H := H.2 hc
    refine s_aload_n (pc := 15) dX8_board_15 rfl ?_
    refine s_aload_n (pc := 16) dX8_board_16 rfl ?_
    refine s_geti (pc := 17) (x := h2.1 0 7) dX8_board_17 fl_X8_85 cSm_0 rfl rfl ?_
    refine s_puti (pc := 20) dX8_board_20 fp_X8_19 cSm_0 rfl ?_
    refine s_aload_n (pc := 23) dX8_board_23 rfl ?_
    refine s_aload_n (pc := 24) dX8_board_24 rfl ?_
    refine s_geti (pc := 25) (x := h2.1 0 8) dX8_board_25 fl_X8_106 cSm_0 rfl rfl ?_
    refine s_puti (pc := 28) dX8_board_28 fp_X8_23 cSm_0 rfl ?_
    refine s_aload_n (pc := 31) dX8_board_31 rfl ?_
    refine s_aload_n (pc := 32) dX8_board_32 rfl ?_
    refine s_geti (pc := 33) (x := h2.1 0 11) dX8_board_33 fl_X8_96 cSm_0 rfl rfl ?_
    refine s_puti (pc := 36) dX8_board_36 fp_X8_57 cSm_0 rfl ?_
    refine s_iconst (pc := 39) dX8_board_39 (j_cst rfl) ?_
    refine s_istore_n (pc := 40) (lv' := [jR 0, jI 0]) dX8_board_40 (by decide) rfl ?_
    exact H
  · have H := H.1 hc
    refine s_bipush (pc := 7) dX8_board_7 rfl (j_cst rfl) ?_
    refine s_aload_n (pc := 9) dX8_board_9 rfl ?_
    refine s_geti (pc := 10) (x := h2.1 0 3) dX8_board_10 fl_X8_73 cSm_0 rfl rfl ?_
    obtain ⟨k3, H⟩ := H
    refine s_isub (pc := 13) dX8_board_13 k3 ?_
    exact s_iret dX8_board_14 rfl H
set_option maxRecDepth 20000 in
theorem vc_X8_board_0_41 {G : jG} {Q : jQ} {x1 : Int} {h : jH}
    (H : (j_rg (5 * (h.1 0 15))) ∧ (((5 * (h.1 0 15)) ≤ x1 → ∃ post : jH → Prop, CT Sm M_X8_begin [jR 0] (j_up h 0 0 0) (jPv post) ∧ ∀ (h3 : jH), post h3 → (Q (some (jI (h3.1 0 6))) h3)) ∧ (¬ (5 * (h.1 0 15)) ≤ x1 → (0 ≤ x1 ∧ x1 < 35) ∧ ((j_rg (x1 + 1)) ∧ (WV Sm G M_X8_board Q 41 [jR 0, jI (x1 + 1)] [] (j_up h 4 (Int.toNat x1) (h.1 3 (Int.toNat x1)))))))) :
    WV Sm G M_X8_board Q 41 [jR 0, jI x1] [] h := by
  refine s_iload_n (pc := 41) dX8_board_41 rfl ?_
  refine s_iconst (pc := 42) dX8_board_42 (j_cst rfl) ?_
  refine s_aload_n (pc := 43) dX8_board_43 rfl ?_
  refine s_geti (pc := 44) (x := h.1 0 15) dX8_board_44 fl_X8_57 cSm_0 rfl rfl ?_
  obtain ⟨k1, H⟩ := H
  refine s_imul (pc := 47) dX8_board_47 k1 ?_
  refine s_icmp_ge (pc := 48) (tgt := 69) dX8_board_48 (by decide) (fun hc => ?_) (fun hc => ?_)
  · have H := H.1 hc
    refine s_aload_n (pc := 69) dX8_board_69 rfl ?_
    refine s_iconst (pc := 70) dX8_board_70 (j_cst rfl) ?_
    refine s_puti (pc := 71) dX8_board_71 fp_X8_67 cSm_0 rfl ?_
    refine s_aload_n (pc := 74) dX8_board_74 rfl ?_
    obtain ⟨post, hct, H⟩ := H
    refine s_callV (pc := 75) (as := []) (st := []) (by exact dX8_board_75) mv_X8_54 ⟨rfl, rfl, Nat.le_of_ble_eq_true rfl, Nat.le_of_ble_eq_true rfl⟩ cSm_0 rfl rfl (Nat.le_of_ble_eq_true rfl) _ rfl hct (fun r2 h3 hp => ?_)
    obtain ⟨rfl, hp⟩ := hp
    have H := H h3 hp
    show WV _ _ _ _ 78 [jR 0, jI x1] [] h3
    refine s_aload_n (pc := 78) dX8_board_78 rfl ?_
    refine s_geti (pc := 79) (x := h3.1 0 6) dX8_board_79 fl_X8_99 cSm_0 rfl rfl ?_
    exact s_iret dX8_board_82 rfl H
  · have H := H.2 hc
    refine s_aload_n (pc := 51) dX8_board_51 rfl ?_
    refine s_getr (pc := 52) dX8_board_52 fl_X8_26 cSm_0 rfl ?_
    refine s_iload_n (pc := 55) dX8_board_55 rfl ?_
    refine s_aload_n (pc := 56) dX8_board_56 rfl ?_
    refine s_getr (pc := 57) dX8_board_57 fl_X8_16 cSm_0 rfl ?_
    refine s_iload_n (pc := 60) dX8_board_60 rfl ?_
    obtain ⟨k4, H⟩ := H
    refine s_iald (pc := 61) (x := h.1 3 (Int.toNat x1)) dX8_board_61 cSm_3 k4 rfl ?_
    refine s_iast (pc := 62) dX8_board_62 cSm_4 k4 ?_
    obtain ⟨k5, H⟩ := H
    refine s_iinc (pc := 63) (lv' := [jR 0, jI (x1 + 1)]) dX8_board_63 rfl (by decide) k5 rfl ?_
    refine s_goto (pc := 66) (tgt := 41) dX8_board_66 (by decide) ?_
    exact H
theorem en_X8_holeOf_0 {x1 : Int} {h : jH} {post : jQ} (k : ∀ G, WV Sm G M_X8_holeOf post 0 [jR 0, jI x1] [] h) : CT Sm M_X8_holeOf [jR 0, jI x1] h post := CT.of (by decide +kernel) (by simp [j_un]) (Nat.le_of_ble_eq_true rfl) _ rfl k
set_option maxRecDepth 20000 in
theorem vc_X8_holeOf_0_0 {G : jG} {Q : jQ} {x1 : Int} {h : jH}
    (H : (j_rg (1 + x1)) ∧ ((0 ≤ 1 + x1 ∧ 1 + x1 < 28) ∧ (Q (some (jI (h.1 5 (Int.toNat (1 + x1))))) h))) :
    WV Sm G M_X8_holeOf Q 0 [jR 0, jI x1] [] h := by
  refine s_aload_n (pc := 0) dX8_holeOf_0 rfl ?_
  refine s_getr (pc := 1) dX8_holeOf_1 fl_X8_29 cSm_0 rfl ?_
  refine s_iconst (pc := 4) dX8_holeOf_4 (j_cst rfl) ?_
  refine s_iload_n (pc := 5) dX8_holeOf_5 rfl ?_
  obtain ⟨k1, H⟩ := H
  refine s_iadd (pc := 6) dX8_holeOf_6 k1 ?_
  obtain ⟨k2, H⟩ := H
  refine s_iald (pc := 7) (x := h.1 5 (Int.toNat (1 + x1))) dX8_holeOf_7 cSm_5 k2 rfl ?_
  exact s_iret dX8_holeOf_8 rfl H
theorem en_X8_isLine_0 {x1 : Int} {h : jH} {post : jQ} (k : ∀ G, WV Sm G M_X8_isLine post 0 [jR 0, jI x1] [] h) : CT Sm M_X8_isLine [jR 0, jI x1] h post := CT.of (by decide +kernel) (by simp [j_un]) (Nat.le_of_ble_eq_true rfl) _ rfl k
set_option maxRecDepth 20000 in
theorem vc_X8_isLine_0_0 {G : jG} {Q : jQ} {x1 : Int} {h : jH}
    (H : (j_rg ((h.1 0 13) - 1)) ∧ (∃ post : Int → jH → Prop, CT Sm M_X8_in [jI x1, jI 0, jI ((h.1 0 13) - 1)] h (jPi post) ∧ ∀ (r2 : Int) (h3 : jH), post r2 h3 → ((r2 = 0 ∨ r2 = 1) ∧ (Q (some (jI r2)) h3)))) :
    WV Sm G M_X8_isLine Q 0 [jR 0, jI x1] [] h := by
  refine s_iload_n (pc := 0) dX8_isLine_0 rfl ?_
  refine s_iconst (pc := 1) dX8_isLine_1 (j_cst rfl) ?_
  refine s_aload_n (pc := 2) dX8_isLine_2 rfl ?_
  refine s_geti (pc := 3) (x := h.1 0 13) dX8_isLine_3 fl_X8_19 cSm_0 rfl rfl ?_
  refine s_iconst (pc := 6) dX8_isLine_6 (j_cst rfl) ?_
  obtain ⟨k1, H⟩ := H
  refine s_isub (pc := 7) dX8_isLine_7 k1 ?_
  obtain ⟨post, hct, H⟩ := H
  refine s_callS (pc := 8) (as := [jI x1, jI 0, jI ((h.1 0 13) - 1)]) (st := []) (by exact dX8_isLine_8) ms_X8_63 ⟨rfl, rfl, Nat.le_of_ble_eq_true rfl, Nat.le_of_ble_eq_true rfl⟩ (Nat.le_of_ble_eq_true rfl) _ rfl hct (fun r2 h3 hp => ?_)
  obtain ⟨r2, rfl, hp⟩ := hp
  have H := H r2 h3 hp
  show WV _ _ _ _ 11 [jR 0, jI x1] [jI r2] h3
  obtain ⟨k4, H⟩ := H
  exact s_zret dX8_isLine_11 rfl k4 H
theorem en_X8_fromOf_0 {x1 : Int} {h : jH} {post : jQ} (k : ∀ G, WV Sm G M_X8_fromOf post 0 [jR 0, jI x1] [] h) : CT Sm M_X8_fromOf [jR 0, jI x1] h post := CT.of (by decide +kernel) (by simp [j_un]) (Nat.le_of_ble_eq_true rfl) _ rfl k
set_option maxRecDepth 20000 in
theorem vc_X8_fromOf_0_0 {G : jG} {Q : jQ} {x1 : Int} {h : jH}
    (H : (j_rg (5 * x1)) ∧ ((j_rg ((5 * x1) + 1)) ∧ ((0 ≤ (5 * x1) + 1 ∧ (5 * x1) + 1 < 35) ∧ (Q (some (jI (h.1 4 (Int.toNat ((5 * x1) + 1))))) h)))) :
    WV Sm G M_X8_fromOf Q 0 [jR 0, jI x1] [] h := by
  refine s_aload_n (pc := 0) dX8_fromOf_0 rfl ?_
  refine s_getr (pc := 1) dX8_fromOf_1 fl_X8_26 cSm_0 rfl ?_
  refine s_iconst (pc := 4) dX8_fromOf_4 (j_cst rfl) ?_
  refine s_iload_n (pc := 5) dX8_fromOf_5 rfl ?_
  obtain ⟨k1, H⟩ := H
  refine s_imul (pc := 6) dX8_fromOf_6 k1 ?_
  refine s_iconst (pc := 7) dX8_fromOf_7 (j_cst rfl) ?_
  obtain ⟨k2, H⟩ := H
  refine s_iadd (pc := 8) dX8_fromOf_8 k2 ?_
  obtain ⟨k3, H⟩ := H
  refine s_iald (pc := 9) (x := h.1 4 (Int.toNat ((5 * x1) + 1))) dX8_fromOf_9 cSm_4 k3 rfl ?_
  exact s_iret dX8_fromOf_10 rfl H
theorem en_X8_toOf_0 {x1 : Int} {h : jH} {post : jQ} (k : ∀ G, WV Sm G M_X8_toOf post 0 [jR 0, jI x1] [] h) : CT Sm M_X8_toOf [jR 0, jI x1] h post := CT.of (by decide +kernel) (by simp [j_un]) (Nat.le_of_ble_eq_true rfl) _ rfl k
set_option maxRecDepth 20000 in
theorem vc_X8_toOf_0_0 {G : jG} {Q : jQ} {x1 : Int} {h : jH}
    (H : (j_rg (5 * x1)) ∧ ((j_rg ((5 * x1) + 2)) ∧ ((0 ≤ (5 * x1) + 2 ∧ (5 * x1) + 2 < 35) ∧ (Q (some (jI (h.1 4 (Int.toNat ((5 * x1) + 2))))) h)))) :
    WV Sm G M_X8_toOf Q 0 [jR 0, jI x1] [] h := by
  refine s_aload_n (pc := 0) dX8_toOf_0 rfl ?_
  refine s_getr (pc := 1) dX8_toOf_1 fl_X8_26 cSm_0 rfl ?_
  refine s_iconst (pc := 4) dX8_toOf_4 (j_cst rfl) ?_
  refine s_iload_n (pc := 5) dX8_toOf_5 rfl ?_
  obtain ⟨k1, H⟩ := H
  refine s_imul (pc := 6) dX8_toOf_6 k1 ?_
  refine s_iconst (pc := 7) dX8_toOf_7 (j_cst rfl) ?_
  obtain ⟨k2, H⟩ := H
  refine s_iadd (pc := 8) dX8_toOf_8 k2 ?_
  obtain ⟨k3, H⟩ := H
  refine s_iald (pc := 9) (x := h.1 4 (Int.toNat ((5 * x1) + 2))) dX8_toOf_9 cSm_4 k3 rfl ?_
  exact s_iret dX8_toOf_10 rfl H
theorem en_X8_isOn_0 {x1 x2 : Int} {h : jH} {post : jQ} (k : ∀ G, WV Sm G M_X8_isOn post 0 [jR 0, jI x1, jI x2] [] h) : CT Sm M_X8_isOn [jR 0, jI x1, jI x2] h post := CT.of (by decide +kernel) (by simp [j_un]) (Nat.le_of_ble_eq_true rfl) _ rfl k
set_option maxRecDepth 20000 in
theorem vc_X8_isOn_0_0 {G : jG} {Q : jQ} {x1 x2 : Int} {h : jH}
    (H : ∃ post : Int → jH → Prop, CT Sm M_X8_fromOf [jR 0, jI x1] h (jPi post) ∧ ∀ (r1 : Int) (h2 : jH), post r1 h2 → ((r1 = x2 → Q (some (jI 1)) h2) ∧ (¬ r1 = x2 → ∃ post : Int → jH → Prop, CT Sm M_X8_toOf [jR 0, jI x1] h2 (jPi post) ∧ ∀ (r3 : Int) (h4 : jH), post r3 h4 → ((r3 = x2 → Q (some (jI 1)) h4) ∧ (¬ r3 = x2 → Q (some (jI 0)) h4))))) :
    WV Sm G M_X8_isOn Q 0 [jR 0, jI x1, jI x2] [] h := by
  refine s_aload_n (pc := 0) dX8_isOn_0 rfl ?_
  refine s_iload_n (pc := 1) dX8_isOn_1 rfl ?_
  obtain ⟨post, hct, H⟩ := H
  refine s_callV (pc := 2) (as := [jI x1]) (st := []) (by exact dX8_isOn_2) mv_X8_121 ⟨rfl, rfl, Nat.le_of_ble_eq_true rfl, Nat.le_of_ble_eq_true rfl⟩ cSm_0 rfl rfl (Nat.le_of_ble_eq_true rfl) _ rfl hct (fun r1 h2 hp => ?_)
  obtain ⟨r1, rfl, hp⟩ := hp
  have H := H r1 h2 hp
  show WV _ _ _ _ 5 [jR 0, jI x1, jI x2] [jI r1] h2
  refine s_iload_n (pc := 5) dX8_isOn_5 rfl ?_
  refine s_icmp_eq (pc := 6) (tgt := 18) dX8_isOn_6 (by decide) (fun hc => ?_) (fun hc => ?_)
  · have H := H.1 hc
    refine s_iconst (pc := 18) dX8_isOn_18 (j_cst rfl) ?_
    refine s_goto (pc := 19) (tgt := 23) dX8_isOn_19 (by decide) ?_
    exact s_zret dX8_isOn_23 rfl (Or.inr rfl) H
  · have H := H.2 hc
    refine s_aload_n (pc := 9) dX8_isOn_9 rfl ?_
    refine s_iload_n (pc := 10) dX8_isOn_10 rfl ?_
    obtain ⟨post, hct, H⟩ := H
    refine s_callV (pc := 11) (as := [jI x1]) (st := []) (by exact dX8_isOn_11) mv_X8_125 ⟨rfl, rfl, Nat.le_of_ble_eq_true rfl, Nat.le_of_ble_eq_true rfl⟩ cSm_0 rfl rfl (Nat.le_of_ble_eq_true rfl) _ rfl hct (fun r3 h4 hp => ?_)
    obtain ⟨r3, rfl, hp⟩ := hp
    have H := H r3 h4 hp
    show WV _ _ _ _ 14 [jR 0, jI x1, jI x2] [jI r3] h4
    refine s_iload_n (pc := 14) dX8_isOn_14 rfl ?_
    refine s_icmp_ne (pc := 15) (tgt := 22) dX8_isOn_15 (by decide) (fun hc => ?_) (fun hc => ?_)
    · have H := H.2 hc
      refine s_iconst (pc := 22) dX8_isOn_22 (j_cst rfl) ?_
      exact s_zret dX8_isOn_23 rfl (Or.inl rfl) H
    · have H := H.1 hc
      refine s_iconst (pc := 18) dX8_isOn_18 (j_cst rfl) ?_
      refine s_goto (pc := 19) (tgt := 23) dX8_isOn_19 (by decide) ?_
      exact s_zret dX8_isOn_23 rfl (Or.inr rfl) H
theorem en_X8_talkerOn_0_5 {x2 : Int} {h : jH} {post : jQ} (k : ∀ G, WV Sm G M_X8_talkerOn post 0 [jR 0, jR 5, jI x2, jU, jU] [] h) : CT Sm M_X8_talkerOn [jR 0, jR 5, jI x2] h post := CT.of (by decide +kernel) (by simp [j_un]) (Nat.le_of_ble_eq_true rfl) _ rfl k
set_option maxRecDepth 20000 in
theorem vc_X8_talkerOn_0_5_0 {G : jG} {Q : jQ} {x2 : Int} {h : jH}
    (H : WV Sm G M_X8_talkerOn Q 6 [jR 0, jR 5, jI x2, jI (-9), jI 0] [] h) :
    WV Sm G M_X8_talkerOn Q 0 [jR 0, jR 5, jI x2, jU, jU] [] h := by
  refine s_bipush (pc := 0) dX8_talkerOn_0 rfl (j_cst rfl) ?_
  refine s_istore_n (pc := 2) (lv' := [jR 0, jR 5, jI x2, jI (-9), jU]) dX8_talkerOn_2 (by decide) rfl ?_
  refine s_iconst (pc := 3) dX8_talkerOn_3 (j_cst rfl) ?_
  refine s_istore (pc := 4) (lv' := [jR 0, jR 5, jI x2, jI (-9), jI 0]) dX8_talkerOn_4 (by decide) rfl ?_
  exact H
set_option maxRecDepth 20000 in
theorem vc_X8_talkerOn_0_5_6 {G : jG} {Q : jQ} {x2 x3 x4 : Int} {h : jH}
    (H : ((h.1 0 15) ≤ x4 → Q (some (jI x3)) h) ∧ (¬ (h.1 0 15) ≤ x4 → (j_rg (7 + x4)) ∧ ((0 ≤ 7 + x4 ∧ 7 + x4 < 28) ∧ (((h.1 5 (Int.toNat (7 + x4))) = 2 → ∃ post : Int → jH → Prop, CT Sm M_X8_isOn [jR 0, jI x4, jI x2] h (jPi post) ∧ ∀ (r4 : Int) (h5 : jH), post r4 h5 → ((r4 = 0 → (j_rg (x4 + 1)) ∧ (WV Sm G M_X8_talkerOn Q 6 [jR 0, jR 5, jI x2, jI x3, jI (x4 + 1)] [] h5)) ∧ (¬ r4 = 0 → (j_rg (x4 + 1)) ∧ (WV Sm G M_X8_talkerOn Q 6 [jR 0, jR 5, jI x2, jI x4, jI (x4 + 1)] [] h5)))) ∧ (¬ (h.1 5 (Int.toNat (7 + x4))) = 2 → (j_rg (x4 + 1)) ∧ (WV Sm G M_X8_talkerOn Q 6 [jR 0, jR 5, jI x2, jI x3, jI (x4 + 1)] [] h)))))) :
    WV Sm G M_X8_talkerOn Q 6 [jR 0, jR 5, jI x2, jI x3, jI x4] [] h := by
  refine s_iload (pc := 6) dX8_talkerOn_6 rfl ?_
  refine s_aload_n (pc := 8) dX8_talkerOn_8 rfl ?_
  refine s_geti (pc := 9) (x := h.1 0 15) dX8_talkerOn_9 fl_X8_57 cSm_0 rfl rfl ?_
  refine s_icmp_ge (pc := 12) (tgt := 49) dX8_talkerOn_12 (by decide) (fun hc => ?_) (fun hc => ?_)
  · have H := H.1 hc
    refine s_iload_n (pc := 49) dX8_talkerOn_49 rfl ?_
    exact s_iret dX8_talkerOn_50 rfl H
  · have H := H.2 hc
    refine s_aload_n (pc := 15) dX8_talkerOn_15 rfl ?_
    refine s_bipush (pc := 16) dX8_talkerOn_16 rfl (j_cst rfl) ?_
    refine s_iload (pc := 18) dX8_talkerOn_18 rfl ?_
    obtain ⟨k1, H⟩ := H
    refine s_iadd (pc := 20) dX8_talkerOn_20 k1 ?_
    obtain ⟨k2, H⟩ := H
    refine s_iald (pc := 21) (x := h.1 5 (Int.toNat (7 + x4))) dX8_talkerOn_21 cSm_5 k2 rfl ?_
    refine s_iconst (pc := 22) dX8_talkerOn_22 (j_cst rfl) ?_
    refine s_icmp_ne (pc := 23) (tgt := 41) dX8_talkerOn_23 (by decide) (fun hc => ?_) (fun hc => ?_)
    · have H := H.2 hc
      refine s_iload_n (pc := 41) dX8_talkerOn_41 rfl ?_
      refine s_istore_n (pc := 42) (lv' := [jR 0, jR 5, jI x2, jI x3, jI x4]) dX8_talkerOn_42 (by decide) rfl ?_
      obtain ⟨k3, H⟩ := H
      refine s_iinc (pc := 43) (lv' := [jR 0, jR 5, jI x2, jI x3, jI (x4 + 1)]) dX8_talkerOn_43 rfl (by decide) k3 rfl ?_
      refine s_goto (pc := 46) (tgt := 6) dX8_talkerOn_46 (by decide) ?_
      exact H
    · have H := H.1 hc
      refine s_aload_n (pc := 26) dX8_talkerOn_26 rfl ?_
      refine s_iload (pc := 27) dX8_talkerOn_27 rfl ?_
      refine s_iload_n (pc := 29) dX8_talkerOn_29 rfl ?_
      obtain ⟨post, hct, H⟩ := H
      refine s_callV (pc := 30) (as := [jI x4, jI x2]) (st := []) (by exact dX8_talkerOn_30) mv_X8_128 ⟨rfl, rfl, Nat.le_of_ble_eq_true rfl, Nat.le_of_ble_eq_true rfl⟩ cSm_0 rfl rfl (Nat.le_of_ble_eq_true rfl) _ rfl hct (fun r4 h5 hp => ?_)
      obtain ⟨r4, rfl, hp⟩ := hp
      have H := H r4 h5 hp
      show WV _ _ _ _ 33 [jR 0, jR 5, jI x2, jI x3, jI x4] [jI r4] h5
      refine s_if_eq (pc := 33) (tgt := 41) dX8_talkerOn_33 (by decide) (fun hc => ?_) (fun hc => ?_)
      · have H := H.1 hc
        refine s_iload_n (pc := 41) dX8_talkerOn_41 rfl ?_
        refine s_istore_n (pc := 42) (lv' := [jR 0, jR 5, jI x2, jI x3, jI x4]) dX8_talkerOn_42 (by decide) rfl ?_
        obtain ⟨k6, H⟩ := H
        refine s_iinc (pc := 43) (lv' := [jR 0, jR 5, jI x2, jI x3, jI (x4 + 1)]) dX8_talkerOn_43 rfl (by decide) k6 rfl ?_
        refine s_goto (pc := 46) (tgt := 6) dX8_talkerOn_46 (by decide) ?_
        exact H
      · have H := H.2 hc
        refine s_iload (pc := 36) dX8_talkerOn_36 rfl ?_
        refine s_goto (pc := 38) (tgt := 42) dX8_talkerOn_38 (by decide) ?_
        refine s_istore_n (pc := 42) (lv' := [jR 0, jR 5, jI x2, jI x4, jI x4]) dX8_talkerOn_42 (by decide) rfl ?_
        obtain ⟨k7, H⟩ := H
        refine s_iinc (pc := 43) (lv' := [jR 0, jR 5, jI x2, jI x4, jI (x4 + 1)]) dX8_talkerOn_43 rfl (by decide) k7 rfl ?_
        refine s_goto (pc := 46) (tgt := 6) dX8_talkerOn_46 (by decide) ?_
        exact H
theorem en_X8_line_0 {x1 x2 : Int} {h : jH} {post : jQ} (k : ∀ G, WV Sm G M_X8_line post 0 [jR 0, jI x1, jI x2] [] h) : CT Sm M_X8_line [jR 0, jI x1, jI x2] h post := CT.of (by decide +kernel) (by simp [j_un]) (Nat.le_of_ble_eq_true rfl) _ rfl k
set_option maxRecDepth 20000 in
theorem vc_X8_line_0_0 {G : jG} {Q : jQ} {x1 x2 : Int} {h : jH}
    (H : ∃ post : Int → jH → Prop, CT Sm M_X8_isLine [jR 0, jI x1] h (jPi post) ∧ ∀ (r1 : Int) (h2 : jH), post r1 h2 → ((r1 = 0 → Q (some (jI (-1))) h2) ∧ (¬ r1 = 0 → ∃ post : Int → jH → Prop, CT Sm M_X8_in [jI x2, jI 0, jI 1] h2 (jPi post) ∧ ∀ (r3 : Int) (h4 : jH), post r3 h4 → ((r3 = 0 → Q (some (jI (-1))) h4) ∧ (¬ r3 = 0 → (x2 = 0 → ∃ post : Int → jH → Prop, CT Sm M_X8_holeOf [jR 0, jI x1] h4 (jPi post) ∧ ∀ (r7 : Int) (h8 : jH), post r7 h8 → (Q (some (jI r7)) h8)) ∧ (¬ x2 = 0 → ∃ post : Int → jH → Prop, CT Sm M_X8_talkerOn [jR 0, jR 5, jI x1] h4 (jPi post) ∧ ∀ (r5 : Int) (h6 : jH), post r5 h6 → (Q (some (jI r5)) h6))))))) :
    WV Sm G M_X8_line Q 0 [jR 0, jI x1, jI x2] [] h := by
  refine s_aload_n (pc := 0) dX8_line_0 rfl ?_
  refine s_iload_n (pc := 1) dX8_line_1 rfl ?_
  obtain ⟨post, hct, H⟩ := H
  refine s_callV (pc := 2) (as := [jI x1]) (st := []) (by exact dX8_line_2) mv_X8_157 ⟨rfl, rfl, Nat.le_of_ble_eq_true rfl, Nat.le_of_ble_eq_true rfl⟩ cSm_0 rfl rfl (Nat.le_of_ble_eq_true rfl) _ rfl hct (fun r1 h2 hp => ?_)
  obtain ⟨r1, rfl, hp⟩ := hp
  have H := H r1 h2 hp
  show WV _ _ _ _ 5 [jR 0, jI x1, jI x2] [jI r1] h2
  refine s_if_eq (pc := 5) (tgt := 17) dX8_line_5 (by decide) (fun hc => ?_) (fun hc => ?_)
  · have H := H.1 hc
    refine s_iconst (pc := 17) dX8_line_17 (j_cst rfl) ?_
    exact s_iret dX8_line_18 rfl H
  · have H := H.2 hc
    refine s_iload_n (pc := 8) dX8_line_8 rfl ?_
    refine s_iconst (pc := 9) dX8_line_9 (j_cst rfl) ?_
    refine s_iconst (pc := 10) dX8_line_10 (j_cst rfl) ?_
    obtain ⟨post, hct, H⟩ := H
    refine s_callS (pc := 11) (as := [jI x2, jI 0, jI 1]) (st := []) (by exact dX8_line_11) ms_X8_63 ⟨rfl, rfl, Nat.le_of_ble_eq_true rfl, Nat.le_of_ble_eq_true rfl⟩ (Nat.le_of_ble_eq_true rfl) _ rfl hct (fun r3 h4 hp => ?_)
    obtain ⟨r3, rfl, hp⟩ := hp
    have H := H r3 h4 hp
    show WV _ _ _ _ 14 [jR 0, jI x1, jI x2] [jI r3] h4
    refine s_if_ne (pc := 14) (tgt := 19) dX8_line_14 (by decide) (fun hc => ?_) (fun hc => ?_)
    · have H := H.2 hc
      refine s_iload_n (pc := 19) dX8_line_19 rfl ?_
      refine s_if_ne (pc := 20) (tgt := 31) dX8_line_20 (by decide) (fun hc => ?_) (fun hc => ?_)
      · have H := H.2 hc
        refine s_aload_n (pc := 31) dX8_line_31 rfl ?_
        refine s_aload_n (pc := 32) dX8_line_32 rfl ?_
        refine s_getr (pc := 33) dX8_line_33 fl_X8_29 cSm_0 rfl ?_
        refine s_iload_n (pc := 36) dX8_line_36 rfl ?_
        obtain ⟨post, hct, H⟩ := H
        refine s_callV (pc := 37) (as := [jR 5, jI x1]) (st := []) (by exact dX8_line_37) mv_X8_138 ⟨rfl, rfl, Nat.le_of_ble_eq_true rfl, Nat.le_of_ble_eq_true rfl⟩ cSm_0 rfl rfl (Nat.le_of_ble_eq_true rfl) _ rfl hct (fun r5 h6 hp => ?_)
        obtain ⟨r5, rfl, hp⟩ := hp
        have H := H r5 h6 hp
        show WV _ _ _ _ 40 [jR 0, jI x1, jI x2] [jI r5] h6
        exact s_iret dX8_line_40 rfl H
      · have H := H.1 hc
        refine s_aload_n (pc := 23) dX8_line_23 rfl ?_
        refine s_iload_n (pc := 24) dX8_line_24 rfl ?_
        obtain ⟨post, hct, H⟩ := H
        refine s_callV (pc := 25) (as := [jI x1]) (st := []) (by exact dX8_line_25) mv_X8_148 ⟨rfl, rfl, Nat.le_of_ble_eq_true rfl, Nat.le_of_ble_eq_true rfl⟩ cSm_0 rfl rfl (Nat.le_of_ble_eq_true rfl) _ rfl hct (fun r7 h8 hp => ?_)
        obtain ⟨r7, rfl, hp⟩ := hp
        have H := H r7 h8 hp
        show WV _ _ _ _ 28 [jR 0, jI x1, jI x2] [jI r7] h8
        refine s_goto (pc := 28) (tgt := 40) dX8_line_28 (by decide) ?_
        exact s_iret dX8_line_40 rfl H
    · have H := H.1 hc
      refine s_iconst (pc := 17) dX8_line_17 (j_cst rfl) ?_
      exact s_iret dX8_line_18 rfl H
theorem en_X8_isCall_0 {x1 : Int} {h : jH} {post : jQ} (k : ∀ G, WV Sm G M_X8_isCall post 0 [jR 0, jI x1] [] h) : CT Sm M_X8_isCall [jR 0, jI x1] h post := CT.of (by decide +kernel) (by simp [j_un]) (Nat.le_of_ble_eq_true rfl) _ rfl k
set_option maxRecDepth 20000 in
theorem vc_X8_isCall_0_0 {G : jG} {Q : jQ} {x1 : Int} {h : jH}
    (H : (j_rg ((h.1 0 15) - 1)) ∧ (∃ post : Int → jH → Prop, CT Sm M_X8_in [jI x1, jI 0, jI ((h.1 0 15) - 1)] h (jPi post) ∧ ∀ (r2 : Int) (h3 : jH), post r2 h3 → ((r2 = 0 ∨ r2 = 1) ∧ (Q (some (jI r2)) h3)))) :
    WV Sm G M_X8_isCall Q 0 [jR 0, jI x1] [] h := by
  refine s_iload_n (pc := 0) dX8_isCall_0 rfl ?_
  refine s_iconst (pc := 1) dX8_isCall_1 (j_cst rfl) ?_
  refine s_aload_n (pc := 2) dX8_isCall_2 rfl ?_
  refine s_geti (pc := 3) (x := h.1 0 15) dX8_isCall_3 fl_X8_57 cSm_0 rfl rfl ?_
  refine s_iconst (pc := 6) dX8_isCall_6 (j_cst rfl) ?_
  obtain ⟨k1, H⟩ := H
  refine s_isub (pc := 7) dX8_isCall_7 k1 ?_
  obtain ⟨post, hct, H⟩ := H
  refine s_callS (pc := 8) (as := [jI x1, jI 0, jI ((h.1 0 15) - 1)]) (st := []) (by exact dX8_isCall_8) ms_X8_63 ⟨rfl, rfl, Nat.le_of_ble_eq_true rfl, Nat.le_of_ble_eq_true rfl⟩ (Nat.le_of_ble_eq_true rfl) _ rfl hct (fun r2 h3 hp => ?_)
  obtain ⟨r2, rfl, hp⟩ := hp
  have H := H r2 h3 hp
  show WV _ _ _ _ 11 [jR 0, jI x1] [jI r2] h3
  obtain ⟨k4, H⟩ := H
  exact s_zret dX8_isCall_11 rfl k4 H
theorem en_X8_call_0 {x1 x2 : Int} {h : jH} {post : jQ} (k : ∀ G, WV Sm G M_X8_call post 0 [jR 0, jI x1, jI x2] [] h) : CT Sm M_X8_call [jR 0, jI x1, jI x2] h post := CT.of (by decide +kernel) (by simp [j_un]) (Nat.le_of_ble_eq_true rfl) _ rfl k
set_option maxRecDepth 20000 in
theorem vc_X8_call_0_0 {G : jG} {Q : jQ} {x1 x2 : Int} {h : jH}
    (H : ∃ post : Int → jH → Prop, CT Sm M_X8_isCall [jR 0, jI x1] h (jPi post) ∧ ∀ (r1 : Int) (h2 : jH), post r1 h2 → ((r1 = 0 → Q (some (jI (-1))) h2) ∧ (¬ r1 = 0 → (x2 = 0 → (j_rg (5 * x1)) ∧ ((j_rg ((5 * x1) + x2)) ∧ ((0 ≤ (5 * x1) + x2 ∧ (5 * x1) + x2 < 35) ∧ (Q (some (jI (h2.1 4 (Int.toNat ((5 * x1) + x2))))) h2)))) ∧ (x2 = 1 → (j_rg (5 * x1)) ∧ ((j_rg ((5 * x1) + x2)) ∧ ((0 ≤ (5 * x1) + x2 ∧ (5 * x1) + x2 < 35) ∧ (Q (some (jI (h2.1 4 (Int.toNat ((5 * x1) + x2))))) h2)))) ∧ (x2 = 2 → (j_rg (5 * x1)) ∧ ((j_rg ((5 * x1) + x2)) ∧ ((0 ≤ (5 * x1) + x2 ∧ (5 * x1) + x2 < 35) ∧ (Q (some (jI (h2.1 4 (Int.toNat ((5 * x1) + x2))))) h2)))) ∧ (x2 = 3 → (j_rg (5 * x1)) ∧ ((j_rg ((5 * x1) + x2)) ∧ ((0 ≤ (5 * x1) + x2 ∧ (5 * x1) + x2 < 35) ∧ (Q (some (jI (h2.1 4 (Int.toNat ((5 * x1) + x2))))) h2)))) ∧ (x2 = 4 → (j_rg (5 * x1)) ∧ ((j_rg ((5 * x1) + x2)) ∧ ((0 ≤ (5 * x1) + x2 ∧ (5 * x1) + x2 < 35) ∧ (Q (some (jI (h2.1 4 (Int.toNat ((5 * x1) + x2))))) h2)))) ∧ (x2 = 5 → (j_rg (7 + x1)) ∧ ((0 ≤ 7 + x1 ∧ 7 + x1 < 28) ∧ (Q (some (jI (h2.1 5 (Int.toNat (7 + x1))))) h2))) ∧ (x2 = 6 → (j_rg (7 + x1)) ∧ ((0 ≤ 7 + x1 ∧ 7 + x1 < 28) ∧ (((h2.1 5 (Int.toNat (7 + x1))) = 2 → (j_rg (14 + x1)) ∧ ((0 ≤ 14 + x1 ∧ 14 + x1 < 28) ∧ (Q (some (jI (h2.1 5 (Int.toNat (14 + x1))))) h2))) ∧ (¬ (h2.1 5 (Int.toNat (7 + x1))) = 2 → Q (some (jI 0)) h2)))) ∧ (x2 = 7 → (j_rg (21 + x1)) ∧ ((0 ≤ 21 + x1 ∧ 21 + x1 < 28) ∧ (Q (some (jI (h2.1 5 (Int.toNat (21 + x1))))) h2))) ∧ (x2 < 0 ∨ 7 < x2 → Q (some (jI (-1))) h2)))) :
    WV Sm G M_X8_call Q 0 [jR 0, jI x1, jI x2] [] h := by
  refine s_aload_n (pc := 0) dX8_call_0 rfl ?_
  refine s_iload_n (pc := 1) dX8_call_1 rfl ?_
  obtain ⟨post, hct, H⟩ := H
  refine s_callV (pc := 2) (as := [jI x1]) (st := []) (by exact dX8_call_2) mv_X8_161 ⟨rfl, rfl, Nat.le_of_ble_eq_true rfl, Nat.le_of_ble_eq_true rfl⟩ cSm_0 rfl rfl (Nat.le_of_ble_eq_true rfl) _ rfl hct (fun r1 h2 hp => ?_)
  obtain ⟨r1, rfl, hp⟩ := hp
  have H := H r1 h2 hp
  show WV _ _ _ _ 5 [jR 0, jI x1, jI x2] [jI r1] h2
  refine s_if_ne (pc := 5) (tgt := 10) dX8_call_5 (by decide) (fun hc => ?_) (fun hc => ?_)
  · have H := H.2 hc
    refine s_iload_n (pc := 10) dX8_call_10 rfl ?_
    refine s_table (pc := 11) dX8_call_11 (fun i => ([56, 56, 56, 56, 56, 67, 77, 104] : List Nat).getD i 0) 114 (by decide) (by decide) (by decide) (fun i hi hx => ?_) (fun hc => ?_)
    · rcases (show i = 0 ∨ i = 1 ∨ i = 2 ∨ i = 3 ∨ i = 4 ∨ i = 5 ∨ i = 6 ∨ i = 7 by have hi : i < 8 := hi; omega) with rfl | rfl | rfl | rfl | rfl | rfl | rfl | rfl
      · have H := H.1 (by simpa using hx)
        refine s_aload_n (pc := 56) dX8_call_56 rfl ?_
        refine s_getr (pc := 57) dX8_call_57 fl_X8_26 cSm_0 rfl ?_
        refine s_iconst (pc := 60) dX8_call_60 (j_cst rfl) ?_
        refine s_iload_n (pc := 61) dX8_call_61 rfl ?_
        obtain ⟨k3, H⟩ := H
        refine s_imul (pc := 62) dX8_call_62 k3 ?_
        refine s_iload_n (pc := 63) dX8_call_63 rfl ?_
        obtain ⟨k4, H⟩ := H
        refine s_iadd (pc := 64) dX8_call_64 k4 ?_
        obtain ⟨k5, H⟩ := H
        refine s_iald (pc := 65) (x := h2.1 4 (Int.toNat ((5 * x1) + x2))) dX8_call_65 cSm_4 k5 rfl ?_
        exact s_iret dX8_call_66 rfl H
      · have H := H.2.1 (by simpa using hx)
        refine s_aload_n (pc := 56) dX8_call_56 rfl ?_
        refine s_getr (pc := 57) dX8_call_57 fl_X8_26 cSm_0 rfl ?_
        refine s_iconst (pc := 60) dX8_call_60 (j_cst rfl) ?_
        refine s_iload_n (pc := 61) dX8_call_61 rfl ?_
        obtain ⟨k6, H⟩ := H
        refine s_imul (pc := 62) dX8_call_62 k6 ?_
        refine s_iload_n (pc := 63) dX8_call_63 rfl ?_
        obtain ⟨k7, H⟩ := H
        refine s_iadd (pc := 64) dX8_call_64 k7 ?_
        obtain ⟨k8, H⟩ := H
        refine s_iald (pc := 65) (x := h2.1 4 (Int.toNat ((5 * x1) + x2))) dX8_call_65 cSm_4 k8 rfl ?_
        exact s_iret dX8_call_66 rfl H
      · have H := H.2.2.1 (by simpa using hx)
        refine s_aload_n (pc := 56) dX8_call_56 rfl ?_
        refine s_getr (pc := 57) dX8_call_57 fl_X8_26 cSm_0 rfl ?_
        refine s_iconst (pc := 60) dX8_call_60 (j_cst rfl) ?_
        refine s_iload_n (pc := 61) dX8_call_61 rfl ?_
        obtain ⟨k9, H⟩ := H
        refine s_imul (pc := 62) dX8_call_62 k9 ?_
        refine s_iload_n (pc := 63) dX8_call_63 rfl ?_
        obtain ⟨k10, H⟩ := H
        refine s_iadd (pc := 64) dX8_call_64 k10 ?_
        obtain ⟨k11, H⟩ := H
        refine s_iald (pc := 65) (x := h2.1 4 (Int.toNat ((5 * x1) + x2))) dX8_call_65 cSm_4 k11 rfl ?_
        exact s_iret dX8_call_66 rfl H
      · have H := H.2.2.2.1 (by simpa using hx)
        refine s_aload_n (pc := 56) dX8_call_56 rfl ?_
        refine s_getr (pc := 57) dX8_call_57 fl_X8_26 cSm_0 rfl ?_
        refine s_iconst (pc := 60) dX8_call_60 (j_cst rfl) ?_
        refine s_iload_n (pc := 61) dX8_call_61 rfl ?_
        obtain ⟨k12, H⟩ := H
        refine s_imul (pc := 62) dX8_call_62 k12 ?_
        refine s_iload_n (pc := 63) dX8_call_63 rfl ?_
        obtain ⟨k13, H⟩ := H
        refine s_iadd (pc := 64) dX8_call_64 k13 ?_
        obtain ⟨k14, H⟩ := H
        refine s_iald (pc := 65) (x := h2.1 4 (Int.toNat ((5 * x1) + x2))) dX8_call_65 cSm_4 k14 rfl ?_
        exact s_iret dX8_call_66 rfl H
      · have H := H.2.2.2.2.1 (by simpa using hx)
        refine s_aload_n (pc := 56) dX8_call_56 rfl ?_
        refine s_getr (pc := 57) dX8_call_57 fl_X8_26 cSm_0 rfl ?_
        refine s_iconst (pc := 60) dX8_call_60 (j_cst rfl) ?_
        refine s_iload_n (pc := 61) dX8_call_61 rfl ?_
        obtain ⟨k15, H⟩ := H
        refine s_imul (pc := 62) dX8_call_62 k15 ?_
        refine s_iload_n (pc := 63) dX8_call_63 rfl ?_
        obtain ⟨k16, H⟩ := H
        refine s_iadd (pc := 64) dX8_call_64 k16 ?_
        obtain ⟨k17, H⟩ := H
        refine s_iald (pc := 65) (x := h2.1 4 (Int.toNat ((5 * x1) + x2))) dX8_call_65 cSm_4 k17 rfl ?_
        exact s_iret dX8_call_66 rfl H
      · have H := H.2.2.2.2.2.1 (by simpa using hx)
        refine s_aload_n (pc := 67) dX8_call_67 rfl ?_
        refine s_getr (pc := 68) dX8_call_68 fl_X8_29 cSm_0 rfl ?_
        refine s_bipush (pc := 71) dX8_call_71 rfl (j_cst rfl) ?_
        refine s_iload_n (pc := 73) dX8_call_73 rfl ?_
        obtain ⟨k18, H⟩ := H
        refine s_iadd (pc := 74) dX8_call_74 k18 ?_
        obtain ⟨k19, H⟩ := H
        refine s_iald (pc := 75) (x := h2.1 5 (Int.toNat (7 + x1))) dX8_call_75 cSm_5 k19 rfl ?_
        exact s_iret dX8_call_76 rfl H
      · have H := H.2.2.2.2.2.2.1 (by simpa using hx)
        refine s_aload_n (pc := 77) dX8_call_77 rfl ?_
        refine s_getr (pc := 78) dX8_call_78 fl_X8_29 cSm_0 rfl ?_
        refine s_bipush (pc := 81) dX8_call_81 rfl (j_cst rfl) ?_
        refine s_iload_n (pc := 83) dX8_call_83 rfl ?_
        obtain ⟨k20, H⟩ := H
        refine s_iadd (pc := 84) dX8_call_84 k20 ?_
        obtain ⟨k21, H⟩ := H
        refine s_iald (pc := 85) (x := h2.1 5 (Int.toNat (7 + x1))) dX8_call_85 cSm_5 k21 rfl ?_
        refine s_iconst (pc := 86) dX8_call_86 (j_cst rfl) ?_
        refine s_icmp_ne (pc := 87) (tgt := 102) dX8_call_87 (by decide) (fun hc => ?_) (fun hc => ?_)
        · have H := H.2 hc
          refine s_iconst (pc := 102) dX8_call_102 (j_cst rfl) ?_
          exact s_iret dX8_call_103 rfl H
        · have H := H.1 hc
          refine s_aload_n (pc := 90) dX8_call_90 rfl ?_
          refine s_getr (pc := 91) dX8_call_91 fl_X8_29 cSm_0 rfl ?_
          refine s_bipush (pc := 94) dX8_call_94 rfl (j_cst rfl) ?_
          refine s_iload_n (pc := 96) dX8_call_96 rfl ?_
          obtain ⟨k22, H⟩ := H
          refine s_iadd (pc := 97) dX8_call_97 k22 ?_
          obtain ⟨k23, H⟩ := H
          refine s_iald (pc := 98) (x := h2.1 5 (Int.toNat (14 + x1))) dX8_call_98 cSm_5 k23 rfl ?_
          refine s_goto (pc := 99) (tgt := 103) dX8_call_99 (by decide) ?_
          exact s_iret dX8_call_103 rfl H
      · have H := H.2.2.2.2.2.2.2.1 (by simpa using hx)
        refine s_aload_n (pc := 104) dX8_call_104 rfl ?_
        refine s_getr (pc := 105) dX8_call_105 fl_X8_29 cSm_0 rfl ?_
        refine s_bipush (pc := 108) dX8_call_108 rfl (j_cst rfl) ?_
        refine s_iload_n (pc := 110) dX8_call_110 rfl ?_
        obtain ⟨k24, H⟩ := H
        refine s_iadd (pc := 111) dX8_call_111 k24 ?_
        obtain ⟨k25, H⟩ := H
        refine s_iald (pc := 112) (x := h2.1 5 (Int.toNat (21 + x1))) dX8_call_112 cSm_5 k25 rfl ?_
        exact s_iret dX8_call_113 rfl H
    · have H := H.2.2.2.2.2.2.2.2 hc
      refine s_iconst (pc := 114) dX8_call_114 (j_cst rfl) ?_
      exact s_iret dX8_call_115 rfl H
  · have H := H.1 hc
    refine s_iconst (pc := 8) dX8_call_8 (j_cst rfl) ?_
    exact s_iret dX8_call_9 rfl H
theorem en_X8_isBetween {x0 x1 x2 : Int} {h : jH} {post : jQ} (k : ∀ G, WV Sm G M_X8_isBetween post 0 [jI x0, jI x1, jI x2] [] h) : CT Sm M_X8_isBetween [jI x0, jI x1, jI x2] h post := CT.of (by decide +kernel) (by simp [j_un]) (Nat.le_of_ble_eq_true rfl) _ rfl k
set_option maxRecDepth 20000 in
theorem vc_X8_isBetween_0 {G : jG} {Q : jQ} {x0 x1 x2 : Int} {h : jH}
    (H : (x2 ≤ x1 → (x0 ≤ x2 → Q (some (jI 0)) h) ∧ (¬ x0 ≤ x2 → (x1 ≤ x0 → Q (some (jI 0)) h) ∧ (¬ x1 ≤ x0 → Q (some (jI 1)) h))) ∧ (¬ x2 ≤ x1 → (x0 ≤ x1 → Q (some (jI 0)) h) ∧ (¬ x0 ≤ x1 → (x2 ≤ x0 → Q (some (jI 0)) h) ∧ (¬ x2 ≤ x0 → Q (some (jI 1)) h)))) :
    WV Sm G M_X8_isBetween Q 0 [jI x0, jI x1, jI x2] [] h := by
  refine s_iload_n (pc := 0) dX8_isBetween_0 rfl ?_
  refine s_iload_n (pc := 1) dX8_isBetween_1 rfl ?_
  refine s_icmp_ge (pc := 2) (tgt := 23) dX8_isBetween_2 (by decide) (fun hc => ?_) (fun hc => ?_)
  · have H := H.1 hc
    refine s_iload_n (pc := 23) dX8_isBetween_23 rfl ?_
    refine s_iload_n (pc := 24) dX8_isBetween_24 rfl ?_
    refine s_icmp_le (pc := 25) (tgt := 37) dX8_isBetween_25 (by decide) (fun hc => ?_) (fun hc => ?_)
    · have H := H.1 hc
      refine s_iconst (pc := 37) dX8_isBetween_37 (j_cst rfl) ?_
      exact s_zret dX8_isBetween_38 rfl (Or.inl rfl) H
    · have H := H.2 hc
      refine s_iload_n (pc := 28) dX8_isBetween_28 rfl ?_
      refine s_iload_n (pc := 29) dX8_isBetween_29 rfl ?_
      refine s_icmp_ge (pc := 30) (tgt := 37) dX8_isBetween_30 (by decide) (fun hc => ?_) (fun hc => ?_)
      · have H := H.1 hc
        refine s_iconst (pc := 37) dX8_isBetween_37 (j_cst rfl) ?_
        exact s_zret dX8_isBetween_38 rfl (Or.inl rfl) H
      · have H := H.2 hc
        refine s_iconst (pc := 33) dX8_isBetween_33 (j_cst rfl) ?_
        refine s_goto (pc := 34) (tgt := 38) dX8_isBetween_34 (by decide) ?_
        exact s_zret dX8_isBetween_38 rfl (Or.inr rfl) H
  · have H := H.2 hc
    refine s_iload_n (pc := 5) dX8_isBetween_5 rfl ?_
    refine s_iload_n (pc := 6) dX8_isBetween_6 rfl ?_
    refine s_icmp_le (pc := 7) (tgt := 19) dX8_isBetween_7 (by decide) (fun hc => ?_) (fun hc => ?_)
    · have H := H.1 hc
      refine s_iconst (pc := 19) dX8_isBetween_19 (j_cst rfl) ?_
      refine s_goto (pc := 20) (tgt := 38) dX8_isBetween_20 (by decide) ?_
      exact s_zret dX8_isBetween_38 rfl (Or.inl rfl) H
    · have H := H.2 hc
      refine s_iload_n (pc := 10) dX8_isBetween_10 rfl ?_
      refine s_iload_n (pc := 11) dX8_isBetween_11 rfl ?_
      refine s_icmp_ge (pc := 12) (tgt := 19) dX8_isBetween_12 (by decide) (fun hc => ?_) (fun hc => ?_)
      · have H := H.1 hc
        refine s_iconst (pc := 19) dX8_isBetween_19 (j_cst rfl) ?_
        refine s_goto (pc := 20) (tgt := 38) dX8_isBetween_20 (by decide) ?_
        exact s_zret dX8_isBetween_38 rfl (Or.inl rfl) H
      · have H := H.2 hc
        refine s_iconst (pc := 15) dX8_isBetween_15 (j_cst rfl) ?_
        refine s_goto (pc := 16) (tgt := 38) dX8_isBetween_16 (by decide) ?_
        exact s_zret dX8_isBetween_38 rfl (Or.inr rfl) H
theorem en_X8_cross_0 {x1 x2 : Int} {h : jH} {post : jQ} (k : ∀ G, WV Sm G M_X8_cross post 0 [jR 0, jI x1, jI x2, jU, jU] [] h) : CT Sm M_X8_cross [jR 0, jI x1, jI x2] h post := CT.of (by decide +kernel) (by simp [j_un]) (Nat.le_of_ble_eq_true rfl) _ rfl k
set_option maxRecDepth 20000 in
theorem vc_X8_cross_0_0 {G : jG} {Q : jQ} {x1 x2 : Int} {h : jH}
    (H : ∃ post : Int → jH → Prop, CT Sm M_X8_fromOf [jR 0, jI x1] h (jPi post) ∧ ∀ (r1 : Int) (h2 : jH), post r1 h2 → (∃ post : Int → jH → Prop, CT Sm M_X8_isOn [jR 0, jI x2, jI r1] h2 (jPi post) ∧ ∀ (r3 : Int) (h4 : jH), post r3 h4 → ((r3 = 0 → ∃ post : Int → jH → Prop, CT Sm M_X8_toOf [jR 0, jI x1] h4 (jPi post) ∧ ∀ (r5 : Int) (h6 : jH), post r5 h6 → (∃ post : Int → jH → Prop, CT Sm M_X8_isOn [jR 0, jI x2, jI r5] h6 (jPi post) ∧ ∀ (r7 : Int) (h8 : jH), post r7 h8 → ((r7 = 0 → ∃ post : Int → jH → Prop, CT Sm M_X8_fromOf [jR 0, jI x1] h8 (jPi post) ∧ ∀ (r9 : Int) (h10 : jH), post r9 h10 → (∃ post : Int → jH → Prop, CT Sm M_X8_holeOf [jR 0, jI r9] h10 (jPi post) ∧ ∀ (r11 : Int) (h12 : jH), post r11 h12 → (∃ post : Int → jH → Prop, CT Sm M_X8_toOf [jR 0, jI x1] h12 (jPi post) ∧ ∀ (r13 : Int) (h14 : jH), post r13 h14 → (∃ post : Int → jH → Prop, CT Sm M_X8_holeOf [jR 0, jI r13] h14 (jPi post) ∧ ∀ (r15 : Int) (h16 : jH), post r15 h16 → (∃ post : Int → jH → Prop, CT Sm M_X8_fromOf [jR 0, jI x2] h16 (jPi post) ∧ ∀ (r17 : Int) (h18 : jH), post r17 h18 → (∃ post : Int → jH → Prop, CT Sm M_X8_holeOf [jR 0, jI r17] h18 (jPi post) ∧ ∀ (r19 : Int) (h20 : jH), post r19 h20 → (∃ post : Int → jH → Prop, CT Sm M_X8_isBetween [jI r19, jI r11, jI r15] h20 (jPi post) ∧ ∀ (r21 : Int) (h22 : jH), post r21 h22 → (∃ post : Int → jH → Prop, CT Sm M_X8_toOf [jR 0, jI x2] h22 (jPi post) ∧ ∀ (r23 : Int) (h24 : jH), post r23 h24 → (∃ post : Int → jH → Prop, CT Sm M_X8_holeOf [jR 0, jI r23] h24 (jPi post) ∧ ∀ (r25 : Int) (h26 : jH), post r25 h26 → (∃ post : Int → jH → Prop, CT Sm M_X8_isBetween [jI r25, jI r11, jI r15] h26 (jPi post) ∧ ∀ (r27 : Int) (h28 : jH), post r27 h28 → ((r21 = r27 → Q (some (jI 0)) h28) ∧ (¬ r21 = r27 → Q (some (jI 1)) h28)))))))))))) ∧ (¬ r7 = 0 → Q (some (jI 0)) h8)))) ∧ (¬ r3 = 0 → Q (some (jI 0)) h4)))) :
    WV Sm G M_X8_cross Q 0 [jR 0, jI x1, jI x2, jU, jU] [] h := by
  refine s_aload_n (pc := 0) dX8_cross_0 rfl ?_
  refine s_iload_n (pc := 1) dX8_cross_1 rfl ?_
  refine s_aload_n (pc := 2) dX8_cross_2 rfl ?_
  refine s_iload_n (pc := 3) dX8_cross_3 rfl ?_
  obtain ⟨post, hct, H⟩ := H
  refine s_callV (pc := 4) (as := [jI x1]) (st := [jI x2, jR 0]) (by exact dX8_cross_4) mv_X8_121 ⟨rfl, rfl, Nat.le_of_ble_eq_true rfl, Nat.le_of_ble_eq_true rfl⟩ cSm_0 rfl rfl (Nat.le_of_ble_eq_true rfl) _ rfl hct (fun r1 h2 hp => ?_)
  obtain ⟨r1, rfl, hp⟩ := hp
  have H := H r1 h2 hp
  show WV _ _ _ _ 7 [jR 0, jI x1, jI x2, jU, jU] [jI r1, jI x2, jR 0] h2
  obtain ⟨post, hct, H⟩ := H
  refine s_callV (pc := 7) (as := [jI x2, jI r1]) (st := []) (by exact dX8_cross_7) mv_X8_128 ⟨rfl, rfl, Nat.le_of_ble_eq_true rfl, Nat.le_of_ble_eq_true rfl⟩ cSm_0 rfl rfl (Nat.le_of_ble_eq_true rfl) _ rfl hct (fun r3 h4 hp => ?_)
  obtain ⟨r3, rfl, hp⟩ := hp
  have H := H r3 h4 hp
  show WV _ _ _ _ 10 [jR 0, jI x1, jI x2, jU, jU] [jI r3] h4
  refine s_if_ne (pc := 10) (tgt := 26) dX8_cross_10 (by decide) (fun hc => ?_) (fun hc => ?_)
  · have H := H.2 hc
    refine s_iconst (pc := 26) dX8_cross_26 (j_cst rfl) ?_
    exact s_zret dX8_cross_27 rfl (Or.inl rfl) H
  · have H := H.1 hc
    refine s_aload_n (pc := 13) dX8_cross_13 rfl ?_
    refine s_iload_n (pc := 14) dX8_cross_14 rfl ?_
    refine s_aload_n (pc := 15) dX8_cross_15 rfl ?_
    refine s_iload_n (pc := 16) dX8_cross_16 rfl ?_
    obtain ⟨post, hct, H⟩ := H
    refine s_callV (pc := 17) (as := [jI x1]) (st := [jI x2, jR 0]) (by exact dX8_cross_17) mv_X8_125 ⟨rfl, rfl, Nat.le_of_ble_eq_true rfl, Nat.le_of_ble_eq_true rfl⟩ cSm_0 rfl rfl (Nat.le_of_ble_eq_true rfl) _ rfl hct (fun r5 h6 hp => ?_)
    obtain ⟨r5, rfl, hp⟩ := hp
    have H := H r5 h6 hp
    show WV _ _ _ _ 20 [jR 0, jI x1, jI x2, jU, jU] [jI r5, jI x2, jR 0] h6
    obtain ⟨post, hct, H⟩ := H
    refine s_callV (pc := 20) (as := [jI x2, jI r5]) (st := []) (by exact dX8_cross_20) mv_X8_128 ⟨rfl, rfl, Nat.le_of_ble_eq_true rfl, Nat.le_of_ble_eq_true rfl⟩ cSm_0 rfl rfl (Nat.le_of_ble_eq_true rfl) _ rfl hct (fun r7 h8 hp => ?_)
    obtain ⟨r7, rfl, hp⟩ := hp
    have H := H r7 h8 hp
    show WV _ _ _ _ 23 [jR 0, jI x1, jI x2, jU, jU] [jI r7] h8
    refine s_if_eq (pc := 23) (tgt := 28) dX8_cross_23 (by decide) (fun hc => ?_) (fun hc => ?_)
    · have H := H.1 hc
      refine s_aload_n (pc := 28) dX8_cross_28 rfl ?_
      refine s_aload_n (pc := 29) dX8_cross_29 rfl ?_
      refine s_iload_n (pc := 30) dX8_cross_30 rfl ?_
      obtain ⟨post, hct, H⟩ := H
      refine s_callV (pc := 31) (as := [jI x1]) (st := [jR 0]) (by exact dX8_cross_31) mv_X8_121 ⟨rfl, rfl, Nat.le_of_ble_eq_true rfl, Nat.le_of_ble_eq_true rfl⟩ cSm_0 rfl rfl (Nat.le_of_ble_eq_true rfl) _ rfl hct (fun r9 h10 hp => ?_)
      obtain ⟨r9, rfl, hp⟩ := hp
      have H := H r9 h10 hp
      show WV _ _ _ _ 34 [jR 0, jI x1, jI x2, jU, jU] [jI r9, jR 0] h10
      obtain ⟨post, hct, H⟩ := H
      refine s_callV (pc := 34) (as := [jI r9]) (st := []) (by exact dX8_cross_34) mv_X8_148 ⟨rfl, rfl, Nat.le_of_ble_eq_true rfl, Nat.le_of_ble_eq_true rfl⟩ cSm_0 rfl rfl (Nat.le_of_ble_eq_true rfl) _ rfl hct (fun r11 h12 hp => ?_)
      obtain ⟨r11, rfl, hp⟩ := hp
      have H := H r11 h12 hp
      show WV _ _ _ _ 37 [jR 0, jI x1, jI x2, jU, jU] [jI r11] h12
      refine s_istore_n (pc := 37) (lv' := [jR 0, jI x1, jI x2, jI r11, jU]) dX8_cross_37 (by decide) rfl ?_
      refine s_aload_n (pc := 38) dX8_cross_38 rfl ?_
      refine s_aload_n (pc := 39) dX8_cross_39 rfl ?_
      refine s_iload_n (pc := 40) dX8_cross_40 rfl ?_
      obtain ⟨post, hct, H⟩ := H
      refine s_callV (pc := 41) (as := [jI x1]) (st := [jR 0]) (by exact dX8_cross_41) mv_X8_125 ⟨rfl, rfl, Nat.le_of_ble_eq_true rfl, Nat.le_of_ble_eq_true rfl⟩ cSm_0 rfl rfl (Nat.le_of_ble_eq_true rfl) _ rfl hct (fun r13 h14 hp => ?_)
      obtain ⟨r13, rfl, hp⟩ := hp
      have H := H r13 h14 hp
      show WV _ _ _ _ 44 [jR 0, jI x1, jI x2, jI r11, jU] [jI r13, jR 0] h14
      obtain ⟨post, hct, H⟩ := H
      refine s_callV (pc := 44) (as := [jI r13]) (st := []) (by exact dX8_cross_44) mv_X8_148 ⟨rfl, rfl, Nat.le_of_ble_eq_true rfl, Nat.le_of_ble_eq_true rfl⟩ cSm_0 rfl rfl (Nat.le_of_ble_eq_true rfl) _ rfl hct (fun r15 h16 hp => ?_)
      obtain ⟨r15, rfl, hp⟩ := hp
      have H := H r15 h16 hp
      show WV _ _ _ _ 47 [jR 0, jI x1, jI x2, jI r11, jU] [jI r15] h16
      refine s_istore (pc := 47) (lv' := [jR 0, jI x1, jI x2, jI r11, jI r15]) dX8_cross_47 (by decide) rfl ?_
      refine s_aload_n (pc := 49) dX8_cross_49 rfl ?_
      refine s_aload_n (pc := 50) dX8_cross_50 rfl ?_
      refine s_iload_n (pc := 51) dX8_cross_51 rfl ?_
      obtain ⟨post, hct, H⟩ := H
      refine s_callV (pc := 52) (as := [jI x2]) (st := [jR 0]) (by exact dX8_cross_52) mv_X8_121 ⟨rfl, rfl, Nat.le_of_ble_eq_true rfl, Nat.le_of_ble_eq_true rfl⟩ cSm_0 rfl rfl (Nat.le_of_ble_eq_true rfl) _ rfl hct (fun r17 h18 hp => ?_)
      obtain ⟨r17, rfl, hp⟩ := hp
      have H := H r17 h18 hp
      show WV _ _ _ _ 55 [jR 0, jI x1, jI x2, jI r11, jI r15] [jI r17, jR 0] h18
      obtain ⟨post, hct, H⟩ := H
      refine s_callV (pc := 55) (as := [jI r17]) (st := []) (by exact dX8_cross_55) mv_X8_148 ⟨rfl, rfl, Nat.le_of_ble_eq_true rfl, Nat.le_of_ble_eq_true rfl⟩ cSm_0 rfl rfl (Nat.le_of_ble_eq_true rfl) _ rfl hct (fun r19 h20 hp => ?_)
      obtain ⟨r19, rfl, hp⟩ := hp
      have H := H r19 h20 hp
      show WV _ _ _ _ 58 [jR 0, jI x1, jI x2, jI r11, jI r15] [jI r19] h20
      refine s_iload_n (pc := 58) dX8_cross_58 rfl ?_
      refine s_iload (pc := 59) dX8_cross_59 rfl ?_
      obtain ⟨post, hct, H⟩ := H
      refine s_callS (pc := 61) (as := [jI r19, jI r11, jI r15]) (st := []) (by exact dX8_cross_61) ms_X8_151 ⟨rfl, rfl, Nat.le_of_ble_eq_true rfl, Nat.le_of_ble_eq_true rfl⟩ (Nat.le_of_ble_eq_true rfl) _ rfl hct (fun r21 h22 hp => ?_)
      obtain ⟨r21, rfl, hp⟩ := hp
      have H := H r21 h22 hp
      show WV _ _ _ _ 64 [jR 0, jI x1, jI x2, jI r11, jI r15] [jI r21] h22
      refine s_aload_n (pc := 64) dX8_cross_64 rfl ?_
      refine s_aload_n (pc := 65) dX8_cross_65 rfl ?_
      refine s_iload_n (pc := 66) dX8_cross_66 rfl ?_
      obtain ⟨post, hct, H⟩ := H
      refine s_callV (pc := 67) (as := [jI x2]) (st := [jR 0, jI r21]) (by exact dX8_cross_67) mv_X8_125 ⟨rfl, rfl, Nat.le_of_ble_eq_true rfl, Nat.le_of_ble_eq_true rfl⟩ cSm_0 rfl rfl (Nat.le_of_ble_eq_true rfl) _ rfl hct (fun r23 h24 hp => ?_)
      obtain ⟨r23, rfl, hp⟩ := hp
      have H := H r23 h24 hp
      show WV _ _ _ _ 70 [jR 0, jI x1, jI x2, jI r11, jI r15] [jI r23, jR 0, jI r21] h24
      obtain ⟨post, hct, H⟩ := H
      refine s_callV (pc := 70) (as := [jI r23]) (st := [jI r21]) (by exact dX8_cross_70) mv_X8_148 ⟨rfl, rfl, Nat.le_of_ble_eq_true rfl, Nat.le_of_ble_eq_true rfl⟩ cSm_0 rfl rfl (Nat.le_of_ble_eq_true rfl) _ rfl hct (fun r25 h26 hp => ?_)
      obtain ⟨r25, rfl, hp⟩ := hp
      have H := H r25 h26 hp
      show WV _ _ _ _ 73 [jR 0, jI x1, jI x2, jI r11, jI r15] [jI r25, jI r21] h26
      refine s_iload_n (pc := 73) dX8_cross_73 rfl ?_
      refine s_iload (pc := 74) dX8_cross_74 rfl ?_
      obtain ⟨post, hct, H⟩ := H
      refine s_callS (pc := 76) (as := [jI r25, jI r11, jI r15]) (st := [jI r21]) (by exact dX8_cross_76) ms_X8_151 ⟨rfl, rfl, Nat.le_of_ble_eq_true rfl, Nat.le_of_ble_eq_true rfl⟩ (Nat.le_of_ble_eq_true rfl) _ rfl hct (fun r27 h28 hp => ?_)
      obtain ⟨r27, rfl, hp⟩ := hp
      have H := H r27 h28 hp
      show WV _ _ _ _ 79 [jR 0, jI x1, jI x2, jI r11, jI r15] [jI r27, jI r21] h28
      refine s_icmp_eq (pc := 79) (tgt := 86) dX8_cross_79 (by decide) (fun hc => ?_) (fun hc => ?_)
      · have H := H.1 hc
        refine s_iconst (pc := 86) dX8_cross_86 (j_cst rfl) ?_
        exact s_zret dX8_cross_87 rfl (Or.inl rfl) H
      · have H := H.2 hc
        refine s_iconst (pc := 82) dX8_cross_82 (j_cst rfl) ?_
        refine s_goto (pc := 83) (tgt := 87) dX8_cross_83 (by decide) ?_
        exact s_zret dX8_cross_87 rfl (Or.inr rfl) H
    · have H := H.2 hc
      refine s_iconst (pc := 26) dX8_cross_26 (j_cst rfl) ?_
      exact s_zret dX8_cross_27 rfl (Or.inl rfl) H
theorem en_X8_crossed_0 {h : jH} {post : jQ} (k : ∀ G, WV Sm G M_X8_crossed post 0 [jR 0, jU, jU, jU] [] h) : CT Sm M_X8_crossed [jR 0] h post := CT.of (by decide +kernel) (by simp [j_un]) (Nat.le_of_ble_eq_true rfl) _ rfl k
set_option maxRecDepth 20000 in
theorem vc_X8_crossed_0_0 {G : jG} {Q : jQ} {h : jH}
    (H : WV Sm G M_X8_crossed Q 4 [jR 0, jI 0, jI 0, jU] [] h) :
    WV Sm G M_X8_crossed Q 0 [jR 0, jU, jU, jU] [] h := by
  refine s_iconst (pc := 0) dX8_crossed_0 (j_cst rfl) ?_
  refine s_istore_n (pc := 1) (lv' := [jR 0, jI 0, jU, jU]) dX8_crossed_1 (by decide) rfl ?_
  refine s_iconst (pc := 2) dX8_crossed_2 (j_cst rfl) ?_
  refine s_istore_n (pc := 3) (lv' := [jR 0, jI 0, jI 0, jU]) dX8_crossed_3 (by decide) rfl ?_
  exact H
set_option maxRecDepth 20000 in
theorem vc_X8_crossed_0_4 {G : jG} {Q : jQ} {x1 x2 : Int} {u3 : jV} {h : jH}
    (H : ((h.1 0 15) ≤ x2 → Q (some (jI x1)) h) ∧ (¬ (h.1 0 15) ≤ x2 → WV Sm G M_X8_crossed Q 14 [jR 0, jI x1, jI x2, jI 0] [] h)) :
    WV Sm G M_X8_crossed Q 4 [jR 0, jI x1, jI x2, u3] [] h := by
  refine s_iload_n (pc := 4) dX8_crossed_4 rfl ?_
  refine s_aload_n (pc := 5) dX8_crossed_5 rfl ?_
  refine s_geti (pc := 6) (x := h.1 0 15) dX8_crossed_6 fl_X8_57 cSm_0 rfl rfl ?_
  refine s_icmp_ge (pc := 9) (tgt := 74) dX8_crossed_9 (by decide) (fun hc => ?_) (fun hc => ?_)
  · have H := H.1 hc
    refine s_iload_n (pc := 74) dX8_crossed_74 rfl ?_
    exact s_iret dX8_crossed_75 rfl H
  · have H := H.2 hc
    refine s_iconst (pc := 12) dX8_crossed_12 (j_cst rfl) ?_
    refine s_istore_n (pc := 13) (lv' := [jR 0, jI x1, jI x2, jI 0]) dX8_crossed_13 (by decide) rfl ?_
    exact H
set_option maxRecDepth 20000 in
theorem vc_X8_crossed_0_14 {G : jG} {Q : jQ} {x1 x2 x3 : Int} {h : jH}
    (H : (x2 ≤ x3 → (j_rg (x2 + 1)) ∧ (WV Sm G M_X8_crossed Q 4 [jR 0, jI x1, jI (x2 + 1), jI x3] [] h)) ∧ (¬ x2 ≤ x3 → (j_rg (7 + x2)) ∧ ((0 ≤ 7 + x2 ∧ 7 + x2 < 28) ∧ (((h.1 5 (Int.toNat (7 + x2))) = 2 → (j_rg (7 + x3)) ∧ ((0 ≤ 7 + x3 ∧ 7 + x3 < 28) ∧ (((h.1 5 (Int.toNat (7 + x3))) = 2 → ∃ post : Int → jH → Prop, CT Sm M_X8_cross [jR 0, jI x2, jI x3] h (jPi post) ∧ ∀ (r10 : Int) (h11 : jH), post r10 h11 → ((r10 = 0 → (j_rg (x1 + 0)) ∧ ((j_rg (x3 + 1)) ∧ (WV Sm G M_X8_crossed Q 14 [jR 0, jI (x1 + 0), jI x2, jI (x3 + 1)] [] h11))) ∧ (¬ r10 = 0 → (j_rg (x1 + 1)) ∧ ((j_rg (x3 + 1)) ∧ (WV Sm G M_X8_crossed Q 14 [jR 0, jI (x1 + 1), jI x2, jI (x3 + 1)] [] h11))))) ∧ (¬ (h.1 5 (Int.toNat (7 + x3))) = 2 → (j_rg (x1 + 0)) ∧ ((j_rg (x3 + 1)) ∧ (WV Sm G M_X8_crossed Q 14 [jR 0, jI (x1 + 0), jI x2, jI (x3 + 1)] [] h)))))) ∧ (¬ (h.1 5 (Int.toNat (7 + x2))) = 2 → (j_rg (x1 + 0)) ∧ ((j_rg (x3 + 1)) ∧ (WV Sm G M_X8_crossed Q 14 [jR 0, jI (x1 + 0), jI x2, jI (x3 + 1)] [] h))))))) :
    WV Sm G M_X8_crossed Q 14 [jR 0, jI x1, jI x2, jI x3] [] h := by
  refine s_iload_n (pc := 14) dX8_crossed_14 rfl ?_
  refine s_iload_n (pc := 15) dX8_crossed_15 rfl ?_
  refine s_icmp_ge (pc := 16) (tgt := 68) dX8_crossed_16 (by decide) (fun hc => ?_) (fun hc => ?_)
  · have H := H.1 hc
    obtain ⟨k1, H⟩ := H
    refine s_iinc (pc := 68) (lv' := [jR 0, jI x1, jI (x2 + 1), jI x3]) dX8_crossed_68 rfl (by decide) k1 rfl ?_
    refine s_goto (pc := 71) (tgt := 4) dX8_crossed_71 (by decide) ?_
    exact H
  · have H := H.2 hc
    refine s_iload_n (pc := 19) dX8_crossed_19 rfl ?_
    refine s_aload_n (pc := 20) dX8_crossed_20 rfl ?_
    refine s_getr (pc := 21) dX8_crossed_21 fl_X8_29 cSm_0 rfl ?_
    refine s_bipush (pc := 24) dX8_crossed_24 rfl (j_cst rfl) ?_
    refine s_iload_n (pc := 26) dX8_crossed_26 rfl ?_
    obtain ⟨k2, H⟩ := H
    refine s_iadd (pc := 27) dX8_crossed_27 k2 ?_
    obtain ⟨k3, H⟩ := H
    refine s_iald (pc := 28) (x := h.1 5 (Int.toNat (7 + x2))) dX8_crossed_28 cSm_5 k3 rfl ?_
    refine s_iconst (pc := 29) dX8_crossed_29 (j_cst rfl) ?_
    refine s_icmp_ne (pc := 30) (tgt := 59) dX8_crossed_30 (by decide) (fun hc => ?_) (fun hc => ?_)
    · have H := H.2 hc
      refine s_iconst (pc := 59) dX8_crossed_59 (j_cst rfl) ?_
      obtain ⟨k4, H⟩ := H
      refine s_iadd (pc := 60) dX8_crossed_60 k4 ?_
      refine s_istore_n (pc := 61) (lv' := [jR 0, jI (x1 + 0), jI x2, jI x3]) dX8_crossed_61 (by decide) rfl ?_
      obtain ⟨k5, H⟩ := H
      refine s_iinc (pc := 62) (lv' := [jR 0, jI (x1 + 0), jI x2, jI (x3 + 1)]) dX8_crossed_62 rfl (by decide) k5 rfl ?_
      refine s_goto (pc := 65) (tgt := 14) dX8_crossed_65 (by decide) ?_
      exact H
    · have H := H.1 hc
      refine s_aload_n (pc := 33) dX8_crossed_33 rfl ?_
      refine s_getr (pc := 34) dX8_crossed_34 fl_X8_29 cSm_0 rfl ?_
      refine s_bipush (pc := 37) dX8_crossed_37 rfl (j_cst rfl) ?_
      refine s_iload_n (pc := 39) dX8_crossed_39 rfl ?_
      obtain ⟨k6, H⟩ := H
      refine s_iadd (pc := 40) dX8_crossed_40 k6 ?_
      obtain ⟨k7, H⟩ := H
      refine s_iald (pc := 41) (x := h.1 5 (Int.toNat (7 + x3))) dX8_crossed_41 cSm_5 k7 rfl ?_
      refine s_iconst (pc := 42) dX8_crossed_42 (j_cst rfl) ?_
      refine s_icmp_ne (pc := 43) (tgt := 59) dX8_crossed_43 (by decide) (fun hc => ?_) (fun hc => ?_)
      · have H := H.2 hc
        refine s_iconst (pc := 59) dX8_crossed_59 (j_cst rfl) ?_
        obtain ⟨k8, H⟩ := H
        refine s_iadd (pc := 60) dX8_crossed_60 k8 ?_
        refine s_istore_n (pc := 61) (lv' := [jR 0, jI (x1 + 0), jI x2, jI x3]) dX8_crossed_61 (by decide) rfl ?_
        obtain ⟨k9, H⟩ := H
        refine s_iinc (pc := 62) (lv' := [jR 0, jI (x1 + 0), jI x2, jI (x3 + 1)]) dX8_crossed_62 rfl (by decide) k9 rfl ?_
        refine s_goto (pc := 65) (tgt := 14) dX8_crossed_65 (by decide) ?_
        exact H
      · have H := H.1 hc
        refine s_aload_n (pc := 46) dX8_crossed_46 rfl ?_
        refine s_iload_n (pc := 47) dX8_crossed_47 rfl ?_
        refine s_iload_n (pc := 48) dX8_crossed_48 rfl ?_
        obtain ⟨post, hct, H⟩ := H
        refine s_callV (pc := 49) (as := [jI x2, jI x3]) (st := [jI x1]) (by exact dX8_crossed_49) mv_X8_154 ⟨rfl, rfl, Nat.le_of_ble_eq_true rfl, Nat.le_of_ble_eq_true rfl⟩ cSm_0 rfl rfl (Nat.le_of_ble_eq_true rfl) _ rfl hct (fun r10 h11 hp => ?_)
        obtain ⟨r10, rfl, hp⟩ := hp
        have H := H r10 h11 hp
        show WV _ _ _ _ 52 [jR 0, jI x1, jI x2, jI x3] [jI r10, jI x1] h11
        refine s_if_eq (pc := 52) (tgt := 59) dX8_crossed_52 (by decide) (fun hc => ?_) (fun hc => ?_)
        · have H := H.1 hc
          refine s_iconst (pc := 59) dX8_crossed_59 (j_cst rfl) ?_
          obtain ⟨k12, H⟩ := H
          refine s_iadd (pc := 60) dX8_crossed_60 k12 ?_
          refine s_istore_n (pc := 61) (lv' := [jR 0, jI (x1 + 0), jI x2, jI x3]) dX8_crossed_61 (by decide) rfl ?_
          obtain ⟨k13, H⟩ := H
          refine s_iinc (pc := 62) (lv' := [jR 0, jI (x1 + 0), jI x2, jI (x3 + 1)]) dX8_crossed_62 rfl (by decide) k13 rfl ?_
          refine s_goto (pc := 65) (tgt := 14) dX8_crossed_65 (by decide) ?_
          exact H
        · have H := H.2 hc
          refine s_iconst (pc := 55) dX8_crossed_55 (j_cst rfl) ?_
          refine s_goto (pc := 56) (tgt := 60) dX8_crossed_56 (by decide) ?_
          obtain ⟨k14, H⟩ := H
          refine s_iadd (pc := 60) dX8_crossed_60 k14 ?_
          refine s_istore_n (pc := 61) (lv' := [jR 0, jI (x1 + 1), jI x2, jI x3]) dX8_crossed_61 (by decide) rfl ?_
          obtain ⟨k15, H⟩ := H
          refine s_iinc (pc := 62) (lv' := [jR 0, jI (x1 + 1), jI x2, jI (x3 + 1)]) dX8_crossed_62 rfl (by decide) k15 rfl ?_
          refine s_goto (pc := 65) (tgt := 14) dX8_crossed_65 (by decide) ?_
          exact H
theorem en_X8_bits {x0 : Int} {h : jH} {post : jQ} (k : ∀ G, WV Sm G M_X8_bits post 0 [jI x0, jU, jU] [] h) : CT Sm M_X8_bits [jI x0] h post := CT.of (by decide +kernel) (by simp [j_un]) (Nat.le_of_ble_eq_true rfl) _ rfl k
set_option maxRecDepth 20000 in
theorem vc_X8_bits_0 {G : jG} {Q : jQ} {x0 : Int} {h : jH}
    (H : WV Sm G M_X8_bits Q 4 [jI x0, jI 0, jI 0] [] h) :
    WV Sm G M_X8_bits Q 0 [jI x0, jU, jU] [] h := by
  refine s_iconst (pc := 0) dX8_bits_0 (j_cst rfl) ?_
  refine s_istore_n (pc := 1) (lv' := [jI x0, jI 0, jU]) dX8_bits_1 (by decide) rfl ?_
  refine s_iconst (pc := 2) dX8_bits_2 (j_cst rfl) ?_
  refine s_istore_n (pc := 3) (lv' := [jI x0, jI 0, jI 0]) dX8_bits_3 (by decide) rfl ?_
  exact H
set_option maxRecDepth 20000 in
theorem vc_X8_bits_4 {G : jG} {Q : jQ} {x0 x1 x2 : Int} {h : jH}
    (H : (7 ≤ x2 → Q (some (jI x1)) h) ∧ (¬ 7 ≤ x2 → (j_rg (x1 + (b_and (b_shr x0 x2) 1))) ∧ ((j_rg (x2 + 1)) ∧ (WV Sm G M_X8_bits Q 4 [jI x0, jI (x1 + (b_and (b_shr x0 x2) 1)), jI (x2 + 1)] [] h)))) :
    WV Sm G M_X8_bits Q 4 [jI x0, jI x1, jI x2] [] h := by
  refine s_iload_n (pc := 4) dX8_bits_4 rfl ?_
  refine s_bipush (pc := 5) dX8_bits_5 rfl (j_cst rfl) ?_
  refine s_icmp_ge (pc := 7) (tgt := 24) dX8_bits_7 (by decide) (fun hc => ?_) (fun hc => ?_)
  · have H := H.1 hc
    refine s_iload_n (pc := 24) dX8_bits_24 rfl ?_
    exact s_iret dX8_bits_25 rfl H
  · have H := H.2 hc
    refine s_iload_n (pc := 10) dX8_bits_10 rfl ?_
    refine s_iload_n (pc := 11) dX8_bits_11 rfl ?_
    refine s_iload_n (pc := 12) dX8_bits_12 rfl ?_
    refine s_ishr (pc := 13) dX8_bits_13 ?_
    refine s_iconst (pc := 14) dX8_bits_14 (j_cst rfl) ?_
    refine s_iand (pc := 15) dX8_bits_15 ?_
    obtain ⟨k1, H⟩ := H
    refine s_iadd (pc := 16) dX8_bits_16 k1 ?_
    refine s_istore_n (pc := 17) (lv' := [jI x0, jI (x1 + (b_and (b_shr x0 x2) 1)), jI x2]) dX8_bits_17 (by decide) rfl ?_
    obtain ⟨k2, H⟩ := H
    refine s_iinc (pc := 18) (lv' := [jI x0, jI (x1 + (b_and (b_shr x0 x2) 1)), jI (x2 + 1)]) dX8_bits_18 rfl (by decide) k2 rfl ?_
    refine s_goto (pc := 21) (tgt := 4) dX8_bits_21 (by decide) ?_
    exact H
theorem en_X8_setOf_0_5 {x2 : Int} {h : jH} {post : jQ} (k : ∀ G, WV Sm G M_X8_setOf post 0 [jR 0, jR 5, jI x2, jU, jU] [] h) : CT Sm M_X8_setOf [jR 0, jR 5, jI x2] h post := CT.of (by decide +kernel) (by simp [j_un]) (Nat.le_of_ble_eq_true rfl) _ rfl k
set_option maxRecDepth 20000 in
theorem vc_X8_setOf_0_5_0 {G : jG} {Q : jQ} {x2 : Int} {h : jH}
    (H : WV Sm G M_X8_setOf Q 5 [jR 0, jR 5, jI x2, jI 0, jI 0] [] h) :
    WV Sm G M_X8_setOf Q 0 [jR 0, jR 5, jI x2, jU, jU] [] h := by
  refine s_iconst (pc := 0) dX8_setOf_0 (j_cst rfl) ?_
  refine s_istore_n (pc := 1) (lv' := [jR 0, jR 5, jI x2, jI 0, jU]) dX8_setOf_1 (by decide) rfl ?_
  refine s_iconst (pc := 2) dX8_setOf_2 (j_cst rfl) ?_
  refine s_istore (pc := 3) (lv' := [jR 0, jR 5, jI x2, jI 0, jI 0]) dX8_setOf_3 (by decide) rfl ?_
  exact H
set_option maxRecDepth 20000 in
theorem vc_X8_setOf_0_5_5 {G : jG} {Q : jQ} {x2 x3 x4 : Int} {h : jH}
    (H : ((h.1 0 15) ≤ x4 → Q (some (jI x3)) h) ∧ (¬ (h.1 0 15) ≤ x4 → (j_rg (7 + x4)) ∧ ((0 ≤ 7 + x4 ∧ 7 + x4 < 28) ∧ (((h.1 5 (Int.toNat (7 + x4))) = x2 → (j_rg (x4 + 1)) ∧ (WV Sm G M_X8_setOf Q 5 [jR 0, jR 5, jI x2, jI (b_or x3 (b_shl 1 x4)), jI (x4 + 1)] [] h)) ∧ (¬ (h.1 5 (Int.toNat (7 + x4))) = x2 → (j_rg (x4 + 1)) ∧ (WV Sm G M_X8_setOf Q 5 [jR 0, jR 5, jI x2, jI (b_or x3 0), jI (x4 + 1)] [] h)))))) :
    WV Sm G M_X8_setOf Q 5 [jR 0, jR 5, jI x2, jI x3, jI x4] [] h := by
  refine s_iload (pc := 5) dX8_setOf_5 rfl ?_
  refine s_aload_n (pc := 7) dX8_setOf_7 rfl ?_
  refine s_geti (pc := 8) (x := h.1 0 15) dX8_setOf_8 fl_X8_57 cSm_0 rfl rfl ?_
  refine s_icmp_ge (pc := 11) (tgt := 42) dX8_setOf_11 (by decide) (fun hc => ?_) (fun hc => ?_)
  · have H := H.1 hc
    refine s_iload_n (pc := 42) dX8_setOf_42 rfl ?_
    exact s_iret dX8_setOf_43 rfl H
  · have H := H.2 hc
    refine s_iload_n (pc := 14) dX8_setOf_14 rfl ?_
    refine s_aload_n (pc := 15) dX8_setOf_15 rfl ?_
    refine s_bipush (pc := 16) dX8_setOf_16 rfl (j_cst rfl) ?_
    refine s_iload (pc := 18) dX8_setOf_18 rfl ?_
    obtain ⟨k1, H⟩ := H
    refine s_iadd (pc := 20) dX8_setOf_20 k1 ?_
    obtain ⟨k2, H⟩ := H
    refine s_iald (pc := 21) (x := h.1 5 (Int.toNat (7 + x4))) dX8_setOf_21 cSm_5 k2 rfl ?_
    refine s_iload_n (pc := 22) dX8_setOf_22 rfl ?_
    refine s_icmp_ne (pc := 23) (tgt := 33) dX8_setOf_23 (by decide) (fun hc => ?_) (fun hc => ?_)
    · have H := H.2 hc
      refine s_iconst (pc := 33) dX8_setOf_33 (j_cst rfl) ?_
      refine s_ior (pc := 34) dX8_setOf_34 ?_
      refine s_istore_n (pc := 35) (lv' := [jR 0, jR 5, jI x2, jI (b_or x3 0), jI x4]) dX8_setOf_35 (by decide) rfl ?_
      obtain ⟨k3, H⟩ := H
      refine s_iinc (pc := 36) (lv' := [jR 0, jR 5, jI x2, jI (b_or x3 0), jI (x4 + 1)]) dX8_setOf_36 rfl (by decide) k3 rfl ?_
      refine s_goto (pc := 39) (tgt := 5) dX8_setOf_39 (by decide) ?_
      exact H
    · have H := H.1 hc
      refine s_iconst (pc := 26) dX8_setOf_26 (j_cst rfl) ?_
      refine s_iload (pc := 27) dX8_setOf_27 rfl ?_
      refine s_ishl (pc := 29) dX8_setOf_29 ?_
      refine s_goto (pc := 30) (tgt := 34) dX8_setOf_30 (by decide) ?_
      refine s_ior (pc := 34) dX8_setOf_34 ?_
      refine s_istore_n (pc := 35) (lv' := [jR 0, jR 5, jI x2, jI (b_or x3 (b_shl 1 x4)), jI x4]) dX8_setOf_35 (by decide) rfl ?_
      obtain ⟨k4, H⟩ := H
      refine s_iinc (pc := 36) (lv' := [jR 0, jR 5, jI x2, jI (b_or x3 (b_shl 1 x4)), jI (x4 + 1)]) dX8_setOf_36 rfl (by decide) k4 rfl ?_
      refine s_goto (pc := 39) (tgt := 5) dX8_setOf_39 (by decide) ?_
      exact H
theorem en_X8_freeCords_0_5 {x2 : Int} {h : jH} {post : jQ} (k : ∀ G, WV Sm G M_X8_freeCords post 0 [jR 0, jR 5, jI x2] [] h) : CT Sm M_X8_freeCords [jR 0, jR 5, jI x2] h post := CT.of (by decide +kernel) (by simp [j_un]) (Nat.le_of_ble_eq_true rfl) _ rfl k
set_option maxRecDepth 20000 in
theorem vc_X8_freeCords_0_5_0 {G : jG} {Q : jQ} {x2 : Int} {h : jH}
    (H : ∃ post : Int → jH → Prop, CT Sm M_X8_setOf [jR 0, jR 5, jI 2] h (jPi post) ∧ ∀ (r1 : Int) (h2 : jH), post r1 h2 → (∃ post : Int → jH → Prop, CT Sm M_X8_bits [jI r1] h2 (jPi post) ∧ ∀ (r3 : Int) (h4 : jH), post r3 h4 → ((j_rg (x2 - r3)) ∧ (Q (some (jI (x2 - r3))) h4)))) :
    WV Sm G M_X8_freeCords Q 0 [jR 0, jR 5, jI x2] [] h := by
  refine s_iload_n (pc := 0) dX8_freeCords_0 rfl ?_
  refine s_aload_n (pc := 1) dX8_freeCords_1 rfl ?_
  refine s_aload_n (pc := 2) dX8_freeCords_2 rfl ?_
  refine s_iconst (pc := 3) dX8_freeCords_3 (j_cst rfl) ?_
  obtain ⟨post, hct, H⟩ := H
  refine s_callV (pc := 4) (as := [jR 5, jI 2]) (st := [jI x2]) (by exact dX8_freeCords_4) mv_X8_131 ⟨rfl, rfl, Nat.le_of_ble_eq_true rfl, Nat.le_of_ble_eq_true rfl⟩ cSm_0 rfl rfl (Nat.le_of_ble_eq_true rfl) _ rfl hct (fun r1 h2 hp => ?_)
  obtain ⟨r1, rfl, hp⟩ := hp
  have H := H r1 h2 hp
  show WV _ _ _ _ 7 [jR 0, jR 5, jI x2] [jI r1, jI x2] h2
  obtain ⟨post, hct, H⟩ := H
  refine s_callS (pc := 7) (as := [jI r1]) (st := [jI x2]) (by exact dX8_freeCords_7) ms_X8_135 ⟨rfl, rfl, Nat.le_of_ble_eq_true rfl, Nat.le_of_ble_eq_true rfl⟩ (Nat.le_of_ble_eq_true rfl) _ rfl hct (fun r3 h4 hp => ?_)
  obtain ⟨r3, rfl, hp⟩ := hp
  have H := H r3 h4 hp
  show WV _ _ _ _ 10 [jR 0, jR 5, jI x2] [jI r3, jI x2] h4
  obtain ⟨k5, H⟩ := H
  refine s_isub (pc := 10) dX8_freeCords_10 k5 ?_
  exact s_iret dX8_freeCords_11 rfl H
theorem en_X8_now_0 {x1 : Int} {h : jH} {post : jQ} (k : ∀ G, WV Sm G M_X8_now post 0 [jR 0, jI x1] [] h) : CT Sm M_X8_now [jR 0, jI x1] h post := CT.of (by decide +kernel) (by simp [j_un]) (Nat.le_of_ble_eq_true rfl) _ rfl k
set_option maxRecDepth 20000 in
theorem vc_X8_now_0_0 {G : jG} {Q : jQ} {x1 : Int} {h : jH}
    (H : (x1 = 0 → Q (some (jI (h.1 5 0))) h) ∧ (x1 = 1 → ∃ post : Int → jH → Prop, CT Sm M_X8_setOf [jR 0, jR 5, jI 1] h (jPi post) ∧ ∀ (r1 : Int) (h2 : jH), post r1 h2 → (Q (some (jI r1)) h2)) ∧ (x1 = 2 → ∃ post : Int → jH → Prop, CT Sm M_X8_setOf [jR 0, jR 5, jI 2] h (jPi post) ∧ ∀ (r3 : Int) (h4 : jH), post r3 h4 → (Q (some (jI r3)) h4)) ∧ (x1 = 3 → ∃ post : Int → jH → Prop, CT Sm M_X8_freeCords [jR 0, jR 5, jI (h.1 0 14)] h (jPi post) ∧ ∀ (r5 : Int) (h6 : jH), post r5 h6 → (Q (some (jI r5)) h6)) ∧ (x1 = 4 → ∃ post : Int → jH → Prop, CT Sm M_X8_crossed [jR 0] h (jPi post) ∧ ∀ (r7 : Int) (h8 : jH), post r7 h8 → (Q (some (jI r7)) h8)) ∧ (x1 = 5 → Q (some (jI (h.1 0 22))) h) ∧ (x1 < 0 ∨ 5 < x1 → Q (some (jI (-1))) h)) :
    WV Sm G M_X8_now Q 0 [jR 0, jI x1] [] h := by
  refine s_iload_n (pc := 0) dX8_now_0 rfl ?_
  refine s_table (pc := 1) dX8_now_1 (fun i => ([40, 47, 57, 67, 80, 85] : List Nat).getD i 0) 90 (by decide) (by decide) (by decide) (fun i hi hx => ?_) (fun hc => ?_)
  · rcases (show i = 0 ∨ i = 1 ∨ i = 2 ∨ i = 3 ∨ i = 4 ∨ i = 5 by have hi : i < 6 := hi; omega) with rfl | rfl | rfl | rfl | rfl | rfl
    · have H := H.1 (by simpa using hx)
      refine s_aload_n (pc := 40) dX8_now_40 rfl ?_
      refine s_getr (pc := 41) dX8_now_41 fl_X8_29 cSm_0 rfl ?_
      refine s_iconst (pc := 44) dX8_now_44 (j_cst rfl) ?_
      refine s_iald (pc := 45) (x := h.1 5 0) dX8_now_45 cSm_5 ⟨by decide, by decide⟩ rfl ?_
      exact s_iret dX8_now_46 rfl H
    · have H := H.2.1 (by simpa using hx)
      refine s_aload_n (pc := 47) dX8_now_47 rfl ?_
      refine s_aload_n (pc := 48) dX8_now_48 rfl ?_
      refine s_getr (pc := 49) dX8_now_49 fl_X8_29 cSm_0 rfl ?_
      refine s_iconst (pc := 52) dX8_now_52 (j_cst rfl) ?_
      obtain ⟨post, hct, H⟩ := H
      refine s_callV (pc := 53) (as := [jR 5, jI 1]) (st := []) (by exact dX8_now_53) mv_X8_131 ⟨rfl, rfl, Nat.le_of_ble_eq_true rfl, Nat.le_of_ble_eq_true rfl⟩ cSm_0 rfl rfl (Nat.le_of_ble_eq_true rfl) _ rfl hct (fun r1 h2 hp => ?_)
      obtain ⟨r1, rfl, hp⟩ := hp
      have H := H r1 h2 hp
      show WV _ _ _ _ 56 [jR 0, jI x1] [jI r1] h2
      exact s_iret dX8_now_56 rfl H
    · have H := H.2.2.1 (by simpa using hx)
      refine s_aload_n (pc := 57) dX8_now_57 rfl ?_
      refine s_aload_n (pc := 58) dX8_now_58 rfl ?_
      refine s_getr (pc := 59) dX8_now_59 fl_X8_29 cSm_0 rfl ?_
      refine s_iconst (pc := 62) dX8_now_62 (j_cst rfl) ?_
      obtain ⟨post, hct, H⟩ := H
      refine s_callV (pc := 63) (as := [jR 5, jI 2]) (st := []) (by exact dX8_now_63) mv_X8_131 ⟨rfl, rfl, Nat.le_of_ble_eq_true rfl, Nat.le_of_ble_eq_true rfl⟩ cSm_0 rfl rfl (Nat.le_of_ble_eq_true rfl) _ rfl hct (fun r3 h4 hp => ?_)
      obtain ⟨r3, rfl, hp⟩ := hp
      have H := H r3 h4 hp
      show WV _ _ _ _ 66 [jR 0, jI x1] [jI r3] h4
      exact s_iret dX8_now_66 rfl H
    · have H := H.2.2.2.1 (by simpa using hx)
      refine s_aload_n (pc := 67) dX8_now_67 rfl ?_
      refine s_aload_n (pc := 68) dX8_now_68 rfl ?_
      refine s_getr (pc := 69) dX8_now_69 fl_X8_29 cSm_0 rfl ?_
      refine s_aload_n (pc := 72) dX8_now_72 rfl ?_
      refine s_geti (pc := 73) (x := h.1 0 14) dX8_now_73 fl_X8_23 cSm_0 rfl rfl ?_
      obtain ⟨post, hct, H⟩ := H
      refine s_callV (pc := 76) (as := [jR 5, jI (h.1 0 14)]) (st := []) (by exact dX8_now_76) mv_X8_141 ⟨rfl, rfl, Nat.le_of_ble_eq_true rfl, Nat.le_of_ble_eq_true rfl⟩ cSm_0 rfl rfl (Nat.le_of_ble_eq_true rfl) _ rfl hct (fun r5 h6 hp => ?_)
      obtain ⟨r5, rfl, hp⟩ := hp
      have H := H r5 h6 hp
      show WV _ _ _ _ 79 [jR 0, jI x1] [jI r5] h6
      exact s_iret dX8_now_79 rfl H
    · have H := H.2.2.2.2.1 (by simpa using hx)
      refine s_aload_n (pc := 80) dX8_now_80 rfl ?_
      obtain ⟨post, hct, H⟩ := H
      refine s_callV (pc := 81) (as := []) (st := []) (by exact dX8_now_81) mv_X8_164 ⟨rfl, rfl, Nat.le_of_ble_eq_true rfl, Nat.le_of_ble_eq_true rfl⟩ cSm_0 rfl rfl (Nat.le_of_ble_eq_true rfl) _ rfl hct (fun r7 h8 hp => ?_)
      obtain ⟨r7, rfl, hp⟩ := hp
      have H := H r7 h8 hp
      show WV _ _ _ _ 84 [jR 0, jI x1] [jI r7] h8
      exact s_iret dX8_now_84 rfl H
    · have H := H.2.2.2.2.2.1 (by simpa using hx)
      refine s_aload_n (pc := 85) dX8_now_85 rfl ?_
      refine s_geti (pc := 86) (x := h.1 0 22) dX8_now_86 fl_X8_60 cSm_0 rfl rfl ?_
      exact s_iret dX8_now_89 rfl H
  · have H := H.2.2.2.2.2.2 hc
    refine s_iconst (pc := 90) dX8_now_90 (j_cst rfl) ?_
    exact s_iret dX8_now_91 rfl H
theorem en_X8_copy_5_9 {x1 x3 : Int} {h : jH} {post : jQ} (k : ∀ G, WV Sm G M_X8_copy post 0 [jR 5, jI x1, jR 9, jI x3, jU] [] h) : CT Sm M_X8_copy [jR 5, jI x1, jR 9, jI x3] h post := CT.of (by decide +kernel) (by simp [j_un]) (Nat.le_of_ble_eq_true rfl) _ rfl k
set_option maxRecDepth 20000 in
theorem vc_X8_copy_5_9_0 {G : jG} {Q : jQ} {x1 x3 : Int} {h : jH}
    (H : WV Sm G M_X8_copy Q 3 [jR 5, jI x1, jR 9, jI x3, jI 0] [] h) :
    WV Sm G M_X8_copy Q 0 [jR 5, jI x1, jR 9, jI x3, jU] [] h := by
  refine s_iconst (pc := 0) dX8_copy_0 (j_cst rfl) ?_
  refine s_istore (pc := 1) (lv' := [jR 5, jI x1, jR 9, jI x3, jI 0]) dX8_copy_1 (by decide) rfl ?_
  exact H
set_option maxRecDepth 20000 in
theorem vc_X8_copy_5_9_3 {G : jG} {Q : jQ} {x1 x3 x4 : Int} {h : jH}
    (H : (28 ≤ x4 → Q none h) ∧ (¬ 28 ≤ x4 → (j_rg (x3 + x4)) ∧ ((j_rg (x1 + x4)) ∧ ((0 ≤ x1 + x4 ∧ x1 + x4 < 28) ∧ ((0 ≤ x3 + x4 ∧ x3 + x4 < 280) ∧ ((j_rg (x4 + 1)) ∧ (WV Sm G M_X8_copy Q 3 [jR 5, jI x1, jR 9, jI x3, jI (x4 + 1)] [] (j_up h 9 (Int.toNat (x3 + x4)) (h.1 5 (Int.toNat (x1 + x4))))))))))) :
    WV Sm G M_X8_copy Q 3 [jR 5, jI x1, jR 9, jI x3, jI x4] [] h := by
  refine s_iload (pc := 3) dX8_copy_3 rfl ?_
  refine s_bipush (pc := 5) dX8_copy_5 rfl (j_cst rfl) ?_
  refine s_icmp_ge (pc := 7) (tgt := 28) dX8_copy_7 (by decide) (fun hc => ?_) (fun hc => ?_)
  · have H := H.1 hc
    exact s_vret dX8_copy_28 rfl H
  · have H := H.2 hc
    refine s_aload_n (pc := 10) dX8_copy_10 rfl ?_
    refine s_iload_n (pc := 11) dX8_copy_11 rfl ?_
    refine s_iload (pc := 12) dX8_copy_12 rfl ?_
    obtain ⟨k1, H⟩ := H
    refine s_iadd (pc := 14) dX8_copy_14 k1 ?_
    refine s_aload_n (pc := 15) dX8_copy_15 rfl ?_
    refine s_iload_n (pc := 16) dX8_copy_16 rfl ?_
    refine s_iload (pc := 17) dX8_copy_17 rfl ?_
    obtain ⟨k2, H⟩ := H
    refine s_iadd (pc := 19) dX8_copy_19 k2 ?_
    obtain ⟨k3, H⟩ := H
    refine s_iald (pc := 20) (x := h.1 5 (Int.toNat (x1 + x4))) dX8_copy_20 cSm_5 k3 rfl ?_
    obtain ⟨k4, H⟩ := H
    refine s_iast (pc := 21) dX8_copy_21 cSm_9 k4 ?_
    obtain ⟨k5, H⟩ := H
    refine s_iinc (pc := 22) (lv' := [jR 5, jI x1, jR 9, jI x3, jI (x4 + 1)]) dX8_copy_22 rfl (by decide) k5 rfl ?_
    refine s_goto (pc := 25) (tgt := 3) dX8_copy_25 (by decide) ?_
    exact H
theorem en_X8_note_0 {h : jH} {post : jQ} (k : ∀ G, WV Sm G M_X8_note post 0 [jR 0, jU] [] h) : CT Sm M_X8_note [jR 0] h post := CT.of (by decide +kernel) (by simp [j_un]) (Nat.le_of_ble_eq_true rfl) _ rfl k
set_option maxRecDepth 20000 in
theorem vc_X8_note_0_0 {G : jG} {Q : jQ} {h : jH}
    (H : ((h.1 0 22) = 10 → WV Sm G M_X8_note Q 11 [jR 0, jI 0] [] h) ∧ (¬ (h.1 0 22) = 10 → (j_rg (28 * (h.1 0 22))) ∧ (∃ post : jH → Prop, CT Sm M_X8_copy [jR 5, jI 0, jR 9, jI (28 * (h.1 0 22))] h (jPv post) ∧ ∀ (h3 : jH), post h3 → ((j_rg ((h3.1 0 22) + 1)) ∧ (Q none (j_up h3 0 22 ((h3.1 0 22) + 1))))))) :
    WV Sm G M_X8_note Q 0 [jR 0, jU] [] h := by
  refine s_aload_n (pc := 0) dX8_note_0 rfl ?_
  refine s_geti (pc := 1) (x := h.1 0 22) dX8_note_1 fl_X8_60 cSm_0 rfl rfl ?_
  refine s_bipush (pc := 4) dX8_note_4 rfl (j_cst rfl) ?_
  refine s_icmp_ne (pc := 6) (tgt := 49) dX8_note_6 (by decide) (fun hc => ?_) (fun hc => ?_)
  · have H := H.2 hc
    refine s_aload_n (pc := 49) dX8_note_49 rfl ?_
    refine s_getr (pc := 50) dX8_note_50 fl_X8_29 cSm_0 rfl ?_
    refine s_iconst (pc := 53) dX8_note_53 (j_cst rfl) ?_
    refine s_aload_n (pc := 54) dX8_note_54 rfl ?_
    refine s_getr (pc := 55) dX8_note_55 fl_X8_42 cSm_0 rfl ?_
    refine s_bipush (pc := 58) dX8_note_58 rfl (j_cst rfl) ?_
    refine s_aload_n (pc := 60) dX8_note_60 rfl ?_
    refine s_geti (pc := 61) (x := h.1 0 22) dX8_note_61 fl_X8_60 cSm_0 rfl rfl ?_
    obtain ⟨k1, H⟩ := H
    refine s_imul (pc := 64) dX8_note_64 k1 ?_
    obtain ⟨post, hct, H⟩ := H
    refine s_callS (pc := 65) (as := [jR 5, jI 0, jR 9, jI (28 * (h.1 0 22))]) (st := []) (by exact dX8_note_65) ms_X8_168 ⟨rfl, rfl, Nat.le_of_ble_eq_true rfl, Nat.le_of_ble_eq_true rfl⟩ (Nat.le_of_ble_eq_true rfl) _ rfl hct (fun r2 h3 hp => ?_)
    obtain ⟨rfl, hp⟩ := hp
    have H := H h3 hp
    show WV _ _ _ _ 68 [jR 0, jU] [] h3
    refine s_aload_n (pc := 68) dX8_note_68 rfl ?_
    refine s_dup (pc := 69) dX8_note_69 rfl ?_
    refine s_geti (pc := 70) (x := h3.1 0 22) dX8_note_70 fl_X8_60 cSm_0 rfl rfl ?_
    refine s_iconst (pc := 73) dX8_note_73 (j_cst rfl) ?_
    obtain ⟨k4, H⟩ := H
    refine s_iadd (pc := 74) dX8_note_74 k4 ?_
    refine s_puti (pc := 75) dX8_note_75 fp_X8_60 cSm_0 rfl ?_
    exact s_vret dX8_note_78 rfl H
  · have H := H.1 hc
    refine s_iconst (pc := 9) dX8_note_9 (j_cst rfl) ?_
    refine s_istore_n (pc := 10) (lv' := [jR 0, jI 0]) dX8_note_10 (by decide) rfl ?_
    exact H
set_option maxRecDepth 20000 in
theorem vc_X8_note_0_11 {G : jG} {Q : jQ} {x1 : Int} {h : jH}
    (H : (252 ≤ x1 → (j_rg ((h.1 0 22) - 1)) ∧ ((j_rg (28 * ((h.1 0 22) - 1))) ∧ (∃ post : jH → Prop, CT Sm M_X8_copy [jR 5, jI 0, jR 9, jI (28 * ((h.1 0 22) - 1))] (j_up h 0 22 ((h.1 0 22) - 1)) (jPv post) ∧ ∀ (h4 : jH), post h4 → ((j_rg ((h4.1 0 22) + 1)) ∧ (Q none (j_up h4 0 22 ((h4.1 0 22) + 1))))))) ∧ (¬ 252 ≤ x1 → (j_rg (x1 + 28)) ∧ ((0 ≤ x1 + 28 ∧ x1 + 28 < 280) ∧ ((0 ≤ x1 ∧ x1 < 280) ∧ ((j_rg (x1 + 1)) ∧ (WV Sm G M_X8_note Q 11 [jR 0, jI (x1 + 1)] [] (j_up h 9 (Int.toNat x1) (h.1 9 (Int.toNat (x1 + 28)))))))))) :
    WV Sm G M_X8_note Q 11 [jR 0, jI x1] [] h := by
  refine s_iload_n (pc := 11) dX8_note_11 rfl ?_
  refine s_sipush (pc := 12) dX8_note_12 rfl (j_cst rfl) ?_
  refine s_icmp_ge (pc := 15) (tgt := 39) dX8_note_15 (by decide) (fun hc => ?_) (fun hc => ?_)
  · have H := H.1 hc
    refine s_aload_n (pc := 39) dX8_note_39 rfl ?_
    refine s_dup (pc := 40) dX8_note_40 rfl ?_
    refine s_geti (pc := 41) (x := h.1 0 22) dX8_note_41 fl_X8_60 cSm_0 rfl rfl ?_
    refine s_iconst (pc := 44) dX8_note_44 (j_cst rfl) ?_
    obtain ⟨k1, H⟩ := H
    refine s_isub (pc := 45) dX8_note_45 k1 ?_
    refine s_puti (pc := 46) dX8_note_46 fp_X8_60 cSm_0 rfl ?_
    refine s_aload_n (pc := 49) dX8_note_49 rfl ?_
    refine s_getr (pc := 50) dX8_note_50 fl_X8_29 cSm_0 rfl ?_
    refine s_iconst (pc := 53) dX8_note_53 (j_cst rfl) ?_
    refine s_aload_n (pc := 54) dX8_note_54 rfl ?_
    refine s_getr (pc := 55) dX8_note_55 fl_X8_42 cSm_0 rfl ?_
    refine s_bipush (pc := 58) dX8_note_58 rfl (j_cst rfl) ?_
    refine s_aload_n (pc := 60) dX8_note_60 rfl ?_
    refine s_geti (pc := 61) (x := (h.1 0 22) - 1) dX8_note_61 fl_X8_60 cSm_0 rfl rfl ?_
    obtain ⟨k2, H⟩ := H
    refine s_imul (pc := 64) dX8_note_64 k2 ?_
    obtain ⟨post, hct, H⟩ := H
    refine s_callS (pc := 65) (as := [jR 5, jI 0, jR 9, jI (28 * ((h.1 0 22) - 1))]) (st := []) (by exact dX8_note_65) ms_X8_168 ⟨rfl, rfl, Nat.le_of_ble_eq_true rfl, Nat.le_of_ble_eq_true rfl⟩ (Nat.le_of_ble_eq_true rfl) _ rfl hct (fun r3 h4 hp => ?_)
    obtain ⟨rfl, hp⟩ := hp
    have H := H h4 hp
    show WV _ _ _ _ 68 [jR 0, jI x1] [] h4
    refine s_aload_n (pc := 68) dX8_note_68 rfl ?_
    refine s_dup (pc := 69) dX8_note_69 rfl ?_
    refine s_geti (pc := 70) (x := h4.1 0 22) dX8_note_70 fl_X8_60 cSm_0 rfl rfl ?_
    refine s_iconst (pc := 73) dX8_note_73 (j_cst rfl) ?_
    obtain ⟨k5, H⟩ := H
    refine s_iadd (pc := 74) dX8_note_74 k5 ?_
    refine s_puti (pc := 75) dX8_note_75 fp_X8_60 cSm_0 rfl ?_
    exact s_vret dX8_note_78 rfl H
  · have H := H.2 hc
    refine s_aload_n (pc := 18) dX8_note_18 rfl ?_
    refine s_getr (pc := 19) dX8_note_19 fl_X8_42 cSm_0 rfl ?_
    refine s_iload_n (pc := 22) dX8_note_22 rfl ?_
    refine s_aload_n (pc := 23) dX8_note_23 rfl ?_
    refine s_getr (pc := 24) dX8_note_24 fl_X8_42 cSm_0 rfl ?_
    refine s_iload_n (pc := 27) dX8_note_27 rfl ?_
    refine s_bipush (pc := 28) dX8_note_28 rfl (j_cst rfl) ?_
    obtain ⟨k6, H⟩ := H
    refine s_iadd (pc := 30) dX8_note_30 k6 ?_
    obtain ⟨k7, H⟩ := H
    refine s_iald (pc := 31) (x := h.1 9 (Int.toNat (x1 + 28))) dX8_note_31 cSm_9 k7 rfl ?_
    obtain ⟨k8, H⟩ := H
    refine s_iast (pc := 32) dX8_note_32 cSm_9 k8 ?_
    obtain ⟨k9, H⟩ := H
    refine s_iinc (pc := 33) (lv' := [jR 0, jI (x1 + 1)]) dX8_note_33 rfl (by decide) k9 rfl ?_
    refine s_goto (pc := 36) (tgt := 11) dX8_note_36 (by decide) ?_
    exact H
theorem en_X8_pass_0_5 {h : jH} {post : jQ} (k : ∀ G, WV Sm G M_X8_pass post 0 [jR 0, jR 5, jU] [] h) : CT Sm M_X8_pass [jR 0, jR 5] h post := CT.of (by decide +kernel) (by simp [j_un]) (Nat.le_of_ble_eq_true rfl) _ rfl k
set_option maxRecDepth 20000 in
theorem vc_X8_pass_0_5_0 {G : jG} {Q : jQ} {h : jH}
    (H : WV Sm G M_X8_pass Q 2 [jR 0, jR 5, jI 0] [] h) :
    WV Sm G M_X8_pass Q 0 [jR 0, jR 5, jU] [] h := by
  refine s_iconst (pc := 0) dX8_pass_0 (j_cst rfl) ?_
  refine s_istore_n (pc := 1) (lv' := [jR 0, jR 5, jI 0]) dX8_pass_1 (by decide) rfl ?_
  exact H
set_option maxRecDepth 20000 in
theorem vc_X8_pass_0_5_2 {G : jG} {Q : jQ} {x2 : Int} {h : jH}
    (H : ((h.1 0 15) ≤ x2 → (j_rg ((h.1 5 0) + 1)) ∧ (WV Sm G M_X8_pass Q 92 [jR 0, jR 5, jI 0] [] (j_up h 5 0 ((h.1 5 0) + 1)))) ∧ (¬ (h.1 0 15) ≤ x2 → (j_rg (7 + x2)) ∧ ((0 ≤ 7 + x2 ∧ 7 + x2 < 28) ∧ (((h.1 5 (Int.toNat (7 + x2))) = 2 → (j_rg (14 + x2)) ∧ ((0 ≤ 14 + x2 ∧ 14 + x2 < 28) ∧ ((j_rg ((h.1 5 (Int.toNat (14 + x2))) - 1)) ∧ ((((h.1 5 (Int.toNat (14 + x2))) - 1) = 0 → (j_rg (x2 + 1)) ∧ (WV Sm G M_X8_pass Q 2 [jR 0, jR 5, jI (x2 + 1)] [] (j_up (j_up h 5 (Int.toNat (14 + x2)) ((h.1 5 (Int.toNat (14 + x2))) - 1)) 5 (Int.toNat (7 + x2)) 3))) ∧ (¬ ((h.1 5 (Int.toNat (14 + x2))) - 1) = 0 → (j_rg (x2 + 1)) ∧ (WV Sm G M_X8_pass Q 2 [jR 0, jR 5, jI (x2 + 1)] [] (j_up (j_up h 5 (Int.toNat (14 + x2)) ((h.1 5 (Int.toNat (14 + x2))) - 1)) 5 (Int.toNat (7 + x2)) 2))))))) ∧ (¬ (h.1 5 (Int.toNat (7 + x2))) = 2 → (j_rg (21 + x2)) ∧ ((0 ≤ 21 + x2 ∧ 21 + x2 < 28) ∧ (((h.1 5 (Int.toNat (7 + x2))) = 1 → (j_rg ((h.1 5 (Int.toNat (21 + x2))) + 1)) ∧ ((j_rg (x2 + 1)) ∧ (WV Sm G M_X8_pass Q 2 [jR 0, jR 5, jI (x2 + 1)] [] (j_up h 5 (Int.toNat (21 + x2)) ((h.1 5 (Int.toNat (21 + x2))) + 1))))) ∧ (¬ (h.1 5 (Int.toNat (7 + x2))) = 1 → (j_rg ((h.1 5 (Int.toNat (21 + x2))) + 0)) ∧ ((j_rg (x2 + 1)) ∧ (WV Sm G M_X8_pass Q 2 [jR 0, jR 5, jI (x2 + 1)] [] (j_up h 5 (Int.toNat (21 + x2)) ((h.1 5 (Int.toNat (21 + x2))) + 0)))))))))))) :
    WV Sm G M_X8_pass Q 2 [jR 0, jR 5, jI x2] [] h := by
  refine s_iload_n (pc := 2) dX8_pass_2 rfl ?_
  refine s_aload_n (pc := 3) dX8_pass_3 rfl ?_
  refine s_geti (pc := 4) (x := h.1 0 15) dX8_pass_4 fl_X8_57 cSm_0 rfl rfl ?_
  refine s_icmp_ge (pc := 7) (tgt := 83) dX8_pass_7 (by decide) (fun hc => ?_) (fun hc => ?_)
  · have H := H.1 hc
    refine s_aload_n (pc := 83) dX8_pass_83 rfl ?_
    refine s_iconst (pc := 84) dX8_pass_84 (j_cst rfl) ?_
    refine s_dup2 (pc := 85) dX8_pass_85 rfl rfl ?_
    refine s_iald (pc := 86) (x := h.1 5 0) dX8_pass_86 cSm_5 ⟨by decide, by decide⟩ rfl ?_
    refine s_iconst (pc := 87) dX8_pass_87 (j_cst rfl) ?_
    obtain ⟨k1, H⟩ := H
    refine s_iadd (pc := 88) dX8_pass_88 k1 ?_
    refine s_iast (pc := 89) dX8_pass_89 cSm_5 ⟨by decide, by decide⟩ ?_
    refine s_iconst (pc := 90) dX8_pass_90 (j_cst rfl) ?_
    refine s_istore_n (pc := 91) (lv' := [jR 0, jR 5, jI 0]) dX8_pass_91 (by decide) rfl ?_
    exact H
  · have H := H.2 hc
    refine s_aload_n (pc := 10) dX8_pass_10 rfl ?_
    refine s_bipush (pc := 11) dX8_pass_11 rfl (j_cst rfl) ?_
    refine s_iload_n (pc := 13) dX8_pass_13 rfl ?_
    obtain ⟨k2, H⟩ := H
    refine s_iadd (pc := 14) dX8_pass_14 k2 ?_
    obtain ⟨k3, H⟩ := H
    refine s_iald (pc := 15) (x := h.1 5 (Int.toNat (7 + x2))) dX8_pass_15 cSm_5 k3 rfl ?_
    refine s_iconst (pc := 16) dX8_pass_16 (j_cst rfl) ?_
    refine s_icmp_ne (pc := 17) (tgt := 53) dX8_pass_17 (by decide) (fun hc => ?_) (fun hc => ?_)
    · have H := H.2 hc
      refine s_aload_n (pc := 53) dX8_pass_53 rfl ?_
      refine s_bipush (pc := 54) dX8_pass_54 rfl (j_cst rfl) ?_
      refine s_iload_n (pc := 56) dX8_pass_56 rfl ?_
      obtain ⟨k4, H⟩ := H
      refine s_iadd (pc := 57) dX8_pass_57 k4 ?_
      refine s_dup2 (pc := 58) dX8_pass_58 rfl rfl ?_
      obtain ⟨k5, H⟩ := H
      refine s_iald (pc := 59) (x := h.1 5 (Int.toNat (21 + x2))) dX8_pass_59 cSm_5 k5 rfl ?_
      refine s_aload_n (pc := 60) dX8_pass_60 rfl ?_
      refine s_bipush (pc := 61) dX8_pass_61 rfl (j_cst rfl) ?_
      refine s_iload_n (pc := 63) dX8_pass_63 rfl ?_
      refine s_iadd (pc := 64) dX8_pass_64 k2 ?_
      refine s_iald (pc := 65) (x := h.1 5 (Int.toNat (7 + x2))) dX8_pass_65 cSm_5 k3 rfl ?_
      refine s_iconst (pc := 66) dX8_pass_66 (j_cst rfl) ?_
      refine s_icmp_ne (pc := 67) (tgt := 74) dX8_pass_67 (by decide) (fun hc => ?_) (fun hc => ?_)
      · have H := H.2 hc
        refine s_iconst (pc := 74) dX8_pass_74 (j_cst rfl) ?_
        obtain ⟨k6, H⟩ := H
        refine s_iadd (pc := 75) dX8_pass_75 k6 ?_
        refine s_iast (pc := 76) dX8_pass_76 cSm_5 k5 ?_
        obtain ⟨k7, H⟩ := H
        refine s_iinc (pc := 77) (lv' := [jR 0, jR 5, jI (x2 + 1)]) dX8_pass_77 rfl (by decide) k7 rfl ?_
        refine s_goto (pc := 80) (tgt := 2) dX8_pass_80 (by decide) ?_
        exact H
      · have H := H.1 hc
        refine s_iconst (pc := 70) dX8_pass_70 (j_cst rfl) ?_
        refine s_goto (pc := 71) (tgt := 75) dX8_pass_71 (by decide) ?_
        obtain ⟨k8, H⟩ := H
        refine s_iadd (pc := 75) dX8_pass_75 k8 ?_
        refine s_iast (pc := 76) dX8_pass_76 cSm_5 k5 ?_
        obtain ⟨k9, H⟩ := H
        refine s_iinc (pc := 77) (lv' := [jR 0, jR 5, jI (x2 + 1)]) dX8_pass_77 rfl (by decide) k9 rfl ?_
        refine s_goto (pc := 80) (tgt := 2) dX8_pass_80 (by decide) ?_
        exact H
    · have H := H.1 hc
      refine s_aload_n (pc := 20) dX8_pass_20 rfl ?_
      refine s_bipush (pc := 21) dX8_pass_21 rfl (j_cst rfl) ?_
      refine s_iload_n (pc := 23) dX8_pass_23 rfl ?_
      obtain ⟨k10, H⟩ := H
      refine s_iadd (pc := 24) dX8_pass_24 k10 ?_
      refine s_dup2 (pc := 25) dX8_pass_25 rfl rfl ?_
      obtain ⟨k11, H⟩ := H
      refine s_iald (pc := 26) (x := h.1 5 (Int.toNat (14 + x2))) dX8_pass_26 cSm_5 k11 rfl ?_
      refine s_iconst (pc := 27) dX8_pass_27 (j_cst rfl) ?_
      obtain ⟨k12, H⟩ := H
      refine s_isub (pc := 28) dX8_pass_28 k12 ?_
      refine s_iast (pc := 29) dX8_pass_29 cSm_5 k11 ?_
      refine s_aload_n (pc := 30) dX8_pass_30 rfl ?_
      refine s_bipush (pc := 31) dX8_pass_31 rfl (j_cst rfl) ?_
      refine s_iload_n (pc := 33) dX8_pass_33 rfl ?_
      refine s_iadd (pc := 34) dX8_pass_34 k2 ?_
      refine s_aload_n (pc := 35) dX8_pass_35 rfl ?_
      refine s_bipush (pc := 36) dX8_pass_36 rfl (j_cst rfl) ?_
      refine s_iload_n (pc := 38) dX8_pass_38 rfl ?_
      refine s_iadd (pc := 39) dX8_pass_39 k10 ?_
      refine s_iald (pc := 40) (x := (h.1 5 (Int.toNat (14 + x2))) - 1) dX8_pass_40 cSm_5 k11 (by simp [j_up]) ?_
      refine s_if_ne (pc := 41) (tgt := 48) dX8_pass_41 (by decide) (fun hc => ?_) (fun hc => ?_)
      · have H := H.2 hc
        refine s_iconst (pc := 48) dX8_pass_48 (j_cst rfl) ?_
        refine s_iast (pc := 49) dX8_pass_49 cSm_5 k3 ?_
        refine s_goto (pc := 50) (tgt := 77) dX8_pass_50 (by decide) ?_
        obtain ⟨k13, H⟩ := H
        refine s_iinc (pc := 77) (lv' := [jR 0, jR 5, jI (x2 + 1)]) dX8_pass_77 rfl (by decide) k13 rfl ?_
        refine s_goto (pc := 80) (tgt := 2) dX8_pass_80 (by decide) ?_
        exact H
      · have H := H.1 hc
        refine s_iconst (pc := 44) dX8_pass_44 (j_cst rfl) ?_
        refine s_goto (pc := 45) (tgt := 49) dX8_pass_45 (by decide) ?_
        refine s_iast (pc := 49) dX8_pass_49 cSm_5 k3 ?_
        refine s_goto (pc := 50) (tgt := 77) dX8_pass_50 (by decide) ?_
        obtain ⟨k14, H⟩ := H
        refine s_iinc (pc := 77) (lv' := [jR 0, jR 5, jI (x2 + 1)]) dX8_pass_77 rfl (by decide) k14 rfl ?_
        refine s_goto (pc := 80) (tgt := 2) dX8_pass_80 (by decide) ?_
        exact H
set_option maxRecDepth 20000 in
theorem vc_X8_pass_0_5_92 {G : jG} {Q : jQ} {x2 : Int} {h : jH}
    (H : ((h.1 0 15) ≤ x2 → Q none h) ∧ (¬ (h.1 0 15) ≤ x2 → (j_rg (7 + x2)) ∧ ((0 ≤ 7 + x2 ∧ 7 + x2 < 28) ∧ (((h.1 5 (Int.toNat (7 + x2))) = 0 → (j_rg (5 * x2)) ∧ ((0 ≤ 5 * x2 ∧ 5 * x2 < 35) ∧ (((h.1 4 (Int.toNat (5 * x2))) = (h.1 5 0) → (j_rg (x2 + 1)) ∧ (WV Sm G M_X8_pass Q 92 [jR 0, jR 5, jI (x2 + 1)] [] (j_up h 5 (Int.toNat (7 + x2)) 1))) ∧ (¬ (h.1 4 (Int.toNat (5 * x2))) = (h.1 5 0) → (j_rg (x2 + 1)) ∧ (WV Sm G M_X8_pass Q 92 [jR 0, jR 5, jI (x2 + 1)] [] (j_up h 5 (Int.toNat (7 + x2)) (h.1 5 (Int.toNat (7 + x2))))))))) ∧ (¬ (h.1 5 (Int.toNat (7 + x2))) = 0 → (j_rg (x2 + 1)) ∧ (WV Sm G M_X8_pass Q 92 [jR 0, jR 5, jI (x2 + 1)] [] (j_up h 5 (Int.toNat (7 + x2)) (h.1 5 (Int.toNat (7 + x2)))))))))) :
    WV Sm G M_X8_pass Q 92 [jR 0, jR 5, jI x2] [] h := by
  refine s_iload_n (pc := 92) dX8_pass_92 rfl ?_
  refine s_aload_n (pc := 93) dX8_pass_93 rfl ?_
  refine s_geti (pc := 94) (x := h.1 0 15) dX8_pass_94 fl_X8_57 cSm_0 rfl rfl ?_
  refine s_icmp_ge (pc := 97) (tgt := 145) dX8_pass_97 (by decide) (fun hc => ?_) (fun hc => ?_)
  · have H := H.1 hc
    exact s_vret dX8_pass_145 rfl H
  · have H := H.2 hc
    refine s_aload_n (pc := 100) dX8_pass_100 rfl ?_
    refine s_bipush (pc := 101) dX8_pass_101 rfl (j_cst rfl) ?_
    refine s_iload_n (pc := 103) dX8_pass_103 rfl ?_
    obtain ⟨k1, H⟩ := H
    refine s_iadd (pc := 104) dX8_pass_104 k1 ?_
    refine s_aload_n (pc := 105) dX8_pass_105 rfl ?_
    refine s_bipush (pc := 106) dX8_pass_106 rfl (j_cst rfl) ?_
    refine s_iload_n (pc := 108) dX8_pass_108 rfl ?_
    refine s_iadd (pc := 109) dX8_pass_109 k1 ?_
    obtain ⟨k2, H⟩ := H
    refine s_iald (pc := 110) (x := h.1 5 (Int.toNat (7 + x2))) dX8_pass_110 cSm_5 k2 rfl ?_
    refine s_if_ne (pc := 111) (tgt := 132) dX8_pass_111 (by decide) (fun hc => ?_) (fun hc => ?_)
    · have H := H.2 hc
      refine s_aload_n (pc := 132) dX8_pass_132 rfl ?_
      refine s_bipush (pc := 133) dX8_pass_133 rfl (j_cst rfl) ?_
      refine s_iload_n (pc := 135) dX8_pass_135 rfl ?_
      refine s_iadd (pc := 136) dX8_pass_136 k1 ?_
      refine s_iald (pc := 137) (x := h.1 5 (Int.toNat (7 + x2))) dX8_pass_137 cSm_5 k2 rfl ?_
      refine s_iast (pc := 138) dX8_pass_138 cSm_5 k2 ?_
      obtain ⟨k3, H⟩ := H
      refine s_iinc (pc := 139) (lv' := [jR 0, jR 5, jI (x2 + 1)]) dX8_pass_139 rfl (by decide) k3 rfl ?_
      refine s_goto (pc := 142) (tgt := 92) dX8_pass_142 (by decide) ?_
      exact H
    · have H := H.1 hc
      refine s_aload_n (pc := 114) dX8_pass_114 rfl ?_
      refine s_getr (pc := 115) dX8_pass_115 fl_X8_26 cSm_0 rfl ?_
      refine s_iconst (pc := 118) dX8_pass_118 (j_cst rfl) ?_
      refine s_iload_n (pc := 119) dX8_pass_119 rfl ?_
      obtain ⟨k4, H⟩ := H
      refine s_imul (pc := 120) dX8_pass_120 k4 ?_
      obtain ⟨k5, H⟩ := H
      refine s_iald (pc := 121) (x := h.1 4 (Int.toNat (5 * x2))) dX8_pass_121 cSm_4 k5 rfl ?_
      refine s_aload_n (pc := 122) dX8_pass_122 rfl ?_
      refine s_iconst (pc := 123) dX8_pass_123 (j_cst rfl) ?_
      refine s_iald (pc := 124) (x := h.1 5 0) dX8_pass_124 cSm_5 ⟨by decide, by decide⟩ rfl ?_
      refine s_icmp_ne (pc := 125) (tgt := 132) dX8_pass_125 (by decide) (fun hc => ?_) (fun hc => ?_)
      · have H := H.2 hc
        refine s_aload_n (pc := 132) dX8_pass_132 rfl ?_
        refine s_bipush (pc := 133) dX8_pass_133 rfl (j_cst rfl) ?_
        refine s_iload_n (pc := 135) dX8_pass_135 rfl ?_
        refine s_iadd (pc := 136) dX8_pass_136 k1 ?_
        refine s_iald (pc := 137) (x := h.1 5 (Int.toNat (7 + x2))) dX8_pass_137 cSm_5 k2 rfl ?_
        refine s_iast (pc := 138) dX8_pass_138 cSm_5 k2 ?_
        obtain ⟨k6, H⟩ := H
        refine s_iinc (pc := 139) (lv' := [jR 0, jR 5, jI (x2 + 1)]) dX8_pass_139 rfl (by decide) k6 rfl ?_
        refine s_goto (pc := 142) (tgt := 92) dX8_pass_142 (by decide) ?_
        exact H
      · have H := H.1 hc
        refine s_iconst (pc := 128) dX8_pass_128 (j_cst rfl) ?_
        refine s_goto (pc := 129) (tgt := 138) dX8_pass_129 (by decide) ?_
        refine s_iast (pc := 138) dX8_pass_138 cSm_5 k2 ?_
        obtain ⟨k7, H⟩ := H
        refine s_iinc (pc := 139) (lv' := [jR 0, jR 5, jI (x2 + 1)]) dX8_pass_139 rfl (by decide) k7 rfl ?_
        refine s_goto (pc := 142) (tgt := 92) dX8_pass_142 (by decide) ?_
        exact H
theorem en_X8_minute_0 {h : jH} {post : jQ} (k : ∀ G, WV Sm G M_X8_minute post 0 [jR 0] [] h) : CT Sm M_X8_minute [jR 0] h post := CT.of (by decide +kernel) (by simp [j_un]) (Nat.le_of_ble_eq_true rfl) _ rfl k
set_option maxRecDepth 20000 in
theorem vc_X8_minute_0_0 {G : jG} {Q : jQ} {h : jH}
    (H : ((h.1 5 0) = 99 → Q (some (jI (-2))) h) ∧ (¬ (h.1 5 0) = 99 → ∃ post : jH → Prop, CT Sm M_X8_note [jR 0] h (jPv post) ∧ ∀ (h2 : jH), post h2 → (∃ post : jH → Prop, CT Sm M_X8_pass [jR 0, jR 5] h2 (jPv post) ∧ ∀ (h4 : jH), post h4 → (Q (some (jI (h4.1 5 0))) h4)))) :
    WV Sm G M_X8_minute Q 0 [jR 0] [] h := by
  refine s_aload_n (pc := 0) dX8_minute_0 rfl ?_
  refine s_getr (pc := 1) dX8_minute_1 fl_X8_29 cSm_0 rfl ?_
  refine s_iconst (pc := 4) dX8_minute_4 (j_cst rfl) ?_
  refine s_iald (pc := 5) (x := h.1 5 0) dX8_minute_5 cSm_5 ⟨by decide, by decide⟩ rfl ?_
  refine s_bipush (pc := 6) dX8_minute_6 rfl (j_cst rfl) ?_
  refine s_icmp_ne (pc := 8) (tgt := 14) dX8_minute_8 (by decide) (fun hc => ?_) (fun hc => ?_)
  · have H := H.2 hc
    refine s_aload_n (pc := 14) dX8_minute_14 rfl ?_
    obtain ⟨post, hct, H⟩ := H
    refine s_callV (pc := 15) (as := []) (st := []) (by exact dX8_minute_15) mv_X8_172 ⟨rfl, rfl, Nat.le_of_ble_eq_true rfl, Nat.le_of_ble_eq_true rfl⟩ cSm_0 rfl rfl (Nat.le_of_ble_eq_true rfl) _ rfl hct (fun r1 h2 hp => ?_)
    obtain ⟨rfl, hp⟩ := hp
    have H := H h2 hp
    show WV _ _ _ _ 18 [jR 0] [] h2
    refine s_aload_n (pc := 18) dX8_minute_18 rfl ?_
    refine s_aload_n (pc := 19) dX8_minute_19 rfl ?_
    refine s_getr (pc := 20) dX8_minute_20 fl_X8_29 cSm_0 rfl ?_
    obtain ⟨post, hct, H⟩ := H
    refine s_callV (pc := 23) (as := [jR 5]) (st := []) (by exact dX8_minute_23) mv_X8_175 ⟨rfl, rfl, Nat.le_of_ble_eq_true rfl, Nat.le_of_ble_eq_true rfl⟩ cSm_0 rfl rfl (Nat.le_of_ble_eq_true rfl) _ rfl hct (fun r3 h4 hp => ?_)
    obtain ⟨rfl, hp⟩ := hp
    have H := H h4 hp
    show WV _ _ _ _ 26 [jR 0] [] h4
    refine s_aload_n (pc := 26) dX8_minute_26 rfl ?_
    refine s_getr (pc := 27) dX8_minute_27 fl_X8_29 cSm_0 rfl ?_
    refine s_iconst (pc := 30) dX8_minute_30 (j_cst rfl) ?_
    refine s_iald (pc := 31) (x := h4.1 5 0) dX8_minute_31 cSm_5 ⟨by decide, by decide⟩ rfl ?_
    exact s_iret dX8_minute_32 rfl H
  · have H := H.1 hc
    refine s_bipush (pc := 11) dX8_minute_11 rfl (j_cst rfl) ?_
    exact s_iret dX8_minute_13 rfl H
theorem en_X8_areFree_0_5 {x2 : Int} {h : jH} {post : jQ} (k : ∀ G, WV Sm G M_X8_areFree post 0 [jR 0, jR 5, jI x2] [] h) : CT Sm M_X8_areFree [jR 0, jR 5, jI x2] h post := CT.of (by decide +kernel) (by simp [j_un]) (Nat.le_of_ble_eq_true rfl) _ rfl k
set_option maxRecDepth 20000 in
theorem vc_X8_areFree_0_5_0 {G : jG} {Q : jQ} {x2 : Int} {h : jH}
    (H : ∃ post : Int → jH → Prop, CT Sm M_X8_fromOf [jR 0, jI x2] h (jPi post) ∧ ∀ (r1 : Int) (h2 : jH), post r1 h2 → (∃ post : Int → jH → Prop, CT Sm M_X8_talkerOn [jR 0, jR 5, jI r1] h2 (jPi post) ∧ ∀ (r3 : Int) (h4 : jH), post r3 h4 → ((r3 = (-9) → ∃ post : Int → jH → Prop, CT Sm M_X8_toOf [jR 0, jI x2] h4 (jPi post) ∧ ∀ (r5 : Int) (h6 : jH), post r5 h6 → (∃ post : Int → jH → Prop, CT Sm M_X8_talkerOn [jR 0, jR 5, jI r5] h6 (jPi post) ∧ ∀ (r7 : Int) (h8 : jH), post r7 h8 → ((r7 = (-9) → Q (some (jI 1)) h8) ∧ (¬ r7 = (-9) → Q (some (jI 0)) h8)))) ∧ (¬ r3 = (-9) → Q (some (jI 0)) h4)))) :
    WV Sm G M_X8_areFree Q 0 [jR 0, jR 5, jI x2] [] h := by
  refine s_aload_n (pc := 0) dX8_areFree_0 rfl ?_
  refine s_aload_n (pc := 1) dX8_areFree_1 rfl ?_
  refine s_aload_n (pc := 2) dX8_areFree_2 rfl ?_
  refine s_iload_n (pc := 3) dX8_areFree_3 rfl ?_
  obtain ⟨post, hct, H⟩ := H
  refine s_callV (pc := 4) (as := [jI x2]) (st := [jR 5, jR 0]) (by exact dX8_areFree_4) mv_X8_121 ⟨rfl, rfl, Nat.le_of_ble_eq_true rfl, Nat.le_of_ble_eq_true rfl⟩ cSm_0 rfl rfl (Nat.le_of_ble_eq_true rfl) _ rfl hct (fun r1 h2 hp => ?_)
  obtain ⟨r1, rfl, hp⟩ := hp
  have H := H r1 h2 hp
  show WV _ _ _ _ 7 [jR 0, jR 5, jI x2] [jI r1, jR 5, jR 0] h2
  obtain ⟨post, hct, H⟩ := H
  refine s_callV (pc := 7) (as := [jR 5, jI r1]) (st := []) (by exact dX8_areFree_7) mv_X8_138 ⟨rfl, rfl, Nat.le_of_ble_eq_true rfl, Nat.le_of_ble_eq_true rfl⟩ cSm_0 rfl rfl (Nat.le_of_ble_eq_true rfl) _ rfl hct (fun r3 h4 hp => ?_)
  obtain ⟨r3, rfl, hp⟩ := hp
  have H := H r3 h4 hp
  show WV _ _ _ _ 10 [jR 0, jR 5, jI x2] [jI r3] h4
  refine s_bipush (pc := 10) dX8_areFree_10 rfl (j_cst rfl) ?_
  refine s_icmp_ne (pc := 12) (tgt := 34) dX8_areFree_12 (by decide) (fun hc => ?_) (fun hc => ?_)
  · have H := H.2 hc
    refine s_iconst (pc := 34) dX8_areFree_34 (j_cst rfl) ?_
    exact s_zret dX8_areFree_35 rfl (Or.inl rfl) H
  · have H := H.1 hc
    refine s_aload_n (pc := 15) dX8_areFree_15 rfl ?_
    refine s_aload_n (pc := 16) dX8_areFree_16 rfl ?_
    refine s_aload_n (pc := 17) dX8_areFree_17 rfl ?_
    refine s_iload_n (pc := 18) dX8_areFree_18 rfl ?_
    obtain ⟨post, hct, H⟩ := H
    refine s_callV (pc := 19) (as := [jI x2]) (st := [jR 5, jR 0]) (by exact dX8_areFree_19) mv_X8_125 ⟨rfl, rfl, Nat.le_of_ble_eq_true rfl, Nat.le_of_ble_eq_true rfl⟩ cSm_0 rfl rfl (Nat.le_of_ble_eq_true rfl) _ rfl hct (fun r5 h6 hp => ?_)
    obtain ⟨r5, rfl, hp⟩ := hp
    have H := H r5 h6 hp
    show WV _ _ _ _ 22 [jR 0, jR 5, jI x2] [jI r5, jR 5, jR 0] h6
    obtain ⟨post, hct, H⟩ := H
    refine s_callV (pc := 22) (as := [jR 5, jI r5]) (st := []) (by exact dX8_areFree_22) mv_X8_138 ⟨rfl, rfl, Nat.le_of_ble_eq_true rfl, Nat.le_of_ble_eq_true rfl⟩ cSm_0 rfl rfl (Nat.le_of_ble_eq_true rfl) _ rfl hct (fun r7 h8 hp => ?_)
    obtain ⟨r7, rfl, hp⟩ := hp
    have H := H r7 h8 hp
    show WV _ _ _ _ 25 [jR 0, jR 5, jI x2] [jI r7] h8
    refine s_bipush (pc := 25) dX8_areFree_25 rfl (j_cst rfl) ?_
    refine s_icmp_ne (pc := 27) (tgt := 34) dX8_areFree_27 (by decide) (fun hc => ?_) (fun hc => ?_)
    · have H := H.2 hc
      refine s_iconst (pc := 34) dX8_areFree_34 (j_cst rfl) ?_
      exact s_zret dX8_areFree_35 rfl (Or.inl rfl) H
    · have H := H.1 hc
      refine s_iconst (pc := 30) dX8_areFree_30 (j_cst rfl) ?_
      refine s_goto (pc := 31) (tgt := 35) dX8_areFree_31 (by decide) ?_
      exact s_zret dX8_areFree_35 rfl (Or.inr rfl) H
theorem en_X8_canPlug_0_5 {x2 x3 : Int} {h : jH} {post : jQ} (k : ∀ G, WV Sm G M_X8_canPlug post 0 [jR 0, jR 5, jI x2, jI x3] [] h) : CT Sm M_X8_canPlug [jR 0, jR 5, jI x2, jI x3] h post := CT.of (by decide +kernel) (by simp [j_un]) (Nat.le_of_ble_eq_true rfl) _ rfl k
set_option maxRecDepth 20000 in
theorem vc_X8_canPlug_0_5_0 {G : jG} {Q : jQ} {x2 x3 : Int} {h : jH}
    (H : (j_rg (7 + x2)) ∧ ((0 ≤ 7 + x2 ∧ 7 + x2 < 28) ∧ (((h.1 5 (Int.toNat (7 + x2))) = 1 → ∃ post : Int → jH → Prop, CT Sm M_X8_freeCords [jR 0, jR 5, jI x3] h (jPi post) ∧ ∀ (r3 : Int) (h4 : jH), post r3 h4 → ((r3 ≤ 0 → Q (some (jI 0)) h4) ∧ (¬ r3 ≤ 0 → ∃ post : Int → jH → Prop, CT Sm M_X8_areFree [jR 0, jR 5, jI x2] h4 (jPi post) ∧ ∀ (r5 : Int) (h6 : jH), post r5 h6 → ((r5 = 0 → Q (some (jI 0)) h6) ∧ (¬ r5 = 0 → Q (some (jI 1)) h6))))) ∧ (¬ (h.1 5 (Int.toNat (7 + x2))) = 1 → Q (some (jI 0)) h)))) :
    WV Sm G M_X8_canPlug Q 0 [jR 0, jR 5, jI x2, jI x3] [] h := by
  refine s_aload_n (pc := 0) dX8_canPlug_0 rfl ?_
  refine s_bipush (pc := 1) dX8_canPlug_1 rfl (j_cst rfl) ?_
  refine s_iload_n (pc := 3) dX8_canPlug_3 rfl ?_
  obtain ⟨k1, H⟩ := H
  refine s_iadd (pc := 4) dX8_canPlug_4 k1 ?_
  obtain ⟨k2, H⟩ := H
  refine s_iald (pc := 5) (x := h.1 5 (Int.toNat (7 + x2))) dX8_canPlug_5 cSm_5 k2 rfl ?_
  refine s_iconst (pc := 6) dX8_canPlug_6 (j_cst rfl) ?_
  refine s_icmp_ne (pc := 7) (tgt := 32) dX8_canPlug_7 (by decide) (fun hc => ?_) (fun hc => ?_)
  · have H := H.2 hc
    refine s_iconst (pc := 32) dX8_canPlug_32 (j_cst rfl) ?_
    exact s_zret dX8_canPlug_33 rfl (Or.inl rfl) H
  · have H := H.1 hc
    refine s_aload_n (pc := 10) dX8_canPlug_10 rfl ?_
    refine s_aload_n (pc := 11) dX8_canPlug_11 rfl ?_
    refine s_iload_n (pc := 12) dX8_canPlug_12 rfl ?_
    obtain ⟨post, hct, H⟩ := H
    refine s_callV (pc := 13) (as := [jR 5, jI x3]) (st := []) (by exact dX8_canPlug_13) mv_X8_141 ⟨rfl, rfl, Nat.le_of_ble_eq_true rfl, Nat.le_of_ble_eq_true rfl⟩ cSm_0 rfl rfl (Nat.le_of_ble_eq_true rfl) _ rfl hct (fun r3 h4 hp => ?_)
    obtain ⟨r3, rfl, hp⟩ := hp
    have H := H r3 h4 hp
    show WV _ _ _ _ 16 [jR 0, jR 5, jI x2, jI x3] [jI r3] h4
    refine s_if_le (pc := 16) (tgt := 32) dX8_canPlug_16 (by decide) (fun hc => ?_) (fun hc => ?_)
    · have H := H.1 hc
      refine s_iconst (pc := 32) dX8_canPlug_32 (j_cst rfl) ?_
      exact s_zret dX8_canPlug_33 rfl (Or.inl rfl) H
    · have H := H.2 hc
      refine s_aload_n (pc := 19) dX8_canPlug_19 rfl ?_
      refine s_aload_n (pc := 20) dX8_canPlug_20 rfl ?_
      refine s_iload_n (pc := 21) dX8_canPlug_21 rfl ?_
      obtain ⟨post, hct, H⟩ := H
      refine s_callV (pc := 22) (as := [jR 5, jI x2]) (st := []) (by exact dX8_canPlug_22) mv_X8_144 ⟨rfl, rfl, Nat.le_of_ble_eq_true rfl, Nat.le_of_ble_eq_true rfl⟩ cSm_0 rfl rfl (Nat.le_of_ble_eq_true rfl) _ rfl hct (fun r5 h6 hp => ?_)
      obtain ⟨r5, rfl, hp⟩ := hp
      have H := H r5 h6 hp
      show WV _ _ _ _ 25 [jR 0, jR 5, jI x2, jI x3] [jI r5] h6
      refine s_if_eq (pc := 25) (tgt := 32) dX8_canPlug_25 (by decide) (fun hc => ?_) (fun hc => ?_)
      · have H := H.1 hc
        refine s_iconst (pc := 32) dX8_canPlug_32 (j_cst rfl) ?_
        exact s_zret dX8_canPlug_33 rfl (Or.inl rfl) H
      · have H := H.2 hc
        refine s_iconst (pc := 28) dX8_canPlug_28 (j_cst rfl) ?_
        refine s_goto (pc := 29) (tgt := 33) dX8_canPlug_29 (by decide) ?_
        exact s_zret dX8_canPlug_33 rfl (Or.inr rfl) H
theorem en_X8_plug_0_5 {x2 : Int} {h : jH} {post : jQ} (k : ∀ G, WV Sm G M_X8_plug post 0 [jR 0, jR 5, jI x2] [] h) : CT Sm M_X8_plug [jR 0, jR 5, jI x2] h post := CT.of (by decide +kernel) (by simp [j_un]) (Nat.le_of_ble_eq_true rfl) _ rfl k
set_option maxRecDepth 20000 in
theorem vc_X8_plug_0_5_0 {G : jG} {Q : jQ} {x2 : Int} {h : jH}
    (H : (j_rg (7 + x2)) ∧ ((0 ≤ 7 + x2 ∧ 7 + x2 < 28) ∧ ((j_rg (14 + x2)) ∧ ((j_rg (5 * x2)) ∧ ((j_rg ((5 * x2) + 3)) ∧ ((0 ≤ (5 * x2) + 3 ∧ (5 * x2) + 3 < 35) ∧ ((0 ≤ 14 + x2 ∧ 14 + x2 < 28) ∧ (Q none (j_up (j_up h 5 (Int.toNat (7 + x2)) 2) 5 (Int.toNat (14 + x2)) (h.1 4 (Int.toNat ((5 * x2) + 3)))))))))))) :
    WV Sm G M_X8_plug Q 0 [jR 0, jR 5, jI x2] [] h := by
  refine s_aload_n (pc := 0) dX8_plug_0 rfl ?_
  refine s_bipush (pc := 1) dX8_plug_1 rfl (j_cst rfl) ?_
  refine s_iload_n (pc := 3) dX8_plug_3 rfl ?_
  obtain ⟨k1, H⟩ := H
  refine s_iadd (pc := 4) dX8_plug_4 k1 ?_
  refine s_iconst (pc := 5) dX8_plug_5 (j_cst rfl) ?_
  obtain ⟨k2, H⟩ := H
  refine s_iast (pc := 6) dX8_plug_6 cSm_5 k2 ?_
  refine s_aload_n (pc := 7) dX8_plug_7 rfl ?_
  refine s_bipush (pc := 8) dX8_plug_8 rfl (j_cst rfl) ?_
  refine s_iload_n (pc := 10) dX8_plug_10 rfl ?_
  obtain ⟨k3, H⟩ := H
  refine s_iadd (pc := 11) dX8_plug_11 k3 ?_
  refine s_aload_n (pc := 12) dX8_plug_12 rfl ?_
  refine s_getr (pc := 13) dX8_plug_13 fl_X8_26 cSm_0 rfl ?_
  refine s_iconst (pc := 16) dX8_plug_16 (j_cst rfl) ?_
  refine s_iload_n (pc := 17) dX8_plug_17 rfl ?_
  obtain ⟨k4, H⟩ := H
  refine s_imul (pc := 18) dX8_plug_18 k4 ?_
  refine s_iconst (pc := 19) dX8_plug_19 (j_cst rfl) ?_
  obtain ⟨k5, H⟩ := H
  refine s_iadd (pc := 20) dX8_plug_20 k5 ?_
  obtain ⟨k6, H⟩ := H
  refine s_iald (pc := 21) (x := h.1 4 (Int.toNat ((5 * x2) + 3))) dX8_plug_21 cSm_4 k6 rfl ?_
  obtain ⟨k7, H⟩ := H
  refine s_iast (pc := 22) dX8_plug_22 cSm_5 k7 ?_
  exact s_vret dX8_plug_23 rfl H
theorem en_X8_plugs_0 {x1 : Int} {h : jH} {post : jQ} (k : ∀ G, WV Sm G M_X8_plugs post 0 [jR 0, jI x1] [] h) : CT Sm M_X8_plugs [jR 0, jI x1] h post := CT.of (by decide +kernel) (by simp [j_un]) (Nat.le_of_ble_eq_true rfl) _ rfl k
set_option maxRecDepth 20000 in
theorem vc_X8_plugs_0_0 {G : jG} {Q : jQ} {x1 : Int} {h : jH}
    (H : ∃ post : Int → jH → Prop, CT Sm M_X8_isCall [jR 0, jI x1] h (jPi post) ∧ ∀ (r1 : Int) (h2 : jH), post r1 h2 → ((r1 = 0 → Q (some (jI (-1))) h2) ∧ (¬ r1 = 0 → ∃ post : Int → jH → Prop, CT Sm M_X8_canPlug [jR 0, jR 5, jI x1, jI (h2.1 0 14)] h2 (jPi post) ∧ ∀ (r3 : Int) (h4 : jH), post r3 h4 → ((r3 = 0 → Q (some (jI (-2))) h4) ∧ (¬ r3 = 0 → ∃ post : jH → Prop, CT Sm M_X8_note [jR 0] h4 (jPv post) ∧ ∀ (h6 : jH), post h6 → (∃ post : jH → Prop, CT Sm M_X8_plug [jR 0, jR 5, jI x1] h6 (jPv post) ∧ ∀ (h8 : jH), post h8 → (∃ post : Int → jH → Prop, CT Sm M_X8_freeCords [jR 0, jR 5, jI (h8.1 0 14)] h8 (jPi post) ∧ ∀ (r9 : Int) (h10 : jH), post r9 h10 → (Q (some (jI r9)) h10)))))))) :
    WV Sm G M_X8_plugs Q 0 [jR 0, jI x1] [] h := by
  refine s_aload_n (pc := 0) dX8_plugs_0 rfl ?_
  refine s_iload_n (pc := 1) dX8_plugs_1 rfl ?_
  obtain ⟨post, hct, H⟩ := H
  refine s_callV (pc := 2) (as := [jI x1]) (st := []) (by exact dX8_plugs_2) mv_X8_161 ⟨rfl, rfl, Nat.le_of_ble_eq_true rfl, Nat.le_of_ble_eq_true rfl⟩ cSm_0 rfl rfl (Nat.le_of_ble_eq_true rfl) _ rfl hct (fun r1 h2 hp => ?_)
  obtain ⟨r1, rfl, hp⟩ := hp
  have H := H r1 h2 hp
  show WV _ _ _ _ 5 [jR 0, jI x1] [jI r1] h2
  refine s_if_ne (pc := 5) (tgt := 10) dX8_plugs_5 (by decide) (fun hc => ?_) (fun hc => ?_)
  · have H := H.2 hc
    refine s_aload_n (pc := 10) dX8_plugs_10 rfl ?_
    refine s_aload_n (pc := 11) dX8_plugs_11 rfl ?_
    refine s_getr (pc := 12) dX8_plugs_12 fl_X8_29 cSm_0 rfl ?_
    refine s_iload_n (pc := 15) dX8_plugs_15 rfl ?_
    refine s_aload_n (pc := 16) dX8_plugs_16 rfl ?_
    refine s_geti (pc := 17) (x := h2.1 0 14) dX8_plugs_17 fl_X8_23 cSm_0 rfl rfl ?_
    obtain ⟨post, hct, H⟩ := H
    refine s_callV (pc := 20) (as := [jR 5, jI x1, jI (h2.1 0 14)]) (st := []) (by exact dX8_plugs_20) mv_X8_179 ⟨rfl, rfl, Nat.le_of_ble_eq_true rfl, Nat.le_of_ble_eq_true rfl⟩ cSm_0 rfl rfl (Nat.le_of_ble_eq_true rfl) _ rfl hct (fun r3 h4 hp => ?_)
    obtain ⟨r3, rfl, hp⟩ := hp
    have H := H r3 h4 hp
    show WV _ _ _ _ 23 [jR 0, jI x1] [jI r3] h4
    refine s_if_ne (pc := 23) (tgt := 29) dX8_plugs_23 (by decide) (fun hc => ?_) (fun hc => ?_)
    · have H := H.2 hc
      refine s_aload_n (pc := 29) dX8_plugs_29 rfl ?_
      obtain ⟨post, hct, H⟩ := H
      refine s_callV (pc := 30) (as := []) (st := []) (by exact dX8_plugs_30) mv_X8_172 ⟨rfl, rfl, Nat.le_of_ble_eq_true rfl, Nat.le_of_ble_eq_true rfl⟩ cSm_0 rfl rfl (Nat.le_of_ble_eq_true rfl) _ rfl hct (fun r5 h6 hp => ?_)
      obtain ⟨rfl, hp⟩ := hp
      have H := H h6 hp
      show WV _ _ _ _ 33 [jR 0, jI x1] [] h6
      refine s_aload_n (pc := 33) dX8_plugs_33 rfl ?_
      refine s_aload_n (pc := 34) dX8_plugs_34 rfl ?_
      refine s_getr (pc := 35) dX8_plugs_35 fl_X8_29 cSm_0 rfl ?_
      refine s_iload_n (pc := 38) dX8_plugs_38 rfl ?_
      obtain ⟨post, hct, H⟩ := H
      refine s_callV (pc := 39) (as := [jR 5, jI x1]) (st := []) (by exact dX8_plugs_39) mv_X8_183 ⟨rfl, rfl, Nat.le_of_ble_eq_true rfl, Nat.le_of_ble_eq_true rfl⟩ cSm_0 rfl rfl (Nat.le_of_ble_eq_true rfl) _ rfl hct (fun r7 h8 hp => ?_)
      obtain ⟨rfl, hp⟩ := hp
      have H := H h8 hp
      show WV _ _ _ _ 42 [jR 0, jI x1] [] h8
      refine s_aload_n (pc := 42) dX8_plugs_42 rfl ?_
      refine s_aload_n (pc := 43) dX8_plugs_43 rfl ?_
      refine s_getr (pc := 44) dX8_plugs_44 fl_X8_29 cSm_0 rfl ?_
      refine s_aload_n (pc := 47) dX8_plugs_47 rfl ?_
      refine s_geti (pc := 48) (x := h8.1 0 14) dX8_plugs_48 fl_X8_23 cSm_0 rfl rfl ?_
      obtain ⟨post, hct, H⟩ := H
      refine s_callV (pc := 51) (as := [jR 5, jI (h8.1 0 14)]) (st := []) (by exact dX8_plugs_51) mv_X8_141 ⟨rfl, rfl, Nat.le_of_ble_eq_true rfl, Nat.le_of_ble_eq_true rfl⟩ cSm_0 rfl rfl (Nat.le_of_ble_eq_true rfl) _ rfl hct (fun r9 h10 hp => ?_)
      obtain ⟨r9, rfl, hp⟩ := hp
      have H := H r9 h10 hp
      show WV _ _ _ _ 54 [jR 0, jI x1] [jI r9] h10
      exact s_iret dX8_plugs_54 rfl H
    · have H := H.1 hc
      refine s_bipush (pc := 26) dX8_plugs_26 rfl (j_cst rfl) ?_
      exact s_iret dX8_plugs_28 rfl H
  · have H := H.1 hc
    refine s_iconst (pc := 8) dX8_plugs_8 (j_cst rfl) ?_
    exact s_iret dX8_plugs_9 rfl H
theorem en_X8_pulls_0 {x1 : Int} {h : jH} {post : jQ} (k : ∀ G, WV Sm G M_X8_pulls post 0 [jR 0, jI x1] [] h) : CT Sm M_X8_pulls [jR 0, jI x1] h post := CT.of (by decide +kernel) (by simp [j_un]) (Nat.le_of_ble_eq_true rfl) _ rfl k
set_option maxRecDepth 20000 in
theorem vc_X8_pulls_0_0 {G : jG} {Q : jQ} {x1 : Int} {h : jH}
    (H : ∃ post : Int → jH → Prop, CT Sm M_X8_isCall [jR 0, jI x1] h (jPi post) ∧ ∀ (r1 : Int) (h2 : jH), post r1 h2 → ((r1 = 0 → Q (some (jI (-1))) h2) ∧ (¬ r1 = 0 → (j_rg (7 + x1)) ∧ ((0 ≤ 7 + x1 ∧ 7 + x1 < 28) ∧ (((h2.1 5 (Int.toNat (7 + x1))) = 2 → ∃ post : jH → Prop, CT Sm M_X8_note [jR 0] h2 (jPv post) ∧ ∀ (h6 : jH), post h6 → ((j_rg (14 + x1)) ∧ ((0 ≤ 14 + x1 ∧ 14 + x1 < 28) ∧ (Q (some (jI ((j_up h6 5 (Int.toNat (7 + x1)) 4).1 5 (Int.toNat (14 + x1))))) (j_up h6 5 (Int.toNat (7 + x1)) 4))))) ∧ (¬ (h2.1 5 (Int.toNat (7 + x1))) = 2 → Q (some (jI (-2))) h2)))))) :
    WV Sm G M_X8_pulls Q 0 [jR 0, jI x1] [] h := by
  refine s_aload_n (pc := 0) dX8_pulls_0 rfl ?_
  refine s_iload_n (pc := 1) dX8_pulls_1 rfl ?_
  obtain ⟨post, hct, H⟩ := H
  refine s_callV (pc := 2) (as := [jI x1]) (st := []) (by exact dX8_pulls_2) mv_X8_161 ⟨rfl, rfl, Nat.le_of_ble_eq_true rfl, Nat.le_of_ble_eq_true rfl⟩ cSm_0 rfl rfl (Nat.le_of_ble_eq_true rfl) _ rfl hct (fun r1 h2 hp => ?_)
  obtain ⟨r1, rfl, hp⟩ := hp
  have H := H r1 h2 hp
  show WV _ _ _ _ 5 [jR 0, jI x1] [jI r1] h2
  refine s_if_ne (pc := 5) (tgt := 10) dX8_pulls_5 (by decide) (fun hc => ?_) (fun hc => ?_)
  · have H := H.2 hc
    refine s_aload_n (pc := 10) dX8_pulls_10 rfl ?_
    refine s_getr (pc := 11) dX8_pulls_11 fl_X8_29 cSm_0 rfl ?_
    refine s_bipush (pc := 14) dX8_pulls_14 rfl (j_cst rfl) ?_
    refine s_iload_n (pc := 16) dX8_pulls_16 rfl ?_
    obtain ⟨k3, H⟩ := H
    refine s_iadd (pc := 17) dX8_pulls_17 k3 ?_
    obtain ⟨k4, H⟩ := H
    refine s_iald (pc := 18) (x := h2.1 5 (Int.toNat (7 + x1))) dX8_pulls_18 cSm_5 k4 rfl ?_
    refine s_iconst (pc := 19) dX8_pulls_19 (j_cst rfl) ?_
    refine s_icmp_eq (pc := 20) (tgt := 26) dX8_pulls_20 (by decide) (fun hc => ?_) (fun hc => ?_)
    · have H := H.1 hc
      refine s_aload_n (pc := 26) dX8_pulls_26 rfl ?_
      obtain ⟨post, hct, H⟩ := H
      refine s_callV (pc := 27) (as := []) (st := []) (by exact dX8_pulls_27) mv_X8_172 ⟨rfl, rfl, Nat.le_of_ble_eq_true rfl, Nat.le_of_ble_eq_true rfl⟩ cSm_0 rfl rfl (Nat.le_of_ble_eq_true rfl) _ rfl hct (fun r5 h6 hp => ?_)
      obtain ⟨rfl, hp⟩ := hp
      have H := H h6 hp
      show WV _ _ _ _ 30 [jR 0, jI x1] [] h6
      refine s_aload_n (pc := 30) dX8_pulls_30 rfl ?_
      refine s_getr (pc := 31) dX8_pulls_31 fl_X8_29 cSm_0 rfl ?_
      refine s_bipush (pc := 34) dX8_pulls_34 rfl (j_cst rfl) ?_
      refine s_iload_n (pc := 36) dX8_pulls_36 rfl ?_
      refine s_iadd (pc := 37) dX8_pulls_37 k3 ?_
      refine s_iconst (pc := 38) dX8_pulls_38 (j_cst rfl) ?_
      refine s_iast (pc := 39) dX8_pulls_39 cSm_5 k4 ?_
      refine s_aload_n (pc := 40) dX8_pulls_40 rfl ?_
      refine s_getr (pc := 41) dX8_pulls_41 fl_X8_29 cSm_0 rfl ?_
      refine s_bipush (pc := 44) dX8_pulls_44 rfl (j_cst rfl) ?_
      refine s_iload_n (pc := 46) dX8_pulls_46 rfl ?_
      obtain ⟨k7, H⟩ := H
      refine s_iadd (pc := 47) dX8_pulls_47 k7 ?_
      obtain ⟨k8, H⟩ := H
      refine s_iald (pc := 48) (x := (j_up h6 5 (Int.toNat (7 + x1)) 4).1 5 (Int.toNat (14 + x1))) dX8_pulls_48 cSm_5 k8 rfl ?_
      exact s_iret dX8_pulls_49 rfl H
    · have H := H.2 hc
      refine s_bipush (pc := 23) dX8_pulls_23 rfl (j_cst rfl) ?_
      exact s_iret dX8_pulls_25 rfl H
  · have H := H.1 hc
    refine s_iconst (pc := 8) dX8_pulls_8 (j_cst rfl) ?_
    exact s_iret dX8_pulls_9 rfl H
theorem en_X8_swaps_0 {x1 x2 : Int} {h : jH} {post : jQ} (k : ∀ G, WV Sm G M_X8_swaps post 0 [jR 0, jI x1, jI x2, jU] [] h) : CT Sm M_X8_swaps [jR 0, jI x1, jI x2] h post := CT.of (by decide +kernel) (by simp [j_un]) (Nat.le_of_ble_eq_true rfl) _ rfl k
set_option maxRecDepth 20000 in
theorem vc_X8_swaps_0_0 {G : jG} {Q : jQ} {x1 x2 : Int} {h : jH}
    (H : ∃ post : Int → jH → Prop, CT Sm M_X8_isLine [jR 0, jI x1] h (jPi post) ∧ ∀ (r1 : Int) (h2 : jH), post r1 h2 → ((r1 = 0 → Q (some (jI (-1))) h2) ∧ (¬ r1 = 0 → ∃ post : Int → jH → Prop, CT Sm M_X8_isLine [jR 0, jI x2] h2 (jPi post) ∧ ∀ (r3 : Int) (h4 : jH), post r3 h4 → ((r3 = 0 → Q (some (jI (-1))) h4) ∧ (¬ r3 = 0 → (x1 = x2 → Q (some (jI (-1))) h4) ∧ (¬ x1 = x2 → ∃ post : Int → jH → Prop, CT Sm M_X8_talkerOn [jR 0, jR 5, jI x1] h4 (jPi post) ∧ ∀ (r5 : Int) (h6 : jH), post r5 h6 → ((r5 = (-9) → ∃ post : Int → jH → Prop, CT Sm M_X8_talkerOn [jR 0, jR 5, jI x2] h6 (jPi post) ∧ ∀ (r7 : Int) (h8 : jH), post r7 h8 → ((r7 = (-9) → ∃ post : jH → Prop, CT Sm M_X8_note [jR 0] h8 (jPv post) ∧ ∀ (h10 : jH), post h10 → ((j_rg (1 + x1)) ∧ ((0 ≤ 1 + x1 ∧ 1 + x1 < 28) ∧ ((j_rg (1 + x2)) ∧ ((0 ≤ 1 + x2 ∧ 1 + x2 < 28) ∧ (Q (some (jI ((j_up (j_up h10 5 (Int.toNat (1 + x1)) (h10.1 5 (Int.toNat (1 + x2)))) 5 (Int.toNat (1 + x2)) (h10.1 5 (Int.toNat (1 + x1)))).1 5 (Int.toNat (1 + x1))))) (j_up (j_up h10 5 (Int.toNat (1 + x1)) (h10.1 5 (Int.toNat (1 + x2)))) 5 (Int.toNat (1 + x2)) (h10.1 5 (Int.toNat (1 + x1)))))))))) ∧ (¬ r7 = (-9) → Q (some (jI (-2))) h8))) ∧ (¬ r5 = (-9) → Q (some (jI (-2))) h6)))))))) :
    WV Sm G M_X8_swaps Q 0 [jR 0, jI x1, jI x2, jU] [] h := by
  refine s_aload_n (pc := 0) dX8_swaps_0 rfl ?_
  refine s_iload_n (pc := 1) dX8_swaps_1 rfl ?_
  obtain ⟨post, hct, H⟩ := H
  refine s_callV (pc := 2) (as := [jI x1]) (st := []) (by exact dX8_swaps_2) mv_X8_157 ⟨rfl, rfl, Nat.le_of_ble_eq_true rfl, Nat.le_of_ble_eq_true rfl⟩ cSm_0 rfl rfl (Nat.le_of_ble_eq_true rfl) _ rfl hct (fun r1 h2 hp => ?_)
  obtain ⟨r1, rfl, hp⟩ := hp
  have H := H r1 h2 hp
  show WV _ _ _ _ 5 [jR 0, jI x1, jI x2, jU] [jI r1] h2
  refine s_if_eq (pc := 5) (tgt := 21) dX8_swaps_5 (by decide) (fun hc => ?_) (fun hc => ?_)
  · have H := H.1 hc
    refine s_iconst (pc := 21) dX8_swaps_21 (j_cst rfl) ?_
    exact s_iret dX8_swaps_22 rfl H
  · have H := H.2 hc
    refine s_aload_n (pc := 8) dX8_swaps_8 rfl ?_
    refine s_iload_n (pc := 9) dX8_swaps_9 rfl ?_
    obtain ⟨post, hct, H⟩ := H
    refine s_callV (pc := 10) (as := [jI x2]) (st := []) (by exact dX8_swaps_10) mv_X8_157 ⟨rfl, rfl, Nat.le_of_ble_eq_true rfl, Nat.le_of_ble_eq_true rfl⟩ cSm_0 rfl rfl (Nat.le_of_ble_eq_true rfl) _ rfl hct (fun r3 h4 hp => ?_)
    obtain ⟨r3, rfl, hp⟩ := hp
    have H := H r3 h4 hp
    show WV _ _ _ _ 13 [jR 0, jI x1, jI x2, jU] [jI r3] h4
    refine s_if_eq (pc := 13) (tgt := 21) dX8_swaps_13 (by decide) (fun hc => ?_) (fun hc => ?_)
    · have H := H.1 hc
      refine s_iconst (pc := 21) dX8_swaps_21 (j_cst rfl) ?_
      exact s_iret dX8_swaps_22 rfl H
    · have H := H.2 hc
      refine s_iload_n (pc := 16) dX8_swaps_16 rfl ?_
      refine s_iload_n (pc := 17) dX8_swaps_17 rfl ?_
      refine s_icmp_ne (pc := 18) (tgt := 23) dX8_swaps_18 (by decide) (fun hc => ?_) (fun hc => ?_)
      · have H := H.2 hc
        refine s_aload_n (pc := 23) dX8_swaps_23 rfl ?_
        refine s_aload_n (pc := 24) dX8_swaps_24 rfl ?_
        refine s_getr (pc := 25) dX8_swaps_25 fl_X8_29 cSm_0 rfl ?_
        refine s_iload_n (pc := 28) dX8_swaps_28 rfl ?_
        obtain ⟨post, hct, H⟩ := H
        refine s_callV (pc := 29) (as := [jR 5, jI x1]) (st := []) (by exact dX8_swaps_29) mv_X8_138 ⟨rfl, rfl, Nat.le_of_ble_eq_true rfl, Nat.le_of_ble_eq_true rfl⟩ cSm_0 rfl rfl (Nat.le_of_ble_eq_true rfl) _ rfl hct (fun r5 h6 hp => ?_)
        obtain ⟨r5, rfl, hp⟩ := hp
        have H := H r5 h6 hp
        show WV _ _ _ _ 32 [jR 0, jI x1, jI x2, jU] [jI r5] h6
        refine s_bipush (pc := 32) dX8_swaps_32 rfl (j_cst rfl) ?_
        refine s_icmp_ne (pc := 34) (tgt := 51) dX8_swaps_34 (by decide) (fun hc => ?_) (fun hc => ?_)
        · have H := H.2 hc
          refine s_bipush (pc := 51) dX8_swaps_51 rfl (j_cst rfl) ?_
          exact s_iret dX8_swaps_53 rfl H
        · have H := H.1 hc
          refine s_aload_n (pc := 37) dX8_swaps_37 rfl ?_
          refine s_aload_n (pc := 38) dX8_swaps_38 rfl ?_
          refine s_getr (pc := 39) dX8_swaps_39 fl_X8_29 cSm_0 rfl ?_
          refine s_iload_n (pc := 42) dX8_swaps_42 rfl ?_
          obtain ⟨post, hct, H⟩ := H
          refine s_callV (pc := 43) (as := [jR 5, jI x2]) (st := []) (by exact dX8_swaps_43) mv_X8_138 ⟨rfl, rfl, Nat.le_of_ble_eq_true rfl, Nat.le_of_ble_eq_true rfl⟩ cSm_0 rfl rfl (Nat.le_of_ble_eq_true rfl) _ rfl hct (fun r7 h8 hp => ?_)
          obtain ⟨r7, rfl, hp⟩ := hp
          have H := H r7 h8 hp
          show WV _ _ _ _ 46 [jR 0, jI x1, jI x2, jU] [jI r7] h8
          refine s_bipush (pc := 46) dX8_swaps_46 rfl (j_cst rfl) ?_
          refine s_icmp_eq (pc := 48) (tgt := 54) dX8_swaps_48 (by decide) (fun hc => ?_) (fun hc => ?_)
          · have H := H.1 hc
            refine s_aload_n (pc := 54) dX8_swaps_54 rfl ?_
            obtain ⟨post, hct, H⟩ := H
            refine s_callV (pc := 55) (as := []) (st := []) (by exact dX8_swaps_55) mv_X8_172 ⟨rfl, rfl, Nat.le_of_ble_eq_true rfl, Nat.le_of_ble_eq_true rfl⟩ cSm_0 rfl rfl (Nat.le_of_ble_eq_true rfl) _ rfl hct (fun r9 h10 hp => ?_)
            obtain ⟨rfl, hp⟩ := hp
            have H := H h10 hp
            show WV _ _ _ _ 58 [jR 0, jI x1, jI x2, jU] [] h10
            refine s_aload_n (pc := 58) dX8_swaps_58 rfl ?_
            refine s_getr (pc := 59) dX8_swaps_59 fl_X8_29 cSm_0 rfl ?_
            refine s_iconst (pc := 62) dX8_swaps_62 (j_cst rfl) ?_
            refine s_iload_n (pc := 63) dX8_swaps_63 rfl ?_
            obtain ⟨k11, H⟩ := H
            refine s_iadd (pc := 64) dX8_swaps_64 k11 ?_
            obtain ⟨k12, H⟩ := H
            refine s_iald (pc := 65) (x := h10.1 5 (Int.toNat (1 + x1))) dX8_swaps_65 cSm_5 k12 rfl ?_
            refine s_istore_n (pc := 66) (lv' := [jR 0, jI x1, jI x2, jI (h10.1 5 (Int.toNat (1 + x1)))]) dX8_swaps_66 (by decide) rfl ?_
            refine s_aload_n (pc := 67) dX8_swaps_67 rfl ?_
            refine s_getr (pc := 68) dX8_swaps_68 fl_X8_29 cSm_0 rfl ?_
            refine s_iconst (pc := 71) dX8_swaps_71 (j_cst rfl) ?_
            refine s_iload_n (pc := 72) dX8_swaps_72 rfl ?_
            refine s_iadd (pc := 73) dX8_swaps_73 k11 ?_
            refine s_aload_n (pc := 74) dX8_swaps_74 rfl ?_
            refine s_getr (pc := 75) dX8_swaps_75 fl_X8_29 cSm_0 rfl ?_
            refine s_iconst (pc := 78) dX8_swaps_78 (j_cst rfl) ?_
            refine s_iload_n (pc := 79) dX8_swaps_79 rfl ?_
            obtain ⟨k13, H⟩ := H
            refine s_iadd (pc := 80) dX8_swaps_80 k13 ?_
            obtain ⟨k14, H⟩ := H
            refine s_iald (pc := 81) (x := h10.1 5 (Int.toNat (1 + x2))) dX8_swaps_81 cSm_5 k14 rfl ?_
            refine s_iast (pc := 82) dX8_swaps_82 cSm_5 k12 ?_
            refine s_aload_n (pc := 83) dX8_swaps_83 rfl ?_
            refine s_getr (pc := 84) dX8_swaps_84 fl_X8_29 cSm_0 rfl ?_
            refine s_iconst (pc := 87) dX8_swaps_87 (j_cst rfl) ?_
            refine s_iload_n (pc := 88) dX8_swaps_88 rfl ?_
            refine s_iadd (pc := 89) dX8_swaps_89 k13 ?_
            refine s_iload_n (pc := 90) dX8_swaps_90 rfl ?_
            refine s_iast (pc := 91) dX8_swaps_91 cSm_5 k14 ?_
            refine s_aload_n (pc := 92) dX8_swaps_92 rfl ?_
            refine s_getr (pc := 93) dX8_swaps_93 fl_X8_29 cSm_0 rfl ?_
            refine s_iconst (pc := 96) dX8_swaps_96 (j_cst rfl) ?_
            refine s_iload_n (pc := 97) dX8_swaps_97 rfl ?_
            refine s_iadd (pc := 98) dX8_swaps_98 k11 ?_
            refine s_iald (pc := 99) (x := (j_up (j_up h10 5 (Int.toNat (1 + x1)) (h10.1 5 (Int.toNat (1 + x2)))) 5 (Int.toNat (1 + x2)) (h10.1 5 (Int.toNat (1 + x1)))).1 5 (Int.toNat (1 + x1))) dX8_swaps_99 cSm_5 k12 rfl ?_
            exact s_iret dX8_swaps_100 rfl H
          · have H := H.2 hc
            refine s_bipush (pc := 51) dX8_swaps_51 rfl (j_cst rfl) ?_
            exact s_iret dX8_swaps_53 rfl H
      · have H := H.1 hc
        refine s_iconst (pc := 21) dX8_swaps_21 (j_cst rfl) ?_
        exact s_iret dX8_swaps_22 rfl H
theorem en_X8_copy_9_5 {x1 x3 : Int} {h : jH} {post : jQ} (k : ∀ G, WV Sm G M_X8_copy post 0 [jR 9, jI x1, jR 5, jI x3, jU] [] h) : CT Sm M_X8_copy [jR 9, jI x1, jR 5, jI x3] h post := CT.of (by decide +kernel) (by simp [j_un]) (Nat.le_of_ble_eq_true rfl) _ rfl k
set_option maxRecDepth 20000 in
theorem vc_X8_copy_9_5_0 {G : jG} {Q : jQ} {x1 x3 : Int} {h : jH}
    (H : WV Sm G M_X8_copy Q 3 [jR 9, jI x1, jR 5, jI x3, jI 0] [] h) :
    WV Sm G M_X8_copy Q 0 [jR 9, jI x1, jR 5, jI x3, jU] [] h := by
  refine s_iconst (pc := 0) dX8_copy_0 (j_cst rfl) ?_
  refine s_istore (pc := 1) (lv' := [jR 9, jI x1, jR 5, jI x3, jI 0]) dX8_copy_1 (by decide) rfl ?_
  exact H
set_option maxRecDepth 20000 in
theorem vc_X8_copy_9_5_3 {G : jG} {Q : jQ} {x1 x3 x4 : Int} {h : jH}
    (H : (28 ≤ x4 → Q none h) ∧ (¬ 28 ≤ x4 → (j_rg (x3 + x4)) ∧ ((j_rg (x1 + x4)) ∧ ((0 ≤ x1 + x4 ∧ x1 + x4 < 280) ∧ ((0 ≤ x3 + x4 ∧ x3 + x4 < 28) ∧ ((j_rg (x4 + 1)) ∧ (WV Sm G M_X8_copy Q 3 [jR 9, jI x1, jR 5, jI x3, jI (x4 + 1)] [] (j_up h 5 (Int.toNat (x3 + x4)) (h.1 9 (Int.toNat (x1 + x4))))))))))) :
    WV Sm G M_X8_copy Q 3 [jR 9, jI x1, jR 5, jI x3, jI x4] [] h := by
  refine s_iload (pc := 3) dX8_copy_3 rfl ?_
  refine s_bipush (pc := 5) dX8_copy_5 rfl (j_cst rfl) ?_
  refine s_icmp_ge (pc := 7) (tgt := 28) dX8_copy_7 (by decide) (fun hc => ?_) (fun hc => ?_)
  · have H := H.1 hc
    exact s_vret dX8_copy_28 rfl H
  · have H := H.2 hc
    refine s_aload_n (pc := 10) dX8_copy_10 rfl ?_
    refine s_iload_n (pc := 11) dX8_copy_11 rfl ?_
    refine s_iload (pc := 12) dX8_copy_12 rfl ?_
    obtain ⟨k1, H⟩ := H
    refine s_iadd (pc := 14) dX8_copy_14 k1 ?_
    refine s_aload_n (pc := 15) dX8_copy_15 rfl ?_
    refine s_iload_n (pc := 16) dX8_copy_16 rfl ?_
    refine s_iload (pc := 17) dX8_copy_17 rfl ?_
    obtain ⟨k2, H⟩ := H
    refine s_iadd (pc := 19) dX8_copy_19 k2 ?_
    obtain ⟨k3, H⟩ := H
    refine s_iald (pc := 20) (x := h.1 9 (Int.toNat (x1 + x4))) dX8_copy_20 cSm_9 k3 rfl ?_
    obtain ⟨k4, H⟩ := H
    refine s_iast (pc := 21) dX8_copy_21 cSm_5 k4 ?_
    obtain ⟨k5, H⟩ := H
    refine s_iinc (pc := 22) (lv' := [jR 9, jI x1, jR 5, jI x3, jI (x4 + 1)]) dX8_copy_22 rfl (by decide) k5 rfl ?_
    refine s_goto (pc := 25) (tgt := 3) dX8_copy_25 (by decide) ?_
    exact H
theorem en_X8_undo_0 {h : jH} {post : jQ} (k : ∀ G, WV Sm G M_X8_undo post 0 [jR 0] [] h) : CT Sm M_X8_undo [jR 0] h post := CT.of (by decide +kernel) (by simp [j_un]) (Nat.le_of_ble_eq_true rfl) _ rfl k
set_option maxRecDepth 20000 in
theorem vc_X8_undo_0_0 {G : jG} {Q : jQ} {h : jH}
    (H : ((h.1 0 22) = 0 → Q (some (jI (-2))) h) ∧ (¬ (h.1 0 22) = 0 → (j_rg ((h.1 0 22) - 1)) ∧ ((j_rg (28 * ((h.1 0 22) - 1))) ∧ (∃ post : jH → Prop, CT Sm M_X8_copy [jR 9, jI (28 * ((h.1 0 22) - 1)), jR 5, jI 0] (j_up h 0 22 ((h.1 0 22) - 1)) (jPv post) ∧ ∀ (h4 : jH), post h4 → (Q (some (jI (h4.1 0 22))) h4))))) :
    WV Sm G M_X8_undo Q 0 [jR 0] [] h := by
  refine s_aload_n (pc := 0) dX8_undo_0 rfl ?_
  refine s_geti (pc := 1) (x := h.1 0 22) dX8_undo_1 fl_X8_60 cSm_0 rfl rfl ?_
  refine s_if_ne (pc := 4) (tgt := 10) dX8_undo_4 (by decide) (fun hc => ?_) (fun hc => ?_)
  · have H := H.2 hc
    refine s_aload_n (pc := 10) dX8_undo_10 rfl ?_
    refine s_dup (pc := 11) dX8_undo_11 rfl ?_
    refine s_geti (pc := 12) (x := h.1 0 22) dX8_undo_12 fl_X8_60 cSm_0 rfl rfl ?_
    refine s_iconst (pc := 15) dX8_undo_15 (j_cst rfl) ?_
    obtain ⟨k1, H⟩ := H
    refine s_isub (pc := 16) dX8_undo_16 k1 ?_
    refine s_puti (pc := 17) dX8_undo_17 fp_X8_60 cSm_0 rfl ?_
    refine s_aload_n (pc := 20) dX8_undo_20 rfl ?_
    refine s_getr (pc := 21) dX8_undo_21 fl_X8_42 cSm_0 rfl ?_
    refine s_bipush (pc := 24) dX8_undo_24 rfl (j_cst rfl) ?_
    refine s_aload_n (pc := 26) dX8_undo_26 rfl ?_
    refine s_geti (pc := 27) (x := (h.1 0 22) - 1) dX8_undo_27 fl_X8_60 cSm_0 rfl rfl ?_
    obtain ⟨k2, H⟩ := H
    refine s_imul (pc := 30) dX8_undo_30 k2 ?_
    refine s_aload_n (pc := 31) dX8_undo_31 rfl ?_
    refine s_getr (pc := 32) dX8_undo_32 fl_X8_29 cSm_0 rfl ?_
    refine s_iconst (pc := 35) dX8_undo_35 (j_cst rfl) ?_
    obtain ⟨post, hct, H⟩ := H
    refine s_callS (pc := 36) (as := [jR 9, jI (28 * ((h.1 0 22) - 1)), jR 5, jI 0]) (st := []) (by exact dX8_undo_36) ms_X8_168 ⟨rfl, rfl, Nat.le_of_ble_eq_true rfl, Nat.le_of_ble_eq_true rfl⟩ (Nat.le_of_ble_eq_true rfl) _ rfl hct (fun r3 h4 hp => ?_)
    obtain ⟨rfl, hp⟩ := hp
    have H := H h4 hp
    show WV _ _ _ _ 39 [jR 0] [] h4
    refine s_aload_n (pc := 39) dX8_undo_39 rfl ?_
    refine s_geti (pc := 40) (x := h4.1 0 22) dX8_undo_40 fl_X8_60 cSm_0 rfl rfl ?_
    exact s_iret dX8_undo_43 rfl H
  · have H := H.1 hc
    refine s_bipush (pc := 7) dX8_undo_7 rfl (j_cst rfl) ?_
    exact s_iret dX8_undo_9 rfl H
theorem en_X8_copy_5_6 {x1 x3 : Int} {h : jH} {post : jQ} (k : ∀ G, WV Sm G M_X8_copy post 0 [jR 5, jI x1, jR 6, jI x3, jU] [] h) : CT Sm M_X8_copy [jR 5, jI x1, jR 6, jI x3] h post := CT.of (by decide +kernel) (by simp [j_un]) (Nat.le_of_ble_eq_true rfl) _ rfl k
set_option maxRecDepth 20000 in
theorem vc_X8_copy_5_6_0 {G : jG} {Q : jQ} {x1 x3 : Int} {h : jH}
    (H : WV Sm G M_X8_copy Q 3 [jR 5, jI x1, jR 6, jI x3, jI 0] [] h) :
    WV Sm G M_X8_copy Q 0 [jR 5, jI x1, jR 6, jI x3, jU] [] h := by
  refine s_iconst (pc := 0) dX8_copy_0 (j_cst rfl) ?_
  refine s_istore (pc := 1) (lv' := [jR 5, jI x1, jR 6, jI x3, jI 0]) dX8_copy_1 (by decide) rfl ?_
  exact H
set_option maxRecDepth 20000 in
theorem vc_X8_copy_5_6_3 {G : jG} {Q : jQ} {x1 x3 x4 : Int} {h : jH}
    (H : (28 ≤ x4 → Q none h) ∧ (¬ 28 ≤ x4 → (j_rg (x3 + x4)) ∧ ((j_rg (x1 + x4)) ∧ ((0 ≤ x1 + x4 ∧ x1 + x4 < 28) ∧ ((0 ≤ x3 + x4 ∧ x3 + x4 < 28) ∧ ((j_rg (x4 + 1)) ∧ (WV Sm G M_X8_copy Q 3 [jR 5, jI x1, jR 6, jI x3, jI (x4 + 1)] [] (j_up h 6 (Int.toNat (x3 + x4)) (h.1 5 (Int.toNat (x1 + x4))))))))))) :
    WV Sm G M_X8_copy Q 3 [jR 5, jI x1, jR 6, jI x3, jI x4] [] h := by
  refine s_iload (pc := 3) dX8_copy_3 rfl ?_
  refine s_bipush (pc := 5) dX8_copy_5 rfl (j_cst rfl) ?_
  refine s_icmp_ge (pc := 7) (tgt := 28) dX8_copy_7 (by decide) (fun hc => ?_) (fun hc => ?_)
  · have H := H.1 hc
    exact s_vret dX8_copy_28 rfl H
  · have H := H.2 hc
    refine s_aload_n (pc := 10) dX8_copy_10 rfl ?_
    refine s_iload_n (pc := 11) dX8_copy_11 rfl ?_
    refine s_iload (pc := 12) dX8_copy_12 rfl ?_
    obtain ⟨k1, H⟩ := H
    refine s_iadd (pc := 14) dX8_copy_14 k1 ?_
    refine s_aload_n (pc := 15) dX8_copy_15 rfl ?_
    refine s_iload_n (pc := 16) dX8_copy_16 rfl ?_
    refine s_iload (pc := 17) dX8_copy_17 rfl ?_
    obtain ⟨k2, H⟩ := H
    refine s_iadd (pc := 19) dX8_copy_19 k2 ?_
    obtain ⟨k3, H⟩ := H
    refine s_iald (pc := 20) (x := h.1 5 (Int.toNat (x1 + x4))) dX8_copy_20 cSm_5 k3 rfl ?_
    obtain ⟨k4, H⟩ := H
    refine s_iast (pc := 21) dX8_copy_21 cSm_6 k4 ?_
    obtain ⟨k5, H⟩ := H
    refine s_iinc (pc := 22) (lv' := [jR 5, jI x1, jR 6, jI x3, jI (x4 + 1)]) dX8_copy_22 rfl (by decide) k5 rfl ?_
    refine s_goto (pc := 25) (tgt := 3) dX8_copy_25 (by decide) ?_
    exact H
theorem en_X8_has {x0 x1 : Int} {h : jH} {post : jQ} (k : ∀ G, WV Sm G M_X8_has post 0 [jI x0, jI x1] [] h) : CT Sm M_X8_has [jI x0, jI x1] h post := CT.of (by decide +kernel) (by simp [j_un]) (Nat.le_of_ble_eq_true rfl) _ rfl k
set_option maxRecDepth 20000 in
theorem vc_X8_has_0 {G : jG} {Q : jQ} {x0 x1 : Int} {h : jH}
    (H : ((b_and (b_shr x0 x1) 1) = 1 → Q (some (jI 1)) h) ∧ (¬ (b_and (b_shr x0 x1) 1) = 1 → Q (some (jI 0)) h)) :
    WV Sm G M_X8_has Q 0 [jI x0, jI x1] [] h := by
  refine s_iload_n (pc := 0) dX8_has_0 rfl ?_
  refine s_iload_n (pc := 1) dX8_has_1 rfl ?_
  refine s_ishr (pc := 2) dX8_has_2 ?_
  refine s_iconst (pc := 3) dX8_has_3 (j_cst rfl) ?_
  refine s_iand (pc := 4) dX8_has_4 ?_
  refine s_iconst (pc := 5) dX8_has_5 (j_cst rfl) ?_
  refine s_icmp_ne (pc := 6) (tgt := 13) dX8_has_6 (by decide) (fun hc => ?_) (fun hc => ?_)
  · have H := H.2 hc
    refine s_iconst (pc := 13) dX8_has_13 (j_cst rfl) ?_
    exact s_zret dX8_has_14 rfl (Or.inl rfl) H
  · have H := H.1 hc
    refine s_iconst (pc := 9) dX8_has_9 (j_cst rfl) ?_
    refine s_goto (pc := 10) (tgt := 14) dX8_has_10 (by decide) ?_
    exact s_zret dX8_has_14 rfl (Or.inr rfl) H
theorem en_X8_isAhead_0 {x1 x2 x3 : Int} {h : jH} {post : jQ} (k : ∀ G, WV Sm G M_X8_isAhead post 0 [jR 0, jI x1, jI x2, jI x3, jU, jU] [] h) : CT Sm M_X8_isAhead [jR 0, jI x1, jI x2, jI x3] h post := CT.of (by decide +kernel) (by simp [j_un]) (Nat.le_of_ble_eq_true rfl) _ rfl k
set_option maxRecDepth 20000 in
theorem vc_X8_isAhead_0_0 {G : jG} {Q : jQ} {x1 x2 x3 : Int} {h : jH}
    (H : (x3 = 0 → (j_rg (5 * x1)) ∧ ((0 ≤ 5 * x1 ∧ 5 * x1 < 35) ∧ (WV Sm G M_X8_isAhead Q 44 [jR 0, jI x1, jI x2, jI x3, jU, jU] [jI (h.1 4 (Int.toNat (5 * x1)))] h))) ∧ (¬ x3 = 0 → (x3 = 1 → (j_rg (5 * x1)) ∧ ((j_rg ((5 * x1) + 4)) ∧ ((0 ≤ (5 * x1) + 4 ∧ (5 * x1) + 4 < 35) ∧ ((j_rg (-(h.1 4 (Int.toNat ((5 * x1) + 4))))) ∧ (WV Sm G M_X8_isAhead Q 44 [jR 0, jI x1, jI x2, jI x3, jU, jU] [jI (-(h.1 4 (Int.toNat ((5 * x1) + 4))))] h))))) ∧ (¬ x3 = 1 → (j_rg (5 * x1)) ∧ ((j_rg ((5 * x1) + 3)) ∧ ((0 ≤ (5 * x1) + 3 ∧ (5 * x1) + 3 < 35) ∧ (WV Sm G M_X8_isAhead Q 44 [jR 0, jI x1, jI x2, jI x3, jU, jU] [jI (h.1 4 (Int.toNat ((5 * x1) + 3)))] h)))))) :
    WV Sm G M_X8_isAhead Q 0 [jR 0, jI x1, jI x2, jI x3, jU, jU] [] h := by
  refine s_iload_n (pc := 0) dX8_isAhead_0 rfl ?_
  refine s_if_ne (pc := 1) (tgt := 15) dX8_isAhead_1 (by decide) (fun hc => ?_) (fun hc => ?_)
  · have H := H.2 hc
    refine s_iload_n (pc := 15) dX8_isAhead_15 rfl ?_
    refine s_iconst (pc := 16) dX8_isAhead_16 (j_cst rfl) ?_
    refine s_icmp_ne (pc := 17) (tgt := 34) dX8_isAhead_17 (by decide) (fun hc => ?_) (fun hc => ?_)
    · have H := H.2 hc
      refine s_aload_n (pc := 34) dX8_isAhead_34 rfl ?_
      refine s_getr (pc := 35) dX8_isAhead_35 fl_X8_26 cSm_0 rfl ?_
      refine s_iconst (pc := 38) dX8_isAhead_38 (j_cst rfl) ?_
      refine s_iload_n (pc := 39) dX8_isAhead_39 rfl ?_
      obtain ⟨k1, H⟩ := H
      refine s_imul (pc := 40) dX8_isAhead_40 k1 ?_
      refine s_iconst (pc := 41) dX8_isAhead_41 (j_cst rfl) ?_
      obtain ⟨k2, H⟩ := H
      refine s_iadd (pc := 42) dX8_isAhead_42 k2 ?_
      obtain ⟨k3, H⟩ := H
      refine s_iald (pc := 43) (x := h.1 4 (Int.toNat ((5 * x1) + 3))) dX8_isAhead_43 cSm_4 k3 rfl ?_
      exact H
    · have H := H.1 hc
      refine s_aload_n (pc := 20) dX8_isAhead_20 rfl ?_
      refine s_getr (pc := 21) dX8_isAhead_21 fl_X8_26 cSm_0 rfl ?_
      refine s_iconst (pc := 24) dX8_isAhead_24 (j_cst rfl) ?_
      refine s_iload_n (pc := 25) dX8_isAhead_25 rfl ?_
      obtain ⟨k4, H⟩ := H
      refine s_imul (pc := 26) dX8_isAhead_26 k4 ?_
      refine s_iconst (pc := 27) dX8_isAhead_27 (j_cst rfl) ?_
      obtain ⟨k5, H⟩ := H
      refine s_iadd (pc := 28) dX8_isAhead_28 k5 ?_
      obtain ⟨k6, H⟩ := H
      refine s_iald (pc := 29) (x := h.1 4 (Int.toNat ((5 * x1) + 4))) dX8_isAhead_29 cSm_4 k6 rfl ?_
      obtain ⟨k7, H⟩ := H
      refine s_ineg (pc := 30) dX8_isAhead_30 k7 ?_
      refine s_goto (pc := 31) (tgt := 44) dX8_isAhead_31 (by decide) ?_
      exact H
  · have H := H.1 hc
    refine s_aload_n (pc := 4) dX8_isAhead_4 rfl ?_
    refine s_getr (pc := 5) dX8_isAhead_5 fl_X8_26 cSm_0 rfl ?_
    refine s_iconst (pc := 8) dX8_isAhead_8 (j_cst rfl) ?_
    refine s_iload_n (pc := 9) dX8_isAhead_9 rfl ?_
    obtain ⟨k8, H⟩ := H
    refine s_imul (pc := 10) dX8_isAhead_10 k8 ?_
    obtain ⟨k9, H⟩ := H
    refine s_iald (pc := 11) (x := h.1 4 (Int.toNat (5 * x1))) dX8_isAhead_11 cSm_4 k9 rfl ?_
    refine s_goto (pc := 12) (tgt := 44) dX8_isAhead_12 (by decide) ?_
    exact H
set_option maxRecDepth 20000 in
theorem vc_X8_isAhead_0_44 {G : jG} {Q : jQ} {x1 x2 x3 y0 : Int} {h : jH}
    (H : (x3 = 0 → (j_rg (5 * x2)) ∧ ((0 ≤ 5 * x2 ∧ 5 * x2 < 35) ∧ (WV Sm G M_X8_isAhead Q 90 [jR 0, jI x1, jI x2, jI x3, jI y0, jU] [jI (h.1 4 (Int.toNat (5 * x2)))] h))) ∧ (¬ x3 = 0 → (x3 = 1 → (j_rg (5 * x2)) ∧ ((j_rg ((5 * x2) + 4)) ∧ ((0 ≤ (5 * x2) + 4 ∧ (5 * x2) + 4 < 35) ∧ ((j_rg (-(h.1 4 (Int.toNat ((5 * x2) + 4))))) ∧ (WV Sm G M_X8_isAhead Q 90 [jR 0, jI x1, jI x2, jI x3, jI y0, jU] [jI (-(h.1 4 (Int.toNat ((5 * x2) + 4))))] h))))) ∧ (¬ x3 = 1 → (j_rg (5 * x2)) ∧ ((j_rg ((5 * x2) + 3)) ∧ ((0 ≤ (5 * x2) + 3 ∧ (5 * x2) + 3 < 35) ∧ (WV Sm G M_X8_isAhead Q 90 [jR 0, jI x1, jI x2, jI x3, jI y0, jU] [jI (h.1 4 (Int.toNat ((5 * x2) + 3)))] h)))))) :
    WV Sm G M_X8_isAhead Q 44 [jR 0, jI x1, jI x2, jI x3, jU, jU] [jI y0] h := by
  refine s_istore (pc := 44) (lv' := [jR 0, jI x1, jI x2, jI x3, jI y0, jU]) dX8_isAhead_44 (by decide) rfl ?_
  refine s_iload_n (pc := 46) dX8_isAhead_46 rfl ?_
  refine s_if_ne (pc := 47) (tgt := 61) dX8_isAhead_47 (by decide) (fun hc => ?_) (fun hc => ?_)
  · have H := H.2 hc
    refine s_iload_n (pc := 61) dX8_isAhead_61 rfl ?_
    refine s_iconst (pc := 62) dX8_isAhead_62 (j_cst rfl) ?_
    refine s_icmp_ne (pc := 63) (tgt := 80) dX8_isAhead_63 (by decide) (fun hc => ?_) (fun hc => ?_)
    · have H := H.2 hc
      refine s_aload_n (pc := 80) dX8_isAhead_80 rfl ?_
      refine s_getr (pc := 81) dX8_isAhead_81 fl_X8_26 cSm_0 rfl ?_
      refine s_iconst (pc := 84) dX8_isAhead_84 (j_cst rfl) ?_
      refine s_iload_n (pc := 85) dX8_isAhead_85 rfl ?_
      obtain ⟨k1, H⟩ := H
      refine s_imul (pc := 86) dX8_isAhead_86 k1 ?_
      refine s_iconst (pc := 87) dX8_isAhead_87 (j_cst rfl) ?_
      obtain ⟨k2, H⟩ := H
      refine s_iadd (pc := 88) dX8_isAhead_88 k2 ?_
      obtain ⟨k3, H⟩ := H
      refine s_iald (pc := 89) (x := h.1 4 (Int.toNat ((5 * x2) + 3))) dX8_isAhead_89 cSm_4 k3 rfl ?_
      exact H
    · have H := H.1 hc
      refine s_aload_n (pc := 66) dX8_isAhead_66 rfl ?_
      refine s_getr (pc := 67) dX8_isAhead_67 fl_X8_26 cSm_0 rfl ?_
      refine s_iconst (pc := 70) dX8_isAhead_70 (j_cst rfl) ?_
      refine s_iload_n (pc := 71) dX8_isAhead_71 rfl ?_
      obtain ⟨k4, H⟩ := H
      refine s_imul (pc := 72) dX8_isAhead_72 k4 ?_
      refine s_iconst (pc := 73) dX8_isAhead_73 (j_cst rfl) ?_
      obtain ⟨k5, H⟩ := H
      refine s_iadd (pc := 74) dX8_isAhead_74 k5 ?_
      obtain ⟨k6, H⟩ := H
      refine s_iald (pc := 75) (x := h.1 4 (Int.toNat ((5 * x2) + 4))) dX8_isAhead_75 cSm_4 k6 rfl ?_
      obtain ⟨k7, H⟩ := H
      refine s_ineg (pc := 76) dX8_isAhead_76 k7 ?_
      refine s_goto (pc := 77) (tgt := 90) dX8_isAhead_77 (by decide) ?_
      exact H
  · have H := H.1 hc
    refine s_aload_n (pc := 50) dX8_isAhead_50 rfl ?_
    refine s_getr (pc := 51) dX8_isAhead_51 fl_X8_26 cSm_0 rfl ?_
    refine s_iconst (pc := 54) dX8_isAhead_54 (j_cst rfl) ?_
    refine s_iload_n (pc := 55) dX8_isAhead_55 rfl ?_
    obtain ⟨k8, H⟩ := H
    refine s_imul (pc := 56) dX8_isAhead_56 k8 ?_
    obtain ⟨k9, H⟩ := H
    refine s_iald (pc := 57) (x := h.1 4 (Int.toNat (5 * x2))) dX8_isAhead_57 cSm_4 k9 rfl ?_
    refine s_goto (pc := 58) (tgt := 90) dX8_isAhead_58 (by decide) ?_
    exact H
set_option maxRecDepth 20000 in
theorem vc_X8_isAhead_0_90 {G : jG} {Q : jQ} {x1 x2 x3 x4 y0 : Int} {h : jH}
    (H : (x4 < y0 → Q (some (jI 1)) h) ∧ (¬ x4 < y0 → (x4 = y0 → (x2 ≤ x1 → Q (some (jI 0)) h) ∧ (¬ x2 ≤ x1 → Q (some (jI 1)) h)) ∧ (¬ x4 = y0 → Q (some (jI 0)) h))) :
    WV Sm G M_X8_isAhead Q 90 [jR 0, jI x1, jI x2, jI x3, jI x4, jU] [jI y0] h := by
  refine s_istore (pc := 90) (lv' := [jR 0, jI x1, jI x2, jI x3, jI x4, jI y0]) dX8_isAhead_90 (by decide) rfl ?_
  refine s_iload (pc := 92) dX8_isAhead_92 rfl ?_
  refine s_iload (pc := 94) dX8_isAhead_94 rfl ?_
  refine s_icmp_lt (pc := 96) (tgt := 111) dX8_isAhead_96 (by decide) (fun hc => ?_) (fun hc => ?_)
  · have H := H.1 hc
    refine s_iconst (pc := 111) dX8_isAhead_111 (j_cst rfl) ?_
    refine s_goto (pc := 112) (tgt := 116) dX8_isAhead_112 (by decide) ?_
    exact s_zret dX8_isAhead_116 rfl (Or.inr rfl) H
  · have H := H.2 hc
    refine s_iload (pc := 99) dX8_isAhead_99 rfl ?_
    refine s_iload (pc := 101) dX8_isAhead_101 rfl ?_
    refine s_icmp_ne (pc := 103) (tgt := 115) dX8_isAhead_103 (by decide) (fun hc => ?_) (fun hc => ?_)
    · have H := H.2 hc
      refine s_iconst (pc := 115) dX8_isAhead_115 (j_cst rfl) ?_
      exact s_zret dX8_isAhead_116 rfl (Or.inl rfl) H
    · have H := H.1 hc
      refine s_iload_n (pc := 106) dX8_isAhead_106 rfl ?_
      refine s_iload_n (pc := 107) dX8_isAhead_107 rfl ?_
      refine s_icmp_ge (pc := 108) (tgt := 115) dX8_isAhead_108 (by decide) (fun hc => ?_) (fun hc => ?_)
      · have H := H.1 hc
        refine s_iconst (pc := 115) dX8_isAhead_115 (j_cst rfl) ?_
        exact s_zret dX8_isAhead_116 rfl (Or.inl rfl) H
      · have H := H.2 hc
        refine s_iconst (pc := 111) dX8_isAhead_111 (j_cst rfl) ?_
        refine s_goto (pc := 112) (tgt := 116) dX8_isAhead_112 (by decide) ?_
        exact s_zret dX8_isAhead_116 rfl (Or.inr rfl) H
theorem en_X8_layOrder_0 {x1 : Int} {h : jH} {post : jQ} (k : ∀ G, WV Sm G M_X8_layOrder post 0 [jR 0, jI x1, jU, jU, jU] [] h) : CT Sm M_X8_layOrder [jR 0, jI x1] h post := CT.of (by decide +kernel) (by simp [j_un]) (Nat.le_of_ble_eq_true rfl) _ rfl k
set_option maxRecDepth 20000 in
theorem vc_X8_layOrder_0_0 {G : jG} {Q : jQ} {x1 : Int} {h : jH}
    (H : WV Sm G M_X8_layOrder Q 2 [jR 0, jI x1, jI 0, jU, jU] [] h) :
    WV Sm G M_X8_layOrder Q 0 [jR 0, jI x1, jU, jU, jU] [] h := by
  refine s_iconst (pc := 0) dX8_layOrder_0 (j_cst rfl) ?_
  refine s_istore_n (pc := 1) (lv' := [jR 0, jI x1, jI 0, jU, jU]) dX8_layOrder_1 (by decide) rfl ?_
  exact H
set_option maxRecDepth 20000 in
theorem vc_X8_layOrder_0_2 {G : jG} {Q : jQ} {x1 x2 : Int} {u3 u4 : jV} {h : jH}
    (H : ((h.1 0 15) ≤ x2 → Q none h) ∧ (¬ (h.1 0 15) ≤ x2 → WV Sm G M_X8_layOrder Q 15 [jR 0, jI x1, jI x2, jI 0, jI 0] [] h)) :
    WV Sm G M_X8_layOrder Q 2 [jR 0, jI x1, jI x2, u3, u4] [] h := by
  refine s_iload_n (pc := 2) dX8_layOrder_2 rfl ?_
  refine s_aload_n (pc := 3) dX8_layOrder_3 rfl ?_
  refine s_geti (pc := 4) (x := h.1 0 15) dX8_layOrder_4 fl_X8_57 cSm_0 rfl rfl ?_
  refine s_icmp_ge (pc := 7) (tgt := 68) dX8_layOrder_7 (by decide) (fun hc => ?_) (fun hc => ?_)
  · have H := H.1 hc
    exact s_vret dX8_layOrder_68 rfl H
  · have H := H.2 hc
    refine s_iconst (pc := 10) dX8_layOrder_10 (j_cst rfl) ?_
    refine s_istore_n (pc := 11) (lv' := [jR 0, jI x1, jI x2, jI 0, u4]) dX8_layOrder_11 (by decide) rfl ?_
    refine s_iconst (pc := 12) dX8_layOrder_12 (j_cst rfl) ?_
    refine s_istore (pc := 13) (lv' := [jR 0, jI x1, jI x2, jI 0, jI 0]) dX8_layOrder_13 (by decide) rfl ?_
    exact H
set_option maxRecDepth 20000 in
theorem vc_X8_layOrder_0_15 {G : jG} {Q : jQ} {x1 x2 x3 x4 : Int} {h : jH}
    (H : ((h.1 0 15) ≤ x4 → (0 ≤ x3 ∧ x3 < 7) ∧ ((j_rg (x2 + 1)) ∧ (WV Sm G M_X8_layOrder Q 2 [jR 0, jI x1, jI (x2 + 1), jI x3, jI x4] [] (j_up h 10 (Int.toNat x3) x2)))) ∧ (¬ (h.1 0 15) ≤ x4 → (x4 = x2 → (j_rg (x3 + 0)) ∧ ((j_rg (x4 + 1)) ∧ (WV Sm G M_X8_layOrder Q 15 [jR 0, jI x1, jI x2, jI (x3 + 0), jI (x4 + 1)] [] h))) ∧ (¬ x4 = x2 → ∃ post : Int → jH → Prop, CT Sm M_X8_isAhead [jR 0, jI x4, jI x2, jI x1] h (jPi post) ∧ ∀ (r5 : Int) (h6 : jH), post r5 h6 → ((r5 = 0 → (j_rg (x3 + 0)) ∧ ((j_rg (x4 + 1)) ∧ (WV Sm G M_X8_layOrder Q 15 [jR 0, jI x1, jI x2, jI (x3 + 0), jI (x4 + 1)] [] h6))) ∧ (¬ r5 = 0 → (j_rg (x3 + 1)) ∧ ((j_rg (x4 + 1)) ∧ (WV Sm G M_X8_layOrder Q 15 [jR 0, jI x1, jI x2, jI (x3 + 1), jI (x4 + 1)] [] h6))))))) :
    WV Sm G M_X8_layOrder Q 15 [jR 0, jI x1, jI x2, jI x3, jI x4] [] h := by
  refine s_iload (pc := 15) dX8_layOrder_15 rfl ?_
  refine s_aload_n (pc := 17) dX8_layOrder_17 rfl ?_
  refine s_geti (pc := 18) (x := h.1 0 15) dX8_layOrder_18 fl_X8_57 cSm_0 rfl rfl ?_
  refine s_icmp_ge (pc := 21) (tgt := 55) dX8_layOrder_21 (by decide) (fun hc => ?_) (fun hc => ?_)
  · have H := H.1 hc
    refine s_aload_n (pc := 55) dX8_layOrder_55 rfl ?_
    refine s_getr (pc := 56) dX8_layOrder_56 fl_X8_45 cSm_0 rfl ?_
    refine s_iload_n (pc := 59) dX8_layOrder_59 rfl ?_
    refine s_iload_n (pc := 60) dX8_layOrder_60 rfl ?_
    obtain ⟨k1, H⟩ := H
    refine s_iast (pc := 61) dX8_layOrder_61 cSm_10 k1 ?_
    obtain ⟨k2, H⟩ := H
    refine s_iinc (pc := 62) (lv' := [jR 0, jI x1, jI (x2 + 1), jI x3, jI x4]) dX8_layOrder_62 rfl (by decide) k2 rfl ?_
    refine s_goto (pc := 65) (tgt := 2) dX8_layOrder_65 (by decide) ?_
    exact H
  · have H := H.2 hc
    refine s_iload_n (pc := 24) dX8_layOrder_24 rfl ?_
    refine s_iload (pc := 25) dX8_layOrder_25 rfl ?_
    refine s_iload_n (pc := 27) dX8_layOrder_27 rfl ?_
    refine s_icmp_eq (pc := 28) (tgt := 46) dX8_layOrder_28 (by decide) (fun hc => ?_) (fun hc => ?_)
    · have H := H.1 hc
      refine s_iconst (pc := 46) dX8_layOrder_46 (j_cst rfl) ?_
      obtain ⟨k3, H⟩ := H
      refine s_iadd (pc := 47) dX8_layOrder_47 k3 ?_
      refine s_istore_n (pc := 48) (lv' := [jR 0, jI x1, jI x2, jI (x3 + 0), jI x4]) dX8_layOrder_48 (by decide) rfl ?_
      obtain ⟨k4, H⟩ := H
      refine s_iinc (pc := 49) (lv' := [jR 0, jI x1, jI x2, jI (x3 + 0), jI (x4 + 1)]) dX8_layOrder_49 rfl (by decide) k4 rfl ?_
      refine s_goto (pc := 52) (tgt := 15) dX8_layOrder_52 (by decide) ?_
      exact H
    · have H := H.2 hc
      refine s_aload_n (pc := 31) dX8_layOrder_31 rfl ?_
      refine s_iload (pc := 32) dX8_layOrder_32 rfl ?_
      refine s_iload_n (pc := 34) dX8_layOrder_34 rfl ?_
      refine s_iload_n (pc := 35) dX8_layOrder_35 rfl ?_
      obtain ⟨post, hct, H⟩ := H
      refine s_callV (pc := 36) (as := [jI x4, jI x2, jI x1]) (st := [jI x3]) (by exact dX8_layOrder_36) mv_X8_187 ⟨rfl, rfl, Nat.le_of_ble_eq_true rfl, Nat.le_of_ble_eq_true rfl⟩ cSm_0 rfl rfl (Nat.le_of_ble_eq_true rfl) _ rfl hct (fun r5 h6 hp => ?_)
      obtain ⟨r5, rfl, hp⟩ := hp
      have H := H r5 h6 hp
      show WV _ _ _ _ 39 [jR 0, jI x1, jI x2, jI x3, jI x4] [jI r5, jI x3] h6
      refine s_if_eq (pc := 39) (tgt := 46) dX8_layOrder_39 (by decide) (fun hc => ?_) (fun hc => ?_)
      · have H := H.1 hc
        refine s_iconst (pc := 46) dX8_layOrder_46 (j_cst rfl) ?_
        obtain ⟨k7, H⟩ := H
        refine s_iadd (pc := 47) dX8_layOrder_47 k7 ?_
        refine s_istore_n (pc := 48) (lv' := [jR 0, jI x1, jI x2, jI (x3 + 0), jI x4]) dX8_layOrder_48 (by decide) rfl ?_
        obtain ⟨k8, H⟩ := H
        refine s_iinc (pc := 49) (lv' := [jR 0, jI x1, jI x2, jI (x3 + 0), jI (x4 + 1)]) dX8_layOrder_49 rfl (by decide) k8 rfl ?_
        refine s_goto (pc := 52) (tgt := 15) dX8_layOrder_52 (by decide) ?_
        exact H
      · have H := H.2 hc
        refine s_iconst (pc := 42) dX8_layOrder_42 (j_cst rfl) ?_
        refine s_goto (pc := 43) (tgt := 47) dX8_layOrder_43 (by decide) ?_
        obtain ⟨k9, H⟩ := H
        refine s_iadd (pc := 47) dX8_layOrder_47 k9 ?_
        refine s_istore_n (pc := 48) (lv' := [jR 0, jI x1, jI x2, jI (x3 + 1), jI x4]) dX8_layOrder_48 (by decide) rfl ?_
        obtain ⟨k10, H⟩ := H
        refine s_iinc (pc := 49) (lv' := [jR 0, jI x1, jI x2, jI (x3 + 1), jI (x4 + 1)]) dX8_layOrder_49 rfl (by decide) k10 rfl ?_
        refine s_goto (pc := 52) (tgt := 15) dX8_layOrder_52 (by decide) ?_
        exact H
theorem en_X8_pass_0_6 {h : jH} {post : jQ} (k : ∀ G, WV Sm G M_X8_pass post 0 [jR 0, jR 6, jU] [] h) : CT Sm M_X8_pass [jR 0, jR 6] h post := CT.of (by decide +kernel) (by simp [j_un]) (Nat.le_of_ble_eq_true rfl) _ rfl k
set_option maxRecDepth 20000 in
theorem vc_X8_pass_0_6_0 {G : jG} {Q : jQ} {h : jH}
    (H : WV Sm G M_X8_pass Q 2 [jR 0, jR 6, jI 0] [] h) :
    WV Sm G M_X8_pass Q 0 [jR 0, jR 6, jU] [] h := by
  refine s_iconst (pc := 0) dX8_pass_0 (j_cst rfl) ?_
  refine s_istore_n (pc := 1) (lv' := [jR 0, jR 6, jI 0]) dX8_pass_1 (by decide) rfl ?_
  exact H
set_option maxRecDepth 20000 in
theorem vc_X8_pass_0_6_2 {G : jG} {Q : jQ} {x2 : Int} {h : jH}
    (H : ((h.1 0 15) ≤ x2 → (j_rg ((h.1 6 0) + 1)) ∧ (WV Sm G M_X8_pass Q 92 [jR 0, jR 6, jI 0] [] (j_up h 6 0 ((h.1 6 0) + 1)))) ∧ (¬ (h.1 0 15) ≤ x2 → (j_rg (7 + x2)) ∧ ((0 ≤ 7 + x2 ∧ 7 + x2 < 28) ∧ (((h.1 6 (Int.toNat (7 + x2))) = 2 → (j_rg (14 + x2)) ∧ ((0 ≤ 14 + x2 ∧ 14 + x2 < 28) ∧ ((j_rg ((h.1 6 (Int.toNat (14 + x2))) - 1)) ∧ ((((h.1 6 (Int.toNat (14 + x2))) - 1) = 0 → (j_rg (x2 + 1)) ∧ (WV Sm G M_X8_pass Q 2 [jR 0, jR 6, jI (x2 + 1)] [] (j_up (j_up h 6 (Int.toNat (14 + x2)) ((h.1 6 (Int.toNat (14 + x2))) - 1)) 6 (Int.toNat (7 + x2)) 3))) ∧ (¬ ((h.1 6 (Int.toNat (14 + x2))) - 1) = 0 → (j_rg (x2 + 1)) ∧ (WV Sm G M_X8_pass Q 2 [jR 0, jR 6, jI (x2 + 1)] [] (j_up (j_up h 6 (Int.toNat (14 + x2)) ((h.1 6 (Int.toNat (14 + x2))) - 1)) 6 (Int.toNat (7 + x2)) 2))))))) ∧ (¬ (h.1 6 (Int.toNat (7 + x2))) = 2 → (j_rg (21 + x2)) ∧ ((0 ≤ 21 + x2 ∧ 21 + x2 < 28) ∧ (((h.1 6 (Int.toNat (7 + x2))) = 1 → (j_rg ((h.1 6 (Int.toNat (21 + x2))) + 1)) ∧ ((j_rg (x2 + 1)) ∧ (WV Sm G M_X8_pass Q 2 [jR 0, jR 6, jI (x2 + 1)] [] (j_up h 6 (Int.toNat (21 + x2)) ((h.1 6 (Int.toNat (21 + x2))) + 1))))) ∧ (¬ (h.1 6 (Int.toNat (7 + x2))) = 1 → (j_rg ((h.1 6 (Int.toNat (21 + x2))) + 0)) ∧ ((j_rg (x2 + 1)) ∧ (WV Sm G M_X8_pass Q 2 [jR 0, jR 6, jI (x2 + 1)] [] (j_up h 6 (Int.toNat (21 + x2)) ((h.1 6 (Int.toNat (21 + x2))) + 0)))))))))))) :
    WV Sm G M_X8_pass Q 2 [jR 0, jR 6, jI x2] [] h := by
  refine s_iload_n (pc := 2) dX8_pass_2 rfl ?_
  refine s_aload_n (pc := 3) dX8_pass_3 rfl ?_
  refine s_geti (pc := 4) (x := h.1 0 15) dX8_pass_4 fl_X8_57 cSm_0 rfl rfl ?_
  refine s_icmp_ge (pc := 7) (tgt := 83) dX8_pass_7 (by decide) (fun hc => ?_) (fun hc => ?_)
  · have H := H.1 hc
    refine s_aload_n (pc := 83) dX8_pass_83 rfl ?_
    refine s_iconst (pc := 84) dX8_pass_84 (j_cst rfl) ?_
    refine s_dup2 (pc := 85) dX8_pass_85 rfl rfl ?_
    refine s_iald (pc := 86) (x := h.1 6 0) dX8_pass_86 cSm_6 ⟨by decide, by decide⟩ rfl ?_
    refine s_iconst (pc := 87) dX8_pass_87 (j_cst rfl) ?_
    obtain ⟨k1, H⟩ := H
    refine s_iadd (pc := 88) dX8_pass_88 k1 ?_
    refine s_iast (pc := 89) dX8_pass_89 cSm_6 ⟨by decide, by decide⟩ ?_
    refine s_iconst (pc := 90) dX8_pass_90 (j_cst rfl) ?_
    refine s_istore_n (pc := 91) (lv' := [jR 0, jR 6, jI 0]) dX8_pass_91 (by decide) rfl ?_
    exact H
  · have H := H.2 hc
    refine s_aload_n (pc := 10) dX8_pass_10 rfl ?_
    refine s_bipush (pc := 11) dX8_pass_11 rfl (j_cst rfl) ?_
    refine s_iload_n (pc := 13) dX8_pass_13 rfl ?_
    obtain ⟨k2, H⟩ := H
    refine s_iadd (pc := 14) dX8_pass_14 k2 ?_
    obtain ⟨k3, H⟩ := H
    refine s_iald (pc := 15) (x := h.1 6 (Int.toNat (7 + x2))) dX8_pass_15 cSm_6 k3 rfl ?_
    refine s_iconst (pc := 16) dX8_pass_16 (j_cst rfl) ?_
    refine s_icmp_ne (pc := 17) (tgt := 53) dX8_pass_17 (by decide) (fun hc => ?_) (fun hc => ?_)
    · have H := H.2 hc
      refine s_aload_n (pc := 53) dX8_pass_53 rfl ?_
      refine s_bipush (pc := 54) dX8_pass_54 rfl (j_cst rfl) ?_
      refine s_iload_n (pc := 56) dX8_pass_56 rfl ?_
      obtain ⟨k4, H⟩ := H
      refine s_iadd (pc := 57) dX8_pass_57 k4 ?_
      refine s_dup2 (pc := 58) dX8_pass_58 rfl rfl ?_
      obtain ⟨k5, H⟩ := H
      refine s_iald (pc := 59) (x := h.1 6 (Int.toNat (21 + x2))) dX8_pass_59 cSm_6 k5 rfl ?_
      refine s_aload_n (pc := 60) dX8_pass_60 rfl ?_
      refine s_bipush (pc := 61) dX8_pass_61 rfl (j_cst rfl) ?_
      refine s_iload_n (pc := 63) dX8_pass_63 rfl ?_
      refine s_iadd (pc := 64) dX8_pass_64 k2 ?_
      refine s_iald (pc := 65) (x := h.1 6 (Int.toNat (7 + x2))) dX8_pass_65 cSm_6 k3 rfl ?_
      refine s_iconst (pc := 66) dX8_pass_66 (j_cst rfl) ?_
      refine s_icmp_ne (pc := 67) (tgt := 74) dX8_pass_67 (by decide) (fun hc => ?_) (fun hc => ?_)
      · have H := H.2 hc
        refine s_iconst (pc := 74) dX8_pass_74 (j_cst rfl) ?_
        obtain ⟨k6, H⟩ := H
        refine s_iadd (pc := 75) dX8_pass_75 k6 ?_
        refine s_iast (pc := 76) dX8_pass_76 cSm_6 k5 ?_
        obtain ⟨k7, H⟩ := H
        refine s_iinc (pc := 77) (lv' := [jR 0, jR 6, jI (x2 + 1)]) dX8_pass_77 rfl (by decide) k7 rfl ?_
        refine s_goto (pc := 80) (tgt := 2) dX8_pass_80 (by decide) ?_
        exact H
      · have H := H.1 hc
        refine s_iconst (pc := 70) dX8_pass_70 (j_cst rfl) ?_
        refine s_goto (pc := 71) (tgt := 75) dX8_pass_71 (by decide) ?_
        obtain ⟨k8, H⟩ := H
        refine s_iadd (pc := 75) dX8_pass_75 k8 ?_
        refine s_iast (pc := 76) dX8_pass_76 cSm_6 k5 ?_
        obtain ⟨k9, H⟩ := H
        refine s_iinc (pc := 77) (lv' := [jR 0, jR 6, jI (x2 + 1)]) dX8_pass_77 rfl (by decide) k9 rfl ?_
        refine s_goto (pc := 80) (tgt := 2) dX8_pass_80 (by decide) ?_
        exact H
    · have H := H.1 hc
      refine s_aload_n (pc := 20) dX8_pass_20 rfl ?_
      refine s_bipush (pc := 21) dX8_pass_21 rfl (j_cst rfl) ?_
      refine s_iload_n (pc := 23) dX8_pass_23 rfl ?_
      obtain ⟨k10, H⟩ := H
      refine s_iadd (pc := 24) dX8_pass_24 k10 ?_
      refine s_dup2 (pc := 25) dX8_pass_25 rfl rfl ?_
      obtain ⟨k11, H⟩ := H
      refine s_iald (pc := 26) (x := h.1 6 (Int.toNat (14 + x2))) dX8_pass_26 cSm_6 k11 rfl ?_
      refine s_iconst (pc := 27) dX8_pass_27 (j_cst rfl) ?_
      obtain ⟨k12, H⟩ := H
      refine s_isub (pc := 28) dX8_pass_28 k12 ?_
      refine s_iast (pc := 29) dX8_pass_29 cSm_6 k11 ?_
      refine s_aload_n (pc := 30) dX8_pass_30 rfl ?_
      refine s_bipush (pc := 31) dX8_pass_31 rfl (j_cst rfl) ?_
      refine s_iload_n (pc := 33) dX8_pass_33 rfl ?_
      refine s_iadd (pc := 34) dX8_pass_34 k2 ?_
      refine s_aload_n (pc := 35) dX8_pass_35 rfl ?_
      refine s_bipush (pc := 36) dX8_pass_36 rfl (j_cst rfl) ?_
      refine s_iload_n (pc := 38) dX8_pass_38 rfl ?_
      refine s_iadd (pc := 39) dX8_pass_39 k10 ?_
      refine s_iald (pc := 40) (x := (h.1 6 (Int.toNat (14 + x2))) - 1) dX8_pass_40 cSm_6 k11 (by simp [j_up]) ?_
      refine s_if_ne (pc := 41) (tgt := 48) dX8_pass_41 (by decide) (fun hc => ?_) (fun hc => ?_)
      · have H := H.2 hc
        refine s_iconst (pc := 48) dX8_pass_48 (j_cst rfl) ?_
        refine s_iast (pc := 49) dX8_pass_49 cSm_6 k3 ?_
        refine s_goto (pc := 50) (tgt := 77) dX8_pass_50 (by decide) ?_
        obtain ⟨k13, H⟩ := H
        refine s_iinc (pc := 77) (lv' := [jR 0, jR 6, jI (x2 + 1)]) dX8_pass_77 rfl (by decide) k13 rfl ?_
        refine s_goto (pc := 80) (tgt := 2) dX8_pass_80 (by decide) ?_
        exact H
      · have H := H.1 hc
        refine s_iconst (pc := 44) dX8_pass_44 (j_cst rfl) ?_
        refine s_goto (pc := 45) (tgt := 49) dX8_pass_45 (by decide) ?_
        refine s_iast (pc := 49) dX8_pass_49 cSm_6 k3 ?_
        refine s_goto (pc := 50) (tgt := 77) dX8_pass_50 (by decide) ?_
        obtain ⟨k14, H⟩ := H
        refine s_iinc (pc := 77) (lv' := [jR 0, jR 6, jI (x2 + 1)]) dX8_pass_77 rfl (by decide) k14 rfl ?_
        refine s_goto (pc := 80) (tgt := 2) dX8_pass_80 (by decide) ?_
        exact H
set_option maxRecDepth 20000 in
theorem vc_X8_pass_0_6_92 {G : jG} {Q : jQ} {x2 : Int} {h : jH}
    (H : ((h.1 0 15) ≤ x2 → Q none h) ∧ (¬ (h.1 0 15) ≤ x2 → (j_rg (7 + x2)) ∧ ((0 ≤ 7 + x2 ∧ 7 + x2 < 28) ∧ (((h.1 6 (Int.toNat (7 + x2))) = 0 → (j_rg (5 * x2)) ∧ ((0 ≤ 5 * x2 ∧ 5 * x2 < 35) ∧ (((h.1 4 (Int.toNat (5 * x2))) = (h.1 6 0) → (j_rg (x2 + 1)) ∧ (WV Sm G M_X8_pass Q 92 [jR 0, jR 6, jI (x2 + 1)] [] (j_up h 6 (Int.toNat (7 + x2)) 1))) ∧ (¬ (h.1 4 (Int.toNat (5 * x2))) = (h.1 6 0) → (j_rg (x2 + 1)) ∧ (WV Sm G M_X8_pass Q 92 [jR 0, jR 6, jI (x2 + 1)] [] (j_up h 6 (Int.toNat (7 + x2)) (h.1 6 (Int.toNat (7 + x2))))))))) ∧ (¬ (h.1 6 (Int.toNat (7 + x2))) = 0 → (j_rg (x2 + 1)) ∧ (WV Sm G M_X8_pass Q 92 [jR 0, jR 6, jI (x2 + 1)] [] (j_up h 6 (Int.toNat (7 + x2)) (h.1 6 (Int.toNat (7 + x2)))))))))) :
    WV Sm G M_X8_pass Q 92 [jR 0, jR 6, jI x2] [] h := by
  refine s_iload_n (pc := 92) dX8_pass_92 rfl ?_
  refine s_aload_n (pc := 93) dX8_pass_93 rfl ?_
  refine s_geti (pc := 94) (x := h.1 0 15) dX8_pass_94 fl_X8_57 cSm_0 rfl rfl ?_
  refine s_icmp_ge (pc := 97) (tgt := 145) dX8_pass_97 (by decide) (fun hc => ?_) (fun hc => ?_)
  · have H := H.1 hc
    exact s_vret dX8_pass_145 rfl H
  · have H := H.2 hc
    refine s_aload_n (pc := 100) dX8_pass_100 rfl ?_
    refine s_bipush (pc := 101) dX8_pass_101 rfl (j_cst rfl) ?_
    refine s_iload_n (pc := 103) dX8_pass_103 rfl ?_
    obtain ⟨k1, H⟩ := H
    refine s_iadd (pc := 104) dX8_pass_104 k1 ?_
    refine s_aload_n (pc := 105) dX8_pass_105 rfl ?_
    refine s_bipush (pc := 106) dX8_pass_106 rfl (j_cst rfl) ?_
    refine s_iload_n (pc := 108) dX8_pass_108 rfl ?_
    refine s_iadd (pc := 109) dX8_pass_109 k1 ?_
    obtain ⟨k2, H⟩ := H
    refine s_iald (pc := 110) (x := h.1 6 (Int.toNat (7 + x2))) dX8_pass_110 cSm_6 k2 rfl ?_
    refine s_if_ne (pc := 111) (tgt := 132) dX8_pass_111 (by decide) (fun hc => ?_) (fun hc => ?_)
    · have H := H.2 hc
      refine s_aload_n (pc := 132) dX8_pass_132 rfl ?_
      refine s_bipush (pc := 133) dX8_pass_133 rfl (j_cst rfl) ?_
      refine s_iload_n (pc := 135) dX8_pass_135 rfl ?_
      refine s_iadd (pc := 136) dX8_pass_136 k1 ?_
      refine s_iald (pc := 137) (x := h.1 6 (Int.toNat (7 + x2))) dX8_pass_137 cSm_6 k2 rfl ?_
      refine s_iast (pc := 138) dX8_pass_138 cSm_6 k2 ?_
      obtain ⟨k3, H⟩ := H
      refine s_iinc (pc := 139) (lv' := [jR 0, jR 6, jI (x2 + 1)]) dX8_pass_139 rfl (by decide) k3 rfl ?_
      refine s_goto (pc := 142) (tgt := 92) dX8_pass_142 (by decide) ?_
      exact H
    · have H := H.1 hc
      refine s_aload_n (pc := 114) dX8_pass_114 rfl ?_
      refine s_getr (pc := 115) dX8_pass_115 fl_X8_26 cSm_0 rfl ?_
      refine s_iconst (pc := 118) dX8_pass_118 (j_cst rfl) ?_
      refine s_iload_n (pc := 119) dX8_pass_119 rfl ?_
      obtain ⟨k4, H⟩ := H
      refine s_imul (pc := 120) dX8_pass_120 k4 ?_
      obtain ⟨k5, H⟩ := H
      refine s_iald (pc := 121) (x := h.1 4 (Int.toNat (5 * x2))) dX8_pass_121 cSm_4 k5 rfl ?_
      refine s_aload_n (pc := 122) dX8_pass_122 rfl ?_
      refine s_iconst (pc := 123) dX8_pass_123 (j_cst rfl) ?_
      refine s_iald (pc := 124) (x := h.1 6 0) dX8_pass_124 cSm_6 ⟨by decide, by decide⟩ rfl ?_
      refine s_icmp_ne (pc := 125) (tgt := 132) dX8_pass_125 (by decide) (fun hc => ?_) (fun hc => ?_)
      · have H := H.2 hc
        refine s_aload_n (pc := 132) dX8_pass_132 rfl ?_
        refine s_bipush (pc := 133) dX8_pass_133 rfl (j_cst rfl) ?_
        refine s_iload_n (pc := 135) dX8_pass_135 rfl ?_
        refine s_iadd (pc := 136) dX8_pass_136 k1 ?_
        refine s_iald (pc := 137) (x := h.1 6 (Int.toNat (7 + x2))) dX8_pass_137 cSm_6 k2 rfl ?_
        refine s_iast (pc := 138) dX8_pass_138 cSm_6 k2 ?_
        obtain ⟨k6, H⟩ := H
        refine s_iinc (pc := 139) (lv' := [jR 0, jR 6, jI (x2 + 1)]) dX8_pass_139 rfl (by decide) k6 rfl ?_
        refine s_goto (pc := 142) (tgt := 92) dX8_pass_142 (by decide) ?_
        exact H
      · have H := H.1 hc
        refine s_iconst (pc := 128) dX8_pass_128 (j_cst rfl) ?_
        refine s_goto (pc := 129) (tgt := 138) dX8_pass_129 (by decide) ?_
        refine s_iast (pc := 138) dX8_pass_138 cSm_6 k2 ?_
        obtain ⟨k7, H⟩ := H
        refine s_iinc (pc := 139) (lv' := [jR 0, jR 6, jI (x2 + 1)]) dX8_pass_139 rfl (by decide) k7 rfl ?_
        refine s_goto (pc := 142) (tgt := 92) dX8_pass_142 (by decide) ?_
        exact H
