theorem en_X8_talkerOn_0_6 {x2 : Int} {h : jH} {post : jQ} (k : ∀ G, WV Sm G M_X8_talkerOn post 0 [jR 0, jR 6, jI x2, jU, jU] [] h) : CT Sm M_X8_talkerOn [jR 0, jR 6, jI x2] h post := CT.of (by decide +kernel) (by simp [j_un]) (Nat.le_of_ble_eq_true rfl) _ rfl k
set_option maxRecDepth 20000 in
theorem vc_X8_talkerOn_0_6_0 {G : jG} {Q : jQ} {x2 : Int} {h : jH}
    (H : WV Sm G M_X8_talkerOn Q 6 [jR 0, jR 6, jI x2, jI (-9), jI 0] [] h) :
    WV Sm G M_X8_talkerOn Q 0 [jR 0, jR 6, jI x2, jU, jU] [] h := by
  refine s_bipush (pc := 0) dX8_talkerOn_0 rfl (j_cst rfl) ?_
  refine s_istore_n (pc := 2) (lv' := [jR 0, jR 6, jI x2, jI (-9), jU]) dX8_talkerOn_2 (by decide) rfl ?_
  refine s_iconst (pc := 3) dX8_talkerOn_3 (j_cst rfl) ?_
  refine s_istore (pc := 4) (lv' := [jR 0, jR 6, jI x2, jI (-9), jI 0]) dX8_talkerOn_4 (by decide) rfl ?_
  exact H
set_option maxRecDepth 20000 in
theorem vc_X8_talkerOn_0_6_6 {G : jG} {Q : jQ} {x2 x3 x4 : Int} {h : jH}
    (H : ((h.1 0 15) ≤ x4 → Q (some (jI x3)) h) ∧ (¬ (h.1 0 15) ≤ x4 → (j_rg (7 + x4)) ∧ ((0 ≤ 7 + x4 ∧ 7 + x4 < 28) ∧ (((h.1 6 (Int.toNat (7 + x4))) = 2 → ∃ post : Int → jH → Prop, CT Sm M_X8_isOn [jR 0, jI x4, jI x2] h (jPi post) ∧ ∀ (r4 : Int) (h5 : jH), post r4 h5 → ((r4 = 0 → (j_rg (x4 + 1)) ∧ (WV Sm G M_X8_talkerOn Q 6 [jR 0, jR 6, jI x2, jI x3, jI (x4 + 1)] [] h5)) ∧ (¬ r4 = 0 → (j_rg (x4 + 1)) ∧ (WV Sm G M_X8_talkerOn Q 6 [jR 0, jR 6, jI x2, jI x4, jI (x4 + 1)] [] h5)))) ∧ (¬ (h.1 6 (Int.toNat (7 + x4))) = 2 → (j_rg (x4 + 1)) ∧ (WV Sm G M_X8_talkerOn Q 6 [jR 0, jR 6, jI x2, jI x3, jI (x4 + 1)] [] h)))))) :
    WV Sm G M_X8_talkerOn Q 6 [jR 0, jR 6, jI x2, jI x3, jI x4] [] h := by
  refine s_iload (pc := 6) dX8_talkerOn_6 rfl ?_
  refine s_aload_n (pc := 8) dX8_talkerOn_8 rfl ?_
  refine s_geti (pc := 9) (x := h.1 0 15) dX8_talkerOn_9 fl_X8_57 cSm_0 rfl rfl ?_
  refine s_icmp_ge (pc := 12) (tgt := 49) dX8_talkerOn_12 (by decide) (fun hc => ?_) (fun hc => ?_)
  · have H := H.1 hc
    refine s_iload_n (pc := 49) dX8_talkerOn_49 rfl ?_
    exact s_iret dX8_talkerOn_50 rfl H
  · have H := H.2 hc
    refine s_aload_n (pc := 15) dX8_talkerOn_15 rfl ?_
    refine s_bipush (pc := 16) dX8_talkerOn_16 rfl (j_cst rfl) ?_
    refine s_iload (pc := 18) dX8_talkerOn_18 rfl ?_
    obtain ⟨k1, H⟩ := H
    refine s_iadd (pc := 20) dX8_talkerOn_20 k1 ?_
    obtain ⟨k2, H⟩ := H
    refine s_iald (pc := 21) (x := h.1 6 (Int.toNat (7 + x4))) dX8_talkerOn_21 cSm_6 k2 rfl ?_
    refine s_iconst (pc := 22) dX8_talkerOn_22 (j_cst rfl) ?_
    refine s_icmp_ne (pc := 23) (tgt := 41) dX8_talkerOn_23 (by decide) (fun hc => ?_) (fun hc => ?_)
    · have H := H.2 hc
      refine s_iload_n (pc := 41) dX8_talkerOn_41 rfl ?_
      refine s_istore_n (pc := 42) (lv' := [jR 0, jR 6, jI x2, jI x3, jI x4]) dX8_talkerOn_42 (by decide) rfl ?_
      obtain ⟨k3, H⟩ := H
      refine s_iinc (pc := 43) (lv' := [jR 0, jR 6, jI x2, jI x3, jI (x4 + 1)]) dX8_talkerOn_43 rfl (by decide) k3 rfl ?_
      refine s_goto (pc := 46) (tgt := 6) dX8_talkerOn_46 (by decide) ?_
      exact H
    · have H := H.1 hc
      refine s_aload_n (pc := 26) dX8_talkerOn_26 rfl ?_
      refine s_iload (pc := 27) dX8_talkerOn_27 rfl ?_
      refine s_iload_n (pc := 29) dX8_talkerOn_29 rfl ?_
      obtain ⟨post, hct, H⟩ := H
      refine s_callV (pc := 30) (as := [jI x4, jI x2]) (st := []) (by exact dX8_talkerOn_30) mv_X8_128 ⟨rfl, rfl, Nat.le_of_ble_eq_true rfl, Nat.le_of_ble_eq_true rfl⟩ cSm_0 rfl rfl (Nat.le_of_ble_eq_true rfl) _ rfl hct (fun r4 h5 hp => ?_)
      obtain ⟨r4, rfl, hp⟩ := hp
      have H := H r4 h5 hp
      show WV _ _ _ _ 33 [jR 0, jR 6, jI x2, jI x3, jI x4] [jI r4] h5
      refine s_if_eq (pc := 33) (tgt := 41) dX8_talkerOn_33 (by decide) (fun hc => ?_) (fun hc => ?_)
      · have H := H.1 hc
        refine s_iload_n (pc := 41) dX8_talkerOn_41 rfl ?_
        refine s_istore_n (pc := 42) (lv' := [jR 0, jR 6, jI x2, jI x3, jI x4]) dX8_talkerOn_42 (by decide) rfl ?_
        obtain ⟨k6, H⟩ := H
        refine s_iinc (pc := 43) (lv' := [jR 0, jR 6, jI x2, jI x3, jI (x4 + 1)]) dX8_talkerOn_43 rfl (by decide) k6 rfl ?_
        refine s_goto (pc := 46) (tgt := 6) dX8_talkerOn_46 (by decide) ?_
        exact H
      · have H := H.2 hc
        refine s_iload (pc := 36) dX8_talkerOn_36 rfl ?_
        refine s_goto (pc := 38) (tgt := 42) dX8_talkerOn_38 (by decide) ?_
        refine s_istore_n (pc := 42) (lv' := [jR 0, jR 6, jI x2, jI x4, jI x4]) dX8_talkerOn_42 (by decide) rfl ?_
        obtain ⟨k7, H⟩ := H
        refine s_iinc (pc := 43) (lv' := [jR 0, jR 6, jI x2, jI x4, jI (x4 + 1)]) dX8_talkerOn_43 rfl (by decide) k7 rfl ?_
        refine s_goto (pc := 46) (tgt := 6) dX8_talkerOn_46 (by decide) ?_
        exact H
theorem en_X8_areFree_0_6 {x2 : Int} {h : jH} {post : jQ} (k : ∀ G, WV Sm G M_X8_areFree post 0 [jR 0, jR 6, jI x2] [] h) : CT Sm M_X8_areFree [jR 0, jR 6, jI x2] h post := CT.of (by decide +kernel) (by simp [j_un]) (Nat.le_of_ble_eq_true rfl) _ rfl k
set_option maxRecDepth 20000 in
theorem vc_X8_areFree_0_6_0 {G : jG} {Q : jQ} {x2 : Int} {h : jH}
    (H : ∃ post : Int → jH → Prop, CT Sm M_X8_fromOf [jR 0, jI x2] h (jPi post) ∧ ∀ (r1 : Int) (h2 : jH), post r1 h2 → (∃ post : Int → jH → Prop, CT Sm M_X8_talkerOn [jR 0, jR 6, jI r1] h2 (jPi post) ∧ ∀ (r3 : Int) (h4 : jH), post r3 h4 → ((r3 = (-9) → ∃ post : Int → jH → Prop, CT Sm M_X8_toOf [jR 0, jI x2] h4 (jPi post) ∧ ∀ (r5 : Int) (h6 : jH), post r5 h6 → (∃ post : Int → jH → Prop, CT Sm M_X8_talkerOn [jR 0, jR 6, jI r5] h6 (jPi post) ∧ ∀ (r7 : Int) (h8 : jH), post r7 h8 → ((r7 = (-9) → Q (some (jI 1)) h8) ∧ (¬ r7 = (-9) → Q (some (jI 0)) h8)))) ∧ (¬ r3 = (-9) → Q (some (jI 0)) h4)))) :
    WV Sm G M_X8_areFree Q 0 [jR 0, jR 6, jI x2] [] h := by
  refine s_aload_n (pc := 0) dX8_areFree_0 rfl ?_
  refine s_aload_n (pc := 1) dX8_areFree_1 rfl ?_
  refine s_aload_n (pc := 2) dX8_areFree_2 rfl ?_
  refine s_iload_n (pc := 3) dX8_areFree_3 rfl ?_
  obtain ⟨post, hct, H⟩ := H
  refine s_callV (pc := 4) (as := [jI x2]) (st := [jR 6, jR 0]) (by exact dX8_areFree_4) mv_X8_121 ⟨rfl, rfl, Nat.le_of_ble_eq_true rfl, Nat.le_of_ble_eq_true rfl⟩ cSm_0 rfl rfl (Nat.le_of_ble_eq_true rfl) _ rfl hct (fun r1 h2 hp => ?_)
  obtain ⟨r1, rfl, hp⟩ := hp
  have H := H r1 h2 hp
  show WV _ _ _ _ 7 [jR 0, jR 6, jI x2] [jI r1, jR 6, jR 0] h2
  obtain ⟨post, hct, H⟩ := H
  refine s_callV (pc := 7) (as := [jR 6, jI r1]) (st := []) (by exact dX8_areFree_7) mv_X8_138 ⟨rfl, rfl, Nat.le_of_ble_eq_true rfl, Nat.le_of_ble_eq_true rfl⟩ cSm_0 rfl rfl (Nat.le_of_ble_eq_true rfl) _ rfl hct (fun r3 h4 hp => ?_)
  obtain ⟨r3, rfl, hp⟩ := hp
  have H := H r3 h4 hp
  show WV _ _ _ _ 10 [jR 0, jR 6, jI x2] [jI r3] h4
  refine s_bipush (pc := 10) dX8_areFree_10 rfl (j_cst rfl) ?_
  refine s_icmp_ne (pc := 12) (tgt := 34) dX8_areFree_12 (by decide) (fun hc => ?_) (fun hc => ?_)
  · have H := H.2 hc
    refine s_iconst (pc := 34) dX8_areFree_34 (j_cst rfl) ?_
    exact s_zret dX8_areFree_35 rfl (Or.inl rfl) H
  · have H := H.1 hc
    refine s_aload_n (pc := 15) dX8_areFree_15 rfl ?_
    refine s_aload_n (pc := 16) dX8_areFree_16 rfl ?_
    refine s_aload_n (pc := 17) dX8_areFree_17 rfl ?_
    refine s_iload_n (pc := 18) dX8_areFree_18 rfl ?_
    obtain ⟨post, hct, H⟩ := H
    refine s_callV (pc := 19) (as := [jI x2]) (st := [jR 6, jR 0]) (by exact dX8_areFree_19) mv_X8_125 ⟨rfl, rfl, Nat.le_of_ble_eq_true rfl, Nat.le_of_ble_eq_true rfl⟩ cSm_0 rfl rfl (Nat.le_of_ble_eq_true rfl) _ rfl hct (fun r5 h6 hp => ?_)
    obtain ⟨r5, rfl, hp⟩ := hp
    have H := H r5 h6 hp
    show WV _ _ _ _ 22 [jR 0, jR 6, jI x2] [jI r5, jR 6, jR 0] h6
    obtain ⟨post, hct, H⟩ := H
    refine s_callV (pc := 22) (as := [jR 6, jI r5]) (st := []) (by exact dX8_areFree_22) mv_X8_138 ⟨rfl, rfl, Nat.le_of_ble_eq_true rfl, Nat.le_of_ble_eq_true rfl⟩ cSm_0 rfl rfl (Nat.le_of_ble_eq_true rfl) _ rfl hct (fun r7 h8 hp => ?_)
    obtain ⟨r7, rfl, hp⟩ := hp
    have H := H r7 h8 hp
    show WV _ _ _ _ 25 [jR 0, jR 6, jI x2] [jI r7] h8
    refine s_bipush (pc := 25) dX8_areFree_25 rfl (j_cst rfl) ?_
    refine s_icmp_ne (pc := 27) (tgt := 34) dX8_areFree_27 (by decide) (fun hc => ?_) (fun hc => ?_)
    · have H := H.2 hc
      refine s_iconst (pc := 34) dX8_areFree_34 (j_cst rfl) ?_
      exact s_zret dX8_areFree_35 rfl (Or.inl rfl) H
    · have H := H.1 hc
      refine s_iconst (pc := 30) dX8_areFree_30 (j_cst rfl) ?_
      refine s_goto (pc := 31) (tgt := 35) dX8_areFree_31 (by decide) ?_
      exact s_zret dX8_areFree_35 rfl (Or.inr rfl) H
theorem en_X8_setOf_0_6 {x2 : Int} {h : jH} {post : jQ} (k : ∀ G, WV Sm G M_X8_setOf post 0 [jR 0, jR 6, jI x2, jU, jU] [] h) : CT Sm M_X8_setOf [jR 0, jR 6, jI x2] h post := CT.of (by decide +kernel) (by simp [j_un]) (Nat.le_of_ble_eq_true rfl) _ rfl k
set_option maxRecDepth 20000 in
theorem vc_X8_setOf_0_6_0 {G : jG} {Q : jQ} {x2 : Int} {h : jH}
    (H : WV Sm G M_X8_setOf Q 5 [jR 0, jR 6, jI x2, jI 0, jI 0] [] h) :
    WV Sm G M_X8_setOf Q 0 [jR 0, jR 6, jI x2, jU, jU] [] h := by
  refine s_iconst (pc := 0) dX8_setOf_0 (j_cst rfl) ?_
  refine s_istore_n (pc := 1) (lv' := [jR 0, jR 6, jI x2, jI 0, jU]) dX8_setOf_1 (by decide) rfl ?_
  refine s_iconst (pc := 2) dX8_setOf_2 (j_cst rfl) ?_
  refine s_istore (pc := 3) (lv' := [jR 0, jR 6, jI x2, jI 0, jI 0]) dX8_setOf_3 (by decide) rfl ?_
  exact H
set_option maxRecDepth 20000 in
theorem vc_X8_setOf_0_6_5 {G : jG} {Q : jQ} {x2 x3 x4 : Int} {h : jH}
    (H : ((h.1 0 15) ≤ x4 → Q (some (jI x3)) h) ∧ (¬ (h.1 0 15) ≤ x4 → (j_rg (7 + x4)) ∧ ((0 ≤ 7 + x4 ∧ 7 + x4 < 28) ∧ (((h.1 6 (Int.toNat (7 + x4))) = x2 → (j_rg (x4 + 1)) ∧ (WV Sm G M_X8_setOf Q 5 [jR 0, jR 6, jI x2, jI (b_or x3 (b_shl 1 x4)), jI (x4 + 1)] [] h)) ∧ (¬ (h.1 6 (Int.toNat (7 + x4))) = x2 → (j_rg (x4 + 1)) ∧ (WV Sm G M_X8_setOf Q 5 [jR 0, jR 6, jI x2, jI (b_or x3 0), jI (x4 + 1)] [] h)))))) :
    WV Sm G M_X8_setOf Q 5 [jR 0, jR 6, jI x2, jI x3, jI x4] [] h := by
  refine s_iload (pc := 5) dX8_setOf_5 rfl ?_
  refine s_aload_n (pc := 7) dX8_setOf_7 rfl ?_
  refine s_geti (pc := 8) (x := h.1 0 15) dX8_setOf_8 fl_X8_57 cSm_0 rfl rfl ?_
  refine s_icmp_ge (pc := 11) (tgt := 42) dX8_setOf_11 (by decide) (fun hc => ?_) (fun hc => ?_)
  · have H := H.1 hc
    refine s_iload_n (pc := 42) dX8_setOf_42 rfl ?_
    exact s_iret dX8_setOf_43 rfl H
  · have H := H.2 hc
    refine s_iload_n (pc := 14) dX8_setOf_14 rfl ?_
    refine s_aload_n (pc := 15) dX8_setOf_15 rfl ?_
    refine s_bipush (pc := 16) dX8_setOf_16 rfl (j_cst rfl) ?_
    refine s_iload (pc := 18) dX8_setOf_18 rfl ?_
    obtain ⟨k1, H⟩ := H
    refine s_iadd (pc := 20) dX8_setOf_20 k1 ?_
    obtain ⟨k2, H⟩ := H
    refine s_iald (pc := 21) (x := h.1 6 (Int.toNat (7 + x4))) dX8_setOf_21 cSm_6 k2 rfl ?_
    refine s_iload_n (pc := 22) dX8_setOf_22 rfl ?_
    refine s_icmp_ne (pc := 23) (tgt := 33) dX8_setOf_23 (by decide) (fun hc => ?_) (fun hc => ?_)
    · have H := H.2 hc
      refine s_iconst (pc := 33) dX8_setOf_33 (j_cst rfl) ?_
      refine s_ior (pc := 34) dX8_setOf_34 ?_
      refine s_istore_n (pc := 35) (lv' := [jR 0, jR 6, jI x2, jI (b_or x3 0), jI x4]) dX8_setOf_35 (by decide) rfl ?_
      obtain ⟨k3, H⟩ := H
      refine s_iinc (pc := 36) (lv' := [jR 0, jR 6, jI x2, jI (b_or x3 0), jI (x4 + 1)]) dX8_setOf_36 rfl (by decide) k3 rfl ?_
      refine s_goto (pc := 39) (tgt := 5) dX8_setOf_39 (by decide) ?_
      exact H
    · have H := H.1 hc
      refine s_iconst (pc := 26) dX8_setOf_26 (j_cst rfl) ?_
      refine s_iload (pc := 27) dX8_setOf_27 rfl ?_
      refine s_ishl (pc := 29) dX8_setOf_29 ?_
      refine s_goto (pc := 30) (tgt := 34) dX8_setOf_30 (by decide) ?_
      refine s_ior (pc := 34) dX8_setOf_34 ?_
      refine s_istore_n (pc := 35) (lv' := [jR 0, jR 6, jI x2, jI (b_or x3 (b_shl 1 x4)), jI x4]) dX8_setOf_35 (by decide) rfl ?_
      obtain ⟨k4, H⟩ := H
      refine s_iinc (pc := 36) (lv' := [jR 0, jR 6, jI x2, jI (b_or x3 (b_shl 1 x4)), jI (x4 + 1)]) dX8_setOf_36 rfl (by decide) k4 rfl ?_
      refine s_goto (pc := 39) (tgt := 5) dX8_setOf_39 (by decide) ?_
      exact H
theorem en_X8_freeCords_0_6 {x2 : Int} {h : jH} {post : jQ} (k : ∀ G, WV Sm G M_X8_freeCords post 0 [jR 0, jR 6, jI x2] [] h) : CT Sm M_X8_freeCords [jR 0, jR 6, jI x2] h post := CT.of (by decide +kernel) (by simp [j_un]) (Nat.le_of_ble_eq_true rfl) _ rfl k
set_option maxRecDepth 20000 in
theorem vc_X8_freeCords_0_6_0 {G : jG} {Q : jQ} {x2 : Int} {h : jH}
    (H : ∃ post : Int → jH → Prop, CT Sm M_X8_setOf [jR 0, jR 6, jI 2] h (jPi post) ∧ ∀ (r1 : Int) (h2 : jH), post r1 h2 → (∃ post : Int → jH → Prop, CT Sm M_X8_bits [jI r1] h2 (jPi post) ∧ ∀ (r3 : Int) (h4 : jH), post r3 h4 → ((j_rg (x2 - r3)) ∧ (Q (some (jI (x2 - r3))) h4)))) :
    WV Sm G M_X8_freeCords Q 0 [jR 0, jR 6, jI x2] [] h := by
  refine s_iload_n (pc := 0) dX8_freeCords_0 rfl ?_
  refine s_aload_n (pc := 1) dX8_freeCords_1 rfl ?_
  refine s_aload_n (pc := 2) dX8_freeCords_2 rfl ?_
  refine s_iconst (pc := 3) dX8_freeCords_3 (j_cst rfl) ?_
  obtain ⟨post, hct, H⟩ := H
  refine s_callV (pc := 4) (as := [jR 6, jI 2]) (st := [jI x2]) (by exact dX8_freeCords_4) mv_X8_131 ⟨rfl, rfl, Nat.le_of_ble_eq_true rfl, Nat.le_of_ble_eq_true rfl⟩ cSm_0 rfl rfl (Nat.le_of_ble_eq_true rfl) _ rfl hct (fun r1 h2 hp => ?_)
  obtain ⟨r1, rfl, hp⟩ := hp
  have H := H r1 h2 hp
  show WV _ _ _ _ 7 [jR 0, jR 6, jI x2] [jI r1, jI x2] h2
  obtain ⟨post, hct, H⟩ := H
  refine s_callS (pc := 7) (as := [jI r1]) (st := [jI x2]) (by exact dX8_freeCords_7) ms_X8_135 ⟨rfl, rfl, Nat.le_of_ble_eq_true rfl, Nat.le_of_ble_eq_true rfl⟩ (Nat.le_of_ble_eq_true rfl) _ rfl hct (fun r3 h4 hp => ?_)
  obtain ⟨r3, rfl, hp⟩ := hp
  have H := H r3 h4 hp
  show WV _ _ _ _ 10 [jR 0, jR 6, jI x2] [jI r3, jI x2] h4
  obtain ⟨k5, H⟩ := H
  refine s_isub (pc := 10) dX8_freeCords_10 k5 ?_
  exact s_iret dX8_freeCords_11 rfl H
theorem en_X8_canPlug_0_6 {x2 x3 : Int} {h : jH} {post : jQ} (k : ∀ G, WV Sm G M_X8_canPlug post 0 [jR 0, jR 6, jI x2, jI x3] [] h) : CT Sm M_X8_canPlug [jR 0, jR 6, jI x2, jI x3] h post := CT.of (by decide +kernel) (by simp [j_un]) (Nat.le_of_ble_eq_true rfl) _ rfl k
set_option maxRecDepth 20000 in
theorem vc_X8_canPlug_0_6_0 {G : jG} {Q : jQ} {x2 x3 : Int} {h : jH}
    (H : (j_rg (7 + x2)) ∧ ((0 ≤ 7 + x2 ∧ 7 + x2 < 28) ∧ (((h.1 6 (Int.toNat (7 + x2))) = 1 → ∃ post : Int → jH → Prop, CT Sm M_X8_freeCords [jR 0, jR 6, jI x3] h (jPi post) ∧ ∀ (r3 : Int) (h4 : jH), post r3 h4 → ((r3 ≤ 0 → Q (some (jI 0)) h4) ∧ (¬ r3 ≤ 0 → ∃ post : Int → jH → Prop, CT Sm M_X8_areFree [jR 0, jR 6, jI x2] h4 (jPi post) ∧ ∀ (r5 : Int) (h6 : jH), post r5 h6 → ((r5 = 0 → Q (some (jI 0)) h6) ∧ (¬ r5 = 0 → Q (some (jI 1)) h6))))) ∧ (¬ (h.1 6 (Int.toNat (7 + x2))) = 1 → Q (some (jI 0)) h)))) :
    WV Sm G M_X8_canPlug Q 0 [jR 0, jR 6, jI x2, jI x3] [] h := by
  refine s_aload_n (pc := 0) dX8_canPlug_0 rfl ?_
  refine s_bipush (pc := 1) dX8_canPlug_1 rfl (j_cst rfl) ?_
  refine s_iload_n (pc := 3) dX8_canPlug_3 rfl ?_
  obtain ⟨k1, H⟩ := H
  refine s_iadd (pc := 4) dX8_canPlug_4 k1 ?_
  obtain ⟨k2, H⟩ := H
  refine s_iald (pc := 5) (x := h.1 6 (Int.toNat (7 + x2))) dX8_canPlug_5 cSm_6 k2 rfl ?_
  refine s_iconst (pc := 6) dX8_canPlug_6 (j_cst rfl) ?_
  refine s_icmp_ne (pc := 7) (tgt := 32) dX8_canPlug_7 (by decide) (fun hc => ?_) (fun hc => ?_)
  · have H := H.2 hc
    refine s_iconst (pc := 32) dX8_canPlug_32 (j_cst rfl) ?_
    exact s_zret dX8_canPlug_33 rfl (Or.inl rfl) H
  · have H := H.1 hc
    refine s_aload_n (pc := 10) dX8_canPlug_10 rfl ?_
    refine s_aload_n (pc := 11) dX8_canPlug_11 rfl ?_
    refine s_iload_n (pc := 12) dX8_canPlug_12 rfl ?_
    obtain ⟨post, hct, H⟩ := H
    refine s_callV (pc := 13) (as := [jR 6, jI x3]) (st := []) (by exact dX8_canPlug_13) mv_X8_141 ⟨rfl, rfl, Nat.le_of_ble_eq_true rfl, Nat.le_of_ble_eq_true rfl⟩ cSm_0 rfl rfl (Nat.le_of_ble_eq_true rfl) _ rfl hct (fun r3 h4 hp => ?_)
    obtain ⟨r3, rfl, hp⟩ := hp
    have H := H r3 h4 hp
    show WV _ _ _ _ 16 [jR 0, jR 6, jI x2, jI x3] [jI r3] h4
    refine s_if_le (pc := 16) (tgt := 32) dX8_canPlug_16 (by decide) (fun hc => ?_) (fun hc => ?_)
    · have H := H.1 hc
      refine s_iconst (pc := 32) dX8_canPlug_32 (j_cst rfl) ?_
      exact s_zret dX8_canPlug_33 rfl (Or.inl rfl) H
    · have H := H.2 hc
      refine s_aload_n (pc := 19) dX8_canPlug_19 rfl ?_
      refine s_aload_n (pc := 20) dX8_canPlug_20 rfl ?_
      refine s_iload_n (pc := 21) dX8_canPlug_21 rfl ?_
      obtain ⟨post, hct, H⟩ := H
      refine s_callV (pc := 22) (as := [jR 6, jI x2]) (st := []) (by exact dX8_canPlug_22) mv_X8_144 ⟨rfl, rfl, Nat.le_of_ble_eq_true rfl, Nat.le_of_ble_eq_true rfl⟩ cSm_0 rfl rfl (Nat.le_of_ble_eq_true rfl) _ rfl hct (fun r5 h6 hp => ?_)
      obtain ⟨r5, rfl, hp⟩ := hp
      have H := H r5 h6 hp
      show WV _ _ _ _ 25 [jR 0, jR 6, jI x2, jI x3] [jI r5] h6
      refine s_if_eq (pc := 25) (tgt := 32) dX8_canPlug_25 (by decide) (fun hc => ?_) (fun hc => ?_)
      · have H := H.1 hc
        refine s_iconst (pc := 32) dX8_canPlug_32 (j_cst rfl) ?_
        exact s_zret dX8_canPlug_33 rfl (Or.inl rfl) H
      · have H := H.2 hc
        refine s_iconst (pc := 28) dX8_canPlug_28 (j_cst rfl) ?_
        refine s_goto (pc := 29) (tgt := 33) dX8_canPlug_29 (by decide) ?_
        exact s_zret dX8_canPlug_33 rfl (Or.inr rfl) H
theorem en_X8_plug_0_6 {x2 : Int} {h : jH} {post : jQ} (k : ∀ G, WV Sm G M_X8_plug post 0 [jR 0, jR 6, jI x2] [] h) : CT Sm M_X8_plug [jR 0, jR 6, jI x2] h post := CT.of (by decide +kernel) (by simp [j_un]) (Nat.le_of_ble_eq_true rfl) _ rfl k
set_option maxRecDepth 20000 in
theorem vc_X8_plug_0_6_0 {G : jG} {Q : jQ} {x2 : Int} {h : jH}
    (H : (j_rg (7 + x2)) ∧ ((0 ≤ 7 + x2 ∧ 7 + x2 < 28) ∧ ((j_rg (14 + x2)) ∧ ((j_rg (5 * x2)) ∧ ((j_rg ((5 * x2) + 3)) ∧ ((0 ≤ (5 * x2) + 3 ∧ (5 * x2) + 3 < 35) ∧ ((0 ≤ 14 + x2 ∧ 14 + x2 < 28) ∧ (Q none (j_up (j_up h 6 (Int.toNat (7 + x2)) 2) 6 (Int.toNat (14 + x2)) (h.1 4 (Int.toNat ((5 * x2) + 3)))))))))))) :
    WV Sm G M_X8_plug Q 0 [jR 0, jR 6, jI x2] [] h := by
  refine s_aload_n (pc := 0) dX8_plug_0 rfl ?_
  refine s_bipush (pc := 1) dX8_plug_1 rfl (j_cst rfl) ?_
  refine s_iload_n (pc := 3) dX8_plug_3 rfl ?_
  obtain ⟨k1, H⟩ := H
  refine s_iadd (pc := 4) dX8_plug_4 k1 ?_
  refine s_iconst (pc := 5) dX8_plug_5 (j_cst rfl) ?_
  obtain ⟨k2, H⟩ := H
  refine s_iast (pc := 6) dX8_plug_6 cSm_6 k2 ?_
  refine s_aload_n (pc := 7) dX8_plug_7 rfl ?_
  refine s_bipush (pc := 8) dX8_plug_8 rfl (j_cst rfl) ?_
  refine s_iload_n (pc := 10) dX8_plug_10 rfl ?_
  obtain ⟨k3, H⟩ := H
  refine s_iadd (pc := 11) dX8_plug_11 k3 ?_
  refine s_aload_n (pc := 12) dX8_plug_12 rfl ?_
  refine s_getr (pc := 13) dX8_plug_13 fl_X8_26 cSm_0 rfl ?_
  refine s_iconst (pc := 16) dX8_plug_16 (j_cst rfl) ?_
  refine s_iload_n (pc := 17) dX8_plug_17 rfl ?_
  obtain ⟨k4, H⟩ := H
  refine s_imul (pc := 18) dX8_plug_18 k4 ?_
  refine s_iconst (pc := 19) dX8_plug_19 (j_cst rfl) ?_
  obtain ⟨k5, H⟩ := H
  refine s_iadd (pc := 20) dX8_plug_20 k5 ?_
  obtain ⟨k6, H⟩ := H
  refine s_iald (pc := 21) (x := h.1 4 (Int.toNat ((5 * x2) + 3))) dX8_plug_21 cSm_4 k6 rfl ?_
  obtain ⟨k7, H⟩ := H
  refine s_iast (pc := 22) dX8_plug_22 cSm_6 k7 ?_
  exact s_vret dX8_plug_23 rfl H
theorem en_X8_plugAll_0_10 {x2 x3 : Int} {h : jH} {post : jQ} (k : ∀ G, WV Sm G M_X8_plugAll post 0 [jR 0, jR 10, jI x2, jI x3, jU] [] h) : CT Sm M_X8_plugAll [jR 0, jR 10, jI x2, jI x3] h post := CT.of (by decide +kernel) (by simp [j_un]) (Nat.le_of_ble_eq_true rfl) _ rfl k
set_option maxRecDepth 20000 in
theorem vc_X8_plugAll_0_10_0 {G : jG} {Q : jQ} {x2 x3 : Int} {h : jH}
    (H : WV Sm G M_X8_plugAll Q 3 [jR 0, jR 10, jI x2, jI x3, jI 0] [] h) :
    WV Sm G M_X8_plugAll Q 0 [jR 0, jR 10, jI x2, jI x3, jU] [] h := by
  refine s_iconst (pc := 0) dX8_plugAll_0 (j_cst rfl) ?_
  refine s_istore (pc := 1) (lv' := [jR 0, jR 10, jI x2, jI x3, jI 0]) dX8_plugAll_1 (by decide) rfl ?_
  exact H
set_option maxRecDepth 20000 in
theorem vc_X8_plugAll_0_10_3 {G : jG} {Q : jQ} {x2 x3 x4 : Int} {h : jH}
    (H : (x2 ≤ x4 → Q none h) ∧ (¬ x2 ≤ x4 → (0 ≤ x4 ∧ x4 < 7) ∧ (∃ post : Int → jH → Prop, CT Sm M_X8_canPlug [jR 0, jR 6, jI (h.1 10 (Int.toNat x4)), jI x3] h (jPi post) ∧ ∀ (r2 : Int) (h3 : jH), post r2 h3 → ((r2 = 0 → (j_rg (x4 + 1)) ∧ (WV Sm G M_X8_plugAll Q 3 [jR 0, jR 10, jI x2, jI x3, jI (x4 + 1)] [] h3)) ∧ (¬ r2 = 0 → ∃ post : jH → Prop, CT Sm M_X8_plug [jR 0, jR 6, jI (h3.1 10 (Int.toNat x4))] h3 (jPv post) ∧ ∀ (h6 : jH), post h6 → ((j_rg (x4 + 1)) ∧ (WV Sm G M_X8_plugAll Q 3 [jR 0, jR 10, jI x2, jI x3, jI (x4 + 1)] [] h6))))))) :
    WV Sm G M_X8_plugAll Q 3 [jR 0, jR 10, jI x2, jI x3, jI x4] [] h := by
  refine s_iload (pc := 3) dX8_plugAll_3 rfl ?_
  refine s_iload_n (pc := 5) dX8_plugAll_5 rfl ?_
  refine s_icmp_ge (pc := 6) (tgt := 43) dX8_plugAll_6 (by decide) (fun hc => ?_) (fun hc => ?_)
  · have H := H.1 hc
    exact s_vret dX8_plugAll_43 rfl H
  · have H := H.2 hc
    refine s_aload_n (pc := 9) dX8_plugAll_9 rfl ?_
    refine s_aload_n (pc := 10) dX8_plugAll_10 rfl ?_
    refine s_getr (pc := 11) dX8_plugAll_11 fl_X8_32 cSm_0 rfl ?_
    refine s_aload_n (pc := 14) dX8_plugAll_14 rfl ?_
    refine s_iload (pc := 15) dX8_plugAll_15 rfl ?_
    obtain ⟨k1, H⟩ := H
    refine s_iald (pc := 17) (x := h.1 10 (Int.toNat x4)) dX8_plugAll_17 cSm_10 k1 rfl ?_
    refine s_iload_n (pc := 18) dX8_plugAll_18 rfl ?_
    obtain ⟨post, hct, H⟩ := H
    refine s_callV (pc := 19) (as := [jR 6, jI (h.1 10 (Int.toNat x4)), jI x3]) (st := []) (by exact dX8_plugAll_19) mv_X8_179 ⟨rfl, rfl, Nat.le_of_ble_eq_true rfl, Nat.le_of_ble_eq_true rfl⟩ cSm_0 rfl rfl (Nat.le_of_ble_eq_true rfl) _ rfl hct (fun r2 h3 hp => ?_)
    obtain ⟨r2, rfl, hp⟩ := hp
    have H := H r2 h3 hp
    show WV _ _ _ _ 22 [jR 0, jR 10, jI x2, jI x3, jI x4] [jI r2] h3
    refine s_if_eq (pc := 22) (tgt := 37) dX8_plugAll_22 (by decide) (fun hc => ?_) (fun hc => ?_)
    · have H := H.1 hc
      obtain ⟨k4, H⟩ := H
      refine s_iinc (pc := 37) (lv' := [jR 0, jR 10, jI x2, jI x3, jI (x4 + 1)]) dX8_plugAll_37 rfl (by decide) k4 rfl ?_
      refine s_goto (pc := 40) (tgt := 3) dX8_plugAll_40 (by decide) ?_
      exact H
    · have H := H.2 hc
      refine s_aload_n (pc := 25) dX8_plugAll_25 rfl ?_
      refine s_aload_n (pc := 26) dX8_plugAll_26 rfl ?_
      refine s_getr (pc := 27) dX8_plugAll_27 fl_X8_32 cSm_0 rfl ?_
      refine s_aload_n (pc := 30) dX8_plugAll_30 rfl ?_
      refine s_iload (pc := 31) dX8_plugAll_31 rfl ?_
      refine s_iald (pc := 33) (x := h3.1 10 (Int.toNat x4)) dX8_plugAll_33 cSm_10 k1 rfl ?_
      obtain ⟨post, hct, H⟩ := H
      refine s_callV (pc := 34) (as := [jR 6, jI (h3.1 10 (Int.toNat x4))]) (st := []) (by exact dX8_plugAll_34) mv_X8_183 ⟨rfl, rfl, Nat.le_of_ble_eq_true rfl, Nat.le_of_ble_eq_true rfl⟩ cSm_0 rfl rfl (Nat.le_of_ble_eq_true rfl) _ rfl hct (fun r5 h6 hp => ?_)
      obtain ⟨rfl, hp⟩ := hp
      have H := H h6 hp
      show WV _ _ _ _ 37 [jR 0, jR 10, jI x2, jI x3, jI x4] [] h6
      obtain ⟨k7, H⟩ := H
      refine s_iinc (pc := 37) (lv' := [jR 0, jR 10, jI x2, jI x3, jI (x4 + 1)]) dX8_plugAll_37 rfl (by decide) k7 rfl ?_
      refine s_goto (pc := 40) (tgt := 3) dX8_plugAll_40 (by decide) ?_
      exact H
theorem en_X8_byRule_0 {x1 x2 x3 : Int} {h : jH} {post : jQ} (k : ∀ G, WV Sm G M_X8_byRule post 0 [jR 0, jI x1, jI x2, jI x3, jU, jU, jU, jU] [] h) : CT Sm M_X8_byRule [jR 0, jI x1, jI x2, jI x3] h post := CT.of (by decide +kernel) (by simp [j_un]) (Nat.le_of_ble_eq_true rfl) _ rfl k
set_option maxRecDepth 20000 in
theorem vc_X8_byRule_0_0 {G : jG} {Q : jQ} {x1 x2 x3 : Int} {h : jH}
    (H : ∃ post : Int → jH → Prop, CT Sm M_X8_in [jI x1, jI 0, jI 2] h (jPi post) ∧ ∀ (r1 : Int) (h2 : jH), post r1 h2 → ((r1 = 0 → Q (some (jI (-1))) h2) ∧ (¬ r1 = 0 → ∃ post : Int → jH → Prop, CT Sm M_X8_in [jI x2, jI 0, jI 60] h2 (jPi post) ∧ ∀ (r3 : Int) (h4 : jH), post r3 h4 → ((r3 = 0 → Q (some (jI (-1))) h4) ∧ (¬ r3 = 0 → ∃ post : Int → jH → Prop, CT Sm M_X8_in [jI x3, jI 0, jI 2] h4 (jPi post) ∧ ∀ (r5 : Int) (h6 : jH), post r5 h6 → ((r5 = 0 → Q (some (jI (-1))) h6) ∧ (¬ r5 = 0 → ∃ post : jH → Prop, CT Sm M_X8_layOrder [jR 0, jI x1] h6 (jPv post) ∧ ∀ (h8 : jH), post h8 → (∃ post : jH → Prop, CT Sm M_X8_copy [jR 5, jI 0, jR 6, jI 0] h8 (jPv post) ∧ ∀ (h10 : jH), post h10 → (WV Sm G M_X8_byRule Q 57 [jR 0, jI x1, jI x2, jI x3, jI 0, jU, jU, jU] [] (j_up h10 0 27 (-9))))))))))) :
    WV Sm G M_X8_byRule Q 0 [jR 0, jI x1, jI x2, jI x3, jU, jU, jU, jU] [] h := by
  refine s_iload_n (pc := 0) dX8_byRule_0 rfl ?_
  refine s_iconst (pc := 1) dX8_byRule_1 (j_cst rfl) ?_
  refine s_iconst (pc := 2) dX8_byRule_2 (j_cst rfl) ?_
  obtain ⟨post, hct, H⟩ := H
  refine s_callS (pc := 3) (as := [jI x1, jI 0, jI 2]) (st := []) (by exact dX8_byRule_3) ms_X8_63 ⟨rfl, rfl, Nat.le_of_ble_eq_true rfl, Nat.le_of_ble_eq_true rfl⟩ (Nat.le_of_ble_eq_true rfl) _ rfl hct (fun r1 h2 hp => ?_)
  obtain ⟨r1, rfl, hp⟩ := hp
  have H := H r1 h2 hp
  show WV _ _ _ _ 6 [jR 0, jI x1, jI x2, jI x3, jU, jU, jU, jU] [jI r1] h2
  refine s_if_eq (pc := 6) (tgt := 28) dX8_byRule_6 (by decide) (fun hc => ?_) (fun hc => ?_)
  · have H := H.1 hc
    refine s_iconst (pc := 28) dX8_byRule_28 (j_cst rfl) ?_
    exact s_iret dX8_byRule_29 rfl H
  · have H := H.2 hc
    refine s_iload_n (pc := 9) dX8_byRule_9 rfl ?_
    refine s_iconst (pc := 10) dX8_byRule_10 (j_cst rfl) ?_
    refine s_bipush (pc := 11) dX8_byRule_11 rfl (j_cst rfl) ?_
    obtain ⟨post, hct, H⟩ := H
    refine s_callS (pc := 13) (as := [jI x2, jI 0, jI 60]) (st := []) (by exact dX8_byRule_13) ms_X8_63 ⟨rfl, rfl, Nat.le_of_ble_eq_true rfl, Nat.le_of_ble_eq_true rfl⟩ (Nat.le_of_ble_eq_true rfl) _ rfl hct (fun r3 h4 hp => ?_)
    obtain ⟨r3, rfl, hp⟩ := hp
    have H := H r3 h4 hp
    show WV _ _ _ _ 16 [jR 0, jI x1, jI x2, jI x3, jU, jU, jU, jU] [jI r3] h4
    refine s_if_eq (pc := 16) (tgt := 28) dX8_byRule_16 (by decide) (fun hc => ?_) (fun hc => ?_)
    · have H := H.1 hc
      refine s_iconst (pc := 28) dX8_byRule_28 (j_cst rfl) ?_
      exact s_iret dX8_byRule_29 rfl H
    · have H := H.2 hc
      refine s_iload_n (pc := 19) dX8_byRule_19 rfl ?_
      refine s_iconst (pc := 20) dX8_byRule_20 (j_cst rfl) ?_
      refine s_iconst (pc := 21) dX8_byRule_21 (j_cst rfl) ?_
      obtain ⟨post, hct, H⟩ := H
      refine s_callS (pc := 22) (as := [jI x3, jI 0, jI 2]) (st := []) (by exact dX8_byRule_22) ms_X8_63 ⟨rfl, rfl, Nat.le_of_ble_eq_true rfl, Nat.le_of_ble_eq_true rfl⟩ (Nat.le_of_ble_eq_true rfl) _ rfl hct (fun r5 h6 hp => ?_)
      obtain ⟨r5, rfl, hp⟩ := hp
      have H := H r5 h6 hp
      show WV _ _ _ _ 25 [jR 0, jI x1, jI x2, jI x3, jU, jU, jU, jU] [jI r5] h6
      refine s_if_ne (pc := 25) (tgt := 30) dX8_byRule_25 (by decide) (fun hc => ?_) (fun hc => ?_)
      · have H := H.2 hc
        refine s_aload_n (pc := 30) dX8_byRule_30 rfl ?_
        refine s_iload_n (pc := 31) dX8_byRule_31 rfl ?_
        obtain ⟨post, hct, H⟩ := H
        refine s_callV (pc := 32) (as := [jI x1]) (st := []) (by exact dX8_byRule_32) mv_X8_190 ⟨rfl, rfl, Nat.le_of_ble_eq_true rfl, Nat.le_of_ble_eq_true rfl⟩ cSm_0 rfl rfl (Nat.le_of_ble_eq_true rfl) _ rfl hct (fun r7 h8 hp => ?_)
        obtain ⟨rfl, hp⟩ := hp
        have H := H h8 hp
        show WV _ _ _ _ 35 [jR 0, jI x1, jI x2, jI x3, jU, jU, jU, jU] [] h8
        refine s_aload_n (pc := 35) dX8_byRule_35 rfl ?_
        refine s_getr (pc := 36) dX8_byRule_36 fl_X8_29 cSm_0 rfl ?_
        refine s_iconst (pc := 39) dX8_byRule_39 (j_cst rfl) ?_
        refine s_aload_n (pc := 40) dX8_byRule_40 rfl ?_
        refine s_getr (pc := 41) dX8_byRule_41 fl_X8_32 cSm_0 rfl ?_
        refine s_iconst (pc := 44) dX8_byRule_44 (j_cst rfl) ?_
        obtain ⟨post, hct, H⟩ := H
        refine s_callS (pc := 45) (as := [jR 5, jI 0, jR 6, jI 0]) (st := []) (by exact dX8_byRule_45) ms_X8_168 ⟨rfl, rfl, Nat.le_of_ble_eq_true rfl, Nat.le_of_ble_eq_true rfl⟩ (Nat.le_of_ble_eq_true rfl) _ rfl hct (fun r9 h10 hp => ?_)
        obtain ⟨rfl, hp⟩ := hp
        have H := H h10 hp
        show WV _ _ _ _ 48 [jR 0, jI x1, jI x2, jI x3, jU, jU, jU, jU] [] h10
        refine s_aload_n (pc := 48) dX8_byRule_48 rfl ?_
        refine s_bipush (pc := 49) dX8_byRule_49 rfl (j_cst rfl) ?_
        refine s_puti (pc := 51) dX8_byRule_51 fp_X8_194 cSm_0 rfl ?_
        refine s_iconst (pc := 54) dX8_byRule_54 (j_cst rfl) ?_
        refine s_istore (pc := 55) (lv' := [jR 0, jI x1, jI x2, jI x3, jI 0, jU, jU, jU]) dX8_byRule_55 (by decide) rfl ?_
        exact H
      · have H := H.1 hc
        refine s_iconst (pc := 28) dX8_byRule_28 (j_cst rfl) ?_
        exact s_iret dX8_byRule_29 rfl H
set_option maxRecDepth 20000 in
theorem vc_X8_byRule_0_57 {G : jG} {Q : jQ} {x1 x2 x3 x4 : Int} {u5 u6 u7 : jV} {h : jH}
    (H : (x2 ≤ x4 → WV Sm G M_X8_byRule Q 213 [jR 0, jI x1, jI x2, jI x3, jI 0, jI 0, u6, u7] [] h) ∧ (¬ x2 ≤ x4 → ∃ post : jH → Prop, CT Sm M_X8_plugAll [jR 0, jR 10, jI (h.1 0 15), jI (h.1 0 14)] h (jPv post) ∧ ∀ (h2 : jH), post h2 → (∃ post : Int → jH → Prop, CT Sm M_X8_setOf [jR 0, jR 6, jI 3] h2 (jPi post) ∧ ∀ (r3 : Int) (h4 : jH), post r3 h4 → (∃ post : jH → Prop, CT Sm M_X8_pass [jR 0, jR 6] h4 (jPv post) ∧ ∀ (h6 : jH), post h6 → (∃ post : Int → jH → Prop, CT Sm M_X8_setOf [jR 0, jR 6, jI 3] h6 (jPi post) ∧ ∀ (r7 : Int) (h8 : jH), post r7 h8 → ((j_rg ((h8.1 0 15) - 1)) ∧ (WV Sm G M_X8_byRule Q 122 [jR 0, jI x1, jI x2, jI x3, jI x4, jI r3, jI (b_and r7 (b_xor r3 (-1))), jI ((h8.1 0 15) - 1)] [] h8))))))) :
    WV Sm G M_X8_byRule Q 57 [jR 0, jI x1, jI x2, jI x3, jI x4, u5, u6, u7] [] h := by
  refine s_iload (pc := 57) dX8_byRule_57 rfl ?_
  refine s_iload_n (pc := 59) dX8_byRule_59 rfl ?_
  refine s_icmp_ge (pc := 60) (tgt := 207) dX8_byRule_60 (by decide) (fun hc => ?_) (fun hc => ?_)
  · have H := H.1 hc
    refine s_iconst (pc := 207) dX8_byRule_207 (j_cst rfl) ?_
    refine s_istore (pc := 208) (lv' := [jR 0, jI x1, jI x2, jI x3, jI 0, u5, u6, u7]) dX8_byRule_208 (by decide) rfl ?_
    refine s_iconst (pc := 210) dX8_byRule_210 (j_cst rfl) ?_
    refine s_istore (pc := 211) (lv' := [jR 0, jI x1, jI x2, jI x3, jI 0, jI 0, u6, u7]) dX8_byRule_211 (by decide) rfl ?_
    exact H
  · have H := H.2 hc
    refine s_aload_n (pc := 63) dX8_byRule_63 rfl ?_
    refine s_aload_n (pc := 64) dX8_byRule_64 rfl ?_
    refine s_getr (pc := 65) dX8_byRule_65 fl_X8_45 cSm_0 rfl ?_
    refine s_aload_n (pc := 68) dX8_byRule_68 rfl ?_
    refine s_geti (pc := 69) (x := h.1 0 15) dX8_byRule_69 fl_X8_57 cSm_0 rfl rfl ?_
    refine s_aload_n (pc := 72) dX8_byRule_72 rfl ?_
    refine s_geti (pc := 73) (x := h.1 0 14) dX8_byRule_73 fl_X8_23 cSm_0 rfl rfl ?_
    obtain ⟨post, hct, H⟩ := H
    refine s_callV (pc := 76) (as := [jR 10, jI (h.1 0 15), jI (h.1 0 14)]) (st := []) (by exact dX8_byRule_76) mv_X8_197 ⟨rfl, rfl, Nat.le_of_ble_eq_true rfl, Nat.le_of_ble_eq_true rfl⟩ cSm_0 rfl rfl (Nat.le_of_ble_eq_true rfl) _ rfl hct (fun r1 h2 hp => ?_)
    obtain ⟨rfl, hp⟩ := hp
    have H := H h2 hp
    show WV _ _ _ _ 79 [jR 0, jI x1, jI x2, jI x3, jI x4, u5, u6, u7] [] h2
    refine s_aload_n (pc := 79) dX8_byRule_79 rfl ?_
    refine s_aload_n (pc := 80) dX8_byRule_80 rfl ?_
    refine s_getr (pc := 81) dX8_byRule_81 fl_X8_32 cSm_0 rfl ?_
    refine s_iconst (pc := 84) dX8_byRule_84 (j_cst rfl) ?_
    obtain ⟨post, hct, H⟩ := H
    refine s_callV (pc := 85) (as := [jR 6, jI 3]) (st := []) (by exact dX8_byRule_85) mv_X8_131 ⟨rfl, rfl, Nat.le_of_ble_eq_true rfl, Nat.le_of_ble_eq_true rfl⟩ cSm_0 rfl rfl (Nat.le_of_ble_eq_true rfl) _ rfl hct (fun r3 h4 hp => ?_)
    obtain ⟨r3, rfl, hp⟩ := hp
    have H := H r3 h4 hp
    show WV _ _ _ _ 88 [jR 0, jI x1, jI x2, jI x3, jI x4, u5, u6, u7] [jI r3] h4
    refine s_istore (pc := 88) (lv' := [jR 0, jI x1, jI x2, jI x3, jI x4, jI r3, u6, u7]) dX8_byRule_88 (by decide) rfl ?_
    refine s_aload_n (pc := 90) dX8_byRule_90 rfl ?_
    refine s_aload_n (pc := 91) dX8_byRule_91 rfl ?_
    refine s_getr (pc := 92) dX8_byRule_92 fl_X8_32 cSm_0 rfl ?_
    obtain ⟨post, hct, H⟩ := H
    refine s_callV (pc := 95) (as := [jR 6]) (st := []) (by exact dX8_byRule_95) mv_X8_175 ⟨rfl, rfl, Nat.le_of_ble_eq_true rfl, Nat.le_of_ble_eq_true rfl⟩ cSm_0 rfl rfl (Nat.le_of_ble_eq_true rfl) _ rfl hct (fun r5 h6 hp => ?_)
    obtain ⟨rfl, hp⟩ := hp
    have H := H h6 hp
    show WV _ _ _ _ 98 [jR 0, jI x1, jI x2, jI x3, jI x4, jI r3, u6, u7] [] h6
    refine s_aload_n (pc := 98) dX8_byRule_98 rfl ?_
    refine s_aload_n (pc := 99) dX8_byRule_99 rfl ?_
    refine s_getr (pc := 100) dX8_byRule_100 fl_X8_32 cSm_0 rfl ?_
    refine s_iconst (pc := 103) dX8_byRule_103 (j_cst rfl) ?_
    obtain ⟨post, hct, H⟩ := H
    refine s_callV (pc := 104) (as := [jR 6, jI 3]) (st := []) (by exact dX8_byRule_104) mv_X8_131 ⟨rfl, rfl, Nat.le_of_ble_eq_true rfl, Nat.le_of_ble_eq_true rfl⟩ cSm_0 rfl rfl (Nat.le_of_ble_eq_true rfl) _ rfl hct (fun r7 h8 hp => ?_)
    obtain ⟨r7, rfl, hp⟩ := hp
    have H := H r7 h8 hp
    show WV _ _ _ _ 107 [jR 0, jI x1, jI x2, jI x3, jI x4, jI r3, u6, u7] [jI r7] h8
    refine s_iload (pc := 107) dX8_byRule_107 rfl ?_
    refine s_iconst (pc := 109) dX8_byRule_109 (j_cst rfl) ?_
    refine s_ixor (pc := 110) dX8_byRule_110 ?_
    refine s_iand (pc := 111) dX8_byRule_111 ?_
    refine s_istore (pc := 112) (lv' := [jR 0, jI x1, jI x2, jI x3, jI x4, jI r3, jI (b_and r7 (b_xor r3 (-1))), u7]) dX8_byRule_112 (by decide) rfl ?_
    refine s_aload_n (pc := 114) dX8_byRule_114 rfl ?_
    refine s_geti (pc := 115) (x := h8.1 0 15) dX8_byRule_115 fl_X8_57 cSm_0 rfl rfl ?_
    refine s_iconst (pc := 118) dX8_byRule_118 (j_cst rfl) ?_
    obtain ⟨k9, H⟩ := H
    refine s_isub (pc := 119) dX8_byRule_119 k9 ?_
    refine s_istore (pc := 120) (lv' := [jR 0, jI x1, jI x2, jI x3, jI x4, jI r3, jI (b_and r7 (b_xor r3 (-1))), jI ((h8.1 0 15) - 1)]) dX8_byRule_120 (by decide) rfl ?_
    exact H
set_option maxRecDepth 20000 in
theorem vc_X8_byRule_0_122 {G : jG} {Q : jQ} {x1 x2 x3 x4 x5 x6 x7 : Int} {h : jH}
    (H : (x7 < 0 → (0 ≤ (h.1 0 27) → (j_rg (x4 + 1)) ∧ (WV Sm G M_X8_byRule Q 57 [jR 0, jI x1, jI x2, jI x3, jI (x4 + 1), jI x5, jI x6, jI x7] [] (j_up h 0 27 (h.1 0 27)))) ∧ (¬ 0 ≤ (h.1 0 27) → (x6 = 0 → (j_rg (x4 + 1)) ∧ (WV Sm G M_X8_byRule Q 57 [jR 0, jI x1, jI x2, jI x3, jI (x4 + 1), jI x5, jI x6, jI x7] [] (j_up h 0 27 (h.1 0 27)))) ∧ (¬ x6 = 0 → (j_rg (x4 + 1)) ∧ (WV Sm G M_X8_byRule Q 57 [jR 0, jI x1, jI x2, jI x3, jI (x4 + 1), jI x5, jI x6, jI x7] [] (j_up h 0 27 (h.1 11 0)))))) ∧ (¬ x7 < 0 → (0 ≤ (h.1 0 27) → (0 ≤ (h.1 0 27) → (j_rg (x4 + 1)) ∧ (WV Sm G M_X8_byRule Q 57 [jR 0, jI x1, jI x2, jI x3, jI (x4 + 1), jI x5, jI x6, jI x7] [] (j_up h 0 27 (h.1 0 27)))) ∧ (¬ 0 ≤ (h.1 0 27) → (x6 = 0 → (j_rg (x4 + 1)) ∧ (WV Sm G M_X8_byRule Q 57 [jR 0, jI x1, jI x2, jI x3, jI (x4 + 1), jI x5, jI x6, jI x7] [] (j_up h 0 27 (h.1 0 27)))) ∧ (¬ x6 = 0 → (j_rg (x4 + 1)) ∧ (WV Sm G M_X8_byRule Q 57 [jR 0, jI x1, jI x2, jI x3, jI (x4 + 1), jI x5, jI x6, jI x7] [] (j_up h 0 27 (h.1 11 0)))))) ∧ (¬ 0 ≤ (h.1 0 27) → (x6 = 0 → (0 ≤ (h.1 0 27) → (j_rg (x4 + 1)) ∧ (WV Sm G M_X8_byRule Q 57 [jR 0, jI x1, jI x2, jI x3, jI (x4 + 1), jI x5, jI x6, jI x7] [] (j_up h 0 27 (h.1 0 27)))) ∧ (¬ 0 ≤ (h.1 0 27) → (x6 = 0 → (j_rg (x4 + 1)) ∧ (WV Sm G M_X8_byRule Q 57 [jR 0, jI x1, jI x2, jI x3, jI (x4 + 1), jI x5, jI x6, jI x7] [] (j_up h 0 27 (h.1 0 27)))) ∧ (¬ x6 = 0 → (j_rg (x4 + 1)) ∧ (WV Sm G M_X8_byRule Q 57 [jR 0, jI x1, jI x2, jI x3, jI (x4 + 1), jI x5, jI x6, jI x7] [] (j_up h 0 27 (h.1 11 0)))))) ∧ (¬ x6 = 0 → ∃ post : Int → jH → Prop, CT Sm M_X8_has [jI x6, jI x7] h (jPi post) ∧ ∀ (r10 : Int) (h11 : jH), post r10 h11 → ((r10 = 0 → (j_rg (x7 + (-1))) ∧ (WV Sm G M_X8_byRule Q 122 [jR 0, jI x1, jI x2, jI x3, jI x4, jI x5, jI x6, jI (x7 + (-1))] [] (j_up h11 11 0 (h11.1 11 0)))) ∧ (¬ r10 = 0 → (j_rg (x7 + (-1))) ∧ (WV Sm G M_X8_byRule Q 122 [jR 0, jI x1, jI x2, jI x3, jI x4, jI x5, jI x6, jI (x7 + (-1))] [] (j_up h11 11 0 x7)))))))) :
    WV Sm G M_X8_byRule Q 122 [jR 0, jI x1, jI x2, jI x3, jI x4, jI x5, jI x6, jI x7] [] h := by
  refine s_iload (pc := 122) dX8_byRule_122 rfl ?_
  refine s_if_lt (pc := 124) (tgt := 172) dX8_byRule_124 (by decide) (fun hc => ?_) (fun hc => ?_)
  · have H := H.1 hc
    refine s_aload_n (pc := 172) dX8_byRule_172 rfl ?_
    refine s_aload_n (pc := 173) dX8_byRule_173 rfl ?_
    refine s_geti (pc := 174) (x := h.1 0 27) dX8_byRule_174 fl_X8_194 cSm_0 rfl rfl ?_
    refine s_if_ge (pc := 177) (tgt := 194) dX8_byRule_177 (by decide) (fun hc => ?_) (fun hc => ?_)
    · have H := H.1 hc
      refine s_aload_n (pc := 194) dX8_byRule_194 rfl ?_
      refine s_geti (pc := 195) (x := h.1 0 27) dX8_byRule_195 fl_X8_194 cSm_0 rfl rfl ?_
      refine s_puti (pc := 198) dX8_byRule_198 fp_X8_194 cSm_0 rfl ?_
      obtain ⟨k1, H⟩ := H
      refine s_iinc (pc := 201) (lv' := [jR 0, jI x1, jI x2, jI x3, jI (x4 + 1), jI x5, jI x6, jI x7]) dX8_byRule_201 rfl (by decide) k1 rfl ?_
      refine s_goto (pc := 204) (tgt := 57) dX8_byRule_204 (by decide) ?_
      exact H
    · have H := H.2 hc
      refine s_iload (pc := 180) dX8_byRule_180 rfl ?_
      refine s_if_eq (pc := 182) (tgt := 194) dX8_byRule_182 (by decide) (fun hc => ?_) (fun hc => ?_)
      · have H := H.1 hc
        refine s_aload_n (pc := 194) dX8_byRule_194 rfl ?_
        refine s_geti (pc := 195) (x := h.1 0 27) dX8_byRule_195 fl_X8_194 cSm_0 rfl rfl ?_
        refine s_puti (pc := 198) dX8_byRule_198 fp_X8_194 cSm_0 rfl ?_
        obtain ⟨k2, H⟩ := H
        refine s_iinc (pc := 201) (lv' := [jR 0, jI x1, jI x2, jI x3, jI (x4 + 1), jI x5, jI x6, jI x7]) dX8_byRule_201 rfl (by decide) k2 rfl ?_
        refine s_goto (pc := 204) (tgt := 57) dX8_byRule_204 (by decide) ?_
        exact H
      · have H := H.2 hc
        refine s_aload_n (pc := 185) dX8_byRule_185 rfl ?_
        refine s_getr (pc := 186) dX8_byRule_186 fl_X8_48 cSm_0 rfl ?_
        refine s_iconst (pc := 189) dX8_byRule_189 (j_cst rfl) ?_
        refine s_iald (pc := 190) (x := h.1 11 0) dX8_byRule_190 cSm_11 ⟨by decide, by decide⟩ rfl ?_
        refine s_goto (pc := 191) (tgt := 198) dX8_byRule_191 (by decide) ?_
        refine s_puti (pc := 198) dX8_byRule_198 fp_X8_194 cSm_0 rfl ?_
        obtain ⟨k3, H⟩ := H
        refine s_iinc (pc := 201) (lv' := [jR 0, jI x1, jI x2, jI x3, jI (x4 + 1), jI x5, jI x6, jI x7]) dX8_byRule_201 rfl (by decide) k3 rfl ?_
        refine s_goto (pc := 204) (tgt := 57) dX8_byRule_204 (by decide) ?_
        exact H
  · have H := H.2 hc
    refine s_aload_n (pc := 127) dX8_byRule_127 rfl ?_
    refine s_geti (pc := 128) (x := h.1 0 27) dX8_byRule_128 fl_X8_194 cSm_0 rfl rfl ?_
    refine s_if_ge (pc := 131) (tgt := 172) dX8_byRule_131 (by decide) (fun hc => ?_) (fun hc => ?_)
    · have H := H.1 hc
      refine s_aload_n (pc := 172) dX8_byRule_172 rfl ?_
      refine s_aload_n (pc := 173) dX8_byRule_173 rfl ?_
      refine s_geti (pc := 174) (x := h.1 0 27) dX8_byRule_174 fl_X8_194 cSm_0 rfl rfl ?_
      refine s_if_ge (pc := 177) (tgt := 194) dX8_byRule_177 (by decide) (fun hc => ?_) (fun hc => ?_)
      · have H := H.1 hc
        refine s_aload_n (pc := 194) dX8_byRule_194 rfl ?_
        refine s_geti (pc := 195) (x := h.1 0 27) dX8_byRule_195 fl_X8_194 cSm_0 rfl rfl ?_
        refine s_puti (pc := 198) dX8_byRule_198 fp_X8_194 cSm_0 rfl ?_
        obtain ⟨k4, H⟩ := H
        refine s_iinc (pc := 201) (lv' := [jR 0, jI x1, jI x2, jI x3, jI (x4 + 1), jI x5, jI x6, jI x7]) dX8_byRule_201 rfl (by decide) k4 rfl ?_
        refine s_goto (pc := 204) (tgt := 57) dX8_byRule_204 (by decide) ?_
        exact H
      · have H := H.2 hc
        refine s_iload (pc := 180) dX8_byRule_180 rfl ?_
        refine s_if_eq (pc := 182) (tgt := 194) dX8_byRule_182 (by decide) (fun hc => ?_) (fun hc => ?_)
        · have H := H.1 hc
          refine s_aload_n (pc := 194) dX8_byRule_194 rfl ?_
          refine s_geti (pc := 195) (x := h.1 0 27) dX8_byRule_195 fl_X8_194 cSm_0 rfl rfl ?_
          refine s_puti (pc := 198) dX8_byRule_198 fp_X8_194 cSm_0 rfl ?_
          obtain ⟨k5, H⟩ := H
          refine s_iinc (pc := 201) (lv' := [jR 0, jI x1, jI x2, jI x3, jI (x4 + 1), jI x5, jI x6, jI x7]) dX8_byRule_201 rfl (by decide) k5 rfl ?_
          refine s_goto (pc := 204) (tgt := 57) dX8_byRule_204 (by decide) ?_
          exact H
        · have H := H.2 hc
          refine s_aload_n (pc := 185) dX8_byRule_185 rfl ?_
          refine s_getr (pc := 186) dX8_byRule_186 fl_X8_48 cSm_0 rfl ?_
          refine s_iconst (pc := 189) dX8_byRule_189 (j_cst rfl) ?_
          refine s_iald (pc := 190) (x := h.1 11 0) dX8_byRule_190 cSm_11 ⟨by decide, by decide⟩ rfl ?_
          refine s_goto (pc := 191) (tgt := 198) dX8_byRule_191 (by decide) ?_
          refine s_puti (pc := 198) dX8_byRule_198 fp_X8_194 cSm_0 rfl ?_
          obtain ⟨k6, H⟩ := H
          refine s_iinc (pc := 201) (lv' := [jR 0, jI x1, jI x2, jI x3, jI (x4 + 1), jI x5, jI x6, jI x7]) dX8_byRule_201 rfl (by decide) k6 rfl ?_
          refine s_goto (pc := 204) (tgt := 57) dX8_byRule_204 (by decide) ?_
          exact H
    · have H := H.2 hc
      refine s_iload (pc := 134) dX8_byRule_134 rfl ?_
      refine s_if_eq (pc := 136) (tgt := 172) dX8_byRule_136 (by decide) (fun hc => ?_) (fun hc => ?_)
      · have H := H.1 hc
        refine s_aload_n (pc := 172) dX8_byRule_172 rfl ?_
        refine s_aload_n (pc := 173) dX8_byRule_173 rfl ?_
        refine s_geti (pc := 174) (x := h.1 0 27) dX8_byRule_174 fl_X8_194 cSm_0 rfl rfl ?_
        refine s_if_ge (pc := 177) (tgt := 194) dX8_byRule_177 (by decide) (fun hc => ?_) (fun hc => ?_)
        · have H := H.1 hc
          refine s_aload_n (pc := 194) dX8_byRule_194 rfl ?_
          refine s_geti (pc := 195) (x := h.1 0 27) dX8_byRule_195 fl_X8_194 cSm_0 rfl rfl ?_
          refine s_puti (pc := 198) dX8_byRule_198 fp_X8_194 cSm_0 rfl ?_
          obtain ⟨k7, H⟩ := H
          refine s_iinc (pc := 201) (lv' := [jR 0, jI x1, jI x2, jI x3, jI (x4 + 1), jI x5, jI x6, jI x7]) dX8_byRule_201 rfl (by decide) k7 rfl ?_
          refine s_goto (pc := 204) (tgt := 57) dX8_byRule_204 (by decide) ?_
          exact H
        · have H := H.2 hc
          refine s_iload (pc := 180) dX8_byRule_180 rfl ?_
          refine s_if_eq (pc := 182) (tgt := 194) dX8_byRule_182 (by decide) (fun hc => ?_) (fun hc => ?_)
          · have H := H.1 hc
            refine s_aload_n (pc := 194) dX8_byRule_194 rfl ?_
            refine s_geti (pc := 195) (x := h.1 0 27) dX8_byRule_195 fl_X8_194 cSm_0 rfl rfl ?_
            refine s_puti (pc := 198) dX8_byRule_198 fp_X8_194 cSm_0 rfl ?_
            obtain ⟨k8, H⟩ := H
            refine s_iinc (pc := 201) (lv' := [jR 0, jI x1, jI x2, jI x3, jI (x4 + 1), jI x5, jI x6, jI x7]) dX8_byRule_201 rfl (by decide) k8 rfl ?_
            refine s_goto (pc := 204) (tgt := 57) dX8_byRule_204 (by decide) ?_
            exact H
          · have H := H.2 hc
            refine s_aload_n (pc := 185) dX8_byRule_185 rfl ?_
            refine s_getr (pc := 186) dX8_byRule_186 fl_X8_48 cSm_0 rfl ?_
            refine s_iconst (pc := 189) dX8_byRule_189 (j_cst rfl) ?_
            refine s_iald (pc := 190) (x := h.1 11 0) dX8_byRule_190 cSm_11 ⟨by decide, by decide⟩ rfl ?_
            refine s_goto (pc := 191) (tgt := 198) dX8_byRule_191 (by decide) ?_
            refine s_puti (pc := 198) dX8_byRule_198 fp_X8_194 cSm_0 rfl ?_
            obtain ⟨k9, H⟩ := H
            refine s_iinc (pc := 201) (lv' := [jR 0, jI x1, jI x2, jI x3, jI (x4 + 1), jI x5, jI x6, jI x7]) dX8_byRule_201 rfl (by decide) k9 rfl ?_
            refine s_goto (pc := 204) (tgt := 57) dX8_byRule_204 (by decide) ?_
            exact H
      · have H := H.2 hc
        refine s_aload_n (pc := 139) dX8_byRule_139 rfl ?_
        refine s_getr (pc := 140) dX8_byRule_140 fl_X8_48 cSm_0 rfl ?_
        refine s_iconst (pc := 143) dX8_byRule_143 (j_cst rfl) ?_
        refine s_iload (pc := 144) dX8_byRule_144 rfl ?_
        refine s_iload (pc := 146) dX8_byRule_146 rfl ?_
        obtain ⟨post, hct, H⟩ := H
        refine s_callS (pc := 148) (as := [jI x6, jI x7]) (st := [jI 0, jR 11]) (by exact dX8_byRule_148) ms_X8_201 ⟨rfl, rfl, Nat.le_of_ble_eq_true rfl, Nat.le_of_ble_eq_true rfl⟩ (Nat.le_of_ble_eq_true rfl) _ rfl hct (fun r10 h11 hp => ?_)
        obtain ⟨r10, rfl, hp⟩ := hp
        have H := H r10 h11 hp
        show WV _ _ _ _ 151 [jR 0, jI x1, jI x2, jI x3, jI x4, jI x5, jI x6, jI x7] [jI r10, jI 0, jR 11] h11
        refine s_if_eq (pc := 151) (tgt := 159) dX8_byRule_151 (by decide) (fun hc => ?_) (fun hc => ?_)
        · have H := H.1 hc
          refine s_aload_n (pc := 159) dX8_byRule_159 rfl ?_
          refine s_getr (pc := 160) dX8_byRule_160 fl_X8_48 cSm_0 rfl ?_
          refine s_iconst (pc := 163) dX8_byRule_163 (j_cst rfl) ?_
          refine s_iald (pc := 164) (x := h11.1 11 0) dX8_byRule_164 cSm_11 ⟨by decide, by decide⟩ rfl ?_
          refine s_iast (pc := 165) dX8_byRule_165 cSm_11 ⟨by decide, by decide⟩ ?_
          obtain ⟨k12, H⟩ := H
          refine s_iinc (pc := 166) (lv' := [jR 0, jI x1, jI x2, jI x3, jI x4, jI x5, jI x6, jI (x7 + (-1))]) dX8_byRule_166 rfl (by decide) k12 rfl ?_
          refine s_goto (pc := 169) (tgt := 122) dX8_byRule_169 (by decide) ?_
          exact H
        · have H := H.2 hc
          refine s_iload (pc := 154) dX8_byRule_154 rfl ?_
          refine s_goto (pc := 156) (tgt := 165) dX8_byRule_156 (by decide) ?_
          refine s_iast (pc := 165) dX8_byRule_165 cSm_11 ⟨by decide, by decide⟩ ?_
          obtain ⟨k13, H⟩ := H
          refine s_iinc (pc := 166) (lv' := [jR 0, jI x1, jI x2, jI x3, jI x4, jI x5, jI x6, jI (x7 + (-1))]) dX8_byRule_166 rfl (by decide) k13 rfl ?_
          refine s_goto (pc := 169) (tgt := 122) dX8_byRule_169 (by decide) ?_
          exact H
set_option maxRecDepth 20000 in
theorem vc_X8_byRule_0_213 {G : jG} {Q : jQ} {x1 x2 x3 x4 x5 : Int} {u6 u7 : jV} {h : jH}
    (H : ((h.1 0 15) ≤ x5 → (x3 = 0 → ∃ post : Int → jH → Prop, CT Sm M_X8_setOf [jR 0, jR 6, jI 3] h (jPi post) ∧ ∀ (r1 : Int) (h2 : jH), post r1 h2 → (∃ post : Int → jH → Prop, CT Sm M_X8_bits [jI r1] h2 (jPi post) ∧ ∀ (r3 : Int) (h4 : jH), post r3 h4 → (Q (some (jI r3)) h4))) ∧ (¬ x3 = 0 → (x3 = 1 → Q (some (jI x4)) h) ∧ (¬ x3 = 1 → Q (some (jI (h.1 0 27))) h))) ∧ (¬ (h.1 0 15) ≤ x5 → (j_rg (21 + x5)) ∧ ((0 ≤ 21 + x5 ∧ 21 + x5 < 28) ∧ ((j_rg (x4 + (h.1 6 (Int.toNat (21 + x5))))) ∧ ((j_rg (x5 + 1)) ∧ (WV Sm G M_X8_byRule Q 213 [jR 0, jI x1, jI x2, jI x3, jI (x4 + (h.1 6 (Int.toNat (21 + x5)))), jI (x5 + 1), u6, u7] [] h)))))) :
    WV Sm G M_X8_byRule Q 213 [jR 0, jI x1, jI x2, jI x3, jI x4, jI x5, u6, u7] [] h := by
  refine s_iload (pc := 213) dX8_byRule_213 rfl ?_
  refine s_aload_n (pc := 215) dX8_byRule_215 rfl ?_
  refine s_geti (pc := 216) (x := h.1 0 15) dX8_byRule_216 fl_X8_57 cSm_0 rfl rfl ?_
  refine s_icmp_ge (pc := 219) (tgt := 243) dX8_byRule_219 (by decide) (fun hc => ?_) (fun hc => ?_)
  · have H := H.1 hc
    refine s_iload_n (pc := 243) dX8_byRule_243 rfl ?_
    refine s_if_ne (pc := 244) (tgt := 262) dX8_byRule_244 (by decide) (fun hc => ?_) (fun hc => ?_)
    · have H := H.2 hc
      refine s_iload_n (pc := 262) dX8_byRule_262 rfl ?_
      refine s_iconst (pc := 263) dX8_byRule_263 (j_cst rfl) ?_
      refine s_icmp_ne (pc := 264) (tgt := 272) dX8_byRule_264 (by decide) (fun hc => ?_) (fun hc => ?_)
      · have H := H.2 hc
        refine s_aload_n (pc := 272) dX8_byRule_272 rfl ?_
        refine s_geti (pc := 273) (x := h.1 0 27) dX8_byRule_273 fl_X8_194 cSm_0 rfl rfl ?_
        exact s_iret dX8_byRule_276 rfl H
      · have H := H.1 hc
        refine s_iload (pc := 267) dX8_byRule_267 rfl ?_
        refine s_goto (pc := 269) (tgt := 276) dX8_byRule_269 (by decide) ?_
        exact s_iret dX8_byRule_276 rfl H
    · have H := H.1 hc
      refine s_aload_n (pc := 247) dX8_byRule_247 rfl ?_
      refine s_aload_n (pc := 248) dX8_byRule_248 rfl ?_
      refine s_getr (pc := 249) dX8_byRule_249 fl_X8_32 cSm_0 rfl ?_
      refine s_iconst (pc := 252) dX8_byRule_252 (j_cst rfl) ?_
      obtain ⟨post, hct, H⟩ := H
      refine s_callV (pc := 253) (as := [jR 6, jI 3]) (st := []) (by exact dX8_byRule_253) mv_X8_131 ⟨rfl, rfl, Nat.le_of_ble_eq_true rfl, Nat.le_of_ble_eq_true rfl⟩ cSm_0 rfl rfl (Nat.le_of_ble_eq_true rfl) _ rfl hct (fun r1 h2 hp => ?_)
      obtain ⟨r1, rfl, hp⟩ := hp
      have H := H r1 h2 hp
      show WV _ _ _ _ 256 [jR 0, jI x1, jI x2, jI x3, jI x4, jI x5, u6, u7] [jI r1] h2
      obtain ⟨post, hct, H⟩ := H
      refine s_callS (pc := 256) (as := [jI r1]) (st := []) (by exact dX8_byRule_256) ms_X8_135 ⟨rfl, rfl, Nat.le_of_ble_eq_true rfl, Nat.le_of_ble_eq_true rfl⟩ (Nat.le_of_ble_eq_true rfl) _ rfl hct (fun r3 h4 hp => ?_)
      obtain ⟨r3, rfl, hp⟩ := hp
      have H := H r3 h4 hp
      show WV _ _ _ _ 259 [jR 0, jI x1, jI x2, jI x3, jI x4, jI x5, u6, u7] [jI r3] h4
      refine s_goto (pc := 259) (tgt := 276) dX8_byRule_259 (by decide) ?_
      exact s_iret dX8_byRule_276 rfl H
  · have H := H.2 hc
    refine s_iload (pc := 222) dX8_byRule_222 rfl ?_
    refine s_aload_n (pc := 224) dX8_byRule_224 rfl ?_
    refine s_getr (pc := 225) dX8_byRule_225 fl_X8_32 cSm_0 rfl ?_
    refine s_bipush (pc := 228) dX8_byRule_228 rfl (j_cst rfl) ?_
    refine s_iload (pc := 230) dX8_byRule_230 rfl ?_
    obtain ⟨k5, H⟩ := H
    refine s_iadd (pc := 232) dX8_byRule_232 k5 ?_
    obtain ⟨k6, H⟩ := H
    refine s_iald (pc := 233) (x := h.1 6 (Int.toNat (21 + x5))) dX8_byRule_233 cSm_6 k6 rfl ?_
    obtain ⟨k7, H⟩ := H
    refine s_iadd (pc := 234) dX8_byRule_234 k7 ?_
    refine s_istore (pc := 235) (lv' := [jR 0, jI x1, jI x2, jI x3, jI (x4 + (h.1 6 (Int.toNat (21 + x5)))), jI x5, u6, u7]) dX8_byRule_235 (by decide) rfl ?_
    obtain ⟨k8, H⟩ := H
    refine s_iinc (pc := 237) (lv' := [jR 0, jI x1, jI x2, jI x3, jI (x4 + (h.1 6 (Int.toNat (21 + x5)))), jI (x5 + 1), u6, u7]) dX8_byRule_237 rfl (by decide) k8 rfl ?_
    refine s_goto (pc := 240) (tgt := 213) dX8_byRule_240 (by decide) ?_
    exact H
theorem en_X8_isEnough_0 {x1 : Int} {h : jH} {post : jQ} (k : ∀ G, WV Sm G M_X8_isEnough post 0 [jR 0, jI x1, jU, jU] [] h) : CT Sm M_X8_isEnough [jR 0, jI x1] h post := CT.of (by decide +kernel) (by simp [j_un]) (Nat.le_of_ble_eq_true rfl) _ rfl k
set_option maxRecDepth 20000 in
theorem vc_X8_isEnough_0_0 {G : jG} {Q : jQ} {x1 : Int} {h : jH}
    (H : ∃ post : jH → Prop, CT Sm M_X8_copy [jR 5, jI 0, jR 6, jI 0] h (jPv post) ∧ ∀ (h2 : jH), post h2 → (WV Sm G M_X8_isEnough Q 15 [jR 0, jI x1, jI 0, jU] [] h2)) :
    WV Sm G M_X8_isEnough Q 0 [jR 0, jI x1, jU, jU] [] h := by
  refine s_aload_n (pc := 0) dX8_isEnough_0 rfl ?_
  refine s_getr (pc := 1) dX8_isEnough_1 fl_X8_29 cSm_0 rfl ?_
  refine s_iconst (pc := 4) dX8_isEnough_4 (j_cst rfl) ?_
  refine s_aload_n (pc := 5) dX8_isEnough_5 rfl ?_
  refine s_getr (pc := 6) dX8_isEnough_6 fl_X8_32 cSm_0 rfl ?_
  refine s_iconst (pc := 9) dX8_isEnough_9 (j_cst rfl) ?_
  obtain ⟨post, hct, H⟩ := H
  refine s_callS (pc := 10) (as := [jR 5, jI 0, jR 6, jI 0]) (st := []) (by exact dX8_isEnough_10) ms_X8_168 ⟨rfl, rfl, Nat.le_of_ble_eq_true rfl, Nat.le_of_ble_eq_true rfl⟩ (Nat.le_of_ble_eq_true rfl) _ rfl hct (fun r1 h2 hp => ?_)
  obtain ⟨rfl, hp⟩ := hp
  have H := H h2 hp
  show WV _ _ _ _ 13 [jR 0, jI x1, jU, jU] [] h2
  refine s_iconst (pc := 13) dX8_isEnough_13 (j_cst rfl) ?_
  refine s_istore_n (pc := 14) (lv' := [jR 0, jI x1, jI 0, jU]) dX8_isEnough_14 (by decide) rfl ?_
  exact H
set_option maxRecDepth 20000 in
theorem vc_X8_isEnough_0_15 {G : jG} {Q : jQ} {x1 x2 : Int} {u3 : jV} {h : jH}
    (H : (60 ≤ x2 → Q (some (jI 1)) h) ∧ (¬ 60 ≤ x2 → ∃ post : jH → Prop, CT Sm M_X8_plugAll [jR 0, jR 10, jI (h.1 0 15), jI x1] h (jPv post) ∧ ∀ (h2 : jH), post h2 → (WV Sm G M_X8_isEnough Q 36 [jR 0, jI x1, jI x2, jI 0] [] h2))) :
    WV Sm G M_X8_isEnough Q 15 [jR 0, jI x1, jI x2, u3] [] h := by
  refine s_iload_n (pc := 15) dX8_isEnough_15 rfl ?_
  refine s_bipush (pc := 16) dX8_isEnough_16 rfl (j_cst rfl) ?_
  refine s_icmp_ge (pc := 18) (tgt := 103) dX8_isEnough_18 (by decide) (fun hc => ?_) (fun hc => ?_)
  · have H := H.1 hc
    refine s_iconst (pc := 103) dX8_isEnough_103 (j_cst rfl) ?_
    exact s_zret dX8_isEnough_104 rfl (Or.inr rfl) H
  · have H := H.2 hc
    refine s_aload_n (pc := 21) dX8_isEnough_21 rfl ?_
    refine s_aload_n (pc := 22) dX8_isEnough_22 rfl ?_
    refine s_getr (pc := 23) dX8_isEnough_23 fl_X8_45 cSm_0 rfl ?_
    refine s_aload_n (pc := 26) dX8_isEnough_26 rfl ?_
    refine s_geti (pc := 27) (x := h.1 0 15) dX8_isEnough_27 fl_X8_57 cSm_0 rfl rfl ?_
    refine s_iload_n (pc := 30) dX8_isEnough_30 rfl ?_
    obtain ⟨post, hct, H⟩ := H
    refine s_callV (pc := 31) (as := [jR 10, jI (h.1 0 15), jI x1]) (st := []) (by exact dX8_isEnough_31) mv_X8_197 ⟨rfl, rfl, Nat.le_of_ble_eq_true rfl, Nat.le_of_ble_eq_true rfl⟩ cSm_0 rfl rfl (Nat.le_of_ble_eq_true rfl) _ rfl hct (fun r1 h2 hp => ?_)
    obtain ⟨rfl, hp⟩ := hp
    have H := H h2 hp
    show WV _ _ _ _ 34 [jR 0, jI x1, jI x2, u3] [] h2
    refine s_iconst (pc := 34) dX8_isEnough_34 (j_cst rfl) ?_
    refine s_istore_n (pc := 35) (lv' := [jR 0, jI x1, jI x2, jI 0]) dX8_isEnough_35 (by decide) rfl ?_
    exact H
set_option maxRecDepth 20000 in
theorem vc_X8_isEnough_0_36 {G : jG} {Q : jQ} {x1 x2 x3 : Int} {h : jH}
    (H : ((h.1 0 15) ≤ x3 → ∃ post : jH → Prop, CT Sm M_X8_pass [jR 0, jR 6] h (jPv post) ∧ ∀ (h2 : jH), post h2 → ((j_rg (x2 + 1)) ∧ (WV Sm G M_X8_isEnough Q 15 [jR 0, jI x1, jI (x2 + 1), jI x3] [] h2))) ∧ (¬ (h.1 0 15) ≤ x3 → (j_rg (7 + x3)) ∧ ((0 ≤ 7 + x3 ∧ 7 + x3 < 28) ∧ (((h.1 6 (Int.toNat (7 + x3))) = 1 → ∃ post : Int → jH → Prop, CT Sm M_X8_freeCords [jR 0, jR 6, jI x1] h (jPi post) ∧ ∀ (r7 : Int) (h8 : jH), post r7 h8 → ((0 < r7 → (j_rg (x3 + 1)) ∧ (WV Sm G M_X8_isEnough Q 36 [jR 0, jI x1, jI x2, jI (x3 + 1)] [] h8)) ∧ (¬ 0 < r7 → ∃ post : Int → jH → Prop, CT Sm M_X8_areFree [jR 0, jR 6, jI x3] h8 (jPi post) ∧ ∀ (r10 : Int) (h11 : jH), post r10 h11 → ((r10 = 0 → (j_rg (x3 + 1)) ∧ (WV Sm G M_X8_isEnough Q 36 [jR 0, jI x1, jI x2, jI (x3 + 1)] [] h11)) ∧ (¬ r10 = 0 → Q (some (jI 0)) h11))))) ∧ (¬ (h.1 6 (Int.toNat (7 + x3))) = 1 → (j_rg (x3 + 1)) ∧ (WV Sm G M_X8_isEnough Q 36 [jR 0, jI x1, jI x2, jI (x3 + 1)] [] h)))))) :
    WV Sm G M_X8_isEnough Q 36 [jR 0, jI x1, jI x2, jI x3] [] h := by
  refine s_iload_n (pc := 36) dX8_isEnough_36 rfl ?_
  refine s_aload_n (pc := 37) dX8_isEnough_37 rfl ?_
  refine s_geti (pc := 38) (x := h.1 0 15) dX8_isEnough_38 fl_X8_57 cSm_0 rfl rfl ?_
  refine s_icmp_ge (pc := 41) (tgt := 89) dX8_isEnough_41 (by decide) (fun hc => ?_) (fun hc => ?_)
  · have H := H.1 hc
    refine s_aload_n (pc := 89) dX8_isEnough_89 rfl ?_
    refine s_aload_n (pc := 90) dX8_isEnough_90 rfl ?_
    refine s_getr (pc := 91) dX8_isEnough_91 fl_X8_32 cSm_0 rfl ?_
    obtain ⟨post, hct, H⟩ := H
    refine s_callV (pc := 94) (as := [jR 6]) (st := []) (by exact dX8_isEnough_94) mv_X8_175 ⟨rfl, rfl, Nat.le_of_ble_eq_true rfl, Nat.le_of_ble_eq_true rfl⟩ cSm_0 rfl rfl (Nat.le_of_ble_eq_true rfl) _ rfl hct (fun r1 h2 hp => ?_)
    obtain ⟨rfl, hp⟩ := hp
    have H := H h2 hp
    show WV _ _ _ _ 97 [jR 0, jI x1, jI x2, jI x3] [] h2
    obtain ⟨k3, H⟩ := H
    refine s_iinc (pc := 97) (lv' := [jR 0, jI x1, jI (x2 + 1), jI x3]) dX8_isEnough_97 rfl (by decide) k3 rfl ?_
    refine s_goto (pc := 100) (tgt := 15) dX8_isEnough_100 (by decide) ?_
    exact H
  · have H := H.2 hc
    refine s_aload_n (pc := 44) dX8_isEnough_44 rfl ?_
    refine s_getr (pc := 45) dX8_isEnough_45 fl_X8_32 cSm_0 rfl ?_
    refine s_bipush (pc := 48) dX8_isEnough_48 rfl (j_cst rfl) ?_
    refine s_iload_n (pc := 50) dX8_isEnough_50 rfl ?_
    obtain ⟨k4, H⟩ := H
    refine s_iadd (pc := 51) dX8_isEnough_51 k4 ?_
    obtain ⟨k5, H⟩ := H
    refine s_iald (pc := 52) (x := h.1 6 (Int.toNat (7 + x3))) dX8_isEnough_52 cSm_6 k5 rfl ?_
    refine s_iconst (pc := 53) dX8_isEnough_53 (j_cst rfl) ?_
    refine s_icmp_ne (pc := 54) (tgt := 83) dX8_isEnough_54 (by decide) (fun hc => ?_) (fun hc => ?_)
    · have H := H.2 hc
      obtain ⟨k6, H⟩ := H
      refine s_iinc (pc := 83) (lv' := [jR 0, jI x1, jI x2, jI (x3 + 1)]) dX8_isEnough_83 rfl (by decide) k6 rfl ?_
      refine s_goto (pc := 86) (tgt := 36) dX8_isEnough_86 (by decide) ?_
      exact H
    · have H := H.1 hc
      refine s_aload_n (pc := 57) dX8_isEnough_57 rfl ?_
      refine s_aload_n (pc := 58) dX8_isEnough_58 rfl ?_
      refine s_getr (pc := 59) dX8_isEnough_59 fl_X8_32 cSm_0 rfl ?_
      refine s_iload_n (pc := 62) dX8_isEnough_62 rfl ?_
      obtain ⟨post, hct, H⟩ := H
      refine s_callV (pc := 63) (as := [jR 6, jI x1]) (st := []) (by exact dX8_isEnough_63) mv_X8_141 ⟨rfl, rfl, Nat.le_of_ble_eq_true rfl, Nat.le_of_ble_eq_true rfl⟩ cSm_0 rfl rfl (Nat.le_of_ble_eq_true rfl) _ rfl hct (fun r7 h8 hp => ?_)
      obtain ⟨r7, rfl, hp⟩ := hp
      have H := H r7 h8 hp
      show WV _ _ _ _ 66 [jR 0, jI x1, jI x2, jI x3] [jI r7] h8
      refine s_if_gt (pc := 66) (tgt := 83) dX8_isEnough_66 (by decide) (fun hc => ?_) (fun hc => ?_)
      · have H := H.1 hc
        obtain ⟨k9, H⟩ := H
        refine s_iinc (pc := 83) (lv' := [jR 0, jI x1, jI x2, jI (x3 + 1)]) dX8_isEnough_83 rfl (by decide) k9 rfl ?_
        refine s_goto (pc := 86) (tgt := 36) dX8_isEnough_86 (by decide) ?_
        exact H
      · have H := H.2 hc
        refine s_aload_n (pc := 69) dX8_isEnough_69 rfl ?_
        refine s_aload_n (pc := 70) dX8_isEnough_70 rfl ?_
        refine s_getr (pc := 71) dX8_isEnough_71 fl_X8_32 cSm_0 rfl ?_
        refine s_iload_n (pc := 74) dX8_isEnough_74 rfl ?_
        obtain ⟨post, hct, H⟩ := H
        refine s_callV (pc := 75) (as := [jR 6, jI x3]) (st := []) (by exact dX8_isEnough_75) mv_X8_144 ⟨rfl, rfl, Nat.le_of_ble_eq_true rfl, Nat.le_of_ble_eq_true rfl⟩ cSm_0 rfl rfl (Nat.le_of_ble_eq_true rfl) _ rfl hct (fun r10 h11 hp => ?_)
        obtain ⟨r10, rfl, hp⟩ := hp
        have H := H r10 h11 hp
        show WV _ _ _ _ 78 [jR 0, jI x1, jI x2, jI x3] [jI r10] h11
        refine s_if_eq (pc := 78) (tgt := 83) dX8_isEnough_78 (by decide) (fun hc => ?_) (fun hc => ?_)
        · have H := H.1 hc
          obtain ⟨k12, H⟩ := H
          refine s_iinc (pc := 83) (lv' := [jR 0, jI x1, jI x2, jI (x3 + 1)]) dX8_isEnough_83 rfl (by decide) k12 rfl ?_
          refine s_goto (pc := 86) (tgt := 36) dX8_isEnough_86 (by decide) ?_
          exact H
        · have H := H.2 hc
          refine s_iconst (pc := 81) dX8_isEnough_81 (j_cst rfl) ?_
          exact s_zret dX8_isEnough_82 rfl (Or.inl rfl) H
theorem en_X8_enough_0 {x1 : Int} {h : jH} {post : jQ} (k : ∀ G, WV Sm G M_X8_enough post 0 [jR 0, jI x1, jU] [] h) : CT Sm M_X8_enough [jR 0, jI x1] h post := CT.of (by decide +kernel) (by simp [j_un]) (Nat.le_of_ble_eq_true rfl) _ rfl k
set_option maxRecDepth 20000 in
theorem vc_X8_enough_0_0 {G : jG} {Q : jQ} {x1 : Int} {h : jH}
    (H : ∃ post : Int → jH → Prop, CT Sm M_X8_in [jI x1, jI 0, jI 2] h (jPi post) ∧ ∀ (r1 : Int) (h2 : jH), post r1 h2 → ((r1 = 0 → Q (some (jI (-1))) h2) ∧ (¬ r1 = 0 → ∃ post : jH → Prop, CT Sm M_X8_layOrder [jR 0, jI x1] h2 (jPv post) ∧ ∀ (h4 : jH), post h4 → (WV Sm G M_X8_enough Q 18 [jR 0, jI x1, jI 1] [] h4)))) :
    WV Sm G M_X8_enough Q 0 [jR 0, jI x1, jU] [] h := by
  refine s_iload_n (pc := 0) dX8_enough_0 rfl ?_
  refine s_iconst (pc := 1) dX8_enough_1 (j_cst rfl) ?_
  refine s_iconst (pc := 2) dX8_enough_2 (j_cst rfl) ?_
  obtain ⟨post, hct, H⟩ := H
  refine s_callS (pc := 3) (as := [jI x1, jI 0, jI 2]) (st := []) (by exact dX8_enough_3) ms_X8_63 ⟨rfl, rfl, Nat.le_of_ble_eq_true rfl, Nat.le_of_ble_eq_true rfl⟩ (Nat.le_of_ble_eq_true rfl) _ rfl hct (fun r1 h2 hp => ?_)
  obtain ⟨r1, rfl, hp⟩ := hp
  have H := H r1 h2 hp
  show WV _ _ _ _ 6 [jR 0, jI x1, jU] [jI r1] h2
  refine s_if_ne (pc := 6) (tgt := 11) dX8_enough_6 (by decide) (fun hc => ?_) (fun hc => ?_)
  · have H := H.2 hc
    refine s_aload_n (pc := 11) dX8_enough_11 rfl ?_
    refine s_iload_n (pc := 12) dX8_enough_12 rfl ?_
    obtain ⟨post, hct, H⟩ := H
    refine s_callV (pc := 13) (as := [jI x1]) (st := []) (by exact dX8_enough_13) mv_X8_190 ⟨rfl, rfl, Nat.le_of_ble_eq_true rfl, Nat.le_of_ble_eq_true rfl⟩ cSm_0 rfl rfl (Nat.le_of_ble_eq_true rfl) _ rfl hct (fun r3 h4 hp => ?_)
    obtain ⟨rfl, hp⟩ := hp
    have H := H h4 hp
    show WV _ _ _ _ 16 [jR 0, jI x1, jU] [] h4
    refine s_iconst (pc := 16) dX8_enough_16 (j_cst rfl) ?_
    refine s_istore_n (pc := 17) (lv' := [jR 0, jI x1, jI 1]) dX8_enough_17 (by decide) rfl ?_
    exact H
  · have H := H.1 hc
    refine s_iconst (pc := 9) dX8_enough_9 (j_cst rfl) ?_
    exact s_iret dX8_enough_10 rfl H
set_option maxRecDepth 20000 in
theorem vc_X8_enough_0_18 {G : jG} {Q : jQ} {x1 x2 : Int} {h : jH}
    (H : (4 < x2 → Q (some (jI (-9))) h) ∧ (¬ 4 < x2 → ∃ post : Int → jH → Prop, CT Sm M_X8_isEnough [jR 0, jI x2] h (jPi post) ∧ ∀ (r1 : Int) (h2 : jH), post r1 h2 → ((r1 = 0 → (j_rg (x2 + 1)) ∧ (WV Sm G M_X8_enough Q 18 [jR 0, jI x1, jI (x2 + 1)] [] h2)) ∧ (¬ r1 = 0 → Q (some (jI x2)) h2)))) :
    WV Sm G M_X8_enough Q 18 [jR 0, jI x1, jI x2] [] h := by
  refine s_iload_n (pc := 18) dX8_enough_18 rfl ?_
  refine s_iconst (pc := 19) dX8_enough_19 (j_cst rfl) ?_
  refine s_icmp_gt (pc := 20) (tgt := 39) dX8_enough_20 (by decide) (fun hc => ?_) (fun hc => ?_)
  · have H := H.1 hc
    refine s_bipush (pc := 39) dX8_enough_39 rfl (j_cst rfl) ?_
    exact s_iret dX8_enough_41 rfl H
  · have H := H.2 hc
    refine s_aload_n (pc := 23) dX8_enough_23 rfl ?_
    refine s_iload_n (pc := 24) dX8_enough_24 rfl ?_
    obtain ⟨post, hct, H⟩ := H
    refine s_callV (pc := 25) (as := [jI x2]) (st := []) (by exact dX8_enough_25) mv_X8_204 ⟨rfl, rfl, Nat.le_of_ble_eq_true rfl, Nat.le_of_ble_eq_true rfl⟩ cSm_0 rfl rfl (Nat.le_of_ble_eq_true rfl) _ rfl hct (fun r1 h2 hp => ?_)
    obtain ⟨r1, rfl, hp⟩ := hp
    have H := H r1 h2 hp
    show WV _ _ _ _ 28 [jR 0, jI x1, jI x2] [jI r1] h2
    refine s_if_eq (pc := 28) (tgt := 33) dX8_enough_28 (by decide) (fun hc => ?_) (fun hc => ?_)
    · have H := H.1 hc
      obtain ⟨k3, H⟩ := H
      refine s_iinc (pc := 33) (lv' := [jR 0, jI x1, jI (x2 + 1)]) dX8_enough_33 rfl (by decide) k3 rfl ?_
      refine s_goto (pc := 36) (tgt := 18) dX8_enough_36 (by decide) ?_
      exact H
    · have H := H.2 hc
      refine s_iload_n (pc := 31) dX8_enough_31 rfl ?_
      exact s_iret dX8_enough_32 rfl H
theorem en_X8_nextRow_0_11 {x2 : Int} {h : jH} {post : jQ} (k : ∀ G, WV Sm G M_X8_nextRow post 0 [jR 0, jR 11, jI x2, jU, jU, jU, jU, jU, jU] [] h) : CT Sm M_X8_nextRow [jR 0, jR 11, jI x2] h post := CT.of (by decide +kernel) (by simp [j_un]) (Nat.le_of_ble_eq_true rfl) _ rfl k
set_option maxRecDepth 20000 in
theorem vc_X8_nextRow_0_11_0 {G : jG} {Q : jQ} {x2 : Int} {h : jH}
    (H : (j_rg (x2 - 2)) ∧ (WV Sm G M_X8_nextRow Q 4 [jR 0, jR 11, jI x2, jI (x2 - 2), jU, jU, jU, jU, jU] [] h)) :
    WV Sm G M_X8_nextRow Q 0 [jR 0, jR 11, jI x2, jU, jU, jU, jU, jU, jU] [] h := by
  refine s_iload_n (pc := 0) dX8_nextRow_0 rfl ?_
  refine s_iconst (pc := 1) dX8_nextRow_1 (j_cst rfl) ?_
  obtain ⟨k1, H⟩ := H
  refine s_isub (pc := 2) dX8_nextRow_2 k1 ?_
  refine s_istore_n (pc := 3) (lv' := [jR 0, jR 11, jI x2, jI (x2 - 2), jU, jU, jU, jU, jU]) dX8_nextRow_3 (by decide) rfl ?_
  exact H
set_option maxRecDepth 20000 in
theorem vc_X8_nextRow_0_11_4 {G : jG} {Q : jQ} {x2 x3 : Int} {h : jH}
    (H : (x3 < 0 → (0 ≤ x3 → (j_rg (x2 - 1)) ∧ (WV Sm G M_X8_nextRow Q 36 [jR 0, jR 11, jI x2, jI x3, jI (x2 - 1), jU, jU, jU, jU] [] h)) ∧ (¬ 0 ≤ x3 → Q (some (jI 0)) h)) ∧ (¬ x3 < 0 → (0 ≤ x3 ∧ x3 < 7) ∧ ((j_rg (x3 + 1)) ∧ ((0 ≤ x3 + 1 ∧ x3 + 1 < 7) ∧ (((h.1 11 (Int.toNat x3)) ≤ (h.1 11 (Int.toNat (x3 + 1))) → (0 ≤ x3 → (j_rg (x2 - 1)) ∧ (WV Sm G M_X8_nextRow Q 36 [jR 0, jR 11, jI x2, jI x3, jI (x2 - 1), jU, jU, jU, jU] [] h)) ∧ (¬ 0 ≤ x3 → Q (some (jI 0)) h)) ∧ (¬ (h.1 11 (Int.toNat x3)) ≤ (h.1 11 (Int.toNat (x3 + 1))) → (j_rg (x3 + (-1))) ∧ (WV Sm G M_X8_nextRow Q 4 [jR 0, jR 11, jI x2, jI (x3 + (-1)), jU, jU, jU, jU, jU] [] h))))))) :
    WV Sm G M_X8_nextRow Q 4 [jR 0, jR 11, jI x2, jI x3, jU, jU, jU, jU, jU] [] h := by
  refine s_iload_n (pc := 4) dX8_nextRow_4 rfl ?_
  refine s_if_lt (pc := 5) (tgt := 25) dX8_nextRow_5 (by decide) (fun hc => ?_) (fun hc => ?_)
  · have H := H.1 hc
    refine s_iload_n (pc := 25) dX8_nextRow_25 rfl ?_
    refine s_if_ge (pc := 26) (tgt := 31) dX8_nextRow_26 (by decide) (fun hc => ?_) (fun hc => ?_)
    · have H := H.1 hc
      refine s_iload_n (pc := 31) dX8_nextRow_31 rfl ?_
      refine s_iconst (pc := 32) dX8_nextRow_32 (j_cst rfl) ?_
      obtain ⟨k1, H⟩ := H
      refine s_isub (pc := 33) dX8_nextRow_33 k1 ?_
      refine s_istore (pc := 34) (lv' := [jR 0, jR 11, jI x2, jI x3, jI (x2 - 1), jU, jU, jU, jU]) dX8_nextRow_34 (by decide) rfl ?_
      exact H
    · have H := H.2 hc
      refine s_iconst (pc := 29) dX8_nextRow_29 (j_cst rfl) ?_
      exact s_zret dX8_nextRow_30 rfl (Or.inl rfl) H
  · have H := H.2 hc
    refine s_aload_n (pc := 8) dX8_nextRow_8 rfl ?_
    refine s_iload_n (pc := 9) dX8_nextRow_9 rfl ?_
    obtain ⟨k2, H⟩ := H
    refine s_iald (pc := 10) (x := h.1 11 (Int.toNat x3)) dX8_nextRow_10 cSm_11 k2 rfl ?_
    refine s_aload_n (pc := 11) dX8_nextRow_11 rfl ?_
    refine s_iload_n (pc := 12) dX8_nextRow_12 rfl ?_
    refine s_iconst (pc := 13) dX8_nextRow_13 (j_cst rfl) ?_
    obtain ⟨k3, H⟩ := H
    refine s_iadd (pc := 14) dX8_nextRow_14 k3 ?_
    obtain ⟨k4, H⟩ := H
    refine s_iald (pc := 15) (x := h.1 11 (Int.toNat (x3 + 1))) dX8_nextRow_15 cSm_11 k4 rfl ?_
    refine s_icmp_le (pc := 16) (tgt := 25) dX8_nextRow_16 (by decide) (fun hc => ?_) (fun hc => ?_)
    · have H := H.1 hc
      refine s_iload_n (pc := 25) dX8_nextRow_25 rfl ?_
      refine s_if_ge (pc := 26) (tgt := 31) dX8_nextRow_26 (by decide) (fun hc => ?_) (fun hc => ?_)
      · have H := H.1 hc
        refine s_iload_n (pc := 31) dX8_nextRow_31 rfl ?_
        refine s_iconst (pc := 32) dX8_nextRow_32 (j_cst rfl) ?_
        obtain ⟨k5, H⟩ := H
        refine s_isub (pc := 33) dX8_nextRow_33 k5 ?_
        refine s_istore (pc := 34) (lv' := [jR 0, jR 11, jI x2, jI x3, jI (x2 - 1), jU, jU, jU, jU]) dX8_nextRow_34 (by decide) rfl ?_
        exact H
      · have H := H.2 hc
        refine s_iconst (pc := 29) dX8_nextRow_29 (j_cst rfl) ?_
        exact s_zret dX8_nextRow_30 rfl (Or.inl rfl) H
    · have H := H.2 hc
      obtain ⟨k6, H⟩ := H
      refine s_iinc (pc := 19) (lv' := [jR 0, jR 11, jI x2, jI (x3 + (-1)), jU, jU, jU, jU, jU]) dX8_nextRow_19 rfl (by decide) k6 rfl ?_
      refine s_goto (pc := 22) (tgt := 4) dX8_nextRow_22 (by decide) ?_
      exact H
set_option maxRecDepth 20000 in
theorem vc_X8_nextRow_0_11_36 {G : jG} {Q : jQ} {x2 x3 x4 : Int} {h : jH}
    (H : (0 ≤ x4 ∧ x4 < 7) ∧ ((0 ≤ x3 ∧ x3 < 7) ∧ (((h.1 11 (Int.toNat x3)) ≤ (h.1 11 (Int.toNat x4)) → (j_rg (x3 + 1)) ∧ ((j_rg (x2 - 1)) ∧ (WV Sm G M_X8_nextRow Q 80 [jR 0, jR 11, jI x2, jI x3, jI x4, jI (h.1 11 (Int.toNat x3)), jI (x3 + 1), jI (x2 - 1), jU] [] (j_up (j_up h 11 (Int.toNat x3) (h.1 11 (Int.toNat x4))) 11 (Int.toNat x4) (h.1 11 (Int.toNat x3)))))) ∧ (¬ (h.1 11 (Int.toNat x3)) ≤ (h.1 11 (Int.toNat x4)) → (j_rg (x4 + (-1))) ∧ (WV Sm G M_X8_nextRow Q 36 [jR 0, jR 11, jI x2, jI x3, jI (x4 + (-1)), jU, jU, jU, jU] [] h))))) :
    WV Sm G M_X8_nextRow Q 36 [jR 0, jR 11, jI x2, jI x3, jI x4, jU, jU, jU, jU] [] h := by
  refine s_aload_n (pc := 36) dX8_nextRow_36 rfl ?_
  refine s_iload (pc := 37) dX8_nextRow_37 rfl ?_
  obtain ⟨k1, H⟩ := H
  refine s_iald (pc := 39) (x := h.1 11 (Int.toNat x4)) dX8_nextRow_39 cSm_11 k1 rfl ?_
  refine s_aload_n (pc := 40) dX8_nextRow_40 rfl ?_
  refine s_iload_n (pc := 41) dX8_nextRow_41 rfl ?_
  obtain ⟨k2, H⟩ := H
  refine s_iald (pc := 42) (x := h.1 11 (Int.toNat x3)) dX8_nextRow_42 cSm_11 k2 rfl ?_
  refine s_icmp_ge (pc := 43) (tgt := 52) dX8_nextRow_43 (by decide) (fun hc => ?_) (fun hc => ?_)
  · have H := H.1 hc
    refine s_aload_n (pc := 52) dX8_nextRow_52 rfl ?_
    refine s_iload_n (pc := 53) dX8_nextRow_53 rfl ?_
    refine s_iald (pc := 54) (x := h.1 11 (Int.toNat x3)) dX8_nextRow_54 cSm_11 k2 rfl ?_
    refine s_istore (pc := 55) (lv' := [jR 0, jR 11, jI x2, jI x3, jI x4, jI (h.1 11 (Int.toNat x3)), jU, jU, jU]) dX8_nextRow_55 (by decide) rfl ?_
    refine s_aload_n (pc := 57) dX8_nextRow_57 rfl ?_
    refine s_iload_n (pc := 58) dX8_nextRow_58 rfl ?_
    refine s_aload_n (pc := 59) dX8_nextRow_59 rfl ?_
    refine s_iload (pc := 60) dX8_nextRow_60 rfl ?_
    refine s_iald (pc := 62) (x := h.1 11 (Int.toNat x4)) dX8_nextRow_62 cSm_11 k1 rfl ?_
    refine s_iast (pc := 63) dX8_nextRow_63 cSm_11 k2 ?_
    refine s_aload_n (pc := 64) dX8_nextRow_64 rfl ?_
    refine s_iload (pc := 65) dX8_nextRow_65 rfl ?_
    refine s_iload (pc := 67) dX8_nextRow_67 rfl ?_
    refine s_iast (pc := 69) dX8_nextRow_69 cSm_11 k1 ?_
    refine s_iload_n (pc := 70) dX8_nextRow_70 rfl ?_
    refine s_iconst (pc := 71) dX8_nextRow_71 (j_cst rfl) ?_
    obtain ⟨k3, H⟩ := H
    refine s_iadd (pc := 72) dX8_nextRow_72 k3 ?_
    refine s_istore (pc := 73) (lv' := [jR 0, jR 11, jI x2, jI x3, jI x4, jI (h.1 11 (Int.toNat x3)), jI (x3 + 1), jU, jU]) dX8_nextRow_73 (by decide) rfl ?_
    refine s_iload_n (pc := 75) dX8_nextRow_75 rfl ?_
    refine s_iconst (pc := 76) dX8_nextRow_76 (j_cst rfl) ?_
    obtain ⟨k4, H⟩ := H
    refine s_isub (pc := 77) dX8_nextRow_77 k4 ?_
    refine s_istore (pc := 78) (lv' := [jR 0, jR 11, jI x2, jI x3, jI x4, jI (h.1 11 (Int.toNat x3)), jI (x3 + 1), jI (x2 - 1), jU]) dX8_nextRow_78 (by decide) rfl ?_
    exact H
  · have H := H.2 hc
    obtain ⟨k5, H⟩ := H
    refine s_iinc (pc := 46) (lv' := [jR 0, jR 11, jI x2, jI x3, jI (x4 + (-1)), jU, jU, jU, jU]) dX8_nextRow_46 rfl (by decide) k5 rfl ?_
    refine s_goto (pc := 49) (tgt := 36) dX8_nextRow_49 (by decide) ?_
    exact H
set_option maxRecDepth 20000 in
theorem vc_X8_nextRow_0_11_80 {G : jG} {Q : jQ} {x2 x3 x4 x5 x6 x7 : Int} {u8 : jV} {h : jH}
    (H : (x7 ≤ x6 → Q (some (jI 1)) h) ∧ (¬ x7 ≤ x6 → (0 ≤ x6 ∧ x6 < 7) ∧ ((0 ≤ x7 ∧ x7 < 7) ∧ ((j_rg (x7 + (-1))) ∧ ((j_rg (x6 + 1)) ∧ (WV Sm G M_X8_nextRow Q 80 [jR 0, jR 11, jI x2, jI x3, jI x4, jI x5, jI (x6 + 1), jI (x7 + (-1)), jI (h.1 11 (Int.toNat x6))] [] (j_up (j_up h 11 (Int.toNat x6) (h.1 11 (Int.toNat x7))) 11 (Int.toNat x7) (h.1 11 (Int.toNat x6))))))))) :
    WV Sm G M_X8_nextRow Q 80 [jR 0, jR 11, jI x2, jI x3, jI x4, jI x5, jI x6, jI x7, u8] [] h := by
  refine s_iload (pc := 80) dX8_nextRow_80 rfl ?_
  refine s_iload (pc := 82) dX8_nextRow_82 rfl ?_
  refine s_icmp_ge (pc := 84) (tgt := 116) dX8_nextRow_84 (by decide) (fun hc => ?_) (fun hc => ?_)
  · have H := H.1 hc
    refine s_iconst (pc := 116) dX8_nextRow_116 (j_cst rfl) ?_
    exact s_zret dX8_nextRow_117 rfl (Or.inr rfl) H
  · have H := H.2 hc
    refine s_aload_n (pc := 87) dX8_nextRow_87 rfl ?_
    refine s_iload (pc := 88) dX8_nextRow_88 rfl ?_
    obtain ⟨k1, H⟩ := H
    refine s_iald (pc := 90) (x := h.1 11 (Int.toNat x6)) dX8_nextRow_90 cSm_11 k1 rfl ?_
    refine s_istore (pc := 91) (lv' := [jR 0, jR 11, jI x2, jI x3, jI x4, jI x5, jI x6, jI x7, jI (h.1 11 (Int.toNat x6))]) dX8_nextRow_91 (by decide) rfl ?_
    refine s_aload_n (pc := 93) dX8_nextRow_93 rfl ?_
    refine s_iload (pc := 94) dX8_nextRow_94 rfl ?_
    refine s_aload_n (pc := 96) dX8_nextRow_96 rfl ?_
    refine s_iload (pc := 97) dX8_nextRow_97 rfl ?_
    obtain ⟨k2, H⟩ := H
    refine s_iald (pc := 99) (x := h.1 11 (Int.toNat x7)) dX8_nextRow_99 cSm_11 k2 rfl ?_
    refine s_iast (pc := 100) dX8_nextRow_100 cSm_11 k1 ?_
    refine s_aload_n (pc := 101) dX8_nextRow_101 rfl ?_
    refine s_iload (pc := 102) dX8_nextRow_102 rfl ?_
    refine s_iload (pc := 104) dX8_nextRow_104 rfl ?_
    refine s_iast (pc := 106) dX8_nextRow_106 cSm_11 k2 ?_
    obtain ⟨k3, H⟩ := H
    refine s_iinc (pc := 107) (lv' := [jR 0, jR 11, jI x2, jI x3, jI x4, jI x5, jI x6, jI (x7 + (-1)), jI (h.1 11 (Int.toNat x6))]) dX8_nextRow_107 rfl (by decide) k3 rfl ?_
    obtain ⟨k4, H⟩ := H
    refine s_iinc (pc := 110) (lv' := [jR 0, jR 11, jI x2, jI x3, jI x4, jI x5, jI (x6 + 1), jI (x7 + (-1)), jI (h.1 11 (Int.toNat x6))]) dX8_nextRow_110 rfl (by decide) k4 rfl ?_
    refine s_goto (pc := 113) (tgt := 80) dX8_nextRow_113 (by decide) ?_
    exact H
theorem en_X8_plugAll_0_11 {x2 x3 : Int} {h : jH} {post : jQ} (k : ∀ G, WV Sm G M_X8_plugAll post 0 [jR 0, jR 11, jI x2, jI x3, jU] [] h) : CT Sm M_X8_plugAll [jR 0, jR 11, jI x2, jI x3] h post := CT.of (by decide +kernel) (by simp [j_un]) (Nat.le_of_ble_eq_true rfl) _ rfl k
set_option maxRecDepth 20000 in
theorem vc_X8_plugAll_0_11_0 {G : jG} {Q : jQ} {x2 x3 : Int} {h : jH}
    (H : WV Sm G M_X8_plugAll Q 3 [jR 0, jR 11, jI x2, jI x3, jI 0] [] h) :
    WV Sm G M_X8_plugAll Q 0 [jR 0, jR 11, jI x2, jI x3, jU] [] h := by
  refine s_iconst (pc := 0) dX8_plugAll_0 (j_cst rfl) ?_
  refine s_istore (pc := 1) (lv' := [jR 0, jR 11, jI x2, jI x3, jI 0]) dX8_plugAll_1 (by decide) rfl ?_
  exact H
set_option maxRecDepth 20000 in
theorem vc_X8_plugAll_0_11_3 {G : jG} {Q : jQ} {x2 x3 x4 : Int} {h : jH}
    (H : (x2 ≤ x4 → Q none h) ∧ (¬ x2 ≤ x4 → (0 ≤ x4 ∧ x4 < 7) ∧ (∃ post : Int → jH → Prop, CT Sm M_X8_canPlug [jR 0, jR 6, jI (h.1 11 (Int.toNat x4)), jI x3] h (jPi post) ∧ ∀ (r2 : Int) (h3 : jH), post r2 h3 → ((r2 = 0 → (j_rg (x4 + 1)) ∧ (WV Sm G M_X8_plugAll Q 3 [jR 0, jR 11, jI x2, jI x3, jI (x4 + 1)] [] h3)) ∧ (¬ r2 = 0 → ∃ post : jH → Prop, CT Sm M_X8_plug [jR 0, jR 6, jI (h3.1 11 (Int.toNat x4))] h3 (jPv post) ∧ ∀ (h6 : jH), post h6 → ((j_rg (x4 + 1)) ∧ (WV Sm G M_X8_plugAll Q 3 [jR 0, jR 11, jI x2, jI x3, jI (x4 + 1)] [] h6))))))) :
    WV Sm G M_X8_plugAll Q 3 [jR 0, jR 11, jI x2, jI x3, jI x4] [] h := by
  refine s_iload (pc := 3) dX8_plugAll_3 rfl ?_
  refine s_iload_n (pc := 5) dX8_plugAll_5 rfl ?_
  refine s_icmp_ge (pc := 6) (tgt := 43) dX8_plugAll_6 (by decide) (fun hc => ?_) (fun hc => ?_)
  · have H := H.1 hc
    exact s_vret dX8_plugAll_43 rfl H
  · have H := H.2 hc
    refine s_aload_n (pc := 9) dX8_plugAll_9 rfl ?_
    refine s_aload_n (pc := 10) dX8_plugAll_10 rfl ?_
    refine s_getr (pc := 11) dX8_plugAll_11 fl_X8_32 cSm_0 rfl ?_
    refine s_aload_n (pc := 14) dX8_plugAll_14 rfl ?_
    refine s_iload (pc := 15) dX8_plugAll_15 rfl ?_
    obtain ⟨k1, H⟩ := H
    refine s_iald (pc := 17) (x := h.1 11 (Int.toNat x4)) dX8_plugAll_17 cSm_11 k1 rfl ?_
    refine s_iload_n (pc := 18) dX8_plugAll_18 rfl ?_
    obtain ⟨post, hct, H⟩ := H
    refine s_callV (pc := 19) (as := [jR 6, jI (h.1 11 (Int.toNat x4)), jI x3]) (st := []) (by exact dX8_plugAll_19) mv_X8_179 ⟨rfl, rfl, Nat.le_of_ble_eq_true rfl, Nat.le_of_ble_eq_true rfl⟩ cSm_0 rfl rfl (Nat.le_of_ble_eq_true rfl) _ rfl hct (fun r2 h3 hp => ?_)
    obtain ⟨r2, rfl, hp⟩ := hp
    have H := H r2 h3 hp
    show WV _ _ _ _ 22 [jR 0, jR 11, jI x2, jI x3, jI x4] [jI r2] h3
    refine s_if_eq (pc := 22) (tgt := 37) dX8_plugAll_22 (by decide) (fun hc => ?_) (fun hc => ?_)
    · have H := H.1 hc
      obtain ⟨k4, H⟩ := H
      refine s_iinc (pc := 37) (lv' := [jR 0, jR 11, jI x2, jI x3, jI (x4 + 1)]) dX8_plugAll_37 rfl (by decide) k4 rfl ?_
      refine s_goto (pc := 40) (tgt := 3) dX8_plugAll_40 (by decide) ?_
      exact H
    · have H := H.2 hc
      refine s_aload_n (pc := 25) dX8_plugAll_25 rfl ?_
      refine s_aload_n (pc := 26) dX8_plugAll_26 rfl ?_
      refine s_getr (pc := 27) dX8_plugAll_27 fl_X8_32 cSm_0 rfl ?_
      refine s_aload_n (pc := 30) dX8_plugAll_30 rfl ?_
      refine s_iload (pc := 31) dX8_plugAll_31 rfl ?_
      refine s_iald (pc := 33) (x := h3.1 11 (Int.toNat x4)) dX8_plugAll_33 cSm_11 k1 rfl ?_
      obtain ⟨post, hct, H⟩ := H
      refine s_callV (pc := 34) (as := [jR 6, jI (h3.1 11 (Int.toNat x4))]) (st := []) (by exact dX8_plugAll_34) mv_X8_183 ⟨rfl, rfl, Nat.le_of_ble_eq_true rfl, Nat.le_of_ble_eq_true rfl⟩ cSm_0 rfl rfl (Nat.le_of_ble_eq_true rfl) _ rfl hct (fun r5 h6 hp => ?_)
      obtain ⟨rfl, hp⟩ := hp
      have H := H h6 hp
      show WV _ _ _ _ 37 [jR 0, jR 11, jI x2, jI x3, jI x4] [] h6
      obtain ⟨k7, H⟩ := H
      refine s_iinc (pc := 37) (lv' := [jR 0, jR 11, jI x2, jI x3, jI (x4 + 1)]) dX8_plugAll_37 rfl (by decide) k7 rfl ?_
      refine s_goto (pc := 40) (tgt := 3) dX8_plugAll_40 (by decide) ?_
      exact H
theorem en_X8_waitedBy_0 {x1 : Int} {h : jH} {post : jQ} (k : ∀ G, WV Sm G M_X8_waitedBy post 0 [jR 0, jI x1, jU, jU] [] h) : CT Sm M_X8_waitedBy [jR 0, jI x1] h post := CT.of (by decide +kernel) (by simp [j_un]) (Nat.le_of_ble_eq_true rfl) _ rfl k
set_option maxRecDepth 20000 in
theorem vc_X8_waitedBy_0_0 {G : jG} {Q : jQ} {x1 : Int} {h : jH}
    (H : ∃ post : jH → Prop, CT Sm M_X8_copy [jR 5, jI 0, jR 6, jI 0] h (jPv post) ∧ ∀ (h2 : jH), post h2 → (WV Sm G M_X8_waitedBy Q 15 [jR 0, jI x1, jI 0, jU] [] h2)) :
    WV Sm G M_X8_waitedBy Q 0 [jR 0, jI x1, jU, jU] [] h := by
  refine s_aload_n (pc := 0) dX8_waitedBy_0 rfl ?_
  refine s_getr (pc := 1) dX8_waitedBy_1 fl_X8_29 cSm_0 rfl ?_
  refine s_iconst (pc := 4) dX8_waitedBy_4 (j_cst rfl) ?_
  refine s_aload_n (pc := 5) dX8_waitedBy_5 rfl ?_
  refine s_getr (pc := 6) dX8_waitedBy_6 fl_X8_32 cSm_0 rfl ?_
  refine s_iconst (pc := 9) dX8_waitedBy_9 (j_cst rfl) ?_
  obtain ⟨post, hct, H⟩ := H
  refine s_callS (pc := 10) (as := [jR 5, jI 0, jR 6, jI 0]) (st := []) (by exact dX8_waitedBy_10) ms_X8_168 ⟨rfl, rfl, Nat.le_of_ble_eq_true rfl, Nat.le_of_ble_eq_true rfl⟩ (Nat.le_of_ble_eq_true rfl) _ rfl hct (fun r1 h2 hp => ?_)
  obtain ⟨rfl, hp⟩ := hp
  have H := H h2 hp
  show WV _ _ _ _ 13 [jR 0, jI x1, jU, jU] [] h2
  refine s_iconst (pc := 13) dX8_waitedBy_13 (j_cst rfl) ?_
  refine s_istore_n (pc := 14) (lv' := [jR 0, jI x1, jI 0, jU]) dX8_waitedBy_14 (by decide) rfl ?_
  exact H
set_option maxRecDepth 20000 in
theorem vc_X8_waitedBy_0_15 {G : jG} {Q : jQ} {x1 x2 : Int} {h : jH}
    (H : (30 ≤ x2 → WV Sm G M_X8_waitedBy Q 52 [jR 0, jI x1, jI 0, jI 0] [] h) ∧ (¬ 30 ≤ x2 → ∃ post : jH → Prop, CT Sm M_X8_plugAll [jR 0, jR 11, jI x1, jI (h.1 0 14)] h (jPv post) ∧ ∀ (h2 : jH), post h2 → (∃ post : jH → Prop, CT Sm M_X8_pass [jR 0, jR 6] h2 (jPv post) ∧ ∀ (h4 : jH), post h4 → ((j_rg (x2 + 1)) ∧ (WV Sm G M_X8_waitedBy Q 15 [jR 0, jI x1, jI (x2 + 1), jU] [] h4))))) :
    WV Sm G M_X8_waitedBy Q 15 [jR 0, jI x1, jI x2, jU] [] h := by
  refine s_iload_n (pc := 15) dX8_waitedBy_15 rfl ?_
  refine s_bipush (pc := 16) dX8_waitedBy_16 rfl (j_cst rfl) ?_
  refine s_icmp_ge (pc := 18) (tgt := 48) dX8_waitedBy_18 (by decide) (fun hc => ?_) (fun hc => ?_)
  · have H := H.1 hc
    refine s_iconst (pc := 48) dX8_waitedBy_48 (j_cst rfl) ?_
    refine s_istore_n (pc := 49) (lv' := [jR 0, jI x1, jI 0, jU]) dX8_waitedBy_49 (by decide) rfl ?_
    refine s_iconst (pc := 50) dX8_waitedBy_50 (j_cst rfl) ?_
    refine s_istore_n (pc := 51) (lv' := [jR 0, jI x1, jI 0, jI 0]) dX8_waitedBy_51 (by decide) rfl ?_
    exact H
  · have H := H.2 hc
    refine s_aload_n (pc := 21) dX8_waitedBy_21 rfl ?_
    refine s_aload_n (pc := 22) dX8_waitedBy_22 rfl ?_
    refine s_getr (pc := 23) dX8_waitedBy_23 fl_X8_48 cSm_0 rfl ?_
    refine s_iload_n (pc := 26) dX8_waitedBy_26 rfl ?_
    refine s_aload_n (pc := 27) dX8_waitedBy_27 rfl ?_
    refine s_geti (pc := 28) (x := h.1 0 14) dX8_waitedBy_28 fl_X8_23 cSm_0 rfl rfl ?_
    obtain ⟨post, hct, H⟩ := H
    refine s_callV (pc := 31) (as := [jR 11, jI x1, jI (h.1 0 14)]) (st := []) (by exact dX8_waitedBy_31) mv_X8_197 ⟨rfl, rfl, Nat.le_of_ble_eq_true rfl, Nat.le_of_ble_eq_true rfl⟩ cSm_0 rfl rfl (Nat.le_of_ble_eq_true rfl) _ rfl hct (fun r1 h2 hp => ?_)
    obtain ⟨rfl, hp⟩ := hp
    have H := H h2 hp
    show WV _ _ _ _ 34 [jR 0, jI x1, jI x2, jU] [] h2
    refine s_aload_n (pc := 34) dX8_waitedBy_34 rfl ?_
    refine s_aload_n (pc := 35) dX8_waitedBy_35 rfl ?_
    refine s_getr (pc := 36) dX8_waitedBy_36 fl_X8_32 cSm_0 rfl ?_
    obtain ⟨post, hct, H⟩ := H
    refine s_callV (pc := 39) (as := [jR 6]) (st := []) (by exact dX8_waitedBy_39) mv_X8_175 ⟨rfl, rfl, Nat.le_of_ble_eq_true rfl, Nat.le_of_ble_eq_true rfl⟩ cSm_0 rfl rfl (Nat.le_of_ble_eq_true rfl) _ rfl hct (fun r3 h4 hp => ?_)
    obtain ⟨rfl, hp⟩ := hp
    have H := H h4 hp
    show WV _ _ _ _ 42 [jR 0, jI x1, jI x2, jU] [] h4
    obtain ⟨k5, H⟩ := H
    refine s_iinc (pc := 42) (lv' := [jR 0, jI x1, jI (x2 + 1), jU]) dX8_waitedBy_42 rfl (by decide) k5 rfl ?_
    refine s_goto (pc := 45) (tgt := 15) dX8_waitedBy_45 (by decide) ?_
    exact H
set_option maxRecDepth 20000 in
theorem vc_X8_waitedBy_0_52 {G : jG} {Q : jQ} {x1 x2 x3 : Int} {h : jH}
    (H : (x1 ≤ x3 → Q (some (jI x2)) h) ∧ (¬ x1 ≤ x3 → (0 ≤ x3 ∧ x3 < 7) ∧ ((j_rg (21 + (h.1 11 (Int.toNat x3)))) ∧ ((0 ≤ 21 + (h.1 11 (Int.toNat x3)) ∧ 21 + (h.1 11 (Int.toNat x3)) < 28) ∧ ((j_rg (x2 + (h.1 6 (Int.toNat (21 + (h.1 11 (Int.toNat x3))))))) ∧ ((j_rg (x3 + 1)) ∧ (WV Sm G M_X8_waitedBy Q 52 [jR 0, jI x1, jI (x2 + (h.1 6 (Int.toNat (21 + (h.1 11 (Int.toNat x3)))))), jI (x3 + 1)] [] h))))))) :
    WV Sm G M_X8_waitedBy Q 52 [jR 0, jI x1, jI x2, jI x3] [] h := by
  refine s_iload_n (pc := 52) dX8_waitedBy_52 rfl ?_
  refine s_iload_n (pc := 53) dX8_waitedBy_53 rfl ?_
  refine s_icmp_ge (pc := 54) (tgt := 80) dX8_waitedBy_54 (by decide) (fun hc => ?_) (fun hc => ?_)
  · have H := H.1 hc
    refine s_iload_n (pc := 80) dX8_waitedBy_80 rfl ?_
    exact s_iret dX8_waitedBy_81 rfl H
  · have H := H.2 hc
    refine s_iload_n (pc := 57) dX8_waitedBy_57 rfl ?_
    refine s_aload_n (pc := 58) dX8_waitedBy_58 rfl ?_
    refine s_getr (pc := 59) dX8_waitedBy_59 fl_X8_32 cSm_0 rfl ?_
    refine s_bipush (pc := 62) dX8_waitedBy_62 rfl (j_cst rfl) ?_
    refine s_aload_n (pc := 64) dX8_waitedBy_64 rfl ?_
    refine s_getr (pc := 65) dX8_waitedBy_65 fl_X8_48 cSm_0 rfl ?_
    refine s_iload_n (pc := 68) dX8_waitedBy_68 rfl ?_
    obtain ⟨k1, H⟩ := H
    refine s_iald (pc := 69) (x := h.1 11 (Int.toNat x3)) dX8_waitedBy_69 cSm_11 k1 rfl ?_
    obtain ⟨k2, H⟩ := H
    refine s_iadd (pc := 70) dX8_waitedBy_70 k2 ?_
    obtain ⟨k3, H⟩ := H
    refine s_iald (pc := 71) (x := h.1 6 (Int.toNat (21 + (h.1 11 (Int.toNat x3))))) dX8_waitedBy_71 cSm_6 k3 rfl ?_
    obtain ⟨k4, H⟩ := H
    refine s_iadd (pc := 72) dX8_waitedBy_72 k4 ?_
    refine s_istore_n (pc := 73) (lv' := [jR 0, jI x1, jI (x2 + (h.1 6 (Int.toNat (21 + (h.1 11 (Int.toNat x3)))))), jI x3]) dX8_waitedBy_73 (by decide) rfl ?_
    obtain ⟨k5, H⟩ := H
    refine s_iinc (pc := 74) (lv' := [jR 0, jI x1, jI (x2 + (h.1 6 (Int.toNat (21 + (h.1 11 (Int.toNat x3)))))), jI (x3 + 1)]) dX8_waitedBy_74 rfl (by decide) k5 rfl ?_
    refine s_goto (pc := 77) (tgt := 52) dX8_waitedBy_77 (by decide) ?_
    exact H
theorem en_X8_bestRow_0 {x1 : Int} {h : jH} {post : jQ} (k : ∀ G, WV Sm G M_X8_bestRow post 0 [jR 0, jI x1, jU, jU, jU, jU, jU] [] h) : CT Sm M_X8_bestRow [jR 0, jI x1] h post := CT.of (by decide +kernel) (by simp [j_un]) (Nat.le_of_ble_eq_true rfl) _ rfl k
set_option maxRecDepth 20000 in
theorem vc_X8_bestRow_0_0 {G : jG} {Q : jQ} {x1 : Int} {h : jH}
    (H : ((-1) ≤ x1 → WV Sm G M_X8_bestRow Q 11 [jR 0, jI x1, jI 0, jI 0, jU, jU, jU] [] h) ∧ (¬ (-1) ≤ x1 → Q (some (jI (-1))) h)) :
    WV Sm G M_X8_bestRow Q 0 [jR 0, jI x1, jU, jU, jU, jU, jU] [] h := by
  refine s_iload_n (pc := 0) dX8_bestRow_0 rfl ?_
  refine s_iconst (pc := 1) dX8_bestRow_1 (j_cst rfl) ?_
  refine s_icmp_ge (pc := 2) (tgt := 7) dX8_bestRow_2 (by decide) (fun hc => ?_) (fun hc => ?_)
  · have H := H.1 hc
    refine s_iconst (pc := 7) dX8_bestRow_7 (j_cst rfl) ?_
    refine s_istore_n (pc := 8) (lv' := [jR 0, jI x1, jI 0, jU, jU, jU, jU]) dX8_bestRow_8 (by decide) rfl ?_
    refine s_iconst (pc := 9) dX8_bestRow_9 (j_cst rfl) ?_
    refine s_istore_n (pc := 10) (lv' := [jR 0, jI x1, jI 0, jI 0, jU, jU, jU]) dX8_bestRow_10 (by decide) rfl ?_
    exact H
  · have H := H.2 hc
    refine s_iconst (pc := 5) dX8_bestRow_5 (j_cst rfl) ?_
    exact s_iret dX8_bestRow_6 rfl H
set_option maxRecDepth 20000 in
theorem vc_X8_bestRow_0_11 {G : jG} {Q : jQ} {x1 x2 x3 : Int} {h : jH}
    (H : ((h.1 0 15) ≤ x3 → WV Sm G M_X8_bestRow Q 53 [jR 0, jI x1, jI x2, jI (-1), jI 1, jU, jU] [] h) ∧ (¬ (h.1 0 15) ≤ x3 → (j_rg (7 + x3)) ∧ ((0 ≤ 7 + x3 ∧ 7 + x3 < 28) ∧ (((h.1 5 (Int.toNat (7 + x3))) = 1 → (0 ≤ x2 ∧ x2 < 7) ∧ ((j_rg (x2 + 1)) ∧ ((j_rg (x3 + 1)) ∧ (WV Sm G M_X8_bestRow Q 11 [jR 0, jI x1, jI (x2 + 1), jI (x3 + 1), jU, jU, jU] [] (j_up h 11 (Int.toNat x2) x3))))) ∧ (¬ (h.1 5 (Int.toNat (7 + x3))) = 1 → (j_rg (x3 + 1)) ∧ (WV Sm G M_X8_bestRow Q 11 [jR 0, jI x1, jI x2, jI (x3 + 1), jU, jU, jU] [] h)))))) :
    WV Sm G M_X8_bestRow Q 11 [jR 0, jI x1, jI x2, jI x3, jU, jU, jU] [] h := by
  refine s_iload_n (pc := 11) dX8_bestRow_11 rfl ?_
  refine s_aload_n (pc := 12) dX8_bestRow_12 rfl ?_
  refine s_geti (pc := 13) (x := h.1 0 15) dX8_bestRow_13 fl_X8_57 cSm_0 rfl rfl ?_
  refine s_icmp_ge (pc := 16) (tgt := 48) dX8_bestRow_16 (by decide) (fun hc => ?_) (fun hc => ?_)
  · have H := H.1 hc
    refine s_iconst (pc := 48) dX8_bestRow_48 (j_cst rfl) ?_
    refine s_istore_n (pc := 49) (lv' := [jR 0, jI x1, jI x2, jI (-1), jU, jU, jU]) dX8_bestRow_49 (by decide) rfl ?_
    refine s_iconst (pc := 50) dX8_bestRow_50 (j_cst rfl) ?_
    refine s_istore (pc := 51) (lv' := [jR 0, jI x1, jI x2, jI (-1), jI 1, jU, jU]) dX8_bestRow_51 (by decide) rfl ?_
    exact H
  · have H := H.2 hc
    refine s_aload_n (pc := 19) dX8_bestRow_19 rfl ?_
    refine s_getr (pc := 20) dX8_bestRow_20 fl_X8_29 cSm_0 rfl ?_
    refine s_bipush (pc := 23) dX8_bestRow_23 rfl (j_cst rfl) ?_
    refine s_iload_n (pc := 25) dX8_bestRow_25 rfl ?_
    obtain ⟨k1, H⟩ := H
    refine s_iadd (pc := 26) dX8_bestRow_26 k1 ?_
    obtain ⟨k2, H⟩ := H
    refine s_iald (pc := 27) (x := h.1 5 (Int.toNat (7 + x3))) dX8_bestRow_27 cSm_5 k2 rfl ?_
    refine s_iconst (pc := 28) dX8_bestRow_28 (j_cst rfl) ?_
    refine s_icmp_ne (pc := 29) (tgt := 42) dX8_bestRow_29 (by decide) (fun hc => ?_) (fun hc => ?_)
    · have H := H.2 hc
      obtain ⟨k3, H⟩ := H
      refine s_iinc (pc := 42) (lv' := [jR 0, jI x1, jI x2, jI (x3 + 1), jU, jU, jU]) dX8_bestRow_42 rfl (by decide) k3 rfl ?_
      refine s_goto (pc := 45) (tgt := 11) dX8_bestRow_45 (by decide) ?_
      exact H
    · have H := H.1 hc
      refine s_aload_n (pc := 32) dX8_bestRow_32 rfl ?_
      refine s_getr (pc := 33) dX8_bestRow_33 fl_X8_48 cSm_0 rfl ?_
      refine s_iload_n (pc := 36) dX8_bestRow_36 rfl ?_
      refine s_iload_n (pc := 37) dX8_bestRow_37 rfl ?_
      obtain ⟨k4, H⟩ := H
      refine s_iast (pc := 38) dX8_bestRow_38 cSm_11 k4 ?_
      obtain ⟨k5, H⟩ := H
      refine s_iinc (pc := 39) (lv' := [jR 0, jI x1, jI (x2 + 1), jI x3, jU, jU, jU]) dX8_bestRow_39 rfl (by decide) k5 rfl ?_
      obtain ⟨k6, H⟩ := H
      refine s_iinc (pc := 42) (lv' := [jR 0, jI x1, jI (x2 + 1), jI (x3 + 1), jU, jU, jU]) dX8_bestRow_42 rfl (by decide) k6 rfl ?_
      refine s_goto (pc := 45) (tgt := 11) dX8_bestRow_45 (by decide) ?_
      exact H
set_option maxRecDepth 20000 in
theorem vc_X8_bestRow_0_53 {G : jG} {Q : jQ} {x1 x2 x3 x4 : Int} {u5 u6 : jV} {h : jH}
    (H : (x4 = 0 → (0 ≤ x1 → (x2 ≤ x1 → Q (some (jI (-5))) h) ∧ (¬ x2 ≤ x1 → (0 ≤ x1 ∧ x1 < 7) ∧ (Q (some (jI (h.1 12 (Int.toNat x1)))) h))) ∧ (¬ 0 ≤ x1 → Q (some (jI x3)) h)) ∧ (¬ x4 = 0 → ∃ post : Int → jH → Prop, CT Sm M_X8_waitedBy [jR 0, jI x2] h (jPi post) ∧ ∀ (r2 : Int) (h3 : jH), post r2 h3 → ((x3 < 0 → WV Sm G M_X8_bestRow Q 81 [jR 0, jI x1, jI x2, jI r2, jI x4, jI r2, jI 0] [] h3) ∧ (¬ x3 < 0 → (x3 ≤ r2 → ∃ post : Int → jH → Prop, CT Sm M_X8_nextRow [jR 0, jR 11, jI x2] h3 (jPi post) ∧ ∀ (r4 : Int) (h5 : jH), post r4 h5 → (WV Sm G M_X8_bestRow Q 53 [jR 0, jI x1, jI x2, jI x3, jI r4, jI r2, u6] [] h5)) ∧ (¬ x3 ≤ r2 → WV Sm G M_X8_bestRow Q 81 [jR 0, jI x1, jI x2, jI r2, jI x4, jI r2, jI 0] [] h3))))) :
    WV Sm G M_X8_bestRow Q 53 [jR 0, jI x1, jI x2, jI x3, jI x4, u5, u6] [] h := by
  refine s_iload (pc := 53) dX8_bestRow_53 rfl ?_
  refine s_if_eq (pc := 55) (tgt := 121) dX8_bestRow_55 (by decide) (fun hc => ?_) (fun hc => ?_)
  · have H := H.1 hc
    refine s_iload_n (pc := 121) dX8_bestRow_121 rfl ?_
    refine s_if_ge (pc := 122) (tgt := 129) dX8_bestRow_122 (by decide) (fun hc => ?_) (fun hc => ?_)
    · have H := H.1 hc
      refine s_iload_n (pc := 129) dX8_bestRow_129 rfl ?_
      refine s_iload_n (pc := 130) dX8_bestRow_130 rfl ?_
      refine s_icmp_ge (pc := 131) (tgt := 143) dX8_bestRow_131 (by decide) (fun hc => ?_) (fun hc => ?_)
      · have H := H.1 hc
        refine s_bipush (pc := 143) dX8_bestRow_143 rfl (j_cst rfl) ?_
        exact s_iret dX8_bestRow_145 rfl H
      · have H := H.2 hc
        refine s_aload_n (pc := 134) dX8_bestRow_134 rfl ?_
        refine s_getr (pc := 135) dX8_bestRow_135 fl_X8_51 cSm_0 rfl ?_
        refine s_iload_n (pc := 138) dX8_bestRow_138 rfl ?_
        obtain ⟨k1, H⟩ := H
        refine s_iald (pc := 139) (x := h.1 12 (Int.toNat x1)) dX8_bestRow_139 cSm_12 k1 rfl ?_
        refine s_goto (pc := 140) (tgt := 145) dX8_bestRow_140 (by decide) ?_
        exact s_iret dX8_bestRow_145 rfl H
    · have H := H.2 hc
      refine s_iload_n (pc := 125) dX8_bestRow_125 rfl ?_
      refine s_goto (pc := 126) (tgt := 145) dX8_bestRow_126 (by decide) ?_
      exact s_iret dX8_bestRow_145 rfl H
  · have H := H.2 hc
    refine s_aload_n (pc := 58) dX8_bestRow_58 rfl ?_
    refine s_iload_n (pc := 59) dX8_bestRow_59 rfl ?_
    obtain ⟨post, hct, H⟩ := H
    refine s_callV (pc := 60) (as := [jI x2]) (st := []) (by exact dX8_bestRow_60) mv_X8_207 ⟨rfl, rfl, Nat.le_of_ble_eq_true rfl, Nat.le_of_ble_eq_true rfl⟩ cSm_0 rfl rfl (Nat.le_of_ble_eq_true rfl) _ rfl hct (fun r2 h3 hp => ?_)
    obtain ⟨r2, rfl, hp⟩ := hp
    have H := H r2 h3 hp
    show WV _ _ _ _ 63 [jR 0, jI x1, jI x2, jI x3, jI x4, u5, u6] [jI r2] h3
    refine s_istore (pc := 63) (lv' := [jR 0, jI x1, jI x2, jI x3, jI x4, jI r2, u6]) dX8_bestRow_63 (by decide) rfl ?_
    refine s_iload_n (pc := 65) dX8_bestRow_65 rfl ?_
    refine s_if_lt (pc := 66) (tgt := 75) dX8_bestRow_66 (by decide) (fun hc => ?_) (fun hc => ?_)
    · have H := H.1 hc
      refine s_iload (pc := 75) dX8_bestRow_75 rfl ?_
      refine s_istore_n (pc := 77) (lv' := [jR 0, jI x1, jI x2, jI r2, jI x4, jI r2, u6]) dX8_bestRow_77 (by decide) rfl ?_
      refine s_iconst (pc := 78) dX8_bestRow_78 (j_cst rfl) ?_
      refine s_istore (pc := 79) (lv' := [jR 0, jI x1, jI x2, jI r2, jI x4, jI r2, jI 0]) dX8_bestRow_79 (by decide) rfl ?_
      exact H
    · have H := H.2 hc
      refine s_iload (pc := 69) dX8_bestRow_69 rfl ?_
      refine s_iload_n (pc := 71) dX8_bestRow_71 rfl ?_
      refine s_icmp_ge (pc := 72) (tgt := 107) dX8_bestRow_72 (by decide) (fun hc => ?_) (fun hc => ?_)
      · have H := H.1 hc
        refine s_aload_n (pc := 107) dX8_bestRow_107 rfl ?_
        refine s_aload_n (pc := 108) dX8_bestRow_108 rfl ?_
        refine s_getr (pc := 109) dX8_bestRow_109 fl_X8_48 cSm_0 rfl ?_
        refine s_iload_n (pc := 112) dX8_bestRow_112 rfl ?_
        obtain ⟨post, hct, H⟩ := H
        refine s_callV (pc := 113) (as := [jR 11, jI x2]) (st := []) (by exact dX8_bestRow_113) mv_X8_210 ⟨rfl, rfl, Nat.le_of_ble_eq_true rfl, Nat.le_of_ble_eq_true rfl⟩ cSm_0 rfl rfl (Nat.le_of_ble_eq_true rfl) _ rfl hct (fun r4 h5 hp => ?_)
        obtain ⟨r4, rfl, hp⟩ := hp
        have H := H r4 h5 hp
        show WV _ _ _ _ 116 [jR 0, jI x1, jI x2, jI x3, jI x4, jI r2, u6] [jI r4] h5
        refine s_istore (pc := 116) (lv' := [jR 0, jI x1, jI x2, jI x3, jI r4, jI r2, u6]) dX8_bestRow_116 (by decide) rfl ?_
        refine s_goto (pc := 118) (tgt := 53) dX8_bestRow_118 (by decide) ?_
        exact H
      · have H := H.2 hc
        refine s_iload (pc := 75) dX8_bestRow_75 rfl ?_
        refine s_istore_n (pc := 77) (lv' := [jR 0, jI x1, jI x2, jI r2, jI x4, jI r2, u6]) dX8_bestRow_77 (by decide) rfl ?_
        refine s_iconst (pc := 78) dX8_bestRow_78 (j_cst rfl) ?_
        refine s_istore (pc := 79) (lv' := [jR 0, jI x1, jI x2, jI r2, jI x4, jI r2, jI 0]) dX8_bestRow_79 (by decide) rfl ?_
        exact H
set_option maxRecDepth 20000 in
theorem vc_X8_bestRow_0_81 {G : jG} {Q : jQ} {x1 x2 x3 x4 x5 x6 : Int} {h : jH}
    (H : (x2 ≤ x6 → ∃ post : Int → jH → Prop, CT Sm M_X8_nextRow [jR 0, jR 11, jI x2] h (jPi post) ∧ ∀ (r1 : Int) (h2 : jH), post r1 h2 → (WV Sm G M_X8_bestRow Q 53 [jR 0, jI x1, jI x2, jI x3, jI r1, jI x5, jI x6] [] h2)) ∧ (¬ x2 ≤ x6 → (0 ≤ x6 ∧ x6 < 7) ∧ ((j_rg (x6 + 1)) ∧ (WV Sm G M_X8_bestRow Q 81 [jR 0, jI x1, jI x2, jI x3, jI x4, jI x5, jI (x6 + 1)] [] (j_up h 12 (Int.toNat x6) (h.1 11 (Int.toNat x6))))))) :
    WV Sm G M_X8_bestRow Q 81 [jR 0, jI x1, jI x2, jI x3, jI x4, jI x5, jI x6] [] h := by
  refine s_iload (pc := 81) dX8_bestRow_81 rfl ?_
  refine s_iload_n (pc := 83) dX8_bestRow_83 rfl ?_
  refine s_icmp_ge (pc := 84) (tgt := 107) dX8_bestRow_84 (by decide) (fun hc => ?_) (fun hc => ?_)
  · have H := H.1 hc
    refine s_aload_n (pc := 107) dX8_bestRow_107 rfl ?_
    refine s_aload_n (pc := 108) dX8_bestRow_108 rfl ?_
    refine s_getr (pc := 109) dX8_bestRow_109 fl_X8_48 cSm_0 rfl ?_
    refine s_iload_n (pc := 112) dX8_bestRow_112 rfl ?_
    obtain ⟨post, hct, H⟩ := H
    refine s_callV (pc := 113) (as := [jR 11, jI x2]) (st := []) (by exact dX8_bestRow_113) mv_X8_210 ⟨rfl, rfl, Nat.le_of_ble_eq_true rfl, Nat.le_of_ble_eq_true rfl⟩ cSm_0 rfl rfl (Nat.le_of_ble_eq_true rfl) _ rfl hct (fun r1 h2 hp => ?_)
    obtain ⟨r1, rfl, hp⟩ := hp
    have H := H r1 h2 hp
    show WV _ _ _ _ 116 [jR 0, jI x1, jI x2, jI x3, jI x4, jI x5, jI x6] [jI r1] h2
    refine s_istore (pc := 116) (lv' := [jR 0, jI x1, jI x2, jI x3, jI r1, jI x5, jI x6]) dX8_bestRow_116 (by decide) rfl ?_
    refine s_goto (pc := 118) (tgt := 53) dX8_bestRow_118 (by decide) ?_
    exact H
  · have H := H.2 hc
    refine s_aload_n (pc := 87) dX8_bestRow_87 rfl ?_
    refine s_getr (pc := 88) dX8_bestRow_88 fl_X8_51 cSm_0 rfl ?_
    refine s_iload (pc := 91) dX8_bestRow_91 rfl ?_
    refine s_aload_n (pc := 93) dX8_bestRow_93 rfl ?_
    refine s_getr (pc := 94) dX8_bestRow_94 fl_X8_48 cSm_0 rfl ?_
    refine s_iload (pc := 97) dX8_bestRow_97 rfl ?_
    obtain ⟨k3, H⟩ := H
    refine s_iald (pc := 99) (x := h.1 11 (Int.toNat x6)) dX8_bestRow_99 cSm_11 k3 rfl ?_
    refine s_iast (pc := 100) dX8_bestRow_100 cSm_12 k3 ?_
    obtain ⟨k4, H⟩ := H
    refine s_iinc (pc := 101) (lv' := [jR 0, jI x1, jI x2, jI x3, jI x4, jI x5, jI (x6 + 1)]) dX8_bestRow_101 rfl (by decide) k4 rfl ?_
    refine s_goto (pc := 104) (tgt := 81) dX8_bestRow_104 (by decide) ?_
    exact H
theorem en_X8_cutFor_0 {x1 : Int} {h : jH} {post : jQ} (k : ∀ G, WV Sm G M_X8_cutFor post 0 [jR 0, jI x1, jU, jU, jU, jU, jU, jU] [] h) : CT Sm M_X8_cutFor [jR 0, jI x1] h post := CT.of (by decide +kernel) (by simp [j_un]) (Nat.le_of_ble_eq_true rfl) _ rfl k
set_option maxRecDepth 20000 in
theorem vc_X8_cutFor_0_0 {G : jG} {Q : jQ} {x1 : Int} {h : jH}
    (H : ∃ post : Int → jH → Prop, CT Sm M_X8_isCall [jR 0, jI x1] h (jPi post) ∧ ∀ (r1 : Int) (h2 : jH), post r1 h2 → ((r1 = 0 → Q (some (jI (-1))) h2) ∧ (¬ r1 = 0 → (j_rg (7 + x1)) ∧ ((0 ≤ 7 + x1 ∧ 7 + x1 < 28) ∧ (((h2.1 5 (Int.toNat (7 + x1))) = 1 → ∃ post : Int → jH → Prop, CT Sm M_X8_setOf [jR 0, jR 5, jI 2] h2 (jPi post) ∧ ∀ (r5 : Int) (h6 : jH), post r5 h6 → (WV Sm G M_X8_cutFor Q 44 [jR 0, jI x1, jI r5, jI (-1), jI 0, jI 0, jU, jU] [] h6)) ∧ (¬ (h2.1 5 (Int.toNat (7 + x1))) = 1 → Q (some (jI (-2))) h2)))))) :
    WV Sm G M_X8_cutFor Q 0 [jR 0, jI x1, jU, jU, jU, jU, jU, jU] [] h := by
  refine s_aload_n (pc := 0) dX8_cutFor_0 rfl ?_
  refine s_iload_n (pc := 1) dX8_cutFor_1 rfl ?_
  obtain ⟨post, hct, H⟩ := H
  refine s_callV (pc := 2) (as := [jI x1]) (st := []) (by exact dX8_cutFor_2) mv_X8_161 ⟨rfl, rfl, Nat.le_of_ble_eq_true rfl, Nat.le_of_ble_eq_true rfl⟩ cSm_0 rfl rfl (Nat.le_of_ble_eq_true rfl) _ rfl hct (fun r1 h2 hp => ?_)
  obtain ⟨r1, rfl, hp⟩ := hp
  have H := H r1 h2 hp
  show WV _ _ _ _ 5 [jR 0, jI x1, jU, jU, jU, jU, jU, jU] [jI r1] h2
  refine s_if_ne (pc := 5) (tgt := 10) dX8_cutFor_5 (by decide) (fun hc => ?_) (fun hc => ?_)
  · have H := H.2 hc
    refine s_aload_n (pc := 10) dX8_cutFor_10 rfl ?_
    refine s_getr (pc := 11) dX8_cutFor_11 fl_X8_29 cSm_0 rfl ?_
    refine s_bipush (pc := 14) dX8_cutFor_14 rfl (j_cst rfl) ?_
    refine s_iload_n (pc := 16) dX8_cutFor_16 rfl ?_
    obtain ⟨k3, H⟩ := H
    refine s_iadd (pc := 17) dX8_cutFor_17 k3 ?_
    obtain ⟨k4, H⟩ := H
    refine s_iald (pc := 18) (x := h2.1 5 (Int.toNat (7 + x1))) dX8_cutFor_18 cSm_5 k4 rfl ?_
    refine s_iconst (pc := 19) dX8_cutFor_19 (j_cst rfl) ?_
    refine s_icmp_eq (pc := 20) (tgt := 26) dX8_cutFor_20 (by decide) (fun hc => ?_) (fun hc => ?_)
    · have H := H.1 hc
      refine s_aload_n (pc := 26) dX8_cutFor_26 rfl ?_
      refine s_aload_n (pc := 27) dX8_cutFor_27 rfl ?_
      refine s_getr (pc := 28) dX8_cutFor_28 fl_X8_29 cSm_0 rfl ?_
      refine s_iconst (pc := 31) dX8_cutFor_31 (j_cst rfl) ?_
      obtain ⟨post, hct, H⟩ := H
      refine s_callV (pc := 32) (as := [jR 5, jI 2]) (st := []) (by exact dX8_cutFor_32) mv_X8_131 ⟨rfl, rfl, Nat.le_of_ble_eq_true rfl, Nat.le_of_ble_eq_true rfl⟩ cSm_0 rfl rfl (Nat.le_of_ble_eq_true rfl) _ rfl hct (fun r5 h6 hp => ?_)
      obtain ⟨r5, rfl, hp⟩ := hp
      have H := H r5 h6 hp
      show WV _ _ _ _ 35 [jR 0, jI x1, jU, jU, jU, jU, jU, jU] [jI r5] h6
      refine s_istore_n (pc := 35) (lv' := [jR 0, jI x1, jI r5, jU, jU, jU, jU, jU]) dX8_cutFor_35 (by decide) rfl ?_
      refine s_iconst (pc := 36) dX8_cutFor_36 (j_cst rfl) ?_
      refine s_istore_n (pc := 37) (lv' := [jR 0, jI x1, jI r5, jI (-1), jU, jU, jU, jU]) dX8_cutFor_37 (by decide) rfl ?_
      refine s_iconst (pc := 38) dX8_cutFor_38 (j_cst rfl) ?_
      refine s_istore (pc := 39) (lv' := [jR 0, jI x1, jI r5, jI (-1), jI 0, jU, jU, jU]) dX8_cutFor_39 (by decide) rfl ?_
      refine s_iconst (pc := 41) dX8_cutFor_41 (j_cst rfl) ?_
      refine s_istore (pc := 42) (lv' := [jR 0, jI x1, jI r5, jI (-1), jI 0, jI 0, jU, jU]) dX8_cutFor_42 (by decide) rfl ?_
      exact H
    · have H := H.2 hc
      refine s_bipush (pc := 23) dX8_cutFor_23 rfl (j_cst rfl) ?_
      exact s_iret dX8_cutFor_25 rfl H
  · have H := H.1 hc
    refine s_iconst (pc := 8) dX8_cutFor_8 (j_cst rfl) ?_
    exact s_iret dX8_cutFor_9 rfl H
set_option maxRecDepth 20000 in
theorem vc_X8_cutFor_0_44 {G : jG} {Q : jQ} {x1 x2 x3 x4 x5 : Int} {u6 u7 : jV} {h : jH}
    (H : (x2 < x5 → Q (some (jI x3)) h) ∧ (¬ x2 < x5 → ((b_and x5 (b_xor x2 (-1))) = 0 → ∃ post : jH → Prop, CT Sm M_X8_copy [jR 5, jI 0, jR 6, jI 0] h (jPv post) ∧ ∀ (h2 : jH), post h2 → (WV Sm G M_X8_cutFor Q 81 [jR 0, jI x1, jI x2, jI x3, jI x4, jI x5, jI 0, jI 0] [] h2)) ∧ (¬ (b_and x5 (b_xor x2 (-1))) = 0 → (j_rg (x5 + 1)) ∧ (WV Sm G M_X8_cutFor Q 44 [jR 0, jI x1, jI x2, jI x3, jI x4, jI (x5 + 1), u6, u7] [] h)))) :
    WV Sm G M_X8_cutFor Q 44 [jR 0, jI x1, jI x2, jI x3, jI x4, jI x5, u6, u7] [] h := by
  refine s_iload (pc := 44) dX8_cutFor_44 rfl ?_
  refine s_iload_n (pc := 46) dX8_cutFor_46 rfl ?_
  refine s_icmp_gt (pc := 47) (tgt := 186) dX8_cutFor_47 (by decide) (fun hc => ?_) (fun hc => ?_)
  · have H := H.1 hc
    refine s_iload_n (pc := 186) dX8_cutFor_186 rfl ?_
    exact s_iret dX8_cutFor_187 rfl H
  · have H := H.2 hc
    refine s_iload (pc := 50) dX8_cutFor_50 rfl ?_
    refine s_iload_n (pc := 52) dX8_cutFor_52 rfl ?_
    refine s_iconst (pc := 53) dX8_cutFor_53 (j_cst rfl) ?_
    refine s_ixor (pc := 54) dX8_cutFor_54 ?_
    refine s_iand (pc := 55) dX8_cutFor_55 ?_
    refine s_if_eq (pc := 56) (tgt := 62) dX8_cutFor_56 (by decide) (fun hc => ?_) (fun hc => ?_)
    · have H := H.1 hc
      refine s_aload_n (pc := 62) dX8_cutFor_62 rfl ?_
      refine s_getr (pc := 63) dX8_cutFor_63 fl_X8_29 cSm_0 rfl ?_
      refine s_iconst (pc := 66) dX8_cutFor_66 (j_cst rfl) ?_
      refine s_aload_n (pc := 67) dX8_cutFor_67 rfl ?_
      refine s_getr (pc := 68) dX8_cutFor_68 fl_X8_32 cSm_0 rfl ?_
      refine s_iconst (pc := 71) dX8_cutFor_71 (j_cst rfl) ?_
      obtain ⟨post, hct, H⟩ := H
      refine s_callS (pc := 72) (as := [jR 5, jI 0, jR 6, jI 0]) (st := []) (by exact dX8_cutFor_72) ms_X8_168 ⟨rfl, rfl, Nat.le_of_ble_eq_true rfl, Nat.le_of_ble_eq_true rfl⟩ (Nat.le_of_ble_eq_true rfl) _ rfl hct (fun r1 h2 hp => ?_)
      obtain ⟨rfl, hp⟩ := hp
      have H := H h2 hp
      show WV _ _ _ _ 75 [jR 0, jI x1, jI x2, jI x3, jI x4, jI x5, u6, u7] [] h2
      refine s_iconst (pc := 75) dX8_cutFor_75 (j_cst rfl) ?_
      refine s_istore (pc := 76) (lv' := [jR 0, jI x1, jI x2, jI x3, jI x4, jI x5, jI 0, u7]) dX8_cutFor_76 (by decide) rfl ?_
      refine s_iconst (pc := 78) dX8_cutFor_78 (j_cst rfl) ?_
      refine s_istore (pc := 79) (lv' := [jR 0, jI x1, jI x2, jI x3, jI x4, jI x5, jI 0, jI 0]) dX8_cutFor_79 (by decide) rfl ?_
      exact H
    · have H := H.2 hc
      refine s_goto (pc := 59) (tgt := 180) dX8_cutFor_59 (by decide) ?_
      obtain ⟨k3, H⟩ := H
      refine s_iinc (pc := 180) (lv' := [jR 0, jI x1, jI x2, jI x3, jI x4, jI (x5 + 1), u6, u7]) dX8_cutFor_180 rfl (by decide) k3 rfl ?_
      refine s_goto (pc := 183) (tgt := 44) dX8_cutFor_183 (by decide) ?_
      exact H
set_option maxRecDepth 20000 in
theorem vc_X8_cutFor_0_81 {G : jG} {Q : jQ} {x1 x2 x3 x4 x5 x6 x7 : Int} {h : jH}
    (H : ((h.1 0 15) ≤ x7 → ∃ post : Int → jH → Prop, CT Sm M_X8_bits [jI x5] h (jPi post) ∧ ∀ (r1 : Int) (h2 : jH), post r1 h2 → ((j_rg (1000 * r1)) ∧ ((j_rg ((1000 * r1) + x6)) ∧ (∃ post : Int → jH → Prop, CT Sm M_X8_canPlug [jR 0, jR 6, jI x1, jI (h2.1 0 14)] h2 (jPi post) ∧ ∀ (r5 : Int) (h6 : jH), post r5 h6 → ((r5 = 0 → (j_rg (x5 + 1)) ∧ (WV Sm G M_X8_cutFor Q 44 [jR 0, jI x1, jI x2, jI x3, jI x4, jI (x5 + 1), jI x6, jI ((1000 * r1) + x6)] [] h6)) ∧ (¬ r5 = 0 → (x3 < 0 → (j_rg (x5 + 1)) ∧ (WV Sm G M_X8_cutFor Q 44 [jR 0, jI x1, jI x2, jI x5, jI ((1000 * r1) + x6), jI (x5 + 1), jI x6, jI ((1000 * r1) + x6)] [] h6)) ∧ (¬ x3 < 0 → (x4 ≤ ((1000 * r1) + x6) → (j_rg (x5 + 1)) ∧ (WV Sm G M_X8_cutFor Q 44 [jR 0, jI x1, jI x2, jI x3, jI x4, jI (x5 + 1), jI x6, jI ((1000 * r1) + x6)] [] h6)) ∧ (¬ x4 ≤ ((1000 * r1) + x6) → (j_rg (x5 + 1)) ∧ (WV Sm G M_X8_cutFor Q 44 [jR 0, jI x1, jI x2, jI x5, jI ((1000 * r1) + x6), jI (x5 + 1), jI x6, jI ((1000 * r1) + x6)] [] h6))))))))) ∧ (¬ (h.1 0 15) ≤ x7 → ∃ post : Int → jH → Prop, CT Sm M_X8_has [jI x5, jI x7] h (jPi post) ∧ ∀ (r11 : Int) (h12 : jH), post r11 h12 → ((r11 = 0 → (j_rg (x7 + 1)) ∧ (WV Sm G M_X8_cutFor Q 81 [jR 0, jI x1, jI x2, jI x3, jI x4, jI x5, jI x6, jI (x7 + 1)] [] h12)) ∧ (¬ r11 = 0 → (j_rg (7 + x7)) ∧ ((0 ≤ 7 + x7 ∧ 7 + x7 < 28) ∧ ((j_rg (14 + x7)) ∧ ((0 ≤ 14 + x7 ∧ 14 + x7 < 28) ∧ ((j_rg (x6 + (h12.1 5 (Int.toNat (14 + x7))))) ∧ ((j_rg (x7 + 1)) ∧ (WV Sm G M_X8_cutFor Q 81 [jR 0, jI x1, jI x2, jI x3, jI x4, jI x5, jI (x6 + (h12.1 5 (Int.toNat (14 + x7)))), jI (x7 + 1)] [] (j_up h12 6 (Int.toNat (7 + x7)) 4))))))))))) :
    WV Sm G M_X8_cutFor Q 81 [jR 0, jI x1, jI x2, jI x3, jI x4, jI x5, jI x6, jI x7] [] h := by
  refine s_iload (pc := 81) dX8_cutFor_81 rfl ?_
  refine s_aload_n (pc := 83) dX8_cutFor_83 rfl ?_
  refine s_geti (pc := 84) (x := h.1 0 15) dX8_cutFor_84 fl_X8_57 cSm_0 rfl rfl ?_
  refine s_icmp_ge (pc := 87) (tgt := 132) dX8_cutFor_87 (by decide) (fun hc => ?_) (fun hc => ?_)
  · have H := H.1 hc
    refine s_sipush (pc := 132) dX8_cutFor_132 rfl (j_cst rfl) ?_
    refine s_iload (pc := 135) dX8_cutFor_135 rfl ?_
    obtain ⟨post, hct, H⟩ := H
    refine s_callS (pc := 137) (as := [jI x5]) (st := [jI 1000]) (by exact dX8_cutFor_137) ms_X8_135 ⟨rfl, rfl, Nat.le_of_ble_eq_true rfl, Nat.le_of_ble_eq_true rfl⟩ (Nat.le_of_ble_eq_true rfl) _ rfl hct (fun r1 h2 hp => ?_)
    obtain ⟨r1, rfl, hp⟩ := hp
    have H := H r1 h2 hp
    show WV _ _ _ _ 140 [jR 0, jI x1, jI x2, jI x3, jI x4, jI x5, jI x6, jI x7] [jI r1, jI 1000] h2
    obtain ⟨k3, H⟩ := H
    refine s_imul (pc := 140) dX8_cutFor_140 k3 ?_
    refine s_iload (pc := 141) dX8_cutFor_141 rfl ?_
    obtain ⟨k4, H⟩ := H
    refine s_iadd (pc := 143) dX8_cutFor_143 k4 ?_
    refine s_istore (pc := 144) (lv' := [jR 0, jI x1, jI x2, jI x3, jI x4, jI x5, jI x6, jI ((1000 * r1) + x6)]) dX8_cutFor_144 (by decide) rfl ?_
    refine s_aload_n (pc := 146) dX8_cutFor_146 rfl ?_
    refine s_aload_n (pc := 147) dX8_cutFor_147 rfl ?_
    refine s_getr (pc := 148) dX8_cutFor_148 fl_X8_32 cSm_0 rfl ?_
    refine s_iload_n (pc := 151) dX8_cutFor_151 rfl ?_
    refine s_aload_n (pc := 152) dX8_cutFor_152 rfl ?_
    refine s_geti (pc := 153) (x := h2.1 0 14) dX8_cutFor_153 fl_X8_23 cSm_0 rfl rfl ?_
    obtain ⟨post, hct, H⟩ := H
    refine s_callV (pc := 156) (as := [jR 6, jI x1, jI (h2.1 0 14)]) (st := []) (by exact dX8_cutFor_156) mv_X8_179 ⟨rfl, rfl, Nat.le_of_ble_eq_true rfl, Nat.le_of_ble_eq_true rfl⟩ cSm_0 rfl rfl (Nat.le_of_ble_eq_true rfl) _ rfl hct (fun r5 h6 hp => ?_)
    obtain ⟨r5, rfl, hp⟩ := hp
    have H := H r5 h6 hp
    show WV _ _ _ _ 159 [jR 0, jI x1, jI x2, jI x3, jI x4, jI x5, jI x6, jI ((1000 * r1) + x6)] [jI r5] h6
    refine s_if_eq (pc := 159) (tgt := 180) dX8_cutFor_159 (by decide) (fun hc => ?_) (fun hc => ?_)
    · have H := H.1 hc
      obtain ⟨k7, H⟩ := H
      refine s_iinc (pc := 180) (lv' := [jR 0, jI x1, jI x2, jI x3, jI x4, jI (x5 + 1), jI x6, jI ((1000 * r1) + x6)]) dX8_cutFor_180 rfl (by decide) k7 rfl ?_
      refine s_goto (pc := 183) (tgt := 44) dX8_cutFor_183 (by decide) ?_
      exact H
    · have H := H.2 hc
      refine s_iload_n (pc := 162) dX8_cutFor_162 rfl ?_
      refine s_if_lt (pc := 163) (tgt := 173) dX8_cutFor_163 (by decide) (fun hc => ?_) (fun hc => ?_)
      · have H := H.1 hc
        refine s_iload (pc := 173) dX8_cutFor_173 rfl ?_
        refine s_istore_n (pc := 175) (lv' := [jR 0, jI x1, jI x2, jI x5, jI x4, jI x5, jI x6, jI ((1000 * r1) + x6)]) dX8_cutFor_175 (by decide) rfl ?_
        refine s_iload (pc := 176) dX8_cutFor_176 rfl ?_
        refine s_istore (pc := 178) (lv' := [jR 0, jI x1, jI x2, jI x5, jI ((1000 * r1) + x6), jI x5, jI x6, jI ((1000 * r1) + x6)]) dX8_cutFor_178 (by decide) rfl ?_
        obtain ⟨k8, H⟩ := H
        refine s_iinc (pc := 180) (lv' := [jR 0, jI x1, jI x2, jI x5, jI ((1000 * r1) + x6), jI (x5 + 1), jI x6, jI ((1000 * r1) + x6)]) dX8_cutFor_180 rfl (by decide) k8 rfl ?_
        refine s_goto (pc := 183) (tgt := 44) dX8_cutFor_183 (by decide) ?_
        exact H
      · have H := H.2 hc
        refine s_iload (pc := 166) dX8_cutFor_166 rfl ?_
        refine s_iload (pc := 168) dX8_cutFor_168 rfl ?_
        refine s_icmp_ge (pc := 170) (tgt := 180) dX8_cutFor_170 (by decide) (fun hc => ?_) (fun hc => ?_)
        · have H := H.1 hc
          obtain ⟨k9, H⟩ := H
          refine s_iinc (pc := 180) (lv' := [jR 0, jI x1, jI x2, jI x3, jI x4, jI (x5 + 1), jI x6, jI ((1000 * r1) + x6)]) dX8_cutFor_180 rfl (by decide) k9 rfl ?_
          refine s_goto (pc := 183) (tgt := 44) dX8_cutFor_183 (by decide) ?_
          exact H
        · have H := H.2 hc
          refine s_iload (pc := 173) dX8_cutFor_173 rfl ?_
          refine s_istore_n (pc := 175) (lv' := [jR 0, jI x1, jI x2, jI x5, jI x4, jI x5, jI x6, jI ((1000 * r1) + x6)]) dX8_cutFor_175 (by decide) rfl ?_
          refine s_iload (pc := 176) dX8_cutFor_176 rfl ?_
          refine s_istore (pc := 178) (lv' := [jR 0, jI x1, jI x2, jI x5, jI ((1000 * r1) + x6), jI x5, jI x6, jI ((1000 * r1) + x6)]) dX8_cutFor_178 (by decide) rfl ?_
          obtain ⟨k10, H⟩ := H
          refine s_iinc (pc := 180) (lv' := [jR 0, jI x1, jI x2, jI x5, jI ((1000 * r1) + x6), jI (x5 + 1), jI x6, jI ((1000 * r1) + x6)]) dX8_cutFor_180 rfl (by decide) k10 rfl ?_
          refine s_goto (pc := 183) (tgt := 44) dX8_cutFor_183 (by decide) ?_
          exact H
  · have H := H.2 hc
    refine s_iload (pc := 90) dX8_cutFor_90 rfl ?_
    refine s_iload (pc := 92) dX8_cutFor_92 rfl ?_
    obtain ⟨post, hct, H⟩ := H
    refine s_callS (pc := 94) (as := [jI x5, jI x7]) (st := []) (by exact dX8_cutFor_94) ms_X8_201 ⟨rfl, rfl, Nat.le_of_ble_eq_true rfl, Nat.le_of_ble_eq_true rfl⟩ (Nat.le_of_ble_eq_true rfl) _ rfl hct (fun r11 h12 hp => ?_)
    obtain ⟨r11, rfl, hp⟩ := hp
    have H := H r11 h12 hp
    show WV _ _ _ _ 97 [jR 0, jI x1, jI x2, jI x3, jI x4, jI x5, jI x6, jI x7] [jI r11] h12
    refine s_if_eq (pc := 97) (tgt := 126) dX8_cutFor_97 (by decide) (fun hc => ?_) (fun hc => ?_)
    · have H := H.1 hc
      obtain ⟨k13, H⟩ := H
      refine s_iinc (pc := 126) (lv' := [jR 0, jI x1, jI x2, jI x3, jI x4, jI x5, jI x6, jI (x7 + 1)]) dX8_cutFor_126 rfl (by decide) k13 rfl ?_
      refine s_goto (pc := 129) (tgt := 81) dX8_cutFor_129 (by decide) ?_
      exact H
    · have H := H.2 hc
      refine s_aload_n (pc := 100) dX8_cutFor_100 rfl ?_
      refine s_getr (pc := 101) dX8_cutFor_101 fl_X8_32 cSm_0 rfl ?_
      refine s_bipush (pc := 104) dX8_cutFor_104 rfl (j_cst rfl) ?_
      refine s_iload (pc := 106) dX8_cutFor_106 rfl ?_
      obtain ⟨k14, H⟩ := H
      refine s_iadd (pc := 108) dX8_cutFor_108 k14 ?_
      refine s_iconst (pc := 109) dX8_cutFor_109 (j_cst rfl) ?_
      obtain ⟨k15, H⟩ := H
      refine s_iast (pc := 110) dX8_cutFor_110 cSm_6 k15 ?_
      refine s_iload (pc := 111) dX8_cutFor_111 rfl ?_
      refine s_aload_n (pc := 113) dX8_cutFor_113 rfl ?_
      refine s_getr (pc := 114) dX8_cutFor_114 fl_X8_29 cSm_0 rfl ?_
      refine s_bipush (pc := 117) dX8_cutFor_117 rfl (j_cst rfl) ?_
      refine s_iload (pc := 119) dX8_cutFor_119 rfl ?_
      obtain ⟨k16, H⟩ := H
      refine s_iadd (pc := 121) dX8_cutFor_121 k16 ?_
      obtain ⟨k17, H⟩ := H
      refine s_iald (pc := 122) (x := h12.1 5 (Int.toNat (14 + x7))) dX8_cutFor_122 cSm_5 k17 rfl ?_
      obtain ⟨k18, H⟩ := H
      refine s_iadd (pc := 123) dX8_cutFor_123 k18 ?_
      refine s_istore (pc := 124) (lv' := [jR 0, jI x1, jI x2, jI x3, jI x4, jI x5, jI (x6 + (h12.1 5 (Int.toNat (14 + x7)))), jI x7]) dX8_cutFor_124 (by decide) rfl ?_
      obtain ⟨k19, H⟩ := H
      refine s_iinc (pc := 126) (lv' := [jR 0, jI x1, jI x2, jI x3, jI x4, jI x5, jI (x6 + (h12.1 5 (Int.toNat (14 + x7)))), jI (x7 + 1)]) dX8_cutFor_126 rfl (by decide) k19 rfl ?_
      refine s_goto (pc := 129) (tgt := 81) dX8_cutFor_129 (by decide) ?_
      exact H
theorem en_X8_distance {x0 x1 : Int} {h : jH} {post : jQ} (k : ∀ G, WV Sm G M_X8_distance post 0 [jI x0, jI x1] [] h) : CT Sm M_X8_distance [jI x0, jI x1] h post := CT.of (by decide +kernel) (by simp [j_un]) (Nat.le_of_ble_eq_true rfl) _ rfl k
set_option maxRecDepth 20000 in
theorem vc_X8_distance_0 {G : jG} {Q : jQ} {x0 x1 : Int} {h : jH}
    (H : (x0 ≤ x1 → (j_rg (x1 - x0)) ∧ (Q (some (jI (x1 - x0))) h)) ∧ (¬ x0 ≤ x1 → (j_rg (x0 - x1)) ∧ (Q (some (jI (x0 - x1))) h))) :
    WV Sm G M_X8_distance Q 0 [jI x0, jI x1] [] h := by
  refine s_iload_n (pc := 0) dX8_distance_0 rfl ?_
  refine s_iload_n (pc := 1) dX8_distance_1 rfl ?_
  refine s_icmp_le (pc := 2) (tgt := 11) dX8_distance_2 (by decide) (fun hc => ?_) (fun hc => ?_)
  · have H := H.1 hc
    refine s_iload_n (pc := 11) dX8_distance_11 rfl ?_
    refine s_iload_n (pc := 12) dX8_distance_12 rfl ?_
    obtain ⟨k1, H⟩ := H
    refine s_isub (pc := 13) dX8_distance_13 k1 ?_
    exact s_iret dX8_distance_14 rfl H
  · have H := H.2 hc
    refine s_iload_n (pc := 5) dX8_distance_5 rfl ?_
    refine s_iload_n (pc := 6) dX8_distance_6 rfl ?_
    obtain ⟨k2, H⟩ := H
    refine s_isub (pc := 7) dX8_distance_7 k2 ?_
    refine s_goto (pc := 8) (tgt := 14) dX8_distance_8 (by decide) ?_
    exact s_iret dX8_distance_14 rfl H
theorem en_X8_longBy_0_5 {x2 : Int} {h : jH} {post : jQ} (k : ∀ G, WV Sm G M_X8_longBy post 0 [jR 0, jR 5, jI x2, jU, jU] [] h) : CT Sm M_X8_longBy [jR 0, jR 5, jI x2] h post := CT.of (by decide +kernel) (by simp [j_un]) (Nat.le_of_ble_eq_true rfl) _ rfl k
set_option maxRecDepth 20000 in
theorem vc_X8_longBy_0_5_0 {G : jG} {Q : jQ} {x2 : Int} {h : jH}
    (H : WV Sm G M_X8_longBy Q 5 [jR 0, jR 5, jI x2, jI 0, jI 0] [] h) :
    WV Sm G M_X8_longBy Q 0 [jR 0, jR 5, jI x2, jU, jU] [] h := by
  refine s_iconst (pc := 0) dX8_longBy_0 (j_cst rfl) ?_
  refine s_istore_n (pc := 1) (lv' := [jR 0, jR 5, jI x2, jI 0, jU]) dX8_longBy_1 (by decide) rfl ?_
  refine s_iconst (pc := 2) dX8_longBy_2 (j_cst rfl) ?_
  refine s_istore (pc := 3) (lv' := [jR 0, jR 5, jI x2, jI 0, jI 0]) dX8_longBy_3 (by decide) rfl ?_
  exact H
set_option maxRecDepth 20000 in
theorem vc_X8_longBy_0_5_5 {G : jG} {Q : jQ} {x2 x3 x4 : Int} {h : jH}
    (H : ((h.1 0 15) ≤ x4 → Q (some (jI x3)) h) ∧ (¬ (h.1 0 15) ≤ x4 → ∃ post : Int → jH → Prop, CT Sm M_X8_fromOf [jR 0, jI x4] h (jPi post) ∧ ∀ (r1 : Int) (h2 : jH), post r1 h2 → ((j_rg (x2 + r1)) ∧ ((0 ≤ x2 + r1 ∧ x2 + r1 < 28) ∧ (∃ post : Int → jH → Prop, CT Sm M_X8_toOf [jR 0, jI x4] h2 (jPi post) ∧ ∀ (r5 : Int) (h6 : jH), post r5 h6 → ((j_rg (x2 + r5)) ∧ ((0 ≤ x2 + r5 ∧ x2 + r5 < 28) ∧ (∃ post : Int → jH → Prop, CT Sm M_X8_distance [jI (h2.1 5 (Int.toNat (x2 + r1))), jI (h6.1 5 (Int.toNat (x2 + r5)))] h6 (jPi post) ∧ ∀ (r9 : Int) (h10 : jH), post r9 h10 → ((j_rg (x3 + r9)) ∧ ((j_rg (x4 + 1)) ∧ (WV Sm G M_X8_longBy Q 5 [jR 0, jR 5, jI x2, jI (x3 + r9), jI (x4 + 1)] [] h10))))))))))) :
    WV Sm G M_X8_longBy Q 5 [jR 0, jR 5, jI x2, jI x3, jI x4] [] h := by
  refine s_iload (pc := 5) dX8_longBy_5 rfl ?_
  refine s_aload_n (pc := 7) dX8_longBy_7 rfl ?_
  refine s_geti (pc := 8) (x := h.1 0 15) dX8_longBy_8 fl_X8_57 cSm_0 rfl rfl ?_
  refine s_icmp_ge (pc := 11) (tgt := 46) dX8_longBy_11 (by decide) (fun hc => ?_) (fun hc => ?_)
  · have H := H.1 hc
    refine s_iload_n (pc := 46) dX8_longBy_46 rfl ?_
    exact s_iret dX8_longBy_47 rfl H
  · have H := H.2 hc
    refine s_iload_n (pc := 14) dX8_longBy_14 rfl ?_
    refine s_aload_n (pc := 15) dX8_longBy_15 rfl ?_
    refine s_iload_n (pc := 16) dX8_longBy_16 rfl ?_
    refine s_aload_n (pc := 17) dX8_longBy_17 rfl ?_
    refine s_iload (pc := 18) dX8_longBy_18 rfl ?_
    obtain ⟨post, hct, H⟩ := H
    refine s_callV (pc := 20) (as := [jI x4]) (st := [jI x2, jR 5, jI x3]) (by exact dX8_longBy_20) mv_X8_121 ⟨rfl, rfl, Nat.le_of_ble_eq_true rfl, Nat.le_of_ble_eq_true rfl⟩ cSm_0 rfl rfl (Nat.le_of_ble_eq_true rfl) _ rfl hct (fun r1 h2 hp => ?_)
    obtain ⟨r1, rfl, hp⟩ := hp
    have H := H r1 h2 hp
    show WV _ _ _ _ 23 [jR 0, jR 5, jI x2, jI x3, jI x4] [jI r1, jI x2, jR 5, jI x3] h2
    obtain ⟨k3, H⟩ := H
    refine s_iadd (pc := 23) dX8_longBy_23 k3 ?_
    obtain ⟨k4, H⟩ := H
    refine s_iald (pc := 24) (x := h2.1 5 (Int.toNat (x2 + r1))) dX8_longBy_24 cSm_5 k4 rfl ?_
    refine s_aload_n (pc := 25) dX8_longBy_25 rfl ?_
    refine s_iload_n (pc := 26) dX8_longBy_26 rfl ?_
    refine s_aload_n (pc := 27) dX8_longBy_27 rfl ?_
    refine s_iload (pc := 28) dX8_longBy_28 rfl ?_
    obtain ⟨post, hct, H⟩ := H
    refine s_callV (pc := 30) (as := [jI x4]) (st := [jI x2, jR 5, jI (h2.1 5 (Int.toNat (x2 + r1))), jI x3]) (by exact dX8_longBy_30) mv_X8_125 ⟨rfl, rfl, Nat.le_of_ble_eq_true rfl, Nat.le_of_ble_eq_true rfl⟩ cSm_0 rfl rfl (Nat.le_of_ble_eq_true rfl) _ rfl hct (fun r5 h6 hp => ?_)
    obtain ⟨r5, rfl, hp⟩ := hp
    have H := H r5 h6 hp
    show WV _ _ _ _ 33 [jR 0, jR 5, jI x2, jI x3, jI x4] [jI r5, jI x2, jR 5, jI (h2.1 5 (Int.toNat (x2 + r1))), jI x3] h6
    obtain ⟨k7, H⟩ := H
    refine s_iadd (pc := 33) dX8_longBy_33 k7 ?_
    obtain ⟨k8, H⟩ := H
    refine s_iald (pc := 34) (x := h6.1 5 (Int.toNat (x2 + r5))) dX8_longBy_34 cSm_5 k8 rfl ?_
    obtain ⟨post, hct, H⟩ := H
    refine s_callS (pc := 35) (as := [jI (h2.1 5 (Int.toNat (x2 + r1))), jI (h6.1 5 (Int.toNat (x2 + r5)))]) (st := [jI x3]) (by exact dX8_longBy_35) ms_X8_213 ⟨rfl, rfl, Nat.le_of_ble_eq_true rfl, Nat.le_of_ble_eq_true rfl⟩ (Nat.le_of_ble_eq_true rfl) _ rfl hct (fun r9 h10 hp => ?_)
    obtain ⟨r9, rfl, hp⟩ := hp
    have H := H r9 h10 hp
    show WV _ _ _ _ 38 [jR 0, jR 5, jI x2, jI x3, jI x4] [jI r9, jI x3] h10
    obtain ⟨k11, H⟩ := H
    refine s_iadd (pc := 38) dX8_longBy_38 k11 ?_
    refine s_istore_n (pc := 39) (lv' := [jR 0, jR 5, jI x2, jI (x3 + r9), jI x4]) dX8_longBy_39 (by decide) rfl ?_
    obtain ⟨k12, H⟩ := H
    refine s_iinc (pc := 40) (lv' := [jR 0, jR 5, jI x2, jI (x3 + r9), jI (x4 + 1)]) dX8_longBy_40 rfl (by decide) k12 rfl ?_
    refine s_goto (pc := 43) (tgt := 5) dX8_longBy_43 (by decide) ?_
    exact H
theorem en_X8_longCords_0 {h : jH} {post : jQ} (k : ∀ G, WV Sm G M_X8_longCords post 0 [jR 0] [] h) : CT Sm M_X8_longCords [jR 0] h post := CT.of (by decide +kernel) (by simp [j_un]) (Nat.le_of_ble_eq_true rfl) _ rfl k
set_option maxRecDepth 20000 in
theorem vc_X8_longCords_0_0 {G : jG} {Q : jQ} {h : jH}
    (H : ∃ post : Int → jH → Prop, CT Sm M_X8_longBy [jR 0, jR 5, jI 1] h (jPi post) ∧ ∀ (r1 : Int) (h2 : jH), post r1 h2 → (Q (some (jI r1)) h2)) :
    WV Sm G M_X8_longCords Q 0 [jR 0] [] h := by
  refine s_aload_n (pc := 0) dX8_longCords_0 rfl ?_
  refine s_aload_n (pc := 1) dX8_longCords_1 rfl ?_
  refine s_getr (pc := 2) dX8_longCords_2 fl_X8_29 cSm_0 rfl ?_
  refine s_iconst (pc := 5) dX8_longCords_5 (j_cst rfl) ?_
  obtain ⟨post, hct, H⟩ := H
  refine s_callV (pc := 6) (as := [jR 5, jI 1]) (st := []) (by exact dX8_longCords_6) mv_X8_217 ⟨rfl, rfl, Nat.le_of_ble_eq_true rfl, Nat.le_of_ble_eq_true rfl⟩ cSm_0 rfl rfl (Nat.le_of_ble_eq_true rfl) _ rfl hct (fun r1 h2 hp => ?_)
  obtain ⟨r1, rfl, hp⟩ := hp
  have H := H r1 h2 hp
  show WV _ _ _ _ 9 [jR 0] [jI r1] h2
  exact s_iret dX8_longCords_9 rfl H
theorem en_X8_longBy_0_6 {x2 : Int} {h : jH} {post : jQ} (k : ∀ G, WV Sm G M_X8_longBy post 0 [jR 0, jR 6, jI x2, jU, jU] [] h) : CT Sm M_X8_longBy [jR 0, jR 6, jI x2] h post := CT.of (by decide +kernel) (by simp [j_un]) (Nat.le_of_ble_eq_true rfl) _ rfl k
set_option maxRecDepth 20000 in
theorem vc_X8_longBy_0_6_0 {G : jG} {Q : jQ} {x2 : Int} {h : jH}
    (H : WV Sm G M_X8_longBy Q 5 [jR 0, jR 6, jI x2, jI 0, jI 0] [] h) :
    WV Sm G M_X8_longBy Q 0 [jR 0, jR 6, jI x2, jU, jU] [] h := by
  refine s_iconst (pc := 0) dX8_longBy_0 (j_cst rfl) ?_
  refine s_istore_n (pc := 1) (lv' := [jR 0, jR 6, jI x2, jI 0, jU]) dX8_longBy_1 (by decide) rfl ?_
  refine s_iconst (pc := 2) dX8_longBy_2 (j_cst rfl) ?_
  refine s_istore (pc := 3) (lv' := [jR 0, jR 6, jI x2, jI 0, jI 0]) dX8_longBy_3 (by decide) rfl ?_
  exact H
set_option maxRecDepth 20000 in
theorem vc_X8_longBy_0_6_5 {G : jG} {Q : jQ} {x2 x3 x4 : Int} {h : jH}
    (H : ((h.1 0 15) ≤ x4 → Q (some (jI x3)) h) ∧ (¬ (h.1 0 15) ≤ x4 → ∃ post : Int → jH → Prop, CT Sm M_X8_fromOf [jR 0, jI x4] h (jPi post) ∧ ∀ (r1 : Int) (h2 : jH), post r1 h2 → ((j_rg (x2 + r1)) ∧ ((0 ≤ x2 + r1 ∧ x2 + r1 < 28) ∧ (∃ post : Int → jH → Prop, CT Sm M_X8_toOf [jR 0, jI x4] h2 (jPi post) ∧ ∀ (r5 : Int) (h6 : jH), post r5 h6 → ((j_rg (x2 + r5)) ∧ ((0 ≤ x2 + r5 ∧ x2 + r5 < 28) ∧ (∃ post : Int → jH → Prop, CT Sm M_X8_distance [jI (h2.1 6 (Int.toNat (x2 + r1))), jI (h6.1 6 (Int.toNat (x2 + r5)))] h6 (jPi post) ∧ ∀ (r9 : Int) (h10 : jH), post r9 h10 → ((j_rg (x3 + r9)) ∧ ((j_rg (x4 + 1)) ∧ (WV Sm G M_X8_longBy Q 5 [jR 0, jR 6, jI x2, jI (x3 + r9), jI (x4 + 1)] [] h10))))))))))) :
    WV Sm G M_X8_longBy Q 5 [jR 0, jR 6, jI x2, jI x3, jI x4] [] h := by
  refine s_iload (pc := 5) dX8_longBy_5 rfl ?_
  refine s_aload_n (pc := 7) dX8_longBy_7 rfl ?_
  refine s_geti (pc := 8) (x := h.1 0 15) dX8_longBy_8 fl_X8_57 cSm_0 rfl rfl ?_
  refine s_icmp_ge (pc := 11) (tgt := 46) dX8_longBy_11 (by decide) (fun hc => ?_) (fun hc => ?_)
  · have H := H.1 hc
    refine s_iload_n (pc := 46) dX8_longBy_46 rfl ?_
    exact s_iret dX8_longBy_47 rfl H
  · have H := H.2 hc
    refine s_iload_n (pc := 14) dX8_longBy_14 rfl ?_
    refine s_aload_n (pc := 15) dX8_longBy_15 rfl ?_
    refine s_iload_n (pc := 16) dX8_longBy_16 rfl ?_
    refine s_aload_n (pc := 17) dX8_longBy_17 rfl ?_
    refine s_iload (pc := 18) dX8_longBy_18 rfl ?_
    obtain ⟨post, hct, H⟩ := H
    refine s_callV (pc := 20) (as := [jI x4]) (st := [jI x2, jR 6, jI x3]) (by exact dX8_longBy_20) mv_X8_121 ⟨rfl, rfl, Nat.le_of_ble_eq_true rfl, Nat.le_of_ble_eq_true rfl⟩ cSm_0 rfl rfl (Nat.le_of_ble_eq_true rfl) _ rfl hct (fun r1 h2 hp => ?_)
    obtain ⟨r1, rfl, hp⟩ := hp
    have H := H r1 h2 hp
    show WV _ _ _ _ 23 [jR 0, jR 6, jI x2, jI x3, jI x4] [jI r1, jI x2, jR 6, jI x3] h2
    obtain ⟨k3, H⟩ := H
    refine s_iadd (pc := 23) dX8_longBy_23 k3 ?_
    obtain ⟨k4, H⟩ := H
    refine s_iald (pc := 24) (x := h2.1 6 (Int.toNat (x2 + r1))) dX8_longBy_24 cSm_6 k4 rfl ?_
    refine s_aload_n (pc := 25) dX8_longBy_25 rfl ?_
    refine s_iload_n (pc := 26) dX8_longBy_26 rfl ?_
    refine s_aload_n (pc := 27) dX8_longBy_27 rfl ?_
    refine s_iload (pc := 28) dX8_longBy_28 rfl ?_
    obtain ⟨post, hct, H⟩ := H
    refine s_callV (pc := 30) (as := [jI x4]) (st := [jI x2, jR 6, jI (h2.1 6 (Int.toNat (x2 + r1))), jI x3]) (by exact dX8_longBy_30) mv_X8_125 ⟨rfl, rfl, Nat.le_of_ble_eq_true rfl, Nat.le_of_ble_eq_true rfl⟩ cSm_0 rfl rfl (Nat.le_of_ble_eq_true rfl) _ rfl hct (fun r5 h6 hp => ?_)
    obtain ⟨r5, rfl, hp⟩ := hp
    have H := H r5 h6 hp
    show WV _ _ _ _ 33 [jR 0, jR 6, jI x2, jI x3, jI x4] [jI r5, jI x2, jR 6, jI (h2.1 6 (Int.toNat (x2 + r1))), jI x3] h6
    obtain ⟨k7, H⟩ := H
    refine s_iadd (pc := 33) dX8_longBy_33 k7 ?_
    obtain ⟨k8, H⟩ := H
    refine s_iald (pc := 34) (x := h6.1 6 (Int.toNat (x2 + r5))) dX8_longBy_34 cSm_6 k8 rfl ?_
    obtain ⟨post, hct, H⟩ := H
    refine s_callS (pc := 35) (as := [jI (h2.1 6 (Int.toNat (x2 + r1))), jI (h6.1 6 (Int.toNat (x2 + r5)))]) (st := [jI x3]) (by exact dX8_longBy_35) ms_X8_213 ⟨rfl, rfl, Nat.le_of_ble_eq_true rfl, Nat.le_of_ble_eq_true rfl⟩ (Nat.le_of_ble_eq_true rfl) _ rfl hct (fun r9 h10 hp => ?_)
    obtain ⟨r9, rfl, hp⟩ := hp
    have H := H r9 h10 hp
    show WV _ _ _ _ 38 [jR 0, jR 6, jI x2, jI x3, jI x4] [jI r9, jI x3] h10
    obtain ⟨k11, H⟩ := H
    refine s_iadd (pc := 38) dX8_longBy_38 k11 ?_
    refine s_istore_n (pc := 39) (lv' := [jR 0, jR 6, jI x2, jI (x3 + r9), jI x4]) dX8_longBy_39 (by decide) rfl ?_
    obtain ⟨k12, H⟩ := H
    refine s_iinc (pc := 40) (lv' := [jR 0, jR 6, jI x2, jI (x3 + r9), jI (x4 + 1)]) dX8_longBy_40 rfl (by decide) k12 rfl ?_
    refine s_goto (pc := 43) (tgt := 5) dX8_longBy_43 (by decide) ?_
    exact H
theorem en_X8_change_0 {h : jH} {post : jQ} (k : ∀ G, WV Sm G M_X8_change post 0 [jR 0, jU, jU, jU, jU, jU] [] h) : CT Sm M_X8_change [jR 0] h post := CT.of (by decide +kernel) (by simp [j_un]) (Nat.le_of_ble_eq_true rfl) _ rfl k
set_option maxRecDepth 20000 in
theorem vc_X8_change_0_0 {G : jG} {Q : jQ} {h : jH}
    (H : ∃ post : Int → jH → Prop, CT Sm M_X8_longCords [jR 0] h (jPi post) ∧ ∀ (r1 : Int) (h2 : jH), post r1 h2 → (WV Sm G M_X8_change Q 10 [jR 0, jI (-9), jI r1, jI 0, jU, jU] [] h2)) :
    WV Sm G M_X8_change Q 0 [jR 0, jU, jU, jU, jU, jU] [] h := by
  refine s_bipush (pc := 0) dX8_change_0 rfl (j_cst rfl) ?_
  refine s_istore_n (pc := 2) (lv' := [jR 0, jI (-9), jU, jU, jU, jU]) dX8_change_2 (by decide) rfl ?_
  refine s_aload_n (pc := 3) dX8_change_3 rfl ?_
  obtain ⟨post, hct, H⟩ := H
  refine s_callV (pc := 4) (as := []) (st := []) (by exact dX8_change_4) mv_X8_220 ⟨rfl, rfl, Nat.le_of_ble_eq_true rfl, Nat.le_of_ble_eq_true rfl⟩ cSm_0 rfl rfl (Nat.le_of_ble_eq_true rfl) _ rfl hct (fun r1 h2 hp => ?_)
  obtain ⟨r1, rfl, hp⟩ := hp
  have H := H r1 h2 hp
  show WV _ _ _ _ 7 [jR 0, jI (-9), jU, jU, jU, jU] [jI r1] h2
  refine s_istore_n (pc := 7) (lv' := [jR 0, jI (-9), jI r1, jU, jU, jU]) dX8_change_7 (by decide) rfl ?_
  refine s_iconst (pc := 8) dX8_change_8 (j_cst rfl) ?_
  refine s_istore_n (pc := 9) (lv' := [jR 0, jI (-9), jI r1, jI 0, jU, jU]) dX8_change_9 (by decide) rfl ?_
  exact H
set_option maxRecDepth 20000 in
theorem vc_X8_change_0_10 {G : jG} {Q : jQ} {x1 x2 x3 : Int} {u4 u5 : jV} {h : jH}
    (H : ((h.1 0 13) ≤ x3 → Q (some (jI x1)) h) ∧ (¬ (h.1 0 13) ≤ x3 → (j_rg (x3 + 1)) ∧ (WV Sm G M_X8_change Q 23 [jR 0, jI x1, jI x2, jI x3, jI (x3 + 1), u5] [] h))) :
    WV Sm G M_X8_change Q 10 [jR 0, jI x1, jI x2, jI x3, u4, u5] [] h := by
  refine s_iload_n (pc := 10) dX8_change_10 rfl ?_
  refine s_aload_n (pc := 11) dX8_change_11 rfl ?_
  refine s_geti (pc := 12) (x := h.1 0 13) dX8_change_12 fl_X8_19 cSm_0 rfl rfl ?_
  refine s_icmp_ge (pc := 15) (tgt := 119) dX8_change_15 (by decide) (fun hc => ?_) (fun hc => ?_)
  · have H := H.1 hc
    refine s_iload_n (pc := 119) dX8_change_119 rfl ?_
    exact s_iret dX8_change_120 rfl H
  · have H := H.2 hc
    refine s_iload_n (pc := 18) dX8_change_18 rfl ?_
    refine s_iconst (pc := 19) dX8_change_19 (j_cst rfl) ?_
    obtain ⟨k1, H⟩ := H
    refine s_iadd (pc := 20) dX8_change_20 k1 ?_
    refine s_istore (pc := 21) (lv' := [jR 0, jI x1, jI x2, jI x3, jI (x3 + 1), u5]) dX8_change_21 (by decide) rfl ?_
    exact H
set_option maxRecDepth 20000 in
theorem vc_X8_change_0_23 {G : jG} {Q : jQ} {x1 x2 x3 x4 : Int} {u5 : jV} {h : jH}
    (H : ((h.1 0 13) ≤ x4 → (j_rg (x3 + 1)) ∧ (WV Sm G M_X8_change Q 10 [jR 0, jI x1, jI x2, jI (x3 + 1), jI x4, u5] [] h)) ∧ (¬ (h.1 0 13) ≤ x4 → ∃ post : jH → Prop, CT Sm M_X8_copy [jR 5, jI 0, jR 6, jI 0] h (jPv post) ∧ ∀ (h3 : jH), post h3 → ((j_rg (1 + x3)) ∧ ((j_rg (1 + x4)) ∧ ((0 ≤ 1 + x4 ∧ 1 + x4 < 28) ∧ ((0 ≤ 1 + x3 ∧ 1 + x3 < 28) ∧ (∃ post : Int → jH → Prop, CT Sm M_X8_longBy [jR 0, jR 6, jI 1] (j_up (j_up h3 6 (Int.toNat (1 + x3)) (h3.1 5 (Int.toNat (1 + x4)))) 6 (Int.toNat (1 + x4)) (h3.1 5 (Int.toNat (1 + x3)))) (jPi post) ∧ ∀ (r8 : Int) (h9 : jH), post r8 h9 → ((x2 ≤ r8 → (j_rg (x4 + 1)) ∧ (WV Sm G M_X8_change Q 23 [jR 0, jI x1, jI x2, jI x3, jI (x4 + 1), jI r8] [] h9)) ∧ (¬ x2 ≤ r8 → (j_rg (10 * x3)) ∧ ((j_rg ((10 * x3) + x4)) ∧ ((j_rg (x4 + 1)) ∧ (WV Sm G M_X8_change Q 23 [jR 0, jI ((10 * x3) + x4), jI r8, jI x3, jI (x4 + 1), jI r8] [] h9)))))))))))) :
    WV Sm G M_X8_change Q 23 [jR 0, jI x1, jI x2, jI x3, jI x4, u5] [] h := by
  refine s_iload (pc := 23) dX8_change_23 rfl ?_
  refine s_aload_n (pc := 25) dX8_change_25 rfl ?_
  refine s_geti (pc := 26) (x := h.1 0 13) dX8_change_26 fl_X8_19 cSm_0 rfl rfl ?_
  refine s_icmp_ge (pc := 29) (tgt := 113) dX8_change_29 (by decide) (fun hc => ?_) (fun hc => ?_)
  · have H := H.1 hc
    obtain ⟨k1, H⟩ := H
    refine s_iinc (pc := 113) (lv' := [jR 0, jI x1, jI x2, jI (x3 + 1), jI x4, u5]) dX8_change_113 rfl (by decide) k1 rfl ?_
    refine s_goto (pc := 116) (tgt := 10) dX8_change_116 (by decide) ?_
    exact H
  · have H := H.2 hc
    refine s_aload_n (pc := 32) dX8_change_32 rfl ?_
    refine s_getr (pc := 33) dX8_change_33 fl_X8_29 cSm_0 rfl ?_
    refine s_iconst (pc := 36) dX8_change_36 (j_cst rfl) ?_
    refine s_aload_n (pc := 37) dX8_change_37 rfl ?_
    refine s_getr (pc := 38) dX8_change_38 fl_X8_32 cSm_0 rfl ?_
    refine s_iconst (pc := 41) dX8_change_41 (j_cst rfl) ?_
    obtain ⟨post, hct, H⟩ := H
    refine s_callS (pc := 42) (as := [jR 5, jI 0, jR 6, jI 0]) (st := []) (by exact dX8_change_42) ms_X8_168 ⟨rfl, rfl, Nat.le_of_ble_eq_true rfl, Nat.le_of_ble_eq_true rfl⟩ (Nat.le_of_ble_eq_true rfl) _ rfl hct (fun r2 h3 hp => ?_)
    obtain ⟨rfl, hp⟩ := hp
    have H := H h3 hp
    show WV _ _ _ _ 45 [jR 0, jI x1, jI x2, jI x3, jI x4, u5] [] h3
    refine s_aload_n (pc := 45) dX8_change_45 rfl ?_
    refine s_getr (pc := 46) dX8_change_46 fl_X8_32 cSm_0 rfl ?_
    refine s_iconst (pc := 49) dX8_change_49 (j_cst rfl) ?_
    refine s_iload_n (pc := 50) dX8_change_50 rfl ?_
    obtain ⟨k4, H⟩ := H
    refine s_iadd (pc := 51) dX8_change_51 k4 ?_
    refine s_aload_n (pc := 52) dX8_change_52 rfl ?_
    refine s_getr (pc := 53) dX8_change_53 fl_X8_29 cSm_0 rfl ?_
    refine s_iconst (pc := 56) dX8_change_56 (j_cst rfl) ?_
    refine s_iload (pc := 57) dX8_change_57 rfl ?_
    obtain ⟨k5, H⟩ := H
    refine s_iadd (pc := 59) dX8_change_59 k5 ?_
    obtain ⟨k6, H⟩ := H
    refine s_iald (pc := 60) (x := h3.1 5 (Int.toNat (1 + x4))) dX8_change_60 cSm_5 k6 rfl ?_
    obtain ⟨k7, H⟩ := H
    refine s_iast (pc := 61) dX8_change_61 cSm_6 k7 ?_
    refine s_aload_n (pc := 62) dX8_change_62 rfl ?_
    refine s_getr (pc := 63) dX8_change_63 fl_X8_32 cSm_0 rfl ?_
    refine s_iconst (pc := 66) dX8_change_66 (j_cst rfl) ?_
    refine s_iload (pc := 67) dX8_change_67 rfl ?_
    refine s_iadd (pc := 69) dX8_change_69 k5 ?_
    refine s_aload_n (pc := 70) dX8_change_70 rfl ?_
    refine s_getr (pc := 71) dX8_change_71 fl_X8_29 cSm_0 rfl ?_
    refine s_iconst (pc := 74) dX8_change_74 (j_cst rfl) ?_
    refine s_iload_n (pc := 75) dX8_change_75 rfl ?_
    refine s_iadd (pc := 76) dX8_change_76 k4 ?_
    refine s_iald (pc := 77) (x := h3.1 5 (Int.toNat (1 + x3))) dX8_change_77 cSm_5 k7 rfl ?_
    refine s_iast (pc := 78) dX8_change_78 cSm_6 k6 ?_
    refine s_aload_n (pc := 79) dX8_change_79 rfl ?_
    refine s_aload_n (pc := 80) dX8_change_80 rfl ?_
    refine s_getr (pc := 81) dX8_change_81 fl_X8_32 cSm_0 rfl ?_
    refine s_iconst (pc := 84) dX8_change_84 (j_cst rfl) ?_
    obtain ⟨post, hct, H⟩ := H
    refine s_callV (pc := 85) (as := [jR 6, jI 1]) (st := []) (by exact dX8_change_85) mv_X8_217 ⟨rfl, rfl, Nat.le_of_ble_eq_true rfl, Nat.le_of_ble_eq_true rfl⟩ cSm_0 rfl rfl (Nat.le_of_ble_eq_true rfl) _ rfl hct (fun r8 h9 hp => ?_)
    obtain ⟨r8, rfl, hp⟩ := hp
    have H := H r8 h9 hp
    show WV _ _ _ _ 88 [jR 0, jI x1, jI x2, jI x3, jI x4, u5] [jI r8] h9
    refine s_istore (pc := 88) (lv' := [jR 0, jI x1, jI x2, jI x3, jI x4, jI r8]) dX8_change_88 (by decide) rfl ?_
    refine s_iload (pc := 90) dX8_change_90 rfl ?_
    refine s_iload_n (pc := 92) dX8_change_92 rfl ?_
    refine s_icmp_ge (pc := 93) (tgt := 107) dX8_change_93 (by decide) (fun hc => ?_) (fun hc => ?_)
    · have H := H.1 hc
      obtain ⟨k10, H⟩ := H
      refine s_iinc (pc := 107) (lv' := [jR 0, jI x1, jI x2, jI x3, jI (x4 + 1), jI r8]) dX8_change_107 rfl (by decide) k10 rfl ?_
      refine s_goto (pc := 110) (tgt := 23) dX8_change_110 (by decide) ?_
      exact H
    · have H := H.2 hc
      refine s_bipush (pc := 96) dX8_change_96 rfl (j_cst rfl) ?_
      refine s_iload_n (pc := 98) dX8_change_98 rfl ?_
      obtain ⟨k11, H⟩ := H
      refine s_imul (pc := 99) dX8_change_99 k11 ?_
      refine s_iload (pc := 100) dX8_change_100 rfl ?_
      obtain ⟨k12, H⟩ := H
      refine s_iadd (pc := 102) dX8_change_102 k12 ?_
      refine s_istore_n (pc := 103) (lv' := [jR 0, jI ((10 * x3) + x4), jI x2, jI x3, jI x4, jI r8]) dX8_change_103 (by decide) rfl ?_
      refine s_iload (pc := 104) dX8_change_104 rfl ?_
      refine s_istore_n (pc := 106) (lv' := [jR 0, jI ((10 * x3) + x4), jI r8, jI x3, jI x4, jI r8]) dX8_change_106 (by decide) rfl ?_
      obtain ⟨k13, H⟩ := H
      refine s_iinc (pc := 107) (lv' := [jR 0, jI ((10 * x3) + x4), jI r8, jI x3, jI (x4 + 1), jI r8]) dX8_change_107 rfl (by decide) k13 rfl ?_
      refine s_goto (pc := 110) (tgt := 23) dX8_change_110 (by decide) ?_
      exact H
theorem en_X8_longBy_0_11 {x2 : Int} {h : jH} {post : jQ} (k : ∀ G, WV Sm G M_X8_longBy post 0 [jR 0, jR 11, jI x2, jU, jU] [] h) : CT Sm M_X8_longBy [jR 0, jR 11, jI x2] h post := CT.of (by decide +kernel) (by simp [j_un]) (Nat.le_of_ble_eq_true rfl) _ rfl k
set_option maxRecDepth 20000 in
theorem vc_X8_longBy_0_11_0 {G : jG} {Q : jQ} {x2 : Int} {h : jH}
    (H : WV Sm G M_X8_longBy Q 5 [jR 0, jR 11, jI x2, jI 0, jI 0] [] h) :
    WV Sm G M_X8_longBy Q 0 [jR 0, jR 11, jI x2, jU, jU] [] h := by
  refine s_iconst (pc := 0) dX8_longBy_0 (j_cst rfl) ?_
  refine s_istore_n (pc := 1) (lv' := [jR 0, jR 11, jI x2, jI 0, jU]) dX8_longBy_1 (by decide) rfl ?_
  refine s_iconst (pc := 2) dX8_longBy_2 (j_cst rfl) ?_
  refine s_istore (pc := 3) (lv' := [jR 0, jR 11, jI x2, jI 0, jI 0]) dX8_longBy_3 (by decide) rfl ?_
  exact H
set_option maxRecDepth 20000 in
theorem vc_X8_longBy_0_11_5 {G : jG} {Q : jQ} {x2 x3 x4 : Int} {h : jH}
    (H : ((h.1 0 15) ≤ x4 → Q (some (jI x3)) h) ∧ (¬ (h.1 0 15) ≤ x4 → ∃ post : Int → jH → Prop, CT Sm M_X8_fromOf [jR 0, jI x4] h (jPi post) ∧ ∀ (r1 : Int) (h2 : jH), post r1 h2 → ((j_rg (x2 + r1)) ∧ ((0 ≤ x2 + r1 ∧ x2 + r1 < 7) ∧ (∃ post : Int → jH → Prop, CT Sm M_X8_toOf [jR 0, jI x4] h2 (jPi post) ∧ ∀ (r5 : Int) (h6 : jH), post r5 h6 → ((j_rg (x2 + r5)) ∧ ((0 ≤ x2 + r5 ∧ x2 + r5 < 7) ∧ (∃ post : Int → jH → Prop, CT Sm M_X8_distance [jI (h2.1 11 (Int.toNat (x2 + r1))), jI (h6.1 11 (Int.toNat (x2 + r5)))] h6 (jPi post) ∧ ∀ (r9 : Int) (h10 : jH), post r9 h10 → ((j_rg (x3 + r9)) ∧ ((j_rg (x4 + 1)) ∧ (WV Sm G M_X8_longBy Q 5 [jR 0, jR 11, jI x2, jI (x3 + r9), jI (x4 + 1)] [] h10))))))))))) :
    WV Sm G M_X8_longBy Q 5 [jR 0, jR 11, jI x2, jI x3, jI x4] [] h := by
  refine s_iload (pc := 5) dX8_longBy_5 rfl ?_
  refine s_aload_n (pc := 7) dX8_longBy_7 rfl ?_
  refine s_geti (pc := 8) (x := h.1 0 15) dX8_longBy_8 fl_X8_57 cSm_0 rfl rfl ?_
  refine s_icmp_ge (pc := 11) (tgt := 46) dX8_longBy_11 (by decide) (fun hc => ?_) (fun hc => ?_)
  · have H := H.1 hc
    refine s_iload_n (pc := 46) dX8_longBy_46 rfl ?_
    exact s_iret dX8_longBy_47 rfl H
  · have H := H.2 hc
    refine s_iload_n (pc := 14) dX8_longBy_14 rfl ?_
    refine s_aload_n (pc := 15) dX8_longBy_15 rfl ?_
    refine s_iload_n (pc := 16) dX8_longBy_16 rfl ?_
    refine s_aload_n (pc := 17) dX8_longBy_17 rfl ?_
    refine s_iload (pc := 18) dX8_longBy_18 rfl ?_
    obtain ⟨post, hct, H⟩ := H
    refine s_callV (pc := 20) (as := [jI x4]) (st := [jI x2, jR 11, jI x3]) (by exact dX8_longBy_20) mv_X8_121 ⟨rfl, rfl, Nat.le_of_ble_eq_true rfl, Nat.le_of_ble_eq_true rfl⟩ cSm_0 rfl rfl (Nat.le_of_ble_eq_true rfl) _ rfl hct (fun r1 h2 hp => ?_)
    obtain ⟨r1, rfl, hp⟩ := hp
    have H := H r1 h2 hp
    show WV _ _ _ _ 23 [jR 0, jR 11, jI x2, jI x3, jI x4] [jI r1, jI x2, jR 11, jI x3] h2
    obtain ⟨k3, H⟩ := H
    refine s_iadd (pc := 23) dX8_longBy_23 k3 ?_
    obtain ⟨k4, H⟩ := H
    refine s_iald (pc := 24) (x := h2.1 11 (Int.toNat (x2 + r1))) dX8_longBy_24 cSm_11 k4 rfl ?_
    refine s_aload_n (pc := 25) dX8_longBy_25 rfl ?_
    refine s_iload_n (pc := 26) dX8_longBy_26 rfl ?_
    refine s_aload_n (pc := 27) dX8_longBy_27 rfl ?_
    refine s_iload (pc := 28) dX8_longBy_28 rfl ?_
    obtain ⟨post, hct, H⟩ := H
    refine s_callV (pc := 30) (as := [jI x4]) (st := [jI x2, jR 11, jI (h2.1 11 (Int.toNat (x2 + r1))), jI x3]) (by exact dX8_longBy_30) mv_X8_125 ⟨rfl, rfl, Nat.le_of_ble_eq_true rfl, Nat.le_of_ble_eq_true rfl⟩ cSm_0 rfl rfl (Nat.le_of_ble_eq_true rfl) _ rfl hct (fun r5 h6 hp => ?_)
    obtain ⟨r5, rfl, hp⟩ := hp
    have H := H r5 h6 hp
    show WV _ _ _ _ 33 [jR 0, jR 11, jI x2, jI x3, jI x4] [jI r5, jI x2, jR 11, jI (h2.1 11 (Int.toNat (x2 + r1))), jI x3] h6
    obtain ⟨k7, H⟩ := H
    refine s_iadd (pc := 33) dX8_longBy_33 k7 ?_
    obtain ⟨k8, H⟩ := H
    refine s_iald (pc := 34) (x := h6.1 11 (Int.toNat (x2 + r5))) dX8_longBy_34 cSm_11 k8 rfl ?_
    obtain ⟨post, hct, H⟩ := H
    refine s_callS (pc := 35) (as := [jI (h2.1 11 (Int.toNat (x2 + r1))), jI (h6.1 11 (Int.toNat (x2 + r5)))]) (st := [jI x3]) (by exact dX8_longBy_35) ms_X8_213 ⟨rfl, rfl, Nat.le_of_ble_eq_true rfl, Nat.le_of_ble_eq_true rfl⟩ (Nat.le_of_ble_eq_true rfl) _ rfl hct (fun r9 h10 hp => ?_)
    obtain ⟨r9, rfl, hp⟩ := hp
    have H := H r9 h10 hp
    show WV _ _ _ _ 38 [jR 0, jR 11, jI x2, jI x3, jI x4] [jI r9, jI x3] h10
    obtain ⟨k11, H⟩ := H
    refine s_iadd (pc := 38) dX8_longBy_38 k11 ?_
    refine s_istore_n (pc := 39) (lv' := [jR 0, jR 11, jI x2, jI (x3 + r9), jI x4]) dX8_longBy_39 (by decide) rfl ?_
    obtain ⟨k12, H⟩ := H
    refine s_iinc (pc := 40) (lv' := [jR 0, jR 11, jI x2, jI (x3 + r9), jI (x4 + 1)]) dX8_longBy_40 rfl (by decide) k12 rfl ?_
    refine s_goto (pc := 43) (tgt := 5) dX8_longBy_43 (by decide) ?_
    exact H
theorem en_X8_bestHoles_0 {x1 : Int} {h : jH} {post : jQ} (k : ∀ G, WV Sm G M_X8_bestHoles post 0 [jR 0, jI x1, jU, jU, jU, jU] [] h) : CT Sm M_X8_bestHoles [jR 0, jI x1] h post := CT.of (by decide +kernel) (by simp [j_un]) (Nat.le_of_ble_eq_true rfl) _ rfl k
set_option maxRecDepth 20000 in
theorem vc_X8_bestHoles_0_0 {G : jG} {Q : jQ} {x1 : Int} {h : jH}
    (H : (j_rg ((h.1 0 13) - 1)) ∧ (∃ post : Int → jH → Prop, CT Sm M_X8_in [jI x1, jI (-1), jI ((h.1 0 13) - 1)] h (jPi post) ∧ ∀ (r2 : Int) (h3 : jH), post r2 h3 → ((r2 = 0 → Q (some (jI (-1))) h3) ∧ (¬ r2 = 0 → WV Sm G M_X8_bestHoles Q 18 [jR 0, jI x1, jI 0, jU, jU, jU] [] h3)))) :
    WV Sm G M_X8_bestHoles Q 0 [jR 0, jI x1, jU, jU, jU, jU] [] h := by
  refine s_iload_n (pc := 0) dX8_bestHoles_0 rfl ?_
  refine s_iconst (pc := 1) dX8_bestHoles_1 (j_cst rfl) ?_
  refine s_aload_n (pc := 2) dX8_bestHoles_2 rfl ?_
  refine s_geti (pc := 3) (x := h.1 0 13) dX8_bestHoles_3 fl_X8_19 cSm_0 rfl rfl ?_
  refine s_iconst (pc := 6) dX8_bestHoles_6 (j_cst rfl) ?_
  obtain ⟨k1, H⟩ := H
  refine s_isub (pc := 7) dX8_bestHoles_7 k1 ?_
  obtain ⟨post, hct, H⟩ := H
  refine s_callS (pc := 8) (as := [jI x1, jI (-1), jI ((h.1 0 13) - 1)]) (st := []) (by exact dX8_bestHoles_8) ms_X8_63 ⟨rfl, rfl, Nat.le_of_ble_eq_true rfl, Nat.le_of_ble_eq_true rfl⟩ (Nat.le_of_ble_eq_true rfl) _ rfl hct (fun r2 h3 hp => ?_)
  obtain ⟨r2, rfl, hp⟩ := hp
  have H := H r2 h3 hp
  show WV _ _ _ _ 11 [jR 0, jI x1, jU, jU, jU, jU] [jI r2] h3
  refine s_if_ne (pc := 11) (tgt := 16) dX8_bestHoles_11 (by decide) (fun hc => ?_) (fun hc => ?_)
  · have H := H.2 hc
    refine s_iconst (pc := 16) dX8_bestHoles_16 (j_cst rfl) ?_
    refine s_istore_n (pc := 17) (lv' := [jR 0, jI x1, jI 0, jU, jU, jU]) dX8_bestHoles_17 (by decide) rfl ?_
    exact H
  · have H := H.1 hc
    refine s_iconst (pc := 14) dX8_bestHoles_14 (j_cst rfl) ?_
    exact s_iret dX8_bestHoles_15 rfl H
set_option maxRecDepth 20000 in
theorem vc_X8_bestHoles_0_18 {G : jG} {Q : jQ} {x1 x2 : Int} {h : jH}
    (H : ((h.1 0 13) ≤ x2 → WV Sm G M_X8_bestHoles Q 43 [jR 0, jI x1, jI (-1), jI 1, jU, jU] [] h) ∧ (¬ (h.1 0 13) ≤ x2 → (0 ≤ x2 ∧ x2 < 7) ∧ ((j_rg (x2 + 1)) ∧ (WV Sm G M_X8_bestHoles Q 18 [jR 0, jI x1, jI (x2 + 1), jU, jU, jU] [] (j_up h 11 (Int.toNat x2) x2))))) :
    WV Sm G M_X8_bestHoles Q 18 [jR 0, jI x1, jI x2, jU, jU, jU] [] h := by
  refine s_iload_n (pc := 18) dX8_bestHoles_18 rfl ?_
  refine s_aload_n (pc := 19) dX8_bestHoles_19 rfl ?_
  refine s_geti (pc := 20) (x := h.1 0 13) dX8_bestHoles_20 fl_X8_19 cSm_0 rfl rfl ?_
  refine s_icmp_ge (pc := 23) (tgt := 39) dX8_bestHoles_23 (by decide) (fun hc => ?_) (fun hc => ?_)
  · have H := H.1 hc
    refine s_iconst (pc := 39) dX8_bestHoles_39 (j_cst rfl) ?_
    refine s_istore_n (pc := 40) (lv' := [jR 0, jI x1, jI (-1), jU, jU, jU]) dX8_bestHoles_40 (by decide) rfl ?_
    refine s_iconst (pc := 41) dX8_bestHoles_41 (j_cst rfl) ?_
    refine s_istore_n (pc := 42) (lv' := [jR 0, jI x1, jI (-1), jI 1, jU, jU]) dX8_bestHoles_42 (by decide) rfl ?_
    exact H
  · have H := H.2 hc
    refine s_aload_n (pc := 26) dX8_bestHoles_26 rfl ?_
    refine s_getr (pc := 27) dX8_bestHoles_27 fl_X8_48 cSm_0 rfl ?_
    refine s_iload_n (pc := 30) dX8_bestHoles_30 rfl ?_
    refine s_iload_n (pc := 31) dX8_bestHoles_31 rfl ?_
    obtain ⟨k1, H⟩ := H
    refine s_iast (pc := 32) dX8_bestHoles_32 cSm_11 k1 ?_
    obtain ⟨k2, H⟩ := H
    refine s_iinc (pc := 33) (lv' := [jR 0, jI x1, jI (x2 + 1), jU, jU, jU]) dX8_bestHoles_33 rfl (by decide) k2 rfl ?_
    refine s_goto (pc := 36) (tgt := 18) dX8_bestHoles_36 (by decide) ?_
    exact H
set_option maxRecDepth 20000 in
theorem vc_X8_bestHoles_0_43 {G : jG} {Q : jQ} {x1 x2 x3 : Int} {u4 u5 : jV} {h : jH}
    (H : (x3 = 0 → (0 ≤ x1 → (0 ≤ x1 ∧ x1 < 7) ∧ (Q (some (jI (h.1 12 (Int.toNat x1)))) h)) ∧ (¬ 0 ≤ x1 → Q (some (jI x2)) h)) ∧ (¬ x3 = 0 → ∃ post : Int → jH → Prop, CT Sm M_X8_longBy [jR 0, jR 11, jI 0] h (jPi post) ∧ ∀ (r2 : Int) (h3 : jH), post r2 h3 → ((x2 < 0 → WV Sm G M_X8_bestHoles Q 74 [jR 0, jI x1, jI r2, jI x3, jI r2, jI 0] [] h3) ∧ (¬ x2 < 0 → (x2 ≤ r2 → ∃ post : Int → jH → Prop, CT Sm M_X8_nextRow [jR 0, jR 11, jI (h3.1 0 13)] h3 (jPi post) ∧ ∀ (r4 : Int) (h5 : jH), post r4 h5 → (WV Sm G M_X8_bestHoles Q 43 [jR 0, jI x1, jI x2, jI r4, jI r2, u5] [] h5)) ∧ (¬ x2 ≤ r2 → WV Sm G M_X8_bestHoles Q 74 [jR 0, jI x1, jI r2, jI x3, jI r2, jI 0] [] h3))))) :
    WV Sm G M_X8_bestHoles Q 43 [jR 0, jI x1, jI x2, jI x3, u4, u5] [] h := by
  refine s_iload_n (pc := 43) dX8_bestHoles_43 rfl ?_
  refine s_if_eq (pc := 44) (tgt := 119) dX8_bestHoles_44 (by decide) (fun hc => ?_) (fun hc => ?_)
  · have H := H.1 hc
    refine s_iload_n (pc := 119) dX8_bestHoles_119 rfl ?_
    refine s_if_ge (pc := 120) (tgt := 127) dX8_bestHoles_120 (by decide) (fun hc => ?_) (fun hc => ?_)
    · have H := H.1 hc
      refine s_aload_n (pc := 127) dX8_bestHoles_127 rfl ?_
      refine s_getr (pc := 128) dX8_bestHoles_128 fl_X8_51 cSm_0 rfl ?_
      refine s_iload_n (pc := 131) dX8_bestHoles_131 rfl ?_
      obtain ⟨k1, H⟩ := H
      refine s_iald (pc := 132) (x := h.1 12 (Int.toNat x1)) dX8_bestHoles_132 cSm_12 k1 rfl ?_
      exact s_iret dX8_bestHoles_133 rfl H
    · have H := H.2 hc
      refine s_iload_n (pc := 123) dX8_bestHoles_123 rfl ?_
      refine s_goto (pc := 124) (tgt := 133) dX8_bestHoles_124 (by decide) ?_
      exact s_iret dX8_bestHoles_133 rfl H
  · have H := H.2 hc
    refine s_aload_n (pc := 47) dX8_bestHoles_47 rfl ?_
    refine s_aload_n (pc := 48) dX8_bestHoles_48 rfl ?_
    refine s_getr (pc := 49) dX8_bestHoles_49 fl_X8_48 cSm_0 rfl ?_
    refine s_iconst (pc := 52) dX8_bestHoles_52 (j_cst rfl) ?_
    obtain ⟨post, hct, H⟩ := H
    refine s_callV (pc := 53) (as := [jR 11, jI 0]) (st := []) (by exact dX8_bestHoles_53) mv_X8_217 ⟨rfl, rfl, Nat.le_of_ble_eq_true rfl, Nat.le_of_ble_eq_true rfl⟩ cSm_0 rfl rfl (Nat.le_of_ble_eq_true rfl) _ rfl hct (fun r2 h3 hp => ?_)
    obtain ⟨r2, rfl, hp⟩ := hp
    have H := H r2 h3 hp
    show WV _ _ _ _ 56 [jR 0, jI x1, jI x2, jI x3, u4, u5] [jI r2] h3
    refine s_istore (pc := 56) (lv' := [jR 0, jI x1, jI x2, jI x3, jI r2, u5]) dX8_bestHoles_56 (by decide) rfl ?_
    refine s_iload_n (pc := 58) dX8_bestHoles_58 rfl ?_
    refine s_if_lt (pc := 59) (tgt := 68) dX8_bestHoles_59 (by decide) (fun hc => ?_) (fun hc => ?_)
    · have H := H.1 hc
      refine s_iload (pc := 68) dX8_bestHoles_68 rfl ?_
      refine s_istore_n (pc := 70) (lv' := [jR 0, jI x1, jI r2, jI x3, jI r2, u5]) dX8_bestHoles_70 (by decide) rfl ?_
      refine s_iconst (pc := 71) dX8_bestHoles_71 (j_cst rfl) ?_
      refine s_istore (pc := 72) (lv' := [jR 0, jI x1, jI r2, jI x3, jI r2, jI 0]) dX8_bestHoles_72 (by decide) rfl ?_
      exact H
    · have H := H.2 hc
      refine s_iload (pc := 62) dX8_bestHoles_62 rfl ?_
      refine s_iload_n (pc := 64) dX8_bestHoles_64 rfl ?_
      refine s_icmp_ge (pc := 65) (tgt := 103) dX8_bestHoles_65 (by decide) (fun hc => ?_) (fun hc => ?_)
      · have H := H.1 hc
        refine s_aload_n (pc := 103) dX8_bestHoles_103 rfl ?_
        refine s_aload_n (pc := 104) dX8_bestHoles_104 rfl ?_
        refine s_getr (pc := 105) dX8_bestHoles_105 fl_X8_48 cSm_0 rfl ?_
        refine s_aload_n (pc := 108) dX8_bestHoles_108 rfl ?_
        refine s_geti (pc := 109) (x := h3.1 0 13) dX8_bestHoles_109 fl_X8_19 cSm_0 rfl rfl ?_
        obtain ⟨post, hct, H⟩ := H
        refine s_callV (pc := 112) (as := [jR 11, jI (h3.1 0 13)]) (st := []) (by exact dX8_bestHoles_112) mv_X8_210 ⟨rfl, rfl, Nat.le_of_ble_eq_true rfl, Nat.le_of_ble_eq_true rfl⟩ cSm_0 rfl rfl (Nat.le_of_ble_eq_true rfl) _ rfl hct (fun r4 h5 hp => ?_)
        obtain ⟨r4, rfl, hp⟩ := hp
        have H := H r4 h5 hp
        show WV _ _ _ _ 115 [jR 0, jI x1, jI x2, jI x3, jI r2, u5] [jI r4] h5
        refine s_istore_n (pc := 115) (lv' := [jR 0, jI x1, jI x2, jI r4, jI r2, u5]) dX8_bestHoles_115 (by decide) rfl ?_
        refine s_goto (pc := 116) (tgt := 43) dX8_bestHoles_116 (by decide) ?_
        exact H
      · have H := H.2 hc
        refine s_iload (pc := 68) dX8_bestHoles_68 rfl ?_
        refine s_istore_n (pc := 70) (lv' := [jR 0, jI x1, jI r2, jI x3, jI r2, u5]) dX8_bestHoles_70 (by decide) rfl ?_
        refine s_iconst (pc := 71) dX8_bestHoles_71 (j_cst rfl) ?_
        refine s_istore (pc := 72) (lv' := [jR 0, jI x1, jI r2, jI x3, jI r2, jI 0]) dX8_bestHoles_72 (by decide) rfl ?_
        exact H
set_option maxRecDepth 20000 in
theorem vc_X8_bestHoles_0_74 {G : jG} {Q : jQ} {x1 x2 x3 x4 x5 : Int} {h : jH}
    (H : ((h.1 0 13) ≤ x5 → ∃ post : Int → jH → Prop, CT Sm M_X8_nextRow [jR 0, jR 11, jI (h.1 0 13)] h (jPi post) ∧ ∀ (r1 : Int) (h2 : jH), post r1 h2 → (WV Sm G M_X8_bestHoles Q 43 [jR 0, jI x1, jI x2, jI r1, jI x4, jI x5] [] h2)) ∧ (¬ (h.1 0 13) ≤ x5 → (0 ≤ x5 ∧ x5 < 7) ∧ ((j_rg (x5 + 1)) ∧ (WV Sm G M_X8_bestHoles Q 74 [jR 0, jI x1, jI x2, jI x3, jI x4, jI (x5 + 1)] [] (j_up h 12 (Int.toNat x5) (h.1 11 (Int.toNat x5))))))) :
    WV Sm G M_X8_bestHoles Q 74 [jR 0, jI x1, jI x2, jI x3, jI x4, jI x5] [] h := by
  refine s_iload (pc := 74) dX8_bestHoles_74 rfl ?_
  refine s_aload_n (pc := 76) dX8_bestHoles_76 rfl ?_
  refine s_geti (pc := 77) (x := h.1 0 13) dX8_bestHoles_77 fl_X8_19 cSm_0 rfl rfl ?_
  refine s_icmp_ge (pc := 80) (tgt := 103) dX8_bestHoles_80 (by decide) (fun hc => ?_) (fun hc => ?_)
  · have H := H.1 hc
    refine s_aload_n (pc := 103) dX8_bestHoles_103 rfl ?_
    refine s_aload_n (pc := 104) dX8_bestHoles_104 rfl ?_
    refine s_getr (pc := 105) dX8_bestHoles_105 fl_X8_48 cSm_0 rfl ?_
    refine s_aload_n (pc := 108) dX8_bestHoles_108 rfl ?_
    refine s_geti (pc := 109) (x := h.1 0 13) dX8_bestHoles_109 fl_X8_19 cSm_0 rfl rfl ?_
    obtain ⟨post, hct, H⟩ := H
    refine s_callV (pc := 112) (as := [jR 11, jI (h.1 0 13)]) (st := []) (by exact dX8_bestHoles_112) mv_X8_210 ⟨rfl, rfl, Nat.le_of_ble_eq_true rfl, Nat.le_of_ble_eq_true rfl⟩ cSm_0 rfl rfl (Nat.le_of_ble_eq_true rfl) _ rfl hct (fun r1 h2 hp => ?_)
    obtain ⟨r1, rfl, hp⟩ := hp
    have H := H r1 h2 hp
    show WV _ _ _ _ 115 [jR 0, jI x1, jI x2, jI x3, jI x4, jI x5] [jI r1] h2
    refine s_istore_n (pc := 115) (lv' := [jR 0, jI x1, jI x2, jI r1, jI x4, jI x5]) dX8_bestHoles_115 (by decide) rfl ?_
    refine s_goto (pc := 116) (tgt := 43) dX8_bestHoles_116 (by decide) ?_
    exact H
  · have H := H.2 hc
    refine s_aload_n (pc := 83) dX8_bestHoles_83 rfl ?_
    refine s_getr (pc := 84) dX8_bestHoles_84 fl_X8_51 cSm_0 rfl ?_
    refine s_iload (pc := 87) dX8_bestHoles_87 rfl ?_
    refine s_aload_n (pc := 89) dX8_bestHoles_89 rfl ?_
    refine s_getr (pc := 90) dX8_bestHoles_90 fl_X8_48 cSm_0 rfl ?_
    refine s_iload (pc := 93) dX8_bestHoles_93 rfl ?_
    obtain ⟨k3, H⟩ := H
    refine s_iald (pc := 95) (x := h.1 11 (Int.toNat x5)) dX8_bestHoles_95 cSm_11 k3 rfl ?_
    refine s_iast (pc := 96) dX8_bestHoles_96 cSm_12 k3 ?_
    obtain ⟨k4, H⟩ := H
    refine s_iinc (pc := 97) (lv' := [jR 0, jI x1, jI x2, jI x3, jI x4, jI (x5 + 1)]) dX8_bestHoles_97 rfl (by decide) k4 rfl ?_
    refine s_goto (pc := 100) (tgt := 74) dX8_bestHoles_100 (by decide) ?_
    exact H
theorem en_X8_atOnce_0 {x1 : Int} {h : jH} {post : jQ} (k : ∀ G, WV Sm G M_X8_atOnce post 0 [jR 0, jI x1, jU, jU, jU, jU, jU] [] h) : CT Sm M_X8_atOnce [jR 0, jI x1] h post := CT.of (by decide +kernel) (by simp [j_un]) (Nat.le_of_ble_eq_true rfl) _ rfl k
set_option maxRecDepth 20000 in
theorem vc_X8_atOnce_0_0 {G : jG} {Q : jQ} {x1 : Int} {h : jH}
    (H : ∃ post : Int → jH → Prop, CT Sm M_X8_in [jI x1, jI 0, jI 1] h (jPi post) ∧ ∀ (r1 : Int) (h2 : jH), post r1 h2 → ((r1 = 0 → Q (some (jI (-1))) h2) ∧ (¬ r1 = 0 → WV Sm G M_X8_atOnce Q 18 [jR 0, jI x1, jI 0, jI 0, jI 0, jU, jU] [] h2))) :
    WV Sm G M_X8_atOnce Q 0 [jR 0, jI x1, jU, jU, jU, jU, jU] [] h := by
  refine s_iload_n (pc := 0) dX8_atOnce_0 rfl ?_
  refine s_iconst (pc := 1) dX8_atOnce_1 (j_cst rfl) ?_
  refine s_iconst (pc := 2) dX8_atOnce_2 (j_cst rfl) ?_
  obtain ⟨post, hct, H⟩ := H
  refine s_callS (pc := 3) (as := [jI x1, jI 0, jI 1]) (st := []) (by exact dX8_atOnce_3) ms_X8_63 ⟨rfl, rfl, Nat.le_of_ble_eq_true rfl, Nat.le_of_ble_eq_true rfl⟩ (Nat.le_of_ble_eq_true rfl) _ rfl hct (fun r1 h2 hp => ?_)
  obtain ⟨r1, rfl, hp⟩ := hp
  have H := H r1 h2 hp
  show WV _ _ _ _ 6 [jR 0, jI x1, jU, jU, jU, jU, jU] [jI r1] h2
  refine s_if_ne (pc := 6) (tgt := 11) dX8_atOnce_6 (by decide) (fun hc => ?_) (fun hc => ?_)
  · have H := H.2 hc
    refine s_iconst (pc := 11) dX8_atOnce_11 (j_cst rfl) ?_
    refine s_istore_n (pc := 12) (lv' := [jR 0, jI x1, jI 0, jU, jU, jU, jU]) dX8_atOnce_12 (by decide) rfl ?_
    refine s_iconst (pc := 13) dX8_atOnce_13 (j_cst rfl) ?_
    refine s_istore_n (pc := 14) (lv' := [jR 0, jI x1, jI 0, jI 0, jU, jU, jU]) dX8_atOnce_14 (by decide) rfl ?_
    refine s_iconst (pc := 15) dX8_atOnce_15 (j_cst rfl) ?_
    refine s_istore (pc := 16) (lv' := [jR 0, jI x1, jI 0, jI 0, jI 0, jU, jU]) dX8_atOnce_16 (by decide) rfl ?_
    exact H
  · have H := H.1 hc
    refine s_iconst (pc := 9) dX8_atOnce_9 (j_cst rfl) ?_
    exact s_iret dX8_atOnce_10 rfl H
set_option maxRecDepth 20000 in
theorem vc_X8_atOnce_0_18 {G : jG} {Q : jQ} {x1 x2 x3 x4 : Int} {u5 u6 : jV} {h : jH}
    (H : (40 < x4 → (x1 = 0 → Q (some (jI x2)) h) ∧ (¬ x1 = 0 → Q (some (jI x3)) h)) ∧ (¬ 40 < x4 → WV Sm G M_X8_atOnce Q 31 [jR 0, jI x1, jI x2, jI x3, jI x4, jI 0, jI 0] [] h)) :
    WV Sm G M_X8_atOnce Q 18 [jR 0, jI x1, jI x2, jI x3, jI x4, u5, u6] [] h := by
  refine s_iload (pc := 18) dX8_atOnce_18 rfl ?_
  refine s_bipush (pc := 20) dX8_atOnce_20 rfl (j_cst rfl) ?_
  refine s_icmp_gt (pc := 22) (tgt := 102) dX8_atOnce_22 (by decide) (fun hc => ?_) (fun hc => ?_)
  · have H := H.1 hc
    refine s_iload_n (pc := 102) dX8_atOnce_102 rfl ?_
    refine s_if_ne (pc := 103) (tgt := 110) dX8_atOnce_103 (by decide) (fun hc => ?_) (fun hc => ?_)
    · have H := H.2 hc
      refine s_iload_n (pc := 110) dX8_atOnce_110 rfl ?_
      exact s_iret dX8_atOnce_111 rfl H
    · have H := H.1 hc
      refine s_iload_n (pc := 106) dX8_atOnce_106 rfl ?_
      refine s_goto (pc := 107) (tgt := 111) dX8_atOnce_107 (by decide) ?_
      exact s_iret dX8_atOnce_111 rfl H
  · have H := H.2 hc
    refine s_iconst (pc := 25) dX8_atOnce_25 (j_cst rfl) ?_
    refine s_istore (pc := 26) (lv' := [jR 0, jI x1, jI x2, jI x3, jI x4, jI 0, u6]) dX8_atOnce_26 (by decide) rfl ?_
    refine s_iconst (pc := 28) dX8_atOnce_28 (j_cst rfl) ?_
    refine s_istore (pc := 29) (lv' := [jR 0, jI x1, jI x2, jI x3, jI x4, jI 0, jI 0]) dX8_atOnce_29 (by decide) rfl ?_
    exact H
set_option maxRecDepth 20000 in
theorem vc_X8_atOnce_0_31 {G : jG} {Q : jQ} {x1 x2 x3 x4 x5 x6 : Int} {h : jH}
    (H : ((h.1 0 15) ≤ x6 → (x5 ≤ x3 → (x5 ≤ x3 → (j_rg (x4 + 1)) ∧ (WV Sm G M_X8_atOnce Q 18 [jR 0, jI x1, jI x2, jI x3, jI (x4 + 1), jI x5, jI x6] [] h)) ∧ (¬ x5 ≤ x3 → (j_rg (x4 + 1)) ∧ (WV Sm G M_X8_atOnce Q 18 [jR 0, jI x1, jI x2, jI x5, jI (x4 + 1), jI x5, jI x6] [] h))) ∧ (¬ x5 ≤ x3 → (x5 ≤ x3 → (j_rg (x4 + 1)) ∧ (WV Sm G M_X8_atOnce Q 18 [jR 0, jI x1, jI x4, jI x3, jI (x4 + 1), jI x5, jI x6] [] h)) ∧ (¬ x5 ≤ x3 → (j_rg (x4 + 1)) ∧ (WV Sm G M_X8_atOnce Q 18 [jR 0, jI x1, jI x4, jI x5, jI (x4 + 1), jI x5, jI x6] [] h)))) ∧ (¬ (h.1 0 15) ≤ x6 → (j_rg (5 * x6)) ∧ ((0 ≤ 5 * x6 ∧ 5 * x6 < 35) ∧ (((h.1 4 (Int.toNat (5 * x6))) = x4 → (j_rg (x5 + 1)) ∧ ((j_rg (x6 + 1)) ∧ (WV Sm G M_X8_atOnce Q 31 [jR 0, jI x1, jI x2, jI x3, jI x4, jI (x5 + 1), jI (x6 + 1)] [] h))) ∧ (¬ (h.1 4 (Int.toNat (5 * x6))) = x4 → (j_rg (x5 + 0)) ∧ ((j_rg (x6 + 1)) ∧ (WV Sm G M_X8_atOnce Q 31 [jR 0, jI x1, jI x2, jI x3, jI x4, jI (x5 + 0), jI (x6 + 1)] [] h))))))) :
    WV Sm G M_X8_atOnce Q 31 [jR 0, jI x1, jI x2, jI x3, jI x4, jI x5, jI x6] [] h := by
  refine s_iload (pc := 31) dX8_atOnce_31 rfl ?_
  refine s_aload_n (pc := 33) dX8_atOnce_33 rfl ?_
  refine s_geti (pc := 34) (x := h.1 0 15) dX8_atOnce_34 fl_X8_57 cSm_0 rfl rfl ?_
  refine s_icmp_ge (pc := 37) (tgt := 70) dX8_atOnce_37 (by decide) (fun hc => ?_) (fun hc => ?_)
  · have H := H.1 hc
    refine s_iload (pc := 70) dX8_atOnce_70 rfl ?_
    refine s_iload_n (pc := 72) dX8_atOnce_72 rfl ?_
    refine s_icmp_le (pc := 73) (tgt := 81) dX8_atOnce_73 (by decide) (fun hc => ?_) (fun hc => ?_)
    · have H := H.1 hc
      refine s_iload_n (pc := 81) dX8_atOnce_81 rfl ?_
      refine s_istore_n (pc := 82) (lv' := [jR 0, jI x1, jI x2, jI x3, jI x4, jI x5, jI x6]) dX8_atOnce_82 (by decide) rfl ?_
      refine s_iload (pc := 83) dX8_atOnce_83 rfl ?_
      refine s_iload_n (pc := 85) dX8_atOnce_85 rfl ?_
      refine s_icmp_le (pc := 86) (tgt := 94) dX8_atOnce_86 (by decide) (fun hc => ?_) (fun hc => ?_)
      · have H := H.1 hc
        refine s_iload_n (pc := 94) dX8_atOnce_94 rfl ?_
        refine s_istore_n (pc := 95) (lv' := [jR 0, jI x1, jI x2, jI x3, jI x4, jI x5, jI x6]) dX8_atOnce_95 (by decide) rfl ?_
        obtain ⟨k1, H⟩ := H
        refine s_iinc (pc := 96) (lv' := [jR 0, jI x1, jI x2, jI x3, jI (x4 + 1), jI x5, jI x6]) dX8_atOnce_96 rfl (by decide) k1 rfl ?_
        refine s_goto (pc := 99) (tgt := 18) dX8_atOnce_99 (by decide) ?_
        exact H
      · have H := H.2 hc
        refine s_iload (pc := 89) dX8_atOnce_89 rfl ?_
        refine s_goto (pc := 91) (tgt := 95) dX8_atOnce_91 (by decide) ?_
        refine s_istore_n (pc := 95) (lv' := [jR 0, jI x1, jI x2, jI x5, jI x4, jI x5, jI x6]) dX8_atOnce_95 (by decide) rfl ?_
        obtain ⟨k2, H⟩ := H
        refine s_iinc (pc := 96) (lv' := [jR 0, jI x1, jI x2, jI x5, jI (x4 + 1), jI x5, jI x6]) dX8_atOnce_96 rfl (by decide) k2 rfl ?_
        refine s_goto (pc := 99) (tgt := 18) dX8_atOnce_99 (by decide) ?_
        exact H
    · have H := H.2 hc
      refine s_iload (pc := 76) dX8_atOnce_76 rfl ?_
      refine s_goto (pc := 78) (tgt := 82) dX8_atOnce_78 (by decide) ?_
      refine s_istore_n (pc := 82) (lv' := [jR 0, jI x1, jI x4, jI x3, jI x4, jI x5, jI x6]) dX8_atOnce_82 (by decide) rfl ?_
      refine s_iload (pc := 83) dX8_atOnce_83 rfl ?_
      refine s_iload_n (pc := 85) dX8_atOnce_85 rfl ?_
      refine s_icmp_le (pc := 86) (tgt := 94) dX8_atOnce_86 (by decide) (fun hc => ?_) (fun hc => ?_)
      · have H := H.1 hc
        refine s_iload_n (pc := 94) dX8_atOnce_94 rfl ?_
        refine s_istore_n (pc := 95) (lv' := [jR 0, jI x1, jI x4, jI x3, jI x4, jI x5, jI x6]) dX8_atOnce_95 (by decide) rfl ?_
        obtain ⟨k3, H⟩ := H
        refine s_iinc (pc := 96) (lv' := [jR 0, jI x1, jI x4, jI x3, jI (x4 + 1), jI x5, jI x6]) dX8_atOnce_96 rfl (by decide) k3 rfl ?_
        refine s_goto (pc := 99) (tgt := 18) dX8_atOnce_99 (by decide) ?_
        exact H
      · have H := H.2 hc
        refine s_iload (pc := 89) dX8_atOnce_89 rfl ?_
        refine s_goto (pc := 91) (tgt := 95) dX8_atOnce_91 (by decide) ?_
        refine s_istore_n (pc := 95) (lv' := [jR 0, jI x1, jI x4, jI x5, jI x4, jI x5, jI x6]) dX8_atOnce_95 (by decide) rfl ?_
        obtain ⟨k4, H⟩ := H
        refine s_iinc (pc := 96) (lv' := [jR 0, jI x1, jI x4, jI x5, jI (x4 + 1), jI x5, jI x6]) dX8_atOnce_96 rfl (by decide) k4 rfl ?_
        refine s_goto (pc := 99) (tgt := 18) dX8_atOnce_99 (by decide) ?_
        exact H
  · have H := H.2 hc
    refine s_iload (pc := 40) dX8_atOnce_40 rfl ?_
    refine s_aload_n (pc := 42) dX8_atOnce_42 rfl ?_
    refine s_getr (pc := 43) dX8_atOnce_43 fl_X8_26 cSm_0 rfl ?_
    refine s_iconst (pc := 46) dX8_atOnce_46 (j_cst rfl) ?_
    refine s_iload (pc := 47) dX8_atOnce_47 rfl ?_
    obtain ⟨k5, H⟩ := H
    refine s_imul (pc := 49) dX8_atOnce_49 k5 ?_
    obtain ⟨k6, H⟩ := H
    refine s_iald (pc := 50) (x := h.1 4 (Int.toNat (5 * x6))) dX8_atOnce_50 cSm_4 k6 rfl ?_
    refine s_iload (pc := 51) dX8_atOnce_51 rfl ?_
    refine s_icmp_ne (pc := 53) (tgt := 60) dX8_atOnce_53 (by decide) (fun hc => ?_) (fun hc => ?_)
    · have H := H.2 hc
      refine s_iconst (pc := 60) dX8_atOnce_60 (j_cst rfl) ?_
      obtain ⟨k7, H⟩ := H
      refine s_iadd (pc := 61) dX8_atOnce_61 k7 ?_
      refine s_istore (pc := 62) (lv' := [jR 0, jI x1, jI x2, jI x3, jI x4, jI (x5 + 0), jI x6]) dX8_atOnce_62 (by decide) rfl ?_
      obtain ⟨k8, H⟩ := H
      refine s_iinc (pc := 64) (lv' := [jR 0, jI x1, jI x2, jI x3, jI x4, jI (x5 + 0), jI (x6 + 1)]) dX8_atOnce_64 rfl (by decide) k8 rfl ?_
      refine s_goto (pc := 67) (tgt := 31) dX8_atOnce_67 (by decide) ?_
      exact H
    · have H := H.1 hc
      refine s_iconst (pc := 56) dX8_atOnce_56 (j_cst rfl) ?_
      refine s_goto (pc := 57) (tgt := 61) dX8_atOnce_57 (by decide) ?_
      obtain ⟨k9, H⟩ := H
      refine s_iadd (pc := 61) dX8_atOnce_61 k9 ?_
      refine s_istore (pc := 62) (lv' := [jR 0, jI x1, jI x2, jI x3, jI x4, jI (x5 + 1), jI x6]) dX8_atOnce_62 (by decide) rfl ?_
      obtain ⟨k10, H⟩ := H
      refine s_iinc (pc := 64) (lv' := [jR 0, jI x1, jI x2, jI x3, jI x4, jI (x5 + 1), jI (x6 + 1)]) dX8_atOnce_64 rfl (by decide) k10 rfl ?_
      refine s_goto (pc := 67) (tgt := 31) dX8_atOnce_67 (by decide) ?_
      exact H
theorem en_X8_under_0 {x1 : Int} {h : jH} {post : jQ} (k : ∀ G, WV Sm G M_X8_under post 0 [jR 0, jI x1, jU, jU] [] h) : CT Sm M_X8_under [jR 0, jI x1] h post := CT.of (by decide +kernel) (by simp [j_un]) (Nat.le_of_ble_eq_true rfl) _ rfl k
set_option maxRecDepth 20000 in
theorem vc_X8_under_0_0 {G : jG} {Q : jQ} {x1 : Int} {h : jH}
    (H : ∃ post : Int → jH → Prop, CT Sm M_X8_isCall [jR 0, jI x1] h (jPi post) ∧ ∀ (r1 : Int) (h2 : jH), post r1 h2 → ((r1 = 0 → Q (some (jI (-1))) h2) ∧ (¬ r1 = 0 → WV Sm G M_X8_under Q 14 [jR 0, jI x1, jI 0, jI 0] [] h2))) :
    WV Sm G M_X8_under Q 0 [jR 0, jI x1, jU, jU] [] h := by
  refine s_aload_n (pc := 0) dX8_under_0 rfl ?_
  refine s_iload_n (pc := 1) dX8_under_1 rfl ?_
  obtain ⟨post, hct, H⟩ := H
  refine s_callV (pc := 2) (as := [jI x1]) (st := []) (by exact dX8_under_2) mv_X8_161 ⟨rfl, rfl, Nat.le_of_ble_eq_true rfl, Nat.le_of_ble_eq_true rfl⟩ cSm_0 rfl rfl (Nat.le_of_ble_eq_true rfl) _ rfl hct (fun r1 h2 hp => ?_)
  obtain ⟨r1, rfl, hp⟩ := hp
  have H := H r1 h2 hp
  show WV _ _ _ _ 5 [jR 0, jI x1, jU, jU] [jI r1] h2
  refine s_if_ne (pc := 5) (tgt := 10) dX8_under_5 (by decide) (fun hc => ?_) (fun hc => ?_)
  · have H := H.2 hc
    refine s_iconst (pc := 10) dX8_under_10 (j_cst rfl) ?_
    refine s_istore_n (pc := 11) (lv' := [jR 0, jI x1, jI 0, jU]) dX8_under_11 (by decide) rfl ?_
    refine s_iconst (pc := 12) dX8_under_12 (j_cst rfl) ?_
    refine s_istore_n (pc := 13) (lv' := [jR 0, jI x1, jI 0, jI 0]) dX8_under_13 (by decide) rfl ?_
    exact H
  · have H := H.1 hc
    refine s_iconst (pc := 8) dX8_under_8 (j_cst rfl) ?_
    exact s_iret dX8_under_9 rfl H
set_option maxRecDepth 20000 in
theorem vc_X8_under_0_14 {G : jG} {Q : jQ} {x1 x2 x3 : Int} {h : jH}
    (H : ((h.1 0 15) ≤ x3 → Q (some (jI x2)) h) ∧ (¬ (h.1 0 15) ≤ x3 → (x3 = x1 → (j_rg (x3 + 1)) ∧ (WV Sm G M_X8_under Q 14 [jR 0, jI x1, jI (b_or x2 0), jI (x3 + 1)] [] h)) ∧ (¬ x3 = x1 → (j_rg (7 + x3)) ∧ ((0 ≤ 7 + x3 ∧ 7 + x3 < 28) ∧ (((h.1 5 (Int.toNat (7 + x3))) = 2 → ∃ post : Int → jH → Prop, CT Sm M_X8_cross [jR 0, jI x1, jI x3] h (jPi post) ∧ ∀ (r5 : Int) (h6 : jH), post r5 h6 → ((r5 = 0 → (j_rg (x3 + 1)) ∧ (WV Sm G M_X8_under Q 14 [jR 0, jI x1, jI (b_or x2 0), jI (x3 + 1)] [] h6)) ∧ (¬ r5 = 0 → (j_rg (x3 + 1)) ∧ (WV Sm G M_X8_under Q 14 [jR 0, jI x1, jI (b_or x2 (b_shl 1 x3)), jI (x3 + 1)] [] h6)))) ∧ (¬ (h.1 5 (Int.toNat (7 + x3))) = 2 → (j_rg (x3 + 1)) ∧ (WV Sm G M_X8_under Q 14 [jR 0, jI x1, jI (b_or x2 0), jI (x3 + 1)] [] h))))))) :
    WV Sm G M_X8_under Q 14 [jR 0, jI x1, jI x2, jI x3] [] h := by
  refine s_iload_n (pc := 14) dX8_under_14 rfl ?_
  refine s_aload_n (pc := 15) dX8_under_15 rfl ?_
  refine s_geti (pc := 16) (x := h.1 0 15) dX8_under_16 fl_X8_57 cSm_0 rfl rfl ?_
  refine s_icmp_ge (pc := 19) (tgt := 65) dX8_under_19 (by decide) (fun hc => ?_) (fun hc => ?_)
  · have H := H.1 hc
    refine s_iload_n (pc := 65) dX8_under_65 rfl ?_
    exact s_iret dX8_under_66 rfl H
  · have H := H.2 hc
    refine s_iload_n (pc := 22) dX8_under_22 rfl ?_
    refine s_iload_n (pc := 23) dX8_under_23 rfl ?_
    refine s_iload_n (pc := 24) dX8_under_24 rfl ?_
    refine s_icmp_eq (pc := 25) (tgt := 56) dX8_under_25 (by decide) (fun hc => ?_) (fun hc => ?_)
    · have H := H.1 hc
      refine s_iconst (pc := 56) dX8_under_56 (j_cst rfl) ?_
      refine s_ior (pc := 57) dX8_under_57 ?_
      refine s_istore_n (pc := 58) (lv' := [jR 0, jI x1, jI (b_or x2 0), jI x3]) dX8_under_58 (by decide) rfl ?_
      obtain ⟨k1, H⟩ := H
      refine s_iinc (pc := 59) (lv' := [jR 0, jI x1, jI (b_or x2 0), jI (x3 + 1)]) dX8_under_59 rfl (by decide) k1 rfl ?_
      refine s_goto (pc := 62) (tgt := 14) dX8_under_62 (by decide) ?_
      exact H
    · have H := H.2 hc
      refine s_aload_n (pc := 28) dX8_under_28 rfl ?_
      refine s_getr (pc := 29) dX8_under_29 fl_X8_29 cSm_0 rfl ?_
      refine s_bipush (pc := 32) dX8_under_32 rfl (j_cst rfl) ?_
      refine s_iload_n (pc := 34) dX8_under_34 rfl ?_
      obtain ⟨k2, H⟩ := H
      refine s_iadd (pc := 35) dX8_under_35 k2 ?_
      obtain ⟨k3, H⟩ := H
      refine s_iald (pc := 36) (x := h.1 5 (Int.toNat (7 + x3))) dX8_under_36 cSm_5 k3 rfl ?_
      refine s_iconst (pc := 37) dX8_under_37 (j_cst rfl) ?_
      refine s_icmp_ne (pc := 38) (tgt := 56) dX8_under_38 (by decide) (fun hc => ?_) (fun hc => ?_)
      · have H := H.2 hc
        refine s_iconst (pc := 56) dX8_under_56 (j_cst rfl) ?_
        refine s_ior (pc := 57) dX8_under_57 ?_
        refine s_istore_n (pc := 58) (lv' := [jR 0, jI x1, jI (b_or x2 0), jI x3]) dX8_under_58 (by decide) rfl ?_
        obtain ⟨k4, H⟩ := H
        refine s_iinc (pc := 59) (lv' := [jR 0, jI x1, jI (b_or x2 0), jI (x3 + 1)]) dX8_under_59 rfl (by decide) k4 rfl ?_
        refine s_goto (pc := 62) (tgt := 14) dX8_under_62 (by decide) ?_
        exact H
      · have H := H.1 hc
        refine s_aload_n (pc := 41) dX8_under_41 rfl ?_
        refine s_iload_n (pc := 42) dX8_under_42 rfl ?_
        refine s_iload_n (pc := 43) dX8_under_43 rfl ?_
        obtain ⟨post, hct, H⟩ := H
        refine s_callV (pc := 44) (as := [jI x1, jI x3]) (st := [jI x2]) (by exact dX8_under_44) mv_X8_154 ⟨rfl, rfl, Nat.le_of_ble_eq_true rfl, Nat.le_of_ble_eq_true rfl⟩ cSm_0 rfl rfl (Nat.le_of_ble_eq_true rfl) _ rfl hct (fun r5 h6 hp => ?_)
        obtain ⟨r5, rfl, hp⟩ := hp
        have H := H r5 h6 hp
        show WV _ _ _ _ 47 [jR 0, jI x1, jI x2, jI x3] [jI r5, jI x2] h6
        refine s_if_eq (pc := 47) (tgt := 56) dX8_under_47 (by decide) (fun hc => ?_) (fun hc => ?_)
        · have H := H.1 hc
          refine s_iconst (pc := 56) dX8_under_56 (j_cst rfl) ?_
          refine s_ior (pc := 57) dX8_under_57 ?_
          refine s_istore_n (pc := 58) (lv' := [jR 0, jI x1, jI (b_or x2 0), jI x3]) dX8_under_58 (by decide) rfl ?_
          obtain ⟨k7, H⟩ := H
          refine s_iinc (pc := 59) (lv' := [jR 0, jI x1, jI (b_or x2 0), jI (x3 + 1)]) dX8_under_59 rfl (by decide) k7 rfl ?_
          refine s_goto (pc := 62) (tgt := 14) dX8_under_62 (by decide) ?_
          exact H
        · have H := H.2 hc
          refine s_iconst (pc := 50) dX8_under_50 (j_cst rfl) ?_
          refine s_iload_n (pc := 51) dX8_under_51 rfl ?_
          refine s_ishl (pc := 52) dX8_under_52 ?_
          refine s_goto (pc := 53) (tgt := 57) dX8_under_53 (by decide) ?_
          refine s_ior (pc := 57) dX8_under_57 ?_
          refine s_istore_n (pc := 58) (lv' := [jR 0, jI x1, jI (b_or x2 (b_shl 1 x3)), jI x3]) dX8_under_58 (by decide) rfl ?_
          obtain ⟨k8, H⟩ := H
          refine s_iinc (pc := 59) (lv' := [jR 0, jI x1, jI (b_or x2 (b_shl 1 x3)), jI (x3 + 1)]) dX8_under_59 rfl (by decide) k8 rfl ?_
          refine s_goto (pc := 62) (tgt := 14) dX8_under_62 (by decide) ?_
          exact H
theorem en_X8_odds_0 {x1 x2 x3 x4 : Int} {h : jH} {post : jQ} (k : ∀ G, WV Sm G M_X8_odds post 0 [jR 0, jI x1, jI x2, jI x3, jI x4, jU, jU, jU, jU, jU] [] h) : CT Sm M_X8_odds [jR 0, jI x1, jI x2, jI x3, jI x4] h post := CT.of (by decide +kernel) (by simp [j_un]) (Nat.le_of_ble_eq_true rfl) _ rfl k
set_option maxRecDepth 20000 in
theorem vc_X8_odds_0_0 {G : jG} {Q : jQ} {x1 x2 x3 x4 : Int} {h : jH}
    (H : ∃ post : Int → jH → Prop, CT Sm M_X8_isLine [jR 0, jI x1] h (jPi post) ∧ ∀ (r1 : Int) (h2 : jH), post r1 h2 → ((r1 = 0 → Q (some (jI (-1))) h2) ∧ (¬ r1 = 0 → ∃ post : Int → jH → Prop, CT Sm M_X8_in [jI x2, jI 0, jI 10] h2 (jPi post) ∧ ∀ (r3 : Int) (h4 : jH), post r3 h4 → ((r3 = 0 → Q (some (jI (-1))) h4) ∧ (¬ r3 = 0 → ∃ post : Int → jH → Prop, CT Sm M_X8_in [jI x3, jI 0, jI 40] h4 (jPi post) ∧ ∀ (r5 : Int) (h6 : jH), post r5 h6 → ((r5 = 0 → Q (some (jI (-1))) h6) ∧ (¬ r5 = 0 → ∃ post : Int → jH → Prop, CT Sm M_X8_in [jI x4, jI 0, jI 1] h6 (jPi post) ∧ ∀ (r7 : Int) (h8 : jH), post r7 h8 → ((r7 = 0 → Q (some (jI (-1))) h8) ∧ (¬ r7 = 0 → ∃ post : Int → jH → Prop, CT Sm M_X8_talkerOn [jR 0, jR 5, jI x1] h8 (jPi post) ∧ ∀ (r9 : Int) (h10 : jH), post r9 h10 → ((r9 = (-9) → WV Sm G M_X8_odds Q 116 [jR 0, jI x1, jI x2, jI x3, jI x4, jI r9, jI 10, jI 10, jI 10, jU] [] h10) ∧ (¬ r9 = (-9) → (j_rg (14 + r9)) ∧ ((0 ≤ 14 + r9 ∧ 14 + r9 < 28) ∧ ((x3 < (h10.1 5 (Int.toNat (14 + r9))) → (j_rg (2 * (h10.1 5 (Int.toNat (14 + r9))))) ∧ ((x3 < (2 * (h10.1 5 (Int.toNat (14 + r9)))) → WV Sm G M_X8_odds Q 116 [jR 0, jI x1, jI x2, jI x3, jI x4, jI r9, jI 0, jI 0, jI 10, jU] [] h10) ∧ (¬ x3 < (2 * (h10.1 5 (Int.toNat (14 + r9)))) → (j_rg (0 + x2)) ∧ (WV Sm G M_X8_odds Q 116 [jR 0, jI x1, jI x2, jI x3, jI x4, jI r9, jI (0 + x2), jI (0 + x2), jI 10, jU] [] h10)))) ∧ (¬ x3 < (h10.1 5 (Int.toNat (14 + r9))) → (j_rg (10 - x2)) ∧ ((j_rg (2 * (h10.1 5 (Int.toNat (14 + r9))))) ∧ ((x3 < (2 * (h10.1 5 (Int.toNat (14 + r9)))) → (j_rg ((10 - x2) + 0)) ∧ (WV Sm G M_X8_odds Q 116 [jR 0, jI x1, jI x2, jI x3, jI x4, jI r9, jI ((10 - x2) + 0), jI ((10 - x2) + 0), jI 10, jU] [] h10)) ∧ (¬ x3 < (2 * (h10.1 5 (Int.toNat (14 + r9)))) → (j_rg ((10 - x2) + x2)) ∧ (WV Sm G M_X8_odds Q 116 [jR 0, jI x1, jI x2, jI x3, jI x4, jI r9, jI ((10 - x2) + x2), jI ((10 - x2) + x2), jI 10, jU] [] h10)))))))))))))))))) :
    WV Sm G M_X8_odds Q 0 [jR 0, jI x1, jI x2, jI x3, jI x4, jU, jU, jU, jU, jU] [] h := by
  refine s_aload_n (pc := 0) dX8_odds_0 rfl ?_
  refine s_iload_n (pc := 1) dX8_odds_1 rfl ?_
  obtain ⟨post, hct, H⟩ := H
  refine s_callV (pc := 2) (as := [jI x1]) (st := []) (by exact dX8_odds_2) mv_X8_157 ⟨rfl, rfl, Nat.le_of_ble_eq_true rfl, Nat.le_of_ble_eq_true rfl⟩ cSm_0 rfl rfl (Nat.le_of_ble_eq_true rfl) _ rfl hct (fun r1 h2 hp => ?_)
  obtain ⟨r1, rfl, hp⟩ := hp
  have H := H r1 h2 hp
  show WV _ _ _ _ 5 [jR 0, jI x1, jI x2, jI x3, jI x4, jU, jU, jU, jU, jU] [jI r1] h2
  refine s_if_eq (pc := 5) (tgt := 38) dX8_odds_5 (by decide) (fun hc => ?_) (fun hc => ?_)
  · have H := H.1 hc
    refine s_iconst (pc := 38) dX8_odds_38 (j_cst rfl) ?_
    exact s_iret dX8_odds_39 rfl H
  · have H := H.2 hc
    refine s_iload_n (pc := 8) dX8_odds_8 rfl ?_
    refine s_iconst (pc := 9) dX8_odds_9 (j_cst rfl) ?_
    refine s_bipush (pc := 10) dX8_odds_10 rfl (j_cst rfl) ?_
    obtain ⟨post, hct, H⟩ := H
    refine s_callS (pc := 12) (as := [jI x2, jI 0, jI 10]) (st := []) (by exact dX8_odds_12) ms_X8_63 ⟨rfl, rfl, Nat.le_of_ble_eq_true rfl, Nat.le_of_ble_eq_true rfl⟩ (Nat.le_of_ble_eq_true rfl) _ rfl hct (fun r3 h4 hp => ?_)
    obtain ⟨r3, rfl, hp⟩ := hp
    have H := H r3 h4 hp
    show WV _ _ _ _ 15 [jR 0, jI x1, jI x2, jI x3, jI x4, jU, jU, jU, jU, jU] [jI r3] h4
    refine s_if_eq (pc := 15) (tgt := 38) dX8_odds_15 (by decide) (fun hc => ?_) (fun hc => ?_)
    · have H := H.1 hc
      refine s_iconst (pc := 38) dX8_odds_38 (j_cst rfl) ?_
      exact s_iret dX8_odds_39 rfl H
    · have H := H.2 hc
      refine s_iload_n (pc := 18) dX8_odds_18 rfl ?_
      refine s_iconst (pc := 19) dX8_odds_19 (j_cst rfl) ?_
      refine s_bipush (pc := 20) dX8_odds_20 rfl (j_cst rfl) ?_
      obtain ⟨post, hct, H⟩ := H
      refine s_callS (pc := 22) (as := [jI x3, jI 0, jI 40]) (st := []) (by exact dX8_odds_22) ms_X8_63 ⟨rfl, rfl, Nat.le_of_ble_eq_true rfl, Nat.le_of_ble_eq_true rfl⟩ (Nat.le_of_ble_eq_true rfl) _ rfl hct (fun r5 h6 hp => ?_)
      obtain ⟨r5, rfl, hp⟩ := hp
      have H := H r5 h6 hp
      show WV _ _ _ _ 25 [jR 0, jI x1, jI x2, jI x3, jI x4, jU, jU, jU, jU, jU] [jI r5] h6
      refine s_if_eq (pc := 25) (tgt := 38) dX8_odds_25 (by decide) (fun hc => ?_) (fun hc => ?_)
      · have H := H.1 hc
        refine s_iconst (pc := 38) dX8_odds_38 (j_cst rfl) ?_
        exact s_iret dX8_odds_39 rfl H
      · have H := H.2 hc
        refine s_iload (pc := 28) dX8_odds_28 rfl ?_
        refine s_iconst (pc := 30) dX8_odds_30 (j_cst rfl) ?_
        refine s_iconst (pc := 31) dX8_odds_31 (j_cst rfl) ?_
        obtain ⟨post, hct, H⟩ := H
        refine s_callS (pc := 32) (as := [jI x4, jI 0, jI 1]) (st := []) (by exact dX8_odds_32) ms_X8_63 ⟨rfl, rfl, Nat.le_of_ble_eq_true rfl, Nat.le_of_ble_eq_true rfl⟩ (Nat.le_of_ble_eq_true rfl) _ rfl hct (fun r7 h8 hp => ?_)
        obtain ⟨r7, rfl, hp⟩ := hp
        have H := H r7 h8 hp
        show WV _ _ _ _ 35 [jR 0, jI x1, jI x2, jI x3, jI x4, jU, jU, jU, jU, jU] [jI r7] h8
        refine s_if_ne (pc := 35) (tgt := 40) dX8_odds_35 (by decide) (fun hc => ?_) (fun hc => ?_)
        · have H := H.2 hc
          refine s_aload_n (pc := 40) dX8_odds_40 rfl ?_
          refine s_aload_n (pc := 41) dX8_odds_41 rfl ?_
          refine s_getr (pc := 42) dX8_odds_42 fl_X8_29 cSm_0 rfl ?_
          refine s_iload_n (pc := 45) dX8_odds_45 rfl ?_
          obtain ⟨post, hct, H⟩ := H
          refine s_callV (pc := 46) (as := [jR 5, jI x1]) (st := []) (by exact dX8_odds_46) mv_X8_138 ⟨rfl, rfl, Nat.le_of_ble_eq_true rfl, Nat.le_of_ble_eq_true rfl⟩ cSm_0 rfl rfl (Nat.le_of_ble_eq_true rfl) _ rfl hct (fun r9 h10 hp => ?_)
          obtain ⟨r9, rfl, hp⟩ := hp
          have H := H r9 h10 hp
          show WV _ _ _ _ 49 [jR 0, jI x1, jI x2, jI x3, jI x4, jU, jU, jU, jU, jU] [jI r9] h10
          refine s_istore (pc := 49) (lv' := [jR 0, jI x1, jI x2, jI x3, jI x4, jI r9, jU, jU, jU, jU]) dX8_odds_49 (by decide) rfl ?_
          refine s_bipush (pc := 51) dX8_odds_51 rfl (j_cst rfl) ?_
          refine s_istore (pc := 53) (lv' := [jR 0, jI x1, jI x2, jI x3, jI x4, jI r9, jI 10, jU, jU, jU]) dX8_odds_53 (by decide) rfl ?_
          refine s_iload (pc := 55) dX8_odds_55 rfl ?_
          refine s_bipush (pc := 57) dX8_odds_57 rfl (j_cst rfl) ?_
          refine s_icmp_eq (pc := 59) (tgt := 108) dX8_odds_59 (by decide) (fun hc => ?_) (fun hc => ?_)
          · have H := H.1 hc
            refine s_iload (pc := 108) dX8_odds_108 rfl ?_
            refine s_istore (pc := 110) (lv' := [jR 0, jI x1, jI x2, jI x3, jI x4, jI r9, jI 10, jI 10, jU, jU]) dX8_odds_110 (by decide) rfl ?_
            refine s_bipush (pc := 112) dX8_odds_112 rfl (j_cst rfl) ?_
            refine s_istore (pc := 114) (lv' := [jR 0, jI x1, jI x2, jI x3, jI x4, jI r9, jI 10, jI 10, jI 10, jU]) dX8_odds_114 (by decide) rfl ?_
            exact H
          · have H := H.2 hc
            refine s_iload_n (pc := 62) dX8_odds_62 rfl ?_
            refine s_aload_n (pc := 63) dX8_odds_63 rfl ?_
            refine s_getr (pc := 64) dX8_odds_64 fl_X8_29 cSm_0 rfl ?_
            refine s_bipush (pc := 67) dX8_odds_67 rfl (j_cst rfl) ?_
            refine s_iload (pc := 69) dX8_odds_69 rfl ?_
            obtain ⟨k11, H⟩ := H
            refine s_iadd (pc := 71) dX8_odds_71 k11 ?_
            obtain ⟨k12, H⟩ := H
            refine s_iald (pc := 72) (x := h10.1 5 (Int.toNat (14 + r9))) dX8_odds_72 cSm_5 k12 rfl ?_
            refine s_icmp_lt (pc := 73) (tgt := 83) dX8_odds_73 (by decide) (fun hc => ?_) (fun hc => ?_)
            · have H := H.1 hc
              refine s_iconst (pc := 83) dX8_odds_83 (j_cst rfl) ?_
              refine s_iload_n (pc := 84) dX8_odds_84 rfl ?_
              refine s_iconst (pc := 85) dX8_odds_85 (j_cst rfl) ?_
              refine s_aload_n (pc := 86) dX8_odds_86 rfl ?_
              refine s_getr (pc := 87) dX8_odds_87 fl_X8_29 cSm_0 rfl ?_
              refine s_bipush (pc := 90) dX8_odds_90 rfl (j_cst rfl) ?_
              refine s_iload (pc := 92) dX8_odds_92 rfl ?_
              refine s_iadd (pc := 94) dX8_odds_94 k11 ?_
              refine s_iald (pc := 95) (x := h10.1 5 (Int.toNat (14 + r9))) dX8_odds_95 cSm_5 k12 rfl ?_
              obtain ⟨k13, H⟩ := H
              refine s_imul (pc := 96) dX8_odds_96 k13 ?_
              refine s_icmp_lt (pc := 97) (tgt := 104) dX8_odds_97 (by decide) (fun hc => ?_) (fun hc => ?_)
              · have H := H.1 hc
                refine s_iconst (pc := 104) dX8_odds_104 (j_cst rfl) ?_
                refine s_iadd (pc := 105) dX8_odds_105 (j_cst rfl) ?_
                show WV _ _ _ _ _ _ (jI 0 :: _) _
                refine s_istore (pc := 106) (lv' := [jR 0, jI x1, jI x2, jI x3, jI x4, jI r9, jI 0, jU, jU, jU]) dX8_odds_106 (by decide) rfl ?_
                refine s_iload (pc := 108) dX8_odds_108 rfl ?_
                refine s_istore (pc := 110) (lv' := [jR 0, jI x1, jI x2, jI x3, jI x4, jI r9, jI 0, jI 0, jU, jU]) dX8_odds_110 (by decide) rfl ?_
                refine s_bipush (pc := 112) dX8_odds_112 rfl (j_cst rfl) ?_
                refine s_istore (pc := 114) (lv' := [jR 0, jI x1, jI x2, jI x3, jI x4, jI r9, jI 0, jI 0, jI 10, jU]) dX8_odds_114 (by decide) rfl ?_
                exact H
              · have H := H.2 hc
                refine s_iload_n (pc := 100) dX8_odds_100 rfl ?_
                refine s_goto (pc := 101) (tgt := 105) dX8_odds_101 (by decide) ?_
                obtain ⟨k14, H⟩ := H
                refine s_iadd (pc := 105) dX8_odds_105 k14 ?_
                refine s_istore (pc := 106) (lv' := [jR 0, jI x1, jI x2, jI x3, jI x4, jI r9, jI (0 + x2), jU, jU, jU]) dX8_odds_106 (by decide) rfl ?_
                refine s_iload (pc := 108) dX8_odds_108 rfl ?_
                refine s_istore (pc := 110) (lv' := [jR 0, jI x1, jI x2, jI x3, jI x4, jI r9, jI (0 + x2), jI (0 + x2), jU, jU]) dX8_odds_110 (by decide) rfl ?_
                refine s_bipush (pc := 112) dX8_odds_112 rfl (j_cst rfl) ?_
                refine s_istore (pc := 114) (lv' := [jR 0, jI x1, jI x2, jI x3, jI x4, jI r9, jI (0 + x2), jI (0 + x2), jI 10, jU]) dX8_odds_114 (by decide) rfl ?_
                exact H
            · have H := H.2 hc
              refine s_bipush (pc := 76) dX8_odds_76 rfl (j_cst rfl) ?_
              refine s_iload_n (pc := 78) dX8_odds_78 rfl ?_
              obtain ⟨k15, H⟩ := H
              refine s_isub (pc := 79) dX8_odds_79 k15 ?_
              refine s_goto (pc := 80) (tgt := 84) dX8_odds_80 (by decide) ?_
              refine s_iload_n (pc := 84) dX8_odds_84 rfl ?_
              refine s_iconst (pc := 85) dX8_odds_85 (j_cst rfl) ?_
              refine s_aload_n (pc := 86) dX8_odds_86 rfl ?_
              refine s_getr (pc := 87) dX8_odds_87 fl_X8_29 cSm_0 rfl ?_
              refine s_bipush (pc := 90) dX8_odds_90 rfl (j_cst rfl) ?_
              refine s_iload (pc := 92) dX8_odds_92 rfl ?_
              refine s_iadd (pc := 94) dX8_odds_94 k11 ?_
              refine s_iald (pc := 95) (x := h10.1 5 (Int.toNat (14 + r9))) dX8_odds_95 cSm_5 k12 rfl ?_
              obtain ⟨k16, H⟩ := H
              refine s_imul (pc := 96) dX8_odds_96 k16 ?_
              refine s_icmp_lt (pc := 97) (tgt := 104) dX8_odds_97 (by decide) (fun hc => ?_) (fun hc => ?_)
              · have H := H.1 hc
                refine s_iconst (pc := 104) dX8_odds_104 (j_cst rfl) ?_
                obtain ⟨k17, H⟩ := H
                refine s_iadd (pc := 105) dX8_odds_105 k17 ?_
                refine s_istore (pc := 106) (lv' := [jR 0, jI x1, jI x2, jI x3, jI x4, jI r9, jI ((10 - x2) + 0), jU, jU, jU]) dX8_odds_106 (by decide) rfl ?_
                refine s_iload (pc := 108) dX8_odds_108 rfl ?_
                refine s_istore (pc := 110) (lv' := [jR 0, jI x1, jI x2, jI x3, jI x4, jI r9, jI ((10 - x2) + 0), jI ((10 - x2) + 0), jU, jU]) dX8_odds_110 (by decide) rfl ?_
                refine s_bipush (pc := 112) dX8_odds_112 rfl (j_cst rfl) ?_
                refine s_istore (pc := 114) (lv' := [jR 0, jI x1, jI x2, jI x3, jI x4, jI r9, jI ((10 - x2) + 0), jI ((10 - x2) + 0), jI 10, jU]) dX8_odds_114 (by decide) rfl ?_
                exact H
              · have H := H.2 hc
                refine s_iload_n (pc := 100) dX8_odds_100 rfl ?_
                refine s_goto (pc := 101) (tgt := 105) dX8_odds_101 (by decide) ?_
                obtain ⟨k18, H⟩ := H
                refine s_iadd (pc := 105) dX8_odds_105 k18 ?_
                refine s_istore (pc := 106) (lv' := [jR 0, jI x1, jI x2, jI x3, jI x4, jI r9, jI ((10 - x2) + x2), jU, jU, jU]) dX8_odds_106 (by decide) rfl ?_
                refine s_iload (pc := 108) dX8_odds_108 rfl ?_
                refine s_istore (pc := 110) (lv' := [jR 0, jI x1, jI x2, jI x3, jI x4, jI r9, jI ((10 - x2) + x2), jI ((10 - x2) + x2), jU, jU]) dX8_odds_110 (by decide) rfl ?_
                refine s_bipush (pc := 112) dX8_odds_112 rfl (j_cst rfl) ?_
                refine s_istore (pc := 114) (lv' := [jR 0, jI x1, jI x2, jI x3, jI x4, jI r9, jI ((10 - x2) + x2), jI ((10 - x2) + x2), jI 10, jU]) dX8_odds_114 (by decide) rfl ?_
                exact H
        · have H := H.1 hc
          refine s_iconst (pc := 38) dX8_odds_38 (j_cst rfl) ?_
          exact s_iret dX8_odds_39 rfl H
set_option maxRecDepth 20000 in
theorem vc_X8_odds_0_116 {G : jG} {Q : jQ} {x1 x2 x3 x4 x5 x6 x7 x8 : Int} {u9 : jV} {h : jH}
    (H : (x8 = 0 → (x4 = 0 → (0 < x7) ∧ (Q (some (jI (Int.tdiv x6 x7))) h)) ∧ (¬ x4 = 0 → (0 < x7) ∧ (Q (some (jI (Int.tdiv 10 x7))) h))) ∧ (¬ x8 = 0 → (0 < x8) ∧ (WV Sm G M_X8_odds Q 116 [jR 0, jI x1, jI x2, jI x3, jI x4, jI x5, jI x6, jI x8, jI (Int.tmod x7 x8), jI (Int.tmod x7 x8)] [] h))) :
    WV Sm G M_X8_odds Q 116 [jR 0, jI x1, jI x2, jI x3, jI x4, jI x5, jI x6, jI x7, jI x8, u9] [] h := by
  refine s_iload (pc := 116) dX8_odds_116 rfl ?_
  refine s_if_eq (pc := 118) (tgt := 139) dX8_odds_118 (by decide) (fun hc => ?_) (fun hc => ?_)
  · have H := H.1 hc
    refine s_iload (pc := 139) dX8_odds_139 rfl ?_
    refine s_if_ne (pc := 141) (tgt := 149) dX8_odds_141 (by decide) (fun hc => ?_) (fun hc => ?_)
    · have H := H.2 hc
      refine s_bipush (pc := 149) dX8_odds_149 rfl (j_cst rfl) ?_
      refine s_iload (pc := 151) dX8_odds_151 rfl ?_
      obtain ⟨k1, H⟩ := H
      refine s_idiv (pc := 153) dX8_odds_153 k1 ?_
      exact s_iret dX8_odds_154 rfl H
    · have H := H.1 hc
      refine s_iload (pc := 144) dX8_odds_144 rfl ?_
      refine s_goto (pc := 146) (tgt := 151) dX8_odds_146 (by decide) ?_
      refine s_iload (pc := 151) dX8_odds_151 rfl ?_
      obtain ⟨k2, H⟩ := H
      refine s_idiv (pc := 153) dX8_odds_153 k2 ?_
      exact s_iret dX8_odds_154 rfl H
  · have H := H.2 hc
    refine s_iload (pc := 121) dX8_odds_121 rfl ?_
    refine s_iload (pc := 123) dX8_odds_123 rfl ?_
    obtain ⟨k3, H⟩ := H
    refine s_irem (pc := 125) dX8_odds_125 k3 ?_
    refine s_istore (pc := 126) (lv' := [jR 0, jI x1, jI x2, jI x3, jI x4, jI x5, jI x6, jI x7, jI x8, jI (Int.tmod x7 x8)]) dX8_odds_126 (by decide) rfl ?_
    refine s_iload (pc := 128) dX8_odds_128 rfl ?_
    refine s_istore (pc := 130) (lv' := [jR 0, jI x1, jI x2, jI x3, jI x4, jI x5, jI x6, jI x8, jI x8, jI (Int.tmod x7 x8)]) dX8_odds_130 (by decide) rfl ?_
    refine s_iload (pc := 132) dX8_odds_132 rfl ?_
    refine s_istore (pc := 134) (lv' := [jR 0, jI x1, jI x2, jI x3, jI x4, jI x5, jI x6, jI x8, jI (Int.tmod x7 x8), jI (Int.tmod x7 x8)]) dX8_odds_134 (by decide) rfl ?_
    refine s_goto (pc := 136) (tgt := 116) dX8_odds_136 (by decide) ?_
    exact H
theorem en_X8_rankOf_0 {x1 : Int} {h : jH} {post : jQ} (k : ∀ G, WV Sm G M_X8_rankOf post 0 [jR 0, jI x1] [] h) : CT Sm M_X8_rankOf [jR 0, jI x1] h post := CT.of (by decide +kernel) (by simp [j_un]) (Nat.le_of_ble_eq_true rfl) _ rfl k
set_option maxRecDepth 20000 in
theorem vc_X8_rankOf_0_0 {G : jG} {Q : jQ} {x1 : Int} {h : jH}
    (H : (j_rg (5 * x1)) ∧ ((j_rg ((5 * x1) + 4)) ∧ ((0 ≤ (5 * x1) + 4 ∧ (5 * x1) + 4 < 35) ∧ (Q (some (jI (h.1 4 (Int.toNat ((5 * x1) + 4))))) (j_upl h 0 ((h.2 0) + 1)))))) :
    WV Sm G M_X8_rankOf Q 0 [jR 0, jI x1] [] h := by
  refine s_aload_n (pc := 0) dX8_rankOf_0 rfl ?_
  refine s_dup (pc := 1) dX8_rankOf_1 rfl ?_
  refine s_getl (pc := 2) (x := h.2 0) dX8_rankOf_2 fl_X8_223 cSm_0 rfl rfl ?_
  refine s_lconst (pc := 5) (v := 1) dX8_rankOf_5 rfl ?_
  refine s_ladd (pc := 6) dX8_rankOf_6 ?_
  refine s_putl (pc := 7) dX8_rankOf_7 fp_X8_223 cSm_0 rfl (fun i hi => j_one_Sm i hi) ?_
  refine s_aload_n (pc := 10) dX8_rankOf_10 rfl ?_
  refine s_getr (pc := 11) dX8_rankOf_11 fl_X8_26 cSm_0 rfl ?_
  refine s_iconst (pc := 14) dX8_rankOf_14 (j_cst rfl) ?_
  refine s_iload_n (pc := 15) dX8_rankOf_15 rfl ?_
  obtain ⟨k1, H⟩ := H
  refine s_imul (pc := 16) dX8_rankOf_16 k1 ?_
  refine s_iconst (pc := 17) dX8_rankOf_17 (j_cst rfl) ?_
  obtain ⟨k2, H⟩ := H
  refine s_iadd (pc := 18) dX8_rankOf_18 k2 ?_
  obtain ⟨k3, H⟩ := H
  refine s_iald (pc := 19) (x := h.1 4 (Int.toNat ((5 * x1) + 4))) dX8_rankOf_19 cSm_4 k3 rfl ?_
  exact s_iret dX8_rankOf_20 rfl H
theorem en_X8_doctorOf_0 {x1 : Int} {h : jH} {post : jQ} (k : ∀ G, WV Sm G M_X8_doctorOf post 0 [jR 0, jI x1] [] h) : CT Sm M_X8_doctorOf [jR 0, jI x1] h post := CT.of (by decide +kernel) (by simp [j_un]) (Nat.le_of_ble_eq_true rfl) _ rfl k
set_option maxRecDepth 20000 in
theorem vc_X8_doctorOf_0_0 {G : jG} {Q : jQ} {x1 : Int} {h : jH}
    (H : ∃ post : Int → jH → Prop, CT Sm M_X8_rankOf [jR 0, jI x1] (j_upl h 0 ((h.2 0) + 10)) (jPi post) ∧ ∀ (r1 : Int) (h2 : jH), post r1 h2 → ((j_rg (21 + x1)) ∧ ((0 ≤ 21 + x1 ∧ 21 + x1 < 28) ∧ ((j_rg (r1 + (h2.1 5 (Int.toNat (21 + x1))))) ∧ (Q (some (jI (r1 + (h2.1 5 (Int.toNat (21 + x1)))))) h2))))) :
    WV Sm G M_X8_doctorOf Q 0 [jR 0, jI x1] [] h := by
  refine s_aload_n (pc := 0) dX8_doctorOf_0 rfl ?_
  refine s_dup (pc := 1) dX8_doctorOf_1 rfl ?_
  refine s_getl (pc := 2) (x := h.2 0) dX8_doctorOf_2 fl_X8_223 cSm_0 rfl rfl ?_
  refine s_ldc2 (pc := 5) dX8_doctorOf_5 kl_X8_227 ?_
  refine s_ladd (pc := 8) dX8_doctorOf_8 ?_
  refine s_putl (pc := 9) dX8_doctorOf_9 fp_X8_223 cSm_0 rfl (fun i hi => j_one_Sm i hi) ?_
  refine s_aload_n (pc := 12) dX8_doctorOf_12 rfl ?_
  refine s_iload_n (pc := 13) dX8_doctorOf_13 rfl ?_
  obtain ⟨post, hct, H⟩ := H
  refine s_callV (pc := 14) (as := [jI x1]) (st := []) (by exact dX8_doctorOf_14) mv_X8_229 ⟨rfl, rfl, Nat.le_of_ble_eq_true rfl, Nat.le_of_ble_eq_true rfl⟩ cSm_0 rfl rfl (Nat.le_of_ble_eq_true rfl) _ rfl hct (fun r1 h2 hp => ?_)
  obtain ⟨r1, rfl, hp⟩ := hp
  have H := H r1 h2 hp
  show WV _ _ _ _ 17 [jR 0, jI x1] [jI r1] h2
  refine s_aload_n (pc := 17) dX8_doctorOf_17 rfl ?_
  refine s_getr (pc := 18) dX8_doctorOf_18 fl_X8_29 cSm_0 rfl ?_
  refine s_bipush (pc := 21) dX8_doctorOf_21 rfl (j_cst rfl) ?_
  refine s_iload_n (pc := 23) dX8_doctorOf_23 rfl ?_
  obtain ⟨k3, H⟩ := H
  refine s_iadd (pc := 24) dX8_doctorOf_24 k3 ?_
  obtain ⟨k4, H⟩ := H
  refine s_iald (pc := 25) (x := h2.1 5 (Int.toNat (21 + x1))) dX8_doctorOf_25 cSm_5 k4 rfl ?_
  obtain ⟨k5, H⟩ := H
  refine s_iadd (pc := 26) dX8_doctorOf_26 k5 ?_
  exact s_iret dX8_doctorOf_27 rfl H
theorem en_X8_gossipOf_0 {x1 : Int} {h : jH} {post : jQ} (k : ∀ G, WV Sm G M_X8_gossipOf post 0 [jR 0, jI x1] [] h) : CT Sm M_X8_gossipOf [jR 0, jI x1] h post := CT.of (by decide +kernel) (by simp [j_un]) (Nat.le_of_ble_eq_true rfl) _ rfl k
set_option maxRecDepth 20000 in
theorem vc_X8_gossipOf_0_0 {G : jG} {Q : jQ} {x1 : Int} {h : jH}
    (H : ∃ post : Int → jH → Prop, CT Sm M_X8_rankOf [jR 0, jI x1] (j_upl h 0 ((h.2 0) + 100)) (jPi post) ∧ ∀ (r1 : Int) (h2 : jH), post r1 h2 → ((j_rg (5 * x1)) ∧ ((j_rg ((5 * x1) + 3)) ∧ ((0 ≤ (5 * x1) + 3 ∧ (5 * x1) + 3 < 35) ∧ ((j_rg (r1 - (h2.1 4 (Int.toNat ((5 * x1) + 3))))) ∧ (Q (some (jI (r1 - (h2.1 4 (Int.toNat ((5 * x1) + 3)))))) h2)))))) :
    WV Sm G M_X8_gossipOf Q 0 [jR 0, jI x1] [] h := by
  refine s_aload_n (pc := 0) dX8_gossipOf_0 rfl ?_
  refine s_dup (pc := 1) dX8_gossipOf_1 rfl ?_
  refine s_getl (pc := 2) (x := h.2 0) dX8_gossipOf_2 fl_X8_223 cSm_0 rfl rfl ?_
  refine s_ldc2 (pc := 5) dX8_gossipOf_5 kl_X8_232 ?_
  refine s_ladd (pc := 8) dX8_gossipOf_8 ?_
  refine s_putl (pc := 9) dX8_gossipOf_9 fp_X8_223 cSm_0 rfl (fun i hi => j_one_Sm i hi) ?_
  refine s_aload_n (pc := 12) dX8_gossipOf_12 rfl ?_
  refine s_iload_n (pc := 13) dX8_gossipOf_13 rfl ?_
  obtain ⟨post, hct, H⟩ := H
  refine s_callV (pc := 14) (as := [jI x1]) (st := []) (by exact dX8_gossipOf_14) mv_X8_229 ⟨rfl, rfl, Nat.le_of_ble_eq_true rfl, Nat.le_of_ble_eq_true rfl⟩ cSm_0 rfl rfl (Nat.le_of_ble_eq_true rfl) _ rfl hct (fun r1 h2 hp => ?_)
  obtain ⟨r1, rfl, hp⟩ := hp
  have H := H r1 h2 hp
  show WV _ _ _ _ 17 [jR 0, jI x1] [jI r1] h2
  refine s_aload_n (pc := 17) dX8_gossipOf_17 rfl ?_
  refine s_getr (pc := 18) dX8_gossipOf_18 fl_X8_26 cSm_0 rfl ?_
  refine s_iconst (pc := 21) dX8_gossipOf_21 (j_cst rfl) ?_
  refine s_iload_n (pc := 22) dX8_gossipOf_22 rfl ?_
  obtain ⟨k3, H⟩ := H
  refine s_imul (pc := 23) dX8_gossipOf_23 k3 ?_
  refine s_iconst (pc := 24) dX8_gossipOf_24 (j_cst rfl) ?_
  obtain ⟨k4, H⟩ := H
  refine s_iadd (pc := 25) dX8_gossipOf_25 k4 ?_
  obtain ⟨k5, H⟩ := H
  refine s_iald (pc := 26) (x := h2.1 4 (Int.toNat ((5 * x1) + 3))) dX8_gossipOf_26 cSm_4 k5 rfl ?_
  obtain ⟨k6, H⟩ := H
  refine s_isub (pc := 27) dX8_gossipOf_27 k6 ?_
  exact s_iret dX8_gossipOf_28 rfl H
theorem en_X8_rate_0 {x1 x2 : Int} {h : jH} {post : jQ} (k : ∀ G, WV Sm G M_X8_rate post 0 [jR 0, jI x1, jI x2] [] h) : CT Sm M_X8_rate [jR 0, jI x1, jI x2] h post := CT.of (by decide +kernel) (by simp [j_un]) (Nat.le_of_ble_eq_true rfl) _ rfl k
set_option maxRecDepth 20000 in
theorem vc_X8_rate_0_0 {G : jG} {Q : jQ} {x1 x2 : Int} {h : jH}
    (H : ∃ post : Int → jH → Prop, CT Sm M_X8_in [jI x1, jI 0, jI 5] h (jPi post) ∧ ∀ (r1 : Int) (h2 : jH), post r1 h2 → ((r1 = 0 → Q (some (jI (-1000000))) h2) ∧ (¬ r1 = 0 → ∃ post : Int → jH → Prop, CT Sm M_X8_isCall [jR 0, jI x2] h2 (jPi post) ∧ ∀ (r3 : Int) (h4 : jH), post r3 h4 → ((r3 = 0 → Q (some (jI (-1000000))) h4) ∧ (¬ r3 = 0 → (x1 = 0 → ∃ post : Int → jH → Prop, CT Sm M_X8_rankOf [jR 0, jI x2] h4 (jPi post) ∧ ∀ (r5 : Int) (h6 : jH), post r5 h6 → (Q (some (jI r5)) h6)) ∧ (x1 = 1 → ∃ post : Int → jH → Prop, CT Sm M_X8_doctorOf [jR 0, jI x2] h4 (jPi post) ∧ ∀ (r7 : Int) (h8 : jH), post r7 h8 → (Q (some (jI r7)) h8)) ∧ (x1 = 2 → ∃ post : Int → jH → Prop, CT Sm M_X8_gossipOf [jR 0, jI x2] h4 (jPi post) ∧ ∀ (r9 : Int) (h10 : jH), post r9 h10 → (Q (some (jI r9)) h10)) ∧ (x1 = 3 → ∃ post : Int → jH → Prop, CT Sm M_X8_doctorOf [jR 0, jI x2] (j_upl h4 0 ((h4.2 0) + 1000)) (jPi post) ∧ ∀ (r11 : Int) (h12 : jH), post r11 h12 → ((j_rg (2 * r11)) ∧ (Q (some (jI (2 * r11))) h12))) ∧ (x1 = 4 → ∃ post : Int → jH → Prop, CT Sm M_X8_gossipOf [jR 0, jI x2] (j_upl h4 0 ((h4.2 0) + 10000)) (jPi post) ∧ ∀ (r14 : Int) (h15 : jH), post r14 h15 → ((j_rg (r14 + x2)) ∧ (Q (some (jI (r14 + x2))) h15))) ∧ (x1 < 0 ∨ 4 < x1 → ∃ post : Int → jH → Prop, CT Sm M_X8_rankOf [jR 0, jI x2] (j_upl h4 0 ((h4.2 0) + 100000)) (jPi post) ∧ ∀ (r17 : Int) (h18 : jH), post r17 h18 → (∃ post : Int → jH → Prop, CT Sm M_X8_fromOf [jR 0, jI x2] h18 (jPi post) ∧ ∀ (r19 : Int) (h20 : jH), post r19 h20 → (∃ post : Int → jH → Prop, CT Sm M_X8_holeOf [jR 0, jI r19] h20 (jPi post) ∧ ∀ (r21 : Int) (h22 : jH), post r21 h22 → (∃ post : Int → jH → Prop, CT Sm M_X8_toOf [jR 0, jI x2] h22 (jPi post) ∧ ∀ (r23 : Int) (h24 : jH), post r23 h24 → (∃ post : Int → jH → Prop, CT Sm M_X8_holeOf [jR 0, jI r23] h24 (jPi post) ∧ ∀ (r25 : Int) (h26 : jH), post r25 h26 → (∃ post : Int → jH → Prop, CT Sm M_X8_distance [jI r21, jI r25] h26 (jPi post) ∧ ∀ (r27 : Int) (h28 : jH), post r27 h28 → ((j_rg (r17 + r27)) ∧ (Q (some (jI (r17 + r27))) h28))))))))))))) :
    WV Sm G M_X8_rate Q 0 [jR 0, jI x1, jI x2] [] h := by
  refine s_iload_n (pc := 0) dX8_rate_0 rfl ?_
  refine s_iconst (pc := 1) dX8_rate_1 (j_cst rfl) ?_
  refine s_iconst (pc := 2) dX8_rate_2 (j_cst rfl) ?_
  obtain ⟨post, hct, H⟩ := H
  refine s_callS (pc := 3) (as := [jI x1, jI 0, jI 5]) (st := []) (by exact dX8_rate_3) ms_X8_63 ⟨rfl, rfl, Nat.le_of_ble_eq_true rfl, Nat.le_of_ble_eq_true rfl⟩ (Nat.le_of_ble_eq_true rfl) _ rfl hct (fun r1 h2 hp => ?_)
  obtain ⟨r1, rfl, hp⟩ := hp
  have H := H r1 h2 hp
  show WV _ _ _ _ 6 [jR 0, jI x1, jI x2] [jI r1] h2
  refine s_if_eq (pc := 6) (tgt := 17) dX8_rate_6 (by decide) (fun hc => ?_) (fun hc => ?_)
  · have H := H.1 hc
    refine s_ldc (pc := 17) dX8_rate_17 kc_X8_234 (j_cst rfl) ?_
    exact s_iret dX8_rate_19 rfl H
  · have H := H.2 hc
    refine s_aload_n (pc := 9) dX8_rate_9 rfl ?_
    refine s_iload_n (pc := 10) dX8_rate_10 rfl ?_
    obtain ⟨post, hct, H⟩ := H
    refine s_callV (pc := 11) (as := [jI x2]) (st := []) (by exact dX8_rate_11) mv_X8_161 ⟨rfl, rfl, Nat.le_of_ble_eq_true rfl, Nat.le_of_ble_eq_true rfl⟩ cSm_0 rfl rfl (Nat.le_of_ble_eq_true rfl) _ rfl hct (fun r3 h4 hp => ?_)
    obtain ⟨r3, rfl, hp⟩ := hp
    have H := H r3 h4 hp
    show WV _ _ _ _ 14 [jR 0, jI x1, jI x2] [jI r3] h4
    refine s_if_ne (pc := 14) (tgt := 20) dX8_rate_14 (by decide) (fun hc => ?_) (fun hc => ?_)
    · have H := H.2 hc
      refine s_iload_n (pc := 20) dX8_rate_20 rfl ?_
      refine s_table (pc := 21) dX8_rate_21 (fun i => ([56, 62, 68, 74, 94] : List Nat).getD i 0) 114 (by decide) (by decide) (by decide) (fun i hi hx => ?_) (fun hc => ?_)
      · rcases (show i = 0 ∨ i = 1 ∨ i = 2 ∨ i = 3 ∨ i = 4 by have hi : i < 5 := hi; omega) with rfl | rfl | rfl | rfl | rfl
        · have H := H.1 (by simpa using hx)
          refine s_aload_n (pc := 56) dX8_rate_56 rfl ?_
          refine s_iload_n (pc := 57) dX8_rate_57 rfl ?_
          obtain ⟨post, hct, H⟩ := H
          refine s_callV (pc := 58) (as := [jI x2]) (st := []) (by exact dX8_rate_58) mv_X8_229 ⟨rfl, rfl, Nat.le_of_ble_eq_true rfl, Nat.le_of_ble_eq_true rfl⟩ cSm_0 rfl rfl (Nat.le_of_ble_eq_true rfl) _ rfl hct (fun r5 h6 hp => ?_)
          obtain ⟨r5, rfl, hp⟩ := hp
          have H := H r5 h6 hp
          show WV _ _ _ _ 61 [jR 0, jI x1, jI x2] [jI r5] h6
          exact s_iret dX8_rate_61 rfl H
        · have H := H.2.1 (by simpa using hx)
          refine s_aload_n (pc := 62) dX8_rate_62 rfl ?_
          refine s_iload_n (pc := 63) dX8_rate_63 rfl ?_
          obtain ⟨post, hct, H⟩ := H
          refine s_callV (pc := 64) (as := [jI x2]) (st := []) (by exact dX8_rate_64) mv_X8_235 ⟨rfl, rfl, Nat.le_of_ble_eq_true rfl, Nat.le_of_ble_eq_true rfl⟩ cSm_0 rfl rfl (Nat.le_of_ble_eq_true rfl) _ rfl hct (fun r7 h8 hp => ?_)
          obtain ⟨r7, rfl, hp⟩ := hp
          have H := H r7 h8 hp
          show WV _ _ _ _ 67 [jR 0, jI x1, jI x2] [jI r7] h8
          exact s_iret dX8_rate_67 rfl H
        · have H := H.2.2.1 (by simpa using hx)
          refine s_aload_n (pc := 68) dX8_rate_68 rfl ?_
          refine s_iload_n (pc := 69) dX8_rate_69 rfl ?_
          obtain ⟨post, hct, H⟩ := H
          refine s_callV (pc := 70) (as := [jI x2]) (st := []) (by exact dX8_rate_70) mv_X8_238 ⟨rfl, rfl, Nat.le_of_ble_eq_true rfl, Nat.le_of_ble_eq_true rfl⟩ cSm_0 rfl rfl (Nat.le_of_ble_eq_true rfl) _ rfl hct (fun r9 h10 hp => ?_)
          obtain ⟨r9, rfl, hp⟩ := hp
          have H := H r9 h10 hp
          show WV _ _ _ _ 73 [jR 0, jI x1, jI x2] [jI r9] h10
          exact s_iret dX8_rate_73 rfl H
        · have H := H.2.2.2.1 (by simpa using hx)
          refine s_aload_n (pc := 74) dX8_rate_74 rfl ?_
          refine s_dup (pc := 75) dX8_rate_75 rfl ?_
          refine s_getl (pc := 76) (x := h4.2 0) dX8_rate_76 fl_X8_223 cSm_0 rfl rfl ?_
          refine s_ldc2 (pc := 79) dX8_rate_79 kl_X8_241 ?_
          refine s_ladd (pc := 82) dX8_rate_82 ?_
          refine s_putl (pc := 83) dX8_rate_83 fp_X8_223 cSm_0 rfl (fun i hi => j_one_Sm i hi) ?_
          refine s_iconst (pc := 86) dX8_rate_86 (j_cst rfl) ?_
          refine s_aload_n (pc := 87) dX8_rate_87 rfl ?_
          refine s_iload_n (pc := 88) dX8_rate_88 rfl ?_
          obtain ⟨post, hct, H⟩ := H
          refine s_callV (pc := 89) (as := [jI x2]) (st := [jI 2]) (by exact dX8_rate_89) mv_X8_235 ⟨rfl, rfl, Nat.le_of_ble_eq_true rfl, Nat.le_of_ble_eq_true rfl⟩ cSm_0 rfl rfl (Nat.le_of_ble_eq_true rfl) _ rfl hct (fun r11 h12 hp => ?_)
          obtain ⟨r11, rfl, hp⟩ := hp
          have H := H r11 h12 hp
          show WV _ _ _ _ 92 [jR 0, jI x1, jI x2] [jI r11, jI 2] h12
          obtain ⟨k13, H⟩ := H
          refine s_imul (pc := 92) dX8_rate_92 k13 ?_
          exact s_iret dX8_rate_93 rfl H
        · have H := H.2.2.2.2.1 (by simpa using hx)
          refine s_aload_n (pc := 94) dX8_rate_94 rfl ?_
          refine s_dup (pc := 95) dX8_rate_95 rfl ?_
          refine s_getl (pc := 96) (x := h4.2 0) dX8_rate_96 fl_X8_223 cSm_0 rfl rfl ?_
          refine s_ldc2 (pc := 99) dX8_rate_99 kl_X8_243 ?_
          refine s_ladd (pc := 102) dX8_rate_102 ?_
          refine s_putl (pc := 103) dX8_rate_103 fp_X8_223 cSm_0 rfl (fun i hi => j_one_Sm i hi) ?_
          refine s_aload_n (pc := 106) dX8_rate_106 rfl ?_
          refine s_iload_n (pc := 107) dX8_rate_107 rfl ?_
          obtain ⟨post, hct, H⟩ := H
          refine s_callV (pc := 108) (as := [jI x2]) (st := []) (by exact dX8_rate_108) mv_X8_238 ⟨rfl, rfl, Nat.le_of_ble_eq_true rfl, Nat.le_of_ble_eq_true rfl⟩ cSm_0 rfl rfl (Nat.le_of_ble_eq_true rfl) _ rfl hct (fun r14 h15 hp => ?_)
          obtain ⟨r14, rfl, hp⟩ := hp
          have H := H r14 h15 hp
          show WV _ _ _ _ 111 [jR 0, jI x1, jI x2] [jI r14] h15
          refine s_iload_n (pc := 111) dX8_rate_111 rfl ?_
          obtain ⟨k16, H⟩ := H
          refine s_iadd (pc := 112) dX8_rate_112 k16 ?_
          exact s_iret dX8_rate_113 rfl H
      · have H := H.2.2.2.2.2 hc
        refine s_aload_n (pc := 114) dX8_rate_114 rfl ?_
        refine s_dup (pc := 115) dX8_rate_115 rfl ?_
        refine s_getl (pc := 116) (x := h4.2 0) dX8_rate_116 fl_X8_223 cSm_0 rfl rfl ?_
        refine s_ldc2 (pc := 119) dX8_rate_119 kl_X8_245 ?_
        refine s_ladd (pc := 122) dX8_rate_122 ?_
        refine s_putl (pc := 123) dX8_rate_123 fp_X8_223 cSm_0 rfl (fun i hi => j_one_Sm i hi) ?_
        refine s_aload_n (pc := 126) dX8_rate_126 rfl ?_
        refine s_iload_n (pc := 127) dX8_rate_127 rfl ?_
        obtain ⟨post, hct, H⟩ := H
        refine s_callV (pc := 128) (as := [jI x2]) (st := []) (by exact dX8_rate_128) mv_X8_229 ⟨rfl, rfl, Nat.le_of_ble_eq_true rfl, Nat.le_of_ble_eq_true rfl⟩ cSm_0 rfl rfl (Nat.le_of_ble_eq_true rfl) _ rfl hct (fun r17 h18 hp => ?_)
        obtain ⟨r17, rfl, hp⟩ := hp
        have H := H r17 h18 hp
        show WV _ _ _ _ 131 [jR 0, jI x1, jI x2] [jI r17] h18
        refine s_aload_n (pc := 131) dX8_rate_131 rfl ?_
        refine s_aload_n (pc := 132) dX8_rate_132 rfl ?_
        refine s_iload_n (pc := 133) dX8_rate_133 rfl ?_
        obtain ⟨post, hct, H⟩ := H
        refine s_callV (pc := 134) (as := [jI x2]) (st := [jR 0, jI r17]) (by exact dX8_rate_134) mv_X8_121 ⟨rfl, rfl, Nat.le_of_ble_eq_true rfl, Nat.le_of_ble_eq_true rfl⟩ cSm_0 rfl rfl (Nat.le_of_ble_eq_true rfl) _ rfl hct (fun r19 h20 hp => ?_)
        obtain ⟨r19, rfl, hp⟩ := hp
        have H := H r19 h20 hp
        show WV _ _ _ _ 137 [jR 0, jI x1, jI x2] [jI r19, jR 0, jI r17] h20
        obtain ⟨post, hct, H⟩ := H
        refine s_callV (pc := 137) (as := [jI r19]) (st := [jI r17]) (by exact dX8_rate_137) mv_X8_148 ⟨rfl, rfl, Nat.le_of_ble_eq_true rfl, Nat.le_of_ble_eq_true rfl⟩ cSm_0 rfl rfl (Nat.le_of_ble_eq_true rfl) _ rfl hct (fun r21 h22 hp => ?_)
        obtain ⟨r21, rfl, hp⟩ := hp
        have H := H r21 h22 hp
        show WV _ _ _ _ 140 [jR 0, jI x1, jI x2] [jI r21, jI r17] h22
        refine s_aload_n (pc := 140) dX8_rate_140 rfl ?_
        refine s_aload_n (pc := 141) dX8_rate_141 rfl ?_
        refine s_iload_n (pc := 142) dX8_rate_142 rfl ?_
        obtain ⟨post, hct, H⟩ := H
        refine s_callV (pc := 143) (as := [jI x2]) (st := [jR 0, jI r21, jI r17]) (by exact dX8_rate_143) mv_X8_125 ⟨rfl, rfl, Nat.le_of_ble_eq_true rfl, Nat.le_of_ble_eq_true rfl⟩ cSm_0 rfl rfl (Nat.le_of_ble_eq_true rfl) _ rfl hct (fun r23 h24 hp => ?_)
        obtain ⟨r23, rfl, hp⟩ := hp
        have H := H r23 h24 hp
        show WV _ _ _ _ 146 [jR 0, jI x1, jI x2] [jI r23, jR 0, jI r21, jI r17] h24
        obtain ⟨post, hct, H⟩ := H
        refine s_callV (pc := 146) (as := [jI r23]) (st := [jI r21, jI r17]) (by exact dX8_rate_146) mv_X8_148 ⟨rfl, rfl, Nat.le_of_ble_eq_true rfl, Nat.le_of_ble_eq_true rfl⟩ cSm_0 rfl rfl (Nat.le_of_ble_eq_true rfl) _ rfl hct (fun r25 h26 hp => ?_)
        obtain ⟨r25, rfl, hp⟩ := hp
        have H := H r25 h26 hp
        show WV _ _ _ _ 149 [jR 0, jI x1, jI x2] [jI r25, jI r21, jI r17] h26
        obtain ⟨post, hct, H⟩ := H
        refine s_callS (pc := 149) (as := [jI r21, jI r25]) (st := [jI r17]) (by exact dX8_rate_149) ms_X8_213 ⟨rfl, rfl, Nat.le_of_ble_eq_true rfl, Nat.le_of_ble_eq_true rfl⟩ (Nat.le_of_ble_eq_true rfl) _ rfl hct (fun r27 h28 hp => ?_)
        obtain ⟨r27, rfl, hp⟩ := hp
        have H := H r27 h28 hp
        show WV _ _ _ _ 152 [jR 0, jI x1, jI x2] [jI r27, jI r17] h28
        obtain ⟨k29, H⟩ := H
        refine s_iadd (pc := 152) dX8_rate_152 k29 ?_
        exact s_iret dX8_rate_153 rfl H
    · have H := H.1 hc
      refine s_ldc (pc := 17) dX8_rate_17 kc_X8_234 (j_cst rfl) ?_
      exact s_iret dX8_rate_19 rfl H
theorem en_X8_copy_5_7 {x1 x3 : Int} {h : jH} {post : jQ} (k : ∀ G, WV Sm G M_X8_copy post 0 [jR 5, jI x1, jR 7, jI x3, jU] [] h) : CT Sm M_X8_copy [jR 5, jI x1, jR 7, jI x3] h post := CT.of (by decide +kernel) (by simp [j_un]) (Nat.le_of_ble_eq_true rfl) _ rfl k
set_option maxRecDepth 20000 in
theorem vc_X8_copy_5_7_0 {G : jG} {Q : jQ} {x1 x3 : Int} {h : jH}
    (H : WV Sm G M_X8_copy Q 3 [jR 5, jI x1, jR 7, jI x3, jI 0] [] h) :
    WV Sm G M_X8_copy Q 0 [jR 5, jI x1, jR 7, jI x3, jU] [] h := by
  refine s_iconst (pc := 0) dX8_copy_0 (j_cst rfl) ?_
  refine s_istore (pc := 1) (lv' := [jR 5, jI x1, jR 7, jI x3, jI 0]) dX8_copy_1 (by decide) rfl ?_
  exact H
set_option maxRecDepth 20000 in
theorem vc_X8_copy_5_7_3 {G : jG} {Q : jQ} {x1 x3 x4 : Int} {h : jH}
    (H : (28 ≤ x4 → Q none h) ∧ (¬ 28 ≤ x4 → (j_rg (x3 + x4)) ∧ ((j_rg (x1 + x4)) ∧ ((0 ≤ x1 + x4 ∧ x1 + x4 < 28) ∧ ((0 ≤ x3 + x4 ∧ x3 + x4 < 56) ∧ ((j_rg (x4 + 1)) ∧ (WV Sm G M_X8_copy Q 3 [jR 5, jI x1, jR 7, jI x3, jI (x4 + 1)] [] (j_up h 7 (Int.toNat (x3 + x4)) (h.1 5 (Int.toNat (x1 + x4))))))))))) :
    WV Sm G M_X8_copy Q 3 [jR 5, jI x1, jR 7, jI x3, jI x4] [] h := by
  refine s_iload (pc := 3) dX8_copy_3 rfl ?_
  refine s_bipush (pc := 5) dX8_copy_5 rfl (j_cst rfl) ?_
  refine s_icmp_ge (pc := 7) (tgt := 28) dX8_copy_7 (by decide) (fun hc => ?_) (fun hc => ?_)
  · have H := H.1 hc
    exact s_vret dX8_copy_28 rfl H
  · have H := H.2 hc
    refine s_aload_n (pc := 10) dX8_copy_10 rfl ?_
    refine s_iload_n (pc := 11) dX8_copy_11 rfl ?_
    refine s_iload (pc := 12) dX8_copy_12 rfl ?_
    obtain ⟨k1, H⟩ := H
    refine s_iadd (pc := 14) dX8_copy_14 k1 ?_
    refine s_aload_n (pc := 15) dX8_copy_15 rfl ?_
    refine s_iload_n (pc := 16) dX8_copy_16 rfl ?_
    refine s_iload (pc := 17) dX8_copy_17 rfl ?_
    obtain ⟨k2, H⟩ := H
    refine s_iadd (pc := 19) dX8_copy_19 k2 ?_
    obtain ⟨k3, H⟩ := H
    refine s_iald (pc := 20) (x := h.1 5 (Int.toNat (x1 + x4))) dX8_copy_20 cSm_5 k3 rfl ?_
    obtain ⟨k4, H⟩ := H
    refine s_iast (pc := 21) dX8_copy_21 cSm_7 k4 ?_
    obtain ⟨k5, H⟩ := H
    refine s_iinc (pc := 22) (lv' := [jR 5, jI x1, jR 7, jI x3, jI (x4 + 1)]) dX8_copy_22 rfl (by decide) k5 rfl ?_
    refine s_goto (pc := 25) (tgt := 3) dX8_copy_25 (by decide) ?_
    exact H
theorem en_X8_keep_0 {x1 : Int} {h : jH} {post : jQ} (k : ∀ G, WV Sm G M_X8_keep post 0 [jR 0, jI x1] [] h) : CT Sm M_X8_keep [jR 0, jI x1] h post := CT.of (by decide +kernel) (by simp [j_un]) (Nat.le_of_ble_eq_true rfl) _ rfl k
set_option maxRecDepth 20000 in
theorem vc_X8_keep_0_0 {G : jG} {Q : jQ} {x1 : Int} {h : jH}
    (H : ∃ post : Int → jH → Prop, CT Sm M_X8_in [jI x1, jI 0, jI 1] h (jPi post) ∧ ∀ (r1 : Int) (h2 : jH), post r1 h2 → ((r1 = 0 → Q (some (jI (-1))) h2) ∧ (¬ r1 = 0 → (j_rg (28 * x1)) ∧ (∃ post : jH → Prop, CT Sm M_X8_copy [jR 5, jI 0, jR 7, jI (28 * x1)] h2 (jPv post) ∧ ∀ (h5 : jH), post h5 → ((0 ≤ x1 ∧ x1 < 2) ∧ (Q (some (jI (h5.1 5 0))) (j_up h5 8 (Int.toNat x1) 1))))))) :
    WV Sm G M_X8_keep Q 0 [jR 0, jI x1] [] h := by
  refine s_iload_n (pc := 0) dX8_keep_0 rfl ?_
  refine s_iconst (pc := 1) dX8_keep_1 (j_cst rfl) ?_
  refine s_iconst (pc := 2) dX8_keep_2 (j_cst rfl) ?_
  obtain ⟨post, hct, H⟩ := H
  refine s_callS (pc := 3) (as := [jI x1, jI 0, jI 1]) (st := []) (by exact dX8_keep_3) ms_X8_63 ⟨rfl, rfl, Nat.le_of_ble_eq_true rfl, Nat.le_of_ble_eq_true rfl⟩ (Nat.le_of_ble_eq_true rfl) _ rfl hct (fun r1 h2 hp => ?_)
  obtain ⟨r1, rfl, hp⟩ := hp
  have H := H r1 h2 hp
  show WV _ _ _ _ 6 [jR 0, jI x1] [jI r1] h2
  refine s_if_ne (pc := 6) (tgt := 11) dX8_keep_6 (by decide) (fun hc => ?_) (fun hc => ?_)
  · have H := H.2 hc
    refine s_aload_n (pc := 11) dX8_keep_11 rfl ?_
    refine s_getr (pc := 12) dX8_keep_12 fl_X8_29 cSm_0 rfl ?_
    refine s_iconst (pc := 15) dX8_keep_15 (j_cst rfl) ?_
    refine s_aload_n (pc := 16) dX8_keep_16 rfl ?_
    refine s_getr (pc := 17) dX8_keep_17 fl_X8_35 cSm_0 rfl ?_
    refine s_bipush (pc := 20) dX8_keep_20 rfl (j_cst rfl) ?_
    refine s_iload_n (pc := 22) dX8_keep_22 rfl ?_
    obtain ⟨k3, H⟩ := H
    refine s_imul (pc := 23) dX8_keep_23 k3 ?_
    obtain ⟨post, hct, H⟩ := H
    refine s_callS (pc := 24) (as := [jR 5, jI 0, jR 7, jI (28 * x1)]) (st := []) (by exact dX8_keep_24) ms_X8_168 ⟨rfl, rfl, Nat.le_of_ble_eq_true rfl, Nat.le_of_ble_eq_true rfl⟩ (Nat.le_of_ble_eq_true rfl) _ rfl hct (fun r4 h5 hp => ?_)
    obtain ⟨rfl, hp⟩ := hp
    have H := H h5 hp
    show WV _ _ _ _ 27 [jR 0, jI x1] [] h5
    refine s_aload_n (pc := 27) dX8_keep_27 rfl ?_
    refine s_getr (pc := 28) dX8_keep_28 fl_X8_38 cSm_0 rfl ?_
    refine s_iload_n (pc := 31) dX8_keep_31 rfl ?_
    refine s_iconst (pc := 32) dX8_keep_32 (j_cst rfl) ?_
    obtain ⟨k6, H⟩ := H
    refine s_zast (pc := 33) dX8_keep_33 cSm_8 k6 (Or.inr rfl) ?_
    refine s_aload_n (pc := 34) dX8_keep_34 rfl ?_
    refine s_getr (pc := 35) dX8_keep_35 fl_X8_29 cSm_0 rfl ?_
    refine s_iconst (pc := 38) dX8_keep_38 (j_cst rfl) ?_
    refine s_iald (pc := 39) (x := h5.1 5 0) dX8_keep_39 cSm_5 ⟨by decide, by decide⟩ rfl ?_
    exact s_iret dX8_keep_40 rfl H
  · have H := H.1 hc
    refine s_iconst (pc := 9) dX8_keep_9 (j_cst rfl) ?_
    exact s_iret dX8_keep_10 rfl H
theorem en_X8_copy_7_5 {x1 x3 : Int} {h : jH} {post : jQ} (k : ∀ G, WV Sm G M_X8_copy post 0 [jR 7, jI x1, jR 5, jI x3, jU] [] h) : CT Sm M_X8_copy [jR 7, jI x1, jR 5, jI x3] h post := CT.of (by decide +kernel) (by simp [j_un]) (Nat.le_of_ble_eq_true rfl) _ rfl k
set_option maxRecDepth 20000 in
theorem vc_X8_copy_7_5_0 {G : jG} {Q : jQ} {x1 x3 : Int} {h : jH}
    (H : WV Sm G M_X8_copy Q 3 [jR 7, jI x1, jR 5, jI x3, jI 0] [] h) :
    WV Sm G M_X8_copy Q 0 [jR 7, jI x1, jR 5, jI x3, jU] [] h := by
  refine s_iconst (pc := 0) dX8_copy_0 (j_cst rfl) ?_
  refine s_istore (pc := 1) (lv' := [jR 7, jI x1, jR 5, jI x3, jI 0]) dX8_copy_1 (by decide) rfl ?_
  exact H
set_option maxRecDepth 20000 in
theorem vc_X8_copy_7_5_3 {G : jG} {Q : jQ} {x1 x3 x4 : Int} {h : jH}
    (H : (28 ≤ x4 → Q none h) ∧ (¬ 28 ≤ x4 → (j_rg (x3 + x4)) ∧ ((j_rg (x1 + x4)) ∧ ((0 ≤ x1 + x4 ∧ x1 + x4 < 56) ∧ ((0 ≤ x3 + x4 ∧ x3 + x4 < 28) ∧ ((j_rg (x4 + 1)) ∧ (WV Sm G M_X8_copy Q 3 [jR 7, jI x1, jR 5, jI x3, jI (x4 + 1)] [] (j_up h 5 (Int.toNat (x3 + x4)) (h.1 7 (Int.toNat (x1 + x4))))))))))) :
    WV Sm G M_X8_copy Q 3 [jR 7, jI x1, jR 5, jI x3, jI x4] [] h := by
  refine s_iload (pc := 3) dX8_copy_3 rfl ?_
  refine s_bipush (pc := 5) dX8_copy_5 rfl (j_cst rfl) ?_
  refine s_icmp_ge (pc := 7) (tgt := 28) dX8_copy_7 (by decide) (fun hc => ?_) (fun hc => ?_)
  · have H := H.1 hc
    exact s_vret dX8_copy_28 rfl H
  · have H := H.2 hc
    refine s_aload_n (pc := 10) dX8_copy_10 rfl ?_
    refine s_iload_n (pc := 11) dX8_copy_11 rfl ?_
    refine s_iload (pc := 12) dX8_copy_12 rfl ?_
    obtain ⟨k1, H⟩ := H
    refine s_iadd (pc := 14) dX8_copy_14 k1 ?_
    refine s_aload_n (pc := 15) dX8_copy_15 rfl ?_
    refine s_iload_n (pc := 16) dX8_copy_16 rfl ?_
    refine s_iload (pc := 17) dX8_copy_17 rfl ?_
    obtain ⟨k2, H⟩ := H
    refine s_iadd (pc := 19) dX8_copy_19 k2 ?_
    obtain ⟨k3, H⟩ := H
    refine s_iald (pc := 20) (x := h.1 7 (Int.toNat (x1 + x4))) dX8_copy_20 cSm_7 k3 rfl ?_
    obtain ⟨k4, H⟩ := H
    refine s_iast (pc := 21) dX8_copy_21 cSm_5 k4 ?_
    obtain ⟨k5, H⟩ := H
    refine s_iinc (pc := 22) (lv' := [jR 7, jI x1, jR 5, jI x3, jI (x4 + 1)]) dX8_copy_22 rfl (by decide) k5 rfl ?_
    refine s_goto (pc := 25) (tgt := 3) dX8_copy_25 (by decide) ?_
    exact H
theorem en_X8_back_0 {x1 : Int} {h : jH} {post : jQ} (k : ∀ G, WV Sm G M_X8_back post 0 [jR 0, jI x1] [] h) : CT Sm M_X8_back [jR 0, jI x1] h post := CT.of (by decide +kernel) (by simp [j_un]) (Nat.le_of_ble_eq_true rfl) _ rfl k
set_option maxRecDepth 20000 in
theorem vc_X8_back_0_0 {G : jG} {Q : jQ} {x1 : Int} {h : jH}
    (H : ∃ post : Int → jH → Prop, CT Sm M_X8_in [jI x1, jI 0, jI 1] h (jPi post) ∧ ∀ (r1 : Int) (h2 : jH), post r1 h2 → ((r1 = 0 → Q (some (jI (-1))) h2) ∧ (¬ r1 = 0 → (0 ≤ x1 ∧ x1 < 2) ∧ (((h2.1 8 (Int.toNat x1)) = 0 → Q (some (jI (-2))) h2) ∧ (¬ (h2.1 8 (Int.toNat x1)) = 0 → (j_rg (28 * x1)) ∧ (∃ post : jH → Prop, CT Sm M_X8_copy [jR 7, jI (28 * x1), jR 5, jI 0] h2 (jPv post) ∧ ∀ (h6 : jH), post h6 → (Q (some (jI (h6.1 5 0))) (j_up h6 0 22 0)))))))) :
    WV Sm G M_X8_back Q 0 [jR 0, jI x1] [] h := by
  refine s_iload_n (pc := 0) dX8_back_0 rfl ?_
  refine s_iconst (pc := 1) dX8_back_1 (j_cst rfl) ?_
  refine s_iconst (pc := 2) dX8_back_2 (j_cst rfl) ?_
  obtain ⟨post, hct, H⟩ := H
  refine s_callS (pc := 3) (as := [jI x1, jI 0, jI 1]) (st := []) (by exact dX8_back_3) ms_X8_63 ⟨rfl, rfl, Nat.le_of_ble_eq_true rfl, Nat.le_of_ble_eq_true rfl⟩ (Nat.le_of_ble_eq_true rfl) _ rfl hct (fun r1 h2 hp => ?_)
  obtain ⟨r1, rfl, hp⟩ := hp
  have H := H r1 h2 hp
  show WV _ _ _ _ 6 [jR 0, jI x1] [jI r1] h2
  refine s_if_ne (pc := 6) (tgt := 11) dX8_back_6 (by decide) (fun hc => ?_) (fun hc => ?_)
  · have H := H.2 hc
    refine s_aload_n (pc := 11) dX8_back_11 rfl ?_
    refine s_getr (pc := 12) dX8_back_12 fl_X8_38 cSm_0 rfl ?_
    refine s_iload_n (pc := 15) dX8_back_15 rfl ?_
    obtain ⟨k3, H⟩ := H
    refine s_zald (pc := 16) (x := h2.1 8 (Int.toNat x1)) dX8_back_16 cSm_8 k3 rfl ?_
    refine s_if_ne (pc := 17) (tgt := 23) dX8_back_17 (by decide) (fun hc => ?_) (fun hc => ?_)
    · have H := H.2 hc
      refine s_aload_n (pc := 23) dX8_back_23 rfl ?_
      refine s_getr (pc := 24) dX8_back_24 fl_X8_35 cSm_0 rfl ?_
      refine s_bipush (pc := 27) dX8_back_27 rfl (j_cst rfl) ?_
      refine s_iload_n (pc := 29) dX8_back_29 rfl ?_
      obtain ⟨k4, H⟩ := H
      refine s_imul (pc := 30) dX8_back_30 k4 ?_
      refine s_aload_n (pc := 31) dX8_back_31 rfl ?_
      refine s_getr (pc := 32) dX8_back_32 fl_X8_29 cSm_0 rfl ?_
      refine s_iconst (pc := 35) dX8_back_35 (j_cst rfl) ?_
      obtain ⟨post, hct, H⟩ := H
      refine s_callS (pc := 36) (as := [jR 7, jI (28 * x1), jR 5, jI 0]) (st := []) (by exact dX8_back_36) ms_X8_168 ⟨rfl, rfl, Nat.le_of_ble_eq_true rfl, Nat.le_of_ble_eq_true rfl⟩ (Nat.le_of_ble_eq_true rfl) _ rfl hct (fun r5 h6 hp => ?_)
      obtain ⟨rfl, hp⟩ := hp
      have H := H h6 hp
      show WV _ _ _ _ 39 [jR 0, jI x1] [] h6
      refine s_aload_n (pc := 39) dX8_back_39 rfl ?_
      refine s_iconst (pc := 40) dX8_back_40 (j_cst rfl) ?_
      refine s_puti (pc := 41) dX8_back_41 fp_X8_60 cSm_0 rfl ?_
      refine s_aload_n (pc := 44) dX8_back_44 rfl ?_
      refine s_getr (pc := 45) dX8_back_45 fl_X8_29 cSm_0 rfl ?_
      refine s_iconst (pc := 48) dX8_back_48 (j_cst rfl) ?_
      refine s_iald (pc := 49) (x := h6.1 5 0) dX8_back_49 cSm_5 ⟨by decide, by decide⟩ rfl ?_
      exact s_iret dX8_back_50 rfl H
    · have H := H.1 hc
      refine s_bipush (pc := 20) dX8_back_20 rfl (j_cst rfl) ?_
      exact s_iret dX8_back_22 rfl H
  · have H := H.1 hc
    refine s_iconst (pc := 9) dX8_back_9 (j_cst rfl) ?_
    exact s_iret dX8_back_10 rfl H
theorem en_X8_count_0 {x1 : Int} {h : jH} {post : jQ} (k : ∀ G, WV Sm G M_X8_count post 0 [jR 0, jI x1] [] h) : CT Sm M_X8_count [jR 0, jI x1] h post := CT.of (by decide +kernel) (by simp [j_un]) (Nat.le_of_ble_eq_true rfl) _ rfl k
set_option maxRecDepth 20000 in
theorem vc_X8_count_0_0 {G : jG} {Q : jQ} {x1 : Int} {h : jH}
    (H : (x1 = 0 → Q (some (jI (h.1 0 13))) h) ∧ (x1 = 1 → Q (some (jI (h.1 0 14))) h) ∧ (x1 = 2 → Q (some (jI (h.1 0 15))) h) ∧ (x1 = 3 → Q (some (jI (h.1 0 0))) h) ∧ (x1 < 0 ∨ 3 < x1 → Q (some (jI (-1))) h)) :
    WV Sm G M_X8_count Q 0 [jR 0, jI x1] [] h := by
  refine s_iload_n (pc := 0) dX8_count_0 rfl ?_
  refine s_table (pc := 1) dX8_count_1 (fun i => ([32, 37, 42, 47] : List Nat).getD i 0) 52 (by decide) (by decide) (by decide) (fun i hi hx => ?_) (fun hc => ?_)
  · rcases (show i = 0 ∨ i = 1 ∨ i = 2 ∨ i = 3 by have hi : i < 4 := hi; omega) with rfl | rfl | rfl | rfl
    · have H := H.1 (by simpa using hx)
      refine s_aload_n (pc := 32) dX8_count_32 rfl ?_
      refine s_geti (pc := 33) (x := h.1 0 13) dX8_count_33 fl_X8_19 cSm_0 rfl rfl ?_
      exact s_iret dX8_count_36 rfl H
    · have H := H.2.1 (by simpa using hx)
      refine s_aload_n (pc := 37) dX8_count_37 rfl ?_
      refine s_geti (pc := 38) (x := h.1 0 14) dX8_count_38 fl_X8_23 cSm_0 rfl rfl ?_
      exact s_iret dX8_count_41 rfl H
    · have H := H.2.2.1 (by simpa using hx)
      refine s_aload_n (pc := 42) dX8_count_42 rfl ?_
      refine s_geti (pc := 43) (x := h.1 0 15) dX8_count_43 fl_X8_57 cSm_0 rfl rfl ?_
      exact s_iret dX8_count_46 rfl H
    · have H := H.2.2.2.1 (by simpa using hx)
      refine s_aload_n (pc := 47) dX8_count_47 rfl ?_
      refine s_geti (pc := 48) (x := h.1 0 0) dX8_count_48 fl_X8_67 cSm_0 rfl rfl ?_
      exact s_iret dX8_count_51 rfl H
  · have H := H.2.2.2.2 hc
    refine s_iconst (pc := 52) dX8_count_52 (j_cst rfl) ?_
    exact s_iret dX8_count_53 rfl H
theorem en_X8_trace_0 {h : jH} {post : jQ} (k : ∀ G, WV Sm G M_X8_trace post 0 [jR 0] [] h) : CT Sm M_X8_trace [jR 0] h post := CT.of (by decide +kernel) (by simp [j_un]) (Nat.le_of_ble_eq_true rfl) _ rfl k
set_option maxRecDepth 20000 in
theorem vc_X8_trace_0_0 {G : jG} {Q : jQ} {h : jH}
    (H : Q (some (jL (h.2 0))) h) :
    WV Sm G M_X8_trace Q 0 [jR 0] [] h := by
  refine s_aload_n (pc := 0) dX8_trace_0 rfl ?_
  refine s_getl (pc := 1) (x := h.2 0) dX8_trace_1 fl_X8_223 cSm_0 rfl rfl ?_
  exact s_lret dX8_trace_4 rfl H
theorem en_X6_asAtFirst_0 {h : jH} {post : jQ} (k : ∀ G, WV St G M_X6_asAtFirst post 0 [jR 0, jU] [] h) : CT St M_X6_asAtFirst [jR 0] h post := CT.of (by decide +kernel) (by simp [j_un]) (Nat.le_of_ble_eq_true rfl) _ rfl k
set_option maxRecDepth 20000 in
theorem vc_X6_asAtFirst_0_0 {G : jG} {Q : jQ} {h : jH}
    (H : WV St G M_X6_asAtFirst Q 17 [jR 0, jI 0] [] (j_up (j_up (j_up h 0 0 2) 0 1 1) 0 2 0)) :
    WV St G M_X6_asAtFirst Q 0 [jR 0, jU] [] h := by
  refine s_aload_n (pc := 0) dX6_asAtFirst_0 rfl ?_
  refine s_iconst (pc := 1) dX6_asAtFirst_1 (j_cst rfl) ?_
  refine s_puti (pc := 2) dX6_asAtFirst_2 fp_X6_33 cSt_0 rfl ?_
  refine s_aload_n (pc := 5) dX6_asAtFirst_5 rfl ?_
  refine s_iconst (pc := 6) dX6_asAtFirst_6 (j_cst rfl) ?_
  refine s_puti (pc := 7) dX6_asAtFirst_7 fp_X6_37 cSt_0 rfl ?_
  refine s_aload_n (pc := 10) dX6_asAtFirst_10 rfl ?_
  refine s_iconst (pc := 11) dX6_asAtFirst_11 (j_cst rfl) ?_
  refine s_puti (pc := 12) dX6_asAtFirst_12 fp_X6_40 cSt_0 rfl ?_
  refine s_iconst (pc := 15) dX6_asAtFirst_15 (j_cst rfl) ?_
  refine s_istore_n (pc := 16) (lv' := [jR 0, jI 0]) dX6_asAtFirst_16 (by decide) rfl ?_
  exact H
set_option maxRecDepth 20000 in
theorem vc_X6_asAtFirst_0_17 {G : jG} {Q : jQ} {x1 : Int} {h : jH}
    (H : (6 ≤ x1 → Q none h) ∧ (¬ 6 ≤ x1 → (0 ≤ x1 ∧ x1 < 6) ∧ ((j_rg (x1 + 1)) ∧ (WV St G M_X6_asAtFirst Q 17 [jR 0, jI (x1 + 1)] [] (j_up h 1 (Int.toNat x1) x1))))) :
    WV St G M_X6_asAtFirst Q 17 [jR 0, jI x1] [] h := by
  refine s_iload_n (pc := 17) dX6_asAtFirst_17 rfl ?_
  refine s_bipush (pc := 18) dX6_asAtFirst_18 rfl (j_cst rfl) ?_
  refine s_icmp_ge (pc := 20) (tgt := 36) dX6_asAtFirst_20 (by decide) (fun hc => ?_) (fun hc => ?_)
  · have H := H.1 hc
    exact s_vret dX6_asAtFirst_36 rfl H
  · have H := H.2 hc
    refine s_aload_n (pc := 23) dX6_asAtFirst_23 rfl ?_
    refine s_getr (pc := 24) dX6_asAtFirst_24 fl_X6_9 cSt_0 rfl ?_
    refine s_iload_n (pc := 27) dX6_asAtFirst_27 rfl ?_
    refine s_iload_n (pc := 28) dX6_asAtFirst_28 rfl ?_
    obtain ⟨k1, H⟩ := H
    refine s_iast (pc := 29) dX6_asAtFirst_29 cSt_1 k1 ?_
    obtain ⟨k2, H⟩ := H
    refine s_iinc (pc := 30) (lv' := [jR 0, jI (x1 + 1)]) dX6_asAtFirst_30 rfl (by decide) k2 rfl ?_
    refine s_goto (pc := 33) (tgt := 17) dX6_asAtFirst_33 (by decide) ?_
    exact H
