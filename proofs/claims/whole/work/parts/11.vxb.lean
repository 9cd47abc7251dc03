theorem en_X3_add_22_17 {h : jH} {post : jQ} (k : ∀ G, WV Sx G M_X3_add post 0 [jR 22, jR 17] [] h) : CT Sx M_X3_add [jR 22, jR 17] h post := CT.of (by decide +kernel) (by simp [j_un]) (by decide) _ rfl k
set_option maxRecDepth 20000 in
theorem vc_X3_add_22_17_0 {G : jG} {Q : jQ} {h : jH}
    (H : (j_rg ((h.1 22 1) * 28)) ∧ (∃ post : jH → Prop, CT Sx M_X2_save [jR 17, jR 23, jI ((h.1 22 1) * 28)] h (jPv post) ∧ ∀ (h3 : jH), post h3 → ((j_rg ((h3.1 22 1) + 1)) ∧ ((j_rg ((h3.1 22 2) + 1)) ∧ (Q none (j_up (j_up h3 22 1 (Int.tmod ((h3.1 22 1) + 1) 10)) 22 2 (min 10 ((h3.1 22 2) + 1)))))))) :
    WV Sx G M_X3_add Q 0 [jR 22, jR 17] [] h := by
  refine s_aload_n dX3_add_0 rfl ?_
  refine s_aload_n dX3_add_1 rfl ?_
  refine s_getr dX3_add_2 fl_X3_11 rfl rfl ?_
  refine s_aload_n dX3_add_5 rfl ?_
  refine s_geti (x := h.1 22 1) dX3_add_6 fl_X3_15 rfl rfl rfl ?_
  refine s_bipush dX3_add_9 rfl (j_cst rfl) ?_
  obtain ⟨k1, H⟩ := H
  refine s_imul dX3_add_11 k1 ?_
  obtain ⟨post, hct, H⟩ := H
  refine s_callV (as := [jR 23, jI ((h.1 22 1) * 28)]) (st := []) dX3_add_12 mv_X3_22 ⟨rfl, rfl, by decide, by decide⟩ rfl rfl rfl (by decide) _ rfl hct (fun r2 h3 hp => ?_)
  obtain ⟨rfl, hp⟩ := hp
  have H := H h3 hp
  show WV _ _ _ _ 15 [jR 22, jR 17] [] h3
  refine s_aload_n dX3_add_15 rfl ?_
  refine s_aload_n dX3_add_16 rfl ?_
  refine s_geti (x := h3.1 22 1) dX3_add_17 fl_X3_15 rfl rfl rfl ?_
  refine s_iconst dX3_add_20 (j_cst rfl) ?_
  obtain ⟨k4, H⟩ := H
  refine s_iadd dX3_add_21 k4 ?_
  refine s_bipush dX3_add_22 rfl (j_cst rfl) ?_
  refine s_irem dX3_add_24 (by decide) ?_
  refine s_puti dX3_add_25 fp_X3_15 rfl rfl ?_
  refine s_aload_n dX3_add_28 rfl ?_
  refine s_bipush dX3_add_29 rfl (j_cst rfl) ?_
  refine s_aload_n dX3_add_31 rfl ?_
  refine s_geti (x := h3.1 22 2) dX3_add_32 fl_X3_19 rfl rfl rfl ?_
  refine s_iconst dX3_add_35 (j_cst rfl) ?_
  obtain ⟨k5, H⟩ := H
  refine s_iadd dX3_add_36 k5 ?_
  refine s_min dX3_add_37 mm_X3_26 ⟨by decide, by decide⟩ ?_
  refine s_puti dX3_add_40 fp_X3_19 rfl rfl ?_
  exact s_vret dX3_add_43 rfl H
theorem en_X7_minute_0 {h : jH} {post : jQ} (k : ∀ G, WV Sx G M_X7_minute post 0 [jR 0] [] h) : CT Sx M_X7_minute [jR 0] h post := CT.of (by decide +kernel) (by simp [j_un]) (by decide) _ rfl k
set_option maxRecDepth 20000 in
theorem vc_X7_minute_0_0 {G : jG} {Q : jQ} {h : jH}
    (H : ((h.1 17 1) < 99 → ∃ post : jH → Prop, CT Sx M_X3_add [jR 22, jR 17] h (jPv post) ∧ ∀ (h2 : jH), post h2 → (∃ post : jH → Prop, CT Sx M_X2_passMinute [jR 17] h2 (jPv post) ∧ ∀ (h4 : jH), post h4 → (Q (some (jI (h4.1 17 1))) h4))) ∧ (¬ (h.1 17 1) < 99 → Q (some (jI (-2))) h)) :
    WV Sx G M_X7_minute Q 0 [jR 0] [] h := by
  refine s_aload_n dX7_minute_0 rfl ?_
  refine s_getr dX7_minute_1 fl_X7_34 rfl rfl ?_
  refine s_geti (x := h.1 17 1) dX7_minute_4 fl_X7_134 rfl rfl rfl ?_
  refine s_bipush dX7_minute_7 rfl (j_cst rfl) ?_
  refine s_icmp_lt (tgt := 15) dX7_minute_9 (by decide) (fun hc => ?_) (fun hc => ?_)
  · have H := H.1 hc
    refine s_aload_n dX7_minute_15 rfl ?_
    refine s_getr dX7_minute_16 fl_X7_41 rfl rfl ?_
    refine s_aload_n dX7_minute_19 rfl ?_
    refine s_getr dX7_minute_20 fl_X7_34 rfl rfl ?_
    obtain ⟨post, hct, H⟩ := H
    refine s_callV (as := [jR 17]) (st := []) dX7_minute_23 mv_X7_158 ⟨rfl, rfl, by decide, by decide⟩ rfl rfl rfl (by decide) _ rfl hct (fun r1 h2 hp => ?_)
    obtain ⟨rfl, hp⟩ := hp
    have H := H h2 hp
    show WV _ _ _ _ 26 [jR 0] [] h2
    refine s_aload_n dX7_minute_26 rfl ?_
    refine s_getr dX7_minute_27 fl_X7_34 rfl rfl ?_
    obtain ⟨post, hct, H⟩ := H
    refine s_callV (as := []) (st := []) dX7_minute_30 mv_X7_162 ⟨rfl, rfl, by decide, by decide⟩ rfl rfl rfl (by decide) _ rfl hct (fun r3 h4 hp => ?_)
    obtain ⟨rfl, hp⟩ := hp
    have H := H h4 hp
    show WV _ _ _ _ 33 [jR 0] [] h4
    refine s_aload_n dX7_minute_33 rfl ?_
    refine s_getr dX7_minute_34 fl_X7_34 rfl rfl ?_
    refine s_geti (x := h4.1 17 1) dX7_minute_37 fl_X7_134 rfl rfl rfl ?_
    exact s_iret dX7_minute_40 rfl H
  · have H := H.2 hc
    refine s_bipush dX7_minute_12 rfl (j_cst rfl) ?_
    exact s_iret dX7_minute_14 rfl H
theorem en_X2_linesFree_17 {x1 x2 : Int} {h : jH} {post : jQ} (k : ∀ G, WV Sx G M_X2_linesFree post 0 [jR 17, jI x1, jI x2, jU] [] h) : CT Sx M_X2_linesFree [jR 17, jI x1, jI x2] h post := CT.of (by decide +kernel) (by simp [j_un]) (by decide) _ rfl k
set_option maxRecDepth 20000 in
theorem vc_X2_linesFree_17_0 {G : jG} {Q : jQ} {x1 x2 : Int} {h : jH}
    (H : WV Sx G M_X2_linesFree Q 2 [jR 17, jI x1, jI x2, jI 0] [] h) :
    WV Sx G M_X2_linesFree Q 0 [jR 17, jI x1, jI x2, jU] [] h := by
  refine s_iconst dX2_linesFree_0 (j_cst rfl) ?_
  refine s_istore_n (lv' := [jR 17, jI x1, jI x2, jI 0]) dX2_linesFree_1 (by decide) rfl ?_
  exact H
set_option maxRecDepth 20000 in
theorem vc_X2_linesFree_17_2 {G : jG} {Q : jQ} {x1 x2 x3 : Int} {h : jH}
    (H : ((h.1 2 2) ≤ x3 → Q (some (jI 1)) h) ∧ (¬ (h.1 2 2) ≤ x3 → ((b_and (b_shr x2 x3) 1) = 1 → ∃ post : Int → jH → Prop, CT Sx M_X6_shareLine [jR 2, jI x1, jI x3] h (jPi post) ∧ ∀ (r2 : Int) (h3 : jH), post r2 h3 → ((r2 = 0 → (j_rg (x3 + 1)) ∧ (WV Sx G M_X2_linesFree Q 2 [jR 17, jI x1, jI x2, jI (x3 + 1)] [] h3)) ∧ (¬ r2 = 0 → Q (some (jI 0)) h3))) ∧ (¬ (b_and (b_shr x2 x3) 1) = 1 → (j_rg (x3 + 1)) ∧ (WV Sx G M_X2_linesFree Q 2 [jR 17, jI x1, jI x2, jI (x3 + 1)] [] h)))) :
    WV Sx G M_X2_linesFree Q 2 [jR 17, jI x1, jI x2, jI x3] [] h := by
  refine s_iload_n dX2_linesFree_2 rfl ?_
  refine s_aload_n dX2_linesFree_3 rfl ?_
  refine s_getr dX2_linesFree_4 fl_X2_24 rfl rfl ?_
  refine s_geti (x := h.1 2 2) dX2_linesFree_7 fl_X2_44 rfl rfl rfl ?_
  refine s_icmp_ge (tgt := 42) dX2_linesFree_10 (by decide) (fun hc => ?_) (fun hc => ?_)
  · have H := H.1 hc
    refine s_iconst dX2_linesFree_42 (j_cst rfl) ?_
    exact s_zret dX2_linesFree_43 rfl (Or.inr rfl) H
  · have H := H.2 hc
    refine s_iload_n dX2_linesFree_13 rfl ?_
    refine s_iload_n dX2_linesFree_14 rfl ?_
    refine s_ishr dX2_linesFree_15 ?_
    refine s_iconst dX2_linesFree_16 (j_cst rfl) ?_
    refine s_iand dX2_linesFree_17 ?_
    refine s_iconst dX2_linesFree_18 (j_cst rfl) ?_
    refine s_icmp_ne (tgt := 36) dX2_linesFree_19 (by decide) (fun hc => ?_) (fun hc => ?_)
    · have H := H.2 hc
      obtain ⟨k1, H⟩ := H
      refine s_iinc (lv' := [jR 17, jI x1, jI x2, jI (x3 + 1)]) dX2_linesFree_36 rfl (by decide) k1 rfl ?_
      refine s_goto (tgt := 2) dX2_linesFree_39 (by decide) ?_
      exact H
    · have H := H.1 hc
      refine s_aload_n dX2_linesFree_22 rfl ?_
      refine s_getr dX2_linesFree_23 fl_X2_24 rfl rfl ?_
      refine s_iload_n dX2_linesFree_26 rfl ?_
      refine s_iload_n dX2_linesFree_27 rfl ?_
      obtain ⟨post, hct, H⟩ := H
      refine s_callV (as := [jI x1, jI x3]) (st := []) dX2_linesFree_28 mv_X2_56 ⟨rfl, rfl, by decide, by decide⟩ rfl rfl rfl (by decide) _ rfl hct (fun r2 h3 hp => ?_)
      obtain ⟨r2, rfl, hp⟩ := hp
      have H := H r2 h3 hp
      show WV _ _ _ _ 31 [jR 17, jI x1, jI x2, jI x3] [jI r2] h3
      refine s_if_eq (tgt := 36) dX2_linesFree_31 (by decide) (fun hc => ?_) (fun hc => ?_)
      · have H := H.1 hc
        obtain ⟨k4, H⟩ := H
        refine s_iinc (lv' := [jR 17, jI x1, jI x2, jI (x3 + 1)]) dX2_linesFree_36 rfl (by decide) k4 rfl ?_
        refine s_goto (tgt := 2) dX2_linesFree_39 (by decide) ?_
        exact H
      · have H := H.2 hc
        refine s_iconst dX2_linesFree_34 (j_cst rfl) ?_
        exact s_zret dX2_linesFree_35 rfl (Or.inl rfl) H
theorem en_X2_hasRoom_17 {x1 x2 x3 : Int} {h : jH} {post : jQ} (k : ∀ G, WV Sx G M_X2_hasRoom post 0 [jR 17, jI x1, jI x2, jI x3] [] h) : CT Sx M_X2_hasRoom [jR 17, jI x1, jI x2, jI x3] h post := CT.of (by decide +kernel) (by simp [j_un]) (by decide) _ rfl k
set_option maxRecDepth 20000 in
theorem vc_X2_hasRoom_17_0 {G : jG} {Q : jQ} {x1 x2 x3 : Int} {h : jH}
    (H : ∃ post : Int → jH → Prop, CT Sx M_J6_bitCount_0f7a4 [jI x2] h (jPi post) ∧ ∀ (r1 : Int) (h2 : jH), post r1 h2 → ((x3 ≤ r1 → Q (some (jI 0)) h2) ∧ (¬ x3 ≤ r1 → ∃ post : Int → jH → Prop, CT Sx M_X2_linesFree [jR 17, jI x1, jI x2] h2 (jPi post) ∧ ∀ (r3 : Int) (h4 : jH), post r3 h4 → ((r3 = 0 → Q (some (jI 0)) h4) ∧ (¬ r3 = 0 → Q (some (jI 1)) h4))))) :
    WV Sx G M_X2_hasRoom Q 0 [jR 17, jI x1, jI x2, jI x3] [] h := by
  refine s_iload_n dX2_hasRoom_0 rfl ?_
  obtain ⟨post, hct, H⟩ := H
  refine s_callS (as := [jI x2]) (st := []) dX2_hasRoom_1 ms_X2_60 ⟨rfl, rfl, by decide, by decide⟩ (by decide) _ rfl hct (fun r1 h2 hp => ?_)
  obtain ⟨r1, rfl, hp⟩ := hp
  have H := H r1 h2 hp
  show WV _ _ _ _ 4 [jR 17, jI x1, jI x2, jI x3] [jI r1] h2
  refine s_iload_n dX2_hasRoom_4 rfl ?_
  refine s_icmp_ge (tgt := 21) dX2_hasRoom_5 (by decide) (fun hc => ?_) (fun hc => ?_)
  · have H := H.1 hc
    refine s_iconst dX2_hasRoom_21 (j_cst rfl) ?_
    exact s_zret dX2_hasRoom_22 rfl (Or.inl rfl) H
  · have H := H.2 hc
    refine s_aload_n dX2_hasRoom_8 rfl ?_
    refine s_iload_n dX2_hasRoom_9 rfl ?_
    refine s_iload_n dX2_hasRoom_10 rfl ?_
    obtain ⟨post, hct, H⟩ := H
    refine s_callV (as := [jI x1, jI x2]) (st := []) dX2_hasRoom_11 mv_X2_66 ⟨rfl, rfl, by decide, by decide⟩ rfl rfl rfl (by decide) _ rfl hct (fun r3 h4 hp => ?_)
    obtain ⟨r3, rfl, hp⟩ := hp
    have H := H r3 h4 hp
    show WV _ _ _ _ 14 [jR 17, jI x1, jI x2, jI x3] [jI r3] h4
    refine s_if_eq (tgt := 21) dX2_hasRoom_14 (by decide) (fun hc => ?_) (fun hc => ?_)
    · have H := H.1 hc
      refine s_iconst dX2_hasRoom_21 (j_cst rfl) ?_
      exact s_zret dX2_hasRoom_22 rfl (Or.inl rfl) H
    · have H := H.2 hc
      refine s_iconst dX2_hasRoom_17 (j_cst rfl) ?_
      refine s_goto (tgt := 22) dX2_hasRoom_18 (by decide) ?_
      exact s_zret dX2_hasRoom_22 rfl (Or.inr rfl) H
theorem en_X2_canBePlugged_17 {x1 x2 : Int} {h : jH} {post : jQ} (k : ∀ G, WV Sx G M_X2_canBePlugged post 0 [jR 17, jI x1, jI x2] [] h) : CT Sx M_X2_canBePlugged [jR 17, jI x1, jI x2] h post := CT.of (by decide +kernel) (by simp [j_un]) (by decide) _ rfl k
set_option maxRecDepth 20000 in
theorem vc_X2_canBePlugged_17_0 {G : jG} {Q : jQ} {x1 x2 : Int} {h : jH}
    (H : (0 ≤ x1 ∧ x1 < 7) ∧ (((h.1 19 (Int.toNat x1)) = 1 → ∃ post : Int → jH → Prop, CT Sx M_X2_those [jR 17, jI 2] h (jPi post) ∧ ∀ (r2 : Int) (h3 : jH), post r2 h3 → (∃ post : Int → jH → Prop, CT Sx M_X2_hasRoom [jR 17, jI x1, jI r2, jI x2] h3 (jPi post) ∧ ∀ (r4 : Int) (h5 : jH), post r4 h5 → ((r4 = 0 → Q (some (jI 0)) h5) ∧ (¬ r4 = 0 → Q (some (jI 1)) h5)))) ∧ (¬ (h.1 19 (Int.toNat x1)) = 1 → Q (some (jI 0)) h))) :
    WV Sx G M_X2_canBePlugged Q 0 [jR 17, jI x1, jI x2] [] h := by
  refine s_aload_n dX2_canBePlugged_0 rfl ?_
  refine s_getr dX2_canBePlugged_1 fl_X2_15 rfl rfl ?_
  refine s_iload_n dX2_canBePlugged_4 rfl ?_
  obtain ⟨k1, H⟩ := H
  refine s_iald (x := h.1 19 (Int.toNat x1)) dX2_canBePlugged_5 rfl k1 rfl ?_
  refine s_iconst dX2_canBePlugged_6 (j_cst rfl) ?_
  refine s_icmp_ne (tgt := 28) dX2_canBePlugged_7 (by decide) (fun hc => ?_) (fun hc => ?_)
  · have H := H.2 hc
    refine s_iconst dX2_canBePlugged_28 (j_cst rfl) ?_
    exact s_zret dX2_canBePlugged_29 rfl (Or.inl rfl) H
  · have H := H.1 hc
    refine s_aload_n dX2_canBePlugged_10 rfl ?_
    refine s_iload_n dX2_canBePlugged_11 rfl ?_
    refine s_aload_n dX2_canBePlugged_12 rfl ?_
    refine s_iconst dX2_canBePlugged_13 (j_cst rfl) ?_
    obtain ⟨post, hct, H⟩ := H
    refine s_callV (as := [jI 2]) (st := [jI x1, jR 17]) dX2_canBePlugged_14 mv_X2_69 ⟨rfl, rfl, by decide, by decide⟩ rfl rfl rfl (by decide) _ rfl hct (fun r2 h3 hp => ?_)
    obtain ⟨r2, rfl, hp⟩ := hp
    have H := H r2 h3 hp
    show WV _ _ _ _ 17 [jR 17, jI x1, jI x2] [jI r2, jI x1, jR 17] h3
    refine s_iload_n dX2_canBePlugged_17 rfl ?_
    obtain ⟨post, hct, H⟩ := H
    refine s_callV (as := [jI x1, jI r2, jI x2]) (st := []) dX2_canBePlugged_18 mv_X2_72 ⟨rfl, rfl, by decide, by decide⟩ rfl rfl rfl (by decide) _ rfl hct (fun r4 h5 hp => ?_)
    obtain ⟨r4, rfl, hp⟩ := hp
    have H := H r4 h5 hp
    show WV _ _ _ _ 21 [jR 17, jI x1, jI x2] [jI r4] h5
    refine s_if_eq (tgt := 28) dX2_canBePlugged_21 (by decide) (fun hc => ?_) (fun hc => ?_)
    · have H := H.1 hc
      refine s_iconst dX2_canBePlugged_28 (j_cst rfl) ?_
      exact s_zret dX2_canBePlugged_29 rfl (Or.inl rfl) H
    · have H := H.2 hc
      refine s_iconst dX2_canBePlugged_24 (j_cst rfl) ?_
      refine s_goto (tgt := 29) dX2_canBePlugged_25 (by decide) ?_
      exact s_zret dX2_canBePlugged_29 rfl (Or.inr rfl) H
theorem en_X2_plug_17 {x1 : Int} {h : jH} {post : jQ} (k : ∀ G, WV Sx G M_X2_plug post 0 [jR 17, jI x1] [] h) : CT Sx M_X2_plug [jR 17, jI x1] h post := CT.of (by decide +kernel) (by simp [j_un]) (by decide) _ rfl k
set_option maxRecDepth 20000 in
theorem vc_X2_plug_17_0 {G : jG} {Q : jQ} {x1 : Int} {h : jH}
    (H : (0 ≤ x1 ∧ x1 < 7) ∧ (Q none (j_up (j_up h 19 (Int.toNat x1) 2) 20 (Int.toNat x1) (h.1 7 (Int.toNat x1))))) :
    WV Sx G M_X2_plug Q 0 [jR 17, jI x1] [] h := by
  refine s_aload_n dX2_plug_0 rfl ?_
  refine s_getr dX2_plug_1 fl_X2_15 rfl rfl ?_
  refine s_iload_n dX2_plug_4 rfl ?_
  refine s_iconst dX2_plug_5 (j_cst rfl) ?_
  obtain ⟨k1, H⟩ := H
  refine s_iast dX2_plug_6 rfl k1 ?_
  refine s_aload_n dX2_plug_7 rfl ?_
  refine s_getr dX2_plug_8 fl_X2_18 rfl rfl ?_
  refine s_iload_n dX2_plug_11 rfl ?_
  refine s_aload_n dX2_plug_12 rfl ?_
  refine s_getr dX2_plug_13 fl_X2_24 rfl rfl ?_
  refine s_getr dX2_plug_16 fl_X2_76 rfl rfl ?_
  refine s_iload_n dX2_plug_19 rfl ?_
  refine s_iald (x := h.1 7 (Int.toNat x1)) dX2_plug_20 rfl k1 rfl ?_
  refine s_iast dX2_plug_21 rfl k1 ?_
  exact s_vret dX2_plug_22 rfl H
theorem en_X7_plugs_0 {x1 : Int} {h : jH} {post : jQ} (k : ∀ G, WV Sx G M_X7_plugs post 0 [jR 0, jI x1] [] h) : CT Sx M_X7_plugs [jR 0, jI x1] h post := CT.of (by decide +kernel) (by simp [j_un]) (by decide) _ rfl k
set_option maxRecDepth 20000 in
theorem vc_X7_plugs_0_0 {G : jG} {Q : jQ} {x1 : Int} {h : jH}
    (H : ∃ post : Int → jH → Prop, CT Sx M_X6_hasCall [jR 2, jI x1] h (jPi post) ∧ ∀ (r1 : Int) (h2 : jH), post r1 h2 → ((r1 = 0 → Q (some (jI (-1))) h2) ∧ (¬ r1 = 0 → ∃ post : Int → jH → Prop, CT Sx M_X2_canBePlugged [jR 17, jI x1, jI (h2.1 2 1)] h2 (jPi post) ∧ ∀ (r3 : Int) (h4 : jH), post r3 h4 → ((r3 = 0 → Q (some (jI (-2))) h4) ∧ (¬ r3 = 0 → ∃ post : jH → Prop, CT Sx M_X3_add [jR 22, jR 17] h4 (jPv post) ∧ ∀ (h6 : jH), post h6 → (∃ post : jH → Prop, CT Sx M_X2_plug [jR 17, jI x1] h6 (jPv post) ∧ ∀ (h8 : jH), post h8 → (∃ post : Int → jH → Prop, CT Sx M_X7_freeCords [jR 0] h8 (jPi post) ∧ ∀ (r9 : Int) (h10 : jH), post r9 h10 → (Q (some (jI r9)) h10)))))))) :
    WV Sx G M_X7_plugs Q 0 [jR 0, jI x1] [] h := by
  refine s_aload_n dX7_plugs_0 rfl ?_
  refine s_getr dX7_plugs_1 fl_X7_16 rfl rfl ?_
  refine s_iload_n dX7_plugs_4 rfl ?_
  obtain ⟨post, hct, H⟩ := H
  refine s_callV (as := [jI x1]) (st := []) dX7_plugs_5 mv_X7_107 ⟨rfl, rfl, by decide, by decide⟩ rfl rfl rfl (by decide) _ rfl hct (fun r1 h2 hp => ?_)
  obtain ⟨r1, rfl, hp⟩ := hp
  have H := H r1 h2 hp
  show WV _ _ _ _ 8 [jR 0, jI x1] [jI r1] h2
  refine s_if_ne (tgt := 13) dX7_plugs_8 (by decide) (fun hc => ?_) (fun hc => ?_)
  · have H := H.2 hc
    refine s_aload_n dX7_plugs_13 rfl ?_
    refine s_getr dX7_plugs_14 fl_X7_34 rfl rfl ?_
    refine s_iload_n dX7_plugs_17 rfl ?_
    refine s_aload_n dX7_plugs_18 rfl ?_
    refine s_getr dX7_plugs_19 fl_X7_16 rfl rfl ?_
    refine s_geti (x := h2.1 2 1) dX7_plugs_22 fl_X7_150 rfl rfl rfl ?_
    obtain ⟨post, hct, H⟩ := H
    refine s_callV (as := [jI x1, jI (h2.1 2 1)]) (st := []) dX7_plugs_25 mv_X7_165 ⟨rfl, rfl, by decide, by decide⟩ rfl rfl rfl (by decide) _ rfl hct (fun r3 h4 hp => ?_)
    obtain ⟨r3, rfl, hp⟩ := hp
    have H := H r3 h4 hp
    show WV _ _ _ _ 28 [jR 0, jI x1] [jI r3] h4
    refine s_if_ne (tgt := 34) dX7_plugs_28 (by decide) (fun hc => ?_) (fun hc => ?_)
    · have H := H.2 hc
      refine s_aload_n dX7_plugs_34 rfl ?_
      refine s_getr dX7_plugs_35 fl_X7_41 rfl rfl ?_
      refine s_aload_n dX7_plugs_38 rfl ?_
      refine s_getr dX7_plugs_39 fl_X7_34 rfl rfl ?_
      obtain ⟨post, hct, H⟩ := H
      refine s_callV (as := [jR 17]) (st := []) dX7_plugs_42 mv_X7_158 ⟨rfl, rfl, by decide, by decide⟩ rfl rfl rfl (by decide) _ rfl hct (fun r5 h6 hp => ?_)
      obtain ⟨rfl, hp⟩ := hp
      have H := H h6 hp
      show WV _ _ _ _ 45 [jR 0, jI x1] [] h6
      refine s_aload_n dX7_plugs_45 rfl ?_
      refine s_getr dX7_plugs_46 fl_X7_34 rfl rfl ?_
      refine s_iload_n dX7_plugs_49 rfl ?_
      obtain ⟨post, hct, H⟩ := H
      refine s_callV (as := [jI x1]) (st := []) dX7_plugs_50 mv_X7_169 ⟨rfl, rfl, by decide, by decide⟩ rfl rfl rfl (by decide) _ rfl hct (fun r7 h8 hp => ?_)
      obtain ⟨rfl, hp⟩ := hp
      have H := H h8 hp
      show WV _ _ _ _ 53 [jR 0, jI x1] [] h8
      refine s_aload_n dX7_plugs_53 rfl ?_
      obtain ⟨post, hct, H⟩ := H
      refine s_callV (as := []) (st := []) dX7_plugs_54 mv_X7_140 ⟨rfl, rfl, by decide, by decide⟩ rfl rfl rfl (by decide) _ rfl hct (fun r9 h10 hp => ?_)
      obtain ⟨r9, rfl, hp⟩ := hp
      have H := H r9 h10 hp
      show WV _ _ _ _ 57 [jR 0, jI x1] [jI r9] h10
      exact s_iret dX7_plugs_57 rfl H
    · have H := H.1 hc
      refine s_bipush dX7_plugs_31 rfl (j_cst rfl) ?_
      exact s_iret dX7_plugs_33 rfl H
  · have H := H.1 hc
    refine s_iconst dX7_plugs_11 (j_cst rfl) ?_
    exact s_iret dX7_plugs_12 rfl H
theorem en_X2_pull_17 {x1 : Int} {h : jH} {post : jQ} (k : ∀ G, WV Sx G M_X2_pull post 0 [jR 17, jI x1] [] h) : CT Sx M_X2_pull [jR 17, jI x1] h post := CT.of (by decide +kernel) (by simp [j_un]) (by decide) _ rfl k
set_option maxRecDepth 20000 in
theorem vc_X2_pull_17_0 {G : jG} {Q : jQ} {x1 : Int} {h : jH}
    (H : (0 ≤ x1 ∧ x1 < 7) ∧ (Q none (j_up (j_up h 19 (Int.toNat x1) 4) 20 (Int.toNat x1) 0))) :
    WV Sx G M_X2_pull Q 0 [jR 17, jI x1] [] h := by
  refine s_aload_n dX2_pull_0 rfl ?_
  refine s_getr dX2_pull_1 fl_X2_15 rfl rfl ?_
  refine s_iload_n dX2_pull_4 rfl ?_
  refine s_iconst dX2_pull_5 (j_cst rfl) ?_
  obtain ⟨k1, H⟩ := H
  refine s_iast dX2_pull_6 rfl k1 ?_
  refine s_aload_n dX2_pull_7 rfl ?_
  refine s_getr dX2_pull_8 fl_X2_18 rfl rfl ?_
  refine s_iload_n dX2_pull_11 rfl ?_
  refine s_iconst dX2_pull_12 (j_cst rfl) ?_
  refine s_iast dX2_pull_13 rfl k1 ?_
  exact s_vret dX2_pull_14 rfl H
theorem en_X7_pulls_0 {x1 : Int} {h : jH} {post : jQ} (k : ∀ G, WV Sx G M_X7_pulls post 0 [jR 0, jI x1, jU] [] h) : CT Sx M_X7_pulls [jR 0, jI x1] h post := CT.of (by decide +kernel) (by simp [j_un]) (by decide) _ rfl k
set_option maxRecDepth 20000 in
theorem vc_X7_pulls_0_0 {G : jG} {Q : jQ} {x1 : Int} {h : jH}
    (H : ∃ post : Int → jH → Prop, CT Sx M_X6_hasCall [jR 2, jI x1] h (jPi post) ∧ ∀ (r1 : Int) (h2 : jH), post r1 h2 → ((r1 = 0 → Q (some (jI (-1))) h2) ∧ (¬ r1 = 0 → (0 ≤ x1 ∧ x1 < 7) ∧ (((h2.1 19 (Int.toNat x1)) = 2 → ∃ post : jH → Prop, CT Sx M_X3_add [jR 22, jR 17] h2 (jPv post) ∧ ∀ (h5 : jH), post h5 → (∃ post : jH → Prop, CT Sx M_X2_pull [jR 17, jI x1] h5 (jPv post) ∧ ∀ (h7 : jH), post h7 → (Q (some (jI (h2.1 20 (Int.toNat x1)))) h7))) ∧ (¬ (h2.1 19 (Int.toNat x1)) = 2 → Q (some (jI (-2))) h2))))) :
    WV Sx G M_X7_pulls Q 0 [jR 0, jI x1, jU] [] h := by
  refine s_aload_n dX7_pulls_0 rfl ?_
  refine s_getr dX7_pulls_1 fl_X7_16 rfl rfl ?_
  refine s_iload_n dX7_pulls_4 rfl ?_
  obtain ⟨post, hct, H⟩ := H
  refine s_callV (as := [jI x1]) (st := []) dX7_pulls_5 mv_X7_107 ⟨rfl, rfl, by decide, by decide⟩ rfl rfl rfl (by decide) _ rfl hct (fun r1 h2 hp => ?_)
  obtain ⟨r1, rfl, hp⟩ := hp
  have H := H r1 h2 hp
  show WV _ _ _ _ 8 [jR 0, jI x1, jU] [jI r1] h2
  refine s_if_ne (tgt := 13) dX7_pulls_8 (by decide) (fun hc => ?_) (fun hc => ?_)
  · have H := H.2 hc
    refine s_aload_n dX7_pulls_13 rfl ?_
    refine s_getr dX7_pulls_14 fl_X7_34 rfl rfl ?_
    refine s_getr dX7_pulls_17 fl_X7_125 rfl rfl ?_
    refine s_iload_n dX7_pulls_20 rfl ?_
    obtain ⟨k3, H⟩ := H
    refine s_iald (x := h2.1 19 (Int.toNat x1)) dX7_pulls_21 rfl k3 rfl ?_
    refine s_iconst dX7_pulls_22 (j_cst rfl) ?_
    refine s_icmp_eq (tgt := 29) dX7_pulls_23 (by decide) (fun hc => ?_) (fun hc => ?_)
    · have H := H.1 hc
      refine s_aload_n dX7_pulls_29 rfl ?_
      refine s_getr dX7_pulls_30 fl_X7_34 rfl rfl ?_
      refine s_getr dX7_pulls_33 fl_X7_128 rfl rfl ?_
      refine s_iload_n dX7_pulls_36 rfl ?_
      refine s_iald (x := h2.1 20 (Int.toNat x1)) dX7_pulls_37 rfl k3 rfl ?_
      refine s_istore_n (lv' := [jR 0, jI x1, jI (h2.1 20 (Int.toNat x1))]) dX7_pulls_38 (by decide) rfl ?_
      refine s_aload_n dX7_pulls_39 rfl ?_
      refine s_getr dX7_pulls_40 fl_X7_41 rfl rfl ?_
      refine s_aload_n dX7_pulls_43 rfl ?_
      refine s_getr dX7_pulls_44 fl_X7_34 rfl rfl ?_
      obtain ⟨post, hct, H⟩ := H
      refine s_callV (as := [jR 17]) (st := []) dX7_pulls_47 mv_X7_158 ⟨rfl, rfl, by decide, by decide⟩ rfl rfl rfl (by decide) _ rfl hct (fun r4 h5 hp => ?_)
      obtain ⟨rfl, hp⟩ := hp
      have H := H h5 hp
      show WV _ _ _ _ 50 [jR 0, jI x1, jI (h2.1 20 (Int.toNat x1))] [] h5
      refine s_aload_n dX7_pulls_50 rfl ?_
      refine s_getr dX7_pulls_51 fl_X7_34 rfl rfl ?_
      refine s_iload_n dX7_pulls_54 rfl ?_
      obtain ⟨post, hct, H⟩ := H
      refine s_callV (as := [jI x1]) (st := []) dX7_pulls_55 mv_X7_173 ⟨rfl, rfl, by decide, by decide⟩ rfl rfl rfl (by decide) _ rfl hct (fun r6 h7 hp => ?_)
      obtain ⟨rfl, hp⟩ := hp
      have H := H h7 hp
      show WV _ _ _ _ 58 [jR 0, jI x1, jI (h2.1 20 (Int.toNat x1))] [] h7
      refine s_iload_n dX7_pulls_58 rfl ?_
      exact s_iret dX7_pulls_59 rfl H
    · have H := H.2 hc
      refine s_bipush dX7_pulls_26 rfl (j_cst rfl) ?_
      exact s_iret dX7_pulls_28 rfl H
  · have H := H.1 hc
    refine s_iconst dX7_pulls_11 (j_cst rfl) ?_
    exact s_iret dX7_pulls_12 rfl H
theorem en_X7_exchange_18 {x1 x2 : Int} {h : jH} {post : jQ} (k : ∀ G, WV Sx G M_X7_exchange post 0 [jR 18, jI x1, jI x2, jU] [] h) : CT Sx M_X7_exchange [jR 18, jI x1, jI x2] h post := CT.of (by decide +kernel) (by simp [j_un]) (by decide) _ rfl k
set_option maxRecDepth 20000 in
theorem vc_X7_exchange_18_0 {G : jG} {Q : jQ} {x1 x2 : Int} {h : jH}
    (H : (0 ≤ x1 ∧ x1 < 6) ∧ ((0 ≤ x2 ∧ x2 < 6) ∧ (Q none (j_up (j_up h 18 (Int.toNat x1) (h.1 18 (Int.toNat x2))) 18 (Int.toNat x2) (h.1 18 (Int.toNat x1)))))) :
    WV Sx G M_X7_exchange Q 0 [jR 18, jI x1, jI x2, jU] [] h := by
  refine s_aload_n dX7_exchange_0 rfl ?_
  refine s_iload_n dX7_exchange_1 rfl ?_
  obtain ⟨k1, H⟩ := H
  refine s_iald (x := h.1 18 (Int.toNat x1)) dX7_exchange_2 rfl k1 rfl ?_
  refine s_istore_n (lv' := [jR 18, jI x1, jI x2, jI (h.1 18 (Int.toNat x1))]) dX7_exchange_3 (by decide) rfl ?_
  refine s_aload_n dX7_exchange_4 rfl ?_
  refine s_iload_n dX7_exchange_5 rfl ?_
  refine s_aload_n dX7_exchange_6 rfl ?_
  refine s_iload_n dX7_exchange_7 rfl ?_
  obtain ⟨k2, H⟩ := H
  refine s_iald (x := h.1 18 (Int.toNat x2)) dX7_exchange_8 rfl k2 rfl ?_
  refine s_iast dX7_exchange_9 rfl k1 ?_
  refine s_aload_n dX7_exchange_10 rfl ?_
  refine s_iload_n dX7_exchange_11 rfl ?_
  refine s_iload_n dX7_exchange_12 rfl ?_
  refine s_iast dX7_exchange_13 rfl k2 ?_
  exact s_vret dX7_exchange_14 rfl H
theorem en_X7_swaps_0 {x1 x2 : Int} {h : jH} {post : jQ} (k : ∀ G, WV Sx G M_X7_swaps post 0 [jR 0, jI x1, jI x2] [] h) : CT Sx M_X7_swaps [jR 0, jI x1, jI x2] h post := CT.of (by decide +kernel) (by simp [j_un]) (by decide) _ rfl k
set_option maxRecDepth 20000 in
theorem vc_X7_swaps_0_0 {G : jG} {Q : jQ} {x1 x2 : Int} {h : jH}
    (H : ∃ post : Int → jH → Prop, CT Sx M_X6_hasLine [jR 2, jI x1] h (jPi post) ∧ ∀ (r1 : Int) (h2 : jH), post r1 h2 → ((r1 = 0 → Q (some (jI (-1))) h2) ∧ (¬ r1 = 0 → ∃ post : Int → jH → Prop, CT Sx M_X6_hasLine [jR 2, jI x2] h2 (jPi post) ∧ ∀ (r3 : Int) (h4 : jH), post r3 h4 → ((r3 = 0 → Q (some (jI (-1))) h4) ∧ (¬ r3 = 0 → (x1 = x2 → Q (some (jI (-1))) h4) ∧ (¬ x1 = x2 → ∃ post : Int → jH → Prop, CT Sx M_X2_engagedBy [jR 17, jI x1] h4 (jPi post) ∧ ∀ (r5 : Int) (h6 : jH), post r5 h6 → ((r5 = (-9) → ∃ post : Int → jH → Prop, CT Sx M_X2_engagedBy [jR 17, jI x2] h6 (jPi post) ∧ ∀ (r7 : Int) (h8 : jH), post r7 h8 → ((r7 = (-9) → ∃ post : jH → Prop, CT Sx M_X3_add [jR 22, jR 17] h8 (jPv post) ∧ ∀ (h10 : jH), post h10 → (∃ post : jH → Prop, CT Sx M_X7_exchange [jR 18, jI x1, jI x2] h10 (jPv post) ∧ ∀ (h12 : jH), post h12 → ((0 ≤ x1 ∧ x1 < 6) ∧ (Q (some (jI (h12.1 18 (Int.toNat x1)))) h12)))) ∧ (¬ r7 = (-9) → Q (some (jI (-2))) h8))) ∧ (¬ r5 = (-9) → Q (some (jI (-2))) h6)))))))) :
    WV Sx G M_X7_swaps Q 0 [jR 0, jI x1, jI x2] [] h := by
  refine s_aload_n dX7_swaps_0 rfl ?_
  refine s_getr dX7_swaps_1 fl_X7_16 rfl rfl ?_
  refine s_iload_n dX7_swaps_4 rfl ?_
  obtain ⟨post, hct, H⟩ := H
  refine s_callV (as := [jI x1]) (st := []) dX7_swaps_5 mv_X7_97 ⟨rfl, rfl, by decide, by decide⟩ rfl rfl rfl (by decide) _ rfl hct (fun r1 h2 hp => ?_)
  obtain ⟨r1, rfl, hp⟩ := hp
  have H := H r1 h2 hp
  show WV _ _ _ _ 8 [jR 0, jI x1, jI x2] [jI r1] h2
  refine s_if_eq (tgt := 27) dX7_swaps_8 (by decide) (fun hc => ?_) (fun hc => ?_)
  · have H := H.1 hc
    refine s_iconst dX7_swaps_27 (j_cst rfl) ?_
    exact s_iret dX7_swaps_28 rfl H
  · have H := H.2 hc
    refine s_aload_n dX7_swaps_11 rfl ?_
    refine s_getr dX7_swaps_12 fl_X7_16 rfl rfl ?_
    refine s_iload_n dX7_swaps_15 rfl ?_
    obtain ⟨post, hct, H⟩ := H
    refine s_callV (as := [jI x2]) (st := []) dX7_swaps_16 mv_X7_97 ⟨rfl, rfl, by decide, by decide⟩ rfl rfl rfl (by decide) _ rfl hct (fun r3 h4 hp => ?_)
    obtain ⟨r3, rfl, hp⟩ := hp
    have H := H r3 h4 hp
    show WV _ _ _ _ 19 [jR 0, jI x1, jI x2] [jI r3] h4
    refine s_if_eq (tgt := 27) dX7_swaps_19 (by decide) (fun hc => ?_) (fun hc => ?_)
    · have H := H.1 hc
      refine s_iconst dX7_swaps_27 (j_cst rfl) ?_
      exact s_iret dX7_swaps_28 rfl H
    · have H := H.2 hc
      refine s_iload_n dX7_swaps_22 rfl ?_
      refine s_iload_n dX7_swaps_23 rfl ?_
      refine s_icmp_ne (tgt := 29) dX7_swaps_24 (by decide) (fun hc => ?_) (fun hc => ?_)
      · have H := H.2 hc
        refine s_aload_n dX7_swaps_29 rfl ?_
        refine s_getr dX7_swaps_30 fl_X7_34 rfl rfl ?_
        refine s_iload_n dX7_swaps_33 rfl ?_
        obtain ⟨post, hct, H⟩ := H
        refine s_callV (as := [jI x1]) (st := []) dX7_swaps_34 mv_X7_104 ⟨rfl, rfl, by decide, by decide⟩ rfl rfl rfl (by decide) _ rfl hct (fun r5 h6 hp => ?_)
        obtain ⟨r5, rfl, hp⟩ := hp
        have H := H r5 h6 hp
        show WV _ _ _ _ 37 [jR 0, jI x1, jI x2] [jI r5] h6
        refine s_bipush dX7_swaps_37 rfl (j_cst rfl) ?_
        refine s_icmp_ne (tgt := 55) dX7_swaps_39 (by decide) (fun hc => ?_) (fun hc => ?_)
        · have H := H.2 hc
          refine s_bipush dX7_swaps_55 rfl (j_cst rfl) ?_
          exact s_iret dX7_swaps_57 rfl H
        · have H := H.1 hc
          refine s_aload_n dX7_swaps_42 rfl ?_
          refine s_getr dX7_swaps_43 fl_X7_34 rfl rfl ?_
          refine s_iload_n dX7_swaps_46 rfl ?_
          obtain ⟨post, hct, H⟩ := H
          refine s_callV (as := [jI x2]) (st := []) dX7_swaps_47 mv_X7_104 ⟨rfl, rfl, by decide, by decide⟩ rfl rfl rfl (by decide) _ rfl hct (fun r7 h8 hp => ?_)
          obtain ⟨r7, rfl, hp⟩ := hp
          have H := H r7 h8 hp
          show WV _ _ _ _ 50 [jR 0, jI x1, jI x2] [jI r7] h8
          refine s_bipush dX7_swaps_50 rfl (j_cst rfl) ?_
          refine s_icmp_eq (tgt := 58) dX7_swaps_52 (by decide) (fun hc => ?_) (fun hc => ?_)
          · have H := H.1 hc
            refine s_aload_n dX7_swaps_58 rfl ?_
            refine s_getr dX7_swaps_59 fl_X7_41 rfl rfl ?_
            refine s_aload_n dX7_swaps_62 rfl ?_
            refine s_getr dX7_swaps_63 fl_X7_34 rfl rfl ?_
            obtain ⟨post, hct, H⟩ := H
            refine s_callV (as := [jR 17]) (st := []) dX7_swaps_66 mv_X7_158 ⟨rfl, rfl, by decide, by decide⟩ rfl rfl rfl (by decide) _ rfl hct (fun r9 h10 hp => ?_)
            obtain ⟨rfl, hp⟩ := hp
            have H := H h10 hp
            show WV _ _ _ _ 69 [jR 0, jI x1, jI x2] [] h10
            refine s_aload_n dX7_swaps_69 rfl ?_
            refine s_getr dX7_swaps_70 fl_X7_34 rfl rfl ?_
            refine s_getr dX7_swaps_73 fl_X7_101 rfl rfl ?_
            refine s_iload_n dX7_swaps_76 rfl ?_
            refine s_iload_n dX7_swaps_77 rfl ?_
            obtain ⟨post, hct, H⟩ := H
            refine s_callS (as := [jR 18, jI x1, jI x2]) (st := []) dX7_swaps_78 ms_X7_176 ⟨rfl, rfl, by decide, by decide⟩ (by decide) _ rfl hct (fun r11 h12 hp => ?_)
            obtain ⟨rfl, hp⟩ := hp
            have H := H h12 hp
            show WV _ _ _ _ 81 [jR 0, jI x1, jI x2] [] h12
            refine s_aload_n dX7_swaps_81 rfl ?_
            refine s_getr dX7_swaps_82 fl_X7_34 rfl rfl ?_
            refine s_getr dX7_swaps_85 fl_X7_101 rfl rfl ?_
            refine s_iload_n dX7_swaps_88 rfl ?_
            obtain ⟨k13, H⟩ := H
            refine s_iald (x := h12.1 18 (Int.toNat x1)) dX7_swaps_89 rfl k13 rfl ?_
            exact s_iret dX7_swaps_90 rfl H
          · have H := H.2 hc
            refine s_bipush dX7_swaps_55 rfl (j_cst rfl) ?_
            exact s_iret dX7_swaps_57 rfl H
      · have H := H.1 hc
        refine s_iconst dX7_swaps_27 (j_cst rfl) ?_
        exact s_iret dX7_swaps_28 rfl H
theorem en_X2_load_17_23 {x2 : Int} {h : jH} {post : jQ} (k : ∀ G, WV Sx G M_X2_load post 0 [jR 17, jR 23, jI x2, jU] [] h) : CT Sx M_X2_load [jR 17, jR 23, jI x2] h post := CT.of (by decide +kernel) (by simp [j_un]) (by decide) _ rfl k
set_option maxRecDepth 20000 in
theorem vc_X2_load_17_23_0 {G : jG} {Q : jQ} {x2 : Int} {h : jH}
    (H : (0 ≤ x2 ∧ x2 < 280) ∧ ((j_rg (x2 + 1)) ∧ ((0 ≤ x2 + 1 ∧ 0 ≤ 0 ∧ 0 ≤ 6 ∧ (x2 + 1) + 6 ≤ 280 ∧ 0 + 6 ≤ 6) ∧ ((j_rg ((x2 + 1) + 6)) ∧ ((0 ≤ (x2 + 1) + 6 ∧ 0 ≤ 0 ∧ 0 ≤ 7 ∧ ((x2 + 1) + 6) + 7 ≤ 280 ∧ 0 + 7 ≤ 7) ∧ ((j_rg (((x2 + 1) + 6) + 7)) ∧ ((0 ≤ ((x2 + 1) + 6) + 7 ∧ 0 ≤ 0 ∧ 0 ≤ 7 ∧ (((x2 + 1) + 6) + 7) + 7 ≤ 280 ∧ 0 + 7 ≤ 7) ∧ ((j_rg (((x2 + 1) + 6) + 14)) ∧ ((0 ≤ ((x2 + 1) + 6) + 14 ∧ 0 ≤ 0 ∧ 0 ≤ 7 ∧ (((x2 + 1) + 6) + 14) + 7 ≤ 280 ∧ 0 + 7 ≤ 7) ∧ (Q none (j_cp (j_cp (j_cp (j_cp (j_up h 17 1 (h.1 23 (Int.toNat x2))) 23 (Int.toNat (x2 + 1)) 18 0 6) 23 (Int.toNat ((x2 + 1) + 6)) 19 0 7) 23 (Int.toNat (((x2 + 1) + 6) + 7)) 20 0 7) 23 (Int.toNat (((x2 + 1) + 6) + 14)) 21 0 7))))))))))) :
    WV Sx G M_X2_load Q 0 [jR 17, jR 23, jI x2, jU] [] h := by
  refine s_aload_n dX2_load_0 rfl ?_
  refine s_aload_n dX2_load_1 rfl ?_
  refine s_iload_n dX2_load_2 rfl ?_
  obtain ⟨k1, H⟩ := H
  refine s_iald (x := h.1 23 (Int.toNat x2)) dX2_load_3 rfl k1 rfl ?_
  refine s_puti dX2_load_4 fp_X2_28 rfl rfl ?_
  refine s_aload_n dX2_load_7 rfl ?_
  refine s_iload_n dX2_load_8 rfl ?_
  refine s_iconst dX2_load_9 (j_cst rfl) ?_
  obtain ⟨k2, H⟩ := H
  refine s_iadd dX2_load_10 k2 ?_
  refine s_aload_n dX2_load_11 rfl ?_
  refine s_getr dX2_load_12 fl_X2_9 rfl rfl ?_
  refine s_iconst dX2_load_15 (j_cst rfl) ?_
  refine s_bipush dX2_load_16 rfl (j_cst rfl) ?_
  obtain ⟨k3, H⟩ := H
  refine s_copy dX2_load_18 ma_X2_35 ⟨by decide, by decide⟩ rfl rfl k3 ?_
  refine s_iload_n dX2_load_21 rfl ?_
  refine s_iconst dX2_load_22 (j_cst rfl) ?_
  refine s_iadd dX2_load_23 k2 ?_
  refine s_bipush dX2_load_24 rfl (j_cst rfl) ?_
  obtain ⟨k4, H⟩ := H
  refine s_iadd dX2_load_26 k4 ?_
  refine s_istore_n (lv' := [jR 17, jR 23, jI x2, jI ((x2 + 1) + 6)]) dX2_load_27 (by decide) rfl ?_
  refine s_aload_n dX2_load_28 rfl ?_
  refine s_iload_n dX2_load_29 rfl ?_
  refine s_aload_n dX2_load_30 rfl ?_
  refine s_getr dX2_load_31 fl_X2_15 rfl rfl ?_
  refine s_iconst dX2_load_34 (j_cst rfl) ?_
  refine s_bipush dX2_load_35 rfl (j_cst rfl) ?_
  obtain ⟨k5, H⟩ := H
  refine s_copy dX2_load_37 ma_X2_35 ⟨by decide, by decide⟩ rfl rfl k5 ?_
  refine s_aload_n dX2_load_40 rfl ?_
  refine s_iload_n dX2_load_41 rfl ?_
  refine s_bipush dX2_load_42 rfl (j_cst rfl) ?_
  obtain ⟨k6, H⟩ := H
  refine s_iadd dX2_load_44 k6 ?_
  refine s_aload_n dX2_load_45 rfl ?_
  refine s_getr dX2_load_46 fl_X2_18 rfl rfl ?_
  refine s_iconst dX2_load_49 (j_cst rfl) ?_
  refine s_bipush dX2_load_50 rfl (j_cst rfl) ?_
  obtain ⟨k7, H⟩ := H
  refine s_copy dX2_load_52 ma_X2_35 ⟨by decide, by decide⟩ rfl rfl k7 ?_
  refine s_aload_n dX2_load_55 rfl ?_
  refine s_iload_n dX2_load_56 rfl ?_
  refine s_bipush dX2_load_57 rfl (j_cst rfl) ?_
  obtain ⟨k8, H⟩ := H
  refine s_iadd dX2_load_59 k8 ?_
  refine s_aload_n dX2_load_60 rfl ?_
  refine s_getr dX2_load_61 fl_X2_21 rfl rfl ?_
  refine s_iconst dX2_load_64 (j_cst rfl) ?_
  refine s_bipush dX2_load_65 rfl (j_cst rfl) ?_
  obtain ⟨k9, H⟩ := H
  refine s_copy dX2_load_67 ma_X2_35 ⟨by decide, by decide⟩ rfl rfl k9 ?_
  exact s_vret dX2_load_70 rfl H
theorem en_X3_takeBack_22_17 {h : jH} {post : jQ} (k : ∀ G, WV Sx G M_X3_takeBack post 0 [jR 22, jR 17] [] h) : CT Sx M_X3_takeBack [jR 22, jR 17] h post := CT.of (by decide +kernel) (by simp [j_un]) (by decide) _ rfl k
set_option maxRecDepth 20000 in
theorem vc_X3_takeBack_22_17_0 {G : jG} {Q : jQ} {h : jH}
    (H : (j_rg ((h.1 22 1) + 10)) ∧ ((j_rg (((h.1 22 1) + 10) - 1)) ∧ ((j_rg ((h.1 22 2) - 1)) ∧ ((j_rg ((Int.tmod (((h.1 22 1) + 10) - 1) 10) * 28)) ∧ (∃ post : jH → Prop, CT Sx M_X2_load [jR 17, jR 23, jI ((Int.tmod (((h.1 22 1) + 10) - 1) 10) * 28)] (j_up (j_up h 22 1 (Int.tmod (((h.1 22 1) + 10) - 1) 10)) 22 2 ((h.1 22 2) - 1)) (jPv post) ∧ ∀ (h6 : jH), post h6 → (Q none h6)))))) :
    WV Sx G M_X3_takeBack Q 0 [jR 22, jR 17] [] h := by
  refine s_aload_n dX3_takeBack_0 rfl ?_
  refine s_aload_n dX3_takeBack_1 rfl ?_
  refine s_geti (x := h.1 22 1) dX3_takeBack_2 fl_X3_15 rfl rfl rfl ?_
  refine s_bipush dX3_takeBack_5 rfl (j_cst rfl) ?_
  obtain ⟨k1, H⟩ := H
  refine s_iadd dX3_takeBack_7 k1 ?_
  refine s_iconst dX3_takeBack_8 (j_cst rfl) ?_
  obtain ⟨k2, H⟩ := H
  refine s_isub dX3_takeBack_9 k2 ?_
  refine s_bipush dX3_takeBack_10 rfl (j_cst rfl) ?_
  refine s_irem dX3_takeBack_12 (by decide) ?_
  refine s_puti dX3_takeBack_13 fp_X3_15 rfl rfl ?_
  refine s_aload_n dX3_takeBack_16 rfl ?_
  refine s_dup dX3_takeBack_17 rfl ?_
  refine s_geti (x := h.1 22 2) dX3_takeBack_18 fl_X3_19 rfl rfl rfl ?_
  refine s_iconst dX3_takeBack_21 (j_cst rfl) ?_
  obtain ⟨k3, H⟩ := H
  refine s_isub dX3_takeBack_22 k3 ?_
  refine s_puti dX3_takeBack_23 fp_X3_19 rfl rfl ?_
  refine s_aload_n dX3_takeBack_26 rfl ?_
  refine s_aload_n dX3_takeBack_27 rfl ?_
  refine s_getr dX3_takeBack_28 fl_X3_11 rfl rfl ?_
  refine s_aload_n dX3_takeBack_31 rfl ?_
  refine s_geti (x := Int.tmod (((h.1 22 1) + 10) - 1) 10) dX3_takeBack_32 fl_X3_15 rfl rfl rfl ?_
  refine s_bipush dX3_takeBack_35 rfl (j_cst rfl) ?_
  obtain ⟨k4, H⟩ := H
  refine s_imul dX3_takeBack_37 k4 ?_
  obtain ⟨post, hct, H⟩ := H
  refine s_callV (as := [jR 23, jI ((Int.tmod (((h.1 22 1) + 10) - 1) 10) * 28)]) (st := []) dX3_takeBack_38 mv_X3_32 ⟨rfl, rfl, by decide, by decide⟩ rfl rfl rfl (by decide) _ rfl hct (fun r5 h6 hp => ?_)
  obtain ⟨rfl, hp⟩ := hp
  have H := H h6 hp
  show WV _ _ _ _ 41 [jR 22, jR 17] [] h6
  exact s_vret dX3_takeBack_41 rfl H
theorem en_X7_undo_0 {h : jH} {post : jQ} (k : ∀ G, WV Sx G M_X7_undo post 0 [jR 0] [] h) : CT Sx M_X7_undo [jR 0] h post := CT.of (by decide +kernel) (by simp [j_un]) (by decide) _ rfl k
set_option maxRecDepth 20000 in
theorem vc_X7_undo_0_0 {G : jG} {Q : jQ} {h : jH}
    (H : ((h.1 22 2) = 0 → Q (some (jI (-2))) h) ∧ (¬ (h.1 22 2) = 0 → ∃ post : jH → Prop, CT Sx M_X3_takeBack [jR 22, jR 17] h (jPv post) ∧ ∀ (h2 : jH), post h2 → (Q (some (jI (h2.1 22 2))) h2))) :
    WV Sx G M_X7_undo Q 0 [jR 0] [] h := by
  refine s_aload_n dX7_undo_0 rfl ?_
  refine s_getr dX7_undo_1 fl_X7_41 rfl rfl ?_
  refine s_geti (x := h.1 22 2) dX7_undo_4 fl_X7_147 rfl rfl rfl ?_
  refine s_if_ne (tgt := 13) dX7_undo_7 (by decide) (fun hc => ?_) (fun hc => ?_)
  · have H := H.2 hc
    refine s_aload_n dX7_undo_13 rfl ?_
    refine s_getr dX7_undo_14 fl_X7_41 rfl rfl ?_
    refine s_aload_n dX7_undo_17 rfl ?_
    refine s_getr dX7_undo_18 fl_X7_34 rfl rfl ?_
    obtain ⟨post, hct, H⟩ := H
    refine s_callV (as := [jR 17]) (st := []) dX7_undo_21 mv_X7_180 ⟨rfl, rfl, by decide, by decide⟩ rfl rfl rfl (by decide) _ rfl hct (fun r1 h2 hp => ?_)
    obtain ⟨rfl, hp⟩ := hp
    have H := H h2 hp
    show WV _ _ _ _ 24 [jR 0] [] h2
    refine s_aload_n dX7_undo_24 rfl ?_
    refine s_getr dX7_undo_25 fl_X7_41 rfl rfl ?_
    refine s_geti (x := h2.1 22 2) dX7_undo_28 fl_X7_147 rfl rfl rfl ?_
    exact s_iret dX7_undo_31 rfl H
  · have H := H.1 hc
    refine s_bipush dX7_undo_10 rfl (j_cst rfl) ?_
    exact s_iret dX7_undo_12 rfl H
theorem en_X0_lowest {x0 : Int} {h : jH} {post : jQ} (k : ∀ G, WV Sx G M_X0_lowest post 0 [jI x0, jU] [] h) : CT Sx M_X0_lowest [jI x0] h post := CT.of (by decide +kernel) (by simp [j_un]) (by decide) _ rfl k
set_option maxRecDepth 20000 in
theorem vc_X0_lowest_0 {G : jG} {Q : jQ} {x0 : Int} {h : jH}
    (H : WV Sx G M_X0_lowest Q 2 [jI x0, jI 0] [] h) :
    WV Sx G M_X0_lowest Q 0 [jI x0, jU] [] h := by
  refine s_iconst dX0_lowest_0 (j_cst rfl) ?_
  refine s_istore_n (lv' := [jI x0, jI 0]) dX0_lowest_1 (by decide) rfl ?_
  exact H
set_option maxRecDepth 20000 in
theorem vc_X0_lowest_2 {G : jG} {Q : jQ} {x0 x1 : Int} {h : jH}
    (H : (7 ≤ x1 → Q (some (jI (-9))) h) ∧ (¬ 7 ≤ x1 → ((b_and (b_shr x0 x1) 1) = 1 → Q (some (jI x1)) h) ∧ (¬ (b_and (b_shr x0 x1) 1) = 1 → (j_rg (x1 + 1)) ∧ (WV Sx G M_X0_lowest Q 2 [jI x0, jI (x1 + 1)] [] h)))) :
    WV Sx G M_X0_lowest Q 2 [jI x0, jI x1] [] h := by
  refine s_iload_n dX0_lowest_2 rfl ?_
  refine s_bipush dX0_lowest_3 rfl (j_cst rfl) ?_
  refine s_icmp_ge (tgt := 25) dX0_lowest_5 (by decide) (fun hc => ?_) (fun hc => ?_)
  · have H := H.1 hc
    refine s_bipush dX0_lowest_25 rfl (j_cst rfl) ?_
    exact s_iret dX0_lowest_27 rfl H
  · have H := H.2 hc
    refine s_iload_n dX0_lowest_8 rfl ?_
    refine s_iload_n dX0_lowest_9 rfl ?_
    refine s_ishr dX0_lowest_10 ?_
    refine s_iconst dX0_lowest_11 (j_cst rfl) ?_
    refine s_iand dX0_lowest_12 ?_
    refine s_iconst dX0_lowest_13 (j_cst rfl) ?_
    refine s_icmp_ne (tgt := 19) dX0_lowest_14 (by decide) (fun hc => ?_) (fun hc => ?_)
    · have H := H.2 hc
      obtain ⟨k1, H⟩ := H
      refine s_iinc (lv' := [jI x0, jI (x1 + 1)]) dX0_lowest_19 rfl (by decide) k1 rfl ?_
      refine s_goto (tgt := 2) dX0_lowest_22 (by decide) ?_
      exact H
    · have H := H.1 hc
      refine s_iload_n dX0_lowest_17 rfl ?_
      exact s_iret dX0_lowest_18 rfl H
theorem en_X2_linesFree_28 {x1 x2 : Int} {h : jH} {post : jQ} (k : ∀ G, WV Sx G M_X2_linesFree post 0 [jR 28, jI x1, jI x2, jU] [] h) : CT Sx M_X2_linesFree [jR 28, jI x1, jI x2] h post := CT.of (by decide +kernel) (by simp [j_un]) (by decide) _ rfl k
set_option maxRecDepth 20000 in
theorem vc_X2_linesFree_28_0 {G : jG} {Q : jQ} {x1 x2 : Int} {h : jH}
    (H : WV Sx G M_X2_linesFree Q 2 [jR 28, jI x1, jI x2, jI 0] [] h) :
    WV Sx G M_X2_linesFree Q 0 [jR 28, jI x1, jI x2, jU] [] h := by
  refine s_iconst dX2_linesFree_0 (j_cst rfl) ?_
  refine s_istore_n (lv' := [jR 28, jI x1, jI x2, jI 0]) dX2_linesFree_1 (by decide) rfl ?_
  exact H
set_option maxRecDepth 20000 in
theorem vc_X2_linesFree_28_2 {G : jG} {Q : jQ} {x1 x2 x3 : Int} {h : jH}
    (H : ((h.1 2 2) ≤ x3 → Q (some (jI 1)) h) ∧ (¬ (h.1 2 2) ≤ x3 → ((b_and (b_shr x2 x3) 1) = 1 → ∃ post : Int → jH → Prop, CT Sx M_X6_shareLine [jR 2, jI x1, jI x3] h (jPi post) ∧ ∀ (r2 : Int) (h3 : jH), post r2 h3 → ((r2 = 0 → (j_rg (x3 + 1)) ∧ (WV Sx G M_X2_linesFree Q 2 [jR 28, jI x1, jI x2, jI (x3 + 1)] [] h3)) ∧ (¬ r2 = 0 → Q (some (jI 0)) h3))) ∧ (¬ (b_and (b_shr x2 x3) 1) = 1 → (j_rg (x3 + 1)) ∧ (WV Sx G M_X2_linesFree Q 2 [jR 28, jI x1, jI x2, jI (x3 + 1)] [] h)))) :
    WV Sx G M_X2_linesFree Q 2 [jR 28, jI x1, jI x2, jI x3] [] h := by
  refine s_iload_n dX2_linesFree_2 rfl ?_
  refine s_aload_n dX2_linesFree_3 rfl ?_
  refine s_getr dX2_linesFree_4 fl_X2_24 rfl rfl ?_
  refine s_geti (x := h.1 2 2) dX2_linesFree_7 fl_X2_44 rfl rfl rfl ?_
  refine s_icmp_ge (tgt := 42) dX2_linesFree_10 (by decide) (fun hc => ?_) (fun hc => ?_)
  · have H := H.1 hc
    refine s_iconst dX2_linesFree_42 (j_cst rfl) ?_
    exact s_zret dX2_linesFree_43 rfl (Or.inr rfl) H
  · have H := H.2 hc
    refine s_iload_n dX2_linesFree_13 rfl ?_
    refine s_iload_n dX2_linesFree_14 rfl ?_
    refine s_ishr dX2_linesFree_15 ?_
    refine s_iconst dX2_linesFree_16 (j_cst rfl) ?_
    refine s_iand dX2_linesFree_17 ?_
    refine s_iconst dX2_linesFree_18 (j_cst rfl) ?_
    refine s_icmp_ne (tgt := 36) dX2_linesFree_19 (by decide) (fun hc => ?_) (fun hc => ?_)
    · have H := H.2 hc
      obtain ⟨k1, H⟩ := H
      refine s_iinc (lv' := [jR 28, jI x1, jI x2, jI (x3 + 1)]) dX2_linesFree_36 rfl (by decide) k1 rfl ?_
      refine s_goto (tgt := 2) dX2_linesFree_39 (by decide) ?_
      exact H
    · have H := H.1 hc
      refine s_aload_n dX2_linesFree_22 rfl ?_
      refine s_getr dX2_linesFree_23 fl_X2_24 rfl rfl ?_
      refine s_iload_n dX2_linesFree_26 rfl ?_
      refine s_iload_n dX2_linesFree_27 rfl ?_
      obtain ⟨post, hct, H⟩ := H
      refine s_callV (as := [jI x1, jI x3]) (st := []) dX2_linesFree_28 mv_X2_56 ⟨rfl, rfl, by decide, by decide⟩ rfl rfl rfl (by decide) _ rfl hct (fun r2 h3 hp => ?_)
      obtain ⟨r2, rfl, hp⟩ := hp
      have H := H r2 h3 hp
      show WV _ _ _ _ 31 [jR 28, jI x1, jI x2, jI x3] [jI r2] h3
      refine s_if_eq (tgt := 36) dX2_linesFree_31 (by decide) (fun hc => ?_) (fun hc => ?_)
      · have H := H.1 hc
        obtain ⟨k4, H⟩ := H
        refine s_iinc (lv' := [jR 28, jI x1, jI x2, jI (x3 + 1)]) dX2_linesFree_36 rfl (by decide) k4 rfl ?_
        refine s_goto (tgt := 2) dX2_linesFree_39 (by decide) ?_
        exact H
      · have H := H.2 hc
        refine s_iconst dX2_linesFree_34 (j_cst rfl) ?_
        exact s_zret dX2_linesFree_35 rfl (Or.inl rfl) H
theorem en_X2_hasRoom_28 {x1 x2 x3 : Int} {h : jH} {post : jQ} (k : ∀ G, WV Sx G M_X2_hasRoom post 0 [jR 28, jI x1, jI x2, jI x3] [] h) : CT Sx M_X2_hasRoom [jR 28, jI x1, jI x2, jI x3] h post := CT.of (by decide +kernel) (by simp [j_un]) (by decide) _ rfl k
set_option maxRecDepth 20000 in
theorem vc_X2_hasRoom_28_0 {G : jG} {Q : jQ} {x1 x2 x3 : Int} {h : jH}
    (H : ∃ post : Int → jH → Prop, CT Sx M_J6_bitCount_0f7a4 [jI x2] h (jPi post) ∧ ∀ (r1 : Int) (h2 : jH), post r1 h2 → ((x3 ≤ r1 → Q (some (jI 0)) h2) ∧ (¬ x3 ≤ r1 → ∃ post : Int → jH → Prop, CT Sx M_X2_linesFree [jR 28, jI x1, jI x2] h2 (jPi post) ∧ ∀ (r3 : Int) (h4 : jH), post r3 h4 → ((r3 = 0 → Q (some (jI 0)) h4) ∧ (¬ r3 = 0 → Q (some (jI 1)) h4))))) :
    WV Sx G M_X2_hasRoom Q 0 [jR 28, jI x1, jI x2, jI x3] [] h := by
  refine s_iload_n dX2_hasRoom_0 rfl ?_
  obtain ⟨post, hct, H⟩ := H
  refine s_callS (as := [jI x2]) (st := []) dX2_hasRoom_1 ms_X2_60 ⟨rfl, rfl, by decide, by decide⟩ (by decide) _ rfl hct (fun r1 h2 hp => ?_)
  obtain ⟨r1, rfl, hp⟩ := hp
  have H := H r1 h2 hp
  show WV _ _ _ _ 4 [jR 28, jI x1, jI x2, jI x3] [jI r1] h2
  refine s_iload_n dX2_hasRoom_4 rfl ?_
  refine s_icmp_ge (tgt := 21) dX2_hasRoom_5 (by decide) (fun hc => ?_) (fun hc => ?_)
  · have H := H.1 hc
    refine s_iconst dX2_hasRoom_21 (j_cst rfl) ?_
    exact s_zret dX2_hasRoom_22 rfl (Or.inl rfl) H
  · have H := H.2 hc
    refine s_aload_n dX2_hasRoom_8 rfl ?_
    refine s_iload_n dX2_hasRoom_9 rfl ?_
    refine s_iload_n dX2_hasRoom_10 rfl ?_
    obtain ⟨post, hct, H⟩ := H
    refine s_callV (as := [jI x1, jI x2]) (st := []) dX2_hasRoom_11 mv_X2_66 ⟨rfl, rfl, by decide, by decide⟩ rfl rfl rfl (by decide) _ rfl hct (fun r3 h4 hp => ?_)
    obtain ⟨r3, rfl, hp⟩ := hp
    have H := H r3 h4 hp
    show WV _ _ _ _ 14 [jR 28, jI x1, jI x2, jI x3] [jI r3] h4
    refine s_if_eq (tgt := 21) dX2_hasRoom_14 (by decide) (fun hc => ?_) (fun hc => ?_)
    · have H := H.1 hc
      refine s_iconst dX2_hasRoom_21 (j_cst rfl) ?_
      exact s_zret dX2_hasRoom_22 rfl (Or.inl rfl) H
    · have H := H.2 hc
      refine s_iconst dX2_hasRoom_17 (j_cst rfl) ?_
      refine s_goto (tgt := 22) dX2_hasRoom_18 (by decide) ?_
      exact s_zret dX2_hasRoom_22 rfl (Or.inr rfl) H
theorem en_X2_those_28 {x1 : Int} {h : jH} {post : jQ} (k : ∀ G, WV Sx G M_X2_those post 0 [jR 28, jI x1, jU, jU] [] h) : CT Sx M_X2_those [jR 28, jI x1] h post := CT.of (by decide +kernel) (by simp [j_un]) (by decide) _ rfl k
set_option maxRecDepth 20000 in
theorem vc_X2_those_28_0 {G : jG} {Q : jQ} {x1 : Int} {h : jH}
    (H : WV Sx G M_X2_those Q 4 [jR 28, jI x1, jI 0, jI 0] [] h) :
    WV Sx G M_X2_those Q 0 [jR 28, jI x1, jU, jU] [] h := by
  refine s_iconst dX2_those_0 (j_cst rfl) ?_
  refine s_istore_n (lv' := [jR 28, jI x1, jI 0, jU]) dX2_those_1 (by decide) rfl ?_
  refine s_iconst dX2_those_2 (j_cst rfl) ?_
  refine s_istore_n (lv' := [jR 28, jI x1, jI 0, jI 0]) dX2_those_3 (by decide) rfl ?_
  exact H
set_option maxRecDepth 20000 in
theorem vc_X2_those_28_4 {G : jG} {Q : jQ} {x1 x2 x3 : Int} {h : jH}
    (H : ((h.1 2 2) ≤ x3 → Q (some (jI x2)) h) ∧ (¬ (h.1 2 2) ≤ x3 → (0 ≤ x3 ∧ x3 < 7) ∧ (((h.1 30 (Int.toNat x3)) = x1 → (j_rg (x3 + 1)) ∧ (WV Sx G M_X2_those Q 4 [jR 28, jI x1, jI (b_or x2 (b_shl 1 x3)), jI (x3 + 1)] [] h)) ∧ (¬ (h.1 30 (Int.toNat x3)) = x1 → (j_rg (x3 + 1)) ∧ (WV Sx G M_X2_those Q 4 [jR 28, jI x1, jI x2, jI (x3 + 1)] [] h))))) :
    WV Sx G M_X2_those Q 4 [jR 28, jI x1, jI x2, jI x3] [] h := by
  refine s_iload_n dX2_those_4 rfl ?_
  refine s_aload_n dX2_those_5 rfl ?_
  refine s_getr dX2_those_6 fl_X2_24 rfl rfl ?_
  refine s_geti (x := h.1 2 2) dX2_those_9 fl_X2_44 rfl rfl rfl ?_
  refine s_icmp_ge (tgt := 37) dX2_those_12 (by decide) (fun hc => ?_) (fun hc => ?_)
  · have H := H.1 hc
    refine s_iload_n dX2_those_37 rfl ?_
    exact s_iret dX2_those_38 rfl H
  · have H := H.2 hc
    refine s_aload_n dX2_those_15 rfl ?_
    refine s_getr dX2_those_16 fl_X2_15 rfl rfl ?_
    refine s_iload_n dX2_those_19 rfl ?_
    obtain ⟨k1, H⟩ := H
    refine s_iald (x := h.1 30 (Int.toNat x3)) dX2_those_20 rfl k1 rfl ?_
    refine s_iload_n dX2_those_21 rfl ?_
    refine s_icmp_ne (tgt := 31) dX2_those_22 (by decide) (fun hc => ?_) (fun hc => ?_)
    · have H := H.2 hc
      obtain ⟨k2, H⟩ := H
      refine s_iinc (lv' := [jR 28, jI x1, jI x2, jI (x3 + 1)]) dX2_those_31 rfl (by decide) k2 rfl ?_
      refine s_goto (tgt := 4) dX2_those_34 (by decide) ?_
      exact H
    · have H := H.1 hc
      refine s_iload_n dX2_those_25 rfl ?_
      refine s_iconst dX2_those_26 (j_cst rfl) ?_
      refine s_iload_n dX2_those_27 rfl ?_
      refine s_ishl dX2_those_28 ?_
      refine s_ior dX2_those_29 ?_
      refine s_istore_n (lv' := [jR 28, jI x1, jI (b_or x2 (b_shl 1 x3)), jI x3]) dX2_those_30 (by decide) rfl ?_
      obtain ⟨k3, H⟩ := H
      refine s_iinc (lv' := [jR 28, jI x1, jI (b_or x2 (b_shl 1 x3)), jI (x3 + 1)]) dX2_those_31 rfl (by decide) k3 rfl ?_
      refine s_goto (tgt := 4) dX2_those_34 (by decide) ?_
      exact H
theorem en_X2_canBePlugged_28 {x1 x2 : Int} {h : jH} {post : jQ} (k : ∀ G, WV Sx G M_X2_canBePlugged post 0 [jR 28, jI x1, jI x2] [] h) : CT Sx M_X2_canBePlugged [jR 28, jI x1, jI x2] h post := CT.of (by decide +kernel) (by simp [j_un]) (by decide) _ rfl k
set_option maxRecDepth 20000 in
theorem vc_X2_canBePlugged_28_0 {G : jG} {Q : jQ} {x1 x2 : Int} {h : jH}
    (H : (0 ≤ x1 ∧ x1 < 7) ∧ (((h.1 30 (Int.toNat x1)) = 1 → ∃ post : Int → jH → Prop, CT Sx M_X2_those [jR 28, jI 2] h (jPi post) ∧ ∀ (r2 : Int) (h3 : jH), post r2 h3 → (∃ post : Int → jH → Prop, CT Sx M_X2_hasRoom [jR 28, jI x1, jI r2, jI x2] h3 (jPi post) ∧ ∀ (r4 : Int) (h5 : jH), post r4 h5 → ((r4 = 0 → Q (some (jI 0)) h5) ∧ (¬ r4 = 0 → Q (some (jI 1)) h5)))) ∧ (¬ (h.1 30 (Int.toNat x1)) = 1 → Q (some (jI 0)) h))) :
    WV Sx G M_X2_canBePlugged Q 0 [jR 28, jI x1, jI x2] [] h := by
  refine s_aload_n dX2_canBePlugged_0 rfl ?_
  refine s_getr dX2_canBePlugged_1 fl_X2_15 rfl rfl ?_
  refine s_iload_n dX2_canBePlugged_4 rfl ?_
  obtain ⟨k1, H⟩ := H
  refine s_iald (x := h.1 30 (Int.toNat x1)) dX2_canBePlugged_5 rfl k1 rfl ?_
  refine s_iconst dX2_canBePlugged_6 (j_cst rfl) ?_
  refine s_icmp_ne (tgt := 28) dX2_canBePlugged_7 (by decide) (fun hc => ?_) (fun hc => ?_)
  · have H := H.2 hc
    refine s_iconst dX2_canBePlugged_28 (j_cst rfl) ?_
    exact s_zret dX2_canBePlugged_29 rfl (Or.inl rfl) H
  · have H := H.1 hc
    refine s_aload_n dX2_canBePlugged_10 rfl ?_
    refine s_iload_n dX2_canBePlugged_11 rfl ?_
    refine s_aload_n dX2_canBePlugged_12 rfl ?_
    refine s_iconst dX2_canBePlugged_13 (j_cst rfl) ?_
    obtain ⟨post, hct, H⟩ := H
    refine s_callV (as := [jI 2]) (st := [jI x1, jR 28]) dX2_canBePlugged_14 mv_X2_69 ⟨rfl, rfl, by decide, by decide⟩ rfl rfl rfl (by decide) _ rfl hct (fun r2 h3 hp => ?_)
    obtain ⟨r2, rfl, hp⟩ := hp
    have H := H r2 h3 hp
    show WV _ _ _ _ 17 [jR 28, jI x1, jI x2] [jI r2, jI x1, jR 28] h3
    refine s_iload_n dX2_canBePlugged_17 rfl ?_
    obtain ⟨post, hct, H⟩ := H
    refine s_callV (as := [jI x1, jI r2, jI x2]) (st := []) dX2_canBePlugged_18 mv_X2_72 ⟨rfl, rfl, by decide, by decide⟩ rfl rfl rfl (by decide) _ rfl hct (fun r4 h5 hp => ?_)
    obtain ⟨r4, rfl, hp⟩ := hp
    have H := H r4 h5 hp
    show WV _ _ _ _ 21 [jR 28, jI x1, jI x2] [jI r4] h5
    refine s_if_eq (tgt := 28) dX2_canBePlugged_21 (by decide) (fun hc => ?_) (fun hc => ?_)
    · have H := H.1 hc
      refine s_iconst dX2_canBePlugged_28 (j_cst rfl) ?_
      exact s_zret dX2_canBePlugged_29 rfl (Or.inl rfl) H
    · have H := H.2 hc
      refine s_iconst dX2_canBePlugged_24 (j_cst rfl) ?_
      refine s_goto (tgt := 29) dX2_canBePlugged_25 (by decide) ?_
      exact s_zret dX2_canBePlugged_29 rfl (Or.inr rfl) H
theorem en_X2_plug_28 {x1 : Int} {h : jH} {post : jQ} (k : ∀ G, WV Sx G M_X2_plug post 0 [jR 28, jI x1] [] h) : CT Sx M_X2_plug [jR 28, jI x1] h post := CT.of (by decide +kernel) (by simp [j_un]) (by decide) _ rfl k
set_option maxRecDepth 20000 in
theorem vc_X2_plug_28_0 {G : jG} {Q : jQ} {x1 : Int} {h : jH}
    (H : (0 ≤ x1 ∧ x1 < 7) ∧ (Q none (j_up (j_up h 30 (Int.toNat x1) 2) 31 (Int.toNat x1) (h.1 7 (Int.toNat x1))))) :
    WV Sx G M_X2_plug Q 0 [jR 28, jI x1] [] h := by
  refine s_aload_n dX2_plug_0 rfl ?_
  refine s_getr dX2_plug_1 fl_X2_15 rfl rfl ?_
  refine s_iload_n dX2_plug_4 rfl ?_
  refine s_iconst dX2_plug_5 (j_cst rfl) ?_
  obtain ⟨k1, H⟩ := H
  refine s_iast dX2_plug_6 rfl k1 ?_
  refine s_aload_n dX2_plug_7 rfl ?_
  refine s_getr dX2_plug_8 fl_X2_18 rfl rfl ?_
  refine s_iload_n dX2_plug_11 rfl ?_
  refine s_aload_n dX2_plug_12 rfl ?_
  refine s_getr dX2_plug_13 fl_X2_24 rfl rfl ?_
  refine s_getr dX2_plug_16 fl_X2_76 rfl rfl ?_
  refine s_iload_n dX2_plug_19 rfl ?_
  refine s_iald (x := h.1 7 (Int.toNat x1)) dX2_plug_20 rfl k1 rfl ?_
  refine s_iast dX2_plug_21 rfl k1 ?_
  exact s_vret dX2_plug_22 rfl H
theorem en_X0_plugAll_26 {x1 : Int} {h : jH} {post : jQ} (k : ∀ G, WV Sx G M_X0_plugAll post 0 [jR 26, jI x1, jU] [] h) : CT Sx M_X0_plugAll [jR 26, jI x1] h post := CT.of (by decide +kernel) (by simp [j_un]) (by decide) _ rfl k
set_option maxRecDepth 20000 in
theorem vc_X0_plugAll_26_0 {G : jG} {Q : jQ} {x1 : Int} {h : jH}
    (H : WV Sx G M_X0_plugAll Q 2 [jR 26, jI x1, jI 0] [] h) :
    WV Sx G M_X0_plugAll Q 0 [jR 26, jI x1, jU] [] h := by
  refine s_iconst dX0_plugAll_0 (j_cst rfl) ?_
  refine s_istore_n (lv' := [jR 26, jI x1, jI 0]) dX0_plugAll_1 (by decide) rfl ?_
  exact H
set_option maxRecDepth 20000 in
theorem vc_X0_plugAll_26_2 {G : jG} {Q : jQ} {x1 x2 : Int} {h : jH}
    (H : ((h.1 2 2) ≤ x2 → Q none h) ∧ (¬ (h.1 2 2) ≤ x2 → (0 ≤ x2 ∧ x2 < 7) ∧ (∃ post : Int → jH → Prop, CT Sx M_X2_canBePlugged [jR 28, jI (h.1 27 (Int.toNat x2)), jI x1] h (jPi post) ∧ ∀ (r2 : Int) (h3 : jH), post r2 h3 → ((r2 = 0 → (j_rg (x2 + 1)) ∧ (WV Sx G M_X0_plugAll Q 2 [jR 26, jI x1, jI (x2 + 1)] [] h3)) ∧ (¬ r2 = 0 → ∃ post : jH → Prop, CT Sx M_X2_plug [jR 28, jI (h3.1 27 (Int.toNat x2))] h3 (jPv post) ∧ ∀ (h6 : jH), post h6 → ((j_rg (x2 + 1)) ∧ (WV Sx G M_X0_plugAll Q 2 [jR 26, jI x1, jI (x2 + 1)] [] h6))))))) :
    WV Sx G M_X0_plugAll Q 2 [jR 26, jI x1, jI x2] [] h := by
  refine s_iload_n dX0_plugAll_2 rfl ?_
  refine s_aload_n dX0_plugAll_3 rfl ?_
  refine s_getr dX0_plugAll_4 fl_X0_19 rfl rfl ?_
  refine s_geti (x := h.1 2 2) dX0_plugAll_7 fl_X0_60 rfl rfl rfl ?_
  refine s_icmp_ge (tgt := 49) dX0_plugAll_10 (by decide) (fun hc => ?_) (fun hc => ?_)
  · have H := H.1 hc
    exact s_vret dX0_plugAll_49 rfl H
  · have H := H.2 hc
    refine s_aload_n dX0_plugAll_13 rfl ?_
    refine s_getr dX0_plugAll_14 fl_X0_28 rfl rfl ?_
    refine s_aload_n dX0_plugAll_17 rfl ?_
    refine s_getr dX0_plugAll_18 fl_X0_9 rfl rfl ?_
    refine s_iload_n dX0_plugAll_21 rfl ?_
    obtain ⟨k1, H⟩ := H
    refine s_iald (x := h.1 27 (Int.toNat x2)) dX0_plugAll_22 rfl k1 rfl ?_
    refine s_iload_n dX0_plugAll_23 rfl ?_
    obtain ⟨post, hct, H⟩ := H
    refine s_callV (as := [jI (h.1 27 (Int.toNat x2)), jI x1]) (st := []) dX0_plugAll_24 mv_X0_78 ⟨rfl, rfl, by decide, by decide⟩ rfl rfl rfl (by decide) _ rfl hct (fun r2 h3 hp => ?_)
    obtain ⟨r2, rfl, hp⟩ := hp
    have H := H r2 h3 hp
    show WV _ _ _ _ 27 [jR 26, jI x1, jI x2] [jI r2] h3
    refine s_if_eq (tgt := 43) dX0_plugAll_27 (by decide) (fun hc => ?_) (fun hc => ?_)
    · have H := H.1 hc
      obtain ⟨k4, H⟩ := H
      refine s_iinc (lv' := [jR 26, jI x1, jI (x2 + 1)]) dX0_plugAll_43 rfl (by decide) k4 rfl ?_
      refine s_goto (tgt := 2) dX0_plugAll_46 (by decide) ?_
      exact H
    · have H := H.2 hc
      refine s_aload_n dX0_plugAll_30 rfl ?_
      refine s_getr dX0_plugAll_31 fl_X0_28 rfl rfl ?_
      refine s_aload_n dX0_plugAll_34 rfl ?_
      refine s_getr dX0_plugAll_35 fl_X0_9 rfl rfl ?_
      refine s_iload_n dX0_plugAll_38 rfl ?_
      refine s_iald (x := h3.1 27 (Int.toNat x2)) dX0_plugAll_39 rfl k1 rfl ?_
      obtain ⟨post, hct, H⟩ := H
      refine s_callV (as := [jI (h3.1 27 (Int.toNat x2))]) (st := []) dX0_plugAll_40 mv_X0_82 ⟨rfl, rfl, by decide, by decide⟩ rfl rfl rfl (by decide) _ rfl hct (fun r5 h6 hp => ?_)
      obtain ⟨rfl, hp⟩ := hp
      have H := H h6 hp
      show WV _ _ _ _ 43 [jR 26, jI x1, jI x2] [] h6
      obtain ⟨k7, H⟩ := H
      refine s_iinc (lv' := [jR 26, jI x1, jI (x2 + 1)]) dX0_plugAll_43 rfl (by decide) k7 rfl ?_
      refine s_goto (tgt := 2) dX0_plugAll_46 (by decide) ?_
      exact H
theorem en_X0_key_26 {x1 x2 : Int} {h : jH} {post : jQ} (k : ∀ G, WV Sx G M_X0_key post 0 [jR 26, jI x1, jI x2] [] h) : CT Sx M_X0_key [jR 26, jI x1, jI x2] h post := CT.of (by decide +kernel) (by simp [j_un]) (by decide) _ rfl k
set_option maxRecDepth 20000 in
theorem vc_X0_key_26_0 {G : jG} {Q : jQ} {x1 x2 : Int} {h : jH}
    (H : (x2 = 0 → (0 ≤ x1 ∧ x1 < 7) ∧ (Q (some (jI (h.1 4 (Int.toNat x1)))) h)) ∧ (x2 = 1 → (0 ≤ x1 ∧ x1 < 7) ∧ ((j_rg (-(h.1 8 (Int.toNat x1)))) ∧ (Q (some (jI (-(h.1 8 (Int.toNat x1))))) h))) ∧ (¬ x2 = 0 ∧ ¬ x2 = 1 → (0 ≤ x1 ∧ x1 < 7) ∧ (Q (some (jI (h.1 7 (Int.toNat x1)))) h))) :
    WV Sx G M_X0_key Q 0 [jR 26, jI x1, jI x2] [] h := by
  refine s_iload_n dX0_key_0 rfl ?_
  by_cases hc0 : x2 = 0
  · have H := H.1 hc0
    refine s_lookup (off := 27) (tgt := 28) dX0_key_1 (by decide) (by rw [hc0]; decide) (by decide) ?_
    refine s_aload_n dX0_key_28 rfl ?_
    refine s_getr dX0_key_29 fl_X0_19 rfl rfl ?_
    refine s_getr dX0_key_32 fl_X0_69 rfl rfl ?_
    refine s_iload_n dX0_key_35 rfl ?_
    obtain ⟨k1, H⟩ := H
    refine s_iald (x := h.1 4 (Int.toNat x1)) dX0_key_36 rfl k1 rfl ?_
    exact s_iret dX0_key_37 rfl H
  by_cases hc1 : x2 = 1
  · have H := H.2.1 hc1
    refine s_lookup (off := 37) (tgt := 38) dX0_key_1 (by decide) (by rw [hc1]; decide) (by decide) ?_
    refine s_aload_n dX0_key_38 rfl ?_
    refine s_getr dX0_key_39 fl_X0_19 rfl rfl ?_
    refine s_getr dX0_key_42 fl_X0_72 rfl rfl ?_
    refine s_iload_n dX0_key_45 rfl ?_
    obtain ⟨k2, H⟩ := H
    refine s_iald (x := h.1 8 (Int.toNat x1)) dX0_key_46 rfl k2 rfl ?_
    obtain ⟨k3, H⟩ := H
    refine s_ineg dX0_key_47 k3 ?_
    exact s_iret dX0_key_48 rfl H
  · have H := H.2.2 ⟨hc0, hc1⟩
    refine s_lookup (off := 48) (tgt := 49) dX0_key_1 (by decide) (by simp [Op.lookupswitch.offset, hc0, hc1]) (by decide) ?_
    refine s_aload_n dX0_key_49 rfl ?_
    refine s_getr dX0_key_50 fl_X0_19 rfl rfl ?_
    refine s_getr dX0_key_53 fl_X0_75 rfl rfl ?_
    refine s_iload_n dX0_key_56 rfl ?_
    obtain ⟨k4, H⟩ := H
    refine s_iald (x := h.1 7 (Int.toNat x1)) dX0_key_57 rfl k4 rfl ?_
    exact s_iret dX0_key_58 rfl H
theorem en_X0_sort_26 {x1 : Int} {h : jH} {post : jQ} (k : ∀ G, WV Sx G M_X0_sort post 0 [jR 26, jI x1, jU, jU] [] h) : CT Sx M_X0_sort [jR 26, jI x1] h post := CT.of (by decide +kernel) (by simp [j_un]) (by decide) _ rfl k
set_option maxRecDepth 20000 in
theorem vc_X0_sort_26_0 {G : jG} {Q : jQ} {x1 : Int} {h : jH}
    (H : WV Sx G M_X0_sort Q 2 [jR 26, jI x1, jI 0, jU] [] h) :
    WV Sx G M_X0_sort Q 0 [jR 26, jI x1, jU, jU] [] h := by
  refine s_iconst dX0_sort_0 (j_cst rfl) ?_
  refine s_istore_n (lv' := [jR 26, jI x1, jI 0, jU]) dX0_sort_1 (by decide) rfl ?_
  exact H
set_option maxRecDepth 20000 in
theorem vc_X0_sort_26_2 {G : jG} {Q : jQ} {x1 x2 : Int} {u3 : jV} {h : jH}
    (H : ((h.1 2 2) ≤ x2 → Q none h) ∧ (¬ (h.1 2 2) ≤ x2 → WV Sx G M_X0_sort Q 15 [jR 26, jI x1, jI x2, jI x2] [] h)) :
    WV Sx G M_X0_sort Q 2 [jR 26, jI x1, jI x2, u3] [] h := by
  refine s_iload_n dX0_sort_2 rfl ?_
  refine s_aload_n dX0_sort_3 rfl ?_
  refine s_getr dX0_sort_4 fl_X0_19 rfl rfl ?_
  refine s_geti (x := h.1 2 2) dX0_sort_7 fl_X0_60 rfl rfl rfl ?_
  refine s_icmp_ge (tgt := 74) dX0_sort_10 (by decide) (fun hc => ?_) (fun hc => ?_)
  · have H := H.1 hc
    exact s_vret dX0_sort_74 rfl H
  · have H := H.2 hc
    refine s_iload_n dX0_sort_13 rfl ?_
    refine s_istore_n (lv' := [jR 26, jI x1, jI x2, jI x2]) dX0_sort_14 (by decide) rfl ?_
    exact H
set_option maxRecDepth 20000 in
theorem vc_X0_sort_26_15 {G : jG} {Q : jQ} {x1 x2 x3 : Int} {h : jH}
    (H : (x3 ≤ 0 → (0 ≤ x3 ∧ x3 < 7) ∧ ((j_rg (x2 + 1)) ∧ (WV Sx G M_X0_sort Q 2 [jR 26, jI x1, jI (x2 + 1), jI x3] [] (j_up h 27 (Int.toNat x3) x2)))) ∧ (¬ x3 ≤ 0 → ∃ post : Int → jH → Prop, CT Sx M_X0_key [jR 26, jI x2, jI x1] h (jPi post) ∧ ∀ (r3 : Int) (h4 : jH), post r3 h4 → ((j_rg (x3 - 1)) ∧ ((0 ≤ x3 - 1 ∧ x3 - 1 < 7) ∧ (∃ post : Int → jH → Prop, CT Sx M_X0_key [jR 26, jI (h4.1 27 (Int.toNat (x3 - 1))), jI x1] h4 (jPi post) ∧ ∀ (r7 : Int) (h8 : jH), post r7 h8 → ((r7 ≤ r3 → (0 ≤ x3 ∧ x3 < 7) ∧ ((j_rg (x2 + 1)) ∧ (WV Sx G M_X0_sort Q 2 [jR 26, jI x1, jI (x2 + 1), jI x3] [] (j_up h8 27 (Int.toNat x3) x2)))) ∧ (¬ r7 ≤ r3 → (0 ≤ x3 ∧ x3 < 7) ∧ ((j_rg (x3 + (-1))) ∧ (WV Sx G M_X0_sort Q 15 [jR 26, jI x1, jI x2, jI (x3 + (-1))] [] (j_up h8 27 (Int.toNat x3) (h8.1 27 (Int.toNat (x3 - 1))))))))))))) :
    WV Sx G M_X0_sort Q 15 [jR 26, jI x1, jI x2, jI x3] [] h := by
  refine s_iload_n dX0_sort_15 rfl ?_
  refine s_if_le (tgt := 61) dX0_sort_16 (by decide) (fun hc => ?_) (fun hc => ?_)
  · have H := H.1 hc
    refine s_aload_n dX0_sort_61 rfl ?_
    refine s_getr dX0_sort_62 fl_X0_9 rfl rfl ?_
    refine s_iload_n dX0_sort_65 rfl ?_
    refine s_iload_n dX0_sort_66 rfl ?_
    obtain ⟨k1, H⟩ := H
    refine s_iast dX0_sort_67 rfl k1 ?_
    obtain ⟨k2, H⟩ := H
    refine s_iinc (lv' := [jR 26, jI x1, jI (x2 + 1), jI x3]) dX0_sort_68 rfl (by decide) k2 rfl ?_
    refine s_goto (tgt := 2) dX0_sort_71 (by decide) ?_
    exact H
  · have H := H.2 hc
    refine s_aload_n dX0_sort_19 rfl ?_
    refine s_iload_n dX0_sort_20 rfl ?_
    refine s_iload_n dX0_sort_21 rfl ?_
    obtain ⟨post, hct, H⟩ := H
    refine s_callV (as := [jI x2, jI x1]) (st := []) dX0_sort_22 mv_X0_65 ⟨rfl, rfl, by decide, by decide⟩ rfl rfl rfl (by decide) _ rfl hct (fun r3 h4 hp => ?_)
    obtain ⟨r3, rfl, hp⟩ := hp
    have H := H r3 h4 hp
    show WV _ _ _ _ 25 [jR 26, jI x1, jI x2, jI x3] [jI r3] h4
    refine s_aload_n dX0_sort_25 rfl ?_
    refine s_aload_n dX0_sort_26 rfl ?_
    refine s_getr dX0_sort_27 fl_X0_9 rfl rfl ?_
    refine s_iload_n dX0_sort_30 rfl ?_
    refine s_iconst dX0_sort_31 (j_cst rfl) ?_
    obtain ⟨k5, H⟩ := H
    refine s_isub dX0_sort_32 k5 ?_
    obtain ⟨k6, H⟩ := H
    refine s_iald (x := h4.1 27 (Int.toNat (x3 - 1))) dX0_sort_33 rfl k6 rfl ?_
    refine s_iload_n dX0_sort_34 rfl ?_
    obtain ⟨post, hct, H⟩ := H
    refine s_callV (as := [jI (h4.1 27 (Int.toNat (x3 - 1))), jI x1]) (st := [jI r3]) dX0_sort_35 mv_X0_65 ⟨rfl, rfl, by decide, by decide⟩ rfl rfl rfl (by decide) _ rfl hct (fun r7 h8 hp => ?_)
    obtain ⟨r7, rfl, hp⟩ := hp
    have H := H r7 h8 hp
    show WV _ _ _ _ 38 [jR 26, jI x1, jI x2, jI x3] [jI r7, jI r3] h8
    refine s_icmp_ge (tgt := 61) dX0_sort_38 (by decide) (fun hc => ?_) (fun hc => ?_)
    · have H := H.1 hc
      refine s_aload_n dX0_sort_61 rfl ?_
      refine s_getr dX0_sort_62 fl_X0_9 rfl rfl ?_
      refine s_iload_n dX0_sort_65 rfl ?_
      refine s_iload_n dX0_sort_66 rfl ?_
      obtain ⟨k9, H⟩ := H
      refine s_iast dX0_sort_67 rfl k9 ?_
      obtain ⟨k10, H⟩ := H
      refine s_iinc (lv' := [jR 26, jI x1, jI (x2 + 1), jI x3]) dX0_sort_68 rfl (by decide) k10 rfl ?_
      refine s_goto (tgt := 2) dX0_sort_71 (by decide) ?_
      exact H
    · have H := H.2 hc
      refine s_aload_n dX0_sort_41 rfl ?_
      refine s_getr dX0_sort_42 fl_X0_9 rfl rfl ?_
      refine s_iload_n dX0_sort_45 rfl ?_
      refine s_aload_n dX0_sort_46 rfl ?_
      refine s_getr dX0_sort_47 fl_X0_9 rfl rfl ?_
      refine s_iload_n dX0_sort_50 rfl ?_
      refine s_iconst dX0_sort_51 (j_cst rfl) ?_
      refine s_isub dX0_sort_52 k5 ?_
      refine s_iald (x := h8.1 27 (Int.toNat (x3 - 1))) dX0_sort_53 rfl k6 rfl ?_
      obtain ⟨k11, H⟩ := H
      refine s_iast dX0_sort_54 rfl k11 ?_
      obtain ⟨k12, H⟩ := H
      refine s_iinc (lv' := [jR 26, jI x1, jI x2, jI (x3 + (-1))]) dX0_sort_55 rfl (by decide) k12 rfl ?_
      refine s_goto (tgt := 15) dX0_sort_58 (by decide) ?_
      exact H
theorem en_X2_become_28_17 {h : jH} {post : jQ} (k : ∀ G, WV Sx G M_X2_become post 0 [jR 28, jR 17] [] h) : CT Sx M_X2_become [jR 28, jR 17] h post := CT.of (by decide +kernel) (by simp [j_un]) (by decide) _ rfl k
set_option maxRecDepth 20000 in
theorem vc_X2_become_28_17_0 {G : jG} {Q : jQ} {h : jH}
    (H : Q none (j_cp (j_cp (j_cp (j_cp (j_up h 28 1 (h.1 17 1)) 18 0 29 0 6) 19 0 30 0 7) 20 0 31 0 7) 21 0 32 0 7)) :
    WV Sx G M_X2_become Q 0 [jR 28, jR 17] [] h := by
  refine s_aload_n dX2_become_0 rfl ?_
  refine s_aload_n dX2_become_1 rfl ?_
  refine s_geti (x := h.1 17 1) dX2_become_2 fl_X2_28 rfl rfl rfl ?_
  refine s_puti dX2_become_5 fp_X2_28 rfl rfl ?_
  refine s_aload_n dX2_become_8 rfl ?_
  refine s_getr dX2_become_9 fl_X2_9 rfl rfl ?_
  refine s_iconst dX2_become_12 (j_cst rfl) ?_
  refine s_aload_n dX2_become_13 rfl ?_
  refine s_getr dX2_become_14 fl_X2_9 rfl rfl ?_
  refine s_iconst dX2_become_17 (j_cst rfl) ?_
  refine s_bipush dX2_become_18 rfl (j_cst rfl) ?_
  refine s_copy dX2_become_20 ma_X2_35 ⟨by decide, by decide⟩ rfl rfl ⟨by decide, by decide, by decide, by decide, by decide⟩ ?_
  refine s_aload_n dX2_become_23 rfl ?_
  refine s_getr dX2_become_24 fl_X2_15 rfl rfl ?_
  refine s_iconst dX2_become_27 (j_cst rfl) ?_
  refine s_aload_n dX2_become_28 rfl ?_
  refine s_getr dX2_become_29 fl_X2_15 rfl rfl ?_
  refine s_iconst dX2_become_32 (j_cst rfl) ?_
  refine s_bipush dX2_become_33 rfl (j_cst rfl) ?_
  refine s_copy dX2_become_35 ma_X2_35 ⟨by decide, by decide⟩ rfl rfl ⟨by decide, by decide, by decide, by decide, by decide⟩ ?_
  refine s_aload_n dX2_become_38 rfl ?_
  refine s_getr dX2_become_39 fl_X2_18 rfl rfl ?_
  refine s_iconst dX2_become_42 (j_cst rfl) ?_
  refine s_aload_n dX2_become_43 rfl ?_
  refine s_getr dX2_become_44 fl_X2_18 rfl rfl ?_
  refine s_iconst dX2_become_47 (j_cst rfl) ?_
  refine s_bipush dX2_become_48 rfl (j_cst rfl) ?_
  refine s_copy dX2_become_50 ma_X2_35 ⟨by decide, by decide⟩ rfl rfl ⟨by decide, by decide, by decide, by decide, by decide⟩ ?_
  refine s_aload_n dX2_become_53 rfl ?_
  refine s_getr dX2_become_54 fl_X2_21 rfl rfl ?_
  refine s_iconst dX2_become_57 (j_cst rfl) ?_
  refine s_aload_n dX2_become_58 rfl ?_
  refine s_getr dX2_become_59 fl_X2_21 rfl rfl ?_
  refine s_iconst dX2_become_62 (j_cst rfl) ?_
  refine s_bipush dX2_become_63 rfl (j_cst rfl) ?_
  refine s_copy dX2_become_65 ma_X2_35 ⟨by decide, by decide⟩ rfl rfl ⟨by decide, by decide, by decide, by decide, by decide⟩ ?_
  exact s_vret dX2_become_68 rfl H
theorem en_X2_lacksCord_28 {x1 : Int} {h : jH} {post : jQ} (k : ∀ G, WV Sx G M_X2_lacksCord post 0 [jR 28, jI x1, jU, jU] [] h) : CT Sx M_X2_lacksCord [jR 28, jI x1] h post := CT.of (by decide +kernel) (by simp [j_un]) (by decide) _ rfl k
set_option maxRecDepth 20000 in
theorem vc_X2_lacksCord_28_0 {G : jG} {Q : jQ} {x1 : Int} {h : jH}
    (H : ∃ post : Int → jH → Prop, CT Sx M_X2_those [jR 28, jI 2] h (jPi post) ∧ ∀ (r1 : Int) (h2 : jH), post r1 h2 → (∃ post : Int → jH → Prop, CT Sx M_J6_bitCount_0f7a4 [jI r1] h2 (jPi post) ∧ ∀ (r3 : Int) (h4 : jH), post r3 h4 → ((x1 ≤ r3 → WV Sx G M_X2_lacksCord Q 18 [jR 28, jI x1, jI r1, jI 0] [] h4) ∧ (¬ x1 ≤ r3 → Q (some (jI 0)) h4)))) :
    WV Sx G M_X2_lacksCord Q 0 [jR 28, jI x1, jU, jU] [] h := by
  refine s_aload_n dX2_lacksCord_0 rfl ?_
  refine s_iconst dX2_lacksCord_1 (j_cst rfl) ?_
  obtain ⟨post, hct, H⟩ := H
  refine s_callV (as := [jI 2]) (st := []) dX2_lacksCord_2 mv_X2_69 ⟨rfl, rfl, by decide, by decide⟩ rfl rfl rfl (by decide) _ rfl hct (fun r1 h2 hp => ?_)
  obtain ⟨r1, rfl, hp⟩ := hp
  have H := H r1 h2 hp
  show WV _ _ _ _ 5 [jR 28, jI x1, jU, jU] [jI r1] h2
  refine s_istore_n (lv' := [jR 28, jI x1, jI r1, jU]) dX2_lacksCord_5 (by decide) rfl ?_
  refine s_iload_n dX2_lacksCord_6 rfl ?_
  obtain ⟨post, hct, H⟩ := H
  refine s_callS (as := [jI r1]) (st := []) dX2_lacksCord_7 ms_X2_60 ⟨rfl, rfl, by decide, by decide⟩ (by decide) _ rfl hct (fun r3 h4 hp => ?_)
  obtain ⟨r3, rfl, hp⟩ := hp
  have H := H r3 h4 hp
  show WV _ _ _ _ 10 [jR 28, jI x1, jI r1, jU] [jI r3] h4
  refine s_iload_n dX2_lacksCord_10 rfl ?_
  refine s_icmp_ge (tgt := 16) dX2_lacksCord_11 (by decide) (fun hc => ?_) (fun hc => ?_)
  · have H := H.1 hc
    refine s_iconst dX2_lacksCord_16 (j_cst rfl) ?_
    refine s_istore_n (lv' := [jR 28, jI x1, jI r1, jI 0]) dX2_lacksCord_17 (by decide) rfl ?_
    exact H
  · have H := H.2 hc
    refine s_iconst dX2_lacksCord_14 (j_cst rfl) ?_
    exact s_zret dX2_lacksCord_15 rfl (Or.inl rfl) H
set_option maxRecDepth 20000 in
theorem vc_X2_lacksCord_28_18 {G : jG} {Q : jQ} {x1 x2 x3 : Int} {h : jH}
    (H : ((h.1 2 2) ≤ x3 → Q (some (jI 0)) h) ∧ (¬ (h.1 2 2) ≤ x3 → (0 ≤ x3 ∧ x3 < 7) ∧ (((h.1 30 (Int.toNat x3)) = 1 → ∃ post : Int → jH → Prop, CT Sx M_X2_linesFree [jR 28, jI x3, jI x2] h (jPi post) ∧ ∀ (r3 : Int) (h4 : jH), post r3 h4 → ((r3 = 0 → (j_rg (x3 + 1)) ∧ (WV Sx G M_X2_lacksCord Q 18 [jR 28, jI x1, jI x2, jI (x3 + 1)] [] h4)) ∧ (¬ r3 = 0 → Q (some (jI 1)) h4))) ∧ (¬ (h.1 30 (Int.toNat x3)) = 1 → (j_rg (x3 + 1)) ∧ (WV Sx G M_X2_lacksCord Q 18 [jR 28, jI x1, jI x2, jI (x3 + 1)] [] h))))) :
    WV Sx G M_X2_lacksCord Q 18 [jR 28, jI x1, jI x2, jI x3] [] h := by
  refine s_iload_n dX2_lacksCord_18 rfl ?_
  refine s_aload_n dX2_lacksCord_19 rfl ?_
  refine s_getr dX2_lacksCord_20 fl_X2_24 rfl rfl ?_
  refine s_geti (x := h.1 2 2) dX2_lacksCord_23 fl_X2_44 rfl rfl rfl ?_
  refine s_icmp_ge (tgt := 56) dX2_lacksCord_26 (by decide) (fun hc => ?_) (fun hc => ?_)
  · have H := H.1 hc
    refine s_iconst dX2_lacksCord_56 (j_cst rfl) ?_
    exact s_zret dX2_lacksCord_57 rfl (Or.inl rfl) H
  · have H := H.2 hc
    refine s_aload_n dX2_lacksCord_29 rfl ?_
    refine s_getr dX2_lacksCord_30 fl_X2_15 rfl rfl ?_
    refine s_iload_n dX2_lacksCord_33 rfl ?_
    obtain ⟨k1, H⟩ := H
    refine s_iald (x := h.1 30 (Int.toNat x3)) dX2_lacksCord_34 rfl k1 rfl ?_
    refine s_iconst dX2_lacksCord_35 (j_cst rfl) ?_
    refine s_icmp_ne (tgt := 50) dX2_lacksCord_36 (by decide) (fun hc => ?_) (fun hc => ?_)
    · have H := H.2 hc
      obtain ⟨k2, H⟩ := H
      refine s_iinc (lv' := [jR 28, jI x1, jI x2, jI (x3 + 1)]) dX2_lacksCord_50 rfl (by decide) k2 rfl ?_
      refine s_goto (tgt := 18) dX2_lacksCord_53 (by decide) ?_
      exact H
    · have H := H.1 hc
      refine s_aload_n dX2_lacksCord_39 rfl ?_
      refine s_iload_n dX2_lacksCord_40 rfl ?_
      refine s_iload_n dX2_lacksCord_41 rfl ?_
      obtain ⟨post, hct, H⟩ := H
      refine s_callV (as := [jI x3, jI x2]) (st := []) dX2_lacksCord_42 mv_X2_66 ⟨rfl, rfl, by decide, by decide⟩ rfl rfl rfl (by decide) _ rfl hct (fun r3 h4 hp => ?_)
      obtain ⟨r3, rfl, hp⟩ := hp
      have H := H r3 h4 hp
      show WV _ _ _ _ 45 [jR 28, jI x1, jI x2, jI x3] [jI r3] h4
      refine s_if_eq (tgt := 50) dX2_lacksCord_45 (by decide) (fun hc => ?_) (fun hc => ?_)
      · have H := H.1 hc
        obtain ⟨k5, H⟩ := H
        refine s_iinc (lv' := [jR 28, jI x1, jI x2, jI (x3 + 1)]) dX2_lacksCord_50 rfl (by decide) k5 rfl ?_
        refine s_goto (tgt := 18) dX2_lacksCord_53 (by decide) ?_
        exact H
      · have H := H.2 hc
        refine s_iconst dX2_lacksCord_48 (j_cst rfl) ?_
        exact s_zret dX2_lacksCord_49 rfl (Or.inr rfl) H
theorem en_X2_letFall_28 {h : jH} {post : jQ} (k : ∀ G, WV Sx G M_X2_letFall post 0 [jR 28, jU] [] h) : CT Sx M_X2_letFall [jR 28] h post := CT.of (by decide +kernel) (by simp [j_un]) (by decide) _ rfl k
set_option maxRecDepth 20000 in
theorem vc_X2_letFall_28_0 {G : jG} {Q : jQ} {h : jH}
    (H : WV Sx G M_X2_letFall Q 2 [jR 28, jI 0] [] h) :
    WV Sx G M_X2_letFall Q 0 [jR 28, jU] [] h := by
  refine s_iconst dX2_letFall_0 (j_cst rfl) ?_
  refine s_istore_n (lv' := [jR 28, jI 0]) dX2_letFall_1 (by decide) rfl ?_
  exact H
set_option maxRecDepth 20000 in
theorem vc_X2_letFall_28_2 {G : jG} {Q : jQ} {x1 : Int} {h : jH}
    (H : ((h.1 2 2) ≤ x1 → Q none h) ∧ (¬ (h.1 2 2) ≤ x1 → (0 ≤ x1 ∧ x1 < 7) ∧ (((h.1 30 (Int.toNat x1)) = 0 → ((h.1 4 (Int.toNat x1)) = (h.1 28 1) → (j_rg (x1 + 1)) ∧ (WV Sx G M_X2_letFall Q 2 [jR 28, jI (x1 + 1)] [] (j_up h 30 (Int.toNat x1) 1))) ∧ (¬ (h.1 4 (Int.toNat x1)) = (h.1 28 1) → (j_rg (x1 + 1)) ∧ (WV Sx G M_X2_letFall Q 2 [jR 28, jI (x1 + 1)] [] h))) ∧ (¬ (h.1 30 (Int.toNat x1)) = 0 → (j_rg (x1 + 1)) ∧ (WV Sx G M_X2_letFall Q 2 [jR 28, jI (x1 + 1)] [] h))))) :
    WV Sx G M_X2_letFall Q 2 [jR 28, jI x1] [] h := by
  refine s_iload_n dX2_letFall_2 rfl ?_
  refine s_aload_n dX2_letFall_3 rfl ?_
  refine s_getr dX2_letFall_4 fl_X2_24 rfl rfl ?_
  refine s_geti (x := h.1 2 2) dX2_letFall_7 fl_X2_44 rfl rfl rfl ?_
  refine s_icmp_ge (tgt := 51) dX2_letFall_10 (by decide) (fun hc => ?_) (fun hc => ?_)
  · have H := H.1 hc
    exact s_vret dX2_letFall_51 rfl H
  · have H := H.2 hc
    refine s_aload_n dX2_letFall_13 rfl ?_
    refine s_getr dX2_letFall_14 fl_X2_15 rfl rfl ?_
    refine s_iload_n dX2_letFall_17 rfl ?_
    obtain ⟨k1, H⟩ := H
    refine s_iald (x := h.1 30 (Int.toNat x1)) dX2_letFall_18 rfl k1 rfl ?_
    refine s_if_ne (tgt := 45) dX2_letFall_19 (by decide) (fun hc => ?_) (fun hc => ?_)
    · have H := H.2 hc
      obtain ⟨k2, H⟩ := H
      refine s_iinc (lv' := [jR 28, jI (x1 + 1)]) dX2_letFall_45 rfl (by decide) k2 rfl ?_
      refine s_goto (tgt := 2) dX2_letFall_48 (by decide) ?_
      exact H
    · have H := H.1 hc
      refine s_aload_n dX2_letFall_22 rfl ?_
      refine s_getr dX2_letFall_23 fl_X2_24 rfl rfl ?_
      refine s_getr dX2_letFall_26 fl_X2_47 rfl rfl ?_
      refine s_iload_n dX2_letFall_29 rfl ?_
      refine s_iald (x := h.1 4 (Int.toNat x1)) dX2_letFall_30 rfl k1 rfl ?_
      refine s_aload_n dX2_letFall_31 rfl ?_
      refine s_geti (x := h.1 28 1) dX2_letFall_32 fl_X2_28 rfl rfl rfl ?_
      refine s_icmp_ne (tgt := 45) dX2_letFall_35 (by decide) (fun hc => ?_) (fun hc => ?_)
      · have H := H.2 hc
        obtain ⟨k3, H⟩ := H
        refine s_iinc (lv' := [jR 28, jI (x1 + 1)]) dX2_letFall_45 rfl (by decide) k3 rfl ?_
        refine s_goto (tgt := 2) dX2_letFall_48 (by decide) ?_
        exact H
      · have H := H.1 hc
        refine s_aload_n dX2_letFall_38 rfl ?_
        refine s_getr dX2_letFall_39 fl_X2_15 rfl rfl ?_
        refine s_iload_n dX2_letFall_42 rfl ?_
        refine s_iconst dX2_letFall_43 (j_cst rfl) ?_
        refine s_iast dX2_letFall_44 rfl k1 ?_
        obtain ⟨k4, H⟩ := H
        refine s_iinc (lv' := [jR 28, jI (x1 + 1)]) dX2_letFall_45 rfl (by decide) k4 rfl ?_
        refine s_goto (tgt := 2) dX2_letFall_48 (by decide) ?_
        exact H
theorem en_X2_passMinute_28 {h : jH} {post : jQ} (k : ∀ G, WV Sx G M_X2_passMinute post 0 [jR 28, jU] [] h) : CT Sx M_X2_passMinute [jR 28] h post := CT.of (by decide +kernel) (by simp [j_un]) (by decide) _ rfl k
set_option maxRecDepth 20000 in
theorem vc_X2_passMinute_28_0 {G : jG} {Q : jQ} {h : jH}
    (H : WV Sx G M_X2_passMinute Q 2 [jR 28, jI 0] [] h) :
    WV Sx G M_X2_passMinute Q 0 [jR 28, jU] [] h := by
  refine s_iconst dX2_passMinute_0 (j_cst rfl) ?_
  refine s_istore_n (lv' := [jR 28, jI 0]) dX2_passMinute_1 (by decide) rfl ?_
  exact H
set_option maxRecDepth 20000 in
theorem vc_X2_passMinute_28_2 {G : jG} {Q : jQ} {x1 : Int} {h : jH}
    (H : ((h.1 2 2) ≤ x1 → (j_rg ((h.1 28 1) + 1)) ∧ (∃ post : jH → Prop, CT Sx M_X2_letFall [jR 28] (j_up h 28 1 ((h.1 28 1) + 1)) (jPv post) ∧ ∀ (h3 : jH), post h3 → (Q none h3))) ∧ (¬ (h.1 2 2) ≤ x1 → (0 ≤ x1 ∧ x1 < 7) ∧ (((h.1 30 (Int.toNat x1)) = 2 → (j_rg ((h.1 31 (Int.toNat x1)) - 1)) ∧ ((0 < ((h.1 31 (Int.toNat x1)) - 1) → (j_rg (x1 + 1)) ∧ (WV Sx G M_X2_passMinute Q 2 [jR 28, jI (x1 + 1)] [] (j_up h 31 (Int.toNat x1) ((h.1 31 (Int.toNat x1)) - 1)))) ∧ (¬ 0 < ((h.1 31 (Int.toNat x1)) - 1) → (j_rg (x1 + 1)) ∧ (WV Sx G M_X2_passMinute Q 2 [jR 28, jI (x1 + 1)] [] (j_up (j_up h 31 (Int.toNat x1) ((h.1 31 (Int.toNat x1)) - 1)) 30 (Int.toNat x1) 3))))) ∧ (¬ (h.1 30 (Int.toNat x1)) = 2 → ((h.1 30 (Int.toNat x1)) = 1 → (j_rg ((h.1 32 (Int.toNat x1)) + 1)) ∧ ((j_rg (x1 + 1)) ∧ (WV Sx G M_X2_passMinute Q 2 [jR 28, jI (x1 + 1)] [] (j_up h 32 (Int.toNat x1) ((h.1 32 (Int.toNat x1)) + 1))))) ∧ (¬ (h.1 30 (Int.toNat x1)) = 1 → (j_rg (x1 + 1)) ∧ (WV Sx G M_X2_passMinute Q 2 [jR 28, jI (x1 + 1)] [] h)))))) :
    WV Sx G M_X2_passMinute Q 2 [jR 28, jI x1] [] h := by
  refine s_iload_n dX2_passMinute_2 rfl ?_
  refine s_aload_n dX2_passMinute_3 rfl ?_
  refine s_getr dX2_passMinute_4 fl_X2_24 rfl rfl ?_
  refine s_geti (x := h.1 2 2) dX2_passMinute_7 fl_X2_44 rfl rfl rfl ?_
  refine s_icmp_ge (tgt := 78) dX2_passMinute_10 (by decide) (fun hc => ?_) (fun hc => ?_)
  · have H := H.1 hc
    refine s_aload_n dX2_passMinute_78 rfl ?_
    refine s_dup dX2_passMinute_79 rfl ?_
    refine s_geti (x := h.1 28 1) dX2_passMinute_80 fl_X2_28 rfl rfl rfl ?_
    refine s_iconst dX2_passMinute_83 (j_cst rfl) ?_
    obtain ⟨k1, H⟩ := H
    refine s_iadd dX2_passMinute_84 k1 ?_
    refine s_puti dX2_passMinute_85 fp_X2_28 rfl rfl ?_
    refine s_aload_n dX2_passMinute_88 rfl ?_
    obtain ⟨post, hct, H⟩ := H
    refine s_callV (as := []) (st := []) dX2_passMinute_89 mv_X2_41 ⟨rfl, rfl, by decide, by decide⟩ rfl rfl rfl (by decide) _ rfl hct (fun r2 h3 hp => ?_)
    obtain ⟨rfl, hp⟩ := hp
    have H := H h3 hp
    show WV _ _ _ _ 92 [jR 28, jI x1] [] h3
    exact s_vret dX2_passMinute_92 rfl H
  · have H := H.2 hc
    refine s_aload_n dX2_passMinute_13 rfl ?_
    refine s_getr dX2_passMinute_14 fl_X2_15 rfl rfl ?_
    refine s_iload_n dX2_passMinute_17 rfl ?_
    obtain ⟨k4, H⟩ := H
    refine s_iald (x := h.1 30 (Int.toNat x1)) dX2_passMinute_18 rfl k4 rfl ?_
    refine s_iconst dX2_passMinute_19 (j_cst rfl) ?_
    refine s_icmp_ne (tgt := 52) dX2_passMinute_20 (by decide) (fun hc => ?_) (fun hc => ?_)
    · have H := H.2 hc
      refine s_aload_n dX2_passMinute_52 rfl ?_
      refine s_getr dX2_passMinute_53 fl_X2_15 rfl rfl ?_
      refine s_iload_n dX2_passMinute_56 rfl ?_
      refine s_iald (x := h.1 30 (Int.toNat x1)) dX2_passMinute_57 rfl k4 rfl ?_
      refine s_iconst dX2_passMinute_58 (j_cst rfl) ?_
      refine s_icmp_ne (tgt := 72) dX2_passMinute_59 (by decide) (fun hc => ?_) (fun hc => ?_)
      · have H := H.2 hc
        obtain ⟨k5, H⟩ := H
        refine s_iinc (lv' := [jR 28, jI (x1 + 1)]) dX2_passMinute_72 rfl (by decide) k5 rfl ?_
        refine s_goto (tgt := 2) dX2_passMinute_75 (by decide) ?_
        exact H
      · have H := H.1 hc
        refine s_aload_n dX2_passMinute_62 rfl ?_
        refine s_getr dX2_passMinute_63 fl_X2_21 rfl rfl ?_
        refine s_iload_n dX2_passMinute_66 rfl ?_
        refine s_dup2 dX2_passMinute_67 rfl rfl ?_
        refine s_iald (x := h.1 32 (Int.toNat x1)) dX2_passMinute_68 rfl k4 rfl ?_
        refine s_iconst dX2_passMinute_69 (j_cst rfl) ?_
        obtain ⟨k6, H⟩ := H
        refine s_iadd dX2_passMinute_70 k6 ?_
        refine s_iast dX2_passMinute_71 rfl k4 ?_
        obtain ⟨k7, H⟩ := H
        refine s_iinc (lv' := [jR 28, jI (x1 + 1)]) dX2_passMinute_72 rfl (by decide) k7 rfl ?_
        refine s_goto (tgt := 2) dX2_passMinute_75 (by decide) ?_
        exact H
    · have H := H.1 hc
      refine s_aload_n dX2_passMinute_23 rfl ?_
      refine s_getr dX2_passMinute_24 fl_X2_18 rfl rfl ?_
      refine s_iload_n dX2_passMinute_27 rfl ?_
      refine s_dup2 dX2_passMinute_28 rfl rfl ?_
      refine s_iald (x := h.1 31 (Int.toNat x1)) dX2_passMinute_29 rfl k4 rfl ?_
      refine s_iconst dX2_passMinute_30 (j_cst rfl) ?_
      obtain ⟨k8, H⟩ := H
      refine s_isub dX2_passMinute_31 k8 ?_
      refine s_iast dX2_passMinute_32 rfl k4 ?_
      refine s_aload_n dX2_passMinute_33 rfl ?_
      refine s_getr dX2_passMinute_34 fl_X2_18 rfl rfl ?_
      refine s_iload_n dX2_passMinute_37 rfl ?_
      refine s_iald (x := (h.1 31 (Int.toNat x1)) - 1) dX2_passMinute_38 rfl k4 (by simp [j_up]) ?_
      refine s_if_gt (tgt := 72) dX2_passMinute_39 (by decide) (fun hc => ?_) (fun hc => ?_)
      · have H := H.1 hc
        obtain ⟨k9, H⟩ := H
        refine s_iinc (lv' := [jR 28, jI (x1 + 1)]) dX2_passMinute_72 rfl (by decide) k9 rfl ?_
        refine s_goto (tgt := 2) dX2_passMinute_75 (by decide) ?_
        exact H
      · have H := H.2 hc
        refine s_aload_n dX2_passMinute_42 rfl ?_
        refine s_getr dX2_passMinute_43 fl_X2_15 rfl rfl ?_
        refine s_iload_n dX2_passMinute_46 rfl ?_
        refine s_iconst dX2_passMinute_47 (j_cst rfl) ?_
        refine s_iast dX2_passMinute_48 rfl k4 ?_
        refine s_goto (tgt := 72) dX2_passMinute_49 (by decide) ?_
        obtain ⟨k10, H⟩ := H
        refine s_iinc (lv' := [jR 28, jI (x1 + 1)]) dX2_passMinute_72 rfl (by decide) k10 rfl ?_
        refine s_goto (tgt := 2) dX2_passMinute_75 (by decide) ?_
        exact H
theorem en_X0_go_26_17 {x2 x3 x4 : Int} {h : jH} {post : jQ} (k : ∀ G, WV Sx G M_X0_go post 0 [jR 26, jR 17, jI x2, jI x3, jI x4, jU, jU] [] h) : CT Sx M_X0_go [jR 26, jR 17, jI x2, jI x3, jI x4] h post := CT.of (by decide +kernel) (by simp [j_un]) (by decide) _ rfl k
set_option maxRecDepth 20000 in
theorem vc_X0_go_26_17_0 {G : jG} {Q : jQ} {x2 x3 x4 : Int} {h : jH}
    (H : ∃ post : jH → Prop, CT Sx M_X2_become [jR 28, jR 17] h (jPv post) ∧ ∀ (h2 : jH), post h2 → (∃ post : jH → Prop, CT Sx M_X0_sort [jR 26, jI x2] h2 (jPv post) ∧ ∀ (h4 : jH), post h4 → (∃ post : Int → jH → Prop, CT Sx M_X2_those [jR 17, jI 3] (j_up (j_up h4 26 3 (-9)) 26 4 0) (jPi post) ∧ ∀ (r5 : Int) (h6 : jH), post r5 h6 → (WV Sx G M_X0_go Q 34 [jR 26, jR 17, jI x2, jI x3, jI x4, jI r5, jI 0] [] h6)))) :
    WV Sx G M_X0_go Q 0 [jR 26, jR 17, jI x2, jI x3, jI x4, jU, jU] [] h := by
  refine s_aload_n dX0_go_0 rfl ?_
  refine s_getr dX0_go_1 fl_X0_28 rfl rfl ?_
  refine s_aload_n dX0_go_4 rfl ?_
  obtain ⟨post, hct, H⟩ := H
  refine s_callV (as := [jR 17]) (st := []) dX0_go_5 mv_X0_32 ⟨rfl, rfl, by decide, by decide⟩ rfl rfl rfl (by decide) _ rfl hct (fun r1 h2 hp => ?_)
  obtain ⟨rfl, hp⟩ := hp
  have H := H h2 hp
  show WV _ _ _ _ 8 [jR 26, jR 17, jI x2, jI x3, jI x4, jU, jU] [] h2
  refine s_aload_n dX0_go_8 rfl ?_
  refine s_iload_n dX0_go_9 rfl ?_
  obtain ⟨post, hct, H⟩ := H
  refine s_callV (as := [jI x2]) (st := []) dX0_go_10 mv_X0_36 ⟨rfl, rfl, by decide, by decide⟩ rfl rfl rfl (by decide) _ rfl hct (fun r3 h4 hp => ?_)
  obtain ⟨rfl, hp⟩ := hp
  have H := H h4 hp
  show WV _ _ _ _ 13 [jR 26, jR 17, jI x2, jI x3, jI x4, jU, jU] [] h4
  refine s_aload_n dX0_go_13 rfl ?_
  refine s_bipush dX0_go_14 rfl (j_cst rfl) ?_
  refine s_puti dX0_go_16 fp_X0_15 rfl rfl ?_
  refine s_aload_n dX0_go_19 rfl ?_
  refine s_iconst dX0_go_20 (j_cst rfl) ?_
  refine s_putz dX0_go_21 fp_X0_40 rfl rfl (Or.inl rfl) ?_
  refine s_aload_n dX0_go_24 rfl ?_
  refine s_iconst dX0_go_25 (j_cst rfl) ?_
  obtain ⟨post, hct, H⟩ := H
  refine s_callV (as := [jI 3]) (st := []) dX0_go_26 mv_X0_44 ⟨rfl, rfl, by decide, by decide⟩ rfl rfl rfl (by decide) _ rfl hct (fun r5 h6 hp => ?_)
  obtain ⟨r5, rfl, hp⟩ := hp
  have H := H r5 h6 hp
  show WV _ _ _ _ 29 [jR 26, jR 17, jI x2, jI x3, jI x4, jU, jU] [jI r5] h6
  refine s_istore (lv' := [jR 26, jR 17, jI x2, jI x3, jI x4, jI r5, jU]) dX0_go_29 (by decide) rfl ?_
  refine s_iconst dX0_go_31 (j_cst rfl) ?_
  refine s_istore (lv' := [jR 26, jR 17, jI x2, jI x3, jI x4, jI r5, jI 0]) dX0_go_32 (by decide) rfl ?_
  exact H
set_option maxRecDepth 20000 in
theorem vc_X0_go_26_17_34 {G : jG} {Q : jQ} {x2 x3 x4 x5 x6 : Int} {h : jH}
    (H : (x3 ≤ x6 → Q none h) ∧ (¬ x3 ≤ x6 → ∃ post : jH → Prop, CT Sx M_X0_plugAll [jR 26, jI x4] h (jPv post) ∧ ∀ (h2 : jH), post h2 → (∃ post : Int → jH → Prop, CT Sx M_X2_lacksCord [jR 28, jI x4] h2 (jPi post) ∧ ∀ (r3 : Int) (h4 : jH), post r3 h4 → ((b_or (h2.1 26 4) r3 = 0 ∨ b_or (h2.1 26 4) r3 = 1) ∧ (∃ post : jH → Prop, CT Sx M_X2_passMinute [jR 28] (j_up h4 26 4 (b_or (h2.1 26 4) r3)) (jPv post) ∧ ∀ (h7 : jH), post h7 → (((h7.1 26 3) = (-9) → ∃ post : Int → jH → Prop, CT Sx M_X2_those [jR 28, jI 3] h7 (jPi post) ∧ ∀ (r9 : Int) (h10 : jH), post r9 h10 → (∃ post : Int → jH → Prop, CT Sx M_X0_lowest [jI (b_and r9 (b_xor x5 (-1)))] h10 (jPi post) ∧ ∀ (r11 : Int) (h12 : jH), post r11 h12 → ((j_rg (x6 + 1)) ∧ (WV Sx G M_X0_go Q 34 [jR 26, jR 17, jI x2, jI x3, jI x4, jI x5, jI (x6 + 1)] [] (j_up h12 26 3 r11))))) ∧ (¬ (h7.1 26 3) = (-9) → (j_rg (x6 + 1)) ∧ (WV Sx G M_X0_go Q 34 [jR 26, jR 17, jI x2, jI x3, jI x4, jI x5, jI (x6 + 1)] [] h7)))))))) :
    WV Sx G M_X0_go Q 34 [jR 26, jR 17, jI x2, jI x3, jI x4, jI x5, jI x6] [] h := by
  refine s_iload dX0_go_34 rfl ?_
  refine s_iload_n dX0_go_36 rfl ?_
  refine s_icmp_ge (tgt := 106) dX0_go_37 (by decide) (fun hc => ?_) (fun hc => ?_)
  · have H := H.1 hc
    exact s_vret dX0_go_106 rfl H
  · have H := H.2 hc
    refine s_aload_n dX0_go_40 rfl ?_
    refine s_iload dX0_go_41 rfl ?_
    obtain ⟨post, hct, H⟩ := H
    refine s_callV (as := [jI x4]) (st := []) dX0_go_43 mv_X0_48 ⟨rfl, rfl, by decide, by decide⟩ rfl rfl rfl (by decide) _ rfl hct (fun r1 h2 hp => ?_)
    obtain ⟨rfl, hp⟩ := hp
    have H := H h2 hp
    show WV _ _ _ _ 46 [jR 26, jR 17, jI x2, jI x3, jI x4, jI x5, jI x6] [] h2
    refine s_aload_n dX0_go_46 rfl ?_
    refine s_dup dX0_go_47 rfl ?_
    refine s_geti (x := h2.1 26 4) dX0_go_48 fl_X0_40 rfl rfl rfl ?_
    refine s_aload_n dX0_go_51 rfl ?_
    refine s_getr dX0_go_52 fl_X0_28 rfl rfl ?_
    refine s_iload dX0_go_55 rfl ?_
    obtain ⟨post, hct, H⟩ := H
    refine s_callV (as := [jI x4]) (st := [jI (h2.1 26 4), jR 26]) dX0_go_57 mv_X0_51 ⟨rfl, rfl, by decide, by decide⟩ rfl rfl rfl (by decide) _ rfl hct (fun r3 h4 hp => ?_)
    obtain ⟨r3, rfl, hp⟩ := hp
    have H := H r3 h4 hp
    show WV _ _ _ _ 60 [jR 26, jR 17, jI x2, jI x3, jI x4, jI x5, jI x6] [jI r3, jI (h2.1 26 4), jR 26] h4
    refine s_ior dX0_go_60 ?_
    obtain ⟨k5, H⟩ := H
    refine s_putz dX0_go_61 fp_X0_40 rfl rfl k5 ?_
    refine s_aload_n dX0_go_64 rfl ?_
    refine s_getr dX0_go_65 fl_X0_28 rfl rfl ?_
    obtain ⟨post, hct, H⟩ := H
    refine s_callV (as := []) (st := []) dX0_go_68 mv_X0_54 ⟨rfl, rfl, by decide, by decide⟩ rfl rfl rfl (by decide) _ rfl hct (fun r6 h7 hp => ?_)
    obtain ⟨rfl, hp⟩ := hp
    have H := H h7 hp
    show WV _ _ _ _ 71 [jR 26, jR 17, jI x2, jI x3, jI x4, jI x5, jI x6] [] h7
    refine s_aload_n dX0_go_71 rfl ?_
    refine s_geti (x := h7.1 26 3) dX0_go_72 fl_X0_15 rfl rfl rfl ?_
    refine s_bipush dX0_go_75 rfl (j_cst rfl) ?_
    refine s_icmp_ne (tgt := 100) dX0_go_77 (by decide) (fun hc => ?_) (fun hc => ?_)
    · have H := H.2 hc
      obtain ⟨k8, H⟩ := H
      refine s_iinc (lv' := [jR 26, jR 17, jI x2, jI x3, jI x4, jI x5, jI (x6 + 1)]) dX0_go_100 rfl (by decide) k8 rfl ?_
      refine s_goto (tgt := 34) dX0_go_103 (by decide) ?_
      exact H
    · have H := H.1 hc
      refine s_aload_n dX0_go_80 rfl ?_
      refine s_aload_n dX0_go_81 rfl ?_
      refine s_getr dX0_go_82 fl_X0_28 rfl rfl ?_
      refine s_iconst dX0_go_85 (j_cst rfl) ?_
      obtain ⟨post, hct, H⟩ := H
      refine s_callV (as := [jI 3]) (st := [jR 26]) dX0_go_86 mv_X0_44 ⟨rfl, rfl, by decide, by decide⟩ rfl rfl rfl (by decide) _ rfl hct (fun r9 h10 hp => ?_)
      obtain ⟨r9, rfl, hp⟩ := hp
      have H := H r9 h10 hp
      show WV _ _ _ _ 89 [jR 26, jR 17, jI x2, jI x3, jI x4, jI x5, jI x6] [jI r9, jR 26] h10
      refine s_iload dX0_go_89 rfl ?_
      refine s_iconst dX0_go_91 (j_cst rfl) ?_
      refine s_ixor dX0_go_92 ?_
      refine s_iand dX0_go_93 ?_
      obtain ⟨post, hct, H⟩ := H
      refine s_callS (as := [jI (b_and r9 (b_xor x5 (-1)))]) (st := [jR 26]) dX0_go_94 ms_X0_57 ⟨rfl, rfl, by decide, by decide⟩ (by decide) _ rfl hct (fun r11 h12 hp => ?_)
      obtain ⟨r11, rfl, hp⟩ := hp
      have H := H r11 h12 hp
      show WV _ _ _ _ 97 [jR 26, jR 17, jI x2, jI x3, jI x4, jI x5, jI x6] [jI r11, jR 26] h12
      refine s_puti dX0_go_97 fp_X0_15 rfl rfl ?_
      obtain ⟨k13, H⟩ := H
      refine s_iinc (lv' := [jR 26, jR 17, jI x2, jI x3, jI x4, jI x5, jI (x6 + 1)]) dX0_go_100 rfl (by decide) k13 rfl ?_
      refine s_goto (tgt := 34) dX0_go_103 (by decide) ?_
      exact H
theorem en_X2_sumOf_28_32 {x2 : Int} {h : jH} {post : jQ} (k : ∀ G, WV Sx G M_X2_sumOf post 0 [jR 28, jR 32, jI x2, jU, jU] [] h) : CT Sx M_X2_sumOf [jR 28, jR 32, jI x2] h post := CT.of (by decide +kernel) (by simp [j_un]) (by decide) _ rfl k
set_option maxRecDepth 20000 in
theorem vc_X2_sumOf_28_32_0 {G : jG} {Q : jQ} {x2 : Int} {h : jH}
    (H : WV Sx G M_X2_sumOf Q 5 [jR 28, jR 32, jI x2, jI 0, jI 0] [] h) :
    WV Sx G M_X2_sumOf Q 0 [jR 28, jR 32, jI x2, jU, jU] [] h := by
  refine s_iconst dX2_sumOf_0 (j_cst rfl) ?_
  refine s_istore_n (lv' := [jR 28, jR 32, jI x2, jI 0, jU]) dX2_sumOf_1 (by decide) rfl ?_
  refine s_iconst dX2_sumOf_2 (j_cst rfl) ?_
  refine s_istore (lv' := [jR 28, jR 32, jI x2, jI 0, jI 0]) dX2_sumOf_3 (by decide) rfl ?_
  exact H
set_option maxRecDepth 20000 in
theorem vc_X2_sumOf_28_32_5 {G : jG} {Q : jQ} {x2 x3 x4 : Int} {h : jH}
    (H : ((h.1 2 2) ≤ x4 → Q (some (jI x3)) h) ∧ (¬ (h.1 2 2) ≤ x4 → ((b_and (b_shr x2 x4) 1) = 1 → (0 ≤ x4 ∧ x4 < 7) ∧ ((j_rg (x3 + (h.1 32 (Int.toNat x4)))) ∧ ((j_rg (x4 + 1)) ∧ (WV Sx G M_X2_sumOf Q 5 [jR 28, jR 32, jI x2, jI (x3 + (h.1 32 (Int.toNat x4))), jI (x4 + 1)] [] h)))) ∧ (¬ (b_and (b_shr x2 x4) 1) = 1 → (j_rg (x4 + 1)) ∧ (WV Sx G M_X2_sumOf Q 5 [jR 28, jR 32, jI x2, jI x3, jI (x4 + 1)] [] h)))) :
    WV Sx G M_X2_sumOf Q 5 [jR 28, jR 32, jI x2, jI x3, jI x4] [] h := by
  refine s_iload dX2_sumOf_5 rfl ?_
  refine s_aload_n dX2_sumOf_7 rfl ?_
  refine s_getr dX2_sumOf_8 fl_X2_24 rfl rfl ?_
  refine s_geti (x := h.1 2 2) dX2_sumOf_11 fl_X2_44 rfl rfl rfl ?_
  refine s_icmp_ge (tgt := 40) dX2_sumOf_14 (by decide) (fun hc => ?_) (fun hc => ?_)
  · have H := H.1 hc
    refine s_iload_n dX2_sumOf_40 rfl ?_
    exact s_iret dX2_sumOf_41 rfl H
  · have H := H.2 hc
    refine s_iload_n dX2_sumOf_17 rfl ?_
    refine s_iload dX2_sumOf_18 rfl ?_
    refine s_ishr dX2_sumOf_20 ?_
    refine s_iconst dX2_sumOf_21 (j_cst rfl) ?_
    refine s_iand dX2_sumOf_22 ?_
    refine s_iconst dX2_sumOf_23 (j_cst rfl) ?_
    refine s_icmp_ne (tgt := 34) dX2_sumOf_24 (by decide) (fun hc => ?_) (fun hc => ?_)
    · have H := H.2 hc
      obtain ⟨k1, H⟩ := H
      refine s_iinc (lv' := [jR 28, jR 32, jI x2, jI x3, jI (x4 + 1)]) dX2_sumOf_34 rfl (by decide) k1 rfl ?_
      refine s_goto (tgt := 5) dX2_sumOf_37 (by decide) ?_
      exact H
    · have H := H.1 hc
      refine s_iload_n dX2_sumOf_27 rfl ?_
      refine s_aload_n dX2_sumOf_28 rfl ?_
      refine s_iload dX2_sumOf_29 rfl ?_
      obtain ⟨k2, H⟩ := H
      refine s_iald (x := h.1 32 (Int.toNat x4)) dX2_sumOf_31 rfl k2 rfl ?_
      obtain ⟨k3, H⟩ := H
      refine s_iadd dX2_sumOf_32 k3 ?_
      refine s_istore_n (lv' := [jR 28, jR 32, jI x2, jI (x3 + (h.1 32 (Int.toNat x4))), jI x4]) dX2_sumOf_33 (by decide) rfl ?_
      obtain ⟨k4, H⟩ := H
      refine s_iinc (lv' := [jR 28, jR 32, jI x2, jI (x3 + (h.1 32 (Int.toNat x4))), jI (x4 + 1)]) dX2_sumOf_34 rfl (by decide) k4 rfl ?_
      refine s_goto (tgt := 5) dX2_sumOf_37 (by decide) ?_
      exact H
theorem en_X2_waitedOf_28 {x1 : Int} {h : jH} {post : jQ} (k : ∀ G, WV Sx G M_X2_waitedOf post 0 [jR 28, jI x1] [] h) : CT Sx M_X2_waitedOf [jR 28, jI x1] h post := CT.of (by decide +kernel) (by simp [j_un]) (by decide) _ rfl k
set_option maxRecDepth 20000 in
theorem vc_X2_waitedOf_28_0 {G : jG} {Q : jQ} {x1 : Int} {h : jH}
    (H : ∃ post : Int → jH → Prop, CT Sx M_X2_sumOf [jR 28, jR 32, jI x1] h (jPi post) ∧ ∀ (r1 : Int) (h2 : jH), post r1 h2 → (Q (some (jI r1)) h2)) :
    WV Sx G M_X2_waitedOf Q 0 [jR 28, jI x1] [] h := by
  refine s_aload_n dX2_waitedOf_0 rfl ?_
  refine s_aload_n dX2_waitedOf_1 rfl ?_
  refine s_getr dX2_waitedOf_2 fl_X2_21 rfl rfl ?_
  refine s_iload_n dX2_waitedOf_5 rfl ?_
  obtain ⟨post, hct, H⟩ := H
  refine s_callV (as := [jR 32, jI x1]) (st := []) dX2_waitedOf_6 mv_X2_79 ⟨rfl, rfl, by decide, by decide⟩ rfl rfl rfl (by decide) _ rfl hct (fun r1 h2 hp => ?_)
  obtain ⟨r1, rfl, hp⟩ := hp
  have H := H r1 h2 hp
  show WV _ _ _ _ 9 [jR 28, jI x1] [jI r1] h2
  exact s_iret dX2_waitedOf_9 rfl H
theorem en_X7_isRule {x0 : Int} {h : jH} {post : jQ} (k : ∀ G, WV Sx G M_X7_isRule post 0 [jI x0] [] h) : CT Sx M_X7_isRule [jI x0] h post := CT.of (by decide +kernel) (by simp [j_un]) (by decide) _ rfl k
set_option maxRecDepth 20000 in
theorem vc_X7_isRule_0 {G : jG} {Q : jQ} {x0 : Int} {h : jH}
    (H : (x0 < 0 → Q (some (jI 0)) h) ∧ (¬ x0 < 0 → (2 < x0 → Q (some (jI 0)) h) ∧ (¬ 2 < x0 → Q (some (jI 1)) h))) :
    WV Sx G M_X7_isRule Q 0 [jI x0] [] h := by
  refine s_iload_n dX7_isRule_0 rfl ?_
  refine s_if_lt (tgt := 13) dX7_isRule_1 (by decide) (fun hc => ?_) (fun hc => ?_)
  · have H := H.1 hc
    refine s_iconst dX7_isRule_13 (j_cst rfl) ?_
    exact s_zret dX7_isRule_14 rfl (Or.inl rfl) H
  · have H := H.2 hc
    refine s_iload_n dX7_isRule_4 rfl ?_
    refine s_iconst dX7_isRule_5 (j_cst rfl) ?_
    refine s_icmp_gt (tgt := 13) dX7_isRule_6 (by decide) (fun hc => ?_) (fun hc => ?_)
    · have H := H.1 hc
      refine s_iconst dX7_isRule_13 (j_cst rfl) ?_
      exact s_zret dX7_isRule_14 rfl (Or.inl rfl) H
    · have H := H.2 hc
      refine s_iconst dX7_isRule_9 (j_cst rfl) ?_
      refine s_goto (tgt := 14) dX7_isRule_10 (by decide) ?_
      exact s_zret dX7_isRule_14 rfl (Or.inr rfl) H
theorem en_X7_byRule_0 {x1 x2 x3 : Int} {h : jH} {post : jQ} (k : ∀ G, WV Sx G M_X7_byRule post 0 [jR 0, jI x1, jI x2, jI x3] [] h) : CT Sx M_X7_byRule [jR 0, jI x1, jI x2, jI x3] h post := CT.of (by decide +kernel) (by simp [j_un]) (by decide) _ rfl k
set_option maxRecDepth 20000 in
theorem vc_X7_byRule_0_0 {G : jG} {Q : jQ} {x1 x2 x3 : Int} {h : jH}
    (H : ∃ post : Int → jH → Prop, CT Sx M_X7_isRule [jI x1] h (jPi post) ∧ ∀ (r1 : Int) (h2 : jH), post r1 h2 → ((r1 = 0 → Q (some (jI (-1))) h2) ∧ (¬ r1 = 0 → (x2 < 0 → Q (some (jI (-1))) h2) ∧ (¬ x2 < 0 → (60 < x2 → Q (some (jI (-1))) h2) ∧ (¬ 60 < x2 → (x3 < 0 → Q (some (jI (-1))) h2) ∧ (¬ x3 < 0 → (x3 ≤ 2 → ∃ post : jH → Prop, CT Sx M_X0_go [jR 26, jR 17, jI x1, jI x2, jI (h2.1 2 1)] h2 (jPv post) ∧ ∀ (h4 : jH), post h4 → ((x3 = 0 → ∃ post : Int → jH → Prop, CT Sx M_X2_those [jR 28, jI 3] h4 (jPi post) ∧ ∀ (r5 : Int) (h6 : jH), post r5 h6 → (∃ post : Int → jH → Prop, CT Sx M_J6_bitCount_0f7a4 [jI r5] h6 (jPi post) ∧ ∀ (r7 : Int) (h8 : jH), post r7 h8 → (Q (some (jI r7)) h8))) ∧ (x3 = 1 → ∃ post : Int → jH → Prop, CT Sx M_X2_waitedOf [jR 28, jI 127] h4 (jPi post) ∧ ∀ (r9 : Int) (h10 : jH), post r9 h10 → (Q (some (jI r9)) h10)) ∧ (¬ x3 = 0 ∧ ¬ x3 = 1 → Q (some (jI (h4.1 26 3))) h4))) ∧ (¬ x3 ≤ 2 → Q (some (jI (-1))) h2))))))) :
    WV Sx G M_X7_byRule Q 0 [jR 0, jI x1, jI x2, jI x3] [] h := by
  refine s_iload_n dX7_byRule_0 rfl ?_
  obtain ⟨post, hct, H⟩ := H
  refine s_callS (as := [jI x1]) (st := []) dX7_byRule_1 ms_X7_183 ⟨rfl, rfl, by decide, by decide⟩ (by decide) _ rfl hct (fun r1 h2 hp => ?_)
  obtain ⟨r1, rfl, hp⟩ := hp
  have H := H r1 h2 hp
  show WV _ _ _ _ 4 [jR 0, jI x1, jI x2, jI x3] [jI r1] h2
  refine s_if_eq (tgt := 26) dX7_byRule_4 (by decide) (fun hc => ?_) (fun hc => ?_)
  · have H := H.1 hc
    refine s_iconst dX7_byRule_26 (j_cst rfl) ?_
    exact s_iret dX7_byRule_27 rfl H
  · have H := H.2 hc
    refine s_iload_n dX7_byRule_7 rfl ?_
    refine s_if_lt (tgt := 26) dX7_byRule_8 (by decide) (fun hc => ?_) (fun hc => ?_)
    · have H := H.1 hc
      refine s_iconst dX7_byRule_26 (j_cst rfl) ?_
      exact s_iret dX7_byRule_27 rfl H
    · have H := H.2 hc
      refine s_iload_n dX7_byRule_11 rfl ?_
      refine s_bipush dX7_byRule_12 rfl (j_cst rfl) ?_
      refine s_icmp_gt (tgt := 26) dX7_byRule_14 (by decide) (fun hc => ?_) (fun hc => ?_)
      · have H := H.1 hc
        refine s_iconst dX7_byRule_26 (j_cst rfl) ?_
        exact s_iret dX7_byRule_27 rfl H
      · have H := H.2 hc
        refine s_iload_n dX7_byRule_17 rfl ?_
        refine s_if_lt (tgt := 26) dX7_byRule_18 (by decide) (fun hc => ?_) (fun hc => ?_)
        · have H := H.1 hc
          refine s_iconst dX7_byRule_26 (j_cst rfl) ?_
          exact s_iret dX7_byRule_27 rfl H
        · have H := H.2 hc
          refine s_iload_n dX7_byRule_21 rfl ?_
          refine s_iconst dX7_byRule_22 (j_cst rfl) ?_
          refine s_icmp_le (tgt := 28) dX7_byRule_23 (by decide) (fun hc => ?_) (fun hc => ?_)
          · have H := H.1 hc
            refine s_aload_n dX7_byRule_28 rfl ?_
            refine s_getr dX7_byRule_29 fl_X7_55 rfl rfl ?_
            refine s_aload_n dX7_byRule_32 rfl ?_
            refine s_getr dX7_byRule_33 fl_X7_34 rfl rfl ?_
            refine s_iload_n dX7_byRule_36 rfl ?_
            refine s_iload_n dX7_byRule_37 rfl ?_
            refine s_aload_n dX7_byRule_38 rfl ?_
            refine s_getr dX7_byRule_39 fl_X7_16 rfl rfl ?_
            refine s_geti (x := h2.1 2 1) dX7_byRule_42 fl_X7_150 rfl rfl rfl ?_
            obtain ⟨post, hct, H⟩ := H
            refine s_callV (as := [jR 17, jI x1, jI x2, jI (h2.1 2 1)]) (st := []) dX7_byRule_45 mv_X7_186 ⟨rfl, rfl, by decide, by decide⟩ rfl rfl rfl (by decide) _ rfl hct (fun r3 h4 hp => ?_)
            obtain ⟨rfl, hp⟩ := hp
            have H := H h4 hp
            show WV _ _ _ _ 48 [jR 0, jI x1, jI x2, jI x3] [] h4
            refine s_iload_n dX7_byRule_48 rfl ?_
            by_cases hc0 : x3 = 0
            · have H := H.1 hc0
              refine s_lookup (off := 27) (tgt := 76) dX7_byRule_49 (by decide) (by rw [hc0]; decide) (by decide) ?_
              refine s_aload_n dX7_byRule_76 rfl ?_
              refine s_getr dX7_byRule_77 fl_X7_55 rfl rfl ?_
              refine s_getr dX7_byRule_80 fl_X7_190 rfl rfl ?_
              refine s_iconst dX7_byRule_83 (j_cst rfl) ?_
              obtain ⟨post, hct, H⟩ := H
              refine s_callV (as := [jI 3]) (st := []) dX7_byRule_84 mv_X7_137 ⟨rfl, rfl, by decide, by decide⟩ rfl rfl rfl (by decide) _ rfl hct (fun r5 h6 hp => ?_)
              obtain ⟨r5, rfl, hp⟩ := hp
              have H := H r5 h6 hp
              show WV _ _ _ _ 87 [jR 0, jI x1, jI x2, jI x3] [jI r5] h6
              obtain ⟨post, hct, H⟩ := H
              refine s_callS (as := [jI r5]) (st := []) dX7_byRule_87 ms_X7_153 ⟨rfl, rfl, by decide, by decide⟩ (by decide) _ rfl hct (fun r7 h8 hp => ?_)
              obtain ⟨r7, rfl, hp⟩ := hp
              have H := H r7 h8 hp
              show WV _ _ _ _ 90 [jR 0, jI x1, jI x2, jI x3] [jI r7] h8
              exact s_iret dX7_byRule_90 rfl H
            by_cases hc1 : x3 = 1
            · have H := H.2.1 hc1
              refine s_lookup (off := 42) (tgt := 91) dX7_byRule_49 (by decide) (by rw [hc1]; decide) (by decide) ?_
              refine s_aload_n dX7_byRule_91 rfl ?_
              refine s_getr dX7_byRule_92 fl_X7_55 rfl rfl ?_
              refine s_getr dX7_byRule_95 fl_X7_190 rfl rfl ?_
              refine s_bipush dX7_byRule_98 rfl (j_cst rfl) ?_
              obtain ⟨post, hct, H⟩ := H
              refine s_callV (as := [jI 127]) (st := []) dX7_byRule_100 mv_X7_193 ⟨rfl, rfl, by decide, by decide⟩ rfl rfl rfl (by decide) _ rfl hct (fun r9 h10 hp => ?_)
              obtain ⟨r9, rfl, hp⟩ := hp
              have H := H r9 h10 hp
              show WV _ _ _ _ 103 [jR 0, jI x1, jI x2, jI x3] [jI r9] h10
              exact s_iret dX7_byRule_103 rfl H
            · have H := H.2.2 ⟨hc0, hc1⟩
              refine s_lookup (off := 55) (tgt := 104) dX7_byRule_49 (by decide) (by simp [Op.lookupswitch.offset, hc0, hc1]) (by decide) ?_
              refine s_aload_n dX7_byRule_104 rfl ?_
              refine s_getr dX7_byRule_105 fl_X7_55 rfl rfl ?_
              refine s_geti (x := h4.1 26 3) dX7_byRule_108 fl_X7_196 rfl rfl rfl ?_
              exact s_iret dX7_byRule_111 rfl H
          · have H := H.2 hc
            refine s_iconst dX7_byRule_26 (j_cst rfl) ?_
            exact s_iret dX7_byRule_27 rfl H
theorem en_X7_enough_0 {x1 : Int} {h : jH} {post : jQ} (k : ∀ G, WV Sx G M_X7_enough post 0 [jR 0, jI x1, jU] [] h) : CT Sx M_X7_enough [jR 0, jI x1] h post := CT.of (by decide +kernel) (by simp [j_un]) (by decide) _ rfl k
set_option maxRecDepth 20000 in
theorem vc_X7_enough_0_0 {G : jG} {Q : jQ} {x1 : Int} {h : jH}
    (H : ∃ post : Int → jH → Prop, CT Sx M_X7_isRule [jI x1] h (jPi post) ∧ ∀ (r1 : Int) (h2 : jH), post r1 h2 → ((r1 = 0 → Q (some (jI (-1))) h2) ∧ (¬ r1 = 0 → WV Sx G M_X7_enough Q 11 [jR 0, jI x1, jI 1] [] h2))) :
    WV Sx G M_X7_enough Q 0 [jR 0, jI x1, jU] [] h := by
  refine s_iload_n dX7_enough_0 rfl ?_
  obtain ⟨post, hct, H⟩ := H
  refine s_callS (as := [jI x1]) (st := []) dX7_enough_1 ms_X7_183 ⟨rfl, rfl, by decide, by decide⟩ (by decide) _ rfl hct (fun r1 h2 hp => ?_)
  obtain ⟨r1, rfl, hp⟩ := hp
  have H := H r1 h2 hp
  show WV _ _ _ _ 4 [jR 0, jI x1, jU] [jI r1] h2
  refine s_if_ne (tgt := 9) dX7_enough_4 (by decide) (fun hc => ?_) (fun hc => ?_)
  · have H := H.2 hc
    refine s_iconst dX7_enough_9 (j_cst rfl) ?_
    refine s_istore_n (lv' := [jR 0, jI x1, jI 1]) dX7_enough_10 (by decide) rfl ?_
    exact H
  · have H := H.1 hc
    refine s_iconst dX7_enough_7 (j_cst rfl) ?_
    exact s_iret dX7_enough_8 rfl H
set_option maxRecDepth 20000 in
theorem vc_X7_enough_0_11 {G : jG} {Q : jQ} {x1 x2 : Int} {h : jH}
    (H : (4 < x2 → Q (some (jI (-9))) h) ∧ (¬ 4 < x2 → ∃ post : jH → Prop, CT Sx M_X0_go [jR 26, jR 17, jI x1, jI 60, jI x2] h (jPv post) ∧ ∀ (h2 : jH), post h2 → (((h2.1 26 4) = 0 → Q (some (jI x2)) h2) ∧ (¬ (h2.1 26 4) = 0 → (j_rg (x2 + 1)) ∧ (WV Sx G M_X7_enough Q 11 [jR 0, jI x1, jI (x2 + 1)] [] h2))))) :
    WV Sx G M_X7_enough Q 11 [jR 0, jI x1, jI x2] [] h := by
  refine s_iload_n dX7_enough_11 rfl ?_
  refine s_iconst dX7_enough_12 (j_cst rfl) ?_
  refine s_icmp_gt (tgt := 49) dX7_enough_13 (by decide) (fun hc => ?_) (fun hc => ?_)
  · have H := H.1 hc
    refine s_bipush dX7_enough_49 rfl (j_cst rfl) ?_
    exact s_iret dX7_enough_51 rfl H
  · have H := H.2 hc
    refine s_aload_n dX7_enough_16 rfl ?_
    refine s_getr dX7_enough_17 fl_X7_55 rfl rfl ?_
    refine s_aload_n dX7_enough_20 rfl ?_
    refine s_getr dX7_enough_21 fl_X7_34 rfl rfl ?_
    refine s_iload_n dX7_enough_24 rfl ?_
    refine s_bipush dX7_enough_25 rfl (j_cst rfl) ?_
    refine s_iload_n dX7_enough_27 rfl ?_
    obtain ⟨post, hct, H⟩ := H
    refine s_callV (as := [jR 17, jI x1, jI 60, jI x2]) (st := []) dX7_enough_28 mv_X7_186 ⟨rfl, rfl, by decide, by decide⟩ rfl rfl rfl (by decide) _ rfl hct (fun r1 h2 hp => ?_)
    obtain ⟨rfl, hp⟩ := hp
    have H := H h2 hp
    show WV _ _ _ _ 31 [jR 0, jI x1, jI x2] [] h2
    refine s_aload_n dX7_enough_31 rfl ?_
    refine s_getr dX7_enough_32 fl_X7_55 rfl rfl ?_
    refine s_geti (x := h2.1 26 4) dX7_enough_35 fl_X7_199 rfl rfl rfl ?_
    refine s_if_ne (tgt := 43) dX7_enough_38 (by decide) (fun hc => ?_) (fun hc => ?_)
    · have H := H.2 hc
      obtain ⟨k3, H⟩ := H
      refine s_iinc (lv' := [jR 0, jI x1, jI (x2 + 1)]) dX7_enough_43 rfl (by decide) k3 rfl ?_
      refine s_goto (tgt := 11) dX7_enough_46 (by decide) ?_
      exact H
    · have H := H.1 hc
      refine s_iload_n dX7_enough_41 rfl ?_
      exact s_iret dX7_enough_42 rfl H
theorem en_X2_sumOf_17_21 {x2 : Int} {h : jH} {post : jQ} (k : ∀ G, WV Sx G M_X2_sumOf post 0 [jR 17, jR 21, jI x2, jU, jU] [] h) : CT Sx M_X2_sumOf [jR 17, jR 21, jI x2] h post := CT.of (by decide +kernel) (by simp [j_un]) (by decide) _ rfl k
set_option maxRecDepth 20000 in
theorem vc_X2_sumOf_17_21_0 {G : jG} {Q : jQ} {x2 : Int} {h : jH}
    (H : WV Sx G M_X2_sumOf Q 5 [jR 17, jR 21, jI x2, jI 0, jI 0] [] h) :
    WV Sx G M_X2_sumOf Q 0 [jR 17, jR 21, jI x2, jU, jU] [] h := by
  refine s_iconst dX2_sumOf_0 (j_cst rfl) ?_
  refine s_istore_n (lv' := [jR 17, jR 21, jI x2, jI 0, jU]) dX2_sumOf_1 (by decide) rfl ?_
  refine s_iconst dX2_sumOf_2 (j_cst rfl) ?_
  refine s_istore (lv' := [jR 17, jR 21, jI x2, jI 0, jI 0]) dX2_sumOf_3 (by decide) rfl ?_
  exact H
set_option maxRecDepth 20000 in
theorem vc_X2_sumOf_17_21_5 {G : jG} {Q : jQ} {x2 x3 x4 : Int} {h : jH}
    (H : ((h.1 2 2) ≤ x4 → Q (some (jI x3)) h) ∧ (¬ (h.1 2 2) ≤ x4 → ((b_and (b_shr x2 x4) 1) = 1 → (0 ≤ x4 ∧ x4 < 7) ∧ ((j_rg (x3 + (h.1 21 (Int.toNat x4)))) ∧ ((j_rg (x4 + 1)) ∧ (WV Sx G M_X2_sumOf Q 5 [jR 17, jR 21, jI x2, jI (x3 + (h.1 21 (Int.toNat x4))), jI (x4 + 1)] [] h)))) ∧ (¬ (b_and (b_shr x2 x4) 1) = 1 → (j_rg (x4 + 1)) ∧ (WV Sx G M_X2_sumOf Q 5 [jR 17, jR 21, jI x2, jI x3, jI (x4 + 1)] [] h)))) :
    WV Sx G M_X2_sumOf Q 5 [jR 17, jR 21, jI x2, jI x3, jI x4] [] h := by
  refine s_iload dX2_sumOf_5 rfl ?_
  refine s_aload_n dX2_sumOf_7 rfl ?_
  refine s_getr dX2_sumOf_8 fl_X2_24 rfl rfl ?_
  refine s_geti (x := h.1 2 2) dX2_sumOf_11 fl_X2_44 rfl rfl rfl ?_
  refine s_icmp_ge (tgt := 40) dX2_sumOf_14 (by decide) (fun hc => ?_) (fun hc => ?_)
  · have H := H.1 hc
    refine s_iload_n dX2_sumOf_40 rfl ?_
    exact s_iret dX2_sumOf_41 rfl H
  · have H := H.2 hc
    refine s_iload_n dX2_sumOf_17 rfl ?_
    refine s_iload dX2_sumOf_18 rfl ?_
    refine s_ishr dX2_sumOf_20 ?_
    refine s_iconst dX2_sumOf_21 (j_cst rfl) ?_
    refine s_iand dX2_sumOf_22 ?_
    refine s_iconst dX2_sumOf_23 (j_cst rfl) ?_
    refine s_icmp_ne (tgt := 34) dX2_sumOf_24 (by decide) (fun hc => ?_) (fun hc => ?_)
    · have H := H.2 hc
      obtain ⟨k1, H⟩ := H
      refine s_iinc (lv' := [jR 17, jR 21, jI x2, jI x3, jI (x4 + 1)]) dX2_sumOf_34 rfl (by decide) k1 rfl ?_
      refine s_goto (tgt := 5) dX2_sumOf_37 (by decide) ?_
      exact H
    · have H := H.1 hc
      refine s_iload_n dX2_sumOf_27 rfl ?_
      refine s_aload_n dX2_sumOf_28 rfl ?_
      refine s_iload dX2_sumOf_29 rfl ?_
      obtain ⟨k2, H⟩ := H
      refine s_iald (x := h.1 21 (Int.toNat x4)) dX2_sumOf_31 rfl k2 rfl ?_
      obtain ⟨k3, H⟩ := H
      refine s_iadd dX2_sumOf_32 k3 ?_
      refine s_istore_n (lv' := [jR 17, jR 21, jI x2, jI (x3 + (h.1 21 (Int.toNat x4))), jI x4]) dX2_sumOf_33 (by decide) rfl ?_
      obtain ⟨k4, H⟩ := H
      refine s_iinc (lv' := [jR 17, jR 21, jI x2, jI (x3 + (h.1 21 (Int.toNat x4))), jI (x4 + 1)]) dX2_sumOf_34 rfl (by decide) k4 rfl ?_
      refine s_goto (tgt := 5) dX2_sumOf_37 (by decide) ?_
      exact H
theorem en_X2_waitedOf_17 {x1 : Int} {h : jH} {post : jQ} (k : ∀ G, WV Sx G M_X2_waitedOf post 0 [jR 17, jI x1] [] h) : CT Sx M_X2_waitedOf [jR 17, jI x1] h post := CT.of (by decide +kernel) (by simp [j_un]) (by decide) _ rfl k
set_option maxRecDepth 20000 in
theorem vc_X2_waitedOf_17_0 {G : jG} {Q : jQ} {x1 : Int} {h : jH}
    (H : ∃ post : Int → jH → Prop, CT Sx M_X2_sumOf [jR 17, jR 21, jI x1] h (jPi post) ∧ ∀ (r1 : Int) (h2 : jH), post r1 h2 → (Q (some (jI r1)) h2)) :
    WV Sx G M_X2_waitedOf Q 0 [jR 17, jI x1] [] h := by
  refine s_aload_n dX2_waitedOf_0 rfl ?_
  refine s_aload_n dX2_waitedOf_1 rfl ?_
  refine s_getr dX2_waitedOf_2 fl_X2_21 rfl rfl ?_
  refine s_iload_n dX2_waitedOf_5 rfl ?_
  obtain ⟨post, hct, H⟩ := H
  refine s_callV (as := [jR 21, jI x1]) (st := []) dX2_waitedOf_6 mv_X2_79 ⟨rfl, rfl, by decide, by decide⟩ rfl rfl rfl (by decide) _ rfl hct (fun r1 h2 hp => ?_)
  obtain ⟨r1, rfl, hp⟩ := hp
  have H := H r1 h2 hp
  show WV _ _ _ _ 9 [jR 17, jI x1] [jI r1] h2
  exact s_iret dX2_waitedOf_9 rfl H
theorem en_X5_prepare_33_17 {h : jH} {post : jQ} (k : ∀ G, WV Sx G M_X5_prepare post 0 [jR 33, jR 17, jU] [] h) : CT Sx M_X5_prepare [jR 33, jR 17] h post := CT.of (by decide +kernel) (by simp [j_un]) (by decide) _ rfl k
set_option maxRecDepth 20000 in
theorem vc_X5_prepare_33_17_0 {G : jG} {Q : jQ} {h : jH}
    (H : WV Sx G M_X5_prepare Q 7 [jR 33, jR 17, jI 0] [] (j_up h 33 3 0)) :
    WV Sx G M_X5_prepare Q 0 [jR 33, jR 17, jU] [] h := by
  refine s_aload_n dX5_prepare_0 rfl ?_
  refine s_iconst dX5_prepare_1 (j_cst rfl) ?_
  refine s_puti dX5_prepare_2 fp_X5_46 rfl rfl ?_
  refine s_iconst dX5_prepare_5 (j_cst rfl) ?_
  refine s_istore_n (lv' := [jR 33, jR 17, jI 0]) dX5_prepare_6 (by decide) rfl ?_
  exact H
set_option maxRecDepth 20000 in
theorem vc_X5_prepare_33_17_7 {G : jG} {Q : jQ} {x2 : Int} {h : jH}
    (H : ((h.1 2 2) ≤ x2 → Q none h) ∧ (¬ (h.1 2 2) ≤ x2 → (0 ≤ x2 ∧ x2 < 7) ∧ (((h.1 19 (Int.toNat x2)) = 2 → ((h.1 19 (Int.toNat x2)) = 1 → (0 ≤ h.1 33 3 ∧ h.1 33 3 < 7) ∧ ((j_rg ((h.1 33 3) + 1)) ∧ ((j_rg (x2 + 1)) ∧ (WV Sx G M_X5_prepare Q 7 [jR 33, jR 17, jI (x2 + 1)] [] (j_up (j_up (j_up (j_up h 36 (Int.toNat x2) (b_or (b_shl 1 (h.1 5 (Int.toNat x2))) (b_shl 1 (h.1 6 (Int.toNat x2))))) 37 (Int.toNat x2) (h.1 20 (Int.toNat x2))) 34 (Int.toNat (h.1 33 3)) x2) 33 3 ((h.1 33 3) + 1)))))) ∧ (¬ (h.1 19 (Int.toNat x2)) = 1 → (j_rg (x2 + 1)) ∧ (WV Sx G M_X5_prepare Q 7 [jR 33, jR 17, jI (x2 + 1)] [] (j_up (j_up h 36 (Int.toNat x2) (b_or (b_shl 1 (h.1 5 (Int.toNat x2))) (b_shl 1 (h.1 6 (Int.toNat x2))))) 37 (Int.toNat x2) (h.1 20 (Int.toNat x2)))))) ∧ (¬ (h.1 19 (Int.toNat x2)) = 2 → ((h.1 19 (Int.toNat x2)) = 1 → (0 ≤ h.1 33 3 ∧ h.1 33 3 < 7) ∧ ((j_rg ((h.1 33 3) + 1)) ∧ ((j_rg (x2 + 1)) ∧ (WV Sx G M_X5_prepare Q 7 [jR 33, jR 17, jI (x2 + 1)] [] (j_up (j_up (j_up (j_up h 36 (Int.toNat x2) (b_or (b_shl 1 (h.1 5 (Int.toNat x2))) (b_shl 1 (h.1 6 (Int.toNat x2))))) 37 (Int.toNat x2) 0) 34 (Int.toNat (h.1 33 3)) x2) 33 3 ((h.1 33 3) + 1)))))) ∧ (¬ (h.1 19 (Int.toNat x2)) = 1 → (j_rg (x2 + 1)) ∧ (WV Sx G M_X5_prepare Q 7 [jR 33, jR 17, jI (x2 + 1)] [] (j_up (j_up h 36 (Int.toNat x2) (b_or (b_shl 1 (h.1 5 (Int.toNat x2))) (b_shl 1 (h.1 6 (Int.toNat x2))))) 37 (Int.toNat x2) 0))))))) :
    WV Sx G M_X5_prepare Q 7 [jR 33, jR 17, jI x2] [] h := by
  refine s_iload_n dX5_prepare_7 rfl ?_
  refine s_aload_n dX5_prepare_8 rfl ?_
  refine s_getr dX5_prepare_9 fl_X5_27 rfl rfl ?_
  refine s_geti (x := h.1 2 2) dX5_prepare_12 fl_X5_59 rfl rfl rfl ?_
  refine s_icmp_ge (tgt := 109) dX5_prepare_15 (by decide) (fun hc => ?_) (fun hc => ?_)
  · have H := H.1 hc
    exact s_vret dX5_prepare_109 rfl H
  · have H := H.2 hc
    refine s_aload_n dX5_prepare_18 rfl ?_
    refine s_getr dX5_prepare_19 fl_X5_18 rfl rfl ?_
    refine s_iload_n dX5_prepare_22 rfl ?_
    refine s_iconst dX5_prepare_23 (j_cst rfl) ?_
    refine s_aload_n dX5_prepare_24 rfl ?_
    refine s_getr dX5_prepare_25 fl_X5_27 rfl rfl ?_
    refine s_getr dX5_prepare_28 fl_X5_64 rfl rfl ?_
    refine s_iload_n dX5_prepare_31 rfl ?_
    obtain ⟨k1, H⟩ := H
    refine s_iald (x := h.1 5 (Int.toNat x2)) dX5_prepare_32 rfl k1 rfl ?_
    refine s_ishl dX5_prepare_33 ?_
    refine s_iconst dX5_prepare_34 (j_cst rfl) ?_
    refine s_aload_n dX5_prepare_35 rfl ?_
    refine s_getr dX5_prepare_36 fl_X5_27 rfl rfl ?_
    refine s_getr dX5_prepare_39 fl_X5_67 rfl rfl ?_
    refine s_iload_n dX5_prepare_42 rfl ?_
    refine s_iald (x := h.1 6 (Int.toNat x2)) dX5_prepare_43 rfl k1 rfl ?_
    refine s_ishl dX5_prepare_44 ?_
    refine s_ior dX5_prepare_45 ?_
    refine s_iast dX5_prepare_46 rfl k1 ?_
    refine s_aload_n dX5_prepare_47 rfl ?_
    refine s_getr dX5_prepare_48 fl_X5_21 rfl rfl ?_
    refine s_iload_n dX5_prepare_51 rfl ?_
    refine s_aload_n dX5_prepare_52 rfl ?_
    refine s_getr dX5_prepare_53 fl_X5_70 rfl rfl ?_
    refine s_iload_n dX5_prepare_56 rfl ?_
    refine s_iald (x := h.1 19 (Int.toNat x2)) dX5_prepare_57 rfl k1 rfl ?_
    refine s_iconst dX5_prepare_58 (j_cst rfl) ?_
    refine s_icmp_ne (tgt := 71) dX5_prepare_59 (by decide) (fun hc => ?_) (fun hc => ?_)
    · have H := H.2 hc
      refine s_iconst dX5_prepare_71 (j_cst rfl) ?_
      refine s_iast dX5_prepare_72 rfl k1 ?_
      refine s_aload_n dX5_prepare_73 rfl ?_
      refine s_getr dX5_prepare_74 fl_X5_70 rfl rfl ?_
      refine s_iload_n dX5_prepare_77 rfl ?_
      refine s_iald (x := h.1 19 (Int.toNat x2)) dX5_prepare_78 rfl k1 rfl ?_
      refine s_iconst dX5_prepare_79 (j_cst rfl) ?_
      refine s_icmp_ne (tgt := 103) dX5_prepare_80 (by decide) (fun hc => ?_) (fun hc => ?_)
      · have H := H.2 hc
        obtain ⟨k2, H⟩ := H
        refine s_iinc (lv' := [jR 33, jR 17, jI (x2 + 1)]) dX5_prepare_103 rfl (by decide) k2 rfl ?_
        refine s_goto (tgt := 7) dX5_prepare_106 (by decide) ?_
        exact H
      · have H := H.1 hc
        refine s_aload_n dX5_prepare_83 rfl ?_
        refine s_getr dX5_prepare_84 fl_X5_9 rfl rfl ?_
        refine s_aload_n dX5_prepare_87 rfl ?_
        refine s_geti (x := h.1 33 3) dX5_prepare_88 fl_X5_46 rfl rfl rfl ?_
        refine s_iload_n dX5_prepare_91 rfl ?_
        obtain ⟨k3, H⟩ := H
        refine s_iast dX5_prepare_92 rfl k3 ?_
        refine s_aload_n dX5_prepare_93 rfl ?_
        refine s_dup dX5_prepare_94 rfl ?_
        refine s_geti (x := h.1 33 3) dX5_prepare_95 fl_X5_46 rfl rfl rfl ?_
        refine s_iconst dX5_prepare_98 (j_cst rfl) ?_
        obtain ⟨k4, H⟩ := H
        refine s_iadd dX5_prepare_99 k4 ?_
        refine s_puti dX5_prepare_100 fp_X5_46 rfl rfl ?_
        obtain ⟨k5, H⟩ := H
        refine s_iinc (lv' := [jR 33, jR 17, jI (x2 + 1)]) dX5_prepare_103 rfl (by decide) k5 rfl ?_
        refine s_goto (tgt := 7) dX5_prepare_106 (by decide) ?_
        exact H
    · have H := H.1 hc
      refine s_aload_n dX5_prepare_62 rfl ?_
      refine s_getr dX5_prepare_63 fl_X5_75 rfl rfl ?_
      refine s_iload_n dX5_prepare_66 rfl ?_
      refine s_iald (x := h.1 20 (Int.toNat x2)) dX5_prepare_67 rfl k1 rfl ?_
      refine s_goto (tgt := 72) dX5_prepare_68 (by decide) ?_
      refine s_iast dX5_prepare_72 rfl k1 ?_
      refine s_aload_n dX5_prepare_73 rfl ?_
      refine s_getr dX5_prepare_74 fl_X5_70 rfl rfl ?_
      refine s_iload_n dX5_prepare_77 rfl ?_
      refine s_iald (x := h.1 19 (Int.toNat x2)) dX5_prepare_78 rfl k1 rfl ?_
      refine s_iconst dX5_prepare_79 (j_cst rfl) ?_
      refine s_icmp_ne (tgt := 103) dX5_prepare_80 (by decide) (fun hc => ?_) (fun hc => ?_)
      · have H := H.2 hc
        obtain ⟨k6, H⟩ := H
        refine s_iinc (lv' := [jR 33, jR 17, jI (x2 + 1)]) dX5_prepare_103 rfl (by decide) k6 rfl ?_
        refine s_goto (tgt := 7) dX5_prepare_106 (by decide) ?_
        exact H
      · have H := H.1 hc
        refine s_aload_n dX5_prepare_83 rfl ?_
        refine s_getr dX5_prepare_84 fl_X5_9 rfl rfl ?_
        refine s_aload_n dX5_prepare_87 rfl ?_
        refine s_geti (x := h.1 33 3) dX5_prepare_88 fl_X5_46 rfl rfl rfl ?_
        refine s_iload_n dX5_prepare_91 rfl ?_
        obtain ⟨k7, H⟩ := H
        refine s_iast dX5_prepare_92 rfl k7 ?_
        refine s_aload_n dX5_prepare_93 rfl ?_
        refine s_dup dX5_prepare_94 rfl ?_
        refine s_geti (x := h.1 33 3) dX5_prepare_95 fl_X5_46 rfl rfl rfl ?_
        refine s_iconst dX5_prepare_98 (j_cst rfl) ?_
        obtain ⟨k8, H⟩ := H
        refine s_iadd dX5_prepare_99 k8 ?_
        refine s_puti dX5_prepare_100 fp_X5_46 rfl rfl ?_
        obtain ⟨k9, H⟩ := H
        refine s_iinc (lv' := [jR 33, jR 17, jI (x2 + 1)]) dX5_prepare_103 rfl (by decide) k9 rfl ?_
        refine s_goto (tgt := 7) dX5_prepare_106 (by decide) ?_
        exact H
theorem en_X5_nextEnd_33 {x1 : Int} {h : jH} {post : jQ} (k : ∀ G, WV Sx G M_X5_nextEnd post 0 [jR 33, jI x1, jU, jU] [] h) : CT Sx M_X5_nextEnd [jR 33, jI x1] h post := CT.of (by decide +kernel) (by simp [j_un]) (by decide) _ rfl k
set_option maxRecDepth 20000 in
theorem vc_X5_nextEnd_33_0 {G : jG} {Q : jQ} {x1 : Int} {h : jH}
    (H : WV Sx G M_X5_nextEnd Q 5 [jR 33, jI x1, jI 30, jI 0] [] h) :
    WV Sx G M_X5_nextEnd Q 0 [jR 33, jI x1, jU, jU] [] h := by
  refine s_bipush dX5_nextEnd_0 rfl (j_cst rfl) ?_
  refine s_istore_n (lv' := [jR 33, jI x1, jI 30, jU]) dX5_nextEnd_2 (by decide) rfl ?_
  refine s_iconst dX5_nextEnd_3 (j_cst rfl) ?_
  refine s_istore_n (lv' := [jR 33, jI x1, jI 30, jI 0]) dX5_nextEnd_4 (by decide) rfl ?_
  exact H
set_option maxRecDepth 20000 in
theorem vc_X5_nextEnd_33_5 {G : jG} {Q : jQ} {x1 x2 x3 : Int} {h : jH}
    (H : ((h.1 2 2) ≤ x3 → Q (some (jI x2)) h) ∧ (¬ (h.1 2 2) ≤ x3 → (0 ≤ x3 ∧ x3 < 7) ∧ (((h.1 38 (Int.toNat x3)) ≤ x1 → (j_rg (x3 + 1)) ∧ (WV Sx G M_X5_nextEnd Q 5 [jR 33, jI x1, jI x2, jI (x3 + 1)] [] h)) ∧ (¬ (h.1 38 (Int.toNat x3)) ≤ x1 → (x2 ≤ (h.1 38 (Int.toNat x3)) → (j_rg (x3 + 1)) ∧ (WV Sx G M_X5_nextEnd Q 5 [jR 33, jI x1, jI x2, jI (x3 + 1)] [] h)) ∧ (¬ x2 ≤ (h.1 38 (Int.toNat x3)) → (j_rg (x3 + 1)) ∧ (WV Sx G M_X5_nextEnd Q 5 [jR 33, jI x1, jI (h.1 38 (Int.toNat x3)), jI (x3 + 1)] [] h)))))) :
    WV Sx G M_X5_nextEnd Q 5 [jR 33, jI x1, jI x2, jI x3] [] h := by
  refine s_iload_n dX5_nextEnd_5 rfl ?_
  refine s_aload_n dX5_nextEnd_6 rfl ?_
  refine s_getr dX5_nextEnd_7 fl_X5_27 rfl rfl ?_
  refine s_geti (x := h.1 2 2) dX5_nextEnd_10 fl_X5_59 rfl rfl rfl ?_
  refine s_icmp_ge (tgt := 49) dX5_nextEnd_13 (by decide) (fun hc => ?_) (fun hc => ?_)
  · have H := H.1 hc
    refine s_iload_n dX5_nextEnd_49 rfl ?_
    exact s_iret dX5_nextEnd_50 rfl H
  · have H := H.2 hc
    refine s_aload_n dX5_nextEnd_16 rfl ?_
    refine s_getr dX5_nextEnd_17 fl_X5_24 rfl rfl ?_
    refine s_iload_n dX5_nextEnd_20 rfl ?_
    obtain ⟨k1, H⟩ := H
    refine s_iald (x := h.1 38 (Int.toNat x3)) dX5_nextEnd_21 rfl k1 rfl ?_
    refine s_iload_n dX5_nextEnd_22 rfl ?_
    refine s_icmp_le (tgt := 43) dX5_nextEnd_23 (by decide) (fun hc => ?_) (fun hc => ?_)
    · have H := H.1 hc
      obtain ⟨k2, H⟩ := H
      refine s_iinc (lv' := [jR 33, jI x1, jI x2, jI (x3 + 1)]) dX5_nextEnd_43 rfl (by decide) k2 rfl ?_
      refine s_goto (tgt := 5) dX5_nextEnd_46 (by decide) ?_
      exact H
    · have H := H.2 hc
      refine s_aload_n dX5_nextEnd_26 rfl ?_
      refine s_getr dX5_nextEnd_27 fl_X5_24 rfl rfl ?_
      refine s_iload_n dX5_nextEnd_30 rfl ?_
      refine s_iald (x := h.1 38 (Int.toNat x3)) dX5_nextEnd_31 rfl k1 rfl ?_
      refine s_iload_n dX5_nextEnd_32 rfl ?_
      refine s_icmp_ge (tgt := 43) dX5_nextEnd_33 (by decide) (fun hc => ?_) (fun hc => ?_)
      · have H := H.1 hc
        obtain ⟨k3, H⟩ := H
        refine s_iinc (lv' := [jR 33, jI x1, jI x2, jI (x3 + 1)]) dX5_nextEnd_43 rfl (by decide) k3 rfl ?_
        refine s_goto (tgt := 5) dX5_nextEnd_46 (by decide) ?_
        exact H
      · have H := H.2 hc
        refine s_aload_n dX5_nextEnd_36 rfl ?_
        refine s_getr dX5_nextEnd_37 fl_X5_24 rfl rfl ?_
        refine s_iload_n dX5_nextEnd_40 rfl ?_
        refine s_iald (x := h.1 38 (Int.toNat x3)) dX5_nextEnd_41 rfl k1 rfl ?_
        refine s_istore_n (lv' := [jR 33, jI x1, jI (h.1 38 (Int.toNat x3)), jI x3]) dX5_nextEnd_42 (by decide) rfl ?_
        obtain ⟨k4, H⟩ := H
        refine s_iinc (lv' := [jR 33, jI x1, jI (h.1 38 (Int.toNat x3)), jI (x3 + 1)]) dX5_nextEnd_43 rfl (by decide) k4 rfl ?_
        refine s_goto (tgt := 5) dX5_nextEnd_46 (by decide) ?_
        exact H
theorem en_X5_plugAlong_33 {x1 : Int} {h : jH} {post : jQ} (k : ∀ G, WV Sx G M_X5_plugAlong post 0 [jR 33, jI x1, jU, jU, jU, jU, jU] [] h) : CT Sx M_X5_plugAlong [jR 33, jI x1] h post := CT.of (by decide +kernel) (by simp [j_un]) (by decide) _ rfl k
set_option maxRecDepth 20000 in
theorem vc_X5_plugAlong_33_0 {G : jG} {Q : jQ} {x1 : Int} {h : jH}
    (H : WV Sx G M_X5_plugAlong Q 13 [jR 33, jI x1, jI 0, jI (h.1 2 1), jI 0, jU, jU] [] h) :
    WV Sx G M_X5_plugAlong Q 0 [jR 33, jI x1, jU, jU, jU, jU, jU] [] h := by
  refine s_iconst dX5_plugAlong_0 (j_cst rfl) ?_
  refine s_istore_n (lv' := [jR 33, jI x1, jI 0, jU, jU, jU, jU]) dX5_plugAlong_1 (by decide) rfl ?_
  refine s_aload_n dX5_plugAlong_2 rfl ?_
  refine s_getr dX5_plugAlong_3 fl_X5_27 rfl rfl ?_
  refine s_geti (x := h.1 2 1) dX5_plugAlong_6 fl_X5_84 rfl rfl rfl ?_
  refine s_istore_n (lv' := [jR 33, jI x1, jI 0, jI (h.1 2 1), jU, jU, jU]) dX5_plugAlong_9 (by decide) rfl ?_
  refine s_iconst dX5_plugAlong_10 (j_cst rfl) ?_
  refine s_istore (lv' := [jR 33, jI x1, jI 0, jI (h.1 2 1), jI 0, jU, jU]) dX5_plugAlong_11 (by decide) rfl ?_
  exact H
set_option maxRecDepth 20000 in
theorem vc_X5_plugAlong_33_13 {G : jG} {Q : jQ} {x1 x2 x3 x4 : Int} {h : jH}
    (H : ((h.1 2 2) ≤ x4 → WV Sx G M_X5_plugAlong Q 61 [jR 33, jI x1, jI x2, jI x3, jI 0, jI 0, jU] [] h) ∧ (¬ (h.1 2 2) ≤ x4 → (0 ≤ x4 ∧ x4 < 7) ∧ (((h.1 38 (Int.toNat x4)) ≤ x1 → (j_rg (x4 + 1)) ∧ (WV Sx G M_X5_plugAlong Q 13 [jR 33, jI x1, jI x2, jI x3, jI (x4 + 1), jU, jU] [] h)) ∧ (¬ (h.1 38 (Int.toNat x4)) ≤ x1 → (j_rg (x3 + (-1))) ∧ ((j_rg (x4 + 1)) ∧ (WV Sx G M_X5_plugAlong Q 13 [jR 33, jI x1, jI (b_or x2 (h.1 36 (Int.toNat x4))), jI (x3 + (-1)), jI (x4 + 1), jU, jU] [] h)))))) :
    WV Sx G M_X5_plugAlong Q 13 [jR 33, jI x1, jI x2, jI x3, jI x4, jU, jU] [] h := by
  refine s_iload dX5_plugAlong_13 rfl ?_
  refine s_aload_n dX5_plugAlong_15 rfl ?_
  refine s_getr dX5_plugAlong_16 fl_X5_27 rfl rfl ?_
  refine s_geti (x := h.1 2 2) dX5_plugAlong_19 fl_X5_59 rfl rfl rfl ?_
  refine s_icmp_ge (tgt := 55) dX5_plugAlong_22 (by decide) (fun hc => ?_) (fun hc => ?_)
  · have H := H.1 hc
    refine s_iconst dX5_plugAlong_55 (j_cst rfl) ?_
    refine s_istore (lv' := [jR 33, jI x1, jI x2, jI x3, jI 0, jU, jU]) dX5_plugAlong_56 (by decide) rfl ?_
    refine s_iconst dX5_plugAlong_58 (j_cst rfl) ?_
    refine s_istore (lv' := [jR 33, jI x1, jI x2, jI x3, jI 0, jI 0, jU]) dX5_plugAlong_59 (by decide) rfl ?_
    exact H
  · have H := H.2 hc
    refine s_aload_n dX5_plugAlong_25 rfl ?_
    refine s_getr dX5_plugAlong_26 fl_X5_24 rfl rfl ?_
    refine s_iload dX5_plugAlong_29 rfl ?_
    obtain ⟨k1, H⟩ := H
    refine s_iald (x := h.1 38 (Int.toNat x4)) dX5_plugAlong_31 rfl k1 rfl ?_
    refine s_iload_n dX5_plugAlong_32 rfl ?_
    refine s_icmp_le (tgt := 49) dX5_plugAlong_33 (by decide) (fun hc => ?_) (fun hc => ?_)
    · have H := H.1 hc
      obtain ⟨k2, H⟩ := H
      refine s_iinc (lv' := [jR 33, jI x1, jI x2, jI x3, jI (x4 + 1), jU, jU]) dX5_plugAlong_49 rfl (by decide) k2 rfl ?_
      refine s_goto (tgt := 13) dX5_plugAlong_52 (by decide) ?_
      exact H
    · have H := H.2 hc
      refine s_iload_n dX5_plugAlong_36 rfl ?_
      refine s_aload_n dX5_plugAlong_37 rfl ?_
      refine s_getr dX5_plugAlong_38 fl_X5_18 rfl rfl ?_
      refine s_iload dX5_plugAlong_41 rfl ?_
      refine s_iald (x := h.1 36 (Int.toNat x4)) dX5_plugAlong_43 rfl k1 rfl ?_
      refine s_ior dX5_plugAlong_44 ?_
      refine s_istore_n (lv' := [jR 33, jI x1, jI (b_or x2 (h.1 36 (Int.toNat x4))), jI x3, jI x4, jU, jU]) dX5_plugAlong_45 (by decide) rfl ?_
      obtain ⟨k3, H⟩ := H
      refine s_iinc (lv' := [jR 33, jI x1, jI (b_or x2 (h.1 36 (Int.toNat x4))), jI (x3 + (-1)), jI x4, jU, jU]) dX5_plugAlong_46 rfl (by decide) k3 rfl ?_
      obtain ⟨k4, H⟩ := H
      refine s_iinc (lv' := [jR 33, jI x1, jI (b_or x2 (h.1 36 (Int.toNat x4))), jI (x3 + (-1)), jI (x4 + 1), jU, jU]) dX5_plugAlong_49 rfl (by decide) k4 rfl ?_
      refine s_goto (tgt := 13) dX5_plugAlong_52 (by decide) ?_
      exact H
set_option maxRecDepth 20000 in
theorem vc_X5_plugAlong_33_61 {G : jG} {Q : jQ} {x1 x2 x3 x4 x5 : Int} {u6 : jV} {h : jH}
    (H : ((h.1 33 3) ≤ x5 → Q (some (jI x4)) h) ∧ (¬ (h.1 33 3) ≤ x5 → (0 ≤ x5 ∧ x5 < 7) ∧ ((0 ≤ h.1 34 (Int.toNat x5) ∧ h.1 34 (Int.toNat x5) < 7) ∧ (((h.1 38 (Int.toNat (h.1 34 (Int.toNat x5)))) = 0 → (x3 ≤ 0 → (j_rg (x4 + 1)) ∧ ((j_rg (x5 + 1)) ∧ (WV Sx G M_X5_plugAlong Q 61 [jR 33, jI x1, jI x2, jI x3, jI (x4 + 1), jI (x5 + 1), jI (h.1 34 (Int.toNat x5))] [] h))) ∧ (¬ x3 ≤ 0 → ((b_and x2 (h.1 36 (Int.toNat (h.1 34 (Int.toNat x5))))) = 0 → (j_rg (x1 + (h.1 7 (Int.toNat (h.1 34 (Int.toNat x5)))))) ∧ ((j_rg (x3 + (-1))) ∧ ((j_rg (x5 + 1)) ∧ (WV Sx G M_X5_plugAlong Q 61 [jR 33, jI x1, jI (b_or x2 (h.1 36 (Int.toNat (h.1 34 (Int.toNat x5))))), jI (x3 + (-1)), jI x4, jI (x5 + 1), jI (h.1 34 (Int.toNat x5))] [] (j_up h 38 (Int.toNat (h.1 34 (Int.toNat x5))) (x1 + (h.1 7 (Int.toNat (h.1 34 (Int.toNat x5)))))))))) ∧ (¬ (b_and x2 (h.1 36 (Int.toNat (h.1 34 (Int.toNat x5))))) = 0 → (j_rg (x4 + 1)) ∧ ((j_rg (x5 + 1)) ∧ (WV Sx G M_X5_plugAlong Q 61 [jR 33, jI x1, jI x2, jI x3, jI (x4 + 1), jI (x5 + 1), jI (h.1 34 (Int.toNat x5))] [] h))))) ∧ (¬ (h.1 38 (Int.toNat (h.1 34 (Int.toNat x5)))) = 0 → (j_rg (x5 + 1)) ∧ (WV Sx G M_X5_plugAlong Q 61 [jR 33, jI x1, jI x2, jI x3, jI x4, jI (x5 + 1), jI (h.1 34 (Int.toNat x5))] [] h)))))) :
    WV Sx G M_X5_plugAlong Q 61 [jR 33, jI x1, jI x2, jI x3, jI x4, jI x5, u6] [] h := by
  refine s_iload dX5_plugAlong_61 rfl ?_
  refine s_aload_n dX5_plugAlong_63 rfl ?_
  refine s_geti (x := h.1 33 3) dX5_plugAlong_64 fl_X5_46 rfl rfl rfl ?_
  refine s_icmp_ge (tgt := 152) dX5_plugAlong_67 (by decide) (fun hc => ?_) (fun hc => ?_)
  · have H := H.1 hc
    refine s_iload dX5_plugAlong_152 rfl ?_
    exact s_iret dX5_plugAlong_154 rfl H
  · have H := H.2 hc
    refine s_aload_n dX5_plugAlong_70 rfl ?_
    refine s_getr dX5_plugAlong_71 fl_X5_9 rfl rfl ?_
    refine s_iload dX5_plugAlong_74 rfl ?_
    obtain ⟨k1, H⟩ := H
    refine s_iald (x := h.1 34 (Int.toNat x5)) dX5_plugAlong_76 rfl k1 rfl ?_
    refine s_istore (lv' := [jR 33, jI x1, jI x2, jI x3, jI x4, jI x5, jI (h.1 34 (Int.toNat x5))]) dX5_plugAlong_77 (by decide) rfl ?_
    refine s_aload_n dX5_plugAlong_79 rfl ?_
    refine s_getr dX5_plugAlong_80 fl_X5_24 rfl rfl ?_
    refine s_iload dX5_plugAlong_83 rfl ?_
    obtain ⟨k2, H⟩ := H
    refine s_iald (x := h.1 38 (Int.toNat (h.1 34 (Int.toNat x5)))) dX5_plugAlong_85 rfl k2 rfl ?_
    refine s_if_eq (tgt := 92) dX5_plugAlong_86 (by decide) (fun hc => ?_) (fun hc => ?_)
    · have H := H.1 hc
      refine s_iload_n dX5_plugAlong_92 rfl ?_
      refine s_if_le (tgt := 143) dX5_plugAlong_93 (by decide) (fun hc => ?_) (fun hc => ?_)
      · have H := H.1 hc
        obtain ⟨k3, H⟩ := H
        refine s_iinc (lv' := [jR 33, jI x1, jI x2, jI x3, jI (x4 + 1), jI x5, jI (h.1 34 (Int.toNat x5))]) dX5_plugAlong_143 rfl (by decide) k3 rfl ?_
        obtain ⟨k4, H⟩ := H
        refine s_iinc (lv' := [jR 33, jI x1, jI x2, jI x3, jI (x4 + 1), jI (x5 + 1), jI (h.1 34 (Int.toNat x5))]) dX5_plugAlong_146 rfl (by decide) k4 rfl ?_
        refine s_goto (tgt := 61) dX5_plugAlong_149 (by decide) ?_
        exact H
      · have H := H.2 hc
        refine s_iload_n dX5_plugAlong_96 rfl ?_
        refine s_aload_n dX5_plugAlong_97 rfl ?_
        refine s_getr dX5_plugAlong_98 fl_X5_18 rfl rfl ?_
        refine s_iload dX5_plugAlong_101 rfl ?_
        refine s_iald (x := h.1 36 (Int.toNat (h.1 34 (Int.toNat x5)))) dX5_plugAlong_103 rfl k2 rfl ?_
        refine s_iand dX5_plugAlong_104 ?_
        refine s_if_ne (tgt := 143) dX5_plugAlong_105 (by decide) (fun hc => ?_) (fun hc => ?_)
        · have H := H.2 hc
          obtain ⟨k5, H⟩ := H
          refine s_iinc (lv' := [jR 33, jI x1, jI x2, jI x3, jI (x4 + 1), jI x5, jI (h.1 34 (Int.toNat x5))]) dX5_plugAlong_143 rfl (by decide) k5 rfl ?_
          obtain ⟨k6, H⟩ := H
          refine s_iinc (lv' := [jR 33, jI x1, jI x2, jI x3, jI (x4 + 1), jI (x5 + 1), jI (h.1 34 (Int.toNat x5))]) dX5_plugAlong_146 rfl (by decide) k6 rfl ?_
          refine s_goto (tgt := 61) dX5_plugAlong_149 (by decide) ?_
          exact H
        · have H := H.1 hc
          refine s_aload_n dX5_plugAlong_108 rfl ?_
          refine s_getr dX5_plugAlong_109 fl_X5_24 rfl rfl ?_
          refine s_iload dX5_plugAlong_112 rfl ?_
          refine s_iload_n dX5_plugAlong_114 rfl ?_
          refine s_aload_n dX5_plugAlong_115 rfl ?_
          refine s_getr dX5_plugAlong_116 fl_X5_27 rfl rfl ?_
          refine s_getr dX5_plugAlong_119 fl_X5_87 rfl rfl ?_
          refine s_iload dX5_plugAlong_122 rfl ?_
          refine s_iald (x := h.1 7 (Int.toNat (h.1 34 (Int.toNat x5)))) dX5_plugAlong_124 rfl k2 rfl ?_
          obtain ⟨k7, H⟩ := H
          refine s_iadd dX5_plugAlong_125 k7 ?_
          refine s_iast dX5_plugAlong_126 rfl k2 ?_
          refine s_iload_n dX5_plugAlong_127 rfl ?_
          refine s_aload_n dX5_plugAlong_128 rfl ?_
          refine s_getr dX5_plugAlong_129 fl_X5_18 rfl rfl ?_
          refine s_iload dX5_plugAlong_132 rfl ?_
          refine s_iald (x := h.1 36 (Int.toNat (h.1 34 (Int.toNat x5)))) dX5_plugAlong_134 rfl k2 rfl ?_
          refine s_ior dX5_plugAlong_135 ?_
          refine s_istore_n (lv' := [jR 33, jI x1, jI (b_or x2 (h.1 36 (Int.toNat (h.1 34 (Int.toNat x5))))), jI x3, jI x4, jI x5, jI (h.1 34 (Int.toNat x5))]) dX5_plugAlong_136 (by decide) rfl ?_
          obtain ⟨k8, H⟩ := H
          refine s_iinc (lv' := [jR 33, jI x1, jI (b_or x2 (h.1 36 (Int.toNat (h.1 34 (Int.toNat x5))))), jI (x3 + (-1)), jI x4, jI x5, jI (h.1 34 (Int.toNat x5))]) dX5_plugAlong_137 rfl (by decide) k8 rfl ?_
          refine s_goto (tgt := 146) dX5_plugAlong_140 (by decide) ?_
          obtain ⟨k9, H⟩ := H
          refine s_iinc (lv' := [jR 33, jI x1, jI (b_or x2 (h.1 36 (Int.toNat (h.1 34 (Int.toNat x5))))), jI (x3 + (-1)), jI x4, jI (x5 + 1), jI (h.1 34 (Int.toNat x5))]) dX5_plugAlong_146 rfl (by decide) k9 rfl ?_
          refine s_goto (tgt := 61) dX5_plugAlong_149 (by decide) ?_
          exact H
    · have H := H.2 hc
      refine s_goto (tgt := 146) dX5_plugAlong_89 (by decide) ?_
      obtain ⟨k10, H⟩ := H
      refine s_iinc (lv' := [jR 33, jI x1, jI x2, jI x3, jI x4, jI (x5 + 1), jI (h.1 34 (Int.toNat x5))]) dX5_plugAlong_146 rfl (by decide) k10 rfl ?_
      refine s_goto (tgt := 61) dX5_plugAlong_149 (by decide) ?_
      exact H
theorem en_X5_waitsFor_33 {x1 : Int} {h : jH} {post : jQ} (k : ∀ G, WV Sx G M_X5_waitsFor post 0 [jR 33, jI x1, jU, jU, jU, jU, jU] [] h) : CT Sx M_X5_waitsFor [jR 33, jI x1] h post := CT.of (by decide +kernel) (by simp [j_un]) (by decide) _ rfl k
set_option maxRecDepth 20000 in
theorem vc_X5_waitsFor_33_0 {G : jG} {Q : jQ} {x1 : Int} {h : jH}
    (H : WV Sx G M_X5_waitsFor Q 22 [jR 33, jI x1, jI 0, jI 0, jI 0, jU, jU] [] (j_cp h 37 0 38 0 7)) :
    WV Sx G M_X5_waitsFor Q 0 [jR 33, jI x1, jU, jU, jU, jU, jU] [] h := by
  refine s_aload_n dX5_waitsFor_0 rfl ?_
  refine s_getr dX5_waitsFor_1 fl_X5_21 rfl rfl ?_
  refine s_iconst dX5_waitsFor_4 (j_cst rfl) ?_
  refine s_aload_n dX5_waitsFor_5 rfl ?_
  refine s_getr dX5_waitsFor_6 fl_X5_24 rfl rfl ?_
  refine s_iconst dX5_waitsFor_9 (j_cst rfl) ?_
  refine s_bipush dX5_waitsFor_10 rfl (j_cst rfl) ?_
  refine s_copy dX5_waitsFor_12 ma_X5_49 ⟨by decide, by decide⟩ rfl rfl ⟨by decide, by decide, by decide, by decide, by decide⟩ ?_
  refine s_iconst dX5_waitsFor_15 (j_cst rfl) ?_
  refine s_istore_n (lv' := [jR 33, jI x1, jI 0, jU, jU, jU, jU]) dX5_waitsFor_16 (by decide) rfl ?_
  refine s_iconst dX5_waitsFor_17 (j_cst rfl) ?_
  refine s_istore_n (lv' := [jR 33, jI x1, jI 0, jI 0, jU, jU, jU]) dX5_waitsFor_18 (by decide) rfl ?_
  refine s_iconst dX5_waitsFor_19 (j_cst rfl) ?_
  refine s_istore (lv' := [jR 33, jI x1, jI 0, jI 0, jI 0, jU, jU]) dX5_waitsFor_20 (by decide) rfl ?_
  exact H
set_option maxRecDepth 20000 in
theorem vc_X5_waitsFor_33_22 {G : jG} {Q : jQ} {x1 x2 x3 x4 : Int} {u5 u6 : jV} {h : jH}
    (H : (30 ≤ x4 → Q (some (jI x2)) h) ∧ (¬ 30 ≤ x4 → (30 ≤ x3 → Q (some (jI x2)) h) ∧ (¬ 30 ≤ x3 → (x1 ≤ x2 → Q (some (jI x2)) h) ∧ (¬ x1 ≤ x2 → ∃ post : Int → jH → Prop, CT Sx M_X5_plugAlong [jR 33, jI x3] h (jPi post) ∧ ∀ (r1 : Int) (h2 : jH), post r1 h2 → ((r1 = 0 → Q (some (jI x2)) h2) ∧ (¬ r1 = 0 → ∃ post : Int → jH → Prop, CT Sx M_X5_nextEnd [jR 33, jI x3] h2 (jPi post) ∧ ∀ (r3 : Int) (h4 : jH), post r3 h4 → ((j_rg (r3 - x3)) ∧ ((j_rg (r1 * (r3 - x3))) ∧ ((j_rg (x2 + (r1 * (r3 - x3)))) ∧ ((j_rg (x4 + 1)) ∧ (WV Sx G M_X5_waitsFor Q 22 [jR 33, jI x1, jI (x2 + (r1 * (r3 - x3))), jI r3, jI (x4 + 1), jI r1, jI r3] [] h4))))))))))) :
    WV Sx G M_X5_waitsFor Q 22 [jR 33, jI x1, jI x2, jI x3, jI x4, u5, u6] [] h := by
  refine s_iload dX5_waitsFor_22 rfl ?_
  refine s_bipush dX5_waitsFor_24 rfl (j_cst rfl) ?_
  refine s_icmp_ge (tgt := 81) dX5_waitsFor_26 (by decide) (fun hc => ?_) (fun hc => ?_)
  · have H := H.1 hc
    refine s_iload_n dX5_waitsFor_81 rfl ?_
    exact s_iret dX5_waitsFor_82 rfl H
  · have H := H.2 hc
    refine s_iload_n dX5_waitsFor_29 rfl ?_
    refine s_bipush dX5_waitsFor_30 rfl (j_cst rfl) ?_
    refine s_icmp_ge (tgt := 81) dX5_waitsFor_32 (by decide) (fun hc => ?_) (fun hc => ?_)
    · have H := H.1 hc
      refine s_iload_n dX5_waitsFor_81 rfl ?_
      exact s_iret dX5_waitsFor_82 rfl H
    · have H := H.2 hc
      refine s_iload_n dX5_waitsFor_35 rfl ?_
      refine s_iload_n dX5_waitsFor_36 rfl ?_
      refine s_icmp_ge (tgt := 81) dX5_waitsFor_37 (by decide) (fun hc => ?_) (fun hc => ?_)
      · have H := H.1 hc
        refine s_iload_n dX5_waitsFor_81 rfl ?_
        exact s_iret dX5_waitsFor_82 rfl H
      · have H := H.2 hc
        refine s_aload_n dX5_waitsFor_40 rfl ?_
        refine s_iload_n dX5_waitsFor_41 rfl ?_
        obtain ⟨post, hct, H⟩ := H
        refine s_callV (as := [jI x3]) (st := []) dX5_waitsFor_42 mv_X5_78 ⟨rfl, rfl, by decide, by decide⟩ rfl rfl rfl (by decide) _ rfl hct (fun r1 h2 hp => ?_)
        obtain ⟨r1, rfl, hp⟩ := hp
        have H := H r1 h2 hp
        show WV _ _ _ _ 45 [jR 33, jI x1, jI x2, jI x3, jI x4, u5, u6] [jI r1] h2
        refine s_istore (lv' := [jR 33, jI x1, jI x2, jI x3, jI x4, jI r1, u6]) dX5_waitsFor_45 (by decide) rfl ?_
        refine s_iload dX5_waitsFor_47 rfl ?_
        refine s_if_ne (tgt := 55) dX5_waitsFor_49 (by decide) (fun hc => ?_) (fun hc => ?_)
        · have H := H.2 hc
          refine s_aload_n dX5_waitsFor_55 rfl ?_
          refine s_iload_n dX5_waitsFor_56 rfl ?_
          obtain ⟨post, hct, H⟩ := H
          refine s_callV (as := [jI x3]) (st := []) dX5_waitsFor_57 mv_X5_81 ⟨rfl, rfl, by decide, by decide⟩ rfl rfl rfl (by decide) _ rfl hct (fun r3 h4 hp => ?_)
          obtain ⟨r3, rfl, hp⟩ := hp
          have H := H r3 h4 hp
          show WV _ _ _ _ 60 [jR 33, jI x1, jI x2, jI x3, jI x4, jI r1, u6] [jI r3] h4
          refine s_istore (lv' := [jR 33, jI x1, jI x2, jI x3, jI x4, jI r1, jI r3]) dX5_waitsFor_60 (by decide) rfl ?_
          refine s_iload_n dX5_waitsFor_62 rfl ?_
          refine s_iload dX5_waitsFor_63 rfl ?_
          refine s_iload dX5_waitsFor_65 rfl ?_
          refine s_iload_n dX5_waitsFor_67 rfl ?_
          obtain ⟨k5, H⟩ := H
          refine s_isub dX5_waitsFor_68 k5 ?_
          obtain ⟨k6, H⟩ := H
          refine s_imul dX5_waitsFor_69 k6 ?_
          obtain ⟨k7, H⟩ := H
          refine s_iadd dX5_waitsFor_70 k7 ?_
          refine s_istore_n (lv' := [jR 33, jI x1, jI (x2 + (r1 * (r3 - x3))), jI x3, jI x4, jI r1, jI r3]) dX5_waitsFor_71 (by decide) rfl ?_
          refine s_iload dX5_waitsFor_72 rfl ?_
          refine s_istore_n (lv' := [jR 33, jI x1, jI (x2 + (r1 * (r3 - x3))), jI r3, jI x4, jI r1, jI r3]) dX5_waitsFor_74 (by decide) rfl ?_
          obtain ⟨k8, H⟩ := H
          refine s_iinc (lv' := [jR 33, jI x1, jI (x2 + (r1 * (r3 - x3))), jI r3, jI (x4 + 1), jI r1, jI r3]) dX5_waitsFor_75 rfl (by decide) k8 rfl ?_
          refine s_goto (tgt := 22) dX5_waitsFor_78 (by decide) ?_
          exact H
        · have H := H.1 hc
          refine s_goto (tgt := 81) dX5_waitsFor_52 (by decide) ?_
          refine s_iload_n dX5_waitsFor_81 rfl ?_
          exact s_iret dX5_waitsFor_82 rfl H
theorem en_X7_exchange_34 {x1 x2 : Int} {h : jH} {post : jQ} (k : ∀ G, WV Sx G M_X7_exchange post 0 [jR 34, jI x1, jI x2, jU] [] h) : CT Sx M_X7_exchange [jR 34, jI x1, jI x2] h post := CT.of (by decide +kernel) (by simp [j_un]) (by decide) _ rfl k
set_option maxRecDepth 20000 in
theorem vc_X7_exchange_34_0 {G : jG} {Q : jQ} {x1 x2 : Int} {h : jH}
    (H : (0 ≤ x1 ∧ x1 < 7) ∧ ((0 ≤ x2 ∧ x2 < 7) ∧ (Q none (j_up (j_up h 34 (Int.toNat x1) (h.1 34 (Int.toNat x2))) 34 (Int.toNat x2) (h.1 34 (Int.toNat x1)))))) :
    WV Sx G M_X7_exchange Q 0 [jR 34, jI x1, jI x2, jU] [] h := by
  refine s_aload_n dX7_exchange_0 rfl ?_
  refine s_iload_n dX7_exchange_1 rfl ?_
  obtain ⟨k1, H⟩ := H
  refine s_iald (x := h.1 34 (Int.toNat x1)) dX7_exchange_2 rfl k1 rfl ?_
  refine s_istore_n (lv' := [jR 34, jI x1, jI x2, jI (h.1 34 (Int.toNat x1))]) dX7_exchange_3 (by decide) rfl ?_
  refine s_aload_n dX7_exchange_4 rfl ?_
  refine s_iload_n dX7_exchange_5 rfl ?_
  refine s_aload_n dX7_exchange_6 rfl ?_
  refine s_iload_n dX7_exchange_7 rfl ?_
  obtain ⟨k2, H⟩ := H
  refine s_iald (x := h.1 34 (Int.toNat x2)) dX7_exchange_8 rfl k2 rfl ?_
  refine s_iast dX7_exchange_9 rfl k1 ?_
  refine s_aload_n dX7_exchange_10 rfl ?_
  refine s_iload_n dX7_exchange_11 rfl ?_
  refine s_iload_n dX7_exchange_12 rfl ?_
  refine s_iast dX7_exchange_13 rfl k2 ?_
  exact s_vret dX7_exchange_14 rfl H
