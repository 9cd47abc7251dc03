/-! pairs: plugs, pulls, swaps -/
theorem k_go {K : Int → jH → Prop} {v : Int} {h : jH} (k : K v h) : ∀ (r : Int) (h2 : jH), (r = v ∧ h2 = h) → K r h2 := by
  rintro _ _ ⟨rfl, rfl⟩
  exact k
theorem k_gv {K : jH → Prop} {h : jH} (k : K h) : ∀ (h2 : jH), h2 = h → K h2 := by
  rintro _ rfl
  exact k
theorem sh_sym {fr to : Nat → Int} {a b : Nat} : sh fr to a b = sh fr to b a := by
  unfold sh
  rw [ibc (fr b) (fr a), ibc (fr b) (to a), ibc (to b) (fr a), ibc (to b) (to a)]
  cases (fr a == fr b) <;> cases (fr a == to b) <;> cases (to a == fr b) <;> cases (to a == to b) <;> rfl
theorem p_plugs {a b : jH} (hR : Rel a b) (c : Int) : PR M_X7_plugs M_X8_plugs [jI c] a b := by
  obtain ⟨N, L, hB, hN, -⟩ := id hR
  have hp := hN.pf hB.1.2.2
  have hb := hB.1
  have h7 := hB.1.2.2
  have hx := hB.2.2.1
  by_cases e : 0 ≤ c ∧ c < (N : Int)
  · obtain ⟨c, rfl⟩ : ∃ k : Nat, c = (k : Int) := ⟨c.toNat, by omega⟩
    have hc : c < N := by omega
    have ecan : canp N (mF b) (mT b) (b.1 0 14) (mH b 5) c = canp N (a.1 5) (a.1 6) (a.1 2 1) (a.1 19) c := by
      rw [← hx.1]
      exact (canp_cg hB.hf hB.ht hp.hh hc).symm
    by_cases e2 : canp N (a.1 5) (a.1 6) (a.1 2 1) (a.1 19) c = true
    · obtain ⟨a1, hxa, x1, x2, hmn⟩ := addnote hR
      have f19 : ∀ j, (j_up (j_up a1 19 c 2) 20 c (a1.1 7 c)).1 19 j = if j = c then 2 else a.1 19 j := fun j => by
        rw [up_ne (by omega)]
        by_cases q : j = c
        · rw [if_pos q, q, up_eq]
        · rw [if_neg q, up_out q, x1 19 (by omega) (by omega)]
      refine PR.m (r := a.1 2 1 - (cnt (fun j => (if j = c then 2 else a.1 19 j) == 2) N : Nat)) (a2 := j_up (j_up a1 19 c 2) 20 c (a1.1 7 c)) (en_X7_plugs_0 (fun G => vc_X7_plugs_0_0 ⟨_, ct_hasCall _, ?_⟩)) (en_X8_plugs_0 (fun G => vc_X8_plugs_0_0 ⟨_, cm_isCall _ (by omega), ?_⟩))
      · refine k_go ?_
        rw [if_pos (by omega)]
        refine ⟨fun z => absurd z (by decide), fun _ => ⟨_, ct_canBePlugged_17 hB.1.1 h7 c _ (by omega), ?_⟩⟩
        refine k_go ?_
        refine ⟨fun z => absurd e2 (by rw [bi_0] at z; exact ne_true_of_eq_false z), fun _ => ⟨_, hxa, ?_⟩⟩
        refine k_gv ?_
        refine ⟨_, ct_plug_17 c (by omega), ?_⟩
        refine k_gv ?_
        have g2 : (j_up (j_up a1 19 c 2) 20 c (a1.1 7 c)).1 2 = a1.1 2 := rfl
        have g2' : a1.1 2 = a.1 2 := x1 2 (by omega) (by omega)
        refine ⟨_, ct_freeCords (by rw [g2, g2']; exact hB.1.1) h7 (by rw [g2, g2']; exact hx.2), ?_⟩
        refine k_go ?_
        refine ⟨_, rfl, ?_, rfl⟩
        rw [g2, g2']
        simp only [f19]
      · refine k_go ?_
        rw [if_pos (by omega)]
        refine ⟨fun z => absurd z (by decide), fun _ => ⟨_, cm_canPlug_5 hB.1.2.1 h7 c _ (by omega) (by omega), ?_⟩⟩
        refine k_go ?_
        refine ⟨fun z => absurd e2 (by rw [bi_0, ecan] at z; exact ne_true_of_eq_false z), fun _ => ⟨_, hmn, ?_⟩⟩
        rintro b1 ⟨hR1, y1, y2, y3⟩
        refine ⟨_, cm_plug_5 c (by omega), ?_⟩
        refine k_gv ?_
        have m5 : ∀ q, q ≠ 5 → (j_up (j_up b1 5 (7 + c) 2) 5 (14 + c) (mN b1 c)).1 q = b1.1 q := fun q hq => by rw [up_ne hq, up_ne hq]
        have hR2 : Rel (j_up (j_up a1 19 c 2) 20 c (a1.1 7 c)) (j_up (j_up b1 5 (7 + c) 2) 5 (14 + c) (mN b1 c)) := by
          refine hR1.np (fun k hk => by rw [up_ne (by omega), up_ne (by omega)]) m5 rfl rfl (fun M K hB1 hp1 => ?_)
          have hM : M = N := by have := hB1.1.1; rw [x1 2 (by omega) (by omega), hB.1.1] at this; omega
          subst hM
          have v19 : ∀ j, (j_up (j_up a1 19 c 2) 20 c (a1.1 7 c)).1 19 j = if j = c then 2 else a1.1 19 j := fun j => by rw [f19 j, x1 19 (by omega) (by omega)]
          have v20 : ∀ j, (j_up (j_up a1 19 c 2) 20 c (a1.1 7 c)).1 20 j = if j = c then a1.1 7 c else a1.1 20 j := fun j => by
            by_cases q : j = c
            · rw [if_pos q, q, up_eq]
            · rw [if_neg q, up_out q, up_ne (by omega)]
          have v21 : (j_up (j_up a1 19 c 2) 20 c (a1.1 7 c)).1 21 = a1.1 21 := rfl
          have v18 : (j_up (j_up a1 19 c 2) 20 c (a1.1 7 c)).1 18 = a1.1 18 := rfl
          have v17 : (j_up (j_up a1 19 c 2) 20 c (a1.1 7 c)).1 17 = a1.1 17 := rfl
          have v5 : (j_up (j_up a1 19 c 2) 20 c (a1.1 7 c)).1 5 = a1.1 5 := rfl
          have v6 : (j_up (j_up a1 19 c 2) 20 c (a1.1 7 c)).1 6 = a1.1 6 := rfl
          have mr : MRow (j_up (j_up b1 5 (7 + c) 2) 5 (14 + c) (mN b1 c)) 5 (b1.1 5 0) (mO b1 5) (fun j => if j = c then 2 else mH b1 5 j) (fun j => if j = c then mN b1 c else mL b1 5 j) (mW b1 5) := (MRow.self.uh (by omega) 2).ul (by omega) (mN b1 c)
          have lf : ∀ j, j < M → a1.1 19 j = 2 → sh (a1.1 5) (a1.1 6) c j = false := by
            intro j hj q
            rw [x1 19 (by omega) (by omega)] at q
            rw [x1 5 (by omega) (by omega), x1 6 (by omega) (by omega)]
            unfold canp at e2
            simp only [Bool.and_eq_true] at e2
            have l1 := allb_iff.mp e2.2.2 j hj
            rw [bt_tb] at l1
            simpa [hj, q] using l1
          obtain ⟨w1, w2, w3⟩ := mr
          unfold PF
          rw [v21, v18, v17, v5, v6]
          refine ⟨⟨by rw [w1]; exact hp1.1.1, hp1.1.2⟩, fun l hl => ⟨by rw [(hp1.2.1 l hl).1]; exact (w2 l hl).symm, (hp1.2.1 l hl).2⟩, hp1.2.2.1, fun j hj => ?_, fun i j hi hj hn q1 q2 => ?_⟩
          · have f1 := hp1.2.2.2.1 j hj
            have f3 := w3 j (by omega)
            have m1 : mH (j_up (j_up b1 5 (7 + c) 2) 5 (14 + c) (mN b1 c)) 5 j = if j = c then 2 else mH b1 5 j := f3.1
            have m2 : mL (j_up (j_up b1 5 (7 + c) 2) 5 (14 + c) (mN b1 c)) 5 j = if j = c then mN b1 c else mL b1 5 j := f3.2.1
            have m3 : mW (j_up (j_up b1 5 (7 + c) 2) 5 (14 + c) (mN b1 c)) 5 j = mW b1 5 j := f3.2.2
            have g7 := (hB1.2.2.2 c hc).2.2.2.1
            rw [m1, m2, m3, v19, v20]
            by_cases q : j = c
            · rw [if_pos q, if_pos q, if_pos q, if_pos q]
              exact ⟨rfl, f1.2.1, f1.2.2.1, by omega, by omega, fun _ => ⟨g7.1, by omega⟩, fun z => absurd rfl z⟩
            · rw [if_neg q, if_neg q, if_neg q, if_neg q]
              exact f1
          · rw [v19] at q1 q2
            by_cases z1 : i = c
            · rw [if_neg (by omega)] at q2
              rw [z1]
              exact lf j hj q2
            · rw [if_neg z1] at q1
              by_cases z2 : j = c
              · rw [z2, sh_sym]
                exact lf i hi q1
              · rw [if_neg z2] at q2
                exact hp1.2.2.2.2 i j hi hj hn q1 q2
        obtain ⟨M, K, hB2, hN2, -⟩ := id hR2
        have hM : M = N := by
          have := hB2.1.1
          rw [up_ne (by omega), up_ne (by omega), x1 2 (by omega) (by omega), hB.1.1] at this
          omega
        subst hM
        have hp2 := hN2.pf h7
        have e14 : (j_up (j_up b1 5 (7 + c) 2) 5 (14 + c) (mN b1 c)).1 0 14 = a.1 2 1 := by rw [m5 0 (by omega), y2 14 (by omega)]; exact hx.1.symm
        refine ⟨_, cm_freeCords_5 hB2.1.2.1 h7 _ (by rw [e14]; omega), ?_⟩
        refine k_go ?_
        refine ⟨_, rfl, ?_, hR2⟩
        rw [e14, ← cnt_hw hp2.hh]
        simp only [f19]
    · have e3 : canp N (a.1 5) (a.1 6) (a.1 2 1) (a.1 19) c = false := (Bool.not_eq_true _).mp e2
      refine PR.f (r := -2) hR (en_X7_plugs_0 (fun G => vc_X7_plugs_0_0 ⟨_, ct_hasCall _, ?_⟩)) (en_X8_plugs_0 (fun G => vc_X8_plugs_0_0 ⟨_, cm_isCall _ (by omega), ?_⟩))
      · refine k_go ?_
        rw [if_pos (by omega)]
        refine ⟨fun z => absurd z (by decide), fun _ => ⟨_, ct_canBePlugged_17 hB.1.1 h7 c _ (by omega), ?_⟩⟩
        refine k_go ?_
        exact ⟨fun _ => ⟨_, rfl, rfl, rfl⟩, fun z => absurd (bi_0.mpr e3) z⟩
      · refine k_go ?_
        rw [if_pos (by omega)]
        refine ⟨fun z => absurd z (by decide), fun _ => ⟨_, cm_canPlug_5 hB.1.2.1 h7 c _ (by omega) (by omega), ?_⟩⟩
        refine k_go ?_
        exact ⟨fun _ => ⟨_, rfl, rfl, rfl⟩, fun z => absurd (bi_0.mpr (by rw [ecan]; exact e3)) z⟩
  · refine PR.f (r := -1) hR (en_X7_plugs_0 (fun G => vc_X7_plugs_0_0 ⟨_, ct_hasCall _, ?_⟩)) (en_X8_plugs_0 (fun G => vc_X8_plugs_0_0 ⟨_, cm_isCall _ (by omega), ?_⟩))
    · refine k_go ?_
      rw [hB.1.1, if_neg e]
      exact ⟨fun _ => ⟨_, rfl, rfl, rfl⟩, fun z => absurd rfl z⟩
    · refine k_go ?_
      rw [hB.1.2.1, if_neg e]
      exact ⟨fun _ => ⟨_, rfl, rfl, rfl⟩, fun z => absurd rfl z⟩
theorem p_pulls {a b : jH} (hR : Rel a b) (c : Int) : PR M_X7_pulls M_X8_pulls [jI c] a b := by
  obtain ⟨N, L, hB, hN, -⟩ := id hR
  have hp := hN.pf hB.1.2.2
  have hb := hB.1
  have h7 := hB.1.2.2
  by_cases e : 0 ≤ c ∧ c < (N : Int)
  · obtain ⟨c, rfl⟩ : ∃ k : Nat, c = (k : Int) := ⟨c.toNat, by omega⟩
    have hc : c < N := by omega
    have hcc := hp.2.2.2.1 c hc
    have t7 : Int.toNat (7 + (c : Int)) = 7 + c := by omega
    have t14 : Int.toNat (14 + (c : Int)) = 14 + c := by omega
    have b7 : b.1 5 (7 + c) = a.1 19 c := hcc.1.symm
    by_cases e2 : a.1 19 c = 2
    · obtain ⟨a1, hxa, x1, x2, hmn⟩ := addnote hR
      refine PR.m (r := a.1 20 c) (a2 := j_up (j_up a1 19 c 4) 20 c 0) (en_X7_pulls_0 (fun G => vc_X7_pulls_0_0 ⟨_, ct_hasCall _, ?_⟩)) (en_X8_pulls_0 (fun G => vc_X8_pulls_0_0 ⟨_, cm_isCall _ (by omega), ?_⟩))
      · refine k_go ?_
        rw [if_pos (by omega), Int.toNat_natCast]
        refine ⟨fun z => absurd z (by decide), fun _ => ⟨by omega, fun _ => ⟨_, hxa, ?_⟩, fun z => absurd e2 z⟩⟩
        refine k_gv ?_
        refine ⟨_, ct_pull c (by omega), ?_⟩
        refine k_gv ?_
        exact ⟨_, rfl, rfl, rfl⟩
      · refine k_go ?_
        rw [if_pos (by omega), t7, t14, b7]
        refine ⟨fun z => absurd z (by decide), fun _ => ⟨⟨by omega, by omega⟩, by omega, fun _ => ⟨_, hmn, ?_⟩, fun z => absurd e2 z⟩⟩
        rintro b1 ⟨hR1, y1, y2, y3⟩
        refine ⟨⟨by omega, by omega⟩, by omega, _, rfl, ?_, hR1.np (fun k hk => by rw [up_ne (by omega), up_ne (by omega)]) (fun q hq => up_ne hq) rfl rfl (fun M K hB1 hp1 => ?_)⟩
        · rw [up_out (by omega), y1 5 (by omega) (by omega)]
          exact ((hcc.2.2.2.2.2.1 e2).1).symm
        · have hM : M = N := by have := hB1.1.1; rw [x1 2 (by omega) (by omega), hB.1.1] at this; omega
          subst hM
          have v19 : ∀ j, (j_up (j_up a1 19 c 4) 20 c 0).1 19 j = if j = c then 4 else a1.1 19 j := fun j => by
            rw [up_ne (by omega)]
            by_cases q : j = c
            · rw [if_pos q, q, up_eq]
            · rw [if_neg q, up_out q]
          have v20 : ∀ j, (j_up (j_up a1 19 c 4) 20 c 0).1 20 j = if j = c then 0 else a1.1 20 j := fun j => by
            by_cases q : j = c
            · rw [if_pos q, q, up_eq]
            · rw [if_neg q, up_out q, up_ne (by omega)]
          have v21 : (j_up (j_up a1 19 c 4) 20 c 0).1 21 = a1.1 21 := rfl
          have v18 : (j_up (j_up a1 19 c 4) 20 c 0).1 18 = a1.1 18 := rfl
          have v17 : (j_up (j_up a1 19 c 4) 20 c 0).1 17 = a1.1 17 := rfl
          have v5 : (j_up (j_up a1 19 c 4) 20 c 0).1 5 = a1.1 5 := rfl
          have v6 : (j_up (j_up a1 19 c 4) 20 c 0).1 6 = a1.1 6 := rfl
          have mr : MRow (j_up b1 5 (7 + c) 4) 5 (b1.1 5 0) (mO b1 5) (fun j => if j = c then 4 else mH b1 5 j) (mL b1 5) (mW b1 5) := MRow.self.uh (by omega) 4
          obtain ⟨w1, w2, w3⟩ := mr
          unfold PF
          rw [v21, v18, v17, v5, v6]
          refine ⟨⟨by rw [w1]; exact hp1.1.1, hp1.1.2⟩, fun l hl => ⟨by rw [(hp1.2.1 l hl).1]; exact (w2 l hl).symm, (hp1.2.1 l hl).2⟩, hp1.2.2.1, fun j hj => ?_, fun i j hi hj hn q1 q2 => ?_⟩
          · have f1 := hp1.2.2.2.1 j hj
            have f3 := w3 j (by omega)
            have m1 : mH (j_up b1 5 (7 + c) 4) 5 j = if j = c then 4 else mH b1 5 j := f3.1
            have m2 : mL (j_up b1 5 (7 + c) 4) 5 j = mL b1 5 j := f3.2.1
            have m3 : mW (j_up b1 5 (7 + c) 4) 5 j = mW b1 5 j := f3.2.2
            rw [m1, m2, m3, v19, v20]
            by_cases q : j = c
            · rw [if_pos q, if_pos q, if_pos q]
              exact ⟨rfl, f1.2.1, f1.2.2.1, by omega, f1.2.2.2.2.1, fun z => absurd z (by decide), fun _ => rfl⟩
            · rw [if_neg q, if_neg q, if_neg q]
              exact f1
          · rw [v19] at q1 q2
            by_cases z1 : i = c
            · rw [if_pos z1] at q1; exact absurd q1 (by decide)
            · rw [if_neg z1] at q1
              by_cases z2 : j = c
              · rw [if_pos z2] at q2; exact absurd q2 (by decide)
              · rw [if_neg z2] at q2
                exact hp1.2.2.2.2 i j hi hj hn q1 q2
    · refine PR.f (r := -2) hR (en_X7_pulls_0 (fun G => vc_X7_pulls_0_0 ⟨_, ct_hasCall _, ?_⟩)) (en_X8_pulls_0 (fun G => vc_X8_pulls_0_0 ⟨_, cm_isCall _ (by omega), ?_⟩))
      · refine k_go ?_
        rw [if_pos (by omega), Int.toNat_natCast]
        exact ⟨fun z => absurd z (by decide), fun _ => ⟨by omega, fun z => absurd z e2, fun _ => ⟨_, rfl, rfl, rfl⟩⟩⟩
      · refine k_go ?_
        rw [if_pos (by omega), t7, b7]
        exact ⟨fun z => absurd z (by decide), fun _ => ⟨⟨by omega, by omega⟩, by omega, fun z => absurd z e2, fun _ => ⟨_, rfl, rfl, rfl⟩⟩⟩
  · refine PR.f (r := -1) hR (en_X7_pulls_0 (fun G => vc_X7_pulls_0_0 ⟨_, ct_hasCall _, ?_⟩)) (en_X8_pulls_0 (fun G => vc_X8_pulls_0_0 ⟨_, cm_isCall _ (by omega), ?_⟩))
    · refine k_go ?_
      rw [hB.1.1, if_neg e]
      exact ⟨fun _ => ⟨_, rfl, rfl, rfl⟩, fun z => absurd rfl z⟩
    · refine k_go ?_
      rw [hB.1.2.1, if_neg e]
      exact ⟨fun _ => ⟨_, rfl, rfl, rfl⟩, fun z => absurd rfl z⟩
theorem swp_inj {f : Nat → Int} {n x y : Nat} (hx : x < n) (hy : y < n) (h : ∀ i j, i < n → j < n → f i = f j → i = j) : ∀ i j, i < n → j < n → swp f x y i = swp f x y j → i = j := by
  intro i j hi hj e
  unfold swp at e
  by_cases i1 : i = y <;> by_cases j1 : j = y
  · omega
  · rw [if_pos i1, if_neg j1] at e
    by_cases j2 : j = x
    · rw [if_pos j2] at e; have := h x y hx hy e; omega
    · rw [if_neg j2] at e; have := h x j hx hj e; omega
  · rw [if_neg i1, if_pos j1] at e
    by_cases i2 : i = x
    · rw [if_pos i2] at e; have := h y x hy hx e; omega
    · rw [if_neg i2] at e; have := h i x hi hx e; omega
  · rw [if_neg i1, if_neg j1] at e
    by_cases i2 : i = x <;> by_cases j2 : j = x
    · omega
    · rw [if_pos i2, if_neg j2] at e; have := h y j hy hj e; omega
    · rw [if_neg i2, if_pos j2] at e; have := h i y hi hy e; omega
    · rw [if_neg i2, if_neg j2] at e; exact h i j hi hj e
theorem p_swaps {a b : jH} (hR : Rel a b) (x y : Int) : PR M_X7_swaps M_X8_swaps [jI x, jI y] a b := by
  obtain ⟨N, L, hB, hN, -⟩ := id hR
  have hp := hN.pf hB.1.2.2
  have hb := hB.1
  have h7 := hB.1.2.2
  have hL := hB.2.1
  by_cases e : (0 ≤ x ∧ x < (L : Int)) ∧ (0 ≤ y ∧ y < (L : Int)) ∧ ¬ x = y
  · by_cases e2 : fst_ (fun c => a.1 19 c == 2 && (a.1 5 c == x || a.1 6 c == x)) N = none ∧ fst_ (fun c => a.1 19 c == 2 && (a.1 5 c == y || a.1 6 c == y)) N = none
    · obtain ⟨a1, hxa, x1, x2, hmn⟩ := addnote hR
      obtain ⟨x, rfl⟩ : ∃ k : Nat, x = (k : Int) := ⟨x.toNat, by omega⟩
      obtain ⟨y, rfl⟩ : ∃ k : Nat, y = (k : Int) := ⟨y.toNat, by omega⟩
      refine PR.m (r := a.1 18 y) (a2 := upr a1 18 (swp (a1.1 18) x y)) (en_X7_swaps_0 (fun G => vc_X7_swaps_0_0 ⟨_, ct_hasLine _, ?_⟩)) (en_X8_swaps_0 (fun G => vc_X8_swaps_0_0 ⟨_, cm_isLine _ (by omega), ?_⟩))
      · refine k_go ?_
        rw [if_pos (by omega)]
        refine ⟨fun z => absurd z (by decide), fun _ => ⟨_, ct_hasLine _, ?_⟩⟩
        refine k_go ?_
        rw [if_pos (by omega)]
        refine ⟨fun z => absurd z (by decide), fun _ => ⟨fun z => absurd z e.2.2, fun _ => ⟨_, ct_engagedBy hB.1.1 h7 _, ?_⟩⟩⟩
        refine k_go ?_
        refine ⟨fun _ => ⟨_, ct_engagedBy hB.1.1 h7 _, ?_⟩, fun z => absurd (onI_none.mpr e2.1) z⟩
        refine k_go ?_
        refine ⟨fun _ => ⟨_, hxa, ?_⟩, fun z => absurd (onI_none.mpr e2.2) z⟩
        refine k_gv ?_
        refine ⟨_, ct_exchange_18 x y (by omega) (by omega), ?_⟩
        refine k_gv ?_
        refine ⟨by omega, _, rfl, ?_, rfl⟩
        rw [Int.toNat_natCast, upr_same, x1 18 (by omega) (by omega)]
        unfold swp
        rw [if_neg (by omega), if_pos rfl]
      · refine k_go ?_
        rw [if_pos (by omega)]
        refine ⟨fun z => absurd z (by decide), fun _ => ⟨_, cm_isLine _ (by omega), ?_⟩⟩
        refine k_go ?_
        rw [if_pos (by omega)]
        refine ⟨fun z => absurd z (by decide), fun _ => ⟨fun z => absurd z e.2.2, fun _ => ⟨_, cm_talkerOn_5 hB.1.2.1 h7 _, ?_⟩⟩⟩
        refine k_go ?_
        refine ⟨fun _ => ⟨_, cm_talkerOn_5 hB.1.2.1 h7 _, ?_⟩, fun z => absurd (onI_none.mpr (by rw [hB.eng hp]; exact e2.1)) z⟩
        refine k_go ?_
        refine ⟨fun _ => ⟨_, hmn, ?_⟩, fun z => absurd (onI_none.mpr (by rw [hB.eng hp]; exact e2.2)) z⟩
        rintro b1 ⟨hR1, y1, y2, y3⟩
        rw [show Int.toNat (1 + (x : Int)) = 1 + x by omega, show Int.toNat (1 + (y : Int)) = 1 + y by omega]
        refine ⟨⟨by omega, by omega⟩, by omega, ⟨by omega, by omega⟩, by omega, _, rfl, ?_, hR1.np (fun k hk => upr_ne (by omega)) (fun q hq => by rw [up_ne hq, up_ne hq]) rfl rfl (fun M K hB1 hp1 => ?_)⟩
        · rw [up_out (by omega), up_eq, y1 5 (by omega) (by omega)]
          exact ((hp.2.1 y (by omega)).1).symm
        · have v18 : (upr a1 18 (swp (a1.1 18) x y)).1 18 = swp (a1.1 18) x y := rfl
          have v19 : (upr a1 18 (swp (a1.1 18) x y)).1 19 = a1.1 19 := rfl
          have v20 : (upr a1 18 (swp (a1.1 18) x y)).1 20 = a1.1 20 := rfl
          have v21 : (upr a1 18 (swp (a1.1 18) x y)).1 21 = a1.1 21 := rfl
          have v17 : (upr a1 18 (swp (a1.1 18) x y)).1 17 = a1.1 17 := rfl
          have v5 : (upr a1 18 (swp (a1.1 18) x y)).1 5 = a1.1 5 := rfl
          have v6 : (upr a1 18 (swp (a1.1 18) x y)).1 6 = a1.1 6 := rfl
          have bo : ∀ j, j ≠ 1 + x → j ≠ 1 + y → (j_up (j_up b1 5 (1 + x) (b1.1 5 (1 + y))) 5 (1 + y) (b1.1 5 (1 + x))).1 5 j = b1.1 5 j := fun j h1 h2 => by rw [up_out h2, up_out h1]
          unfold PF
          rw [v17, v18, v19, v20, v21, v5, v6]
          refine ⟨⟨by rw [bo 0 (by omega) (by omega)]; exact hp1.1.1, hp1.1.2⟩, fun l hl => ?_, swp_inj (by omega) (by omega) hp1.2.2.1, fun j hj => ?_, hp1.2.2.2.2⟩
          · unfold swp
            by_cases l1 : l = y
            · rw [if_pos l1]
              have f := hp1.2.1 x (by omega)
              refine ⟨?_, f.2⟩
              show _ = (j_up (j_up b1 5 (1 + x) (b1.1 5 (1 + y))) 5 (1 + y) (b1.1 5 (1 + x))).1 5 (1 + l)
              rw [l1, up_eq]
              exact f.1
            · rw [if_neg l1]
              by_cases l2 : l = x
              · rw [if_pos l2]
                have f := hp1.2.1 y (by omega)
                refine ⟨?_, f.2⟩
                show _ = (j_up (j_up b1 5 (1 + x) (b1.1 5 (1 + y))) 5 (1 + y) (b1.1 5 (1 + x))).1 5 (1 + l)
                rw [l2, up_out (by omega), up_eq]
                exact f.1
              · rw [if_neg l2]
                have f := hp1.2.1 l hl
                refine ⟨?_, f.2⟩
                show _ = (j_up (j_up b1 5 (1 + x) (b1.1 5 (1 + y))) 5 (1 + y) (b1.1 5 (1 + x))).1 5 (1 + l)
                rw [bo _ (by omega) (by omega)]
                exact f.1
          · unfold mH mW mL
            rw [bo (7 + j) (by omega) (by omega), bo (14 + j) (by omega) (by omega), bo (21 + j) (by omega) (by omega)]
            exact hp1.2.2.2.1 j hj
    · refine PR.f (r := -2) hR (en_X7_swaps_0 (fun G => vc_X7_swaps_0_0 ⟨_, ct_hasLine _, ?_⟩)) (en_X8_swaps_0 (fun G => vc_X8_swaps_0_0 ⟨_, cm_isLine _ (by omega), ?_⟩))
      · refine k_go ?_
        rw [if_pos (by omega)]
        refine ⟨fun z => absurd z (by decide), fun _ => ⟨_, ct_hasLine _, ?_⟩⟩
        refine k_go ?_
        rw [if_pos (by omega)]
        refine ⟨fun z => absurd z (by decide), fun _ => ⟨fun z => absurd z e.2.2, fun _ => ⟨_, ct_engagedBy hB.1.1 h7 _, ?_⟩⟩⟩
        refine k_go ?_
        refine ⟨fun z1 => ⟨_, ct_engagedBy hB.1.1 h7 _, ?_⟩, fun _ => ⟨_, rfl, rfl, rfl⟩⟩
        refine k_go ?_
        exact ⟨fun z2 => absurd ⟨onI_none.mp z1, onI_none.mp z2⟩ e2, fun _ => ⟨_, rfl, rfl, rfl⟩⟩
      · refine k_go ?_
        rw [if_pos (by omega)]
        refine ⟨fun z => absurd z (by decide), fun _ => ⟨_, cm_isLine _ (by omega), ?_⟩⟩
        refine k_go ?_
        rw [if_pos (by omega)]
        refine ⟨fun z => absurd z (by decide), fun _ => ⟨fun z => absurd z e.2.2, fun _ => ⟨_, cm_talkerOn_5 hB.1.2.1 h7 _, ?_⟩⟩⟩
        refine k_go ?_
        refine ⟨fun z1 => ⟨_, cm_talkerOn_5 hB.1.2.1 h7 _, ?_⟩, fun _ => ⟨_, rfl, rfl, rfl⟩⟩
        refine k_go ?_
        rw [hB.eng hp] at z1
        refine ⟨fun z2 => ?_, fun _ => ⟨_, rfl, rfl, rfl⟩⟩
        rw [hB.eng hp] at z2
        exact absurd ⟨onI_none.mp z1, onI_none.mp z2⟩ e2
  · refine PR.f (r := -1) hR (en_X7_swaps_0 (fun G => vc_X7_swaps_0_0 ⟨_, ct_hasLine _, ?_⟩)) (en_X8_swaps_0 (fun G => vc_X8_swaps_0_0 ⟨_, cm_isLine _ (by omega), ?_⟩))
    · refine k_go ?_
      rw [hL.1]
      by_cases f1 : 0 ≤ x ∧ x < (L : Int)
      · rw [if_pos f1]
        refine ⟨fun z => absurd z (by decide), fun _ => ⟨_, ct_hasLine _, ?_⟩⟩
        refine k_go ?_
        rw [hL.1]
        by_cases f2 : 0 ≤ y ∧ y < (L : Int)
        · rw [if_pos f2]
          exact ⟨fun z => absurd z (by decide), fun _ => ⟨fun _ => ⟨_, rfl, rfl, rfl⟩, fun z => absurd ⟨f1, f2, z⟩ e⟩⟩
        · rw [if_neg f2]
          exact ⟨fun _ => ⟨_, rfl, rfl, rfl⟩, fun z => absurd rfl z⟩
      · rw [if_neg f1]
        exact ⟨fun _ => ⟨_, rfl, rfl, rfl⟩, fun z => absurd rfl z⟩
    · refine k_go ?_
      rw [hL.2.1]
      by_cases f1 : 0 ≤ x ∧ x < (L : Int)
      · rw [if_pos f1]
        refine ⟨fun z => absurd z (by decide), fun _ => ⟨_, cm_isLine _ (by omega), ?_⟩⟩
        refine k_go ?_
        rw [hL.2.1]
        by_cases f2 : 0 ≤ y ∧ y < (L : Int)
        · rw [if_pos f2]
          exact ⟨fun z => absurd z (by decide), fun _ => ⟨fun _ => ⟨_, rfl, rfl, rfl⟩, fun z => absurd ⟨f1, f2, z⟩ e⟩⟩
        · rw [if_neg f2]
          exact ⟨fun _ => ⟨_, rfl, rfl, rfl⟩, fun z => absurd rfl z⟩
      · rw [if_neg f1]
        exact ⟨fun _ => ⟨_, rfl, rfl, rfl⟩, fun z => absurd rfl z⟩
