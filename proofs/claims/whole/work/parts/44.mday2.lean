/-! the model: byRule, enough -/
/-- what the model's promises rest on is left as it was -/
def MK (h g : jH) : Prop := g.2 = h.2 ∧ (∀ k, k = 1 ∨ k = 4 ∨ k = 5 ∨ k = 7 ∨ k = 8 ∨ k = 9 → g.1 k = h.1 k) ∧ ∀ j, j = 0 ∨ j = 13 ∨ j = 14 ∨ j = 15 ∨ j = 22 → g.1 0 j = h.1 0 j
theorem MK.rfl {h : jH} : MK h h := ⟨Eq.refl _, fun _ _ => Eq.refl _, fun _ _ => Eq.refl _⟩
theorem MK.tr {a b c : jH} (h1 : MK a b) (h2 : MK b c) : MK a c := ⟨h2.1.trans h1.1, fun k hk => (h2.2.1 k hk).trans (h1.2.1 k hk), fun j hj => (h2.2.2 j hj).trans (h1.2.2 j hj)⟩
theorem MF.mk {h g : jH} (k : MF h g) : MK h g := ⟨k.2.2, fun a ha => k.1 a (by omega) (by omega) (by omega), fun j hj => k.2.1 j (by omega)⟩
theorem MK.u10 {h : jH} (f : Nat → Int) : MK h (upr h 10 f) := ⟨Eq.refl _, fun k hk => upr_ne (by omega), fun j _ => by rw [upr_ne (by decide)]⟩
/-- what byRule answers -/
def brA (N : Nat) (fr to ln fl : Nat → Int) (x : Int) (o : Nat → Int) (s : jY) (n : Nat) (what : Int) : Int := if what = 0 then (cnt (fun c => (dyN N fr to ln fl x o s n).2.1.1 c == 3) N : Nat) else if what = 1 then sm (fun _ => true) (dyN N fr to ln fl x o s n).2.2 N else fdN N fr to ln fl x o s n
theorem sm_all {f : Nat → Int} {n : Nat} : sm (fun _ => true) f (n + 1) = sm (fun _ => true) f n + f n := by simp [sm]
theorem m0_row {h : jH} : MRow (upr h 6 (fun j => if 0 ≤ j ∧ j < 0 + 28 then h.1 5 (0 + (j - 0)) else h.1 6 j)) 6 (m0 h).1 (mO h 5) (m0 h).2.1.1 (m0 h).2.1.2 (m0 h).2.2 := by
  have e : ∀ j, j < 28 → (upr h 6 (fun j => if 0 ≤ j ∧ j < 0 + 28 then h.1 5 (0 + (j - 0)) else h.1 6 j)).1 6 j = h.1 5 j := by
    intro j hj
    rw [upr_same, if_pos (by omega), Nat.zero_add, Nat.sub_zero]
  exact ⟨e 0 (by decide), fun l hl => e _ (by omega), fun c hc => ⟨e _ (by omega), e _ (by omega), e _ (by omega)⟩⟩
theorem cm_byRule {h : jH} {N : Nat} (hN : h.1 0 15 = N) (h7 : N ≤ 7) (hk : mok h N) (rule n what : Int) : CT Sm M_X8_byRule [jR 0, jI rule, jI n, jI what] h (jPi fun r g => MK h g ∧
    ((¬ (0 ≤ rule ∧ rule ≤ 2) ∨ ¬ (0 ≤ n ∧ n ≤ 60) ∨ ¬ (0 ≤ what ∧ what ≤ 2)) ∧ r = -1 ∨ ((0 ≤ rule ∧ rule ≤ 2) ∧ (0 ≤ n ∧ n ≤ 60) ∧ (0 ≤ what ∧ what ≤ 2)) ∧ ∃ o, Ord (kys rule (mA h) (mR h) (mN h)) N o ∧ r = brA N (mF h) (mT h) (mN h) (mA h) (h.1 0 14) o (m0 h) n.toNat what)) := by
  obtain ⟨k1, k2, k3, k4, k5, k6, k7, k8⟩ := hk
  refine en_X8_byRule_0 (fun G => vc_X8_byRule_0_0 ⟨_, cm_in rule 0 2, ?_⟩)
  rintro _ _ ⟨rfl, rfl⟩
  refine ⟨fun e => ⟨_, rfl, MK.rfl, Or.inl ⟨Or.inl (fun z => by rw [if_pos z] at e; exact absurd e (by decide)), rfl⟩⟩, fun e => ⟨_, cm_in n 0 60, ?_⟩⟩
  have c1 : 0 ≤ rule ∧ rule ≤ 2 := by
    by_cases z : 0 ≤ rule ∧ rule ≤ 2
    · exact z
    · rw [if_neg z] at e; exact absurd rfl e
  rintro _ _ ⟨rfl, rfl⟩
  refine ⟨fun e => ⟨_, rfl, MK.rfl, Or.inl ⟨Or.inr (Or.inl (fun z => by rw [if_pos z] at e; exact absurd e (by decide))), rfl⟩⟩, fun e => ⟨_, cm_in what 0 2, ?_⟩⟩
  have c2 : 0 ≤ n ∧ n ≤ 60 := by
    by_cases z : 0 ≤ n ∧ n ≤ 60
    · exact z
    · rw [if_neg z] at e; exact absurd rfl e
  rintro _ _ ⟨rfl, rfl⟩
  refine ⟨fun e => ⟨_, rfl, MK.rfl, Or.inl ⟨Or.inr (Or.inr (fun z => by rw [if_pos z] at e; exact absurd e (by decide))), rfl⟩⟩, fun e => ?_⟩
  have c3 : 0 ≤ what ∧ what ≤ 2 := by
    by_cases z : 0 ≤ what ∧ what ≤ 2
    · exact z
    · rw [if_neg z] at e; exact absurd rfl e
  rename_i h
  obtain ⟨n, rfl⟩ : ∃ q : Nat, n = q := ⟨n.toNat, by omega⟩
  refine ⟨_, cm_layOrder hN h7 rule (fun c hc => by have := k6 c hc; omega), ?_⟩
  rintro _ ⟨o, rfl, ho⟩
  refine ⟨_, cm_copy_5_6 0 0 (by decide) (by decide), ?_⟩
  rintro _ rfl
  have hM := m0_row (h := upr h 10 o)
  have hS : m0 (upr h 10 o) = m0 h := rfl
  rw [hS] at hM
  -- the heap behind the start
  have f0 : MF (upr h 10 o) (j_up (upr (upr h 10 o) 6 (fun j => if 0 ≤ j ∧ j < 0 + 28 then (upr h 10 o).1 5 (0 + (j - 0)) else (upr h 10 o).1 6 j)) 0 27 (-9)) := (MF.rfl.s6 (fun a ha => upr_ne ha) rfl).s27 _
  have hM := hM.kp (g := j_up (upr (upr h 10 o) 6 (fun j => if 0 ≤ j ∧ j < 0 + 28 then (upr h 10 o).1 5 (0 + (j - 0)) else (upr h 10 o).1 6 j)) 0 27 (-9)) (up_ne (by decide))
  have h27 : (j_up (upr (upr h 10 o) 6 (fun j => if 0 ≤ j ∧ j < 0 + 28 then (upr h 10 o).1 5 (0 + (j - 0)) else (upr h 10 o).1 6 j)) 0 27 (-9)).1 0 27 = -9 := up_eq
  generalize j_up (upr (upr h 10 o) 6 (fun j => if 0 ≤ j ∧ j < 0 + 28 then (upr h 10 o).1 5 (0 + (j - 0)) else (upr h 10 o).1 6 j)) 0 27 (-9) = g0 at f0 hM h27 ⊢
  refine jf_loop n (fun k lv g => ∃ u v w, lv = [jR 0, jI rule, jI n, jI what, jI (k : Nat), u, v, w] ∧ MF (upr h 10 o) g ∧ MRow g 6 (dyN N (mF h) (mT h) (mN h) (mA h) (h.1 0 14) o (m0 h) k).1 (mO h 5) (dyN N (mF h) (mT h) (mN h) (mA h) (h.1 0 14) o (m0 h) k).2.1.1 (dyN N (mF h) (mT h) (mN h) (mA h) (h.1 0 14) o (m0 h) k).2.1.2 (dyN N (mF h) (mT h) (mN h) (mA h) (h.1 0 14) o (m0 h) k).2.2 ∧ g.1 0 27 = fdN N (mF h) (mT h) (mN h) (mA h) (h.1 0 14) o (m0 h) k) ?_ ?_ 0 (Nat.zero_le _) _ _ ⟨_, _, _, rfl, f0, hM, h27⟩
  · rintro k hkn lv g ⟨u, v, w, rfl, gF, gM, g27⟩ kk
    have bm := dyN_m (N := N) (fr := mF h) (to := mT h) (ln := mN h) (fl := mA h) (x := h.1 0 14) (o := o) (s := m0 h) k
    have bw := dyN_w (N := N) (fr := mF h) (to := mT h) (ln := mN h) (fl := mA h) (x := h.1 0 14) (o := o) (s := m0 h) (B := 1000) (fun c hc => by have := k3 c hc; show -1000 ≤ mW h 5 c ∧ mW h 5 c ≤ 1000; omega) k
    have bl := dyN_l (N := N) (fr := mF h) (to := mT h) (ln := mN h) (fl := mA h) (x := h.1 0 14) (o := o) (s := m0 h) (B := 20) (fun c hc => by have := k2 c hc; show -20 ≤ mL h 5 c ∧ mL h 5 c ≤ 20; omega) (fun c hc => by have := k5 c hc; omega) k
    have bl2 := plA_bd (N := N) (fr := mF h) (to := mT h) (x := h.1 0 14) (o := o) (ln := mN h) (B := 20 + k) bl (fun c hc => by have := k5 c hc; omega) N
    have bt1 := dzN_tk (N := N) (n := N) (fr := mF h) (to := mT h) (ln := mN h) (fl := mA h) (x := h.1 0 14) (o := o) (s := m0 h) k1 k
    rw [dzN_dy] at bt1
    have bt2 := plA_tk (N := N) (fr := mF h) (to := mT h) (x := h.1 0 14) (o := o) (ln := mN h) bt1 (fun c hc => (k5 c hc).1) N
    have pd := fun c => plA_d (N := N) (fr := mF h) (to := mT h) (x := h.1 0 14) (o := o) (ln := mN h) (s := (dyN N (mF h) (mT h) (mN h) (mA h) (h.1 0 14) o (m0 h) k).2.1) N c
    have fd := fdN_d h7 (fr := mF h) (to := mT h) (ln := mN h) (fl := mA h) (x := h.1 0 14) (o := o) (s := m0 h) k
    have fn := fdN_neg (N := N) (fr := mF h) (to := mT h) (ln := mN h) (fl := mA h) (x := h.1 0 14) (o := o) (s := m0 h) k
    have hS0 : (m0 h).1 = h.1 5 0 := rfl
    have n1 : dyN N (mF h) (mT h) (mN h) (mA h) (h.1 0 14) o (m0 h) (k + 1) = dy N (mF h) (mT h) (mN h) (mA h) (h.1 0 14) o (dyN N (mF h) (mT h) (mN h) (mA h) (h.1 0 14) o (m0 h) k) := rfl
    have n3 : fdN N (mF h) (mT h) (mN h) (mA h) (h.1 0 14) o (m0 h) (k + 1) = if fdN N (mF h) (mT h) (mN h) (mA h) (h.1 0 14) o (m0 h) k = -9 then onI (fst_ (fun c => decide (c < N) && ((dyN N (mF h) (mT h) (mN h) (mA h) (h.1 0 14) o (m0 h) (k + 1)).2.1.1 c == 3 && !((m0 h).2.1.1 c == 3))) 7) else fdN N (mF h) (mT h) (mN h) (mA h) (h.1 0 14) o (m0 h) k := rfl
    rw [n3, n1] at kk
    generalize dyN N (mF h) (mT h) (mN h) (mA h) (h.1 0 14) o (m0 h) k = s at gM bm bw bl bl2 bt1 bt2 pd fd kk
    generalize fdN N (mF h) (mT h) (mN h) (mA h) (h.1 0 14) o (m0 h) k = f1 at g27 fd fn kk
    simp only [dy] at kk
    have e0 : g.1 0 15 = N := by rw [gF.2.1 15 (by decide)]; exact hN
    have ex : g.1 0 14 = h.1 0 14 := gF.2.1 14 (by decide)
    have eo : g.1 10 = o := by rw [gF.1 10 (by decide) (by decide) (by decide), upr_same]
    obtain ⟨eF, eT, eN, eA, eR⟩ := gF.c4
    have eF : mF g = mF h := eF
    have eT : mT g = mT h := eT
    have eN : mN g = mN h := eN
    refine vc_X8_byRule_0_57 ⟨fun q => absurd q (by omega), fun q => ?_⟩
    rw [e0, ex]
    refine ⟨_, cm_plugAll_10 e0 h7 N h7 (h.1 0 14) ⟨by omega, by omega⟩ (fun i hi => by rw [eo]; exact ho.rg hi) gM, ?_⟩
    rintro g1 ⟨g1k, g12, g1M⟩
    rw [eF, eT, eN, eo, show (s.2.1.1, s.2.1.2) = s.2.1 from rfl] at g1M
    generalize plA N (mF h) (mT h) (mN h) (h.1 0 14) o s.2.1 N = p at g1M bl2 bt2 pd kk
    have g1F := gF.s6 g1k g12
    have e1 : g1.1 0 15 = N := by rw [g1F.2.1 15 (by decide)]; exact hN
    refine ⟨_, cm_setOf_6 e1 h7 3, ?_⟩
    rintro _ _ ⟨rfl, rfl⟩
    rename_i g1
    rw [bt_congr (p := fun c => mH g1 6 c == 3) (q := fun c => p.1 c == 3) (fun c hc => by rw [g1M.mh (by omega)])]
    refine ⟨_, cm_pass_6 e1 h7 g1M bt2 (fun c hc => by have := bl2 c hc; omega) (fun c hc => by have := bw c hc; omega) (by omega), ?_⟩
    rintro g2 ⟨g2k, g22, g2M⟩
    have eA1 : mA g1 = mA h := (g1F.c4).2.2.2.1
    rw [eA1] at g2M
    have g2F := g1F.s6 g2k g22
    have e2 : g2.1 0 15 = N := by rw [g2F.2.1 15 (by decide)]; exact hN
    have g227 : g2.1 0 27 = f1 := by rw [g2k 0 (by decide), g1k 0 (by decide)]; exact g27
    refine ⟨_, cm_setOf_6 e2 h7 3, ?_⟩
    rintro _ _ ⟨rfl, rfl⟩
    rename_i g2
    rw [bt_congr (p := fun c => mH g2 6 c == 3) (q := fun c => qF N (mA h) (s.1 + 1) (qH N p.1 p.2) c == 3) (fun c hc => by rw [g2M.mh (by omega)])]
    generalize qF N (mA h) (s.1 + 1) (qH N p.1 p.2) = D at g2M kk ⊢
    rw [b_andn _ (bt_128 h7) _ (bt_128 h7), e2]
    refine ⟨⟨by omega, by omega⟩, ?_⟩
    have sb : ∀ c, (bt (fun c => D c == 3) N ^^^ (bt (fun c => D c == 3) N &&& bt (fun c => p.1 c == 3) N)).testBit c = (decide (c < N) && (D c == 3 && !(p.1 c == 3))) := by
      intro c
      rw [Nat.testBit_xor, Nat.testBit_and, bt_tb, bt_tb]
      cases decide (c < N) <;> cases (D c == 3) <;> cases (p.1 c == 3) <;> rfl
    have s128 : (bt (fun c => D c == 3) N ^^^ (bt (fun c => D c == 3) N &&& bt (fun c => p.1 c == 3) N)) < 128 := xor_128 (bt_128 h7) (Nat.lt_of_le_of_lt Nat.and_le_left (bt_128 h7))
    generalize bt (fun c => D c == 3) N ^^^ (bt (fun c => D c == 3) N &&& bt (fun c => p.1 c == 3) N) = S at sb s128 ⊢
    have sp : f1 = -9 → ∀ c, (decide (c < N) && (D c == 3 && !((m0 h).2.1.1 c == 3))) = S.testBit c := by
      intro e c
      rw [sb]
      by_cases hc : c < N
      · have h1 : ((m0 h).2.1.1 c == 3) = (p.1 c == 3) := by
          rw [Bool.eq_iff_iff, beq_iff_eq, beq_iff_eq, pd, fd e c hc]
        rw [h1]
      · rw [decide_eq_false hc]; rfl
    generalize (bt (fun c => p.1 c == 3) N : Int) = y5
    -- the first of those who are done now
    have inner : ∀ q, q ≤ N → ∀ g, MF (upr h 10 o) g → g.1 6 = g2.1 6 → g.1 0 27 = f1 → ((∀ c, q ≤ c → c < N → S.testBit c = false) ∨ ∃ c : Nat, q ≤ c ∧ c < N ∧ g.1 11 0 = c ∧ S.testBit c = true ∧ ∀ j, q ≤ j → j < c → S.testBit j = false) → WV Sm G M_X8_byRule (jPi fun r g => MK h g ∧
        ((¬ (0 ≤ rule ∧ rule ≤ 2) ∨ ¬ (0 ≤ (n : Int) ∧ (n : Int) ≤ 60) ∨ ¬ (0 ≤ what ∧ what ≤ 2)) ∧ r = -1 ∨ ((0 ≤ rule ∧ rule ≤ 2) ∧ (0 ≤ (n : Int) ∧ (n : Int) ≤ 60) ∧ (0 ≤ what ∧ what ≤ 2)) ∧ ∃ o, Ord (kys rule (mA h) (mR h) (mN h)) N o ∧ r = brA N (mF h) (mT h) (mN h) (mA h) (h.1 0 14) o (m0 h) (n : Int).toNat what)) 122 [jR 0, jI rule, jI n, jI what, jI (k : Nat), jI y5, jI (S : Nat), jI ((q : Nat) - 1 : Int)] [] g := by
      intro q
      induction q with
      | zero =>
        intro _ g gF g6 gf gl
        have gM := g2M.kp g6
        have gM' := fun v => gM.kp (g := j_up g 0 27 v) (up_ne (by decide))
        refine vc_X8_byRule_0_122 ⟨fun _ => ?_, fun z => absurd z (by omega)⟩
        rw [gf]
        refine ⟨fun z => ⟨⟨by omega, by omega⟩, kk _ _ ⟨_, _, _, rfl, gF.s27 _, gM' _, ?_⟩⟩, fun z => ⟨fun z1 => ⟨⟨by omega, by omega⟩, kk _ _ ⟨_, _, _, rfl, gF.s27 _, gM' _, ?_⟩⟩, fun z1 => ⟨⟨by omega, by omega⟩, kk _ _ ⟨_, _, _, rfl, gF.s27 _, gM' _, ?_⟩⟩⟩⟩
        · rw [up_eq, if_neg (by omega)]
        · have e9 := fn.mp (by omega)
          have z1 : S = 0 := by omega
          rw [up_eq, if_pos e9, fst_congr (fun c _ => sp e9 c), z1, fst_none.mpr (fun c _ => Nat.zero_testBit c), e9]
          rfl
        · have e9 := fn.mp (by omega)
          rw [up_eq, if_pos e9, fst_congr (fun c _ => sp e9 c)]
          refine lo_fin (p := fun c => S.testBit c) h7 (fun c hc => ?_) ?_ (fun hz => z1 ?_)
          · simp only [sb, Bool.and_eq_true, decide_eq_true_eq] at hc
            exact hc.1
          · rcases gl with gl | ⟨c, a1, a2, a3, a4, a5⟩
            · exact Or.inl (fun c hc => gl c (Nat.zero_le _) hc)
            · exact Or.inr ⟨c, a2, a3, a4, fun j hj => a5 j (Nat.zero_le _) hj⟩
          · have : S = 0 := by
              refine Nat.eq_of_testBit_eq (fun c => ?_)
              rw [Nat.zero_testBit]
              by_cases hc : c < 7
              · exact hz c hc
              · rw [sb, decide_eq_false (by omega)]; rfl
            rw [this]; rfl
      | succ q ih =>
        intro hq g gF g6 gf gl
        have gM := g2M.kp g6
        have gM' := fun v => gM.kp (g := j_up g 0 27 v) (up_ne (by decide))
        rw [show (((q + 1 : Nat) : Int) - 1) = (q : Nat) by omega]
        refine vc_X8_byRule_0_122 ⟨fun z => absurd z (by omega), fun _ => ?_⟩
        rw [gf]
        refine ⟨fun z => ⟨fun _ => ⟨⟨by omega, by omega⟩, kk _ _ ⟨_, _, _, rfl, gF.s27 _, gM' _, ?_⟩⟩, fun z2 => absurd z z2⟩, fun z => ⟨fun z1 => ⟨fun z2 => absurd z2 z, fun _ => ⟨fun _ => ⟨⟨by omega, by omega⟩, kk _ _ ⟨_, _, _, rfl, gF.s27 _, gM' _, ?_⟩⟩, fun z2 => absurd z1 z2⟩⟩, fun z1 => ⟨_, cm_has S q s128 (by omega), ?_⟩⟩⟩
        · rw [up_eq, if_neg (by omega)]
        · have e9 := fn.mp (by omega)
          have z1 : S = 0 := by omega
          rw [up_eq, if_pos e9, fst_congr (fun c _ => sp e9 c), z1, fst_none.mpr (fun c _ => Nat.zero_testBit c), e9]
          rfl
        · rintro _ _ ⟨rfl, rfl⟩
          rename_i g
          refine ⟨fun z2 => ⟨⟨by omega, by omega⟩, ?_⟩, fun z2 => ⟨⟨by omega, by omega⟩, ?_⟩⟩
          · rw [bi_0] at z2
            refine ih (by omega) _ (gF.s11 _ _) (by rw [up_ne (by decide)]; exact g6) (by rw [up_ne (by decide)]; exact gf) ?_
            rcases gl with gl | ⟨c, a1, a2, a3, a4, a5⟩
            · refine Or.inl (fun c hc hcN => ?_)
              by_cases e : c = q
              · rw [e]; exact z2
              · exact gl c (by omega) hcN
            · refine Or.inr ⟨c, by omega, a2, by rw [up_eq]; exact a3, a4, fun j h1 h2 => ?_⟩
              by_cases e : j = q
              · rw [e]; exact z2
              · exact a5 j (by omega) h2
          · rw [bi_0] at z2
            refine ih (by omega) _ (gF.s11 _ _) (by rw [up_ne (by decide)]; exact g6) (by rw [up_ne (by decide)]; exact gf) ?_
            exact Or.inr ⟨q, Nat.le_refl _, by omega, up_eq, (Bool.not_eq_false _).mp z2, fun j h1 h2 => by omega⟩
    exact inner N (Nat.le_refl _) g2 g2F rfl g227 (Or.inl (fun c h1 h2 => by omega))
  · rintro lv g ⟨u, v, w, rfl, gF, gM, g27⟩
    have bw := dyN_w (N := N) (fr := mF h) (to := mT h) (ln := mN h) (fl := mA h) (x := h.1 0 14) (o := o) (s := m0 h) (B := 1000) (fun c hc => by have := k3 c hc; show -1000 ≤ mW h 5 c ∧ mW h 5 c ≤ 1000; omega) n
    refine vc_X8_byRule_0_57 ⟨fun _ => ?_, fun q => absurd q (by omega)⟩
    have e0 : g.1 0 15 = N := by rw [gF.2.1 15 (by decide)]; exact hN
    have fin : ∀ r, r = brA N (mF h) (mT h) (mN h) (mA h) (h.1 0 14) o (m0 h) n what → MK h g ∧
    ((¬ (0 ≤ rule ∧ rule ≤ 2) ∨ ¬ (0 ≤ (n : Int) ∧ (n : Int) ≤ 60) ∨ ¬ (0 ≤ what ∧ what ≤ 2)) ∧ r = -1 ∨ ((0 ≤ rule ∧ rule ≤ 2) ∧ (0 ≤ (n : Int) ∧ (n : Int) ≤ 60) ∧ (0 ≤ what ∧ what ≤ 2)) ∧ ∃ o, Ord (kys rule (mA h) (mR h) (mN h)) N o ∧ r = brA N (mF h) (mT h) (mN h) (mA h) (h.1 0 14) o (m0 h) (n : Int).toNat what) :=
      fun r hr => ⟨(MK.u10 o).tr gF.mk, Or.inr ⟨⟨c1, c2, c3⟩, o, ho, hr⟩⟩
    refine jf_fun N (fun c => [jR 0, jI rule, jI n, jI what, jI (sm (fun _ => true) (dyN N (mF h) (mT h) (mN h) (mA h) (h.1 0 14) o (m0 h) n).2.2 c), jI (c : Nat), v, w]) (fun _ => g) (fun c hc k => ?_) ?_ 0 (Nat.zero_le _)
    · have b1 := sm_bd (p := fun _ => true) (f := (dyN N (mF h) (mT h) (mN h) (mA h) (h.1 0 14) o (m0 h) n).2.2) (n := c) (B := 1100) (by decide) (fun d hd => by have := bw d (by omega); omega)
      have b2 := bw c hc
      rw [sm_all] at k
      refine vc_X8_byRule_0_213 ⟨fun q => absurd q (by omega), fun q => ⟨⟨by omega, by omega⟩, ⟨by omega, by omega⟩, ?_⟩⟩
      rw [show Int.toNat (21 + (c : Int)) = 21 + c by omega, (gM.2.2 c (by omega)).2.2]
      exact ⟨⟨by omega, by omega⟩, ⟨by omega, by omega⟩, k⟩
    · refine vc_X8_byRule_0_213 ⟨fun q => ⟨fun e => ⟨_, cm_setOf_6 e0 h7 3, ?_⟩, fun e => ⟨fun e1 => ⟨_, rfl, fin _ ?_⟩, fun e1 => ⟨_, rfl, fin _ ?_⟩⟩⟩, fun q => absurd q (by omega)⟩
      · rintro _ _ ⟨rfl, rfl⟩
        refine ⟨_, cm_bits _ (bt_128 h7), ?_⟩
        rintro _ _ ⟨rfl, rfl⟩
        refine ⟨_, rfl, fin _ ?_⟩
        rw [cnt_bt h7, cnt_congr (q := fun c => (dyN N (mF h) (mT h) (mN h) (mA h) (h.1 0 14) o (m0 h) n).2.1.1 c == 3) (fun c hc => by rw [gM.mh (by omega)])]
        unfold brA
        rw [if_pos e]
      · unfold brA
        rw [if_neg e, if_pos e1]
      · unfold brA
        rw [if_neg e, if_neg e1]
        exact g27
