/-! the model: cutFor -/
theorem bt_x {hw : Nat → Int} {N s : Nat} (h7 : N ≤ 7) (hs : s &&& bt (fun k => hw k == 2) N = s) : bt (fun k => (if k < N ∧ s.testBit k = true then (4 : Int) else hw k) == 2) N = bt (fun k => hw k == 2) N ^^^ s := by
  refine Nat.eq_of_testBit_eq (fun k => ?_)
  rw [xor_tb hs, bt_tb, bt_tb]
  by_cases hk : k < N
  · cases h1 : s.testBit k with
    | true => simp [hk, h1]
    | false => simp [hk, h1]
  · simp [hk]
theorem cnt_x {hw : Nat → Int} {N s : Nat} (h7 : N ≤ 7) (hs : s &&& bt (fun k => hw k == 2) N = s) : cnt (fun k => (if k < N ∧ s.testBit k = true then (4 : Int) else hw k) == 2) N = cnt (fun k => (bt (fun k => hw k == 2) N ^^^ s).testBit k) 7 := by
  rw [← bt_x h7 hs, cnt_bt h7]
theorem canp_x {N : Nat} {fr to : Nat → Int} {x : Int} {hw : Nat → Int} {s c : Nat} (h7 : N ≤ 7) (hs : s &&& bt (fun k => hw k == 2) N = s) (hc : hw c = 1) : canp N fr to x (fun k => if k < N ∧ s.testBit k = true then (4 : Int) else hw k) c = (decide ((cnt (fun k => (bt (fun k => hw k == 2) N ^^^ s).testBit k) 7 : Int) < x) && lfree fr to N (bt (fun k => hw k == 2) N ^^^ s) c) := by
  unfold canp
  rw [cnt_x h7 hs, bt_x h7 hs]
  have h1 : ¬ (c < N ∧ s.testBit c = true) := by
    rintro ⟨h1, h2⟩
    have h3 : s.testBit c = (s.testBit c && (bt (fun k => hw k == 2) N).testBit c) := by rw [← Nat.testBit_and, hs]
    rw [h2, bt_tb, hc] at h3
    simp at h3
  simp only [h1, if_false, hc]
  rfl
theorem cm_cutFor {h : jH} {N : Nat} (hN : h.1 0 15 = N) (h7 : N ≤ 7) (hk : mok h N) (hx : 1 ≤ h.1 0 14) (c : Int) : CT Sm M_X8_cutFor [jR 0, jI c] h (jPi fun r g => MK h g ∧
    r = if 0 ≤ c ∧ c < N then (if mH h 5 c.toNat = 1 then ((lcut N (mF h) (mT h) (mL h 5) (h.1 0 14) (bt (fun k => mH h 5 k == 2) N) c.toNat (bt (fun k => mH h 5 k == 2) N) : Nat) : Int) else -2) else -1) := by
  refine en_X8_cutFor_0 (fun G => vc_X8_cutFor_0_0 ⟨_, cm_isCall c (by omega), ?_⟩)
  rintro _ _ ⟨rfl, rfl⟩
  rename_i h
  rw [hN]
  by_cases hc : 0 ≤ c ∧ c < N
  · rw [if_pos hc]
    refine ⟨fun z => absurd z (by decide), fun _ => ⟨⟨by omega, by omega⟩, ⟨by omega, by omega⟩, ?_⟩⟩
    obtain ⟨c, rfl⟩ : ∃ q : Nat, c = q := ⟨c.toNat, by omega⟩
    rw [show Int.toNat (7 + (c : Int)) = 7 + c by omega, Int.toNat_natCast]
    refine ⟨fun e => ?_, fun e => ⟨_, rfl, MK.rfl, ?_⟩⟩
    · replace e : mH h 5 c = 1 := e
      rw [if_pos e]
      refine ⟨_, cm_setOf_5 hN h7 2, ?_⟩
      rintro _ _ ⟨rfl, rfl⟩
      rename_i h
      have ht : bt (fun k => mH h 5 k == 2) N < 128 := bt_128 h7
      have px : ∀ s, s &&& bt (fun k => mH h 5 k == 2) N = s → canp N (mF h) (mT h) (h.1 0 14) (fun k => if k < N ∧ s.testBit k = true then (4 : Int) else mH h 5 k) c = (decide ((cnt (fun k => (bt (fun k => mH h 5 k == 2) N ^^^ s).testBit k) 7 : Int) < h.1 0 14) && lfree (mF h) (mT h) N (bt (fun k => mH h 5 k == 2) N ^^^ s) c) := fun s hs => canp_x h7 hs e
      generalize bt (fun k => mH h 5 k == 2) N = t at ht px ⊢
      obtain ⟨k1, k2', k3, k4, k5, k6, k7, k8⟩ := hk
      have sp : ∀ (s n : Nat), n ≤ N → 0 ≤ sm (fun k => s.testBit k) (mL h 5) n ∧ sm (fun k => s.testBit k) (mL h 5) n ≤ 140 := by
        intro s n hn
        have := sm_pos (p := fun k => s.testBit k) (f := mL h 5) (n := n) (B := 20) (fun c hc => k2' c (by omega)) (by decide)
        omega
      refine jf_loop (t + 1) (fun s lv g => ∃ u v x3 x4, lv = [jR 0, jI (c : Nat), jI (t : Nat), jI x3, jI x4, jI (s : Nat), u, v] ∧ MQz h g ∧ (s ≤ t → (x3 = -1 ∧ lcut N (mF h) (mT h) (mL h 5) (h.1 0 14) t c s = t ∨ ∃ b : Nat, x3 = b ∧ b = lcut N (mF h) (mT h) (mL h 5) (h.1 0 14) t c s ∧ b < s ∧ b &&& t = b ∧ x4 = 1000 * (cnt (fun k => b.testBit k) 7 : Nat) + sm (fun k => b.testBit k) (mL h 5) N)) ∧ (s = t + 1 → x3 = (lcut N (mF h) (mT h) (mL h 5) (h.1 0 14) t c t : Nat))) ?_ ?_ 0 (Nat.zero_le _) _ _ ⟨_, _, _, _, rfl, ⟨fun _ _ _ _ => rfl, rfl⟩, fun _ => Or.inl ⟨rfl, rfl⟩, fun z => by omega⟩
      · rintro s hs lv g ⟨u, v, x3, x4, rfl, gQ, gA, -⟩ kk
        have gA := gA (by omega)
        have gk := gQ.mk
        have e0 : g.1 0 15 = N := by rw [gk.2.2 15 (by decide)]; exact hN
        have ex : g.1 0 14 = h.1 0 14 := gk.2.2 14 (by decide)
        have hl : lcut N (mF h) (mT h) (mL h 5) (h.1 0 14) t c (s + 1) = if s &&& t = s ∧ (cnt (fun k => (t ^^^ s).testBit k) 7 : Int) < h.1 0 14 ∧ lfree (mF h) (mT h) N (t ^^^ s) c = true ∧ cless N (mL h 5) s (lcut N (mF h) (mT h) (mL h 5) (h.1 0 14) t c s) = true then s else lcut N (mF h) (mT h) (mL h 5) (h.1 0 14) t c s := rfl
        have hst : s = t → s &&& t = s := fun z => by rw [z, Nat.and_self]
        refine vc_X8_cutFor_0_44 ⟨fun q => absurd q (by omega), fun q => ?_⟩
        rw [b_andn s (by omega) t ht]
        refine ⟨fun z => ?_, fun z => ⟨⟨by omega, by omega⟩, ?_⟩⟩
        · have hsub : s &&& t = s := (andn_0 s (by omega) t ht).mp (by omega)
          refine ⟨_, cm_copy_5_6 0 0 (by decide) (by decide), ?_⟩
          rintro _ rfl
          have hM := m0_row (h := g)
          have f0 : MQz h (upr g 6 (fun j => if 0 ≤ j ∧ j < 0 + 28 then g.1 5 (0 + (j - 0)) else g.1 6 j)) := ⟨fun a a1 a2 a3 => by rw [upr_ne a1]; exact gQ.1 a a1 a2 a3, gQ.2⟩
          generalize upr g 6 (fun j => if 0 ≤ j ∧ j < 0 + 28 then g.1 5 (0 + (j - 0)) else g.1 6 j) = g0 at f0 hM ⊢
          have em : (m0 g).2.1.1 = mH h 5 := gk.c5.1
          rw [em] at hM
          generalize (m0 g).2.1.2 = lf' at hM
          generalize (m0 g).2.2 = wt' at hM
          generalize (m0 g).1 = mi at hM
          generalize mO g 5 = ho' at hM
          refine jf_loop N (fun d lv g => lv = [jR 0, jI (c : Nat), jI (t : Nat), jI x3, jI x4, jI (s : Nat), jI (sm (fun k => s.testBit k) (mL h 5) d), jI (d : Nat)] ∧ MQz h g ∧ MRow g 6 mi ho' (fun k => if k < d ∧ s.testBit k = true then (4 : Int) else mH h 5 k) lf' wt') ?_ ?_ 0 (Nat.zero_le _) _ _ ⟨rfl, f0, hM.cg (fun _ _ => rfl) (fun j _ => by simp) (fun _ _ => rfl) (fun _ _ => rfl)⟩
          · rintro d hd lv g ⟨rfl, gQ, gM⟩ k2
            have e0 : g.1 0 15 = N := by rw [gQ.mk.2.2 15 (by decide)]; exact hN
            have e5 : g.1 5 (14 + d) = mL h 5 d := by rw [gQ.mk.2.1 5 (by decide)]; rfl
            have b1 := sp s d (by omega)
            have b2 := k2' d hd
            simp only [sm] at k2
            refine vc_X8_cutFor_0_81 ⟨fun q => absurd q (by omega), fun q => ⟨_, cm_has s d (by omega) (by omega), ?_⟩⟩
            rintro _ _ ⟨rfl, rfl⟩
            rename_i g
            refine ⟨fun y => ⟨⟨by omega, by omega⟩, ?_⟩, fun y => ⟨⟨by omega, by omega⟩, ⟨by omega, by omega⟩, ⟨by omega, by omega⟩, ⟨by omega, by omega⟩, ?_⟩⟩
            · rw [bi_0] at y
              rw [if_neg (by rw [y]; decide), Int.add_zero] at k2
              refine k2 _ _ ⟨rfl, gQ, gM.cg (fun _ _ => rfl) (fun j _ => ?_) (fun _ _ => rfl) (fun _ _ => rfl)⟩
              by_cases ej : j = d
              · subst ej; simp [y]
              · have : j < d + 1 ↔ j < d := by omega
                simp only [this]
            · rw [bi_0] at y
              have y := (Bool.not_eq_false _).mp y
              rw [show Int.toNat (14 + (d : Int)) = 14 + d by omega, show Int.toNat (7 + (d : Int)) = 7 + d by omega, e5]
              rw [if_pos y] at k2
              refine ⟨⟨by omega, by omega⟩, ⟨by omega, by omega⟩, k2 _ _ ⟨rfl, ⟨fun a a1 a2 a3 => by rw [up_ne a1]; exact gQ.1 a a1 a2 a3, gQ.2⟩, (gM.uh (by omega) 4).cg (fun _ _ => rfl) (fun j _ => ?_) (fun _ _ => rfl) (fun _ _ => rfl)⟩⟩
              by_cases ej : j = d
              · subst ej; simp [y]
              · have : j < d + 1 ↔ j < d := by omega
                simp only [this, ej, if_false]
          · rintro lv g ⟨rfl, gQ, gM⟩
            have gk := gQ.mk
            have e0 : g.1 0 15 = N := by rw [gk.2.2 15 (by decide)]; exact hN
            have ex : g.1 0 14 = h.1 0 14 := gk.2.2 14 (by decide)
            have b1 := sp s N (Nat.le_refl _)
            have cl := cnt_le (fun k => s.testBit k) 7
            refine vc_X8_cutFor_0_81 ⟨fun qN => ⟨_, cm_bits s (by omega), ?_⟩, fun q => absurd q (by omega)⟩
            rintro _ _ ⟨rfl, rfl⟩
            rename_i g
            refine ⟨⟨by omega, by omega⟩, ⟨by omega, by omega⟩, ?_⟩
            rw [ex]
            refine ⟨_, cm_canPlug_6 e0 h7 c (h.1 0 14) (by omega) ⟨by omega, by omega⟩, ?_⟩
            rintro _ _ ⟨rfl, rfl⟩
            rename_i g
            have ec : canp N (mF g) (mT g) (h.1 0 14) (mH g 6) c = canp N (mF h) (mT h) (h.1 0 14) (fun k => if k < N ∧ s.testBit k = true then (4 : Int) else mH h 5 k) c := by
              rw [gk.c4.1, gk.c4.2.1]
              have hh : ∀ k, k < N → mH g 6 k = (fun k => if k < N ∧ s.testBit k = true then (4 : Int) else mH h 5 k) k := fun k hk => gM.mh (by omega)
              unfold canp
              rw [hh c (by omega), cnt_congr (p := fun k => mH g 6 k == 2) (q := fun k => (fun k => if k < N ∧ s.testBit k = true then (4 : Int) else mH h 5 k) k == 2) (fun k hk => by rw [hh k hk]), bt_congr (p := fun k => mH g 6 k == 2) (q := fun k => (fun k => if k < N ∧ s.testBit k = true then (4 : Int) else mH h 5 k) k == 2) (fun k hk => by rw [hh k hk])]
            rw [ec, px s hsub]
            have cpt : s = t → (decide ((cnt (fun k => (t ^^^ s).testBit k) 7 : Int) < h.1 0 14) && lfree (mF h) (mT h) N (t ^^^ s) c) = true := by
              intro w
              rw [w, Nat.xor_self]
              have c0 : cnt (fun k => (0 : Nat).testBit k) 7 = 0 := by decide
              rw [c0, Bool.and_eq_true, decide_eq_true_eq]
              refine ⟨by omega, ?_⟩
              unfold lfree
              rw [allb_iff]
              intro o _
              simp
            refine ⟨fun y => ⟨⟨by omega, by omega⟩, ?_⟩, fun y => ?_⟩
            · rw [bi_0] at y
              have nst : s ≠ t := fun w => by rw [cpt w] at y; cases y
              have hl2 : lcut N (mF h) (mT h) (mL h 5) (h.1 0 14) t c (s + 1) = lcut N (mF h) (mT h) (mL h 5) (h.1 0 14) t c s := by
                rw [hl, if_neg]
                rintro ⟨-, w1, w2, -⟩
                rw [w2, decide_eq_true w1] at y
                cases y
              refine kk _ _ ⟨_, _, _, _, rfl, gQ, fun _ => ?_, fun w => absurd (by omega) nst⟩
              rw [hl2]
              rcases gA with gA | ⟨b, b1, b2, b3, b4, b5⟩
              · exact Or.inl gA
              · exact Or.inr ⟨b, b1, b2, by omega, b4, b5⟩
            · rw [bi_0] at y
              have y := (Bool.not_eq_false _).mp y
              rw [Bool.and_eq_true, decide_eq_true_eq] at y
              rcases gA with ⟨a1, a2⟩ | ⟨b, a1, a2, a3, a4, a5⟩
              · refine ⟨fun _ => ⟨⟨by omega, by omega⟩, kk _ _ ⟨_, _, _, _, rfl, gQ, fun w => Or.inr ⟨s, rfl, ?_, by omega, hsub, rfl⟩, fun w => ?_⟩⟩, fun w => absurd w (by omega)⟩
                · have nst : s ≠ t := by omega
                  rw [hl, a2, if_pos]
                  refine ⟨hsub, y.1, y.2, ?_⟩
                  unfold cless
                  rw [decide_eq_true (cnt_sub hsub nst ht)]
                  rfl
                · have : s = t := by omega
                  rw [this] at a2 ⊢
                  rw [a2]
              · have b2 := sp b N (Nat.le_refl _)
                have cb := cless_by (N := N) (lf := mL h 5) (a := s) (b := b) ⟨by omega, by omega⟩ ⟨by omega, by omega⟩
                refine ⟨fun w => absurd w (by omega), fun _ => ⟨fun w => ⟨⟨by omega, by omega⟩, ?_⟩, fun w => ⟨⟨by omega, by omega⟩, ?_⟩⟩⟩
                · have hl2 : lcut N (mF h) (mT h) (mL h 5) (h.1 0 14) t c (s + 1) = lcut N (mF h) (mT h) (mL h 5) (h.1 0 14) t c s := by
                    rw [hl, if_neg]
                    rintro ⟨-, -, -, w2⟩
                    rw [← a2] at w2
                    have := cb.mpr w2
                    omega
                  refine kk _ _ ⟨_, _, _, _, rfl, gQ, fun _ => Or.inr ⟨b, a1, by rw [hl2]; exact a2, by omega, a4, a5⟩, fun w2 => ?_⟩
                  have : s = t := by omega
                  rw [this] at a2
                  rw [a1, a2]
                · have w2 := cb.mp (by omega)
                  refine kk _ _ ⟨_, _, _, _, rfl, gQ, fun _ => Or.inr ⟨s, rfl, ?_, by omega, hsub, rfl⟩, fun w3 => ?_⟩
                  · rw [hl, if_pos]
                    rw [a2] at w2
                    exact ⟨hsub, y.1, y.2, w2⟩
                  · have st : s = t := by omega
                    have := cnt_sub a4 (by omega) ht
                    unfold cless at w2
                    rw [st] at w2
                    rw [Bool.or_eq_true, Bool.and_eq_true, decide_eq_true_eq, decide_eq_true_eq, decide_eq_true_eq] at w2
                    omega
        · have hne : ¬ s &&& t = s := fun w => z (by rw [(andn_0 s (by omega) t ht).mpr w]; rfl)
          have hl2 : lcut N (mF h) (mT h) (mL h 5) (h.1 0 14) t c (s + 1) = lcut N (mF h) (mT h) (mL h 5) (h.1 0 14) t c s := by rw [hl, if_neg (fun w => hne w.1)]
          refine kk _ _ ⟨_, _, _, _, rfl, gQ, fun _ => ?_, fun w => absurd (hst (by omega)) hne⟩
          rw [hl2]
          rcases gA with gA | ⟨b, b1, b2, b3, b4, b5⟩
          · exact Or.inl gA
          · exact Or.inr ⟨b, b1, b2, by omega, b4, b5⟩
      · rintro lv g ⟨u, v, x3, x4, rfl, gQ, -, gB⟩
        exact vc_X8_cutFor_0_44 ⟨fun _ => ⟨_, rfl, gQ.mk, by rw [if_pos hc]; exact gB rfl⟩, fun q => absurd q (by omega)⟩
    · have e : ¬ mH h 5 c = 1 := e
      rw [if_neg e, if_pos hc]
  · rw [if_neg hc]
    exact ⟨fun _ => ⟨_, rfl, MK.rfl, by rw [if_neg hc]⟩, fun z => absurd rfl z⟩
