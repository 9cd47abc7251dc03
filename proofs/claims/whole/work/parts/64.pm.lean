/-! pairs: what is done -/
/-- a moment noted -/
def NTP (h : jH) (k : Nat) (h' : jH) : Prop := h'.2 = h.2 ∧ (∀ a, a ≠ 0 → a ≠ 9 → h'.1 a = h.1 a) ∧ (∀ j, j ≠ 22 → h'.1 0 j = h.1 0 j) ∧ h'.1 0 22 = (min 10 (k + 1) : Nat) ∧ (∀ j, j < 28 → h'.1 9 (28 * (min 10 (k + 1) - 1) + j) = h.1 5 j) ∧ ∀ i, i + 1 < min 10 (k + 1) → ∀ j, j < 28 → h'.1 9 (28 * i + j) = h.1 9 (28 * (if k = 10 then i + 1 else i) + j)
theorem cm_note {h : jH} {k : Nat} (hk : h.1 0 22 = k) (k10 : k ≤ 10) : CT Sm M_X8_note [jR 0] h (jPv (NTP h k)) := by
  refine en_X8_note_0 (fun G => vc_X8_note_0_0 ⟨fun e => ?_, fun e => ⟨⟨by omega, by omega⟩, ?_⟩⟩)
  · have ek : k = 10 := by omega
    subst ek
    refine jf_loop 252 (fun t lv g => lv = [jR 0, jI (t : Nat)] ∧ g = upr h 9 (fun j => if j < t then h.1 9 (j + 28) else h.1 9 j)) ?_ ?_ 0 (by decide) _ _ ⟨rfl, (upr_id (fun j => by rw [if_neg (by omega)])).symm⟩
    · rintro t ht lv g ⟨rfl, rfl⟩ kk
      refine vc_X8_note_0_11 ⟨fun q => absurd q (by omega), fun q => ⟨⟨by omega, by omega⟩, by omega, by omega, ⟨by omega, by omega⟩, kk _ _ ⟨rfl, ?_⟩⟩⟩
      rw [Int.toNat_natCast, show Int.toNat ((t : Int) + 28) = t + 28 by omega, up_upr]
      congr 1
      funext j
      rw [upr_same, if_neg (by omega : ¬ t + 28 < t)]
      by_cases c : j = t
      · rw [if_pos c, if_pos (by omega), c]
      · rw [if_neg c]
        by_cases c2 : j < t
        · rw [if_pos c2, if_pos (by omega)]
        · rw [if_neg c2, if_neg (by omega)]
    · rintro lv g ⟨rfl, rfl⟩
      have e0 : (upr h 9 (fun j => if j < 252 then h.1 9 (j + 28) else h.1 9 j)).1 0 22 = 10 := by rw [upr_ne (by omega)]; exact e
      refine vc_X8_note_0_11 ⟨fun _ => ⟨by rw [e0]; exact ⟨by omega, by omega⟩, by rw [e0]; exact ⟨by omega, by omega⟩, ?_⟩, fun q => absurd (by decide) q⟩
      rw [e0]
      refine ⟨_, cm_copy_5_9 0 252 (by decide) (by decide), ?_⟩
      rintro _ rfl
      have e1 : (upr (j_up (upr h 9 (fun j => if j < 252 then h.1 9 (j + 28) else h.1 9 j)) 0 22 (10 - 1)) 9 (fun j => if 252 ≤ j ∧ j < 252 + 28 then (j_up (upr h 9 (fun j => if j < 252 then h.1 9 (j + 28) else h.1 9 j)) 0 22 (10 - 1)).1 5 (0 + (j - 252)) else (j_up (upr h 9 (fun j => if j < 252 then h.1 9 (j + 28) else h.1 9 j)) 0 22 (10 - 1)).1 9 j)).1 0 22 = 9 := by rw [upr_ne (by omega), up_eq]; rfl
      rw [e1]
      refine ⟨⟨by omega, by omega⟩, rfl, rfl, fun a h0 h9 => ?_, fun j hj => ?_, ?_, fun j hj => ?_, fun i hi j hj => ?_⟩
      · rw [up_ne h0, upr_ne h9, up_ne h0, upr_ne h9]
      · rw [up_out hj, upr_ne (by omega), up_out hj, upr_ne (by omega)]
      · rw [up_eq]; rfl
      · rw [up_ne (by omega), upr_same]
        simp only [show min 10 (10 + 1) = 10 from rfl]
        rw [if_pos (by omega), up_ne (by omega), upr_ne (by omega), show 0 + (28 * (10 - 1) + j - 252) = j by omega]
      · simp only [show min 10 (10 + 1) = 10 from rfl] at hi
        rw [up_ne (by omega), upr_same]
        rw [if_neg (by omega), up_ne (by omega), upr_same]
        rw [if_pos (by omega), if_pos rfl, show 28 * i + j + 28 = 28 * (i + 1) + j by omega]
  · have ek : k < 10 := by omega
    have em : min 10 (k + 1) = k + 1 := by omega
    rw [hk, show 28 * (k : Int) = ((28 * k : Nat) : Int) by omega]
    refine ⟨_, cm_copy_5_9 0 (28 * k) (by decide) (by omega), ?_⟩
    rintro _ rfl
    rw [upr_ne (a := 0) (k := 9) (by omega), hk]
    refine ⟨⟨by omega, by omega⟩, rfl, rfl, fun a h0 h9 => ?_, fun j hj => ?_, ?_, fun j hj => ?_, fun i hi j hj => ?_⟩
    · rw [up_ne h0, upr_ne h9]
    · rw [up_out hj, upr_ne (by omega)]
    · rw [up_eq, em]; rfl
    · rw [up_ne (by omega), upr_same, em]
      rw [if_pos (by omega), show 0 + (28 * (k + 1 - 1) + j - 28 * k) = j by omega]
    · rw [em] at hi
      rw [up_ne (by omega), upr_same]
      rw [if_neg (by omega), if_neg (by omega)]
/-- both note the present moment -/
theorem addnote {a b : jH} (hR : Rel a b) : ∃ a1, CU Sx M_X3_add [jR 22, jR 17] a a1 ∧ (∀ k, k ≠ 22 → k ≠ 23 → a1.1 k = a.1 k) ∧ a1.2 = a.2 ∧ CT Sm M_X8_note [jR 0] b (jPv fun b1 => Rel a1 b1 ∧ (∀ k, k ≠ 0 → k ≠ 9 → b1.1 k = b.1 k) ∧ (∀ j, j ≠ 22 → b1.1 0 j = b.1 0 j) ∧ b1.2 = b.2) := by
  obtain ⟨N, L, hB, hN, ⟨x, k, ⟨hx, x10⟩, ⟨k1, k2, k10⟩, hE⟩, hI, hT, hw⟩ := id hR
  have h7 := hB.1.2.2
  refine ⟨_, ct_add hx x10 k1 k10, fun q h1 h2 => by rw [up_ne h1, up_ne h1, upr_ne h2], rfl, (cm_note k2 k10).post ?_⟩
  rintro _ b1 ⟨rfl, n1, n2, n3, n4, n5, n6⟩
  refine ⟨rfl, ?_, n2, n3, n1⟩
  have fr : ∀ q, q ≠ 22 → q ≠ 23 → (j_up (j_up (upr a 23 (fun j => if x * 28 ≤ j ∧ j < x * 28 + 28 then mv28 a (j - x * 28) else a.1 23 j)) 22 1 (((x + 1) % 10 : Nat) : Int)) 22 2 ((min 10 (k + 1) : Nat) : Int)).1 q = a.1 q := fun q h1 h2 => by rw [up_ne h1, up_ne h1, upr_ne h2]
  generalize ha : j_up (j_up (upr a 23 (fun j => if x * 28 ≤ j ∧ j < x * 28 + 28 then mv28 a (j - x * 28) else a.1 23 j)) 22 1 (((x + 1) % 10 : Nat) : Int)) 22 2 ((min 10 (k + 1) : Nat) : Int) = a1 at fr ⊢
  have r1 : a1.1 22 1 = ((x + 1) % 10 : Nat) := by rw [← ha, up_out (by omega), up_eq]
  have r2 : a1.1 22 2 = (min 10 (k + 1) : Nat) := by rw [← ha, up_eq]
  have r3 : ∀ j, a1.1 23 j = if x * 28 ≤ j ∧ j < x * 28 + 28 then mv28 a (j - x * 28) else a.1 23 j := fun j => by rw [← ha, up_ne (by omega), up_ne (by omega), upr_same]
  have r4 : a1.2 = a.2 := by rw [← ha]; rfl
  refine ⟨N, L, hB.kp (fun q hq => fr q (by omega) (by omega)) (n2 4 (by omega) (by omega)) (fun j hj => n3 j (by omega)), ((hN.pf h7).kp (fun q hq => fr q (by omega) (by omega)) (n2 5 (by omega) (by omega))).rn h7, ⟨(x + 1) % 10, min 10 (k + 1), ⟨r1, by omega⟩, ⟨r2, n4, by omega⟩, fun i hi => ?_⟩, hI.kp (fun q hq => fr q (by omega) (by omega)) (n2 7 (by omega) (by omega)) (n2 8 (by omega) (by omega)), hT.kp (fr 1 (by omega) (by omega)) (by rw [fr 0 (by omega) (by omega)]) (n2 1 (by omega) (by omega)) (n3 0 (by omega)), by rw [r4, n1]; exact hw⟩
  rw [fr 5 (by omega) (by omega), fr 6 (by omega) (by omega)]
  by_cases c : i + 1 = min 10 (k + 1)
  · have ep : ((x + 1) % 10 + 10 - min 10 (k + 1) + i) % 10 = x := by omega
    rw [ep]
    refine RR.cg h7 hN (fun j hj => ?_) (fun j hj => ?_) (fun _ _ => rfl) (fun _ _ => rfl)
    · rw [r3, if_pos (by omega), show 28 * x + j - x * 28 = j by omega]
    · have := n5 j hj
      rw [show min 10 (k + 1) - 1 = i by omega] at this
      exact this
  · by_cases ck : k = 10
    · have ep : ((x + 1) % 10 + 10 - min 10 (k + 1) + i) % 10 = (x + 10 - k + (i + 1)) % 10 := by omega
      rw [ep]
      have hne : (x + 10 - k + (i + 1)) % 10 ≠ x := by omega
      refine RR.cg h7 (hE (i + 1) (by omega)) (fun j hj => ?_) (fun j hj => ?_) (fun _ _ => rfl) (fun _ _ => rfl)
      · rw [r3, if_neg (by omega)]
      · rw [n6 i (by omega) j hj, if_pos ck]
    · have ep : ((x + 1) % 10 + 10 - min 10 (k + 1) + i) % 10 = (x + 10 - k + i) % 10 := by omega
      rw [ep]
      have hne : (x + 10 - k + i) % 10 ≠ x := by omega
      refine RR.cg h7 (hE i (by omega)) (fun j hj => ?_) (fun j hj => ?_) (fun _ _ => rfl) (fun _ _ => rfl)
      · rw [r3, if_neg (by omega)]
      · rw [n6 i (by omega) j hj, if_neg ck]
/-- a new present moment -/
theorem Rel.np {a b a2 b2 : jH} (h : Rel a b) (x0 : ∀ k, k < 17 ∨ 21 < k → a2.1 k = a.1 k) (m0 : ∀ k, k ≠ 5 → b2.1 k = b.1 k) (x2 : a2.2 = a.2) (m2 : b2.2 = b.2) (hp : ∀ N L, RB N L a b → PF N a b → PF N a2 b2) : Rel a2 b2 := by
  obtain ⟨N, L, hB, hN, hP, hI, hT, hw⟩ := h
  exact ⟨N, L, hB.kp (fun k hk => x0 k (by omega)) (m0 4 (by omega)) (fun j hj => by rw [m0 0 (by omega)]), (hp N L hB (hN.pf hB.1.2.2)).rn hB.1.2.2, hP.kp (fun k hk => x0 k (by omega)) (m0 9 (by omega)) (by rw [m0 0 (by omega)]), hI.kp (fun k hk => x0 k (by omega)) (m0 7 (by omega)) (m0 8 (by omega)), hT.kp (x0 1 (by omega)) (by rw [x0 0 (by omega)]) (m0 1 (by omega)) (by rw [m0 0 (by omega)]), by rw [x2, m2]; exact hw⟩
theorem p_minute {a b : jH} (hR : Rel a b) : PR M_X7_minute M_X8_minute [] a b := by
  obtain ⟨N, L, hB, hN, -⟩ := id hR
  have hp := hN.pf hB.1.2.2
  have h7 := hB.1.2.2
  have hm := hp.1
  by_cases e : a.1 17 1 < 99
  · obtain ⟨a1, hx, x1, x2, hmn⟩ := addnote hR
    have hl : ∀ c, c < N → -100000 ≤ a1.1 20 c ∧ a1.1 20 c ≤ 100000 := fun c hc => by rw [x1 20 (by omega) (by omega)]; have := (hp.2.2.2.1 c hc).2.2.2.1; omega
    have hwt : ∀ c, c < N → -100000 ≤ a1.1 21 c ∧ a1.1 21 c ≤ 100000 := fun c hc => by rw [x1 21 (by omega) (by omega)]; have := (hp.2.2.2.1 c hc).2.2.1; omega
    have e17 : a1.1 17 1 = a.1 17 1 := by rw [x1 17 (by omega) (by omega)]
    have hN1 : a1.1 2 2 = N := by rw [x1 2 (by omega) (by omega)]; exact hB.1.1
    refine PR.m (r := a.1 17 1 + 1) (a2 := upr (j_up (pm_17 a1 N) 17 1 (a1.1 17 1 + 1)) 19 (qF N (a1.1 4) (a1.1 17 1 + 1) (qH N (a1.1 19) (a1.1 20)))) (en_X7_minute_0 (fun G => vc_X7_minute_0_0 ⟨fun _ => ⟨_, hx, ?_⟩, fun q => absurd e q⟩)) (en_X8_minute_0 (fun G => vc_X8_minute_0_0 ⟨fun q => absurd q (by omega), fun _ => ⟨_, hmn, ?_⟩⟩))
    · rintro _ rfl
      rename_i a1
      refine ⟨_, ct_passMinute_17 hN1 h7 hl hwt (by omega), ?_⟩
      rintro _ rfl
      refine ⟨_, rfl, ?_, rfl⟩
      rw [upr_ne (by omega), up_eq, e17]
    · rintro b1 ⟨hR1, y1, y2, y3⟩
      obtain ⟨M, K, hB1, hN1', -⟩ := id hR1
      have hMN : M = N := by have := hB1.1.1; rw [hN1] at this; omega
      subst hMN
      have hp1 := hN1'.pf h7
      have hk1 := hB1.mkx hp1
      refine ⟨_, cm_pass_5 hB1.1.2.1 h7 MRow.self hk1.1 (fun c hc => by have := hk1.2.1 c hc; omega) (fun c hc => by have := hk1.2.2.1 c hc; omega) (by have := hk1.2.2.2.1; omega), ?_⟩
      rintro b2 ⟨z1, z2, w1, w2, w3⟩
      refine ⟨_, rfl, ?_, hR1.np (fun k hk => ?_) z1 rfl z2 (fun N2 L2 hB2 _ => ?_)⟩
      · rw [w1, ← hp1.1.1, e17]
      · rw [upr_ne (by omega), up_ne (by omega)]
        unfold pm_17
        rw [upr_ne (by omega), upr_ne (by omega), upr_ne (by omega)]
      · have hN2 : N2 = M := by have := hB2.1.1; have := hB1.1.1; omega
        subst hN2
        have r17 : (upr (j_up (pm_17 a1 N2) 17 1 (a1.1 17 1 + 1)) 19 (qF N2 (a1.1 4) (a1.1 17 1 + 1) (qH N2 (a1.1 19) (a1.1 20)))).1 17 1 = a1.1 17 1 + 1 := by rw [upr_ne (by omega), up_eq]
        have r18 : (upr (j_up (pm_17 a1 N2) 17 1 (a1.1 17 1 + 1)) 19 (qF N2 (a1.1 4) (a1.1 17 1 + 1) (qH N2 (a1.1 19) (a1.1 20)))).1 18 = a1.1 18 := rfl
        have r19 : (upr (j_up (pm_17 a1 N2) 17 1 (a1.1 17 1 + 1)) 19 (qF N2 (a1.1 4) (a1.1 17 1 + 1) (qH N2 (a1.1 19) (a1.1 20)))).1 19 = qF N2 (a1.1 4) (a1.1 17 1 + 1) (qH N2 (a1.1 19) (a1.1 20)) := rfl
        have r20 : (upr (j_up (pm_17 a1 N2) 17 1 (a1.1 17 1 + 1)) 19 (qF N2 (a1.1 4) (a1.1 17 1 + 1) (qH N2 (a1.1 19) (a1.1 20)))).1 20 = qL N2 (a1.1 19) (a1.1 20) := rfl
        have r21 : (upr (j_up (pm_17 a1 N2) 17 1 (a1.1 17 1 + 1)) 19 (qF N2 (a1.1 4) (a1.1 17 1 + 1) (qH N2 (a1.1 19) (a1.1 20)))).1 21 = qW N2 (a1.1 19) (a1.1 21) := rfl
        have r5 : (upr (j_up (pm_17 a1 N2) 17 1 (a1.1 17 1 + 1)) 19 (qF N2 (a1.1 4) (a1.1 17 1 + 1) (qH N2 (a1.1 19) (a1.1 20)))).1 5 = a1.1 5 := rfl
        have r6 : (upr (j_up (pm_17 a1 N2) 17 1 (a1.1 17 1 + 1)) 19 (qF N2 (a1.1 4) (a1.1 17 1 + 1) (qH N2 (a1.1 19) (a1.1 20)))).1 6 = a1.1 6 := rfl
        have sr : SR N2 (a1.1 19, a1.1 20) (mH b1 5, mL b1 5) := fun c hc => by
          have := hp1.2.2.2.1 c hc
          exact ⟨this.1, fun q => (this.2.2.2.2.2.1 q).1⟩
        have sr2 := qL_cg sr (m := a1.1 17 1 + 1) hB1.hfl
        unfold PF
        rw [r17, r18, r19, r20, r21, r5, r6]
        refine ⟨⟨by rw [w1, hp1.1.1], by omega, by omega⟩, fun l hl => ⟨?_, (hp1.2.1 l hl).2⟩, hp1.2.2.1, fun c hc => ?_, fun i j hi hj hn q1 q2 => hp1.2.2.2.2 i j hi hj hn (qH_2 (qF_2 q1)).1 (qH_2 (qF_2 q2)).1⟩
        · rw [(hp1.2.1 l hl).1]
          exact (w2 l hl).symm
        · have f1 := hp1.2.2.2.1 c hc
          have f2 := sr2 c hc
          have f3 := w3 c (by omega)
          have m1 : mH b2 5 c = qF N2 (mA b1) (a1.1 17 1 + 1) (qH N2 (mH b1 5) (mL b1 5)) c := by rw [hp1.1.1]; exact f3.1
          have m2 : mL b2 5 c = qL N2 (mH b1 5) (mL b1 5) c := f3.2.1
          have m3 : mW b2 5 c = qW N2 (mH b1 5) (mW b1 5) c := f3.2.2
          have k1 := hk1.1 c hc
          rw [m1, m2, m3]
          refine ⟨f2.1, ?_, ?_, ?_, ?_, fun q => ⟨f2.2 q, ?_⟩, fun q => ?_⟩
          · unfold qW; rw [f1.1, f1.2.1]
          · unfold qW; split <;> omega
          · unfold qL
            split
            · rename_i hh; have := f1.2.2.2.2.2.1 hh.2; omega
            · exact f1.2.2.2.1
          · unfold qL
            split
            · rename_i hh; have := k1 hh.2; omega
            · exact f1.2.2.2.2.1
          · have q3 := qH_2 (qF_2 q)
            have := q3.2 hc
            unfold qL
            rw [if_pos ⟨hc, q3.1⟩]
            omega
          · unfold qL
            by_cases hh : a1.1 19 c = 2
            · rw [if_pos ⟨hc, hh⟩]
              have g1 := f1.2.2.2.2.2.1 hh
              apply Decidable.byContradiction
              intro g2
              apply q
              have g3 : qH N2 (a1.1 19) (a1.1 20) c = 2 := by
                unfold qH
                rw [if_neg (by omega)]
                exact hh
              unfold qF
              rw [g3, if_neg (by omega)]
            · rw [if_neg (fun z => hh z.2)]
              exact f1.2.2.2.2.2.2 hh
  · refine PR.f (r := -2) hR (en_X7_minute_0 (fun G => vc_X7_minute_0_0 ⟨fun q => absurd q e, fun _ => ⟨_, rfl, rfl, rfl⟩⟩)) (en_X8_minute_0 (fun G => vc_X8_minute_0_0 ⟨fun _ => ⟨_, rfl, rfl, rfl⟩, fun q => absurd (by omega) q⟩))
