/-! pairs: what is asked -/
theorem ct_line {h : jH} {N L : Nat} (hN : h.1 2 2 = N) (h7 : N ≤ 7) (hL : h.1 2 0 = L) (hL6 : L ≤ 6) (l w : Int) : CF Sx M_X7_line [jR 0, jI l, jI w] h (if (0 ≤ l ∧ l < L) ∧ (0 ≤ w ∧ w ≤ 1) then (if w = 0 then h.1 18 l.toNat else onI (fst_ (fun c => h.1 19 c == 2 && (h.1 5 c == l || h.1 6 c == l)) N)) else -1) := by
  refine en_X7_line_0 (fun G => vc_X7_line_0_0 ⟨_, ct_hasLine l, ?_⟩)
  rintro _ _ ⟨rfl, rfl⟩
  rename_i h
  rw [hL]
  by_cases e : 0 ≤ l ∧ l < (L : Int)
  · rw [if_pos e]
    refine ⟨fun z => absurd z (by decide), fun _ => ⟨fun q => ⟨_, rfl, ?_, rfl⟩, fun q => ⟨fun q2 => ⟨fun w0 => ⟨by omega, _, rfl, ?_, rfl⟩, fun w0 => ⟨_, ct_engagedBy hN h7 l, ?_⟩⟩, fun q2 => ⟨_, rfl, ?_, rfl⟩⟩⟩⟩
    · rw [if_neg (by omega)]
    · rw [if_pos (by omega), if_pos w0]
    · rintro _ _ ⟨rfl, rfl⟩
      exact ⟨_, rfl, by rw [if_pos (by omega), if_neg w0], rfl⟩
    · rw [if_neg (by omega)]
  · rw [if_neg e]
    exact ⟨fun _ => ⟨_, rfl, by rw [if_neg (fun k => e k.1)], rfl⟩, fun z => absurd rfl z⟩
theorem cm_line {h : jH} {N L : Nat} (hN : h.1 0 15 = N) (h7 : N ≤ 7) (hL : h.1 0 13 = L) (hL6 : L ≤ 6) (l w : Int) : CF Sm M_X8_line [jR 0, jI l, jI w] h (if (0 ≤ l ∧ l < L) ∧ (0 ≤ w ∧ w ≤ 1) then (if w = 0 then mO h 5 l.toNat else onI (lst_ (fun c => mH h 5 c == 2 && (mF h c == l || mT h c == l)) N)) else -1) := by
  refine en_X8_line_0 (fun G => vc_X8_line_0_0 ⟨_, cm_isLine l (by omega), ?_⟩)
  rintro _ _ ⟨rfl, rfl⟩
  rename_i h
  rw [hL]
  by_cases e : 0 ≤ l ∧ l < (L : Int)
  · rw [if_pos e]
    refine ⟨fun z => absurd z (by decide), fun _ => ⟨_, cm_in w 0 1, ?_⟩⟩
    rintro _ _ ⟨rfl, rfl⟩
    rename_i h
    by_cases e1 : 0 ≤ w ∧ w ≤ 1
    · rw [if_pos e1]
      refine ⟨fun z => absurd z (by decide), fun _ => ⟨fun w0 => ⟨_, cm_holeOf l (by omega), ?_⟩, fun w0 => ⟨_, cm_talkerOn_5 hN h7 l, ?_⟩⟩⟩
      · rintro _ _ ⟨rfl, rfl⟩
        exact ⟨_, rfl, by rw [if_pos ⟨e, e1⟩, if_pos w0], rfl⟩
      · rintro _ _ ⟨rfl, rfl⟩
        exact ⟨_, rfl, by rw [if_pos ⟨e, e1⟩, if_neg w0], rfl⟩
    · rw [if_neg e1]
      exact ⟨fun _ => ⟨_, rfl, by rw [if_neg (fun k => e1 k.2)], rfl⟩, fun z => absurd rfl z⟩
  · rw [if_neg e]
    exact ⟨fun _ => ⟨_, rfl, by rw [if_neg (fun k => e k.1)], rfl⟩, fun z => absurd rfl z⟩
theorem p_line {a b : jH} (hR : Rel a b) (l w : Int) : PR M_X7_line M_X8_line [jI l, jI w] a b := by
  obtain ⟨N, L, hB, hN, -⟩ := id hR
  have hp := hN.pf hB.1.2.2
  refine PR.f hR (ct_line hB.1.1 hB.1.2.2 hB.2.1.1 hB.2.1.2.2.2 l w) ?_
  have k := cm_line hB.1.2.1 hB.1.2.2 hB.2.1.2.1 hB.2.1.2.2.2 l w
  rw [hB.eng hp l] at k
  by_cases e : (0 ≤ l ∧ l < (L : Int)) ∧ (0 ≤ w ∧ w ≤ 1)
  · have := hB.2.1
    rw [if_pos e] at k ⊢
    rw [(hp.2.1 l.toNat (by omega)).1]
    exact k
  · rw [if_neg e] at k ⊢
    exact k
/-! call -/
def caA (fl fr to ln rn hw lf wt w : Int) : Int := if w = 0 then fl else if w = 1 then fr else if w = 2 then to else if w = 3 then ln else if w = 4 then rn else if w = 5 then hw else if w = 6 then lf else if w = 7 then wt else -1
theorem caA_no {fl fr to ln rn hw lf wt w : Int} (h : w < 0 ∨ 7 < w) : caA fl fr to ln rn hw lf wt w = -1 := by
  unfold caA
  rw [if_neg (by omega), if_neg (by omega), if_neg (by omega), if_neg (by omega), if_neg (by omega), if_neg (by omega), if_neg (by omega), if_neg (by omega)]
theorem ct_call {h : jH} {N : Nat} (hN : h.1 2 2 = N) (h7 : N ≤ 7) (c w : Int) : CF Sx M_X7_call [jR 0, jI c, jI w] h (if 0 ≤ c ∧ c < N then caA (h.1 4 c.toNat) (h.1 5 c.toNat) (h.1 6 c.toNat) (h.1 7 c.toNat) (h.1 8 c.toNat) (h.1 19 c.toNat) (h.1 20 c.toNat) (h.1 21 c.toNat) w else -1) := by
  refine en_X7_call_0 (fun G => vc_X7_call_0_0 ⟨_, ct_hasCall c, ?_⟩)
  rintro _ _ ⟨rfl, rfl⟩
  rename_i h
  rw [hN]
  by_cases e : 0 ≤ c ∧ c < (N : Int)
  · rw [if_pos e, if_pos e]
    refine ⟨fun z => absurd z (by decide), fun _ => ⟨fun q => ⟨by omega, _, rfl, ?_, rfl⟩, fun q => ⟨by omega, _, rfl, ?_, rfl⟩, fun q => ⟨by omega, _, rfl, ?_, rfl⟩, fun q => ⟨by omega, _, rfl, ?_, rfl⟩, fun q => ⟨by omega, _, rfl, ?_, rfl⟩, fun q => ⟨by omega, _, rfl, ?_, rfl⟩, fun q => ⟨by omega, _, rfl, ?_, rfl⟩, fun q => ⟨by omega, _, rfl, ?_, rfl⟩, fun q => ⟨_, rfl, (caA_no q).symm, rfl⟩⟩⟩ <;> (subst q; rfl)
  · rw [if_neg e, if_neg e]
    exact ⟨fun _ => ⟨_, rfl, rfl, rfl⟩, fun z => absurd rfl z⟩
theorem cm_call {h : jH} {N : Nat} (hN : h.1 0 15 = N) (h7 : N ≤ 7) (c w : Int) : CF Sm M_X8_call [jR 0, jI c, jI w] h (if 0 ≤ c ∧ c < N then caA (mA h c.toNat) (mF h c.toNat) (mT h c.toNat) (mN h c.toNat) (mR h c.toNat) (mH h 5 c.toNat) (if mH h 5 c.toNat = 2 then mL h 5 c.toNat else 0) (mW h 5 c.toNat) w else -1) := by
  refine en_X8_call_0 (fun G => vc_X8_call_0_0 ⟨_, cm_isCall c (by omega), ?_⟩)
  rintro _ _ ⟨rfl, rfl⟩
  rename_i h
  rw [hN]
  by_cases e : 0 ≤ c ∧ c < (N : Int)
  · rw [if_pos e, if_pos e]
    obtain ⟨c, rfl⟩ : ∃ k : Nat, c = (k : Int) := ⟨c.toNat, by omega⟩
    have e1 : Int.toNat (7 + (c : Int)) = 7 + c := by omega
    have e2 : Int.toNat (14 + (c : Int)) = 14 + c := by omega
    have e3 : Int.toNat (21 + (c : Int)) = 21 + c := by omega
    have f : ∀ k : Nat, Int.toNat (5 * (c : Int) + (k : Int)) = 5 * c + k := by omega
    rw [e1, e2, e3, Int.toNat_natCast]
    refine ⟨fun z => absurd z (by decide), fun _ => ⟨fun q => ⟨⟨by omega, by omega⟩, ⟨by omega, by omega⟩, by omega, _, rfl, ?_, rfl⟩, fun q => ⟨⟨by omega, by omega⟩, ⟨by omega, by omega⟩, by omega, _, rfl, ?_, rfl⟩, fun q => ⟨⟨by omega, by omega⟩, ⟨by omega, by omega⟩, by omega, _, rfl, ?_, rfl⟩, fun q => ⟨⟨by omega, by omega⟩, ⟨by omega, by omega⟩, by omega, _, rfl, ?_, rfl⟩, fun q => ⟨⟨by omega, by omega⟩, ⟨by omega, by omega⟩, by omega, _, rfl, ?_, rfl⟩, fun q => ⟨⟨by omega, by omega⟩, by omega, _, rfl, ?_, rfl⟩, fun q => ⟨⟨by omega, by omega⟩, by omega, fun z => ⟨⟨by omega, by omega⟩, by omega, _, rfl, ?_, rfl⟩, fun z => ⟨_, rfl, ?_, rfl⟩⟩, fun q => ⟨⟨by omega, by omega⟩, by omega, _, rfl, ?_, rfl⟩, fun q => ⟨_, rfl, (caA_no q).symm, rfl⟩⟩⟩
    · subst q; exact congrArg (h.1 4) (f 0)
    · subst q; exact congrArg (h.1 4) (f 1)
    · subst q; exact congrArg (h.1 4) (f 2)
    · subst q; exact congrArg (h.1 4) (f 3)
    · subst q; exact congrArg (h.1 4) (f 4)
    · subst q; rfl
    · subst q
      have z : mH h 5 c = 2 := z
      rw [if_pos z]; rfl
    · subst q
      have z : ¬ mH h 5 c = 2 := z
      rw [if_neg z]; rfl
    · subst q; rfl
  · rw [if_neg e, if_neg e]
    exact ⟨fun _ => ⟨_, rfl, rfl, rfl⟩, fun z => absurd rfl z⟩
theorem p_call {a b : jH} (hR : Rel a b) (c w : Int) : PR M_X7_call M_X8_call [jI c, jI w] a b := by
  obtain ⟨N, L, hB, hN, -⟩ := id hR
  have hp := hN.pf hB.1.2.2
  refine PR.f hR (ct_call hB.1.1 hB.1.2.2 c w) ?_
  have k := cm_call hB.1.2.1 hB.1.2.2 c w
  by_cases e : 0 ≤ c ∧ c < (N : Int)
  · rw [if_pos e] at k ⊢
    have hc : c.toNat < N := by omega
    have h1 := hp.2.2.2.1 _ hc
    have h2 := hB.2.2.2 _ hc
    have e6 : (if mH b 5 c.toNat = 2 then mL b 5 c.toNat else 0) = a.1 20 c.toNat := by
      rw [← h1.1]
      by_cases z : a.1 19 c.toNat = 2
      · rw [if_pos z, (h1.2.2.2.2.2.1 z).1]
      · rw [if_neg z, h1.2.2.2.2.2.2 z]
    rw [e6, ← h1.1, ← h1.2.1, ← h2.1.1, ← h2.2.1.1, ← h2.2.2.1.1, ← h2.2.2.2.1.1, ← h2.2.2.2.2.1] at k
    exact k
  · rw [if_neg e] at k ⊢
    exact k
/-! now -/
theorem ct_freeCords {h : jH} {N : Nat} (hN : h.1 2 2 = N) (h7 : N ≤ 7) (hx : 1 ≤ h.1 2 1 ∧ h.1 2 1 ≤ 4) : CF Sx M_X7_freeCords [jR 0] h (h.1 2 1 - (cnt (fun c => h.1 19 c == 2) N : Nat)) := by
  refine en_X7_freeCords_0 (fun G => vc_X7_freeCords_0_0 ⟨_, ct_those_17 hN h7 2, ?_⟩)
  rintro _ _ ⟨rfl, rfl⟩
  rename_i h
  refine ⟨_, ct_bitCount _ (bt_128 h7), ?_⟩
  rintro _ _ ⟨rfl, rfl⟩
  rename_i h
  rw [cnt_bt h7]
  have := cnt_le (fun c => h.1 19 c == 2) N
  exact ⟨⟨by omega, by omega⟩, _, rfl, rfl, rfl⟩
def noA (m ws ts fc cr kn w : Int) : Int := if w = 0 then m else if w = 1 then ws else if w = 2 then ts else if w = 3 then fc else if w = 4 then cr else if w = 5 then kn else -1
theorem noA_no {m ws ts fc cr kn w : Int} (h : w < 0 ∨ 5 < w) : noA m ws ts fc cr kn w = -1 := by
  unfold noA
  rw [if_neg (by omega), if_neg (by omega), if_neg (by omega), if_neg (by omega), if_neg (by omega), if_neg (by omega)]
theorem ct_now {h : jH} {N : Nat} (hN : h.1 2 2 = N) (h7 : N ≤ 7) (hx : 1 ≤ h.1 2 1 ∧ h.1 2 1 ≤ 4) (hk : lok (h.1 5) (h.1 6) N) (w : Int) : CF Sx M_X7_now [jR 0, jI w] h (noA (h.1 17 1) (bt (fun c => h.1 19 c == 1) N : Nat) (bt (fun c => h.1 19 c == 2) N : Nat) (h.1 2 1 - (cnt (fun c => h.1 19 c == 2) N : Nat)) ((crn (h.1 18) (h.1 5) (h.1 6) (h.1 19) N N / 2 : Nat) : Int) (h.1 22 2) w) := by
  refine en_X7_now_0 (fun G => vc_X7_now_0_0 ⟨fun q => ⟨_, rfl, ?_, rfl⟩, fun q => ⟨_, ct_those_17 hN h7 1, ?_⟩, fun q => ⟨_, ct_those_17 hN h7 2, ?_⟩, fun q => ⟨_, ct_freeCords hN h7 hx, ?_⟩, fun q => ⟨_, ct_crossings hN h7 hk, ?_⟩, fun q => ⟨_, rfl, ?_, rfl⟩, fun q => ⟨_, rfl, (noA_no q).symm, rfl⟩⟩)
  · subst q; rfl
  · rintro _ _ ⟨rfl, rfl⟩; subst q; exact ⟨_, rfl, rfl, rfl⟩
  · rintro _ _ ⟨rfl, rfl⟩; subst q; exact ⟨_, rfl, rfl, rfl⟩
  · rintro _ _ ⟨rfl, rfl⟩; subst q; exact ⟨_, rfl, rfl, rfl⟩
  · rintro _ _ ⟨rfl, rfl⟩; subst q; exact ⟨_, rfl, rfl, rfl⟩
  · subst q; rfl
theorem cm_now {h : jH} {N : Nat} (hN : h.1 0 15 = N) (h7 : N ≤ 7) (hx : 1 ≤ h.1 0 14 ∧ h.1 0 14 ≤ 4) (hk : lok (mF h) (mT h) N) (w : Int) : CF Sm M_X8_now [jR 0, jI w] h (noA (h.1 5 0) (bt (fun c => mH h 5 c == 1) N : Nat) (bt (fun c => mH h 5 c == 2) N : Nat) (h.1 0 14 - (cnt (fun c => mH h 5 c == 2) N : Nat)) (tri (cr2 (mO h 5) (mF h) (mT h) (mH h 5)) N : Nat) (h.1 0 22) w) := by
  refine en_X8_now_0 (fun G => vc_X8_now_0_0 ⟨fun q => ⟨_, rfl, ?_, rfl⟩, fun q => ⟨_, cm_setOf_5 hN h7 1, ?_⟩, fun q => ⟨_, cm_setOf_5 hN h7 2, ?_⟩, fun q => ⟨_, cm_freeCords_5 hN h7 _ (by omega), ?_⟩, fun q => ⟨_, cm_crossed hN h7 hk, ?_⟩, fun q => ⟨_, rfl, ?_, rfl⟩, fun q => ⟨_, rfl, (noA_no q).symm, rfl⟩⟩)
  · subst q; rfl
  · rintro _ _ ⟨rfl, rfl⟩; subst q; exact ⟨_, rfl, rfl, rfl⟩
  · rintro _ _ ⟨rfl, rfl⟩; subst q; exact ⟨_, rfl, rfl, rfl⟩
  · rintro _ _ ⟨rfl, rfl⟩; subst q; exact ⟨_, rfl, rfl, rfl⟩
  · rintro _ _ ⟨rfl, rfl⟩; subst q; exact ⟨_, rfl, rfl, rfl⟩
  · subst q; rfl
theorem p_now {a b : jH} (hR : Rel a b) (w : Int) : PR M_X7_now M_X8_now [jI w] a b := by
  obtain ⟨N, L, hB, hN, hP, -⟩ := id hR
  have hp := hN.pf hB.1.2.2
  obtain ⟨x, k, -, ⟨q1, q2, -⟩, -⟩ := hP
  refine PR.f hR (ct_now hB.1.1 hB.1.2.2 hB.2.2.1.2 hB.lo w) ?_
  have k := cm_now hB.1.2.1 hB.1.2.2 (by have := hB.2.2.1; omega) hB.lom w
  rw [crn_tri hp.2.2.1 hB.lo, tri_cg (Q := cr2 (mO b 5) (mF b) (mT b) (mH b 5)) (fun c d hc hd => by
    unfold cr2
    rw [hp.hh c hc, hp.hh d hd, crs_cg hB.lo hB.hf hB.ht (fun l hl => (hp.2.1 l hl).1) hc hd]), bt_hw hp.hh, bt_hw hp.hh, cnt_hw hp.hh, hp.1.1, hB.2.2.1.1, q1, ← q2]
  exact k
/-! count, trace, atOnce, under, odds, longCords, change, cutFor -/
def coA (l x n t w : Int) : Int := if w = 0 then l else if w = 1 then x else if w = 2 then n else if w = 3 then t else -1
theorem coA_no {l x n t w : Int} (h : w < 0 ∨ 3 < w) : coA l x n t w = -1 := by
  unfold coA
  rw [if_neg (by omega), if_neg (by omega), if_neg (by omega), if_neg (by omega)]
theorem p_count {a b : jH} (hR : Rel a b) (w : Int) : PR M_X7_count M_X8_count [jI w] a b := by
  obtain ⟨N, L, hB, hN, hP, hI, ⟨n, t1, t2, -⟩, -⟩ := id hR
  refine PR.f (r := coA L (a.1 2 1) N n w) hR ?_ ?_
  · refine en_X7_count_0 (fun G => vc_X7_count_0_0 ⟨fun q => ⟨_, rfl, ?_, rfl⟩, fun q => ⟨_, rfl, ?_, rfl⟩, fun q => ⟨_, rfl, ?_, rfl⟩, fun q => ⟨_, rfl, ?_, rfl⟩, fun q => ⟨_, rfl, (coA_no q).symm, rfl⟩⟩)
    · subst q; exact hB.2.1.1
    · subst q; rfl
    · subst q; exact hB.1.1
    · subst q; exact t1
  · refine en_X8_count_0 (fun G => vc_X8_count_0_0 ⟨fun q => ⟨_, rfl, ?_, rfl⟩, fun q => ⟨_, rfl, ?_, rfl⟩, fun q => ⟨_, rfl, ?_, rfl⟩, fun q => ⟨_, rfl, ?_, rfl⟩, fun q => ⟨_, rfl, (coA_no q).symm, rfl⟩⟩)
    · subst q; exact hB.2.1.2.1
    · subst q; exact hB.2.2.1.1.symm
    · subst q; exact hB.1.2.1
    · subst q; exact t2
theorem p_atOnce {a b : jH} (hR : Rel a b) (w : Int) : PR M_X7_atOnce M_X8_atOnce [jI w] a b := by
  obtain ⟨N, L, hB, -⟩ := id hR
  refine PR.f hR (ct_atOnce hB.1.1 hB.1.2.2 w) ?_
  rw [aoA_congr hB.hfl]
  exact cm_atOnce hB.1.2.1 hB.1.2.2 w
theorem ct_under {h : jH} {N : Nat} (hN : h.1 2 2 = N) (h7 : N ≤ 7) (hk : lok (h.1 5) (h.1 6) N) (c : Int) : CF Sx M_X7_under [jR 0, jI c] h (if 0 ≤ c ∧ c < N then ((bt (fun o => h.1 19 o == 2 && crs (h.1 18) (h.1 5) (h.1 6) c.toNat o) N : Nat) : Int) else -1) := by
  refine en_X7_under_0 (fun G => vc_X7_under_0_0 ⟨_, ct_hasCall c, ?_⟩)
  rintro _ _ ⟨rfl, rfl⟩
  rename_i h
  rw [hN]
  by_cases e : 0 ≤ c ∧ c < (N : Int)
  · rw [if_pos e, if_pos e]
    obtain ⟨c, rfl⟩ : ∃ k : Nat, c = (k : Int) := ⟨c.toNat, by omega⟩
    refine ⟨fun z => absurd z (by decide), fun _ => ⟨_, ct_crossedBy hN h7 hk c (by omega), ?_⟩⟩
    rintro _ _ ⟨rfl, rfl⟩
    exact ⟨_, rfl, rfl, rfl⟩
  · rw [if_neg e, if_neg e]
    exact ⟨fun _ => ⟨_, rfl, rfl, rfl⟩, fun z => absurd rfl z⟩
theorem p_under {a b : jH} (hR : Rel a b) (c : Int) : PR M_X7_under M_X8_under [jI c] a b := by
  obtain ⟨N, L, hB, hN, -⟩ := id hR
  have hp := hN.pf hB.1.2.2
  refine PR.f hR (ct_under hB.1.1 hB.1.2.2 hB.lo c) ?_
  have k := cm_under hB.1.2.1 hB.1.2.2 hB.lom c
  by_cases e : 0 ≤ c ∧ c < (N : Int)
  · rw [if_pos e] at k ⊢
    rw [bt_congr (q := fun o => mH b 5 o == 2 && crs (mO b 5) (mF b) (mT b) c.toNat o) (fun o ho => by
      rw [hp.hh o ho, crs_cg hB.lo hB.hf hB.ht (fun l hl => (hp.2.1 l hl).1) (by omega) ho])]
    exact k
  · rw [if_neg e] at k ⊢
    exact k
theorem p_odds {a b : jH} (hR : Rel a b) (l p m w : Int) : PR M_X7_odds M_X8_odds [jI l, jI p, jI m, jI w] a b := by
  obtain ⟨N, L, hB, hN, -⟩ := id hR
  have hp := hN.pf hB.1.2.2
  refine PR.f hR (ct_odds hB.1.1 hB.1.2.2 (fun c hc => (hp.2.2.2.1 c hc).2.2.2.1) l p m w) ?_
  have k := cm_odds hB.1.2.1 hB.1.2.2 (by have := hB.2.1; omega) (fun c hc => (hp.2.2.2.1 c hc).2.2.2.2.1) l p m w
  rw [hB.eng hp l, hB.2.1.2.1, ← hB.2.1.1] at k
  have e : odA (fst_ (fun c => a.1 19 c == 2 && (a.1 5 c == l || a.1 6 c == l)) N) (mL b 5) p m w = odA (fst_ (fun c => a.1 19 c == 2 && (a.1 5 c == l || a.1 6 c == l)) N) (a.1 20) p m w := by
    have : upf (fst_ (fun c => a.1 19 c == 2 && (a.1 5 c == l || a.1 6 c == l)) N) (mL b 5) p m = upf (fst_ (fun c => a.1 19 c == 2 && (a.1 5 c == l || a.1 6 c == l)) N) (a.1 20) p m := by
      unfold upf
      cases ho : fst_ (fun c => a.1 19 c == 2 && (a.1 5 c == l || a.1 6 c == l)) N with
      | none => rfl
      | some c =>
        have h1 := fst_some ho
        have h2 := (hp.2.2.2.1 c h1.1).2.2.2.2.2.1 (by have := h1.2; simp only [Bool.and_eq_true, beq_iff_eq] at this; exact this.1)
        dsimp only
        rw [h2.1]
    unfold odA
    rw [this]
  rw [e] at k
  exact k
theorem p_longCords {a b : jH} (hR : Rel a b) : PR M_X7_longCords M_X8_longCords [] a b := by
  obtain ⟨N, L, hB, hN, -⟩ := id hR
  have hp := hN.pf hB.1.2.2
  have hL := hB.2.1.2.2.2
  refine PR.f (r := alls (a.1 18) (a.1 5) (a.1 6) N) hR (en_X7_longCords_0 (fun G => vc_X7_longCords_0_0 ⟨_, ct_inAll_18 hL hB.1.1 hB.1.2.2 (hp.hkx hL) hB.lk, ?_⟩)) ?_
  · rintro _ _ ⟨rfl, rfl⟩
    exact ⟨_, rfl, rfl, rfl⟩
  · rw [alls_congr hB.lk (Nat.le_refl _) (fun l hl => (hp.2.1 l (by omega)).1) (fun c hc => ⟨hB.hf c hc, hB.ht c hc⟩)]
    exact cm_longCords hL hB.1.2.1 hB.1.2.2 (hp.hkm hL) hB.lkm
theorem p_change {a b : jH} (hR : Rel a b) : PR M_X7_change M_X8_change [] a b := by
  obtain ⟨N, L, hB, hN, -⟩ := id hR
  have hp := hN.pf hB.1.2.2
  have hL := hB.2.1.2.2.2
  refine PR.q hR (fun r => r = (xs3 (a.1 18) (a.1 5) (a.1 6) N L L).2) (en_X7_change_0 (fun G => vc_X7_change_0_0 ⟨_, ct_bestExchange hB.1.1 hB.1.2.2 hB.2.1.1 hL (hp.hkx hL) hB.lk, ?_⟩)) (fun r hr => (cm_change hB.2.1.2.1 hL hB.1.2.1 hB.1.2.2 (hp.hkm hL) hB.lkm).post (fun _ _ q => ?_))
  · rintro _ _ ⟨rfl, q2, q3⟩
    exact ⟨_, rfl, rfl, XK.of q3 (fun k hk => q2 k (by omega))⟩
  · obtain ⟨r2, e, k, e2⟩ := q
    refine ⟨r2, e, ?_, k⟩
    rw [hr, e2, xs3_cg hB.lk (fun l hl => (hp.2.1 l (by omega)).1) (fun c hc => ⟨hB.hf c hc, hB.ht c hc⟩) L (Nat.le_refl _)]
theorem p_cutFor {a b : jH} (hR : Rel a b) (c : Int) : PR M_X7_cutFor M_X8_cutFor [jI c] a b := by
  obtain ⟨N, L, hB, hN, -⟩ := id hR
  have hp := hN.pf hB.1.2.2
  have h7 := hB.1.2.2
  refine PR.q hR (fun r => r = if 0 ≤ c ∧ c < N then (if a.1 19 c.toNat = 1 then ((lcut N (a.1 5) (a.1 6) (a.1 20) (a.1 2 1) (bt (fun k => a.1 19 k == 2) N) c.toNat (bt (fun k => a.1 19 k == 2) N) : Nat) : Int) else -2) else -1) (en_X7_cutFor_0 (fun G => vc_X7_cutFor_0_0 ⟨_, ct_hasCall c, ?_⟩)) (fun r hr => (cm_cutFor hB.1.2.1 h7 (hB.mkx hp) (by have := hB.2.2.1; omega) c).post (fun _ _ q => ?_))
  · rintro _ _ ⟨rfl, rfl⟩
    rw [hB.1.1]
    by_cases e : 0 ≤ c ∧ c < (N : Int)
    · rw [if_pos e]
      obtain ⟨c, rfl⟩ : ∃ k : Nat, c = (k : Int) := ⟨c.toNat, by omega⟩
      refine ⟨fun z => absurd z (by decide), fun _ => ⟨by omega, fun z => ⟨_, ct_leastCut hB.1.1 h7 c (by omega) (fun c hc => by have := (hp.2.2.2.1 c hc).2.2.2.1; omega), ?_⟩, fun z => ⟨_, rfl, ?_, XK.rfl⟩⟩⟩
      · rintro _ _ ⟨rfl, rfl⟩
        refine ⟨_, rfl, ?_, XK.rfl⟩
        rw [if_pos e, if_pos z, Int.toNat_natCast]
      · rw [if_pos e, if_neg z]
    · rw [if_neg e]
      exact ⟨fun _ => ⟨_, rfl, by rw [if_neg e], XK.rfl⟩, fun z => absurd rfl z⟩
  · obtain ⟨r2, e, k, e2⟩ := q
    refine ⟨r2, e, ?_, k⟩
    rw [hr, e2]
    by_cases e : 0 ≤ c ∧ c < (N : Int)
    · rw [if_pos e, if_pos e, hp.hh c.toNat (by omega), bt_hw hp.hh, hB.2.2.1.1, lcut_cg hB.hf hB.ht (by omega) (lf := a.1 20) (lf2 := mL b 5)]
      intro d hd t
      rw [bt_tb] at t
      simp only [Bool.and_eq_true, beq_iff_eq] at t
      rw [← hp.hh d hd] at t
      exact ((hp.2.2.2.1 d hd).2.2.2.2.2.1 t.2).1
    · rw [if_neg e, if_neg e]
