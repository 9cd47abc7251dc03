/-! atOnce, odds: both sides -/
/-- the minute at which most calls fall, of the first t; how many -/
def aoS (fl : Nat → Int) (N : Nat) : Nat → Int × Int
  | 0 => (0, 0)
  | t + 1 => if (aoS fl N t).2 < (cnt (fun c => fl c == (t : Int)) N : Nat) then ((t : Int), ((cnt (fun c => fl c == (t : Int)) N : Nat) : Int)) else aoS fl N t
theorem aoS_bd {fl : Nat → Int} {N t : Nat} : 0 ≤ (aoS fl N t).2 ∧ (aoS fl N t).2 ≤ N := by
  induction t with
  | zero => simp [aoS]
  | succ t ih =>
    have := cnt_le (fun c => fl c == (t : Int)) N
    simp only [aoS]
    split
    · simp only; omega
    · exact ih
def aoA (fl : Nat → Int) (N : Nat) (w : Int) : Int := if w < 0 ∨ 1 < w then -1 else if w = 0 then (aoS fl N 41).1 else (aoS fl N 41).2
theorem aoA_congr {fl fl2 : Nat → Int} {N : Nat} (h : ∀ c, c < N → fl c = fl2 c) (w : Int) : aoA fl N w = aoA fl2 N w := by
  have : ∀ t, aoS fl N t = aoS fl2 N t := by
    intro t
    induction t with
    | zero => rfl
    | succ t ih =>
      simp only [aoS]
      rw [ih, cnt_congr (p := fun c => fl c == (t : Int)) (q := fun c => fl2 c == (t : Int)) (fun c hc => by rw [h c hc])]
  unfold aoA
  rw [this]
theorem ct_fallingAt {h : jH} {N : Nat} (hN : h.1 2 2 = N) (h7 : N ≤ 7) (t : Int) : CF Sx M_X6_fallingAt [jR 2, jI t] h (cnt (fun c => h.1 4 c == t) N : Nat) := by
  refine en_X6_fallingAt_2 (fun G => vc_X6_fallingAt_2_0 ?_)
  refine jf_fun N (fun c => [jR 2, jI t, jI (cnt (fun c => h.1 4 c == t) c : Nat), jI (c : Nat)]) (fun _ => h) (fun c hc k => ?_) ?_ 0 (Nat.zero_le _)
  · have b := cnt_le (fun c => h.1 4 c == t) c
    simp only [cnt] at k
    refine vc_X6_fallingAt_2_4 ⟨fun q => absurd q (by omega), fun q => ⟨⟨by omega, by omega⟩, ?_⟩⟩
    rw [Int.toNat_natCast]
    refine ⟨fun e => ⟨⟨by omega, by omega⟩, ⟨by omega, by omega⟩, ?_⟩, fun e => ⟨⟨by omega, by omega⟩, ?_⟩⟩
    · rw [if_pos (by simp [e])] at k; exact k
    · rw [if_neg (by simp [e])] at k; exact k
  · exact vc_X6_fallingAt_2_4 ⟨fun q => ⟨_, rfl, rfl, rfl⟩, fun q => absurd q (by omega)⟩
theorem ct_atOnce {h : jH} {N : Nat} (hN : h.1 2 2 = N) (h7 : N ≤ 7) (w : Int) : CF Sx M_X7_atOnce [jR 0, jI w] h (aoA (h.1 4) N w) := by
  refine en_X7_atOnce_0 (fun G => vc_X7_atOnce_0_0 ⟨fun e => ⟨_, rfl, ?_, rfl⟩, fun e => ⟨fun e1 => ?_, fun e1 => ⟨_, rfl, ?_, rfl⟩⟩⟩)
  · unfold aoA; rw [if_pos (Or.inl e)]
  · refine jf_loop 41 (fun t lv g => g = h ∧ ∃ u, lv = [jR 0, jI w, jI (aoS (h.1 4) N t).1, jI (aoS (h.1 4) N t).2, jI (t : Nat), u]) ?_ ?_ 0 (by decide) _ _ ⟨rfl, _, rfl⟩
    · rintro t ht lv g ⟨rfl, u, rfl⟩ k
      simp only [aoS] at k
      refine vc_X7_atOnce_0_18 ⟨fun q => absurd q (by omega), fun q => ⟨_, ct_fallingAt hN h7 t, ?_⟩⟩
      rintro _ _ ⟨rfl, rfl⟩
      refine ⟨fun z => ⟨⟨by omega, by omega⟩, ?_⟩, fun z => ⟨⟨by omega, by omega⟩, ?_⟩⟩
      · rw [if_neg (by omega)] at k; exact k _ _ ⟨rfl, _, rfl⟩
      · rw [if_pos (by omega)] at k; exact k _ _ ⟨rfl, _, rfl⟩
    · rintro lv g ⟨rfl, u, rfl⟩
      refine vc_X7_atOnce_0_18 ⟨fun _ => ⟨fun z => ⟨_, rfl, ?_, rfl⟩, fun z => ⟨_, rfl, ?_, rfl⟩⟩, fun q => absurd q (by decide)⟩
      · unfold aoA; rw [if_neg (by omega), if_pos z]
      · unfold aoA; rw [if_neg (by omega), if_neg z]
  · unfold aoA; rw [if_pos (Or.inr (by omega))]
theorem cm_atOnce {h : jH} {N : Nat} (hN : h.1 0 15 = N) (h7 : N ≤ 7) (w : Int) : CF Sm M_X8_atOnce [jR 0, jI w] h (aoA (mA h) N w) := by
  refine en_X8_atOnce_0 (fun G => vc_X8_atOnce_0_0 ⟨_, cm_in w 0 1, ?_⟩)
  rintro _ _ ⟨rfl, rfl⟩
  rename_i h
  by_cases e : 0 ≤ w ∧ w ≤ 1
  · rw [if_pos e]
    refine ⟨fun z => absurd z (by decide), fun _ => ?_⟩
    refine jf_loop 41 (fun t lv g => g = h ∧ ∃ u v, lv = [jR 0, jI w, jI (aoS (mA h) N t).1, jI (aoS (mA h) N t).2, jI (t : Nat), u, v]) ?_ ?_ 0 (by decide) _ _ ⟨rfl, _, _, rfl⟩
    · rintro t ht lv g ⟨rfl, u, v, rfl⟩ k
      simp only [aoS] at k
      refine vc_X8_atOnce_0_18 ⟨fun q => absurd q (by omega), fun q => ?_⟩
      refine jf_fun N (fun c => [jR 0, jI w, jI (aoS (mA g) N t).1, jI (aoS (mA g) N t).2, jI (t : Nat), jI (cnt (fun c => mA g c == (t : Int)) c : Nat), jI (c : Nat)]) (fun _ => g) (fun c hc k2 => ?_) ?_ 0 (Nat.zero_le _)
      · have b := cnt_le (fun c => mA g c == (t : Int)) c
        simp only [cnt] at k2
        refine vc_X8_atOnce_0_31 ⟨fun q => absurd q (by omega), fun q => ⟨⟨by omega, by omega⟩, ⟨by omega, by omega⟩, ?_⟩⟩
        rw [show Int.toNat (5 * (c : Int)) = 5 * c by omega]
        refine ⟨fun e => ⟨⟨by omega, by omega⟩, ⟨by omega, by omega⟩, ?_⟩, fun e => ⟨⟨by omega, by omega⟩, ⟨by omega, by omega⟩, ?_⟩⟩
        · have e : mA g c = t := e
          rw [if_pos (by simp [e])] at k2; exact k2
        · have e : ¬ mA g c = t := e
          rw [if_neg (by simp [e])] at k2; exact k2
      · refine vc_X8_atOnce_0_31 ⟨fun _ => ⟨fun z => ⟨fun _ => ⟨⟨by omega, by omega⟩, ?_⟩, fun z1 => absurd z z1⟩, fun z => ⟨fun z1 => absurd z1 z, fun _ => ⟨⟨by omega, by omega⟩, ?_⟩⟩⟩, fun q => absurd q (by omega)⟩
        · rw [if_neg (by omega)] at k; exact k _ _ ⟨rfl, _, _, rfl⟩
        · rw [if_pos (by omega)] at k; exact k _ _ ⟨rfl, _, _, rfl⟩
    · rintro lv g ⟨rfl, u, v, rfl⟩
      refine vc_X8_atOnce_0_18 ⟨fun _ => ⟨fun z => ⟨_, rfl, ?_, rfl⟩, fun z => ⟨_, rfl, ?_, rfl⟩⟩, fun q => absurd q (by decide)⟩
      · unfold aoA; rw [if_neg (by omega), if_pos z]
      · unfold aoA; rw [if_neg (by omega), if_neg z]
  · rw [if_neg e]
    refine ⟨fun _ => ⟨_, rfl, ?_, rfl⟩, fun z => absurd rfl z⟩
    unfold aoA; rw [if_pos (by omega)]
