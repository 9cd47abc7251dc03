/-! a day by a rule: minutes -/
abbrev jD : Type := (Nat → Int) × (Nat → Int)
/-- whether a call may be plugged with x cords -/
def canp (N : Nat) (fr to : Nat → Int) (x : Int) (hw : Nat → Int) (c : Nat) : Bool := hw c == 1 && (decide ((cnt (fun k => hw k == 2) N : Int) < x) && lfree fr to N (bt (fun k => hw k == 2) N) c)
def pl1 (N : Nat) (fr to ln : Nat → Int) (x : Int) (s : jD) (c : Nat) : jD := if canp N fr to x s.1 c then (fun j => if j = c then 2 else s.1 j, fun j => if j = c then ln c else s.2 j) else s
def plA (N : Nat) (fr to ln : Nat → Int) (x : Int) (o : Nat → Int) (s : jD) : Nat → jD
  | 0 => s
  | i + 1 => pl1 N fr to ln x (plA N fr to ln x o s i) (o i).toNat
theorem ct_plugAll {h : jH} {N : Nat} (hN : h.1 2 2 = N) (h7 : N ≤ 7) (x : Int) (ho : ∀ i, i < N → 0 ≤ h.1 27 i ∧ h.1 27 i < 7) : CU Sx M_X0_plugAll [jR 26, jI x] h (upr (upr h 30 (plA N (h.1 5) (h.1 6) (h.1 7) x (h.1 27) (h.1 30, h.1 31) N).1) 31 (plA N (h.1 5) (h.1 6) (h.1 7) x (h.1 27) (h.1 30, h.1 31) N).2) := by
  refine en_X0_plugAll_26 (fun G => vc_X0_plugAll_26_0 ?_)
  refine WV.hp (h1 := upr (upr h 30 (plA N (h.1 5) (h.1 6) (h.1 7) x (h.1 27) (h.1 30, h.1 31) 0).1) 31 (plA N (h.1 5) (h.1 6) (h.1 7) x (h.1 27) (h.1 30, h.1 31) 0).2) ?_ (jf_fun N (fun c => [jR 26, jI x, jI (c : Nat)]) (fun i => upr (upr h 30 (plA N (h.1 5) (h.1 6) (h.1 7) x (h.1 27) (h.1 30, h.1 31) i).1) 31 (plA N (h.1 5) (h.1 6) (h.1 7) x (h.1 27) (h.1 30, h.1 31) i).2) (fun i hi k => ?_) ?_ 0 (Nat.zero_le _))
  · simp only [plA]
    rw [upr_id (h := upr h 30 (h.1 30)) (fun j => by rw [upr_ne (by decide)]), upr_id (fun j => rfl)]
  · simp only [plA] at k
    generalize plA N (h.1 5) (h.1 6) (h.1 7) x (h.1 27) (h.1 30, h.1 31) i = s at k ⊢
    have e2 : (upr (upr h 30 s.1) 31 s.2).1 2 2 = N := hN
    have e27 : (upr (upr h 30 s.1) 31 s.2).1 27 = h.1 27 := rfl
    have e30 : (upr (upr h 30 s.1) 31 s.2).1 30 = s.1 := rfl
    have o1 := ho i hi
    obtain ⟨c, hc⟩ : ∃ c : Nat, h.1 27 i = c := ⟨(h.1 27 i).toNat, by omega⟩
    have hc7 : c < 7 := by omega
    refine vc_X0_plugAll_26_2 ⟨fun q => absurd q (by omega), fun q => ⟨⟨by omega, by omega⟩, ?_⟩⟩
    rw [Int.toNat_natCast, e27, hc]
    rw [hc, Int.toNat_natCast] at k
    refine ⟨_, ct_canBePlugged_28 e2 h7 c x hc7, ?_⟩
    rintro _ _ ⟨rfl, rfl⟩
    rw [e27, hc]
    refine ⟨fun z => ⟨⟨by omega, by omega⟩, ?_⟩, fun z => ⟨_, ct_plug_28 c hc7, ?_⟩⟩
    · rw [bi_0] at z
      have z : canp N (h.1 5) (h.1 6) x s.1 c = false := z
      unfold pl1 at k
      rw [z] at k
      exact k
    · rintro _ rfl
      rw [bi_0] at z
      have z : canp N (h.1 5) (h.1 6) x s.1 c = true := (Bool.not_eq_false _).mp z
      unfold pl1 at k
      rw [z] at k
      refine ⟨⟨by omega, by omega⟩, WV.hp ?_ k⟩
      refine j_ext (fun a j => ?_) rfl
      by_cases h31 : a = 31
      · subst h31; simp [j_up, upr]
      · by_cases h30 : a = 30
        · subst h30; simp [j_up, upr]
        · simp [j_up, upr, h30, h31]
  · have e2 : (upr (upr h 30 (plA N (h.1 5) (h.1 6) (h.1 7) x (h.1 27) (h.1 30, h.1 31) N).1) 31 (plA N (h.1 5) (h.1 6) (h.1 7) x (h.1 27) (h.1 30, h.1 31) N).2).1 2 2 = N := hN
    exact vc_X0_plugAll_26_2 ⟨fun q => ⟨rfl, rfl⟩, fun q => absurd q (by omega)⟩
/-- somebody waits for want of a cord alone -/
def lks (N : Nat) (fr to : Nat → Int) (x : Int) (hw : Nat → Int) : Bool := decide (x ≤ (cnt (fun k => hw k == 2) N : Int)) && !allb (fun c => !(hw c == 1 && lfree fr to N (bt (fun k => hw k == 2) N) c)) N
theorem ct_lacksCord {h : jH} {N : Nat} (hN : h.1 2 2 = N) (h7 : N ≤ 7) (x : Int) : CF Sx M_X2_lacksCord [jR 28, jI x] h (bi (lks N (h.1 5) (h.1 6) x (h.1 30))) := by
  refine en_X2_lacksCord_28 (fun G => vc_X2_lacksCord_28_0 ⟨_, ct_those_28 hN h7 2, ?_⟩)
  rintro _ _ ⟨rfl, rfl⟩
  refine ⟨_, ct_bitCount _ (bt_128 h7), ?_⟩
  rintro _ _ ⟨rfl, rfl⟩
  rename_i h
  rw [cnt_bt h7]
  refine ⟨fun e => ?_, fun e => ⟨_, rfl, ?_, rfl⟩⟩
  · refine jf_loop N (fun o lv h' => lv = [jR 28, jI x, jI (bt (fun k => h.1 30 k == 2) N : Nat), jI (o : Nat)] ∧ h' = h ∧ allb (fun c => !(h.1 30 c == 1 && lfree (h.1 5) (h.1 6) N (bt (fun k => h.1 30 k == 2) N) c)) o = true) ?_ ?_ 0 (Nat.zero_le _) _ _ ⟨rfl, rfl, rfl⟩
    · rintro o ho lv h' ⟨rfl, rfl, ha⟩ k
      refine vc_X2_lacksCord_28_18 ⟨fun q => absurd q (by omega), fun q => ⟨⟨by omega, by omega⟩, ?_⟩⟩
      rw [Int.toNat_natCast]
      refine ⟨fun e1 => ⟨_, ct_linesFree_28 hN h7 o _ (by omega) (bt_128 h7), ?_⟩, fun e1 => ⟨⟨by omega, by omega⟩, k _ _ ⟨rfl, rfl, allb_s ha (by simp [e1])⟩⟩⟩
      rintro _ _ ⟨rfl, rfl⟩
      refine ⟨fun z => ⟨⟨by omega, by omega⟩, k _ _ ⟨rfl, rfl, ?_⟩⟩, fun z => ⟨_, rfl, ?_, rfl⟩⟩
      · rw [bi_0] at z
        exact allb_s ha (by simp [z])
      · rw [bi_0] at z
        unfold lks
        rw [decide_eq_true (by omega), allb_no (k := o) ho (by simp [e1, z])]
        rfl
    · rintro lv h' ⟨rfl, rfl, ha⟩
      refine vc_X2_lacksCord_28_18 ⟨fun q => ⟨_, rfl, ?_, rfl⟩, fun q => absurd q (by omega)⟩
      unfold lks
      rw [ha]
      simp [bi]
  · unfold lks
    rw [decide_eq_false (by omega)]
    rfl
theorem ct_lowest {h : jH} (s : Nat) (hs : s < 128) : CF Sx M_X0_lowest [jI s] h (onI (fst_ (fun c => s.testBit c) 7)) := by
  refine en_X0_lowest (fun G => vc_X0_lowest_0 ?_)
  refine jf_loop 7 (fun o lv h' => lv = [jI s, jI (o : Nat)] ∧ h' = h ∧ ∀ j, j < o → s.testBit j = false) ?_ ?_ 0 (by decide) _ _ ⟨rfl, rfl, fun j hj => by omega⟩
  · rintro o ho lv h' ⟨rfl, rfl, ha⟩ k
    refine vc_X0_lowest_2 ⟨fun q => absurd q (by omega), fun q => ?_⟩
    rw [b_has1 hs ho]
    refine ⟨fun e => ⟨_, rfl, by rw [fst_at ho e ha]; rfl, rfl⟩, fun e => ⟨⟨by omega, by omega⟩, k _ _ ⟨rfl, rfl, fun j hj => ?_⟩⟩⟩
    by_cases ej : j = o
    · rw [ej]; simpa using e
    · exact ha j (by omega)
  · rintro lv h' ⟨rfl, rfl, ha⟩
    exact vc_X0_lowest_2 ⟨fun q => ⟨_, rfl, by rw [fst_none.mpr ha]; rfl, rfl⟩, fun q => absurd q (by decide)⟩
/-! the day -/
abbrev jY : Type := Int × jD × (Nat → Int)
def dy (N : Nat) (fr to ln fl : Nat → Int) (x : Int) (o : Nat → Int) (s : jY) : jY :=
  (s.1 + 1, (qF N fl (s.1 + 1) (qH N (plA N fr to ln x o s.2.1 N).1 (plA N fr to ln x o s.2.1 N).2), qL N (plA N fr to ln x o s.2.1 N).1 (plA N fr to ln x o s.2.1 N).2), qW N (plA N fr to ln x o s.2.1 N).1 s.2.2)
def dyN (N : Nat) (fr to ln fl : Nat → Int) (x : Int) (o : Nat → Int) (s : jY) : Nat → jY
  | 0 => s
  | k + 1 => dy N fr to ln fl x o (dyN N fr to ln fl x o s k)
/-- somebody lacked a cord in one of the first k minutes -/
def lkN (N : Nat) (fr to ln fl : Nat → Int) (x : Int) (o : Nat → Int) (s : jY) : Nat → Bool
  | 0 => false
  | k + 1 => lkN N fr to ln fl x o s k || lks N fr to x (plA N fr to ln x o (dyN N fr to ln fl x o s k).2.1 N).1
/-- the first that is done behind the start, k minutes later -/
def fdN (N : Nat) (fr to ln fl : Nat → Int) (x : Int) (o : Nat → Int) (s : jY) : Nat → Int
  | 0 => -9
  | k + 1 => if fdN N fr to ln fl x o s k = -9 then onI (fst_ (fun c => decide (c < N) && ((dyN N fr to ln fl x o s (k + 1)).2.1.1 c == 3 && !(s.2.1.1 c == 3))) 7) else fdN N fr to ln fl x o s k
theorem plA_bd {N : Nat} {fr to ln : Nat → Int} {x : Int} {o : Nat → Int} {s : jD} {B : Int} (hs : ∀ c, c < N → -B ≤ s.2 c ∧ s.2 c ≤ B) (hln : ∀ c, c < N → -B ≤ ln c ∧ ln c ≤ B) (i : Nat) : ∀ c, c < N → -B ≤ (plA N fr to ln x o s i).2 c ∧ (plA N fr to ln x o s i).2 c ≤ B := by
  induction i with
  | zero => exact hs
  | succ i ih =>
    intro c hc
    simp only [plA, pl1]
    split
    · simp only
      split
      · rename_i e; rw [← e]; exact hln c hc
      · exact ih c hc
    · exact ih c hc
theorem dyN_m {N : Nat} {fr to ln fl : Nat → Int} {x : Int} {o : Nat → Int} {s : jY} (k : Nat) : (dyN N fr to ln fl x o s k).1 = s.1 + k := by
  induction k with
  | zero => simp [dyN]
  | succ k ih => simp only [dyN, dy, ih]; omega
theorem dyN_w {N : Nat} {fr to ln fl : Nat → Int} {x : Int} {o : Nat → Int} {s : jY} {B : Int} (hw : ∀ c, c < N → -B ≤ s.2.2 c ∧ s.2.2 c ≤ B) (k : Nat) : ∀ c, c < N → -B ≤ (dyN N fr to ln fl x o s k).2.2 c ∧ (dyN N fr to ln fl x o s k).2.2 c ≤ B + k := by
  induction k with
  | zero => intro c hc; have := hw c hc; simp only [dyN]; omega
  | succ k ih =>
    intro c hc
    have := ih c hc
    simp only [dyN, dy, qW]
    split <;> omega
theorem dyN_l {N : Nat} {fr to ln fl : Nat → Int} {x : Int} {o : Nat → Int} {s : jY} {B : Int} (hs : ∀ c, c < N → -B ≤ s.2.1.2 c ∧ s.2.1.2 c ≤ B) (hln : ∀ c, c < N → -B ≤ ln c ∧ ln c ≤ B) (k : Nat) : ∀ c, c < N → -(B + k) ≤ (dyN N fr to ln fl x o s k).2.1.2 c ∧ (dyN N fr to ln fl x o s k).2.1.2 c ≤ B + k := by
  induction k with
  | zero => intro c hc; have := hs c hc; simp only [dyN]; omega
  | succ k ih =>
    intro c hc
    have := plA_bd (x := x) (o := o) (fr := fr) (to := to) (ln := ln) (B := B + k) ih (fun c hc => by have := hln c hc; omega) N c hc
    simp only [dyN, dy, qL]
    split <;> omega
