/-! contracts of the class: keeping, holes -/
theorem cp_in {h : jH} {a i b j n x : Nat} (hx : j ≤ x ∧ x < j + n) : (j_cp h a i b j n).1 b x = h.1 a (i + (x - j)) := by simp [j_cp, hx]
theorem cp_out {h : jH} {a i b j n x : Nat} (hx : ¬ (j ≤ x ∧ x < j + n)) : (j_cp h a i b j n).1 b x = h.1 b x := by simp only [j_cp, true_and]; rw [if_neg hx]
theorem cp_ne {h : jH} {a i b j n k : Nat} (hk : k ≠ b) : (j_cp h a i b j n).1 k = h.1 k := by funext x; simp [j_cp, hk]
theorem up_ne {h : jH} {k k2 j : Nat} {v : Int} (hk : k ≠ k2) : (j_up h k2 j v).1 k = h.1 k := by funext x; simp [j_up, hk]
theorem up_eq {h : jH} {k j : Nat} {v : Int} : (j_up h k j v).1 k j = v := by simp [j_up]
theorem up_out {h : jH} {k j x : Nat} {v : Int} (hx : x ≠ j) : (j_up h k j v).1 k x = h.1 k x := by simp [j_up, hx]
/-- a moment as a row of 28 -/
def mv28 (h : jH) (j : Nat) : Int := if j = 0 then h.1 17 1 else if j < 7 then h.1 18 (j - 1) else if j < 14 then h.1 19 (j - 7) else if j < 21 then h.1 20 (j - 14) else h.1 21 (j - 21)
theorem ct_save_23 {h : jH} (at_ : Nat) (ha : at_ + 28 ≤ 280) : CU Sx M_X2_save [jR 17, jR 23, jI at_] h (upr h 23 (fun j => if at_ ≤ j ∧ j < at_ + 28 then mv28 h (j - at_) else h.1 23 j)) := by
  refine en_X2_save_17_23 (fun G => vc_X2_save_17_23_0 ⟨⟨by omega, by omega⟩, ⟨by omega, by omega⟩, by omega, by omega, ⟨by omega, by omega⟩, by omega, by omega, ⟨by omega, by omega⟩, by omega, by omega, ⟨by omega, by omega⟩, by omega, by omega, rfl, ?_⟩)
  have t0 : Int.toNat (at_ : Int) = at_ := by omega
  have t1 : Int.toNat ((at_ : Int) + 1) = at_ + 1 := by omega
  have t2 : Int.toNat ((at_ : Int) + 1 + 6) = at_ + 7 := by omega
  have t3 : Int.toNat ((at_ : Int) + 1 + 6 + 7) = at_ + 14 := by omega
  have t4 : Int.toNat ((at_ : Int) + 1 + 6 + 14) = at_ + 21 := by omega
  rw [t0, t1, t2, t3, t4]
  refine j_ext (fun a j => ?_) rfl
  by_cases hC : a = 23
  · subst hC
    rw [upr_same]
    by_cases cR : at_ ≤ j ∧ j < at_ + 28
    · rw [if_pos cR]
      by_cases c4 : at_ + 21 ≤ j ∧ j < at_ + 21 + 7
      · rw [cp_in c4, cp_ne (by decide), cp_ne (by decide), cp_ne (by decide), up_ne (by decide)]
        unfold mv28
        rw [if_neg (show ¬ j - at_ = 0 by omega), if_neg (show ¬ j - at_ < 7 by omega), if_neg (show ¬ j - at_ < 14 by omega), if_neg (show ¬ j - at_ < 21 by omega)]
        exact congrArg (h.1 21) (by omega)
      · rw [cp_out c4]
        by_cases c3 : at_ + 14 ≤ j ∧ j < at_ + 14 + 7
        · rw [cp_in c3, cp_ne (by decide), cp_ne (by decide), up_ne (by decide)]
          unfold mv28
          rw [if_neg (show ¬ j - at_ = 0 by omega), if_neg (show ¬ j - at_ < 7 by omega), if_neg (show ¬ j - at_ < 14 by omega), if_pos (show j - at_ < 21 by omega)]
          exact congrArg (h.1 20) (by omega)
        · rw [cp_out c3]
          by_cases c2 : at_ + 7 ≤ j ∧ j < at_ + 7 + 7
          · rw [cp_in c2, cp_ne (by decide), up_ne (by decide)]
            unfold mv28
            rw [if_neg (show ¬ j - at_ = 0 by omega), if_neg (show ¬ j - at_ < 7 by omega), if_pos (show j - at_ < 14 by omega)]
            exact congrArg (h.1 19) (by omega)
          · rw [cp_out c2]
            by_cases c1 : at_ + 1 ≤ j ∧ j < at_ + 1 + 6
            · rw [cp_in c1, up_ne (by decide)]
              unfold mv28
              rw [if_neg (show ¬ j - at_ = 0 by omega), if_pos (show j - at_ < 7 by omega)]
              exact congrArg (h.1 18) (by omega)
            · rw [cp_out c1]
              have e : j = at_ := by omega
              subst e
              simp [j_up, mv28]
    · rw [if_neg cR, cp_out (by omega), cp_out (by omega), cp_out (by omega), cp_out (by omega)]
      simp [j_up]
      omega
  · simp [j_cp, j_up, upr, hC]
/-- the moment made as the row from at_ on has it -/
def ld_23 (h : jH) (at_ : Nat) : jH := upr (upr (upr (upr (j_up h 17 1 (h.1 23 at_)) 18 (fun j => if j < 6 then h.1 23 (at_ + 1 + j) else h.1 18 j)) 19 (fun j => if j < 7 then h.1 23 (at_ + 7 + j) else h.1 19 j)) 20 (fun j => if j < 7 then h.1 23 (at_ + 14 + j) else h.1 20 j)) 21 (fun j => if j < 7 then h.1 23 (at_ + 21 + j) else h.1 21 j)
theorem ct_load_23 {h : jH} (at_ : Nat) (ha : at_ + 28 ≤ 280) : CU Sx M_X2_load [jR 17, jR 23, jI at_] h (ld_23 h at_) := by
  refine en_X2_load_17_23 (fun G => vc_X2_load_17_23_0 ⟨⟨by omega, by omega⟩, ⟨by omega, by omega⟩, by omega, by omega, ⟨by omega, by omega⟩, by omega, by omega, ⟨by omega, by omega⟩, by omega, by omega, ⟨by omega, by omega⟩, by omega, by omega, rfl, ?_⟩)
  have t0 : Int.toNat (at_ : Int) = at_ := by omega
  have t1 : Int.toNat ((at_ : Int) + 1) = at_ + 1 := by omega
  have t2 : Int.toNat ((at_ : Int) + 1 + 6) = at_ + 7 := by omega
  have t3 : Int.toNat ((at_ : Int) + 1 + 6 + 7) = at_ + 14 := by omega
  have t4 : Int.toNat ((at_ : Int) + 1 + 6 + 14) = at_ + 21 := by omega
  rw [t0, t1, t2, t3, t4]
  refine j_ext (fun a j => ?_) rfl
  by_cases h21 : a = 21
  · subst h21; simp [ld_23, j_cp, j_up, upr]
  · by_cases h20 : a = 20
    · subst h20; simp [ld_23, j_cp, j_up, upr]
    · by_cases h19 : a = 19
      · subst h19; simp [ld_23, j_cp, j_up, upr]
      · by_cases h18 : a = 18
        · subst h18; simp [ld_23, j_cp, j_up, upr]
        · simp [ld_23, j_cp, j_up, upr, h18, h19, h20, h21]
theorem ct_save_24 {h : jH} (at_ : Nat) (ha : at_ + 28 ≤ 56) : CU Sx M_X2_save [jR 17, jR 24, jI at_] h (upr h 24 (fun j => if at_ ≤ j ∧ j < at_ + 28 then mv28 h (j - at_) else h.1 24 j)) := by
  refine en_X2_save_17_24 (fun G => vc_X2_save_17_24_0 ⟨⟨by omega, by omega⟩, ⟨by omega, by omega⟩, by omega, by omega, ⟨by omega, by omega⟩, by omega, by omega, ⟨by omega, by omega⟩, by omega, by omega, ⟨by omega, by omega⟩, by omega, by omega, rfl, ?_⟩)
  have t0 : Int.toNat (at_ : Int) = at_ := by omega
  have t1 : Int.toNat ((at_ : Int) + 1) = at_ + 1 := by omega
  have t2 : Int.toNat ((at_ : Int) + 1 + 6) = at_ + 7 := by omega
  have t3 : Int.toNat ((at_ : Int) + 1 + 6 + 7) = at_ + 14 := by omega
  have t4 : Int.toNat ((at_ : Int) + 1 + 6 + 14) = at_ + 21 := by omega
  rw [t0, t1, t2, t3, t4]
  refine j_ext (fun a j => ?_) rfl
  by_cases hC : a = 24
  · subst hC
    rw [upr_same]
    by_cases cR : at_ ≤ j ∧ j < at_ + 28
    · rw [if_pos cR]
      by_cases c4 : at_ + 21 ≤ j ∧ j < at_ + 21 + 7
      · rw [cp_in c4, cp_ne (by decide), cp_ne (by decide), cp_ne (by decide), up_ne (by decide)]
        unfold mv28
        rw [if_neg (show ¬ j - at_ = 0 by omega), if_neg (show ¬ j - at_ < 7 by omega), if_neg (show ¬ j - at_ < 14 by omega), if_neg (show ¬ j - at_ < 21 by omega)]
        exact congrArg (h.1 21) (by omega)
      · rw [cp_out c4]
        by_cases c3 : at_ + 14 ≤ j ∧ j < at_ + 14 + 7
        · rw [cp_in c3, cp_ne (by decide), cp_ne (by decide), up_ne (by decide)]
          unfold mv28
          rw [if_neg (show ¬ j - at_ = 0 by omega), if_neg (show ¬ j - at_ < 7 by omega), if_neg (show ¬ j - at_ < 14 by omega), if_pos (show j - at_ < 21 by omega)]
          exact congrArg (h.1 20) (by omega)
        · rw [cp_out c3]
          by_cases c2 : at_ + 7 ≤ j ∧ j < at_ + 7 + 7
          · rw [cp_in c2, cp_ne (by decide), up_ne (by decide)]
            unfold mv28
            rw [if_neg (show ¬ j - at_ = 0 by omega), if_neg (show ¬ j - at_ < 7 by omega), if_pos (show j - at_ < 14 by omega)]
            exact congrArg (h.1 19) (by omega)
          · rw [cp_out c2]
            by_cases c1 : at_ + 1 ≤ j ∧ j < at_ + 1 + 6
            · rw [cp_in c1, up_ne (by decide)]
              unfold mv28
              rw [if_neg (show ¬ j - at_ = 0 by omega), if_pos (show j - at_ < 7 by omega)]
              exact congrArg (h.1 18) (by omega)
            · rw [cp_out c1]
              have e : j = at_ := by omega
              subst e
              simp [j_up, mv28]
    · rw [if_neg cR, cp_out (by omega), cp_out (by omega), cp_out (by omega), cp_out (by omega)]
      simp [j_up]
      omega
  · simp [j_cp, j_up, upr, hC]
/-- the moment made as the row from at_ on has it -/
def ld_24 (h : jH) (at_ : Nat) : jH := upr (upr (upr (upr (j_up h 17 1 (h.1 24 at_)) 18 (fun j => if j < 6 then h.1 24 (at_ + 1 + j) else h.1 18 j)) 19 (fun j => if j < 7 then h.1 24 (at_ + 7 + j) else h.1 19 j)) 20 (fun j => if j < 7 then h.1 24 (at_ + 14 + j) else h.1 20 j)) 21 (fun j => if j < 7 then h.1 24 (at_ + 21 + j) else h.1 21 j)
theorem ct_load_24 {h : jH} (at_ : Nat) (ha : at_ + 28 ≤ 56) : CU Sx M_X2_load [jR 17, jR 24, jI at_] h (ld_24 h at_) := by
  refine en_X2_load_17_24 (fun G => vc_X2_load_17_24_0 ⟨⟨by omega, by omega⟩, ⟨by omega, by omega⟩, by omega, by omega, ⟨by omega, by omega⟩, by omega, by omega, ⟨by omega, by omega⟩, by omega, by omega, ⟨by omega, by omega⟩, by omega, by omega, rfl, ?_⟩)
  have t0 : Int.toNat (at_ : Int) = at_ := by omega
  have t1 : Int.toNat ((at_ : Int) + 1) = at_ + 1 := by omega
  have t2 : Int.toNat ((at_ : Int) + 1 + 6) = at_ + 7 := by omega
  have t3 : Int.toNat ((at_ : Int) + 1 + 6 + 7) = at_ + 14 := by omega
  have t4 : Int.toNat ((at_ : Int) + 1 + 6 + 14) = at_ + 21 := by omega
  rw [t0, t1, t2, t3, t4]
  refine j_ext (fun a j => ?_) rfl
  by_cases h21 : a = 21
  · subst h21; simp [ld_24, j_cp, j_up, upr]
  · by_cases h20 : a = 20
    · subst h20; simp [ld_24, j_cp, j_up, upr]
    · by_cases h19 : a = 19
      · subst h19; simp [ld_24, j_cp, j_up, upr]
      · by_cases h18 : a = 18
        · subst h18; simp [ld_24, j_cp, j_up, upr]
        · simp [ld_24, j_cp, j_up, upr, h18, h19, h20, h21]
/-- the moment of the day as the present one -/
def bc_ (h : jH) : jH := upr (upr (upr (upr (j_up h 28 1 (h.1 17 1)) 29 (fun j => if j < 6 then h.1 18 j else h.1 29 j)) 30 (fun j => if j < 7 then h.1 19 j else h.1 30 j)) 31 (fun j => if j < 7 then h.1 20 j else h.1 31 j)) 32 (fun j => if j < 7 then h.1 21 j else h.1 32 j)
theorem ct_become {h : jH} : CU Sx M_X2_become [jR 28, jR 17] h (bc_ h) := by
  refine en_X2_become_28_17 (fun G => vc_X2_become_28_17_0 ⟨rfl, ?_⟩)
  refine j_ext (fun a j => ?_) rfl
  by_cases h21 : a = 32
  · subst h21; simp [bc_, j_cp, j_up, upr]
  · by_cases h20 : a = 31
    · subst h20; simp [bc_, j_cp, j_up, upr]
    · by_cases h19 : a = 30
      · subst h19; simp [bc_, j_cp, j_up, upr]
      · by_cases h18 : a = 29
        · subst h18; simp [bc_, j_cp, j_up, upr]
        · simp [bc_, j_cp, j_up, upr, h18, h19, h20, h21]
/-! the past -/
theorem ct_add {h : jH} {x k : Nat} (hx : h.1 22 1 = x) (h10 : x < 10) (hk : h.1 22 2 = k) (hk10 : k ≤ 10) : CU Sx M_X3_add [jR 22, jR 17] h (j_up (j_up (upr h 23 (fun j => if x * 28 ≤ j ∧ j < x * 28 + 28 then mv28 h (j - x * 28) else h.1 23 j)) 22 1 ((x + 1) % 10 : Nat)) 22 2 (min 10 (k + 1) : Nat)) := by
  have e : h.1 22 1 * 28 = ((x * 28 : Nat) : Int) := by rw [hx]; omega
  refine en_X3_add_22_17 (fun G => vc_X3_add_22_17_0 ⟨⟨by omega, by omega⟩, ?_⟩)
  rw [e]
  refine ⟨_, ct_save_23 (x * 28) (by omega), ?_⟩
  rintro _ rfl
  have e1 : (upr h 23 (fun j => if x * 28 ≤ j ∧ j < x * 28 + 28 then mv28 h (j - x * 28) else h.1 23 j)).1 22 1 = x := hx
  have e2 : (upr h 23 (fun j => if x * 28 ≤ j ∧ j < x * 28 + 28 then mv28 h (j - x * 28) else h.1 23 j)).1 22 2 = k := hk
  rw [e1, e2]
  refine ⟨⟨by omega, by omega⟩, ⟨by omega, by omega⟩, rfl, ?_⟩
  rw [show Int.tmod ((x : Int) + 1) 10 = (((x + 1) % 10 : Nat) : Int) by rw [Int.tmod_eq_emod_of_nonneg (by omega)]; omega, show min (10 : Int) ((k : Int) + 1) = ((min 10 (k + 1) : Nat) : Int) by omega]
theorem ct_takeBack {h : jH} {x k : Nat} (hx : h.1 22 1 = x) (h10 : x < 10) (hk : h.1 22 2 = (k + 1 : Nat)) (hk10 : k < 10) : CU Sx M_X3_takeBack [jR 22, jR 17] h (ld_23 (j_up (j_up h 22 1 ((x + 9) % 10 : Nat)) 22 2 (k : Nat)) (((x + 9) % 10) * 28)) := by
  have e : Int.tmod (h.1 22 1 + 10 - 1) 10 = (((x + 9) % 10 : Nat) : Int) := by rw [hx, Int.tmod_eq_emod_of_nonneg (by omega)]; omega
  have e3 : h.1 22 2 - 1 = ((k : Nat) : Int) := by omega
  have hm : (x + 9) % 10 < 10 := Nat.mod_lt _ (by decide)
  refine en_X3_takeBack_22_17 (fun G => vc_X3_takeBack_22_17_0 ⟨⟨by omega, by omega⟩, ⟨by omega, by omega⟩, ⟨by omega, by omega⟩, ?_⟩)
  rw [e, e3]
  refine ⟨⟨by omega, by omega⟩, ?_⟩
  rw [show (((x + 9) % 10 : Nat) : Int) * 28 = (((x + 9) % 10 * 28 : Nat) : Int) by omega]
  refine ⟨_, ct_load_23 ((x + 9) % 10 * 28) (by omega), ?_⟩
  rintro _ rfl
  exact ⟨rfl, rfl⟩
theorem ct_forget {h : jH} : CU Sx M_X3_forget [jR 22] h (j_up h 22 2 0) := en_X3_forget_22 (fun G => vc_X3_forget_22_0 ⟨rfl, rfl⟩)
/-! holes -/
def swp (f : Nat → Int) (a b : Nat) (j : Nat) : Int := if j = b then f a else if j = a then f b else f j
theorem ct_exchange_18 {h : jH} (a b : Nat) (ha : a < 6) (hb : b < 6) : CU Sx M_X7_exchange [jR 18, jI a, jI b] h (upr h 18 (swp (h.1 18) a b)) := by
  refine en_X7_exchange_18 (fun G => vc_X7_exchange_18_0 ⟨⟨by omega, by omega⟩, ⟨by omega, by omega⟩, rfl, ?_⟩)
  simp only [Int.toNat_natCast]
  refine j_ext (fun k j => ?_) rfl
  by_cases hk : k = 18
  · subst hk; simp [j_up, upr, swp]
  · simp [j_up, upr, hk]
theorem ct_exchange_34 {h : jH} (a b : Nat) (ha : a < 7) (hb : b < 7) : CU Sx M_X7_exchange [jR 34, jI a, jI b] h (upr h 34 (swp (h.1 34) a b)) := by
  refine en_X7_exchange_34 (fun G => vc_X7_exchange_34_0 ⟨⟨by omega, by omega⟩, ⟨by omega, by omega⟩, rfl, ?_⟩)
  simp only [Int.toNat_natCast]
  refine j_ext (fun k j => ?_) rfl
  by_cases hk : k = 34
  · subst hk; simp [j_up, upr, swp]
  · simp [j_up, upr, hk]
theorem ct_exchange_40 {h : jH} (a b : Nat) (ha : a < 6) (hb : b < 6) : CU Sx M_X7_exchange [jR 40, jI a, jI b] h (upr h 40 (swp (h.1 40) a b)) := by
  refine en_X7_exchange_40 (fun G => vc_X7_exchange_40_0 ⟨⟨by omega, by omega⟩, ⟨by omega, by omega⟩, rfl, ?_⟩)
  simp only [Int.toNat_natCast]
  refine j_ext (fun k j => ?_) rfl
  by_cases hk : k = 40
  · subst hk; simp [j_up, upr, swp]
  · simp [j_up, upr, hk]
/-- how far the holes of c's lines are from one another -/
def apt (ho fr to : Nat → Int) (c : Nat) : Int := if 0 ≤ ho (fr c).toNat - ho (to c).toNat then ho (fr c).toNat - ho (to c).toNat else -(ho (fr c).toNat - ho (to c).toNat)
def hok (ho : Nat → Int) (L : Nat) : Prop := ∀ l, l < L → 0 ≤ ho l ∧ ho l < 6
def lkL (fr to : Nat → Int) (N L : Nat) : Prop := ∀ c, c < N → (0 ≤ fr c ∧ fr c < L) ∧ (0 ≤ to c ∧ to c < L)
theorem apt_bd {ho fr to : Nat → Int} {c L : Nat} (h : hok ho L) (hf : 0 ≤ fr c ∧ fr c < L) (ht : 0 ≤ to c ∧ to c < L) : 0 ≤ apt ho fr to c ∧ apt ho fr to c ≤ 5 := by
  have h1 := h (fr c).toNat (by omega)
  have h2 := h (to c).toNat (by omega)
  unfold apt
  split <;> omega
def alls (ho fr to : Nat → Int) : Nat → Int
  | 0 => 0
  | n + 1 => alls ho fr to n + apt ho fr to n
theorem alls_bd {ho fr to : Nat → Int} {N L : Nat} (h : hok ho L) (hk : lkL fr to N L) {n : Nat} (hn : n ≤ N) : 0 ≤ alls ho fr to n ∧ alls ho fr to n ≤ 5 * n := by
  induction n with
  | zero => simp [alls]
  | succ n ih =>
    have h1 := ih (by omega)
    have h2 := apt_bd (c := n) h (hk n (by omega)).1 (hk n (by omega)).2
    simp only [alls]
    omega
theorem alls_congr {ho ho2 fr to fr2 to2 : Nat → Int} {N L n : Nat} (hk : lkL fr to N L) (hn : n ≤ N) (h : ∀ l, l < L → ho l = ho2 l) (h2 : ∀ c, c < N → fr c = fr2 c ∧ to c = to2 c) : alls ho fr to n = alls ho2 fr2 to2 n := by
  induction n with
  | zero => rfl
  | succ n ih =>
    have h1 := hk n (by omega)
    have h3 := h2 n (by omega)
    simp only [alls, apt]
    rw [ih (by omega), ← h3.1, ← h3.2, h (fr n).toNat (by omega), h (to n).toNat (by omega)]
theorem ct_apart_18 {h : jH} {L : Nat} (hL : L ≤ 6) (c : Nat) (hc : c < 7) (ho : hok (h.1 18) L) (hf : 0 ≤ h.1 5 c ∧ h.1 5 c < L) (ht : 0 ≤ h.1 6 c ∧ h.1 6 c < L) : CF Sx M_X6_apart [jR 2, jI c, jR 18] h (apt (h.1 18) (h.1 5) (h.1 6) c) := by
  have h1 := ho (h.1 5 c).toNat (by omega)
  have h2 := ho (h.1 6 c).toNat (by omega)
  refine en_X6_apart_2_18 (fun G => vc_X6_apart_2_18_0 ?_)
  simp only [Int.toNat_natCast]
  exact ⟨⟨by omega, by omega⟩, ⟨by omega, by omega⟩, ⟨by omega, by omega⟩, ⟨by omega, by omega⟩, ⟨by omega, by omega⟩, _, rfl, rfl, rfl⟩
theorem ct_inAll_18 {h : jH} {N L : Nat} (hL : L ≤ 6) (hN : h.1 2 2 = N) (h7 : N ≤ 7) (ho : hok (h.1 18) L) (hk : lkL (h.1 5) (h.1 6) N L) : CF Sx M_X1_inAll [jR 39, jR 18] h (alls (h.1 18) (h.1 5) (h.1 6) N) := by
  refine en_X1_inAll_39_18 (fun G => vc_X1_inAll_39_18_0 ?_)
  refine jf_fun N (fun c => [jR 39, jR 18, jI (alls (h.1 18) (h.1 5) (h.1 6) c), jI (c : Nat)]) (fun _ => h) (fun c hc k => ?_) ?_ 0 (Nat.zero_le _)
  · have b1 := alls_bd (n := c) ho hk (by omega)
    have b2 := apt_bd ho (hk c hc).1 (hk c hc).2
    refine vc_X1_inAll_39_18_4 ⟨fun q => absurd q (by omega), fun q => ⟨_, ct_apart_18 hL c (by omega) ho (hk c hc).1 (hk c hc).2, ?_⟩⟩
    rintro _ _ ⟨rfl, rfl⟩
    exact ⟨⟨by omega, by omega⟩, ⟨by omega, by omega⟩, k⟩
  · exact vc_X1_inAll_39_18_4 ⟨fun q => ⟨_, rfl, rfl, rfl⟩, fun q => absurd q (by omega)⟩
theorem ct_apart_40 {h : jH} {L : Nat} (hL : L ≤ 6) (c : Nat) (hc : c < 7) (ho : hok (h.1 40) L) (hf : 0 ≤ h.1 5 c ∧ h.1 5 c < L) (ht : 0 ≤ h.1 6 c ∧ h.1 6 c < L) : CF Sx M_X6_apart [jR 2, jI c, jR 40] h (apt (h.1 40) (h.1 5) (h.1 6) c) := by
  have h1 := ho (h.1 5 c).toNat (by omega)
  have h2 := ho (h.1 6 c).toNat (by omega)
  refine en_X6_apart_2_40 (fun G => vc_X6_apart_2_40_0 ?_)
  simp only [Int.toNat_natCast]
  exact ⟨⟨by omega, by omega⟩, ⟨by omega, by omega⟩, ⟨by omega, by omega⟩, ⟨by omega, by omega⟩, ⟨by omega, by omega⟩, _, rfl, rfl, rfl⟩
theorem ct_inAll_40 {h : jH} {N L : Nat} (hL : L ≤ 6) (hN : h.1 2 2 = N) (h7 : N ≤ 7) (ho : hok (h.1 40) L) (hk : lkL (h.1 5) (h.1 6) N L) : CF Sx M_X1_inAll [jR 39, jR 40] h (alls (h.1 40) (h.1 5) (h.1 6) N) := by
  refine en_X1_inAll_39_40 (fun G => vc_X1_inAll_39_40_0 ?_)
  refine jf_fun N (fun c => [jR 39, jR 40, jI (alls (h.1 40) (h.1 5) (h.1 6) c), jI (c : Nat)]) (fun _ => h) (fun c hc k => ?_) ?_ 0 (Nat.zero_le _)
  · have b1 := alls_bd (n := c) ho hk (by omega)
    have b2 := apt_bd ho (hk c hc).1 (hk c hc).2
    refine vc_X1_inAll_39_40_4 ⟨fun q => absurd q (by omega), fun q => ⟨_, ct_apart_40 hL c (by omega) ho (hk c hc).1 (hk c hc).2, ?_⟩⟩
    rintro _ _ ⟨rfl, rfl⟩
    exact ⟨⟨by omega, by omega⟩, ⟨by omega, by omega⟩, k⟩
  · exact vc_X1_inAll_39_40_4 ⟨fun q => ⟨_, rfl, rfl, rfl⟩, fun q => absurd q (by omega)⟩
