/-! constructors: the whole object -/
def hX7 (hT hR : jH) : jH := (fun k => if 2 ≤ k ∧ k ≤ 8 then hT.1 (k - 2) else if 10 ≤ k ∧ k ≤ 16 then hR.1 (k - 10) else if k = 26 then (fun j => if j = 3 then -9 else 0) else fun _ => 0, fun _ => 0)
theorem hX7_Rg {hT hR : jH} (h1 : j_Rg hT) (h2 : j_Rg hR) : j_Rg (hX7 hT hR) := by
  intro k j
  show j_rg ((if 2 ≤ k ∧ k ≤ 8 then hT.1 (k - 2) else if 10 ≤ k ∧ k ≤ 16 then hR.1 (k - 10) else if k = 26 then (fun j => if j = 3 then -9 else 0) else fun _ => 0) j)
  split
  · exact h1 _ _
  · split
    · exact h2 _ _
    · split
      · dsimp only
        split
        · exact ⟨by omega, by omega⟩
        · exact ⟨by omega, by omega⟩
      · exact ⟨by show (-2147483648 : Int) ≤ 0; omega, by show (0 : Int) ≤ 2147483647; omega⟩
theorem hX7_N {hT hR : jH} (ti : TI hT) : (hX7 hT hR).1 2 2 = ((0 : Nat) : Int) := ti.2.2.1
theorem hX7_br {hT hR g : jH} (ti : TI hT) (hg : g.2 = (hX7 hT hR).2 ∧ (∀ k, k ≠ 17 → k ≠ 18 → k ≠ 19 → k ≠ 20 → k ≠ 21 → g.1 k = (hX7 hT hR).1 k) ∧ g.1 17 1 = 0 ∧ (∀ j, j < 6 → g.1 18 j = (hX7 hT hR).1 3 j) ∧ (∀ j, j < 7 → g.1 19 j = (if j < 0 ∧ (hX7 hT hR).1 4 j = 0 then 1 else 0) ∧ g.1 20 j = 0 ∧ g.1 21 j = 0)) : BRX sP jZ g := by
  obtain ⟨g1, g2, g3, g4, g5⟩ := hg
  obtain ⟨t1, t2, t3, t4⟩ := ti
  refine ⟨g1, ?_, ?_, ?_, ?_, ?_, fun c hc => absurd hc (by show ¬ c < 0; omega), g3, fun l hl => ?_, fun c hc => absurd hc (by show ¬ c < 0; omega), ?_, ?_, ?_, ?_⟩
  · rw [g2 1 (by omega) (by omega) (by omega) (by omega) (by omega)]; rfl
  · rw [g2 0 (by omega) (by omega) (by omega) (by omega) (by omega)]; rfl
  · rw [g2 2 (by omega) (by omega) (by omega) (by omega) (by omega)]; exact t1
  · rw [g2 2 (by omega) (by omega) (by omega) (by omega) (by omega)]; exact t2
  · rw [g2 2 (by omega) (by omega) (by omega) (by omega) (by omega)]; exact t3
  · rw [g4 l hl]; exact t4 l hl
  · rw [g2 22 (by omega) (by omega) (by omega) (by omega) (by omega)]; rfl
  · rw [g2 22 (by omega) (by omega) (by omega) (by omega) (by omega)]; rfl
  · rw [g2 25 (by omega) (by omega) (by omega) (by omega) (by omega)]; rfl
  · rw [g2 25 (by omega) (by omega) (by omega) (by omega) (by omega)]; rfl
def hX8 : jH := (fun k j => if k = 0 ∧ j = 13 then 2 else if k = 0 ∧ j = 14 then 1 else 0, fun _ => 0)
theorem hX8_0 : j_Rg hX8 := by
  intro k j
  show j_rg (if k = 0 ∧ j = 13 then 2 else if k = 0 ∧ j = 14 then 1 else 0)
  split
  · exact ⟨by omega, by omega⟩
  · split <;> exact ⟨by omega, by omega⟩
theorem hX8_Rg : j_Rg (j_up (j_up (j_up (j_up (j_up (j_up hX8 2 0 0) 2 1 1) 2 2 2) 2 3 3) 2 4 4) 2 5 5) := j_up_Rg (j_up_Rg (j_up_Rg (j_up_Rg (j_up_Rg (j_up_Rg hX8_0 ⟨by omega, by omega⟩) ⟨by omega, by omega⟩) ⟨by omega, by omega⟩) ⟨by omega, by omega⟩) ⟨by omega, by omega⟩) ⟨by omega, by omega⟩
theorem hX8_br {g : jH} (hg : g.2 = (j_up (j_up (j_up (j_up (j_up (j_up hX8 2 0 0) 2 1 1) 2 2 2) 2 3 3) 2 4 4) 2 5 5).2 ∧ (∀ k, k ≠ 0 → k ≠ 5 → k ≠ 8 → g.1 k = (j_up (j_up (j_up (j_up (j_up (j_up hX8 2 0 0) 2 1 1) 2 2 2) 2 3 3) 2 4 4) 2 5 5).1 k) ∧ (∀ j, j ≠ 22 → g.1 0 j = (j_up (j_up (j_up (j_up (j_up (j_up hX8 2 0 0) 2 1 1) 2 2 2) 2 3 3) 2 4 4) 2 5 5).1 0 j) ∧ g.1 0 22 = 0 ∧ g.1 8 0 = 0 ∧ g.1 8 1 = 0 ∧ g.1 5 0 = 0 ∧ (∀ l, l < 6 → g.1 5 (1 + l) = (j_up (j_up (j_up (j_up (j_up (j_up hX8 2 0 0) 2 1 1) 2 2 2) 2 3 3) 2 4 4) 2 5 5).1 2 l) ∧ ∀ c, c < 7 → g.1 5 (7 + c) = (if c < 0 ∧ (j_up (j_up (j_up (j_up (j_up (j_up hX8 2 0 0) 2 1 1) 2 2 2) 2 3 3) 2 4 4) 2 5 5).1 4 (5 * c) = 0 then 1 else 0) ∧ g.1 5 (14 + c) = 0 ∧ g.1 5 (21 + c) = 0) : BRM sP jZ g := by
  obtain ⟨g1, g2, g3, g4, g5, g6, g7, g8, g9⟩ := hg
  refine ⟨g1, ?_, ?_, ?_, ?_, ?_, fun c hc => absurd hc (by show ¬ c < 0; omega), g7, fun l hl => ?_, fun c hc => absurd hc (by show ¬ c < 0; omega), g4, g5, g6⟩
  · rw [g2 1 (by omega) (by omega) (by omega), up_ne (by omega), up_ne (by omega), up_ne (by omega), up_ne (by omega), up_ne (by omega), up_ne (by omega)]
    funext j
    show (if (1 : Nat) = 0 ∧ j = 13 then (2 : Int) else if (1 : Nat) = 0 ∧ j = 14 then 1 else 0) = 0
    rw [if_neg (by omega), if_neg (by omega)]
  · rw [g3 0 (by omega)]; rfl
  · rw [g3 13 (by omega)]; rfl
  · rw [g3 14 (by omega)]; rfl
  · rw [g3 15 (by omega)]; rfl
  · rw [g8 l hl]
    rcases (show l = 0 ∨ l = 1 ∨ l = 2 ∨ l = 3 ∨ l = 4 ∨ l = 5 by omega) with rfl | rfl | rfl | rfl | rfl | rfl <;> rfl
def mpx {α β : Type} (f : Nat → α → β) : Nat → List α → List β
  | _, [] => []
  | k, c :: l => f k c :: mpx f (k + 1) l
theorem mpx_k {α β : Type} (f : Nat → α → β) : ∀ (l : List α) (k : Nat), l.mapIdx (fun i c => f (i + k) c) = mpx f k l := by
  intro l
  induction l with
  | nil => intro k; rfl
  | cons c l ih =>
    intro k
    rw [List.mapIdx_cons]
    simp only [mpx]
    rw [← ih (k + 1), Nat.zero_add]
    congr 2
    funext i c
    rw [Nat.add_assoc, Nat.add_comm 1 k]
theorem mpx_0 {α β : Type} (f : Nat → α → β) (l : List α) : l.mapIdx f = mpx f 0 l := mpx_k f l 0
theorem j_E_o {G : jG} {h : jH} {k ci : Nat} {fs : List (Option (Option Nat))} : j_E G h k (.inr (ci, fs)) = .inr (ci, mpx (fun j f => j_f G.2.2.2 h k j f) 0 fs) := by
  rw [← mpx_0]
  rfl
theorem j_E_r {G : jG} {h : jH} {k n : Nat} {b : Bool} : j_E G h k (.inl (b, n)) = .inl (if b = true then G.2.2.1.2 else G.2.2.1.1, n, .inl (fun j => Int32.ofInt (h.1 k j))) := rfl
theorem j_f_1 {ad : Nat → Nat} {h : jH} {k j : Nat} : j_f ad h k j none = .long (h.2 k) := rfl
theorem j_f_2 {ad : Nat → Nat} {h : jH} {k j : Nat} : j_f ad h k j (some none) = .int (Int32.ofInt (h.1 k j)) := rfl
theorem j_f_3 {ad : Nat → Nat} {h : jH} {k j r : Nat} : j_f ad h k j (some (some r)) = .ref (ad r) := rfl

set_option maxRecDepth 100000 in
set_option maxHeartbeats 4000000 in
theorem jw_T (G : kG) (ad : Nat → Nat) (h : jH) : j_w (k_g G ad) St.2.2 h = [(ad 0, .inr (6, [.int (Int32.ofInt (h.1 0 0)), .int (Int32.ofInt (h.1 0 1)), .int (Int32.ofInt (h.1 0 2)), .ref (ad 1), .ref (ad 2), .ref (ad 3), .ref (ad 4), .ref (ad 5), .ref (ad 6)])), (ad 1, .inl (G.2.2.1, 6, .inl (fun j => Int32.ofInt (h.1 1 j)))), (ad 2, .inl (G.2.2.1, 7, .inl (fun j => Int32.ofInt (h.1 2 j)))), (ad 3, .inl (G.2.2.1, 7, .inl (fun j => Int32.ofInt (h.1 3 j)))), (ad 4, .inl (G.2.2.1, 7, .inl (fun j => Int32.ofInt (h.1 4 j)))), (ad 5, .inl (G.2.2.1, 7, .inl (fun j => Int32.ofInt (h.1 5 j)))), (ad 6, .inl (G.2.2.1, 7, .inl (fun j => Int32.ofInt (h.1 6 j))))] := by
  simp only [j_w, mpx_0, St, layT, mpx, j_E_o, j_E_r, j_f_1, j_f_2, j_f_3, Nat.zero_add, Nat.reduceAdd, Bool.false_eq_true, if_false, if_true]
set_option maxRecDepth 100000 in
set_option maxHeartbeats 4000000 in
theorem jw_X (G : kG) (ad : Nat → Nat) (h : jH) : j_w (k_g G ad) Sx.2.2 h = [(ad 0, .inr (7, [.ref (ad 1), .ref (ad 2), .ref (ad 9), .ref (ad 17), .ref (ad 22), .ref (ad 24), .ref (ad 25), .ref (ad 26), .ref (ad 33), .ref (ad 39), .int (Int32.ofInt (h.1 0 10)), .long (h.2 0)])), (ad 1, .inl (G.2.2.1, 200, .inl (fun j => Int32.ofInt (h.1 1 j)))), (ad 2, .inr (6, [.int (Int32.ofInt (h.1 2 0)), .int (Int32.ofInt (h.1 2 1)), .int (Int32.ofInt (h.1 2 2)), .ref (ad 3), .ref (ad 4), .ref (ad 5), .ref (ad 6), .ref (ad 7), .ref (ad 8)])), (ad 3, .inl (G.2.2.1, 6, .inl (fun j => Int32.ofInt (h.1 3 j)))), (ad 4, .inl (G.2.2.1, 7, .inl (fun j => Int32.ofInt (h.1 4 j)))), (ad 5, .inl (G.2.2.1, 7, .inl (fun j => Int32.ofInt (h.1 5 j)))), (ad 6, .inl (G.2.2.1, 7, .inl (fun j => Int32.ofInt (h.1 6 j)))), (ad 7, .inl (G.2.2.1, 7, .inl (fun j => Int32.ofInt (h.1 7 j)))), (ad 8, .inl (G.2.2.1, 7, .inl (fun j => Int32.ofInt (h.1 8 j)))), (ad 9, .inr (4, [.ref (ad 10), .ref (ad 1), .int (Int32.ofInt (h.1 9 2)), .int (Int32.ofInt (h.1 9 3)), .int (Int32.ofInt (h.1 9 4)), .int (Int32.ofInt (h.1 9 5)), .int (Int32.ofInt (h.1 9 6))])), (ad 10, .inr (6, [.int (Int32.ofInt (h.1 10 0)), .int (Int32.ofInt (h.1 10 1)), .int (Int32.ofInt (h.1 10 2)), .ref (ad 11), .ref (ad 12), .ref (ad 13), .ref (ad 14), .ref (ad 15), .ref (ad 16)])), (ad 11, .inl (G.2.2.1, 6, .inl (fun j => Int32.ofInt (h.1 11 j)))), (ad 12, .inl (G.2.2.1, 7, .inl (fun j => Int32.ofInt (h.1 12 j)))), (ad 13, .inl (G.2.2.1, 7, .inl (fun j => Int32.ofInt (h.1 13 j)))), (ad 14, .inl (G.2.2.1, 7, .inl (fun j => Int32.ofInt (h.1 14 j)))), (ad 15, .inl (G.2.2.1, 7, .inl (fun j => Int32.ofInt (h.1 15 j)))), (ad 16, .inl (G.2.2.1, 7, .inl (fun j => Int32.ofInt (h.1 16 j)))), (ad 17, .inr (2, [.ref (ad 2), .int (Int32.ofInt (h.1 17 1)), .ref (ad 18), .ref (ad 19), .ref (ad 20), .ref (ad 21)])), (ad 18, .inl (G.2.2.1, 6, .inl (fun j => Int32.ofInt (h.1 18 j)))), (ad 19, .inl (G.2.2.1, 7, .inl (fun j => Int32.ofInt (h.1 19 j)))), (ad 20, .inl (G.2.2.1, 7, .inl (fun j => Int32.ofInt (h.1 20 j)))), (ad 21, .inl (G.2.2.1, 7, .inl (fun j => Int32.ofInt (h.1 21 j)))), (ad 22, .inr (3, [.ref (ad 23), .int (Int32.ofInt (h.1 22 1)), .int (Int32.ofInt (h.1 22 2))])), (ad 23, .inl (G.2.2.1, 280, .inl (fun j => Int32.ofInt (h.1 23 j)))), (ad 24, .inl (G.2.2.1, 56, .inl (fun j => Int32.ofInt (h.1 24 j)))), (ad 25, .inl (G.2.2.2, 2, .inl (fun j => Int32.ofInt (h.1 25 j)))), (ad 26, .inr (0, [.ref (ad 2), .ref (ad 28), .ref (ad 27), .int (Int32.ofInt (h.1 26 3)), .int (Int32.ofInt (h.1 26 4))])), (ad 27, .inl (G.2.2.1, 7, .inl (fun j => Int32.ofInt (h.1 27 j)))), (ad 28, .inr (2, [.ref (ad 2), .int (Int32.ofInt (h.1 28 1)), .ref (ad 29), .ref (ad 30), .ref (ad 31), .ref (ad 32)])), (ad 29, .inl (G.2.2.1, 6, .inl (fun j => Int32.ofInt (h.1 29 j)))), (ad 30, .inl (G.2.2.1, 7, .inl (fun j => Int32.ofInt (h.1 30 j)))), (ad 31, .inl (G.2.2.1, 7, .inl (fun j => Int32.ofInt (h.1 31 j)))), (ad 32, .inl (G.2.2.1, 7, .inl (fun j => Int32.ofInt (h.1 32 j)))), (ad 33, .inr (5, [.ref (ad 2), .ref (ad 34), .ref (ad 35), .int (Int32.ofInt (h.1 33 3)), .int (Int32.ofInt (h.1 33 4)), .ref (ad 36), .ref (ad 37), .ref (ad 38)])), (ad 34, .inl (G.2.2.1, 7, .inl (fun j => Int32.ofInt (h.1 34 j)))), (ad 35, .inl (G.2.2.1, 7, .inl (fun j => Int32.ofInt (h.1 35 j)))), (ad 36, .inl (G.2.2.1, 7, .inl (fun j => Int32.ofInt (h.1 36 j)))), (ad 37, .inl (G.2.2.1, 7, .inl (fun j => Int32.ofInt (h.1 37 j)))), (ad 38, .inl (G.2.2.1, 7, .inl (fun j => Int32.ofInt (h.1 38 j)))), (ad 39, .inr (1, [.ref (ad 2), .ref (ad 40), .ref (ad 41), .int (Int32.ofInt (h.1 39 3))])), (ad 40, .inl (G.2.2.1, 6, .inl (fun j => Int32.ofInt (h.1 40 j)))), (ad 41, .inl (G.2.2.1, 6, .inl (fun j => Int32.ofInt (h.1 41 j))))] := by
  simp only [j_w, mpx_0, Sx, layX, mpx, j_E_o, j_E_r, j_f_1, j_f_2, j_f_3, Nat.zero_add, Nat.reduceAdd, Bool.false_eq_true, if_false, if_true]
set_option maxRecDepth 100000 in
set_option maxHeartbeats 4000000 in
theorem jw_M (G : kG) (ad : Nat → Nat) (h : jH) : j_w (k_g G ad) Sm.2.2 h = [(ad 0, .inr (8, [.int (Int32.ofInt (h.1 0 0)), .ref (ad 1), .int (Int32.ofInt (h.1 0 2)), .int (Int32.ofInt (h.1 0 3)), .int (Int32.ofInt (h.1 0 4)), .int (Int32.ofInt (h.1 0 5)), .int (Int32.ofInt (h.1 0 6)), .int (Int32.ofInt (h.1 0 7)), .int (Int32.ofInt (h.1 0 8)), .int (Int32.ofInt (h.1 0 9)), .ref (ad 2), .int (Int32.ofInt (h.1 0 11)), .ref (ad 3), .int (Int32.ofInt (h.1 0 13)), .int (Int32.ofInt (h.1 0 14)), .int (Int32.ofInt (h.1 0 15)), .ref (ad 4), .ref (ad 5), .ref (ad 6), .ref (ad 7), .ref (ad 8), .ref (ad 9), .int (Int32.ofInt (h.1 0 22)), .ref (ad 10), .ref (ad 11), .ref (ad 12), .int (Int32.ofInt (h.1 0 26)), .int (Int32.ofInt (h.1 0 27)), .long (h.2 0)])), (ad 1, .inl (G.2.2.1, 200, .inl (fun j => Int32.ofInt (h.1 1 j)))), (ad 2, .inl (G.2.2.1, 6, .inl (fun j => Int32.ofInt (h.1 2 j)))), (ad 3, .inl (G.2.2.1, 35, .inl (fun j => Int32.ofInt (h.1 3 j)))), (ad 4, .inl (G.2.2.1, 35, .inl (fun j => Int32.ofInt (h.1 4 j)))), (ad 5, .inl (G.2.2.1, 28, .inl (fun j => Int32.ofInt (h.1 5 j)))), (ad 6, .inl (G.2.2.1, 28, .inl (fun j => Int32.ofInt (h.1 6 j)))), (ad 7, .inl (G.2.2.1, 56, .inl (fun j => Int32.ofInt (h.1 7 j)))), (ad 8, .inl (G.2.2.2, 2, .inl (fun j => Int32.ofInt (h.1 8 j)))), (ad 9, .inl (G.2.2.1, 280, .inl (fun j => Int32.ofInt (h.1 9 j)))), (ad 10, .inl (G.2.2.1, 7, .inl (fun j => Int32.ofInt (h.1 10 j)))), (ad 11, .inl (G.2.2.1, 7, .inl (fun j => Int32.ofInt (h.1 11 j)))), (ad 12, .inl (G.2.2.1, 7, .inl (fun j => Int32.ofInt (h.1 12 j))))] := by
  simp only [j_w, mpx_0, Sm, layM, mpx, j_E_o, j_E_r, j_f_1, j_f_2, j_f_3, Nat.zero_add, Nat.reduceAdd, Bool.false_eq_true, if_false, if_true]
theorem hX7_r0 {hT hR : jH} : (hX7 hT hR).1 0 = fun _ => 0 := rfl
theorem hX7_r1 {hT hR : jH} : (hX7 hT hR).1 1 = fun _ => 0 := rfl
theorem hX7_r2 {hT hR : jH} : (hX7 hT hR).1 2 = hT.1 0 := rfl
theorem hX7_r3 {hT hR : jH} : (hX7 hT hR).1 3 = hT.1 1 := rfl
theorem hX7_r4 {hT hR : jH} : (hX7 hT hR).1 4 = hT.1 2 := rfl
theorem hX7_r5 {hT hR : jH} : (hX7 hT hR).1 5 = hT.1 3 := rfl
theorem hX7_r6 {hT hR : jH} : (hX7 hT hR).1 6 = hT.1 4 := rfl
theorem hX7_r7 {hT hR : jH} : (hX7 hT hR).1 7 = hT.1 5 := rfl
theorem hX7_r8 {hT hR : jH} : (hX7 hT hR).1 8 = hT.1 6 := rfl
theorem hX7_r9 {hT hR : jH} : (hX7 hT hR).1 9 = fun _ => 0 := rfl
theorem hX7_r10 {hT hR : jH} : (hX7 hT hR).1 10 = hR.1 0 := rfl
theorem hX7_r11 {hT hR : jH} : (hX7 hT hR).1 11 = hR.1 1 := rfl
theorem hX7_r12 {hT hR : jH} : (hX7 hT hR).1 12 = hR.1 2 := rfl
theorem hX7_r13 {hT hR : jH} : (hX7 hT hR).1 13 = hR.1 3 := rfl
theorem hX7_r14 {hT hR : jH} : (hX7 hT hR).1 14 = hR.1 4 := rfl
theorem hX7_r15 {hT hR : jH} : (hX7 hT hR).1 15 = hR.1 5 := rfl
theorem hX7_r16 {hT hR : jH} : (hX7 hT hR).1 16 = hR.1 6 := rfl
theorem hX7_r17 {hT hR : jH} : (hX7 hT hR).1 17 = fun _ => 0 := rfl
theorem hX7_r18 {hT hR : jH} : (hX7 hT hR).1 18 = fun _ => 0 := rfl
theorem hX7_r19 {hT hR : jH} : (hX7 hT hR).1 19 = fun _ => 0 := rfl
theorem hX7_r20 {hT hR : jH} : (hX7 hT hR).1 20 = fun _ => 0 := rfl
theorem hX7_r21 {hT hR : jH} : (hX7 hT hR).1 21 = fun _ => 0 := rfl
theorem hX7_r22 {hT hR : jH} : (hX7 hT hR).1 22 = fun _ => 0 := rfl
theorem hX7_r23 {hT hR : jH} : (hX7 hT hR).1 23 = fun _ => 0 := rfl
theorem hX7_r24 {hT hR : jH} : (hX7 hT hR).1 24 = fun _ => 0 := rfl
theorem hX7_r25 {hT hR : jH} : (hX7 hT hR).1 25 = fun _ => 0 := rfl
theorem hX7_r26 {hT hR : jH} : (hX7 hT hR).1 26 = fun j => if j = 3 then -9 else 0 := rfl
theorem hX7_r27 {hT hR : jH} : (hX7 hT hR).1 27 = fun _ => 0 := rfl
theorem hX7_r28 {hT hR : jH} : (hX7 hT hR).1 28 = fun _ => 0 := rfl
theorem hX7_r29 {hT hR : jH} : (hX7 hT hR).1 29 = fun _ => 0 := rfl
theorem hX7_r30 {hT hR : jH} : (hX7 hT hR).1 30 = fun _ => 0 := rfl
theorem hX7_r31 {hT hR : jH} : (hX7 hT hR).1 31 = fun _ => 0 := rfl
theorem hX7_r32 {hT hR : jH} : (hX7 hT hR).1 32 = fun _ => 0 := rfl
theorem hX7_r33 {hT hR : jH} : (hX7 hT hR).1 33 = fun _ => 0 := rfl
theorem hX7_r34 {hT hR : jH} : (hX7 hT hR).1 34 = fun _ => 0 := rfl
theorem hX7_r35 {hT hR : jH} : (hX7 hT hR).1 35 = fun _ => 0 := rfl
theorem hX7_r36 {hT hR : jH} : (hX7 hT hR).1 36 = fun _ => 0 := rfl
theorem hX7_r37 {hT hR : jH} : (hX7 hT hR).1 37 = fun _ => 0 := rfl
theorem hX7_r38 {hT hR : jH} : (hX7 hT hR).1 38 = fun _ => 0 := rfl
theorem hX7_r39 {hT hR : jH} : (hX7 hT hR).1 39 = fun _ => 0 := rfl
theorem hX7_r40 {hT hR : jH} : (hX7 hT hR).1 40 = fun _ => 0 := rfl
theorem hX7_r41 {hT hR : jH} : (hX7 hT hR).1 41 = fun _ => 0 := rfl
theorem hX7_2 {hT hR : jH} {k : Nat} : (hX7 hT hR).2 k = 0 := rfl
set_option maxHeartbeats 4000000 in
set_option maxRecDepth 100000 in
theorem wX7 {G : kG} {adT adR ad : Nat → Nat} {hT hR : jH} {h0 q8 q25 q40 p1 p2 p3 p4 q55 s1 q68 q75 q81 d1 d2 d3 d4 d5 d6 q96 e1 e2 e3 e4 e5 q111 f1 f2 : Nat} (a0 : ad 0 = h0) (a1 : ad 1 = q8) (a2 : ad 2 = adT 0) (a3 : ad 3 = adT 1) (a4 : ad 4 = adT 2) (a5 : ad 5 = adT 3) (a6 : ad 6 = adT 4) (a7 : ad 7 = adT 5) (a8 : ad 8 = adT 6) (a9 : ad 9 = q25) (a10 : ad 10 = adR 0) (a11 : ad 11 = adR 1) (a12 : ad 12 = adR 2) (a13 : ad 13 = adR 3) (a14 : ad 14 = adR 4) (a15 : ad 15 = adR 5) (a16 : ad 16 = adR 6) (a17 : ad 17 = q40) (a18 : ad 18 = p1) (a19 : ad 19 = p2) (a20 : ad 20 = p3) (a21 : ad 21 = p4) (a22 : ad 22 = q55) (a23 : ad 23 = s1) (a24 : ad 24 = q68) (a25 : ad 25 = q75) (a26 : ad 26 = q81) (a27 : ad 27 = d1) (a28 : ad 28 = d2) (a29 : ad 29 = d3) (a30 : ad 30 = d4) (a31 : ad 31 = d5) (a32 : ad 32 = d6) (a33 : ad 33 = q96) (a34 : ad 34 = e1) (a35 : ad 35 = e2) (a36 : ad 36 = e3) (a37 : ad 37 = e4) (a38 : ad 38 = e5) (a39 : ad 39 = q111) (a40 : ad 40 = f1) (a41 : ad 41 = f2) : ((h0, .inr (7, [.ref q8, .ref (adT 0), .ref q25, .ref q40, .ref q55, .ref q68, .ref q75, .ref q81, .ref q96, .ref q111, .int (Int32.ofInt 0), .long 0])) :: (((((((((([] ++ [(q8, .inl (G.2.2.1, 200, .inl (fun _ => Int32.ofInt 0)))]) ++ j_w (k_g G adT) St.2.2 hT) ++ ((q25, .inr (4, [.ref (adR 0), .ref q8, .int (Int32.ofInt 0), .int (Int32.ofInt 0), .int (Int32.ofInt 0), .int (Int32.ofInt 0), .int (Int32.ofInt 0)])) :: j_w (k_g G adR) St.2.2 hR)) ++ [(q40, .inr (2, [.ref (adT 0), .int (Int32.ofInt 0), .ref p1, .ref p2, .ref p3, .ref p4])), (p1, .inl (G.2.2.1, 6, .inl (fun _ => Int32.ofInt 0))), (p2, .inl (G.2.2.1, 7, .inl (fun _ => Int32.ofInt 0))), (p3, .inl (G.2.2.1, 7, .inl (fun _ => Int32.ofInt 0))), (p4, .inl (G.2.2.1, 7, .inl (fun _ => Int32.ofInt 0)))]) ++ [(q55, .inr (3, [.ref s1, .int (Int32.ofInt 0), .int (Int32.ofInt 0)])), (s1, .inl (G.2.2.1, 280, .inl (fun _ => Int32.ofInt 0)))]) ++ [(q68, .inl (G.2.2.1, 56, .inl (fun _ => Int32.ofInt 0)))]) ++ [(q75, .inl (G.2.2.2, 2, .inl (fun _ => Int32.ofInt 0)))]) ++ [(q81, .inr (0, [.ref (adT 0), .ref d2, .ref d1, .int (Int32.ofInt (-9)), .int (Int32.ofInt 0)])), (d1, .inl (G.2.2.1, 7, .inl (fun _ => Int32.ofInt 0))), (d2, .inr (2, [.ref (adT 0), .int (Int32.ofInt 0), .ref d3, .ref d4, .ref d5, .ref d6])), (d3, .inl (G.2.2.1, 6, .inl (fun _ => Int32.ofInt 0))), (d4, .inl (G.2.2.1, 7, .inl (fun _ => Int32.ofInt 0))), (d5, .inl (G.2.2.1, 7, .inl (fun _ => Int32.ofInt 0))), (d6, .inl (G.2.2.1, 7, .inl (fun _ => Int32.ofInt 0)))]) ++ [(q96, .inr (5, [.ref (adT 0), .ref e1, .ref e2, .int (Int32.ofInt 0), .int (Int32.ofInt 0), .ref e3, .ref e4, .ref e5])), (e1, .inl (G.2.2.1, 7, .inl (fun _ => Int32.ofInt 0))), (e2, .inl (G.2.2.1, 7, .inl (fun _ => Int32.ofInt 0))), (e3, .inl (G.2.2.1, 7, .inl (fun _ => Int32.ofInt 0))), (e4, .inl (G.2.2.1, 7, .inl (fun _ => Int32.ofInt 0))), (e5, .inl (G.2.2.1, 7, .inl (fun _ => Int32.ofInt 0)))]) ++ [(q111, .inr (1, [.ref (adT 0), .ref f1, .ref f2, .int (Int32.ofInt 0)])), (f1, .inl (G.2.2.1, 6, .inl (fun _ => Int32.ofInt 0))), (f2, .inl (G.2.2.1, 6, .inl (fun _ => Int32.ofInt 0)))]) : va_W) = j_w (k_g G ad) Sx.2.2 (hX7 hT hR) := by
  rw [jw_X, jw_T, jw_T, a0, a1, a2, a3, a4, a5, a6, a7, a8, a9, a10, a11, a12, a13, a14, a15, a16, a17, a18, a19, a20, a21, a22, a23, a24, a25, a26, a27, a28, a29, a30, a31, a32, a33, a34, a35, a36, a37, a38, a39, a40, a41, hX7_r0, hX7_r1, hX7_r2, hX7_r3, hX7_r4, hX7_r5, hX7_r6, hX7_r7, hX7_r8, hX7_r9, hX7_r10, hX7_r11, hX7_r12, hX7_r13, hX7_r14, hX7_r15, hX7_r16, hX7_r17, hX7_r18, hX7_r19, hX7_r20, hX7_r21, hX7_r22, hX7_r23, hX7_r24, hX7_r25, hX7_r26, hX7_r27, hX7_r28, hX7_r29, hX7_r30, hX7_r31, hX7_r32, hX7_r33, hX7_r34, hX7_r35, hX7_r36, hX7_r37, hX7_r38, hX7_r39, hX7_r40, hX7_r41]
  simp only [List.nil_append, List.cons_append, hX7_2, if_true, if_false, Nat.reduceEqDiff]
