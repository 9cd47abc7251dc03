/-! the model: cuts, crossings -/
theorem andn_0 : ∀ m : Nat, m < 128 → ∀ t : Nat, t < 128 → ((m ^^^ (m &&& t) : Nat) = 0 ↔ m &&& t = m) := by decide +kernel
theorem sub_le : ∀ m : Nat, m < 128 → ∀ t : Nat, t < 128 → m &&& t = m → m ≤ t := by decide +kernel
theorem xor_tb {t m k : Nat} (h : m &&& t = m) : (t ^^^ m).testBit k = (t.testBit k && !m.testBit k) := by
  have : m.testBit k = (m.testBit k && t.testBit k) := by rw [← Nat.testBit_and, h]
  rw [Nat.testBit_xor]
  revert this
  cases t.testBit k <;> cases m.testBit k <;> simp
/-- fewer cut, or as few with less left: one number -/
theorem cless_by {N : Nat} {lf : Nat → Int} {a b : Nat} (ha : 0 ≤ sm (fun k => a.testBit k) lf N ∧ sm (fun k => a.testBit k) lf N < 1000) (hb : 0 ≤ sm (fun k => b.testBit k) lf N ∧ sm (fun k => b.testBit k) lf N < 1000) : (1000 * (cnt (fun k => a.testBit k) 7 : Int) + sm (fun k => a.testBit k) lf N < 1000 * (cnt (fun k => b.testBit k) 7 : Int) + sm (fun k => b.testBit k) lf N) ↔ cless N lf a b = true := by
  unfold cless
  rw [Bool.or_eq_true, Bool.and_eq_true, decide_eq_true_eq, decide_eq_true_eq, decide_eq_true_eq]
  omega
theorem sm_pos {p : Nat → Bool} {f : Nat → Int} {n : Nat} {B : Int} (h : ∀ c, c < n → 0 ≤ f c ∧ f c ≤ B) (hB : 0 ≤ B) : 0 ≤ sm p f n ∧ sm p f n ≤ B * n := by
  induction n with
  | zero => simp [sm]
  | succ n ih =>
    have h1 := ih (fun c hc => h c (by omega))
    have h2 := h n (by omega)
    have h3 : B * ((n + 1 : Nat) : Int) = B * n + B := by rw [Int.natCast_add, Int.mul_add]; simp
    simp only [sm]
    rw [h3]
    split <;> omega
theorem cnt_sub {m t : Nat} (h : m &&& t = m) (hne : m ≠ t) (ht : t < 128) : cnt (fun k => m.testBit k) 7 < cnt (fun k => t.testBit k) 7 := by
  have hs : ∀ k, m.testBit k = true → t.testBit k = true := fun k hk => by
    have : m.testBit k = (m.testBit k && t.testBit k) := by rw [← Nat.testBit_and, h]
    rw [hk] at this
    simpa using this.symm
  have : ∃ k, k < 7 ∧ m.testBit k = false ∧ t.testBit k = true := by
    refine Classical.byContradiction (fun hno => hne (Nat.eq_of_testBit_eq (fun k => ?_)))
    by_cases hk : k < 7
    · cases h1 : m.testBit k with
      | true => rw [hs k h1]
      | false =>
        cases h2 : t.testBit k with
        | false => rfl
        | true => exact absurd ⟨k, hk, h1, h2⟩ hno
    · have h2 : t.testBit k = false := Nat.testBit_lt_two_pow (Nat.lt_of_lt_of_le ht (Nat.pow_le_pow_right (by decide) (by omega) : 2 ^ 7 ≤ 2 ^ k))
      cases h1 : m.testBit k with
      | false => rw [h2]
      | true => rw [hs k h1] at h2; cases h2
  obtain ⟨k, hk, h1, h2⟩ := this
  exact cnt_strict (fun k _ hz => hs k hz) hk h1 h2
theorem lcut_sub {N : Nat} {fr to lf : Nat → Int} {x : Int} {t c : Nat} (m : Nat) : lcut N fr to lf x t c m = t ∨ (lcut N fr to lf x t c m < m ∧ lcut N fr to lf x t c m &&& t = lcut N fr to lf x t c m) := by
  induction m with
  | zero => exact Or.inl rfl
  | succ m ih =>
    simp only [lcut]
    split
    · rename_i h; exact Or.inr ⟨by omega, h.1⟩
    · rcases ih with h | h
      · exact Or.inl h
      · exact Or.inr ⟨by omega, h.2⟩
