/-! in which row to plug: along a row, the next end -/
theorem WV.lv {S : jS} {G : jG} {M : jM} {Q : jQ} {pc : Nat} {l1 l2 st : List jV} {h : jH} (e : l1 = l2) (k : WV S G M Q pc l1 st h) : WV S G M Q pc l2 st h := e ▸ k
/-- who talks at t, by ends -/
abbrev tk (e : Nat → Int) (t : Int) : Nat → Bool := fun k => decide (t < e k)
def canE (N : Nat) (fr to : Nat → Int) (x : Int) (e : Nat → Int) (t : Int) (c : Nat) : Bool := decide ((cnt (tk e t) N : Int) < x) && lfree fr to N (bt (tk e t) N) c
def pa1 (N : Nat) (fr to ln : Nat → Int) (x t : Int) (s : (Nat → Int) × Nat) (c : Nat) : (Nat → Int) × Nat := if s.1 c = 0 then (if canE N fr to x s.1 t c then (fun j => if j = c then t + ln c else s.1 j, s.2) else (s.1, s.2 + 1)) else s
def paN (N : Nat) (fr to ln : Nat → Int) (x t : Int) (row e : Nat → Int) : Nat → (Nat → Int) × Nat
  | 0 => (e, 0)
  | i + 1 => pa1 N fr to ln x t (paN N fr to ln x t row e i) (row i).toNat
theorem paN_le {N : Nat} {fr to ln : Nat → Int} {x t : Int} {row e : Nat → Int} {i : Nat} : (paN N fr to ln x t row e i).2 ≤ i := by
  induction i with
  | zero => simp [paN]
  | succ i ih =>
    simp only [paN, pa1]
    split
    · split
      · simp only; omega
      · simp only; omega
    · omega
/-- the lines of a call, as bits -/
def lb (fr to : Nat → Int) (c : Nat) : Nat := 2 ^ (fr c).toNat ||| 2 ^ (to c).toNat
theorem lb_tb {fr to : Nat → Int} {c j : Nat} : (lb fr to c).testBit j = (decide ((fr c).toNat = j) || decide ((to c).toNat = j)) := by
  unfold lb
  rw [Nat.testBit_or, Nat.testBit_two_pow, Nat.testBit_two_pow]
theorem lb_64 {fr to : Nat → Int} {c : Nat} (hf : 0 ≤ fr c ∧ fr c < 6) (ht : 0 ≤ to c ∧ to c < 6) : lb fr to c < 64 := by
  unfold lb
  refine Nat.or_lt_two_pow (n := 6) ?_ ?_
  · exact Nat.pow_lt_pow_right (by decide) (by omega)
  · exact Nat.pow_lt_pow_right (by decide) (by omega)
/-- the lines of those that talk -/
def msk (fr to : Nat → Int) (p : Nat → Bool) : Nat → Nat
  | 0 => 0
  | n + 1 => if p n then msk fr to p n ||| lb fr to n else msk fr to p n
theorem msk_64 {fr to : Nat → Int} {p : Nat → Bool} {N n : Nat} (hk : lok fr to N) (hn : n ≤ N) : msk fr to p n < 64 := by
  induction n with
  | zero => simp [msk]
  | succ n ih =>
    simp only [msk]
    split
    · exact Nat.or_lt_two_pow (n := 6) (ih (by omega)) (lb_64 (hk n (by omega)).1 (hk n (by omega)).2)
    · exact ih (by omega)
theorem msk_tb {fr to : Nat → Int} {p : Nat → Bool} {n j : Nat} : (msk fr to p n).testBit j = true ↔ ∃ c, c < n ∧ p c = true ∧ (lb fr to c).testBit j = true := by
  induction n with
  | zero => simp [msk]
  | succ n ih =>
    simp only [msk]
    by_cases hp : p n = true
    · rw [if_pos hp, Nat.testBit_or, Bool.or_eq_true, ih]
      constructor
      · rintro (⟨c, h1, h2, h3⟩ | h)
        · exact ⟨c, by omega, h2, h3⟩
        · exact ⟨n, by omega, hp, h⟩
      · rintro ⟨c, h1, h2, h3⟩
        by_cases e : c = n
        · rw [e] at h3; exact Or.inr h3
        · exact Or.inl ⟨c, by omega, h2, h3⟩
    · rw [if_neg hp, ih]
      constructor
      · rintro ⟨c, h1, h2, h3⟩
        exact ⟨c, by omega, h2, h3⟩
      · rintro ⟨c, h1, h2, h3⟩
        refine ⟨c, ?_, h2, h3⟩
        have : c ≠ n := fun z => hp (by rw [← z]; exact h2)
        omega
theorem msk_or {fr to : Nat → Int} {p q : Nat → Bool} {n c : Nat} (hc : c < n) (hq : ∀ k, q k = true ↔ (p k = true ∨ k = c)) : msk fr to p n ||| lb fr to c = msk fr to q n := by
  apply Nat.eq_of_testBit_eq
  intro j
  rw [Bool.eq_iff_iff, Nat.testBit_or, Bool.or_eq_true, msk_tb, msk_tb]
  constructor
  · rintro (⟨d, h1, h2, h3⟩ | h)
    · exact ⟨d, h1, (hq d).mpr (Or.inl h2), h3⟩
    · exact ⟨c, hc, (hq c).mpr (Or.inr rfl), h⟩
  · rintro ⟨d, h1, h2, h3⟩
    rcases (hq d).mp h2 with h | h
    · exact Or.inl ⟨d, h1, h, h3⟩
    · rw [h] at h3; exact Or.inr h3
theorem sh_iff {fr to : Nat → Int} {N a b : Nat} (hk : lok fr to N) (ha : a < N) (hb : b < N) : sh fr to a b = true ↔ ∃ j, (lb fr to a).testBit j = true ∧ (lb fr to b).testBit j = true := by
  have h1 := hk a ha
  have h2 := hk b hb
  simp only [sh, lb_tb, Bool.or_eq_true, beq_iff_eq, decide_eq_true_eq]
  constructor
  · rintro (((h | h) | h) | h)
    · exact ⟨_, Or.inl rfl, Or.inl (by rw [h])⟩
    · exact ⟨_, Or.inl rfl, Or.inr (by rw [h])⟩
    · exact ⟨_, Or.inr rfl, Or.inl (by rw [h])⟩
    · exact ⟨_, Or.inr rfl, Or.inr (by rw [h])⟩
  · rintro ⟨j, h3 | h3, h4 | h4⟩
    · exact Or.inl (Or.inl (Or.inl (by omega)))
    · exact Or.inl (Or.inl (Or.inr (by omega)))
    · exact Or.inl (Or.inr (by omega))
    · exact Or.inr (by omega)
/-- the lines of those who talk and of c don't meet: c's lines are free -/
theorem msk_free {fr to : Nat → Int} {p : Nat → Bool} {N c : Nat} (hk : lok fr to N) (h7 : N ≤ 7) (hc : c < N) : (msk fr to p N &&& lb fr to c = 0) ↔ lfree fr to N (bt p N) c = true := by
  unfold lfree
  rw [allb_iff]
  constructor
  · intro h o ho
    rw [bt_tb, decide_eq_true ho, Bool.true_and]
    cases hs : sh fr to c o with
    | false => simp
    | true =>
      obtain ⟨j, h1, h2⟩ := (sh_iff hk hc ho).mp hs
      cases hp : p o with
      | false => simp
      | true =>
        exfalso
        have : (msk fr to p N &&& lb fr to c).testBit j = true := by
          rw [Nat.testBit_and, h1, Bool.and_true, msk_tb]
          exact ⟨o, ho, hp, h2⟩
        rw [h] at this
        simp at this
  · intro h
    apply Nat.eq_of_testBit_eq
    intro j
    rw [Nat.zero_testBit]
    cases hb : (msk fr to p N &&& lb fr to c).testBit j with
    | false => rfl
    | true =>
      rw [Nat.testBit_and, Bool.and_eq_true, msk_tb] at hb
      obtain ⟨⟨o, ho, hp, h2⟩, h1⟩ := hb
      have := h o ho
      rw [bt_tb, decide_eq_true ho, hp, (sh_iff hk hc ho).mpr ⟨j, h1, h2⟩] at this
      cases this
theorem cnt_one {p q : Nat → Bool} {n c : Nat} (hc : c < n) (hp : p c = false) (hq : ∀ k, q k = true ↔ (p k = true ∨ k = c)) : cnt q n = cnt p n + 1 := by
  have h1 := cnt_set (p := p) (q := q) hc (fun k hk => by
    rw [Bool.eq_iff_iff, hq k]
    constructor
    · exact Or.inl
    · rintro (h | h)
      · exact h
      · exact absurd h hk)
  rw [hp, (hq c).mpr (Or.inr rfl)] at h1
  simp at h1
  omega
theorem ct_plugAlong {h : jH} {N n : Nat} (hN : h.1 2 2 = N) (h7 : N ≤ 7) (hk : lok (h.1 5) (h.1 6) N) (hn : h.1 33 3 = n) (hn7 : n ≤ 7) (hb : ∀ c, c < N → h.1 36 c = (lb (h.1 5) (h.1 6) c : Nat)) (hr : ∀ i, i < n → 0 ≤ h.1 34 i ∧ h.1 34 i < N) (hln : ∀ c, c < N → 1 ≤ h.1 7 c ∧ h.1 7 c ≤ 20) (hx : 1 ≤ h.1 2 1 ∧ h.1 2 1 ≤ 4) (t : Nat) (ht : t ≤ 1000) :
    CT Sx M_X5_plugAlong [jR 33, jI t] h (jPi fun r h' => r = ((paN N (h.1 5) (h.1 6) (h.1 7) (h.1 2 1) t (h.1 34) (h.1 38) n).2 : Nat) ∧ h' = upr h 38 (paN N (h.1 5) (h.1 6) (h.1 7) (h.1 2 1) t (h.1 34) (h.1 38) n).1) := by
  refine en_X5_plugAlong_33 (fun G => vc_X5_plugAlong_33_0 ?_)
  refine WV.lv ?_ (jf_fun N (fun c => [jR 33, jI t, jI (msk (h.1 5) (h.1 6) (tk (h.1 38) t) c : Nat), jI (h.1 2 1 - (cnt (tk (h.1 38) t) c : Nat)), jI (c : Nat), jU, jU]) (fun _ => h) (fun c hc k => ?_) ?_ 0 (Nat.zero_le _))
  · simp [msk, cnt]
  · have m1 := msk_64 (p := tk (h.1 38) t) hk (n := c) (by omega)
    have l1 := lb_64 (hk c hc).1 (hk c hc).2
    have c1 := cnt_le (tk (h.1 38) t) c
    refine vc_X5_plugAlong_33_13 ⟨fun q => absurd q (by omega), fun q => ⟨⟨by omega, by omega⟩, ?_⟩⟩
    rw [Int.toNat_natCast]
    refine ⟨fun e => ⟨⟨by omega, by omega⟩, ?_⟩, fun e => ⟨⟨by omega, by omega⟩, ⟨by omega, by omega⟩, ?_⟩⟩
    · have hp : tk (h.1 38) t c = false := decide_eq_false (by omega)
      have := k
      simp only [msk, cnt, hp] at this
      simpa using this
    · have hp : tk (h.1 38) t c = true := decide_eq_true (by omega)
      have := k
      simp only [msk, cnt, hp, if_true] at this
      rw [hb c hc, bn_or (by omega) (by omega)]
      rw [show h.1 2 1 - ((cnt (tk (h.1 38) t) c + 1 : Nat) : Int) = h.1 2 1 - ((cnt (tk (h.1 38) t) c : Nat) : Int) + -1 by omega] at this
      exact this
  · refine vc_X5_plugAlong_33_13 ⟨fun _ => ?_, fun q => absurd q (by omega)⟩
    -- along the row
    refine jf_loop n (fun i lv g => ∃ u, lv = [jR 33, jI t, jI (msk (h.1 5) (h.1 6) (tk (paN N (h.1 5) (h.1 6) (h.1 7) (h.1 2 1) t (h.1 34) (h.1 38) i).1 t) N : Nat), jI (h.1 2 1 - (cnt (tk (paN N (h.1 5) (h.1 6) (h.1 7) (h.1 2 1) t (h.1 34) (h.1 38) i).1 t) N : Nat)), jI ((paN N (h.1 5) (h.1 6) (h.1 7) (h.1 2 1) t (h.1 34) (h.1 38) i).2 : Nat), jI (i : Nat), u] ∧ g = upr h 38 (paN N (h.1 5) (h.1 6) (h.1 7) (h.1 2 1) t (h.1 34) (h.1 38) i).1) ?_ ?_ 0 (Nat.zero_le _) _ _ ⟨jU, rfl, (upr_id (fun _ => rfl)).symm⟩
    · rintro i hi lv g ⟨u, rfl, rfl⟩ k
      have hle := paN_le (N := N) (fr := h.1 5) (to := h.1 6) (ln := h.1 7) (x := h.1 2 1) (t := t) (row := h.1 34) (e := h.1 38) (i := i)
      simp only [paN] at k
      generalize paN N (h.1 5) (h.1 6) (h.1 7) (h.1 2 1) t (h.1 34) (h.1 38) i = s at hle k ⊢
      have r1 := hr i hi
      obtain ⟨c, hc⟩ : ∃ c : Nat, h.1 34 i = c := ⟨(h.1 34 i).toNat, by omega⟩
      have hcN : c < N := by omega
      have e33 : (upr h 38 s.1).1 33 3 = n := hn
      have e34 : (upr h 38 s.1).1 34 i = c := hc
      have e36 : (upr h 38 s.1).1 36 c = (lb (h.1 5) (h.1 6) c : Nat) := hb c hcN
      have e7 : (upr h 38 s.1).1 7 c = h.1 7 c := rfl
      have m1 := msk_64 (p := tk s.1 t) hk (Nat.le_refl N)
      have l1 := lb_64 (hk c hcN).1 (hk c hcN).2
      have c1 := cnt_le (tk s.1 t) N
      have ln1 := hln c hcN
      refine vc_X5_plugAlong_33_61 ⟨fun q => absurd q (by omega), fun q => ⟨⟨by omega, by omega⟩, ?_⟩⟩
      rw [Int.toNat_natCast, e34]
      rw [hc, Int.toNat_natCast] at k
      refine ⟨⟨by omega, by omega⟩, ?_⟩
      rw [Int.toNat_natCast, upr_same, e36, e7, bn_and (by omega), bn_or (by omega) (by omega), up_upr]
      refine ⟨fun e => ⟨fun e1 => ⟨⟨by omega, by omega⟩, ⟨by omega, by omega⟩, ?_⟩, fun e1 => ⟨fun e2 => ⟨⟨by omega, by omega⟩, ⟨by omega, by omega⟩, ⟨by omega, by omega⟩, ?_⟩, fun e2 => ⟨⟨by omega, by omega⟩, ⟨by omega, by omega⟩, ?_⟩⟩⟩, fun e => ⟨⟨by omega, by omega⟩, ?_⟩⟩
      · have hz : canE N (h.1 5) (h.1 6) (h.1 2 1) s.1 t c = false := by
          unfold canE
          rw [decide_eq_false (by omega)]
          rfl
        unfold pa1 at k
        rw [if_pos e, hz] at k
        exact k _ _ ⟨_, rfl, rfl⟩
      · have hz : canE N (h.1 5) (h.1 6) (h.1 2 1) s.1 t c = true := by
          unfold canE
          rw [decide_eq_true (by omega), (msk_free hk h7 hcN).mp (by omega)]
          rfl
        unfold pa1 at k
        rw [if_pos e, hz] at k
        refine k _ _ ⟨jI (c : Nat), ?_, rfl⟩
        have hq : ∀ j, tk (fun j => if j = c then (t : Int) + h.1 7 c else s.1 j) t j = true ↔ (tk s.1 t j = true ∨ j = c) := by
          intro j
          by_cases ej : j = c
          · subst ej
            simp
            omega
          · simp [ej]
        have hp : tk s.1 t c = false := decide_eq_false (by omega)
        simp only [if_true]
        rw [← msk_or hcN hq, cnt_one hcN hp hq]
        rw [show h.1 2 1 - ((cnt (tk s.1 t) N : Nat) : Int) + -1 = h.1 2 1 - ((cnt (tk s.1 t) N + 1 : Nat) : Int) by omega]
        rfl
      · have hz : canE N (h.1 5) (h.1 6) (h.1 2 1) s.1 t c = false := by
          unfold canE
          cases hl : lfree (h.1 5) (h.1 6) N (bt (tk s.1 t) N) c with
          | false => simp
          | true =>
            have := (msk_free hk h7 hcN).mpr hl
            omega
        unfold pa1 at k
        rw [if_pos e, hz] at k
        exact k _ _ ⟨_, rfl, rfl⟩
      · unfold pa1 at k
        rw [if_neg e] at k
        exact k _ _ ⟨_, rfl, rfl⟩
    · rintro lv g ⟨u, rfl, rfl⟩
      have e33 : (upr h 38 (paN N (h.1 5) (h.1 6) (h.1 7) (h.1 2 1) t (h.1 34) (h.1 38) n).1).1 33 3 = n := hn
      exact vc_X5_plugAlong_33_61 ⟨fun _ => ⟨_, rfl, rfl, rfl⟩, fun q => absurd q (by omega)⟩
/-- the first end behind t, 30 at most -/
def nen (e : Nat → Int) (t : Int) : Nat → Int
  | 0 => 30
  | n + 1 => if t < e n ∧ e n < nen e t n then e n else nen e t n
theorem nen_bd {e : Nat → Int} {t : Int} {n : Nat} (ht : t < 30) : t < nen e t n ∧ nen e t n ≤ 30 := by
  induction n with
  | zero => simp [nen]; exact ht
  | succ n ih =>
    simp only [nen]
    split <;> omega
theorem nen_min {e : Nat → Int} {t : Int} {n c : Nat} (hc : c < n) (he : t < e c) : nen e t n ≤ e c := by
  induction n with
  | zero => omega
  | succ n ih =>
    simp only [nen]
    by_cases ec : c = n
    · subst ec
      split <;> omega
    · have := ih (by omega)
      split <;> omega
theorem ct_nextEnd {h : jH} {N : Nat} (hN : h.1 2 2 = N) (h7 : N ≤ 7) (t : Int) : CF Sx M_X5_nextEnd [jR 33, jI t] h (nen (h.1 38) t N) := by
  refine en_X5_nextEnd_33 (fun G => vc_X5_nextEnd_33_0 ?_)
  refine jf_fun N (fun c => [jR 33, jI t, jI (nen (h.1 38) t c), jI (c : Nat)]) (fun _ => h) (fun c hc k => ?_) ?_ 0 (Nat.zero_le _)
  · refine vc_X5_nextEnd_33_5 ⟨fun q => absurd q (by omega), fun q => ⟨⟨by omega, by omega⟩, ?_⟩⟩
    rw [Int.toNat_natCast]
    simp only [nen] at k
    refine ⟨fun e => ⟨⟨by omega, by omega⟩, ?_⟩, fun e => ⟨fun e1 => ⟨⟨by omega, by omega⟩, ?_⟩, fun e1 => ⟨⟨by omega, by omega⟩, ?_⟩⟩⟩
    · rw [if_neg (by omega)] at k; exact k
    · rw [if_neg (by omega)] at k; exact k
    · rw [if_pos (by omega)] at k; exact k
  · exact vc_X5_nextEnd_33_5 ⟨fun q => ⟨_, rfl, rfl, rfl⟩, fun q => absurd q (by omega)⟩
