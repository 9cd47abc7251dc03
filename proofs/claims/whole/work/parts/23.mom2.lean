/-! contracts of the class: sums, cuts, crossings, keeping -/
/-- the sum of f over the numbers below n of a kind -/
def sm (p : Nat → Bool) (f : Nat → Int) : Nat → Int
  | 0 => 0
  | n + 1 => sm p f n + (if p n then f n else 0)
theorem sm_bd {p : Nat → Bool} {f : Nat → Int} {n : Nat} {B : Int} (hB : 0 ≤ B) (h : ∀ c, c < n → -B ≤ f c ∧ f c ≤ B) : -(B * n) ≤ sm p f n ∧ sm p f n ≤ B * n := by
  induction n with
  | zero => simp [sm]
  | succ n ih =>
    have h1 := ih (fun c hc => h c (by omega))
    have h2 := h n (by omega)
    have h3 : B * ((n + 1 : Nat) : Int) = B * n + B := by rw [Int.natCast_add, Int.mul_add]; simp
    simp only [sm]
    rw [h3]
    split <;> omega
theorem sm_congr {p q : Nat → Bool} {f g : Nat → Int} {n : Nat} (h : ∀ k, k < n → p k = q k ∧ (p k = true → f k = g k)) : sm p f n = sm q g n := by
  induction n with
  | zero => rfl
  | succ n ih =>
    simp only [sm]
    rw [ih (fun k hk => h k (by omega))]
    have := h n (by omega)
    rw [← this.1]
    split
    · rw [this.2 (by assumption)]
    · rfl
theorem b_has1 {s k : Nat} (hs : s < 128) (hk : k < 7) : b_and (b_shr s k) 1 = 1 ↔ s.testBit k = true := by
  rw [b_has s hs k hk]
  cases s.testBit k <;> simp
theorem ct_sumOf_17_21 {h : jH} {N : Nat} (hN : h.1 2 2 = N) (h7 : N ≤ 7) (s : Nat) (hs : s < 128) (hb : ∀ c, c < N → -100000 ≤ h.1 21 c ∧ h.1 21 c ≤ 100000) : CF Sx M_X2_sumOf [jR 17, jR 21, jI s] h (sm (fun k => s.testBit k) (h.1 21) N) := by
  refine en_X2_sumOf_17_21 (fun G => vc_X2_sumOf_17_21_0 ?_)
  refine jf_fun N (fun c => [jR 17, jR 21, jI s, jI (sm (fun k => s.testBit k) (h.1 21) c), jI (c : Nat)]) (fun _ => h) (fun c hc k => ?_) ?_ 0 (Nat.zero_le _)
  · have b1 := sm_bd (p := fun k => s.testBit k) (n := c) (B := 100000) (by decide) (fun k hk => hb k (by omega))
    have b2 := hb c hc
    refine vc_X2_sumOf_17_21_5 ⟨fun q => absurd q (by omega), fun q => ⟨fun e => ⟨⟨by omega, by omega⟩, ⟨?_, ?_⟩, ⟨by omega, by omega⟩, ?_⟩, fun e => ⟨⟨by omega, by omega⟩, ?_⟩⟩⟩
    · rw [Int.toNat_natCast]; omega
    · rw [Int.toNat_natCast]; omega
    · rw [b_has1 hs (by omega)] at e
      have := k
      simp only [sm, e, if_true] at this
      exact this
    · rw [b_has1 hs (by omega)] at e
      have := k
      simp only [sm, e] at this
      simpa using this
  · exact vc_X2_sumOf_17_21_5 ⟨fun q => ⟨_, rfl, rfl, rfl⟩, fun q => absurd q (by omega)⟩
theorem ct_sumOf_28_32 {h : jH} {N : Nat} (hN : h.1 2 2 = N) (h7 : N ≤ 7) (s : Nat) (hs : s < 128) (hb : ∀ c, c < N → -100000 ≤ h.1 32 c ∧ h.1 32 c ≤ 100000) : CF Sx M_X2_sumOf [jR 28, jR 32, jI s] h (sm (fun k => s.testBit k) (h.1 32) N) := by
  refine en_X2_sumOf_28_32 (fun G => vc_X2_sumOf_28_32_0 ?_)
  refine jf_fun N (fun c => [jR 28, jR 32, jI s, jI (sm (fun k => s.testBit k) (h.1 32) c), jI (c : Nat)]) (fun _ => h) (fun c hc k => ?_) ?_ 0 (Nat.zero_le _)
  · have b1 := sm_bd (p := fun k => s.testBit k) (n := c) (B := 100000) (by decide) (fun k hk => hb k (by omega))
    have b2 := hb c hc
    refine vc_X2_sumOf_28_32_5 ⟨fun q => absurd q (by omega), fun q => ⟨fun e => ⟨⟨by omega, by omega⟩, ⟨?_, ?_⟩, ⟨by omega, by omega⟩, ?_⟩, fun e => ⟨⟨by omega, by omega⟩, ?_⟩⟩⟩
    · rw [Int.toNat_natCast]; omega
    · rw [Int.toNat_natCast]; omega
    · rw [b_has1 hs (by omega)] at e
      have := k
      simp only [sm, e, if_true] at this
      exact this
    · rw [b_has1 hs (by omega)] at e
      have := k
      simp only [sm, e] at this
      simpa using this
  · exact vc_X2_sumOf_28_32_5 ⟨fun q => ⟨_, rfl, rfl, rfl⟩, fun q => absurd q (by omega)⟩
theorem ct_sumOf_17_20 {h : jH} {N : Nat} (hN : h.1 2 2 = N) (h7 : N ≤ 7) (s : Nat) (hs : s < 128) (hb : ∀ c, c < N → -100000 ≤ h.1 20 c ∧ h.1 20 c ≤ 100000) : CF Sx M_X2_sumOf [jR 17, jR 20, jI s] h (sm (fun k => s.testBit k) (h.1 20) N) := by
  refine en_X2_sumOf_17_20 (fun G => vc_X2_sumOf_17_20_0 ?_)
  refine jf_fun N (fun c => [jR 17, jR 20, jI s, jI (sm (fun k => s.testBit k) (h.1 20) c), jI (c : Nat)]) (fun _ => h) (fun c hc k => ?_) ?_ 0 (Nat.zero_le _)
  · have b1 := sm_bd (p := fun k => s.testBit k) (n := c) (B := 100000) (by decide) (fun k hk => hb k (by omega))
    have b2 := hb c hc
    refine vc_X2_sumOf_17_20_5 ⟨fun q => absurd q (by omega), fun q => ⟨fun e => ⟨⟨by omega, by omega⟩, ⟨?_, ?_⟩, ⟨by omega, by omega⟩, ?_⟩, fun e => ⟨⟨by omega, by omega⟩, ?_⟩⟩⟩
    · rw [Int.toNat_natCast]; omega
    · rw [Int.toNat_natCast]; omega
    · rw [b_has1 hs (by omega)] at e
      have := k
      simp only [sm, e, if_true] at this
      exact this
    · rw [b_has1 hs (by omega)] at e
      have := k
      simp only [sm, e] at this
      simpa using this
  · exact vc_X2_sumOf_17_20_5 ⟨fun q => ⟨_, rfl, rfl, rfl⟩, fun q => absurd q (by omega)⟩
theorem ct_waitedOf_17 {h : jH} {N : Nat} (hN : h.1 2 2 = N) (h7 : N ≤ 7) (s : Nat) (hs : s < 128) (hb : ∀ c, c < N → -100000 ≤ h.1 21 c ∧ h.1 21 c ≤ 100000) : CF Sx M_X2_waitedOf [jR 17, jI s] h (sm (fun k => s.testBit k) (h.1 21) N) := by
  refine en_X2_waitedOf_17 (fun G => vc_X2_waitedOf_17_0 ⟨_, ct_sumOf_17_21 hN h7 s hs hb, ?_⟩)
  rintro _ _ ⟨rfl, rfl⟩
  exact ⟨_, rfl, rfl, rfl⟩
theorem ct_waitedOf_28 {h : jH} {N : Nat} (hN : h.1 2 2 = N) (h7 : N ≤ 7) (s : Nat) (hs : s < 128) (hb : ∀ c, c < N → -100000 ≤ h.1 32 c ∧ h.1 32 c ≤ 100000) : CF Sx M_X2_waitedOf [jR 28, jI s] h (sm (fun k => s.testBit k) (h.1 32) N) := by
  refine en_X2_waitedOf_28 (fun G => vc_X2_waitedOf_28_0 ⟨_, ct_sumOf_28_32 hN h7 s hs hb, ?_⟩)
  rintro _ _ ⟨rfl, rfl⟩
  exact ⟨_, rfl, rfl, rfl⟩
theorem ct_leftOf {h : jH} {N : Nat} (hN : h.1 2 2 = N) (h7 : N ≤ 7) (s : Nat) (hs : s < 128) (hb : ∀ c, c < N → -100000 ≤ h.1 20 c ∧ h.1 20 c ≤ 100000) : CF Sx M_X2_leftOf [jR 17, jI s] h (sm (fun k => s.testBit k) (h.1 20) N) := by
  refine en_X2_leftOf_17 (fun G => vc_X2_leftOf_17_0 ⟨_, ct_sumOf_17_20 hN h7 s hs hb, ?_⟩)
  rintro _ _ ⟨rfl, rfl⟩
  exact ⟨_, rfl, rfl, rfl⟩
/-- fewer are cut, or as few with less left -/
def cless (N : Nat) (lf : Nat → Int) (a b : Nat) : Bool := decide (cnt (fun k => a.testBit k) 7 < cnt (fun k => b.testBit k) 7) || (decide (cnt (fun k => a.testBit k) 7 = cnt (fun k => b.testBit k) 7) && decide (sm (fun k => a.testBit k) lf N < sm (fun k => b.testBit k) lf N))
theorem ct_cutsLess {h : jH} {N : Nat} (hN : h.1 2 2 = N) (h7 : N ≤ 7) (a b : Nat) (ha : a < 128) (hb : b < 128) (hl : ∀ c, c < N → -100000 ≤ h.1 20 c ∧ h.1 20 c ≤ 100000) : CF Sx M_X2_cutsLess [jR 17, jI a, jI b] h (bi (cless N (h.1 20) a b)) := by
  refine en_X2_cutsLess_17 (fun G => vc_X2_cutsLess_17_0 ⟨_, ct_bitCount b hb, ?_⟩)
  rintro _ _ ⟨rfl, rfl⟩
  refine ⟨_, ct_bitCount a ha, ?_⟩
  rintro _ _ ⟨rfl, rfl⟩
  have c1 := cnt_le (fun k => a.testBit k) 7
  have c2 := cnt_le (fun k => b.testBit k) 7
  refine ⟨⟨by omega, by omega⟩, fun e => ⟨_, rfl, ?_, rfl⟩, fun e => ⟨fun e2 => ⟨_, ct_leftOf hN h7 a ha hl, ?_⟩, fun e2 => ⟨_, rfl, ?_, rfl⟩⟩⟩
  · unfold cless
    rw [decide_eq_true (by omega)]
    rfl
  · rintro _ _ ⟨rfl, rfl⟩
    refine ⟨_, ct_leftOf hN h7 b hb hl, ?_⟩
    rintro _ _ ⟨rfl, rfl⟩
    unfold cless
    rw [decide_eq_false (p := cnt (fun k => a.testBit k) 7 < cnt (fun k => b.testBit k) 7) (by omega), decide_eq_true (p := cnt (fun k => a.testBit k) 7 = cnt (fun k => b.testBit k) 7) (by omega)]
    refine ⟨fun e3 => ⟨_, rfl, ?_, rfl⟩, fun e3 => ⟨_, rfl, ?_, rfl⟩⟩
    · rw [decide_eq_false (by omega)]; rfl
    · rw [decide_eq_true (by omega)]; rfl
  · unfold cless
    rw [decide_eq_false (p := cnt (fun k => a.testBit k) 7 < cnt (fun k => b.testBit k) 7) (by omega), decide_eq_false (p := cnt (fun k => a.testBit k) 7 = cnt (fun k => b.testBit k) 7) (by omega)]
    rfl
/-- the sets below m, one behind another: the best that has room -/
def lcut (N : Nat) (fr to : Nat → Int) (lf : Nat → Int) (x : Int) (t c : Nat) : Nat → Nat
  | 0 => t
  | m + 1 => let b := lcut N fr to lf x t c m
    if m &&& t = m ∧ (cnt (fun k => (t ^^^ m).testBit k) 7 : Int) < x ∧ lfree fr to N (t ^^^ m) c = true ∧ cless N lf m b = true then m else b
theorem b_diff : ∀ t : Nat, t < 128 → ∀ m : Nat, m < 128 → m &&& t = m → b_and t (b_xor m (-1)) = ((t ^^^ m : Nat) : Int) := by decide +kernel
theorem xor_128 {a b : Nat} (ha : a < 128) (hb : b < 128) : a ^^^ b < 128 := Nat.xor_lt_two_pow (n := 7) ha hb
theorem lcut_128 {N : Nat} {fr to lf : Nat → Int} {x : Int} {t c m : Nat} (ht : t < 128) (hm : m ≤ 128) : lcut N fr to lf x t c m < 128 := by
  induction m with
  | zero => exact ht
  | succ m ih =>
    simp only [lcut]
    split
    · omega
    · exact ih (by omega)
theorem ct_leastCut {h : jH} {N : Nat} (hN : h.1 2 2 = N) (h7 : N ≤ 7) (c : Nat) (hc : c < 7) (hl : ∀ c, c < N → -100000 ≤ h.1 20 c ∧ h.1 20 c ≤ 100000) : CF Sx M_X2_leastCut [jR 17, jI c] h (lcut N (h.1 5) (h.1 6) (h.1 20) (h.1 2 1) (bt (fun k => h.1 19 k == 2) N) c (bt (fun k => h.1 19 k == 2) N) : Nat) := by
  refine en_X2_leastCut_17 (fun G => vc_X2_leastCut_17_0 ⟨_, ct_those_17 hN h7 2, ?_⟩)
  rintro _ _ ⟨rfl, rfl⟩
  rename_i h
  have ht : bt (fun k => h.1 19 k == 2) N < 128 := bt_128 h7
  generalize bt (fun k => h.1 19 k == 2) N = t at ht ⊢
  refine jf_loop t (fun m lv h' => h' = h ∧ ∃ u, lv = [jR 17, jI c, jI t, jI (lcut N (h.1 5) (h.1 6) (h.1 20) (h.1 2 1) t c m : Nat), jI (m : Nat), u]) ?_ ?_ 0 (Nat.zero_le _) _ _ ⟨rfl, _, rfl⟩
  · rintro m hm lv h' ⟨rfl, u, rfl⟩ k
    have hb := lcut_128 (N := N) (fr := h'.1 5) (to := h'.1 6) (lf := h'.1 20) (x := h'.1 2 1) (c := c) (m := m) ht (by omega)
    refine vc_X2_leastCut_17_11 ⟨fun q => absurd q (by omega), fun q => ?_⟩
    rw [bn_and (by omega)]
    refine ⟨fun e => ?_, fun e => ⟨⟨by omega, by omega⟩, k _ _ ⟨rfl, jI 0, ?_⟩⟩⟩
    · have e : m &&& t = m := by omega
      rw [b_diff t ht m (by omega) e]
      refine ⟨_, ct_hasRoom_17 hN h7 c _ _ hc (xor_128 ht (by omega)), ?_⟩
      rintro _ _ ⟨rfl, rfl⟩
      refine ⟨fun z => ⟨⟨by omega, by omega⟩, k _ _ ⟨rfl, jI 1, ?_⟩⟩, fun z => ⟨_, ct_cutsLess hN h7 m _ (by omega) hb hl, ?_⟩⟩
      · rw [bi_0] at z
        simp only [lcut]
        rw [if_neg]
        · rfl
        · rintro ⟨-, z1, z2, -⟩
          rw [z2, decide_eq_true z1] at z
          cases z
      · rintro _ _ ⟨rfl, rfl⟩
        rw [bi_0] at z
        have z := (Bool.not_eq_false _).mp z
        rw [Bool.and_eq_true, decide_eq_true_eq] at z
        refine ⟨fun z2 => ⟨⟨by omega, by omega⟩, k _ _ ⟨rfl, jI 1, ?_⟩⟩, fun z2 => ⟨⟨by omega, by omega⟩, k _ _ ⟨rfl, jI 1, ?_⟩⟩⟩
        · rw [bi_0] at z2
          simp only [lcut]
          rw [if_neg (fun w => by rw [w.2.2.2] at z2; cases z2)]
          rfl
        · rw [bi_0] at z2
          have z2 := (Bool.not_eq_false _).mp z2
          simp only [lcut]
          rw [if_pos ⟨e, z.1, z.2, z2⟩]
          rfl
    · simp only [lcut]
      rw [if_neg (fun w => e (by rw [w.1]))]
      rfl
  · rintro lv h' ⟨rfl, u, rfl⟩
    exact vc_X2_leastCut_17_11 ⟨fun q => ⟨_, rfl, rfl, rfl⟩, fun q => absurd q (by omega)⟩
/-! crossings -/
/-- hole x lies between those of call c -/
def btw (ho fr to : Nat → Int) (c : Nat) (x : Int) : Bool := decide (min (ho (fr c).toNat) (ho (to c).toNat) < x) && decide (x < max (ho (fr c).toNat) (ho (to c).toNat))
def crs (ho fr to : Nat → Int) (a b : Nat) : Bool := !sh fr to a b && (btw ho fr to a (ho (fr b).toNat) != btw ho fr to a (ho (to b).toNat))
theorem ct_isBetween {h : jH} (c : Nat) (x : Int) (hc : c < 7) (hf : 0 ≤ h.1 5 c ∧ h.1 5 c < 6) (ht : 0 ≤ h.1 6 c ∧ h.1 6 c < 6) : CF Sx M_X2_isBetween [jR 17, jI c, jI x] h (bi (btw (h.1 18) (h.1 5) (h.1 6) c x)) := by
  refine en_X2_isBetween_17 (fun G => vc_X2_isBetween_17_0 ?_)
  simp only [Int.toNat_natCast]
  refine ⟨⟨by omega, by omega⟩, hf, ht, fun e => ⟨_, rfl, ?_, rfl⟩, fun e => ⟨fun e2 => ⟨_, rfl, ?_, rfl⟩, fun e2 => ⟨_, rfl, ?_, rfl⟩⟩⟩
  · unfold btw; rw [decide_eq_false (by omega)]; rfl
  · unfold btw; rw [decide_eq_false (p := x < _) (by omega), Bool.and_false]; rfl
  · unfold btw; rw [decide_eq_true (by omega), decide_eq_true (by omega)]; rfl
theorem ct_cross {h : jH} (a b : Nat) (ha : a < 7) (hb : b < 7) (hf : 0 ≤ h.1 5 a ∧ h.1 5 a < 6) (ht : 0 ≤ h.1 6 a ∧ h.1 6 a < 6) (hf2 : 0 ≤ h.1 5 b ∧ h.1 5 b < 6) (ht2 : 0 ≤ h.1 6 b ∧ h.1 6 b < 6) : CF Sx M_X2_cross [jR 17, jI a, jI b] h (bi (crs (h.1 18) (h.1 5) (h.1 6) a b)) := by
  refine en_X2_cross_17 (fun G => vc_X2_cross_17_0 ⟨_, ct_shareLine a b ha hb, ?_⟩)
  rintro _ _ ⟨rfl, rfl⟩
  simp only [Int.toNat_natCast]
  refine ⟨fun e => ⟨⟨by omega, by omega⟩, hf2, _, ct_isBetween a _ ha hf ht, ?_⟩, fun e => ⟨_, rfl, ?_, rfl⟩⟩
  · rintro _ _ ⟨rfl, rfl⟩
    refine ⟨ht2, _, ct_isBetween a _ ha hf ht, ?_⟩
    rintro _ _ ⟨rfl, rfl⟩
    rw [bi_0] at e
    unfold crs
    rw [e]
    refine ⟨fun z => ⟨_, rfl, ?_, rfl⟩, fun z => ⟨_, rfl, ?_, rfl⟩⟩
    · revert z
      cases btw _ _ _ _ _ <;> cases btw _ _ _ _ _ <;> simp [bi]
    · revert z
      cases btw _ _ _ _ _ <;> cases btw _ _ _ _ _ <;> simp [bi]
  · rw [bi_0] at e
    unfold crs
    rw [(Bool.not_eq_false _).mp e]
    rfl
/-- the lines of calls are lines -/
def lok (fr to : Nat → Int) (N : Nat) : Prop := ∀ c, c < N → (0 ≤ fr c ∧ fr c < 6) ∧ (0 ≤ to c ∧ to c < 6)
theorem ct_crossedBy {h : jH} {N : Nat} (hN : h.1 2 2 = N) (h7 : N ≤ 7) (hk : lok (h.1 5) (h.1 6) N) (c : Nat) (hc : c < N) : CF Sx M_X2_crossedBy [jR 17, jI c] h (bt (fun o => h.1 19 o == 2 && crs (h.1 18) (h.1 5) (h.1 6) c o) N : Nat) := by
  refine en_X2_crossedBy_17 (fun G => vc_X2_crossedBy_17_0 ?_)
  refine jf_fun N (fun o => [jR 17, jI c, jI (bt (fun o => h.1 19 o == 2 && crs (h.1 18) (h.1 5) (h.1 6) c o) o : Nat), jI (o : Nat)]) (fun _ => h) (fun o ho k => ?_) ?_ 0 (Nat.zero_le _)
  · refine vc_X2_crossedBy_17_4 ⟨fun q => absurd q (by omega), fun q => ⟨⟨by omega, by omega⟩, fun e => ⟨_, ct_cross c o (by omega) (by omega) (hk c hc).1 (hk c hc).2 (hk o ho).1 (hk o ho).2, ?_⟩, fun e => ⟨⟨by omega, by omega⟩, ?_⟩⟩⟩
    · rintro _ _ ⟨rfl, rfl⟩
      rw [Int.toNat_natCast] at e
      refine ⟨fun z => ⟨⟨by omega, by omega⟩, ?_⟩, fun z => ⟨⟨by omega, by omega⟩, ?_⟩⟩
      · rw [bi_0] at z
        have := k
        simp only [bt, e, z] at this
        simpa using this
      · rw [bi_0] at z
        rw [bt_or (by omega) (by simp [e, z])]
        exact k
    · rw [Int.toNat_natCast] at e
      have := k
      have e : (h.1 19 o == 2) = false := by simpa using e
      simp only [bt, e] at this
      simpa using this
  · exact vc_X2_crossedBy_17_4 ⟨fun q => ⟨_, rfl, rfl, rfl⟩, fun q => absurd q (by omega)⟩
/-- how many times a cord of one who talks meets another's -/
def crn (ho fr to hw : Nat → Int) (N : Nat) : Nat → Nat
  | 0 => 0
  | n + 1 => crn ho fr to hw N n + (if hw n == 2 then cnt (fun o => hw o == 2 && crs ho fr to n o) N else 0)
theorem crn_le {ho fr to hw : Nat → Int} {N n : Nat} : crn ho fr to hw N n ≤ n * N := by
  induction n with
  | zero => simp [crn]
  | succ n ih =>
    simp only [crn]
    have := cnt_le (fun o => hw o == 2 && crs ho fr to n o) N
    rw [Nat.succ_mul]
    split <;> omega
theorem ct_crossings {h : jH} {N : Nat} (hN : h.1 2 2 = N) (h7 : N ≤ 7) (hk : lok (h.1 5) (h.1 6) N) : CF Sx M_X2_crossings [jR 17] h ((crn (h.1 18) (h.1 5) (h.1 6) (h.1 19) N N / 2 : Nat) : Int) := by
  refine en_X2_crossings_17 (fun G => vc_X2_crossings_17_0 ?_)
  refine jf_fun N (fun o => [jR 17, jI (crn (h.1 18) (h.1 5) (h.1 6) (h.1 19) N o : Nat), jI (o : Nat)]) (fun _ => h) (fun o ho k => ?_) ?_ 0 (Nat.zero_le _)
  · have b1 := crn_le (ho := h.1 18) (fr := h.1 5) (to := h.1 6) (hw := h.1 19) (N := N) (n := o)
    have b2 : o * N ≤ 7 * 7 := Nat.mul_le_mul (by omega) h7
    refine vc_X2_crossings_17_4 ⟨fun q => absurd q (by omega), fun q => ⟨⟨by omega, by omega⟩, fun e => ⟨_, ct_crossedBy hN h7 hk o ho, ?_⟩, fun e => ⟨⟨by omega, by omega⟩, ?_⟩⟩⟩
    · rintro _ _ ⟨rfl, rfl⟩
      refine ⟨_, ct_bitCount _ (bt_128 h7), ?_⟩
      rintro _ _ ⟨rfl, rfl⟩
      rename_i h
      rw [cnt_bt h7]
      rw [Int.toNat_natCast] at e
      have b3 := cnt_le (fun o' => h.1 19 o' == 2 && crs (h.1 18) (h.1 5) (h.1 6) o o') N
      refine ⟨⟨by omega, by omega⟩, ⟨by omega, by omega⟩, ?_⟩
      have := k
      simp only [crn, e] at this
      simpa using this
    · rw [Int.toNat_natCast] at e
      have e : (h.1 19 o == 2) = false := by simpa using e
      have := k
      simp only [crn, e] at this
      simpa using this
  · refine vc_X2_crossings_17_4 ⟨fun q => ⟨_, rfl, ?_, rfl⟩, fun q => absurd q (by omega)⟩
    rw [Int.tdiv_eq_ediv_of_nonneg (by omega)]
    omega
