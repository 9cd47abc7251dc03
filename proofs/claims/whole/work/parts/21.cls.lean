/-! contracts of the class: sets, lines, cords -/
abbrev CF (S : jS) (M : jM) (av : List jV) (h : jH) (r : Int) : Prop := CT S M av h (jPi fun x h' => x = r ∧ h' = h)
def bi (b : Bool) : Int := if b then 1 else 0
theorem bi_0 {b : Bool} : bi b = 0 ↔ b = false := by cases b <;> simp [bi]
theorem bi_1 {b : Bool} : bi b = 1 ↔ b = true := by cases b <;> simp [bi]
def allb (p : Nat → Bool) : Nat → Bool
  | 0 => true
  | n + 1 => allb p n && p n
theorem allb_iff {p : Nat → Bool} {n : Nat} : allb p n = true ↔ ∀ k, k < n → p k = true := by
  induction n with
  | zero => simp [allb]
  | succ n ih =>
    simp only [allb, Bool.and_eq_true, ih]
    constructor
    · intro h k hk
      by_cases e : k = n
      · rw [e]; exact h.2
      · exact h.1 k (by omega)
    · intro h
      exact ⟨fun k hk => h k (by omega), h n (by omega)⟩
theorem allb_no {p : Nat → Bool} {n k : Nat} (hk : k < n) (h : p k = false) : allb p n = false := by
  cases hb : allb p n with
  | false => rfl
  | true => rw [allb_iff.mp hb k hk] at h; cases h
theorem allb_s {p : Nat → Bool} {n : Nat} (h : allb p n = true) (hp : p n = true) : allb p (n + 1) = true := by simp only [allb, h, hp]; rfl
theorem allb_congr {p q : Nat → Bool} {n : Nat} (h : ∀ k, k < n → p k = q k) : allb p n = allb q n := by
  induction n with
  | zero => rfl
  | succ n ih => simp only [allb]; rw [ih (fun k hk => h k (by omega)), h n (by omega)]
/-- two calls have a line in common -/
def sh (fr to : Nat → Int) (a b : Nat) : Bool := fr a == fr b || fr a == to b || to a == fr b || to a == to b
/-- of these who talk none shares a line with c -/
def lfree (fr to : Nat → Int) (N t c : Nat) : Bool := allb (fun o => !(t.testBit o && sh fr to c o)) N
/-- the first below n of a kind -/
def fst_ (p : Nat → Bool) : Nat → Option Nat
  | 0 => none
  | n + 1 => (fst_ p n).or (if p n then some n else none)
def onI (o : Option Nat) : Int := match o with
  | none => -9
  | some k => (k : Int)
theorem fst_none {p : Nat → Bool} {n : Nat} : fst_ p n = none ↔ ∀ k, k < n → p k = false := by
  induction n with
  | zero => simp [fst_]
  | succ n ih =>
    simp only [fst_, Option.or_eq_none_iff, ih]
    constructor
    · intro h k hk
      by_cases e : k = n
      · subst e
        have := h.2
        split at this
        · cases this
        · simpa using ‹¬ p k = true›
      · exact h.1 k (by omega)
    · intro h
      exact ⟨fun k hk => h k (by omega), by rw [h n (by omega)]; rfl⟩
theorem fst_at {p : Nat → Bool} {n k : Nat} (hk : k < n) (hp : p k = true) (hn : ∀ j, j < k → p j = false) : fst_ p n = some k := by
  induction n with
  | zero => omega
  | succ n ih =>
    simp only [fst_]
    by_cases e : k = n
    · subst e
      rw [fst_none.mpr hn, hp]
      rfl
    · rw [ih (by omega)]
      rfl
theorem bc_all : ∀ s : Nat, s < 128 → (fun x0 : Int => (j_rg (x0 - (b_and (b_ushr x0 1) 1431655765))) ∧ ((j_rg ((b_and (x0 - (b_and (b_ushr x0 1) 1431655765)) 858993459) + (b_and (b_ushr (x0 - (b_and (b_ushr x0 1) 1431655765)) 2) 858993459))) ∧ ((j_rg (((b_and (x0 - (b_and (b_ushr x0 1) 1431655765)) 858993459) + (b_and (b_ushr (x0 - (b_and (b_ushr x0 1) 1431655765)) 2) 858993459)) + (b_ushr ((b_and (x0 - (b_and (b_ushr x0 1) 1431655765)) 858993459) + (b_and (b_ushr (x0 - (b_and (b_ushr x0 1) 1431655765)) 2) 858993459)) 4))) ∧ ((j_rg ((b_and (((b_and (x0 - (b_and (b_ushr x0 1) 1431655765)) 858993459) + (b_and (b_ushr (x0 - (b_and (b_ushr x0 1) 1431655765)) 2) 858993459)) + (b_ushr ((b_and (x0 - (b_and (b_ushr x0 1) 1431655765)) 858993459) + (b_and (b_ushr (x0 - (b_and (b_ushr x0 1) 1431655765)) 2) 858993459)) 4)) 252645135) + (b_ushr (b_and (((b_and (x0 - (b_and (b_ushr x0 1) 1431655765)) 858993459) + (b_and (b_ushr (x0 - (b_and (b_ushr x0 1) 1431655765)) 2) 858993459)) + (b_ushr ((b_and (x0 - (b_and (b_ushr x0 1) 1431655765)) 858993459) + (b_and (b_ushr (x0 - (b_and (b_ushr x0 1) 1431655765)) 2) 858993459)) 4)) 252645135) 8))) ∧ ((j_rg (((b_and (((b_and (x0 - (b_and (b_ushr x0 1) 1431655765)) 858993459) + (b_and (b_ushr (x0 - (b_and (b_ushr x0 1) 1431655765)) 2) 858993459)) + (b_ushr ((b_and (x0 - (b_and (b_ushr x0 1) 1431655765)) 858993459) + (b_and (b_ushr (x0 - (b_and (b_ushr x0 1) 1431655765)) 2) 858993459)) 4)) 252645135) + (b_ushr (b_and (((b_and (x0 - (b_and (b_ushr x0 1) 1431655765)) 858993459) + (b_and (b_ushr (x0 - (b_and (b_ushr x0 1) 1431655765)) 2) 858993459)) + (b_ushr ((b_and (x0 - (b_and (b_ushr x0 1) 1431655765)) 858993459) + (b_and (b_ushr (x0 - (b_and (b_ushr x0 1) 1431655765)) 2) 858993459)) 4)) 252645135) 8)) + (b_ushr ((b_and (((b_and (x0 - (b_and (b_ushr x0 1) 1431655765)) 858993459) + (b_and (b_ushr (x0 - (b_and (b_ushr x0 1) 1431655765)) 2) 858993459)) + (b_ushr ((b_and (x0 - (b_and (b_ushr x0 1) 1431655765)) 858993459) + (b_and (b_ushr (x0 - (b_and (b_ushr x0 1) 1431655765)) 2) 858993459)) 4)) 252645135) + (b_ushr (b_and (((b_and (x0 - (b_and (b_ushr x0 1) 1431655765)) 858993459) + (b_and (b_ushr (x0 - (b_and (b_ushr x0 1) 1431655765)) 2) 858993459)) + (b_ushr ((b_and (x0 - (b_and (b_ushr x0 1) 1431655765)) 858993459) + (b_and (b_ushr (x0 - (b_and (b_ushr x0 1) 1431655765)) 2) 858993459)) 4)) 252645135) 8)) 16))) ∧ ((b_and (((b_and (((b_and (x0 - (b_and (b_ushr x0 1) 1431655765)) 858993459) + (b_and (b_ushr (x0 - (b_and (b_ushr x0 1) 1431655765)) 2) 858993459)) + (b_ushr ((b_and (x0 - (b_and (b_ushr x0 1) 1431655765)) 858993459) + (b_and (b_ushr (x0 - (b_and (b_ushr x0 1) 1431655765)) 2) 858993459)) 4)) 252645135) + (b_ushr (b_and (((b_and (x0 - (b_and (b_ushr x0 1) 1431655765)) 858993459) + (b_and (b_ushr (x0 - (b_and (b_ushr x0 1) 1431655765)) 2) 858993459)) + (b_ushr ((b_and (x0 - (b_and (b_ushr x0 1) 1431655765)) 858993459) + (b_and (b_ushr (x0 - (b_and (b_ushr x0 1) 1431655765)) 2) 858993459)) 4)) 252645135) 8)) + (b_ushr ((b_and (((b_and (x0 - (b_and (b_ushr x0 1) 1431655765)) 858993459) + (b_and (b_ushr (x0 - (b_and (b_ushr x0 1) 1431655765)) 2) 858993459)) + (b_ushr ((b_and (x0 - (b_and (b_ushr x0 1) 1431655765)) 858993459) + (b_and (b_ushr (x0 - (b_and (b_ushr x0 1) 1431655765)) 2) 858993459)) 4)) 252645135) + (b_ushr (b_and (((b_and (x0 - (b_and (b_ushr x0 1) 1431655765)) 858993459) + (b_and (b_ushr (x0 - (b_and (b_ushr x0 1) 1431655765)) 2) 858993459)) + (b_ushr ((b_and (x0 - (b_and (b_ushr x0 1) 1431655765)) 858993459) + (b_and (b_ushr (x0 - (b_and (b_ushr x0 1) 1431655765)) 2) 858993459)) 4)) 252645135) 8)) 16)) 63) = (cnt (fun k => s.testBit k) 7 : Nat))))))) (s : Int) := by decide +kernel
theorem ct_bitCount {h : jH} (s : Nat) (hs : s < 128) : CF Sx M_J6_bitCount_0f7a4 [jI (s : Int)] h (cnt (fun k => s.testBit k) 7 : Nat) := by
  obtain ⟨h1, h2, h3, h4, h5, h6⟩ := bc_all s hs
  exact en_J6_bitCount_0f7a4 (fun G => vc_J6_bitCount_0f7a4_0 ⟨h1, h2, h3, h4, h5, _, rfl, h6, rfl⟩)
theorem ct_hasLine {h : jH} (l : Int) : CF Sx M_X6_hasLine [jR 2, jI l] h (if 0 ≤ l ∧ l < h.1 2 0 then 1 else 0) := by
  refine en_X6_hasLine_2 (fun G => vc_X6_hasLine_2_0 ?_)
  refine ⟨fun a => ⟨_, rfl, ?_, rfl⟩, fun a => ⟨fun b => ⟨_, rfl, ?_, rfl⟩, fun b => ⟨_, rfl, ?_, rfl⟩⟩⟩
  · rw [if_neg (by omega)]
  · rw [if_neg (by omega)]
  · rw [if_pos (by omega)]
theorem ct_hasCall {h : jH} (l : Int) : CF Sx M_X6_hasCall [jR 2, jI l] h (if 0 ≤ l ∧ l < h.1 2 2 then 1 else 0) := by
  refine en_X6_hasCall_2 (fun G => vc_X6_hasCall_2_0 ?_)
  refine ⟨fun a => ⟨_, rfl, ?_, rfl⟩, fun a => ⟨fun b => ⟨_, rfl, ?_, rfl⟩, fun b => ⟨_, rfl, ?_, rfl⟩⟩⟩
  · rw [if_neg (by omega)]
  · rw [if_neg (by omega)]
  · rw [if_pos (by omega)]
theorem ct_shareLine {h : jH} (a b : Nat) (ha : a < 7) (hb : b < 7) : CF Sx M_X6_shareLine [jR 2, jI a, jI b] h (bi (sh (h.1 5) (h.1 6) a b)) := by
  refine en_X6_shareLine_2 (fun G => vc_X6_shareLine_2_0 ?_)
  simp only [Int.toNat_natCast]
  refine ⟨⟨by omega, by omega⟩, ⟨by omega, by omega⟩, fun e => ⟨_, rfl, ?_, rfl⟩, fun e => ⟨fun e2 => ⟨_, rfl, ?_, rfl⟩, fun e2 => ⟨fun e3 => ⟨_, rfl, ?_, rfl⟩, fun e3 => ⟨fun e4 => ⟨_, rfl, ?_, rfl⟩, fun e4 => ⟨_, rfl, ?_, rfl⟩⟩⟩⟩⟩
  · simp [sh, bi, e]
  · simp [sh, bi, e2]
  · simp [sh, bi, e3]
  · simp [sh, bi, e4]
  · simp [sh, bi, e, e2, e3, e4]
theorem ct_those_17 {h : jH} {N : Nat} (hN : h.1 2 2 = N) (h7 : N ≤ 7) (s : Int) : CF Sx M_X2_those [jR 17, jI s] h (bt (fun c => h.1 19 c == s) N : Nat) := by
  refine en_X2_those_17 (fun G => vc_X2_those_17_0 ?_)
  refine jf_fun N (fun c => [jR 17, jI s, jI (bt (fun c => h.1 19 c == s) c : Nat), jI (c : Nat)]) (fun _ => h) (fun c hc k => ?_) ?_ 0 (Nat.zero_le _)
  · refine vc_X2_those_17_4 ⟨fun q => absurd q (by omega), fun q => ⟨⟨by omega, by omega⟩, fun e => ⟨⟨by omega, by omega⟩, ?_⟩, fun e => ⟨⟨by omega, by omega⟩, ?_⟩⟩⟩
    · rw [Int.toNat_natCast] at e
      have := k
      rw [← bt_or (by omega) (by simp [e])] at this
      exact this
    · rw [Int.toNat_natCast] at e
      have := k
      rw [show bt (fun c => h.1 19 c == s) (c + 1) = bt (fun c => h.1 19 c == s) c by simp [bt, e]] at this
      exact this
  · exact vc_X2_those_17_4 ⟨fun q => ⟨_, rfl, rfl, rfl⟩, fun q => absurd q (by omega)⟩
theorem ct_linesFree_17 {h : jH} {N : Nat} (hN : h.1 2 2 = N) (h7 : N ≤ 7) (c t : Nat) (hc : c < 7) (ht : t < 128) : CF Sx M_X2_linesFree [jR 17, jI c, jI t] h (bi (lfree (h.1 5) (h.1 6) N t c)) := by
  refine en_X2_linesFree_17 (fun G => vc_X2_linesFree_17_0 ?_)
  refine jf_loop N (fun o lv h' => lv = [jR 17, jI c, jI t, jI (o : Nat)] ∧ h' = h ∧ allb (fun o => !(t.testBit o && sh (h.1 5) (h.1 6) c o)) o = true) ?_ ?_ 0 (Nat.zero_le _) _ _ ⟨rfl, rfl, rfl⟩
  · rintro o ho lv h' ⟨rfl, rfl, ha⟩ k
    refine vc_X2_linesFree_17_2 ⟨fun q => absurd q (by omega), fun q => ⟨fun e => ⟨_, ct_shareLine c o hc (by omega), ?_⟩, fun e => ⟨⟨by omega, by omega⟩, ?_⟩⟩⟩
    · rintro _ _ ⟨rfl, rfl⟩
      rw [b_has t ht o (by omega)] at e
      have e : t.testBit o = true := by
        cases hb : t.testBit o with
        | true => rfl
        | false => rw [hb] at e; simp at e
      refine ⟨fun z => ⟨⟨by omega, by omega⟩, k _ _ ⟨rfl, rfl, ?_⟩⟩, fun z => ⟨_, rfl, ?_, rfl⟩⟩
      · rw [bi_0] at z
        exact allb_s ha (by simp [z])
      · rw [bi_0] at z
        unfold lfree
        rw [allb_no (k := o) ho (by simp [e, z])]
        rfl
    · rw [b_has t ht o (by omega)] at e
      have e : t.testBit o = false := by
        cases hb : t.testBit o with
        | false => rfl
        | true => rw [hb] at e; simp at e
      exact k _ _ ⟨rfl, rfl, allb_s ha (by simp [e])⟩
  · rintro lv h' ⟨rfl, rfl, ha⟩
    exact vc_X2_linesFree_17_2 ⟨fun q => ⟨_, rfl, by unfold lfree; rw [ha]; rfl, rfl⟩, fun q => absurd q (by omega)⟩
theorem ct_hasRoom_17 {h : jH} {N : Nat} (hN : h.1 2 2 = N) (h7 : N ≤ 7) (c t : Nat) (x : Int) (hc : c < 7) (ht : t < 128) : CF Sx M_X2_hasRoom [jR 17, jI c, jI t, jI x] h (bi (decide ((cnt (fun k => t.testBit k) 7 : Int) < x) && lfree (h.1 5) (h.1 6) N t c)) := by
  refine en_X2_hasRoom_17 (fun G => vc_X2_hasRoom_17_0 ⟨_, ct_bitCount t ht, ?_⟩)
  rintro _ _ ⟨rfl, rfl⟩
  refine ⟨fun a => ⟨_, rfl, ?_, rfl⟩, fun a => ⟨_, ct_linesFree_17 hN h7 c t hc ht, ?_⟩⟩
  · rw [decide_eq_false (by omega)]
    rfl
  · rintro _ _ ⟨rfl, rfl⟩
    rw [decide_eq_true (by omega)]
    refine ⟨fun z => ⟨_, rfl, ?_, rfl⟩, fun z => ⟨_, rfl, ?_, rfl⟩⟩
    · rw [bi_0] at z; simp [z, bi]
    · rw [bi_0] at z; simp [z, bi]
/-- whether a call may be plugged -/
theorem ct_canBePlugged_17 {h : jH} {N : Nat} (hN : h.1 2 2 = N) (h7 : N ≤ 7) (c : Nat) (x : Int) (hc : c < 7) : CF Sx M_X2_canBePlugged [jR 17, jI c, jI x] h (bi (h.1 19 c == 1 && (decide ((cnt (fun k => h.1 19 k == 2) N : Int) < x) && lfree (h.1 5) (h.1 6) N (bt (fun k => h.1 19 k == 2) N) c))) := by
  refine en_X2_canBePlugged_17 (fun G => vc_X2_canBePlugged_17_0 ⟨⟨by omega, by omega⟩, fun e => ⟨_, ct_those_17 hN h7 2, ?_⟩, fun e => ⟨_, rfl, ?_, rfl⟩⟩)
  · rintro _ _ ⟨rfl, rfl⟩
    refine ⟨_, ct_hasRoom_17 hN h7 c _ x hc (bt_128 h7), ?_⟩
    rintro _ _ ⟨rfl, rfl⟩
    rw [Int.toNat_natCast] at e
    rw [cnt_bt h7, e]
    refine ⟨fun z => ⟨_, rfl, ?_, rfl⟩, fun z => ⟨_, rfl, ?_, rfl⟩⟩
    · rw [bi_0] at z; simp only [z]; rfl
    · rw [bi_0] at z
      have z := (Bool.not_eq_false _).mp z
      simp only [z]; rfl
  · rw [Int.toNat_natCast] at e
    simp [e, bi]
theorem ct_those_28 {h : jH} {N : Nat} (hN : h.1 2 2 = N) (h7 : N ≤ 7) (s : Int) : CF Sx M_X2_those [jR 28, jI s] h (bt (fun c => h.1 30 c == s) N : Nat) := by
  refine en_X2_those_28 (fun G => vc_X2_those_28_0 ?_)
  refine jf_fun N (fun c => [jR 28, jI s, jI (bt (fun c => h.1 30 c == s) c : Nat), jI (c : Nat)]) (fun _ => h) (fun c hc k => ?_) ?_ 0 (Nat.zero_le _)
  · refine vc_X2_those_28_4 ⟨fun q => absurd q (by omega), fun q => ⟨⟨by omega, by omega⟩, fun e => ⟨⟨by omega, by omega⟩, ?_⟩, fun e => ⟨⟨by omega, by omega⟩, ?_⟩⟩⟩
    · rw [Int.toNat_natCast] at e
      have := k
      rw [← bt_or (by omega) (by simp [e])] at this
      exact this
    · rw [Int.toNat_natCast] at e
      have := k
      rw [show bt (fun c => h.1 30 c == s) (c + 1) = bt (fun c => h.1 30 c == s) c by simp [bt, e]] at this
      exact this
  · exact vc_X2_those_28_4 ⟨fun q => ⟨_, rfl, rfl, rfl⟩, fun q => absurd q (by omega)⟩
theorem ct_linesFree_28 {h : jH} {N : Nat} (hN : h.1 2 2 = N) (h7 : N ≤ 7) (c t : Nat) (hc : c < 7) (ht : t < 128) : CF Sx M_X2_linesFree [jR 28, jI c, jI t] h (bi (lfree (h.1 5) (h.1 6) N t c)) := by
  refine en_X2_linesFree_28 (fun G => vc_X2_linesFree_28_0 ?_)
  refine jf_loop N (fun o lv h' => lv = [jR 28, jI c, jI t, jI (o : Nat)] ∧ h' = h ∧ allb (fun o => !(t.testBit o && sh (h.1 5) (h.1 6) c o)) o = true) ?_ ?_ 0 (Nat.zero_le _) _ _ ⟨rfl, rfl, rfl⟩
  · rintro o ho lv h' ⟨rfl, rfl, ha⟩ k
    refine vc_X2_linesFree_28_2 ⟨fun q => absurd q (by omega), fun q => ⟨fun e => ⟨_, ct_shareLine c o hc (by omega), ?_⟩, fun e => ⟨⟨by omega, by omega⟩, ?_⟩⟩⟩
    · rintro _ _ ⟨rfl, rfl⟩
      rw [b_has t ht o (by omega)] at e
      have e : t.testBit o = true := by
        cases hb : t.testBit o with
        | true => rfl
        | false => rw [hb] at e; simp at e
      refine ⟨fun z => ⟨⟨by omega, by omega⟩, k _ _ ⟨rfl, rfl, ?_⟩⟩, fun z => ⟨_, rfl, ?_, rfl⟩⟩
      · rw [bi_0] at z
        exact allb_s ha (by simp [z])
      · rw [bi_0] at z
        unfold lfree
        rw [allb_no (k := o) ho (by simp [e, z])]
        rfl
    · rw [b_has t ht o (by omega)] at e
      have e : t.testBit o = false := by
        cases hb : t.testBit o with
        | false => rfl
        | true => rw [hb] at e; simp at e
      exact k _ _ ⟨rfl, rfl, allb_s ha (by simp [e])⟩
  · rintro lv h' ⟨rfl, rfl, ha⟩
    exact vc_X2_linesFree_28_2 ⟨fun q => ⟨_, rfl, by unfold lfree; rw [ha]; rfl, rfl⟩, fun q => absurd q (by omega)⟩
theorem ct_hasRoom_28 {h : jH} {N : Nat} (hN : h.1 2 2 = N) (h7 : N ≤ 7) (c t : Nat) (x : Int) (hc : c < 7) (ht : t < 128) : CF Sx M_X2_hasRoom [jR 28, jI c, jI t, jI x] h (bi (decide ((cnt (fun k => t.testBit k) 7 : Int) < x) && lfree (h.1 5) (h.1 6) N t c)) := by
  refine en_X2_hasRoom_28 (fun G => vc_X2_hasRoom_28_0 ⟨_, ct_bitCount t ht, ?_⟩)
  rintro _ _ ⟨rfl, rfl⟩
  refine ⟨fun a => ⟨_, rfl, ?_, rfl⟩, fun a => ⟨_, ct_linesFree_28 hN h7 c t hc ht, ?_⟩⟩
  · rw [decide_eq_false (by omega)]
    rfl
  · rintro _ _ ⟨rfl, rfl⟩
    rw [decide_eq_true (by omega)]
    refine ⟨fun z => ⟨_, rfl, ?_, rfl⟩, fun z => ⟨_, rfl, ?_, rfl⟩⟩
    · rw [bi_0] at z; simp [z, bi]
    · rw [bi_0] at z; simp [z, bi]
/-- whether a call may be plugged -/
theorem ct_canBePlugged_28 {h : jH} {N : Nat} (hN : h.1 2 2 = N) (h7 : N ≤ 7) (c : Nat) (x : Int) (hc : c < 7) : CF Sx M_X2_canBePlugged [jR 28, jI c, jI x] h (bi (h.1 30 c == 1 && (decide ((cnt (fun k => h.1 30 k == 2) N : Int) < x) && lfree (h.1 5) (h.1 6) N (bt (fun k => h.1 30 k == 2) N) c))) := by
  refine en_X2_canBePlugged_28 (fun G => vc_X2_canBePlugged_28_0 ⟨⟨by omega, by omega⟩, fun e => ⟨_, ct_those_28 hN h7 2, ?_⟩, fun e => ⟨_, rfl, ?_, rfl⟩⟩)
  · rintro _ _ ⟨rfl, rfl⟩
    refine ⟨_, ct_hasRoom_28 hN h7 c _ x hc (bt_128 h7), ?_⟩
    rintro _ _ ⟨rfl, rfl⟩
    rw [Int.toNat_natCast] at e
    rw [cnt_bt h7, e]
    refine ⟨fun z => ⟨_, rfl, ?_, rfl⟩, fun z => ⟨_, rfl, ?_, rfl⟩⟩
    · rw [bi_0] at z; simp only [z]; rfl
    · rw [bi_0] at z
      have z := (Bool.not_eq_false _).mp z
      simp only [z]; rfl
  · rw [Int.toNat_natCast] at e
    simp [e, bi]
theorem ct_engagedBy {h : jH} {N : Nat} (hN : h.1 2 2 = N) (h7 : N ≤ 7) (l : Int) : CF Sx M_X2_engagedBy [jR 17, jI l] h (onI (fst_ (fun c => h.1 19 c == 2 && (h.1 5 c == l || h.1 6 c == l)) N)) := by
  refine en_X2_engagedBy_17 (fun G => vc_X2_engagedBy_17_0 ?_)
  refine jf_loop N (fun o lv h' => lv = [jR 17, jI l, jI (o : Nat)] ∧ h' = h ∧ ∀ j, j < o → (h.1 19 j == 2 && (h.1 5 j == l || h.1 6 j == l)) = false) ?_ ?_ 0 (Nat.zero_le _) _ _ ⟨rfl, rfl, fun j hj => by omega⟩
  · rintro o ho lv h' ⟨rfl, rfl, ha⟩ k
    have nx : (h'.1 19 o == 2 && (h'.1 5 o == l || h'.1 6 o == l)) = false → WV Sx G M_X2_engagedBy _ 2 [jR 17, jI l, jI ((o : Int) + 1)] [] h' := fun z => k _ _ ⟨rfl, rfl, fun j hj => by
      by_cases e : j = o
      · rw [e]; exact z
      · exact ha j (by omega)⟩
    refine vc_X2_engagedBy_17_2 ⟨fun q => absurd q (by omega), fun q => ⟨⟨by omega, by omega⟩, ?_⟩⟩
    simp only [Int.toNat_natCast]
    refine ⟨fun e => ⟨fun e2 => ⟨_, rfl, ?_, rfl⟩, fun e2 => ⟨fun e3 => ⟨_, rfl, ?_, rfl⟩, fun e3 => ⟨⟨by omega, by omega⟩, nx (by simp [e2, e3])⟩⟩⟩, fun e => ⟨⟨by omega, by omega⟩, nx (by simp [e])⟩⟩
    · rw [fst_at ho (by simp [e, e2]) ha]; rfl
    · rw [fst_at ho (by simp [e, e3]) ha]; rfl
  · rintro lv h' ⟨rfl, rfl, ha⟩
    exact vc_X2_engagedBy_17_2 ⟨fun q => ⟨_, rfl, by rw [fst_none.mpr ha]; rfl, rfl⟩, fun q => absurd q (by omega)⟩
