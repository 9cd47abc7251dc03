/-! the model: contracts of its small methods -/
def mH (h : jH) (s : Nat) (c : Nat) : Int := h.1 s (7 + c)
def mL (h : jH) (s : Nat) (c : Nat) : Int := h.1 s (14 + c)
def mW (h : jH) (s : Nat) (c : Nat) : Int := h.1 s (21 + c)
def mO (h : jH) (s : Nat) (l : Nat) : Int := h.1 s (1 + l)
def mA (h : jH) (c : Nat) : Int := h.1 4 (5 * c)
def mF (h : jH) (c : Nat) : Int := h.1 4 (5 * c + 1)
def mT (h : jH) (c : Nat) : Int := h.1 4 (5 * c + 2)
def mN (h : jH) (c : Nat) : Int := h.1 4 (5 * c + 3)
def mR (h : jH) (c : Nat) : Int := h.1 4 (5 * c + 4)
theorem cm_in {h : jH} (v a b : Int) : CF Sm M_X8_in [jI v, jI a, jI b] h (if a ≤ v ∧ v ≤ b then 1 else 0) := by
  refine en_X8_in (fun G => vc_X8_in_0 ⟨fun e => ⟨_, rfl, ?_, rfl⟩, fun e => ⟨fun e1 => ⟨_, rfl, ?_, rfl⟩, fun e1 => ⟨_, rfl, ?_, rfl⟩⟩⟩)
  · rw [if_neg (by omega)]
  · rw [if_neg (by omega)]
  · rw [if_pos (by omega)]
theorem cm_has {h : jH} (s k : Nat) (hs : s < 128) (hk : k < 7) : CF Sm M_X8_has [jI s, jI k] h (bi (s.testBit k)) := by
  refine en_X8_has (fun G => vc_X8_has_0 ?_)
  rw [b_has1 hs hk]
  refine ⟨fun e => ⟨_, rfl, by rw [e]; rfl, rfl⟩, fun e => ⟨_, rfl, ?_, rfl⟩⟩
  rw [(Bool.not_eq_true _).mp e]; rfl
theorem ite_01 {p : Prop} {d : Decidable p} : (if p then (1 : Int) else 0) = 0 ∨ (if p then (1 : Int) else 0) = 1 := by split <;> simp
theorem cm_isLine {h : jH} (l : Int) (hb : 0 ≤ h.1 0 13 ∧ h.1 0 13 ≤ 1000) : CF Sm M_X8_isLine [jR 0, jI l] h (if 0 ≤ l ∧ l < h.1 0 13 then 1 else 0) := by
  refine en_X8_isLine_0 (fun G => vc_X8_isLine_0_0 ⟨⟨by omega, by omega⟩, _, cm_in l 0 _, ?_⟩)
  rintro _ _ ⟨rfl, rfl⟩
  rename_i h
  have e : (0 ≤ l ∧ l ≤ h.1 0 13 - 1) ↔ (0 ≤ l ∧ l < h.1 0 13) := by omega
  simp only [e]
  exact ⟨ite_01, _, rfl, rfl, rfl⟩
theorem cm_isCall {h : jH} (l : Int) (hb : 0 ≤ h.1 0 15 ∧ h.1 0 15 ≤ 1000) : CF Sm M_X8_isCall [jR 0, jI l] h (if 0 ≤ l ∧ l < h.1 0 15 then 1 else 0) := by
  refine en_X8_isCall_0 (fun G => vc_X8_isCall_0_0 ⟨⟨by omega, by omega⟩, _, cm_in l 0 _, ?_⟩)
  rintro _ _ ⟨rfl, rfl⟩
  rename_i h
  have e : (0 ≤ l ∧ l ≤ h.1 0 15 - 1) ↔ (0 ≤ l ∧ l < h.1 0 15) := by omega
  simp only [e]
  exact ⟨ite_01, _, rfl, rfl, rfl⟩
theorem cm_fromOf {h : jH} (c : Nat) (hc : c < 7) : CF Sm M_X8_fromOf [jR 0, jI c] h (mF h c) := by
  refine en_X8_fromOf_0 (fun G => vc_X8_fromOf_0_0 ⟨⟨by omega, by omega⟩, ⟨by omega, by omega⟩, ⟨by omega, by omega⟩, _, rfl, ?_, rfl⟩)
  rw [show Int.toNat (5 * (c : Int) + 1) = 5 * c + 1 by omega]; rfl
theorem cm_toOf {h : jH} (c : Nat) (hc : c < 7) : CF Sm M_X8_toOf [jR 0, jI c] h (mT h c) := by
  refine en_X8_toOf_0 (fun G => vc_X8_toOf_0_0 ⟨⟨by omega, by omega⟩, ⟨by omega, by omega⟩, ⟨by omega, by omega⟩, _, rfl, ?_, rfl⟩)
  rw [show Int.toNat (5 * (c : Int) + 2) = 5 * c + 2 by omega]; rfl
theorem cm_isOn {h : jH} (c : Nat) (l : Int) (hc : c < 7) : CF Sm M_X8_isOn [jR 0, jI c, jI l] h (bi (mF h c == l || mT h c == l)) := by
  refine en_X8_isOn_0 (fun G => vc_X8_isOn_0_0 ⟨_, cm_fromOf c hc, ?_⟩)
  rintro _ _ ⟨rfl, rfl⟩
  refine ⟨fun e => ⟨_, rfl, by simp [e, bi], rfl⟩, fun e => ⟨_, cm_toOf c hc, ?_⟩⟩
  rintro _ _ ⟨rfl, rfl⟩
  exact ⟨fun e1 => ⟨_, rfl, by simp [e1, bi], rfl⟩, fun e1 => ⟨_, rfl, by simp [e, e1, bi], rfl⟩⟩
/-- the last below n of a kind -/
def lst_ (p : Nat → Bool) : Nat → Option Nat
  | 0 => none
  | n + 1 => if p n then some n else lst_ p n
theorem lst_none {p : Nat → Bool} {n : Nat} : lst_ p n = none ↔ ∀ k, k < n → p k = false := by
  induction n with
  | zero => simp [lst_]
  | succ n ih =>
    simp only [lst_]
    constructor
    · intro h k hk
      split at h
      · cases h
      · by_cases e : k = n
        · rw [e]; simpa using ‹¬ p n = true›
        · exact ih.mp h k (by omega)
    · intro h
      rw [if_neg (by rw [h n (by omega)]; decide)]
      exact ih.mpr (fun k hk => h k (by omega))
theorem lst_some {p : Nat → Bool} {n k : Nat} (h : lst_ p n = some k) : k < n ∧ p k = true := by
  induction n with
  | zero => simp [lst_] at h
  | succ n ih =>
    simp only [lst_] at h
    split at h
    · cases h; exact ⟨by omega, by assumption⟩
    · have := ih h; exact ⟨by omega, this.2⟩
/-- where at most one is of the kind, the first is the last -/
theorem lst_fst {p : Nat → Bool} {n : Nat} (h : ∀ i j, i < n → j < n → p i = true → p j = true → i = j) : lst_ p n = fst_ p n := by
  cases hl : lst_ p n with
  | none => exact (fst_none.mpr (lst_none.mp hl)).symm
  | some k =>
    obtain ⟨h1, h2⟩ := lst_some hl
    refine (fst_at h1 h2 (fun j hj => ?_)).symm
    cases hp : p j with
    | false => rfl
    | true => have := h j k (by omega) h1 hp h2; omega
theorem onI_none {o : Option Nat} : onI o = -9 ↔ o = none := by
  cases o with
  | none => simp [onI]
  | some k => simp [onI]
theorem cm_talkerOn_5 {h : jH} {N : Nat} (hN : h.1 0 15 = N) (h7 : N ≤ 7) (l : Int) : CF Sm M_X8_talkerOn [jR 0, jR 5, jI l] h (onI (lst_ (fun c => mH h 5 c == 2 && (mF h c == l || mT h c == l)) N)) := by
  refine en_X8_talkerOn_0_5 (fun G => vc_X8_talkerOn_0_5_0 ?_)
  refine jf_fun N (fun c => [jR 0, jR 5, jI l, jI (onI (lst_ (fun c => mH h 5 c == 2 && (mF h c == l || mT h c == l)) c)), jI (c : Nat)]) (fun _ => h) (fun c hc k => ?_) ?_ 0 (Nat.zero_le _)
  · refine vc_X8_talkerOn_0_5_6 ⟨fun q => absurd q (by omega), fun q => ⟨⟨by omega, by omega⟩, ⟨by omega, by omega⟩, ?_⟩⟩
    rw [show Int.toNat (7 + (c : Int)) = 7 + c by omega]
    simp only [lst_] at k
    refine ⟨fun e => ⟨_, cm_isOn c l (by omega), ?_⟩, fun e => ⟨⟨by omega, by omega⟩, ?_⟩⟩
    · rintro _ _ ⟨rfl, rfl⟩
      rename_i h
      have e : mH h 5 c = 2 := e
      refine ⟨fun z => ⟨⟨by omega, by omega⟩, ?_⟩, fun z => ⟨⟨by omega, by omega⟩, ?_⟩⟩
      · rw [bi_0] at z
        rw [if_neg (by simp only [e, z]; decide)] at k
        exact k
      · rw [bi_0] at z
        rw [if_pos (by rw [e, (Bool.not_eq_false _).mp z]; rfl)] at k
        exact k
    · have e : ¬ mH h 5 c = 2 := e
      rw [if_neg (by simp [e])] at k
      exact k
  · exact vc_X8_talkerOn_0_5_6 ⟨fun q => ⟨_, rfl, rfl, rfl⟩, fun q => absurd q (by omega)⟩
theorem cm_setOf_5 {h : jH} {N : Nat} (hN : h.1 0 15 = N) (h7 : N ≤ 7) (v : Int) : CF Sm M_X8_setOf [jR 0, jR 5, jI v] h (bt (fun c => mH h 5 c == v) N : Nat) := by
  refine en_X8_setOf_0_5 (fun G => vc_X8_setOf_0_5_0 ?_)
  refine jf_fun N (fun c => [jR 0, jR 5, jI v, jI (bt (fun c => mH h 5 c == v) c : Nat), jI (c : Nat)]) (fun _ => h) (fun c hc k => ?_) ?_ 0 (Nat.zero_le _)
  · refine vc_X8_setOf_0_5_5 ⟨fun q => absurd q (by omega), fun q => ⟨⟨by omega, by omega⟩, ⟨by omega, by omega⟩, ?_⟩⟩
    rw [show Int.toNat (7 + (c : Int)) = 7 + c by omega]
    refine ⟨fun e => ⟨⟨by omega, by omega⟩, ?_⟩, fun e => ⟨⟨by omega, by omega⟩, ?_⟩⟩
    · have e : mH h 5 c = v := e
      rw [bt_or (by omega) (by simp [e])]
      exact k
    · have e : ¬ mH h 5 c = v := e
      rw [bt_or0 (by omega) (by simp [e])]
      exact k
  · exact vc_X8_setOf_0_5_5 ⟨fun q => ⟨_, rfl, rfl, rfl⟩, fun q => absurd q (by omega)⟩
theorem cm_talkerOn_6 {h : jH} {N : Nat} (hN : h.1 0 15 = N) (h7 : N ≤ 7) (l : Int) : CF Sm M_X8_talkerOn [jR 0, jR 6, jI l] h (onI (lst_ (fun c => mH h 6 c == 2 && (mF h c == l || mT h c == l)) N)) := by
  refine en_X8_talkerOn_0_6 (fun G => vc_X8_talkerOn_0_6_0 ?_)
  refine jf_fun N (fun c => [jR 0, jR 6, jI l, jI (onI (lst_ (fun c => mH h 6 c == 2 && (mF h c == l || mT h c == l)) c)), jI (c : Nat)]) (fun _ => h) (fun c hc k => ?_) ?_ 0 (Nat.zero_le _)
  · refine vc_X8_talkerOn_0_6_6 ⟨fun q => absurd q (by omega), fun q => ⟨⟨by omega, by omega⟩, ⟨by omega, by omega⟩, ?_⟩⟩
    rw [show Int.toNat (7 + (c : Int)) = 7 + c by omega]
    simp only [lst_] at k
    refine ⟨fun e => ⟨_, cm_isOn c l (by omega), ?_⟩, fun e => ⟨⟨by omega, by omega⟩, ?_⟩⟩
    · rintro _ _ ⟨rfl, rfl⟩
      rename_i h
      have e : mH h 6 c = 2 := e
      refine ⟨fun z => ⟨⟨by omega, by omega⟩, ?_⟩, fun z => ⟨⟨by omega, by omega⟩, ?_⟩⟩
      · rw [bi_0] at z
        rw [if_neg (by simp only [e, z]; decide)] at k
        exact k
      · rw [bi_0] at z
        rw [if_pos (by rw [e, (Bool.not_eq_false _).mp z]; rfl)] at k
        exact k
    · have e : ¬ mH h 6 c = 2 := e
      rw [if_neg (by simp [e])] at k
      exact k
  · exact vc_X8_talkerOn_0_6_6 ⟨fun q => ⟨_, rfl, rfl, rfl⟩, fun q => absurd q (by omega)⟩
theorem cm_setOf_6 {h : jH} {N : Nat} (hN : h.1 0 15 = N) (h7 : N ≤ 7) (v : Int) : CF Sm M_X8_setOf [jR 0, jR 6, jI v] h (bt (fun c => mH h 6 c == v) N : Nat) := by
  refine en_X8_setOf_0_6 (fun G => vc_X8_setOf_0_6_0 ?_)
  refine jf_fun N (fun c => [jR 0, jR 6, jI v, jI (bt (fun c => mH h 6 c == v) c : Nat), jI (c : Nat)]) (fun _ => h) (fun c hc k => ?_) ?_ 0 (Nat.zero_le _)
  · refine vc_X8_setOf_0_6_5 ⟨fun q => absurd q (by omega), fun q => ⟨⟨by omega, by omega⟩, ⟨by omega, by omega⟩, ?_⟩⟩
    rw [show Int.toNat (7 + (c : Int)) = 7 + c by omega]
    refine ⟨fun e => ⟨⟨by omega, by omega⟩, ?_⟩, fun e => ⟨⟨by omega, by omega⟩, ?_⟩⟩
    · have e : mH h 6 c = v := e
      rw [bt_or (by omega) (by simp [e])]
      exact k
    · have e : ¬ mH h 6 c = v := e
      rw [bt_or0 (by omega) (by simp [e])]
      exact k
  · exact vc_X8_setOf_0_6_5 ⟨fun q => ⟨_, rfl, rfl, rfl⟩, fun q => absurd q (by omega)⟩
theorem cm_bits {h : jH} (s : Nat) (hs : s < 128) : CF Sm M_X8_bits [jI s] h (cnt (fun k => s.testBit k) 7 : Nat) := by
  refine en_X8_bits (fun G => vc_X8_bits_0 ?_)
  refine jf_fun 7 (fun c => [jI s, jI (cnt (fun k => s.testBit k) c : Nat), jI (c : Nat)]) (fun _ => h) (fun c hc k => ?_) ?_ 0 (by decide)
  · have cl := cnt_le (fun k => s.testBit k) c
    refine vc_X8_bits_4 ⟨fun q => absurd q (by omega), fun q => ?_⟩
    rw [b_has s hs c hc]
    simp only [cnt] at k
    refine ⟨?_, ⟨by omega, by omega⟩, ?_⟩
    · constructor <;> split <;> omega
    · rw [show ((cnt (fun k => s.testBit k) c : Nat) : Int) + (if s.testBit c = true then 1 else 0) = ((cnt (fun k => s.testBit k) c + (if s.testBit c = true then 1 else 0) : Nat) : Int) by split <;> omega]
      exact k
  · exact vc_X8_bits_4 ⟨fun q => ⟨_, rfl, rfl, rfl⟩, fun q => absurd q (by decide)⟩
/-- free lines, told by who talks on them -/
theorem lfree_lst {hw fr to : Nat → Int} {N c : Nat} : lfree fr to N (bt (fun k => hw k == 2) N) c = (decide (lst_ (fun o => hw o == 2 && (fr o == fr c || to o == fr c)) N = none) && decide (lst_ (fun o => hw o == 2 && (fr o == to c || to o == to c)) N = none)) := by
  rw [Bool.eq_iff_iff, Bool.and_eq_true, decide_eq_true_eq, decide_eq_true_eq, lst_none, lst_none]
  unfold lfree
  rw [allb_iff]
  constructor
  · intro h
    refine ⟨fun o ho => ?_, fun o ho => ?_⟩
    · have := h o ho
      rw [bt_tb, decide_eq_true ho, Bool.true_and] at this
      cases hp : (hw o == 2) with
      | false => rfl
      | true =>
        rw [hp] at this
        simp only [sh, Bool.true_and, Bool.not_eq_true', Bool.or_eq_false_iff, beq_eq_false_iff_ne] at this ⊢
        exact ⟨fun z => this.1.1.1 z.symm, fun z => this.1.1.2 z.symm⟩
    · have := h o ho
      rw [bt_tb, decide_eq_true ho, Bool.true_and] at this
      cases hp : (hw o == 2) with
      | false => rfl
      | true =>
        rw [hp] at this
        simp only [sh, Bool.true_and, Bool.not_eq_true', Bool.or_eq_false_iff, beq_eq_false_iff_ne] at this ⊢
        exact ⟨fun z => this.1.2 z.symm, fun z => this.2 z.symm⟩
  · rintro ⟨h1, h2⟩ o ho
    have a := h1 o ho
    have b := h2 o ho
    rw [bt_tb, decide_eq_true ho, Bool.true_and]
    cases hp : (hw o == 2) with
    | false => rfl
    | true =>
      rw [hp] at a b
      simp only [sh, Bool.true_and, Bool.not_eq_true', Bool.or_eq_false_iff, beq_eq_false_iff_ne] at a b ⊢
      exact ⟨⟨⟨fun z => a.1 z.symm, fun z => a.2 z.symm⟩, fun z => b.1 z.symm⟩, fun z => b.2 z.symm⟩
theorem cm_freeCords_5 {h : jH} {N : Nat} (hN : h.1 0 15 = N) (h7 : N ≤ 7) (x : Int) (hx : -1000 ≤ x ∧ x ≤ 1000) : CF Sm M_X8_freeCords [jR 0, jR 5, jI x] h (x - (cnt (fun c => mH h 5 c == 2) N : Nat)) := by
  refine en_X8_freeCords_0_5 (fun G => vc_X8_freeCords_0_5_0 ⟨_, cm_setOf_5 hN h7 2, ?_⟩)
  rintro _ _ ⟨rfl, rfl⟩
  refine ⟨_, cm_bits _ (bt_128 h7), ?_⟩
  rintro _ _ ⟨rfl, rfl⟩
  rename_i h
  rw [cnt_bt h7]
  have := cnt_le (fun c => mH h 5 c == 2) N
  exact ⟨⟨by omega, by omega⟩, _, rfl, rfl, rfl⟩
theorem cm_areFree_5 {h : jH} {N : Nat} (hN : h.1 0 15 = N) (h7 : N ≤ 7) (c : Nat) (hc : c < 7) : CF Sm M_X8_areFree [jR 0, jR 5, jI c] h (bi (lfree (mF h) (mT h) N (bt (fun k => mH h 5 k == 2) N) c)) := by
  refine en_X8_areFree_0_5 (fun G => vc_X8_areFree_0_5_0 ⟨_, cm_fromOf c hc, ?_⟩)
  rintro _ _ ⟨rfl, rfl⟩
  refine ⟨_, cm_talkerOn_5 hN h7 _, ?_⟩
  rintro _ _ ⟨rfl, rfl⟩
  rw [onI_none, lfree_lst]
  refine ⟨fun e => ⟨_, cm_toOf c hc, ?_⟩, fun e => ⟨_, rfl, by rw [decide_eq_false e]; rfl, rfl⟩⟩
  rintro _ _ ⟨rfl, rfl⟩
  refine ⟨_, cm_talkerOn_5 hN h7 _, ?_⟩
  rintro _ _ ⟨rfl, rfl⟩
  rw [onI_none, decide_eq_true e]
  exact ⟨fun e1 => ⟨_, rfl, by rw [decide_eq_true e1]; rfl, rfl⟩, fun e1 => ⟨_, rfl, by rw [decide_eq_false e1]; rfl, rfl⟩⟩
theorem cm_canPlug_5 {h : jH} {N : Nat} (hN : h.1 0 15 = N) (h7 : N ≤ 7) (c : Nat) (x : Int) (hc : c < 7) (hx : -1000 ≤ x ∧ x ≤ 1000) : CF Sm M_X8_canPlug [jR 0, jR 5, jI c, jI x] h (bi (canp N (mF h) (mT h) x (mH h 5) c)) := by
  refine en_X8_canPlug_0_5 (fun G => vc_X8_canPlug_0_5_0 ⟨⟨by omega, by omega⟩, ⟨by omega, by omega⟩, ?_⟩)
  rw [show Int.toNat (7 + (c : Int)) = 7 + c by omega]
  refine ⟨fun e => ⟨_, cm_freeCords_5 hN h7 x hx, ?_⟩, fun e => ⟨_, rfl, ?_, rfl⟩⟩
  · rintro _ _ ⟨rfl, rfl⟩
    rename_i h
    have e : mH h 5 c = 1 := e
    unfold canp
    rw [e]
    refine ⟨fun z => ⟨_, rfl, ?_, rfl⟩, fun z => ⟨_, cm_areFree_5 hN h7 c hc, ?_⟩⟩
    · rw [decide_eq_false (by omega)]; rfl
    · rintro _ _ ⟨rfl, rfl⟩
      rw [decide_eq_true (by omega)]
      refine ⟨fun z1 => ⟨_, rfl, ?_, rfl⟩, fun z1 => ⟨_, rfl, ?_, rfl⟩⟩
      · rw [bi_0] at z1; rw [z1]; rfl
      · rw [bi_0] at z1; rw [(Bool.not_eq_false _).mp z1]; rfl
  · have e : ¬ mH h 5 c = 1 := e
    unfold canp
    simp [e, bi]
theorem cm_plug_5 {h : jH} (c : Nat) (hc : c < 7) : CU Sm M_X8_plug [jR 0, jR 5, jI c] h (j_up (j_up h 5 (7 + c) 2) 5 (14 + c) (mN h c)) := by
  refine en_X8_plug_0_5 (fun G => vc_X8_plug_0_5_0 ⟨⟨by omega, by omega⟩, ⟨by omega, by omega⟩, ⟨by omega, by omega⟩, ⟨by omega, by omega⟩, ⟨by omega, by omega⟩, ⟨by omega, by omega⟩, ⟨by omega, by omega⟩, rfl, ?_⟩)
  rw [show Int.toNat (7 + (c : Int)) = 7 + c by omega, show Int.toNat (14 + (c : Int)) = 14 + c by omega, show Int.toNat (5 * (c : Int) + 3) = 5 * c + 3 by omega]
  rfl
theorem cm_freeCords_6 {h : jH} {N : Nat} (hN : h.1 0 15 = N) (h7 : N ≤ 7) (x : Int) (hx : -1000 ≤ x ∧ x ≤ 1000) : CF Sm M_X8_freeCords [jR 0, jR 6, jI x] h (x - (cnt (fun c => mH h 6 c == 2) N : Nat)) := by
  refine en_X8_freeCords_0_6 (fun G => vc_X8_freeCords_0_6_0 ⟨_, cm_setOf_6 hN h7 2, ?_⟩)
  rintro _ _ ⟨rfl, rfl⟩
  refine ⟨_, cm_bits _ (bt_128 h7), ?_⟩
  rintro _ _ ⟨rfl, rfl⟩
  rename_i h
  rw [cnt_bt h7]
  have := cnt_le (fun c => mH h 6 c == 2) N
  exact ⟨⟨by omega, by omega⟩, _, rfl, rfl, rfl⟩
theorem cm_areFree_6 {h : jH} {N : Nat} (hN : h.1 0 15 = N) (h7 : N ≤ 7) (c : Nat) (hc : c < 7) : CF Sm M_X8_areFree [jR 0, jR 6, jI c] h (bi (lfree (mF h) (mT h) N (bt (fun k => mH h 6 k == 2) N) c)) := by
  refine en_X8_areFree_0_6 (fun G => vc_X8_areFree_0_6_0 ⟨_, cm_fromOf c hc, ?_⟩)
  rintro _ _ ⟨rfl, rfl⟩
  refine ⟨_, cm_talkerOn_6 hN h7 _, ?_⟩
  rintro _ _ ⟨rfl, rfl⟩
  rw [onI_none, lfree_lst]
  refine ⟨fun e => ⟨_, cm_toOf c hc, ?_⟩, fun e => ⟨_, rfl, by rw [decide_eq_false e]; rfl, rfl⟩⟩
  rintro _ _ ⟨rfl, rfl⟩
  refine ⟨_, cm_talkerOn_6 hN h7 _, ?_⟩
  rintro _ _ ⟨rfl, rfl⟩
  rw [onI_none, decide_eq_true e]
  exact ⟨fun e1 => ⟨_, rfl, by rw [decide_eq_true e1]; rfl, rfl⟩, fun e1 => ⟨_, rfl, by rw [decide_eq_false e1]; rfl, rfl⟩⟩
theorem cm_canPlug_6 {h : jH} {N : Nat} (hN : h.1 0 15 = N) (h7 : N ≤ 7) (c : Nat) (x : Int) (hc : c < 7) (hx : -1000 ≤ x ∧ x ≤ 1000) : CF Sm M_X8_canPlug [jR 0, jR 6, jI c, jI x] h (bi (canp N (mF h) (mT h) x (mH h 6) c)) := by
  refine en_X8_canPlug_0_6 (fun G => vc_X8_canPlug_0_6_0 ⟨⟨by omega, by omega⟩, ⟨by omega, by omega⟩, ?_⟩)
  rw [show Int.toNat (7 + (c : Int)) = 7 + c by omega]
  refine ⟨fun e => ⟨_, cm_freeCords_6 hN h7 x hx, ?_⟩, fun e => ⟨_, rfl, ?_, rfl⟩⟩
  · rintro _ _ ⟨rfl, rfl⟩
    rename_i h
    have e : mH h 6 c = 1 := e
    unfold canp
    rw [e]
    refine ⟨fun z => ⟨_, rfl, ?_, rfl⟩, fun z => ⟨_, cm_areFree_6 hN h7 c hc, ?_⟩⟩
    · rw [decide_eq_false (by omega)]; rfl
    · rintro _ _ ⟨rfl, rfl⟩
      rw [decide_eq_true (by omega)]
      refine ⟨fun z1 => ⟨_, rfl, ?_, rfl⟩, fun z1 => ⟨_, rfl, ?_, rfl⟩⟩
      · rw [bi_0] at z1; rw [z1]; rfl
      · rw [bi_0] at z1; rw [(Bool.not_eq_false _).mp z1]; rfl
  · have e : ¬ mH h 6 c = 1 := e
    unfold canp
    simp [e, bi]
theorem cm_plug_6 {h : jH} (c : Nat) (hc : c < 7) : CU Sm M_X8_plug [jR 0, jR 6, jI c] h (j_up (j_up h 6 (7 + c) 2) 6 (14 + c) (mN h c)) := by
  refine en_X8_plug_0_6 (fun G => vc_X8_plug_0_6_0 ⟨⟨by omega, by omega⟩, ⟨by omega, by omega⟩, ⟨by omega, by omega⟩, ⟨by omega, by omega⟩, ⟨by omega, by omega⟩, ⟨by omega, by omega⟩, ⟨by omega, by omega⟩, rfl, ?_⟩)
  rw [show Int.toNat (7 + (c : Int)) = 7 + c by omega, show Int.toNat (14 + (c : Int)) = 14 + c by omega, show Int.toNat (5 * (c : Int) + 3) = 5 * c + 3 by omega]
  rfl
theorem cm_isBetween {h : jH} (x a b : Int) : CF Sm M_X8_isBetween [jI x, jI a, jI b] h (bi (decide (min a b < x) && decide (x < max a b))) := by
  refine en_X8_isBetween (fun G => vc_X8_isBetween_0 ⟨fun e => ⟨fun e1 => ⟨_, rfl, ?_, rfl⟩, fun e1 => ⟨fun e2 => ⟨_, rfl, ?_, rfl⟩, fun e2 => ⟨_, rfl, ?_, rfl⟩⟩⟩, fun e => ⟨fun e1 => ⟨_, rfl, ?_, rfl⟩, fun e1 => ⟨fun e2 => ⟨_, rfl, ?_, rfl⟩, fun e2 => ⟨_, rfl, ?_, rfl⟩⟩⟩⟩)
  · rw [decide_eq_false (p := min a b < x) (by omega)]; rfl
  · rw [decide_eq_false (p := x < max a b) (by omega), Bool.and_false]; rfl
  · rw [decide_eq_true (p := min a b < x) (by omega), decide_eq_true (p := x < max a b) (by omega)]; rfl
  · rw [decide_eq_false (p := min a b < x) (by omega)]; rfl
  · rw [decide_eq_false (p := x < max a b) (by omega), Bool.and_false]; rfl
  · rw [decide_eq_true (p := min a b < x) (by omega), decide_eq_true (p := x < max a b) (by omega)]; rfl
theorem cm_holeOf {h : jH} (l : Int) (hl : 0 ≤ l ∧ l < 6) : CF Sm M_X8_holeOf [jR 0, jI l] h (mO h 5 l.toNat) := by
  refine en_X8_holeOf_0 (fun G => vc_X8_holeOf_0_0 ⟨⟨by omega, by omega⟩, ⟨by omega, by omega⟩, _, rfl, ?_, rfl⟩)
  rw [show Int.toNat (1 + l) = 1 + l.toNat by omega]; rfl
theorem ibc (a b : Int) : (a == b) = (b == a) := by rw [Bool.eq_iff_iff, beq_iff_eq, beq_iff_eq]; exact eq_comm
theorem cm_cross {h : jH} {N : Nat} (h7 : N ≤ 7) (hk : lok (mF h) (mT h) N) (c d : Nat) (hc : c < N) (hd : d < N) : CF Sm M_X8_cross [jR 0, jI c, jI d] h (bi (crs (mO h 5) (mF h) (mT h) c d)) := by
  have k1 := hk c hc
  have k2 := hk d hd
  have e0 : sh (mF h) (mT h) c d = ((mF h d == mF h c || mT h d == mF h c) || (mF h d == mT h c || mT h d == mT h c)) := by
    unfold sh
    rw [ibc (mF h c) (mF h d), ibc (mF h c) (mT h d), ibc (mT h c) (mF h d), ibc (mT h c) (mT h d), Bool.or_assoc]
  refine en_X8_cross_0 (fun G => vc_X8_cross_0_0 ⟨_, cm_fromOf c (by omega), ?_⟩)
  rintro _ _ ⟨rfl, rfl⟩
  refine ⟨_, cm_isOn d _ (by omega), ?_⟩
  rintro _ _ ⟨rfl, rfl⟩
  refine ⟨fun e => ⟨_, cm_toOf c (by omega), ?_⟩, fun e => ⟨_, rfl, ?_, rfl⟩⟩
  · rintro _ _ ⟨rfl, rfl⟩
    refine ⟨_, cm_isOn d _ (by omega), ?_⟩
    rintro _ _ ⟨rfl, rfl⟩
    refine ⟨fun e1 => ⟨_, cm_fromOf c (by omega), ?_⟩, fun e1 => ⟨_, rfl, ?_, rfl⟩⟩
    · rintro _ _ ⟨rfl, rfl⟩
      refine ⟨_, cm_holeOf _ k1.1, ?_⟩
      rintro _ _ ⟨rfl, rfl⟩
      refine ⟨_, cm_toOf c (by omega), ?_⟩
      rintro _ _ ⟨rfl, rfl⟩
      refine ⟨_, cm_holeOf _ k1.2, ?_⟩
      rintro _ _ ⟨rfl, rfl⟩
      refine ⟨_, cm_fromOf d (by omega), ?_⟩
      rintro _ _ ⟨rfl, rfl⟩
      refine ⟨_, cm_holeOf _ k2.1, ?_⟩
      rintro _ _ ⟨rfl, rfl⟩
      refine ⟨_, cm_isBetween _ _ _, ?_⟩
      rintro _ _ ⟨rfl, rfl⟩
      refine ⟨_, cm_toOf d (by omega), ?_⟩
      rintro _ _ ⟨rfl, rfl⟩
      refine ⟨_, cm_holeOf _ k2.2, ?_⟩
      rintro _ _ ⟨rfl, rfl⟩
      refine ⟨_, cm_isBetween _ _ _, ?_⟩
      rintro _ _ ⟨rfl, rfl⟩
      rename_i h
      rw [bi_0] at e e1
      have hs : sh (mF h) (mT h) c d = false := by rw [e0, e, e1]; rfl
      unfold crs
      rw [hs]
      have b1 : ∀ z, (decide (min (mO h 5 (mF h c).toNat) (mO h 5 (mT h c).toNat) < z) && decide (z < max (mO h 5 (mF h c).toNat) (mO h 5 (mT h c).toNat))) = btw (mO h 5) (mF h) (mT h) c z := fun _ => rfl
      rw [b1, b1]
      refine ⟨fun z => ⟨_, rfl, ?_, rfl⟩, fun z => ⟨_, rfl, ?_, rfl⟩⟩
      · revert z
        cases btw _ _ _ _ _ <;> cases btw _ _ _ _ _ <;> simp [bi]
      · revert z
        cases btw _ _ _ _ _ <;> cases btw _ _ _ _ _ <;> simp [bi]
    · rw [bi_0] at e1
      unfold crs
      rw [e0, (Bool.not_eq_false _).mp e1, Bool.or_true]
      rfl
  · rw [bi_0] at e
    unfold crs
    rw [e0, (Bool.not_eq_false _).mp e, Bool.true_or]
    rfl
theorem cm_distance {h : jH} (a b : Int) (ha : -1000 ≤ a ∧ a ≤ 1000) (hb : -1000 ≤ b ∧ b ≤ 1000) : CF Sm M_X8_distance [jI a, jI b] h (if 0 ≤ a - b then a - b else -(a - b)) := by
  refine en_X8_distance (fun G => vc_X8_distance_0 ⟨fun e => ⟨⟨by omega, by omega⟩, _, rfl, ?_, rfl⟩, fun e => ⟨⟨by omega, by omega⟩, _, rfl, ?_, rfl⟩⟩)
  · split <;> omega
  · split <;> omega
theorem cm_longBy_5 {h : jH} {N L : Nat} (hL : L ≤ 6) (hN : h.1 0 15 = N) (h7 : N ≤ 7) (ho : hok (fun l => h.1 5 (1 + l)) L) (hk : lkL (mF h) (mT h) N L) : CF Sm M_X8_longBy [jR 0, jR 5, jI 1] h (alls (fun l => h.1 5 (1 + l)) (mF h) (mT h) N) := by
  refine en_X8_longBy_0_5 (fun G => vc_X8_longBy_0_5_0 ?_)
  refine jf_fun N (fun c => [jR 0, jR 5, jI 1, jI (alls (fun l => h.1 5 (1 + l)) (mF h) (mT h) c), jI (c : Nat)]) (fun _ => h) (fun c hc k => ?_) ?_ 0 (Nat.zero_le _)
  · have b1 := alls_bd (n := c) ho hk (by omega)
    have b2 := apt_bd (c := c) ho (hk c hc).1 (hk c hc).2
    have k1 := hk c hc
    have o1 := ho (mF h c).toNat (by omega)
    have o2 := ho (mT h c).toNat (by omega)
    refine vc_X8_longBy_0_5_5 ⟨fun q => absurd q (by omega), fun q => ⟨_, cm_fromOf c (by omega), ?_⟩⟩
    rintro _ _ ⟨rfl, rfl⟩
    refine ⟨⟨by omega, by omega⟩, ⟨by omega, by omega⟩, _, cm_toOf c (by omega), ?_⟩
    rintro _ _ ⟨rfl, rfl⟩
    rename_i h
    refine ⟨⟨by omega, by omega⟩, ⟨by omega, by omega⟩, ?_⟩
    rw [show Int.toNat (1 + mF h c) = 1 + (mF h c).toNat by omega, show Int.toNat (1 + mT h c) = 1 + (mT h c).toNat by omega]
    refine ⟨_, cm_distance _ _ (by simp only at o1; omega) (by simp only at o2; omega), ?_⟩
    rintro _ _ ⟨rfl, rfl⟩
    exact ⟨⟨by unfold apt at b2; simp only at b2 ⊢; omega, by unfold apt at b2; simp only at b2 ⊢; omega⟩, ⟨by omega, by omega⟩, k⟩
  · exact vc_X8_longBy_0_5_5 ⟨fun q => ⟨_, rfl, rfl, rfl⟩, fun q => absurd q (by omega)⟩
theorem cm_longBy_6 {h : jH} {N L : Nat} (hL : L ≤ 6) (hN : h.1 0 15 = N) (h7 : N ≤ 7) (ho : hok (fun l => h.1 6 (1 + l)) L) (hk : lkL (mF h) (mT h) N L) : CF Sm M_X8_longBy [jR 0, jR 6, jI 1] h (alls (fun l => h.1 6 (1 + l)) (mF h) (mT h) N) := by
  refine en_X8_longBy_0_6 (fun G => vc_X8_longBy_0_6_0 ?_)
  refine jf_fun N (fun c => [jR 0, jR 6, jI 1, jI (alls (fun l => h.1 6 (1 + l)) (mF h) (mT h) c), jI (c : Nat)]) (fun _ => h) (fun c hc k => ?_) ?_ 0 (Nat.zero_le _)
  · have b1 := alls_bd (n := c) ho hk (by omega)
    have b2 := apt_bd (c := c) ho (hk c hc).1 (hk c hc).2
    have k1 := hk c hc
    have o1 := ho (mF h c).toNat (by omega)
    have o2 := ho (mT h c).toNat (by omega)
    refine vc_X8_longBy_0_6_5 ⟨fun q => absurd q (by omega), fun q => ⟨_, cm_fromOf c (by omega), ?_⟩⟩
    rintro _ _ ⟨rfl, rfl⟩
    refine ⟨⟨by omega, by omega⟩, ⟨by omega, by omega⟩, _, cm_toOf c (by omega), ?_⟩
    rintro _ _ ⟨rfl, rfl⟩
    rename_i h
    refine ⟨⟨by omega, by omega⟩, ⟨by omega, by omega⟩, ?_⟩
    rw [show Int.toNat (1 + mF h c) = 1 + (mF h c).toNat by omega, show Int.toNat (1 + mT h c) = 1 + (mT h c).toNat by omega]
    refine ⟨_, cm_distance _ _ (by simp only at o1; omega) (by simp only at o2; omega), ?_⟩
    rintro _ _ ⟨rfl, rfl⟩
    exact ⟨⟨by unfold apt at b2; simp only at b2 ⊢; omega, by unfold apt at b2; simp only at b2 ⊢; omega⟩, ⟨by omega, by omega⟩, k⟩
  · exact vc_X8_longBy_0_6_5 ⟨fun q => ⟨_, rfl, rfl, rfl⟩, fun q => absurd q (by omega)⟩
theorem cm_longBy_11 {h : jH} {N L : Nat} (hL : L ≤ 6) (hN : h.1 0 15 = N) (h7 : N ≤ 7) (ho : hok (fun l => h.1 11 (0 + l)) L) (hk : lkL (mF h) (mT h) N L) : CF Sm M_X8_longBy [jR 0, jR 11, jI 0] h (alls (fun l => h.1 11 (0 + l)) (mF h) (mT h) N) := by
  refine en_X8_longBy_0_11 (fun G => vc_X8_longBy_0_11_0 ?_)
  refine jf_fun N (fun c => [jR 0, jR 11, jI 0, jI (alls (fun l => h.1 11 (0 + l)) (mF h) (mT h) c), jI (c : Nat)]) (fun _ => h) (fun c hc k => ?_) ?_ 0 (Nat.zero_le _)
  · have b1 := alls_bd (n := c) ho hk (by omega)
    have b2 := apt_bd (c := c) ho (hk c hc).1 (hk c hc).2
    have k1 := hk c hc
    have o1 := ho (mF h c).toNat (by omega)
    have o2 := ho (mT h c).toNat (by omega)
    refine vc_X8_longBy_0_11_5 ⟨fun q => absurd q (by omega), fun q => ⟨_, cm_fromOf c (by omega), ?_⟩⟩
    rintro _ _ ⟨rfl, rfl⟩
    refine ⟨⟨by omega, by omega⟩, ⟨by omega, by omega⟩, _, cm_toOf c (by omega), ?_⟩
    rintro _ _ ⟨rfl, rfl⟩
    rename_i h
    refine ⟨⟨by omega, by omega⟩, ⟨by omega, by omega⟩, ?_⟩
    rw [show Int.toNat (0 + mF h c) = 0 + (mF h c).toNat by omega, show Int.toNat (0 + mT h c) = 0 + (mT h c).toNat by omega]
    refine ⟨_, cm_distance _ _ (by simp only at o1; omega) (by simp only at o2; omega), ?_⟩
    rintro _ _ ⟨rfl, rfl⟩
    exact ⟨⟨by unfold apt at b2; simp only at b2 ⊢; omega, by unfold apt at b2; simp only at b2 ⊢; omega⟩, ⟨by omega, by omega⟩, k⟩
  · exact vc_X8_longBy_0_11_5 ⟨fun q => ⟨_, rfl, rfl, rfl⟩, fun q => absurd q (by omega)⟩
