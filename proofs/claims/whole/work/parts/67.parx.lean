/-! reading the text: what is read, and the class -/
def scf (P : Int → Bool) (t : Nat → Int) (n : Nat) : Nat → Nat → Nat
  | 0, p => p
  | f + 1, p => if p < n ∧ P (t p) = true then scf P t n f (p + 1) else p
/-- the first place from p on at which P doesn't hold -/
def sc (P : Int → Bool) (t : Nat → Int) (n p : Nat) : Nat := scf P t n (n - p) p
theorem scn_eq {P : Int → Bool} {t : Nat → Int} {n p : Nat} : sc P t n p = if p < n ∧ P (t p) = true then sc P t n (p + 1) else p := by
  unfold sc
  by_cases h : p < n
  · obtain ⟨d, hd⟩ : ∃ d, n - p = d + 1 := ⟨n - p - 1, by omega⟩
    rw [hd, show n - (p + 1) = d by omega]
    rfl
  · rw [if_neg (fun q => h q.1), show n - p = 0 by omega]
    rfl
theorem sc_bd {P : Int → Bool} {t : Nat → Int} {n : Nat} : ∀ d p, n - p = d → p ≤ sc P t n p ∧ (p ≤ n → sc P t n p ≤ n) ∧ ∀ j, p ≤ j → j < sc P t n p → P (t j) = true := by
  intro d
  induction d with
  | zero =>
    intro p hp
    rw [scn_eq, if_neg (by omega)]
    exact ⟨by omega, fun q => q, fun j h1 h2 => by omega⟩
  | succ d ih =>
    intro p hp
    rw [scn_eq]
    split
    · rename_i h
      have := ih (p + 1) (by omega)
      refine ⟨by omega, fun _ => this.2.1 (by omega), fun j h1 h2 => ?_⟩
      by_cases e : j = p
      · rw [e]; exact h.2
      · exact this.2.2 j (by omega) h2
    · exact ⟨by omega, fun q => q, fun j h1 h2 => by omega⟩
def isb (c : Int) : Bool := c == 32
def isd (c : Int) : Bool := decide (48 ≤ c) && decide (c ≤ 57)
abbrev sk (t : Nat → Int) (n p : Nat) : Nat := sc isb t n p
abbrev dg (t : Nat → Int) (n p : Nat) : Nat := sc isd t n p
theorem sk_bd {t : Nat → Int} {n p : Nat} : p ≤ sk t n p ∧ (p ≤ n → sk t n p ≤ n) := ⟨(sc_bd _ p rfl).1, (sc_bd _ p rfl).2.1⟩
theorem dg_bd {t : Nat → Int} {n p : Nat} : p ≤ dg t n p ∧ (p ≤ n → dg t n p ≤ n) := ⟨(sc_bd _ p rfl).1, (sc_bd _ p rfl).2.1⟩
theorem sk_no {t : Nat → Int} {n p : Nat} (h : ¬ p < n) : sk t n p = p := by
  unfold sk
  rw [scn_eq, if_neg (fun q => h q.1)]
theorem dg_no {t : Nat → Int} {n p : Nat} (h : ¬ (p < n ∧ isd (t p) = true)) : dg t n p = p := by
  unfold dg
  rw [scn_eq, if_neg h]
theorem dg_s {t : Nat → Int} {n p : Nat} (h : p < n ∧ isd (t p) = true) : dg t n p = dg t n (p + 1) := by
  show sc isd t n p = sc isd t n (p + 1)
  rw [scn_eq, if_pos h]
theorem sk_s {t : Nat → Int} {n p : Nat} (h : p < n ∧ t p = 32) : sk t n p = sk t n (p + 1) := by
  show sc isb t n p = sc isb t n (p + 1)
  rw [scn_eq, if_pos ⟨h.1, by simp [isb, h.2]⟩]
theorem sk_no2 {t : Nat → Int} {n p : Nat} (h : ¬ t p = 32) : sk t n p = p := by
  unfold sk
  rw [scn_eq, if_neg (by simp [isb, h])]
def cval (t : Nat → Int) (s : Nat) : Nat → Int
  | 0 => 0
  | k + 1 => min 100 (10 * cval t s k + t (s + k) - 48)
/-- a number from p on: its value and the place behind it, or its place, if it can't stand there -/
def nm (t : Nat → Int) (n p : Nat) (lo hi un : Int) : (Int × Nat) ⊕ Nat :=
  if dg t n (sk t n p) = sk t n p ∨ (t (sk t n p) = 48 ∧ sk t n p + 1 < dg t n (sk t n p)) ∨ cval t (sk t n p) (dg t n (sk t n p) - sk t n p) < lo ∨ hi < cval t (sk t n p) (dg t n (sk t n p) - sk t n p) ∨ cval t (sk t n p) (dg t n (sk t n p) - sk t n p) = un then .inr (sk t n p)
  else .inl (cval t (sk t n p) (dg t n (sk t n p) - sk t n p), dg t n (sk t n p))
def nmo (t : Nat → Int) (n : Nat) (o : Nat ⊕ Nat) (lo hi un : Int) : Int × (Nat ⊕ Nat) := match o with
  | .inr s => (lo, .inr s)
  | .inl p => match nm t n p lo hi un with
    | .inl (v, q) => (v, .inl q)
    | .inr s => (lo, .inr s)
def eno (t : Nat → Int) (n : Nat) (o : Nat ⊕ Nat) : Nat ⊕ Nat := match o with
  | .inr s => .inr s
  | .inl p => if sk t n p < n ∧ t (sk t n p) = 59 then .inl (sk t n p + 1) else .inr (sk t n p)
/-- how the reader stands: at a place, or with a fault -/
def S9 (n : Nat) (o : Nat ⊕ Nat) (h : jH) : Prop := h.1 9 2 = n ∧ match o with
  | .inl p => h.1 9 3 = p ∧ p ≤ n ∧ h.1 9 4 = -1
  | .inr s => h.1 9 4 = s ∧ s ≤ n ∧ ∃ q : Nat, q ≤ n + 1 ∧ h.1 9 3 = q
/-- only the place and the fault have changed -/
def R9 (h h' : jH) : Prop := (∀ k, k ≠ 9 → h'.1 k = h.1 k) ∧ h'.2 = h.2 ∧ ∀ j, j ≠ 3 → j ≠ 4 → h'.1 9 j = h.1 9 j
theorem R9.rfl {h : jH} : R9 h h := ⟨fun _ _ => Eq.refl _, Eq.refl _, fun _ _ _ => Eq.refl _⟩
theorem R9.tr {a b c : jH} (h1 : R9 a b) (h2 : R9 b c) : R9 a c := ⟨fun k hk => by rw [h2.1 k hk, h1.1 k hk], by rw [h2.2.1, h1.2.1], fun j q1 q2 => by rw [h2.2.2 j q1 q2, h1.2.2 j q1 q2]⟩
theorem R9.u3 {h : jH} {v : Int} : R9 h (j_up h 9 3 v) := ⟨fun _ hk => up_ne hk, Eq.refl _, fun _ q _ => up_out q⟩
theorem R9.u4 {h : jH} {v : Int} : R9 h (j_up h 9 4 v) := ⟨fun _ hk => up_ne hk, Eq.refl _, fun _ _ q => up_out q⟩
theorem up_id {h : jH} {k j : Nat} {v : Int} (e : h.1 k j = v) : j_up h k j v = h := by
  refine j_ext (fun a b => ?_) rfl
  by_cases q : a = k
  · subst q
    by_cases q2 : b = j
    · subst q2; rw [up_eq, e]
    · rw [up_out q2]
  · rw [up_ne q]
theorem up_up {h : jH} {k j : Nat} {v w : Int} : j_up (j_up h k j v) k j w = j_up h k j w := by
  refine j_ext (fun a b => ?_) rfl
  by_cases q : a = k
  · subst q
    by_cases q2 : b = j
    · subst q2; rw [up_eq, up_eq]
    · rw [up_out q2, up_out q2, up_out q2]
  · rw [up_ne q, up_ne q, up_ne q]
theorem ct_skipBlanks {h : jH} {n p : Nat} (hn : h.1 9 2 = n) (h200 : n ≤ 200) (hp : h.1 9 3 = p) : CU Sx M_X4_skipBlanks [jR 9] h (j_up h 9 3 (sk (h.1 1) n p : Nat)) := by
  refine en_X4_skipBlanks_9 (fun G => ?_)
  have key : ∀ d (q : Nat) (g : jH), n - q = d → g = j_up h 9 3 (q : Nat) → sk (h.1 1) n q = sk (h.1 1) n p → WV Sx G M_X4_skipBlanks (jPv fun h' => h' = j_up h 9 3 (sk (h.1 1) n p : Nat)) 0 [jR 9] [] g := by
    intro d
    induction d with
    | zero =>
      rintro q _ hq rfl e
      have e3 : (j_up h 9 3 (q : Nat)).1 9 3 = (q : Nat) := up_eq
      have e2 : (j_up h 9 3 (q : Nat)).1 9 2 = (n : Nat) := by rw [up_out (by omega)]; exact hn
      refine vc_X4_skipBlanks_9_0 ⟨fun _ => ⟨rfl, ?_⟩, fun z => absurd (by omega) z⟩
      rw [← e, sk_no (by omega)]
    | succ d ih =>
      rintro q _ hq rfl e
      have e3 : (j_up h 9 3 (q : Nat)).1 9 3 = (q : Nat) := up_eq
      have e2 : (j_up h 9 3 (q : Nat)).1 9 2 = (n : Nat) := by rw [up_out (by omega)]; exact hn
      have e1 : (j_up h 9 3 (q : Nat)).1 1 = h.1 1 := up_ne (by omega)
      refine vc_X4_skipBlanks_9_0 ⟨fun z => absurd z (by omega), fun _ => ⟨by omega, ?_⟩⟩
      rw [e3, e1, Int.toNat_natCast]
      refine ⟨fun z => ⟨⟨by omega, by omega⟩, ?_⟩, fun z => ⟨rfl, ?_⟩⟩
      · rw [sk_s ⟨by omega, z⟩] at e
        refine ih (q + 1) _ (by omega) ?_ e
        rw [up_up]
        rfl
      · rw [sk_no2 z] at e
        rw [← e]
  exact key _ p h rfl (up_id hp).symm rfl
def ltr (t : Nat → Int) (n p : Nat) : Int := if p < n then t p else -9
theorem ct_letterHere {h : jH} {n p : Nat} (hn : h.1 9 2 = n) (h200 : n ≤ 200) (hp : h.1 9 3 = p) : CF Sx M_X4_letterHere [jR 9] h (ltr (h.1 1) n p) := by
  refine en_X4_letterHere_9 (fun G => vc_X4_letterHere_9_0 ⟨fun z => absurd z (by omega), fun _ => ⟨fun z => ⟨_, rfl, ?_, rfl⟩, fun z => ⟨by omega, _, rfl, ?_, rfl⟩⟩⟩)
  · unfold ltr; rw [if_neg (by omega)]
  · unfold ltr; rw [if_pos (by omega), hp, Int.toNat_natCast]
theorem ct_isDigit {h : jH} (c : Int) : CF Sx M_X4_isDigit [jI c] h (bi (isd c)) := by
  refine en_X4_isDigit (fun G => vc_X4_isDigit_0 ⟨fun q => ⟨_, rfl, ?_, rfl⟩, fun q => ⟨fun q2 => ⟨_, rfl, ?_, rfl⟩, fun q2 => ⟨_, rfl, ?_, rfl⟩⟩⟩)
  · unfold isd; rw [decide_eq_false (by omega)]; rfl
  · unfold isd; rw [decide_eq_false (show ¬ c ≤ 57 by omega), Bool.and_false]; rfl
  · unfold isd; rw [decide_eq_true (by omega), decide_eq_true (by omega)]; rfl
theorem ct_failAt {h : jH} (w : Int) : CU Sx M_X4_failAt [jR 9, jI w] h (if h.1 9 4 = -1 then j_up h 9 4 w else h) := by
  refine en_X4_failAt_9 (fun G => vc_X4_failAt_9_0 ⟨fun z => ⟨rfl, ?_⟩, fun z => ⟨rfl, ?_⟩⟩)
  · rw [if_pos z]
  · rw [if_neg z]
theorem cval_bd {t : Nat → Int} {s k : Nat} (h : ∀ j, j < k → 0 ≤ t (s + j) - 48) : 0 ≤ cval t s k ∧ cval t s k ≤ 100 := by
  induction k with
  | zero => simp [cval]
  | succ k ih =>
    have := ih (fun j hj => h j (by omega))
    have := h k (by omega)
    simp only [cval]
    omega
theorem ct_readNumber {h : jH} {n : Nat} {o : Nat ⊕ Nat} (ho : S9 n o h) (h200 : n ≤ 200) (ht : ∀ j, j < n → 0 ≤ h.1 1 j ∧ h.1 1 j ≤ 255) (lo hi un : Int) : CT Sx M_X4_readNumber [jR 9, jI lo, jI hi, jI un] h (jPi fun r h' => r = (nmo (h.1 1) n o lo hi un).1 ∧ S9 n (nmo (h.1 1) n o lo hi un).2 h' ∧ R9 h h') := by
  rcases o with p | s
  · obtain ⟨hn, hp, hpn, hf⟩ := ho
    refine en_X4_readNumber_9 (fun G => vc_X4_readNumber_9_0 ⟨_, ct_skipBlanks hn h200 hp, k_gv ?_⟩)
    have sb := sk_bd (t := h.1 1) (n := n) (p := p)
    have db := dg_bd (t := h.1 1) (n := n) (p := sk (h.1 1) n p)
    have f4 : (j_up h 9 3 (sk (h.1 1) n p : Nat)).1 9 4 = -1 := by rw [up_out (by omega)]; exact hf
    have f2 : ∀ q : Nat, (j_up h 9 3 (q : Nat)).1 9 2 = (n : Nat) := fun q => by rw [up_out (by omega)]; exact hn
    refine ⟨fun _ => ⟨_, ct_letterHere (f2 _) h200 up_eq, k_go ?_⟩, fun z => absurd f4 z⟩
    rw [show (j_up h 9 3 (sk (h.1 1) n p : Nat)).1 9 3 = ((sk (h.1 1) n p : Nat) : Int) from up_eq, show (j_up h 9 3 (sk (h.1 1) n p : Nat)).1 1 = h.1 1 from up_ne (by omega)]
    have hnm : nmo (h.1 1) n (.inl p) lo hi un = (match nm (h.1 1) n p lo hi un with
      | .inl (v, q) => (v, .inl q)
      | .inr s => (lo, .inr s)) := rfl
    unfold nm at hnm
    generalize hs : sk (h.1 1) n p = s at sb db hnm ⊢
    -- behind the digits
    have fin : ∀ x5 : Int, x5 = ltr (h.1 1) n s → WV Sx G M_X4_readNumber (jPi fun r h' => r = (nmo (h.1 1) n (.inl p) lo hi un).1 ∧ S9 n (nmo (h.1 1) n (.inl p) lo hi un).2 h' ∧ R9 h h') 83 [jR 9, jI lo, jI hi, jI un, jI (s : Nat), jI x5, jI (cval (h.1 1) s (dg (h.1 1) n s - s)), jU] [] (j_up h 9 3 (dg (h.1 1) n s : Nat)) := by
      intro x5 h5
      have e3 : (j_up h 9 3 (dg (h.1 1) n s : Nat)).1 9 3 = ((dg (h.1 1) n s : Nat) : Int) := up_eq
      have bad : ∀ x7 : Int, (dg (h.1 1) n s = s ∨ (h.1 1 s = 48 ∧ s + 1 < dg (h.1 1) n s) ∨ cval (h.1 1) s (dg (h.1 1) n s - s) < lo ∨ hi < cval (h.1 1) s (dg (h.1 1) n s - s) ∨ cval (h.1 1) s (dg (h.1 1) n s - s) = un) → WV Sx G M_X4_readNumber (jPi fun r h' => r = (nmo (h.1 1) n (.inl p) lo hi un).1 ∧ S9 n (nmo (h.1 1) n (.inl p) lo hi un).2 h' ∧ R9 h h') 140 [jR 9, jI lo, jI hi, jI un, jI (s : Nat), jI x5, jI (cval (h.1 1) s (dg (h.1 1) n s - s)), jI x7] [] (j_up h 9 3 (dg (h.1 1) n s : Nat)) := by
        intro x7 hb
        rw [if_pos hb] at hnm
        refine vc_X4_readNumber_9_140 ⟨_, ct_failAt _, k_gv ⟨_, rfl, by rw [hnm], ?_, ?_⟩⟩
        · rw [if_pos (by rw [up_out (by omega)]; exact hf), hnm]
          exact ⟨by rw [up_out (by omega), f2], up_eq, sb.2 hpn, dg (h.1 1) n s, by have := db.2 (sb.2 hpn); omega, by rw [up_out (by omega), up_eq]⟩
        · rw [if_pos (by rw [up_out (by omega)]; exact hf)]
          exact R9.u3.tr R9.u4
      have m106 : ∀ y0 : Int, (y0 = 0 ↔ ¬ (h.1 1 s = 48 ∧ s + 1 < dg (h.1 1) n s)) ∨ dg (h.1 1) n s = s → WV Sx G M_X4_readNumber (jPi fun r h' => r = (nmo (h.1 1) n (.inl p) lo hi un).1 ∧ S9 n (nmo (h.1 1) n (.inl p) lo hi un).2 h' ∧ R9 h h') 106 [jR 9, jI lo, jI hi, jI un, jI (s : Nat), jI x5, jI (cval (h.1 1) s (dg (h.1 1) n s - s)), jU] [jI y0] (j_up h 9 3 (dg (h.1 1) n s : Nat)) := by
        intro y0 hy
        refine vc_X4_readNumber_9_106 ⟨fun z => bad y0 (Or.inl (by omega)), fun z => ?_⟩
        rw [e3] at z
        have hy : (y0 = 0 ↔ ¬ (h.1 1 s = 48 ∧ s + 1 < dg (h.1 1) n s)) := by
          rcases hy with q | q
          · exact q
          · exact absurd (by omega) z
        refine ⟨fun z0 => ⟨fun z1 => bad y0 (by omega), fun z1 => ⟨fun z2 => bad y0 (by omega), fun z2 => ⟨fun z3 => bad y0 (by omega), fun z3 => ?_⟩⟩⟩, fun z0 => bad y0 (Or.inr (Or.inl (Decidable.byContradiction (fun q => z0 (hy.mpr q)))))⟩
        have hz := hy.mp z0
        rw [if_neg (by omega)] at hnm
        exact ⟨_, rfl, by rw [hnm], by rw [hnm]; exact ⟨f2 _, up_eq, db.2 (sb.2 hpn), by rw [up_out (by omega)]; exact hf⟩, R9.u3⟩
      have l1 : s < n → x5 = h.1 1 s := fun q => by rw [h5]; unfold ltr; rw [if_pos q]
      have l2 : ¬ s < n → dg (h.1 1) n s = s := fun q => dg_no (fun w => q w.1)
      by_cases sn : s < n
      · have l1 := l1 sn
        refine vc_X4_readNumber_9_83 ⟨fun z => ⟨⟨by omega, by have := db.2 (sb.2 hpn); omega⟩, ?_⟩, fun z => m106 0 (Or.inl ⟨fun _ q => z (by omega), fun _ => rfl⟩)⟩
        rw [e3]
        exact ⟨fun q => m106 0 (Or.inl ⟨fun _ q => by omega, fun _ => rfl⟩), fun q => m106 1 (Or.inl ⟨fun w => absurd w (by decide), fun w => absurd ⟨by omega, by omega⟩ w⟩)⟩
      · have l2 := l2 sn
        refine vc_X4_readNumber_9_83 ⟨fun z => ⟨⟨by omega, by have := db.2 (sb.2 hpn); omega⟩, fun _ => m106 0 (Or.inr l2), fun _ => m106 1 (Or.inr l2)⟩, fun z => m106 0 (Or.inr l2)⟩
    -- the digits
    have loop : ∀ d (q : Nat), n - q = d → s ≤ q → q ≤ n → (∀ j, s ≤ j → j < q → isd (h.1 1 j) = true) → dg (h.1 1) n q = dg (h.1 1) n s → WV Sx G M_X4_readNumber (jPi fun r h' => r = (nmo (h.1 1) n (.inl p) lo hi un).1 ∧ S9 n (nmo (h.1 1) n (.inl p) lo hi un).2 h' ∧ R9 h h') 29 [jR 9, jI lo, jI hi, jI un, jI (s : Nat), jI (ltr (h.1 1) n s), jI (cval (h.1 1) s (q - s)), jU] [] (j_up h 9 3 (q : Nat)) := by
      intro d
      induction d with
      | zero =>
        intro q hq hsq hqn hdig e
        have e2 : (j_up h 9 3 (q : Nat)).1 9 3 = (q : Nat) := up_eq
        refine vc_X4_readNumber_9_29 ⟨fun _ => ?_, fun z => absurd (by rw [f2, e2]; omega) z⟩
        rw [dg_no (by omega)] at e
        have := fin _ rfl
        rw [← e] at this
        exact this
      | succ d ih =>
        intro q hq hsq hqn hdig e
        have e2 : (j_up h 9 3 (q : Nat)).1 9 3 = (q : Nat) := up_eq
        have e1 : (j_up h 9 3 (q : Nat)).1 1 = h.1 1 := up_ne (by omega)
        have lq : ltr (h.1 1) n q = h.1 1 q := by unfold ltr; rw [if_pos (by omega)]
        have cb := cval_bd (t := h.1 1) (s := s) (k := q - s) (fun j hj => by
          have := hdig (s + j) (by omega) (by omega)
          simp only [isd, Bool.and_eq_true, decide_eq_true_eq] at this
          omega)
        refine vc_X4_readNumber_9_29 ⟨fun z => absurd z (by rw [f2, e2]; omega), fun _ => ⟨_, ct_letterHere (f2 _) h200 e2, k_go ⟨_, ct_isDigit _, k_go ?_⟩⟩⟩
        rw [e1, lq]
        have tq := ht q (by omega)
        refine ⟨fun z => ?_, fun z => ⟨⟨by omega, by omega⟩, _, ct_letterHere (f2 _) h200 e2, k_go ?_⟩⟩
        · rw [bi_0] at z
          rw [dg_no (by rw [z]; intro w; cases w.2)] at e
          have := fin _ rfl
          rw [← e] at this
          exact this
        · rw [bi_0, Bool.not_eq_false] at z
          rw [e1, lq, e2]
          refine ⟨⟨by omega, by omega⟩, ⟨by omega, by omega⟩, ⟨by omega, by omega⟩, ?_⟩
          rw [up_up]
          have e' := e
          rw [dg_s ⟨by omega, z⟩] at e'
          have := ih (q + 1) (by omega) (by omega) (by omega) (fun j h1 h2 => by
            by_cases ej : j = q
            · rw [ej]; exact z
            · exact hdig j h1 (by omega)) e'
          rw [show q + 1 - s = (q - s) + 1 by omega] at this
          simp only [cval] at this
          rw [show s + (q - s) = q by omega] at this
          exact this
    have := loop _ s rfl (Nat.le_refl _) (sb.2 hpn) (fun j h1 h2 => by omega) rfl
    rw [Nat.sub_self] at this
    exact this
  · obtain ⟨hn, hf, hs, q, hq, hp⟩ := ho
    refine en_X4_readNumber_9 (fun G => vc_X4_readNumber_9_0 ⟨_, ct_skipBlanks hn h200 hp, k_gv ?_⟩)
    have sb := sk_bd (t := h.1 1) (n := n) (p := q)
    have f4 : (j_up h 9 3 (sk (h.1 1) n q : Nat)).1 9 4 = (s : Nat) := by rw [up_out (by omega)]; exact hf
    refine ⟨fun z => absurd z (by omega), fun _ => ⟨_, rfl, rfl, ⟨by rw [up_out (by omega)]; exact hn, f4, hs, sk (h.1 1) n q, ?_, up_eq⟩, R9.u3⟩⟩
    by_cases qn : q ≤ n
    · have := sb.2 qn; omega
    · rw [sk_no (by omega)]
      exact hq
theorem ct_readEnd {h : jH} {n : Nat} {o : Nat ⊕ Nat} (ho : S9 n o h) (h200 : n ≤ 200) : CT Sx M_X4_readEnd [jR 9] h (jPv fun h' => (match eno (h.1 1) n o with
    | .inl p => h'.1 9 3 = p ∧ p ≤ n ∧ h'.1 9 4 = -1
    | .inr s => h'.1 9 4 = s ∧ s ≤ n ∧ ∃ q : Nat, q ≤ n + 2 ∧ h'.1 9 3 = q) ∧ h'.1 9 2 = n ∧ R9 h h') := by
  rcases o with p | s
  · obtain ⟨hn, hp, hpn, hf⟩ := ho
    have sb := sk_bd (t := h.1 1) (n := n) (p := p)
    have sbn := sb.2 hpn
    have f2 : ∀ q : Nat, (j_up h 9 3 (q : Nat)).1 9 2 = (n : Nat) := fun q => by rw [up_out (by omega)]; exact hn
    have f4 : ∀ q : Nat, (j_up h 9 3 (q : Nat)).1 9 4 = -1 := fun q => by rw [up_out (by omega)]; exact hf
    refine en_X4_readEnd_9 (fun G => vc_X4_readEnd_9_0 ⟨_, ct_skipBlanks hn h200 hp, k_gv ⟨_, ct_letterHere (f2 _) h200 up_eq, k_go ?_⟩⟩)
    rw [show (j_up h 9 3 (sk (h.1 1) n p : Nat)).1 9 3 = ((sk (h.1 1) n p : Nat) : Int) from up_eq, show (j_up h 9 3 (sk (h.1 1) n p : Nat)).1 1 = h.1 1 from up_ne (by omega)]
    unfold eno
    dsimp only
    refine ⟨fun z => ⟨⟨by omega, by omega⟩, rfl, ?_, ?_, ?_⟩, fun z => ⟨_, ct_failAt _, k_gv ?_⟩⟩
    · have hl : sk (h.1 1) n p < n ∧ h.1 1 (sk (h.1 1) n p) = 59 := by
        unfold ltr at z
        by_cases q : sk (h.1 1) n p < n
        · rw [if_pos q] at z; exact ⟨q, z⟩
        · rw [if_neg q] at z; exact absurd z (by decide)
      rw [if_pos hl]
      exact ⟨by rw [up_eq]; rfl, by omega, by rw [up_out (by omega), f4]⟩
    · rw [up_out (by omega), f2]
    · exact R9.u3.tr R9.u3
    · have hl : ¬ (sk (h.1 1) n p < n ∧ h.1 1 (sk (h.1 1) n p) = 59) := by
        intro q
        apply z
        unfold ltr
        rw [if_pos q.1]; exact q.2
      rw [if_pos (f4 _), if_neg hl]
      have g3 : (j_up (j_up h 9 3 (sk (h.1 1) n p : Nat)) 9 4 ((sk (h.1 1) n p : Nat) : Int)).1 9 3 = ((sk (h.1 1) n p : Nat) : Int) := by rw [up_out (by omega), up_eq]
      rw [g3]
      refine ⟨⟨by omega, by omega⟩, rfl, ⟨by rw [up_out (by omega), up_eq], sbn, sk (h.1 1) n p + 1, by omega, by rw [up_eq]; rfl⟩, by rw [up_out (by omega), up_out (by omega), f2], (R9.u3.tr R9.u4).tr R9.u3⟩
  · obtain ⟨hn, hf, hs, q, hq, hp⟩ := ho
    have sb := sk_bd (t := h.1 1) (n := n) (p := q)
    have sq : sk (h.1 1) n q ≤ n + 1 := by
      by_cases qn : q ≤ n
      · have := sb.2 qn; omega
      · rw [sk_no (by omega)]
        exact hq
    have f2 : (j_up h 9 3 (sk (h.1 1) n q : Nat)).1 9 2 = (n : Nat) := by rw [up_out (by omega)]; exact hn
    have f4 : (j_up h 9 3 (sk (h.1 1) n q : Nat)).1 9 4 = (s : Nat) := by rw [up_out (by omega)]; exact hf
    refine en_X4_readEnd_9 (fun G => vc_X4_readEnd_9_0 ⟨_, ct_skipBlanks hn h200 hp, k_gv ⟨_, ct_letterHere f2 h200 up_eq, k_go ?_⟩⟩)
    rw [show (j_up h 9 3 (sk (h.1 1) n q : Nat)).1 9 3 = ((sk (h.1 1) n q : Nat) : Int) from up_eq]
    have fin : ∀ h' : jH, h' = j_up (j_up h 9 3 (sk (h.1 1) n q : Nat)) 9 3 ((sk (h.1 1) n q : Nat) + 1 : Int) → (h'.1 9 4 = (s : Nat) ∧ s ≤ n ∧ ∃ q : Nat, q ≤ n + 2 ∧ h'.1 9 3 = q) ∧ h'.1 9 2 = n ∧ R9 h h' := by
      rintro _ rfl
      exact ⟨⟨by rw [up_out (by omega), f4], hs, sk (h.1 1) n q + 1, by omega, by rw [up_eq]; rfl⟩, by rw [up_out (by omega), f2], R9.u3.tr R9.u3⟩
    refine ⟨fun z => ⟨⟨by omega, by omega⟩, rfl, fin _ rfl⟩, fun z => ⟨_, ct_failAt _, k_gv ?_⟩⟩
    rw [if_neg (by omega)]
    rw [show (j_up h 9 3 (sk (h.1 1) n q : Nat)).1 9 3 = ((sk (h.1 1) n q : Nat) : Int) from up_eq]
    exact ⟨⟨by omega, by omega⟩, rfl, fin _ rfl⟩
