/-! reading the text: the model's tokens -/
def T0 (h h' : jH) : Prop := (∀ k, k ≠ 0 → h'.1 k = h.1 k) ∧ h'.2 = h.2 ∧ ∀ j, j ≠ 2 → j ≠ 3 → j ≠ 4 → j ≠ 5 → h'.1 0 j = h.1 0 j
theorem T0.rfl {h : jH} : T0 h h := ⟨fun _ _ => Eq.refl _, Eq.refl _, fun _ _ _ _ _ => Eq.refl _⟩
theorem T0.tr {a b c : jH} (h1 : T0 a b) (h2 : T0 b c) : T0 a c := ⟨fun k hk => by rw [h2.1 k hk, h1.1 k hk], by rw [h2.2.1, h1.2.1], fun j q1 q2 q3 q4 => by rw [h2.2.2 j q1 q2 q3 q4, h1.2.2 j q1 q2 q3 q4]⟩
theorem T0.u {h : jH} {j : Nat} {v : Int} (hj : j = 2 ∨ j = 3 ∨ j = 4 ∨ j = 5) : T0 h (j_up h 0 j v) := ⟨fun _ hk => up_ne hk, Eq.refl _, fun i _ _ _ _ => up_out (by omega)⟩
theorem isd_iff {c : Int} : isd c = true ↔ 48 ≤ c ∧ c ≤ 57 := by
  unfold isd
  simp only [Bool.and_eq_true, decide_eq_true_eq]
/-- a token that is read: none, a letter, a good number, a bad one -/
def NTK (t : Nat → Int) (n p : Nat) (h' : jH) : Prop := h'.1 0 3 = (sk t n p : Nat) ∧ (¬ sk t n p < n → h'.1 0 4 = -2) ∧ (sk t n p < n → isd (t (sk t n p)) = false → h'.1 0 4 = t (sk t n p) ∧ h'.1 0 2 = ((sk t n p + 1 : Nat) : Int)) ∧ (sk t n p < n → isd (t (sk t n p)) = true → ((¬ (t (sk t n p) = 48 ∧ sk t n p + 1 < dg t n (sk t n p)) ∧ cval t (sk t n p) (dg t n (sk t n p) - sk t n p) ≤ 99) ∧ h'.1 0 4 = -1 ∧ h'.1 0 5 = cval t (sk t n p) (dg t n (sk t n p) - sk t n p) ∧ h'.1 0 2 = (dg t n (sk t n p) : Nat)) ∨ (¬ (¬ (t (sk t n p) = 48 ∧ sk t n p + 1 < dg t n (sk t n p)) ∧ cval t (sk t n p) (dg t n (sk t n p) - sk t n p) ≤ 99) ∧ h'.1 0 4 = -3))
theorem cval_3 {t : Nat → Int} {s k : Nat} (h : ∀ j, j < k + 3 → isd (t (s + j)) = true) (h0 : ¬ t s = 48) : cval t s (k + 3) = 100 := by
  induction k with
  | zero =>
    have a0 := isd_iff.mp (h 0 (by omega))
    have a1 := isd_iff.mp (h 1 (by omega))
    have a2 := isd_iff.mp (h 2 (by omega))
    rw [Nat.add_zero] at a0
    show min 100 (10 * (min 100 (10 * (min 100 (10 * (0 : Int) + t (s + 0) - 48)) + t (s + 1) - 48)) + t (s + 2) - 48) = 100
    rw [Nat.add_zero]
    omega
  | succ k ih =>
    have a := isd_iff.mp (h (k + 3) (by omega))
    have := ih (fun j hj => h j (by omega))
    show min 100 (10 * cval t s (k + 3) + t (s + (k + 3)) - 48) = 100
    omega
theorem cm_nextToken {h : jH} {n p : Nat} (hn : h.1 0 0 = n) (h200 : n ≤ 200) (hp : h.1 0 2 = p) (hpn : p ≤ n) (ht : ∀ j, j < n → 0 ≤ h.1 1 j ∧ h.1 1 j ≤ 255) : CT Sm M_X8_nextToken [jR 0] h (jPv fun h' => T0 h h' ∧ NTK (h.1 1) n p h') := by
  refine en_X8_nextToken_0 (fun G => ?_)
  have sb := sk_bd (t := h.1 1) (n := n) (p := p)
  have db := dg_bd (t := h.1 1) (n := n) (p := sk (h.1 1) n p)
  have sbn := sb.2 hpn
  generalize hs : sk (h.1 1) n p = s at sb db sbn
  -- the digits
  have fin : ∀ u : jH, T0 h u → u.1 0 3 = (s : Nat) → u.1 0 2 = (dg (h.1 1) n s : Nat) → s < dg (h.1 1) n s → (∀ j, s ≤ j → j < dg (h.1 1) n s → isd (h.1 1 j) = true) → u.1 0 5 = (if dg (h.1 1) n s - s ≤ 2 then cval (h.1 1) s (dg (h.1 1) n s - s) else 100) → (j_rg ((u.1 0 2) - (u.1 0 3))) ∧ ((((u.1 0 2) - (u.1 0 3)) ≤ 1 → ((u.1 0 5) ≤ 99 → (jPv fun h' => T0 h h' ∧ NTK (h.1 1) n p h') none (j_up u 0 4 (-1))) ∧ (¬ (u.1 0 5) ≤ 99 → (jPv fun h' => T0 h h' ∧ NTK (h.1 1) n p h') none (j_up u 0 4 (-3)))) ∧ (¬ ((u.1 0 2) - (u.1 0 3)) ≤ 1 → (0 ≤ u.1 0 3 ∧ u.1 0 3 < 200) ∧ (((u.1 1 (Int.toNat (u.1 0 3))) = 48 → (jPv fun h' => T0 h h' ∧ NTK (h.1 1) n p h') none (j_up u 0 4 (-3))) ∧ (¬ (u.1 1 (Int.toNat (u.1 0 3))) = 48 → ((u.1 0 5) ≤ 99 → (jPv fun h' => T0 h h' ∧ NTK (h.1 1) n p h') none (j_up u 0 4 (-1))) ∧ (¬ (u.1 0 5) ≤ 99 → (jPv fun h' => T0 h h' ∧ NTK (h.1 1) n p h') none (j_up u 0 4 (-3))))))) := by
    intro u hu u3 u2 hd hall u5
    have dn_ := db.2 sbn
    have c3 : 2 < dg (h.1 1) n s - s → ¬ h.1 1 s = 48 → cval (h.1 1) s (dg (h.1 1) n s - s) = 100 := fun q w => by
      obtain ⟨k, hk⟩ : ∃ k, dg (h.1 1) n s - s = k + 3 := ⟨dg (h.1 1) n s - s - 3, by omega⟩
      rw [hk]
      exact cval_3 (fun j hj => hall (s + j) (by omega) (by omega)) w
    have good : (¬ (h.1 1 s = 48 ∧ s + 1 < dg (h.1 1) n s) ∧ u.1 0 5 ≤ 99) → (jPv fun h' => T0 h h' ∧ NTK (h.1 1) n p h') none (j_up u 0 4 (-1)) := by
      intro q
      have hk : dg (h.1 1) n s - s ≤ 2 := Decidable.byContradiction (fun w => by rw [if_neg w] at u5; omega)
      rw [if_pos hk] at u5
      refine ⟨rfl, hu.tr (T0.u (by omega)), ?_⟩
      unfold NTK
      rw [hs]
      exact ⟨by rw [up_out (by omega)]; exact u3, fun z => absurd (by omega) z, fun _ z => absurd (hall s (Nat.le_refl _) hd) (by rw [z]; decide), fun _ _ => Or.inl ⟨⟨q.1, by omega⟩, up_eq, by rw [up_out (by omega)]; exact u5, by rw [up_out (by omega)]; exact u2⟩⟩
    have bad : ¬ (¬ (h.1 1 s = 48 ∧ s + 1 < dg (h.1 1) n s) ∧ u.1 0 5 ≤ 99) → (jPv fun h' => T0 h h' ∧ NTK (h.1 1) n p h') none (j_up u 0 4 (-3)) := by
      intro q
      refine ⟨rfl, hu.tr (T0.u (by omega)), ?_⟩
      unfold NTK
      rw [hs]
      refine ⟨by rw [up_out (by omega)]; exact u3, fun z => absurd (by omega) z, fun _ z => absurd (hall s (Nat.le_refl _) hd) (by rw [z]; decide), fun _ _ => Or.inr ⟨fun w => q ⟨w.1, ?_⟩, up_eq⟩⟩
      by_cases hk : dg (h.1 1) n s - s ≤ 2
      · rw [if_pos hk] at u5
        rw [u5]; exact w.2
      · have := c3 (by omega) (fun z => w.1 ⟨z, by omega⟩)
        omega
    have e1 : u.1 1 (Int.toNat (u.1 0 3)) = h.1 1 s := by rw [u3, Int.toNat_natCast, hu.1 1 (by omega)]
    rw [e1]
    refine ⟨⟨by omega, by omega⟩, fun q => ⟨fun w => good ⟨by omega, w⟩, fun w => bad (by omega)⟩, fun q => ⟨by omega, fun w => bad (by omega), fun w => ⟨fun z => good ⟨by omega, z⟩, fun z => bad (by omega)⟩⟩⟩
  have loop : ∀ d (q : Nat) (u : jH), n - q = d → s < n → s ≤ q → q ≤ n → T0 h u → u.1 0 3 = (s : Nat) → u.1 0 2 = (q : Nat) → (∀ j, s ≤ j → j < q → isd (h.1 1 j) = true) → isd (h.1 1 s) = true → dg (h.1 1) n q = dg (h.1 1) n s → u.1 0 5 = (if q - s ≤ 2 then cval (h.1 1) s (q - s) else 100) → WV Sm G M_X8_nextToken (jPv fun h' => T0 h h' ∧ NTK (h.1 1) n p h') 90 [jR 0] [] u := by
    intro d
    induction d with
    | zero =>
      intro q u hd hsn h1 h2 hu u3 u2 hall hds e u5
      have u0 : u.1 0 0 = (n : Nat) := by rw [hu.2.2 0 (by omega) (by omega) (by omega) (by omega)]; exact hn
      rw [dg_no (by omega)] at e
      refine vc_X8_nextToken_0_90 ⟨fun _ => fin u hu u3 (by rw [← e]; exact u2) (by omega) (by rw [← e]; exact hall) (by rw [← e]; exact u5), fun z => absurd (by omega) z⟩
    | succ d ih =>
      intro q u hd hsn h1 h2 hu u3 u2 hall hds e u5
      have u0 : u.1 0 0 = (n : Nat) := by rw [hu.2.2 0 (by omega) (by omega) (by omega) (by omega)]; exact hn
      have e1 : u.1 1 (Int.toNat (u.1 0 2)) = h.1 1 q := by rw [u2, Int.toNat_natCast, hu.1 1 (by omega)]
      refine vc_X8_nextToken_0_90 ⟨fun z => absurd z (by omega), fun _ => ⟨by omega, _, cm_in _ 48 57, k_go ?_⟩⟩
      rw [e1]
      by_cases hq : 48 ≤ h.1 1 q ∧ h.1 1 q ≤ 57
      · rw [if_pos hq]
        refine ⟨fun z => absurd z (by decide), fun _ => ⟨⟨by omega, by omega⟩, ?_⟩⟩
        have hall2 : ∀ j, s ≤ j → j < q + 1 → isd (h.1 1 j) = true := fun j j1 j2 => by
          by_cases ej : j = q
          · rw [ej]; exact isd_iff.mpr hq
          · exact hall j j1 (by omega)
        rw [dg_s ⟨by omega, isd_iff.mpr hq⟩] at e
        refine ⟨fun z => ⟨⟨by omega, by omega⟩, ?_⟩, fun z => ?_⟩
        · refine ih (q + 1) _ (by omega) hsn (by omega) (by omega) (hu.tr ((T0.u (by omega)).tr (T0.u (by omega)))) (by rw [up_out (by omega), up_out (by omega)]; exact u3) (by rw [up_eq, u2]; rfl) hall2 hds e ?_
          rw [up_out (by omega), up_eq, if_neg (by omega)]
        · have kb : q - s ≤ 1 := by omega
          rw [if_pos (by omega)] at u5
          have cb : 0 ≤ cval (h.1 1) s (q - s) ∧ cval (h.1 1) s (q - s) ≤ 9 := by
            rcases (show q - s = 0 ∨ q - s = 1 by omega) with w | w
            · rw [w]; show (0 : Int) ≤ 0 ∧ (0 : Int) ≤ 9; omega
            · rw [w]
              have a := isd_iff.mp (hall s (by omega) (by omega))
              show 0 ≤ min 100 (10 * (0 : Int) + h.1 1 (s + 0) - 48) ∧ min 100 (10 * (0 : Int) + h.1 1 (s + 0) - 48) ≤ 9
              rw [Nat.add_zero]
              omega
          refine ⟨⟨by omega, by omega⟩, by omega, ⟨by omega, by omega⟩, ⟨by omega, by omega⟩, ⟨by omega, by omega⟩, ?_⟩
          refine ih (q + 1) _ (by omega) hsn (by omega) (by omega) (hu.tr ((T0.u (by omega)).tr (T0.u (by omega)))) (by rw [up_out (by omega), up_out (by omega)]; exact u3) (by rw [up_eq, u2]; rfl) hall2 hds e ?_
          rw [up_out (by omega), up_eq, if_pos (by omega), show q + 1 - s = (q - s) + 1 by omega]
          simp only [cval]
          rw [show s + (q - s) = q by omega, u5]
          omega
      · rw [if_neg hq]
        rw [dg_no (fun w => hq (isd_iff.mp w.2))] at e
        have hqs : s < q := by
          rcases Nat.lt_or_ge s q with w | w
          · exact w
          · have : q = s := by omega
            rw [this] at hq
            exact absurd (isd_iff.mp hds) hq
        refine ⟨fun _ => fin u hu u3 (by rw [← e]; exact u2) (by omega) (by rw [← e]; exact hall) (by rw [← e]; exact u5), fun z => absurd rfl z⟩
  -- blanks
  have key : ∀ d (q : Nat) (g : jH), n - q = d → q ≤ n → g = j_up h 0 2 (q : Nat) → sk (h.1 1) n q = s → WV Sm G M_X8_nextToken (jPv fun h' => T0 h h' ∧ NTK (h.1 1) n p h') 0 [jR 0] [] g := by
    intro d
    induction d with
    | zero =>
      rintro q _ hd hq rfl e
      have e2 : (j_up h 0 2 (q : Nat)).1 0 2 = (q : Nat) := up_eq
      have e0 : (j_up h 0 2 (q : Nat)).1 0 0 = (n : Nat) := by rw [up_out (by omega)]; exact hn
      rw [sk_no (by omega)] at e
      refine vc_X8_nextToken_0_0 ⟨fun _ => ⟨fun _ => ⟨rfl, (T0.u (by omega)).tr ((T0.u (by omega)).tr ((T0.u (by omega)).tr (T0.u (by omega)))), ?_⟩, fun z => absurd (by omega) z⟩, fun z => absurd (by omega) z⟩
      unfold NTK
      rw [hs]
      exact ⟨by rw [up_out (by omega), up_out (by omega), up_eq, e2, e], fun _ => up_eq, fun z => absurd z (by omega), fun z => absurd z (by omega)⟩
    | succ d ih =>
      rintro q _ hd hq rfl e
      have e2 : (j_up h 0 2 (q : Nat)).1 0 2 = (q : Nat) := up_eq
      have e0 : (j_up h 0 2 (q : Nat)).1 0 0 = (n : Nat) := by rw [up_out (by omega)]; exact hn
      have e1 : (j_up h 0 2 (q : Nat)).1 1 = h.1 1 := up_ne (by omega)
      refine vc_X8_nextToken_0_0 ⟨fun z => absurd z (by omega), fun _ => ⟨by omega, ?_⟩⟩
      rw [e2, e1, Int.toNat_natCast]
      refine ⟨fun z => ⟨⟨by omega, by omega⟩, ih (q + 1) _ (by omega) (by omega) (by rw [up_up]; rfl) (by rw [← e, sk_s ⟨by omega, z⟩])⟩, fun z => ?_⟩
      rw [sk_no2 z] at e
      subst e
      refine ⟨fun w => absurd w (by omega), fun _ => ⟨_, cm_in _ 48 57, k_go ?_⟩⟩
      have f2 : (j_up (j_up (j_up h 0 2 (q : Nat)) 0 3 (q : Nat)) 0 5 0).1 0 2 = (q : Nat) := by rw [up_out (by omega), up_out (by omega), up_eq]
      have f1 : (j_up (j_up (j_up h 0 2 (q : Nat)) 0 3 (q : Nat)) 0 5 0).1 1 = h.1 1 := by rw [up_ne (by omega), up_ne (by omega), up_ne (by omega)]
      by_cases hd2 : 48 ≤ h.1 1 q ∧ h.1 1 q ≤ 57
      · rw [if_pos hd2]
        refine ⟨fun w => absurd w (by decide), fun _ => loop _ q _ rfl (by omega) (Nat.le_refl _) hq ((T0.u (by omega)).tr ((T0.u (by omega)).tr (T0.u (by omega)))) (by rw [up_out (by omega), up_eq]) f2 (fun j j1 j2 => by omega) (isd_iff.mpr hd2) rfl ?_⟩
        rw [up_eq, Nat.sub_self, if_pos (by omega)]
        rfl
      · rw [if_neg hd2]
        refine ⟨fun _ => ⟨by omega, ⟨by omega, by omega⟩, rfl, (T0.u (by omega)).tr ((T0.u (by omega)).tr ((T0.u (by omega)).tr ((T0.u (by omega)).tr (T0.u (by omega))))), ?_⟩, fun w => absurd rfl w⟩
        rw [f2, f1, Int.toNat_natCast]
        unfold NTK
        rw [hs]
        exact ⟨by rw [up_out (by omega), up_out (by omega), up_out (by omega), up_eq], fun w => absurd (by omega) w, fun _ _ => ⟨by rw [up_out (by omega), up_eq], by rw [up_eq]; rfl⟩, fun _ w => absurd (isd_iff.mp w) hd2⟩
  exact key _ p h rfl hpn (up_id hp).symm hs
theorem cm_isNumber {h : jH} {n p : Nat} (hn : h.1 0 0 = n) (h200 : n ≤ 200) (hp : h.1 0 2 = p) (hpn : p ≤ n) (ht : ∀ j, j < n → 0 ≤ h.1 1 j ∧ h.1 1 j ≤ 255) (lo hi : Int) (hlo : 0 ≤ lo) (hhi : hi ≤ 99) : CT Sm M_X8_isNumber [jR 0, jI lo, jI hi] h (jPi fun r h' => T0 h h' ∧ h'.1 0 3 = (sk (h.1 1) n p : Nat) ∧ match (nmo (h.1 1) n (.inl p) lo hi (-9)).2 with
    | .inl q => r = 1 ∧ h'.1 0 5 = (nmo (h.1 1) n (.inl p) lo hi (-9)).1 ∧ h'.1 0 2 = (q : Nat)
    | .inr f => r = 0 ∧ h'.1 0 3 = (f : Nat)) := by
  refine en_X8_isNumber_0 (fun G => vc_X8_isNumber_0_0 ⟨_, cm_nextToken hn h200 hp hpn ht, ?_⟩)
  rintro u ⟨u0, u1, u2, u3, u4⟩
  have hnm : nmo (h.1 1) n (.inl p) lo hi (-9) = (match nm (h.1 1) n p lo hi (-9) with
    | .inl (v, q) => (v, .inl q)
    | .inr s => (lo, .inr s)) := rfl
  unfold nm at hnm
  generalize hs : sk (h.1 1) n p = s at u1 u2 u3 u4 hnm ⊢
  have no : (dg (h.1 1) n s = s ∨ (h.1 1 s = 48 ∧ s + 1 < dg (h.1 1) n s) ∨ cval (h.1 1) s (dg (h.1 1) n s - s) < lo ∨ hi < cval (h.1 1) s (dg (h.1 1) n s - s) ∨ cval (h.1 1) s (dg (h.1 1) n s - s) = -9) → (jPi fun r h' => T0 h h' ∧ h'.1 0 3 = (s : Nat) ∧ match (nmo (h.1 1) n (.inl p) lo hi (-9)).2 with
    | .inl q => r = 1 ∧ h'.1 0 5 = (nmo (h.1 1) n (.inl p) lo hi (-9)).1 ∧ h'.1 0 2 = (q : Nat)
    | .inr f => r = 0 ∧ h'.1 0 3 = (f : Nat)) (some (jI 0)) u := by
    intro q
    rw [if_pos q] at hnm
    refine ⟨_, rfl, u0, u1, ?_⟩
    rw [hnm]
    exact ⟨rfl, u1⟩
  by_cases c1 : s < n
  · by_cases c2 : isd (h.1 1 s) = true
    · have db := dg_bd (t := h.1 1) (n := n) (p := s + 1)
      have dgs := dg_s ⟨c1, c2⟩
      rcases u4 c1 c2 with ⟨⟨g1, g2⟩, g3, g4, g5⟩ | ⟨g1, g3⟩
      · refine ⟨fun _ => ⟨_, cm_in _ _ _, k_go ?_⟩, fun z => absurd g3 z⟩
        rw [g4]
        by_cases c3 : lo ≤ cval (h.1 1) s (dg (h.1 1) n s - s) ∧ cval (h.1 1) s (dg (h.1 1) n s - s) ≤ hi
        · rw [if_pos c3]
          refine ⟨fun z => absurd z (by decide), fun _ => ⟨_, rfl, u0, u1, ?_⟩⟩
          rw [if_neg (by omega)] at hnm
          rw [hnm]
          exact ⟨rfl, g4, g5⟩
        · rw [if_neg c3]
          exact ⟨fun _ => no (by omega), fun z => absurd rfl z⟩
      · refine ⟨fun z => absurd z (by omega), fun _ => no ?_⟩
        by_cases w : h.1 1 s = 48 ∧ s + 1 < dg (h.1 1) n s
        · exact Or.inr (Or.inl w)
        · have : ¬ cval (h.1 1) s (dg (h.1 1) n s - s) ≤ 99 := fun z => g1 ⟨w, z⟩
          omega
    · have c2 := (Bool.not_eq_true _).mp c2
      have g := u3 c1 c2
      have tb := ht s c1
      refine ⟨fun z => absurd z (by omega), fun _ => no (Or.inl (dg_no (fun w => by rw [c2] at w; cases w.2)))⟩
  · have g := u2 c1
    exact ⟨fun z => absurd z (by omega), fun _ => no (Or.inl (dg_no (fun w => c1 w.1)))⟩
theorem cm_isEnd {h : jH} {n p : Nat} (hn : h.1 0 0 = n) (h200 : n ≤ 200) (hp : h.1 0 2 = p) (hpn : p ≤ n) (ht : ∀ j, j < n → 0 ≤ h.1 1 j ∧ h.1 1 j ≤ 255) : CT Sm M_X8_isEnd [jR 0] h (jPi fun r h' => (r = 0 ∨ r = 1) ∧ T0 h h' ∧ match eno (h.1 1) n (.inl p) with
    | .inl q => r = 1 ∧ h'.1 0 2 = (q : Nat)
    | .inr f => r = 0 ∧ h'.1 0 3 = (f : Nat)) := by
  refine en_X8_isEnd_0 (fun G => vc_X8_isEnd_0_0 ⟨_, cm_nextToken hn h200 hp hpn ht, ?_⟩)
  rintro u ⟨u0, u1, u2, u3, u4⟩
  unfold eno
  dsimp only
  generalize sk (h.1 1) n p = s at u1 u2 u3 u4 ⊢
  by_cases c : s < n ∧ h.1 1 s = 59
  · have nd : isd (h.1 1 s) = false := (Bool.not_eq_true _).mp (fun w => by have := isd_iff.mp w; omega)
    have g := u3 c.1 nd
    rw [if_pos c]
    exact ⟨fun _ => ⟨_, rfl, Or.inr rfl, u0, rfl, g.2⟩, fun z => absurd (by rw [g.1]; exact c.2) z⟩
  · rw [if_neg c]
    refine ⟨fun z => absurd z ?_, fun _ => ⟨_, rfl, Or.inl rfl, u0, rfl, u1⟩⟩
    by_cases c1 : s < n
    · by_cases c2 : isd (h.1 1 s) = true
      · rcases u4 c1 c2 with ⟨-, g, -⟩ | ⟨-, g⟩
        · omega
        · omega
      · have g := (u3 c1 ((Bool.not_eq_true _).mp c2)).1
        intro z
        exact c ⟨c1, by omega⟩
    · have g := u2 c1
      omega
