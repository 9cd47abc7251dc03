/-! reading the text: the class' items and its whole text -/
theorem ct_readCall {h : jH} {n : Nat} {o : Nat ⊕ Nat} {s : jP} (ho : S9 n o h) (h200 : n ≤ 200) (ht : ∀ j, j < n → 0 ≤ h.1 1 j ∧ h.1 1 j ≤ 255) (hc : CD s h) (hL : 2 ≤ s.1 ∧ s.1 ≤ 6) (h7 : s.2.2.2.1 < 7) : CT Sx M_X4_readCall [jR 9] h (jPv fun h' => S9 n (cN (h.1 1) n s.1 o 5).2 h' ∧ CD (s.1, s.2.1, s.2.2.1, s.2.2.2.1 + 1, s.2.2.2.2.1, fun k j => if j = s.2.2.2.1 then (cN (h.1 1) n s.1 o 5).1 k else s.2.2.2.2.2 k j) h' ∧ XF h h') := by
  obtain ⟨c1, c2, c3, c4, c5, c6⟩ := id hc
  generalize hN : s.2.2.2.1 = N at c4 c6 h7
  refine en_X4_readCall_9 (fun G => vc_X4_readCall_9_0 ⟨_, ct_readNumber ho h200 ht 0 40 (-9), ?_⟩)
  rintro r1 g1 ⟨e1, a1, b1⟩
  rw [c4, Int.toNat_natCast]
  have l1 : g1.1 10 0 = s.1 := by rw [b1.1 10 (by omega)]; exact c1
  have x1 : (j_up g1 12 N r1).1 1 = h.1 1 := by rw [up_ne (by omega), b1.1 1 (by omega)]
  refine ⟨by omega, ⟨by omega, by omega⟩, _, ct_readNumber (a1.cg (up_ne (by omega))) h200 (by rw [x1]; exact ht) 0 _ (-9), ?_⟩
  rintro r2 g2 ⟨e2, a2, b2⟩
  rw [x1, l1] at e2 a2
  have l2 : g2.1 10 0 = s.1 := by rw [b2.1 10 (by omega), up_ne (by omega)]; exact l1
  have x2 : (j_up g2 13 N r2).1 1 = h.1 1 := by rw [up_ne (by omega), b2.1 1 (by omega), x1]
  refine ⟨⟨by omega, by omega⟩, _, ct_readNumber (a2.cg (up_ne (by omega))) h200 (by rw [x2]; exact ht) 0 _ r2, ?_⟩
  rintro r3 g3 ⟨e3, a3, b3⟩
  rw [x2, l2] at e3 a3
  have x3 : (j_up g3 14 N r3).1 1 = h.1 1 := by rw [up_ne (by omega), b3.1 1 (by omega), x2]
  refine ⟨_, ct_readNumber (a3.cg (up_ne (by omega))) h200 (by rw [x3]; exact ht) 1 20 (-9), ?_⟩
  rintro r4 g4 ⟨e4, a4, b4⟩
  rw [x3] at e4 a4
  have x4 : (j_up g4 15 N r4).1 1 = h.1 1 := by rw [up_ne (by omega), b4.1 1 (by omega), x3]
  refine ⟨_, ct_readNumber (a4.cg (up_ne (by omega))) h200 (by rw [x4]; exact ht) 0 9 (-9), ?_⟩
  rintro r5 g5 ⟨e5, a5, b5⟩
  rw [x4] at e5 a5
  have w : ∀ q, 9 < q → q ≤ 16 → q ≠ 12 → q ≠ 13 → q ≠ 14 → q ≠ 15 → g5.1 q = h.1 q := fun q h1 h2 n2 n3 n4 n5 => by
    rw [b5.1 q (by omega), up_ne (by omega), b4.1 q (by omega), up_ne (by omega), b3.1 q (by omega), up_ne (by omega), b2.1 q (by omega), up_ne (by omega), b1.1 q (by omega)]
  have w12 : g5.1 12 = (j_up g1 12 N r1).1 12 := by rw [b5.1 12 (by omega), up_ne (by omega), b4.1 12 (by omega), up_ne (by omega), b3.1 12 (by omega), up_ne (by omega), b2.1 12 (by omega)]
  have w13 : g5.1 13 = (j_up g2 13 N r2).1 13 := by rw [b5.1 13 (by omega), up_ne (by omega), b4.1 13 (by omega), up_ne (by omega), b3.1 13 (by omega)]
  have w14 : g5.1 14 = (j_up g3 14 N r3).1 14 := by rw [b5.1 14 (by omega), up_ne (by omega), b4.1 14 (by omega)]
  have w15 : g5.1 15 = (j_up g4 15 N r4).1 15 := by rw [b5.1 15 (by omega)]
  have v13 : g2.1 13 = h.1 13 := by rw [b2.1 13 (by omega), up_ne (by omega), b1.1 13 (by omega)]
  have v14 : g3.1 14 = h.1 14 := by rw [b3.1 14 (by omega), up_ne (by omega), b2.1 14 (by omega), up_ne (by omega), b1.1 14 (by omega)]
  have v15 : g4.1 15 = h.1 15 := by rw [b4.1 15 (by omega), up_ne (by omega), b3.1 15 (by omega), up_ne (by omega), b2.1 15 (by omega), up_ne (by omega), b1.1 15 (by omega)]
  have w96 : g5.1 9 6 = h.1 9 6 := by
    rw [b5.2.2 6 (by omega) (by omega), up_ne (by omega), b4.2.2 6 (by omega) (by omega), up_ne (by omega), b3.2.2 6 (by omega) (by omega), up_ne (by omega), b2.2.2 6 (by omega) (by omega), up_ne (by omega), b1.2.2 6 (by omega) (by omega)]
  have xf : XF h g5 := ((((b1.xf.tr (XF.u (by omega))).tr (b2.xf.tr (XF.u (by omega)))).tr (b3.xf.tr (XF.u (by omega)))).tr (b4.xf.tr (XF.u (by omega)))).tr b5.xf
  subst e1 e2
  subst e3 e4 e5
  refine ⟨⟨by omega, by omega⟩, rfl, ?_, ?_, xf.tr ((XF.u (by omega)).tr (XF.u (by omega)))⟩
  · refine S9.cg (h := g5) ?_ (by rw [up_ne (by omega), up_ne (by omega)])
    exact a5
  · refine ⟨?_, ?_, ?_, ?_, fun l hl => ?_, fun c hcN => ?_⟩
    · rw [up_out (by omega), up_ne (by omega), w 10 (by omega) (by omega) (by omega) (by omega) (by omega) (by omega)]; exact c1
    · rw [up_out (by omega), up_ne (by omega), w 10 (by omega) (by omega) (by omega) (by omega) (by omega) (by omega)]; exact c2
    · rw [up_ne (by omega), up_ne (by omega), w96]; exact c3
    · rw [up_eq]; rfl
    · rw [up_ne (by omega), up_ne (by omega), w 11 (by omega) (by omega) (by omega) (by omega) (by omega) (by omega)]; exact c5 l hl
    · have hcN : c < N + 1 := hcN
      rw [up_ne (k := 12) (by omega), up_ne (k := 12) (by omega), up_ne (k := 13) (by omega), up_ne (k := 13) (by omega), up_ne (k := 14) (by omega), up_ne (k := 14) (by omega), up_ne (k := 15) (by omega), up_ne (k := 15) (by omega), up_ne (k := 16) (by omega), w12, w13, w14, w15]
      dsimp only
      by_cases q : c = N
      · subst q
        rw [if_pos rfl, if_pos rfl, if_pos rfl, if_pos rfl, if_pos rfl, up_eq, up_eq, up_eq, up_eq, up_eq]
        exact ⟨rfl, rfl, rfl, rfl, rfl⟩
      · rw [if_neg q, if_neg q, if_neg q, if_neg q, if_neg q, up_out q, up_out q, up_out q, up_out q, up_out q, v13, v14, v15, b1.1 12 (by omega), w 16 (by omega) (by omega) (by omega) (by omega) (by omega) (by omega)]
        exact c6 c (by omega)
def ITP (n : Nat) (h : jH) (it : (Nat ⊕ Nat) × jP) (h' : jH) : Prop := (match it.1 with
    | .inl q => h'.1 9 3 = q ∧ q ≤ n ∧ h'.1 9 4 = -1 ∧ CD it.2 h'
    | .inr f => h'.1 9 4 = f ∧ f ≤ n ∧ ∃ q : Nat, q ≤ n + 2 ∧ h'.1 9 3 = q) ∧ XF h h'
theorem eno_ok {t : Nat → Int} {n : Nat} {o : Nat ⊕ Nat} {q : Nat} (h : eno t n o = .inl q) : ∃ p, o = .inl p ∧ p < q ∧ q ≤ n := by
  rcases o with p | s
  · have sb := sk_bd (t := t) (n := n) (p := p)
    unfold eno at h
    dsimp only at h
    split at h
    · rename_i hh
      cases h
      exact ⟨p, rfl, by omega, by omega⟩
    · cases h
  · cases h
theorem ct_tail {G : jG} {h g : jH} {n : Nat} {o : Nat ⊕ Nat} {x1 x2 : Int} (it : (Nat ⊕ Nat) × jP) (ho : S9 n o g) (h200 : n ≤ 200) (hx : XF h g) (he : it.1 = eno (h.1 1) n o) (hc : ∀ q, o = .inl q → CD it.2 g) : WV Sx G M_X4_readItem (jPv (ITP n h it)) 103 [jR 9, jI x1, jI x2] [] g := by
  refine vc_X4_readItem_9_103 ⟨_, ct_readEnd ho h200, ?_⟩
  rintro u ⟨u1, u2, u3⟩
  rw [hx.1 1 (by omega)] at u1
  refine ⟨rfl, ?_, hx.tr u3.xf⟩
  rw [he]
  cases hq : eno (h.1 1) n o with
  | inr f => rw [hq] at u1; exact u1
  | inl q =>
    rw [hq] at u1
    obtain ⟨p, hp, -⟩ := eno_ok hq
    exact ⟨u1.1, u1.2.1, u1.2.2, (hc p hp).r9 u3⟩
theorem ct_readItem {h : jH} {n p items : Nat} {s : jP} (ho : S9 n (.inl p) h) (hpn : p < n) (h200 : n ≤ 200) (ht : ∀ j, j < n → 0 ≤ h.1 1 j ∧ h.1 1 j ≤ 255) (hi : h.1 9 5 = items) (hc : CD s h) (hL : 2 ≤ s.1 ∧ s.1 ≤ 6) (h7 : s.2.2.2.1 ≤ 7) : CT Sx M_X4_readItem [jR 9] h (jPv (ITP n h (itm (h.1 1) n items p s))) := by
  obtain ⟨hn, hp, -, hf⟩ := id ho
  refine en_X4_readItem_9 (fun G => vc_X4_readItem_9_0 ⟨_, ct_letterHere hn h200 hp, k_go ?_⟩)
  have el : ltr (h.1 1) n p = h.1 1 p := by unfold ltr; rw [if_pos hpn]
  rw [el, hp, hi]
  have S1 : S9 n (.inl (p + 1)) (j_up h 9 3 ((p : Int) + 1)) := ⟨by rw [up_out (by omega)]; exact hn, by rw [up_eq]; rfl, by omega, by rw [up_out (by omega)]; exact hf⟩
  have C1 : CD s (j_up h 9 3 ((p : Int) + 1)) := hc.r9 R9.u3
  have X1 : XF h (j_up h 9 3 ((p : Int) + 1)) := R9.u3.xf
  have t1 : (j_up h 9 3 ((p : Int) + 1)).1 1 = h.1 1 := up_ne (by omega)
  have t2 : ∀ j, j < n → 0 ≤ (j_up h 9 3 ((p : Int) + 1)).1 1 j ∧ (j_up h 9 3 ((p : Int) + 1)).1 1 j ≤ 255 := by rw [t1]; exact ht
  have c6 : (j_up h 9 3 ((p : Int) + 1)).1 9 6 = s.2.2.1 := C1.2.2.1
  have c7 : (j_up h 9 3 ((p : Int) + 1)).1 10 2 = (s.2.2.2.1 : Nat) := C1.2.2.2.1
  generalize j_up h 9 3 ((p : Int) + 1) = g at S1 C1 X1 t1 t2 c6 c7 ⊢
  have m98 : ¬ (h.1 1 p = 108 ∧ items = 0) → ¬ (h.1 1 p = 120 ∧ s.2.2.1 = 0) → ¬ h.1 1 p = 104 → ¬ (h.1 1 p = 99 ∧ s.2.2.2.1 < 7) → WV Sx G M_X4_readItem (jPv (ITP n h (itm (h.1 1) n items p s))) 98 [jR 9, jI p, jI (h.1 1 p)] [] g := by
    intro q1 q2 q3 q4
    refine vc_X4_readItem_9_98 ⟨_, ct_failAt _, k_gv ?_⟩
    rw [if_pos S1.2.2.2]
    have e : itm (h.1 1) n items p s = (.inr p, s) := by unfold itm; rw [if_neg q1, if_neg q2, if_neg q3, if_neg q4]
    rw [e]
    exact ct_tail (o := .inr p) _ ⟨by rw [up_out (by omega)]; exact S1.1, up_eq, by omega, p + 1, by omega, by rw [up_out (by omega)]; exact S1.2.1⟩ h200 (X1.tr R9.u4.xf) rfl (fun q z => by cases z)
  have m60 : ¬ (h.1 1 p = 108 ∧ items = 0) → ¬ (h.1 1 p = 120 ∧ s.2.2.1 = 0) → WV Sx G M_X4_readItem (jPv (ITP n h (itm (h.1 1) n items p s))) 60 [jR 9, jI p, jI (h.1 1 p)] [] g := by
    intro q1 q2
    refine vc_X4_readItem_9_60 ⟨fun q3 => ?_, fun q3 => ⟨fun q4 => ⟨fun z => m98 q1 q2 q3 (fun w => by omega), fun z => ?_⟩, fun q4 => m98 q1 q2 q3 (fun w => q4 w.1)⟩⟩
    · obtain ⟨L, hLL⟩ : ∃ L : Nat, s.1 = (L : Int) := ⟨s.1.toNat, by omega⟩
      refine ⟨_, ct_readHole S1 h200 t2 C1 hLL (by omega) (by omega), ?_⟩
      rintro u ⟨u1, u2, u3⟩
      rw [t1] at u1 u2
      refine ct_tail _ u1 h200 (X1.tr u3) ?_ ?_
      · unfold itm; rw [if_neg q1, if_neg q2, if_pos q3]
      · unfold itm; rw [if_neg q1, if_neg q2, if_pos q3]; exact u2
    · have h77 : s.2.2.2.1 < 7 := by omega
      refine ⟨_, ct_readCall S1 h200 t2 C1 hL h77, ?_⟩
      rintro u ⟨u1, u2, u3⟩
      rw [t1] at u1 u2
      refine ct_tail _ u1 h200 (X1.tr u3) ?_ ?_
      · unfold itm; rw [if_neg q1, if_neg q2, if_neg q3, if_pos ⟨q4, h77⟩]
      · unfold itm; rw [if_neg q1, if_neg q2, if_neg q3, if_pos ⟨q4, h77⟩]; exact fun _ _ => u2
  have m40 : ¬ (h.1 1 p = 108 ∧ items = 0) → WV Sx G M_X4_readItem (jPv (ITP n h (itm (h.1 1) n items p s))) 40 [jR 9, jI p, jI (h.1 1 p)] [] g := by
    intro q1
    refine vc_X4_readItem_9_40 ⟨fun q2 => ⟨fun z => ?_, fun z => m60 q1 (fun w => z (by rw [c6]; exact w.2))⟩, fun q2 => m60 q1 (fun w => q2 w.1)⟩
    have q2' : h.1 1 p = 120 ∧ s.2.2.1 = 0 := ⟨q2, by rw [← c6]; exact z⟩
    refine ⟨_, ct_readCords S1 h200 t2 C1, ?_⟩
    rintro u ⟨u1, u2, u3⟩
    rw [t1] at u1 u2
    refine ct_tail _ u1 h200 (X1.tr u3) ?_ ?_
    · unfold itm; rw [if_neg q1, if_pos q2']
    · unfold itm; rw [if_neg q1, if_pos q2']; exact fun _ _ => u2
  refine ⟨⟨by omega, by omega⟩, fun q1 => ⟨fun z => ?_, fun z => m40 (fun w => z (by omega))⟩, fun q1 => m40 (fun w => q1 w.1)⟩
  have q1' : h.1 1 p = 108 ∧ items = 0 := ⟨q1, by omega⟩
  refine ⟨_, ct_readLines S1 h200 t2 C1, ?_⟩
  rintro u ⟨u1, u2, u3⟩
  rw [t1] at u1 u2
  refine ct_tail _ u1 h200 (X1.tr u3) ?_ ?_
  · unfold itm; rw [if_pos q1']
  · unfold itm; rw [if_pos q1']; exact fun _ _ => u2
