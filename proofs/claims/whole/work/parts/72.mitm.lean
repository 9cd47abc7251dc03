/-! reading the text: the model's items -/
def MG (h h' : jH) : Prop := (∀ k, k ≠ 0 → k ≠ 2 → k ≠ 3 → h'.1 k = h.1 k) ∧ h'.2 = h.2 ∧ ∀ j, j = 0 ∨ j = 6 ∨ 12 < j → h'.1 0 j = h.1 0 j
theorem MG.tr {a b c : jH} (h1 : MG a b) (h2 : MG b c) : MG a c := ⟨fun k q1 q2 q3 => by rw [h2.1 k q1 q2 q3, h1.1 k q1 q2 q3], by rw [h2.2.1, h1.2.1], fun j hj => by rw [h2.2.2 j hj, h1.2.2 j hj]⟩
theorem MG.rfl {h : jH} : MG h h := ⟨fun _ _ _ _ => Eq.refl _, Eq.refl _, fun _ _ => Eq.refl _⟩
theorem T0.mg {h h' : jH} (k : T0 h h') : MG h h' := ⟨fun q q1 _ _ => k.1 q q1, k.2.1, fun j hj => k.2.2 j (by omega) (by omega) (by omega) (by omega)⟩
theorem MG.u0 {h : jH} {j : Nat} {v : Int} (hj : 0 < j ∧ j ≤ 12 ∧ j ≠ 6) : MG h (j_up h 0 j v) := ⟨fun _ q _ _ => up_ne q, Eq.refl _, fun i hi => up_out (by omega)⟩
theorem MG.u3 {h : jH} {j : Nat} {v : Int} : MG h (j_up h 3 j v) := ⟨fun _ _ _ q => up_ne q, Eq.refl _, fun i hi => by rw [up_ne (by omega)]⟩
theorem MG.u2 {h : jH} {j : Nat} {v : Int} : MG h (j_up h 2 j v) := ⟨fun _ _ q _ => up_ne q, Eq.refl _, fun i hi => by rw [up_ne (by omega)]⟩
def MD (s : jP) (g : jH) : Prop := g.1 0 7 = s.1 ∧ g.1 0 8 = s.2.1 ∧ g.1 0 9 = s.2.2.1 ∧ g.1 0 11 = (s.2.2.2.1 : Nat) ∧ (∀ l, l < 6 → g.1 2 l = s.2.2.2.2.1 l) ∧ ∀ c, c < s.2.2.2.1 → ∀ k, k < 5 → g.1 3 (5 * c + k) = s.2.2.2.2.2 k c
theorem MD.t0 {s : jP} {h h' : jH} (m : MD s h) (k : T0 h h') : MD s h' := by
  unfold MD at *
  rw [k.1 2 (by omega), k.1 3 (by omega), k.2.2 7 (by omega) (by omega) (by omega) (by omega), k.2.2 8 (by omega) (by omega) (by omega) (by omega), k.2.2 9 (by omega) (by omega) (by omega) (by omega), k.2.2 11 (by omega) (by omega) (by omega) (by omega)]
  exact m
def IPM (h : jH) (it : (Nat ⊕ Nat) × jP) (r : Int) (h' : jH) : Prop := (r = 0 ∨ r = 1) ∧ MG h h' ∧ match it.1 with
  | .inl q => r = 1 ∧ h'.1 0 2 = (q : Nat) ∧ MD it.2 h'
  | .inr f => r = 0 ∧ h'.1 0 3 = (f : Nat)
/-- an item's end -/
theorem cm_tail {h g : jH} {n q : Nat} (it : (Nat ⊕ Nat) × jP) (hn : h.1 0 0 = n) (h200 : n ≤ 200) (ht : ∀ j, j < n → 0 ≤ h.1 1 j ∧ h.1 1 j ≤ 255) (hg : MG h g) (hq : g.1 0 2 = q) (hqn : q ≤ n) (he : it.1 = eno (h.1 1) n (.inl q)) (hd : MD it.2 g) : CT Sm M_X8_isEnd [jR 0] g (jPi (IPM h it)) := by
  have e1 : g.1 1 = h.1 1 := hg.1 1 (by omega) (by omega) (by omega)
  have k := cm_isEnd (h := g) (by rw [hg.2.2 0 (by omega)]; exact hn) h200 hq hqn (by rw [e1]; exact ht)
  refine k.post ?_
  rintro _ u ⟨r, rfl, u0, u1, u2⟩
  rw [e1, ← he] at u2
  refine ⟨r, rfl, u0, hg.tr u1.mg, ?_⟩
  cases hI : it.1 with
  | inl q2 => rw [hI] at u2; exact ⟨u2.1, u2.2, hd.t0 u1⟩
  | inr f => rw [hI] at u2; exact u2
theorem nmo_inl {t : Nat → Int} {n p : Nat} {lo hi un : Int} {q : Nat} (h : (nmo t n (.inl p) lo hi un).2 = .inl q) (hpn : p ≤ n) : q ≤ n := by
  obtain ⟨⟨p1, e, -, e2⟩, -⟩ := nmo_ok h
  cases e
  exact e2 hpn
theorem cm_isHole {h : jH} {n p L : Nat} {s : jP} (hn : h.1 0 0 = n) (h200 : n ≤ 200) (ht : ∀ j, j < n → 0 ≤ h.1 1 j ∧ h.1 1 j ≤ 255) (hp : h.1 0 2 = p) (hpn : p ≤ n) (hm : MD s h) (hL : s.1 = L) (h2 : 2 ≤ L) (h6 : L ≤ 6) : CT Sm M_X8_isHole [jR 0] h (jPi (IPM h (eno (h.1 1) n (nmo (h.1 1) n (nmo (h.1 1) n (.inl p) 0 (s.1 - 1) (-9)).2 0 (s.1 - 1) (-9)).2, (s.1, s.2.1, s.2.2.1, s.2.2.2.1, gvh s.1 s.2.2.2.2.1 (nmo (h.1 1) n (.inl p) 0 (s.1 - 1) (-9)).1 (nmo (h.1 1) n (nmo (h.1 1) n (.inl p) 0 (s.1 - 1) (-9)).2 0 (s.1 - 1) (-9)).1, s.2.2.2.2.2)))) := by
  have m0 := hm.1
  refine en_X8_isHole_0 (fun G => vc_X8_isHole_0_0 ⟨⟨by omega, by omega⟩, _, cm_isNumber hn h200 hp hpn ht 0 _ (by decide) (by omega), ?_⟩)
  rintro r1 g ⟨g0, -, g2⟩
  rw [m0] at g2
  cases hq : (nmo (h.1 1) n (.inl p) 0 (s.1 - 1) (-9)).2 with
  | inr f =>
    rw [hq] at g2
    refine ⟨fun _ => ⟨_, rfl, Or.inl rfl, g0.mg, rfl, g2.2⟩, fun z => absurd g2.1 z⟩
  | inl q1 =>
    rw [hq] at g2
    have k1 := nmo_ok hq
    have q1n := nmo_inl hq hpn
    refine ⟨fun z => absurd z (by omega), fun _ => ?_⟩
    have e7 : g.1 0 7 = s.1 := (hm.t0 g0).1
    have e1 : g.1 1 = h.1 1 := g0.1 1 (by omega)
    refine ⟨⟨by omega, by omega⟩, _, cm_isNumber (h := g) (by rw [g0.2.2 0 (by omega) (by omega) (by omega) (by omega)]; exact hn) h200 g2.2.2 q1n (by rw [e1]; exact ht) 0 _ (by decide) (by omega), ?_⟩
    rintro r2 u ⟨u0, -, u2⟩
    rw [e7, e1] at u2
    have T := g0.tr u0
    cases hq2 : (nmo (h.1 1) n (.inl q1) 0 (s.1 - 1) (-9)).2 with
    | inr f =>
      rw [hq2] at u2
      refine ⟨fun _ => ⟨_, rfl, Or.inl rfl, T.mg, rfl, u2.2⟩, fun z => absurd u2.1 z⟩
    | inl q2 =>
      rw [hq2] at u2
      have k2 := nmo_ok hq2
      have q2n := nmo_inl hq2 q1n
      refine ⟨fun z => absurd z (by omega), fun _ => ?_⟩
      rw [g2.2.1]
      generalize (nmo (h.1 1) n (.inl q1) 0 (s.1 - 1) (-9)).1 = vb at k2 u2 ⊢
      generalize (nmo (h.1 1) n (.inl p) 0 (s.1 - 1) (-9)).1 = va at k1 ⊢
      obtain ⟨l, rfl⟩ : ∃ z : Nat, va = (z : Int) := ⟨va.toNat, by omega⟩
      have M := hm.t0 T
      have u7 : u.1 0 7 = L := by rw [M.1, hL]
      refine jf_loop L (fun o lv w => lv = [jR 0, jI l, jI (o : Nat)] ∧ w = upr u 2 (fun j => if j < o ∧ ¬ j = l ∧ u.1 2 j = vb then u.1 2 l else u.1 2 j)) ?_ ?_ 0 (Nat.zero_le _) _ _ ⟨rfl, (upr_id (fun j => by rw [if_neg (by omega)])).symm⟩
      · rintro o ho lv w ⟨rfl, rfl⟩ kk
        have e0 : (upr u 2 (fun j => if j < o ∧ ¬ j = l ∧ u.1 2 j = vb then u.1 2 l else u.1 2 j)).1 0 = u.1 0 := upr_ne (by omega)
        refine vc_X8_isHole_0_39 ⟨fun z => absurd z (by rw [e0]; omega), fun _ => ?_⟩
        rw [e0, upr_same, Int.toNat_natCast, Int.toNat_natCast, if_neg (by omega : ¬ (o < o ∧ ¬ o = l ∧ u.1 2 o = vb)), if_neg (by omega : ¬ (l < o ∧ ¬ l = l ∧ u.1 2 l = vb)), u2.2.1]
        refine ⟨fun z => ⟨by omega, ⟨by omega, by omega⟩, kk _ _ ⟨rfl, ?_⟩⟩, fun z => ⟨by omega, fun z2 => ⟨by omega, ⟨by omega, by omega⟩, kk _ _ ⟨rfl, ?_⟩⟩, fun z2 => ⟨⟨by omega, by omega⟩, kk _ _ ⟨rfl, ?_⟩⟩⟩⟩
        · rw [up_upr]
          congr 1
          funext j
          by_cases q : j = o
          · rw [if_pos q, if_neg (by omega), q]
          · rw [if_neg q]
            by_cases q3 : j < o ∧ ¬ j = l ∧ u.1 2 j = vb
            · rw [if_pos q3, if_pos ⟨by omega, q3.2⟩]
            · rw [if_neg q3, if_neg (fun w => q3 ⟨by omega, w.2⟩)]
        · rw [up_upr]
          congr 1
          funext j
          by_cases q : j = o
          · rw [if_pos q, if_pos ⟨by omega, by omega, by rw [q]; exact z2⟩]
          · rw [if_neg q]
            by_cases q3 : j < o ∧ ¬ j = l ∧ u.1 2 j = vb
            · rw [if_pos q3, if_pos ⟨by omega, q3.2⟩]
            · rw [if_neg q3, if_neg (fun w => q3 ⟨by omega, w.2⟩)]
        · rw [up_upr]
          congr 1
          funext j
          by_cases q : j = o
          · rw [if_pos q, if_neg (by rw [q]; exact fun w => z2 w.2.2), q]
          · rw [if_neg q]
            by_cases q3 : j < o ∧ ¬ j = l ∧ u.1 2 j = vb
            · rw [if_pos q3, if_pos ⟨by omega, q3.2⟩]
            · rw [if_neg q3, if_neg (fun w => q3 ⟨by omega, w.2⟩)]
      · rintro lv w ⟨rfl, rfl⟩
        have e0 : (upr u 2 (fun j => if j < L ∧ ¬ j = l ∧ u.1 2 j = vb then u.1 2 l else u.1 2 j)).1 0 = u.1 0 := upr_ne (by omega)
        refine vc_X8_isHole_0_39 ⟨fun _ => ⟨by omega, ?_⟩, fun z => absurd (by rw [e0]; omega) z⟩
        rw [e0, Int.toNat_natCast, u2.2.1, up_upr]
        have hG : MG h (upr u 2 (fun j => if j = l then vb else if j < L ∧ ¬ j = l ∧ u.1 2 j = vb then u.1 2 l else u.1 2 j)) := T.mg.tr ⟨fun k _ q _ => upr_ne q, rfl, fun j hj => by rw [upr_ne (by omega)]⟩
        refine ⟨_, cm_tail (h := h) (n := n) (q := q2) (eno (h.1 1) n (.inl q2), (s.1, s.2.1, s.2.2.1, s.2.2.2.1, gvh s.1 s.2.2.2.2.1 (l : Int) vb, s.2.2.2.2.2)) hn h200 ht hG (by rw [upr_ne (by omega)]; exact u2.2.2) q2n rfl ?_, ?_⟩
        · refine ⟨by rw [upr_ne (by omega)]; exact M.1, by rw [upr_ne (by omega)]; exact M.2.1, by rw [upr_ne (by omega)]; exact M.2.2.1, by rw [upr_ne (by omega)]; exact M.2.2.2.1, fun j hj => ?_, fun c hc k hk => by rw [upr_ne (by omega)]; exact M.2.2.2.2.2 c hc k hk⟩
          rw [upr_same]
          dsimp only
          unfold gvh
          rw [Int.toNat_natCast, ← M.2.2.2.2.1 l (by omega), ← M.2.2.2.2.1 j hj, hL]
          by_cases q : j = l
          · rw [if_pos q, if_pos (by omega)]
          · rw [if_neg q, if_neg (show ¬ ((j : Int) = (l : Int)) by omega)]
            by_cases q3 : j < L ∧ u.1 2 j = vb
            · rw [if_pos ⟨q3.1, q, q3.2⟩, if_pos ⟨by omega, q3.2⟩]
            · rw [if_neg (fun w => q3 ⟨w.1, w.2.2⟩), if_neg (fun w => q3 ⟨by omega, w.2⟩)]
        · rintro rr v hv
          refine ⟨hv.1, _, rfl, ?_⟩
          exact hv
theorem nmo_un {t : Nat → Int} {n p : Nat} {lo hi un : Int} (hlo : 0 ≤ lo) : (∀ f, (nmo t n (.inl p) lo hi (-9)).2 = .inr f → (nmo t n (.inl p) lo hi un).2 = .inr f) ∧ (∀ q, (nmo t n (.inl p) lo hi (-9)).2 = .inl q → ((nmo t n (.inl p) lo hi (-9)).1 ≠ un → nmo t n (.inl p) lo hi un = nmo t n (.inl p) lo hi (-9)) ∧ ((nmo t n (.inl p) lo hi (-9)).1 = un → (nmo t n (.inl p) lo hi un).2 = .inr (sk t n p))) := by
  have e : ∀ v, nmo t n (.inl p) lo hi v = (match nm t n p lo hi v with
    | .inl (v, q) => (v, .inl q)
    | .inr s => (lo, .inr s)) := fun _ => rfl
  rw [e, e]
  unfold nm
  generalize hv : cval t (sk t n p) (dg t n (sk t n p) - sk t n p) = v
  by_cases c : dg t n (sk t n p) = sk t n p ∨ (t (sk t n p) = 48 ∧ sk t n p + 1 < dg t n (sk t n p)) ∨ v < lo ∨ hi < v ∨ v = -9
  · rw [if_pos c]
    have c2 : dg t n (sk t n p) = sk t n p ∨ (t (sk t n p) = 48 ∧ sk t n p + 1 < dg t n (sk t n p)) ∨ v < lo ∨ hi < v ∨ v = un := by omega
    rw [if_pos c2]
    exact ⟨fun f hf => hf, fun q hq => (by cases hq)⟩
  · rw [if_neg c]
    refine ⟨fun f hf => (by cases hf), fun q hq => ⟨fun hne => ?_, fun he => ?_⟩⟩
    · rw [if_neg (by dsimp only at hne; omega)]
    · rw [if_pos (by dsimp only at he; omega)]
theorem cN_r {t : Nat → Int} {n : Nat} {L : Int} {o : Nat ⊕ Nat} {k f : Nat} (h : (cN t n L o k).2 = .inr f) : ∀ d, (cN t n L o (k + d)).2 = .inr f := by
  intro d
  induction d with
  | zero => exact h
  | succ d ih =>
    show (nmo t n (cN t n L o (k + d)).2 _ _ _).2 = _
    rw [ih]
    rfl
theorem cm_isCallItem {h : jH} {n p N : Nat} {s : jP} (hn : h.1 0 0 = n) (h200 : n ≤ 200) (ht : ∀ j, j < n → 0 ≤ h.1 1 j ∧ h.1 1 j ≤ 255) (hp : h.1 0 2 = p) (hpn : p ≤ n) (hm : MD s h) (hL : 2 ≤ s.1 ∧ s.1 ≤ 6) (hN : s.2.2.2.1 = N) (h7 : N < 7) : CT Sm M_X8_isCallItem [jR 0] h (jPi (IPM h (eno (h.1 1) n (cN (h.1 1) n s.1 (.inl p) 5).2, (s.1, s.2.1, s.2.2.1, s.2.2.2.1 + 1, s.2.2.2.2.1, fun k j => if j = s.2.2.2.1 then (cN (h.1 1) n s.1 (.inl p) 5).1 k else s.2.2.2.2.2 k j)))) := by
  obtain ⟨m1, m2, m3, m4, m5, m6⟩ := id hm
  rw [hN] at m4 m6 ⊢
  have e5 : 5 * (h.1 0 11) = ((5 * N : Nat) : Int) := by rw [m4]; omega
  refine en_X8_isCallItem_0 (fun G => vc_X8_isCallItem_0_0 ⟨by rw [e5]; exact ⟨by omega, by omega⟩, ?_⟩)
  rw [e5]
  refine jf_loop 5 (fun k lv g => ∃ (u3 : jV) (q : Nat), lv = [jR 0, jI ((5 * N : Nat) : Int), jI (k : Nat), u3] ∧ MG h g ∧ g.1 2 = h.1 2 ∧ (∀ j, j = 7 ∨ j = 8 ∨ j = 9 ∨ j = 11 → g.1 0 j = h.1 0 j) ∧ (cN (h.1 1) n s.1 (.inl p) k).2 = .inl q ∧ g.1 0 2 = (q : Nat) ∧ q ≤ n ∧ (∀ j, j < 5 * N → g.1 3 j = h.1 3 j) ∧ ∀ i, i < k → g.1 3 (5 * N + i) = (cN (h.1 1) n s.1 (.inl p) k).1 i) ?_ ?_ 0 (by decide) _ _ ⟨_, p, rfl, MG.rfl, rfl, fun _ _ => rfl, rfl, hp, hpn, fun _ _ => rfl, fun i hi => by omega⟩
  · rintro k hk lv g ⟨u3, q, rfl, g1, g2, g3, g4, g5, g6, g7, g8⟩ kk
    have e1 : g.1 1 = h.1 1 := g1.1 1 (by omega) (by omega) (by omega)
    have e0 : g.1 0 0 = (n : Nat) := by rw [g1.2.2 0 (by omega)]; exact hn
    have eL : g.1 0 7 = s.1 := by rw [g3 7 (by omega)]; exact m1
    have ch : chi s.1 k ≤ 99 := by unfold chi; split <;> (try split) <;> (try split) <;> omega
    have stp : (cN (h.1 1) n s.1 (.inl p) (k + 1)) = (fun j => if j = k then (nmo (h.1 1) n (.inl q) (if k = 3 then 1 else 0) (chi s.1 k) (if k = 2 then (cN (h.1 1) n s.1 (.inl p) k).1 1 else -9)).1 else (cN (h.1 1) n s.1 (.inl p) k).1 j, (nmo (h.1 1) n (.inl q) (if k = 3 then 1 else 0) (chi s.1 k) (if k = 2 then (cN (h.1 1) n s.1 (.inl p) k).1 1 else -9)).2) := by rw [← g4]; rfl
    have stop : ∀ (f : Nat) (u : jH) (x3 : Int), (cN (h.1 1) n s.1 (.inl p) (k + 1)).2 = .inr f → MG h u → u.1 0 3 = (f : Nat) → WV Sm G M_X8_isCallItem (jPi (IPM h (eno (h.1 1) n (cN (h.1 1) n s.1 (.inl p) 5).2, (s.1, s.2.1, s.2.2.1, N + 1, s.2.2.2.2.1, fun k j => if j = N then (cN (h.1 1) n s.1 (.inl p) 5).1 k else s.2.2.2.2.2 k j)))) 88 [jR 0, jI ((5 * N : Nat) : Int), jI (k : Nat), jI x3] [] u := by
      intro f u x3 hf hu hu3
      have c5 := cN_r hf (4 - k)
      rw [show k + 1 + (4 - k) = 5 by omega] at c5
      refine vc_X8_isCallItem_0_88 ⟨_, rfl, Or.inl rfl, hu, ?_⟩
      rw [c5]
      exact ⟨rfl, hu3⟩
    have main : WV Sm G M_X8_isCallItem (jPi (IPM h (eno (h.1 1) n (cN (h.1 1) n s.1 (.inl p) 5).2, (s.1, s.2.1, s.2.2.1, N + 1, s.2.2.2.2.1, fun k j => if j = N then (cN (h.1 1) n s.1 (.inl p) 5).1 k else s.2.2.2.2.2 k j)))) 61 [jR 0, jI ((5 * N : Nat) : Int), jI (k : Nat), jI (chi s.1 k)] [jI (if k = 3 then 1 else 0), jR 0] g := by
      refine vc_X8_isCallItem_0_61 ⟨_, cm_isNumber e0 h200 g5 g6 (by rw [e1]; exact ht) _ _ (by split <;> omega) ch, ?_⟩
      rintro r u ⟨u0, u1, u2⟩
      rw [e1] at u1 u2
      have hu : MG h u := g1.tr u0.mg
      have u3_ : u.1 3 = g.1 3 := u0.1 3 (by omega)
      have nu := nmo_un (t := h.1 1) (n := n) (p := q) (lo := if k = 3 then 1 else 0) (hi := chi s.1 k) (un := if k = 2 then (cN (h.1 1) n s.1 (.inl p) k).1 1 else -9) (by split <;> omega)
      cases hq : (nmo (h.1 1) n (.inl q) (if k = 3 then 1 else 0) (chi s.1 k) (-9)).2 with
      | inr f =>
        rw [hq] at u2
        exact ⟨fun _ => stop f u _ (by rw [stp]; exact nu.1 f hq) hu u2.2, fun z => absurd u2.1 z⟩
      | inl q2 =>
        rw [hq] at u2
        have nu2 := nu.2 q2 hq
        have q2n := nmo_inl hq g6
        have nxt : (nmo (h.1 1) n (.inl q) (if k = 3 then 1 else 0) (chi s.1 k) (-9)).1 ≠ (if k = 2 then (cN (h.1 1) n s.1 (.inl p) k).1 1 else -9) → WV Sm G M_X8_isCallItem (jPi (IPM h (eno (h.1 1) n (cN (h.1 1) n s.1 (.inl p) 5).2, (s.1, s.2.1, s.2.2.1, N + 1, s.2.2.2.2.1, fun k j => if j = N then (cN (h.1 1) n s.1 (.inl p) 5).1 k else s.2.2.2.2.2 k j)))) 90 [jR 0, jI ((5 * N : Nat) : Int), jI (k : Nat), jI (chi s.1 k)] [] u := by
          intro hne
          have en := nu2.1 hne
          refine vc_X8_isCallItem_0_90 ⟨⟨by omega, by omega⟩, by omega, ⟨by omega, by omega⟩, ?_⟩
          rw [show Int.toNat (((5 * N : Nat) : Int) + (k : Int)) = 5 * N + k by omega]
          refine kk _ _ ⟨_, q2, rfl, hu.tr MG.u3, by rw [up_ne (by omega), u0.1 2 (by omega)]; exact g2, fun j hj => by rw [up_ne (by omega), u0.2.2 j (by omega) (by omega) (by omega) (by omega)]; exact g3 j hj, by rw [stp]; dsimp only; rw [en]; exact hq, by rw [up_ne (by omega)]; exact u2.2.2, q2n, fun j hj => by rw [up_out (by omega), u3_]; exact g7 j hj, fun i hi => ?_⟩
          rw [stp]
          dsimp only
          by_cases ei : i = k
          · rw [ei, up_eq, if_pos rfl, en]; exact u2.2.1
          · rw [up_out (by omega), if_neg ei, u3_]; exact g8 i (by omega)
        refine ⟨fun z => absurd z (by omega), fun _ => ⟨fun k2 => ?_, fun k2 => nxt ?_⟩⟩
        · have k2 : k = 2 := by omega
          refine ⟨⟨by omega, by omega⟩, by omega, ?_⟩
          rw [show Int.toNat (((5 * N : Nat) : Int) + 1) = 5 * N + 1 by omega, u3_, g8 1 (by omega), u2.2.1]
          rw [if_pos k2] at nxt nu2 stp
          exact ⟨fun z => stop (sk (h.1 1) n q) u _ (by rw [stp]; exact nu2.2 z) hu u1, fun z => nxt z⟩
        · have k2 : ¬ k = 2 := by omega
          rw [if_neg k2]
          have := (nmo_ok hq).2
          exact this.2.2
    have p49 : ∀ y0 : Int, y0 = chi s.1 k → WV Sm G M_X8_isCallItem (jPi (IPM h (eno (h.1 1) n (cN (h.1 1) n s.1 (.inl p) 5).2, (s.1, s.2.1, s.2.2.1, N + 1, s.2.2.2.2.1, fun k j => if j = N then (cN (h.1 1) n s.1 (.inl p) 5).1 k else s.2.2.2.2.2 k j)))) 49 [jR 0, jI ((5 * N : Nat) : Int), jI (k : Nat), u3] [jI y0] g := by
      intro y0 hy
      rw [hy]
      refine vc_X8_isCallItem_0_49 ⟨fun z => ?_, fun z => ?_⟩
      · rw [if_pos (by omega)] at main; exact main
      · rw [if_neg (by omega)] at main; exact main
    refine vc_X8_isCallItem_0_9 ⟨fun z => absurd z (by omega), fun _ => ⟨fun z => p49 _ ?_, fun z => ⟨fun z3 => ⟨fun z4 => p49 _ ?_, fun z4 => p49 _ ?_⟩, fun z3 => ⟨⟨by omega, by omega⟩, p49 _ ?_⟩⟩⟩⟩
    · unfold chi; rw [if_pos (by omega)]
    · unfold chi; rw [if_neg (by omega), if_neg (by omega), if_pos (by omega)]
    · unfold chi; rw [if_neg (by omega), if_neg (by omega), if_neg (by omega)]
    · unfold chi; rw [if_neg (by omega), if_pos (by omega), eL]
  · rintro lv g ⟨u3, q, rfl, g1, g2, g3, g4, g5, g6, g7, g8⟩
    refine vc_X8_isCallItem_0_9 ⟨fun _ => ?_, fun z => absurd (by decide) z⟩
    have e11 : g.1 0 11 = (N : Nat) := by rw [g3 11 (by omega)]; exact m4
    rw [e11]
    refine ⟨⟨by omega, by omega⟩, _, cm_tail (h := h) (n := n) (q := q) (eno (h.1 1) n (cN (h.1 1) n s.1 (.inl p) 5).2, (s.1, s.2.1, s.2.2.1, N + 1, s.2.2.2.2.1, fun k j => if j = N then (cN (h.1 1) n s.1 (.inl p) 5).1 k else s.2.2.2.2.2 k j)) hn h200 ht (g1.tr (MG.u0 (by omega))) (by rw [up_out (by omega)]; exact g5) g6 (by rw [g4]) ?_, ?_⟩
    · refine ⟨by rw [up_out (by omega), g3 7 (by omega)]; exact m1, by rw [up_out (by omega), g3 8 (by omega)]; exact m2, by rw [up_out (by omega), g3 9 (by omega)]; exact m3, by rw [up_eq]; rfl, fun l hl => by rw [up_ne (by omega), g2]; exact m5 l hl, fun c hc k hk => ?_⟩
      have hc : c < N + 1 := hc
      rw [up_ne (by omega)]
      dsimp only
      by_cases ec : c = N
      · rw [if_pos ec, ec]; exact g8 k hk
      · rw [if_neg ec, g7 _ (by omega)]; exact m6 c (by omega) k hk
    · rintro rr v hv
      exact ⟨hv.1, _, rfl, hv⟩
