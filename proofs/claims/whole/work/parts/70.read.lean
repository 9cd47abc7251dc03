/-! reading the text: the whole of it -/
def prs (t : Nat → Int) (n : Nat) : Nat → Nat → Nat → jP → (Nat × jP) ⊕ Nat
  | 0, items, _, s => .inl (items, s)
  | f + 1, items, p, s => if p < n then (match itm t n items p s with
    | (.inr q, _) => .inr q
    | (.inl q, s2) => prs t n f (items + 1) (sk t n q) s2) else .inl (items, s)
def SV (s : jP) : Prop := (2 ≤ s.1 ∧ s.1 ≤ 6) ∧ (1 ≤ s.2.1 ∧ s.2.1 ≤ 4) ∧ s.2.2.2.1 ≤ 7 ∧ (∀ l, l < 6 → 0 ≤ s.2.2.2.2.1 l ∧ s.2.2.2.2.1 l < 6 ∧ ((l : Int) < s.1 → s.2.2.2.2.1 l < s.1) ∧ (s.1 ≤ (l : Int) → s.2.2.2.2.1 l = (l : Int))) ∧ (∀ i j, i < 6 → j < 6 → s.2.2.2.2.1 i = s.2.2.2.2.1 j → i = j) ∧ ∀ c, c < s.2.2.2.1 → (0 ≤ s.2.2.2.2.2 0 c ∧ s.2.2.2.2.2 0 c ≤ 40) ∧ (0 ≤ s.2.2.2.2.2 1 c ∧ s.2.2.2.2.2 1 c < s.1) ∧ (0 ≤ s.2.2.2.2.2 2 c ∧ s.2.2.2.2.2 2 c < s.1) ∧ (1 ≤ s.2.2.2.2.2 3 c ∧ s.2.2.2.2.2 3 c ≤ 20) ∧ (0 ≤ s.2.2.2.2.2 4 c ∧ s.2.2.2.2.2 4 c ≤ 9)
def IV (items : Nat) (s : jP) : Prop := SV s ∧ (items = 0 → s.2.2.2.1 = 0 ∧ ∀ l, l < 6 → s.2.2.2.2.1 l = (l : Int))
theorem cN_ok {t : Nat → Int} {n : Nat} {L : Int} {p : Nat} : ∀ {k q : Nat}, (cN t n L (.inl p) k).2 = .inl q → p ≤ q ∧ ∀ j, j < k → (if j = 3 then 1 else 0) ≤ (cN t n L (.inl p) k).1 j ∧ (cN t n L (.inl p) k).1 j ≤ chi L j := by
  intro k
  induction k with
  | zero => intro q h; cases h; exact ⟨Nat.le_refl _, fun j hj => by omega⟩
  | succ k ih =>
    intro q h
    have h1 := nmo_ok (show (nmo t n (cN t n L (.inl p) k).2 (if k = 3 then 1 else 0) (chi L k) (if k = 2 then (cN t n L (.inl p) k).1 1 else -9)).2 = .inl q from h)
    obtain ⟨⟨p1, e1, e2, -⟩, e3, e4, -⟩ := h1
    have h2 := ih e1
    refine ⟨by omega, fun j hj => ?_⟩
    simp only [cN]
    by_cases ej : j = k
    · rw [if_pos ej, ej]; exact ⟨e3, e4⟩
    · rw [if_neg ej]; exact h2.2 j (by omega)
theorem gvh_inj {L : Int} {ho : Nat → Int} {a : Nat} {b : Int} (ha : (a : Int) < L) (hL : L ≤ 6) (hb : 0 ≤ b ∧ b < L) (h1 : ∀ l : Nat, l < 6 → L ≤ (l : Int) → ho l = (l : Int)) (h2 : ∀ i j : Nat, i < 6 → j < 6 → ho i = ho j → i = j) : ∀ i j : Nat, i < 6 → j < 6 → gvh L ho a b i = gvh L ho a b j → i = j := by
  intro i j hi hj e
  unfold gvh at e
  rw [Int.toNat_natCast] at e
  have k1 := h2 a i (by omega) hi
  have k2 := h2 a j (by omega) hj
  have k3 := h2 i j hi hj
  have k4 := h1 i hi
  have k5 := h1 j hj
  by_cases i1 : (i : Int) = (a : Int) <;> by_cases j1 : (j : Int) = (a : Int)
  · omega
  · rw [if_pos i1, if_neg j1] at e
    by_cases j2 : (j : Int) < L ∧ ho j = b
    · rw [if_pos j2] at e; omega
    · rw [if_neg j2] at e; omega
  · rw [if_neg i1, if_pos j1] at e
    by_cases i2 : (i : Int) < L ∧ ho i = b
    · rw [if_pos i2] at e; omega
    · rw [if_neg i2] at e; omega
  · rw [if_neg i1, if_neg j1] at e
    by_cases i2 : (i : Int) < L ∧ ho i = b <;> by_cases j2 : (j : Int) < L ∧ ho j = b
    · omega
    · rw [if_pos i2, if_neg j2] at e; omega
    · rw [if_neg i2, if_pos j2] at e; omega
    · rw [if_neg i2, if_neg j2] at e; omega
theorem itm_sv {t : Nat → Int} {n items p q : Nat} {s : jP} (hv : IV items s) (h : (itm t n items p s).1 = .inl q) : p < q ∧ q ≤ n ∧ IV (items + 1) (itm t n items p s).2 := by
  obtain ⟨⟨v1, v2, v3, v4, v5, v6⟩, v7⟩ := hv
  unfold itm at h ⊢
  by_cases c1 : t p = 108 ∧ items = 0
  · rw [if_pos c1] at h ⊢
    obtain ⟨p1, e1, e2, e3⟩ := eno_ok h
    have k := nmo_ok e1
    obtain ⟨p0, k1, k2, -⟩ := k.1
    cases k1
    have w := v7 c1.2
    refine ⟨by omega, e3, ⟨⟨k.2.1, k.2.2.1⟩, v2, by rw [show _ = 0 from w.1]; omega, fun l hl => ?_, v5, fun c hc => absurd hc (by rw [show _ = 0 from w.1]; omega)⟩, fun z => by omega⟩
    have := v4 l hl
    have w2 := w.2 l hl
    dsimp only
    exact ⟨this.1, this.2.1, fun z => by rw [w2]; exact z, fun _ => w2⟩
  · rw [if_neg c1] at h ⊢
    by_cases c2 : t p = 120 ∧ s.2.2.1 = 0
    · rw [if_pos c2] at h ⊢
      obtain ⟨p1, e1, e2, e3⟩ := eno_ok h
      have k := nmo_ok e1
      obtain ⟨p0, k1, k2, -⟩ := k.1
      cases k1
      exact ⟨by omega, e3, ⟨v1, ⟨k.2.1, k.2.2.1⟩, v3, v4, v5, v6⟩, fun z => by omega⟩
    · rw [if_neg c2] at h ⊢
      by_cases c3 : t p = 104
      · rw [if_pos c3] at h ⊢
        obtain ⟨p2, e1, e2, e3⟩ := eno_ok h
        have k := nmo_ok e1
        obtain ⟨p1, k1, k2, -⟩ := k.1
        have m := nmo_ok k1
        obtain ⟨p0, m1, m2, -⟩ := m.1
        cases m1
        generalize (nmo t n (nmo t n (.inl (p + 1)) 0 (s.1 - 1) (-9)).2 0 (s.1 - 1) (-9)).1 = b at k ⊢
        generalize (nmo t n (.inl (p + 1)) 0 (s.1 - 1) (-9)).1 = a at m ⊢
        obtain ⟨a, rfl⟩ : ∃ z : Nat, a = (z : Int) := ⟨a.toNat, by omega⟩
        refine ⟨by omega, e3, ⟨v1, v2, v3, fun l hl => ?_, gvh_inj (by omega) v1.2 (by omega) (fun l hl => (v4 l hl).2.2.2) v5, v6⟩, fun z => by omega⟩
        have f1 := v4 l hl
        have f2 := v4 a (by omega)
        dsimp only
        unfold gvh
        rw [Int.toNat_natCast]
        by_cases i1 : (l : Int) = (a : Int)
        · rw [if_pos i1]; omega
        · rw [if_neg i1]
          by_cases i2 : (l : Int) < s.1 ∧ s.2.2.2.2.1 l = b
          · rw [if_pos i2]; omega
          · rw [if_neg i2]; exact f1
      · rw [if_neg c3] at h ⊢
        by_cases c4 : t p = 99 ∧ s.2.2.2.1 < 7
        · rw [if_pos c4] at h ⊢
          obtain ⟨p5, e1, e2, e3⟩ := eno_ok h
          have k := cN_ok e1
          refine ⟨by omega, e3, ⟨v1, v2, by dsimp only; omega, v4, v5, fun c hc => ?_⟩, fun z => by omega⟩
          dsimp only at hc ⊢
          by_cases q : c = s.2.2.2.1
          · rw [if_pos q, if_pos q, if_pos q, if_pos q, if_pos q]
            have a0 := k.2 0 (by omega)
            have a1 := k.2 1 (by omega)
            have a2 := k.2 2 (by omega)
            have a3 := k.2 3 (by omega)
            have a4 := k.2 4 (by omega)
            have b1 : chi s.1 1 = s.1 - 1 := rfl
            have b2 : chi s.1 2 = s.1 - 1 := rfl
            exact ⟨a0, ⟨a1.1, by have := a1.2; omega⟩, ⟨a2.1, by have := a2.2; omega⟩, a3, a4⟩
          · rw [if_neg q, if_neg q, if_neg q, if_neg q, if_neg q]
            exact v6 c (by omega)
        · rw [if_neg c4] at h
          cases h
theorem ct_asAtFirst {h : jH} : CT Sx M_X6_asAtFirst [jR 10] h (jPv fun h' => h'.1 10 0 = 2 ∧ h'.1 10 1 = 1 ∧ h'.1 10 2 = 0 ∧ (∀ l, l < 6 → h'.1 11 l = (l : Nat)) ∧ (∀ k, k ≠ 10 → k ≠ 11 → h'.1 k = h.1 k) ∧ h'.2 = h.2) := by
  refine en_X6_asAtFirst_10 (fun G => vc_X6_asAtFirst_10_0 ?_)
  refine jf_loop 6 (fun o lv g => lv = [jR 10, jI (o : Nat)] ∧ g.1 10 0 = 2 ∧ g.1 10 1 = 1 ∧ g.1 10 2 = 0 ∧ (∀ l, l < o → g.1 11 l = (l : Nat)) ∧ (∀ k, k ≠ 10 → k ≠ 11 → g.1 k = h.1 k) ∧ g.2 = h.2) ?_ ?_ 0 (by decide) _ _ ⟨rfl, by rw [up_out (by omega), up_out (by omega), up_eq], by rw [up_out (by omega), up_eq], up_eq, fun l hl => by omega, fun k h1 h2 => by rw [up_ne h1, up_ne h1, up_ne h1], rfl⟩
  · rintro o ho lv g ⟨rfl, g1, g2, g3, g4, g5, g6⟩ k
    refine vc_X6_asAtFirst_10_17 ⟨fun z => absurd z (by omega), fun _ => ⟨by omega, ⟨by omega, by omega⟩, k _ _ ⟨rfl, by rw [up_ne (by omega)]; exact g1, by rw [up_ne (by omega)]; exact g2, by rw [up_ne (by omega)]; exact g3, fun l hl => ?_, fun k h1 h2 => by rw [up_ne h2]; exact g5 k h1 h2, g6⟩⟩⟩
    rw [Int.toNat_natCast]
    by_cases e : l = o
    · rw [e, up_eq]
    · rw [up_out e]; exact g4 l (by omega)
  · rintro lv g ⟨rfl, g1, g2, g3, g4, g5, g6⟩
    exact vc_X6_asAtFirst_10_17 ⟨fun _ => ⟨rfl, g1, g2, g3, g4, g5, g6⟩, fun z => absurd (by decide) z⟩
def sP : jP := (2, 1, 0, 0, fun l => (l : Nat), fun _ _ => 0)
theorem sP_iv : IV 0 sP := by
  refine ⟨⟨by decide, by decide, by decide, fun l hl => ?_, fun i j hi hj e => ?_, fun c hc => absurd hc (by show ¬ c < 0; omega)⟩, fun _ => ⟨rfl, fun l hl => rfl⟩⟩
  · show 0 ≤ (l : Int) ∧ (l : Int) < 6 ∧ ((l : Int) < 2 → (l : Int) < 2) ∧ ((2 : Int) ≤ (l : Int) → (l : Int) = (l : Int))
    exact ⟨by omega, by omega, fun z => z, fun _ => rfl⟩
  · have e : (i : Int) = (j : Int) := e
    omega
def RDP (h : jH) (res : (Nat × jP) ⊕ Nat) (r : Int) (h' : jH) : Prop := (∀ k, k < 9 ∨ 16 < k → h'.1 k = h.1 k) ∧ h'.2 = h.2 ∧ match res with
  | .inl (k, s) => r = (k : Nat) ∧ CD s h'
  | .inr q => r = -10 - (q : Nat)
theorem ct_read {h : jH} {n : Nat} (h200 : n ≤ 200) (ht : ∀ j, j < n → 0 ≤ h.1 1 j ∧ h.1 1 j ≤ 255) : CT Sx M_X4_read [jR 9, jI n] h (jPi (RDP h (prs (h.1 1) n (n + 1) 0 (sk (h.1 1) n 0) sP))) := by
  refine en_X4_read_9 (fun G => vc_X4_read_9_0 ⟨_, ct_asAtFirst, ?_⟩)
  rintro g ⟨g1, g2, g3, g4, g5, g6⟩
  have r9 : g.1 9 = (j_up (j_up (j_up (j_up (j_up h 9 2 (min (n : Int) 200)) 9 3 0) 9 4 (-1)) 9 5 0) 9 6 0).1 9 := g5 9 (by omega) (by omega)
  have d2 : g.1 9 2 = (n : Nat) := by rw [r9, up_out (by omega), up_out (by omega), up_out (by omega), up_out (by omega), up_eq]; omega
  have d3 : g.1 9 3 = ((0 : Nat) : Int) := by rw [r9, up_out (by omega), up_out (by omega), up_out (by omega), up_eq]; rfl
  have d4 : g.1 9 4 = -1 := by rw [r9, up_out (by omega), up_out (by omega), up_eq]
  have d5 : g.1 9 5 = 0 := by rw [r9, up_out (by omega), up_eq]
  have d6 : g.1 9 6 = 0 := by rw [r9, up_eq]
  have dk : ∀ k, k < 9 ∨ 16 < k → g.1 k = h.1 k := fun k hk => by rw [g5 k (by omega) (by omega), up_ne (by omega), up_ne (by omega), up_ne (by omega), up_ne (by omega), up_ne (by omega)]
  have gw : g.2 = h.2 := by rw [g6]; rfl
  refine ⟨_, ct_skipBlanks d2 h200 d3, k_gv ?_⟩
  rw [dk 1 (by omega)]
  have loop : ∀ f items p s u, n - p < f → S9 n (.inl p) u → u.1 9 5 = ((items : Nat) : Int) → items ≤ p → CD s u → IV items s → (∀ k, k < 9 ∨ 16 < k → u.1 k = h.1 k) → u.2 = h.2 → WV Sx G M_X4_read (jPi (RDP h (prs (h.1 1) n f items p s))) 46 [jR 9, jI n, jI (items : Nat)] [] u := by
    intro f
    induction f with
    | zero => intro items p s u hf; omega
    | succ f ih =>
      intro items p s u hf hS h5 hip hC hV hk hw
      obtain ⟨b2, b3, b4, b5⟩ := id hS
      simp only [prs]
      by_cases hp : p < n
      · rw [if_pos hp]
        refine vc_X4_read_9_46 ⟨fun z => absurd z (by omega), fun _ => ⟨fun z => absurd z (by omega), fun _ => ⟨fun _ => ⟨_, ct_readItem hS hp h200 (by rw [hk 1 (by omega)]; exact ht) h5 hC hV.1.1 hV.1.2.2.1, ?_⟩, fun z => absurd b5 z⟩⟩⟩
        rintro w ⟨w1, w2⟩
        rw [hk 1 (by omega)] at w1
        have wk : ∀ k, k < 9 ∨ 16 < k → w.1 k = h.1 k := fun k q => by rw [w2.1 k q, hk k q]
        have w5 : w.1 9 5 = ((items : Nat) : Int) := by rw [w2.2.2.1]; exact h5
        have wn : w.1 9 2 = (n : Nat) := by rw [w2.2.2.2]; exact b2
        rw [w5]
        cases hI : (itm (h.1 1) n items p s).1 with
        | inr q =>
          rw [hI] at w1
          obtain ⟨y1, y2, q2, y3, y4⟩ := w1
          have e : (match itm (h.1 1) n items p s with
            | (.inr q, _) => (.inr q : (Nat × jP) ⊕ Nat)
            | (.inl q, s2) => prs (h.1 1) n f (items + 1) (sk (h.1 1) n q) s2) = .inr q := by
            cases hh : itm (h.1 1) n items p s with
            | mk o s2 => rw [hh] at hI; cases hI; rfl
          rw [e]
          refine ⟨⟨by omega, by omega⟩, _, ct_skipBlanks (by rw [up_out (by omega)]; exact wn) h200 (by rw [up_out (by omega)]; exact y4), k_gv ⟨⟨by omega, by omega⟩, ?_⟩⟩
          have z4 : (j_up (j_up w 9 5 ((items : Int) + 1)) 9 3 ((sk ((j_up w 9 5 ((items : Int) + 1)).1 1) n q2 : Nat) : Int)).1 9 4 = (q : Nat) := by rw [up_out (by omega), up_out (by omega)]; exact y1
          have zk : ∀ k, k < 9 ∨ 16 < k → (j_up (j_up w 9 5 ((items : Int) + 1)) 9 3 ((sk ((j_up w 9 5 ((items : Int) + 1)).1 1) n q2 : Nat) : Int)).1 k = h.1 k := fun k hk2 => by rw [up_ne (by omega), up_ne (by omega)]; exact wk k hk2
          have zw : (j_up (j_up w 9 5 ((items : Int) + 1)) 9 3 ((sk ((j_up w 9 5 ((items : Int) + 1)).1 1) n q2 : Nat) : Int)).2 = h.2 := by rw [← hw, ← w2.2.1]; rfl
          generalize j_up (j_up w 9 5 ((items : Int) + 1)) 9 3 ((sk ((j_up w 9 5 ((items : Int) + 1)).1 1) n q2 : Nat) : Int) = v at z4 zk zw ⊢
          have fin : RDP h (.inr q) (-10 - v.1 9 4) v := ⟨zk, zw, by show -10 - v.1 9 4 = -10 - (q : Nat); rw [z4]⟩
          refine vc_X4_read_9_46 ⟨fun _ => ⟨fun z => absurd z (by omega), fun _ => ⟨⟨by omega, by omega⟩, _, rfl, fin⟩⟩, fun _ => ⟨fun _ => ⟨fun z => absurd z (by omega), fun _ => ⟨⟨by omega, by omega⟩, _, rfl, fin⟩⟩, fun _ => ⟨fun z => absurd z (by omega), fun _ => ⟨fun z => absurd z (by omega), fun _ => ⟨⟨by omega, by omega⟩, _, rfl, fin⟩⟩⟩⟩⟩
        | inl q =>
          rw [hI] at w1
          obtain ⟨y1, y2, y3, y4⟩ := w1
          have sv := itm_sv hV hI
          have e : (match itm (h.1 1) n items p s with
            | (.inr q, _) => (.inr q : (Nat × jP) ⊕ Nat)
            | (.inl q, s2) => prs (h.1 1) n f (items + 1) (sk (h.1 1) n q) s2) = prs (h.1 1) n f (items + 1) (sk (h.1 1) n q) (itm (h.1 1) n items p s).2 := by
            cases hh : itm (h.1 1) n items p s with
            | mk o s2 => rw [hh] at hI; cases hI; rfl
          rw [e]
          have sb := sk_bd (t := h.1 1) (n := n) (p := q)
          refine ⟨⟨by omega, by omega⟩, _, ct_skipBlanks (by rw [up_out (by omega)]; exact wn) h200 (by rw [up_out (by omega)]; exact y1), k_gv ⟨⟨by omega, by omega⟩, ?_⟩⟩
          rw [show (j_up w 9 5 ((items : Int) + 1)).1 1 = h.1 1 by rw [up_ne (by omega)]; exact wk 1 (by omega)]
          refine ih (items + 1) (sk (h.1 1) n q) _ _ (by omega) ⟨by rw [up_out (by omega), up_out (by omega)]; exact wn, up_eq, sb.2 y2, by rw [up_out (by omega), up_out (by omega)]; exact y3⟩ (by rw [up_out (by omega), up_eq]; rfl) (by omega) ?_ sv.2.2 (fun k hk2 => by rw [up_ne (by omega), up_ne (by omega)]; exact wk k hk2) (by rw [← hw, ← w2.2.1]; rfl)
          obtain ⟨k1, k2, k3, k4, k5, k6⟩ := y4
          exact ⟨k1, k2, by rw [up_out (by omega), up_out (by omega)]; exact k3, k4, k5, k6⟩
      · rw [if_neg hp]
        have fin : RDP h (.inl (items, s)) (u.1 9 5) u := ⟨hk, hw, h5, hC⟩
        refine vc_X4_read_9_46 ⟨fun _ => ⟨fun _ => ⟨_, rfl, fin⟩, fun z => absurd b5 z⟩, fun _ => ⟨fun _ => ⟨fun _ => ⟨_, rfl, fin⟩, fun z => absurd b5 z⟩, fun z => absurd (by omega) z⟩⟩
  have sb := sk_bd (t := h.1 1) (n := n) (p := 0)
  have := loop (n + 1) 0 (sk (h.1 1) n 0) sP (j_up g 9 3 (sk (h.1 1) n 0 : Nat)) (by omega) ⟨by rw [up_out (by omega)]; exact d2, up_eq, sb.2 (by omega), by rw [up_out (by omega)]; exact d4⟩ (by rw [up_out (by omega)]; exact d5) (by omega) ⟨by rw [up_ne (by omega)]; exact g1, by rw [up_ne (by omega)]; exact g2, by rw [up_out (by omega)]; exact d6, by rw [up_ne (by omega)]; exact g3, fun l hl => by rw [up_ne (by omega)]; exact g4 l hl, fun c hc => absurd hc (by show ¬ c < 0; omega)⟩ sP_iv (fun k hk => by rw [up_ne (by omega)]; exact dk k hk) (by rw [← gw]; rfl)
  exact this
