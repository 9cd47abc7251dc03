/-! reading the text: the model's whole text -/
theorem cm_isItem {h : jH} {n p p0 items : Nat} {s : jP} (hn : h.1 0 0 = n) (h200 : n ≤ 200) (ht : ∀ j, j < n → 0 ≤ h.1 1 j ∧ h.1 1 j ≤ 255) (hk : NTK (h.1 1) n p0 h) (hs : sk (h.1 1) n p0 = p) (hpn : p < n) (hi : h.1 0 6 = items) (hm : MD s h) (hL : 2 ≤ s.1 ∧ s.1 ≤ 6) (h7 : s.2.2.2.1 ≤ 7) : CT Sm M_X8_isItem [jR 0] h (jPi (IPM h (itm (h.1 1) n items p s))) := by
  obtain ⟨k1, -, k3, k4⟩ := hk
  rw [hs] at k1 k3 k4
  obtain ⟨m1, m2, m3, m4, m5, m6⟩ := id hm
  have no : ¬ (h.1 1 p = 108 ∧ items = 0) → ¬ (h.1 1 p = 120 ∧ s.2.2.1 = 0) → ¬ h.1 1 p = 104 → ¬ (h.1 1 p = 99 ∧ s.2.2.2.1 < 7) → (jPi (IPM h (itm (h.1 1) n items p s))) (some (jI 0)) h := by
    intro q1 q2 q3 q4
    have e : itm (h.1 1) n items p s = (.inr p, s) := by unfold itm; rw [if_neg q1, if_neg q2, if_neg q3, if_neg q4]
    rw [e]
    exact ⟨_, rfl, Or.inl rfl, MG.rfl, rfl, k1⟩
  by_cases hd : isd (h.1 1 p) = true
  · have d := isd_iff.mp hd
    have tk : h.1 0 4 = -1 ∨ h.1 0 4 = -3 := by
      rcases k4 hpn hd with ⟨-, q, -⟩ | ⟨-, q⟩
      · exact Or.inl q
      · exact Or.inr q
    refine en_X8_isItem_0 (fun G => vc_X8_isItem_0_0 ⟨fun z => absurd z (by omega), fun _ => ⟨fun z => absurd z (by omega), fun _ => ⟨fun z => absurd z (by omega), fun _ => ⟨fun z => absurd z (by omega), fun _ => no (by omega) (by omega) (by omega) (by omega)⟩⟩⟩⟩)
  · obtain ⟨tk, pos⟩ := k3 hpn ((Bool.not_eq_true _).mp hd)
    refine en_X8_isItem_0 (fun G => vc_X8_isItem_0_0 ?_)
    rw [tk, hi, m3, m4]
    refine ⟨fun q1 => ⟨fun z => ?_, fun z => ⟨fun q2 => absurd q2 (by omega), fun _ => ⟨fun q3 => absurd q3 (by omega), fun _ => ⟨fun q4 => absurd q4 (by omega), fun _ => no (by omega) (by omega) (by omega) (by omega)⟩⟩⟩⟩, fun q1 => ⟨fun q2 => ⟨fun z => ?_, fun z => ⟨fun q3 => absurd q3 (by omega), fun _ => ⟨fun q4 => absurd q4 (by omega), fun _ => no (by omega) (by omega) (by omega) (by omega)⟩⟩⟩, fun q2 => ⟨fun q3 => ?_, fun q3 => ⟨fun q4 => ⟨fun z => no (by omega) (by omega) (by omega) (by omega), fun z => ?_⟩, fun q4 => no (by omega) (by omega) (by omega) (by omega)⟩⟩⟩⟩
    · have hc : h.1 1 p = 108 ∧ items = 0 := ⟨q1, by omega⟩
      have e : itm (h.1 1) n items p s = (eno (h.1 1) n (nmo (h.1 1) n (.inl (p + 1)) 2 6 (-9)).2, ((nmo (h.1 1) n (.inl (p + 1)) 2 6 (-9)).1, s.2)) := by unfold itm; rw [if_pos hc]
      rw [e]
      refine ⟨_, cm_isNumber hn h200 pos (by omega) ht 2 6 (by decide) (by decide), ?_⟩
      rintro r u ⟨u0, -, u2⟩
      cases hq : (nmo (h.1 1) n (.inl (p + 1)) 2 6 (-9)).2 with
      | inr f =>
        rw [hq] at u2
        exact ⟨fun _ => ⟨_, rfl, Or.inl rfl, u0.mg, rfl, u2.2⟩, fun z => absurd u2.1 z⟩
      | inl q =>
        rw [hq] at u2
        have qn := nmo_inl hq (show p + 1 ≤ n by omega)
        refine ⟨fun z => absurd z (by omega), fun _ => ⟨_, cm_tail (h := h) (n := n) (q := q) (eno (h.1 1) n (.inl q), ((nmo (h.1 1) n (.inl (p + 1)) 2 6 (-9)).1, s.2)) hn h200 ht (u0.mg.tr (MG.u0 (by omega))) (by rw [up_out (by omega)]; exact u2.2.2) qn rfl ?_, fun rr v hv => ⟨hv.1, _, rfl, hv⟩⟩⟩
        have M := hm.t0 u0
        exact ⟨by rw [up_eq]; exact u2.2.1, by rw [up_out (by omega)]; exact M.2.1, by rw [up_out (by omega)]; exact M.2.2.1, by rw [up_out (by omega)]; exact M.2.2.2.1, fun l hl => by rw [up_ne (by omega)]; exact M.2.2.2.2.1 l hl, fun c hc k hk => by rw [up_ne (by omega)]; exact M.2.2.2.2.2 c hc k hk⟩
    · have hc1 : ¬ (h.1 1 p = 108 ∧ items = 0) := by omega
      have hc : h.1 1 p = 120 ∧ s.2.2.1 = 0 := ⟨q2, z⟩
      have e : itm (h.1 1) n items p s = (eno (h.1 1) n (nmo (h.1 1) n (.inl (p + 1)) 1 4 (-9)).2, (s.1, (nmo (h.1 1) n (.inl (p + 1)) 1 4 (-9)).1, 1, s.2.2.2)) := by unfold itm; rw [if_neg hc1, if_pos hc]
      rw [e]
      have t1 : (j_up h 0 9 1).1 1 = h.1 1 := up_ne (by omega)
      refine ⟨_, cm_isNumber (h := j_up h 0 9 1) (n := n) (p := p + 1) (by rw [up_out (by omega)]; exact hn) h200 (by rw [up_out (by omega)]; exact pos) (by omega) (by rw [t1]; exact ht) 1 4 (by decide) (by decide), ?_⟩
      rintro r u ⟨u0, -, u2⟩
      rw [t1] at u2
      have hG : MG h u := (MG.u0 (by omega)).tr u0.mg
      cases hq : (nmo (h.1 1) n (.inl (p + 1)) 1 4 (-9)).2 with
      | inr f =>
        rw [hq] at u2
        exact ⟨fun _ => ⟨_, rfl, Or.inl rfl, hG, rfl, u2.2⟩, fun z => absurd u2.1 z⟩
      | inl q =>
        rw [hq] at u2
        have qn := nmo_inl hq (show p + 1 ≤ n by omega)
        refine ⟨fun z => absurd z (by omega), fun _ => ⟨_, cm_tail (h := h) (n := n) (q := q) (eno (h.1 1) n (.inl q), (s.1, (nmo (h.1 1) n (.inl (p + 1)) 1 4 (-9)).1, 1, s.2.2.2)) hn h200 ht (hG.tr (MG.u0 (by omega))) (by rw [up_out (by omega)]; exact u2.2.2) qn rfl ?_, fun rr v hv => ⟨hv.1, _, rfl, hv⟩⟩⟩
        have f7 : ∀ j, j ≠ 2 → j ≠ 3 → j ≠ 4 → j ≠ 5 → j ≠ 9 → u.1 0 j = h.1 0 j := fun j h1 h2 h3 h4 h5 => by rw [u0.2.2 j h1 h2 h3 h4, up_out h5]
        exact ⟨by rw [up_out (by omega), f7 7 (by omega) (by omega) (by omega) (by omega) (by omega)]; exact m1, by rw [up_eq]; exact u2.2.1, by rw [up_out (by omega), u0.2.2 9 (by omega) (by omega) (by omega) (by omega), up_eq], by rw [up_out (by omega), f7 11 (by omega) (by omega) (by omega) (by omega) (by omega)]; exact m4, fun l hl => by rw [up_ne (by omega), u0.1 2 (by omega), up_ne (by omega)]; exact m5 l hl, fun c hc k hk => by rw [up_ne (by omega), u0.1 3 (by omega), up_ne (by omega)]; exact m6 c hc k hk⟩
    · have hc1 : ¬ (h.1 1 p = 108 ∧ items = 0) := by omega
      have hc2 : ¬ (h.1 1 p = 120 ∧ s.2.2.1 = 0) := by omega
      obtain ⟨L, hLL⟩ : ∃ L : Nat, s.1 = (L : Int) := ⟨s.1.toNat, by omega⟩
      refine ⟨_, cm_isHole hn h200 ht pos (by omega) hm hLL (by omega) (by omega), fun rr v hv => ⟨hv.1, _, rfl, ?_⟩⟩
      unfold itm
      rw [if_neg hc1, if_neg hc2, if_pos q3]
      exact hv
    · have hc1 : ¬ (h.1 1 p = 108 ∧ items = 0) := by omega
      have hc2 : ¬ (h.1 1 p = 120 ∧ s.2.2.1 = 0) := by omega
      have hc4 : h.1 1 p = 99 ∧ s.2.2.2.1 < 7 := ⟨q4, by omega⟩
      refine ⟨_, cm_isCallItem hn h200 ht pos (by omega) hm hL rfl hc4.2, fun rr v hv => ?_⟩
      have fin : IPM h (itm (h.1 1) n items p s) rr v := by
        unfold itm
        rw [if_neg hc1, if_neg hc2, if_neg q3, if_pos hc4]
        exact hv
      refine ⟨fun z0 => ⟨_, rfl, ?_⟩, fun z0 => ⟨_, rfl, ?_⟩⟩
      · rw [z0] at fin; exact fin
      · have : rr = 1 := by rcases hv.1 with q | q <;> omega
        rw [this] at fin; exact fin
theorem prs_r {t : Nat → Int} {n f items p q : Nat} {s : jP} (hp : p < n) (h : (itm t n items p s).1 = .inr q) : prs t n (f + 1) items p s = .inr q := by
  simp only [prs]
  rw [if_pos hp]
  cases hh : itm t n items p s with
  | mk o s2 => rw [hh] at h; cases h; rfl
theorem prs_l {t : Nat → Int} {n f items p q : Nat} {s : jP} (hp : p < n) (h : (itm t n items p s).1 = .inl q) : prs t n (f + 1) items p s = prs t n f (items + 1) (sk t n q) (itm t n items p s).2 := by
  simp only [prs]
  rw [if_pos hp]
  cases hh : itm t n items p s with
  | mk o s2 => rw [hh] at h; cases h; rfl
theorem prs_e {t : Nat → Int} {n f items p : Nat} {s : jP} (hp : ¬ p < n) : prs t n (f + 1) items p s = .inl (items, s) := by
  simp only [prs]
  rw [if_neg hp]
theorem prs_sv {t : Nat → Int} {n : Nat} : ∀ {f items p : Nat} {s : jP} {k : Nat} {s2 : jP}, IV items s → prs t n f items p s = .inl (k, s2) → SV s2 := by
  intro f
  induction f with
  | zero => intro items p s k s2 hv h; cases h; exact hv.1
  | succ f ih =>
    intro items p s k s2 hv h
    by_cases hp : p < n
    · cases hI : (itm t n items p s).1 with
      | inr q => rw [prs_r hp hI] at h; cases h
      | inl q =>
        rw [prs_l hp hI] at h
        exact ih (itm_sv hv hI).2.2 h
    · rw [prs_e hp] at h
      cases h
      exact hv.1
def IRP (h : jH) (res : (Nat × jP) ⊕ Nat) (r : Int) (h' : jH) : Prop := (∀ k, k ≠ 0 → k ≠ 2 → k ≠ 3 → h'.1 k = h.1 k) ∧ h'.2 = h.2 ∧ (∀ j, j = 0 ∨ 12 < j → h'.1 0 j = h.1 0 j) ∧ match res with
  | .inl (k, s) => r = 1 ∧ h'.1 0 6 = (k : Nat) ∧ MD s h'
  | .inr q => r = 0 ∧ h'.1 0 3 = (q : Nat)
theorem cm_isRead {h : jH} {n : Nat} (hn : h.1 0 0 = n) (h200 : n ≤ 200) (ht : ∀ j, j < n → 0 ≤ h.1 1 j ∧ h.1 1 j ≤ 255) : CT Sm M_X8_isRead [jR 0] h (jPi (IRP h (prs (h.1 1) n (n + 1) 0 (sk (h.1 1) n 0) sP))) := by
  refine en_X8_isRead_0 (fun G => vc_X8_isRead_0_0 ?_)
  have loop : ∀ f items p p0 s u (x1 : Int), n - p < f → sk (h.1 1) n p0 = p → NTK (h.1 1) n p0 u → p ≤ n → u.1 0 6 = ((items : Nat) : Int) → items ≤ p → MD s u → IV items s → (∀ k, k ≠ 0 → k ≠ 2 → k ≠ 3 → u.1 k = h.1 k) → u.2 = h.2 → (∀ j, j = 0 ∨ 12 < j → u.1 0 j = h.1 0 j) → WV Sm G M_X8_isRead (jPi (IRP h (prs (h.1 1) n f items p s))) 55 [jR 0, jI x1] [] u := by
    intro f
    induction f with
    | zero => intro items p p0 s u x1 hf; omega
    | succ f ih =>
      intro items p p0 s u x1 hf hsk hT hpn h6 hip hM hV hk hw hj
      have u1 : u.1 1 = h.1 1 := hk 1 (by omega) (by omega) (by omega)
      have un : u.1 0 0 = (n : Nat) := by rw [hj 0 (by omega)]; exact hn
      by_cases hp : p < n
      · have nt : ¬ u.1 0 4 = -2 := by
          obtain ⟨-, -, y3, y4⟩ := hT
          rw [hsk] at y3 y4
          by_cases hd : isd (h.1 1 p) = true
          · rcases y4 hp hd with ⟨-, q, -⟩ | ⟨-, q⟩ <;> omega
          · have := (y3 hp ((Bool.not_eq_true _).mp hd)).1
            have := ht p hp
            omega
        refine vc_X8_isRead_0_55 ⟨fun z => absurd z nt, fun _ => ⟨_, cm_isItem (p := p) (p0 := p0) (items := items) (s := s) un h200 (by rw [u1]; exact ht) (by rw [u1]; exact hT) (by rw [u1]; exact hsk) hp h6 hM hV.1.1 hV.1.2.2.1, ?_⟩⟩
        rintro r w ⟨w0, w1, w2⟩
        rw [u1] at w2
        have wk : ∀ k, k ≠ 0 → k ≠ 2 → k ≠ 3 → w.1 k = h.1 k := fun k q1 q2 q3 => by rw [w1.1 k q1 q2 q3, hk k q1 q2 q3]
        have wj : ∀ j, j = 0 ∨ 12 < j → w.1 0 j = h.1 0 j := fun j q => by rw [w1.2.2 j (by omega), hj j q]
        have w6 : w.1 0 6 = ((items : Nat) : Int) := by rw [w1.2.2 6 (by omega)]; exact h6
        cases hI : (itm (h.1 1) n items p s).1 with
        | inr q =>
          rw [hI] at w2
          rw [prs_r hp hI]
          exact ⟨fun _ => ⟨_, rfl, wk, by rw [w1.2.1, hw], wj, rfl, w2.2⟩, fun z => absurd w2.1 z⟩
        | inl q =>
          rw [hI] at w2
          have sv := itm_sv hV hI
          rw [prs_l hp hI]
          have sb := sk_bd (t := h.1 1) (n := n) (p := q)
          have z1 : (j_up w 0 6 ((w.1 0 6) + 1)).1 1 = h.1 1 := by rw [up_ne (by omega)]; exact wk 1 (by omega) (by omega) (by omega)
          refine ⟨fun z => absurd z (by omega), fun _ => ⟨⟨by omega, by omega⟩, _, cm_nextToken (h := j_up w 0 6 ((w.1 0 6) + 1)) (n := n) (p := q) (by rw [up_out (by omega), wj 0 (by omega)]; exact hn) h200 (by rw [up_out (by omega)]; exact w2.2.1) sv.2.1 (by rw [z1]; exact ht), ?_⟩⟩
          rintro v ⟨v0, v1⟩
          rw [z1] at v1
          refine ih (items + 1) (sk (h.1 1) n q) q _ v x1 (by omega) rfl v1 (sb.2 sv.2.1) ?_ (by omega) ?_ sv.2.2 (fun k q1 q2 q3 => by rw [v0.1 k q1, up_ne q1]; exact wk k q1 q2 q3) (by rw [v0.2.1, ← hw, ← w1.2.1]; rfl) (fun j hj2 => by rw [v0.2.2 j (by omega) (by omega) (by omega) (by omega), up_out (by omega)]; exact wj j hj2)
          · rw [v0.2.2 6 (by omega) (by omega) (by omega) (by omega), up_eq, w6]; rfl
          · refine MD.t0 ?_ v0
            obtain ⟨n1, n2, n3, n4, n5, n6⟩ := w2.2.2
            exact ⟨by rw [up_out (by omega)]; exact n1, by rw [up_out (by omega)]; exact n2, by rw [up_out (by omega)]; exact n3, by rw [up_out (by omega)]; exact n4, fun l hl => by rw [up_ne (by omega)]; exact n5 l hl, fun c hc k hk => by rw [up_ne (by omega)]; exact n6 c hc k hk⟩
      · rw [prs_e hp]
        have nt : u.1 0 4 = -2 := hT.2.1 (by rw [hsk]; exact hp)
        exact vc_X8_isRead_0_55 ⟨fun _ => ⟨_, rfl, hk, hw, hj, rfl, h6, hM⟩, fun z => absurd nt z⟩
  refine jf_loop 6 (fun o lv g => lv = [jR 0, jI (o : Nat)] ∧ g.1 0 2 = 0 ∧ g.1 0 6 = 0 ∧ g.1 0 7 = 2 ∧ g.1 0 8 = 1 ∧ g.1 0 9 = 0 ∧ g.1 0 11 = 0 ∧ (∀ l, l < o → g.1 2 l = (l : Nat)) ∧ (∀ k, k ≠ 0 → k ≠ 2 → k ≠ 3 → g.1 k = h.1 k) ∧ g.2 = h.2 ∧ ∀ j, j = 0 ∨ 12 < j → g.1 0 j = h.1 0 j) ?_ ?_ 0 (by decide) _ _ ⟨rfl, ?_, ?_, ?_, ?_, ?_, up_eq, fun l hl => by omega, fun k q _ _ => by rw [up_ne q, up_ne q, up_ne q, up_ne q, up_ne q, up_ne q], rfl, fun j hj => by rw [up_out (by omega), up_out (by omega), up_out (by omega), up_out (by omega), up_out (by omega), up_out (by omega)]⟩
  · rintro o ho lv g ⟨rfl, g2, g6, g7, g8, g9, g11, gh, gk, gw, gj⟩ kk
    refine vc_X8_isRead_0_32 ⟨fun z => absurd z (by omega), fun _ => ⟨by omega, ⟨by omega, by omega⟩, kk _ _ ⟨rfl, by rw [up_ne (by omega)]; exact g2, by rw [up_ne (by omega)]; exact g6, by rw [up_ne (by omega)]; exact g7, by rw [up_ne (by omega)]; exact g8, by rw [up_ne (by omega)]; exact g9, by rw [up_ne (by omega)]; exact g11, fun l hl => ?_, fun k q1 q2 q3 => by rw [up_ne q2]; exact gk k q1 q2 q3, gw, fun j hj => by rw [up_ne (by omega)]; exact gj j hj⟩⟩⟩
    rw [Int.toNat_natCast]
    by_cases e : l = o
    · rw [e, up_eq]
    · rw [up_out e]; exact gh l (by omega)
  · rintro lv g ⟨rfl, g2, g6, g7, g8, g9, g11, gh, gk, gw, gj⟩
    have g1 : g.1 1 = h.1 1 := gk 1 (by omega) (by omega) (by omega)
    have sb := sk_bd (t := h.1 1) (n := n) (p := 0)
    refine vc_X8_isRead_0_32 ⟨fun _ => ⟨_, cm_nextToken (h := g) (n := n) (p := 0) (by rw [gj 0 (by omega)]; exact hn) h200 (by rw [g2]; rfl) (by omega) (by rw [g1]; exact ht), ?_⟩, fun z => absurd (by decide) z⟩
    rintro v ⟨v0, v1⟩
    rw [g1] at v1
    have f : ∀ j, j ≠ 2 → j ≠ 3 → j ≠ 4 → j ≠ 5 → v.1 0 j = g.1 0 j := v0.2.2
    refine loop (n + 1) 0 (sk (h.1 1) n 0) 0 sP v _ (by omega) rfl v1 (sb.2 (by omega)) (by rw [f 6 (by omega) (by omega) (by omega) (by omega)]; exact g6) (by omega) ⟨by rw [f 7 (by omega) (by omega) (by omega) (by omega)]; exact g7, by rw [f 8 (by omega) (by omega) (by omega) (by omega)]; exact g8, by rw [f 9 (by omega) (by omega) (by omega) (by omega)]; exact g9, by rw [f 11 (by omega) (by omega) (by omega) (by omega)]; exact g11, fun l hl => by rw [v0.1 2 (by omega)]; exact gh l hl, fun c hc => absurd hc (by show ¬ c < 0; omega)⟩ sP_iv (fun k q1 q2 q3 => by rw [v0.1 k q1]; exact gk k q1 q2 q3) (by rw [v0.2.1]; exact gw) (fun j hj => by rw [f j (by omega) (by omega) (by omega) (by omega)]; exact gj j hj)
  · rw [up_out (by omega), up_out (by omega), up_out (by omega), up_out (by omega), up_out (by omega), up_eq]
  · rw [up_out (by omega), up_out (by omega), up_out (by omega), up_out (by omega), up_eq]
  · rw [up_out (by omega), up_out (by omega), up_out (by omega), up_eq]
  · rw [up_out (by omega), up_out (by omega), up_eq]
  · rw [up_out (by omega), up_eq]
