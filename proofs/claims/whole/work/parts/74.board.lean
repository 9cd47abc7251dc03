/-! pairs: board -/
theorem cm_begin {h : jH} {N : Nat} (hN : h.1 0 15 = N) (h7 : N ≤ 7) : CT Sm M_X8_begin [jR 0] h (jPv fun h' => h'.2 = h.2 ∧ (∀ k, k ≠ 0 → k ≠ 5 → k ≠ 8 → h'.1 k = h.1 k) ∧ (∀ j, j ≠ 22 → h'.1 0 j = h.1 0 j) ∧ h'.1 0 22 = 0 ∧ h'.1 8 0 = 0 ∧ h'.1 8 1 = 0 ∧ h'.1 5 0 = 0 ∧ (∀ l, l < 6 → h'.1 5 (1 + l) = h.1 2 l) ∧ ∀ c, c < 7 → h'.1 5 (7 + c) = (if c < N ∧ h.1 4 (5 * c) = 0 then 1 else 0) ∧ h'.1 5 (14 + c) = 0 ∧ h'.1 5 (21 + c) = 0) := by
  refine en_X8_begin_0 (fun G => vc_X8_begin_0_0 ?_)
  refine jf_loop 28 (fun o lv g => lv = [jR 0, jI (o : Nat)] ∧ g = upr h 5 (fun j => if j < o then 0 else h.1 5 j)) ?_ ?_ 0 (by decide) _ _ ⟨rfl, (upr_id (fun j => by rw [if_neg (by omega)])).symm⟩
  · rintro o ho lv g ⟨rfl, rfl⟩ kk
    refine vc_X8_begin_0_2 ⟨fun z => absurd z (by omega), fun _ => ⟨by omega, ⟨by omega, by omega⟩, kk _ _ ⟨rfl, ?_⟩⟩⟩
    rw [Int.toNat_natCast, up_upr]
    congr 1
    funext j
    by_cases q : j = o
    · rw [if_pos q, if_pos (by omega)]
    · rw [if_neg q]
      by_cases q2 : j < o
      · rw [if_pos q2, if_pos (by omega)]
      · rw [if_neg q2, if_neg (by omega)]
  · rintro lv g ⟨rfl, rfl⟩
    refine vc_X8_begin_0_2 ⟨fun _ => ?_, fun z => absurd (by decide) z⟩
    refine jf_loop 6 (fun o lv g => lv = [jR 0, jI (o : Nat)] ∧ g = upr h 5 (fun j => if 1 ≤ j ∧ j < 1 + o then h.1 2 (j - 1) else if j < 28 then 0 else h.1 5 j)) ?_ ?_ 0 (by decide) _ _ ⟨rfl, ?_⟩
    · rintro o ho lv g ⟨rfl, rfl⟩ kk
      refine vc_X8_begin_0_23 ⟨fun z => absurd z (by omega), fun _ => ⟨⟨by omega, by omega⟩, by omega, by omega, ⟨by omega, by omega⟩, kk _ _ ⟨rfl, ?_⟩⟩⟩
      rw [Int.toNat_natCast, show Int.toNat (1 + (o : Int)) = 1 + o by omega, upr_ne (by omega), up_upr]
      congr 1
      funext j
      by_cases q : j = 1 + o
      · rw [if_pos q, if_pos (by omega), q, show 1 + o - 1 = o by omega]
      · rw [if_neg q]
        by_cases q2 : 1 ≤ j ∧ j < 1 + o
        · rw [if_pos q2, if_pos (show 1 ≤ j ∧ j < 1 + (o + 1) by omega)]
        · rw [if_neg q2, if_neg (show ¬ (1 ≤ j ∧ j < 1 + (o + 1)) by omega)]
    · rintro lv g ⟨rfl, rfl⟩
      refine vc_X8_begin_0_23 ⟨fun _ => ?_, fun z => absurd (by decide) z⟩
      refine jf_loop N (fun o lv g => lv = [jR 0, jI (o : Nat)] ∧ g = upr h 5 (fun j => if 7 ≤ j ∧ j < 7 + o then (if h.1 4 (5 * (j - 7)) = 0 then 1 else 0) else if 1 ≤ j ∧ j < 7 then h.1 2 (j - 1) else if j < 28 then 0 else h.1 5 j)) ?_ ?_ 0 (Nat.zero_le _) _ _ ⟨rfl, ?_⟩
      · rintro o ho lv g ⟨rfl, rfl⟩ kk
        refine vc_X8_begin_0_51 ⟨fun z => absurd z (by rw [upr_ne (by omega)]; omega), fun _ => ⟨⟨by omega, by omega⟩, ⟨by omega, by omega⟩, by omega, ?_⟩⟩
        rw [upr_ne (by omega), show Int.toNat (5 * (o : Int)) = 5 * o by omega, show Int.toNat (7 + (o : Int)) = 7 + o by omega]
        refine ⟨fun z => ⟨by omega, ⟨by omega, by omega⟩, kk _ _ ⟨rfl, ?_⟩⟩, fun z => ⟨by omega, ⟨by omega, by omega⟩, kk _ _ ⟨rfl, ?_⟩⟩⟩
        · rw [up_upr]
          congr 1
          funext j
          by_cases q : j = 7 + o
          · rw [if_pos q, if_pos (by omega), q, show 7 + o - 7 = o by omega, if_pos z]
          · rw [if_neg q]
            by_cases q2 : 7 ≤ j ∧ j < 7 + o
            · rw [if_pos q2, if_pos (show 7 ≤ j ∧ j < 7 + (o + 1) by omega)]
            · rw [if_neg q2, if_neg (show ¬ (7 ≤ j ∧ j < 7 + (o + 1)) by omega)]
        · rw [up_upr]
          congr 1
          funext j
          by_cases q : j = 7 + o
          · rw [if_pos q, if_pos (by omega), q, show 7 + o - 7 = o by omega, if_neg z]
          · rw [if_neg q]
            by_cases q2 : 7 ≤ j ∧ j < 7 + o
            · rw [if_pos q2, if_pos (show 7 ≤ j ∧ j < 7 + (o + 1) by omega)]
            · rw [if_neg q2, if_neg (show ¬ (7 ≤ j ∧ j < 7 + (o + 1)) by omega)]
      · rintro lv g ⟨rfl, rfl⟩
        refine vc_X8_begin_0_51 ⟨fun _ => ⟨rfl, rfl, fun k h0 h5 h8 => ?_, fun j hj => ?_, up_eq, ?_, ?_, ?_, fun l hl => ?_, fun c hc => ⟨?_, ?_, ?_⟩⟩, fun z => absurd (by rw [upr_ne (by omega)]; omega) z⟩
        · rw [up_ne h0, up_ne h8, up_ne h8, upr_ne h5]
        · rw [up_out hj, up_ne (by omega), up_ne (by omega), upr_ne (by omega)]
        · rw [up_ne (by omega), up_out (by omega), up_eq]
        · rw [up_ne (by omega), up_eq]
        · rw [up_ne (by omega), up_ne (by omega), up_ne (by omega), upr_same, if_neg (by omega), if_neg (by omega), if_pos (by omega)]
        · rw [up_ne (by omega), up_ne (by omega), up_ne (by omega), upr_same, if_neg (by omega), if_pos (by omega), show 1 + l - 1 = l by omega]
        · rw [up_ne (by omega), up_ne (by omega), up_ne (by omega), upr_same, show 7 + c - 7 = c by omega]
          by_cases q : c < N
          · rw [if_pos (by omega)]
            by_cases q2 : h.1 4 (5 * c) = 0
            · rw [if_pos q2, if_pos ⟨q, q2⟩]
            · rw [if_neg q2, if_neg (fun w => q2 w.2)]
          · rw [if_neg (by omega), if_neg (by omega), if_pos (by omega), if_neg (fun w => q w.1)]
        · rw [up_ne (by omega), up_ne (by omega), up_ne (by omega), upr_same, if_neg (by omega), if_neg (by omega), if_pos (by omega)]
        · rw [up_ne (by omega), up_ne (by omega), up_ne (by omega), upr_same, if_neg (by omega), if_neg (by omega), if_pos (by omega)]
      · congr 1
        funext j
        rw [if_neg (show ¬ (7 ≤ j ∧ j < 7 + 0) by omega)]
    · congr 1
      funext j
      rw [if_neg (show ¬ (1 ≤ j ∧ j < 1 + 0) by omega)]
/-- what a text that was read leaves of a moment and a board -/
def BRX (s : jP) (a a2 : jH) : Prop := a2.2 = a.2 ∧ a2.1 1 = a.1 1 ∧ a2.1 0 10 = 0 ∧ a2.1 2 0 = s.1 ∧ a2.1 2 1 = s.2.1 ∧ a2.1 2 2 = (s.2.2.2.1 : Nat) ∧ (∀ c, c < s.2.2.2.1 → a2.1 4 c = s.2.2.2.2.2 0 c ∧ a2.1 5 c = s.2.2.2.2.2 1 c ∧ a2.1 6 c = s.2.2.2.2.2 2 c ∧ a2.1 7 c = s.2.2.2.2.2 3 c ∧ a2.1 8 c = s.2.2.2.2.2 4 c) ∧ a2.1 17 1 = 0 ∧ (∀ l, l < 6 → a2.1 18 l = s.2.2.2.2.1 l) ∧ (∀ c, c < s.2.2.2.1 → a2.1 19 c = (if s.2.2.2.2.2 0 c = 0 then 1 else 0) ∧ a2.1 20 c = 0 ∧ a2.1 21 c = 0) ∧ a2.1 22 1 = a.1 22 1 ∧ a2.1 22 2 = 0 ∧ a2.1 25 0 = 0 ∧ a2.1 25 1 = 0
def BRM (s : jP) (b b2 : jH) : Prop := b2.2 = b.2 ∧ b2.1 1 = b.1 1 ∧ b2.1 0 0 = 0 ∧ b2.1 0 13 = s.1 ∧ b2.1 0 14 = s.2.1 ∧ b2.1 0 15 = (s.2.2.2.1 : Nat) ∧ (∀ c, c < s.2.2.2.1 → ∀ k, k < 5 → b2.1 4 (5 * c + k) = s.2.2.2.2.2 k c) ∧ b2.1 5 0 = 0 ∧ (∀ l, l < 6 → b2.1 5 (1 + l) = s.2.2.2.2.1 l) ∧ (∀ c, c < s.2.2.2.1 → b2.1 5 (7 + c) = (if s.2.2.2.2.2 0 c = 0 then 1 else 0) ∧ b2.1 5 (14 + c) = 0 ∧ b2.1 5 (21 + c) = 0) ∧ b2.1 0 22 = 0 ∧ b2.1 8 0 = 0 ∧ b2.1 8 1 = 0
theorem Rel.br {s : jP} {a b a2 b2 : jH} (hv : SV s) (hx : BRX s a a2) (hm : BRM s b b2) (h1 : a.1 1 = b.1 1) (hw : a.2 0 = b.2 0) {x : Nat} (h22 : a.1 22 1 = x) (x10 : x < 10) : Rel a2 b2 := by
  obtain ⟨x1, x2, x3, x4, x5, x6, x7, x8, x9, x11, x12, x13, x14, x15⟩ := hx
  obtain ⟨m1, m2, m3, m4, m5, m6, m7, m8, m9, m11, m12, m13, m14⟩ := hm
  obtain ⟨v1, v2, v3, v4, v5, v6⟩ := hv
  obtain ⟨L, hL⟩ : ∃ L : Nat, s.1 = (L : Int) := ⟨s.1.toNat, by omega⟩
  refine ⟨s.2.2.2.1, L, ⟨⟨x6, m6, v3⟩, ⟨by rw [x4]; exact hL, by rw [m4]; exact hL, by omega, by omega⟩, ⟨by rw [x5, m5], by omega, by omega⟩, fun c hc => ?_⟩, PF.rn v3 ⟨⟨by rw [x8, m8], by omega, by omega⟩, fun l hl => ⟨?_, ?_⟩, fun i j hi hj e => v5 i j hi hj (by rw [← x9 i hi, ← x9 j hj]; exact e), fun c hc => ?_, fun i j hi hj hn e1 => ?_⟩, ⟨x, 0, ⟨by rw [x12]; exact h22, x10⟩, ⟨x13, m12, by omega⟩, fun i hi => absurd hi (by omega)⟩, fun i hi => ?_, ⟨0, x3, m3, by omega, by rw [x2, m2, h1], fun j hj => absurd hj (by omega)⟩, by rw [x1, m1]; exact hw⟩
  · have k := x7 c hc
    have w := v6 c hc
    have e0 := m7 c hc 0 (by omega)
    have e1 := m7 c hc 1 (by omega)
    have e2 := m7 c hc 2 (by omega)
    have e3 := m7 c hc 3 (by omega)
    have e4 := m7 c hc 4 (by omega)
    unfold mA mF mT mN mR
    rw [Nat.add_zero] at e0
    rw [k.1, k.2.1, k.2.2.1, k.2.2.2.1, k.2.2.2.2, e0, e1, e2, e3, e4]
    exact ⟨⟨rfl, w.1⟩, ⟨rfl, by omega⟩, ⟨rfl, by omega⟩, ⟨rfl, w.2.2.2.1⟩, ⟨rfl, w.2.2.2.2⟩⟩
  · rw [x9 l hl]; exact (m9 l hl).symm
  · rw [x9 l hl]; have := v4 l hl; omega
  · have k := x11 c hc
    have w := m11 c hc
    unfold mH mL mW
    rw [k.1, k.2.1, k.2.2, w.1, w.2.1, w.2.2, x8]
    refine ⟨rfl, rfl, by omega, by omega, by omega, fun z => absurd z ?_, fun _ => rfl⟩
    split <;> omega
  · rw [(x11 i hi).1] at e1
    split at e1 <;> omega
  · rcases (show i = 0 ∨ i = 1 by omega) with q | q
    · subst q; exact ⟨by rw [x14, m13], Or.inl x14⟩
    · subst q; exact ⟨by rw [x15, m14], Or.inl x15⟩
def OB (n : Nat) (o : Nat ⊕ Nat) : Prop := match o with
  | .inl p => p ≤ n
  | .inr s => s ≤ n
theorem nmo_ob {t : Nat → Int} {n : Nat} {o : Nat ⊕ Nat} {lo hi un : Int} (h : OB n o) : OB n (nmo t n o lo hi un).2 := by
  rcases o with p | s
  · have e : nmo t n (.inl p) lo hi un = (match nm t n p lo hi un with
      | .inl (v, q) => (v, .inl q)
      | .inr s => (lo, .inr s)) := rfl
    have sb := (sk_bd (t := t) (n := n) (p := p)).2 h
    have db := (dg_bd (t := t) (n := n) (p := sk t n p)).2 sb
    rw [e]
    unfold nm
    split
    · rename_i v q hm
      split at hm
      · cases hm
      · cases hm; exact db
    · rename_i f hm
      split at hm
      · cases hm; exact sb
      · cases hm
  · exact h
theorem eno_ob {t : Nat → Int} {n : Nat} {o : Nat ⊕ Nat} (h : OB n o) : OB n (eno t n o) := by
  rcases o with p | s
  · have sb := (sk_bd (t := t) (n := n) (p := p)).2 h
    unfold eno
    dsimp only
    split
    · rename_i q; exact q.1
    · exact sb
  · exact h
theorem cN_ob {t : Nat → Int} {n : Nat} {L : Int} {o : Nat ⊕ Nat} (h : OB n o) (k : Nat) : OB n (cN t n L o k).2 := by
  induction k with
  | zero => exact h
  | succ k ih => exact nmo_ob ih
theorem itm_ob {t : Nat → Int} {n items p : Nat} {s : jP} (hp : p < n) : OB n (itm t n items p s).1 := by
  have h0 : OB n (.inl (p + 1)) := hp
  unfold itm
  split
  · exact eno_ob (nmo_ob h0)
  · split
    · exact eno_ob (nmo_ob h0)
    · split
      · exact eno_ob (nmo_ob (nmo_ob h0))
      · split
        · exact eno_ob (cN_ob h0 5)
        · show p ≤ n
          omega
theorem prs_ob {t : Nat → Int} {n : Nat} : ∀ {f items p : Nat} {s : jP} {q : Nat}, p ≤ n → prs t n f items p s = .inr q → q ≤ n := by
  intro f
  induction f with
  | zero => intro items p s q hp h; cases h
  | succ f ih =>
    intro items p s q hpn h
    by_cases hp : p < n
    · have ob := itm_ob (t := t) (items := items) (s := s) hp
      cases hI : (itm t n items p s).1 with
      | inr q2 => rw [prs_r hp hI] at h; cases h; rw [hI] at ob; exact ob
      | inl q2 =>
        rw [prs_l hp hI] at h
        rw [hI] at ob
        exact ih ((sk_bd (t := t) (n := n) (p := q2)).2 ob) h
    · rw [prs_e hp] at h
      cases h
theorem sk_bd0 {t : Nat → Int} {n : Nat} : sk t n 0 ≤ n := sk_bd.2 (Nat.zero_le _)
theorem ct_becomeT {h : jH} : CT Sx M_X6_become [jR 2, jR 10] h (jPv fun h' => h'.2 = h.2 ∧ (∀ k, k < 2 ∨ 8 < k → h'.1 k = h.1 k) ∧ h'.1 2 0 = h.1 10 0 ∧ h'.1 2 1 = h.1 10 1 ∧ h'.1 2 2 = h.1 10 2 ∧ (∀ j, j < 6 → h'.1 3 j = h.1 11 j) ∧ ∀ j, j < 7 → h'.1 4 j = h.1 12 j ∧ h'.1 5 j = h.1 13 j ∧ h'.1 6 j = h.1 14 j ∧ h'.1 7 j = h.1 15 j ∧ h'.1 8 j = h.1 16 j) := by
  refine en_X6_become_2_10 (fun G => vc_X6_become_2_10_0 ⟨rfl, rfl, fun k hk => ?_, ?_, ?_, ?_, fun j hj => ?_, fun j hj => ⟨?_, ?_, ?_, ?_, ?_⟩⟩)
  · rw [cp_ne (by omega), cp_ne (by omega), cp_ne (by omega), cp_ne (by omega), cp_ne (by omega), cp_ne (by omega), up_ne (by omega), up_ne (by omega), up_ne (by omega)]
  · rw [cp_ne (by omega), cp_ne (by omega), cp_ne (by omega), cp_ne (by omega), cp_ne (by omega), cp_ne (by omega), up_out (by omega), up_out (by omega), up_eq]
  · rw [cp_ne (by omega), cp_ne (by omega), cp_ne (by omega), cp_ne (by omega), cp_ne (by omega), cp_ne (by omega), up_out (by omega), up_eq]
  · rw [cp_ne (by omega), cp_ne (by omega), cp_ne (by omega), cp_ne (by omega), cp_ne (by omega), cp_ne (by omega), up_eq]
  · rw [cp_ne (by omega), cp_ne (by omega), cp_ne (by omega), cp_ne (by omega), cp_ne (by omega), cp_in (by omega), up_ne (by omega), up_ne (by omega), up_ne (by omega), show 0 + (j - 0) = j by omega]
  · rw [cp_ne (by omega), cp_ne (by omega), cp_ne (by omega), cp_ne (by omega), cp_in (by omega), cp_ne (by omega), up_ne (by omega), up_ne (by omega), up_ne (by omega), show 0 + (j - 0) = j by omega]
  · rw [cp_ne (by omega), cp_ne (by omega), cp_ne (by omega), cp_in (by omega), cp_ne (by omega), cp_ne (by omega), up_ne (by omega), up_ne (by omega), up_ne (by omega), show 0 + (j - 0) = j by omega]
  · rw [cp_ne (by omega), cp_ne (by omega), cp_in (by omega), cp_ne (by omega), cp_ne (by omega), cp_ne (by omega), up_ne (by omega), up_ne (by omega), up_ne (by omega), show 0 + (j - 0) = j by omega]
  · rw [cp_ne (by omega), cp_in (by omega), cp_ne (by omega), cp_ne (by omega), cp_ne (by omega), cp_ne (by omega), up_ne (by omega), up_ne (by omega), up_ne (by omega), show 0 + (j - 0) = j by omega]
  · rw [cp_in (by omega), cp_ne (by omega), cp_ne (by omega), cp_ne (by omega), cp_ne (by omega), cp_ne (by omega), up_ne (by omega), up_ne (by omega), up_ne (by omega), show 0 + (j - 0) = j by omega]
theorem p_board {a b : jH} (hR : Rel a b) : PR M_X7_board M_X8_board [] a b := by
  obtain ⟨N, L, hB, hN, ⟨x, kx, ⟨hx, x10⟩, -, -⟩, hI, ⟨n, t1, t2, t3, tt, t4⟩, hw⟩ := id hR
  have t4b : ∀ j, j < n → 0 ≤ b.1 1 j ∧ b.1 1 j ≤ 255 := by rw [← tt]; exact t4
  have kr := ct_read (h := a) t3 t4
  have km := cm_isRead (h := b) t2 t3 t4b
  rw [← tt] at km
  cases hres : prs (a.1 1) n (n + 1) 0 (sk (a.1 1) n 0) sP with
  | inr q =>
    rw [hres] at kr km
    refine PR.q hR (fun r => r = -10 - (q : Int)) (en_X7_board_0 (fun G => vc_X7_board_0_0 ?_)) (fun r hr => en_X8_board_0 (fun G => vc_X8_board_0_0 ⟨_, km, ?_⟩))
    · rw [t1]
      refine ⟨_, kr, ?_⟩
      rintro r g ⟨g1, g2, g3⟩
      have g3 : r = -10 - (q : Int) := g3
      exact ⟨fun z => absurd z (by omega), fun _ => ⟨_, rfl, g3, ⟨g2, fun k _ hk => g1 k (by omega), by rw [g1 0 (by omega)]⟩⟩⟩
    · rintro r1 g ⟨g1, g2, g3, g4⟩
      refine ⟨fun _ => ⟨?_, _, rfl, ?_, ⟨g2, fun k hk => g1 k (by omega) (by omega) (by omega), fun j hj => g3 j (by omega)⟩⟩, fun z => absurd g4.1 z⟩
      · have g5 := g4.2
        have hq : q ≤ n := prs_ob sk_bd0 hres
        exact ⟨by omega, by omega⟩
      · rw [g4.2, hr]
  | inl ks =>
    obtain ⟨k, s⟩ := ks
    rw [hres] at kr km
    have hv := prs_sv sP_iv hres
    have h7 : s.2.2.2.1 ≤ 7 := hv.2.2.1
    refine ⟨fun r a2 => r = (k : Nat) ∧ BRX s a a2, en_X7_board_0 (fun G => vc_X7_board_0_0 ?_), ?_⟩
    · rw [t1]
      refine ⟨_, kr, ?_⟩
      rintro r g ⟨g1, g2, g3, g4⟩
      refine ⟨fun _ => ⟨_, ct_becomeT, ?_⟩, fun z => absurd (by omega) z⟩
      rintro u ⟨u1, u2, u3, u4, u5, u6, u7⟩
      obtain ⟨c1, c2, -, c4, c5, c6⟩ := g4
      have uN : u.1 2 2 = (s.2.2.2.1 : Nat) := by rw [u5]; exact c4
      refine ⟨_, ct_begin uN h7, ?_⟩
      rintro v ⟨v1, v2, v3, v4, v5⟩
      refine ⟨_, ct_forget, k_gv ?_⟩
      have fin : ∀ w : jH, w.2 = v.2 → (∀ q, q ≠ 25 → w.1 q = (j_up v 22 2 0).1 q) → w.1 25 0 = 0 → w.1 25 1 = 0 → BRX s a (j_up w 0 10 0) := by
        intro w w1 w2 w3 w4
        have f : ∀ q, q ≠ 0 → q ≠ 22 → q ≠ 25 → (j_up w 0 10 0).1 q = v.1 q := fun q h0 h1 h2 => by rw [up_ne h0, w2 q h2, up_ne h1]
        have fv : ∀ q, q ≠ 0 → q < 17 → (j_up w 0 10 0).1 q = u.1 q := fun q h0 h1 => by rw [f q h0 (by omega) (by omega), v2 q (by omega) (by omega) (by omega) (by omega) (by omega)]
        refine ⟨?_, ?_, up_eq, ?_, ?_, ?_, fun c hc => ?_, ?_, fun l hl => ?_, fun c hc => ?_, ?_, ?_, ?_, ?_⟩
        · show w.2 = a.2
          rw [w1, v1, u1, g2]
        · rw [fv 1 (by omega) (by omega), u2 1 (by omega), g1 1 (by omega)]
        · rw [fv 2 (by omega) (by omega), u3]; exact c1
        · rw [fv 2 (by omega) (by omega), u4]; exact c2
        · rw [fv 2 (by omega) (by omega)]; exact uN
        · have q := u7 c (by omega)
          rw [fv 4 (by omega) (by omega), fv 5 (by omega) (by omega), fv 6 (by omega) (by omega), fv 7 (by omega) (by omega), fv 8 (by omega) (by omega), q.1, q.2.1, q.2.2.1, q.2.2.2.1, q.2.2.2.2]
          exact c6 c hc
        · rw [f 17 (by omega) (by omega) (by omega)]; exact v3
        · rw [f 18 (by omega) (by omega) (by omega), v4 l hl, u6 l hl]; exact c5 l hl
        · have q := v5 c (by omega)
          rw [f 19 (by omega) (by omega) (by omega), f 20 (by omega) (by omega) (by omega), f 21 (by omega) (by omega) (by omega), q.1, q.2.1, q.2.2, (u7 c (by omega)).1, (c6 c hc).1]
          refine ⟨?_, rfl, rfl⟩
          by_cases z : s.2.2.2.2.2 0 c = 0
          · rw [if_pos ⟨hc, z⟩, if_pos z]
          · rw [if_neg (fun w => z w.2), if_neg z]
        · rw [up_ne (by omega), w2 22 (by omega), up_out (by omega), v2 22 (by omega) (by omega) (by omega) (by omega) (by omega), u2 22 (by omega), g1 22 (by omega)]
        · rw [up_ne (by omega), w2 22 (by omega), up_eq]
        · rw [up_ne (by omega)]; exact w3
        · rw [up_ne (by omega)]; exact w4
      refine jf_loop 2 (fun o lv w => lv = [jR 0, jI r, jI (o : Nat)] ∧ w.2 = v.2 ∧ (∀ q, q ≠ 25 → w.1 q = (j_up v 22 2 0).1 q) ∧ ∀ i, i < o → w.1 25 i = 0) ?_ ?_ 0 (by decide) _ _ ⟨rfl, rfl, fun _ _ => rfl, fun i hi => by omega⟩
      · rintro o ho lv w ⟨rfl, w1, w2, w3⟩ kk
        refine vc_X7_board_0_48 ⟨fun z => absurd z (by omega), fun _ => ⟨by omega, ⟨by omega, by omega⟩, kk _ _ ⟨rfl, w1, fun q hq => by rw [up_ne hq]; exact w2 q hq, fun i hi => ?_⟩⟩⟩
        rw [Int.toNat_natCast]
        by_cases e : i = o
        · rw [e, up_eq]
        · rw [up_out e]; exact w3 i (by omega)
      · rintro lv w ⟨rfl, w1, w2, w3⟩
        exact vc_X7_board_0_48 ⟨fun _ => ⟨_, rfl, g3, fin w w1 w2 (w3 0 (by omega)) (w3 1 (by omega))⟩, fun z => absurd (by decide) z⟩
    · rintro r a2 ⟨hr, hbx⟩
      refine en_X8_board_0 (fun G => vc_X8_board_0_0 ⟨_, km, ?_⟩)
      rintro r1 g ⟨g1, g2, g3, g4, g5, g6⟩
      refine ⟨fun z => absurd z (by omega), fun _ => ?_⟩
      obtain ⟨c1, c2, -, c4, c5, c6⟩ := g6
      rw [c1, c2, c4]
      refine jf_loop (5 * s.2.2.2.1) (fun o lv w => lv = [jR 0, jI (o : Nat)] ∧ w.2 = b.2 ∧ (∀ q, q ≠ 0 → q ≠ 4 → w.1 q = g.1 q) ∧ (∀ j, j < 13 ∨ 15 < j → w.1 0 j = g.1 0 j) ∧ w.1 0 13 = s.1 ∧ w.1 0 14 = s.2.1 ∧ w.1 0 15 = (s.2.2.2.1 : Nat) ∧ ∀ i, i < o → w.1 4 i = g.1 3 i) ?_ ?_ 0 (Nat.zero_le _) _ _ ⟨rfl, g2, fun q h0 _ => by rw [up_ne h0, up_ne h0, up_ne h0], fun j hj => by rw [up_out (by omega), up_out (by omega), up_out (by omega)], by rw [up_out (by omega), up_out (by omega), up_eq], by rw [up_out (by omega), up_eq], up_eq, fun i hi => by omega⟩
      · rintro o ho lv w ⟨rfl, w1, w2, w3, w4, w5, w6, w7⟩ kk
        refine vc_X8_board_0_41 ⟨⟨by omega, by omega⟩, fun z => absurd z (by omega), fun _ => ⟨by omega, ⟨by omega, by omega⟩, kk _ _ ⟨rfl, w1, fun q h0 h4 => by rw [up_ne h4]; exact w2 q h0 h4, fun j hj => by rw [up_ne (by omega)]; exact w3 j hj, by rw [up_ne (by omega)]; exact w4, by rw [up_ne (by omega)]; exact w5, by rw [up_ne (by omega)]; exact w6, fun i hi => ?_⟩⟩⟩
        rw [Int.toNat_natCast]
        by_cases e : i = o
        · rw [e, up_eq, w2 3 (by omega) (by omega)]
        · rw [up_out e]; exact w7 i (by omega)
      · rintro lv w ⟨rfl, w1, w2, w3, w4, w5, w6, w7⟩
        refine vc_X8_board_0_41 ⟨⟨by omega, by omega⟩, fun _ => ⟨_, cm_begin (h := j_up w 0 0 0) (by rw [up_out (by omega)]; exact w6) h7, ?_⟩, fun z => absurd (by omega) z⟩
        rintro v ⟨v1, v2, v3, v4, v5, v6, v7, v8, v9⟩
        refine ⟨_, rfl, ?_, ?_⟩
        · rw [v3 6 (by omega), up_out (by omega), w3 6 (by omega), g5, hr]
        · refine Rel.br hv hbx (b := b) ⟨?_, ?_, ?_, ?_, ?_, ?_, fun c hc kq hkq => ?_, v7, fun l hl => ?_, fun c hc => ?_, v4, v5, v6⟩ tt hw hx x10
          · rw [v1]; exact w1
          · rw [v2 1 (by omega) (by omega) (by omega), up_ne (by omega), w2 1 (by omega) (by omega), g1 1 (by omega) (by omega) (by omega)]
          · rw [v3 0 (by omega), up_eq]
          · rw [v3 13 (by omega), up_out (by omega)]; exact w4
          · rw [v3 14 (by omega), up_out (by omega)]; exact w5
          · rw [v3 15 (by omega), up_out (by omega)]; exact w6
          · rw [v2 4 (by omega) (by omega) (by omega), up_ne (by omega), w7 _ (by omega)]; exact c6 c hc kq hkq
          · rw [v8 l hl, up_ne (by omega), w2 2 (by omega) (by omega)]; exact c5 l hl
          · have q := v9 c (by omega)
            have e0 : (j_up w 0 0 0).1 4 (5 * c) = s.2.2.2.2.2 0 c := by rw [up_ne (by omega), w7 _ (by omega)]; exact c6 c hc 0 (by omega)
            rw [e0] at q
            rw [q.1, q.2.1, q.2.2]
            refine ⟨?_, rfl, rfl⟩
            by_cases z : s.2.2.2.2.2 0 c = 0
            · rw [if_pos ⟨hc, z⟩, if_pos z]
            · rw [if_neg (fun w => z w.2), if_neg z]
