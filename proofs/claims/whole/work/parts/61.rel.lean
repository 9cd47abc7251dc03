/-! the relation between class and model -/
/-- two rows of 28 tell the same moment -/
def RR (N : Nat) (fr to f g : Nat → Int) : Prop :=
  (f 0 = g 0 ∧ 0 ≤ f 0 ∧ f 0 ≤ 99) ∧ (∀ l, l < 6 → f (1 + l) = g (1 + l) ∧ 0 ≤ f (1 + l) ∧ f (1 + l) < 6) ∧ (∀ i j, i < 6 → j < 6 → f (1 + i) = f (1 + j) → i = j) ∧
  (∀ c, c < N → f (7 + c) = g (7 + c) ∧ f (21 + c) = g (21 + c) ∧ (0 ≤ f (21 + c) ∧ f (21 + c) ≤ f 0) ∧ (0 ≤ f (14 + c) ∧ f (14 + c) ≤ 20) ∧ (0 ≤ g (14 + c) ∧ g (14 + c) ≤ 20) ∧ (f (7 + c) = 2 → f (14 + c) = g (14 + c) ∧ 1 ≤ f (14 + c)) ∧ (¬ f (7 + c) = 2 → f (14 + c) = 0)) ∧
  ∀ i j, i < N → j < N → i ≠ j → f (7 + i) = 2 → f (7 + j) = 2 → sh fr to i j = false
theorem RR.cg {N : Nat} {fr to f g fr2 to2 f2 g2 : Nat → Int} (h7 : N ≤ 7) (h : RR N fr to f g) (hf : ∀ j, j < 28 → f2 j = f j) (hg : ∀ j, j < 28 → g2 j = g j) (h1 : ∀ c, c < N → fr c = fr2 c) (h2 : ∀ c, c < N → to c = to2 c) : RR N fr2 to2 f2 g2 := by
  obtain ⟨a1, a2, a3, a4, a5⟩ := h
  refine ⟨?_, fun l hl => ?_, fun i j hi hj => ?_, fun c hc => ?_, fun i j hi hj hn => ?_⟩
  · rw [hf 0 (by omega), hg 0 (by omega)]; exact a1
  · rw [hf _ (by omega), hg _ (by omega)]; exact a2 l hl
  · rw [hf _ (by omega), hf _ (by omega)]; exact a3 i j hi hj
  · rw [hf (7 + c) (by omega), hg (7 + c) (by omega), hf (21 + c) (by omega), hg (21 + c) (by omega), hf (14 + c) (by omega), hg (14 + c) (by omega), hf 0 (by omega)]; exact a4 c hc
  · rw [hf _ (by omega), hf _ (by omega), ← sh_cg h1 h2 hi hj]; exact a5 i j hi hj hn
def RB (N L : Nat) (a b : jH) : Prop := (a.1 2 2 = N ∧ b.1 0 15 = N ∧ N ≤ 7) ∧ (a.1 2 0 = L ∧ b.1 0 13 = L ∧ 2 ≤ L ∧ L ≤ 6) ∧ (a.1 2 1 = b.1 0 14 ∧ 1 ≤ a.1 2 1 ∧ a.1 2 1 ≤ 4) ∧ ∀ c, c < N → (a.1 4 c = mA b c ∧ 0 ≤ a.1 4 c ∧ a.1 4 c ≤ 40) ∧ (a.1 5 c = mF b c ∧ 0 ≤ a.1 5 c ∧ a.1 5 c < L) ∧ (a.1 6 c = mT b c ∧ 0 ≤ a.1 6 c ∧ a.1 6 c < L) ∧ (a.1 7 c = mN b c ∧ 1 ≤ a.1 7 c ∧ a.1 7 c ≤ 20) ∧ (a.1 8 c = mR b c ∧ 0 ≤ a.1 8 c ∧ a.1 8 c ≤ 9)
def RN (N : Nat) (a b : jH) : Prop := RR N (a.1 5) (a.1 6) (mv28 a) (b.1 5)
def RP (N : Nat) (a b : jH) : Prop := ∃ x k : Nat, (a.1 22 1 = x ∧ x < 10) ∧ (a.1 22 2 = k ∧ b.1 0 22 = k ∧ k ≤ 10) ∧ ∀ i, i < k → RR N (a.1 5) (a.1 6) (fun j => a.1 23 (28 * ((x + 10 - k + i) % 10) + j)) (fun j => b.1 9 (28 * i + j))
def RI (N : Nat) (a b : jH) : Prop := ∀ i, i < 2 → a.1 25 i = b.1 8 i ∧ (a.1 25 i = 0 ∨ RR N (a.1 5) (a.1 6) (fun j => a.1 24 (28 * i + j)) (fun j => b.1 7 (28 * i + j)))
def RT (a b : jH) : Prop := ∃ n : Nat, a.1 0 10 = n ∧ b.1 0 0 = n ∧ n ≤ 200 ∧ a.1 1 = b.1 1 ∧ ∀ j, j < n → 0 ≤ a.1 1 j ∧ a.1 1 j ≤ 255
def Rel (a b : jH) : Prop := ∃ N L : Nat, RB N L a b ∧ RN N a b ∧ RP N a b ∧ RI N a b ∧ RT a b ∧ a.2 0 = b.2 0
/-- the present moment, told by its rows -/
def PF (N : Nat) (a b : jH) : Prop :=
  (a.1 17 1 = b.1 5 0 ∧ 0 ≤ a.1 17 1 ∧ a.1 17 1 ≤ 99) ∧ (∀ l, l < 6 → a.1 18 l = mO b 5 l ∧ 0 ≤ a.1 18 l ∧ a.1 18 l < 6) ∧ (∀ i j, i < 6 → j < 6 → a.1 18 i = a.1 18 j → i = j) ∧
  (∀ c, c < N → a.1 19 c = mH b 5 c ∧ a.1 21 c = mW b 5 c ∧ (0 ≤ a.1 21 c ∧ a.1 21 c ≤ a.1 17 1) ∧ (0 ≤ a.1 20 c ∧ a.1 20 c ≤ 20) ∧ (0 ≤ mL b 5 c ∧ mL b 5 c ≤ 20) ∧ (a.1 19 c = 2 → a.1 20 c = mL b 5 c ∧ 1 ≤ a.1 20 c) ∧ (¬ a.1 19 c = 2 → a.1 20 c = 0)) ∧
  ∀ i j, i < N → j < N → i ≠ j → a.1 19 i = 2 → a.1 19 j = 2 → sh (a.1 5) (a.1 6) i j = false
theorem mv_0 {a : jH} : mv28 a 0 = a.1 17 1 := rfl
theorem mv_o {a : jH} {l : Nat} (h : l < 6) : mv28 a (1 + l) = a.1 18 l := by
  unfold mv28
  rw [if_neg (by omega), if_pos (by omega), show 1 + l - 1 = l by omega]
theorem mv_h {a : jH} {l : Nat} (h : l < 7) : mv28 a (7 + l) = a.1 19 l := by
  unfold mv28
  rw [if_neg (by omega), if_neg (by omega), if_pos (by omega), show 7 + l - 7 = l by omega]
theorem mv_l {a : jH} {l : Nat} (h : l < 7) : mv28 a (14 + l) = a.1 20 l := by
  unfold mv28
  rw [if_neg (by omega), if_neg (by omega), if_neg (by omega), if_pos (by omega), show 14 + l - 14 = l by omega]
theorem mv_w {a : jH} {l : Nat} : mv28 a (21 + l) = a.1 21 l := by
  unfold mv28
  rw [if_neg (by omega), if_neg (by omega), if_neg (by omega), if_neg (by omega), show 21 + l - 21 = l by omega]
theorem RN.pf {N : Nat} {a b : jH} (h7 : N ≤ 7) (h : RN N a b) : PF N a b := by
  obtain ⟨a1, a2, a3, a4, a5⟩ := h
  refine ⟨a1, fun l hl => ?_, fun i j hi hj e => a3 i j hi hj (by rw [mv_o hi, mv_o hj, e]), fun c hc => ?_, fun i j hi hj hn e1 e2 => a5 i j hi hj hn (by rw [mv_h (by omega), e1]) (by rw [mv_h (by omega), e2])⟩
  · have := a2 l hl
    rw [mv_o hl] at this
    exact this
  · have := a4 c hc
    rw [mv_h (by omega), mv_l (by omega), mv_w] at this
    exact this
theorem PF.rn {N : Nat} {a b : jH} (h7 : N ≤ 7) (h : PF N a b) : RN N a b := by
  obtain ⟨a1, a2, a3, a4, a5⟩ := h
  refine ⟨a1, fun l hl => ?_, fun i j hi hj e => a3 i j hi hj (by rw [mv_o hi, mv_o hj] at e; exact e), fun c hc => ?_, fun i j hi hj hn e1 e2 => a5 i j hi hj hn (by rw [mv_h (by omega)] at e1; exact e1) (by rw [mv_h (by omega)] at e2; exact e2)⟩
  · rw [mv_o hl]
    exact a2 l hl
  · rw [mv_h (by omega), mv_l (by omega), mv_w]
    exact a4 c hc
/-! what is left as it was -/
theorem RB.kp {N L : Nat} {a b a2 b2 : jH} (h : RB N L a b) (h1 : ∀ k, k = 2 ∨ k = 4 ∨ k = 5 ∨ k = 6 ∨ k = 7 ∨ k = 8 → a2.1 k = a.1 k) (h2 : b2.1 4 = b.1 4) (h3 : ∀ j, j = 13 ∨ j = 14 ∨ j = 15 → b2.1 0 j = b.1 0 j) : RB N L a2 b2 := by
  unfold RB mA mF mT mN mR at *
  rw [h1 2 (by omega), h1 4 (by omega), h1 5 (by omega), h1 6 (by omega), h1 7 (by omega), h1 8 (by omega), h2, h3 13 (by omega), h3 14 (by omega), h3 15 (by omega)]
  exact h
theorem RP.kp {N : Nat} {a b a2 b2 : jH} (h : RP N a b) (h1 : ∀ k, k = 5 ∨ k = 6 ∨ k = 22 ∨ k = 23 → a2.1 k = a.1 k) (h2 : b2.1 9 = b.1 9) (h3 : b2.1 0 22 = b.1 0 22) : RP N a2 b2 := by
  unfold RP at *
  rw [h1 5 (by omega), h1 6 (by omega), h1 22 (by omega), h1 23 (by omega), h2, h3]
  exact h
theorem RI.kp {N : Nat} {a b a2 b2 : jH} (h : RI N a b) (h1 : ∀ k, k = 5 ∨ k = 6 ∨ k = 24 ∨ k = 25 → a2.1 k = a.1 k) (h2 : b2.1 7 = b.1 7) (h3 : b2.1 8 = b.1 8) : RI N a2 b2 := by
  unfold RI at *
  rw [h1 5 (by omega), h1 6 (by omega), h1 24 (by omega), h1 25 (by omega), h2, h3]
  exact h
theorem RT.kp {a b a2 b2 : jH} (h : RT a b) (h1 : a2.1 1 = a.1 1) (h0 : a2.1 0 10 = a.1 0 10) (h2 : b2.1 1 = b.1 1) (h3 : b2.1 0 0 = b.1 0 0) : RT a2 b2 := by
  unfold RT at *
  rw [h1, h0, h2, h3]
  exact h
theorem PF.kp {N : Nat} {a b a2 b2 : jH} (h : PF N a b) (h1 : ∀ k, k = 5 ∨ k = 6 ∨ k = 17 ∨ k = 18 ∨ k = 19 ∨ k = 20 ∨ k = 21 → a2.1 k = a.1 k) (h2 : b2.1 5 = b.1 5) : PF N a2 b2 := by
  unfold PF mO mH mL mW at *
  rw [h1 5 (by omega), h1 6 (by omega), h1 17 (by omega), h1 18 (by omega), h1 19 (by omega), h1 20 (by omega), h1 21 (by omega), h2]
  exact h
def XK (a a2 : jH) : Prop := a2.2 = a.2 ∧ (∀ k, k ≠ 0 → k < 9 ∨ (16 < k ∧ k < 26) → a2.1 k = a.1 k) ∧ a2.1 0 10 = a.1 0 10
theorem XK.rfl {a : jH} : XK a a := ⟨Eq.refl _, fun _ _ _ => Eq.refl _, Eq.refl _⟩
theorem XK.of {a a2 : jH} (h : a2.2 = a.2) (hk : ∀ k, k < 26 → a2.1 k = a.1 k) : XK a a2 := ⟨h, fun k _ q => hk k (by omega), by rw [hk 0 (by omega)]⟩
theorem Rel.kp {a b a2 b2 : jH} (h : Rel a b) (hx : XK a a2) (hm : MK b b2) : Rel a2 b2 := by
  obtain ⟨N, L, h1, h2, h3, h4, h5, h6⟩ := h
  obtain ⟨x1, x2, x3⟩ := hx
  obtain ⟨m1, m2, m3⟩ := hm
  refine ⟨N, L, h1.kp (fun k hk => x2 k (by omega) (by omega)) (m2 4 (by omega)) (fun j hj => m3 j (by omega)), ((h2.pf h1.1.2.2).kp (fun k hk => x2 k (by omega) (by omega)) (m2 5 (by omega))).rn h1.1.2.2, h3.kp (fun k hk => x2 k (by omega) (by omega)) (m2 9 (by omega)) (m3 22 (by omega)), h4.kp (fun k hk => x2 k (by omega) (by omega)) (m2 7 (by omega)) (m2 8 (by omega)), h5.kp (x2 1 (by omega) (by omega)) x3 (m2 1 (by omega)) (m3 0 (by omega)), by rw [x1, m1]; exact h6⟩
/-! both sides answer alike, and stay related -/
def PR (Mx Mm : jM) (av : List jV) (a b : jH) : Prop := ∃ P : Int → jH → Prop, CT Sx Mx (jR 0 :: av) a (jPi P) ∧ ∀ r a2, P r a2 → CT Sm Mm (jR 0 :: av) b (jPi fun r2 b2 => r2 = r ∧ Rel a2 b2)
theorem PR.q {Mx Mm : jM} {av : List jV} {a b : jH} (hR : Rel a b) (P : Int → Prop) (hx : CT Sx Mx (jR 0 :: av) a (jPi fun r a2 => P r ∧ XK a a2)) (hm : ∀ r, P r → CT Sm Mm (jR 0 :: av) b (jPi fun r2 b2 => r2 = r ∧ MK b b2)) : PR Mx Mm av a b :=
  ⟨_, hx, fun r a2 hp => (hm r hp.1).post (fun _ _ q => by
    obtain ⟨r2, e, e2, k⟩ := q
    exact ⟨r2, e, e2, hR.kp hp.2 k⟩)⟩
theorem PR.f {Mx Mm : jM} {av : List jV} {a b : jH} (hR : Rel a b) {r : Int} (hx : CF Sx Mx (jR 0 :: av) a r) (hm : CF Sm Mm (jR 0 :: av) b r) : PR Mx Mm av a b :=
  PR.q hR (fun x => x = r) (hx.post (fun _ _ q => by
    obtain ⟨r2, e, e2, k⟩ := q
    exact ⟨r2, e, e2, by rw [k]; exact XK.rfl⟩)) (fun x hx => hm.post (fun _ _ q => by
    obtain ⟨r2, e, e2, k⟩ := q
    exact ⟨r2, e, by rw [e2, hx], by rw [k]; exact MK.rfl⟩))
/-! what follows from it -/
section
variable {N L : Nat} {a b : jH}
theorem RB.hf (h : RB N L a b) : ∀ c, c < N → a.1 5 c = mF b c := fun c hc => (h.2.2.2 c hc).2.1.1
theorem RB.ht (h : RB N L a b) : ∀ c, c < N → a.1 6 c = mT b c := fun c hc => (h.2.2.2 c hc).2.2.1.1
theorem RB.hl (h : RB N L a b) : ∀ c, c < N → a.1 7 c = mN b c := fun c hc => (h.2.2.2 c hc).2.2.2.1.1
theorem RB.hfl (h : RB N L a b) : ∀ c, c < N → a.1 4 c = mA b c := fun c hc => (h.2.2.2 c hc).1.1
theorem RB.hr (h : RB N L a b) : ∀ c, c < N → a.1 8 c = mR b c := fun c hc => (h.2.2.2 c hc).2.2.2.2.1
theorem RB.lk (h : RB N L a b) : lkL (a.1 5) (a.1 6) N L := fun c hc => ⟨(h.2.2.2 c hc).2.1.2, (h.2.2.2 c hc).2.2.1.2⟩
theorem RB.lkm (h : RB N L a b) : lkL (mF b) (mT b) N L := fun c hc => by have := h.lk c hc; rw [h.hf c hc, h.ht c hc] at this; exact this
theorem RB.lo (h : RB N L a b) : lok (a.1 5) (a.1 6) N := fun c hc => by have := h.lk c hc; have := h.2.1.2.2.2; omega
theorem RB.lom (h : RB N L a b) : lok (mF b) (mT b) N := fun c hc => by have := h.lkm c hc; have := h.2.1.2.2.2; omega
theorem PF.hkx (h : PF N a b) {L : Nat} (hL : L ≤ 6) : hok (a.1 18) L := fun l hl => (h.2.1 l (by omega)).2
theorem PF.hkm (h : PF N a b) {L : Nat} (hL : L ≤ 6) : hok (mO b 5) L := fun l hl => by rw [← (h.2.1 l (by omega)).1]; exact (h.2.1 l (by omega)).2
theorem PF.hh (h : PF N a b) : ∀ c, c < N → a.1 19 c = mH b 5 c := fun c hc => (h.2.2.2.1 c hc).1
theorem RB.smx (h : RB N L a b) (hp : PF N a b) : sml a N := by
  have h0 := hp.1
  exact ⟨fun c hc => (hp.2.2.2.1 c hc).2.2.2.1, fun c hc => by have := (hp.2.2.2.1 c hc).2.2.1; omega, by omega, fun c hc => by have := (h.2.2.2 c hc).2.2.2.1; omega, fun c hc => (h.2.2.2 c hc).2.2.2.2.2⟩
theorem RB.mkx (h : RB N L a b) (hp : PF N a b) : mok b N := by
  have h0 := hp.1
  have hx := h.2.2.1
  refine ⟨fun c hc e => ?_, fun c hc => (hp.2.2.2.1 c hc).2.2.2.2.1, fun c hc => ?_, by omega, fun c hc => ?_, fun c hc => ?_, by omega⟩
  · have := hp.2.2.2.1 c hc
    rw [← this.1] at e
    have := this.2.2.2.2.2.1 e
    omega
  · have := hp.2.2.2.1 c hc; omega
  · have := (h.2.2.2 c hc).2.2.2.1; omega
  · have := (h.2.2.2 c hc).2.2.2.2; omega
/-- at most one talks on a line -/
theorem PF.one (h : PF N a b) (l : Int) : ∀ i j, i < N → j < N → (a.1 19 i == 2 && (a.1 5 i == l || a.1 6 i == l)) = true → (a.1 19 j == 2 && (a.1 5 j == l || a.1 6 j == l)) = true → i = j := by
  intro i j hi hj e1 e2
  simp only [Bool.and_eq_true, Bool.or_eq_true, beq_iff_eq] at e1 e2
  apply Decidable.byContradiction
  intro hn
  have := h.2.2.2.2 i j hi hj hn e1.1 e2.1
  unfold sh at this
  simp only [Bool.or_eq_false_iff, beq_eq_false_iff_ne, ne_eq] at this
  rcases e1.2 with q | q <;> rcases e2.2 with p | p
  · exact this.1.1.1 (by rw [q, p])
  · exact this.1.1.2 (by rw [q, p])
  · exact this.1.2 (by rw [q, p])
  · exact this.2 (by rw [q, p])
theorem RB.eng (h : RB N L a b) (hp : PF N a b) (l : Int) : lst_ (fun c => mH b 5 c == 2 && (mF b c == l || mT b c == l)) N = fst_ (fun c => a.1 19 c == 2 && (a.1 5 c == l || a.1 6 c == l)) N := by
  have e : ∀ k, k < N → (mH b 5 k == 2 && (mF b k == l || mT b k == l)) = (a.1 19 k == 2 && (a.1 5 k == l || a.1 6 k == l)) := fun k hk => by rw [hp.hh k hk, h.hf k hk, h.ht k hk]
  rw [lst_fst (fun i j hi hj e1 e2 => hp.one l i j hi hj (by rw [← e i hi]; exact e1) (by rw [← e j hj]; exact e2))]
  exact fst_congr e
theorem RB.yr (h : RB N L a b) (hp : PF N a b) : YR N (s0 a) (m0 b) := by
  have h7 := h.1.2.2
  refine ⟨hp.1.1, fun c hc => ?_, fun c hc => ?_⟩
  · have := hp.2.2.2.1 c hc
    refine ⟨?_, fun e => ?_⟩
    · show (bc_ a).1 30 c = _
      rw [bc_30 (by omega)]; exact this.1
    · have e : (bc_ a).1 30 c = 2 := e
      rw [bc_30 (by omega)] at e
      show (bc_ a).1 31 c = _
      rw [bc_31 (by omega)]; exact (this.2.2.2.2.2.1 e).1
  · show (bc_ a).1 32 c = _
    rw [bc_32 (by omega)]; exact (hp.2.2.2.1 c hc).2.1
end
