/-! the model: days by rules -/
theorem MRow.mh {h : jH} {s : Nat} {m : Int} {ho hw lf wt : Nat → Int} (k : MRow h s m ho hw lf wt) {c : Nat} (hc : c < 7) : mH h s c = hw c := (k.2.2 c hc).1
/-- a minute: those of a row of n are plugged, then time passes -/
def dz (N n : Nat) (fr to ln fl : Nat → Int) (x : Int) (o : Nat → Int) (s : jY) : jY :=
  (s.1 + 1, (qF N fl (s.1 + 1) (qH N (plA N fr to ln x o s.2.1 n).1 (plA N fr to ln x o s.2.1 n).2), qL N (plA N fr to ln x o s.2.1 n).1 (plA N fr to ln x o s.2.1 n).2), qW N (plA N fr to ln x o s.2.1 n).1 s.2.2)
def dzN (N n : Nat) (fr to ln fl : Nat → Int) (x : Int) (o : Nat → Int) (s : jY) : Nat → jY
  | 0 => s
  | k + 1 => dz N n fr to ln fl x o (dzN N n fr to ln fl x o s k)
section DZ
variable {N n : Nat} {fr to ln fl : Nat → Int} {x : Int} {o : Nat → Int} {s : jY}
theorem dzN_dy (k : Nat) : dzN N N fr to ln fl x o s k = dyN N fr to ln fl x o s k := by
  induction k with
  | zero => rfl
  | succ k ih => simp only [dzN, dyN, ih]; rfl
theorem dzN_m (k : Nat) : (dzN N n fr to ln fl x o s k).1 = s.1 + k := by
  induction k with
  | zero => simp [dzN]
  | succ k ih => simp only [dzN, dz, ih]; omega
theorem dzN_w {B : Int} (hw : ∀ c, c < N → -B ≤ s.2.2 c ∧ s.2.2 c ≤ B) (k : Nat) : ∀ c, c < N → -B ≤ (dzN N n fr to ln fl x o s k).2.2 c ∧ (dzN N n fr to ln fl x o s k).2.2 c ≤ B + k := by
  induction k with
  | zero => intro c hc; have := hw c hc; simp only [dzN]; omega
  | succ k ih =>
    intro c hc
    have := ih c hc
    simp only [dzN, dz, qW]
    split <;> omega
theorem dzN_l {B : Int} (hs : ∀ c, c < N → -B ≤ s.2.1.2 c ∧ s.2.1.2 c ≤ B) (hln : ∀ c, c < N → -B ≤ ln c ∧ ln c ≤ B) (k : Nat) : ∀ c, c < N → -(B + k) ≤ (dzN N n fr to ln fl x o s k).2.1.2 c ∧ (dzN N n fr to ln fl x o s k).2.1.2 c ≤ B + k := by
  induction k with
  | zero => intro c hc; have := hs c hc; simp only [dzN]; omega
  | succ k ih =>
    intro c hc
    have := plA_bd (x := x) (o := o) (fr := fr) (to := to) (ln := ln) (B := B + k) ih (fun c hc => by have := hln c hc; omega) n c hc
    simp only [dzN, dz, qL]
    split <;> omega
end DZ
/-- those who talk have something left -/
def TK (N : Nat) (s : jD) : Prop := ∀ c, c < N → s.1 c = 2 → 1 ≤ s.2 c
theorem plA_tk {N : Nat} {fr to ln : Nat → Int} {x : Int} {o : Nat → Int} {s : jD} (hs : TK N s) (hln : ∀ c, c < N → 1 ≤ ln c) (i : Nat) : TK N (plA N fr to ln x o s i) := by
  induction i with
  | zero => exact hs
  | succ i ih =>
    intro c hc
    simp only [plA, pl1]
    split
    · simp only
      split
      · rename_i e; rw [← e]; exact fun _ => hln c hc
      · exact ih c hc
    · exact ih c hc
theorem qF_2 {N : Nat} {fl hw : Nat → Int} {m : Int} {j : Nat} (h : qF N fl m hw j = 2) : hw j = 2 := by
  unfold qF at h
  split at h
  · exact absurd h (by decide)
  · exact h
theorem qH_2 {N : Nat} {hw lf : Nat → Int} {j : Nat} (h : qH N hw lf j = 2) : hw j = 2 ∧ (j < N → 2 ≤ lf j) := by
  unfold qH at h
  split at h
  · exact absurd h (by decide)
  · rename_i e; exact ⟨h, fun hj => by omega⟩
theorem qF_3 {N : Nat} {fl hw : Nat → Int} {m : Int} {j : Nat} (h : hw j = 3) : qF N fl m hw j = 3 := by
  unfold qF
  rw [if_neg (by omega), h]
theorem qH_3 {N : Nat} {hw lf : Nat → Int} {j : Nat} (h : hw j = 3) : qH N hw lf j = 3 := by
  unfold qH
  rw [if_neg (by omega), h]
theorem dz_tk {N n : Nat} {fr to ln fl : Nat → Int} {x : Int} {o : Nat → Int} {s : jY} : TK N (dz N n fr to ln fl x o s).2.1 := by
  intro c hc e
  have h2 := qH_2 (qF_2 e)
  have h3 := h2.2 hc
  simp only [dz, qL]
  rw [if_pos ⟨hc, h2.1⟩]
  omega
theorem dzN_tk {N n : Nat} {fr to ln fl : Nat → Int} {x : Int} {o : Nat → Int} {s : jY} (hs : TK N s.2.1) (k : Nat) : TK N (dzN N n fr to ln fl x o s k).2.1 := by
  induction k with
  | zero => exact hs
  | succ k ih => exact dz_tk
theorem canp_1 {N : Nat} {fr to : Nat → Int} {x : Int} {hw : Nat → Int} {c : Nat} (h : canp N fr to x hw c = true) : hw c = 1 := by
  unfold canp at h
  rw [Bool.and_eq_true] at h
  exact beq_iff_eq.mp h.1
theorem plA_d {N : Nat} {fr to ln : Nat → Int} {x : Int} {o : Nat → Int} {s : jD} (i : Nat) (c : Nat) : (plA N fr to ln x o s i).1 c = 3 ↔ s.1 c = 3 := by
  induction i with
  | zero => exact Iff.rfl
  | succ i ih =>
    simp only [plA, pl1]
    split
    · rename_i h
      have := canp_1 h
      simp only
      split
      · rename_i e; rw [← ih, e, this]; decide
      · exact ih
    · exact ih
theorem dyN_d {N : Nat} {fr to ln fl : Nat → Int} {x : Int} {o : Nat → Int} {s : jY} {c : Nat} (h : s.2.1.1 c = 3) (k : Nat) : (dyN N fr to ln fl x o s k).2.1.1 c = 3 := by
  induction k with
  | zero => exact h
  | succ k ih =>
    have h1 := (plA_d (N := N) (fr := fr) (to := to) (ln := ln) (x := x) (o := o) (s := (dyN N fr to ln fl x o s k).2.1) N c).mpr ih
    exact qF_3 (qH_3 h1)
theorem onI_neg {q : Option Nat} : onI q < 0 ↔ onI q = -9 := by
  cases q with
  | none => simp [onI]
  | some k => simp [onI]
theorem fdN_neg {N : Nat} {fr to ln fl : Nat → Int} {x : Int} {o : Nat → Int} {s : jY} (k : Nat) : fdN N fr to ln fl x o s k < 0 ↔ fdN N fr to ln fl x o s k = -9 := by
  induction k with
  | zero => simp [fdN]
  | succ k ih =>
    simp only [fdN]
    split
    · exact onI_neg
    · exact ih
theorem fdN_d {N : Nat} (h7 : N ≤ 7) {fr to ln fl : Nat → Int} {x : Int} {o : Nat → Int} {s : jY} (k : Nat) (h : fdN N fr to ln fl x o s k = -9) : ∀ c, c < N → ((dyN N fr to ln fl x o s k).2.1.1 c = 3 ↔ s.2.1.1 c = 3) := by
  intro c hc
  refine ⟨fun e => ?_, fun e => dyN_d e k⟩
  cases k with
  | zero => exact e
  | succ k =>
    simp only [fdN] at h
    split at h
    · rw [onI_none, fst_none] at h
      have := h c (by omega)
      rw [decide_eq_true hc, e] at this
      simpa using this
    · contradiction
/-- what a day leaves alone -/
def MF (h g : jH) : Prop := (∀ a, a ≠ 0 → a ≠ 6 → a ≠ 11 → g.1 a = h.1 a) ∧ (∀ j, j ≠ 27 → g.1 0 j = h.1 0 j) ∧ g.2 = h.2
theorem MF.s6 {h g u : jH} (k : MF h g) (h1 : ∀ a, a ≠ 6 → u.1 a = g.1 a) (h2 : u.2 = g.2) : MF h u :=
  ⟨fun a h0 h6 h11 => by rw [h1 a h6]; exact k.1 a h0 h6 h11, fun j hj => by rw [h1 0 (by decide)]; exact k.2.1 j hj, by rw [h2]; exact k.2.2⟩
theorem MF.s27 {h g : jH} (k : MF h g) (v : Int) : MF h (j_up g 0 27 v) :=
  ⟨fun a h0 h6 h11 => by rw [up_ne h0]; exact k.1 a h0 h6 h11, fun j hj => by rw [up_out (by omega)]; exact k.2.1 j hj, k.2.2⟩
theorem MF.s11 {h g : jH} (k : MF h g) (j : Nat) (v : Int) : MF h (j_up g 11 j v) :=
  ⟨fun a h0 h6 h11 => by rw [up_ne h11]; exact k.1 a h0 h6 h11, fun j hj => by rw [up_ne (by decide)]; exact k.2.1 j hj, k.2.2⟩
theorem MF.c4 {h g : jH} (k : MF h g) : mF g = mF h ∧ mT g = mT h ∧ mN g = mN h ∧ mA g = mA h ∧ mR g = mR h := by
  have e4 := k.1 4 (by decide) (by decide) (by decide)
  refine ⟨?_, ?_, ?_, ?_, ?_⟩ <;> funext c
  · unfold mF; rw [e4]
  · unfold mT; rw [e4]
  · unfold mN; rw [e4]
  · unfold mA; rw [e4]
  · unfold mR; rw [e4]
theorem MF.rfl {h : jH} : MF h h := ⟨fun _ _ _ _ => Eq.refl _, fun _ _ => Eq.refl _, Eq.refl _⟩
/-- the model's numbers are small -/
def mok (h : jH) (N : Nat) : Prop := (∀ c, c < N → mH h 5 c = 2 → 1 ≤ mL h 5 c) ∧ (∀ c, c < N → 0 ≤ mL h 5 c ∧ mL h 5 c ≤ 20) ∧ (∀ c, c < N → 0 ≤ mW h 5 c ∧ mW h 5 c ≤ 1000) ∧ (0 ≤ h.1 5 0 ∧ h.1 5 0 ≤ 1000) ∧ (∀ c, c < N → 1 ≤ mN h c ∧ mN h c ≤ 20) ∧ (∀ c, c < N → 0 ≤ mR h c ∧ mR h c ≤ 9) ∧ 0 ≤ h.1 0 14 ∧ h.1 0 14 ≤ 100
/-- the day's start -/
def m0 (h : jH) : jY := (h.1 5 0, (mH h 5, mL h 5), mW h 5)
theorem lo_fin {p : Nat → Bool} {N : Nat} (h7 : N ≤ 7) {v : Int} (hp : ∀ c, p c = true → c < N) (h : (∀ c, c < N → p c = false) ∨ ∃ c : Nat, c < N ∧ v = c ∧ p c = true ∧ ∀ j, j < c → p j = false) (hne : ¬ ∀ c, c < 7 → p c = false) : v = onI (fst_ p 7) := by
  rcases h with h | ⟨c, h1, h2, h3, h4⟩
  · refine absurd (fun c hc => ?_) hne
    by_cases e : c < N
    · exact h c e
    · cases z : p c with
      | false => rfl
      | true => exact absurd (hp c z) e
  · rw [fst_at (by omega) h3 h4, h2]; rfl
