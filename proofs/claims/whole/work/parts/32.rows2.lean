/-! in which row to plug: how long a row waits -/
section ROWT
variable {N : Nat} {fr to ln : Nat → Int} {x : Int}
theorem lfree_anti {p q : Nat → Bool} {c : Nat} (h : ∀ k, k < N → p k = true → q k = true) (hl : lfree fr to N (bt q N) c = true) : lfree fr to N (bt p N) c = true := by
  unfold lfree at *
  rw [allb_iff] at *
  intro o ho
  have := hl o ho
  rw [bt_tb, decide_eq_true ho, Bool.true_and] at *
  cases hp : p o with
  | false => simp
  | true => rw [h o ho hp] at this; exact this
theorem lfree_congr {p q : Nat → Bool} {c : Nat} (h : ∀ k, k < N → p k = q k) : lfree fr to N (bt p N) c = lfree fr to N (bt q N) c := by rw [bt_congr h]
theorem canE_anti {e e2 : Nat → Int} {t : Int} {c : Nat} (h : ∀ k, k < N → t < e k → t < e2 k) (hc : canE N fr to x e t c = false) : canE N fr to x e2 t c = false := by
  cases h2 : canE N fr to x e2 t c with
  | false => rfl
  | true =>
    unfold canE at *
    rw [Bool.and_eq_true, decide_eq_true_eq] at h2
    have h3 : ∀ k, k < N → tk e t k = true → tk e2 t k = true := fun k hk hz => by
      simp only [tk, decide_eq_true_eq] at *
      exact h k hk hz
    have h4 := cnt_mono h3
    rw [lfree_anti h3 h2.2, decide_eq_true (by omega)] at hc
    cases hc
theorem canE_congr {e e2 : Nat → Int} {t t2 : Int} {c : Nat} (h : ∀ k, k < N → (t < e k ↔ t2 < e2 k)) : canE N fr to x e t c = canE N fr to x e2 t2 c := by
  have h3 : ∀ k, k < N → tk e t k = tk e2 t2 k := fun k hk => by
    simp only [tk]
    exact decide_eq_decide.mpr (h k hk)
  unfold canE
  rw [cnt_congr h3, lfree_congr h3]
theorem paN_congr {t : Int} {row row2 e e2 : Nat → Int} {n : Nat} (hr : ∀ i, i < n → 0 ≤ row i ∧ row i < N) (hrr : ∀ i, i < n → row i = row2 i) (he : ∀ j, j < N → e j = e2 j) : ∀ i, i ≤ n → (paN N fr to ln x t row e i).2 = (paN N fr to ln x t row2 e2 i).2 ∧ ∀ j, j < N → (paN N fr to ln x t row e i).1 j = (paN N fr to ln x t row2 e2 i).1 j := by
  intro i
  induction i with
  | zero => intro _; exact ⟨rfl, he⟩
  | succ i ih =>
    intro hi
    obtain ⟨h1, h2⟩ := ih (by omega)
    have r1 := hr i (by omega)
    simp only [paN]
    rw [← hrr i (by omega)]
    generalize paN N fr to ln x t row e i = s at h1 h2 ⊢
    generalize paN N fr to ln x t row2 e2 i = s2 at h1 h2 ⊢
    unfold pa1
    rw [h2 (row i).toNat (by omega), canE_congr (e := s.1) (e2 := s2.1) (t2 := t) (fun k hk => by rw [h2 k hk])]
    split
    · split
      · refine ⟨h1, fun j hj => ?_⟩
        simp only
        split
        · rfl
        · exact h2 j hj
      · exact ⟨by simp only; omega, h2⟩
    · exact ⟨h1, h2⟩
/-- a row of different calls -/
def rok (N n : Nat) (row : Nat → Int) : Prop := inj row n ∧ ∀ i, i < n → 0 ≤ row i ∧ row i < N
theorem paN_st {t : Int} {row e : Nat → Int} {n : Nat} (hr : rok N n row) (ht : 0 ≤ t) (hln : ∀ c, c < N → 1 ≤ ln c) : ∀ i, i ≤ n → (∀ j, j < i → (paN N fr to ln x t row e i).1 (row j).toNat = 0 → canE N fr to x (paN N fr to ln x t row e i).1 t (row j).toNat = false) ∧ (paN N fr to ln x t row e i).2 = cnt (fun j => decide ((paN N fr to ln x t row e i).1 (row j).toNat = 0)) i := by
  intro i
  induction i with
  | zero => intro _; exact ⟨fun j hj => by omega, rfl⟩
  | succ i ih =>
    intro hi
    obtain ⟨h1, h2⟩ := ih (by omega)
    have r1 := hr.2 i (by omega)
    have es : paN N fr to ln x t row e (i + 1) = pa1 N fr to ln x t (paN N fr to ln x t row e i) (row i).toNat := rfl
    rw [es]
    generalize paN N fr to ln x t row e i = s at h1 h2 ⊢
    unfold pa1
    by_cases hz : s.1 (row i).toNat = 0
    · rw [if_pos hz]
      cases hc : canE N fr to x s.1 t (row i).toNat with
      | true =>
        simp only [if_true]
        have l1 := hln (row i).toNat (by omega)
        have ne : ∀ j, j < i → ¬ (row j).toNat = (row i).toNat := by
          intro j hj hz
          have r2 := hr.2 j (by omega)
          have := hr.1 j i (by omega) (by omega) (by omega)
          omega
        refine ⟨fun j hj hj0 => ?_, ?_⟩
        · by_cases ej : j = i
          · subst ej
            simp at hj0
            omega
          · rw [if_neg (ne j (by omega))] at hj0
            refine canE_anti (fun k hk hlt => ?_) (h1 j (by omega) hj0)
            by_cases ek : k = (row i).toNat
            · rw [if_pos ek]; omega
            · rw [if_neg ek]; exact hlt
        · rw [h2, cnt]
          rw [if_neg (by simp; omega), Nat.add_zero]
          refine cnt_congr (fun j hj => ?_)
          rw [if_neg (ne j hj)]
      | false =>
        refine ⟨fun j hj hj0 => ?_, ?_⟩
        · by_cases ej : j = i
          · subst ej; exact hc
          · exact h1 j (by omega) hj0
        · simp only [cnt, hz, h2]
          simp
          exact hz
    · rw [if_neg hz]
      refine ⟨fun j hj hj0 => ?_, ?_⟩
      · by_cases ej : j = i
        · subst ej; exact absurd hj0 hz
        · exact h1 j (by omega) hj0
      · rw [h2, cnt]
        simp [hz]
/-- a row along which nobody can be plugged stays as it is -/
theorem paN_id {t : Int} {row e : Nat → Int} {n : Nat} (h : ∀ j, j < n → e (row j).toNat = 0 → canE N fr to x e t (row j).toNat = false) : ∀ i, i ≤ n → paN N fr to ln x t row e i = (e, cnt (fun j => decide (e (row j).toNat = 0)) i) := by
  intro i
  induction i with
  | zero => intro _; rfl
  | succ i ih =>
    intro hi
    simp only [paN]
    rw [ih (by omega)]
    unfold pa1
    by_cases hz : e (row i).toNat = 0
    · simp only [cnt, hz, h i (by omega) hz]
      simp
    · simp only [cnt, hz]
      simp
/-- ends ahead of minute k -/
def eK (N : Nat) (fr to ln : Nat → Int) (x : Int) (row : Nat → Int) (n : Nat) (e : Nat → Int) : Nat → Nat → Int
  | 0 => e
  | k + 1 => (paN N fr to ln x k row (eK N fr to ln x row n e k) n).1
def wK (N : Nat) (fr to ln : Nat → Int) (x : Int) (row : Nat → Int) (n : Nat) (e : Nat → Int) (k : Nat) : Nat := (paN N fr to ln x k row (eK N fr to ln x row n e k) n).2
/-- how long those of a row wait in the first m minutes -/
def tW (N : Nat) (fr to ln : Nat → Int) (x : Int) (row : Nat → Int) (n : Nat) (e : Nat → Int) : Nat → Nat
  | 0 => 0
  | m + 1 => tW N fr to ln x row n e m + wK N fr to ln x row n e m
theorem tW_mono {row e : Nat → Int} {n a b : Nat} (h : a ≤ b) : tW N fr to ln x row n e a ≤ tW N fr to ln x row n e b := by
  obtain ⟨d, rfl⟩ : ∃ d, b = a + d := ⟨b - a, by omega⟩
  clear h
  induction d with
  | zero => exact Nat.le_refl _
  | succ d ih => rw [← Nat.add_assoc]; simp only [tW]; omega
theorem wK_le {row e : Nat → Int} {n k : Nat} : wK N fr to ln x row n e k ≤ n := paN_le
theorem tW_le {row e : Nat → Int} {n m : Nat} : tW N fr to ln x row n e m ≤ n * m := by
  induction m with
  | zero => simp [tW]
  | succ m ih =>
    have := wK_le (N := N) (fr := fr) (to := to) (ln := ln) (x := x) (row := row) (e := e) (n := n) (k := m)
    simp only [tW]
    rw [Nat.mul_succ]
    omega
/-- from a minute on, until the next end, nothing changes -/
theorem tW_run {row e : Nat → Int} {n a b : Nat} (hr : rok N n row) (hln : ∀ c, c < N → 1 ≤ ln c) (hab : a < b) (hend : ∀ c, c < N → (a : Int) < eK N fr to ln x row n e (a + 1) c → (b : Int) ≤ eK N fr to ln x row n e (a + 1) c) : ∀ d, a + 1 + d ≤ b → eK N fr to ln x row n e (a + 1 + d) = eK N fr to ln x row n e (a + 1) ∧ tW N fr to ln x row n e (a + 1 + d) = tW N fr to ln x row n e a + wK N fr to ln x row n e a * (d + 1) := by
  obtain ⟨s1, s2⟩ := paN_st (fr := fr) (to := to) (x := x) (t := (a : Int)) (e := eK N fr to ln x row n e a) hr (by omega) hln n (Nat.le_refl _)
  have e1 : (paN N fr to ln x a row (eK N fr to ln x row n e a) n).1 = eK N fr to ln x row n e (a + 1) := rfl
  have e2 : (paN N fr to ln x a row (eK N fr to ln x row n e a) n).2 = wK N fr to ln x row n e a := rfl
  rw [e1] at s1 s2
  rw [e2] at s2
  intro d
  induction d with
  | zero => intro _; refine ⟨rfl, ?_⟩; simp [tW]
  | succ d ih =>
    intro hd
    obtain ⟨i1, i2⟩ := ih (by omega)
    have key : paN N fr to ln x ((a + 1 + d : Nat) : Int) row (eK N fr to ln x row n e (a + 1)) n = (eK N fr to ln x row n e (a + 1), wK N fr to ln x row n e a) := by
      rw [paN_id (fun j hj hj0 => ?_) n (Nat.le_refl _), ← s2]
      rw [← canE_congr (t := (a : Int)) (e := eK N fr to ln x row n e (a + 1)) (fun k hk => ?_)]
      · exact s1 j hj hj0
      · constructor
        · intro hlt
          have := hend k hk hlt
          omega
        · intro hlt
          omega
    have ek : eK N fr to ln x row n e (a + 1 + (d + 1)) = (paN N fr to ln x ((a + 1 + d : Nat) : Int) row (eK N fr to ln x row n e (a + 1 + d)) n).1 := rfl
    have tk1 : tW N fr to ln x row n e (a + 1 + (d + 1)) = tW N fr to ln x row n e (a + 1 + d) + (paN N fr to ln x ((a + 1 + d : Nat) : Int) row (eK N fr to ln x row n e (a + 1 + d)) n).2 := rfl
    rw [ek, tk1, i1, key, i2]
    refine ⟨rfl, ?_⟩
    rw [Nat.mul_add (wK N fr to ln x row n e a) (d + 1) 1]
    omega
/-- once nobody waits nobody waits -/
theorem tW_zero {row e : Nat → Int} {n a : Nat} (hr : rok N n row) (hln : ∀ c, c < N → 1 ≤ ln c) (h0 : wK N fr to ln x row n e a = 0) : ∀ d, tW N fr to ln x row n e (a + d) = tW N fr to ln x row n e a := by
  obtain ⟨s1, s2⟩ := paN_st (fr := fr) (to := to) (x := x) (t := (a : Int)) (e := eK N fr to ln x row n e a) hr (by omega) hln n (Nat.le_refl _)
  have e1 : (paN N fr to ln x a row (eK N fr to ln x row n e a) n).1 = eK N fr to ln x row n e (a + 1) := rfl
  have e2 : (paN N fr to ln x a row (eK N fr to ln x row n e a) n).2 = wK N fr to ln x row n e a := rfl
  rw [e1] at s2
  rw [e2, h0] at s2
  have nz : ∀ j, j < n → ¬ eK N fr to ln x row n e (a + 1) (row j).toNat = 0 := by
    intro j hj hz
    have := cnt_strict (p := fun _ => false) (q := fun j => decide (eK N fr to ln x row n e (a + 1) (row j).toNat = 0)) (n := n) (fun _ _ h => by cases h) hj rfl (decide_eq_true hz)
    omega
  have key : ∀ d, eK N fr to ln x row n e (a + 1 + d) = eK N fr to ln x row n e (a + 1) ∧ tW N fr to ln x row n e (a + 1 + d) = tW N fr to ln x row n e a := by
    intro d
    induction d with
    | zero => exact ⟨rfl, by simp only [Nat.add_zero, tW]; omega⟩
    | succ d ih =>
      have ek : eK N fr to ln x row n e (a + 1 + (d + 1)) = (paN N fr to ln x ((a + 1 + d : Nat) : Int) row (eK N fr to ln x row n e (a + 1 + d)) n).1 := rfl
      have tk1 : tW N fr to ln x row n e (a + 1 + (d + 1)) = tW N fr to ln x row n e (a + 1 + d) + (paN N fr to ln x ((a + 1 + d : Nat) : Int) row (eK N fr to ln x row n e (a + 1 + d)) n).2 := rfl
      rw [ek, tk1, ih.1, ih.2, paN_id (fun j hj hj0 => absurd hj0 (nz j hj)) n (Nat.le_refl _)]
      refine ⟨rfl, ?_⟩
      have : cnt (fun j => decide (eK N fr to ln x row n e (a + 1) (row j).toNat = 0)) n = 0 := s2.symm
      omega
  intro d
  cases d with
  | zero => rfl
  | succ d =>
    have := (key d).2
    rw [show a + (d + 1) = a + 1 + d by omega]
    exact this
theorem tW_congr {row row2 e e2 : Nat → Int} {n : Nat} (hr : ∀ i, i < n → 0 ≤ row i ∧ row i < N) (hrr : ∀ i, i < n → row i = row2 i) (he : ∀ j, j < N → e j = e2 j) : ∀ m, (∀ j, j < N → eK N fr to ln x row n e m j = eK N fr to ln x row2 n e2 m j) ∧ tW N fr to ln x row n e m = tW N fr to ln x row2 n e2 m := by
  intro m
  induction m with
  | zero => exact ⟨he, rfl⟩
  | succ m ih =>
    have := paN_congr (fr := fr) (to := to) (ln := ln) (x := x) (t := (m : Int)) hr hrr ih.1 n (Nat.le_refl _)
    refine ⟨this.2, ?_⟩
    simp only [tW, wK]
    rw [ih.2, this.1]
end ROWT
theorem ct_waitsFor {h : jH} {N n : Nat} (hN : h.1 2 2 = N) (h7 : N ≤ 7) (hk : lok (h.1 5) (h.1 6) N) (hn : h.1 33 3 = n) (hn7 : n ≤ 7) (hb : ∀ c, c < N → h.1 36 c = (lb (h.1 5) (h.1 6) c : Nat)) (hr : rok N n (h.1 34)) (hln : ∀ c, c < N → 1 ≤ h.1 7 c ∧ h.1 7 c ≤ 20) (hx : 1 ≤ h.1 2 1 ∧ h.1 2 1 ≤ 4) (lim : Int) :
    CT Sx M_X5_waitsFor [jR 33, jI lim] h (jPi fun r h' => (∃ e, h' = upr h 38 e) ∧ (((tW N (h.1 5) (h.1 6) (h.1 7) (h.1 2 1) (h.1 34) n (h.1 37) 30 : Nat) : Int) < lim → r = (tW N (h.1 5) (h.1 6) (h.1 7) (h.1 2 1) (h.1 34) n (h.1 37) 30 : Nat)) ∧ (lim ≤ ((tW N (h.1 5) (h.1 6) (h.1 7) (h.1 2 1) (h.1 34) n (h.1 37) 30 : Nat) : Int) → lim ≤ r)) := by
  refine en_X5_waitsFor_33 (fun G => vc_X5_waitsFor_33_0 ?_)
  have e0 : j_cp h 37 0 38 0 7 = upr h 38 (fun j => if j < 7 then h.1 37 j else h.1 38 j) := by
    refine j_ext (fun a j => ?_) rfl
    by_cases ha : a = 38
    · subst ha; simp [j_cp, upr]
    · simp [j_cp, upr, ha]
  rw [e0]
  have hT := (tW_congr (N := N) (fr := h.1 5) (to := h.1 6) (ln := h.1 7) (x := h.1 2 1) (row2 := h.1 34) (e := fun j => if j < 7 then h.1 37 j else h.1 38 j) (e2 := h.1 37) hr.2 (fun _ _ => rfl) (fun j hj => by simp; omega) 30).2
  rw [← hT]
  generalize (fun j => if j < 7 then h.1 37 j else h.1 38 j) = ee
  have hl1 : ∀ c, c < N → 1 ≤ h.1 7 c := fun c hc => (hln c hc).1
  have main : ∀ (m a s : Nat) (u v : jV), a ≤ 30 → s ≤ a → 30 ≤ a + m → WV Sx G M_X5_waitsFor (jPi fun r h' => (∃ e, h' = upr h 38 e) ∧ (((tW N (h.1 5) (h.1 6) (h.1 7) (h.1 2 1) (h.1 34) n ee 30 : Nat) : Int) < lim → r = (tW N (h.1 5) (h.1 6) (h.1 7) (h.1 2 1) (h.1 34) n ee 30 : Nat)) ∧ (lim ≤ ((tW N (h.1 5) (h.1 6) (h.1 7) (h.1 2 1) (h.1 34) n ee 30 : Nat) : Int) → lim ≤ r)) 22 [jR 33, jI lim, jI (tW N (h.1 5) (h.1 6) (h.1 7) (h.1 2 1) (h.1 34) n ee a : Nat), jI (a : Nat), jI (s : Nat), u, v] [] (upr h 38 (eK N (h.1 5) (h.1 6) (h.1 7) (h.1 2 1) (h.1 34) n ee a)) := by
    intro m
    induction m with
    | zero =>
      intro a s u v h1 h2 h3
      have : a = 30 := by omega
      subst this
      exact vc_X5_waitsFor_33_22 ⟨fun _ => ⟨_, rfl, ⟨_, rfl⟩, fun _ => rfl, fun z => z⟩, fun _ => ⟨fun _ => ⟨_, rfl, ⟨_, rfl⟩, fun _ => rfl, fun z => z⟩, fun q => absurd q (by omega)⟩⟩
    | succ m ih =>
      intro a s u v h1 h2 h3
      have mono := tW_mono (N := N) (fr := h.1 5) (to := h.1 6) (ln := h.1 7) (x := h.1 2 1) (row := h.1 34) (e := ee) (n := n) h1
      have bd := tW_le (N := N) (fr := h.1 5) (to := h.1 6) (ln := h.1 7) (x := h.1 2 1) (row := h.1 34) (e := ee) (n := n) (m := a)
      have bd2 : n * a ≤ 7 * 30 := Nat.mul_le_mul hn7 h1
      have done : 30 ≤ a → (jPi fun r h' => (∃ e, h' = upr h 38 e) ∧ (((tW N (h.1 5) (h.1 6) (h.1 7) (h.1 2 1) (h.1 34) n ee 30 : Nat) : Int) < lim → r = (tW N (h.1 5) (h.1 6) (h.1 7) (h.1 2 1) (h.1 34) n ee 30 : Nat)) ∧ (lim ≤ ((tW N (h.1 5) (h.1 6) (h.1 7) (h.1 2 1) (h.1 34) n ee 30 : Nat) : Int) → lim ≤ r)) (some (jI (tW N (h.1 5) (h.1 6) (h.1 7) (h.1 2 1) (h.1 34) n ee a : Nat))) (upr h 38 (eK N (h.1 5) (h.1 6) (h.1 7) (h.1 2 1) (h.1 34) n ee a)) := by
        intro h30
        have : a = 30 := by omega
        subst this
        exact ⟨_, rfl, ⟨_, rfl⟩, fun _ => rfl, fun z => z⟩
      refine vc_X5_waitsFor_33_22 ⟨fun q => done (by omega), fun _ => ⟨fun q => done (by omega), fun q30 => ⟨fun ql => ⟨_, rfl, ⟨_, rfl⟩, fun z => by omega, fun _ => ql⟩, fun ql => ?_⟩⟩⟩
      refine ⟨_, ct_plugAlong (h := upr h 38 (eK N (h.1 5) (h.1 6) (h.1 7) (h.1 2 1) (h.1 34) n ee a)) (N := N) (n := n) hN h7 hk hn hn7 hb hr.2 hln hx a (by omega), ?_⟩
      rintro _ _ ⟨rfl, rfl⟩
      rw [upr_same, upr_upr]
      have ew : (paN N ((upr h 38 (eK N (h.1 5) (h.1 6) (h.1 7) (h.1 2 1) (h.1 34) n ee a)).1 5) ((upr h 38 (eK N (h.1 5) (h.1 6) (h.1 7) (h.1 2 1) (h.1 34) n ee a)).1 6) ((upr h 38 (eK N (h.1 5) (h.1 6) (h.1 7) (h.1 2 1) (h.1 34) n ee a)).1 7) ((upr h 38 (eK N (h.1 5) (h.1 6) (h.1 7) (h.1 2 1) (h.1 34) n ee a)).1 2 1) a ((upr h 38 (eK N (h.1 5) (h.1 6) (h.1 7) (h.1 2 1) (h.1 34) n ee a)).1 34) (eK N (h.1 5) (h.1 6) (h.1 7) (h.1 2 1) (h.1 34) n ee a) n).2 = wK N (h.1 5) (h.1 6) (h.1 7) (h.1 2 1) (h.1 34) n ee a := rfl
      have ee1 : (paN N ((upr h 38 (eK N (h.1 5) (h.1 6) (h.1 7) (h.1 2 1) (h.1 34) n ee a)).1 5) ((upr h 38 (eK N (h.1 5) (h.1 6) (h.1 7) (h.1 2 1) (h.1 34) n ee a)).1 6) ((upr h 38 (eK N (h.1 5) (h.1 6) (h.1 7) (h.1 2 1) (h.1 34) n ee a)).1 7) ((upr h 38 (eK N (h.1 5) (h.1 6) (h.1 7) (h.1 2 1) (h.1 34) n ee a)).1 2 1) a ((upr h 38 (eK N (h.1 5) (h.1 6) (h.1 7) (h.1 2 1) (h.1 34) n ee a)).1 34) (eK N (h.1 5) (h.1 6) (h.1 7) (h.1 2 1) (h.1 34) n ee a) n).1 = eK N (h.1 5) (h.1 6) (h.1 7) (h.1 2 1) (h.1 34) n ee (a + 1) := rfl
      rw [ew, ee1]
      have wle := wK_le (N := N) (fr := h.1 5) (to := h.1 6) (ln := h.1 7) (x := h.1 2 1) (row := h.1 34) (e := ee) (n := n) (k := a)
      refine ⟨fun z => ?_, fun z => ⟨_, ct_nextEnd (h := upr h 38 (eK N (h.1 5) (h.1 6) (h.1 7) (h.1 2 1) (h.1 34) n ee (a + 1))) (N := N) hN h7 a, ?_⟩⟩
      · have z0 : wK N (h.1 5) (h.1 6) (h.1 7) (h.1 2 1) (h.1 34) n ee a = 0 := by omega
        have tz := tW_zero hr hl1 z0 (30 - a)
        rw [show a + (30 - a) = 30 by omega] at tz
        exact ⟨_, rfl, ⟨_, rfl⟩, fun _ => by rw [tz], fun q => by omega⟩
      · rintro _ _ ⟨rfl, rfl⟩
        rw [upr_same]
        have nb := nen_bd (e := eK N (h.1 5) (h.1 6) (h.1 7) (h.1 2 1) (h.1 34) n ee (a + 1)) (t := (a : Int)) (n := N) (by omega)
        have nm := fun c hc he => nen_min (e := eK N (h.1 5) (h.1 6) (h.1 7) (h.1 2 1) (h.1 34) n ee (a + 1)) (t := (a : Int)) (n := N) (c := c) hc he
        obtain ⟨b, hb⟩ : ∃ b : Nat, nen (eK N (h.1 5) (h.1 6) (h.1 7) (h.1 2 1) (h.1 34) n ee (a + 1)) (a : Int) N = b := ⟨(nen (eK N (h.1 5) (h.1 6) (h.1 7) (h.1 2 1) (h.1 34) n ee (a + 1)) (a : Int) N).toNat, by omega⟩
        rw [hb] at nb nm ⊢
        have run := tW_run hr hl1 (a := a) (b := b) (by omega) (fun c hc he => nm c hc he) (b - a - 1) (by omega)
        rw [show a + 1 + (b - a - 1) = b by omega, show b - a - 1 + 1 = b - a by omega] at run
        have pb : wK N (h.1 5) (h.1 6) (h.1 7) (h.1 2 1) (h.1 34) n ee a * (b - a) ≤ 7 * 30 := Nat.mul_le_mul (by omega) (by omega)
        have pc : ((wK N (h.1 5) (h.1 6) (h.1 7) (h.1 2 1) (h.1 34) n ee a : Nat) : Int) * ((b : Int) - (a : Int)) = ((wK N (h.1 5) (h.1 6) (h.1 7) (h.1 2 1) (h.1 34) n ee a * (b - a) : Nat) : Int) := by
          rw [Int.natCast_mul, show ((b - a : Nat) : Int) = (b : Int) - (a : Int) by omega]
        rw [pc]
        refine ⟨⟨by omega, by omega⟩, ⟨by omega, by omega⟩, ⟨by omega, by omega⟩, ⟨by omega, by omega⟩, ?_⟩
        have nx := ih b (s + 1) (jI (wK N (h.1 5) (h.1 6) (h.1 7) (h.1 2 1) (h.1 34) n ee a : Nat)) (jI (b : Nat)) (by omega) (by omega) (by omega)
        rw [run.1, run.2, Int.natCast_add] at nx
        exact nx
  exact main 30 0 0 jU jU (by omega) (by omega) (by omega)
