/-! the model: what a row waits -/
/-- hw, lf tell at minute t the same as the ends e do -/
def RS (N n : Nat) (row : Nat → Int) (t : Int) (s : jD) (e : Nat → Int) : Prop := (∀ c, c < N → (s.1 c = 2 ↔ t < e c)) ∧ (∀ c, c < N → s.1 c = 2 → s.2 c = e c - t) ∧ ∀ i, i < n → (s.1 (row i).toNat = 1 ↔ e (row i).toNat = 0) ∧ ¬ s.1 (row i).toNat = 0
section RSS
variable {N n : Nat} {fr to ln fl : Nat → Int} {x : Int} {row : Nat → Int}
theorem RS.can {t : Int} {s : jD} {e : Nat → Int} (h : RS N n row t s e) {i : Nat} (hi : i < n) : canp N fr to x s.1 (row i).toNat = (decide (e (row i).toNat = 0) && canE N fr to x e t (row i).toNat) := by
  have h1 : ∀ k, k < N → (s.1 k == 2) = tk e t k := fun k hk => by
    rw [Bool.eq_iff_iff, beq_iff_eq, h.1 k hk]
    simp [tk]
  unfold canp canE
  rw [cnt_congr h1, bt_congr h1]
  have h2 : (s.1 (row i).toNat == 1) = decide (e (row i).toNat = 0) := by
    rw [Bool.eq_iff_iff, beq_iff_eq, decide_eq_true_eq, (h.2.2 i hi).1]
  rw [h2]
theorem RS.pl {t : Int} {s : jD} {e : Nat → Int} (h : RS N n row t s e) (ht : 0 ≤ t) (hr : rok N n row) (hln : ∀ c, c < N → 1 ≤ ln c) : ∀ i, i ≤ n → RS N n row t (plA N fr to ln x row s i) (paN N fr to ln x t row e i).1 := by
  intro i
  induction i with
  | zero => intro _; exact h
  | succ i ih =>
    intro hi
    have k := ih (by omega)
    have rc := hr.2 i (by omega)
    have ca := k.can (fr := fr) (to := to) (x := x) (i := i) (by omega)
    have lc := hln (row i).toNat (by omega)
    simp only [plA, paN, pl1, pa1]
    rw [ca]
    generalize plA N fr to ln x row s i = p at k ⊢
    generalize paN N fr to ln x t row e i = q at k ⊢
    by_cases e0 : q.1 (row i).toNat = 0
    · rw [if_pos e0, decide_eq_true e0, Bool.true_and]
      cases hc : canE N fr to x q.1 t (row i).toNat with
      | false => exact k
      | true =>
        simp only [if_true]
        refine ⟨fun c hcN => ?_, fun c hcN hz => ?_, fun j hj => ?_⟩
        · by_cases ec : c = (row i).toNat
          · simp only [ec, if_true]
            exact ⟨fun _ => by omega, fun _ => trivial⟩
          · simp only [ec, if_false]
            exact k.1 c hcN
        · by_cases ec : c = (row i).toNat
          · simp only [ec, if_true]
            omega
          · simp only [ec, if_false] at hz ⊢
            exact k.2.1 c hcN hz
        · by_cases ec : (row j).toNat = (row i).toNat
          · simp only [ec, if_true]
            exact ⟨⟨fun z => absurd z (by decide), fun z => by omega⟩, by decide⟩
          · simp only [ec, if_false]
            exact k.2.2 j hj
    · rw [if_neg e0, decide_eq_false e0, Bool.false_and]
      exact k
theorem RS.pass {t m : Int} {s : jD} {e : Nat → Int} (h : RS N n row t s e) (ht : 0 ≤ t) (hr : rok N n row) : RS N n row (t + 1) (qF N fl m (qH N s.1 s.2), qL N s.1 s.2) e := by
  have key : ∀ c, c < N → (qF N fl m (qH N s.1 s.2) c = 2 ↔ t + 1 < e c) := by
    intro c hc
    have a := h.1 c hc
    have b := h.2.1 c hc
    constructor
    · intro z
      have z2 := qH_2 (qF_2 z)
      have z3 := z2.2 hc
      have := b z2.1
      omega
    · intro z
      have z1 : s.1 c = 2 := a.mpr (by omega)
      have z2 := b z1
      have z3 : qH N s.1 s.2 c = 2 := by
        unfold qH
        rw [if_neg (by omega), z1]
      unfold qF
      rw [if_neg (by omega), z3]
  refine ⟨key, fun c hc z => ?_, fun i hi => ?_⟩
  · have z2 := qH_2 (qF_2 z)
    have := h.2.1 c hc z2.1
    show qL N s.1 s.2 c = _
    unfold qL
    rw [if_pos ⟨hc, z2.1⟩]
    omega
  · obtain ⟨b, d⟩ := h.2.2 i hi
    show (qF N fl m (qH N s.1 s.2) (row i).toNat = 1 ↔ _) ∧ ¬ qF N fl m (qH N s.1 s.2) (row i).toNat = 0
    rw [← b]
    generalize (row i).toNat = c at *
    have n0 : ¬ qH N s.1 s.2 c = 0 := by
      unfold qH
      split
      · decide
      · exact d
    have e1 : qF N fl m (qH N s.1 s.2) c = qH N s.1 s.2 c := by
      unfold qF
      rw [if_neg (fun z => n0 z.2.1)]
    rw [e1]
    refine ⟨?_, n0⟩
    unfold qH
    split
    · rename_i z
      rw [z.2.1]
      decide
    · exact Iff.rfl
/-- what those of a row waited -/
def smR (row wt : Nat → Int) (n : Nat) : Int := sm (fun _ => true) (fun i => wt (row i).toNat) n
theorem smR_s {wt : Nat → Int} {n : Nat} : smR row wt (n + 1) = smR row wt n + wt (row n).toNat := sm_all
theorem smR_q {hw wt : Nat → Int} {m : Nat} (hr : ∀ i, i < m → 0 ≤ row i ∧ row i < N) : smR row (qW N hw wt) m = smR row wt m + (cnt (fun i => hw (row i).toNat == 1) m : Nat) := by
  induction m with
  | zero => simp [smR, sm, cnt]
  | succ m ih =>
    have rc := hr m (by omega)
    rw [smR_s, smR_s, ih (fun i hi => hr i (by omega))]
    simp only [cnt]
    have e : qW N hw wt (row m).toNat = wt (row m).toNat + (if hw (row m).toNat = 1 then 1 else 0) := by
      unfold qW
      by_cases z : hw (row m).toNat = 1
      · rw [if_pos ⟨by omega, z⟩, if_pos z]
      · rw [if_neg (fun y => z y.2), if_neg z, Int.add_zero]
    rw [e]
    by_cases z : hw (row m).toNat = 1
    · simp [z]; omega
    · simp [z]; omega
theorem RS.run {s : jY} {e : Nat → Int} (h : RS N n row 0 s.2.1 e) (hr : rok N n row) (hln : ∀ c, c < N → 1 ≤ ln c) (k : Nat) : RS N n row k (dzN N n fr to ln fl x row s k).2.1 (eK N fr to ln x row n e k) ∧ smR row (dzN N n fr to ln fl x row s k).2.2 n = smR row s.2.2 n + (tW N fr to ln x row n e k : Nat) := by
  induction k with
  | zero => exact ⟨h, by simp [tW, dzN]⟩
  | succ k ih =>
    obtain ⟨i1, i2⟩ := ih
    have p1 := i1.pl (fr := fr) (to := to) (x := x) (by omega) hr hln n (Nat.le_refl _)
    have st := (paN_st (fr := fr) (to := to) (x := x) (t := (k : Int)) (e := eK N fr to ln x row n e k) hr (by omega) hln n (Nat.le_refl _)).2
    have p2 := p1.pass (fl := fl) (m := (dzN N n fr to ln fl x row s k).1 + 1) (by omega) hr
    refine ⟨p2, ?_⟩
    have e1 : (dzN N n fr to ln fl x row s (k + 1)).2.2 = qW N (plA N fr to ln x row (dzN N n fr to ln fl x row s k).2.1 n).1 (dzN N n fr to ln fl x row s k).2.2 := rfl
    have e2 : tW N fr to ln x row n e (k + 1) = tW N fr to ln x row n e k + (paN N fr to ln x k row (eK N fr to ln x row n e k) n).2 := rfl
    have e3 : cnt (fun i => (plA N fr to ln x row (dzN N n fr to ln fl x row s k).2.1 n).1 (row i).toNat == 1) n = (paN N fr to ln x k row (eK N fr to ln x row n e k) n).2 := by
      rw [st]
      refine cnt_congr (fun i hi => ?_)
      rw [Bool.eq_iff_iff, beq_iff_eq, decide_eq_true_eq]
      exact (p1.2.2 i hi).1
    rw [e1, e2, smR_q hr.2, i2, e3]
    omega
end RSS
/-- a sum over a kind, one left out -/
theorem sm_del {p q : Nat → Bool} {f : Nat → Int} {n a : Nat} (ha : a < n) (h : ∀ k, k ≠ a → p k = q k) (hp : p a = true) (hq : q a = false) : sm p f n = sm q f n + f a := by
  induction n with
  | zero => omega
  | succ n ih =>
    simp only [sm]
    by_cases e : a = n
    · subst e
      rw [hp, hq, sm_congr (q := q) (g := f) (fun k hk => ⟨h k (by omega), fun _ => rfl⟩)]
      simp
    · rw [ih (by omega), h n (fun z => e z.symm)]
      omega
theorem sm_none {p : Nat → Bool} {f : Nat → Int} {n : Nat} (h : cnt p n = 0) : sm p f n = 0 := by
  induction n with
  | zero => rfl
  | succ n ih =>
    simp only [cnt] at h
    simp only [sm]
    rw [ih (by omega), if_neg (fun z => by rw [if_pos z] at h; omega)]
    rfl
/-- a sum over a row is a sum over its numbers -/
theorem smR_set {N : Nat} {row wt : Nat → Int} : ∀ {n : Nat} {p : Nat → Bool}, rok N n row → (∀ i, i < n → p (row i).toNat = true) → cnt p N = n → smR row wt n = sm p wt N := by
  intro n
  induction n with
  | zero => intro p _ _ h; rw [sm_none h]; rfl
  | succ n ih =>
    intro p hr hp hc
    have rc := hr.2 n (by omega)
    have hpn := hp n (by omega)
    obtain ⟨q, hq⟩ : ∃ q : Nat → Bool, ∀ k, q k = (p k && !(k == (row n).toNat)) := ⟨_, fun _ => rfl⟩
    have h1 : ∀ k, k ≠ (row n).toNat → p k = q k := fun k hk => by rw [hq]; simp [hk]
    have h2 : q (row n).toNat = false := by rw [hq]; simp
    have c1 := cnt_set (p := p) (q := q) (n := N) (a := (row n).toNat) (by omega) h1
    rw [hpn, h2] at c1
    simp only [if_true, Bool.false_eq_true, if_false] at c1
    rw [smR_s, sm_del (q := q) (by omega) h1 hpn h2]
    rw [ih (p := q) ⟨fun i j hi hj => hr.1 i j (by omega) (by omega), fun i hi => hr.2 i (by omega)⟩ (fun i hi => ?_) (by omega)]
    have r2 := hr.2 i (by omega)
    have : ¬ (row i).toNat = (row n).toNat := fun z => by
      have := hr.1 i n (by omega) (by omega) (by omega)
      omega
    rw [hq]
    simp [hp i (by omega), this]
/-- ends of those who talk now -/
def me (h : jH) (c : Nat) : Int := if mH h 5 c = 2 then mL h 5 c else 0
theorem RS.m0 {h : jH} {N n : Nat} {row : Nat → Int} (hk : ∀ c, c < N → mH h 5 c = 2 → 1 ≤ mL h 5 c) (hw : ∀ i, i < n → mH h 5 (row i).toNat = 1) : RS N n row 0 (m0 h).2.1 (me h) := by
  refine ⟨fun c hc => ?_, fun c hc z => ?_, fun i hi => ?_⟩
  · show mH h 5 c = 2 ↔ 0 < me h c
    have := hk c hc
    unfold me
    split <;> omega
  · have z : mH h 5 c = 2 := z
    show mL h 5 c = me h c - 0
    unfold me
    rw [if_pos z]; omega
  · show (mH h 5 (row i).toNat = 1 ↔ me h (row i).toNat = 0) ∧ ¬ mH h 5 (row i).toNat = 0
    have := hw i hi
    unfold me
    rw [if_neg (by omega)]
    omega
theorem cm_waitedBy {h : jH} {N n : Nat} (hN : h.1 0 15 = N) (h7 : N ≤ 7) (hk : mok h N) (hn : n ≤ 7) (hr : rok N n (h.1 11)) (hw : ∀ i, i < n → mH h 5 (h.1 11 i).toNat = 1) : CT Sm M_X8_waitedBy [jR 0, jI n] h (jPi fun r g => ((∀ a, a ≠ 6 → g.1 a = h.1 a) ∧ g.2 = h.2) ∧ r = smR (h.1 11) (mW h 5) n + (tW N (mF h) (mT h) (mN h) (h.1 0 14) (h.1 11) n (me h) 30 : Nat)) := by
  have run := RS.run (fr := mF h) (to := mT h) (fl := mA h) (x := h.1 0 14) (RS.m0 hk.1 hw) hr (fun c hc => (hk.2.2.2.2.1 c hc).1) 30
  obtain ⟨k1, k2, k3, k4, k5, k6, k7, k8⟩ := hk
  have eW : (m0 h).2.2 = mW h 5 := rfl
  rw [← eW, ← run.2]
  refine en_X8_waitedBy_0 (fun G => vc_X8_waitedBy_0_0 ⟨_, cm_copy_5_6 0 0 (by decide) (by decide), ?_⟩)
  rintro _ rfl
  have hM := m0_row (h := h)
  have f0 : ∀ a, a ≠ 6 → (upr h 6 (fun j => if 0 ≤ j ∧ j < 0 + 28 then h.1 5 (0 + (j - 0)) else h.1 6 j)).1 a = h.1 a := fun a ha => upr_ne ha
  have f2 : (upr h 6 (fun j => if 0 ≤ j ∧ j < 0 + 28 then h.1 5 (0 + (j - 0)) else h.1 6 j)).2 = h.2 := rfl
  generalize upr h 6 (fun j => if 0 ≤ j ∧ j < 0 + 28 then h.1 5 (0 + (j - 0)) else h.1 6 j) = g0 at f0 f2 hM ⊢
  refine jf_loop 30 (fun k lv g => lv = [jR 0, jI n, jI (k : Nat), jU] ∧ ((∀ a, a ≠ 6 → g.1 a = h.1 a) ∧ g.2 = h.2) ∧ MRow g 6 (dzN N n (mF h) (mT h) (mN h) (mA h) (h.1 0 14) (h.1 11) (m0 h) k).1 (mO h 5) (dzN N n (mF h) (mT h) (mN h) (mA h) (h.1 0 14) (h.1 11) (m0 h) k).2.1.1 (dzN N n (mF h) (mT h) (mN h) (mA h) (h.1 0 14) (h.1 11) (m0 h) k).2.1.2 (dzN N n (mF h) (mT h) (mN h) (mA h) (h.1 0 14) (h.1 11) (m0 h) k).2.2) ?_ ?_ 0 (by decide) _ _ ⟨rfl, ⟨f0, f2⟩, hM⟩
  · rintro k hkn lv g ⟨rfl, gF, gM⟩ kk
    have bm := dzN_m (N := N) (n := n) (fr := mF h) (to := mT h) (ln := mN h) (fl := mA h) (x := h.1 0 14) (o := h.1 11) (s := m0 h) k
    have bw := dzN_w (N := N) (n := n) (fr := mF h) (to := mT h) (ln := mN h) (fl := mA h) (x := h.1 0 14) (o := h.1 11) (s := m0 h) (B := 1000) (fun c hc => by have := k3 c hc; show -1000 ≤ mW h 5 c ∧ mW h 5 c ≤ 1000; omega) k
    have bl := dzN_l (N := N) (n := n) (fr := mF h) (to := mT h) (ln := mN h) (fl := mA h) (x := h.1 0 14) (o := h.1 11) (s := m0 h) (B := 20) (fun c hc => by have := k2 c hc; show -20 ≤ mL h 5 c ∧ mL h 5 c ≤ 20; omega) (fun c hc => by have := k5 c hc; omega) k
    have bl2 := plA_bd (N := N) (fr := mF h) (to := mT h) (x := h.1 0 14) (o := h.1 11) (ln := mN h) (B := 20 + k) bl (fun c hc => by have := k5 c hc; omega) n
    have bt1 := dzN_tk (N := N) (n := n) (fr := mF h) (to := mT h) (ln := mN h) (fl := mA h) (x := h.1 0 14) (o := h.1 11) (s := m0 h) k1 k
    have bt2 := plA_tk (N := N) (fr := mF h) (to := mT h) (x := h.1 0 14) (o := h.1 11) (ln := mN h) bt1 (fun c hc => (k5 c hc).1) n
    have hS0 : (m0 h).1 = h.1 5 0 := rfl
    have n1 : dzN N n (mF h) (mT h) (mN h) (mA h) (h.1 0 14) (h.1 11) (m0 h) (k + 1) = dz N n (mF h) (mT h) (mN h) (mA h) (h.1 0 14) (h.1 11) (dzN N n (mF h) (mT h) (mN h) (mA h) (h.1 0 14) (h.1 11) (m0 h) k) := rfl
    rw [n1] at kk
    generalize dzN N n (mF h) (mT h) (mN h) (mA h) (h.1 0 14) (h.1 11) (m0 h) k = s at gM bm bw bl bl2 bt1 bt2 kk
    simp only [dz] at kk
    have e0 : g.1 0 15 = N := by rw [gF.1 0 (by decide)]; exact hN
    have ex : g.1 0 14 = h.1 0 14 := by rw [gF.1 0 (by decide)]
    have eo : g.1 11 = h.1 11 := gF.1 11 (by decide)
    have fF := MF.rfl.s6 gF.1 gF.2
    obtain ⟨eF, eT, eN, eA, eR⟩ := fF.c4
    refine vc_X8_waitedBy_0_15 ⟨fun q => absurd q (by omega), fun q => ?_⟩
    rw [ex]
    refine ⟨_, cm_plugAll_11 e0 h7 n hn (h.1 0 14) ⟨by omega, by omega⟩ (fun i hi => by rw [eo]; exact hr.2 i hi) gM, ?_⟩
    rintro g1 ⟨g1k, g12, g1M⟩
    rw [eF, eT, eN, eo, show (s.2.1.1, s.2.1.2) = s.2.1 from rfl] at g1M
    generalize plA N (mF h) (mT h) (mN h) (h.1 0 14) (h.1 11) s.2.1 n = p at g1M bl2 bt2 kk
    have g1F := fF.s6 g1k g12
    have e1 : g1.1 0 15 = N := by rw [g1F.2.1 15 (by decide)]; exact hN
    refine ⟨_, cm_pass_6 e1 h7 g1M bt2 (fun c hc => by have := bl2 c hc; omega) (fun c hc => by have := bw c hc; omega) (by omega), ?_⟩
    rintro g2 ⟨g2k, g22, g2M⟩
    have eA1 : mA g1 = mA h := (g1F.c4).2.2.2.1
    rw [eA1] at g2M
    exact ⟨⟨by omega, by omega⟩, kk _ _ ⟨rfl, ⟨fun a ha => by rw [g2k a ha, g1k a ha]; exact gF.1 a ha, by rw [g22, g12]; exact gF.2⟩, g2M⟩⟩
  · rintro lv g ⟨rfl, gF, gM⟩
    have bw := dzN_w (N := N) (n := n) (fr := mF h) (to := mT h) (ln := mN h) (fl := mA h) (x := h.1 0 14) (o := h.1 11) (s := m0 h) (B := 1000) (fun c hc => by have := k3 c hc; show -1000 ≤ mW h 5 c ∧ mW h 5 c ≤ 1000; omega) 30
    refine vc_X8_waitedBy_0_15 ⟨fun _ => ?_, fun q => absurd q (by decide)⟩
    have eo : g.1 11 = h.1 11 := gF.1 11 (by decide)
    generalize (dzN N n (mF h) (mT h) (mN h) (mA h) (h.1 0 14) (h.1 11) (m0 h) 30).2.2 = wt at gM bw ⊢
    refine jf_fun n (fun c => [jR 0, jI n, jI (smR (h.1 11) wt c), jI (c : Nat)]) (fun _ => g) (fun c hc k => ?_) ?_ 0 (Nat.zero_le _)
    · have rc := hr.2 c hc
      have b1 := sm_bd (p := fun _ => true) (f := fun i => wt (h.1 11 i).toNat) (n := c) (B := 1100) (by decide) (fun d hd => by have := hr.2 d (by omega); have := bw (h.1 11 d).toNat (by omega); omega)
      have b1 : -(1100 * (c : Int)) ≤ smR (h.1 11) wt c ∧ smR (h.1 11) wt c ≤ 1100 * c := b1
      have b2 := bw (h.1 11 c).toNat (by omega)
      rw [smR_s] at k
      refine vc_X8_waitedBy_0_52 ⟨fun q => absurd q (by omega), fun q => ⟨⟨by omega, by omega⟩, ?_⟩⟩
      rw [Int.toNat_natCast, eo, show Int.toNat (21 + h.1 11 c) = 21 + (h.1 11 c).toNat by omega, (gM.2.2 (h.1 11 c).toNat (by omega)).2.2]
      exact ⟨⟨by omega, by omega⟩, ⟨by omega, by omega⟩, ⟨by omega, by omega⟩, ⟨by omega, by omega⟩, k⟩
    · exact vc_X8_waitedBy_0_52 ⟨fun q => ⟨_, rfl, gF, rfl⟩, fun q => absurd q (by omega)⟩
