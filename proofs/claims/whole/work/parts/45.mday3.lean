/-! the model: enough -/
theorem lkN_mono {N : Nat} {fr to ln fl : Nat → Int} {x : Int} {o : Nat → Int} {s : jY} {k m : Nat} (h : lkN N fr to ln fl x o s k = true) (hm : k ≤ m) : lkN N fr to ln fl x o s m = true := by
  obtain ⟨d, rfl⟩ : ∃ d, m = k + d := ⟨m - k, by omega⟩
  clear hm
  induction d with
  | zero => exact h
  | succ d ih => rw [← Nat.add_assoc]; simp only [lkN, ih, Bool.true_or]
theorem MF.tr {a b c : jH} (h1 : MF a b) (h2 : MF b c) : MF a c := ⟨fun k x y z => (h2.1 k x y z).trans (h1.1 k x y z), fun j hj => (h2.2.1 j hj).trans (h1.2.1 j hj), h2.2.2.trans h1.2.2⟩
theorem cm_isEnough {h : jH} {N : Nat} (hN : h.1 0 15 = N) (h7 : N ≤ 7) (hk : mok h N) (x : Int) (hx : 0 ≤ x ∧ x ≤ 100) (ho : ∀ i, i < N → 0 ≤ h.1 10 i ∧ h.1 10 i < N) : CT Sm M_X8_isEnough [jR 0, jI x] h (jPi fun r g => MF h g ∧ r = bi (!lkN N (mF h) (mT h) (mN h) (mA h) x (h.1 10) (m0 h) 60)) := by
  obtain ⟨k1, k2, k3, k4, k5, k6, k7, k8⟩ := hk
  refine en_X8_isEnough_0 (fun G => vc_X8_isEnough_0_0 ⟨_, cm_copy_5_6 0 0 (by decide) (by decide), ?_⟩)
  rintro _ rfl
  have hM := m0_row (h := h)
  have f0 : MF h (upr h 6 (fun j => if 0 ≤ j ∧ j < 0 + 28 then h.1 5 (0 + (j - 0)) else h.1 6 j)) := (MF.rfl.s6 (fun a ha => upr_ne ha) rfl)
  generalize upr h 6 (fun j => if 0 ≤ j ∧ j < 0 + 28 then h.1 5 (0 + (j - 0)) else h.1 6 j) = g0 at f0 hM ⊢
  refine jf_loop 60 (fun k lv g => ∃ u, lv = [jR 0, jI x, jI (k : Nat), u] ∧ MF h g ∧ MRow g 6 (dyN N (mF h) (mT h) (mN h) (mA h) x (h.1 10) (m0 h) k).1 (mO h 5) (dyN N (mF h) (mT h) (mN h) (mA h) x (h.1 10) (m0 h) k).2.1.1 (dyN N (mF h) (mT h) (mN h) (mA h) x (h.1 10) (m0 h) k).2.1.2 (dyN N (mF h) (mT h) (mN h) (mA h) x (h.1 10) (m0 h) k).2.2 ∧ lkN N (mF h) (mT h) (mN h) (mA h) x (h.1 10) (m0 h) k = false) ?_ ?_ 0 (by decide) _ _ ⟨_, rfl, f0, hM, rfl⟩
  · rintro k hkn lv g ⟨u, rfl, gF, gM, gL⟩ kk
    have bm := dyN_m (N := N) (fr := mF h) (to := mT h) (ln := mN h) (fl := mA h) (x := x) (o := h.1 10) (s := m0 h) k
    have bw := dyN_w (N := N) (fr := mF h) (to := mT h) (ln := mN h) (fl := mA h) (x := x) (o := h.1 10) (s := m0 h) (B := 1000) (fun c hc => by have := k3 c hc; show -1000 ≤ mW h 5 c ∧ mW h 5 c ≤ 1000; omega) k
    have bl := dyN_l (N := N) (fr := mF h) (to := mT h) (ln := mN h) (fl := mA h) (x := x) (o := h.1 10) (s := m0 h) (B := 20) (fun c hc => by have := k2 c hc; show -20 ≤ mL h 5 c ∧ mL h 5 c ≤ 20; omega) (fun c hc => by have := k5 c hc; omega) k
    have bl2 := plA_bd (N := N) (fr := mF h) (to := mT h) (x := x) (o := h.1 10) (ln := mN h) (B := 20 + k) bl (fun c hc => by have := k5 c hc; omega) N
    have bt1 := dzN_tk (N := N) (n := N) (fr := mF h) (to := mT h) (ln := mN h) (fl := mA h) (x := x) (o := h.1 10) (s := m0 h) k1 k
    rw [dzN_dy] at bt1
    have bt2 := plA_tk (N := N) (fr := mF h) (to := mT h) (x := x) (o := h.1 10) (ln := mN h) bt1 (fun c hc => (k5 c hc).1) N
    have hS0 : (m0 h).1 = h.1 5 0 := rfl
    have n1 : dyN N (mF h) (mT h) (mN h) (mA h) x (h.1 10) (m0 h) (k + 1) = dy N (mF h) (mT h) (mN h) (mA h) x (h.1 10) (dyN N (mF h) (mT h) (mN h) (mA h) x (h.1 10) (m0 h) k) := rfl
    have n2 : lkN N (mF h) (mT h) (mN h) (mA h) x (h.1 10) (m0 h) (k + 1) = (lkN N (mF h) (mT h) (mN h) (mA h) x (h.1 10) (m0 h) k || lks N (mF h) (mT h) x (plA N (mF h) (mT h) (mN h) x (h.1 10) (dyN N (mF h) (mT h) (mN h) (mA h) x (h.1 10) (m0 h) k).2.1 N).1) := rfl
    have n4 := lkN_mono (N := N) (fr := mF h) (to := mT h) (ln := mN h) (fl := mA h) (x := x) (o := h.1 10) (s := m0 h) (k := k + 1) (m := 60)
    rw [n2, gL, Bool.false_or] at kk n4
    rw [n1] at kk
    generalize dyN N (mF h) (mT h) (mN h) (mA h) x (h.1 10) (m0 h) k = s at gM bm bw bl bl2 bt1 bt2 kk n4
    simp only [dy] at kk
    have e0 : g.1 0 15 = N := by rw [gF.2.1 15 (by decide)]; exact hN
    have eo : g.1 10 = h.1 10 := gF.1 10 (by decide) (by decide) (by decide)
    obtain ⟨eF, eT, eN, eA, eR⟩ := gF.c4
    refine vc_X8_isEnough_0_15 ⟨fun q => absurd q (by omega), fun q => ?_⟩
    rw [e0]
    refine ⟨_, cm_plugAll_10 e0 h7 N h7 x ⟨by omega, by omega⟩ (fun i hi => by rw [eo]; exact ho i hi) gM, ?_⟩
    rintro g1 ⟨g1k, g12, g1M⟩
    rw [eF, eT, eN, eo, show (s.2.1.1, s.2.1.2) = s.2.1 from rfl] at g1M
    generalize plA N (mF h) (mT h) (mN h) x (h.1 10) s.2.1 N = p at g1M bl2 bt2 kk n4
    have g1F := gF.s6 g1k g12
    have e1 : g1.1 0 15 = N := by rw [g1F.2.1 15 (by decide)]; exact hN
    obtain ⟨eF1, eT1, eN1, eA1, eR1⟩ := g1F.c4
    have hh : ∀ c, c < N → mH g1 6 c = p.1 c := fun c hc => g1M.mh (by omega)
    have ec : cnt (fun c => mH g1 6 c == 2) N = cnt (fun c => p.1 c == 2) N := cnt_congr (fun c hc => by rw [hh c hc])
    have eb : bt (fun c => mH g1 6 c == 2) N = bt (fun c => p.1 c == 2) N := bt_congr (fun c hc => by rw [hh c hc])
    -- whether somebody lacks a cord
    refine jf_loop N (fun c lv g => lv = [jR 0, jI x, jI (k : Nat), jI (c : Nat)] ∧ g = g1 ∧ ∀ j, j < c → p.1 j = 1 → x ≤ (cnt (fun c => p.1 c == 2) N : Nat) → lfree (mF h) (mT h) N (bt (fun c => p.1 c == 2) N) j = false) ?_ ?_ 0 (Nat.zero_le _) _ _ ⟨rfl, rfl, fun j hj => by omega⟩
    · rintro c hc lv g ⟨rfl, rfl, gj⟩ k2
      have nx : (p.1 c = 1 → x ≤ (cnt (fun c => p.1 c == 2) N : Nat) → lfree (mF h) (mT h) N (bt (fun c => p.1 c == 2) N) c = false) → ∀ j, j < c + 1 → p.1 j = 1 → x ≤ (cnt (fun c => p.1 c == 2) N : Nat) → lfree (mF h) (mT h) N (bt (fun c => p.1 c == 2) N) j = false := by
        intro hz j hj
        by_cases e : j = c
        · rw [e]; exact hz
        · exact gj j (by omega)
      refine vc_X8_isEnough_0_36 ⟨fun q => absurd q (by omega), fun q => ⟨⟨by omega, by omega⟩, ⟨by omega, by omega⟩, ?_⟩⟩
      rw [show Int.toNat (7 + (c : Int)) = 7 + c by omega, (g1M.2.2 c (by omega)).1]
      refine ⟨fun e => ⟨_, cm_freeCords_6 e1 h7 x ⟨by omega, by omega⟩, ?_⟩, fun e => ⟨⟨by omega, by omega⟩, k2 _ _ ⟨rfl, rfl, nx (fun z => absurd z e)⟩⟩⟩
      rintro _ _ ⟨rfl, rfl⟩
      rename_i g1
      rw [ec]
      refine ⟨fun z => ⟨⟨by omega, by omega⟩, k2 _ _ ⟨rfl, rfl, nx (fun _ z2 => by omega)⟩⟩, fun z => ⟨_, cm_areFree_6 e1 h7 c (by omega), ?_⟩⟩
      rintro _ _ ⟨rfl, rfl⟩
      rename_i g1
      rw [eF1, eT1, eb]
      refine ⟨fun z2 => ⟨⟨by omega, by omega⟩, k2 _ _ ⟨rfl, rfl, nx (fun _ _ => by rw [bi_0] at z2; exact z2)⟩⟩, fun z2 => ⟨_, rfl, g1F, ?_⟩⟩
      rw [bi_0] at z2
      have : lks N (mF h) (mT h) x p.1 = true := by
        unfold lks
        rw [decide_eq_true (by omega), allb_no (k := c) hc (by simp [e, z2])]
        rfl
      rw [n4 this (by omega)]
      rfl
    · rintro lv g ⟨rfl, rfl, gj⟩
      refine vc_X8_isEnough_0_36 ⟨fun _ => ?_, fun q => absurd q (by omega)⟩
      refine ⟨_, cm_pass_6 e1 h7 g1M bt2 (fun c hc => by have := bl2 c hc; omega) (fun c hc => by have := bw c hc; omega) (by omega), ?_⟩
      rintro g2 ⟨g2k, g22, g2M⟩
      rw [eA1] at g2M
      refine ⟨⟨by omega, by omega⟩, kk _ _ ⟨_, rfl, g1F.s6 g2k g22, g2M, ?_⟩⟩
      unfold lks
      by_cases z : x ≤ (cnt (fun c => p.1 c == 2) N : Nat)
      · rw [(allb_iff (p := fun c => !(p.1 c == 1 && lfree (mF h) (mT h) N (bt (fun k => p.1 k == 2) N) c))).mpr]
        · simp
        · intro j hj
          by_cases e : p.1 j = 1
          · rw [gj j hj e z]; simp
          · simp [e]
      · rw [decide_eq_false z]; rfl
  · rintro lv g ⟨u, rfl, gF, gM, gL⟩
    exact vc_X8_isEnough_0_15 ⟨fun _ => ⟨_, rfl, gF, by rw [gL]; rfl⟩, fun q => absurd q (by decide)⟩
/-- what enough answers -/
def enA (L : Int → Bool) : Int := if L 1 then (if L 2 then (if L 3 then (if L 4 then -9 else 4) else 3) else 2) else 1
theorem enA_at {L : Int → Bool} {x : Nat} (h1 : 1 ≤ x) (h4 : x ≤ 4) (h : ∀ y : Nat, 1 ≤ y → y < x → L y = true) (hx : L x = false) : enA L = x := by
  unfold enA
  rcases (by omega : x = 1 ∨ x = 2 ∨ x = 3 ∨ x = 4) with e | e | e | e <;> subst e
  · rw [if_neg (by rw [show L 1 = false from hx]; decide)]; rfl
  · rw [if_pos (show L 1 = true from h 1 (by decide) (by decide)), if_neg (by rw [show L 2 = false from hx]; decide)]; rfl
  · rw [if_pos (show L 1 = true from h 1 (by decide) (by decide)), if_pos (show L 2 = true from h 2 (by decide) (by decide)), if_neg (by rw [show L 3 = false from hx]; decide)]; rfl
  · rw [if_pos (show L 1 = true from h 1 (by decide) (by decide)), if_pos (show L 2 = true from h 2 (by decide) (by decide)), if_pos (show L 3 = true from h 3 (by decide) (by decide)), if_neg (by rw [show L 4 = false from hx]; decide)]; rfl
theorem enA_no {L : Int → Bool} (h : ∀ y : Nat, 1 ≤ y → y < 5 → L y = true) : enA L = -9 := by
  unfold enA
  rw [if_pos (show L 1 = true from h 1 (by decide) (by decide)), if_pos (show L 2 = true from h 2 (by decide) (by decide)), if_pos (show L 3 = true from h 3 (by decide) (by decide)), if_pos (show L 4 = true from h 4 (by decide) (by decide))]
theorem cm_enough {h : jH} {N : Nat} (hN : h.1 0 15 = N) (h7 : N ≤ 7) (hk : mok h N) (rule : Int) : CT Sm M_X8_enough [jR 0, jI rule] h (jPi fun r g => MK h g ∧
    (¬ (0 ≤ rule ∧ rule ≤ 2) ∧ r = -1 ∨ (0 ≤ rule ∧ rule ≤ 2) ∧ ∃ o, Ord (kys rule (mA h) (mR h) (mN h)) N o ∧ r = enA (fun x => lkN N (mF h) (mT h) (mN h) (mA h) x o (m0 h) 60))) := by
  refine en_X8_enough_0 (fun G => vc_X8_enough_0_0 ⟨_, cm_in rule 0 2, ?_⟩)
  rintro _ _ ⟨rfl, rfl⟩
  refine ⟨fun e => ⟨_, rfl, MK.rfl, Or.inl ⟨fun z => by rw [if_pos z] at e; exact absurd e (by decide), rfl⟩⟩, fun e => ?_⟩
  have c1 : 0 ≤ rule ∧ rule ≤ 2 := by
    by_cases z : 0 ≤ rule ∧ rule ≤ 2
    · exact z
    · rw [if_neg z] at e; exact absurd rfl e
  rename_i h
  have k6 := hk.2.2.2.2.2.1
  refine ⟨_, cm_layOrder hN h7 rule (fun c hc => by have := k6 c hc; omega), ?_⟩
  rintro _ ⟨o, rfl, ho⟩
  refine jf_loop 4 (fun i lv g => lv = [jR 0, jI rule, jI ((i + 1 : Nat) : Int)] ∧ MF (upr h 10 o) g ∧ ∀ y : Nat, 1 ≤ y → y < i + 1 → lkN N (mF h) (mT h) (mN h) (mA h) y o (m0 h) 60 = true) ?_ ?_ 0 (by decide) _ _ ⟨rfl, MF.rfl, fun y h1 h2 => by omega⟩
  · rintro i hi lv g ⟨rfl, gF, gL⟩ k
    have e0 : g.1 0 15 = N := by rw [gF.2.1 15 (by decide)]; exact hN
    have ex : g.1 0 14 = h.1 0 14 := gF.2.1 14 (by decide)
    have eo : g.1 10 = o := by rw [gF.1 10 (by decide) (by decide) (by decide), upr_same]
    have e5 : g.1 5 = h.1 5 := gF.1 5 (by decide) (by decide) (by decide)
    obtain ⟨eF, eT, eN, eA, eR⟩ := gF.c4
    have eF : mF g = mF h := eF
    have eT : mT g = mT h := eT
    have eN : mN g = mN h := eN
    have eA : mA g = mA h := eA
    have eR : mR g = mR h := eR
    have eH : mH g 5 = mH h 5 := by funext c; unfold mH; rw [e5]
    have eL : mL g 5 = mL h 5 := by funext c; unfold mL; rw [e5]
    have eW : mW g 5 = mW h 5 := by funext c; unfold mW; rw [e5]
    have e0m : m0 g = m0 h := by unfold m0; rw [eH, eL, eW, e5]
    have gk : mok g N := by unfold mok; rw [eH, eL, eW, e5, eN, eR, ex]; exact hk
    refine vc_X8_enough_0_18 ⟨fun q => absurd q (by omega), fun q => ⟨_, cm_isEnough e0 h7 gk ((i + 1 : Nat) : Int) ⟨by omega, by omega⟩ (fun j hj => by rw [eo]; exact ho.rg hj), ?_⟩⟩
    rintro r g1 ⟨g1F, rfl⟩
    rw [eF, eT, eN, eA, eo, e0m]
    refine ⟨fun z => ⟨⟨by omega, by omega⟩, k _ _ ⟨rfl, gF.tr g1F, fun y h1 h2 => ?_⟩⟩, fun z => ⟨_, rfl, ((MK.u10 o).tr gF.mk).tr g1F.mk, Or.inr ⟨c1, o, ho, ?_⟩⟩⟩
    · by_cases e : y = i + 1
      · rw [e]
        rw [bi_0] at z
        simpa using z
      · exact gL y h1 (by omega)
    · rw [bi_0] at z
      exact (enA_at (by omega) (by omega) (fun y h1 h2 => gL y h1 h2) (by simpa using z)).symm
  · rintro lv g ⟨rfl, gF, gL⟩
    refine vc_X8_enough_0_18 ⟨fun _ => ⟨_, rfl, (MK.u10 o).tr gF.mk, Or.inr ⟨c1, o, ho, ?_⟩⟩, fun q => absurd q (by decide)⟩
    exact (enA_no (fun y h1 h2 => gL y h1 (by omega))).symm
