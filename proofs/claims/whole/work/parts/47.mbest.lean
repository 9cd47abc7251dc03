/-! the model: the best row -/
theorem MK.c4 {h g : jH} (k : MK h g) : mF g = mF h ∧ mT g = mT h ∧ mN g = mN h ∧ mA g = mA h ∧ mR g = mR h := by
  have e4 := k.2.1 4 (by decide)
  refine ⟨?_, ?_, ?_, ?_, ?_⟩ <;> funext c
  · unfold mF; rw [e4]
  · unfold mT; rw [e4]
  · unfold mN; rw [e4]
  · unfold mA; rw [e4]
  · unfold mR; rw [e4]
theorem MK.c5 {h g : jH} (k : MK h g) : mH g 5 = mH h 5 ∧ mL g 5 = mL h 5 ∧ mW g 5 = mW h 5 ∧ mO g 5 = mO h 5 := by
  have e5 := k.2.1 5 (by decide)
  refine ⟨?_, ?_, ?_, ?_⟩ <;> funext c
  · unfold mH; rw [e5]
  · unfold mL; rw [e5]
  · unfold mW; rw [e5]
  · unfold mO; rw [e5]
theorem MK.okk {h g : jH} (k : MK h g) {N : Nat} (hk : mok h N) : mok g N := by
  obtain ⟨e1, e2, e3, e4, e5⟩ := k.c4
  obtain ⟨f1, f2, f3, f4⟩ := k.c5
  unfold mok
  rw [f1, f2, f3, e3, e5, k.2.1 5 (by decide), k.2.2 14 (by decide)]
  exact hk
theorem MK.mee {h g : jH} (k : MK h g) : me g = me h := by
  obtain ⟨f1, f2, f3, f4⟩ := k.c5
  funext c
  unfold me
  rw [f1, f2]
/-- what bestRow answers -/
def brR (B : Int × (Nat → Int)) (n : Nat) (k : Int) : Int := if 0 ≤ k then (if (n : Int) ≤ k then -5 else B.2 k.toNat) else B.1
def MQz (h g : jH) : Prop := (∀ a, a ≠ 6 → a ≠ 11 → a ≠ 12 → g.1 a = h.1 a) ∧ g.2 = h.2
theorem MQz.mk {h g : jH} (k : MQz h g) : MK h g := ⟨k.2, fun a ha => k.1 a (by omega) (by omega) (by omega), fun j _ => by rw [k.1 0 (by decide) (by decide) (by decide)]⟩
/-- what those who wait have waited, and wait along a row -/
def MT (h : jH) (N : Nat) (f : Nat → Int) : Int := sm (fun c => mH h 5 c == 1) (mW h 5) N + (tW N (mF h) (mT h) (mN h) (h.1 0 14) f (cnt (fun c => mH h 5 c == 1) N) (me h) 30 : Nat)
theorem cm_bestRow {h : jH} {N : Nat} (hN : h.1 0 15 = N) (h7 : N ≤ 7) (hk : mok h N) (k : Int) : CT Sm M_X8_bestRow [jR 0, jI k] h (jPi fun r g => MK h g ∧
    (k < -1 ∧ r = -1 ∨ -1 ≤ k ∧ ∃ (f0 b0 : Nat → Int), wrow (fun c => mH h 5 c == 1) f0 N ∧ r = brR (bgo (MT h N) (cnt (fun c => mH h 5 c == 1) N) 5040 f0 (2147483647, b0)) (cnt (fun c => mH h 5 c == 1) N) k)) := by
  refine en_X8_bestRow_0 (fun G => vc_X8_bestRow_0_0 ⟨fun e => ?_, fun e => ⟨_, rfl, MK.rfl, Or.inl ⟨by omega, rfl⟩⟩⟩)
  have nle := cnt_le (fun c => mH h 5 c == 1) N
  -- those who wait
  refine jf_loop N (fun c lv g => lv = [jR 0, jI k, jI (cnt (fun c => mH h 5 c == 1) c : Nat), jI (c : Nat), jU, jU, jU] ∧ (∃ f, g = upr h 11 f) ∧ wrow (fun c => mH h 5 c == 1) (g.1 11) c) ?_ ?_ 0 (Nat.zero_le _) _ _ ⟨rfl, ⟨h.1 11, (upr_id (fun _ => rfl)).symm⟩, fun d hd => by omega⟩
  · rintro c hc lv g ⟨rfl, ⟨f, rfl⟩, gw⟩ kk
    have e0 : (upr h 11 f).1 0 15 = N := hN
    have e5 : (upr h 11 f).1 5 (7 + c) = mH h 5 c := rfl
    have cl := cnt_le (fun c => mH h 5 c == 1) c
    simp only [cnt] at kk
    refine vc_X8_bestRow_0_11 ⟨fun q => absurd q (by omega), fun q => ⟨⟨by omega, by omega⟩, ⟨by omega, by omega⟩, ?_⟩⟩
    rw [show Int.toNat (7 + (c : Int)) = 7 + c by omega, e5, Int.toNat_natCast, up_upr]
    refine ⟨fun z => ⟨⟨by omega, by omega⟩, ⟨by omega, by omega⟩, ⟨by omega, by omega⟩, ?_⟩, fun z => ⟨⟨by omega, by omega⟩, ?_⟩⟩
    · rw [if_pos (by simp [z])] at kk
      refine kk _ _ ⟨rfl, ⟨_, rfl⟩, fun d hd hp => ?_⟩
      rw [upr_same]
      by_cases ed : d = c
      · subst ed; simp
      · have := cnt_lt_of (p := fun c => mH h 5 c == 1) (d := d) (n := c) (by omega) hp
        rw [if_neg (by omega)]
        exact gw d (by omega) hp
    · rw [if_neg (by simp [z])] at kk
      refine kk _ _ ⟨rfl, ⟨_, rfl⟩, fun d hd hp => ?_⟩
      refine gw d ?_ hp
      have : d ≠ c := fun y => by rw [y] at hp; simp at hp; exact z hp
      omega
  · rintro lv g ⟨rfl, ⟨f0, rfl⟩, gw⟩
    have e0 : (upr h 11 f0).1 0 15 = N := hN
    refine vc_X8_bestRow_0_11 ⟨fun _ => ?_, fun q => absurd q (by omega)⟩
    rw [upr_same] at gw
    have hMT : ∀ f, MT h N f = sm (fun c => mH h 5 c == 1) (mW h 5) N + (tW N (mF h) (mT h) (mN h) (h.1 0 14) f (cnt (fun c => mH h 5 c == 1) N) (me h) 30 : Nat) := fun _ => rfl
    have r0 : rok N (cnt (fun c => mH h 5 c == 1) N) f0 := wrow_rok gw
    have w0 : ∀ i, i < cnt (fun c => mH h 5 c == 1) N → mH h 5 (f0 i).toNat = 1 := by
      intro i hi
      obtain ⟨d, d1, d2, d3⟩ := cnt_at hi
      have := gw d d1 d2
      rw [d3] at this
      rw [this, Int.toNat_natCast]
      exact beq_iff_eq.mp d2
    have ws : ∀ f, rok N (cnt (fun c => mH h 5 c == 1) N) f → (∀ i, i < cnt (fun c => mH h 5 c == 1) N → mH h 5 (f i).toNat = 1) → smR f (mW h 5) (cnt (fun c => mH h 5 c == 1) N) = sm (fun c => mH h 5 c == 1) (mW h 5) N := fun f hf hw => smR_set hf (fun i hi => by rw [hw i hi]; rfl) rfl
    have wb := sm_bd (p := fun c => mH h 5 c == 1) (f := mW h 5) (n := N) (B := 1000) (by decide) (fun c hc => by have := hk.2.2.1 c hc; omega)
    have wp : 0 ≤ sm (fun c => mH h 5 c == 1) (mW h 5) N := by
      have : ∀ n, n ≤ N → 0 ≤ sm (fun c => mH h 5 c == 1) (mW h 5) n := by
        intro n
        induction n with
        | zero => intro _; simp [sm]
        | succ n ih =>
          intro hn
          have a := ih (by omega)
          have b := (hk.2.2.1 n (by omega)).1
          simp only [sm]
          split <;> omega
      exact this N (Nat.le_refl _)
    have mp : ∀ f, 0 ≤ MT h N f ∧ MT h N f < 2147483647 := by
      intro f
      have := tW_le (N := N) (fr := mF h) (to := mT h) (ln := mN h) (x := h.1 0 14) (row := f) (e := me h) (n := cnt (fun c => mH h 5 c == 1) N) (m := 30)
      rw [hMT]
      omega
    generalize sm (fun c => mH h 5 c == 1) (mW h 5) N = W0 at hMT ws wb wp
    have hQ : MK h h := MK.rfl
    obtain ⟨B, hB⟩ : ∃ B, B = bgo (MT h N) (cnt (fun c => mH h 5 c == 1) N) 5040 f0 (2147483647, h.1 12) := ⟨_, rfl⟩
    have fin : ∀ r g, MQz h g → r = brR B (cnt (fun c => mH h 5 c == 1) N) k → (jPi fun r g => MK h g ∧
      (k < -1 ∧ r = -1 ∨ -1 ≤ k ∧ ∃ (f0 b0 : Nat → Int), wrow (fun c => mH h 5 c == 1) f0 N ∧ r = brR (bgo (MT h N) (cnt (fun c => mH h 5 c == 1) N) 5040 f0 (2147483647, b0)) (cnt (fun c => mH h 5 c == 1) N) k)) (some (jI r)) g := fun r g hg hr => ⟨_, rfl, hg.mk, Or.inr ⟨e, f0, h.1 12, gw, by rw [hr, hB]⟩⟩
    generalize (jPi fun r g => MK h g ∧
      (k < -1 ∧ r = -1 ∨ -1 ≤ k ∧ ∃ (f0 b0 : Nat → Int), wrow (fun c => mH h 5 c == 1) f0 N ∧ r = brR (bgo (MT h N) (cnt (fun c => mH h 5 c == 1) N) 5040 f0 (2147483647, b0)) (cnt (fun c => mH h 5 c == 1) N) k)) = Q at fin ⊢
    have hm0 : mu f0 (cnt (fun c => mH h 5 c == 1) N) (cnt (fun c => mH h 5 c == 1) N) < 5040 := Nat.lt_of_lt_of_le (mu_lt (Nat.le_refl _)) (fct_7 _ (by omega))
    clear gw
    generalize hn : cnt (fun c => mH h 5 c == 1) N = n at *
    -- the end
    have done : ∀ (x3 : Int) (u v : jV) (g : jH), MQz h g → 0 ≤ x3 → x3 = B.1 → (∀ l, l < n → g.1 12 l = B.2 l) → WV Sm G M_X8_bestRow Q 53 [jR 0, jI k, jI n, jI x3, jI 0, u, v] [] g := by
      intro x3 u v g hg h0 hx hb
      refine vc_X8_bestRow_0_53 ⟨fun _ => ⟨fun z => ⟨fun z1 => fin _ _ hg ?_, fun z1 => ⟨⟨by omega, by omega⟩, fin _ _ hg ?_⟩⟩, fun z => fin _ _ hg ?_⟩, fun q => absurd rfl q⟩
      · unfold brR; rw [if_pos z, if_pos z1]
      · unfold brR; rw [if_pos z, if_neg z1]; exact hb _ (by omega)
      · unfold brR; rw [if_neg z]; exact hx
    have main : ∀ (m : Nat) (f : Nat → Int) (x3 : Int) (u v : jV) (g : jH) (b : Int × (Nat → Int)), mu f n n < m → rok N n f → (∀ i, i < n → mH h 5 (f i).toNat = 1) → g.1 11 = f → MQz h g → (x3 = -1 ∧ b.1 = 2147483647 ∨ 0 ≤ x3 ∧ x3 = b.1 ∧ ∀ l, l < n → g.1 12 l = b.2 l) → bgo (MT h N) n m f b = B → WV Sm G M_X8_bestRow Q 53 [jR 0, jI k, jI n, jI x3, jI 1, u, v] [] g := by
      intro m
      induction m with
      | zero => intro f x3 u v g b z; omega
      | succ m ih =>
        intro f x3 u v g b z1 hf hfw gf gQ gb hB
        have gk := gQ.mk
        have e0 : g.1 0 15 = N := by rw [gk.2.2 15 (by decide)]; exact hN
        obtain ⟨e1, e2, e3, e4, e5⟩ := gk.c4
        obtain ⟨f1, f2, f3, f4⟩ := gk.c5
        refine vc_X8_bestRow_0_53 ⟨fun q => absurd q (by decide), fun _ => ⟨_, cm_waitedBy (n := n) e0 h7 (gk.okk hk) (by omega) (by rw [gf]; exact hf) (by rw [gf, f1]; exact hfw), ?_⟩⟩
        rintro r2 g1 ⟨⟨g1k, g12⟩, rfl⟩
        rw [gf, f3, e1, e2, e3, gk.2.2 14 (by decide), gk.mee, ws f hf hfw, ← hMT]
        have p := mp f
        have q11 : g1.1 11 = f := by rw [g1k 11 (by decide)]; exact gf
        have q12 : g1.1 12 = g.1 12 := g1k 12 (by decide)
        have qQ : MQz h g1 := ⟨fun a h1 h2 h3 => by rw [g1k a h1]; exact gQ.1 a h1 h2 h3, by rw [g12]; exact gQ.2⟩
        -- behind the comparison
        have step : ∀ (x3 : Int) (u v : jV) (g3 : jH) (b3 : Int × (Nat → Int)), g3.1 11 = f → MQz h g3 → 0 ≤ x3 → x3 = b3.1 → (∀ l, l < n → g3.1 12 l = b3.2 l) → (if MT h N f < b.1 then (MT h N f, f) else b) = b3 →
            ∃ post : Int → jH → Prop, CT Sm M_X8_nextRow [jR 0, jR 11, jI (n : Nat)] g3 (jPi post) ∧ ∀ (r4 : Int) (h5 : jH), post r4 h5 → (WV Sm G M_X8_bestRow Q 53 [jR 0, jI k, jI n, jI x3, jI r4, u, v] [] h5) := by
          intro x3 u v g3 b3 q1 q2 q3 q4 q5 q6
          refine ⟨_, cm_nextRow n (by omega), ?_⟩
          intro r4 h5 hnx
          simp only [bgo] at hB
          rw [q6] at hB
          rcases hnx with ⟨n1, rfl, rfl⟩ | ⟨g', n1, rfl, rfl⟩
          · rw [q1] at n1
            rw [n1] at hB
            refine done x3 u v _ q2 q3 ?_ ?_
            · rw [q4, ← hB]
            · intro l hl
              rw [q5 l hl, ← hB]
          · rw [q1] at n1
            rw [n1] at hB
            have := nx_mu hf.1 n1
            exact ih g' x3 u v (upr g3 11 g') b3 (by omega) (nx_rok hf n1) (nx_all (P := fun z => mH h 5 z.toNat = 1) hfw n1) upr_same ⟨fun a a1 a2 a3 => by rw [upr_ne a2]; exact q2.1 a a1 a2 a3, q2.2⟩ (Or.inr ⟨q3, q4, fun l hl => by rw [upr_ne (by decide)]; exact q5 l hl⟩) hB
        -- the row is kept
        have take : ∀ (u : jV), MT h N f < b.1 → WV Sm G M_X8_bestRow Q 81 [jR 0, jI k, jI n, jI (MT h N f), jI 1, jI (MT h N f), jI 0] [] g1 := by
          intro _ hlt
          refine WV.hp (upr_id (k := 12) (f := fun j => if j < 0 then f j else g1.1 12 j) (fun j => by rw [if_neg (by omega)])) (jf_fun n (fun c => [jR 0, jI k, jI n, jI (MT h N f), jI 1, jI (MT h N f), jI (c : Nat)]) (fun c => upr g1 12 (fun j => if j < c then f j else g1.1 12 j)) (fun c hc kk => ?_) ?_ 0 (Nat.zero_le _))
          · refine vc_X8_bestRow_0_81 ⟨fun q => absurd q (by omega), fun q => ⟨⟨by omega, by omega⟩, ⟨by omega, by omega⟩, WV.hp ?_ kk⟩⟩
            rw [Int.toNat_natCast, up_upr, upr_ne (by decide), q11]
            congr 1
            funext j
            by_cases ej : j = c
            · rw [if_pos (by omega), if_pos ej, ej]
            · rw [if_neg ej]
              by_cases z : j < c
              · rw [if_pos z, if_pos (by omega)]
              · rw [if_neg z, if_neg (by omega)]
          · refine vc_X8_bestRow_0_81 ⟨fun _ => ?_, fun q => absurd q (by omega)⟩
            refine step _ _ _ _ (MT h N f, f) (by rw [upr_ne (by decide)]; exact q11) ⟨fun a a1 a2 a3 => by rw [upr_ne a3]; exact qQ.1 a a1 a2 a3, qQ.2⟩ p.1 rfl (fun l hl => ?_) (if_pos hlt)
            rw [upr_same, if_pos hl]
        rcases gb with ⟨y1, y2⟩ | ⟨y1, y2, y3⟩
        · exact ⟨fun _ => take jU (by omega), fun q => absurd q (by omega)⟩
        · refine ⟨fun q => absurd q (by omega), fun _ => ⟨fun q => ?_, fun q => take jU (by omega)⟩⟩
          exact step _ _ _ _ b q11 qQ y1 y2 (fun l hl => by rw [q12]; exact y3 l hl) (if_neg (by omega))
    exact main 5040 f0 (-1) jU jU _ (2147483647, h.1 12) hm0 r0 w0 upr_same ⟨fun a a1 a2 a3 => upr_ne a2, rfl⟩ (Or.inl ⟨rfl, rfl⟩) hB.symm
