/-! a day by a rule: Day.go, byRule, enough -/
theorem b_andn : ∀ a : Nat, a < 128 → ∀ b : Nat, b < 128 → b_and a (b_xor b (-1)) = ((a ^^^ (a &&& b) : Nat) : Int) := by decide +kernel
theorem b_orb (a b : Bool) : b_or (bi a) (bi b) = bi (a || b) := by cases a <;> cases b <;> decide +kernel
theorem bi_01 (b : Bool) : bi b = 0 ∨ bi b = 1 := by cases b <;> simp [bi]
theorem fst_congr {p q : Nat → Bool} {n : Nat} (h : ∀ k, k < n → p k = q k) : fst_ p n = fst_ q n := by
  induction n with
  | zero => rfl
  | succ n ih => simp only [fst_]; rw [ih (fun k hk => h k (by omega)), h n (by omega)]
/-- the day's start -/
def s0 (h : jH) : jY := (h.1 17 1, ((bc_ h).1 30, (bc_ h).1 31), (bc_ h).1 32)
theorem bc_30 {h : jH} {j : Nat} (hj : j < 7) : (bc_ h).1 30 j = h.1 19 j := by simp [bc_, upr, hj]
theorem bc_31 {h : jH} {j : Nat} (hj : j < 7) : (bc_ h).1 31 j = h.1 20 j := by simp [bc_, upr, hj]
theorem bc_32 {h : jH} {j : Nat} (hj : j < 7) : (bc_ h).1 32 j = h.1 21 j := by simp [bc_, upr, hj]
/-- what a day leaves: its moment, the first that is done, who lacked a cord; nothing else is changed -/
def GoP (h : jH) (N : Nat) (rule : Int) (n : Nat) (x : Int) (h' : jH) : Prop := ∃ o, Ord (kys rule (h.1 4) (h.1 8) (h.1 7)) N o ∧
  h'.1 30 = (dyN N (h.1 5) (h.1 6) (h.1 7) (h.1 4) x o (s0 h) n).2.1.1 ∧ h'.1 32 = (dyN N (h.1 5) (h.1 6) (h.1 7) (h.1 4) x o (s0 h) n).2.2 ∧
  h'.1 26 3 = fdN N (h.1 5) (h.1 6) (h.1 7) (h.1 4) x o (s0 h) n ∧ h'.1 26 4 = bi (lkN N (h.1 5) (h.1 6) (h.1 7) (h.1 4) x o (s0 h) n) ∧
  (∀ k, k ≠ 26 → k ≠ 27 → k ≠ 28 → k ≠ 29 → k ≠ 30 → k ≠ 31 → k ≠ 32 → h'.1 k = h.1 k) ∧ h'.2 = h.2
/-- a moment's numbers are small -/
def sml (h : jH) (N : Nat) : Prop := (∀ c, c < N → 0 ≤ h.1 20 c ∧ h.1 20 c ≤ 20) ∧ (∀ c, c < N → 0 ≤ h.1 21 c ∧ h.1 21 c ≤ 1000) ∧ (0 ≤ h.1 17 1 ∧ h.1 17 1 ≤ 1000) ∧ (∀ c, c < N → 0 ≤ h.1 7 c ∧ h.1 7 c ≤ 20) ∧ (∀ c, c < N → 0 ≤ h.1 8 c ∧ h.1 8 c ≤ 9)
theorem ct_go {h : jH} {N : Nat} (hN : h.1 2 2 = N) (h7 : N ≤ 7) (hs : sml h N) (rule : Int) (n : Nat) (hn : n ≤ 60) (x : Int) : CT Sx M_X0_go [jR 26, jR 17, jI rule, jI n, jI x] h (jPv (GoP h N rule n x)) := by
  obtain ⟨hl, hw, hm, hln, hrn⟩ := hs
  refine en_X0_go_26_17 (fun G => vc_X0_go_26_17_0 ⟨_, ct_become, ?_⟩)
  rintro _ rfl
  have k2 : ∀ a, a ≠ 28 → a ≠ 29 → a ≠ 30 → a ≠ 31 → a ≠ 32 → (bc_ h).1 a = h.1 a := by
    intro a h1 h2 h3 h4 h5
    funext j
    simp [bc_, upr, j_up, h1, h2, h3, h4, h5]
  have hN1 : (bc_ h).1 2 2 = N := by rw [k2 2 (by decide) (by decide) (by decide) (by decide) (by decide)]; exact hN
  refine ⟨_, ct_sort hN1 h7 rule (fun c hc => by rw [k2 8 (by decide) (by decide) (by decide) (by decide) (by decide)]; have := hrn c hc; omega), ?_⟩
  rintro _ ⟨o, rfl, ho⟩
  rw [k2 4 (by decide) (by decide) (by decide) (by decide) (by decide), k2 7 (by decide) (by decide) (by decide) (by decide) (by decide), k2 8 (by decide) (by decide) (by decide) (by decide) (by decide)] at ho
  have kH : ∀ a, a ≠ 26 → a ≠ 27 → a ≠ 28 → a ≠ 29 → a ≠ 30 → a ≠ 31 → a ≠ 32 → (j_up (j_up (upr (bc_ h) 27 o) 26 3 (-9)) 26 4 0).1 a = h.1 a := by
    intro a h0 h1 h2 h3 h4 h5 h6
    rw [up_ne h0, up_ne h0, upr_ne h1, k2 a h2 h3 h4 h5 h6]
  have hH30 : (j_up (j_up (upr (bc_ h) 27 o) 26 3 (-9)) 26 4 0).1 30 = (s0 h).2.1.1 := by rw [up_ne (by decide), up_ne (by decide), upr_ne (by decide)]; rfl
  have hH31 : (j_up (j_up (upr (bc_ h) 27 o) 26 3 (-9)) 26 4 0).1 31 = (s0 h).2.1.2 := by rw [up_ne (by decide), up_ne (by decide), upr_ne (by decide)]; rfl
  have hH32 : (j_up (j_up (upr (bc_ h) 27 o) 26 3 (-9)) 26 4 0).1 32 = (s0 h).2.2 := by rw [up_ne (by decide), up_ne (by decide), upr_ne (by decide)]; rfl
  have hH27 : (j_up (j_up (upr (bc_ h) 27 o) 26 3 (-9)) 26 4 0).1 27 = o := by rw [up_ne (by decide), up_ne (by decide), upr_same]
  have hH28 : (j_up (j_up (upr (bc_ h) 27 o) 26 3 (-9)) 26 4 0).1 28 1 = (s0 h).1 := by rw [up_ne (by decide), up_ne (by decide), upr_ne (by decide)]; simp [bc_, upr, j_up, s0]
  have hH263 : (j_up (j_up (upr (bc_ h) 27 o) 26 3 (-9)) 26 4 0).1 26 3 = -9 := by simp [j_up]
  have hH264 : (j_up (j_up (upr (bc_ h) 27 o) 26 3 (-9)) 26 4 0).1 26 4 = 0 := by simp [j_up]
  have hHn : (j_up (j_up (upr (bc_ h) 27 o) 26 3 (-9)) 26 4 0).1 2 2 = N := by rw [kH 2 (by decide) (by decide) (by decide) (by decide) (by decide) (by decide) (by decide)]; exact hN
  have hH2 : (j_up (j_up (upr (bc_ h) 27 o) 26 3 (-9)) 26 4 0).2 = h.2 := rfl
  generalize j_up (j_up (upr (bc_ h) 27 o) 26 3 (-9)) 26 4 0 = H at kH hH30 hH31 hH32 hH27 hH28 hH263 hH264 hHn hH2 ⊢
  refine ⟨_, ct_those_17 hHn h7 3, ?_⟩
  rintro _ _ ⟨rfl, rfl⟩
  rename_i H
  rw [kH 19 (by decide) (by decide) (by decide) (by decide) (by decide) (by decide) (by decide)]
  -- the minutes
  refine jf_loop n (fun k lv g => lv = [jR 26, jR 17, jI rule, jI n, jI x, jI (bt (fun c => h.1 19 c == 3) N : Nat), jI (k : Nat)] ∧
      g.1 28 1 = (dyN N (h.1 5) (h.1 6) (h.1 7) (h.1 4) x o (s0 h) k).1 ∧ g.1 30 = (dyN N (h.1 5) (h.1 6) (h.1 7) (h.1 4) x o (s0 h) k).2.1.1 ∧ g.1 31 = (dyN N (h.1 5) (h.1 6) (h.1 7) (h.1 4) x o (s0 h) k).2.1.2 ∧ g.1 32 = (dyN N (h.1 5) (h.1 6) (h.1 7) (h.1 4) x o (s0 h) k).2.2 ∧
      g.1 26 3 = fdN N (h.1 5) (h.1 6) (h.1 7) (h.1 4) x o (s0 h) k ∧ g.1 26 4 = bi (lkN N (h.1 5) (h.1 6) (h.1 7) (h.1 4) x o (s0 h) k) ∧ g.1 27 = o ∧
      (∀ k, k ≠ 26 → k ≠ 27 → k ≠ 28 → k ≠ 29 → k ≠ 30 → k ≠ 31 → k ≠ 32 → g.1 k = h.1 k) ∧ g.2 = h.2) ?_ ?_ 0 (Nat.zero_le _) _ _ ⟨rfl, hH28, hH30, hH31, hH32, hH263, hH264, hH27, kH, hH2⟩
  · rintro k hk lv g ⟨rfl, g28, g30, g31, g32, g263, g264, g27, gk, g2⟩ kk
    have e5 := gk 5 (by decide) (by decide) (by decide) (by decide) (by decide) (by decide) (by decide)
    have e6 := gk 6 (by decide) (by decide) (by decide) (by decide) (by decide) (by decide) (by decide)
    have e7 := gk 7 (by decide) (by decide) (by decide) (by decide) (by decide) (by decide) (by decide)
    have e4 := gk 4 (by decide) (by decide) (by decide) (by decide) (by decide) (by decide) (by decide)
    have e2 : g.1 2 2 = N := by rw [gk 2 (by decide) (by decide) (by decide) (by decide) (by decide) (by decide) (by decide)]; exact hN
    have bm := dyN_m (N := N) (fr := h.1 5) (to := h.1 6) (ln := h.1 7) (fl := h.1 4) (x := x) (o := o) (s := s0 h) k
    have bw := dyN_w (N := N) (fr := h.1 5) (to := h.1 6) (ln := h.1 7) (fl := h.1 4) (x := x) (o := o) (s := s0 h) (B := 1000) (fun c hc => by have := hw c hc; show -1000 ≤ (bc_ h).1 32 c ∧ (bc_ h).1 32 c ≤ 1000; rw [bc_32 (by omega)]; omega) k
    have bl := dyN_l (N := N) (fr := h.1 5) (to := h.1 6) (ln := h.1 7) (fl := h.1 4) (x := x) (o := o) (s := s0 h) (B := 20) (fun c hc => by have := hl c hc; show -20 ≤ (bc_ h).1 31 c ∧ (bc_ h).1 31 c ≤ 20; rw [bc_31 (by omega)]; omega) (fun c hc => by have := hln c hc; omega) k
    have bl2 := plA_bd (N := N) (fr := h.1 5) (to := h.1 6) (x := x) (o := o) (ln := h.1 7) (B := 20 + k) bl (fun c hc => by have := hln c hc; omega) N
    have hS0 : (s0 h).1 = h.1 17 1 := rfl
    have n1 : dyN N (h.1 5) (h.1 6) (h.1 7) (h.1 4) x o (s0 h) (k + 1) = dy N (h.1 5) (h.1 6) (h.1 7) (h.1 4) x o (dyN N (h.1 5) (h.1 6) (h.1 7) (h.1 4) x o (s0 h) k) := rfl
    have n2 : lkN N (h.1 5) (h.1 6) (h.1 7) (h.1 4) x o (s0 h) (k + 1) = (lkN N (h.1 5) (h.1 6) (h.1 7) (h.1 4) x o (s0 h) k || lks N (h.1 5) (h.1 6) x (plA N (h.1 5) (h.1 6) (h.1 7) x o (dyN N (h.1 5) (h.1 6) (h.1 7) (h.1 4) x o (s0 h) k).2.1 N).1) := rfl
    have n3 : fdN N (h.1 5) (h.1 6) (h.1 7) (h.1 4) x o (s0 h) (k + 1) = if fdN N (h.1 5) (h.1 6) (h.1 7) (h.1 4) x o (s0 h) k = -9 then onI (fst_ (fun c => decide (c < N) && ((dyN N (h.1 5) (h.1 6) (h.1 7) (h.1 4) x o (s0 h) (k + 1)).2.1.1 c == 3 && !((s0 h).2.1.1 c == 3))) 7) else fdN N (h.1 5) (h.1 6) (h.1 7) (h.1 4) x o (s0 h) k := rfl
    rw [n1, n2, n3] at kk
    rw [n1] at kk
    generalize dyN N (h.1 5) (h.1 6) (h.1 7) (h.1 4) x o (s0 h) k = s at g28 g30 g31 g32 bm bw bl bl2 kk
    generalize fdN N (h.1 5) (h.1 6) (h.1 7) (h.1 4) x o (s0 h) k = fd at g263 kk
    generalize lkN N (h.1 5) (h.1 6) (h.1 7) (h.1 4) x o (s0 h) k = lk at g264 kk
    have oin : ∀ i, i < N → 0 ≤ g.1 27 i ∧ g.1 27 i < 7 := by
      intro i hi
      obtain ⟨d, hd, hf, -⟩ := ho i hi
      rw [g27, hf]
      omega
    refine vc_X0_go_26_17_34 ⟨fun q => absurd q (by omega), fun q => ⟨_, ct_plugAll e2 h7 x oin, ?_⟩⟩
    rintro _ rfl
    rw [e5, e6, e7, g27, g30, g31]
    have ep : (s.2.1.1, s.2.1.2) = s.2.1 := rfl
    rw [ep]
    simp only [dy] at kk
    generalize plA N (h.1 5) (h.1 6) (h.1 7) x o s.2.1 N = p at bl2 kk ⊢
    have e22 : (upr (upr g 30 p.1) 31 p.2).1 2 2 = N := e2
    refine ⟨_, ct_lacksCord e22 h7 x, ?_⟩
    rintro _ _ ⟨rfl, rfl⟩
    have f5 : (upr (upr g 30 p.1) 31 p.2).1 5 = h.1 5 := e5
    have f6 : (upr (upr g 30 p.1) 31 p.2).1 6 = h.1 6 := e6
    have f30 : (upr (upr g 30 p.1) 31 p.2).1 30 = p.1 := rfl
    have f264 : (upr (upr g 30 p.1) 31 p.2).1 26 4 = bi lk := g264
    rw [f5, f6, f30, f264, b_orb]
    refine ⟨bi_01 _, ?_⟩
    -- a minute
    have q2 : (j_up (upr (upr g 30 p.1) 31 p.2) 26 4 (bi (lk || lks N (h.1 5) (h.1 6) x p.1))).1 2 2 = N := e2
    have q30 : (j_up (upr (upr g 30 p.1) 31 p.2) 26 4 (bi (lk || lks N (h.1 5) (h.1 6) x p.1))).1 30 = p.1 := by rw [up_ne (by decide)]; rfl
    have q31 : (j_up (upr (upr g 30 p.1) 31 p.2) 26 4 (bi (lk || lks N (h.1 5) (h.1 6) x p.1))).1 31 = p.2 := by rw [up_ne (by decide)]; rfl
    have q32 : (j_up (upr (upr g 30 p.1) 31 p.2) 26 4 (bi (lk || lks N (h.1 5) (h.1 6) x p.1))).1 32 = s.2.2 := by rw [up_ne (by decide)]; exact g32
    have q28 : (j_up (upr (upr g 30 p.1) 31 p.2) 26 4 (bi (lk || lks N (h.1 5) (h.1 6) x p.1))).1 28 1 = s.1 := by rw [up_ne (by decide)]; exact g28
    have q4 : (j_up (upr (upr g 30 p.1) 31 p.2) 26 4 (bi (lk || lks N (h.1 5) (h.1 6) x p.1))).1 4 = h.1 4 := by rw [up_ne (by decide)]; exact e4
    have q263 : (j_up (upr (upr g 30 p.1) 31 p.2) 26 4 (bi (lk || lks N (h.1 5) (h.1 6) x p.1))).1 26 3 = fd := by rw [up_out (by decide)]; exact g263
    have q264 : (j_up (upr (upr g 30 p.1) 31 p.2) 26 4 (bi (lk || lks N (h.1 5) (h.1 6) x p.1))).1 26 4 = bi (lk || lks N (h.1 5) (h.1 6) x p.1) := up_eq
    have q27 : (j_up (upr (upr g 30 p.1) 31 p.2) 26 4 (bi (lk || lks N (h.1 5) (h.1 6) x p.1))).1 27 = o := by rw [up_ne (by decide)]; exact g27
    have qk : ∀ k, k ≠ 26 → k ≠ 27 → k ≠ 28 → k ≠ 29 → k ≠ 30 → k ≠ 31 → k ≠ 32 → (j_up (upr (upr g 30 p.1) 31 p.2) 26 4 (bi (lk || lks N (h.1 5) (h.1 6) x p.1))).1 k = h.1 k := by
      intro k h1 h2 h3 h4 h5 h6 h7
      rw [up_ne h1, upr_ne h6, upr_ne h5]
      exact gk k h1 h2 h3 h4 h5 h6 h7
    have qq : (j_up (upr (upr g 30 p.1) 31 p.2) 26 4 (bi (lk || lks N (h.1 5) (h.1 6) x p.1))).2 = h.2 := g2
    generalize j_up (upr (upr g 30 p.1) 31 p.2) 26 4 (bi (lk || lks N (h.1 5) (h.1 6) x p.1)) = u at q2 q30 q31 q32 q28 q4 q263 q264 q27 qk qq ⊢
    refine ⟨_, ct_passMinute_28 q2 h7 (fun c hc => by rw [q31]; have := bl2 c hc; omega) (fun c hc => by rw [q32]; have := bw c hc; omega) (by rw [q28]; omega), ?_⟩
    rintro _ rfl
    rw [q28, q4, q30, q31]
    have w30 : (upr (j_up (pm_28 u N) 28 1 (s.1 + 1)) 30 (qF N (h.1 4) (s.1 + 1) (qH N p.1 p.2))).1 30 = qF N (h.1 4) (s.1 + 1) (qH N p.1 p.2) := rfl
    have w31 : (upr (j_up (pm_28 u N) 28 1 (s.1 + 1)) 30 (qF N (h.1 4) (s.1 + 1) (qH N p.1 p.2))).1 31 = qL N p.1 p.2 := by rw [upr_ne (by decide), up_ne (by decide)]; simp [pm_28, upr, q30, q31]
    have w32 : (upr (j_up (pm_28 u N) 28 1 (s.1 + 1)) 30 (qF N (h.1 4) (s.1 + 1) (qH N p.1 p.2))).1 32 = qW N p.1 s.2.2 := by rw [upr_ne (by decide), up_ne (by decide)]; simp [pm_28, upr, q30, q32]
    have w28 : (upr (j_up (pm_28 u N) 28 1 (s.1 + 1)) 30 (qF N (h.1 4) (s.1 + 1) (qH N p.1 p.2))).1 28 1 = s.1 + 1 := by rw [upr_ne (by decide), up_eq]
    have wk : ∀ k, k ≠ 28 → k ≠ 30 → k ≠ 31 → k ≠ 32 → (upr (j_up (pm_28 u N) 28 1 (s.1 + 1)) 30 (qF N (h.1 4) (s.1 + 1) (qH N p.1 p.2))).1 k = u.1 k := by
      intro k h1 h2 h3 h4
      rw [upr_ne h2, up_ne h1]
      simp [pm_28, upr, h2, h3, h4]
    have w2 : (upr (j_up (pm_28 u N) 28 1 (s.1 + 1)) 30 (qF N (h.1 4) (s.1 + 1) (qH N p.1 p.2))).2 = u.2 := rfl
    generalize upr (j_up (pm_28 u N) 28 1 (s.1 + 1)) 30 (qF N (h.1 4) (s.1 + 1) (qH N p.1 p.2)) = v at w30 w31 w32 w28 wk w2 ⊢
    have v263 : v.1 26 3 = fd := by rw [wk 26 (by decide) (by decide) (by decide) (by decide)]; exact q263
    have v264 : v.1 26 4 = bi (lk || lks N (h.1 5) (h.1 6) x p.1) := by rw [wk 26 (by decide) (by decide) (by decide) (by decide)]; exact q264
    have v27 : v.1 27 = o := by rw [wk 27 (by decide) (by decide) (by decide) (by decide)]; exact q27
    have vk : ∀ k, k ≠ 26 → k ≠ 27 → k ≠ 28 → k ≠ 29 → k ≠ 30 → k ≠ 31 → k ≠ 32 → v.1 k = h.1 k := fun k h1 h2 h3 h4 h5 h6 h7 => by rw [wk k h3 h5 h6 h7]; exact qk k h1 h2 h3 h4 h5 h6 h7
    have vN : v.1 2 2 = N := by rw [vk 2 (by decide) (by decide) (by decide) (by decide) (by decide) (by decide) (by decide)]; exact hN
    rw [v263]
    refine ⟨fun e => ⟨_, ct_those_28 vN h7 3, ?_⟩, fun e => ⟨⟨by omega, by omega⟩, kk _ _ ⟨rfl, w28, w30, w31, w32, ?_, v264, v27, vk, by rw [w2]; exact qq⟩⟩⟩
    · rintro _ _ ⟨rfl, rfl⟩
      rename_i v
      have ha : bt (fun c => v.1 30 c == 3) N < 128 := bt_128 h7
      have hb : bt (fun c => h.1 19 c == 3) N < 128 := bt_128 h7
      rw [b_andn _ ha _ hb]
      refine ⟨_, ct_lowest _ (xor_128 ha (Nat.lt_of_le_of_lt Nat.and_le_left ha)), ?_⟩
      rintro _ _ ⟨rfl, rfl⟩
      rename_i v
      refine ⟨⟨by omega, by omega⟩, kk _ _ ⟨rfl, ?_, ?_, ?_, ?_, ?_, ?_, ?_, ?_, by rw [show ∀ (y : Int), (j_up v 26 3 y).2 = v.2 from fun _ => rfl, w2]; exact qq⟩⟩
      · rw [up_ne (by decide)]; exact w28
      · rw [up_ne (by decide)]; exact w30
      · rw [up_ne (by decide)]; exact w31
      · rw [up_ne (by decide)]; exact w32
      · rw [up_eq, if_pos e]
        congr 1
        refine fst_congr (fun c hc => ?_)
        rw [Nat.testBit_xor, Nat.testBit_and, bt_tb, bt_tb, w30]
        have : (s0 h).2.1.1 c = h.1 19 c := bc_30 hc
        rw [this]
        cases decide (c < N) <;> cases (qF N (h.1 4) (s.1 + 1) (qH N p.1 p.2) c == 3) <;> cases (h.1 19 c == 3) <;> rfl
      · rw [up_out (by decide)]; exact v264
      · rw [up_ne (by decide)]; exact v27
      · intro k h1 h2 h3 h4 h5 h6 h7
        rw [up_ne h1]
        exact vk k h1 h2 h3 h4 h5 h6 h7
    · rw [if_neg e]; exact v263
  · rintro lv g ⟨rfl, g28, g30, g31, g32, g263, g264, g27, gk, g2⟩
    exact vc_X0_go_26_17_34 ⟨fun q => ⟨rfl, o, ho, g30, g32, g263, g264, gk, g2⟩, fun q => absurd q (by omega)⟩
