/-! in which row to plug: the search -/
theorem b_lb {f g : Int} (hf : 0 ≤ f ∧ f < 6) (hg : 0 ≤ g ∧ g < 6) : b_or (b_shl 1 f) (b_shl 1 g) = ((2 ^ f.toNat ||| 2 ^ g.toNat : Nat) : Int) := by
  obtain ⟨a, rfl⟩ : ∃ a : Nat, f = a := ⟨f.toNat, by omega⟩
  obtain ⟨b, rfl⟩ : ∃ b : Nat, g = b := ⟨g.toNat, by omega⟩
  rw [b_shl1 a (by omega), b_shl1 b (by omega), bn_or (Nat.pow_lt_pow_right (by decide) (by omega)) (Nat.pow_lt_pow_right (by decide) (by omega))]
  rfl
/-- the row f lists those of a kind below n -/
def wrow (p : Nat → Bool) (f : Nat → Int) (n : Nat) : Prop := ∀ d, d < n → p d = true → f (cnt p d) = (d : Nat)
theorem cnt_at {p : Nat → Bool} {n i : Nat} (h : i < cnt p n) : ∃ d, d < n ∧ p d = true ∧ cnt p d = i := by
  induction n with
  | zero => simp [cnt] at h
  | succ n ih =>
    simp only [cnt] at h
    by_cases hi : i < cnt p n
    · obtain ⟨d, h1, h2, h3⟩ := ih hi
      exact ⟨d, by omega, h2, h3⟩
    · by_cases hp : p n = true
      · rw [if_pos hp] at h
        exact ⟨n, by omega, hp, by omega⟩
      · rw [if_neg hp] at h
        omega
theorem wrow_rok {p : Nat → Bool} {f : Nat → Int} {N : Nat} (h : wrow p f N) : rok N (cnt p N) f := by
  refine ⟨fun i j hi hj hij => ?_, fun i hi => ?_⟩
  · obtain ⟨d, d1, d2, d3⟩ := cnt_at hi
    obtain ⟨e, e1, e2, e3⟩ := cnt_at hj
    have h1 := h d d1 d2
    have h2 := h e e1 e2
    rw [d3] at h1
    rw [e3] at h2
    have : d = e := by omega
    rw [← d3, ← e3, this]
  · obtain ⟨d, d1, d2, d3⟩ := cnt_at hi
    have h1 := h d d1 d2
    rw [d3] at h1
    omega
theorem cnt_lt_of {p : Nat → Bool} {d n : Nat} (hd : d < n) (hp : p d = true) : cnt p d < cnt p n := by
  have : cnt p (d + 1) ≤ cnt p n := by
    obtain ⟨m, rfl⟩ : ∃ m, n = d + 1 + m := ⟨n - (d + 1), by omega⟩
    rw [cnt_split (a := d + 1)]
    omega
  simp only [cnt, hp, if_true] at this
  omega
theorem wrow_uniq {p : Nat → Bool} {f g : Nat → Int} {N : Nat} (h : wrow p f N) (h2 : wrow p g N) {i : Nat} (hi : i < cnt p N) : f i = g i := by
  obtain ⟨d, d1, d2, d3⟩ := cnt_at hi
  have a := h d d1 d2
  have b := h2 d d1 d2
  rw [d3] at a b
  rw [a, b]
def PRP (h : jH) (N : Nat) (h' : jH) : Prop := (∀ k, k ≠ 33 → k ≠ 34 → k ≠ 36 → k ≠ 37 → h'.1 k = h.1 k) ∧ h'.2 = h.2 ∧ h'.1 33 3 = (cnt (fun c => h.1 19 c == 1) N : Nat) ∧ wrow (fun c => h.1 19 c == 1) (h'.1 34) N ∧ ∀ c, c < N → h'.1 36 c = (lb (h.1 5) (h.1 6) c : Nat) ∧ h'.1 37 c = if h.1 19 c = 2 then h.1 20 c else 0
theorem ct_prepare {h : jH} {N : Nat} (hN : h.1 2 2 = N) (h7 : N ≤ 7) (hk : lok (h.1 5) (h.1 6) N) : CT Sx M_X5_prepare [jR 33, jR 17] h (jPv (PRP h N)) := by
  refine en_X5_prepare_33_17 (fun G => vc_X5_prepare_33_17_0 ?_)
  refine jf_loop N (fun c lv g => lv = [jR 33, jR 17, jI (c : Nat)] ∧ (∀ k, k ≠ 33 → k ≠ 34 → k ≠ 36 → k ≠ 37 → g.1 k = h.1 k) ∧ g.2 = h.2 ∧ g.1 33 3 = (cnt (fun c => h.1 19 c == 1) c : Nat) ∧ wrow (fun c => h.1 19 c == 1) (g.1 34) c ∧ ∀ d, d < c → g.1 36 d = (lb (h.1 5) (h.1 6) d : Nat) ∧ g.1 37 d = if h.1 19 d = 2 then h.1 20 d else 0) ?_ ?_ 0 (Nat.zero_le _) _ _ ⟨rfl, fun k h1 h2 h3 h4 => up_ne h1, rfl, up_eq, fun d hd => by omega, fun d hd => by omega⟩
  · rintro c hc lv g ⟨rfl, gk, g2, g3, gw, gd⟩ k
    have e2 : g.1 2 2 = N := by rw [gk 2 (by decide) (by decide) (by decide) (by decide)]; exact hN
    have e19 := gk 19 (by decide) (by decide) (by decide) (by decide)
    have e20 := gk 20 (by decide) (by decide) (by decide) (by decide)
    have e5 := gk 5 (by decide) (by decide) (by decide) (by decide)
    have e6 := gk 6 (by decide) (by decide) (by decide) (by decide)
    have cl := cnt_le (fun c => h.1 19 c == 1) c
    refine vc_X5_prepare_33_17_7 ⟨fun q => absurd q (by omega), fun q => ⟨⟨by omega, by omega⟩, ?_⟩⟩
    rw [Int.toNat_natCast, e19, e20, e5, e6, g3, b_lb (hk c hc).1 (hk c hc).2]
    -- one behavior for both ways of its end
    have nowait : ∀ v : Int, v = (if h.1 19 c = 2 then h.1 20 c else 0) → ¬ h.1 19 c = 1 → WV Sx G M_X5_prepare (jPv (PRP h N)) 7 [jR 33, jR 17, jI ((c : Int) + 1)] [] (j_up (j_up g 36 c ((2 ^ (h.1 5 c).toNat ||| 2 ^ (h.1 6 c).toNat : Nat) : Int)) 37 c v) := by
      intro v hv hne
      refine k _ _ ⟨rfl, ?_, g2, ?_, ?_, ?_⟩
      · intro a h1 h2 h3 h4
        rw [up_ne h4, up_ne h3]
        exact gk a h1 h2 h3 h4
      · rw [up_ne (by decide), up_ne (by decide), g3]
        simp [cnt, hne]
      · intro d hd hp
        rw [up_ne (by decide), up_ne (by decide)]
        refine gw d ?_ hp
        have : d ≠ c := fun z => by rw [z] at hp; simp at hp; exact hne hp
        omega
      · intro d hd
        by_cases ed : d = c
        · subst ed
          rw [up_ne (by decide), up_eq, up_eq]
          exact ⟨rfl, hv⟩
        · rw [up_ne (by decide), up_out ed, up_out ed, up_ne (by decide)]
          exact gd d (by omega)
    have wait : h.1 19 c = 1 → WV Sx G M_X5_prepare (jPv (PRP h N)) 7 [jR 33, jR 17, jI ((c : Int) + 1)] [] (j_up (j_up (j_up (j_up g 36 c ((2 ^ (h.1 5 c).toNat ||| 2 ^ (h.1 6 c).toNat : Nat) : Int)) 37 c 0) 34 (Int.toNat ((cnt (fun c => h.1 19 c == 1) c : Nat) : Int)) c) 33 3 (((cnt (fun c => h.1 19 c == 1) c : Nat) : Int) + 1)) := by
      intro he
      rw [Int.toNat_natCast]
      refine k _ _ ⟨rfl, ?_, g2, ?_, ?_, ?_⟩
      · intro a h1 h2 h3 h4
        rw [up_ne h1, up_ne h2, up_ne h4, up_ne h3]
        exact gk a h1 h2 h3 h4
      · rw [up_eq]
        simp [cnt, he]
      · intro d hd hp
        rw [up_ne (by decide)]
        by_cases ed : d = c
        · subst ed; rw [up_eq]
        · have : cnt (fun c => h.1 19 c == 1) d ≠ cnt (fun c => h.1 19 c == 1) c := by
            have := cnt_lt_of (p := fun c => h.1 19 c == 1) (d := d) (n := c) (by omega) hp
            omega
          rw [up_out this, up_ne (by decide), up_ne (by decide)]
          exact gw d (by omega) hp
      · intro d hd
        by_cases ed : d = c
        · subst ed
          rw [up_ne (by decide), up_ne (by decide), up_ne (by decide), up_eq, up_ne (by decide), up_ne (by decide), up_eq]
          refine ⟨rfl, ?_⟩
          rw [if_neg (by omega)]
        · rw [up_ne (by decide), up_ne (by decide), up_ne (by decide), up_out ed, up_ne (by decide), up_ne (by decide), up_out ed, up_ne (by decide)]
          exact gd d (by omega)
    refine ⟨fun e => ⟨fun e1 => absurd e1 (by omega), fun e1 => ⟨⟨by omega, by omega⟩, nowait _ (by rw [if_pos e]) e1⟩⟩, fun e => ⟨fun e1 => ⟨⟨by omega, by omega⟩, ⟨by omega, by omega⟩, ⟨by omega, by omega⟩, wait e1⟩, fun e1 => ⟨⟨by omega, by omega⟩, nowait _ (by rw [if_neg e]) e1⟩⟩⟩
  · rintro lv g ⟨rfl, gk, g2, g3, gw, gd⟩
    have e2 : g.1 2 2 = N := by rw [gk 2 (by decide) (by decide) (by decide) (by decide)]; exact hN
    exact vc_X5_prepare_33_17_7 ⟨fun q => ⟨rfl, gk, g2, g3, gw, gd⟩, fun q => absurd q (by omega)⟩
/-- ends of those who talk now -/
def e37 (h : jH) (c : Nat) : Int := if h.1 19 c = 2 then h.1 20 c else 0
/-- how long those of a row wait from now on -/
def TR (h : jH) (N : Nat) (f : Nat → Int) : Int := (tW N (h.1 5) (h.1 6) (h.1 7) (h.1 2 1) f (cnt (fun c => h.1 19 c == 1) N) (e37 h) 30 : Nat)
def FRP (h : jH) (n : Nat) (B : Int × (Nat → Int)) (h' : jH) : Prop := (∀ k, k ≠ 33 → k ≠ 34 → k ≠ 35 → k ≠ 36 → k ≠ 37 → k ≠ 38 → h'.1 k = h.1 k) ∧ h'.2 = h.2 ∧ h'.1 33 3 = n ∧ h'.1 33 4 = B.1 ∧ ∀ l, l < n → h'.1 35 l = B.2 l
theorem nx_rok {f g : Nat → Int} {N n : Nat} (h : rok N n f) (hx : nx n f = some g) : rok N n g := ⟨nx_inj h.1 hx, nx_all (P := fun z => 0 ≤ z ∧ z < N) h.2 hx⟩
theorem ct_findR {h : jH} {N : Nat} (hN : h.1 2 2 = N) (h7 : N ≤ 7) (hk : lok (h.1 5) (h.1 6) N) (hln : ∀ c, c < N → 1 ≤ h.1 7 c ∧ h.1 7 c ≤ 20) (hx : 1 ≤ h.1 2 1 ∧ h.1 2 1 ≤ 4) : CT Sx M_X5_find [jR 33, jR 17] h (jPv fun h' => ∃ (f0 b0 : Nat → Int), wrow (fun c => h.1 19 c == 1) f0 N ∧ FRP h (cnt (fun c => h.1 19 c == 1) N) (bgo (TR h N) (cnt (fun c => h.1 19 c == 1) N) 5040 f0 (2147483647, b0)) h') := by
  refine en_X5_find_33_17 (fun G => vc_X5_find_33_17_0 ⟨_, ct_prepare hN h7 hk, ?_⟩)
  rintro h1 ⟨pk, p2, p3, pw, pd⟩
  have nle := cnt_le (fun c => h.1 19 c == 1) N
  have hTR : ∀ f, TR h N f = (tW N (h.1 5) (h.1 6) (h.1 7) (h.1 2 1) f (cnt (fun c => h.1 19 c == 1) N) (e37 h) 30 : Nat) := fun _ => rfl
  generalize hn : cnt (fun c => h.1 19 c == 1) N = n at nle p3 hTR ⊢
  have r0 : rok N n (h1.1 34) := by rw [← hn]; exact wrow_rok pw
  have hm0 : mu (h1.1 34) n n < 5040 := Nat.lt_of_lt_of_le (mu_lt (Nat.le_refl _)) (fct_7 n (by omega))
  have tb : TR h N (h1.1 34) < 1000000 := by
    have := tW_le (N := N) (fr := h.1 5) (to := h.1 6) (ln := h.1 7) (x := h.1 2 1) (row := h1.1 34) (e := e37 h) (n := n) (m := 30)
    rw [hTR]
    omega
  obtain ⟨B, hBd, hB1⟩ : ∃ B, B = bgo (TR h N) n 5040 (h1.1 34) (2147483647, h1.1 35) ∧ bgo (TR h N) n 5040 (h1.1 34) (1000000, h1.1 35) = B := ⟨_, rfl, bgo_k (m := 5039) tb (by omega)⟩
  have main : ∀ (m : Nat) (f : Nat → Int) (t : Nat) (u : jV) (g : jH) (b : Int × (Nat → Int)), mu f n n < m → t + mu f n n < 5040 → rok N n f → g.1 34 = f → (∀ k, k ≠ 33 → k ≠ 34 → k ≠ 35 → k ≠ 36 → k ≠ 37 → k ≠ 38 → g.1 k = h.1 k) → g.1 36 = h1.1 36 → g.1 37 = h1.1 37 → g.2 = h.2 → g.1 33 3 = n → g.1 33 4 = b.1 → (∀ l, l < n → g.1 35 l = b.2 l) → bgo (TR h N) n m f b = B →
      WV Sx G M_X5_find (jPv fun h' => ∃ (f0 b0 : Nat → Int), wrow (fun c => h.1 19 c == 1) f0 N ∧ FRP h n (bgo (TR h N) n 5040 f0 (2147483647, b0)) h') 13 [jR 33, jR 17, jI (t : Nat), u] [] g := by
    intro m
    induction m with
    | zero => intro f t u g b z1; omega
    | succ m ih =>
      intro f t u g b z1 z2 hf gf gk g36 g37 g2 g3 gl gb hB
      have e2 : g.1 2 2 = N := by rw [gk 2 (by decide) (by decide) (by decide) (by decide) (by decide) (by decide)]; exact hN
      have ex : g.1 2 1 = h.1 2 1 := by rw [gk 2 (by decide) (by decide) (by decide) (by decide) (by decide) (by decide)]
      have e5 := gk 5 (by decide) (by decide) (by decide) (by decide) (by decide) (by decide)
      have e6 := gk 6 (by decide) (by decide) (by decide) (by decide) (by decide) (by decide)
      have e7 := gk 7 (by decide) (by decide) (by decide) (by decide) (by decide) (by decide)
      refine vc_X5_find_33_17_13 ⟨fun q => absurd q (by omega), fun _ => ⟨_, ct_waitsFor (N := N) (n := n) e2 h7 (by rw [e5, e6]; exact hk) g3 (by omega) (fun c hc => by rw [g36, e5, e6]; exact (pd c hc).1) (by rw [gf]; exact hf) (by rw [e7]; exact hln) (by rw [ex]; exact hx) _, ?_⟩⟩
      rintro r1 _ ⟨⟨ee, rfl⟩, w1, w2⟩
      have eT : tW N (g.1 5) (g.1 6) (g.1 7) (g.1 2 1) (g.1 34) n (g.1 37) 30 = tW N (h.1 5) (h.1 6) (h.1 7) (h.1 2 1) f n (e37 h) 30 := by
        rw [e5, e6, e7, ex, gf, g37]
        exact (tW_congr hf.2 (fun _ _ => rfl) (fun j hj => (pd j hj).2) 30).2
      rw [eT] at w1 w2
      have hT := hTR f
      rw [← hT] at w1 w2
      rw [gl] at w1 w2
      have q34 : (upr g 38 ee).1 34 = f := gf
      have q33 : (upr g 38 ee).1 33 3 = n := g3
      have q334 : (upr g 38 ee).1 33 4 = b.1 := gl
      have qk : ∀ k, k ≠ 33 → k ≠ 34 → k ≠ 35 → k ≠ 36 → k ≠ 37 → k ≠ 38 → (upr g 38 ee).1 k = h.1 k := fun k a1 a2 a3 a4 a5 a6 => by rw [upr_ne a6]; exact gk k a1 a2 a3 a4 a5 a6
      have q36 : (upr g 38 ee).1 36 = h1.1 36 := g36
      have q37 : (upr g 38 ee).1 37 = h1.1 37 := g37
      have qq2 : (upr g 38 ee).2 = h.2 := g2
      have qb : ∀ l, l < n → (upr g 38 ee).1 35 l = b.2 l := gb
      generalize upr g 38 ee = v at q34 q33 q334 qk q36 q37 qq2 qb ⊢
      rw [q33, q334]
      have step : ∀ (g3 : jH) (b3 : Int × (Nat → Int)) (u : jV), g3.1 34 = f → (∀ k, k ≠ 33 → k ≠ 34 → k ≠ 35 → k ≠ 36 → k ≠ 37 → k ≠ 38 → g3.1 k = h.1 k) → g3.1 36 = h1.1 36 → g3.1 37 = h1.1 37 → g3.2 = h.2 → g3.1 33 3 = n → g3.1 33 4 = b3.1 → (∀ l, l < n → g3.1 35 l = b3.2 l) → (if TR h N f < b.1 then (TR h N f, f) else b) = b3 →
          ∃ post : Int → jH → Prop, CT Sx M_X7_nextRow [jR 34, jI (n : Nat)] g3 (jPi post) ∧ ∀ (r3 : Int) (h4 : jH), post r3 h4 → ((r3 = 0 → (jPv fun h' => ∃ (f0 b0 : Nat → Int), wrow (fun c => h.1 19 c == 1) f0 N ∧ FRP h n (bgo (TR h N) n 5040 f0 (2147483647, b0)) h') none h4) ∧ (¬ r3 = 0 → (j_rg ((t : Int) + 1)) ∧ (WV Sx G M_X5_find (jPv fun h' => ∃ (f0 b0 : Nat → Int), wrow (fun c => h.1 19 c == 1) f0 N ∧ FRP h n (bgo (TR h N) n 5040 f0 (2147483647, b0)) h') 13 [jR 33, jR 17, jI ((t : Int) + 1), u] [] h4))) := by
        intro g3 b3 u q1 q2 q2a q2b q3 q3a q4 q5 q6
        refine ⟨_, ct_nextRow_34 n (by omega), ?_⟩
        intro r3 h4 hnx
        simp only [bgo] at hB
        rw [q6] at hB
        rcases hnx with ⟨n1, rfl, rfl⟩ | ⟨g', n1, rfl, rfl⟩
        · rw [q1] at n1
          rw [n1] at hB
          refine ⟨fun _ => ⟨rfl, h1.1 34, h1.1 35, pw, ?_⟩, fun q => absurd rfl q⟩
          rw [← hBd]
          refine ⟨q2, q3, q3a, ?_, ?_⟩
          · rw [q4, ← hB]
          · intro l hl
            rw [q5 l hl, ← hB]
        · rw [q1] at n1
          rw [n1] at hB
          have := nx_mu hf.1 n1
          refine ⟨fun q => absurd q (by decide), fun _ => ⟨⟨by omega, by omega⟩, ?_⟩⟩
          exact ih g' (t + 1) u (upr g3 34 g') b3 (by omega) (by omega) (nx_rok hf n1) upr_same (fun k a1 a2 a3 a4 a5 a6 => by rw [upr_ne a2]; exact q2 k a1 a2 a3 a4 a5 a6) (by rw [upr_ne (by decide)]; exact q2a) (by rw [upr_ne (by decide)]; exact q2b) q3 (by rw [upr_ne (by decide)]; exact q3a) (by rw [upr_ne (by decide)]; exact q4) (fun l hl => by rw [upr_ne (by decide)]; exact q5 l hl) hB
      refine ⟨fun e => step v b _ q34 qk q36 q37 qq2 q33 q334 qb (if_neg (fun z => by have := w1 z; omega)), fun e => ⟨by omega, by omega, ?_⟩⟩
      have hlt : TR h N f < b.1 := by
        by_cases z : TR h N f < b.1
        · exact z
        · have := w2 (by omega); omega
      have hr1 := w1 hlt
      rw [Int.toNat_natCast, hr1]
      refine step _ _ _ ?_ ?_ ?_ ?_ ?_ ?_ ?_ ?_ (if_pos hlt)
      · rw [cp_ne (by decide), up_ne (by decide)]; exact q34
      · intro k a1 a2 a3 a4 a5 a6
        rw [cp_ne a3, up_ne a1]
        exact qk k a1 a2 a3 a4 a5 a6
      · rw [cp_ne (by decide), up_ne (by decide)]; exact q36
      · rw [cp_ne (by decide), up_ne (by decide)]; exact q37
      · exact qq2
      · rw [cp_ne (by decide), up_out (by decide)]; exact q33
      · rw [cp_ne (by decide), up_eq]
      · intro l hl
        rw [cp_in ⟨Nat.zero_le _, by omega⟩, up_ne (by decide), q34]
        simp
  refine main 5040 (h1.1 34) 0 jU _ (1000000, h1.1 35) hm0 (by omega) r0 ?_ ?_ ?_ ?_ p2 ?_ ?_ ?_ hB1
  · rw [up_ne (by decide)]
  · intro k a1 a2 a3 a4 a5 a6
    rw [up_ne a1]
    exact pk k a1 a2 a4 a5
  · rw [up_ne (by decide)]
  · rw [up_ne (by decide)]
  · rw [up_out (by decide)]; exact p3
  · rw [up_eq]
  · intro l hl
    rw [up_ne (by decide)]
