/-! holes: which two to change, the best row -/
def xs1 (ho fr to : Nat → Int) (N : Nat) (s : Int × Int) (a b : Nat) : Int × Int := if alls (swp ho a b) fr to N < s.1 then (alls (swp ho a b) fr to N, 10 * a + b) else s
/-- line a with those behind it, below b -/
def xs2 (ho fr to : Nat → Int) (N a : Nat) (s : Int × Int) : Nat → Int × Int
  | 0 => s
  | b + 1 => if b ≤ a then s else xs1 ho fr to N (xs2 ho fr to N a s b) a b
def xs3 (ho fr to : Nat → Int) (N L : Nat) : Nat → Int × Int
  | 0 => (alls ho fr to N, -9)
  | a + 1 => xs2 ho fr to N a (xs3 ho fr to N L a) L
theorem swp_swp {f : Nat → Int} {a b : Nat} : swp (swp f a b) a b = f := by
  funext j
  unfold swp
  by_cases e1 : j = b
  · subst e1
    by_cases e2 : a = j
    · subst e2; simp
    · simp [e2]
  · by_cases e2 : j = a
    · subst e2; simp [e1]
    · simp [e1, e2]
theorem xs2_le {ho fr to : Nat → Int} {N a b : Nat} {s : Int × Int} (h : b ≤ a + 1) : xs2 ho fr to N a s b = s := by
  cases b with
  | zero => rfl
  | succ b => simp only [xs2]; rw [if_pos (by omega)]
theorem hok_swp {ho : Nat → Int} {L a b : Nat} (h : hok ho L) (ha : a < L) (hb : b < L) : hok (swp ho a b) L := by
  intro l hl
  unfold swp
  split
  · exact h a ha
  · split
    · exact h b hb
    · exact h l hl
theorem ct_bestExchange {h : jH} {N L : Nat} (hN : h.1 2 2 = N) (h7 : N ≤ 7) (hL : h.1 2 0 = L) (hL6 : L ≤ 6) (ho : hok (h.1 18) L) (hk : lkL (h.1 5) (h.1 6) N L) : CT Sx M_X1_bestExchange [jR 39, jR 18] h (jPi fun r h' => r = (xs3 (h.1 18) (h.1 5) (h.1 6) N L L).2 ∧ (∀ k, k ≠ 40 → h'.1 k = h.1 k) ∧ h'.2 = h.2) := by
  have e0 : j_cp h 18 0 40 0 6 = upr h 40 (fun j => if j < 6 then h.1 18 j else h.1 40 j) := by
    refine j_ext (fun a j => ?_) rfl
    by_cases ha : a = 40
    · subst ha; simp [j_cp, upr]
    · simp [j_cp, upr, ha]
  have hr : ∀ l, l < L → (fun j => if j < 6 then h.1 18 j else h.1 40 j) l = h.1 18 l := fun l hl => by simp; omega
  generalize (fun j => if j < 6 then h.1 18 j else h.1 40 j) = r at e0 hr
  have hor : hok r L := fun l hl => by rw [hr l hl]; exact ho l hl
  have hsum : ∀ a b, a < L → b < L → alls (swp r a b) (h.1 5) (h.1 6) N = alls (swp (h.1 18) a b) (h.1 5) (h.1 6) N := fun a b ha hb => alls_congr hk (Nat.le_refl _) (fun l hl => by
    unfold swp
    split
    · exact hr a ha
    · split
      · exact hr b hb
      · exact hr l hl) (fun c hc => ⟨rfl, rfl⟩)
  refine en_X1_bestExchange_39_18 (fun G => vc_X1_bestExchange_39_18_0 ?_)
  rw [e0]
  have n2 : ∀ f, (upr h 40 f).1 2 2 = N := fun f => hN
  have n0 : ∀ f, (upr h 40 f).1 2 0 = L := fun f => hL
  refine ⟨_, ct_inAll_40 hL6 (n2 r) h7 hor hk, ?_⟩
  rintro _ _ ⟨rfl, rfl⟩
  have e1 : alls ((upr h 40 r).1 40) ((upr h 40 r).1 5) ((upr h 40 r).1 6) N = alls (h.1 18) (h.1 5) (h.1 6) N := alls_congr hk (Nat.le_refl _) (fun l hl => hr l hl) (fun c hc => ⟨rfl, rfl⟩)
  rw [e1]
  refine jf_loop L (fun a lv h' => h' = upr h 40 r ∧ ∃ u v, lv = [jR 39, jR 18, jI (xs3 (h.1 18) (h.1 5) (h.1 6) N L a).1, jI (xs3 (h.1 18) (h.1 5) (h.1 6) N L a).2, jI (a : Nat), u, v]) ?_ ?_ 0 (Nat.zero_le _) _ _ ⟨rfl, _, _, rfl⟩
  · rintro a ha lv h' ⟨rfl, u, v, rfl⟩ kk
    have e2 := n0 r
    refine vc_X1_bestExchange_39_18_27 ⟨fun q => absurd q (by omega), fun q => ⟨⟨by omega, by omega⟩, ?_⟩⟩
    simp only [xs3] at kk
    generalize xs3 (h.1 18) (h.1 5) (h.1 6) N L a = s at kk ⊢
    have inner : ∀ m b : Nat, b + m = L → a < b → ∀ v : jV, WV Sx G M_X1_bestExchange (jPi fun r h' => r = (xs3 (h.1 18) (h.1 5) (h.1 6) N L L).2 ∧ (∀ k, k ≠ 40 → h'.1 k = h.1 k) ∧ h'.2 = h.2) 45 [jR 39, jR 18, jI (xs2 (h.1 18) (h.1 5) (h.1 6) N a s b).1, jI (xs2 (h.1 18) (h.1 5) (h.1 6) N a s b).2, jI (a : Nat), jI (b : Nat), v] [] (upr h 40 r) := by
      intro m
      induction m with
      | zero =>
        intro b hb hab v
        have : b = L := by omega
        subst this
        exact vc_X1_bestExchange_39_18_45 ⟨fun _ => ⟨⟨by omega, by omega⟩, kk _ _ ⟨rfl, _, _, rfl⟩⟩, fun q => absurd q (by omega)⟩
      | succ m ih =>
        intro b hb hab v
        refine vc_X1_bestExchange_39_18_45 ⟨fun q => absurd q (by omega), fun _ => ⟨_, ct_exchange_40 a b (by omega) (by omega), ?_⟩⟩
        rintro _ rfl
        rw [upr_same, upr_upr]
        refine ⟨_, ct_inAll_40 hL6 (n2 _) h7 (hok_swp hor (by omega) (by omega)) hk, ?_⟩
        rintro _ _ ⟨rfl, rfl⟩
        refine ⟨_, ct_exchange_40 a b (by omega) (by omega), ?_⟩
        rintro _ rfl
        rw [upr_same, upr_upr, swp_swp]
        have e3 : alls (swp r a b) ((upr h 40 (swp r a b)).1 5) ((upr h 40 (swp r a b)).1 6) N = alls (swp (h.1 18) a b) (h.1 5) (h.1 6) N := hsum a b (by omega) (by omega)
        rw [e3]
        have nx2 := ih (b + 1) (by omega) (by omega)
        simp only [xs2] at nx2
        rw [if_neg (by omega)] at nx2
        simp only [xs1] at nx2
        refine ⟨fun e => ⟨⟨by omega, by omega⟩, ?_⟩, fun e => ⟨⟨by omega, by omega⟩, ⟨by omega, by omega⟩, ⟨by omega, by omega⟩, ?_⟩⟩
        · rw [if_neg (by omega)] at nx2
          exact nx2 _
        · rw [if_pos (by omega)] at nx2
          exact nx2 _
    have := inner (L - (a + 1)) (a + 1) (by omega) (by omega) v
    rw [xs2_le (by omega)] at this
    exact this
  · rintro lv h' ⟨rfl, u, v, rfl⟩
    have e2 := n0 r
    exact vc_X1_bestExchange_39_18_27 ⟨fun q => ⟨_, rfl, rfl, fun k hk => upr_ne hk, rfl⟩, fun q => absurd q (by omega)⟩
/-! the best of a row and all that come behind it -/
def bgo (T : (Nat → Int) → Int) (n : Nat) : Nat → (Nat → Int) → Int × (Nat → Int) → Int × (Nat → Int)
  | 0, _, b => b
  | m + 1, f, b => match nx n f with
    | none => if T f < b.1 then (T f, f) else b
    | some g => bgo T n m g (if T f < b.1 then (T f, f) else b)
/-- any bound above the first row's number serves -/
theorem bgo_k {T : (Nat → Int) → Int} {n m : Nat} {f b0 : Nat → Int} {K K2 : Int} (h : T f < K) (h2 : T f < K2) : bgo T n (m + 1) f (K, b0) = bgo T n (m + 1) f (K2, b0) := by
  simp only [bgo]
  rw [if_pos h, if_pos h2]
theorem bgo_m {T : (Nat → Int) → Int} {n : Nat} : ∀ {m m2 : Nat} {f : Nat → Int} {b : Int × (Nat → Int)}, inj f n → mu f n n < m → mu f n n < m2 → bgo T n m f b = bgo T n m2 f b := by
  intro m
  induction m with
  | zero => intro m2 f b hi h1; omega
  | succ m ih =>
    intro m2 f b hi h1 h2
    cases m2 with
    | zero => omega
    | succ m2 =>
      simp only [bgo]
      cases hx : nx n f with
      | none => rfl
      | some g =>
        have := nx_mu hi hx
        exact ih (nx_inj hi hx) (by omega) (by omega)
/-- what a search leaves: the least, the best row; nothing else is changed but rows of its own -/
def FHP (h : jH) (L : Nat) (B : Int × (Nat → Int)) (h' : jH) : Prop := (∀ k, k ≠ 39 → k ≠ 40 → k ≠ 41 → h'.1 k = h.1 k) ∧ h'.2 = h.2 ∧ h'.1 39 3 = B.1 ∧ ∀ l, l < L → h'.1 41 l = B.2 l
theorem fct_6 : ∀ L, L < 7 → fct L ≤ 720 := by decide
theorem fct_7 : ∀ L, L < 8 → fct L ≤ 5040 := by decide
theorem nx_hok {f g : Nat → Int} {L : Nat} (h : hok f L) (hx : nx L f = some g) : hok g L := nx_all (P := fun z => 0 ≤ z ∧ z < 6) h hx
theorem ct_findH {h : jH} {N L : Nat} (hN : h.1 2 2 = N) (h7 : N ≤ 7) (hL : h.1 2 0 = L) (hL6 : L ≤ 6) (hk : lkL (h.1 5) (h.1 6) N L) : CT Sx M_X1_find [jR 39] h (jPv fun h' => ∃ (f0 b0 : Nat → Int), (∀ l, l < L → f0 l = ((l : Nat) : Int)) ∧ FHP h L (bgo (fun f => alls f (h.1 5) (h.1 6) N) L 720 f0 (2147483647, b0)) h') := by
  refine en_X1_find_39 (fun G => vc_X1_find_39_0 ?_)
  refine jf_loop L (fun c lv g => ∃ f : Nat → Int, lv = [jR 39, jI (c : Nat), jU] ∧ g = upr h 40 f ∧ ∀ l, l < c → f l = ((l : Nat) : Int)) ?_ ?_ 0 (Nat.zero_le _) _ _ ⟨h.1 40, rfl, (upr_id (fun _ => rfl)).symm, fun l hl => by omega⟩
  · rintro c hc lv g ⟨f, rfl, rfl, hf⟩ k
    have e0 : (upr h 40 f).1 2 0 = L := hL
    refine vc_X1_find_39_2 ⟨fun q => absurd q (by omega), fun q => ⟨⟨by omega, by omega⟩, ⟨by omega, by omega⟩, k _ _ ⟨_, rfl, up_upr, fun l hl => ?_⟩⟩⟩
    rw [Int.toNat_natCast]
    by_cases e : l = c
    · simp [e]
    · simp only [e, if_false]
      exact hf l (by omega)
  · rintro lv g ⟨f0, rfl, rfl, hf0⟩
    have e0 : (upr h 40 f0).1 2 0 = L := hL
    refine vc_X1_find_39_2 ⟨fun _ => ?_, fun q => absurd q (by omega)⟩
    have i0 : inj f0 L := fun i j hi hj hij => by rw [hf0 i hi, hf0 j hj] at hij; omega
    have hm0 : mu f0 L L < 720 := Nat.lt_of_lt_of_le (mu_lt (Nat.le_refl _)) (fct_6 L (by omega))
    have ab := alls_bd (ho := f0) (fun l hl => by rw [hf0 l hl]; omega) hk (Nat.le_refl N)
    obtain ⟨B, hBd, hB1⟩ : ∃ B, B = bgo (fun f => alls f (h.1 5) (h.1 6) N) L 720 f0 (2147483647, h.1 41) ∧ bgo (fun f => alls f (h.1 5) (h.1 6) N) L 720 f0 (1000000, h.1 41) = B := ⟨_, rfl, bgo_k (m := 719) (by show alls f0 (h.1 5) (h.1 6) N < 1000000; omega) (by show alls f0 (h.1 5) (h.1 6) N < 2147483647; omega)⟩
    -- the rows, one behind another
    have main : ∀ (m : Nat) (f : Nat → Int) (t : Nat) (u : jV) (g : jH) (b : Int × (Nat → Int)), mu f L L < m → t + mu f L L < 720 → inj f L → hok f L → g.1 40 = f → (∀ k, k ≠ 39 → k ≠ 40 → k ≠ 41 → g.1 k = h.1 k) → g.2 = h.2 → g.1 39 3 = b.1 → (∀ l, l < L → g.1 41 l = b.2 l) → bgo (fun f => alls f (h.1 5) (h.1 6) N) L m f b = B →
        WV Sx G M_X1_find (jPv fun h' => ∃ (f0 b0 : Nat → Int), (∀ l, l < L → f0 l = ((l : Nat) : Int)) ∧ FHP h L (bgo (fun f => alls f (h.1 5) (h.1 6) N) L 720 f0 (2147483647, b0)) h') 34 [jR 39, jI (t : Nat), u] [] g := by
      intro m
      induction m with
      | zero => intro f t u g b h1; omega
      | succ m ih =>
        intro f t u g b h1 h2 hi hf gf gk g2 gl gb hB
        have e2 : g.1 2 2 = N := by rw [gk 2 (by decide) (by decide) (by decide)]; exact hN
        have eL : g.1 2 0 = L := by rw [gk 2 (by decide) (by decide) (by decide)]; exact hL
        have e5 : g.1 5 = h.1 5 := gk 5 (by decide) (by decide) (by decide)
        have e6 : g.1 6 = h.1 6 := gk 6 (by decide) (by decide) (by decide)
        refine vc_X1_find_39_34 ⟨fun q => absurd q (by omega), fun _ => ⟨_, ct_inAll_40 (L := L) hL6 e2 h7 (by rw [gf]; exact hf) (by rw [e5, e6]; exact hk), ?_⟩⟩
        rintro _ _ ⟨rfl, rfl⟩
        rename_i g
        rw [gf, e5, e6, eL, gl]
        -- the next row, from a world that has the best so far
        have step : ∀ (g3 : jH) (b3 : Int × (Nat → Int)) (u : jV), g3.1 40 = f → (∀ k, k ≠ 39 → k ≠ 40 → k ≠ 41 → g3.1 k = h.1 k) → g3.2 = h.2 → g3.1 39 3 = b3.1 → (∀ l, l < L → g3.1 41 l = b3.2 l) → (if alls f (h.1 5) (h.1 6) N < b.1 then (alls f (h.1 5) (h.1 6) N, f) else b) = b3 →
            ∃ post : Int → jH → Prop, CT Sx M_X7_nextRow [jR 40, jI (L : Nat)] g3 (jPi post) ∧ ∀ (r3 : Int) (h4 : jH), post r3 h4 → ((r3 = 0 → (jPv fun h' => ∃ (f0 b0 : Nat → Int), (∀ l, l < L → f0 l = ((l : Nat) : Int)) ∧ FHP h L (bgo (fun f => alls f (h.1 5) (h.1 6) N) L 720 f0 (2147483647, b0)) h') none h4) ∧ (¬ r3 = 0 → (j_rg ((t : Int) + 1)) ∧ (WV Sx G M_X1_find (jPv fun h' => ∃ (f0 b0 : Nat → Int), (∀ l, l < L → f0 l = ((l : Nat) : Int)) ∧ FHP h L (bgo (fun f => alls f (h.1 5) (h.1 6) N) L 720 f0 (2147483647, b0)) h') 34 [jR 39, jI ((t : Int) + 1), u] [] h4))) := by
          intro g3 b3 u q1 q2 q3 q4 q5 q6
          refine ⟨_, ct_nextRow_40 L hL6, ?_⟩
          intro r3 h4 hnx
          simp only [bgo] at hB
          rw [q6] at hB
          rcases hnx with ⟨n1, rfl, rfl⟩ | ⟨g', n1, rfl, rfl⟩
          · rw [q1] at n1
            rw [n1] at hB
            refine ⟨fun _ => ⟨rfl, f0, h.1 41, hf0, ?_⟩, fun q => absurd rfl q⟩
            rw [← hBd]
            refine ⟨q2, q3, ?_, ?_⟩
            · rw [q4, ← hB]
            · intro l hl
              rw [q5 l hl, ← hB]
          · rw [q1] at n1
            rw [n1] at hB
            have := nx_mu hi n1
            refine ⟨fun q => absurd q (by decide), fun _ => ⟨⟨by omega, by omega⟩, ?_⟩⟩
            exact ih g' (t + 1) u (upr g3 40 g') b3 (by omega) (by omega) (nx_inj hi n1) (nx_hok hf n1) upr_same (fun k h1 h2 h3 => by rw [upr_ne h2]; exact q2 k h1 h2 h3) q3 (by rw [upr_ne (by decide)]; exact q4) (fun l hl => by rw [upr_ne (by decide)]; exact q5 l hl) hB
        refine ⟨fun e => step g b _ gf gk g2 gl gb (if_neg (by omega)), fun e => ⟨by omega, by omega, ?_⟩⟩
        rw [Int.toNat_natCast]
        refine step _ _ _ ?_ ?_ ?_ ?_ ?_ (if_pos (by omega))
        · rw [cp_ne (by decide), up_ne (by decide)]; exact gf
        · intro k h1 h2 h3
          rw [cp_ne h3, up_ne h1]
          exact gk k h1 h2 h3
        · exact g2
        · rw [cp_ne (by decide), up_eq]
        · intro l hl
          rw [cp_in ⟨Nat.zero_le _, by omega⟩, up_ne (by decide), gf]
          simp
    refine main 720 f0 0 jU _ (1000000, h.1 41) hm0 (by omega) i0 (fun l hl => by rw [hf0 l hl]; omega) ?_ ?_ rfl ?_ ?_ hB1
    · rw [up_ne (by decide), upr_same]
    · intro k h1 h2 h3
      rw [up_ne h1, upr_ne h2]
    · rw [up_eq]
    · intro l hl
      rw [up_ne (by decide), upr_ne (by decide)]
