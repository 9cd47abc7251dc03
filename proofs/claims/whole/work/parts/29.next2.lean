/-! the next row: its contracts -/
theorem upr_upr {h : jH} {k : Nat} {f g : Nat → Int} : upr (upr h k f) k g = upr h k g := by
  refine j_ext (fun a j => ?_) rfl
  by_cases ha : a = k
  · subst ha; simp [upr]
  · simp [upr, ha]
theorem up2_swp {h : jH} {k a b : Nat} {f : Nat → Int} : j_up (j_up (upr h k f) k a (f b)) k b (f a) = upr h k (swp f a b) := by
  rw [up_upr, up_upr]
  congr 1
/-- the row behind k turned round, t places from either end -/
def prv (f : Nat → Int) (k n t j : Nat) : Int := if (k < j ∧ j < k + 1 + t) ∨ (n ≤ j + t ∧ j < n) then f (k + n - j) else f j
theorem prv_0 {f : Nat → Int} {k n : Nat} : prv f k n 0 = f := by
  funext j
  unfold prv
  rw [if_neg (by omega)]
theorem prv_s {f : Nat → Int} {k n t : Nat} (h : k + 1 + t < n - 1 - t) : swp (prv f k n t) (k + 1 + t) (n - 1 - t) = prv f k n (t + 1) := by
  funext j
  unfold swp
  by_cases e1 : j = n - 1 - t
  · subst e1
    rw [if_pos rfl]
    unfold prv
    rw [if_neg (by omega), if_pos (by omega)]
    congr 1
    omega
  · rw [if_neg e1]
    by_cases e2 : j = k + 1 + t
    · subst e2
      rw [if_pos rfl]
      unfold prv
      rw [if_neg (by omega), if_pos (by omega)]
      congr 1
      omega
    · rw [if_neg e2]
      unfold prv
      by_cases c : (k < j ∧ j < k + 1 + t) ∨ (n ≤ j + t ∧ j < n)
      · rw [if_pos c, if_pos (by omega)]
      · rw [if_neg c, if_neg (by omega)]
theorem prv_end {f : Nat → Int} {k n t : Nat} (h : n - 1 - t ≤ k + 1 + t) (ht : k + 1 + 2 * t ≤ n) (hk : k < n) : prv f k n t = rev f k n := by
  funext j
  unfold prv rev
  by_cases c : k < j ∧ j < n
  · rw [if_pos c]
    by_cases c2 : (k < j ∧ j < k + 1 + t) ∨ (n ≤ j + t ∧ j < n)
    · rw [if_pos c2]
    · rw [if_neg c2]
      congr 1
      omega
  · rw [if_neg c, if_neg (by omega)]
/-- a row's next one, or none -/
def NxP (h : jH) (A n : Nat) (r : Int) (h' : jH) : Prop := (nx n (h.1 A) = none ∧ r = 0 ∧ h' = h) ∨ (∃ g, nx n (h.1 A) = some g ∧ r = 1 ∧ h' = upr h A g)
theorem ct_nextRow_34 {h : jH} (n : Nat) (hn : n ≤ 7) : CT Sx M_X7_nextRow [jR 34, jI n] h (jPi (NxP h 34 n)) := by
  refine en_X7_nextRow_34 (fun G => vc_X7_nextRow_34_0 ⟨⟨by omega, by omega⟩, ?_⟩)
  -- the turn
  have L3 : ∀ (k i : Nat), dn (h.1 34) (n - 1) = some k → ab (h.1 34) (h.1 34 k) (n - 1) = i → ∀ (m t : Nat), n ≤ t + m → k + 1 + 2 * t ≤ n → WV Sx G M_X7_nextRow (jPi (NxP h 34 n)) 71 [jR 34, jI n, jI k, jI i, jI ((k + 1 + t : Nat) : Int), jI ((n : Int) - 1 - t)] [] (upr h 34 (prv (swp (h.1 34) k i) k n t)) := by
    intro k i hk hi m
    obtain ⟨k1, k2, k3⟩ := dn_lt hk
    induction m with
    | zero =>
      intro t h1 h2
      refine vc_X7_nextRow_34_71 ⟨fun _ => ⟨_, rfl, Or.inr ⟨rev (swp (h.1 34) k i) k n, ?_, rfl, ?_⟩⟩, fun q => absurd q (by omega)⟩
      · unfold nx; rw [hk, Option.map_some, hi]
      · rw [prv_end (by omega) h2 (by omega)]
    | succ m ih =>
      intro t h1 h2
      refine vc_X7_nextRow_34_71 ⟨fun _ => ⟨_, rfl, Or.inr ⟨rev (swp (h.1 34) k i) k n, ?_, rfl, ?_⟩⟩, fun q => ?_⟩
      · unfold nx; rw [hk, Option.map_some, hi]
      · rw [prv_end (by omega) h2 (by omega)]
      · rw [show ((n : Int) - 1 - t) = ((n - 1 - t : Nat) : Int) by omega]
        refine ⟨_, ct_exchange_34 (k + 1 + t) (n - 1 - t) (by omega) (by omega), ?_⟩
        rintro _ rfl
        refine ⟨⟨by omega, by omega⟩, ⟨by omega, by omega⟩, ?_⟩
        rw [upr_same, upr_upr, prv_s (by omega)]
        rw [show ((n - 1 - t : Nat) : Int) + -1 = (n : Int) - 1 - ((t + 1 : Nat) : Int) by omega]
        exact ih (t + 1) (by omega) (by omega)
  -- the place above
  have L2 : ∀ (k : Nat), dn (h.1 34) (n - 1) = some k → ∀ i : Nat, k < i → i ≤ n - 1 → ab (h.1 34) (h.1 34 k) (n - 1) = ab (h.1 34) (h.1 34 k) i → WV Sx G M_X7_nextRow (jPi (NxP h 34 n)) 35 [jR 34, jI n, jI k, jI i, jU, jU] [] h := by
    intro k hk i
    obtain ⟨k1, k2, k3⟩ := dn_lt hk
    induction i with
    | zero => intro h1; omega
    | succ i ih =>
      intro h1 h2 h3
      refine vc_X7_nextRow_34_35 ⟨fun q => absurd q (by omega), fun _ => ⟨⟨by omega, by omega⟩, ⟨by omega, by omega⟩, ?_⟩⟩
      simp only [Int.toNat_natCast]
      simp only [ab] at h3
      refine ⟨fun e => ⟨_, ct_exchange_34 k (i + 1) (by omega) (by omega), ?_⟩, fun e => ⟨⟨by omega, by omega⟩, ?_⟩⟩
      · rintro _ rfl
        refine ⟨⟨by omega, by omega⟩, ⟨by omega, by omega⟩, ?_⟩
        rw [if_neg (by omega)] at h3
        have := L3 k (i + 1) hk h3 n 0 (by omega) (by omega)
        rw [prv_0] at this
        simpa using this
      · rw [if_pos (by omega)] at h3
        rw [show ((i + 1 : Nat) : Int) + -1 = (i : Int) by omega]
        refine ih ?_ (by omega) h3
        by_cases ek : k = i
        · subst ek; omega
        · omega
  -- the place
  have L1 : ∀ m : Nat, m ≤ n - 1 → dn (h.1 34) (n - 1) = dn (h.1 34) m → WV Sx G M_X7_nextRow (jPi (NxP h 34 n)) 4 [jR 34, jI n, jI ((m : Int) - 1), jU, jU, jU] [] h := by
    intro m
    induction m with
    | zero =>
      intro h1 h2
      refine vc_X7_nextRow_34_4 ⟨fun _ => ⟨fun q => absurd q (by omega), fun _ => ⟨_, rfl, Or.inl ⟨?_, rfl, rfl⟩⟩⟩, fun q => absurd q (by omega)⟩
      unfold nx
      rw [h2]
      rfl
    | succ m ih =>
      intro h1 h2
      rw [show ((m + 1 : Nat) : Int) - 1 = (m : Int) by omega]
      refine vc_X7_nextRow_34_4 ⟨fun q => absurd q (by omega), fun _ => ⟨⟨by omega, by omega⟩, ⟨by omega, by omega⟩, ⟨by omega, by omega⟩, ?_⟩⟩
      rw [show Int.toNat ((m : Int) + 1) = m + 1 by omega, Int.toNat_natCast]
      simp only [dn] at h2
      refine ⟨fun e => ⟨fun _ => ⟨⟨by omega, by omega⟩, ?_⟩, fun q => absurd q (by omega)⟩, fun e => ⟨⟨by omega, by omega⟩, ?_⟩⟩
      · rw [if_neg (by omega)] at h2
        rw [show (n : Int) - 1 = ((n - 1 : Nat) : Int) by omega]
        exact L2 m h2 (n - 1) (by omega) (Nat.le_refl _) rfl
      · rw [if_pos (by omega)] at h2
        exact ih (by omega) h2
  by_cases h0 : n = 0
  · subst h0
    refine vc_X7_nextRow_34_4 ⟨fun _ => ⟨fun q => absurd q (by omega), fun _ => ⟨_, rfl, Or.inl ⟨rfl, rfl, rfl⟩⟩⟩, fun q => absurd q (by omega)⟩
  · have := L1 (n - 1) (Nat.le_refl _) rfl
    rw [show ((n - 1 : Nat) : Int) - 1 = (n : Int) - 2 by omega] at this
    exact this
theorem ct_nextRow_40 {h : jH} (n : Nat) (hn : n ≤ 6) : CT Sx M_X7_nextRow [jR 40, jI n] h (jPi (NxP h 40 n)) := by
  refine en_X7_nextRow_40 (fun G => vc_X7_nextRow_40_0 ⟨⟨by omega, by omega⟩, ?_⟩)
  -- the turn
  have L3 : ∀ (k i : Nat), dn (h.1 40) (n - 1) = some k → ab (h.1 40) (h.1 40 k) (n - 1) = i → ∀ (m t : Nat), n ≤ t + m → k + 1 + 2 * t ≤ n → WV Sx G M_X7_nextRow (jPi (NxP h 40 n)) 71 [jR 40, jI n, jI k, jI i, jI ((k + 1 + t : Nat) : Int), jI ((n : Int) - 1 - t)] [] (upr h 40 (prv (swp (h.1 40) k i) k n t)) := by
    intro k i hk hi m
    obtain ⟨k1, k2, k3⟩ := dn_lt hk
    induction m with
    | zero =>
      intro t h1 h2
      refine vc_X7_nextRow_40_71 ⟨fun _ => ⟨_, rfl, Or.inr ⟨rev (swp (h.1 40) k i) k n, ?_, rfl, ?_⟩⟩, fun q => absurd q (by omega)⟩
      · unfold nx; rw [hk, Option.map_some, hi]
      · rw [prv_end (by omega) h2 (by omega)]
    | succ m ih =>
      intro t h1 h2
      refine vc_X7_nextRow_40_71 ⟨fun _ => ⟨_, rfl, Or.inr ⟨rev (swp (h.1 40) k i) k n, ?_, rfl, ?_⟩⟩, fun q => ?_⟩
      · unfold nx; rw [hk, Option.map_some, hi]
      · rw [prv_end (by omega) h2 (by omega)]
      · rw [show ((n : Int) - 1 - t) = ((n - 1 - t : Nat) : Int) by omega]
        refine ⟨_, ct_exchange_40 (k + 1 + t) (n - 1 - t) (by omega) (by omega), ?_⟩
        rintro _ rfl
        refine ⟨⟨by omega, by omega⟩, ⟨by omega, by omega⟩, ?_⟩
        rw [upr_same, upr_upr, prv_s (by omega)]
        rw [show ((n - 1 - t : Nat) : Int) + -1 = (n : Int) - 1 - ((t + 1 : Nat) : Int) by omega]
        exact ih (t + 1) (by omega) (by omega)
  -- the place above
  have L2 : ∀ (k : Nat), dn (h.1 40) (n - 1) = some k → ∀ i : Nat, k < i → i ≤ n - 1 → ab (h.1 40) (h.1 40 k) (n - 1) = ab (h.1 40) (h.1 40 k) i → WV Sx G M_X7_nextRow (jPi (NxP h 40 n)) 35 [jR 40, jI n, jI k, jI i, jU, jU] [] h := by
    intro k hk i
    obtain ⟨k1, k2, k3⟩ := dn_lt hk
    induction i with
    | zero => intro h1; omega
    | succ i ih =>
      intro h1 h2 h3
      refine vc_X7_nextRow_40_35 ⟨fun q => absurd q (by omega), fun _ => ⟨⟨by omega, by omega⟩, ⟨by omega, by omega⟩, ?_⟩⟩
      simp only [Int.toNat_natCast]
      simp only [ab] at h3
      refine ⟨fun e => ⟨_, ct_exchange_40 k (i + 1) (by omega) (by omega), ?_⟩, fun e => ⟨⟨by omega, by omega⟩, ?_⟩⟩
      · rintro _ rfl
        refine ⟨⟨by omega, by omega⟩, ⟨by omega, by omega⟩, ?_⟩
        rw [if_neg (by omega)] at h3
        have := L3 k (i + 1) hk h3 n 0 (by omega) (by omega)
        rw [prv_0] at this
        simpa using this
      · rw [if_pos (by omega)] at h3
        rw [show ((i + 1 : Nat) : Int) + -1 = (i : Int) by omega]
        refine ih ?_ (by omega) h3
        by_cases ek : k = i
        · subst ek; omega
        · omega
  -- the place
  have L1 : ∀ m : Nat, m ≤ n - 1 → dn (h.1 40) (n - 1) = dn (h.1 40) m → WV Sx G M_X7_nextRow (jPi (NxP h 40 n)) 4 [jR 40, jI n, jI ((m : Int) - 1), jU, jU, jU] [] h := by
    intro m
    induction m with
    | zero =>
      intro h1 h2
      refine vc_X7_nextRow_40_4 ⟨fun _ => ⟨fun q => absurd q (by omega), fun _ => ⟨_, rfl, Or.inl ⟨?_, rfl, rfl⟩⟩⟩, fun q => absurd q (by omega)⟩
      unfold nx
      rw [h2]
      rfl
    | succ m ih =>
      intro h1 h2
      rw [show ((m + 1 : Nat) : Int) - 1 = (m : Int) by omega]
      refine vc_X7_nextRow_40_4 ⟨fun q => absurd q (by omega), fun _ => ⟨⟨by omega, by omega⟩, ⟨by omega, by omega⟩, ⟨by omega, by omega⟩, ?_⟩⟩
      rw [show Int.toNat ((m : Int) + 1) = m + 1 by omega, Int.toNat_natCast]
      simp only [dn] at h2
      refine ⟨fun e => ⟨fun _ => ⟨⟨by omega, by omega⟩, ?_⟩, fun q => absurd q (by omega)⟩, fun e => ⟨⟨by omega, by omega⟩, ?_⟩⟩
      · rw [if_neg (by omega)] at h2
        rw [show (n : Int) - 1 = ((n - 1 : Nat) : Int) by omega]
        exact L2 m h2 (n - 1) (by omega) (Nat.le_refl _) rfl
      · rw [if_pos (by omega)] at h2
        exact ih (by omega) h2
  by_cases h0 : n = 0
  · subst h0
    refine vc_X7_nextRow_40_4 ⟨fun _ => ⟨fun q => absurd q (by omega), fun _ => ⟨_, rfl, Or.inl ⟨rfl, rfl, rfl⟩⟩⟩, fun q => absurd q (by omega)⟩
  · have := L1 (n - 1) (Nat.le_refl _) rfl
    rw [show ((n - 1 : Nat) : Int) - 1 = (n : Int) - 2 by omega] at this
    exact this
theorem cm_nextRow {h : jH} (n : Nat) (hn : n ≤ 7) : CT Sm M_X8_nextRow [jR 0, jR 11, jI n] h (jPi (NxP h 11 n)) := by
  refine en_X8_nextRow_0_11 (fun G => vc_X8_nextRow_0_11_0 ⟨⟨by omega, by omega⟩, ?_⟩)
  have L3 : ∀ (k i : Nat) (x5 : Int), dn (h.1 11) (n - 1) = some k → ab (h.1 11) (h.1 11 k) (n - 1) = i → ∀ (m t : Nat) (u : jV), n ≤ t + m → k + 1 + 2 * t ≤ n → WV Sm G M_X8_nextRow (jPi (NxP h 11 n)) 80 [jR 0, jR 11, jI n, jI k, jI i, jI x5, jI ((k + 1 + t : Nat) : Int), jI ((n : Int) - 1 - t), u] [] (upr h 11 (prv (swp (h.1 11) k i) k n t)) := by
    intro k i x5 hk hi m
    obtain ⟨k1, k2, k3⟩ := dn_lt hk
    induction m with
    | zero =>
      intro t u h1 h2
      refine vc_X8_nextRow_0_11_80 ⟨fun _ => ⟨_, rfl, Or.inr ⟨rev (swp (h.1 11) k i) k n, ?_, rfl, ?_⟩⟩, fun q => absurd q (by omega)⟩
      · unfold nx; rw [hk, Option.map_some, hi]
      · rw [prv_end (by omega) h2 (by omega)]
    | succ m ih =>
      intro t u h1 h2
      refine vc_X8_nextRow_0_11_80 ⟨fun _ => ⟨_, rfl, Or.inr ⟨rev (swp (h.1 11) k i) k n, ?_, rfl, ?_⟩⟩, fun q => ⟨⟨by omega, by omega⟩, ⟨by omega, by omega⟩, ⟨by omega, by omega⟩, ⟨by omega, by omega⟩, ?_⟩⟩
      · unfold nx; rw [hk, Option.map_some, hi]
      · rw [prv_end (by omega) h2 (by omega)]
      · rw [show ((n : Int) - 1 - t) = ((n - 1 - t : Nat) : Int) by omega]
        rw [Int.toNat_natCast, Int.toNat_natCast, upr_same, up2_swp, prv_s (by omega)]
        rw [show ((n - 1 - t : Nat) : Int) + -1 = (n : Int) - 1 - ((t + 1 : Nat) : Int) by omega]
        exact ih (t + 1) _ (by omega) (by omega)
  have L2 : ∀ (k : Nat), dn (h.1 11) (n - 1) = some k → ∀ i : Nat, k < i → i ≤ n - 1 → ab (h.1 11) (h.1 11 k) (n - 1) = ab (h.1 11) (h.1 11 k) i → WV Sm G M_X8_nextRow (jPi (NxP h 11 n)) 36 [jR 0, jR 11, jI n, jI k, jI i, jU, jU, jU, jU] [] h := by
    intro k hk i
    obtain ⟨k1, k2, k3⟩ := dn_lt hk
    induction i with
    | zero => intro h1; omega
    | succ i ih =>
      intro h1 h2 h3
      refine vc_X8_nextRow_0_11_36 ⟨⟨by omega, by omega⟩, ⟨by omega, by omega⟩, ?_⟩
      simp only [Int.toNat_natCast]
      simp only [ab] at h3
      refine ⟨fun e => ⟨⟨by omega, by omega⟩, ⟨by omega, by omega⟩, ?_⟩, fun e => ⟨⟨by omega, by omega⟩, ?_⟩⟩
      · rw [if_neg (by omega)] at h3
        have := L3 k (i + 1) (h.1 11 k) hk h3 n 0 jU (by omega) (by omega)
        rw [prv_0, ← up2_swp, upr_id (fun _ => rfl)] at this
        simpa using this
      · rw [if_pos (by omega)] at h3
        rw [show ((i + 1 : Nat) : Int) + -1 = (i : Int) by omega]
        refine ih ?_ (by omega) h3
        by_cases ek : k = i
        · subst ek; omega
        · omega
  have L1 : ∀ m : Nat, m ≤ n - 1 → dn (h.1 11) (n - 1) = dn (h.1 11) m → WV Sm G M_X8_nextRow (jPi (NxP h 11 n)) 4 [jR 0, jR 11, jI n, jI ((m : Int) - 1), jU, jU, jU, jU, jU] [] h := by
    intro m
    induction m with
    | zero =>
      intro h1 h2
      refine vc_X8_nextRow_0_11_4 ⟨fun _ => ⟨fun q => absurd q (by omega), fun _ => ⟨_, rfl, Or.inl ⟨?_, rfl, rfl⟩⟩⟩, fun q => absurd q (by omega)⟩
      unfold nx
      rw [h2]
      rfl
    | succ m ih =>
      intro h1 h2
      rw [show ((m + 1 : Nat) : Int) - 1 = (m : Int) by omega]
      refine vc_X8_nextRow_0_11_4 ⟨fun q => absurd q (by omega), fun _ => ⟨⟨by omega, by omega⟩, ⟨by omega, by omega⟩, ⟨by omega, by omega⟩, ?_⟩⟩
      rw [show Int.toNat ((m : Int) + 1) = m + 1 by omega, Int.toNat_natCast]
      simp only [dn] at h2
      refine ⟨fun e => ⟨fun _ => ⟨⟨by omega, by omega⟩, ?_⟩, fun q => absurd q (by omega)⟩, fun e => ⟨⟨by omega, by omega⟩, ?_⟩⟩
      · rw [if_neg (by omega)] at h2
        rw [show (n : Int) - 1 = ((n - 1 : Nat) : Int) by omega]
        exact L2 m h2 (n - 1) (by omega) (Nat.le_refl _) rfl
      · rw [if_pos (by omega)] at h2
        exact ih (by omega) h2
  by_cases h0 : n = 0
  · subst h0
    refine vc_X8_nextRow_0_11_4 ⟨fun _ => ⟨fun q => absurd q (by omega), fun _ => ⟨_, rfl, Or.inl ⟨rfl, rfl, rfl⟩⟩⟩, fun q => absurd q (by omega)⟩
  · have := L1 (n - 1) (Nat.le_refl _) rfl
    rw [show ((n - 1 : Nat) : Int) - 1 = (n : Int) - 2 by omega] at this
    exact this
