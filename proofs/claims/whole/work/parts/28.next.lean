/-! the next row by numbers -/
/-- the last place at which the row rises, of the first n + 1 -/
def dn (f : Nat → Int) : Nat → Option Nat
  | 0 => none
  | n + 1 => if f (n + 1) < f n then dn f n else some n
/-- the last place, from i down, at which the row isn't below v -/
def ab (f : Nat → Int) (v : Int) : Nat → Nat
  | 0 => 0
  | i + 1 => if f (i + 1) < v then ab f v i else i + 1
/-- the row behind place k turned round -/
def rev (f : Nat → Int) (k n : Nat) (j : Nat) : Int := if k < j ∧ j < n then f (k + n - j) else f j
def nx (n : Nat) (f : Nat → Int) : Option (Nat → Int) := (dn f (n - 1)).map (fun k => rev (swp f k (ab f (f k) (n - 1))) k n)
theorem dn_lt {f : Nat → Int} {n k : Nat} (h : dn f n = some k) : k < n ∧ f k ≤ f (k + 1) ∧ ∀ j, k < j → j < n → f (j + 1) < f j := by
  induction n with
  | zero => simp [dn] at h
  | succ n ih =>
    simp only [dn] at h
    split at h
    · have := ih h
      refine ⟨by omega, this.2.1, fun j h1 h2 => ?_⟩
      by_cases e : j = n
      · rw [e]; assumption
      · exact this.2.2 j h1 (by omega)
    · cases h
      exact ⟨by omega, by omega, fun j h1 h2 => by omega⟩
theorem ab_le {f : Nat → Int} {v : Int} {i : Nat} : ab f v i ≤ i := by
  induction i with
  | zero => simp [ab]
  | succ i ih => simp only [ab]; split <;> omega
theorem ab_gt {f : Nat → Int} {v : Int} {i k : Nat} (hk : k < i) (h : v ≤ f (k + 1)) : k < ab f v i ∧ v ≤ f (ab f v i) := by
  induction i with
  | zero => omega
  | succ i ih =>
    simp only [ab]
    by_cases hc : f (i + 1) < v
    · rw [if_pos hc]
      by_cases e : k = i
      · subst e; omega
      · exact ih (by omega)
    · rw [if_neg hc]
      exact ⟨by omega, by omega⟩
theorem ab_hi {f : Nat → Int} {v : Int} {i j : Nat} (h1 : ab f v i < j) (h2 : j ≤ i) : f j < v := by
  induction i with
  | zero => omega
  | succ i ih =>
    simp only [ab] at h1
    by_cases hc : f (i + 1) < v
    · rw [if_pos hc] at h1
      by_cases e : j = i + 1
      · rw [e]; exact hc
      · exact ih h1 (by omega)
    · rw [if_neg hc] at h1
      omega
/-! counting over rows that are put otherwise -/
theorem cnt_set {p q : Nat → Bool} {n a : Nat} (ha : a < n) (h : ∀ k, k ≠ a → p k = q k) : cnt p n + (if q a then 1 else 0) = cnt q n + (if p a then 1 else 0) := by
  induction n with
  | zero => omega
  | succ n ih =>
    simp only [cnt]
    by_cases e : a = n
    · subst e
      rw [cnt_congr (p := p) (q := q) (fun k hk => h k (by omega))]
      omega
    · have := ih (by omega)
      rw [h n (fun z => e z.symm)]
      omega
theorem cnt_swp {P : Int → Bool} {f : Nat → Int} {n a b : Nat} (ha : a < n) (hb : b < n) : cnt (fun k => P (swp f a b k)) n = cnt (fun k => P (f k)) n := by
  by_cases e : a = b
  · subst e
    refine cnt_congr (fun k hk => ?_)
    unfold swp
    split
    · rename_i z; rw [z]
    · rfl
  · have h1 := cnt_set (p := fun k => P (swp f a b k)) (q := fun k => if k = a then P (f a) else P (swp f a b k)) ha (fun k hk => by simp [hk])
    have h2 := cnt_set (p := fun k => if k = a then P (f a) else P (swp f a b k)) (q := fun k => P (f k)) hb (fun k hk => by
      by_cases ea : k = a
      · subst ea; simp
      · simp [ea, swp, hk])
    have e1 : swp f a b a = f b := by simp [swp, e]
    have e2 : swp f a b b = f a := by simp [swp]
    have e3 : ¬ b = a := fun z => e z.symm
    simp only [e1, e2, e3, if_true, if_false] at h1 h2
    omega
theorem cnt_head {p : Nat → Bool} {m : Nat} : cnt p (m + 1) = (if p 0 then 1 else 0) + cnt (fun t => p (t + 1)) m := by
  induction m with
  | zero => simp [cnt]
  | succ m ih =>
    rw [cnt, ih, cnt]
    omega
theorem cnt_rev {p : Nat → Bool} {m : Nat} : cnt (fun t => p (m - 1 - t)) m = cnt p m := by
  induction m generalizing p with
  | zero => rfl
  | succ m ih =>
    rw [cnt_head (p := p), cnt]
    have e : cnt (fun t => p (m + 1 - 1 - t)) m = cnt (fun t => (fun s => p (s + 1)) (m - 1 - t)) m := by
      refine cnt_congr (fun t ht => ?_)
      show p (m + 1 - 1 - t) = p (m - 1 - t + 1)
      congr 1
      omega
    rw [e, ih (p := fun s => p (s + 1))]
    simp
    omega
theorem cnt_split {p : Nat → Bool} {a b : Nat} : cnt p (a + b) = cnt p a + cnt (fun t => p (a + t)) b := by
  induction b with
  | zero => simp [cnt]
  | succ b ih => rw [← Nat.add_assoc, cnt, ih, cnt]; omega
/-- of the places behind i how many hold more -/
def gtr (f : Nat → Int) (n i : Nat) : Nat := cnt (fun t => decide (f i < f (i + 1 + t))) (n - 1 - i)
def fct : Nat → Nat
  | 0 => 1
  | n + 1 => (n + 1) * fct n
/-- how many rows come behind this one, by its last d places -/
def mu (f : Nat → Int) (n : Nat) : Nat → Nat
  | 0 => 0
  | d + 1 => fct d * gtr f n (n - 1 - d) + mu f n d
theorem mu_lt {f : Nat → Int} {n d : Nat} (hd : d ≤ n) : mu f n d < fct d := by
  induction d with
  | zero => simp [mu, fct]
  | succ d ih =>
    have h1 := ih (by omega)
    have h2 : gtr f n (n - 1 - d) ≤ d := by
      have := cnt_le (fun t => decide (f (n - 1 - d) < f (n - 1 - d + 1 + t))) (n - 1 - (n - 1 - d))
      unfold gtr
      omega
    have h3 : fct d * gtr f n (n - 1 - d) ≤ fct d * d := Nat.mul_le_mul_left _ h2
    simp only [mu, fct]
    rw [Nat.succ_mul, Nat.mul_comm d (fct d)]
    omega
/-- rows without a number twice -/
def inj (f : Nat → Int) (n : Nat) : Prop := ∀ i j, i < n → j < n → f i = f j → i = j
theorem rev_cnt {P : Int → Bool} {f : Nat → Int} {k n : Nat} (hk : k < n) : cnt (fun t => P (rev f k n (k + 1 + t))) (n - 1 - k) = cnt (fun t => P (f (k + 1 + t))) (n - 1 - k) := by
  rw [← cnt_rev (p := fun t => P (f (k + 1 + t)))]
  refine cnt_congr (fun t ht => ?_)
  unfold rev
  rw [if_pos (by omega)]
  congr 2
  omega
theorem swp_cnt {P : Int → Bool} {f : Nat → Int} {i a b n : Nat} (ha : i ≤ a ∧ a < n) (hb : i ≤ b ∧ b < n) : cnt (fun t => P (swp f a b (i + t))) (n - i) = cnt (fun t => P (f (i + t))) (n - i) := by
  have h1 := cnt_swp (P := P) (f := f) (n := n) ha.2 hb.2
  rw [show n = i + (n - i) by omega, cnt_split, cnt_split] at h1
  have h2 : cnt (fun k => P (swp f a b k)) i = cnt (fun k => P (f k)) i := cnt_congr (fun k hk => by
    have : swp f a b k = f k := by
      unfold swp
      rw [if_neg (by omega), if_neg (by omega)]
    rw [this])
  omega
/-- behind nx fewer rows come -/
theorem nx_mu {f g : Nat → Int} {n : Nat} (hi : inj f n) (h : nx n f = some g) : mu g n n < mu f n n := by
  unfold nx at h
  cases hk : dn f (n - 1) with
  | none => rw [hk] at h; cases h
  | some k =>
    rw [hk] at h
    simp only [Option.map_some, Option.some.injEq] at h
    obtain ⟨k1, k2, k3⟩ := dn_lt hk
    have hin : ab f (f k) (n - 1) ≤ n - 1 := ab_le
    obtain ⟨i1, i2⟩ := ab_gt (f := f) (i := n - 1) k1 k2
    generalize ab f (f k) (n - 1) = i at h hin i1 i2
    subst h
    have fi : f k < f i := by
      have : f k ≠ f i := fun z => by have := hi k i (by omega) (by omega) z; omega
      omega
    have gk : rev (swp f k i) k n k = f i := by simp [rev, swp]; intro z; omega
    -- at k one less
    have c1 : gtr (rev (swp f k i) k n) n k < gtr f n k := by
      unfold gtr
      rw [gk, rev_cnt (P := fun z => decide (f i < z)) (by omega)]
      -- the swapped row behind k: f k in f i's place
      have e1 : ∀ t, t < n - 1 - k → (decide (f i < swp f k i (k + 1 + t)) = true → decide (f k < f (k + 1 + t)) = true) := by
        intro t ht hz
        rw [decide_eq_true_eq] at hz ⊢
        unfold swp at hz
        by_cases e : k + 1 + t = i
        · rw [if_pos e] at hz; omega
        · rw [if_neg e, if_neg (by omega)] at hz; omega
      refine cnt_strict (k := i - k - 1) e1 (by omega) ?_ ?_
      · refine decide_eq_false ?_
        unfold swp
        rw [if_pos (by omega)]
        omega
      · refine decide_eq_true ?_
        rw [show k + 1 + (i - k - 1) = i by omega]
        exact fi
    -- ahead of k as before
    have c2 : ∀ j, j < k → gtr (rev (swp f k i) k n) n j = gtr f n j := by
      intro j hj
      have ej : rev (swp f k i) k n j = f j := by
        unfold rev swp
        rw [if_neg (by omega), if_neg (by omega), if_neg (by omega)]
      unfold gtr
      rw [ej]
      rw [show n - 1 - j = (k - j) + (n - 1 - k) by omega, cnt_split, cnt_split]
      -- up to k, then behind it
      have a1 : cnt (fun t => decide (f j < rev (swp f k i) k n (j + 1 + (k - j + t)))) (n - 1 - k) = cnt (fun t => decide (f j < swp f k i (k + 1 + t))) (n - 1 - k) := by
        rw [← rev_cnt (P := fun z => decide (f j < z)) (f := swp f k i) (by omega)]
        refine cnt_congr (fun t ht => ?_)
        rw [show j + 1 + (k - j + t) = k + 1 + t by omega]
      have a2 := swp_cnt (P := fun z => decide (f j < z)) (f := f) (i := j + 1) (a := k) (b := i) (n := n) (by omega) (by omega)
      rw [show n - (j + 1) = (k - j) + (n - 1 - k) by omega, cnt_split, cnt_split] at a2
      have a3 : cnt (fun t => decide (f j < rev (swp f k i) k n (j + 1 + t))) (k - j) = cnt (fun t => decide (f j < swp f k i (j + 1 + t))) (k - j) := by
        refine cnt_congr (fun t ht => ?_)
        unfold rev
        rw [if_neg (by omega)]
      have a4 : cnt (fun t => decide (f j < swp f k i (j + 1 + (k - j + t)))) (n - 1 - k) = cnt (fun t => decide (f j < swp f k i (k + 1 + t))) (n - 1 - k) := by
        refine cnt_congr (fun t ht => ?_)
        rw [show j + 1 + (k - j + t) = k + 1 + t by omega]
      rw [a1, a3]
      omega
    have key : ∀ d, n - 1 - k + 1 ≤ d → d ≤ n → mu (rev (swp f k i) k n) n d < mu f n d := by
      intro d
      induction d with
      | zero => intro h1 h2; omega
      | succ d ih =>
        intro h1 h2
        simp only [mu]
        by_cases e : d = n - 1 - k
        · have b1 := mu_lt (f := rev (swp f k i) k n) (n := n) (d := d) (by omega)
          rw [show n - 1 - d = k by omega]
          have b2 : fct d * (gtr (rev (swp f k i) k n) n k + 1) ≤ fct d * gtr f n k := Nat.mul_le_mul_left _ c1
          rw [Nat.mul_add, Nat.mul_one] at b2
          omega
        · rw [c2 (n - 1 - d) (by omega)]
          have := ih (by omega) (by omega)
          omega
    exact key n (by omega) (Nat.le_refl _)
theorem nx_inj {f g : Nat → Int} {n : Nat} (hi : inj f n) (h : nx n f = some g) : inj g n := by
  unfold nx at h
  cases hk : dn f (n - 1) with
  | none => rw [hk] at h; cases h
  | some k =>
    rw [hk] at h
    simp only [Option.map_some, Option.some.injEq] at h
    obtain ⟨k1, -, -⟩ := dn_lt hk
    have hin : ab f (f k) (n - 1) ≤ n - 1 := ab_le
    generalize ab f (f k) (n - 1) = i at h hin
    subst h
    have s1 : inj (swp f k i) n := by
      intro a b ha hb hab
      have key : ∀ a, a < n → swp f k i a = f (if a = i then k else if a = k then i else a) := by
        intro a _
        unfold swp
        split
        · rfl
        · split <;> rfl
      rw [key a ha, key b hb] at hab
      have := hi _ _ (by split; omega; split <;> omega) (by split; omega; split <;> omega) hab
      split at this <;> split at this <;> (try split at this) <;> (try split at this) <;> omega
    intro a b ha hb hab
    have key : ∀ a, a < n → rev (swp f k i) k n a = swp f k i (if k < a then k + n - a else a) := by
      intro a ha
      unfold rev
      by_cases e : k < a
      · rw [if_pos ⟨e, ha⟩, if_pos e]
      · rw [if_neg (fun z => e z.1), if_neg e]
    rw [key a ha, key b hb] at hab
    have := s1 _ _ (by split <;> omega) (by split <;> omega) hab
    split at this <;> split at this <;> omega
/-- what holds of all numbers of a row holds of the next -/
theorem nx_all {P : Int → Prop} {f g : Nat → Int} {n : Nat} (hp : ∀ i, i < n → P (f i)) (h : nx n f = some g) : ∀ i, i < n → P (g i) := by
  unfold nx at h
  cases hk : dn f (n - 1) with
  | none => rw [hk] at h; cases h
  | some k =>
    rw [hk] at h
    simp only [Option.map_some, Option.some.injEq] at h
    obtain ⟨k1, -, -⟩ := dn_lt hk
    have hin : ab f (f k) (n - 1) ≤ n - 1 := ab_le
    generalize ab f (f k) (n - 1) = i at h hin
    subst h
    have s1 : ∀ j, j < n → P (swp f k i j) := by
      intro j hj
      unfold swp
      split
      · exact hp k (by omega)
      · split
        · exact hp i (by omega)
        · exact hp j hj
    intro j hj
    unfold rev
    split
    · exact s1 _ (by omega)
    · exact s1 j hj
