/-! loops, bits -/
theorem jf_loop {S : jS} {G : jG} {M : jM} {Q : jQ} {pc : Nat} (N : Nat) (P : Nat → List jV → jH → Prop) (step : ∀ c, c < N → ∀ lv h, P c lv h → (∀ lv' h', P (c + 1) lv' h' → WV S G M Q pc lv' [] h') → WV S G M Q pc lv [] h) (fin : ∀ lv h, P N lv h → WV S G M Q pc lv [] h) : ∀ c, c ≤ N → ∀ lv h, P c lv h → WV S G M Q pc lv [] h := by
  have key : ∀ n c, c + n = N → ∀ lv h, P c lv h → WV S G M Q pc lv [] h := by
    intro n
    induction n with
    | zero => intro c hc lv h hp; exact fin lv h (by rw [← hc]; exact hp)
    | succ n ih => intro c hc lv h hp; exact step c (by omega) lv h hp (fun lv' h' hp' => ih (c + 1) (by omega) lv' h' hp')
  intro c hc
  exact key (N - c) c (by omega)
/-- a loop whose locals and heap are functions of its counter -/
theorem jf_fun {S : jS} {G : jG} {M : jM} {Q : jQ} {pc : Nat} (N : Nat) (lvf : Nat → List jV) (hf : Nat → jH) (step : ∀ c, c < N → WV S G M Q pc (lvf (c + 1)) [] (hf (c + 1)) → WV S G M Q pc (lvf c) [] (hf c)) (fin : WV S G M Q pc (lvf N) [] (hf N)) : ∀ c, c ≤ N → WV S G M Q pc (lvf c) [] (hf c) := by
  intro c hc
  exact jf_loop N (fun c lv h => lv = lvf c ∧ h = hf c) (fun c hc lv h hp k => by
    obtain ⟨rfl, rfl⟩ := hp
    exact step c hc (k _ _ ⟨rfl, rfl⟩)) (fun lv h hp => by
    obtain ⟨rfl, rfl⟩ := hp
    exact fin) c hc _ _ ⟨rfl, rfl⟩
theorem CT.post {S : jS} {M : jM} {av : List jV} {h : jH} {p q : jQ} (hc : CT S M av h p) (hq : ∀ r h', p r h' → q r h') : CT S M av h q := by
  intro G sz hR hok
  have k := hc G sz hR hok
  intro a1 a2 a3 a4 a5 a6 a7 a8 a9 a10 a11 a12 a13
  obtain ⟨n, o, b1, b2, b3, ⟨⟨r, h', q1, q2⟩, q3⟩, q4⟩ := k a1 a2 a3 a4 a5 a6 a7 a8 a9 a10 a11 a12 a13
  exact ⟨n, o, b1, b2, b3, ⟨⟨r, h', hq r h' q1, q2⟩, q3⟩, q4⟩
theorem fa_and (a b : Nat) : nI a &&& nI b = nI (a &&& b) := by
  apply Int32.toBitVec_inj.1
  show BitVec.ofNat 32 a &&& BitVec.ofNat 32 b = BitVec.ofNat 32 (a &&& b)
  apply BitVec.eq_of_getLsbD_eq
  intro i hi
  simp [hi]
theorem fa_or (a b : Nat) : nI a ||| nI b = nI (a ||| b) := by
  apply Int32.toBitVec_inj.1
  show BitVec.ofNat 32 a ||| BitVec.ofNat 32 b = BitVec.ofNat 32 (a ||| b)
  apply BitVec.eq_of_getLsbD_eq
  intro i hi
  simp [hi]
theorem bn_and {a b : Nat} (ha : a < 2 ^ 31) : b_and a b = ((a &&& b : Nat) : Int) := by
  unfold b_and
  rw [Int32.ofInt_eq_ofNat, Int32.ofInt_eq_ofNat]
  show (nI a &&& nI b).toInt = _
  rw [fa_and, nI_toInt (Nat.lt_of_le_of_lt Nat.and_le_left ha)]
theorem bn_or {a b : Nat} (ha : a < 2 ^ 31) (hb : b < 2 ^ 31) : b_or a b = ((a ||| b : Nat) : Int) := by
  unfold b_or
  rw [Int32.ofInt_eq_ofNat, Int32.ofInt_eq_ofNat]
  show (nI a ||| nI b).toInt = _
  rw [fa_or, nI_toInt (Nat.or_lt_two_pow ha hb)]
/-- the numbers below n of a kind, as bits -/
def bt (p : Nat → Bool) : Nat → Nat
  | 0 => 0
  | n + 1 => bt p n + (if p n then 2 ^ n else 0)
theorem bt_lt (p : Nat → Bool) (n : Nat) : bt p n < 2 ^ n := by
  induction n with
  | zero => simp [bt]
  | succ n ih =>
    simp only [bt, Nat.pow_succ]
    split <;> omega
theorem bt_tb (p : Nat → Bool) (n k : Nat) : (bt p n).testBit k = (decide (k < n) && p k) := by
  induction n with
  | zero => simp [bt]
  | succ n ih =>
    have hlt := bt_lt p n
    simp only [bt]
    by_cases hp : p n = true
    · rw [if_pos hp, Nat.add_comm]
      by_cases hk : k = n
      · subst hk
        rw [Nat.testBit_two_pow_add_eq, Nat.testBit_lt_two_pow hlt]
        simp [hp]
      · by_cases hkn : k < n
        · rw [Nat.testBit_two_pow_add_gt hkn, ih]
          simp [hkn, Nat.lt_succ_of_lt hkn]
        · have : 2 ^ n + bt p n < 2 ^ k := by
            have h1 : 2 ^ (n + 1) ≤ 2 ^ k := Nat.pow_le_pow_right (by decide) (by omega)
            rw [Nat.pow_succ] at h1
            omega
          rw [Nat.testBit_lt_two_pow this]
          have : ¬ k < n + 1 := by omega
          simp [this]
    · rw [if_neg hp, Nat.add_zero, ih]
      by_cases hk : k = n
      · subst hk
        simp [hp]
      · have : (k < n + 1) ↔ (k < n) := by omega
        simp [this]
theorem bt_congr {p q : Nat → Bool} {n : Nat} (h : ∀ k, k < n → p k = q k) : bt p n = bt q n := by
  induction n with
  | zero => rfl
  | succ n ih => simp only [bt]; rw [ih (fun k hk => h k (by omega)), h n (by omega)]
theorem bt_128 {p : Nat → Bool} {n : Nat} (h : n ≤ 7) : bt p n < 128 := Nat.lt_of_lt_of_le (bt_lt p n) (Nat.pow_le_pow_right (by decide) h : 2 ^ n ≤ 2 ^ 7)
theorem b_shl1 : ∀ c : Nat, c < 7 → b_shl 1 c = ((2 ^ c : Nat) : Int) := by decide +kernel
theorem bt_or {p : Nat → Bool} {c : Nat} (hc : c < 7) (hp : p c = true) : b_or (bt p c) (b_shl 1 c) = (bt p (c + 1) : Nat) := by
  have h1 := bt_lt p c
  have h2 : 2 ^ c < 2 ^ 31 := Nat.pow_lt_pow_right (by decide) (by omega)
  rw [b_shl1 c hc, bn_or (by omega) h2]
  congr 1
  simp only [bt, hp, if_true]
  rw [Nat.or_comm, Nat.add_comm]
  have := Nat.two_pow_add_eq_or_of_lt h1 1
  rw [Nat.mul_one] at this
  exact this.symm
theorem bt_or0 {p : Nat → Bool} {c : Nat} (hc : c ≤ 7) (hp : p c = false) : b_or (bt p c) 0 = (bt p (c + 1) : Nat) := by
  have h1 := bt_128 (p := p) hc
  rw [show (0 : Int) = ((0 : Nat) : Int) from rfl, bn_or (by omega) (by decide)]
  congr 1
  simp [bt, hp]
theorem b_has : ∀ s : Nat, s < 128 → ∀ k : Nat, k < 7 → (b_and (b_shr s k) 1 = if s.testBit k then 1 else 0) := by decide +kernel
/-- how many numbers below n are of a kind -/
def cnt (p : Nat → Bool) : Nat → Nat
  | 0 => 0
  | n + 1 => cnt p n + (if p n then 1 else 0)
theorem cnt_le (p : Nat → Bool) (n : Nat) : cnt p n ≤ n := by
  induction n with
  | zero => simp [cnt]
  | succ n ih => simp only [cnt]; split <;> omega
theorem cnt_congr {p q : Nat → Bool} {n : Nat} (h : ∀ k, k < n → p k = q k) : cnt p n = cnt q n := by
  induction n with
  | zero => rfl
  | succ n ih => simp only [cnt]; rw [ih (fun k hk => h k (by omega)), h n (by omega)]
theorem cnt_ext {p : Nat → Bool} {n m : Nat} (hnm : n ≤ m) (h : ∀ k, n ≤ k → p k = false) : cnt p m = cnt p n := by
  obtain ⟨d, rfl⟩ : ∃ d, m = n + d := ⟨m - n, by omega⟩
  clear hnm
  induction d with
  | zero => rfl
  | succ d ih => rw [← Nat.add_assoc]; simp only [cnt]; rw [ih, h (n + d) (by omega)]; simp
theorem cnt_bt {p : Nat → Bool} {n : Nat} (h : n ≤ 7) : cnt (fun k => (bt p n).testBit k) 7 = cnt p n := by
  rw [cnt_ext h (fun k hk => by rw [bt_tb]; simp; omega)]
  exact cnt_congr (fun k hk => by rw [bt_tb]; simp [hk])
