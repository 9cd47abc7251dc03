/-! what is alike on the calls that there are is answered alike -/
section
variable {N : Nat} {fr to ln fl fr2 to2 ln2 fl2 : Nat → Int} {x : Int}
theorem sh_cg (hf : ∀ c, c < N → fr c = fr2 c) (ht : ∀ c, c < N → to c = to2 c) {a b : Nat} (ha : a < N) (hb : b < N) : sh fr to a b = sh fr2 to2 a b := by
  unfold sh
  rw [hf a ha, hf b hb, ht a ha, ht b hb]
theorem lfree_cg (hf : ∀ c, c < N → fr c = fr2 c) (ht : ∀ c, c < N → to c = to2 c) {t c : Nat} (hc : c < N) : lfree fr to N t c = lfree fr2 to2 N t c := by
  unfold lfree
  exact allb_congr (fun k hk => by rw [sh_cg hf ht hc hk])
theorem bt_hw {hw hw2 : Nat → Int} {v : Int} (h : ∀ c, c < N → hw c = hw2 c) : bt (fun k => hw k == v) N = bt (fun k => hw2 k == v) N := bt_congr (fun k hk => by rw [h k hk])
theorem cnt_hw {hw hw2 : Nat → Int} {v : Int} (h : ∀ c, c < N → hw c = hw2 c) : cnt (fun k => hw k == v) N = cnt (fun k => hw2 k == v) N := cnt_congr (fun k hk => by rw [h k hk])
theorem canp_cg (hf : ∀ c, c < N → fr c = fr2 c) (ht : ∀ c, c < N → to c = to2 c) {hw hw2 : Nat → Int} (h : ∀ c, c < N → hw c = hw2 c) {c : Nat} (hc : c < N) : canp N fr to x hw c = canp N fr2 to2 x hw2 c := by
  unfold canp
  rw [h c hc, cnt_hw h, bt_hw h, lfree_cg hf ht hc]
/-- two days' states tell the same -/
def SR (N : Nat) (s s2 : jD) : Prop := ∀ c, c < N → s.1 c = s2.1 c ∧ (s.1 c = 2 → s.2 c = s2.2 c)
theorem pl1_cg (hf : ∀ c, c < N → fr c = fr2 c) (ht : ∀ c, c < N → to c = to2 c) (hl : ∀ c, c < N → ln c = ln2 c) {s s2 : jD} (h : SR N s s2) {c : Nat} (hc : c < N) : SR N (pl1 N fr to ln x s c) (pl1 N fr2 to2 ln2 x s2 c) := by
  unfold pl1
  rw [canp_cg hf ht (fun k hk => (h k hk).1) hc]
  split
  · intro k hk
    dsimp only
    by_cases e : k = c
    · subst e; simp [hl k hk]
    · simp only [e, if_false]; exact h k hk
  · exact h
theorem plA_cg (hf : ∀ c, c < N → fr c = fr2 c) (ht : ∀ c, c < N → to c = to2 c) (hl : ∀ c, c < N → ln c = ln2 c) {o o2 : Nat → Int} {n : Nat} (ho : ∀ i, i < n → o i = o2 i ∧ 0 ≤ o i ∧ o i < N) {s s2 : jD} (h : SR N s s2) : ∀ i, i ≤ n → SR N (plA N fr to ln x o s i) (plA N fr2 to2 ln2 x o2 s2 i) := by
  intro i
  induction i with
  | zero => intro _; exact h
  | succ i ih =>
    intro hi
    have := ho i (by omega)
    simp only [plA]
    rw [← this.1]
    exact pl1_cg hf ht hl (ih (by omega)) (by omega)
theorem qL_cg {s s2 : jD} (h : SR N s s2) {m : Int} (hfl : ∀ c, c < N → fl c = fl2 c) : SR N (qF N fl m (qH N s.1 s.2), qL N s.1 s.2) (qF N fl2 m (qH N s2.1 s2.2), qL N s2.1 s2.2) := by
  intro c hc
  have h1 := h c hc
  have hh : qH N s.1 s.2 c = qH N s2.1 s2.2 c := by
    unfold qH
    rw [← h1.1]
    by_cases e : s.1 c = 2
    · rw [h1.2 e]
    · rw [if_neg (by omega), if_neg (by omega)]
  refine ⟨?_, fun e => ?_⟩
  · dsimp only
    unfold qF
    rw [hh, hfl c hc]
  · dsimp only at e ⊢
    have e2 := (qH_2 (qF_2 e)).1
    unfold qL
    rw [← h1.1, h1.2 e2]
/-- days tell the same -/
def YR (N : Nat) (s s2 : jY) : Prop := s.1 = s2.1 ∧ SR N s.2.1 s2.2.1 ∧ ∀ c, c < N → s.2.2 c = s2.2.2 c
theorem dy_cg (hf : ∀ c, c < N → fr c = fr2 c) (ht : ∀ c, c < N → to c = to2 c) (hl : ∀ c, c < N → ln c = ln2 c) (hfl : ∀ c, c < N → fl c = fl2 c) {o o2 : Nat → Int} (ho : ∀ i, i < N → o i = o2 i ∧ 0 ≤ o i ∧ o i < N) {s s2 : jY} (h : YR N s s2) : YR N (dy N fr to ln fl x o s) (dy N fr2 to2 ln2 fl2 x o2 s2) := by
  have hp := plA_cg (x := x) hf ht hl ho h.2.1 N (Nat.le_refl _)
  refine ⟨?_, ?_, fun c hc => ?_⟩
  · simp only [dy, h.1]
  · simp only [dy, h.1]
    exact qL_cg hp hfl
  · simp only [dy]
    unfold qW
    rw [(hp c hc).1, h.2.2 c hc]
theorem dyN_cg (hf : ∀ c, c < N → fr c = fr2 c) (ht : ∀ c, c < N → to c = to2 c) (hl : ∀ c, c < N → ln c = ln2 c) (hfl : ∀ c, c < N → fl c = fl2 c) {o o2 : Nat → Int} (ho : ∀ i, i < N → o i = o2 i ∧ 0 ≤ o i ∧ o i < N) {s s2 : jY} (h : YR N s s2) (k : Nat) : YR N (dyN N fr to ln fl x o s k) (dyN N fr2 to2 ln2 fl2 x o2 s2 k) := by
  induction k with
  | zero => exact h
  | succ k ih => exact dy_cg hf ht hl hfl ho ih
theorem lks_cg (hf : ∀ c, c < N → fr c = fr2 c) (ht : ∀ c, c < N → to c = to2 c) {hw hw2 : Nat → Int} (h : ∀ c, c < N → hw c = hw2 c) : lks N fr to x hw = lks N fr2 to2 x hw2 := by
  unfold lks
  rw [cnt_hw h, bt_hw h]
  congr 2
  exact allb_congr (fun k hk => by rw [h k hk, lfree_cg hf ht hk])
theorem lkN_cg (hf : ∀ c, c < N → fr c = fr2 c) (ht : ∀ c, c < N → to c = to2 c) (hl : ∀ c, c < N → ln c = ln2 c) (hfl : ∀ c, c < N → fl c = fl2 c) {o o2 : Nat → Int} (ho : ∀ i, i < N → o i = o2 i ∧ 0 ≤ o i ∧ o i < N) {s s2 : jY} (h : YR N s s2) (k : Nat) : lkN N fr to ln fl x o s k = lkN N fr2 to2 ln2 fl2 x o2 s2 k := by
  induction k with
  | zero => rfl
  | succ k ih =>
    simp only [lkN]
    rw [ih, lks_cg hf ht (fun c hc => (plA_cg (x := x) hf ht hl ho (dyN_cg (x := x) hf ht hl hfl ho h k).2.1 N (Nat.le_refl _) c hc).1)]
theorem fdN_cg (hf : ∀ c, c < N → fr c = fr2 c) (ht : ∀ c, c < N → to c = to2 c) (hl : ∀ c, c < N → ln c = ln2 c) (hfl : ∀ c, c < N → fl c = fl2 c) {o o2 : Nat → Int} (ho : ∀ i, i < N → o i = o2 i ∧ 0 ≤ o i ∧ o i < N) {s s2 : jY} (h : YR N s s2) (k : Nat) : fdN N fr to ln fl x o s k = fdN N fr2 to2 ln2 fl2 x o2 s2 k := by
  induction k with
  | zero => rfl
  | succ k ih =>
    simp only [fdN]
    rw [ih]
    have hd := dyN_cg (x := x) hf ht hl hfl ho h (k + 1)
    rw [fst_congr (p := fun c => decide (c < N) && ((dyN N fr to ln fl x o s (k + 1)).2.1.1 c == 3 && !(s.2.1.1 c == 3))) (q := fun c => decide (c < N) && ((dyN N fr2 to2 ln2 fl2 x o2 s2 (k + 1)).2.1.1 c == 3 && !(s2.2.1.1 c == 3))) (fun c _ => by
      by_cases hc : c < N
      · rw [(hd.2.1 c hc).1, (h.2.1 c hc).1]
      · simp [hc])]
theorem brA_cg (hf : ∀ c, c < N → fr c = fr2 c) (ht : ∀ c, c < N → to c = to2 c) (hl : ∀ c, c < N → ln c = ln2 c) (hfl : ∀ c, c < N → fl c = fl2 c) {o o2 : Nat → Int} (ho : ∀ i, i < N → o i = o2 i ∧ 0 ≤ o i ∧ o i < N) {s s2 : jY} (h : YR N s s2) (k : Nat) (w : Int) : brA N fr to ln fl x o s k w = brA N fr2 to2 ln2 fl2 x o2 s2 k w := by
  unfold brA
  have hd := dyN_cg (x := x) hf ht hl hfl ho h k
  rw [fdN_cg hf ht hl hfl ho h, cnt_hw (fun c hc => (hd.2.1 c hc).1), sm_congr (q := fun _ => true) (fun c hc => ⟨rfl, fun _ => hd.2.2 c hc⟩)]
/-! rows of those who wait -/
theorem canE_cg (hf : ∀ c, c < N → fr c = fr2 c) (ht : ∀ c, c < N → to c = to2 c) {e : Nat → Int} {t : Int} {c : Nat} (hc : c < N) : canE N fr to x e t c = canE N fr2 to2 x e t c := by
  unfold canE
  rw [lfree_cg hf ht hc]
theorem paN_cg (hf : ∀ c, c < N → fr c = fr2 c) (ht : ∀ c, c < N → to c = to2 c) (hl : ∀ c, c < N → ln c = ln2 c) {row e : Nat → Int} {n : Nat} {t : Int} (hr : ∀ i, i < n → 0 ≤ row i ∧ row i < N) : ∀ i, i ≤ n → paN N fr to ln x t row e i = paN N fr2 to2 ln2 x t row e i := by
  intro i
  induction i with
  | zero => intro _; rfl
  | succ i ih =>
    intro hi
    have hc : (row i).toNat < N := by have := hr i (by omega); omega
    simp only [paN]
    rw [ih (by omega)]
    unfold pa1
    rw [canE_cg hf ht hc, hl _ hc]
theorem eK_cg (hf : ∀ c, c < N → fr c = fr2 c) (ht : ∀ c, c < N → to c = to2 c) (hl : ∀ c, c < N → ln c = ln2 c) {row e : Nat → Int} {n : Nat} (hr : ∀ i, i < n → 0 ≤ row i ∧ row i < N) (k : Nat) : eK N fr to ln x row n e k = eK N fr2 to2 ln2 x row n e k := by
  induction k with
  | zero => rfl
  | succ k ih =>
    simp only [eK]
    rw [ih, paN_cg hf ht hl hr n (Nat.le_refl _)]
theorem tW_cg (hf : ∀ c, c < N → fr c = fr2 c) (ht : ∀ c, c < N → to c = to2 c) (hl : ∀ c, c < N → ln c = ln2 c) {row e : Nat → Int} {n : Nat} (hr : ∀ i, i < n → 0 ≤ row i ∧ row i < N) (m : Nat) : tW N fr to ln x row n e m = tW N fr2 to2 ln2 x row n e m := by
  induction m with
  | zero => rfl
  | succ m ih =>
    simp only [tW]
    rw [ih]
    unfold wK
    rw [eK_cg hf ht hl hr, paN_cg hf ht hl hr n (Nat.le_refl _)]
/-! cuts -/
theorem cless_cg {lf lf2 : Nat → Int} {a b t : Nat} (ha : a &&& t = a) (hb : b &&& t = b) (h : ∀ c, c < N → t.testBit c = true → lf c = lf2 c) : cless N lf a b = cless N lf2 a b := by
  have key : ∀ a, a &&& t = a → sm (fun k => a.testBit k) lf N = sm (fun k => a.testBit k) lf2 N := by
    intro a ha
    refine sm_congr (fun k hk => ⟨rfl, fun e => h k hk ?_⟩)
    rw [← ha, Nat.testBit_and, Bool.and_eq_true] at e
    exact e.2
  unfold cless
  rw [key a ha, key b hb]
theorem lcut_cg (hf : ∀ c, c < N → fr c = fr2 c) (ht : ∀ c, c < N → to c = to2 c) {lf lf2 : Nat → Int} {t c : Nat} (hc : c < N) (h : ∀ c, c < N → t.testBit c = true → lf c = lf2 c) (m : Nat) : lcut N fr to lf x t c m = lcut N fr2 to2 lf2 x t c m := by
  induction m with
  | zero => rfl
  | succ m ih =>
    simp only [lcut]
    rw [ih, lfree_cg hf ht hc]
    by_cases e : m &&& t = m
    · have hb : lcut N fr2 to2 lf2 x t c m &&& t = lcut N fr2 to2 lf2 x t c m := by
        rcases lcut_sub (N := N) (fr := fr2) (to := to2) (lf := lf2) (x := x) (t := t) (c := c) m with q | q
        · rw [q, Nat.and_self]
        · exact q.2
      rw [cless_cg e hb h]
    · rw [if_neg (fun k => e k.1), if_neg (fun k => e k.1)]
/-! crossings -/
theorem crs_cg {ho ho2 : Nat → Int} (hk : lok fr to N) (hf : ∀ c, c < N → fr c = fr2 c) (ht : ∀ c, c < N → to c = to2 c) (ho_ : ∀ l, l < 6 → ho l = ho2 l) {a b : Nat} (ha : a < N) (hb : b < N) : crs ho fr to a b = crs ho2 fr2 to2 a b := by
  have k1 := hk a ha
  have k2 := hk b hb
  unfold crs btw
  rw [sh_cg hf ht ha hb, ← hf a ha, ← hf b hb, ← ht a ha, ← ht b hb, ho_ (fr a).toNat (by omega), ho_ (to a).toNat (by omega), ho_ (fr b).toNat (by omega), ho_ (to b).toNat (by omega)]
theorem tri_cg {P Q : Nat → Nat → Bool} {n : Nat} (h : ∀ c d, c < n → d < n → P c d = Q c d) : tri P n = tri Q n := by
  induction n with
  | zero => rfl
  | succ n ih =>
    simp only [tri]
    rw [ih (fun c d hc hd => h c d (by omega) (by omega)), cnt_congr (fun k hk => h n k (by omega) (by omega))]
end
/-! holes -/
theorem xs3_cg {ho ho2 fr to fr2 to2 : Nat → Int} {N L : Nat} (hk : lkL fr to N L) (h : ∀ l, l < L → ho l = ho2 l) (h2 : ∀ c, c < N → fr c = fr2 c ∧ to c = to2 c) : ∀ a, a ≤ L → xs3 ho fr to N L a = xs3 ho2 fr2 to2 N L a := by
  have k1 : ∀ a b, a < L → b < L → alls (swp ho a b) fr to N = alls (swp ho2 a b) fr2 to2 N := by
    intro a b ha hb
    refine alls_congr hk (Nat.le_refl _) (fun l hl => ?_) h2
    unfold swp
    rw [h a ha, h b hb, h l hl]
  have k2 : ∀ a, a < L → ∀ s b, b ≤ L → xs2 ho fr to N a s b = xs2 ho2 fr2 to2 N a s b := by
    intro a ha s b
    induction b with
    | zero => intro _; rfl
    | succ b ih =>
      intro hb
      simp only [xs2]
      rw [ih (by omega)]
      unfold xs1
      rw [k1 a b ha (by omega)]
  intro a
  induction a with
  | zero => intro _; simp only [xs3]; rw [alls_congr hk (Nat.le_refl _) h h2]
  | succ a ih =>
    intro ha
    simp only [xs3]
    rw [ih (by omega), k2 a (by omega) _ L (Nat.le_refl _)]
theorem dn_cg {f g : Nat → Int} {n : Nat} (h : ∀ j, j ≤ n → f j = g j) : dn f n = dn g n := by
  induction n with
  | zero => rfl
  | succ n ih => simp only [dn]; rw [ih (fun j hj => h j (by omega)), h (n + 1) (by omega), h n (by omega)]
theorem ab_cg {f g : Nat → Int} {v : Int} {n : Nat} (h : ∀ j, j ≤ n → f j = g j) : ab f v n = ab g v n := by
  induction n with
  | zero => rfl
  | succ n ih => simp only [ab]; rw [ih (fun j hj => h j (by omega)), h (n + 1) (by omega)]
theorem nx_cg {f g : Nat → Int} {n : Nat} (h : ∀ j, j < n → f j = g j) : (nx n f = none ∧ nx n g = none) ∨ ∃ f2 g2, nx n f = some f2 ∧ nx n g = some g2 ∧ ∀ j, j < n → f2 j = g2 j := by
  unfold nx
  by_cases h0 : n = 0
  · subst h0; exact Or.inl ⟨rfl, rfl⟩
  · rw [dn_cg (g := g) (fun j hj => h j (by omega))]
    cases e : dn g (n - 1) with
    | none => exact Or.inl ⟨rfl, rfl⟩
    | some k =>
      have hk := (dn_lt e).1
      refine Or.inr ⟨_, _, rfl, rfl, ?_⟩
      intro j hj
      dsimp only
      rw [ab_cg (f := f) (g := g) (n := n - 1) (fun j hj => h j (by omega)), h k (by omega)]
      have hab := ab_le (f := g) (v := g k) (i := n - 1)
      unfold rev swp
      by_cases c : k < j ∧ j < n
      · rw [if_pos c, if_pos c, h k (by omega), h _ (by omega : ab g (g k) (n - 1) < n), h (k + n - j) (by omega)]
      · rw [if_neg c, if_neg c, h k (by omega), h _ (by omega : ab g (g k) (n - 1) < n), h j hj]
/-- two searches, one counting K more than the other, find the same row -/
theorem bgo_cg {T T2 : (Nat → Int) → Int} {n : Nat} {K : Int} {W : (Nat → Int) → Prop} (hW : ∀ f g, W f → nx n f = some g → W g) (hT : ∀ f g, W f → (∀ j, j < n → f j = g j) → T2 g = T f + K) : ∀ (m : Nat) (f g : Nat → Int) (b b2 : Int × (Nat → Int)), W f → (∀ j, j < n → f j = g j) → b2.1 = b.1 + K → (∀ j, j < n → b.2 j = b2.2 j) → (bgo T2 n m g b2).1 = (bgo T n m f b).1 + K ∧ ∀ j, j < n → (bgo T n m f b).2 j = (bgo T2 n m g b2).2 j := by
  intro m
  induction m with
  | zero => intro f g b b2 _ _ h1 h2; exact ⟨h1, h2⟩
  | succ m ih =>
    intro f g b b2 hw hfg h1 h2
    have ht := hT f g hw hfg
    have hb : ∀ (c c2 : Int × (Nat → Int)), c = (if T f < b.1 then (T f, f) else b) → c2 = (if T2 g < b2.1 then (T2 g, g) else b2) → c2.1 = c.1 + K ∧ ∀ j, j < n → c.2 j = c2.2 j := by
      rintro c c2 rfl rfl
      by_cases e : T f < b.1
      · rw [if_pos e, if_pos (by omega)]
        exact ⟨ht, hfg⟩
      · rw [if_neg e, if_neg (by omega)]
        exact ⟨h1, h2⟩
    have hb := hb _ _ rfl rfl
    simp only [bgo]
    rcases nx_cg hfg with ⟨e1, e2⟩ | ⟨f2, g2, e1, e2, e3⟩
    · rw [e1, e2]; exact hb
    · rw [e1, e2]
      exact ih f2 g2 _ _ (hW f f2 hw e1) e3 hb.1 hb.2
theorem bgo_cg0 {T T2 : (Nat → Int) → Int} {n : Nat} {K : Int} {W : (Nat → Int) → Prop} (hW : ∀ f g, W f → nx n f = some g → W g) (hT : ∀ f g, W f → (∀ j, j < n → f j = g j) → T2 g = T f + K) (hs : ∀ f, W f → T f < 2147483647 ∧ T f + K < 2147483647) (m : Nat) (f g b0 b2 : Nat → Int) (hw : W f) (hfg : ∀ j, j < n → f j = g j) : (bgo T2 n (m + 1) g (2147483647, b2)).1 = (bgo T n (m + 1) f (2147483647, b0)).1 + K ∧ ∀ j, j < n → (bgo T n (m + 1) f (2147483647, b0)).2 j = (bgo T2 n (m + 1) g (2147483647, b2)).2 j := by
  have ht := hT f g hw hfg
  have h1 := hs f hw
  simp only [bgo]
  rw [if_pos (by omega), if_pos (by omega)]
  rcases nx_cg hfg with ⟨e1, e2⟩ | ⟨f2, g2, e1, e2, e3⟩
  · rw [e1, e2]; exact ⟨ht, hfg⟩
  · rw [e1, e2]
    exact bgo_cg hW hT m f2 g2 _ _ (hW f f2 hw e1) e3 ht hfg
