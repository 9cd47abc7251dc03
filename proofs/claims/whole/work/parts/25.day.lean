/-! a day by a rule -/
def ahead (key : Nat → Int) (a b : Nat) : Bool := decide (key a < key b) || (decide (key a = key b) && decide (a < b))
/-- how many of the first n are ahead of d -/
def rk (key : Nat → Int) (n d : Nat) : Nat := cnt (fun e => ahead key e d) n
theorem ahead_irr {key : Nat → Int} {a : Nat} : ahead key a a = false := by simp [ahead]
theorem ahead_iff {key : Nat → Int} {a b : Nat} : ahead key a b = true ↔ key a < key b ∨ (key a = key b ∧ a < b) := by simp [ahead]
theorem ahead_tr {key : Nat → Int} {a b c : Nat} (h1 : ahead key a b = true) (h2 : ahead key b c = true) : ahead key a c = true := by
  rw [ahead_iff] at *
  omega
theorem cnt_mono {p q : Nat → Bool} {n : Nat} (h : ∀ k, k < n → p k = true → q k = true) : cnt p n ≤ cnt q n := by
  induction n with
  | zero => simp [cnt]
  | succ n ih =>
    have h1 := ih (fun k hk => h k (by omega))
    have h2 := h n (by omega)
    simp only [cnt]
    split
    · rw [if_pos (h2 (by assumption))]; omega
    · split <;> omega
theorem cnt_strict {p q : Nat → Bool} {n k : Nat} (h : ∀ k, k < n → p k = true → q k = true) (hk : k < n) (h1 : p k = false) (h2 : q k = true) : cnt p n < cnt q n := by
  induction n with
  | zero => omega
  | succ n ih =>
    have h3 := h n (by omega)
    simp only [cnt]
    by_cases e : k = n
    · subst e
      have := cnt_mono (n := k) (fun j hj => h j (by omega))
      rw [h1, h2]
      simp
      omega
    · have := ih (fun k hk => h k (by omega)) (by omega)
      split
      · rw [if_pos (h3 (by assumption))]; omega
      · split <;> omega
theorem cnt_all {n : Nat} : cnt (fun _ => true) n = n := by
  induction n with
  | zero => rfl
  | succ n ih => simp [cnt, ih]
theorem rk_lt {key : Nat → Int} {n a b : Nat} (ha : a < n) (h : ahead key a b = true) : rk key n a < rk key n b :=
  cnt_strict (fun k _ hk => ahead_tr hk h) ha ahead_irr h
theorem rk_in {key : Nat → Int} {n d : Nat} (hd : d < n) : rk key n d < n := by
  have := cnt_strict (p := fun e => ahead key e d) (q := fun _ => true) (n := n) (fun _ _ _ => rfl) hd ahead_irr rfl
  rw [cnt_all] at this
  exact this
theorem rk_inj {key : Nat → Int} {n a b : Nat} (ha : a < n) (hb : b < n) (h : rk key n a = rk key n b) : a = b := by
  by_cases e : a = b
  · exact e
  · exfalso
    have : ahead key a b = true ∨ ahead key b a = true := by
      rw [ahead_iff, ahead_iff]
      omega
    rcases this with h1 | h1
    · have := rk_lt ha h1; omega
    · have := rk_lt hb h1; omega
theorem rk_s {key : Nat → Int} {n d : Nat} : rk key (n + 1) d = rk key n d + (if ahead key n d then 1 else 0) := rfl
/-- the row f holds the first n numbers in their order -/
def Ord (key : Nat → Int) (n : Nat) (f : Nat → Int) : Prop := ∀ i, i < n → ∃ d, d < n ∧ f i = (d : Nat) ∧ rk key n d = i
theorem Ord.at {key : Nat → Int} {n : Nat} {f : Nat → Int} (h : Ord key n f) {e : Nat} (he : e < n) : f (rk key n e) = (e : Nat) := by
  obtain ⟨d, h1, h2, h3⟩ := h _ (rk_in he)
  rw [h2, rk_inj h1 he h3]
theorem Ord.uniq {key : Nat → Int} {n : Nat} {f g : Nat → Int} (h : Ord key n f) (hg : ∀ d, d < n → g (rk key n d) = (d : Nat)) {i : Nat} (hi : i < n) : g i = f i := by
  obtain ⟨d, h1, h2, h3⟩ := h i hi
  rw [← h3, hg d h1, h3, h2]
theorem Ord.ins {key : Nat → Int} {c p : Nat} {f g : Nat → Int} (h : Ord key c f) (hp : p ≤ c) (g1 : ∀ i, i < p → g i = f i) (g2 : ∀ i, p < i → i ≤ c → g i = f (i - 1)) (g3 : ∀ i, p < i → i ≤ c → ∀ d : Nat, f (i - 1) = (d : Nat) → key c < key d) (g4 : p = 0 ∨ ∀ d : Nat, f (p - 1) = (d : Nat) → key d ≤ key c) (g5 : g p = (c : Nat)) : Ord key (c + 1) g := by
  -- those ahead of place p are not above c
  have low : ∀ d, d < c → rk key c d < p → key d ≤ key c := by
    intro d hd hr
    rcases g4 with e | g4
    · omega
    · obtain ⟨b, hb, hfb, hrb⟩ := h (p - 1) (by omega)
      have h1 := g4 b hfb
      by_cases hlt : key b < key d
      · have := rk_lt hb (b := d) (by rw [ahead_iff]; exact Or.inl hlt)
        omega
      · omega
  have high : ∀ d, d < c → p ≤ rk key c d → key c < key d := by
    intro d hd hr
    have hf := h.at hd
    have hin := rk_in (key := key) hd
    exact g3 (rk key c d + 1) (by omega) (by omega) d (by simpa using hf)
  intro i hi
  by_cases hip : i < p
  · obtain ⟨d, hd, hf, hr⟩ := h i (by omega)
    refine ⟨d, by omega, by rw [g1 i hip, hf], ?_⟩
    have := low d hd (by omega)
    rw [rk_s, hr, if_neg]
    · rfl
    · rw [ahead_iff]; omega
  · by_cases hpi : p < i
    · obtain ⟨d, hd, hf, hr⟩ := h (i - 1) (by omega)
      refine ⟨d, by omega, by rw [g2 i hpi (by omega), hf], ?_⟩
      have := high d hd (by omega)
      rw [rk_s, hr, if_pos (by rw [ahead_iff]; omega)]
      omega
    · have e : i = p := by omega
      subst e
      refine ⟨c, by omega, g5, ?_⟩
      rw [rk_s, if_neg (by rw [ahead_irr]; decide), Nat.add_zero]
      -- who is ahead of c: just those of a rank below i
      have key1 : ∀ e, e < c → (ahead key e c = decide (rk key c e < i)) := by
        intro e he
        by_cases hr : rk key c e < i
        · have := low e he hr
          rw [decide_eq_true hr, ahead_iff]
          omega
        · have := high e he (by omega)
          rw [decide_eq_false hr]
          cases ha : ahead key e c with
          | false => rfl
          | true => rw [ahead_iff] at ha; omega
      unfold rk
      rw [cnt_congr key1]
      -- as many numbers as ranks below i
      clear key1 g1 g2 g3 g4 g5 low high hip hpi
      rcases Nat.eq_zero_or_pos i with e0 | e0
      · subst e0
        rw [cnt_congr (q := fun _ => false) (fun k hk => by simp)]
        clear h hp hi
        induction c with
        | zero => rfl
        | succ c ih => simp [cnt, ih]
      · obtain ⟨b, hb, hfb, hrb⟩ := h (i - 1) (by omega)
        have e1 : cnt (fun e => decide (rk key c e < i)) c = cnt (fun e => ahead key e b || e == b) c := by
          refine cnt_congr (fun e he => ?_)
          by_cases eb : e = b
          · subst eb; simp; omega
          · have hne : (e == b) = false := by simpa using eb
            rw [hne, Bool.or_false]
            cases ha : ahead key e b with
            | true =>
              have := rk_lt he ha
              exact decide_eq_true (by omega)
            | false =>
              refine decide_eq_false ?_
              have h2 : ahead key b e = true := by
                cases hz : ahead key b e with
                | true => rfl
                | false =>
                  have z1 : ¬ (ahead key e b = true) := by rw [ha]; decide
                  have z2 : ¬ (ahead key b e = true) := by rw [hz]; decide
                  rw [ahead_iff] at z1 z2
                  omega
              have := rk_lt hb h2
              omega
        have e2 : ∀ n, cnt (fun e => ahead key e b || e == b) n = cnt (fun e => ahead key e b) n + (if b < n then 1 else 0) := by
          intro n
          induction n with
          | zero => simp [cnt]
          | succ n ih =>
            simp only [cnt, ih]
            by_cases eb : n = b
            · subst eb
              simp [ahead_irr]
            · have hne : (n == b) = false := by simpa using eb
              have : (b < n + 1) ↔ (b < n) := by omega
              simp only [hne, Bool.or_false, this]
              omega
        rw [e1, e2, if_pos hb]
        have : cnt (fun e => ahead key e b) c = i - 1 := hrb
        omega
/-- the rule's key -/
def kys (rule : Int) (fl rn ln : Nat → Int) (c : Nat) : Int := if rule = 0 then fl c else if rule = 1 then -rn c else ln c
theorem ct_key {h : jH} (c : Nat) (rule : Int) (hc : c < 7) (hr : -100000 ≤ h.1 8 c ∧ h.1 8 c ≤ 100000) : CF Sx M_X0_key [jR 26, jI c, jI rule] h (kys rule (h.1 4) (h.1 8) (h.1 7) c) := by
  refine en_X0_key_26 (fun G => vc_X0_key_26_0 ?_)
  simp only [Int.toNat_natCast]
  refine ⟨fun e => ⟨⟨by omega, by omega⟩, _, rfl, ?_, rfl⟩, fun e => ⟨⟨by omega, by omega⟩, ⟨by omega, by omega⟩, _, rfl, ?_, rfl⟩, fun e => ⟨⟨by omega, by omega⟩, _, rfl, ?_, rfl⟩⟩
  · simp [kys, e]
  · simp [kys, e]
  · simp [kys, e.1, e.2]
theorem ct_sort {h : jH} {N : Nat} (hN : h.1 2 2 = N) (h7 : N ≤ 7) (rule : Int) (hr : ∀ c, c < N → -100000 ≤ h.1 8 c ∧ h.1 8 c ≤ 100000) : CT Sx M_X0_sort [jR 26, jI rule] h (jPv fun h' => ∃ f, h' = upr h 27 f ∧ Ord (kys rule (h.1 4) (h.1 8) (h.1 7)) N f) := by
  refine en_X0_sort_26 (fun G => vc_X0_sort_26_0 ?_)
  refine jf_loop N (fun c lv h' => ∃ u f, lv = [jR 26, jI rule, jI (c : Nat), u] ∧ h' = upr h 27 f ∧ Ord (kys rule (h.1 4) (h.1 8) (h.1 7)) c f) ?_ ?_ 0 (Nat.zero_le _) _ _ ⟨_, h.1 27, rfl, (upr_id (fun _ => rfl)).symm, fun i hi => by omega⟩
  · rintro c hc lv h' ⟨u, f, rfl, rfl, ho⟩ k
    have e2 : (upr h 27 f).1 2 2 = N := hN
    refine vc_X0_sort_26_2 ⟨fun q => absurd q (by omega), fun q => ?_⟩
    -- the inner loop, downwards
    have inner : ∀ p, p ≤ c → ∀ g, (∀ i, i < p → g i = f i) → (∀ i, p < i → i ≤ c → g i = f (i - 1)) → (∀ i, p < i → i ≤ c → ∀ d : Nat, f (i - 1) = (d : Nat) → kys rule (h.1 4) (h.1 8) (h.1 7) c < kys rule (h.1 4) (h.1 8) (h.1 7) d) → WV Sx G M_X0_sort (jPv fun h' => ∃ f, h' = upr h 27 f ∧ Ord (kys rule (h.1 4) (h.1 8) (h.1 7)) N f) 15 [jR 26, jI rule, jI (c : Nat), jI (p : Nat)] [] (upr h 27 g) := by
      intro p
      induction p with
      | zero =>
        intro _ g g1 g2 g3
        refine vc_X0_sort_26_15 ⟨fun _ => ⟨⟨by omega, by omega⟩, ⟨by omega, by omega⟩, k _ _ ⟨_, _, rfl, up_upr, ?_⟩⟩, fun q => absurd q (by omega)⟩
        refine ho.ins (Nat.zero_le _) (fun i hi => by omega) (fun i h1 h2 => ?_) g3 (Or.inl rfl) (by simp)
        simp only [show ¬ i = Int.toNat ((0 : Nat) : Int) by simp; omega, if_false]
        exact g2 i h1 h2
      | succ p ih =>
        intro hp g g1 g2 g3
        obtain ⟨d, hd, hfd, hrd⟩ := ho p (by omega)
        have hgd : g p = (d : Nat) := by rw [g1 p (by omega), hfd]
        have t1 : Int.toNat (((p + 1 : Nat) : Int) - 1) = p := by omega
        have t2 : Int.toNat ((p + 1 : Nat) : Int) = p + 1 := by omega
        refine vc_X0_sort_26_15 ⟨fun q => absurd q (by omega), fun _ => ⟨_, ct_key c rule (by omega) (hr c hc), ?_⟩⟩
        rintro _ _ ⟨rfl, rfl⟩
        refine ⟨⟨by omega, by omega⟩, ⟨by omega, by omega⟩, ?_⟩
        rw [t1, upr_same, hgd]
        refine ⟨_, ct_key d rule (by omega) (hr d (by omega)), ?_⟩
        rintro _ _ ⟨rfl, rfl⟩
        refine ⟨fun e => ⟨⟨by omega, by omega⟩, ⟨by omega, by omega⟩, k _ _ ⟨_, _, rfl, up_upr, ?_⟩⟩, fun e => ⟨⟨by omega, by omega⟩, ⟨by omega, by omega⟩, ?_⟩⟩
        · rw [t2]
          refine ho.ins hp (fun i hi => ?_) (fun i h1 h2 => ?_) g3 (Or.inr (fun b hb => ?_)) (by simp)
          · simp only [show ¬ i = p + 1 by omega, if_false]; exact g1 i hi
          · simp only [show ¬ i = p + 1 by omega, if_false]; exact g2 i h1 h2
          · rw [show p + 1 - 1 = p by omega, hfd] at hb
            have : b = d := by omega
            subst this
            exact e
        · rw [t2, up_upr, upr_same, hgd]
          have e3 : kys rule (h.1 4) (h.1 8) (h.1 7) c < kys rule (h.1 4) (h.1 8) (h.1 7) d := by
            have : ¬ kys rule (h.1 4) (h.1 8) (h.1 7) d ≤ kys rule (h.1 4) (h.1 8) (h.1 7) c := e
            omega
          rw [show ((p + 1 : Nat) : Int) + -1 = (p : Nat) by omega]
          refine ih (by omega) _ (fun i hi => ?_) (fun i h1 h2 => ?_) (fun i h1 h2 b hb => ?_)
          · simp only [show ¬ i = p + 1 by omega, if_false]; exact g1 i (by omega)
          · by_cases ei : i = p + 1
            · subst ei; simp [hfd]
            · simp only [ei, if_false]; exact g2 i (by omega) h2
          · by_cases ei : i = p + 1
            · subst ei
              rw [show p + 1 - 1 = p by omega, hfd] at hb
              have : b = d := by omega
              subst this
              exact e3
            · exact g3 i (by omega) h2 b hb
    exact inner c (Nat.le_refl _) f (fun i hi => rfl) (fun i h1 h2 => by omega) (fun i h1 h2 => by omega)
  · rintro lv h' ⟨u, f, rfl, rfl, ho⟩
    have e2 : (upr h 27 f).1 2 2 = N := hN
    exact vc_X0_sort_26_2 ⟨fun q => ⟨rfl, f, rfl, ho⟩, fun q => absurd q (by omega)⟩
