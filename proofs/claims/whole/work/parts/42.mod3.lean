/-! the model: orders, days by rules -/
theorem pigeon (n : Nat) : ∀ f : Nat → Nat, (∀ i, i < n → f i < n) → (∀ i j, i < n → j < n → f i = f j → i = j) → ∀ k, k < n → ∃ i, i < n ∧ f i = k := by
  induction n with
  | zero => intro f _ _ k hk; omega
  | succ n ih =>
    intro f hf hi k hk
    have hg : ∀ i, i < n → (if f i = n then f n else f i) < n := by
      intro i hin
      have h1 := hf i (by omega)
      have h2 := hf n (by omega)
      have h3 := hi i n (by omega) (by omega)
      split <;> omega
    have hgi : ∀ i j, i < n → j < n → (if f i = n then f n else f i) = (if f j = n then f n else f j) → i = j := by
      intro i j h1 h2 e
      have a1 := hi i j (by omega) (by omega)
      have a2 := hi i n (by omega) (by omega)
      have a3 := hi j n (by omega) (by omega)
      split at e <;> split at e <;> omega
    have key := ih (fun i => if f i = n then f n else f i) hg hgi
    by_cases ek : k = n
    · by_cases en : f n = n
      · exact ⟨n, by omega, by omega⟩
      · have := hf n (by omega)
        obtain ⟨i, h1, h2⟩ := key (f n) (by omega)
        split at h2
        · exact ⟨i, by omega, by omega⟩
        · have := hi i n (by omega) (by omega) h2
          omega
    · obtain ⟨i, h1, h2⟩ := key k (by omega)
      split at h2
      · exact ⟨n, by omega, h2⟩
      · exact ⟨i, by omega, h2⟩
theorem Ord.of {key : Nat → Int} {n : Nat} {g : Nat → Int} (hg : ∀ d, d < n → g (rk key n d) = (d : Nat)) : Ord key n g := by
  intro i hi
  obtain ⟨d, h1, h2⟩ := pigeon n (fun d => rk key n d) (fun d hd => rk_in hd) (fun a b ha hb e => rk_inj ha hb e) i hi
  exact ⟨d, h1, by rw [← h2]; exact hg d h1, h2⟩
theorem Ord.two {key : Nat → Int} {n : Nat} {f g : Nat → Int} (hf : Ord key n f) (hg : Ord key n g) {i : Nat} (hi : i < n) : g i = f i := hf.uniq (fun _ hd => hg.at hd) hi
theorem Ord.rg {key : Nat → Int} {n : Nat} {f : Nat → Int} (hf : Ord key n f) {i : Nat} (hi : i < n) : 0 ≤ f i ∧ f i < n := by
  obtain ⟨d, h1, h2, -⟩ := hf i hi
  omega
theorem cm_isAhead {h : jH} (c d : Nat) (rule : Int) (hc : c < 7) (hd : d < 7) (r1 : -100000 ≤ mR h c ∧ mR h c ≤ 100000) (r2 : -100000 ≤ mR h d ∧ mR h d ≤ 100000) : CF Sm M_X8_isAhead [jR 0, jI c, jI d, jI rule] h (bi (ahead (kys rule (mA h) (mR h) (mN h)) c d)) := by
  have fin : ∀ G, WV Sm G M_X8_isAhead (jPi fun r h' => r = bi (ahead (kys rule (mA h) (mR h) (mN h)) c d) ∧ h' = h) 90 [jR 0, jI c, jI d, jI rule, jI (kys rule (mA h) (mR h) (mN h) c), jU] [jI (kys rule (mA h) (mR h) (mN h) d)] h := by
    intro G
    refine vc_X8_isAhead_0_90 ⟨fun e => ⟨_, rfl, ?_, rfl⟩, fun e => ⟨fun e1 => ⟨fun e2 => ⟨_, rfl, ?_, rfl⟩, fun e2 => ⟨_, rfl, ?_, rfl⟩⟩, fun e1 => ⟨_, rfl, ?_, rfl⟩⟩⟩
    · unfold ahead; rw [decide_eq_true e]; rfl
    · unfold ahead; rw [decide_eq_false e, decide_eq_false (p := c < d) (by omega), Bool.and_false]; rfl
    · unfold ahead; rw [decide_eq_true e1, decide_eq_true (p := c < d) (by omega), Bool.and_true, Bool.or_true]; rfl
    · unfold ahead; rw [decide_eq_false e, decide_eq_false e1]; rfl
  refine en_X8_isAhead_0 (fun G => vc_X8_isAhead_0_0 ?_)
  have f := fin G
  rw [show Int.toNat (5 * (c : Int)) = 5 * c by omega, show Int.toNat (5 * (c : Int) + 4) = 5 * c + 4 by omega, show Int.toNat (5 * (c : Int) + 3) = 5 * c + 3 by omega]
  refine ⟨fun e => ⟨⟨by omega, by omega⟩, ⟨by omega, by omega⟩, vc_X8_isAhead_0_44 ?_⟩, fun e => ⟨fun e1 => ⟨⟨by omega, by omega⟩, ⟨by omega, by omega⟩, ⟨by omega, by omega⟩, ?_, vc_X8_isAhead_0_44 ?_⟩, fun e1 => ⟨⟨by omega, by omega⟩, ⟨by omega, by omega⟩, ⟨by omega, by omega⟩, vc_X8_isAhead_0_44 ?_⟩⟩⟩
  · refine ⟨fun _ => ⟨⟨by omega, by omega⟩, ⟨by omega, by omega⟩, ?_⟩, fun q => absurd e q⟩
    rw [show Int.toNat (5 * (d : Int)) = 5 * d by omega]
    have k1 : ∀ c, kys rule (mA h) (mR h) (mN h) c = mA h c := fun c => by simp [kys, e]
    rw [k1, k1] at f
    exact f
  · unfold mR at r1; exact ⟨by omega, by omega⟩
  · refine ⟨fun q => absurd q e, fun _ => ⟨fun _ => ⟨⟨by omega, by omega⟩, ⟨by omega, by omega⟩, ⟨by omega, by omega⟩, ?_, ?_⟩, fun q => absurd e1 q⟩⟩
    · rw [show Int.toNat (5 * (d : Int) + 4) = 5 * d + 4 by omega]
      unfold mR at r2; exact ⟨by omega, by omega⟩
    · rw [show Int.toNat (5 * (d : Int) + 4) = 5 * d + 4 by omega]
      have k1 : ∀ c, kys rule (mA h) (mR h) (mN h) c = -mR h c := fun c => by simp [kys, e1]
      rw [k1, k1] at f
      exact f
  · refine ⟨fun q => absurd q e, fun _ => ⟨fun q => absurd q e1, fun _ => ⟨⟨by omega, by omega⟩, ⟨by omega, by omega⟩, ⟨by omega, by omega⟩, ?_⟩⟩⟩
    rw [show Int.toNat (5 * (d : Int) + 3) = 5 * d + 3 by omega]
    have k1 : ∀ c, kys rule (mA h) (mR h) (mN h) c = mN h c := fun c => by simp [kys, e, e1]
    rw [k1, k1] at f
    exact f
theorem cm_layOrder {h : jH} {N : Nat} (hN : h.1 0 15 = N) (h7 : N ≤ 7) (rule : Int) (hr : ∀ c, c < N → -100000 ≤ mR h c ∧ mR h c ≤ 100000) : CT Sm M_X8_layOrder [jR 0, jI rule] h (jPv fun h' => ∃ f, h' = upr h 10 f ∧ Ord (kys rule (mA h) (mR h) (mN h)) N f) := by
  refine en_X8_layOrder_0 (fun G => vc_X8_layOrder_0_0 ?_)
  refine jf_loop N (fun c lv h' => ∃ u v f, lv = [jR 0, jI rule, jI (c : Nat), u, v] ∧ h' = upr h 10 f ∧ ∀ d, d < c → f (rk (kys rule (mA h) (mR h) (mN h)) N d) = (d : Nat)) ?_ ?_ 0 (Nat.zero_le _) _ _ ⟨_, _, h.1 10, rfl, (upr_id (fun _ => rfl)).symm, fun d hd => by omega⟩
  · rintro c hc lv h' ⟨u, v, f, rfl, rfl, hf⟩ k
    have e0 : (upr h 10 f).1 0 15 = N := hN
    refine vc_X8_layOrder_0_2 ⟨fun q => absurd q (by omega), fun q => ?_⟩
    refine jf_fun N (fun d => [jR 0, jI rule, jI (c : Nat), jI (cnt (fun e => ahead (kys rule (mA h) (mR h) (mN h)) e c) d : Nat), jI (d : Nat)]) (fun _ => upr h 10 f) (fun d hd k2 => ?_) ?_ 0 (Nat.zero_le _)
    · have b := cnt_le (fun e => ahead (kys rule (mA h) (mR h) (mN h)) e c) d
      simp only [cnt] at k2
      refine vc_X8_layOrder_0_15 ⟨fun q => absurd q (by omega), fun q => ⟨fun e => ⟨⟨by omega, by omega⟩, ⟨by omega, by omega⟩, ?_⟩, fun e => ⟨_, cm_isAhead d c rule (by omega) (by omega) (hr d hd) (hr c hc), ?_⟩⟩⟩
      · have e : d = c := by omega
        subst e
        rw [if_neg (by rw [ahead_irr]; decide)] at k2
        exact k2
      · rintro _ _ ⟨rfl, rfl⟩
        have eA : mA (upr h 10 f) = mA h := rfl
        have eR : mR (upr h 10 f) = mR h := rfl
        have eN : mN (upr h 10 f) = mN h := rfl
        rw [eA, eR, eN]
        refine ⟨fun z => ⟨⟨by omega, by omega⟩, ⟨by omega, by omega⟩, ?_⟩, fun z => ⟨⟨by omega, by omega⟩, ⟨by omega, by omega⟩, ?_⟩⟩
        · rw [bi_0] at z
          rw [if_neg (by rw [z]; decide)] at k2
          exact k2
        · rw [bi_0] at z
          rw [if_pos ((Bool.not_eq_false _).mp z)] at k2
          exact k2
    · have hb := rk_in (key := kys rule (mA h) (mR h) (mN h)) hc
      have er : cnt (fun e => ahead (kys rule (mA h) (mR h) (mN h)) e c) N = rk (kys rule (mA h) (mR h) (mN h)) N c := rfl
      refine vc_X8_layOrder_0_15 ⟨fun q => ⟨⟨by omega, by omega⟩, ⟨by omega, by omega⟩, k _ _ ⟨_, _, _, rfl, up_upr, fun d hd => ?_⟩⟩, fun q => absurd q (by omega)⟩
      rw [er, Int.toNat_natCast]
      by_cases e : d = c
      · subst e; simp
      · have : ¬ rk (kys rule (mA h) (mR h) (mN h)) N d = rk (kys rule (mA h) (mR h) (mN h)) N c := fun z => e (rk_inj (by omega) hc z)
        simp only [this, if_false]
        exact hf d (by omega)
  · rintro lv h' ⟨u, v, f, rfl, rfl, hf⟩
    have e0 : (upr h 10 f).1 0 15 = N := hN
    exact vc_X8_layOrder_0_2 ⟨fun q => ⟨rfl, f, rfl, Ord.of hf⟩, fun q => absurd q (by omega)⟩
