/-! the model: crossings -/
theorem crs_irr {ho fr to : Nat → Int} {c : Nat} : crs ho fr to c c = false := by simp [crs, sh]
theorem btw_sym (a b p q : Int) (h1 : a ≠ p) (h2 : a ≠ q) (h3 : b ≠ p) (h4 : b ≠ q) : (((decide (min a b < p) && decide (p < max a b)) != (decide (min a b < q) && decide (q < max a b))) : Bool) = ((decide (min p q < a) && decide (a < max p q)) != (decide (min p q < b) && decide (b < max p q))) := by
  by_cases c1 : min a b < p <;> by_cases c2 : p < max a b <;> by_cases c3 : min a b < q <;> by_cases c4 : q < max a b <;> by_cases c5 : min p q < a <;> by_cases c6 : a < max p q <;> by_cases c7 : min p q < b <;> by_cases c8 : b < max p q <;> simp only [c1, c2, c3, c4, c5, c6, c7, c8, decide_true, decide_false, Bool.and_true, Bool.and_false, bne_self_eq_false] <;> first | rfl | (exfalso; omega)
theorem crs_sym {ho fr to : Nat → Int} {N a b : Nat} (hi : ∀ i j, i < 6 → j < 6 → ho i = ho j → i = j) (hk : lok fr to N) (ha : a < N) (hb : b < N) : crs ho fr to a b = crs ho fr to b a := by
  have k1 := hk a ha
  have k2 := hk b hb
  have hs : sh fr to a b = sh fr to b a := by
    unfold sh
    rw [ibc (fr b) (fr a), ibc (fr b) (to a), ibc (to b) (fr a), ibc (to b) (to a)]
    cases (fr a == fr b) <;> cases (fr a == to b) <;> cases (to a == fr b) <;> cases (to a == to b) <;> rfl
  unfold crs
  rw [← hs]
  cases h : sh fr to a b with
  | true => rfl
  | false =>
    rw [Bool.not_false, Bool.true_and, Bool.true_and]
    unfold sh at h
    simp only [Bool.or_eq_false_iff, beq_eq_false_iff_ne] at h
    unfold btw
    refine btw_sym _ _ _ _ (fun z => ?_) (fun z => ?_) (fun z => ?_) (fun z => ?_)
    · have := hi _ _ (by omega) (by omega) z; omega
    · have := hi _ _ (by omega) (by omega) z; omega
    · have := hi _ _ (by omega) (by omega) z; omega
    · have := hi _ _ (by omega) (by omega) z; omega
def tri (P : Nat → Nat → Bool) : Nat → Nat
  | 0 => 0
  | n + 1 => tri P n + cnt (P n) n
def sqn (P : Nat → Nat → Bool) (N : Nat) : Nat → Nat
  | 0 => 0
  | n + 1 => sqn P N n + cnt (P n) N
theorem sqn_s {P : Nat → Nat → Bool} {N n : Nat} : sqn P (N + 1) n = sqn P N n + cnt (fun c => P c N) n := by
  induction n with
  | zero => rfl
  | succ n ih => simp only [sqn, cnt, ih]; omega
theorem sqn_tri {P : Nat → Nat → Bool} {N : Nat} (h1 : ∀ c, c < N → P c c = false) (h2 : ∀ c d, c < N → d < N → P c d = P d c) : sqn P N N = 2 * tri P N := by
  induction N with
  | zero => rfl
  | succ N ih =>
    have i := ih (fun c hc => h1 c (by omega)) (fun c d hc hd => h2 c d (by omega) (by omega))
    simp only [sqn, tri, cnt]
    rw [sqn_s, i, h1 N (by omega), cnt_congr (p := fun c => P c N) (q := P N) (fun c hc => h2 c N (by omega) (by omega))]
    simp
    omega
theorem tri_le {P : Nat → Nat → Bool} {n : Nat} : tri P n ≤ n * n := by
  induction n with
  | zero => simp [tri]
  | succ n ih =>
    simp only [tri]
    have := cnt_le (P n) n
    rw [Nat.succ_mul, Nat.mul_succ]
    omega
/-- the cords of two who talk cross -/
def cr2 (ho fr to hw : Nat → Int) (c d : Nat) : Bool := hw c == 2 && (hw d == 2 && crs ho fr to c d)
theorem crn_sq {ho fr to hw : Nat → Int} {N n : Nat} : crn ho fr to hw N n = sqn (cr2 ho fr to hw) N n := by
  induction n with
  | zero => rfl
  | succ n ih =>
    simp only [crn, sqn, ih]
    congr 1
    cases h : hw n == 2 with
    | true => exact cnt_congr (fun o _ => by simp [cr2, h])
    | false =>
      have : ∀ m, cnt (cr2 ho fr to hw n) m = 0 := fun m => by
        induction m with
        | zero => rfl
        | succ m ih => simp [cnt, ih, cr2, h]
      rw [this]; rfl
theorem crn_tri {ho fr to hw : Nat → Int} {N : Nat} (hi : ∀ i j, i < 6 → j < 6 → ho i = ho j → i = j) (hk : lok fr to N) : crn ho fr to hw N N / 2 = tri (cr2 ho fr to hw) N := by
  rw [crn_sq, sqn_tri]
  · omega
  · intro c hc
    simp [cr2, crs_irr]
  · intro c d hc hd
    unfold cr2
    rw [crs_sym hi hk hc hd]
    cases (hw c == 2) <;> cases (hw d == 2) <;> rfl
theorem cm_crossed {h : jH} {N : Nat} (hN : h.1 0 15 = N) (h7 : N ≤ 7) (hk : lok (mF h) (mT h) N) : CF Sm M_X8_crossed [jR 0] h (tri (cr2 (mO h 5) (mF h) (mT h) (mH h 5)) N : Nat) := by
  refine en_X8_crossed_0 (fun G => vc_X8_crossed_0_0 ?_)
  refine jf_loop N (fun c lv g => ∃ u, lv = [jR 0, jI (tri (cr2 (mO h 5) (mF h) (mT h) (mH h 5)) c : Nat), jI (c : Nat), u] ∧ g = h) ?_ ?_ 0 (Nat.zero_le _) _ _ ⟨_, rfl, rfl⟩
  · rintro c hc lv g ⟨u, rfl, rfl⟩ k
    refine vc_X8_crossed_0_4 ⟨fun q => absurd q (by omega), fun q => ?_⟩
    have b1 := tri_le (P := cr2 (mO g 5) (mF g) (mT g) (mH g 5)) (n := c)
    have b2 : c * c ≤ 7 * 7 := Nat.mul_le_mul (by omega) (by omega)
    refine WV.lv ?_ (jf_fun c (fun d => [jR 0, jI ((tri (cr2 (mO g 5) (mF g) (mT g) (mH g 5)) c + cnt (cr2 (mO g 5) (mF g) (mT g) (mH g 5) c) d : Nat) : Int), jI (c : Nat), jI (d : Nat)]) (fun _ => g) (fun d hd kk => ?_) ?_ 0 (Nat.zero_le _))
    · simp [cnt]
    · have b3 := cnt_le (cr2 (mO g 5) (mF g) (mT g) (mH g 5) c) d
      refine vc_X8_crossed_0_14 ⟨fun q => absurd q (by omega), fun q => ⟨⟨by omega, by omega⟩, ⟨by omega, by omega⟩, ?_⟩⟩
      rw [show Int.toNat (7 + (c : Int)) = 7 + c by omega, show Int.toNat (7 + (d : Int)) = 7 + d by omega]
      have no : cr2 (mO g 5) (mF g) (mT g) (mH g 5) c d = false → WV Sm G M_X8_crossed (jPi fun x h' => x = (tri (cr2 (mO g 5) (mF g) (mT g) (mH g 5)) N : Nat) ∧ h' = g) 14 [jR 0, jI (((tri (cr2 (mO g 5) (mF g) (mT g) (mH g 5)) c + cnt (cr2 (mO g 5) (mF g) (mT g) (mH g 5) c) d : Nat) : Int) + 0), jI (c : Nat), jI ((d : Int) + 1)] [] g := by
        intro z
        simp only [cnt, z] at kk
        exact kk
      refine ⟨fun e => ⟨⟨by omega, by omega⟩, ⟨by omega, by omega⟩, fun e1 => ⟨_, cm_cross h7 hk c d hc (by omega), ?_⟩, fun e1 => ⟨⟨by omega, by omega⟩, ⟨by omega, by omega⟩, no ?_⟩⟩, fun e => ⟨⟨by omega, by omega⟩, ⟨by omega, by omega⟩, no ?_⟩⟩
      · rintro _ _ ⟨rfl, rfl⟩
        rename_i g
        replace e : mH g 5 c = 2 := e
        replace e1 : mH g 5 d = 2 := e1
        refine ⟨fun z => ⟨⟨by omega, by omega⟩, ⟨by omega, by omega⟩, no ?_⟩, fun z => ⟨⟨by omega, by omega⟩, ⟨by omega, by omega⟩, ?_⟩⟩
        · rw [bi_0] at z
          unfold cr2
          rw [z]
          simp
        · rw [bi_0] at z
          have z : cr2 (mO g 5) (mF g) (mT g) (mH g 5) c d = true := by
            unfold cr2
            rw [(Bool.not_eq_false _).mp z, e, e1]
            rfl
          simp only [cnt, z, if_true] at kk
          exact kk
      · have e1 : ¬ mH g 5 d = 2 := e1
        unfold cr2
        simp [e1]
      · have e : ¬ mH g 5 c = 2 := e
        unfold cr2
        simp [e]
    · exact vc_X8_crossed_0_14 ⟨fun q => ⟨⟨by omega, by omega⟩, k _ _ ⟨_, rfl, rfl⟩⟩, fun q => absurd q (by omega)⟩
  · rintro lv g ⟨u, rfl, rfl⟩
    exact vc_X8_crossed_0_4 ⟨fun q => ⟨_, rfl, rfl, rfl⟩, fun q => absurd q (by omega)⟩
theorem cm_under {h : jH} {N : Nat} (hN : h.1 0 15 = N) (h7 : N ≤ 7) (hk : lok (mF h) (mT h) N) (c : Int) : CF Sm M_X8_under [jR 0, jI c] h (if 0 ≤ c ∧ c < N then ((bt (fun o => mH h 5 o == 2 && crs (mO h 5) (mF h) (mT h) c.toNat o) N : Nat) : Int) else -1) := by
  refine en_X8_under_0 (fun G => vc_X8_under_0_0 ⟨_, cm_isCall c (by omega), ?_⟩)
  rintro _ _ ⟨rfl, rfl⟩
  rename_i h
  rw [hN]
  by_cases hc : 0 ≤ c ∧ c < N
  · rw [if_pos hc]
    refine ⟨fun z => absurd z (by decide), fun _ => ?_⟩
    obtain ⟨c, rfl⟩ : ∃ q : Nat, c = q := ⟨c.toNat, by omega⟩
    rw [if_pos hc, Int.toNat_natCast]
    refine jf_fun N (fun d => [jR 0, jI (c : Nat), jI (bt (fun o => mH h 5 o == 2 && crs (mO h 5) (mF h) (mT h) c o) d : Nat), jI (d : Nat)]) (fun _ => h) (fun d hd k => ?_) ?_ 0 (Nat.zero_le _)
    · have no : (mH h 5 d == 2 && crs (mO h 5) (mF h) (mT h) c d) = false → WV Sm G M_X8_under (jPi fun x h' => x = (bt (fun o => mH h 5 o == 2 && crs (mO h 5) (mF h) (mT h) c o) N : Nat) ∧ h' = h) 14 [jR 0, jI (c : Nat), jI (b_or (bt (fun o => mH h 5 o == 2 && crs (mO h 5) (mF h) (mT h) c o) d : Nat) 0), jI ((d : Int) + 1)] [] h := by
        intro z
        rw [bt_or0 (by omega) z]
        exact k
      refine vc_X8_under_0_14 ⟨fun q => absurd q (by omega), fun q => ⟨fun e => ⟨⟨by omega, by omega⟩, no ?_⟩, fun e => ⟨⟨by omega, by omega⟩, ⟨by omega, by omega⟩, ?_⟩⟩⟩
      · have : d = c := by omega
        rw [this, crs_irr, Bool.and_false]
      · rw [show Int.toNat (7 + (d : Int)) = 7 + d by omega]
        refine ⟨fun e1 => ⟨_, cm_cross h7 hk c d (by omega) hd, ?_⟩, fun e1 => ⟨⟨by omega, by omega⟩, no ?_⟩⟩
        · rintro _ _ ⟨rfl, rfl⟩
          rename_i h
          replace e1 : mH h 5 d = 2 := e1
          refine ⟨fun z => ⟨⟨by omega, by omega⟩, no ?_⟩, fun z => ⟨⟨by omega, by omega⟩, ?_⟩⟩
          · rw [bi_0] at z
            rw [z, Bool.and_false]
          · rw [bi_0] at z
            rw [bt_or (by omega) (by rw [(Bool.not_eq_false _).mp z, e1]; rfl)]
            exact k
        · have e1 : ¬ mH h 5 d = 2 := e1
          simp [e1]
    · exact vc_X8_under_0_14 ⟨fun q => ⟨_, rfl, rfl, rfl⟩, fun q => absurd q (by omega)⟩
  · rw [if_neg hc]
    exact ⟨fun _ => ⟨_, rfl, by rw [if_neg hc], rfl⟩, fun z => absurd rfl z⟩
