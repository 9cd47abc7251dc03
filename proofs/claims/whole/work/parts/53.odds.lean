/-! odds, rate: both sides -/
def cdv (u : Nat) : Nat → Nat
  | 0 => 1
  | d + 1 => if d = 0 then 1 else if u % (d + 1) = 0 ∧ 10 % (d + 1) = 0 then d + 1 else cdv u d
theorem cdv_10 : ∀ u : Nat, u < 11 → cdv u 10 = Nat.gcd u 10 := by decide
theorem ct_commonDivisor {h : jH} (u : Nat) (hu : u < 11) : CF Sx M_X7_commonDivisor [jI u] h (Nat.gcd u 10 : Nat) := by
  refine en_X7_commonDivisor (fun G => vc_X7_commonDivisor_0 ?_)
  have key : ∀ d : Nat, d < 11 → cdv u d = Nat.gcd u 10 → WV Sx G M_X7_commonDivisor (jPi fun x h' => x = (Nat.gcd u 10 : Nat) ∧ h' = h) 3 [jI u, jI (d : Nat)] [] h := by
    intro d
    induction d with
    | zero => intro _ e; exact vc_X7_commonDivisor_3 ⟨fun _ => ⟨_, rfl, by rw [← e]; rfl, rfl⟩, fun q => absurd q (by omega)⟩
    | succ d ih =>
      intro hd e
      simp only [cdv] at e
      refine vc_X7_commonDivisor_3 ⟨fun q => ⟨_, rfl, ?_, rfl⟩, fun q => ⟨by omega, ?_⟩⟩
      · rw [if_pos (by omega)] at e; rw [← e]; rfl
      · rw [if_neg (by omega)] at e
        rw [show (Int.tmod (u : Int) ((d + 1 : Nat) : Int)) = ((u % (d + 1) : Nat) : Int) from rfl, show (Int.tmod 10 ((d + 1 : Nat) : Int)) = ((10 % (d + 1) : Nat) : Int) from rfl, show ((d + 1 : Nat) : Int) + (-1) = (d : Int) by omega]
        refine ⟨fun a => ⟨fun b => ⟨_, rfl, ?_, rfl⟩, fun b => ⟨⟨by omega, by omega⟩, ?_⟩⟩, fun a => ⟨⟨by omega, by omega⟩, ?_⟩⟩
        · rw [if_pos (by omega)] at e; rw [← e]
        · rw [if_neg (by omega)] at e; exact ih (by omega) e
        · rw [if_neg (by omega)] at e; exact ih (by omega) e
  exact key 10 (by decide) (cdv_10 u hu)
/-- by how many of ten a line is free -/
def upf (o : Option Nat) (lf : Nat → Int) (p m : Int) : Int := match o with
  | none => 10
  | some c => if m < lf c then 0 else if m < 2 * lf c then 10 - p else 10
theorem upf_bd {o : Option Nat} {lf : Nat → Int} {p m : Int} (hp : 0 ≤ p ∧ p ≤ 10) : 0 ≤ upf o lf p m ∧ upf o lf p m ≤ 10 := by
  unfold upf
  split
  · omega
  · split
    · omega
    · split <;> omega
def odA (o : Option Nat) (lf : Nat → Int) (p m w : Int) : Int := Int.tdiv (if w = 0 then upf o lf p m else 10) ((Nat.gcd (upf o lf p m).toNat 10 : Nat) : Int)
theorem ct_tenthsFree {h : jH} {N : Nat} (hN : h.1 2 2 = N) (h7 : N ≤ 7) (hl : ∀ c, c < N → 0 ≤ h.1 20 c ∧ h.1 20 c ≤ 20) (o : Option Nat) (ho : ∀ c, o = some c → c < N) (p m : Int) (hp : 0 ≤ p ∧ p ≤ 10) : CF Sx M_X7_tenthsFree [jR 0, jI (onI o), jI p, jI m] h (upf o (h.1 20) p m) := by
  refine en_X7_tenthsFree_0 (fun G => vc_X7_tenthsFree_0_0 ⟨_, ct_hasCall _, ?_⟩)
  rintro _ _ ⟨rfl, rfl⟩
  rename_i h
  cases o with
  | none => exact ⟨fun _ => ⟨_, rfl, rfl, rfl⟩, fun z => absurd (by rw [if_neg (by simp only [onI]; omega)]) z⟩
  | some c =>
    have hc := ho c rfl
    have := hl c hc
    refine ⟨fun z => absurd z (by rw [if_pos (by simp only [onI]; omega)]; decide), fun _ => ?_⟩
    simp only [onI, Int.toNat_natCast, upf]
    exact (fun z => z) (by
     refine ⟨by omega, ⟨by omega, by omega⟩, fun a => ⟨fun b => ⟨_, rfl, ?_, rfl⟩, fun b => ⟨⟨by omega, by omega⟩, _, rfl, ?_, rfl⟩⟩, fun a => ⟨_, rfl, ?_, rfl⟩⟩
     · rw [if_pos b]
     · rw [if_neg b, if_pos a]
     · rw [if_neg (by omega), if_neg a])
theorem fst_some {p : Nat → Bool} {n k : Nat} (h : fst_ p n = some k) : k < n ∧ p k = true := by
  induction n with
  | zero => cases h
  | succ n ih =>
    simp only [fst_] at h
    cases hf : fst_ p n with
    | some j => rw [hf] at h; simp only [Option.or] at h; have := ih (by rw [hf]; exact h); exact ⟨by omega, this.2⟩
    | none =>
      rw [hf] at h
      simp only [Option.or] at h
      split at h
      · cases h; exact ⟨by omega, by assumption⟩
      · cases h
theorem odA_cases {o : Option Nat} {lf : Nat → Int} {p m w : Int} (hp : 0 ≤ p ∧ p ≤ 10) : ∃ u : Nat, u < 11 ∧ upf o lf p m = (u : Int) ∧ 0 < Nat.gcd u 10 ∧ odA o lf p m w = Int.tdiv (if w = 0 then (u : Int) else 10) ((Nat.gcd u 10 : Nat) : Int) := by
  have := upf_bd (o := o) (lf := lf) (m := m) hp
  refine ⟨(upf o lf p m).toNat, by omega, by omega, Nat.gcd_pos_of_pos_right _ (by decide), ?_⟩
  unfold odA
  rw [Int.toNat_of_nonneg this.1]
theorem ct_odds {h : jH} {N : Nat} (hN : h.1 2 2 = N) (h7 : N ≤ 7) (hl : ∀ c, c < N → 0 ≤ h.1 20 c ∧ h.1 20 c ≤ 20) (l p m w : Int) : CF Sx M_X7_odds [jR 0, jI l, jI p, jI m, jI w] h (if (0 ≤ l ∧ l < h.1 2 0) ∧ (0 ≤ p ∧ p ≤ 10) ∧ (0 ≤ m ∧ m ≤ 40) ∧ (0 ≤ w ∧ w ≤ 1) then odA (fst_ (fun c => h.1 19 c == 2 && (h.1 5 c == l || h.1 6 c == l)) N) (h.1 20) p m w else -1) := by
  refine en_X7_odds_0 (fun G => vc_X7_odds_0_0 ⟨_, ct_hasLine l, ?_⟩)
  rintro _ _ ⟨rfl, rfl⟩
  rename_i h
  refine ⟨fun z => ⟨_, rfl, ?_, rfl⟩, fun z => ⟨fun q1 => ⟨_, rfl, ?_, rfl⟩, fun q1 => ⟨fun q2 => ⟨_, rfl, ?_, rfl⟩, fun q2 => ⟨fun q3 => ⟨_, rfl, ?_, rfl⟩, fun q3 => ⟨fun q4 => ⟨_, rfl, ?_, rfl⟩, fun q4 => ⟨fun q5 => ⟨_, rfl, ?_, rfl⟩, fun q5 => ⟨fun q6 => ?_, fun q6 => ⟨_, rfl, ?_, rfl⟩⟩⟩⟩⟩⟩⟩⟩
  · by_cases e : 0 ≤ l ∧ l < h.1 2 0
    · rw [if_pos e] at z; exact absurd z (by decide)
    · rw [if_neg (fun k => e k.1)]
  · rw [if_neg (by omega)]
  · rw [if_neg (by omega)]
  · rw [if_neg (by omega)]
  · rw [if_neg (by omega)]
  · rw [if_neg (by omega)]
  · have e : 0 ≤ l ∧ l < h.1 2 0 := Decidable.byContradiction (fun e => z (by rw [if_neg e]))
    rw [if_pos ⟨e, by omega, by omega, by omega⟩]
    refine ⟨_, ct_engagedBy hN h7 l, ?_⟩
    rintro _ _ ⟨rfl, rfl⟩
    rename_i h
    refine ⟨_, ct_tenthsFree hN h7 hl _ (fun c hc => (fst_some hc).1) p m (by omega), ?_⟩
    rintro _ _ ⟨rfl, rfl⟩
    rename_i h
    obtain ⟨u, hu, e1, e2, e3⟩ := odA_cases (o := fst_ (fun c => h.1 19 c == 2 && (h.1 5 c == l || h.1 6 c == l)) N) (lf := h.1 20) (p := p) (m := m) (w := w) (by omega)
    rw [e1, e3]
    refine ⟨_, ct_commonDivisor u hu, ?_⟩
    rintro _ _ ⟨rfl, rfl⟩
    refine ⟨fun a => ⟨by omega, _, rfl, ?_, rfl⟩, fun a => ⟨by omega, _, rfl, ?_, rfl⟩⟩
    · rw [if_pos a]
    · rw [if_neg a]
  · rw [if_neg (by omega)]
theorem cm_odds {h : jH} {N : Nat} (hN : h.1 0 15 = N) (h7 : N ≤ 7) (hb : 0 ≤ h.1 0 13 ∧ h.1 0 13 ≤ 1000) (hl : ∀ c, c < N → 0 ≤ mL h 5 c ∧ mL h 5 c ≤ 20) (l p m w : Int) : CF Sm M_X8_odds [jR 0, jI l, jI p, jI m, jI w] h (if (0 ≤ l ∧ l < h.1 0 13) ∧ (0 ≤ p ∧ p ≤ 10) ∧ (0 ≤ m ∧ m ≤ 40) ∧ (0 ≤ w ∧ w ≤ 1) then odA (lst_ (fun c => mH h 5 c == 2 && (mF h c == l || mT h c == l)) N) (mL h 5) p m w else -1) := by
  have gl : ∀ (G : jG) (x1 x2 x3 x4 x5 : Int) (u : Nat) (b a : Nat) (u9 : jV) (Q : jQ) (h : jH), Nat.gcd a b = Nat.gcd u 10 → (0 < Nat.gcd u 10 → Q (some (jI (Int.tdiv (if x4 = 0 then (u : Int) else 10) ((Nat.gcd u 10 : Nat) : Int)))) h) → WV Sm G M_X8_odds Q 116 [jR 0, jI x1, jI x2, jI x3, jI x4, jI x5, jI u, jI a, jI b, u9] [] h := by
    intro G x1 x2 x3 x4 x5 u b
    induction b using Nat.strongRecOn with
    | ind b ih =>
      intro a u9 Q h e hq
      have hp : 0 < Nat.gcd u 10 := Nat.gcd_pos_of_pos_right _ (by decide)
      refine vc_X8_odds_0_116 ⟨fun z => ?_, fun z => ⟨by omega, ?_⟩⟩
      · have : b = 0 := by omega
        subst this
        rw [Nat.gcd_zero_right] at e
        have := hq hp
        refine ⟨fun w0 => ⟨by omega, ?_⟩, fun w0 => ⟨by omega, ?_⟩⟩
        · rw [if_pos w0, ← e] at this; exact this
        · rw [if_neg w0, ← e] at this; exact this
      · rw [show Int.tmod (a : Int) (b : Int) = ((a % b : Nat) : Int) from rfl]
        exact ih (a % b) (Nat.mod_lt _ (by omega)) b _ Q h (by rw [← e, Nat.gcd_comm b, ← Nat.gcd_rec, Nat.gcd_comm]) hq
  refine en_X8_odds_0 (fun G => vc_X8_odds_0_0 ⟨_, cm_isLine l hb, ?_⟩)
  rintro _ _ ⟨rfl, rfl⟩
  rename_i h
  by_cases e : 0 ≤ l ∧ l < h.1 0 13
  · rw [if_pos e]
    refine ⟨fun z => absurd z (by decide), fun _ => ⟨_, cm_in p 0 10, ?_⟩⟩
    rintro _ _ ⟨rfl, rfl⟩
    rename_i h
    by_cases e1 : 0 ≤ p ∧ p ≤ 10
    · rw [if_pos e1]
      refine ⟨fun z => absurd z (by decide), fun _ => ⟨_, cm_in m 0 40, ?_⟩⟩
      rintro _ _ ⟨rfl, rfl⟩
      rename_i h
      by_cases e2 : 0 ≤ m ∧ m ≤ 40
      · rw [if_pos e2]
        refine ⟨fun z => absurd z (by decide), fun _ => ⟨_, cm_in w 0 1, ?_⟩⟩
        rintro _ _ ⟨rfl, rfl⟩
        rename_i h
        by_cases e3 : 0 ≤ w ∧ w ≤ 1
        · rw [if_pos e3, if_pos ⟨e, e1, e2, e3⟩]
          refine ⟨fun z => absurd z (by decide), fun _ => ⟨_, cm_talkerOn_5 hN h7 l, ?_⟩⟩
          rintro _ _ ⟨rfl, rfl⟩
          rename_i h
          obtain ⟨u, hu, f1, f2, f3⟩ := odA_cases (o := lst_ (fun c => mH h 5 c == 2 && (mF h c == l || mT h c == l)) N) (lf := mL h 5) (p := p) (m := m) (w := w) e1
          rw [f3]
          cases ho : lst_ (fun c => mH h 5 c == 2 && (mF h c == l || mT h c == l)) N with
          | none =>
            rw [ho] at f1
            simp only [upf] at f1
            have : u = 10 := by omega
            subst this
            exact ⟨fun _ => gl G _ _ _ _ _ 10 10 10 _ _ _ rfl (fun _ => ⟨_, rfl, rfl, rfl⟩), fun z => absurd rfl z⟩
          | some c =>
            have hc := (lst_some ho).1
            have hlc := hl c hc
            rw [ho] at f1
            simp only [upf] at f1
            simp only [onI]
            rw [show Int.toNat (14 + (c : Int)) = 14 + c by omega]
            have em : h.1 5 (14 + c) = mL h 5 c := rfl
            rw [em]
            refine ⟨fun z => absurd z (by omega), fun _ => ⟨⟨by omega, by omega⟩, by omega, fun a => ⟨⟨by omega, by omega⟩, fun b => ?_, fun b => absurd b (by omega)⟩, fun a => ⟨⟨by omega, by omega⟩, ⟨by omega, by omega⟩, fun b => ⟨⟨by omega, by omega⟩, ?_⟩, fun b => ⟨⟨by omega, by omega⟩, ?_⟩⟩⟩⟩
            · rw [if_pos a] at f1
              have : u = 0 := by omega
              subst this
              exact gl G _ _ _ _ _ 0 10 0 _ _ _ rfl (fun _ => ⟨_, rfl, rfl, rfl⟩)
            · rw [if_neg a, if_pos b] at f1
              rw [show 10 - p + 0 = (u : Int) by omega]
              exact gl G _ _ _ _ _ u 10 u _ _ _ rfl (fun _ => ⟨_, rfl, rfl, rfl⟩)
            · rw [if_neg a, if_neg b] at f1
              rw [show 10 - p + p = (u : Int) by omega]
              exact gl G _ _ _ _ _ u 10 u _ _ _ rfl (fun _ => ⟨_, rfl, rfl, rfl⟩)
        · rw [if_neg e3, if_neg (fun k => e3 k.2.2.2)]
          exact ⟨fun _ => ⟨_, rfl, rfl, rfl⟩, fun z => absurd rfl z⟩
      · rw [if_neg e2, if_neg (fun k => e2 k.2.2.1)]
        exact ⟨fun _ => ⟨_, rfl, rfl, rfl⟩, fun z => absurd rfl z⟩
    · rw [if_neg e1, if_neg (fun k => e1 k.2.1)]
      exact ⟨fun _ => ⟨_, rfl, rfl, rfl⟩, fun z => absurd rfl z⟩
  · rw [if_neg e, if_neg (fun k => e k.1)]
    exact ⟨fun _ => ⟨_, rfl, rfl, rfl⟩, fun z => absurd rfl z⟩
/-! rate -/
theorem upl_upl {h : jH} {k : Nat} {a b : Int64} : j_upl (j_upl h k a) k b = j_upl h k b := by
  unfold j_upl
  simp only [Prod.mk.injEq, true_and]
  funext x
  split <;> rfl
theorem upl_at {h : jH} {k : Nat} {a : Int64} : (j_upl h k a).2 k = a := by simp [j_upl]
def rtA (kind rn wt ln ap c : Int) : Int := if kind = 0 then rn else if kind = 1 then rn + wt else if kind = 2 then rn - ln else if kind = 3 then 2 * (rn + wt) else if kind = 4 then rn - ln + c else rn + ap
def rtT (kind : Int) (w : Int64) : Int64 := if kind = 0 then w + 1 else if kind = 1 then w + 10 + 1 else if kind = 2 then w + 100 + 1 else if kind = 3 then w + 1000 + 10 + 1 else if kind = 4 then w + 10000 + 100 + 1 else w + 100000 + 1
abbrev CR (S : jS) (M : jM) (av : List jV) (h : jH) (r : Int) (w : Int64) : Prop := CT S M av h (jPi fun x h' => x = r ∧ h' = j_upl h 0 w)
theorem ct_asCall {h : jH} (c : Nat) (hc : c < 7) : CR Sx M_X7_asCall [jR 0, jI c] h (h.1 8 c) (h.2 0 + 1) := by
  refine en_X7_asCall_0 (fun G => vc_X7_asCall_0_0 ⟨⟨by omega, by omega⟩, ?_⟩)
  rw [Int.toNat_natCast]
  exact ⟨_, rfl, rfl, rfl⟩
theorem ct_asDoctor {h : jH} (c : Nat) (hc : c < 7) (hr : 0 ≤ h.1 8 c ∧ h.1 8 c ≤ 1000) (hw : 0 ≤ h.1 21 c ∧ h.1 21 c ≤ 1000) : CR Sx M_X7_asDoctor [jR 0, jI c] h (h.1 8 c + h.1 21 c) (h.2 0 + 10 + 1) := by
  refine en_X7_asDoctor_0 (fun G => vc_X7_asDoctor_0_0 ⟨_, ct_asCall c hc, ?_⟩)
  rintro _ _ ⟨rfl, rfl⟩
  rw [Int.toNat_natCast, upl_upl, upl_at]
  have e1 : ∀ w, (j_upl h 0 w).1 = h.1 := fun w => rfl
  rw [e1, e1]
  exact ⟨⟨by omega, by omega⟩, ⟨by omega, by omega⟩, _, rfl, rfl, rfl⟩
theorem ct_asGossip {h : jH} (c : Nat) (hc : c < 7) (hr : 0 ≤ h.1 8 c ∧ h.1 8 c ≤ 1000) (hw : 0 ≤ h.1 7 c ∧ h.1 7 c ≤ 1000) : CR Sx M_X7_asGossip [jR 0, jI c] h (h.1 8 c - h.1 7 c) (h.2 0 + 100 + 1) := by
  refine en_X7_asGossip_0 (fun G => vc_X7_asGossip_0_0 ⟨_, ct_asCall c hc, ?_⟩)
  rintro _ _ ⟨rfl, rfl⟩
  rw [Int.toNat_natCast, upl_upl, upl_at]
  have e1 : ∀ w, (j_upl h 0 w).1 = h.1 := fun w => rfl
  rw [e1, e1]
  exact ⟨⟨by omega, by omega⟩, ⟨by omega, by omega⟩, _, rfl, rfl, rfl⟩
theorem ct_rate {h : jH} {N L : Nat} (hL : L ≤ 6) (hN : h.1 2 2 = N) (h7 : N ≤ 7) (ho : hok (h.1 18) L) (hk : lkL (h.1 5) (h.1 6) N L) (h8 : ∀ c, c < N → 0 ≤ h.1 8 c ∧ h.1 8 c ≤ 9) (hw : ∀ c, c < N → 0 ≤ h.1 21 c ∧ h.1 21 c ≤ 1000) (hl : ∀ c, c < N → 0 ≤ h.1 7 c ∧ h.1 7 c ≤ 20) (kind c : Int) : CT Sx M_X7_rate [jR 0, jI kind, jI c] h (jPi fun r h' => if (0 ≤ kind ∧ kind ≤ 5) ∧ (0 ≤ c ∧ c < N) then r = rtA kind (h.1 8 c.toNat) (h.1 21 c.toNat) (h.1 7 c.toNat) (apt (h.1 18) (h.1 5) (h.1 6) c.toNat) c ∧ h' = j_upl h 0 (rtT kind (h.2 0)) else r = -1000000 ∧ h' = h) := by
  refine en_X7_rate_0 (fun G => vc_X7_rate_0_0 ⟨_, ct_hasCall c, ?_⟩)
  rintro _ _ ⟨rfl, rfl⟩
  rename_i h
  rw [hN]
  by_cases e : 0 ≤ c ∧ c < (N : Int)
  · rw [if_pos e]
    obtain ⟨c, rfl⟩ : ∃ k : Nat, c = (k : Int) := ⟨c.toNat, by omega⟩
    have hc : c < N := by omega
    have a1 := h8 c hc
    have a2 := hw c hc
    have a3 := hl c hc
    have a4 := hk c hc
    have a5 := apt_bd ho a4.1 a4.2
    rw [Int.toNat_natCast]
    have e1 : ∀ w, (j_upl h 0 w).1 = h.1 := fun w => rfl
    refine ⟨fun z => absurd z (by decide), fun _ => ⟨fun k => ⟨_, ct_asCall c (by omega), ?_⟩, fun k => ⟨_, ct_asDoctor c (by omega) (by omega) (by omega), ?_⟩, fun k => ⟨_, ct_asGossip c (by omega) (by omega) (by omega), ?_⟩, fun k => ⟨_, en_X7_asFire_0 (post := jPi fun x h' => x = 2 * (h.1 8 c + h.1 21 c) ∧ h' = j_upl h 0 (h.2 0 + 1000 + 10 + 1)) (fun G => vc_X7_asFire_0_0 ⟨_, ct_asDoctor c (by omega) (by rw [e1]; omega) (by rw [e1]; omega), ?_⟩), ?_⟩, fun k => ⟨_, en_X7_asWife_0 (post := jPi fun x h' => x = h.1 8 c - h.1 7 c + c ∧ h' = j_upl h 0 (h.2 0 + 10000 + 100 + 1)) (fun G => vc_X7_asWife_0_0 ⟨_, ct_asGossip c (by omega) (by rw [e1]; omega) (by rw [e1]; omega), ?_⟩), ?_⟩, fun k => ⟨_, en_X7_asWrong_0 (post := jPi fun x h' => x = h.1 8 c + apt (h.1 18) (h.1 5) (h.1 6) c ∧ h' = j_upl h 0 (h.2 0 + 100000 + 1)) (fun G => vc_X7_asWrong_0_0 ⟨_, ct_asCall c (by omega), ?_⟩), ?_⟩, fun k => ⟨_, rfl, ?_⟩⟩⟩
    · rintro _ _ ⟨rfl, rfl⟩
      refine ⟨_, rfl, ?_⟩
      dsimp only; rw [if_pos (by omega)]; subst k; exact ⟨rfl, rfl⟩
    · rintro _ _ ⟨rfl, rfl⟩
      refine ⟨_, rfl, ?_⟩
      dsimp only; rw [if_pos (by omega)]; subst k; exact ⟨rfl, rfl⟩
    · rintro _ _ ⟨rfl, rfl⟩
      refine ⟨_, rfl, ?_⟩
      dsimp only; rw [if_pos (by omega)]; subst k; exact ⟨rfl, rfl⟩
    · rintro _ _ ⟨rfl, rfl⟩
      rw [upl_upl, upl_at, e1]
      exact ⟨⟨by omega, by omega⟩, _, rfl, rfl, rfl⟩
    · rintro _ _ ⟨rfl, rfl⟩
      refine ⟨_, rfl, ?_⟩
      dsimp only; rw [if_pos (by omega)]; subst k; exact ⟨rfl, rfl⟩
    · rintro _ _ ⟨rfl, rfl⟩
      rw [upl_upl, upl_at, e1]
      exact ⟨⟨by omega, by omega⟩, _, rfl, rfl, rfl⟩
    · rintro _ _ ⟨rfl, rfl⟩
      refine ⟨_, rfl, ?_⟩
      dsimp only; rw [if_pos (by omega)]; subst k; exact ⟨rfl, rfl⟩
    · rintro _ _ ⟨rfl, rfl⟩
      rw [upl_upl, upl_at, e1]
      refine ⟨_, ct_apart_18 hL c (by omega) ho a4.1 a4.2, ?_⟩
      rintro _ _ ⟨rfl, rfl⟩
      exact ⟨⟨by rw [e1]; omega, by rw [e1]; omega⟩, _, rfl, rfl, rfl⟩
    · rintro _ _ ⟨rfl, rfl⟩
      refine ⟨_, rfl, ?_⟩
      dsimp only; rw [if_pos (by omega)]; subst k; exact ⟨rfl, rfl⟩
    · dsimp only; rw [if_neg (by omega)]; exact ⟨rfl, rfl⟩
  · rw [if_neg e]
    refine ⟨fun _ => ⟨_, rfl, ?_⟩, fun z => absurd rfl z⟩
    dsimp only; rw [if_neg (fun k => e k.2)]; exact ⟨rfl, rfl⟩
theorem cm_rankOf {h : jH} (c : Nat) (hc : c < 7) : CR Sm M_X8_rankOf [jR 0, jI c] h (mR h c) (h.2 0 + 1) := by
  refine en_X8_rankOf_0 (fun G => vc_X8_rankOf_0_0 ⟨⟨by omega, by omega⟩, ⟨by omega, by omega⟩, ⟨by omega, by omega⟩, ?_⟩)
  rw [show Int.toNat (5 * (c : Int) + 4) = 5 * c + 4 by omega]
  exact ⟨_, rfl, rfl, rfl⟩
theorem cm_doctorOf {h : jH} (c : Nat) (hc : c < 7) (hr : 0 ≤ mR h c ∧ mR h c ≤ 1000) (hw : 0 ≤ mW h 5 c ∧ mW h 5 c ≤ 1000) : CR Sm M_X8_doctorOf [jR 0, jI c] h (mR h c + mW h 5 c) (h.2 0 + 10 + 1) := by
  refine en_X8_doctorOf_0 (fun G => vc_X8_doctorOf_0_0 ⟨_, cm_rankOf c hc, ?_⟩)
  rintro _ _ ⟨rfl, rfl⟩
  rw [upl_upl, upl_at, show Int.toNat (21 + (c : Int)) = 21 + c by omega]
  have e1 : ∀ w, (j_upl h 0 w).1 5 (21 + c) = mW h 5 c := fun w => rfl
  have e2 : ∀ w, mR (j_upl h 0 w) c = mR h c := fun w => rfl
  rw [e1, e2]
  exact ⟨⟨by omega, by omega⟩, ⟨by omega, by omega⟩, ⟨by omega, by omega⟩, _, rfl, rfl, rfl⟩
theorem cm_gossipOf {h : jH} (c : Nat) (hc : c < 7) (hr : 0 ≤ mR h c ∧ mR h c ≤ 1000) (hw : 0 ≤ mN h c ∧ mN h c ≤ 1000) : CR Sm M_X8_gossipOf [jR 0, jI c] h (mR h c - mN h c) (h.2 0 + 100 + 1) := by
  refine en_X8_gossipOf_0 (fun G => vc_X8_gossipOf_0_0 ⟨_, cm_rankOf c hc, ?_⟩)
  rintro _ _ ⟨rfl, rfl⟩
  rw [upl_upl, upl_at, show Int.toNat (5 * (c : Int) + 3) = 5 * c + 3 by omega]
  have e1 : ∀ w, (j_upl h 0 w).1 4 (5 * c + 3) = mN h c := fun w => rfl
  have e2 : ∀ w, mR (j_upl h 0 w) c = mR h c := fun w => rfl
  rw [e1, e2]
  exact ⟨⟨by omega, by omega⟩, ⟨by omega, by omega⟩, ⟨by omega, by omega⟩, ⟨by omega, by omega⟩, _, rfl, rfl, rfl⟩
theorem cm_rate {h : jH} {N L : Nat} (hL : L ≤ 6) (hN : h.1 0 15 = N) (h7 : N ≤ 7) (ho : hok (mO h 5) L) (hk : lkL (mF h) (mT h) N L) (h8 : ∀ c, c < N → 0 ≤ mR h c ∧ mR h c ≤ 9) (hw : ∀ c, c < N → 0 ≤ mW h 5 c ∧ mW h 5 c ≤ 1000) (hl : ∀ c, c < N → 0 ≤ mN h c ∧ mN h c ≤ 20) (kind c : Int) : CT Sm M_X8_rate [jR 0, jI kind, jI c] h (jPi fun r h' => if (0 ≤ kind ∧ kind ≤ 5) ∧ (0 ≤ c ∧ c < N) then r = rtA kind (mR h c.toNat) (mW h 5 c.toNat) (mN h c.toNat) (apt (mO h 5) (mF h) (mT h) c.toNat) c ∧ h' = j_upl h 0 (rtT kind (h.2 0)) else r = -1000000 ∧ h' = h) := by
  refine en_X8_rate_0 (fun G => vc_X8_rate_0_0 ⟨_, cm_in kind 0 5, ?_⟩)
  rintro _ _ ⟨rfl, rfl⟩
  rename_i h
  by_cases e0 : 0 ≤ kind ∧ kind ≤ 5
  · rw [if_pos e0]
    refine ⟨fun z => absurd z (by decide), fun _ => ⟨_, cm_isCall c (by omega), ?_⟩⟩
    rintro _ _ ⟨rfl, rfl⟩
    rename_i h
    rw [hN]
    by_cases e : 0 ≤ c ∧ c < (N : Int)
    · rw [if_pos e]
      obtain ⟨c, rfl⟩ : ∃ k : Nat, c = (k : Int) := ⟨c.toNat, by omega⟩
      have hc : c < N := by omega
      have a1 := h8 c hc
      have a2 := hw c hc
      have a3 := hl c hc
      have a4 := hk c hc
      have a5 := apt_bd ho a4.1 a4.2
      rw [Int.toNat_natCast]
      have e2 : ∀ w, mR (j_upl h 0 w) c = mR h c := fun w => rfl
      have e3 : ∀ w, mW (j_upl h 0 w) 5 c = mW h 5 c := fun w => rfl
      have e4 : ∀ w, mN (j_upl h 0 w) c = mN h c := fun w => rfl
      have e5 : ∀ w, mF (j_upl h 0 w) c = mF h c := fun w => rfl
      have e6 : ∀ w, mT (j_upl h 0 w) c = mT h c := fun w => rfl
      refine ⟨fun z => absurd z (by decide), fun _ => ⟨fun k => ⟨_, cm_rankOf c (by omega), ?_⟩, fun k => ⟨_, cm_doctorOf c (by omega) (by omega) (by omega), ?_⟩, fun k => ⟨_, cm_gossipOf c (by omega) (by omega) (by omega), ?_⟩, fun k => ⟨_, cm_doctorOf c (by omega) (by rw [e2]; omega) (by rw [e3]; omega), ?_⟩, fun k => ⟨_, cm_gossipOf c (by omega) (by rw [e2]; omega) (by rw [e4]; omega), ?_⟩, fun k => ⟨_, cm_rankOf c (by omega), ?_⟩⟩⟩
      · rintro _ _ ⟨rfl, rfl⟩
        refine ⟨_, rfl, ?_⟩
        dsimp only; rw [if_pos (by omega)]; subst k; exact ⟨rfl, rfl⟩
      · rintro _ _ ⟨rfl, rfl⟩
        refine ⟨_, rfl, ?_⟩
        dsimp only; rw [if_pos (by omega)]; subst k; exact ⟨rfl, rfl⟩
      · rintro _ _ ⟨rfl, rfl⟩
        refine ⟨_, rfl, ?_⟩
        dsimp only; rw [if_pos (by omega)]; subst k; exact ⟨rfl, rfl⟩
      · rintro _ _ ⟨rfl, rfl⟩
        rw [upl_upl, upl_at, e2, e3]
        refine ⟨⟨by omega, by omega⟩, _, rfl, ?_⟩
        dsimp only; rw [if_pos (by omega)]; subst k; exact ⟨rfl, rfl⟩
      · rintro _ _ ⟨rfl, rfl⟩
        rw [upl_upl, upl_at, e2, e4]
        refine ⟨⟨by omega, by omega⟩, _, rfl, ?_⟩
        dsimp only; rw [if_pos (by omega)]; subst k; exact ⟨rfl, rfl⟩
      · rintro _ _ ⟨rfl, rfl⟩
        rw [upl_upl, upl_at, e2]
        refine ⟨_, cm_fromOf c (by omega), ?_⟩
        rintro _ _ ⟨rfl, rfl⟩
        refine ⟨_, cm_holeOf _ (by rw [e5]; omega), ?_⟩
        rintro _ _ ⟨rfl, rfl⟩
        refine ⟨_, cm_toOf c (by omega), ?_⟩
        rintro _ _ ⟨rfl, rfl⟩
        refine ⟨_, cm_holeOf _ (by rw [e6]; omega), ?_⟩
        rintro _ _ ⟨rfl, rfl⟩
        have b1 := ho (mF h c).toNat (by omega)
        have b2 := ho (mT h c).toNat (by omega)
        have e7 : ∀ w, mO (j_upl h 0 w) 5 = mO h 5 := fun w => rfl
        rw [e5, e6, e7]
        refine ⟨_, cm_distance _ _ (by omega) (by omega), ?_⟩
        rintro _ _ ⟨rfl, rfl⟩
        have a6 : (if 0 ≤ mO h 5 (mF h c).toNat - mO h 5 (mT h c).toNat then mO h 5 (mF h c).toNat - mO h 5 (mT h c).toNat else -(mO h 5 (mF h c).toNat - mO h 5 (mT h c).toNat)) = apt (mO h 5) (mF h) (mT h) c := rfl
        rw [a6]
        refine ⟨⟨by omega, by omega⟩, _, rfl, ?_⟩
        dsimp only; rw [if_pos (by omega)]
        have : kind = 5 := by omega
        subst this; exact ⟨rfl, rfl⟩
    · rw [if_neg e]
      refine ⟨fun _ => ⟨_, rfl, ?_⟩, fun z => absurd rfl z⟩
      dsimp only; rw [if_neg (fun k => e k.2)]; exact ⟨rfl, rfl⟩
  · rw [if_neg e0]
    refine ⟨fun _ => ⟨_, rfl, ?_⟩, fun z => absurd rfl z⟩
    dsimp only; rw [if_neg (fun k => e0 k.1)]; exact ⟨rfl, rfl⟩
