/-! the model: holes -/
theorem cm_longCords {h : jH} {N L : Nat} (hL : L ≤ 6) (hN : h.1 0 15 = N) (h7 : N ≤ 7) (ho : hok (mO h 5) L) (hk : lkL (mF h) (mT h) N L) : CF Sm M_X8_longCords [jR 0] h (alls (mO h 5) (mF h) (mT h) N) := by
  refine en_X8_longCords_0 (fun G => vc_X8_longCords_0_0 ⟨_, cm_longBy_5 hL hN h7 ho hk, ?_⟩)
  rintro _ _ ⟨rfl, rfl⟩
  exact ⟨_, rfl, rfl, rfl⟩
theorem cm_change {h : jH} {N L : Nat} (hL : h.1 0 13 = L) (hL6 : L ≤ 6) (hN : h.1 0 15 = N) (h7 : N ≤ 7) (ho : hok (mO h 5) L) (hk : lkL (mF h) (mT h) N L) : CT Sm M_X8_change [jR 0] h (jPi fun r g => MK h g ∧ r = (xs3 (mO h 5) (mF h) (mT h) N L L).2) := by
  refine en_X8_change_0 (fun G => vc_X8_change_0_0 ⟨_, cm_longCords hL6 hN h7 ho hk, ?_⟩)
  rintro _ _ ⟨rfl, rfl⟩
  rename_i h
  refine jf_loop L (fun a lv g => MQz h g ∧ ∃ u v, lv = [jR 0, jI (xs3 (mO h 5) (mF h) (mT h) N L a).2, jI (xs3 (mO h 5) (mF h) (mT h) N L a).1, jI (a : Nat), u, v]) ?_ ?_ 0 (Nat.zero_le _) _ _ ⟨⟨fun _ _ _ _ => rfl, rfl⟩, _, _, rfl⟩
  · rintro a ha lv g ⟨gQ, u, v, rfl⟩ kk
    have eL : g.1 0 13 = L := by rw [gQ.mk.2.2 13 (by decide)]; exact hL
    refine vc_X8_change_0_10 ⟨fun q => absurd q (by omega), fun q => ⟨⟨by omega, by omega⟩, ?_⟩⟩
    have n1 : xs3 (mO h 5) (mF h) (mT h) N L (a + 1) = xs2 (mO h 5) (mF h) (mT h) N a (xs3 (mO h 5) (mF h) (mT h) N L a) L := rfl
    rw [n1] at kk
    generalize xs3 (mO h 5) (mF h) (mT h) N L a = s at kk ⊢
    refine jf_loop (L - (a + 1)) (fun t lv g => MQz h g ∧ ∃ v, lv = [jR 0, jI (xs2 (mO h 5) (mF h) (mT h) N a s (a + 1 + t)).2, jI (xs2 (mO h 5) (mF h) (mT h) N a s (a + 1 + t)).1, jI (a : Nat), jI ((a + 1 + t : Nat) : Int), v]) ?_ ?_ 0 (Nat.zero_le _) _ _ ⟨gQ, v, by rw [Nat.add_zero, xs2_le (Nat.le_refl _)]; rfl⟩
    · rintro t ht lv g ⟨gQ, v, rfl⟩ k2
      have eL : g.1 0 13 = L := by rw [gQ.mk.2.2 13 (by decide)]; exact hL
      generalize hb : a + 1 + t = b at *
      have n2 : xs2 (mO h 5) (mF h) (mT h) N a s (a + 1 + (t + 1)) = xs1 (mO h 5) (mF h) (mT h) N (xs2 (mO h 5) (mF h) (mT h) N a s b) a b := by
        rw [show a + 1 + (t + 1) = b + 1 by omega]
        simp only [xs2]
        rw [if_neg (by omega)]
      rw [n2, show a + 1 + (t + 1) = b + 1 by omega] at k2
      generalize xs2 (mO h 5) (mF h) (mT h) N a s b = s2 at k2 ⊢
      refine vc_X8_change_0_23 ⟨fun q => absurd q (by omega), fun q => ⟨_, cm_copy_5_6 0 0 (by decide) (by decide), ?_⟩⟩
      rintro _ rfl
      refine ⟨⟨by omega, by omega⟩, ⟨by omega, by omega⟩, ⟨by omega, by omega⟩, ⟨by omega, by omega⟩, ?_⟩
      rw [show Int.toNat (1 + (a : Int)) = 1 + a by omega, show Int.toNat (1 + (b : Int)) = 1 + b by omega]
      have f0 : MQz h (j_up (j_up (upr g 6 (fun j => if 0 ≤ j ∧ j < 0 + 28 then g.1 5 (0 + (j - 0)) else g.1 6 j)) 6 (1 + a) ((upr g 6 (fun j => if 0 ≤ j ∧ j < 0 + 28 then g.1 5 (0 + (j - 0)) else g.1 6 j)).1 5 (1 + b))) 6 (1 + b) ((upr g 6 (fun j => if 0 ≤ j ∧ j < 0 + 28 then g.1 5 (0 + (j - 0)) else g.1 6 j)).1 5 (1 + a))) := ⟨fun k a1 a2 a3 => by rw [up_ne a1, up_ne a1, upr_ne a1]; exact gQ.1 k a1 a2 a3, gQ.2⟩
      have f1 : ∀ l, l < L → (j_up (j_up (upr g 6 (fun j => if 0 ≤ j ∧ j < 0 + 28 then g.1 5 (0 + (j - 0)) else g.1 6 j)) 6 (1 + a) ((upr g 6 (fun j => if 0 ≤ j ∧ j < 0 + 28 then g.1 5 (0 + (j - 0)) else g.1 6 j)).1 5 (1 + b))) 6 (1 + b) ((upr g 6 (fun j => if 0 ≤ j ∧ j < 0 + 28 then g.1 5 (0 + (j - 0)) else g.1 6 j)).1 5 (1 + a))).1 6 (1 + l) = swp (mO h 5) a b l := by
        intro l hl
        have e5 : g.1 5 = h.1 5 := gQ.mk.2.1 5 (by decide)
        have e55 : ∀ j, (upr g 6 (fun j => if 0 ≤ j ∧ j < 0 + 28 then g.1 5 (0 + (j - 0)) else g.1 6 j)).1 5 j = h.1 5 j := fun j => by rw [upr_ne (by decide), e5]
        rw [e55, e55]
        unfold swp mO
        by_cases e1 : l = b
        · rw [if_pos e1, e1, up_eq]
        · rw [if_neg e1, up_out (by omega)]
          by_cases e2 : l = a
          · rw [if_pos e2, e2, up_eq]
          · rw [if_neg e2, up_out (by omega), upr_same, if_pos (by omega), Nat.zero_add, Nat.sub_zero, e5]
      generalize j_up (j_up (upr g 6 (fun j => if 0 ≤ j ∧ j < 0 + 28 then g.1 5 (0 + (j - 0)) else g.1 6 j)) 6 (1 + a) ((upr g 6 (fun j => if 0 ≤ j ∧ j < 0 + 28 then g.1 5 (0 + (j - 0)) else g.1 6 j)).1 5 (1 + b))) 6 (1 + b) ((upr g 6 (fun j => if 0 ≤ j ∧ j < 0 + 28 then g.1 5 (0 + (j - 0)) else g.1 6 j)).1 5 (1 + a)) = g3 at f0 f1 ⊢
      have e0 : g3.1 0 15 = N := by rw [f0.mk.2.2 15 (by decide)]; exact hN
      obtain ⟨c1, c2, -⟩ := f0.mk.c4
      refine ⟨_, cm_longBy_6 hL6 e0 h7 (fun l hl => by show 0 ≤ g3.1 6 (1 + l) ∧ g3.1 6 (1 + l) < 6; rw [f1 l hl]; exact hok_swp ho ha (by omega) l hl) (by rw [c1, c2]; exact hk), ?_⟩
      rintro _ _ ⟨rfl, rfl⟩
      rename_i g3
      have es : alls (fun l => g3.1 6 (1 + l)) (mF g3) (mT g3) N = alls (swp (mO h 5) a b) (mF h) (mT h) N := by
        rw [c1, c2]
        exact alls_congr hk (Nat.le_refl _) (fun l hl => f1 l hl) (fun c hc => ⟨rfl, rfl⟩)
      rw [es]
      unfold xs1 at k2
      refine ⟨fun z => ⟨⟨by omega, by omega⟩, ?_⟩, fun z => ⟨⟨by omega, by omega⟩, ⟨by omega, by omega⟩, ⟨by omega, by omega⟩, ?_⟩⟩
      · rw [if_neg (by omega)] at k2
        exact k2 _ _ ⟨f0, _, rfl⟩
      · rw [if_pos (by omega)] at k2
        exact k2 _ _ ⟨f0, _, rfl⟩
    · rintro lv g ⟨gQ, v, rfl⟩
      have eL : g.1 0 13 = L := by rw [gQ.mk.2.2 13 (by decide)]; exact hL
      rw [show a + 1 + (L - (a + 1)) = L by omega]
      exact vc_X8_change_0_23 ⟨fun q => ⟨⟨by omega, by omega⟩, kk _ _ ⟨gQ, _, _, rfl⟩⟩, fun q => absurd q (by omega)⟩
  · rintro lv g ⟨gQ, u, v, rfl⟩
    have eL : g.1 0 13 = L := by rw [gQ.mk.2.2 13 (by decide)]; exact hL
    exact vc_X8_change_0_10 ⟨fun q => ⟨_, rfl, gQ.mk, rfl⟩, fun q => absurd q (by omega)⟩
/-- what bestHoles answers -/
def bhR (B : Int × (Nat → Int)) (k : Int) : Int := if 0 ≤ k then B.2 k.toNat else B.1
theorem cm_bestHoles {h : jH} {N L : Nat} (hL : h.1 0 13 = L) (hL6 : L ≤ 6) (hN : h.1 0 15 = N) (h7 : N ≤ 7) (hk : lkL (mF h) (mT h) N L) (k : Int) : CT Sm M_X8_bestHoles [jR 0, jI k] h (jPi fun r g => MK h g ∧
    (¬ (-1 ≤ k ∧ k ≤ (L : Int) - 1) ∧ r = -1 ∨ (-1 ≤ k ∧ k ≤ (L : Int) - 1) ∧ ∃ (f0 b0 : Nat → Int), (∀ l, l < L → f0 l = ((l : Nat) : Int)) ∧ r = bhR (bgo (fun f => alls f (mF h) (mT h) N) L 720 f0 (2147483647, b0)) k)) := by
  refine en_X8_bestHoles_0 (fun G => vc_X8_bestHoles_0_0 ⟨⟨by omega, by omega⟩, _, cm_in k (-1) _, ?_⟩)
  rintro _ _ ⟨rfl, rfl⟩
  rename_i h
  rw [hL]
  by_cases e : -1 ≤ k ∧ k ≤ (L : Int) - 1
  · rw [if_pos e]
    refine ⟨fun z => absurd z (by decide), fun _ => ?_⟩
    refine jf_loop L (fun c lv g => ∃ f : Nat → Int, lv = [jR 0, jI k, jI (c : Nat), jU, jU, jU] ∧ g = upr h 11 f ∧ ∀ l, l < c → f l = ((l : Nat) : Int)) ?_ ?_ 0 (Nat.zero_le _) _ _ ⟨h.1 11, rfl, (upr_id (fun _ => rfl)).symm, fun l hl => by omega⟩
    · rintro c hc lv g ⟨f, rfl, rfl, hf⟩ kk
      have e0 : (upr h 11 f).1 0 13 = L := hL
      refine vc_X8_bestHoles_0_18 ⟨fun q => absurd q (by omega), fun q => ⟨⟨by omega, by omega⟩, ⟨by omega, by omega⟩, kk _ _ ⟨_, rfl, up_upr, fun l hl => ?_⟩⟩⟩
      rw [Int.toNat_natCast]
      by_cases e : l = c
      · simp [e]
      · simp only [e, if_false]
        exact hf l (by omega)
    · rintro lv g ⟨f0, rfl, rfl, hf0⟩
      have e0 : (upr h 11 f0).1 0 13 = L := hL
      refine vc_X8_bestHoles_0_18 ⟨fun _ => ?_, fun q => absurd q (by omega)⟩
      have i0 : inj f0 L := fun i j hi hj hij => by rw [hf0 i hi, hf0 j hj] at hij; omega
      have hm0 : mu f0 L L < 720 := Nat.lt_of_lt_of_le (mu_lt (Nat.le_refl _)) (fct_6 L (by omega))
      obtain ⟨B, hB⟩ : ∃ B, B = bgo (fun f => alls f (mF h) (mT h) N) L 720 f0 (2147483647, h.1 12) := ⟨_, rfl⟩
      have fin : ∀ r g, MQz h g → r = bhR B k → (jPi fun r g => MK h g ∧
        (¬ (-1 ≤ k ∧ k ≤ (L : Int) - 1) ∧ r = -1 ∨ (-1 ≤ k ∧ k ≤ (L : Int) - 1) ∧ ∃ (f0 b0 : Nat → Int), (∀ l, l < L → f0 l = ((l : Nat) : Int)) ∧ r = bhR (bgo (fun f => alls f (mF h) (mT h) N) L 720 f0 (2147483647, b0)) k)) (some (jI r)) g := fun r g hg hr => ⟨_, rfl, hg.mk, Or.inr ⟨e, f0, h.1 12, hf0, by rw [hr, hB]⟩⟩
      generalize (jPi fun r g => MK h g ∧
        (¬ (-1 ≤ k ∧ k ≤ (L : Int) - 1) ∧ r = -1 ∨ (-1 ≤ k ∧ k ≤ (L : Int) - 1) ∧ ∃ (f0 b0 : Nat → Int), (∀ l, l < L → f0 l = ((l : Nat) : Int)) ∧ r = bhR (bgo (fun f => alls f (mF h) (mT h) N) L 720 f0 (2147483647, b0)) k)) = Q at fin ⊢
      have done : ∀ (x3 : Int) (u v : jV) (g : jH), MQz h g → 0 ≤ x3 → x3 = B.1 → (∀ l, l < L → g.1 12 l = B.2 l) → WV Sm G M_X8_bestHoles Q 43 [jR 0, jI k, jI x3, jI 0, u, v] [] g := by
        intro x3 u v g hg h0 hx hb
        refine vc_X8_bestHoles_0_43 ⟨fun _ => ⟨fun z => ⟨⟨by omega, by omega⟩, fin _ _ hg ?_⟩, fun z => fin _ _ hg ?_⟩, fun q => absurd rfl q⟩
        · unfold bhR; rw [if_pos z]; exact hb _ (by omega)
        · unfold bhR; rw [if_neg z]; exact hx
      have main : ∀ (m : Nat) (f : Nat → Int) (x3 : Int) (u v : jV) (g : jH) (b : Int × (Nat → Int)), mu f L L < m → inj f L → hok f L → g.1 11 = f → MQz h g → (x3 = -1 ∧ b.1 = 2147483647 ∨ 0 ≤ x3 ∧ x3 = b.1 ∧ ∀ l, l < L → g.1 12 l = b.2 l) → bgo (fun f => alls f (mF h) (mT h) N) L m f b = B → WV Sm G M_X8_bestHoles Q 43 [jR 0, jI k, jI x3, jI 1, u, v] [] g := by
        intro m
        induction m with
        | zero => intro f x3 u v g b z; omega
        | succ m ih =>
          intro f x3 u v g b z1 hi hf gf gQ gb hB
          have gk := gQ.mk
          have e0 : g.1 0 15 = N := by rw [gk.2.2 15 (by decide)]; exact hN
          have eL : g.1 0 13 = L := by rw [gk.2.2 13 (by decide)]; exact hL
          obtain ⟨e1, e2, e3, e4, e5⟩ := gk.c4
          have g0 : (fun l => g.1 11 (0 + l)) = f := by funext l; rw [Nat.zero_add, gf]
          refine vc_X8_bestHoles_0_43 ⟨fun q => absurd q (by decide), fun _ => ⟨_, cm_longBy_11 hL6 e0 h7 (by rw [g0]; exact hf) (by rw [e1, e2]; exact hk), ?_⟩⟩
          rintro _ _ ⟨rfl, rfl⟩
          rename_i g
          rw [g0, e1, e2, eL]
          have p := alls_bd (n := N) hf hk (Nat.le_refl _)
          have step : ∀ (x3 : Int) (u v : jV) (g3 : jH) (b3 : Int × (Nat → Int)), g3.1 11 = f → MQz h g3 → 0 ≤ x3 → x3 = b3.1 → (∀ l, l < L → g3.1 12 l = b3.2 l) → (if alls f (mF h) (mT h) N < b.1 then (alls f (mF h) (mT h) N, f) else b) = b3 →
              ∃ post : Int → jH → Prop, CT Sm M_X8_nextRow [jR 0, jR 11, jI (L : Nat)] g3 (jPi post) ∧ ∀ (r4 : Int) (h5 : jH), post r4 h5 → (WV Sm G M_X8_bestHoles Q 43 [jR 0, jI k, jI x3, jI r4, u, v] [] h5) := by
            intro x3 u v g3 b3 q1 q2 q3 q4 q5 q6
            refine ⟨_, cm_nextRow L (by omega), ?_⟩
            intro r4 h5 hnx
            simp only [bgo] at hB
            rw [q6] at hB
            rcases hnx with ⟨n1, rfl, rfl⟩ | ⟨g', n1, rfl, rfl⟩
            · rw [q1] at n1
              rw [n1] at hB
              refine done x3 u v _ q2 q3 ?_ ?_
              · rw [q4, ← hB]
              · intro l hl
                rw [q5 l hl, ← hB]
            · rw [q1] at n1
              rw [n1] at hB
              have := nx_mu hi n1
              exact ih g' x3 u v (upr g3 11 g') b3 (by omega) (nx_inj hi n1) (nx_hok hf n1) upr_same ⟨fun a a1 a2 a3 => by rw [upr_ne a2]; exact q2.1 a a1 a2 a3, q2.2⟩ (Or.inr ⟨q3, q4, fun l hl => by rw [upr_ne (by decide)]; exact q5 l hl⟩) hB
          have take : alls f (mF h) (mT h) N < b.1 → WV Sm G M_X8_bestHoles Q 74 [jR 0, jI k, jI (alls f (mF h) (mT h) N), jI 1, jI (alls f (mF h) (mT h) N), jI 0] [] g := by
            intro hlt
            refine WV.hp (upr_id (k := 12) (f := fun j => if j < 0 then f j else g.1 12 j) (fun j => by rw [if_neg (by omega)])) (jf_fun L (fun c => [jR 0, jI k, jI (alls f (mF h) (mT h) N), jI 1, jI (alls f (mF h) (mT h) N), jI (c : Nat)]) (fun c => upr g 12 (fun j => if j < c then f j else g.1 12 j)) (fun c hc kk => ?_) ?_ 0 (Nat.zero_le _))
            · have eL2 : (upr g 12 (fun j => if j < c then f j else g.1 12 j)).1 0 13 = L := eL
              refine vc_X8_bestHoles_0_74 ⟨fun q => absurd q (by omega), fun q => ⟨⟨by omega, by omega⟩, ⟨by omega, by omega⟩, WV.hp ?_ kk⟩⟩
              rw [Int.toNat_natCast, up_upr, upr_ne (by decide), gf]
              congr 1
              funext j
              by_cases ej : j = c
              · rw [if_pos (by omega), if_pos ej, ej]
              · rw [if_neg ej]
                by_cases z : j < c
                · rw [if_pos z, if_pos (by omega)]
                · rw [if_neg z, if_neg (by omega)]
            · have eL2 : (upr g 12 (fun j => if j < L then f j else g.1 12 j)).1 0 13 = L := eL
              refine vc_X8_bestHoles_0_74 ⟨fun _ => ?_, fun q => absurd q (by omega)⟩
              rw [eL2]
              refine step _ _ _ _ (alls f (mF h) (mT h) N, f) (by rw [upr_ne (by decide)]; exact gf) ⟨fun a a1 a2 a3 => by rw [upr_ne a3]; exact gQ.1 a a1 a2 a3, gQ.2⟩ p.1 rfl (fun l hl => ?_) (if_pos hlt)
              rw [upr_same, if_pos hl]
          rcases gb with ⟨y1, y2⟩ | ⟨y1, y2, y3⟩
          · exact ⟨fun _ => take (by omega), fun q => absurd q (by omega)⟩
          · refine ⟨fun q => absurd q (by omega), fun _ => ⟨fun q => ?_, fun q => take (by omega)⟩⟩
            exact step _ _ _ _ b gf gQ y1 y2 y3 (if_neg (by omega))
      exact main 720 f0 (-1) jU jU _ (2147483647, h.1 12) hm0 i0 (fun l hl => by rw [hf0 l hl]; omega) upr_same ⟨fun a a1 a2 a3 => upr_ne a2, rfl⟩ (Or.inl ⟨rfl, rfl⟩) hB.symm
  · rw [if_neg e]
    exact ⟨fun _ => ⟨_, rfl, MK.rfl, Or.inl ⟨e, rfl⟩⟩, fun z => absurd rfl z⟩
