/-! pairs: rate, text, days, rows, holes -/
def PRl (Mx Mm : jM) (av : List jV) (a b : jH) : Prop := ∃ P : Int64 → jH → Prop, CT Sx Mx (jR 0 :: av) a (jPl P) ∧ ∀ r a2, P r a2 → CT Sm Mm (jR 0 :: av) b (jPl fun r2 b2 => r2 = r ∧ Rel a2 b2)
theorem p_trace {a b : jH} (hR : Rel a b) : PRl M_X7_trace M_X8_trace [] a b := by
  obtain ⟨N, L, hB, hN, hP, hI, hT, hw⟩ := id hR
  refine ⟨fun r a2 => r = a.2 0 ∧ a2 = a, en_X7_trace_0 (fun G => vc_X7_trace_0_0 ⟨_, rfl, rfl, rfl⟩), ?_⟩
  rintro _ _ ⟨rfl, rfl⟩
  exact en_X8_trace_0 (fun G => vc_X8_trace_0_0 ⟨_, rfl, hw.symm, hR⟩)
theorem PR.m {Mx Mm : jM} {av : List jV} {a b a2 : jH} {r : Int} (hx : CT Sx Mx (jR 0 :: av) a (jPi fun x h => x = r ∧ h = a2)) (hm : CT Sm Mm (jR 0 :: av) b (jPi fun x h => x = r ∧ Rel a2 h)) : PR Mx Mm av a b := by
  refine ⟨_, hx, ?_⟩
  rintro _ _ ⟨rfl, rfl⟩
  exact hm
theorem Rel.w {a b : jH} (h : Rel a b) (w : Int64) : Rel (j_upl a 0 w) (j_upl b 0 w) := by
  obtain ⟨N, L, hB, hN, hP, hI, hT, hw⟩ := h
  exact ⟨N, L, hB, hN, hP, hI, hT, by rw [upl_at, upl_at]⟩
theorem p_rate {a b : jH} (hR : Rel a b) (kind c : Int) : PR M_X7_rate M_X8_rate [jI kind, jI c] a b := by
  obtain ⟨N, L, hB, hN, hP, hI, hT, hw⟩ := id hR
  have hp := hN.pf hB.1.2.2
  have hL := hB.2.1.2.2.2
  have hm := hp.1
  have kx := ct_rate hL hB.1.1 hB.1.2.2 (hp.hkx hL) hB.lk (fun c hc => (hB.2.2.2 c hc).2.2.2.2.2) (fun c hc => by have := (hp.2.2.2.1 c hc).2.2.1; omega) (fun c hc => by have := (hB.2.2.2 c hc).2.2.2.1; omega) kind c
  have km := cm_rate hL hB.1.2.1 hB.1.2.2 (hp.hkm hL) hB.lkm (fun c hc => by rw [← hB.hr c hc]; exact (hB.2.2.2 c hc).2.2.2.2.2) (fun c hc => by have := (hp.2.2.2.1 c hc); omega) (fun c hc => by rw [← hB.hl c hc]; have := (hB.2.2.2 c hc).2.2.2.1; omega) kind c
  by_cases e : (0 ≤ kind ∧ kind ≤ 5) ∧ (0 ≤ c ∧ c < (N : Int))
  · simp only [if_pos e] at kx km
    refine PR.m kx (km.post ?_)
    rintro _ _ ⟨r, rfl, rfl, rfl⟩
    have hc : c.toNat < N := by omega
    have e1 : apt (a.1 18) (a.1 5) (a.1 6) c.toNat = apt (mO b 5) (mF b) (mT b) c.toNat := by
      have k := hB.lk c.toNat hc
      unfold apt
      rw [← hB.hf _ hc, ← hB.ht _ hc, (hp.2.1 (a.1 5 c.toNat).toNat (by omega)).1, (hp.2.1 (a.1 6 c.toNat).toNat (by omega)).1]
    refine ⟨_, rfl, ?_, ?_⟩
    · rw [e1, hB.hr _ hc, hB.hl _ hc, (hp.2.2.2.1 _ hc).2.1]
    · rw [hw]; exact hR.w _
  · simp only [if_neg e] at kx km
    exact PR.f hR kx km
theorem Rel.tx {a b a2 b2 : jH} (h : Rel a b) (x0 : ∀ k, k ≠ 0 → k ≠ 1 → a2.1 k = a.1 k) (m0 : ∀ k, k ≠ 0 → k ≠ 1 → b2.1 k = b.1 k) (m1 : ∀ j, j ≠ 0 → b2.1 0 j = b.1 0 j) (x2 : a2.2 = a.2) (m2 : b2.2 = b.2) (ht : RT a2 b2) : Rel a2 b2 := by
  obtain ⟨N, L, hB, hN, hP, hI, hT, hw⟩ := h
  exact ⟨N, L, hB.kp (fun k hk => x0 k (by omega) (by omega)) (m0 4 (by omega) (by omega)) (fun j hj => m1 j (by omega)), ((hN.pf hB.1.2.2).kp (fun k hk => x0 k (by omega) (by omega)) (m0 5 (by omega) (by omega))).rn hB.1.2.2, hP.kp (fun k hk => x0 k (by omega) (by omega)) (m0 9 (by omega) (by omega)) (m1 22 (by omega)), hI.kp (fun k hk => x0 k (by omega) (by omega)) (m0 7 (by omega) (by omega)) (m0 8 (by omega) (by omega)), ht, by rw [x2, m2]; exact hw⟩
theorem p_clear {a b : jH} (hR : Rel a b) : PR M_X7_clear M_X8_clear [] a b := by
  obtain ⟨N, L, hB, hN, hP, hI, ⟨n, t1, t2, t3, tt, t4⟩, hw⟩ := id hR
  refine PR.m (r := n) (a2 := j_up a 0 10 0) (en_X7_clear_0 (fun G => vc_X7_clear_0_0 ⟨_, rfl, t1, rfl⟩)) (en_X8_clear_0 (fun G => vc_X8_clear_0_0 ⟨_, rfl, t2, hR.tx (fun k h0 _ => up_ne h0) (fun k h0 _ => up_ne h0) (fun j hj => up_out hj) rfl rfl ⟨0, up_eq, up_eq, by omega, by rw [up_ne (by omega), up_ne (by omega)]; exact tt, fun j hj => absurd hj (by omega)⟩⟩))
theorem p_type {a b : jH} (hR : Rel a b) (w : Int) : PR M_X7_type M_X8_type [jI w] a b := by
  obtain ⟨N, L, hB, hN, hP, hI, ⟨n, t1, t2, t3, tt, t4⟩, hw⟩ := id hR
  by_cases e : 0 ≤ w ∧ w ≤ 255
  · by_cases e2 : n = 200
    · refine PR.f (r := -3) hR (en_X7_type_0 (fun G => vc_X7_type_0_0 ⟨fun q => absurd q (by omega), fun _ => ⟨fun _ => ⟨fun q => absurd q (by omega), fun _ => ⟨_, rfl, rfl, rfl⟩⟩, fun q => absurd e.2 q⟩⟩)) (en_X8_type_0 (fun G => vc_X8_type_0_0 ⟨_, cm_in w 0 255, ?_⟩))
      rintro _ _ ⟨rfl, rfl⟩
      rw [if_pos e]
      exact ⟨fun z => absurd z (by decide), fun _ => ⟨fun _ => ⟨_, rfl, rfl, rfl⟩, fun q => absurd (by omega) q⟩⟩
    · refine PR.m (r := n + 1) (a2 := j_up (j_up a 1 n w) 0 10 (n + 1)) (en_X7_type_0 (fun G => vc_X7_type_0_0 ⟨fun q => absurd q (by omega), fun _ => ⟨fun _ => ⟨fun q => ⟨by omega, ⟨by omega, by omega⟩, ?_⟩, fun q => absurd (by omega) q⟩, fun q => absurd e.2 q⟩⟩)) (en_X8_type_0 (fun G => vc_X8_type_0_0 ⟨_, cm_in w 0 255, ?_⟩))
      · rw [t1, Int.toNat_natCast]
        exact ⟨_, rfl, rfl, rfl⟩
      · rintro _ _ ⟨rfl, rfl⟩
        rename_i b
        rw [if_pos e]
        refine ⟨fun z => absurd z (by decide), fun _ => ⟨fun q => absurd q (by omega), fun q => ⟨by omega, ⟨by omega, by omega⟩, ?_⟩⟩⟩
        rw [t2, Int.toNat_natCast]
        refine ⟨_, rfl, rfl, hR.tx (fun k h0 h1 => by rw [up_ne h0, up_ne h1]) (fun k h0 h1 => by rw [up_ne h0, up_ne h1]) (fun j hj => by rw [up_out hj, up_ne (by omega)]) rfl rfl ⟨n + 1, by rw [up_eq]; rfl, by rw [up_eq]; rfl, by omega, ?_, fun j hj => ?_⟩⟩
        · rw [up_ne (k := 1) (k2 := 0) (by omega), up_ne (k := 1) (k2 := 0) (by omega)]
          funext j
          by_cases ej : j = n
          · rw [ej, up_eq, up_eq]
          · rw [up_out ej, up_out ej, tt]
        · rw [up_ne (k := 1) (k2 := 0) (by omega)]
          by_cases ej : j = n
          · rw [ej, up_eq]
            exact e
          · rw [up_out ej]
            exact t4 j (by omega)
  · refine PR.f (r := -1) hR (en_X7_type_0 (fun G => vc_X7_type_0_0 ⟨fun _ => ⟨_, rfl, rfl, rfl⟩, fun q => ⟨fun q2 => absurd (by omega) e, fun _ => ⟨_, rfl, rfl, rfl⟩⟩⟩)) (en_X8_type_0 (fun G => vc_X8_type_0_0 ⟨_, cm_in w 0 255, ?_⟩))
    rintro _ _ ⟨rfl, rfl⟩
    rw [if_neg e]
    exact ⟨fun _ => ⟨_, rfl, rfl, rfl⟩, fun z => absurd rfl z⟩
/-! days -/
theorem Ord.cg {k1 k2 : Nat → Int} {n : Nat} {f : Nat → Int} (h : ∀ c, c < n → k1 c = k2 c) (ho : Ord k1 n f) : Ord k2 n f := by
  intro i hi
  obtain ⟨d, h1, h2, h3⟩ := ho i hi
  refine ⟨d, h1, h2, ?_⟩
  rw [← h3]
  unfold rk
  exact cnt_congr (fun e he => by unfold ahead; rw [h e he, h d h1])
theorem kys_cg {rule : Int} {N : Nat} {fl rn ln fl2 rn2 ln2 : Nat → Int} (h1 : ∀ c, c < N → fl c = fl2 c) (h2 : ∀ c, c < N → rn c = rn2 c) (h3 : ∀ c, c < N → ln c = ln2 c) : ∀ c, c < N → kys rule fl rn ln c = kys rule fl2 rn2 ln2 c := by
  intro c hc
  unfold kys
  rw [h1 c hc, h2 c hc, h3 c hc]
theorem ct_isRule {h : jH} (r : Int) : CF Sx M_X7_isRule [jI r] h (if 0 ≤ r ∧ r ≤ 2 then 1 else 0) := by
  refine en_X7_isRule (fun G => vc_X7_isRule_0 ⟨fun q => ⟨_, rfl, ?_, rfl⟩, fun q => ⟨fun q2 => ⟨_, rfl, ?_, rfl⟩, fun q2 => ⟨_, rfl, ?_, rfl⟩⟩⟩)
  · rw [if_neg (by omega)]
  · rw [if_neg (by omega)]
  · rw [if_pos (by omega)]
theorem sm_127 {f : Nat → Int} {N : Nat} (h7 : N ≤ 7) : sm (fun k => (127 : Nat).testBit k) f N = sm (fun _ => true) f N :=
  sm_congr (fun k hk => ⟨(by decide : ∀ k, k < 7 → (127 : Nat).testBit k = true) k (by omega), fun _ => rfl⟩)
theorem ct_byRule {h : jH} {N : Nat} (hN : h.1 2 2 = N) (h7 : N ≤ 7) (hs : sml h N) (rule n w : Int) : CT Sx M_X7_byRule [jR 0, jI rule, jI n, jI w] h (jPi fun r g => (((¬ (0 ≤ rule ∧ rule ≤ 2) ∨ ¬ (0 ≤ n ∧ n ≤ 60) ∨ ¬ (0 ≤ w ∧ w ≤ 2)) ∧ r = -1 ∨ ((0 ≤ rule ∧ rule ≤ 2) ∧ (0 ≤ n ∧ n ≤ 60) ∧ (0 ≤ w ∧ w ≤ 2)) ∧ ∃ o, Ord (kys rule (h.1 4) (h.1 8) (h.1 7)) N o ∧ r = brA N (h.1 5) (h.1 6) (h.1 7) (h.1 4) (h.1 2 1) o (s0 h) n.toNat w)) ∧ XK h g) := by
  refine en_X7_byRule_0 (fun G => vc_X7_byRule_0_0 ⟨_, ct_isRule rule, ?_⟩)
  rintro _ _ ⟨rfl, rfl⟩
  rename_i h
  by_cases e : 0 ≤ rule ∧ rule ≤ 2
  · rw [if_pos e]
    refine ⟨fun z => absurd z (by decide), fun _ => ⟨fun q => ⟨_, rfl, Or.inl ⟨Or.inr (Or.inl (by omega)), rfl⟩, XK.rfl⟩, fun q => ⟨fun q2 => ⟨_, rfl, Or.inl ⟨Or.inr (Or.inl (by omega)), rfl⟩, XK.rfl⟩, fun q2 => ⟨fun q3 => ⟨_, rfl, Or.inl ⟨Or.inr (Or.inr (by omega)), rfl⟩, XK.rfl⟩, fun q3 => ⟨fun q4 => ?_, fun q4 => ⟨_, rfl, Or.inl ⟨Or.inr (Or.inr (by omega)), rfl⟩, XK.rfl⟩⟩⟩⟩⟩⟩
    obtain ⟨n, rfl⟩ : ∃ k : Nat, n = (k : Int) := ⟨n.toNat, by omega⟩
    refine ⟨_, ct_go hN h7 hs rule n (by omega) (h.1 2 1), ?_⟩
    rintro g ⟨o, g1, g2, g3, g4, g5, g6, g7⟩
    have gN : g.1 2 2 = N := by rw [g6 2 (by omega) (by omega) (by omega) (by omega) (by omega) (by omega) (by omega)]; exact hN
    have gk : XK h g := XK.of g7 (fun k hk => g6 k (by omega) (by omega) (by omega) (by omega) (by omega) (by omega) (by omega))
    have ok : (0 ≤ rule ∧ rule ≤ 2) ∧ (0 ≤ (n : Int) ∧ (n : Int) ≤ 60) ∧ (0 ≤ w ∧ w ≤ 2) := ⟨e, by omega, by omega⟩
    refine ⟨fun w0 => ⟨_, ct_those_28 gN h7 3, ?_⟩, fun w1 => ⟨_, ct_waitedOf_28 gN h7 127 (by decide) (fun c hc => ?_), ?_⟩, fun w2 => ⟨_, rfl, Or.inr ⟨ok, o, g1, ?_⟩, gk⟩⟩
    · rintro _ _ ⟨rfl, rfl⟩
      refine ⟨_, ct_bitCount _ (bt_128 h7), ?_⟩
      rintro _ _ ⟨rfl, rfl⟩
      refine ⟨_, rfl, Or.inr ⟨ok, o, g1, ?_⟩, gk⟩
      rw [cnt_bt h7]
      unfold brA
      rw [if_pos w0, g2]
      rfl
    · rw [g3]
      have := dyN_w (N := N) (fr := h.1 5) (to := h.1 6) (ln := h.1 7) (fl := h.1 4) (x := h.1 2 1) (o := o) (s := s0 h) (B := 1000) (fun c hc => by
        show -1000 ≤ (bc_ h).1 32 c ∧ (bc_ h).1 32 c ≤ 1000
        rw [bc_32 (by omega)]
        have := hs.2.1 c hc
        omega) n c hc
      omega
    · rintro _ _ ⟨rfl, rfl⟩
      refine ⟨_, rfl, Or.inr ⟨ok, o, g1, ?_⟩, gk⟩
      rw [sm_127 h7, g3]
      unfold brA
      rw [if_neg (by omega), if_pos w1]
      rfl
    · rw [g4]
      unfold brA
      rw [if_neg w2.1, if_neg w2.2]
      rfl
  · rw [if_neg e]
    exact ⟨fun _ => ⟨_, rfl, Or.inl ⟨Or.inl e, rfl⟩, XK.rfl⟩, fun z => absurd rfl z⟩
theorem p_byRule {a b : jH} (hR : Rel a b) (rule n w : Int) : PR M_X7_byRule M_X8_byRule [jI rule, jI n, jI w] a b := by
  obtain ⟨N, L, hB, hN, -⟩ := id hR
  have hp := hN.pf hB.1.2.2
  refine PR.q hR _ (ct_byRule hB.1.1 hB.1.2.2 (hB.smx hp) rule n w) (fun r hr => (cm_byRule hB.1.2.1 hB.1.2.2 (hB.mkx hp) rule n w).post ?_)
  rintro _ _ ⟨r2, rfl, k, q⟩
  refine ⟨r2, rfl, ?_, k⟩
  rcases hr with ⟨h1, h2⟩ | ⟨h1, o, h2, h3⟩
  · rcases q with ⟨q1, q2⟩ | ⟨q1, -⟩
    · rw [h2, q2]
    · exact absurd q1 (by omega)
  · rcases q with ⟨q1, q2⟩ | ⟨q1, o2, q2, q3⟩
    · exact absurd q1 (by omega)
    · have q2 := q2.cg (kys_cg (fun c hc => (hB.hfl c hc).symm) (fun c hc => (hB.hr c hc).symm) (fun c hc => (hB.hl c hc).symm))
      rw [h3, q3, ← hB.2.2.1.1]
      exact (brA_cg hB.hf hB.ht hB.hl hB.hfl (fun i hi => ⟨Ord.two q2 h2 hi, h2.rg hi⟩) (hB.yr hp) _ _).symm
theorem ct_enough {h : jH} {N : Nat} (hN : h.1 2 2 = N) (h7 : N ≤ 7) (hs : sml h N) (rule : Int) : CT Sx M_X7_enough [jR 0, jI rule] h (jPi fun r g => (¬ (0 ≤ rule ∧ rule ≤ 2) ∧ r = -1 ∨ (0 ≤ rule ∧ rule ≤ 2) ∧ ∀ o, Ord (kys rule (h.1 4) (h.1 8) (h.1 7)) N o → r = enA (fun x => lkN N (h.1 5) (h.1 6) (h.1 7) (h.1 4) x o (s0 h) 60)) ∧ XK h g) := by
  refine en_X7_enough_0 (fun G => vc_X7_enough_0_0 ⟨_, ct_isRule rule, ?_⟩)
  rintro _ _ ⟨rfl, rfl⟩
  rename_i h
  by_cases e : 0 ≤ rule ∧ rule ≤ 2
  · rw [if_pos e]
    refine ⟨fun z => absurd z (by decide), fun _ => ?_⟩
    refine jf_loop 4 (fun t lv g => lv = [jR 0, jI rule, jI ((t + 1 : Nat) : Int)] ∧ ((∀ k, k < 26 → g.1 k = h.1 k) ∧ g.2 = h.2) ∧ ∀ o, Ord (kys rule (h.1 4) (h.1 8) (h.1 7)) N o → ∀ y : Nat, 1 ≤ y → y < t + 1 → lkN N (h.1 5) (h.1 6) (h.1 7) (h.1 4) y o (s0 h) 60 = true) ?_ ?_ 0 (by decide) _ _ ⟨rfl, ⟨fun _ _ => rfl, rfl⟩, fun o _ y h1 h2 => absurd h2 (by omega)⟩
    · rintro t ht lv g ⟨rfl, ⟨g1, g2⟩, g3⟩ k
      have gs : sml g N := by
        unfold sml at hs ⊢
        rw [g1 20 (by omega), g1 21 (by omega), g1 17 (by omega), g1 7 (by omega), g1 8 (by omega)]
        exact hs
      refine vc_X7_enough_0_11 ⟨fun q => absurd q (by omega), fun _ => ⟨_, ct_go (h := g) (by rw [g1 2 (by omega)]; exact hN) h7 gs rule 60 (by decide) _, ?_⟩⟩
      rintro u ⟨o, u1, -, -, -, u5, u6, u7⟩
      rw [g1 4 (by omega), g1 8 (by omega), g1 7 (by omega)] at u1
      rw [g1 4 (by omega), g1 5 (by omega), g1 6 (by omega), g1 7 (by omega)] at u5
      have uk : ∀ k, k < 26 → u.1 k = h.1 k := fun k hk => by rw [u6 k (by omega) (by omega) (by omega) (by omega) (by omega) (by omega) (by omega), g1 k hk]
      have yr : YR N (s0 g) (s0 h) := by
        refine ⟨?_, fun c hc => ⟨?_, fun _ => ?_⟩, fun c hc => ?_⟩
        · show g.1 17 1 = h.1 17 1
          rw [g1 17 (by omega)]
        · show (bc_ g).1 30 c = (bc_ h).1 30 c
          rw [bc_30 (by omega), bc_30 (by omega), g1 19 (by omega)]
        · show (bc_ g).1 31 c = (bc_ h).1 31 c
          rw [bc_31 (by omega), bc_31 (by omega), g1 20 (by omega)]
        · show (bc_ g).1 32 c = (bc_ h).1 32 c
          rw [bc_32 (by omega), bc_32 (by omega), g1 21 (by omega)]
      have hall : ∀ o2, Ord (kys rule (h.1 4) (h.1 8) (h.1 7)) N o2 → lkN N (h.1 5) (h.1 6) (h.1 7) (h.1 4) ((t + 1 : Nat) : Int) o (s0 g) 60 = lkN N (h.1 5) (h.1 6) (h.1 7) (h.1 4) ((t + 1 : Nat) : Int) o2 (s0 h) 60 := fun o2 h2 => lkN_cg (fun _ _ => rfl) (fun _ _ => rfl) (fun _ _ => rfl) (fun _ _ => rfl) (fun i hi => ⟨Ord.two h2 u1 hi, u1.rg hi⟩) yr 60
      refine ⟨fun z => ⟨_, rfl, Or.inr ⟨e, fun o2 h2 => ?_⟩, XK.of (by rw [u7, g2]) uk⟩, fun z => ⟨⟨by omega, by omega⟩, ?_⟩⟩
      · rw [u5, bi_0, hall o2 h2] at z
        exact (enA_at (L := fun x => lkN N (h.1 5) (h.1 6) (h.1 7) (h.1 4) x o2 (s0 h) 60) (x := t + 1) (by omega) (by omega) (g3 o2 h2) z).symm
      · rw [u5, bi_0, Bool.not_eq_false] at z
        refine k _ _ ⟨rfl, ⟨uk, by rw [u7, g2]⟩, fun o2 h2 y y1 y2 => ?_⟩
        by_cases ey : y = t + 1
        · rw [ey, ← hall o2 h2]; exact z
        · exact g3 o2 h2 y y1 (by omega)
    · rintro lv g ⟨rfl, ⟨g1, g2⟩, g3⟩
      refine vc_X7_enough_0_11 ⟨fun _ => ⟨_, rfl, Or.inr ⟨e, fun o h2 => ?_⟩, XK.of g2 g1⟩, fun q => absurd (by decide) q⟩
      exact (enA_no (L := fun x => lkN N (h.1 5) (h.1 6) (h.1 7) (h.1 4) x o (s0 h) 60) (fun y y1 y2 => g3 o h2 y y1 (by omega))).symm
  · rw [if_neg e]
    exact ⟨fun _ => ⟨_, rfl, Or.inl ⟨e, rfl⟩, XK.rfl⟩, fun z => absurd rfl z⟩
theorem p_enough {a b : jH} (hR : Rel a b) (rule : Int) : PR M_X7_enough M_X8_enough [jI rule] a b := by
  obtain ⟨N, L, hB, hN, -⟩ := id hR
  have hp := hN.pf hB.1.2.2
  refine PR.q hR _ (ct_enough hB.1.1 hB.1.2.2 (hB.smx hp) rule) (fun r hr => (cm_enough hB.1.2.1 hB.1.2.2 (hB.mkx hp) rule).post ?_)
  rintro _ _ ⟨r2, rfl, k, q⟩
  refine ⟨r2, rfl, ?_, k⟩
  rcases hr with ⟨h1, h2⟩ | ⟨h1, h2⟩
  · rcases q with ⟨q1, q2⟩ | ⟨q1, -⟩
    · rw [h2, q2]
    · exact absurd q1 h1
  · rcases q with ⟨q1, q2⟩ | ⟨q1, o2, q2, q3⟩
    · exact absurd h1 q1
    · have q2 := q2.cg (kys_cg (fun c hc => (hB.hfl c hc).symm) (fun c hc => (hB.hr c hc).symm) (fun c hc => (hB.hl c hc).symm))
      rw [h2 o2 q2, q3]
      congr 1
      funext x
      exact (lkN_cg hB.hf hB.ht hB.hl hB.hfl (fun i hi => ⟨rfl, q2.rg hi⟩) (hB.yr hp) 60).symm
/-! rows -/
theorem bgo_bd {T : (Nat → Int) → Int} {n : Nat} {B : Int} (tb : ∀ f, 0 ≤ T f ∧ T f ≤ B) (hB : B < 2147483647) (m : Nat) (f0 b0 : Nat → Int) : 0 ≤ (bgo T n (m + 1) f0 (2147483647, b0)).1 ∧ (bgo T n (m + 1) f0 (2147483647, b0)).1 ≤ B := by
  have key : ∀ m f (q : Int × (Nat → Int)), (0 ≤ q.1 ∧ q.1 ≤ B) → 0 ≤ (bgo T n m f q).1 ∧ (bgo T n m f q).1 ≤ B := by
    intro m
    induction m with
    | zero => intro f q hq; exact hq
    | succ m ih =>
      intro f q hq
      have := tb f
      have hq2 : 0 ≤ (if T f < q.1 then (T f, f) else q).1 ∧ (if T f < q.1 then (T f, f) else q).1 ≤ B := by
        split
        · exact this
        · exact hq
      simp only [bgo]
      split
      · exact hq2
      · exact ih _ _ hq2
  have t0 := tb f0
  simp only [bgo]
  rw [if_pos (by omega)]
  split
  · exact t0
  · exact key _ _ _ t0
theorem ct_bestRow {h : jH} {N : Nat} (hN : h.1 2 2 = N) (h7 : N ≤ 7) (hs : sml h N) (hk : lok (h.1 5) (h.1 6) N) (hln : ∀ c, c < N → 1 ≤ h.1 7 c ∧ h.1 7 c ≤ 20) (hx : 1 ≤ h.1 2 1 ∧ h.1 2 1 ≤ 4) (k : Int) : CT Sx M_X7_bestRow [jR 0, jI k] h (jPi fun r g => (k < -1 ∧ r = -1 ∨ -1 ≤ k ∧ ∃ (f0 b0 : Nat → Int), wrow (fun c => h.1 19 c == 1) f0 N ∧ r = brR ((bgo (TR h N) (cnt (fun c => h.1 19 c == 1) N) 5040 f0 (2147483647, b0)).1 + sm (fun c => h.1 19 c == 1) (h.1 21) N, (bgo (TR h N) (cnt (fun c => h.1 19 c == 1) N) 5040 f0 (2147483647, b0)).2) (cnt (fun c => h.1 19 c == 1) N) k) ∧ XK h g) := by
  refine en_X7_bestRow_0 (fun G => vc_X7_bestRow_0_0 ⟨fun e => ?_, fun e => ⟨_, rfl, Or.inl ⟨by omega, rfl⟩, XK.rfl⟩⟩)
  refine ⟨_, ct_findR hN h7 hk hln hx, ?_⟩
  rintro g ⟨f0, b0, hw, g1, g2, g3, g4, g5⟩
  have gk : ∀ k, k < 26 → g.1 k = h.1 k := fun k hk => g1 k (by omega) (by omega) (by omega) (by omega) (by omega) (by omega)
  have gx : XK h g := XK.of g2 gk
  have gN : g.1 2 2 = N := by rw [gk 2 (by omega)]; exact hN
  have nle := cnt_le (fun c => h.1 19 c == 1) N
  have sb := sm_pos (p := fun c => h.1 19 c == 1) (f := h.1 21) (n := N) (B := 1000) hs.2.1 (by decide)
  have hi : inj f0 (cnt (fun c => h.1 19 c == 1) N) := (wrow_rok hw).1
  have lb : 0 ≤ (bgo (TR h N) (cnt (fun c => h.1 19 c == 1) N) 5040 f0 (2147483647, b0)).1 ∧ (bgo (TR h N) (cnt (fun c => h.1 19 c == 1) N) 5040 f0 (2147483647, b0)).1 ≤ 210 := by
    have tb : ∀ f, 0 ≤ TR h N f ∧ TR h N f ≤ 210 := by
      intro f
      have := tW_le (N := N) (fr := h.1 5) (to := h.1 6) (ln := h.1 7) (x := h.1 2 1) (row := f) (e := e37 h) (n := cnt (fun c => h.1 19 c == 1) N) (m := 30)
      unfold TR
      omega
    exact bgo_bd tb (by decide) 5039 f0 b0
  refine ⟨fun z => ⟨_, ct_those_17 gN h7 1, ?_⟩, fun z => ⟨fun q => ⟨_, rfl, Or.inr ⟨e, f0, b0, hw, ?_⟩, gx⟩, fun q => ⟨by omega, _, rfl, Or.inr ⟨e, f0, b0, hw, ?_⟩, gx⟩⟩⟩
  · rintro _ _ ⟨rfl, rfl⟩
    rename_i g
    refine ⟨_, ct_waitedOf_17 gN h7 _ (bt_128 h7) (fun c hc => by rw [gk 21 (by omega)]; have := hs.2.1 c hc; omega), ?_⟩
    rintro _ _ ⟨rfl, rfl⟩
    rename_i g
    have es : sm (fun k => (bt (fun c => g.1 19 c == 1) N).testBit k) (g.1 21) N = sm (fun c => h.1 19 c == 1) (h.1 21) N := by
      rw [gk 19 (by omega), gk 21 (by omega)]
      exact sm_congr (fun k hk => ⟨by rw [bt_tb]; simp [hk], fun _ => rfl⟩)
    rw [es, g4]
    refine ⟨⟨by omega, by omega⟩, _, rfl, Or.inr ⟨e, f0, b0, hw, ?_⟩, gx⟩
    unfold brR
    rw [if_neg (by omega)]
  · unfold brR
    rw [if_pos (by omega), if_pos (by omega)]
  · unfold brR
    rw [if_pos (by omega), if_neg (by omega), g5 k.toNat (by omega)]
theorem p_bestRow {a b : jH} (hR : Rel a b) (k : Int) : PR M_X7_bestRow M_X8_bestRow [jI k] a b := by
  obtain ⟨N, L, hB, hN, -⟩ := id hR
  have hp := hN.pf hB.1.2.2
  have h7 := hB.1.2.2
  have hs := hB.smx hp
  refine PR.q hR _ (ct_bestRow hB.1.1 h7 hs hB.lo (fun c hc => (hB.2.2.2 c hc).2.2.2.1.2) hB.2.2.1.2 k) (fun r hr => (cm_bestRow hB.1.2.1 h7 (hB.mkx hp) k).post ?_)
  rintro _ _ ⟨r2, rfl, kk, q⟩
  refine ⟨r2, rfl, ?_, kk⟩
  rcases hr with ⟨h1, h2⟩ | ⟨h1, f0, b0, h2, h3⟩
  · rcases q with ⟨q1, q2⟩ | ⟨q1, -⟩
    · rw [h2, q2]
    · omega
  · rcases q with ⟨q1, q2⟩ | ⟨q1, g0, c0, q2, q3⟩
    · omega
    · have ec : cnt (fun c => mH b 5 c == 1) N = cnt (fun c => a.1 19 c == 1) N := (cnt_hw hp.hh).symm
      have nle := cnt_le (fun c => a.1 19 c == 1) N
      rw [ec] at q3
      have q2 : wrow (fun c => a.1 19 c == 1) g0 N := by
        intro d hd t
        have t2 : (mH b 5 d == 1) = true := by rw [← hp.hh d hd]; exact t
        have := q2 d hd t2
        rw [cnt_congr (q := fun c => a.1 19 c == 1) (fun j hj => by rw [hp.hh j (by omega)])] at this
        exact this
      have sb := sm_pos (p := fun c => a.1 19 c == 1) (f := a.1 21) (n := N) (B := 1000) hs.2.1 (by decide)
      have main := bgo_cg0 (T := TR a N) (T2 := MT b N) (n := cnt (fun c => a.1 19 c == 1) N) (K := sm (fun c => a.1 19 c == 1) (a.1 21) N) (W := fun f => rok N (cnt (fun c => a.1 19 c == 1) N) f) (fun f g h1 h2 => nx_rok h1 h2) (fun f g hf hfg => by
        unfold MT TR
        rw [ec]
        have e1 : sm (fun c => mH b 5 c == 1) (mW b 5) N = sm (fun c => a.1 19 c == 1) (a.1 21) N := sm_congr (fun c hc => ⟨by rw [hp.hh c hc], fun _ => ((hp.2.2.2.1 c hc).2.1).symm⟩)
        have e2 : tW N (a.1 5) (a.1 6) (a.1 7) (a.1 2 1) f (cnt (fun c => a.1 19 c == 1) N) (e37 a) 30 = tW N (mF b) (mT b) (mN b) (b.1 0 14) g (cnt (fun c => a.1 19 c == 1) N) (me b) 30 := by
          rw [← hB.2.2.1.1, tW_cg hB.hf hB.ht hB.hl hf.2]
          refine (tW_congr hf.2 hfg (fun j hj => ?_) 30).2
          have := hp.2.2.2.1 j hj
          unfold e37 me
          rw [← this.1]
          by_cases z : a.1 19 j = 2
          · rw [if_pos z, if_pos z, (this.2.2.2.2.2.1 z).1]
          · rw [if_neg z, if_neg z]
        rw [e1, e2]
        omega) (fun f hf => by
        have := tW_le (N := N) (fr := a.1 5) (to := a.1 6) (ln := a.1 7) (x := a.1 2 1) (row := f) (e := e37 a) (n := cnt (fun c => a.1 19 c == 1) N) (m := 30)
        unfold TR
        omega) 5039 f0 g0 b0 c0 (wrow_rok h2) (fun j hj => wrow_uniq h2 q2 hj)
      rw [h3, q3]
      unfold brR
      by_cases z : 0 ≤ k
      · rw [if_pos z, if_pos z]
        by_cases z2 : ((cnt (fun c => a.1 19 c == 1) N : Nat) : Int) ≤ k
        · rw [if_pos z2, if_pos z2]
        · rw [if_neg z2, if_neg z2]
          exact (main.2 k.toNat (by omega)).symm
      · rw [if_neg z, if_neg z]
        exact main.1
theorem p_bestHoles {a b : jH} (hR : Rel a b) (k : Int) : PR M_X7_bestHoles M_X8_bestHoles [jI k] a b := by
  obtain ⟨N, L, hB, hN, -⟩ := id hR
  have hp := hN.pf hB.1.2.2
  have h7 := hB.1.2.2
  have hL := hB.2.1
  refine PR.q hR (fun r => (¬ (-1 ≤ k ∧ k ≤ (L : Int) - 1) ∧ r = -1 ∨ (-1 ≤ k ∧ k ≤ (L : Int) - 1) ∧ ∃ (f0 b0 : Nat → Int), (∀ l, l < L → f0 l = ((l : Nat) : Int)) ∧ r = bhR (bgo (fun f => alls f (a.1 5) (a.1 6) N) L 720 f0 (2147483647, b0)) k)) ?_ (fun r hr => (cm_bestHoles hL.2.1 hL.2.2.2 hB.1.2.1 h7 hB.lkm k).post ?_)
  · refine en_X7_bestHoles_0 (fun G => vc_X7_bestHoles_0_0 ⟨fun z => ⟨_, ct_findH hB.1.1 h7 hL.1 hL.2.2.2 hB.lk, ?_⟩, fun z => ⟨_, ct_hasLine k, ?_⟩⟩)
    · rintro g ⟨f0, b0, hf, g1, g2, g3, g4⟩
      refine ⟨fun _ => ⟨_, rfl, Or.inr ⟨by omega, f0, b0, hf, ?_⟩, XK.of g2 (fun k hk => g1 k (by omega) (by omega) (by omega))⟩, fun q => absurd z q⟩
      unfold bhR
      rw [if_neg (by omega), g3]
    · rintro _ _ ⟨rfl, rfl⟩
      rw [hL.1]
      by_cases e : 0 ≤ k ∧ k < (L : Int)
      · rw [if_pos e]
        refine ⟨fun q => absurd q (by decide), fun _ => ⟨_, ct_findH hB.1.1 h7 hL.1 hL.2.2.2 hB.lk, ?_⟩⟩
        rintro g ⟨f0, b0, hf, g1, g2, g3, g4⟩
        refine ⟨fun q => absurd q z, fun _ => ⟨by omega, _, rfl, Or.inr ⟨by omega, f0, b0, hf, ?_⟩, XK.of g2 (fun k hk => g1 k (by omega) (by omega) (by omega))⟩⟩
        unfold bhR
        rw [if_pos (by omega), g4 k.toNat (by omega)]
      · rw [if_neg e]
        exact ⟨fun _ => ⟨_, rfl, Or.inl ⟨by omega, rfl⟩, XK.rfl⟩, fun q => absurd rfl q⟩
  · rintro _ _ ⟨r2, rfl, kk, q⟩
    refine ⟨r2, rfl, ?_, kk⟩
    rcases hr with ⟨h1, h2⟩ | ⟨h1, f0, b0, h2, h3⟩
    · rcases q with ⟨q1, q2⟩ | ⟨q1, -⟩
      · rw [h2, q2]
      · exact absurd q1 h1
    · rcases q with ⟨q1, q2⟩ | ⟨q1, g0, c0, q2, q3⟩
      · exact absurd h1 q1
      · have main := bgo_cg0 (T := fun f => alls f (a.1 5) (a.1 6) N) (T2 := fun f => alls f (mF b) (mT b) N) (n := L) (K := 0) (W := fun f => hok f L) (fun f g h1 h2 => nx_hok h1 h2) (fun f g hf hfg => by
          rw [Int.add_zero, alls_congr hB.lk (Nat.le_refl _) hfg (fun c hc => ⟨hB.hf c hc, hB.ht c hc⟩)]) (fun f hf => by
          have := alls_bd hf hB.lk (Nat.le_refl N)
          omega) 719 f0 g0 b0 c0 (fun l hl => by rw [h2 l hl]; omega) (fun j hj => by rw [h2 j hj, q2 j hj])
        rw [h3, q3]
        unfold bhR
        by_cases z : 0 ≤ k
        · rw [if_pos z, if_pos z]
          exact (main.2 k.toNat (by omega)).symm
        · rw [if_neg z, if_neg z]
          have := main.1
          rw [Int.add_zero] at this
          exact this
