/-! pairs: undo, keep, back -/
theorem mv_ld_23 {h : jH} {at_ j : Nat} (hj : j < 28) : mv28 (ld_23 h at_) j = h.1 23 (at_ + j) := by
  unfold mv28
  by_cases h0 : j = 0
  · rw [if_pos h0, h0]; rfl
  · rw [if_neg h0]
    by_cases h1 : j < 7
    · rw [if_pos h1]
      show (if j - 1 < 6 then h.1 23 (at_ + 1 + (j - 1)) else h.1 18 (j - 1)) = _
      rw [if_pos (by omega), show at_ + 1 + (j - 1) = at_ + j by omega]
    · rw [if_neg h1]
      by_cases h2 : j < 14
      · rw [if_pos h2]
        show (if j - 7 < 7 then h.1 23 (at_ + 7 + (j - 7)) else h.1 19 (j - 7)) = _
        rw [if_pos (by omega), show at_ + 7 + (j - 7) = at_ + j by omega]
      · rw [if_neg h2]
        by_cases h3 : j < 21
        · rw [if_pos h3]
          show (if j - 14 < 7 then h.1 23 (at_ + 14 + (j - 14)) else h.1 20 (j - 14)) = _
          rw [if_pos (by omega), show at_ + 14 + (j - 14) = at_ + j by omega]
        · rw [if_neg h3]
          show (if j - 21 < 7 then h.1 23 (at_ + 21 + (j - 21)) else h.1 21 (j - 21)) = _
          rw [if_pos (by omega), show at_ + 21 + (j - 21) = at_ + j by omega]
theorem ld_fr_23 {h : jH} {at_ k : Nat} (hk : k < 17 ∨ 21 < k) : (ld_23 h at_).1 k = h.1 k := by
  unfold ld_23
  rw [upr_ne (by omega), upr_ne (by omega), upr_ne (by omega), upr_ne (by omega), up_ne (by omega)]
theorem mv_ld_24 {h : jH} {at_ j : Nat} (hj : j < 28) : mv28 (ld_24 h at_) j = h.1 24 (at_ + j) := by
  unfold mv28
  by_cases h0 : j = 0
  · rw [if_pos h0, h0]; rfl
  · rw [if_neg h0]
    by_cases h1 : j < 7
    · rw [if_pos h1]
      show (if j - 1 < 6 then h.1 24 (at_ + 1 + (j - 1)) else h.1 18 (j - 1)) = _
      rw [if_pos (by omega), show at_ + 1 + (j - 1) = at_ + j by omega]
    · rw [if_neg h1]
      by_cases h2 : j < 14
      · rw [if_pos h2]
        show (if j - 7 < 7 then h.1 24 (at_ + 7 + (j - 7)) else h.1 19 (j - 7)) = _
        rw [if_pos (by omega), show at_ + 7 + (j - 7) = at_ + j by omega]
      · rw [if_neg h2]
        by_cases h3 : j < 21
        · rw [if_pos h3]
          show (if j - 14 < 7 then h.1 24 (at_ + 14 + (j - 14)) else h.1 20 (j - 14)) = _
          rw [if_pos (by omega), show at_ + 14 + (j - 14) = at_ + j by omega]
        · rw [if_neg h3]
          show (if j - 21 < 7 then h.1 24 (at_ + 21 + (j - 21)) else h.1 21 (j - 21)) = _
          rw [if_pos (by omega), show at_ + 21 + (j - 21) = at_ + j by omega]
theorem ld_fr_24 {h : jH} {at_ k : Nat} (hk : k < 17 ∨ 21 < k) : (ld_24 h at_).1 k = h.1 k := by
  unfold ld_24
  rw [upr_ne (by omega), upr_ne (by omega), upr_ne (by omega), upr_ne (by omega), up_ne (by omega)]
theorem p_undo {a b : jH} (hR : Rel a b) : PR M_X7_undo M_X8_undo [] a b := by
  obtain ⟨N, L, hB, hN, ⟨x, k, ⟨hx, x10⟩, ⟨k1, k2, k10⟩, hE⟩, hI, hT, hw⟩ := id hR
  have h7 := hB.1.2.2
  by_cases e : k = 0
  · refine PR.f (r := -2) hR (en_X7_undo_0 (fun G => vc_X7_undo_0_0 ⟨fun _ => ⟨_, rfl, rfl, rfl⟩, fun q => absurd (by omega) q⟩)) (en_X8_undo_0 (fun G => vc_X8_undo_0_0 ⟨fun _ => ⟨_, rfl, rfl, rfl⟩, fun q => absurd (by omega) q⟩))
  · obtain ⟨k, rfl⟩ : ∃ j, k = j + 1 := ⟨k - 1, by omega⟩
    refine PR.m (r := k) (a2 := ld_23 (j_up (j_up a 22 1 ((x + 9) % 10 : Nat)) 22 2 (k : Nat)) (((x + 9) % 10) * 28)) (en_X7_undo_0 (fun G => vc_X7_undo_0_0 ⟨fun q => absurd q (by omega), fun _ => ⟨_, ct_takeBack hx x10 k1 (by omega), k_gv ?_⟩⟩)) (en_X8_undo_0 (fun G => vc_X8_undo_0_0 ⟨fun q => absurd q (by omega), fun _ => ⟨⟨by omega, by omega⟩, ⟨by omega, by omega⟩, ?_⟩⟩))
    · refine ⟨_, rfl, ?_, rfl⟩
      rw [ld_fr_23 (by omega), up_eq]
    · rw [k2, show ((k + 1 : Nat) : Int) - 1 = (k : Int) by omega, show 28 * (k : Int) = ((28 * k : Nat) : Int) by omega]
      refine ⟨_, cm_copy_9_5 (28 * k) 0 (by omega) (by decide), k_gv ?_⟩
      refine ⟨_, rfl, ?_, ?_⟩
      · rw [upr_ne (by omega), up_eq]
      · have fa : ∀ q, q < 17 ∨ 22 < q → (ld_23 (j_up (j_up a 22 1 ((x + 9) % 10 : Nat)) 22 2 (k : Nat)) (((x + 9) % 10) * 28)).1 q = a.1 q := fun q hq => by rw [ld_fr_23 (by omega), up_ne (by omega), up_ne (by omega)]
        have a1 : (ld_23 (j_up (j_up a 22 1 ((x + 9) % 10 : Nat)) 22 2 (k : Nat)) (((x + 9) % 10) * 28)).1 22 1 = ((x + 9) % 10 : Nat) := by rw [ld_fr_23 (by omega), up_out (by omega), up_eq]
        have a2 : (ld_23 (j_up (j_up a 22 1 ((x + 9) % 10 : Nat)) 22 2 (k : Nat)) (((x + 9) % 10) * 28)).1 22 2 = (k : Nat) := by rw [ld_fr_23 (by omega), up_eq]
        have a3 : ∀ j, j < 28 → mv28 (ld_23 (j_up (j_up a 22 1 ((x + 9) % 10 : Nat)) 22 2 (k : Nat)) (((x + 9) % 10) * 28)) j = a.1 23 (((x + 9) % 10) * 28 + j) := fun j hj => by rw [mv_ld_23 hj, up_ne (by omega), up_ne (by omega)]
        have a4 : (ld_23 (j_up (j_up a 22 1 ((x + 9) % 10 : Nat)) 22 2 (k : Nat)) (((x + 9) % 10) * 28)).2 = a.2 := rfl
        generalize ld_23 (j_up (j_up a 22 1 ((x + 9) % 10 : Nat)) 22 2 (k : Nat)) (((x + 9) % 10) * 28) = aa at fa a1 a2 a3 a4 ⊢
        have fb : ∀ q, q ≠ 0 → q ≠ 5 → (upr (j_up b 0 22 (k : Int)) 5 (fun j => if 0 ≤ j ∧ j < 0 + 28 then (j_up b 0 22 (k : Int)).1 9 (28 * k + (j - 0)) else (j_up b 0 22 (k : Int)).1 5 j)).1 q = b.1 q := fun q h0 h5 => by rw [upr_ne h5, up_ne h0]
        have b0 : ∀ j, j ≠ 22 → (upr (j_up b 0 22 (k : Int)) 5 (fun j => if 0 ≤ j ∧ j < 0 + 28 then (j_up b 0 22 (k : Int)).1 9 (28 * k + (j - 0)) else (j_up b 0 22 (k : Int)).1 5 j)).1 0 j = b.1 0 j := fun j hj => by rw [upr_ne (by omega), up_out hj]
        have b1 : (upr (j_up b 0 22 (k : Int)) 5 (fun j => if 0 ≤ j ∧ j < 0 + 28 then (j_up b 0 22 (k : Int)).1 9 (28 * k + (j - 0)) else (j_up b 0 22 (k : Int)).1 5 j)).1 0 22 = (k : Nat) := by rw [upr_ne (by omega), up_eq]
        have b2 : ∀ j, j < 28 → (upr (j_up b 0 22 (k : Int)) 5 (fun j => if 0 ≤ j ∧ j < 0 + 28 then (j_up b 0 22 (k : Int)).1 9 (28 * k + (j - 0)) else (j_up b 0 22 (k : Int)).1 5 j)).1 5 j = b.1 9 (28 * k + j) := fun j hj => by
          rw [upr_same, if_pos (by omega), up_ne (by omega), Nat.sub_zero]
        have b3 : (upr (j_up b 0 22 (k : Int)) 5 (fun j => if 0 ≤ j ∧ j < 0 + 28 then (j_up b 0 22 (k : Int)).1 9 (28 * k + (j - 0)) else (j_up b 0 22 (k : Int)).1 5 j)).2 = b.2 := rfl
        generalize upr (j_up b 0 22 (k : Int)) 5 (fun j => if 0 ≤ j ∧ j < 0 + 28 then (j_up b 0 22 (k : Int)).1 9 (28 * k + (j - 0)) else (j_up b 0 22 (k : Int)).1 5 j) = bb at fb b0 b1 b2 b3 ⊢
        refine ⟨N, L, hB.kp (fun q hq => fa q (by omega)) (fb 4 (by omega) (by omega)) (fun j hj => b0 j (by omega)), ?_, ⟨(x + 9) % 10, k, ⟨a1, by omega⟩, ⟨a2, b1, by omega⟩, fun i hi => ?_⟩, hI.kp (fun q hq => fa q (by omega)) (fb 7 (by omega) (by omega)) (fb 8 (by omega) (by omega)), hT.kp (fa 1 (by omega)) (by rw [fa 0 (by omega)]) (fb 1 (by omega) (by omega)) (b0 0 (by omega)), by rw [a4, b3]; exact hw⟩
        · refine RR.cg h7 (hE k (by omega)) (fun j hj => ?_) (fun j hj => b2 j hj) (fun c hc => by rw [fa 5 (by omega)]) (fun c hc => by rw [fa 6 (by omega)])
          rw [a3 j hj, show (x + 10 - (k + 1) + k) % 10 = (x + 9) % 10 by omega, Nat.mul_comm]
        · have ep : ((x + 9) % 10 + 10 - k + i) % 10 = (x + 10 - (k + 1) + i) % 10 := by omega
          rw [fa 5 (by omega), fa 6 (by omega), fa 23 (by omega), fb 9 (by omega) (by omega), ep]
          exact hE i (by omega)
theorem ct_isImage {h : jH} (r : Int) : CF Sx M_X7_isImage [jI r] h (if 0 ≤ r ∧ r ≤ 1 then 1 else 0) := by
  refine en_X7_isImage (fun G => vc_X7_isImage_0 ⟨fun q => ⟨_, rfl, ?_, rfl⟩, fun q => ⟨fun q2 => ⟨_, rfl, ?_, rfl⟩, fun q2 => ⟨_, rfl, ?_, rfl⟩⟩⟩)
  · rw [if_neg (by omega)]
  · rw [if_neg (by omega)]
  · rw [if_pos (by omega)]
theorem p_keep {a b : jH} (hR : Rel a b) (i : Int) : PR M_X7_keep M_X8_keep [jI i] a b := by
  obtain ⟨N, L, hB, hN, hP, hI, hT, hw⟩ := id hR
  have h7 := hB.1.2.2
  by_cases e : 0 ≤ i ∧ i ≤ 1
  · obtain ⟨i, rfl⟩ : ∃ k : Nat, i = (k : Int) := ⟨i.toNat, by omega⟩
    refine PR.m (r := a.1 17 1) (a2 := j_up (upr a 24 (fun j => if i * 28 ≤ j ∧ j < i * 28 + 28 then mv28 a (j - i * 28) else a.1 24 j)) 25 i 1) (en_X7_keep_0 (fun G => vc_X7_keep_0_0 ⟨_, ct_isImage _, k_go ?_⟩)) (en_X8_keep_0 (fun G => vc_X8_keep_0_0 ⟨_, cm_in _ 0 1, k_go ?_⟩))
    · rw [if_pos e]
      refine ⟨fun z => absurd z (by decide), fun _ => ⟨⟨by omega, by omega⟩, ?_⟩⟩
      rw [show (i : Int) * 28 = ((i * 28 : Nat) : Int) by omega]
      refine ⟨_, ct_save_24 (i * 28) (by omega), k_gv ⟨by omega, ?_⟩⟩
      rw [Int.toNat_natCast]
      exact ⟨_, rfl, rfl, rfl⟩
    · rw [if_pos e]
      refine ⟨fun z => absurd z (by decide), fun _ => ⟨⟨by omega, by omega⟩, ?_⟩⟩
      rw [show 28 * (i : Int) = ((28 * i : Nat) : Int) by omega]
      refine ⟨_, cm_copy_5_7 0 (28 * i) (by omega) (by omega), k_gv ⟨by omega, ?_⟩⟩
      rw [Int.toNat_natCast]
      refine ⟨_, rfl, ?_, ?_⟩
      · rw [upr_ne (by omega)]
        exact hN.1.1.symm
      · refine ⟨N, L, hB.kp (fun q hq => by rw [up_ne (by omega), upr_ne (by omega)]) (by rw [up_ne (by omega), upr_ne (by omega)]) (fun j hj => by rw [up_ne (by omega), upr_ne (by omega)]), ((hN.pf h7).kp (fun q hq => by rw [up_ne (by omega), upr_ne (by omega)]) (by rw [up_ne (by omega), upr_ne (by omega)])).rn h7, hP.kp (fun q hq => by rw [up_ne (by omega), upr_ne (by omega)]) (by rw [up_ne (by omega), upr_ne (by omega)]) (by rw [up_ne (by omega), upr_ne (by omega)]), fun j hj => ?_, hT.kp (by rw [up_ne (by omega), upr_ne (by omega)]) (by rw [up_ne (by omega), upr_ne (by omega)]) (by rw [up_ne (by omega), upr_ne (by omega)]) (by rw [up_ne (by omega), upr_ne (by omega)]), hw⟩
        by_cases ej : j = i
        · subst ej
          rw [up_eq, up_eq]
          refine ⟨rfl, Or.inr (RR.cg h7 hN (fun t ht => ?_) (fun t ht => ?_) (fun c hc => by rw [up_ne (by omega), upr_ne (by omega)]) (fun c hc => by rw [up_ne (by omega), upr_ne (by omega)]))⟩
          · rw [up_ne (by omega), upr_same, if_pos (by omega), show 28 * j + t - j * 28 = t by omega]
          · rw [up_ne (by omega), upr_same, if_pos (by omega), show 0 + (28 * j + t - 28 * j) = t by omega]
        · rw [up_out ej, up_out ej, upr_ne (by omega), upr_ne (by omega)]
          refine ⟨(hI j hj).1, ?_⟩
          rcases (hI j hj).2 with q | q
          · exact Or.inl q
          · refine Or.inr (RR.cg h7 q (fun t ht => ?_) (fun t ht => ?_) (fun c hc => by rw [up_ne (by omega), upr_ne (by omega)]) (fun c hc => by rw [up_ne (by omega), upr_ne (by omega)]))
            · rw [up_ne (by omega), upr_same, if_neg (by omega)]
            · rw [up_ne (by omega), upr_same, if_neg (by omega)]
  · refine PR.f (r := -1) hR (en_X7_keep_0 (fun G => vc_X7_keep_0_0 ⟨_, ct_isImage _, k_go ?_⟩)) (en_X8_keep_0 (fun G => vc_X8_keep_0_0 ⟨_, cm_in _ 0 1, k_go ?_⟩))
    · rw [if_neg e]
      exact ⟨fun _ => ⟨_, rfl, rfl, rfl⟩, fun z => absurd rfl z⟩
    · rw [if_neg e]
      exact ⟨fun _ => ⟨_, rfl, rfl, rfl⟩, fun z => absurd rfl z⟩
theorem p_back {a b : jH} (hR : Rel a b) (i : Int) : PR M_X7_back M_X8_back [jI i] a b := by
  obtain ⟨N, L, hB, hN, hP, hI, hT, hw⟩ := id hR
  have h7 := hB.1.2.2
  obtain ⟨x, kn, ⟨hx, x10⟩, -, -⟩ := id hP
  by_cases e : 0 ≤ i ∧ i ≤ 1
  · obtain ⟨i, rfl⟩ : ∃ k : Nat, i = (k : Int) := ⟨i.toNat, by omega⟩
    have hIi := hI i (by omega)
    by_cases e2 : a.1 25 i = 0
    · refine PR.f (r := -2) hR (en_X7_back_0 (fun G => vc_X7_back_0_0 ⟨_, ct_isImage _, k_go ?_⟩)) (en_X8_back_0 (fun G => vc_X8_back_0_0 ⟨_, cm_in _ 0 1, k_go ?_⟩))
      · rw [if_pos e, Int.toNat_natCast]
        exact ⟨fun z => absurd z (by decide), fun _ => ⟨by omega, fun _ => ⟨_, rfl, rfl, rfl⟩, fun z => absurd e2 z⟩⟩
      · rw [if_pos e, Int.toNat_natCast, ← hIi.1]
        exact ⟨fun z => absurd z (by decide), fun _ => ⟨by omega, fun _ => ⟨_, rfl, rfl, rfl⟩, fun z => absurd e2 z⟩⟩
    · have hRR : RR N (a.1 5) (a.1 6) (fun j => a.1 24 (28 * i + j)) (fun j => b.1 7 (28 * i + j)) := by
        rcases hIi.2 with q | q
        · exact absurd q e2
        · exact q
      refine PR.m (r := a.1 24 (i * 28)) (a2 := j_up (ld_24 a (i * 28)) 22 2 0) (en_X7_back_0 (fun G => vc_X7_back_0_0 ⟨_, ct_isImage _, k_go ?_⟩)) (en_X8_back_0 (fun G => vc_X8_back_0_0 ⟨_, cm_in _ 0 1, k_go ?_⟩))
      · rw [if_pos e, Int.toNat_natCast]
        refine ⟨fun z => absurd z (by decide), fun _ => ⟨by omega, fun z => absurd z e2, fun _ => ⟨⟨by omega, by omega⟩, ?_⟩⟩⟩
        rw [show (i : Int) * 28 = ((i * 28 : Nat) : Int) by omega]
        refine ⟨_, ct_load_24 (i * 28) (by omega), k_gv ⟨_, ct_forget, k_gv ⟨_, rfl, rfl, rfl⟩⟩⟩
      · rw [if_pos e, Int.toNat_natCast, ← hIi.1]
        refine ⟨fun z => absurd z (by decide), fun _ => ⟨by omega, fun z => absurd z e2, fun _ => ⟨⟨by omega, by omega⟩, ?_⟩⟩⟩
        rw [show 28 * (i : Int) = ((28 * i : Nat) : Int) by omega]
        refine ⟨_, cm_copy_7_5 (28 * i) 0 (by omega) (by decide), k_gv ⟨_, rfl, ?_, ?_⟩⟩
        · rw [upr_same, if_pos (by omega), Nat.add_zero, Nat.mul_comm]
          have q : a.1 24 (28 * i) = b.1 7 (28 * i) := hRR.1.1
          rw [Nat.mul_comm 28 i] at q
          exact q.symm
        · have fa : ∀ q, q < 17 ∨ 22 < q → (j_up (ld_24 a (i * 28)) 22 2 0).1 q = a.1 q := fun q hq => by rw [up_ne (by omega), ld_fr_24 (by omega)]
          have a3 : ∀ j, j < 28 → mv28 (j_up (ld_24 a (i * 28)) 22 2 0) j = a.1 24 (i * 28 + j) := fun j hj => by
            rw [← mv_ld_24 hj]; rfl
          have fb : ∀ q, q ≠ 0 → q ≠ 5 → (j_up (upr b 5 (fun j => if 0 ≤ j ∧ j < 0 + 28 then b.1 7 (28 * i + (j - 0)) else b.1 5 j)) 0 22 0).1 q = b.1 q := fun q h0 h5 => by rw [up_ne h0, upr_ne h5]
          have b0 : ∀ j, j ≠ 22 → (j_up (upr b 5 (fun j => if 0 ≤ j ∧ j < 0 + 28 then b.1 7 (28 * i + (j - 0)) else b.1 5 j)) 0 22 0).1 0 j = b.1 0 j := fun j hj => by rw [up_out hj, upr_ne (by omega)]
          refine ⟨N, L, hB.kp (fun q hq => fa q (by omega)) (fb 4 (by omega) (by omega)) (fun j hj => b0 j (by omega)), ?_, ⟨x, 0, ⟨?_, x10⟩, ⟨up_eq, up_eq, by omega⟩, fun t ht => absurd ht (by omega)⟩, hI.kp (fun q hq => fa q (by omega)) (fb 7 (by omega) (by omega)) (fb 8 (by omega) (by omega)), hT.kp (fa 1 (by omega)) (by rw [fa 0 (by omega)]) (fb 1 (by omega) (by omega)) (b0 0 (by omega)), hw⟩
          · refine RR.cg h7 hRR (fun j hj => ?_) (fun j hj => ?_) (fun c hc => by rw [fa 5 (by omega)]) (fun c hc => by rw [fa 6 (by omega)])
            · rw [a3 j hj, Nat.mul_comm]
            · rw [up_ne (by omega), upr_same, if_pos (by omega), Nat.sub_zero]
          · rw [up_out (by omega), ld_fr_24 (by omega)]
            exact hx
  · refine PR.f (r := -1) hR (en_X7_back_0 (fun G => vc_X7_back_0_0 ⟨_, ct_isImage _, k_go ?_⟩)) (en_X8_back_0 (fun G => vc_X8_back_0_0 ⟨_, cm_in _ 0 1, k_go ?_⟩))
    · rw [if_neg e]
      exact ⟨fun _ => ⟨_, rfl, rfl, rfl⟩, fun z => absurd rfl z⟩
    · rw [if_neg e]
      exact ⟨fun _ => ⟨_, rfl, rfl, rfl⟩, fun z => absurd rfl z⟩
