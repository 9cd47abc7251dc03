/-! contracts of the class: moments -/
theorem WV.hp {S : jS} {G : jG} {M : jM} {Q : jQ} {pc : Nat} {lv st : List jV} {h1 h2 : jH} (e : h1 = h2) (k : WV S G M Q pc lv st h1) : WV S G M Q pc lv st h2 := e ▸ k
/-- a row made anew -/
def upr (h : jH) (k : Nat) (f : Nat → Int) : jH := (fun a => if a = k then f else h.1 a, h.2)
theorem j_ext {a b : jH} (h1 : ∀ k j, a.1 k j = b.1 k j) (h2 : a.2 = b.2) : a = b := Prod.ext (by funext k j; exact h1 k j) h2
theorem upr_same {h : jH} {k : Nat} {f : Nat → Int} : (upr h k f).1 k = f := by simp [upr]
theorem upr_ne {h : jH} {k a : Nat} {f : Nat → Int} (ha : a ≠ k) : (upr h k f).1 a = h.1 a := by simp [upr, ha]
theorem upr_id {h : jH} {k : Nat} {f : Nat → Int} (hf : ∀ j, f j = h.1 k j) : upr h k f = h := by
  refine j_ext (fun a j => ?_) rfl
  by_cases ha : a = k
  · subst ha; simp [upr, hf]
  · simp [upr, ha]
theorem up_upr {h : jH} {k c : Nat} {f : Nat → Int} {v : Int} : j_up (upr h k f) k c v = upr h k (fun j => if j = c then v else f j) := by
  refine j_ext (fun a j => ?_) rfl
  by_cases ha : a = k
  · subst ha; simp [upr, j_up]
  · simp [upr, j_up, ha]
abbrev CU (S : jS) (M : jM) (av : List jV) (h h2 : jH) : Prop := CT S M av h (jPv fun h' => h' = h2)
def qL (N : Nat) (hw lf : Nat → Int) (j : Nat) : Int := if j < N ∧ hw j = 2 then lf j - 1 else lf j
def qH (N : Nat) (hw lf : Nat → Int) (j : Nat) : Int := if j < N ∧ hw j = 2 ∧ lf j - 1 ≤ 0 then 3 else hw j
def qF (N : Nat) (fl : Nat → Int) (m : Int) (hw : Nat → Int) (j : Nat) : Int := if j < N ∧ hw j = 0 ∧ fl j = m then 1 else hw j
def qW (N : Nat) (hw wt : Nat → Int) (j : Nat) : Int := if j < N ∧ hw j = 1 then wt j + 1 else wt j
theorem qF_s {N : Nat} {fl hw : Nat → Int} {m : Int} {c : Nat} (h : hw c = 0 ∧ fl c = m) : qF (c + 1) fl m hw = fun j => if j = c then 1 else qF c fl m hw j := by
  funext j
  unfold qF
  by_cases hj : j = c
  · subst hj; simp [h]
  · have : j < c + 1 ↔ j < c := by omega
    simp [hj, this]
theorem qF_n {fl hw : Nat → Int} {m : Int} {c : Nat} (h : ¬ (hw c = 0 ∧ fl c = m)) : qF (c + 1) fl m hw = qF c fl m hw := by
  funext j
  unfold qF
  by_cases hj : j = c
  · subst hj; simp [h]
  · have : j < c + 1 ↔ j < c := by omega
    simp [this]
theorem qF_at {fl hw : Nat → Int} {m : Int} {c : Nat} : qF c fl m hw c = hw c := by simp [qF]
theorem qF_0 {fl hw : Nat → Int} {m : Int} (j : Nat) : qF 0 fl m hw j = hw j := by simp [qF]
theorem ct_letFall_17 {h : jH} {N : Nat} (hN : h.1 2 2 = N) (h7 : N ≤ 7) : CU Sx M_X2_letFall [jR 17] h (upr h 19 (qF N (h.1 4) (h.1 17 1) (h.1 19))) := by
  refine en_X2_letFall_17 (fun G => vc_X2_letFall_17_0 ?_)
  refine WV.hp (upr_id (k := 19) (f := qF 0 (h.1 4) (h.1 17 1) (h.1 19)) (fun j => qF_0 j)) (jf_fun N (fun c => [jR 17, jI (c : Nat)]) (fun c => upr h 19 (qF c (h.1 4) (h.1 17 1) (h.1 19))) (fun c hc k => ?_) ?_ 0 (Nat.zero_le _))
  · have e2 : (upr h 19 (qF c (h.1 4) (h.1 17 1) (h.1 19))).1 2 2 = N := hN
    have e19 : (upr h 19 (qF c (h.1 4) (h.1 17 1) (h.1 19))).1 19 c = h.1 19 c := by rw [upr_same]; exact qF_at
    refine vc_X2_letFall_17_2 ⟨fun q => absurd q (by omega), fun q => ⟨⟨by omega, by omega⟩, ?_⟩⟩
    simp only [Int.toNat_natCast, e19]
    refine ⟨fun e => ⟨fun e3 => ⟨⟨by omega, by omega⟩, WV.hp ?_ k⟩, fun e3 => ⟨⟨by omega, by omega⟩, WV.hp ?_ k⟩⟩, fun e => ⟨⟨by omega, by omega⟩, WV.hp ?_ k⟩⟩
    · have e3 : h.1 4 c = h.1 17 1 := e3
      rw [up_upr, qF_s (N := 0) ⟨e, e3⟩]
    · have e3 : ¬ h.1 4 c = h.1 17 1 := e3
      rw [qF_n (fun z => e3 z.2)]
    · rw [qF_n (fun z => e z.1)]
  · have e2 : (upr h 19 (qF N (h.1 4) (h.1 17 1) (h.1 19))).1 2 2 = N := hN
    exact vc_X2_letFall_17_2 ⟨fun q => ⟨rfl, rfl⟩, fun q => absurd q (by omega)⟩
/-- the moment a minute later, its minute apart -/
def pm_17 (h : jH) (N : Nat) : jH := upr (upr (upr h 20 (qL N (h.1 19) (h.1 20))) 19 (qH N (h.1 19) (h.1 20))) 21 (qW N (h.1 19) (h.1 21))
theorem ct_passMinute_17 {h : jH} {N : Nat} (hN : h.1 2 2 = N) (h7 : N ≤ 7) (hl : ∀ c, c < N → -100000 ≤ h.1 20 c ∧ h.1 20 c ≤ 100000) (hw : ∀ c, c < N → -100000 ≤ h.1 21 c ∧ h.1 21 c ≤ 100000) (hm : -100000 ≤ h.1 17 1 ∧ h.1 17 1 ≤ 100000) :
    CU Sx M_X2_passMinute [jR 17] h (upr (j_up (pm_17 h N) 17 1 (h.1 17 1 + 1)) 19 (qF N (h.1 4) (h.1 17 1 + 1) (qH N (h.1 19) (h.1 20)))) := by
  refine en_X2_passMinute_17 (fun G => vc_X2_passMinute_17_0 ?_)
  refine WV.hp (h1 := pm_17 h 0) ?_ (jf_fun N (fun c => [jR 17, jI (c : Nat)]) (fun c => pm_17 h c) (fun c hc k => ?_) ?_ 0 (Nat.zero_le _))
  · refine j_ext (fun a j => ?_) rfl
    by_cases h1 : a = 20 <;> by_cases h2 : a = 19 <;> by_cases h3 : a = 21 <;> simp [pm_17, upr, qL, qH, qW, h1, h2, h3]
  · have e2 : (pm_17 h c).1 2 2 = N := hN
    have eH : (pm_17 h c).1 19 c = h.1 19 c := by simp [pm_17, upr, qH]
    have eL : (pm_17 h c).1 20 c = h.1 20 c := by simp [pm_17, upr, qL]
    have eW : (pm_17 h c).1 21 c = h.1 21 c := by simp [pm_17, upr, qW]
    have l1 := hl c hc
    have w1 := hw c hc
    refine vc_X2_passMinute_17_2 ⟨fun q => absurd q (by omega), fun q => ⟨⟨by omega, by omega⟩, ?_⟩⟩
    simp only [Int.toNat_natCast, eH, eL, eW]
    have key : ∀ a j, a ≠ 19 ∨ a ≠ 20 ∨ a ≠ 21 → j ≠ c → (pm_17 h (c + 1)).1 a j = (pm_17 h c).1 a j := by
      intro a j _ hj
      have : j < c + 1 ↔ j < c := by omega
      by_cases h2 : a = 19
      · subst h2; simp [pm_17, upr, qH, this]
      · by_cases h3 : a = 20
        · subst h3; simp [pm_17, upr, qL, this]
        · by_cases h4 : a = 21
          · subst h4; simp [pm_17, upr, qW, this]
          · simp [pm_17, upr, h2, h3, h4]
    have kk : ∀ g : jH, g.2 = h.2 → (∀ a j, (a ≠ 19 ∧ a ≠ 20 ∧ a ≠ 21) ∨ j ≠ c → g.1 a j = (pm_17 h c).1 a j) → g.1 19 c = qH (c + 1) (h.1 19) (h.1 20) c → g.1 20 c = qL (c + 1) (h.1 19) (h.1 20) c → g.1 21 c = qW (c + 1) (h.1 19) (h.1 21) c → pm_17 h (c + 1) = g := by
      intro g g0 g1 g2 g3 g4
      refine j_ext (fun a j => ?_) g0.symm
      by_cases hj : j = c
      · subst hj
        by_cases h2 : a = 19
        · subst h2; rw [g2]; simp [pm_17, upr]
        · by_cases h3 : a = 20
          · subst h3; rw [g3]; simp [pm_17, upr]
          · by_cases h4 : a = 21
            · subst h4; rw [g4]; simp [pm_17, upr]
            · rw [g1 a j (Or.inl ⟨h2, h3, h4⟩)]; simp [pm_17, upr, h2, h3, h4]
      · rw [g1 a j (Or.inr hj)]
        exact key a j (by omega) hj
    refine ⟨fun e => ⟨⟨by omega, by omega⟩, fun e3 => ⟨⟨by omega, by omega⟩, WV.hp (kk _ rfl ?_ ?_ ?_ ?_) k⟩, fun e3 => ⟨⟨by omega, by omega⟩, WV.hp (kk _ rfl ?_ ?_ ?_ ?_) k⟩⟩, fun e => ⟨fun e3 => ⟨⟨by omega, by omega⟩, ⟨by omega, by omega⟩, WV.hp (kk _ rfl ?_ ?_ ?_ ?_) k⟩, fun e3 => ⟨⟨by omega, by omega⟩, WV.hp (kk _ rfl ?_ ?_ ?_ ?_) k⟩⟩⟩
    · intro a j hh
      rcases hh with ⟨h2, h3, h4⟩ | hj
      · simp [j_up, h3]
      · simp [j_up, hj]
    · simp [j_up, eH, qH, e]; omega
    · simp [j_up, qL, e]
    · simp [j_up, eW, qW, e]
    · intro a j hh
      rcases hh with ⟨h2, h3, h4⟩ | hj
      · simp [j_up, h2, h3]
      · simp [j_up, hj]
    · simp [j_up, qH, e]; omega
    · simp [j_up, qL, e]
    · simp [j_up, eW, qW, e]
    · intro a j hh
      rcases hh with ⟨h2, h3, h4⟩ | hj
      · simp [j_up, h4]
      · simp [j_up, hj]
    · simp [j_up, eH, qH, e]
    · simp [j_up, eL, qL, e]
    · simp [j_up, qW, e3]
    · intro a j hh
      rfl
    · simp [eH, qH, e]
    · simp [eL, qL, e]
    · simp [eW, qW, e3]
  · have e2 : (pm_17 h N).1 2 2 = N := hN
    have e1 : (pm_17 h N).1 17 1 = h.1 17 1 := rfl
    refine vc_X2_passMinute_17_2 ⟨fun q => ?_, fun q => absurd q (by omega)⟩
    rw [e1]
    refine ⟨⟨by omega, by omega⟩, _, ct_letFall_17 (N := N) hN h7, ?_⟩
    rintro _ rfl
    refine ⟨rfl, ?_⟩
    have e19 : (j_up (pm_17 h N) 17 1 (h.1 17 1 + 1)).1 19 = qH N (h.1 19) (h.1 20) := by funext j; simp [j_up, pm_17, upr]
    have e4 : (j_up (pm_17 h N) 17 1 (h.1 17 1 + 1)).1 4 = h.1 4 := by funext j; simp [j_up, pm_17, upr]
    have e17 : (j_up (pm_17 h N) 17 1 (h.1 17 1 + 1)).1 17 1 = h.1 17 1 + 1 := by simp [j_up]
    rw [e19, e4, e17]
theorem ct_plug_17 {h : jH} (c : Nat) (hc : c < 7) : CU Sx M_X2_plug [jR 17, jI c] h (j_up (j_up h 19 c 2) 20 c (h.1 7 c)) := by
  refine en_X2_plug_17 (fun G => vc_X2_plug_17_0 ⟨⟨by omega, by omega⟩, rfl, ?_⟩)
  simp only [Int.toNat_natCast]
theorem ct_letFall_28 {h : jH} {N : Nat} (hN : h.1 2 2 = N) (h7 : N ≤ 7) : CU Sx M_X2_letFall [jR 28] h (upr h 30 (qF N (h.1 4) (h.1 28 1) (h.1 30))) := by
  refine en_X2_letFall_28 (fun G => vc_X2_letFall_28_0 ?_)
  refine WV.hp (upr_id (k := 30) (f := qF 0 (h.1 4) (h.1 28 1) (h.1 30)) (fun j => qF_0 j)) (jf_fun N (fun c => [jR 28, jI (c : Nat)]) (fun c => upr h 30 (qF c (h.1 4) (h.1 28 1) (h.1 30))) (fun c hc k => ?_) ?_ 0 (Nat.zero_le _))
  · have e2 : (upr h 30 (qF c (h.1 4) (h.1 28 1) (h.1 30))).1 2 2 = N := hN
    have e19 : (upr h 30 (qF c (h.1 4) (h.1 28 1) (h.1 30))).1 30 c = h.1 30 c := by rw [upr_same]; exact qF_at
    refine vc_X2_letFall_28_2 ⟨fun q => absurd q (by omega), fun q => ⟨⟨by omega, by omega⟩, ?_⟩⟩
    simp only [Int.toNat_natCast, e19]
    refine ⟨fun e => ⟨fun e3 => ⟨⟨by omega, by omega⟩, WV.hp ?_ k⟩, fun e3 => ⟨⟨by omega, by omega⟩, WV.hp ?_ k⟩⟩, fun e => ⟨⟨by omega, by omega⟩, WV.hp ?_ k⟩⟩
    · have e3 : h.1 4 c = h.1 28 1 := e3
      rw [up_upr, qF_s (N := 0) ⟨e, e3⟩]
    · have e3 : ¬ h.1 4 c = h.1 28 1 := e3
      rw [qF_n (fun z => e3 z.2)]
    · rw [qF_n (fun z => e z.1)]
  · have e2 : (upr h 30 (qF N (h.1 4) (h.1 28 1) (h.1 30))).1 2 2 = N := hN
    exact vc_X2_letFall_28_2 ⟨fun q => ⟨rfl, rfl⟩, fun q => absurd q (by omega)⟩
/-- the moment a minute later, its minute apart -/
def pm_28 (h : jH) (N : Nat) : jH := upr (upr (upr h 31 (qL N (h.1 30) (h.1 31))) 30 (qH N (h.1 30) (h.1 31))) 32 (qW N (h.1 30) (h.1 32))
theorem ct_passMinute_28 {h : jH} {N : Nat} (hN : h.1 2 2 = N) (h7 : N ≤ 7) (hl : ∀ c, c < N → -100000 ≤ h.1 31 c ∧ h.1 31 c ≤ 100000) (hw : ∀ c, c < N → -100000 ≤ h.1 32 c ∧ h.1 32 c ≤ 100000) (hm : -100000 ≤ h.1 28 1 ∧ h.1 28 1 ≤ 100000) :
    CU Sx M_X2_passMinute [jR 28] h (upr (j_up (pm_28 h N) 28 1 (h.1 28 1 + 1)) 30 (qF N (h.1 4) (h.1 28 1 + 1) (qH N (h.1 30) (h.1 31)))) := by
  refine en_X2_passMinute_28 (fun G => vc_X2_passMinute_28_0 ?_)
  refine WV.hp (h1 := pm_28 h 0) ?_ (jf_fun N (fun c => [jR 28, jI (c : Nat)]) (fun c => pm_28 h c) (fun c hc k => ?_) ?_ 0 (Nat.zero_le _))
  · refine j_ext (fun a j => ?_) rfl
    by_cases h1 : a = 31 <;> by_cases h2 : a = 30 <;> by_cases h3 : a = 32 <;> simp [pm_28, upr, qL, qH, qW, h1, h2, h3]
  · have e2 : (pm_28 h c).1 2 2 = N := hN
    have eH : (pm_28 h c).1 30 c = h.1 30 c := by simp [pm_28, upr, qH]
    have eL : (pm_28 h c).1 31 c = h.1 31 c := by simp [pm_28, upr, qL]
    have eW : (pm_28 h c).1 32 c = h.1 32 c := by simp [pm_28, upr, qW]
    have l1 := hl c hc
    have w1 := hw c hc
    refine vc_X2_passMinute_28_2 ⟨fun q => absurd q (by omega), fun q => ⟨⟨by omega, by omega⟩, ?_⟩⟩
    simp only [Int.toNat_natCast, eH, eL, eW]
    have key : ∀ a j, a ≠ 30 ∨ a ≠ 31 ∨ a ≠ 32 → j ≠ c → (pm_28 h (c + 1)).1 a j = (pm_28 h c).1 a j := by
      intro a j _ hj
      have : j < c + 1 ↔ j < c := by omega
      by_cases h2 : a = 30
      · subst h2; simp [pm_28, upr, qH, this]
      · by_cases h3 : a = 31
        · subst h3; simp [pm_28, upr, qL, this]
        · by_cases h4 : a = 32
          · subst h4; simp [pm_28, upr, qW, this]
          · simp [pm_28, upr, h2, h3, h4]
    have kk : ∀ g : jH, g.2 = h.2 → (∀ a j, (a ≠ 30 ∧ a ≠ 31 ∧ a ≠ 32) ∨ j ≠ c → g.1 a j = (pm_28 h c).1 a j) → g.1 30 c = qH (c + 1) (h.1 30) (h.1 31) c → g.1 31 c = qL (c + 1) (h.1 30) (h.1 31) c → g.1 32 c = qW (c + 1) (h.1 30) (h.1 32) c → pm_28 h (c + 1) = g := by
      intro g g0 g1 g2 g3 g4
      refine j_ext (fun a j => ?_) g0.symm
      by_cases hj : j = c
      · subst hj
        by_cases h2 : a = 30
        · subst h2; rw [g2]; simp [pm_28, upr]
        · by_cases h3 : a = 31
          · subst h3; rw [g3]; simp [pm_28, upr]
          · by_cases h4 : a = 32
            · subst h4; rw [g4]; simp [pm_28, upr]
            · rw [g1 a j (Or.inl ⟨h2, h3, h4⟩)]; simp [pm_28, upr, h2, h3, h4]
      · rw [g1 a j (Or.inr hj)]
        exact key a j (by omega) hj
    refine ⟨fun e => ⟨⟨by omega, by omega⟩, fun e3 => ⟨⟨by omega, by omega⟩, WV.hp (kk _ rfl ?_ ?_ ?_ ?_) k⟩, fun e3 => ⟨⟨by omega, by omega⟩, WV.hp (kk _ rfl ?_ ?_ ?_ ?_) k⟩⟩, fun e => ⟨fun e3 => ⟨⟨by omega, by omega⟩, ⟨by omega, by omega⟩, WV.hp (kk _ rfl ?_ ?_ ?_ ?_) k⟩, fun e3 => ⟨⟨by omega, by omega⟩, WV.hp (kk _ rfl ?_ ?_ ?_ ?_) k⟩⟩⟩
    · intro a j hh
      rcases hh with ⟨h2, h3, h4⟩ | hj
      · simp [j_up, h3]
      · simp [j_up, hj]
    · simp [j_up, eH, qH, e]; omega
    · simp [j_up, qL, e]
    · simp [j_up, eW, qW, e]
    · intro a j hh
      rcases hh with ⟨h2, h3, h4⟩ | hj
      · simp [j_up, h2, h3]
      · simp [j_up, hj]
    · simp [j_up, qH, e]; omega
    · simp [j_up, qL, e]
    · simp [j_up, eW, qW, e]
    · intro a j hh
      rcases hh with ⟨h2, h3, h4⟩ | hj
      · simp [j_up, h4]
      · simp [j_up, hj]
    · simp [j_up, eH, qH, e]
    · simp [j_up, eL, qL, e]
    · simp [j_up, qW, e3]
    · intro a j hh
      rfl
    · simp [eH, qH, e]
    · simp [eL, qL, e]
    · simp [eW, qW, e3]
  · have e2 : (pm_28 h N).1 2 2 = N := hN
    have e1 : (pm_28 h N).1 28 1 = h.1 28 1 := rfl
    refine vc_X2_passMinute_28_2 ⟨fun q => ?_, fun q => absurd q (by omega)⟩
    rw [e1]
    refine ⟨⟨by omega, by omega⟩, _, ct_letFall_28 (N := N) hN h7, ?_⟩
    rintro _ rfl
    refine ⟨rfl, ?_⟩
    have e19 : (j_up (pm_28 h N) 28 1 (h.1 28 1 + 1)).1 30 = qH N (h.1 30) (h.1 31) := by funext j; simp [j_up, pm_28, upr]
    have e4 : (j_up (pm_28 h N) 28 1 (h.1 28 1 + 1)).1 4 = h.1 4 := by funext j; simp [j_up, pm_28, upr]
    have e17 : (j_up (pm_28 h N) 28 1 (h.1 28 1 + 1)).1 28 1 = h.1 28 1 + 1 := by simp [j_up]
    rw [e19, e4, e17]
theorem ct_plug_28 {h : jH} (c : Nat) (hc : c < 7) : CU Sx M_X2_plug [jR 28, jI c] h (j_up (j_up h 30 c 2) 31 c (h.1 7 c)) := by
  refine en_X2_plug_28 (fun G => vc_X2_plug_28_0 ⟨⟨by omega, by omega⟩, rfl, ?_⟩)
  simp only [Int.toNat_natCast]
theorem ct_pull {h : jH} (c : Nat) (hc : c < 7) : CU Sx M_X2_pull [jR 17, jI c] h (j_up (j_up h 19 c 4) 20 c 0) := by
  refine en_X2_pull_17 (fun G => vc_X2_pull_17_0 ⟨⟨by omega, by omega⟩, rfl, ?_⟩)
  simp only [Int.toNat_natCast]
theorem ct_begin {h : jH} {N : Nat} (hN : h.1 2 2 = N) (h7 : N ≤ 7) : CT Sx M_X2_begin [jR 17] h (jPv fun h' => h'.2 = h.2 ∧ (∀ k, k ≠ 17 → k ≠ 18 → k ≠ 19 → k ≠ 20 → k ≠ 21 → h'.1 k = h.1 k) ∧ h'.1 17 1 = 0 ∧ (∀ j, j < 6 → h'.1 18 j = h.1 3 j) ∧ (∀ j, j < 7 → h'.1 19 j = (if j < N ∧ h.1 4 j = 0 then 1 else 0) ∧ h'.1 20 j = 0 ∧ h'.1 21 j = 0)) := by
  refine en_X2_begin_17 (fun G => vc_X2_begin_17_0 ?_)
  refine jf_loop 7 (fun c lv g => lv = [jR 17, jI (c : Nat)] ∧ g.2 = h.2 ∧ (∀ k, k ≠ 17 → k ≠ 18 → k ≠ 19 → k ≠ 20 → k ≠ 21 → g.1 k = h.1 k) ∧ g.1 17 1 = 0 ∧ (∀ j, j < 6 → g.1 18 j = h.1 3 j) ∧ (∀ j, j < c → g.1 19 j = 0 ∧ g.1 20 j = 0 ∧ g.1 21 j = 0)) ?_ ?_ 0 (Nat.zero_le _) _ _ ⟨rfl, rfl, ?_, ?_, ?_, ?_⟩
  · rintro c hc lv g ⟨rfl, g0, g1, g2, g3, g4⟩ k
    refine vc_X2_begin_17_25 ⟨fun q => absurd q (by omega), fun q => ⟨⟨by omega, by omega⟩, ⟨by omega, by omega⟩, k _ _ ⟨rfl, g0, ?_, ?_, ?_, ?_⟩⟩⟩
    · intro k h1 h2 h3 h4 h5
      rw [← g1 k h1 h2 h3 h4 h5]
      funext j
      simp [j_up, h3, h4, h5]
    · simpa [j_up] using g2
    · intro j hj
      simpa [j_up] using g3 j hj
    · intro j hj
      by_cases e : j = c
      · subst e; simp [j_up]
      · have := g4 j (by omega)
        simpa [j_up, e] using this
  · rintro lv g ⟨rfl, g0, g1, g2, g3, g4⟩
    have eN : g.1 2 2 = N := by rw [g1 2 (by decide) (by decide) (by decide) (by decide) (by decide)]; exact hN
    refine vc_X2_begin_17_25 ⟨fun q => ⟨_, ct_letFall_17 eN h7, ?_⟩, fun q => absurd q (by omega)⟩
    rintro _ rfl
    refine ⟨rfl, g0, fun k h1 h2 h3 h4 h5 => ?_, g2, fun j hj => ?_, fun j hj => ⟨?_, ?_, ?_⟩⟩
    · rw [upr_ne h3]; exact g1 k h1 h2 h3 h4 h5
    · rw [upr_ne (by decide)]; exact g3 j hj
    · rw [upr_same, g1 4 (by decide) (by decide) (by decide) (by decide) (by decide), g2]
      unfold qF
      rw [(g4 j hj).1]
      simp
    · rw [upr_ne (by decide)]; exact (g4 j hj).2.1
    · rw [upr_ne (by decide)]; exact (g4 j hj).2.2
  · intro k h1 h2 h3 h4 h5
    funext j
    simp [j_cp, j_up, h1, h2]
  · simp [j_cp, j_up]
  · intro j hj
    simp [j_cp, j_up, hj]
  · intro j hj
    omega
