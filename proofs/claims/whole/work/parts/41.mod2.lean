/-! the model: moments as rows -/
/-- the row at s holds a moment: its minute, holes, how calls are, what is left, what they waited -/
def MRow (h : jH) (s : Nat) (m : Int) (ho hw lf wt : Nat → Int) : Prop := h.1 s 0 = m ∧ (∀ l, l < 6 → h.1 s (1 + l) = ho l) ∧ ∀ c, c < 7 → h.1 s (7 + c) = hw c ∧ h.1 s (14 + c) = lf c ∧ h.1 s (21 + c) = wt c
section MR
variable {h g : jH} {s : Nat} {m : Int} {ho hw lf wt : Nat → Int}
theorem MRow.uh (k : MRow h s m ho hw lf wt) {c : Nat} (hc : c < 7) (v : Int) : MRow (j_up h s (7 + c) v) s m ho (fun j => if j = c then v else hw j) lf wt := by
  refine ⟨by rw [up_out (by omega)]; exact k.1, fun l hl => by rw [up_out (by omega)]; exact k.2.1 l hl, fun d hd => ⟨?_, by rw [up_out (by omega)]; exact (k.2.2 d hd).2.1, by rw [up_out (by omega)]; exact (k.2.2 d hd).2.2⟩⟩
  show _ = if d = c then v else _
  by_cases e : d = c
  · subst e; rw [up_eq, if_pos rfl]
  · rw [up_out (by omega), if_neg e]; exact (k.2.2 d hd).1
theorem MRow.ul (k : MRow h s m ho hw lf wt) {c : Nat} (hc : c < 7) (v : Int) : MRow (j_up h s (14 + c) v) s m ho hw (fun j => if j = c then v else lf j) wt := by
  refine ⟨by rw [up_out (by omega)]; exact k.1, fun l hl => by rw [up_out (by omega)]; exact k.2.1 l hl, fun d hd => ⟨by rw [up_out (by omega)]; exact (k.2.2 d hd).1, ?_, by rw [up_out (by omega)]; exact (k.2.2 d hd).2.2⟩⟩
  show _ = if d = c then v else _
  by_cases e : d = c
  · subst e; rw [up_eq, if_pos rfl]
  · rw [up_out (by omega), if_neg e]; exact (k.2.2 d hd).2.1
theorem MRow.uw (k : MRow h s m ho hw lf wt) {c : Nat} (hc : c < 7) (v : Int) : MRow (j_up h s (21 + c) v) s m ho hw lf (fun j => if j = c then v else wt j) := by
  refine ⟨by rw [up_out (by omega)]; exact k.1, fun l hl => by rw [up_out (by omega)]; exact k.2.1 l hl, fun d hd => ⟨by rw [up_out (by omega)]; exact (k.2.2 d hd).1, by rw [up_out (by omega)]; exact (k.2.2 d hd).2.1, ?_⟩⟩
  show _ = if d = c then v else _
  by_cases e : d = c
  · subst e; rw [up_eq, if_pos rfl]
  · rw [up_out (by omega), if_neg e]; exact (k.2.2 d hd).2.2
theorem MRow.mi (k : MRow h s m ho hw lf wt) (v : Int) : MRow (j_up h s 0 v) s v ho hw lf wt :=
  ⟨up_eq, fun l hl => by rw [up_out (by omega)]; exact k.2.1 l hl, fun d hd => ⟨by rw [up_out (by omega)]; exact (k.2.2 d hd).1, by rw [up_out (by omega)]; exact (k.2.2 d hd).2.1, by rw [up_out (by omega)]; exact (k.2.2 d hd).2.2⟩⟩
theorem MRow.cg {ho2 hw2 lf2 wt2 : Nat → Int} (k : MRow h s m ho hw lf wt) (h1 : ∀ l, l < 6 → ho l = ho2 l) (h2 : ∀ c, c < 7 → hw c = hw2 c) (h3 : ∀ c, c < 7 → lf c = lf2 c) (h4 : ∀ c, c < 7 → wt c = wt2 c) : MRow h s m ho2 hw2 lf2 wt2 :=
  ⟨k.1, fun l hl => by rw [← h1 l hl]; exact k.2.1 l hl, fun c hc => ⟨by rw [← h2 c hc]; exact (k.2.2 c hc).1, by rw [← h3 c hc]; exact (k.2.2 c hc).2.1, by rw [← h4 c hc]; exact (k.2.2 c hc).2.2⟩⟩
theorem MRow.self : MRow h s (h.1 s 0) (mO h s) (mH h s) (mL h s) (mW h s) := ⟨rfl, fun _ _ => rfl, fun _ _ => ⟨rfl, rfl, rfl⟩⟩
theorem MRow.kp (k : MRow h s m ho hw lf wt) (e : g.1 s = h.1 s) : MRow g s m ho hw lf wt := ⟨by rw [e]; exact k.1, fun l hl => by rw [e]; exact k.2.1 l hl, fun c hc => by rw [e]; exact k.2.2 c hc⟩
end MR
theorem qL_st {hw lf : Nat → Int} {c : Nat} (j : Nat) : (if j = c then (if hw c = 2 then lf c - 1 else lf c) else qL c hw lf j) = qL (c + 1) hw lf j := by
  unfold qL
  by_cases e : j = c
  · subst e; simp
  · have : j < c + 1 ↔ j < c := by omega
    simp [e, this]
theorem qH_st {hw lf : Nat → Int} {c : Nat} (j : Nat) : (if j = c then (if hw c = 2 ∧ lf c - 1 ≤ 0 then 3 else hw c) else qH c hw lf j) = qH (c + 1) hw lf j := by
  unfold qH
  by_cases e : j = c
  · subst e; simp
  · have : j < c + 1 ↔ j < c := by omega
    simp [e, this]
theorem qW_st {hw wt : Nat → Int} {c : Nat} (j : Nat) : (if j = c then (if hw c = 1 then wt c + 1 else wt c) else qW c hw wt j) = qW (c + 1) hw wt j := by
  unfold qW
  by_cases e : j = c
  · subst e; simp
  · have : j < c + 1 ↔ j < c := by omega
    simp [e, this]
theorem qL_n {hw lf : Nat → Int} {c : Nat} (h : ¬ hw c = 2) (j : Nat) : qL c hw lf j = qL (c + 1) hw lf j := by
  rw [← qL_st]
  by_cases e : j = c
  · subst e; simp [qL, h]
  · simp [e]
theorem qH_n {hw lf : Nat → Int} {c : Nat} (h : ¬ hw c = 2) (j : Nat) : qH c hw lf j = qH (c + 1) hw lf j := by
  rw [← qH_st]
  by_cases e : j = c
  · subst e; simp [qH, h]
  · simp [e]
theorem qW_n {hw wt : Nat → Int} {c : Nat} (h : ¬ hw c = 1) (j : Nat) : qW c hw wt j = qW (c + 1) hw wt j := by
  rw [← qW_st]
  by_cases e : j = c
  · subst e; simp [qW, h]
  · simp [e]
theorem qF_st {fl hw : Nat → Int} {m : Int} {c : Nat} (j : Nat) : (if j = c then (if hw c = 0 ∧ fl c = m then 1 else hw c) else qF c fl m hw j) = qF (c + 1) fl m hw j := by
  unfold qF
  by_cases e : j = c
  · subst e; simp
  · have : j < c + 1 ↔ j < c := by omega
    simp [e, this]
theorem cm_pass_5 {h : jH} {N : Nat} (hN : h.1 0 15 = N) (h7 : N ≤ 7) {m : Int} {ho hw lf wt : Nat → Int} (hM : MRow h 5 m ho hw lf wt) (hl : ∀ c, c < N → hw c = 2 → 1 ≤ lf c) (hl2 : ∀ c, c < N → -100000 ≤ lf c ∧ lf c ≤ 100000) (hwt : ∀ c, c < N → -100000 ≤ wt c ∧ wt c ≤ 100000) (hm : -100000 ≤ m ∧ m ≤ 100000) :
    CT Sm M_X8_pass [jR 0, jR 5] h (jPv fun h' => (∀ k, k ≠ 5 → h'.1 k = h.1 k) ∧ h'.2 = h.2 ∧ MRow h' 5 (m + 1) ho (qF N (mA h) (m + 1) (qH N hw lf)) (qL N hw lf) (qW N hw wt)) := by
  refine en_X8_pass_0_5 (fun G => vc_X8_pass_0_5_0 ?_)
  refine jf_loop N (fun c lv g => lv = [jR 0, jR 5, jI (c : Nat)] ∧ (∀ k, k ≠ 5 → g.1 k = h.1 k) ∧ g.2 = h.2 ∧ MRow g 5 m ho (qH c hw lf) (qL c hw lf) (qW c hw wt)) ?_ ?_ 0 (Nat.zero_le _) _ _ ⟨rfl, fun _ _ => rfl, rfl, hM.cg (fun _ _ => rfl) (fun c _ => by simp [qH]) (fun c _ => by simp [qL]) (fun c _ => by simp [qW])⟩
  · rintro c hc lv g ⟨rfl, gk, g2, gM⟩ k
    have e0 : g.1 0 15 = N := by rw [gk 0 (by decide)]; exact hN
    have r := gM.2.2 c (by omega)
    have r1 : g.1 5 (7 + c) = hw c := by rw [r.1]; simp [qH]
    have r2 : g.1 5 (14 + c) = lf c := by rw [r.2.1]; simp [qL]
    have r3 : g.1 5 (21 + c) = wt c := by rw [r.2.2]; simp [qW]
    have b1 := hl2 c hc
    have b2 := hwt c hc
    refine vc_X8_pass_0_5_2 ⟨fun q => absurd q (by omega), fun q => ⟨⟨by omega, by omega⟩, ⟨by omega, by omega⟩, ?_⟩⟩
    rw [show Int.toNat (7 + (c : Int)) = 7 + c by omega, show Int.toNat (14 + (c : Int)) = 14 + c by omega, show Int.toNat (21 + (c : Int)) = 21 + c by omega, r1, r2, r3]
    refine ⟨fun e => ⟨⟨by omega, by omega⟩, ⟨by omega, by omega⟩, ⟨by omega, by omega⟩, fun e1 => ⟨⟨by omega, by omega⟩, k _ _ ⟨rfl, ?_, g2, ?_⟩⟩, fun e1 => ⟨⟨by omega, by omega⟩, k _ _ ⟨rfl, ?_, g2, ?_⟩⟩⟩, fun e => ⟨⟨by omega, by omega⟩, ⟨by omega, by omega⟩, fun e1 => ⟨⟨by omega, by omega⟩, ⟨by omega, by omega⟩, k _ _ ⟨rfl, ?_, g2, ?_⟩⟩, fun e1 => ⟨⟨by omega, by omega⟩, ⟨by omega, by omega⟩, k _ _ ⟨rfl, ?_, g2, ?_⟩⟩⟩⟩
    · intro a ha; rw [up_ne ha, up_ne ha]; exact gk a ha
    · refine ((gM.ul (by omega) _).uh (by omega) _).cg (fun _ _ => rfl) (fun j _ => ?_) (fun j _ => ?_) (fun j _ => qW_n (by omega) j)
      · rw [← qH_st, if_pos (show hw c = 2 ∧ lf c - 1 ≤ 0 by omega)]
      · rw [← qL_st, if_pos e]
    · intro a ha; rw [up_ne ha, up_ne ha]; exact gk a ha
    · have := hl c hc e
      refine ((gM.ul (by omega) _).uh (by omega) _).cg (fun _ _ => rfl) (fun j _ => ?_) (fun j _ => ?_) (fun j _ => qW_n (by omega) j)
      · rw [← qH_st, if_neg (show ¬ (hw c = 2 ∧ lf c - 1 ≤ 0) by omega), e]
      · rw [← qL_st, if_pos e]
    · intro a ha; rw [up_ne ha]; exact gk a ha
    · refine (gM.uw (by omega) _).cg (fun _ _ => rfl) (fun j _ => qH_n e j) (fun j _ => qL_n e j) (fun j _ => ?_)
      rw [← qW_st, if_pos e1]
    · intro a ha; rw [up_ne ha]; exact gk a ha
    · refine (gM.uw (by omega) _).cg (fun _ _ => rfl) (fun j _ => qH_n e j) (fun j _ => qL_n e j) (fun j _ => ?_)
      rw [← qW_st, if_neg e1, Int.add_zero]
  · rintro lv g ⟨rfl, gk, g2, gM⟩
    have e0 : g.1 0 15 = N := by rw [gk 0 (by decide)]; exact hN
    have em : g.1 5 0 = m := gM.1
    refine vc_X8_pass_0_5_2 ⟨fun _ => ⟨by rw [em]; exact ⟨by omega, by omega⟩, ?_⟩, fun q => absurd q (by omega)⟩
    rw [em]
    refine jf_loop N (fun c lv u => lv = [jR 0, jR 5, jI (c : Nat)] ∧ (∀ k, k ≠ 5 → u.1 k = h.1 k) ∧ u.2 = h.2 ∧ MRow u 5 (m + 1) ho (qF c (mA h) (m + 1) (qH N hw lf)) (qL N hw lf) (qW N hw wt)) ?_ ?_ 0 (Nat.zero_le _) _ _ ⟨rfl, fun a ha => by rw [up_ne ha]; exact gk a ha, g2, (gM.mi (m + 1)).cg (fun _ _ => rfl) (fun c _ => by rw [qF_0]) (fun _ _ => rfl) (fun _ _ => rfl)⟩
    · rintro c hc lv u ⟨rfl, uk, u2, uM⟩ k
      have e0 : u.1 0 15 = N := by rw [uk 0 (by decide)]; exact hN
      have e4 : u.1 4 = h.1 4 := uk 4 (by decide)
      have r := uM.2.2 c (by omega)
      have r1 : u.1 5 (7 + c) = qH N hw lf c := by rw [r.1, qF_at]
      have em : u.1 5 0 = m + 1 := uM.1
      have eA : h.1 4 (5 * c) = mA h c := rfl
      refine vc_X8_pass_0_5_92 ⟨fun q => absurd q (by omega), fun q => ⟨⟨by omega, by omega⟩, ⟨by omega, by omega⟩, ?_⟩⟩
      rw [show Int.toNat (7 + (c : Int)) = 7 + c by omega, show Int.toNat (5 * (c : Int)) = 5 * c by omega, r1, em, e4, eA]
      refine ⟨fun e => ⟨⟨by omega, by omega⟩, ⟨by omega, by omega⟩, fun e1 => ⟨⟨by omega, by omega⟩, k _ _ ⟨rfl, ?_, u2, ?_⟩⟩, fun e1 => ⟨⟨by omega, by omega⟩, k _ _ ⟨rfl, ?_, u2, ?_⟩⟩⟩, fun e => ⟨⟨by omega, by omega⟩, k _ _ ⟨rfl, ?_, u2, ?_⟩⟩⟩
      · intro a ha; rw [up_ne ha]; exact uk a ha
      · refine (uM.uh (by omega) _).cg (fun _ _ => rfl) (fun j _ => ?_) (fun _ _ => rfl) (fun _ _ => rfl)
        rw [← qF_st, if_pos (show qH N hw lf c = 0 ∧ mA h c = m + 1 from ⟨e, e1⟩)]
      · intro a ha; rw [up_ne ha]; exact uk a ha
      · refine (uM.uh (by omega) _).cg (fun _ _ => rfl) (fun j _ => ?_) (fun _ _ => rfl) (fun _ _ => rfl)
        rw [← qF_st, if_neg (show ¬ (qH N hw lf c = 0 ∧ mA h c = m + 1) from fun z => e1 z.2)]
      · intro a ha; rw [up_ne ha]; exact uk a ha
      · refine (uM.uh (by omega) _).cg (fun _ _ => rfl) (fun j _ => ?_) (fun _ _ => rfl) (fun _ _ => rfl)
        rw [← qF_st, if_neg (show ¬ (qH N hw lf c = 0 ∧ mA h c = m + 1) from fun z => e z.1)]
    · rintro lv u ⟨rfl, uk, u2, uM⟩
      have e0 : u.1 0 15 = N := by rw [uk 0 (by decide)]; exact hN
      exact vc_X8_pass_0_5_92 ⟨fun _ => ⟨rfl, uk, u2, uM⟩, fun q => absurd q (by omega)⟩
theorem cm_pass_6 {h : jH} {N : Nat} (hN : h.1 0 15 = N) (h7 : N ≤ 7) {m : Int} {ho hw lf wt : Nat → Int} (hM : MRow h 6 m ho hw lf wt) (hl : ∀ c, c < N → hw c = 2 → 1 ≤ lf c) (hl2 : ∀ c, c < N → -100000 ≤ lf c ∧ lf c ≤ 100000) (hwt : ∀ c, c < N → -100000 ≤ wt c ∧ wt c ≤ 100000) (hm : -100000 ≤ m ∧ m ≤ 100000) :
    CT Sm M_X8_pass [jR 0, jR 6] h (jPv fun h' => (∀ k, k ≠ 6 → h'.1 k = h.1 k) ∧ h'.2 = h.2 ∧ MRow h' 6 (m + 1) ho (qF N (mA h) (m + 1) (qH N hw lf)) (qL N hw lf) (qW N hw wt)) := by
  refine en_X8_pass_0_6 (fun G => vc_X8_pass_0_6_0 ?_)
  refine jf_loop N (fun c lv g => lv = [jR 0, jR 6, jI (c : Nat)] ∧ (∀ k, k ≠ 6 → g.1 k = h.1 k) ∧ g.2 = h.2 ∧ MRow g 6 m ho (qH c hw lf) (qL c hw lf) (qW c hw wt)) ?_ ?_ 0 (Nat.zero_le _) _ _ ⟨rfl, fun _ _ => rfl, rfl, hM.cg (fun _ _ => rfl) (fun c _ => by simp [qH]) (fun c _ => by simp [qL]) (fun c _ => by simp [qW])⟩
  · rintro c hc lv g ⟨rfl, gk, g2, gM⟩ k
    have e0 : g.1 0 15 = N := by rw [gk 0 (by decide)]; exact hN
    have r := gM.2.2 c (by omega)
    have r1 : g.1 6 (7 + c) = hw c := by rw [r.1]; simp [qH]
    have r2 : g.1 6 (14 + c) = lf c := by rw [r.2.1]; simp [qL]
    have r3 : g.1 6 (21 + c) = wt c := by rw [r.2.2]; simp [qW]
    have b1 := hl2 c hc
    have b2 := hwt c hc
    refine vc_X8_pass_0_6_2 ⟨fun q => absurd q (by omega), fun q => ⟨⟨by omega, by omega⟩, ⟨by omega, by omega⟩, ?_⟩⟩
    rw [show Int.toNat (7 + (c : Int)) = 7 + c by omega, show Int.toNat (14 + (c : Int)) = 14 + c by omega, show Int.toNat (21 + (c : Int)) = 21 + c by omega, r1, r2, r3]
    refine ⟨fun e => ⟨⟨by omega, by omega⟩, ⟨by omega, by omega⟩, ⟨by omega, by omega⟩, fun e1 => ⟨⟨by omega, by omega⟩, k _ _ ⟨rfl, ?_, g2, ?_⟩⟩, fun e1 => ⟨⟨by omega, by omega⟩, k _ _ ⟨rfl, ?_, g2, ?_⟩⟩⟩, fun e => ⟨⟨by omega, by omega⟩, ⟨by omega, by omega⟩, fun e1 => ⟨⟨by omega, by omega⟩, ⟨by omega, by omega⟩, k _ _ ⟨rfl, ?_, g2, ?_⟩⟩, fun e1 => ⟨⟨by omega, by omega⟩, ⟨by omega, by omega⟩, k _ _ ⟨rfl, ?_, g2, ?_⟩⟩⟩⟩
    · intro a ha; rw [up_ne ha, up_ne ha]; exact gk a ha
    · refine ((gM.ul (by omega) _).uh (by omega) _).cg (fun _ _ => rfl) (fun j _ => ?_) (fun j _ => ?_) (fun j _ => qW_n (by omega) j)
      · rw [← qH_st, if_pos (show hw c = 2 ∧ lf c - 1 ≤ 0 by omega)]
      · rw [← qL_st, if_pos e]
    · intro a ha; rw [up_ne ha, up_ne ha]; exact gk a ha
    · have := hl c hc e
      refine ((gM.ul (by omega) _).uh (by omega) _).cg (fun _ _ => rfl) (fun j _ => ?_) (fun j _ => ?_) (fun j _ => qW_n (by omega) j)
      · rw [← qH_st, if_neg (show ¬ (hw c = 2 ∧ lf c - 1 ≤ 0) by omega), e]
      · rw [← qL_st, if_pos e]
    · intro a ha; rw [up_ne ha]; exact gk a ha
    · refine (gM.uw (by omega) _).cg (fun _ _ => rfl) (fun j _ => qH_n e j) (fun j _ => qL_n e j) (fun j _ => ?_)
      rw [← qW_st, if_pos e1]
    · intro a ha; rw [up_ne ha]; exact gk a ha
    · refine (gM.uw (by omega) _).cg (fun _ _ => rfl) (fun j _ => qH_n e j) (fun j _ => qL_n e j) (fun j _ => ?_)
      rw [← qW_st, if_neg e1, Int.add_zero]
  · rintro lv g ⟨rfl, gk, g2, gM⟩
    have e0 : g.1 0 15 = N := by rw [gk 0 (by decide)]; exact hN
    have em : g.1 6 0 = m := gM.1
    refine vc_X8_pass_0_6_2 ⟨fun _ => ⟨by rw [em]; exact ⟨by omega, by omega⟩, ?_⟩, fun q => absurd q (by omega)⟩
    rw [em]
    refine jf_loop N (fun c lv u => lv = [jR 0, jR 6, jI (c : Nat)] ∧ (∀ k, k ≠ 6 → u.1 k = h.1 k) ∧ u.2 = h.2 ∧ MRow u 6 (m + 1) ho (qF c (mA h) (m + 1) (qH N hw lf)) (qL N hw lf) (qW N hw wt)) ?_ ?_ 0 (Nat.zero_le _) _ _ ⟨rfl, fun a ha => by rw [up_ne ha]; exact gk a ha, g2, (gM.mi (m + 1)).cg (fun _ _ => rfl) (fun c _ => by rw [qF_0]) (fun _ _ => rfl) (fun _ _ => rfl)⟩
    · rintro c hc lv u ⟨rfl, uk, u2, uM⟩ k
      have e0 : u.1 0 15 = N := by rw [uk 0 (by decide)]; exact hN
      have e4 : u.1 4 = h.1 4 := uk 4 (by decide)
      have r := uM.2.2 c (by omega)
      have r1 : u.1 6 (7 + c) = qH N hw lf c := by rw [r.1, qF_at]
      have em : u.1 6 0 = m + 1 := uM.1
      have eA : h.1 4 (5 * c) = mA h c := rfl
      refine vc_X8_pass_0_6_92 ⟨fun q => absurd q (by omega), fun q => ⟨⟨by omega, by omega⟩, ⟨by omega, by omega⟩, ?_⟩⟩
      rw [show Int.toNat (7 + (c : Int)) = 7 + c by omega, show Int.toNat (5 * (c : Int)) = 5 * c by omega, r1, em, e4, eA]
      refine ⟨fun e => ⟨⟨by omega, by omega⟩, ⟨by omega, by omega⟩, fun e1 => ⟨⟨by omega, by omega⟩, k _ _ ⟨rfl, ?_, u2, ?_⟩⟩, fun e1 => ⟨⟨by omega, by omega⟩, k _ _ ⟨rfl, ?_, u2, ?_⟩⟩⟩, fun e => ⟨⟨by omega, by omega⟩, k _ _ ⟨rfl, ?_, u2, ?_⟩⟩⟩
      · intro a ha; rw [up_ne ha]; exact uk a ha
      · refine (uM.uh (by omega) _).cg (fun _ _ => rfl) (fun j _ => ?_) (fun _ _ => rfl) (fun _ _ => rfl)
        rw [← qF_st, if_pos (show qH N hw lf c = 0 ∧ mA h c = m + 1 from ⟨e, e1⟩)]
      · intro a ha; rw [up_ne ha]; exact uk a ha
      · refine (uM.uh (by omega) _).cg (fun _ _ => rfl) (fun j _ => ?_) (fun _ _ => rfl) (fun _ _ => rfl)
        rw [← qF_st, if_neg (show ¬ (qH N hw lf c = 0 ∧ mA h c = m + 1) from fun z => e1 z.2)]
      · intro a ha; rw [up_ne ha]; exact uk a ha
      · refine (uM.uh (by omega) _).cg (fun _ _ => rfl) (fun j _ => ?_) (fun _ _ => rfl) (fun _ _ => rfl)
        rw [← qF_st, if_neg (show ¬ (qH N hw lf c = 0 ∧ mA h c = m + 1) from fun z => e z.1)]
    · rintro lv u ⟨rfl, uk, u2, uM⟩
      have e0 : u.1 0 15 = N := by rw [uk 0 (by decide)]; exact hN
      exact vc_X8_pass_0_6_92 ⟨fun _ => ⟨rfl, uk, u2, uM⟩, fun q => absurd q (by omega)⟩
theorem cm_copy_5_9 {h : jH} (f t : Nat) (hf : f + 28 ≤ 28) (ht : t + 28 ≤ 280) : CU Sm M_X8_copy [jR 5, jI f, jR 9, jI t] h (upr h 9 (fun j => if t ≤ j ∧ j < t + 28 then h.1 5 (f + (j - t)) else h.1 9 j)) := by
  refine en_X8_copy_5_9 (fun G => vc_X8_copy_5_9_0 ?_)
  refine WV.hp (upr_id (k := 9) (f := fun j => if t ≤ j ∧ j < t + 0 then h.1 5 (f + (j - t)) else h.1 9 j) (fun j => by rw [if_neg (by omega)])) (jf_fun 28 (fun c => [jR 5, jI f, jR 9, jI t, jI (c : Nat)]) (fun c => upr h 9 (fun j => if t ≤ j ∧ j < t + c then h.1 5 (f + (j - t)) else h.1 9 j)) (fun c hc k => ?_) ?_ 0 (by decide))
  · refine vc_X8_copy_5_9_3 ⟨fun q => absurd q (by omega), fun q => ⟨⟨by omega, by omega⟩, ⟨by omega, by omega⟩, ⟨by omega, by omega⟩, ⟨by omega, by omega⟩, ⟨by omega, by omega⟩, WV.hp ?_ k⟩⟩
    rw [show Int.toNat ((t : Int) + c) = t + c by omega, show Int.toNat ((f : Int) + c) = f + c by omega, up_upr, upr_ne (by decide)]
    congr 1
    funext j
    by_cases e : j = t + c
    · subst e
      rw [if_pos (by omega), if_pos rfl, show f + (t + c - t) = f + c by omega]
    · rw [if_neg e]
      by_cases z : t ≤ j ∧ j < t + c
      · rw [if_pos z, if_pos (by omega)]
      · rw [if_neg z, if_neg (by omega)]
  · exact vc_X8_copy_5_9_3 ⟨fun q => ⟨rfl, rfl⟩, fun q => absurd q (by decide)⟩
theorem cm_copy_9_5 {h : jH} (f t : Nat) (hf : f + 28 ≤ 280) (ht : t + 28 ≤ 28) : CU Sm M_X8_copy [jR 9, jI f, jR 5, jI t] h (upr h 5 (fun j => if t ≤ j ∧ j < t + 28 then h.1 9 (f + (j - t)) else h.1 5 j)) := by
  refine en_X8_copy_9_5 (fun G => vc_X8_copy_9_5_0 ?_)
  refine WV.hp (upr_id (k := 5) (f := fun j => if t ≤ j ∧ j < t + 0 then h.1 9 (f + (j - t)) else h.1 5 j) (fun j => by rw [if_neg (by omega)])) (jf_fun 28 (fun c => [jR 9, jI f, jR 5, jI t, jI (c : Nat)]) (fun c => upr h 5 (fun j => if t ≤ j ∧ j < t + c then h.1 9 (f + (j - t)) else h.1 5 j)) (fun c hc k => ?_) ?_ 0 (by decide))
  · refine vc_X8_copy_9_5_3 ⟨fun q => absurd q (by omega), fun q => ⟨⟨by omega, by omega⟩, ⟨by omega, by omega⟩, ⟨by omega, by omega⟩, ⟨by omega, by omega⟩, ⟨by omega, by omega⟩, WV.hp ?_ k⟩⟩
    rw [show Int.toNat ((t : Int) + c) = t + c by omega, show Int.toNat ((f : Int) + c) = f + c by omega, up_upr, upr_ne (by decide)]
    congr 1
    funext j
    by_cases e : j = t + c
    · subst e
      rw [if_pos (by omega), if_pos rfl, show f + (t + c - t) = f + c by omega]
    · rw [if_neg e]
      by_cases z : t ≤ j ∧ j < t + c
      · rw [if_pos z, if_pos (by omega)]
      · rw [if_neg z, if_neg (by omega)]
  · exact vc_X8_copy_9_5_3 ⟨fun q => ⟨rfl, rfl⟩, fun q => absurd q (by decide)⟩
theorem cm_copy_5_6 {h : jH} (f t : Nat) (hf : f + 28 ≤ 28) (ht : t + 28 ≤ 28) : CU Sm M_X8_copy [jR 5, jI f, jR 6, jI t] h (upr h 6 (fun j => if t ≤ j ∧ j < t + 28 then h.1 5 (f + (j - t)) else h.1 6 j)) := by
  refine en_X8_copy_5_6 (fun G => vc_X8_copy_5_6_0 ?_)
  refine WV.hp (upr_id (k := 6) (f := fun j => if t ≤ j ∧ j < t + 0 then h.1 5 (f + (j - t)) else h.1 6 j) (fun j => by rw [if_neg (by omega)])) (jf_fun 28 (fun c => [jR 5, jI f, jR 6, jI t, jI (c : Nat)]) (fun c => upr h 6 (fun j => if t ≤ j ∧ j < t + c then h.1 5 (f + (j - t)) else h.1 6 j)) (fun c hc k => ?_) ?_ 0 (by decide))
  · refine vc_X8_copy_5_6_3 ⟨fun q => absurd q (by omega), fun q => ⟨⟨by omega, by omega⟩, ⟨by omega, by omega⟩, ⟨by omega, by omega⟩, ⟨by omega, by omega⟩, ⟨by omega, by omega⟩, WV.hp ?_ k⟩⟩
    rw [show Int.toNat ((t : Int) + c) = t + c by omega, show Int.toNat ((f : Int) + c) = f + c by omega, up_upr, upr_ne (by decide)]
    congr 1
    funext j
    by_cases e : j = t + c
    · subst e
      rw [if_pos (by omega), if_pos rfl, show f + (t + c - t) = f + c by omega]
    · rw [if_neg e]
      by_cases z : t ≤ j ∧ j < t + c
      · rw [if_pos z, if_pos (by omega)]
      · rw [if_neg z, if_neg (by omega)]
  · exact vc_X8_copy_5_6_3 ⟨fun q => ⟨rfl, rfl⟩, fun q => absurd q (by decide)⟩
theorem cm_copy_5_7 {h : jH} (f t : Nat) (hf : f + 28 ≤ 28) (ht : t + 28 ≤ 56) : CU Sm M_X8_copy [jR 5, jI f, jR 7, jI t] h (upr h 7 (fun j => if t ≤ j ∧ j < t + 28 then h.1 5 (f + (j - t)) else h.1 7 j)) := by
  refine en_X8_copy_5_7 (fun G => vc_X8_copy_5_7_0 ?_)
  refine WV.hp (upr_id (k := 7) (f := fun j => if t ≤ j ∧ j < t + 0 then h.1 5 (f + (j - t)) else h.1 7 j) (fun j => by rw [if_neg (by omega)])) (jf_fun 28 (fun c => [jR 5, jI f, jR 7, jI t, jI (c : Nat)]) (fun c => upr h 7 (fun j => if t ≤ j ∧ j < t + c then h.1 5 (f + (j - t)) else h.1 7 j)) (fun c hc k => ?_) ?_ 0 (by decide))
  · refine vc_X8_copy_5_7_3 ⟨fun q => absurd q (by omega), fun q => ⟨⟨by omega, by omega⟩, ⟨by omega, by omega⟩, ⟨by omega, by omega⟩, ⟨by omega, by omega⟩, ⟨by omega, by omega⟩, WV.hp ?_ k⟩⟩
    rw [show Int.toNat ((t : Int) + c) = t + c by omega, show Int.toNat ((f : Int) + c) = f + c by omega, up_upr, upr_ne (by decide)]
    congr 1
    funext j
    by_cases e : j = t + c
    · subst e
      rw [if_pos (by omega), if_pos rfl, show f + (t + c - t) = f + c by omega]
    · rw [if_neg e]
      by_cases z : t ≤ j ∧ j < t + c
      · rw [if_pos z, if_pos (by omega)]
      · rw [if_neg z, if_neg (by omega)]
  · exact vc_X8_copy_5_7_3 ⟨fun q => ⟨rfl, rfl⟩, fun q => absurd q (by decide)⟩
theorem cm_copy_7_5 {h : jH} (f t : Nat) (hf : f + 28 ≤ 56) (ht : t + 28 ≤ 28) : CU Sm M_X8_copy [jR 7, jI f, jR 5, jI t] h (upr h 5 (fun j => if t ≤ j ∧ j < t + 28 then h.1 7 (f + (j - t)) else h.1 5 j)) := by
  refine en_X8_copy_7_5 (fun G => vc_X8_copy_7_5_0 ?_)
  refine WV.hp (upr_id (k := 5) (f := fun j => if t ≤ j ∧ j < t + 0 then h.1 7 (f + (j - t)) else h.1 5 j) (fun j => by rw [if_neg (by omega)])) (jf_fun 28 (fun c => [jR 7, jI f, jR 5, jI t, jI (c : Nat)]) (fun c => upr h 5 (fun j => if t ≤ j ∧ j < t + c then h.1 7 (f + (j - t)) else h.1 5 j)) (fun c hc k => ?_) ?_ 0 (by decide))
  · refine vc_X8_copy_7_5_3 ⟨fun q => absurd q (by omega), fun q => ⟨⟨by omega, by omega⟩, ⟨by omega, by omega⟩, ⟨by omega, by omega⟩, ⟨by omega, by omega⟩, ⟨by omega, by omega⟩, WV.hp ?_ k⟩⟩
    rw [show Int.toNat ((t : Int) + c) = t + c by omega, show Int.toNat ((f : Int) + c) = f + c by omega, up_upr, upr_ne (by decide)]
    congr 1
    funext j
    by_cases e : j = t + c
    · subst e
      rw [if_pos (by omega), if_pos rfl, show f + (t + c - t) = f + c by omega]
    · rw [if_neg e]
      by_cases z : t ≤ j ∧ j < t + c
      · rw [if_pos z, if_pos (by omega)]
      · rw [if_neg z, if_neg (by omega)]
  · exact vc_X8_copy_7_5_3 ⟨fun q => ⟨rfl, rfl⟩, fun q => absurd q (by decide)⟩
theorem cm_plugAll_10 {h : jH} {N : Nat} (hN : h.1 0 15 = N) (h7 : N ≤ 7) (n : Nat) (hn : n ≤ 7) (x : Int) (hx : -1000 ≤ x ∧ x ≤ 1000) (hor : ∀ i, i < n → 0 ≤ h.1 10 i ∧ h.1 10 i < N) {m : Int} {ho hw lf wt : Nat → Int} (hM : MRow h 6 m ho hw lf wt) :
    CT Sm M_X8_plugAll [jR 0, jR 10, jI n, jI x] h (jPv fun h' => (∀ k, k ≠ 6 → h'.1 k = h.1 k) ∧ h'.2 = h.2 ∧ MRow h' 6 m ho (plA N (mF h) (mT h) (mN h) x (h.1 10) (hw, lf) n).1 (plA N (mF h) (mT h) (mN h) x (h.1 10) (hw, lf) n).2 wt) := by
  refine en_X8_plugAll_0_10 (fun G => vc_X8_plugAll_0_10_0 ?_)
  refine jf_loop n (fun i lv g => lv = [jR 0, jR 10, jI n, jI x, jI (i : Nat)] ∧ (∀ k, k ≠ 6 → g.1 k = h.1 k) ∧ g.2 = h.2 ∧ MRow g 6 m ho (plA N (mF h) (mT h) (mN h) x (h.1 10) (hw, lf) i).1 (plA N (mF h) (mT h) (mN h) x (h.1 10) (hw, lf) i).2 wt) ?_ ?_ 0 (Nat.zero_le _) _ _ ⟨rfl, fun _ _ => rfl, rfl, hM⟩
  · rintro i hi lv g ⟨rfl, gk, g2, gM⟩ k
    simp only [plA] at k
    generalize plA N (mF h) (mT h) (mN h) x (h.1 10) (hw, lf) i = s at gM k
    have e0 : g.1 0 15 = N := by rw [gk 0 (by decide)]; exact hN
    have e4 : g.1 4 = h.1 4 := gk 4 (by decide)
    have eF : mF g = mF h := by funext c; unfold mF; rw [e4]
    have eT : mT g = mT h := by funext c; unfold mT; rw [e4]
    have eN : mN g = mN h := by funext c; unfold mN; rw [e4]
    have eO : g.1 10 = h.1 10 := gk 10 (by decide)
    have o1 := hor i hi
    obtain ⟨c, hc⟩ : ∃ c : Nat, h.1 10 i = c := ⟨(h.1 10 i).toNat, by omega⟩
    have hc7 : c < 7 := by omega
    refine vc_X8_plugAll_0_10_3 ⟨fun q => absurd q (by omega), fun q => ⟨⟨by omega, by omega⟩, ?_⟩⟩
    rw [Int.toNat_natCast, eO, hc]
    rw [hc, Int.toNat_natCast] at k
    refine ⟨_, cm_canPlug_6 e0 h7 c x hc7 hx, ?_⟩
    rintro _ _ ⟨rfl, rfl⟩
    rename_i g
    rw [eF, eT]
    have ec : canp N (mF h) (mT h) x (mH g 6) c = canp N (mF h) (mT h) x s.1 c := by
      have hh : ∀ k, k < N → mH g 6 k = s.1 k := fun k hk => (gM.2.2 k (by omega)).1
      unfold canp
      rw [hh c (by omega), cnt_congr (q := fun k => s.1 k == 2) (fun k hk => by rw [hh k hk]), bt_congr (q := fun k => s.1 k == 2) (fun k hk => by rw [hh k hk])]
    rw [ec, eO, hc]
    refine ⟨fun z => ⟨⟨by omega, by omega⟩, k _ _ ⟨rfl, gk, g2, ?_⟩⟩, fun z => ⟨_, cm_plug_6 c hc7, ?_⟩⟩
    · rw [bi_0] at z
      unfold pl1
      rw [z]
      exact gM
    · rintro _ rfl
      rw [bi_0] at z
      refine ⟨⟨by omega, by omega⟩, k _ _ ⟨rfl, fun a ha => by rw [up_ne ha, up_ne ha]; exact gk a ha, g2, ?_⟩⟩
      unfold pl1
      rw [(Bool.not_eq_false _).mp z, eN]
      exact (gM.uh hc7 _).ul hc7 _
  · rintro lv g ⟨rfl, gk, g2, gM⟩
    exact vc_X8_plugAll_0_10_3 ⟨fun _ => ⟨rfl, gk, g2, gM⟩, fun q => absurd q (by omega)⟩
theorem cm_plugAll_11 {h : jH} {N : Nat} (hN : h.1 0 15 = N) (h7 : N ≤ 7) (n : Nat) (hn : n ≤ 7) (x : Int) (hx : -1000 ≤ x ∧ x ≤ 1000) (hor : ∀ i, i < n → 0 ≤ h.1 11 i ∧ h.1 11 i < N) {m : Int} {ho hw lf wt : Nat → Int} (hM : MRow h 6 m ho hw lf wt) :
    CT Sm M_X8_plugAll [jR 0, jR 11, jI n, jI x] h (jPv fun h' => (∀ k, k ≠ 6 → h'.1 k = h.1 k) ∧ h'.2 = h.2 ∧ MRow h' 6 m ho (plA N (mF h) (mT h) (mN h) x (h.1 11) (hw, lf) n).1 (plA N (mF h) (mT h) (mN h) x (h.1 11) (hw, lf) n).2 wt) := by
  refine en_X8_plugAll_0_11 (fun G => vc_X8_plugAll_0_11_0 ?_)
  refine jf_loop n (fun i lv g => lv = [jR 0, jR 11, jI n, jI x, jI (i : Nat)] ∧ (∀ k, k ≠ 6 → g.1 k = h.1 k) ∧ g.2 = h.2 ∧ MRow g 6 m ho (plA N (mF h) (mT h) (mN h) x (h.1 11) (hw, lf) i).1 (plA N (mF h) (mT h) (mN h) x (h.1 11) (hw, lf) i).2 wt) ?_ ?_ 0 (Nat.zero_le _) _ _ ⟨rfl, fun _ _ => rfl, rfl, hM⟩
  · rintro i hi lv g ⟨rfl, gk, g2, gM⟩ k
    simp only [plA] at k
    generalize plA N (mF h) (mT h) (mN h) x (h.1 11) (hw, lf) i = s at gM k
    have e0 : g.1 0 15 = N := by rw [gk 0 (by decide)]; exact hN
    have e4 : g.1 4 = h.1 4 := gk 4 (by decide)
    have eF : mF g = mF h := by funext c; unfold mF; rw [e4]
    have eT : mT g = mT h := by funext c; unfold mT; rw [e4]
    have eN : mN g = mN h := by funext c; unfold mN; rw [e4]
    have eO : g.1 11 = h.1 11 := gk 11 (by decide)
    have o1 := hor i hi
    obtain ⟨c, hc⟩ : ∃ c : Nat, h.1 11 i = c := ⟨(h.1 11 i).toNat, by omega⟩
    have hc7 : c < 7 := by omega
    refine vc_X8_plugAll_0_11_3 ⟨fun q => absurd q (by omega), fun q => ⟨⟨by omega, by omega⟩, ?_⟩⟩
    rw [Int.toNat_natCast, eO, hc]
    rw [hc, Int.toNat_natCast] at k
    refine ⟨_, cm_canPlug_6 e0 h7 c x hc7 hx, ?_⟩
    rintro _ _ ⟨rfl, rfl⟩
    rename_i g
    rw [eF, eT]
    have ec : canp N (mF h) (mT h) x (mH g 6) c = canp N (mF h) (mT h) x s.1 c := by
      have hh : ∀ k, k < N → mH g 6 k = s.1 k := fun k hk => (gM.2.2 k (by omega)).1
      unfold canp
      rw [hh c (by omega), cnt_congr (q := fun k => s.1 k == 2) (fun k hk => by rw [hh k hk]), bt_congr (q := fun k => s.1 k == 2) (fun k hk => by rw [hh k hk])]
    rw [ec, eO, hc]
    refine ⟨fun z => ⟨⟨by omega, by omega⟩, k _ _ ⟨rfl, gk, g2, ?_⟩⟩, fun z => ⟨_, cm_plug_6 c hc7, ?_⟩⟩
    · rw [bi_0] at z
      unfold pl1
      rw [z]
      exact gM
    · rintro _ rfl
      rw [bi_0] at z
      refine ⟨⟨by omega, by omega⟩, k _ _ ⟨rfl, fun a ha => by rw [up_ne ha, up_ne ha]; exact gk a ha, g2, ?_⟩⟩
      unfold pl1
      rw [(Bool.not_eq_false _).mp z, eN]
      exact (gM.uh hc7 _).ul hc7 _
  · rintro lv g ⟨rfl, gk, g2, gM⟩
    exact vc_X8_plugAll_0_11_3 ⟨fun _ => ⟨rfl, gk, g2, gM⟩, fun q => absurd q (by omega)⟩
