/-! the law from its entry -/
theorem knw_L_7 : k_nw R_law 7 7 12 [.null, .null, .null, .null, .null, .null, .null, .null, .null, .null, .int (Int32.ofInt 0), .long 0] := ⟨RX7, TX7, tyX7, rfl, inW_X7, tyX7_ok, jW_t 13 (by decide +kernel) rfl, jW_t 14 (by decide +kernel) rfl, jW_t 1 (by decide +kernel) rfl, fun j hj => by
  rcases (show j = 0 ∨ j = 1 ∨ j = 2 ∨ j = 3 ∨ j = 4 ∨ j = 5 ∨ j = 6 ∨ j = 7 ∨ j = 8 ∨ j = 9 ∨ j = 10 ∨ j = 11 by omega) with rfl | rfl | rfl | rfl | rfl | rfl | rfl | rfl | rfl | rfl | rfl | rfl <;> rfl⟩
theorem knw_L_10 : k_nw R_law 10 8 29 [.int (Int32.ofInt 0), .null, .int (Int32.ofInt 0), .int (Int32.ofInt 0), .int (Int32.ofInt 0), .int (Int32.ofInt 0), .int (Int32.ofInt 0), .int (Int32.ofInt 0), .int (Int32.ofInt 0), .int (Int32.ofInt 0), .null, .int (Int32.ofInt 0), .null, .int (Int32.ofInt 0), .int (Int32.ofInt 0), .int (Int32.ofInt 0), .null, .null, .null, .null, .null, .null, .int (Int32.ofInt 0), .null, .null, .null, .int (Int32.ofInt 0), .int (Int32.ofInt 0), .long 0] := ⟨RX8, TX8, tyX8, rfl, inW_X8, tyX8_ok, jW_t 720 (by decide +kernel) rfl, jW_t 721 (by decide +kernel) rfl, jW_t 10 (by decide +kernel) rfl, fun j hj => by
  rcases (show j = 0 ∨ j = 1 ∨ j = 2 ∨ j = 3 ∨ j = 4 ∨ j = 5 ∨ j = 6 ∨ j = 7 ∨ j = 8 ∨ j = 9 ∨ j = 10 ∨ j = 11 ∨ j = 12 ∨ j = 13 ∨ j = 14 ∨ j = 15 ∨ j = 16 ∨ j = 17 ∨ j = 18 ∨ j = 19 ∨ j = 20 ∨ j = 21 ∨ j = 22 ∨ j = 23 ∨ j = 24 ∨ j = 25 ∨ j = 26 ∨ j = 27 ∨ j = 28 by omega) with rfl | rfl | rfl | rfl | rfl | rfl | rfl | rfl | rfl | rfl | rfl | rfl | rfl | rfl | rfl | rfl | rfl | rfl | rfl | rfl | rfl | rfl | rfl | rfl | rfl | rfl | rfl | rfl | rfl <;> rfl⟩
theorem kmi_L_X7 : k_mi R_law 9 0 K_X7 := ⟨jW_t 16 (by decide +kernel) rfl, jW_t 1 (by decide +kernel) rfl, jW_t 17 (by decide +kernel) rfl, rfl, rfl, by decide +kernel, by decide +kernel, by decide +kernel⟩
theorem kml_L_X7 : Cond.methodLink R_law 9 K_X7.1 ∈ jW := jW_t 15 (by decide +kernel) rfl
theorem kmi_L_X8 : k_mi R_law 12 0 K_X8 := ⟨jW_t 723 (by decide +kernel) rfl, jW_t 10 (by decide +kernel) rfl, jW_t 724 (by decide +kernel) rfl, rfl, rfl, by decide +kernel, by decide +kernel, by decide +kernel⟩
theorem kml_L_X8 : Cond.methodLink R_law 12 K_X8.1 ∈ jW := jW_t 722 (by decide +kernel) rfl
theorem l_ctor {p : Program} {e : Env} {s : State} {m : MethodId} {args : Array Value} {below : List Frame} {meth : Method} {c : Code} {G : kG} {A : Nat → Prop} {H : Heap} {locs : List Loc} {ls : Array Slot} {pc idx q cells slots mc1 ms1 : Nat} {o : va_E} {ws : va_W} {rest : List Value} {M' : jM} {Q1 : va_W → Prop} {Z : State → Prop} (hx : CallFix p m c code 4 s args jW R_law) (hK : va_K G.2.1 vwCl (k_ty G) s) (hN : k_N s) (hA : ∀ q, s.heap.size ≤ q → A q) (d : decode code pc = .ok (.invokespecial idx, 3)) (hl0 : Cond.methodLink R_law idx M'.1 ∈ jW) (hm : k_mi R_law idx 0 M') (hrm : M'.2.2.2.2.cells = mc1 ∧ M'.2.2.2.2.slots = ms1 ∧ M'.2.2.2.2.frames + 1 ≤ room_1.frames ∧ 8 + (M'.2.2.1 + 11) + M'.2.2.2.2.locals ≤ room_1.locals) (hr2 : cells + mc1 ≤ room_1.cells ∧ slots + ms1 ≤ room_1.slots) (hlen : (rest.map fun v => v.category).sum ≤ 8) (hKC : KC G M' [.ref q] [(q, o)] Q1 mc1 ms1) (hP : va_P G.2.1 vwCl (ws ++ [(q, o)]) H) (hD : va_D A (ws ++ [(q, o)])) (hS : va_S A s.heap H locs) (hl : ls.size = 4)
    (kk : ∀ (w1 : va_W) (H1 : Heap) (locs1 : List Loc), Q1 w1 → va_P G.2.1 vwCl (ws ++ w1) H1 → va_D A (ws ++ w1) → va_S A s.heap H1 locs1 → W p G.1 e room_1 s m args below meth c H1 locs1 (cells + mc1) (slots + ms1) Z (F0 m (pc + 3) ls rest)) : W p G.1 e room_1 s m args below meth c H locs cells slots Z (F0 m pc ls (.ref q :: rest)) := by
  obtain ⟨x1, x2, x4, x5, x6⟩ := id hx
  obtain ⟨m2, m4, m5, m6, m7, m8, m9, m10⟩ := hm
  have hP : va_P G.2.1 vwCl (ws ++ ([(q, o)] ++ [])) H := hP
  have hD : va_D A (ws ++ ([(q, o)] ++ [])) := hD
  have hF := k_free (wl := ws) (wc := [(q, o)]) (wr := []) hA hD hS
  have m5' : Cond.code M'.1 M'.2.1 M'.2.2.1 M'.2.2.2.1 ∈ jW := by rw [m6]; exact m5
  have ew : j_ws M' = Cond.code M'.1 M'.2.1 M'.2.2.1 none :: jW := by
    show Cond.code M'.1 M'.2.1 M'.2.2.1 M'.2.2.2.1 :: jW = _
    rw [m6]
  have hrun := va_runI (e := e) (below := below) (meth := meth) (As := []) (rest := rest) (b := q) (g := F0 m pc ls (.ref q :: rest)) (locs := locs) (cells := cells) (slots := slots) hx (hKC H.size) (cwI 0 x6 (j_good M' m5') ew hrm.1 hrm.2.1 (x6 _ m4) (x6 _ hl0) (x6 _ m2) m7 ⟨m8, m9, m10⟩ ⟨hrm.2.2.1, hrm.2.2.2⟩) (k_pre hK hN (k_Pc hP) (k_Dc hD)) rfl rfl hl rfl (lv_room hlen) d hr2
  refine va_callv hrun hS (fun q _ h => hF q h) hF (fun u t H1 locs1 ht hvm hw hB hz1 hk1 hS1 => ?_)
  obtain ⟨hP1, hK1, hD1⟩ := hB
  rw [ht] at hP1
  obtain ⟨hP2, hD2⟩ := k_join hP hD hk1 hF hP1 hD1
  rw [List.append_nil] at hP2 hD2
  exact kk u H1 locs1 hw hP2 hD2 hS1
theorem l_known {args : Array Value} {s : State} (hts : ∀ w ∈ lw_tbl, w.before args s = true) : ∃ (D : va_G) (cs : ClassId × ClassId), va_K D vwCl [(cs.1, .int), (cs.2, .boolean)] s := by
  have hj := l_hts hts
  obtain ⟨c0, i0, n0⟩ := u_known (C := RX0) (T := TX0) (N := 5) (n := 5) hj inW_X0 (hj (.instantiable RX0 5) (jW_t 175 (by decide +kernel) rfl))
  obtain ⟨c1, i1, n1⟩ := u_known (C := RX1) (T := TX1) (N := 4) (n := 4) hj inW_X1 (hj (.instantiable RX1 4) (jW_t 237 (by decide +kernel) rfl))
  obtain ⟨c2, i2, n2⟩ := u_known (C := RX2) (T := TX2) (N := 6) (n := 6) hj inW_X2 (hj (.instantiable RX2 6) (jW_t 126 (by decide +kernel) rfl))
  obtain ⟨c3, i3, n3⟩ := u_known (C := RX3) (T := TX3) (N := 3) (n := 3) hj inW_X3 (hj (.instantiable RX3 3) (jW_t 158 (by decide +kernel) rfl))
  obtain ⟨c4, i4, n4⟩ := u_known (C := RX4) (T := TX4) (N := 7) (n := 7) hj inW_X4 (hj (.instantiable RX4 7) (jW_t 95 (by decide +kernel) rfl))
  obtain ⟨c5, i5, n5⟩ := u_known (C := RX5) (T := TX5) (N := 8) (n := 8) hj inW_X5 (hj (.instantiable RX5 8) (jW_t 203 (by decide +kernel) rfl))
  obtain ⟨c6, i6, n6⟩ := u_known (C := RX6) (T := TX6) (N := 9) (n := 9) hj inW_X6 (hj (.instantiable RX6 9) (jW_t 22 (by decide +kernel) rfl))
  obtain ⟨c7, i7, n7⟩ := u_known (C := RX7) (T := TX7) (N := 12) (n := 12) hj inW_X7 (hj (.instantiable RX7 12) (jW_t 14 (by decide +kernel) rfl))
  obtain ⟨c8, i8, n8⟩ := u_known (C := RX8) (T := TX8) (N := 29) (n := 29) hj inW_X8 (hj (.instantiable RX8 29) (jW_t 721 (by decide +kernel) rfl))
  obtain ⟨cI, kI, mI, f1, f2, f3⟩ := Cond.arrayClass_spec (hj (.arrayClass .int) wAI)
  obtain ⟨cZ, kZ, mZ, g1, g2, g3⟩ := Cond.arrayClass_spec (hj (.arrayClass .boolean) wAZ)
  refine ⟨(fun k => if k = 0 then c0 else if k = 1 then c1 else if k = 2 then c2 else if k = 3 then c3 else if k = 4 then c4 else if k = 5 then c5 else if k = 6 then c6 else if k = 7 then c7 else c8, fun k => if k = 0 then i0 else if k = 1 then i1 else if k = 2 then i2 else if k = 3 then i3 else if k = 4 then i4 else if k = 5 then i5 else if k = 6 then i6 else if k = 7 then i7 else i8), (cI, cZ), fun k q hq => ?_, fun k q hq => ?_⟩
  · rcases (show k = 0 ∨ k = 1 ∨ k = 2 ∨ k = 3 ∨ k = 4 ∨ k = 5 ∨ k = 6 ∨ k = 7 ∨ k = 8 ∨ 9 ≤ k by omega) with rfl | rfl | rfl | rfl | rfl | rfl | rfl | rfl | rfl | h9
    · cases hq; exact n0
    · cases hq; exact n1
    · cases hq; exact n2
    · cases hq; exact n3
    · cases hq; exact n4
    · cases hq; exact n5
    · cases hq; exact n6
    · cases hq; exact n7
    · cases hq; exact n8
    · rw [List.getElem?_eq_none (by simpa using h9)] at hq
      cases hq
  · rcases (show k = 0 ∨ k = 1 ∨ 2 ≤ k by omega) with rfl | rfl | h2
    · cases hq; exact ⟨fun n z => ⟨fun k h => (by cases h), kI, f2, mI, f3⟩, f1⟩
    · cases hq; exact ⟨fun n z => ⟨fun k h => (by cases h), kZ, g2, mZ, g3⟩, g1⟩
    · rw [List.getElem?_eq_none (by simpa using h2)] at hq
      cases hq
theorem l_nest {args : Array Value} {s : State} (hts : ∀ w ∈ lw_tbl, w.before args s = true) : k_N s := by
  refine ⟨fun q hq => ?_, va_Nw.of rfl (hts _ (List.mem_append_right _ (List.mem_of_getElem? (i := 159) (by decide +kernel))))⟩
  have hq : q ∈ jnst := hq
  unfold jnst at hq
  simp only [List.mem_cons, List.not_mem_nil, or_false] at hq
  rcases hq with rfl | rfl | rfl
  · exact va_Nw.of rfl (hts _ (List.mem_append_right _ (List.mem_of_getElem? (i := 585) (by decide +kernel))))
  · exact va_Nw.of rfl (hts _ (List.mem_append_right _ (List.mem_of_getElem? (i := 629) (by decide +kernel))))
  · exact va_Nw.of rfl (hts _ (List.mem_append_right _ (List.mem_of_getElem? (i := 639) (by decide +kernel))))
