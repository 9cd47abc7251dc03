set_option maxHeartbeats 800000 in
set_option maxRecDepth 100000 in
theorem whole_start {p : Program} {e : Env} {s : State} {m : MethodId} {below : List Frame} {meth : Method} {c : Code} (l : Launch) (hflags : l.flags = flags0) {b L : Nat} {xs : Nat → Int32} (hL : L ≤ 2560) (C0 : lw_At p s m meth c b L xs) : W p l e room_1 s m #[Value.ref b] below meth c s.heap [] 0 0 (lw_Z below #[Value.ref b] s) (entryFrame m ([Value.ref b] : List Value).toArray 4) := by
  obtain ⟨hx, hb, hr, hml, hown, hts, hX, hbl, hlocks, hgv⟩ := id C0
  have hj := l_hts hts
  obtain ⟨D, cs, hK⟩ := l_known hts
  have hN := l_nest hts
  obtain ⟨G, hG, hG2⟩ : ∃ G : kG, G.1 = l ∧ va_K G.2.1 vwCl (k_ty G) s := ⟨(l, D, cs), rfl, hK⟩
  subst hG
  have hA : ∀ q : Nat, s.heap.size ≤ q → (fun q : Nat => s.heap.size ≤ q) q := fun _ h => h
  have hS : va_S (fun q : Nat => s.heap.size ≤ q) s.heap s.heap [] := va_S.rf
  have hP : va_P G.2.1 vwCl [] s.heap := fun k q h => by simp at h
  have hD : va_D (fun q : Nat => s.heap.size ≤ q) [] := ⟨fun i j p q h => by simp at h, fun k q h => by simp at h⟩
  have hl := lv_entry ([.ref b]) (n := 4) (Nat.le_of_ble_eq_true rfl)
  rw [lg_entry_eq]
  generalize (lg_sl ([.ref b]) ++ List.replicate (4 - (lg_sl ([.ref b])).length) Slot.unset).toArray = ls at hl ⊢
  have hl : lv_has ls 4 [(0, .ref b)] := hl
  have hcf : CallFix p m c code 4 s #[Value.ref b] jW R_law := ⟨hx, hb, hml, hown, hj⟩
  obtain ⟨C, T, ty, k1, k2, k3, k4, k5, k6, k7⟩ := knw_L_7
  refine va_new (ci := 7) (C := C) (T := T) (N := 12) hx hb hj k2 ty k3 hown (hj _ k4) (hj _ k5) (hj _ k6) hG2 hP hD hS hA k1 k7 (Nat.le_of_ble_eq_true rfl) (Nat.le_of_ble_eq_true rfl) dL_law_0 (fun q0 H1 hP hD hS => ?_)
  refine W.widen (k := 1) (n := 12) (Nat.le_of_ble_eq_true rfl) (Nat.le_of_ble_eq_true rfl) ?_
  refine lv_dup hx hb dL_law_3 rfl ?_
  refine l_ctor (G := G) (M' := K_X7) (ws := []) (cells := 1) (slots := 12) (mc1 := 41) (ms1 := 785) (q := q0) (o := .inr (7, [.null, .null, .null, .null, .null, .null, .null, .null, .null, .null, .int (Int32.ofInt 0), .long 0])) hcf hG2 hN hA dL_law_4 kml_L_X7 kmi_L_X7 ⟨rfl, rfl, Nat.le_of_ble_eq_true rfl, Nat.le_of_ble_eq_true rfl⟩ ⟨Nat.le_of_ble_eq_true rfl, Nat.le_of_ble_eq_true rfl⟩ (Nat.le_of_ble_eq_true rfl) (kc_X7 G q0) hP hD hS hl.1 (fun w1 H2 locs2 hw1 hPa hDa hSa => ?_)
  refine W.widen (k := 42) (n := 797) (Nat.le_of_ble_eq_true rfl) (Nat.le_of_ble_eq_true rfl) ?_
  obtain ⟨adx, u, e0, hu, ru, ew⟩ := hw1
  have hPb : va_P G.2.1 vwCl w1 H2 := hPa
  have hDb : va_D (fun q : Nat => s.heap.size ≤ q) w1 := hDa
  rw [ew] at hPb hDb
  clear ew
  subst e0
  refine lv_astore_n (lv' := [(1, .ref (adx 0)), (0, .ref b)]) hx hb dL_law_7 rfl hl (by decide) rfl (fun ls hl => ?_)
  obtain ⟨C, T, ty, k1, k2, k3, k4, k5, k6, k7⟩ := knw_L_10
  refine va_new (ci := 8) (C := C) (T := T) (N := 29) hx hb hj k2 ty k3 hown (hj _ k4) (hj _ k5) (hj _ k6) hG2 hPb hDb hSa hA k1 k7 (Nat.le_of_ble_eq_true rfl) (Nat.le_of_ble_eq_true rfl) dL_law_8 (fun q1 H3 hPc hDc hSc => ?_)
  refine W.widen (k := 43) (n := 826) (Nat.le_of_ble_eq_true rfl) (Nat.le_of_ble_eq_true rfl) ?_
  refine lv_dup hx hb dL_law_11 rfl ?_
  refine l_ctor (G := G) (M' := K_X8) (ws := j_w (k_g G adx) Sx.2.2 u) (cells := 43) (slots := 826) (mc1 := 12) (ms1 := 691) (q := q1) (o := .inr (8, [.int (Int32.ofInt 0), .null, .int (Int32.ofInt 0), .int (Int32.ofInt 0), .int (Int32.ofInt 0), .int (Int32.ofInt 0), .int (Int32.ofInt 0), .int (Int32.ofInt 0), .int (Int32.ofInt 0), .int (Int32.ofInt 0), .null, .int (Int32.ofInt 0), .null, .int (Int32.ofInt 0), .int (Int32.ofInt 0), .int (Int32.ofInt 0), .null, .null, .null, .null, .null, .null, .int (Int32.ofInt 0), .null, .null, .null, .int (Int32.ofInt 0), .int (Int32.ofInt 0), .long 0])) hcf hG2 hN hA dL_law_12 kml_L_X8 kmi_L_X8 ⟨rfl, rfl, Nat.le_of_ble_eq_true rfl, Nat.le_of_ble_eq_true rfl⟩ ⟨Nat.le_of_ble_eq_true rfl, Nat.le_of_ble_eq_true rfl⟩ (Nat.le_of_ble_eq_true rfl) (kc_X8 G q1) hPc hDc hSc hl.1 (fun w2 H4 locs4 hw2 hPd hDd hSd => ?_)
  refine W.widen (k := 55) (n := 1517) (Nat.le_of_ble_eq_true rfl) (Nat.le_of_ble_eq_true rfl) ?_
  obtain ⟨adm, v, e1, hv, rv, ew⟩ := hw2
  rw [ew] at hPd hDd
  clear ew
  subst e1
  refine lv_astore_n (lv' := [(2, .ref (adm 0)), (1, .ref (adx 0)), (0, .ref b)]) hx hb dL_law_15 rfl hl (by decide) rfl (fun ls hl => ?_)
  refine lv_iconst (v := Int32.ofInt ((0 : Nat) : Int)) hx hb dL_law_16 rfl ?_
  refine lv_istore_n (lv' := [(3, .int (Int32.ofInt ((0 : Nat) : Int))), (2, .ref (adm 0)), (1, .ref (adx 0)), (0, .ref b)]) hx hb dL_law_17 rfl hl (by decide) rfl (fun ls hl => ?_)
  exact l_loop (G := G) ⟨C0, hG2, hN, hL⟩ (L + 5) 0 u v (by omega) (by omega) (Rel.br sP_iv.1 hu hv rfl rfl (x := 0) rfl (by decide)) ru rv H4 locs4 ls hPd hDd hSd (lv_sub hl [3, 2, 1, 0] rfl)
