/-! calls of contracts out of any walk; a constructor's loop -/
theorem w_call {p : Program} {e : Env} {s : State} {m : MethodId} {args : Array Value} {below : List Frame} {meth : Method} {c : Code} {cc : ByteArray} {nL : Nat} {own : String} {R : Room} {G : jG} {S : jS} {M' : jM} {kp ci idx : Nat} {as : List jV} {fs : List (Option (Option Nat))} {q : vw_C} {h : jH} {post : jQ} {wl wr : va_W} {H : Heap} {locs : List Loc} {ls : Array Slot} {A : Nat → Prop} {pc : Nat} {st st0 : List Value} {Z : State → Prop} {cells slots : Nat}
    (hx : CallFix p m c cc nL s args jW own) (hK : va_K G.2.1 S.1 (j_ty G) s) (hN : j_N S s) (hA : ∀ q, s.heap.size ≤ q → A q)
    (d : decode cc pc = .ok (.invokevirtual idx, 3)) (hm : j_mv own idx as.length M') (hrm : M'.2.2.2.2.cells = 0 ∧ M'.2.2.2.2.slots = 0 ∧ M'.2.2.2.2.frames + 1 ≤ R.frames ∧ 8 + (M'.2.2.1 + 11) + M'.2.2.2.2.locals ≤ R.locals) (hr2 : cells ≤ R.cells ∧ slots ≤ R.slots)
    (hc : S.2.2[kp]? = some (.inr (ci, fs))) (hcl : S.1[ci]? = some q) (hq : q.1 = M'.1.cls) (hlen : (st.map fun v => v.category).sum ≤ 8) (hR : j_Rg h) (hok : ∀ a ∈ as, j_ok a) (hst : (as.map (j_v G.2.2.2)).reverse ++ .ref (G.2.2.2 kp) :: st = st0)
    (hct : CT S M' (jR kp :: as) h post) (hP : va_P G.2.1 S.1 (wl ++ (j_w G S.2.2 h ++ wr)) H) (hD : va_D A (wl ++ (j_w G S.2.2 h ++ wr))) (hS : va_S A s.heap H locs) (hl : ls.size = nL)
    (kk : ∀ (r : Option jV) (h' : jH) (H1 : Heap) (locs1 : List Loc), post r h' → j_Rg h' → (∀ a, r = some a → j_ok a) → va_P G.2.1 S.1 (wl ++ (j_w G S.2.2 h' ++ wr)) H1 → va_D A (wl ++ (j_w G S.2.2 h' ++ wr)) → va_S A s.heap H1 locs1 → W p G.1 e R s m args below meth c H1 locs1 cells slots Z (F0 m (pc + 3) ls ((r.map (j_v G.2.2.2)).toList ++ st))) :
    W p G.1 e R s m args below meth c H locs cells slots Z (F0 m pc ls st0) := by
  subst hst
  obtain ⟨x1, x2, x4, x5, x6⟩ := id hx
  obtain ⟨m1, m2, m3, m4, m5, m6, m7, m8⟩ := hm
  have hF := k_free hA hD hS
  have hPc := k_Pc hP
  have hDc := k_Dc hD
  have hpre := j_pre (av := jR kp :: as) hK hN hPc hDc
  have cw : CallW R s args own M'.1.cls idx M'.1 M'.2.1 M'.2.2.1 M'.2.2.2.1 (j_ws M') M'.2.2.2.2 0 0 as.length := ⟨callB_of as.length x6 (j_good M' m5) rfl hrm.1 hrm.2.1 (x6 _ m4) (x6 _ m1) ⟨m6, m7, m8⟩ ⟨hrm.2.2.1, hrm.2.2.2⟩, x6 _ m2, x6 _ m3⟩
  have hrun := va_runV (e := e) (below := below) (meth := meth) (As := as.map (j_v G.2.2.2)) (rest := st) (b := G.2.2.2 kp) (g := F0 m pc ls ((as.map (j_v G.2.2.2)).reverse ++ .ref (G.2.2.2 kp) :: st)) (locs := locs) (cells := cells) (slots := slots) hx (hct G H.size hR (fun a ha => by
    rcases List.mem_cons.mp ha with rfl | ha
    · trivial
    · exact hok a ha)) cw ⟨hpre.1, by rw [← hq]; exact va_recv hK hPc hcl (j_w_at hc), hpre.2⟩ rfl (by simp) hl rfl (lv_room hlen) d hr2
  intro T hT X
  obtain ⟨v, st₀, t, T', L, h0, X', hL, e1, e2, ⟨⟨r, h', q1, q2, q3, q4, q5, q6, q7⟩, hz, hk⟩, stp⟩ := hrun T hT X
  rw [h0] at hz hk
  cases q4
  have hS' : va_S A s.heap T'.heap (locs ++ L) := ⟨Nat.le_trans hS.1 (by rw [e1]; exact hz), fun q h1 h2 => by rw [e1, hk q (Nat.lt_of_lt_of_le h1 hS.1) (fun z => h2 (hF q z))]; exact hS.2.1 q h1 h2, fun q hq => by
    rcases List.mem_append.mp hq with h | h
    · exact hS.2.2 q h
    · exact hF _ (hL q h)⟩
  obtain ⟨hP2, hD2⟩ := k_join (H1 := T'.heap) hP hD (fun q h1 h2 => by rw [e1]; exact hk q h1 h2) hF (by rw [e1]; exact q5) q7
  obtain ⟨t2, a1, b1⟩ := kk r h' T'.heap (locs ++ L) q1 q2 q3 hP2 hD2 hS' T' rfl X'
  exact ⟨t2, stp t2 a1, b1⟩
section KR2
variable {G : kG} {M : jM} {Qp : va_W → Prop} {mc ms pc : Nat} {lv : List (Nat × Value)} {st : List Value} {ws : va_W} {a b : Nat}
theorem k_ct {S : jS} {ad : Nat → Nat} {h : jH} {idx kp ci : Nat} {fs : List (Option (Option Nat))} {q : vw_C} {M' : jM} {post : jH → Prop} (hS1 : S.1 = vwCl) (hNS : ∀ U, k_N U → j_N S U) (hR : j_Rg h) (d : decode M.2.1 pc = .ok (.invokevirtual idx, 3)) (hm : j_mv M.1.cls idx 0 M') (hrm : M'.2.2.2.2.cells = 0 ∧ M'.2.2.2.2.slots = 0 ∧ M'.2.2.2.2.frames + 1 ≤ M.2.2.2.2.frames ∧ 8 + (M'.2.2.1 + 11) + M'.2.2.2.2.locals ≤ M.2.2.2.2.locals) (hr2 : a ≤ M.2.2.2.2.cells ∧ b ≤ M.2.2.2.2.slots) (hc : S.2.2[kp]? = some (.inr (ci, fs))) (hcl : S.1[ci]? = some q) (hq : q.1 = M'.1.cls) (hct : CT S M' [jR kp] h (jPv post)) (k : ∀ h', post h' → j_Rg h' → WK G M Qp mc ms (pc + 3) lv [] (j_w (k_g G ad) S.2.2 h') a b) : WK G M Qp mc ms pc lv [.ref (ad kp)] (j_w (k_g G ad) S.2.2 h) a b := by
  intro p e s m args below meth c H locs ls A hX hA hP hD hS hl
  obtain ⟨x1, x2, x3, x4, x5, x6, x7, x8, x9, x10⟩ := id hX
  have hP : va_P (k_g G ad).2.1 S.1 ([] ++ (j_w (k_g G ad) S.2.2 h ++ [])) H := by rw [List.nil_append, List.append_nil, hS1]; exact hP
  have hD : va_D A ([] ++ (j_w (k_g G ad) S.2.2 h ++ [])) := by rw [List.nil_append, List.append_nil]; exact hD
  refine w_call (G := k_g G ad) (S := S) (wl := []) (wr := []) (as := []) (st := []) ⟨x1, x2, x4, x5, x6⟩ (by rw [hS1]; exact x9) (hNS s x10) hA d hm hrm hr2 hc hcl hq (by decide) hR (fun a ha => by cases ha) rfl hct hP hD hS hl.1 ?_
  intro r h' H1 locs1 hpost hR' _ hP1 hD1 hS1'
  obtain ⟨rfl, hpost⟩ := hpost
  rw [List.nil_append, List.append_nil] at hP1 hD1
  rw [hS1] at hP1
  exact k h' hpost hR' p e s m args below meth c H1 locs1 ls A hX hA hP1 hD1 hS1' hl
theorem k_istore {i : Fin 4} {x : Int32} {lv' : List (Nat × Value)} (d : decode M.2.1 pc = .ok (.istore_n i, 1)) (hn : (i : Nat) < M.2.2.1) (hl : ((i : Nat), Value.int x) :: lv.filter (fun q => !(q.1 == (i : Nat)) && !(q.1 + 1 == (i : Nat) && q.2.category == 2)) = lv') (k : WK G M Qp mc ms (pc + 1) lv' st ws a b) : WK G M Qp mc ms pc lv (.int x :: st) ws a b := by
  intro p e s m args below meth c H locs ls A hX hA hP hD hS hv
  exact lv_istore_n hX.1 hX.2.1 d rfl hv hn hl (fun ls' hl' => k p e s m args below meth c H locs ls' A hX hA hP hD hS hl')
theorem k_iload {i : Fin 4} {x : Int32} (j : Nat) (d : decode M.2.1 pc = .ok (.iload_n i, 1)) (hl : lv[j]? = some ((i : Nat), .int x)) (k : WK G M Qp mc ms (pc + 1) lv (.int x :: st) ws a b) : WK G M Qp mc ms pc lv st ws a b := by
  intro p e s m args below meth c H locs ls A hX hA hP hD hS hv
  exact lv_iload_n hX.1 hX.2.1 d rfl (lv_at hv j hl) (k p e s m args below meth c H locs ls A hX hA hP hD hS hv)
theorem k_ge {x y : Int32} {off : Int} (tgt : Nat) (d : decode M.2.1 pc = .ok (.if_icmp .ge off, 3)) (ht : (pc : Int) + off = (tgt : Int)) (hc : y ≤ x) (k : WK G M Qp mc ms tgt lv st ws a b) : WK G M Qp mc ms pc lv (.int y :: .int x :: st) ws a b := by
  intro p e s m args below meth c H locs ls A hX hA hP hD hS hv
  exact lv_icmp_ge hX.1 hX.2.1 d ht (fun _ => k p e s m args below meth c H locs ls A hX hA hP hD hS hv) (fun z => absurd hc z)
theorem k_lt {x y : Int32} {off : Int} (tgt : Nat) (d : decode M.2.1 pc = .ok (.if_icmp .ge off, 3)) (ht : (pc : Int) + off = (tgt : Int)) (hc : ¬ y ≤ x) (k : WK G M Qp mc ms (pc + 3) lv st ws a b) : WK G M Qp mc ms pc lv (.int y :: .int x :: st) ws a b := by
  intro p e s m args below meth c H locs ls A hX hA hP hD hS hv
  exact lv_icmp_ge hX.1 hX.2.1 d ht (fun z => absurd z hc) (fun _ => k p e s m args below meth c H locs ls A hX hA hP hD hS hv)
theorem k_goto {off : Int} (tgt : Nat) (d : decode M.2.1 pc = .ok (.goto off, 3)) (ht : (pc : Int) + off = (tgt : Int)) (k : WK G M Qp mc ms tgt lv st ws a b) : WK G M Qp mc ms pc lv st ws a b := by
  intro p e s m args below meth c H locs ls A hX hA hP hD hS hv
  exact lv_goto hX.1 hX.2.1 d ht (k p e s m args below meth c H locs ls A hX hA hP hD hS hv)
theorem k_iinc {i : Nat} {n : Int} {x : Int32} (v : Int32) {lv' : List (Nat × Value)} (j : Nat) (d : decode M.2.1 pc = .ok (.iinc i n, 3)) (hk : lv[j]? = some (i, .int x)) (hv : x + Int32.ofInt n = v) (hn : i < M.2.2.1) (hl : (i, Value.int v) :: lv.filter (fun q => !(q.1 == i) && !(q.1 + 1 == i && q.2.category == 2)) = lv') (k : WK G M Qp mc ms (pc + 3) lv' st ws a b) : WK G M Qp mc ms pc lv st ws a b := by
  intro p e s m args below meth c H locs ls A hX hA hP hD hS hl0
  exact lv_iinc (v := v) hX.1 hX.2.1 d hl0 (k := j) hk hv hn hl (fun ls' hl' => k p e s m args below meth c H locs ls' A hX hA hP hD hS hl')
theorem k_jget {lay : List jC} {ad : Nat → Nat} {h : jH} {idx kp ci j r : Nat} {fs : List (Option (Option Nat))} (d : decode M.2.1 pc = .ok (.getfield idx, 3)) (hf : j_fl vwCl M.1.cls idx ci j) (hc : lay[kp]? = some (.inr (ci, fs))) (hj : fs[j]? = some (some (some r))) (k : WK G M Qp mc ms (pc + 3) lv (.ref (ad r) :: st) (j_w (k_g G ad) lay h) a b) : WK G M Qp mc ms pc lv (.ref (ad kp) :: st) (j_w (k_g G ad) lay h) a b :=
  k_get kp d hf (j_w_at (G := k_g G ad) hc) (by rw [List.getElem?_mapIdx, hj]; rfl) k
theorem k_jiast {lay : List jC} {ad : Nat → Nat} {h : jH} {kp n : Nat} {i x : Int} (d : decode M.2.1 pc = .ok (.iastore, 1)) (hc : lay[kp]? = some (.inl (false, n))) (hr : j_rg i) (hin : 0 ≤ i ∧ i < n) (k : WK G M Qp mc ms (pc + 1) lv st (j_w (k_g G ad) lay (j_up h kp i.toNat x)) a b) : WK G M Qp mc ms pc lv (.int (Int32.ofInt x) :: .int (Int32.ofInt i) :: .ref (ad kp) :: st) (j_w (k_g G ad) lay h) a b := by
  intro p e s m args below meth c H locs ls A hX hA hP hD hS hl
  refine va_iast hX.1 hX.2.1 hX.2.2.2.2.2.2.2.2.1 hP hD hS kp 0 (j_w_at (G := k_g G ad) hc) rfl (j_in hr hin.1 hin.2) d (fun H1 locs1 hP1 hD1 hS1 => ?_)
  have e1 : (j_w (k_g G ad) lay h).set kp ((k_g G ad).2.2.2 kp, .inl (if false = true then (k_g G ad).2.2.1.2 else (k_g G ad).2.2.1.1, n, .inl (upd (fun j => Int32.ofInt (h.1 kp j)) (Int32.ofInt i).toNatClampNeg (Int32.ofInt x)))) = j_w (k_g G ad) lay (j_up h kp i.toNat x) := by
    rw [j_cl hr, ← j_up_row]
    exact j_w_set hc (fun q hq => by funext b; simp [j_up, hq]) (fun q hq => rfl)
  rw [e1] at hP1 hD1
  exact k p e s m args below meth c H1 locs1 ls A hX hA hP1 hD1 hS1 hl
end KR2
