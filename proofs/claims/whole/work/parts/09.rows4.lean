/-! a nest mate's static method; Math; arraycopy -/
def j_mn (S : jS) (own : String) (idx n : Nat) (M : jM) (host : String) : Prop := (own, idx, M.1, host) ∈ S.2.1 ∧ Cond.static M.1 ∈ jW ∧ Cond.initialized M.1.cls ∈ jW ∧ Cond.code M.1 M.2.1 M.2.2.1 M.2.2.2.1 ∈ jW ∧ M.1.cls ≠ "java/lang/invoke/MethodHandle" ∧ M.1.cls ≠ "java/lang/invoke/VarHandle" ∧ (parseMethodDescriptor M.1.desc).map (fun d => d.parameters.length) = some n
def j_mm (own : String) (idx : Nat) (y : MethodName) (cc : ByteArray) (n : Nat) : Prop := Cond.methodLink own idx y ∈ jW ∧ Cond.static y ∈ jW ∧ Cond.initialized "java/lang/Math" ∈ jW ∧ Cond.code y cc n (some .int) ∈ jW
def j_ma (own : String) (idx : Nat) : Prop := Cond.methodLink own idx arraycopyName ∈ jW ∧ Cond.native arraycopyName ∈ jW ∧ Cond.static arraycopyName ∈ jW ∧ Cond.initialized "java/lang/System" ∈ jW
section RW5
variable {S : jS} {G : jG} {M M' : jM} {Q : jQ} {pc : Nat} {lv st : List jV} {h : jH}
theorem s_callSN {idx : Nat} {host : String} {as : List jV} {post : jQ} (d : decode M.2.1 pc = .ok (.invokestatic idx, 3)) (hm : j_mn S M.1.cls idx as.length M' host) (hrm : j_rm2 M M') (hlen : 2 * st.length ≤ 8) (st0 : List jV) (hst : as.reverse ++ st = st0)
    (hct : CT S M' as h post) (kk : ∀ (r : Option jV) (h' : jH), post r h' → WV S G M Q (pc + 3) lv (r.toList ++ st) h') : WV S G M Q pc lv st0 h := by
  subst hst
  intro hR hl hs p e s m args below meth c H locs ls A hX hA hP hD hS hv
  have hX0 := hX
  obtain ⟨x1, x2, x3, x4, x5, x6, x7, x8, x9⟩ := hX
  obtain ⟨m1, m2, m4, m5, m6, m7, m8⟩ := hm
  obtain ⟨r1, r2, r3, r4⟩ := hrm
  have hpre := j_pre (av := as) x8 x9 hP hD
  have hnw : va_Nw (.methodLinkNest M.1.cls idx M'.1 host) s := x9 _ m1
  have hrun := va_runSN (e := e) (below := below) (meth := meth) (As := as.map (j_v G.2.2.2)) (rest := st.map (j_v G.2.2.2)) (g := F0 m pc ls ((as.reverse ++ st).map (j_v G.2.2.2))) (locs := locs) (cells := 0) (slots := 0) ⟨x1, x2, x4, x5, x6⟩ (hct G H.size hR (fun a ha => hs a (List.mem_append_left _ (List.mem_reverse.mpr ha)))) ⟨va_cnB as.length x6 (j_good M' m5) rfl r1 r2 hnw (x6 _ m4) ⟨m6, m7, m8⟩ ⟨r3, r4⟩, x6 _ m2, trivial⟩ hpre rfl (by simp) hv.1 (by simp) (lv_room (by have := j_cats G.2.2.2 st; omega)) d ⟨Nat.zero_le _, Nat.zero_le _⟩
  exact j_back hrun hl (fun a ha => hs a (List.mem_append_right _ ha)) hX0 hA hD hS hv kk
theorem j_ite32 {p q : Prop} {dp : Decidable p} {dq : Decidable q} (hpq : p ↔ q) (x y : Int) : (if p then Int32.ofInt x else Int32.ofInt y) = Int32.ofInt (if q then x else y) := by
  by_cases h : p
  · rw [if_pos h, if_pos (hpq.mp h)]
  · rw [if_neg h, if_neg (fun z => h (hpq.mpr z))]
theorem s_max {idx : Nat} {x y : Int} (d : decode M.2.1 pc = .ok (.invokestatic idx, 3)) (hm : j_mm M.1.cls idx Lib.Math.max.name Lib.Math.max.code 2) (hrm : 1 ≤ M.2.2.2.2.frames ∧ 2 * st.length + 13 ≤ M.2.2.2.2.locals) (kk : WV S G M Q (pc + 3) lv (jI (max x y) :: st) h) : WV S G M Q pc lv (jI y :: jI x :: st) h := by
  refine WV.rng (fun _ _ hs0 => ?_)
  refine j_st (fun hR _ hs => j_oI (by rw [Int.max_def]; split; exact j_hI hs; exact j_hI (j_ot hs)) (j_ot (j_ot hs))) (fun {p e s m args below meth c H locs ls Z} hX hv hP hs w => ?_) kk
  obtain ⟨x1, x2, x3, x4, x5, x6, x7, x8, x9⟩ := hX
  refine va_mmax x1 x2 (x4.trans hv.1.symm) x5 (x6 _ hm.1) (x6 _ hm.2.1) (x6 _ hm.2.2.1) (x6 _ hm.2.2.2) hrm.1 (by have := j_cats G.2.2.2 st; omega) (Nat.zero_le _) (Nat.zero_le _) d ?_
  have e : (if Int32.ofInt x < Int32.ofInt y then Int32.ofInt y else Int32.ofInt x) = Int32.ofInt (max x y) := by
    rw [j_ite32 (q := x < y) (dq := inferInstance) (by rw [j_lt (j_hI (j_ot hs)) (j_hI hs)])]
    congr 1
    split <;> omega
  rw [e]
  exact w
theorem s_min {idx : Nat} {x y : Int} (d : decode M.2.1 pc = .ok (.invokestatic idx, 3)) (hm : j_mm M.1.cls idx Lib.Math.min.name Lib.Math.min.code 2) (hrm : 1 ≤ M.2.2.2.2.frames ∧ 2 * st.length + 13 ≤ M.2.2.2.2.locals) (kk : WV S G M Q (pc + 3) lv (jI (min x y) :: st) h) : WV S G M Q pc lv (jI y :: jI x :: st) h := by
  refine j_st (fun hR _ hs => j_oI (by rw [Int.min_def]; split; exact j_hI (j_ot hs); exact j_hI hs) (j_ot (j_ot hs))) (fun {p e s m args below meth c H locs ls Z} hX hv hP hs w => ?_) kk
  obtain ⟨x1, x2, x3, x4, x5, x6, x7, x8, x9⟩ := hX
  refine va_mmin x1 x2 (x4.trans hv.1.symm) x5 (x6 _ hm.1) (x6 _ hm.2.1) (x6 _ hm.2.2.1) (x6 _ hm.2.2.2) hrm.1 (by have := j_cats G.2.2.2 st; omega) (Nat.zero_le _) (Nat.zero_le _) d ?_
  have e : (if Int32.ofInt y < Int32.ofInt x then Int32.ofInt y else Int32.ofInt x) = Int32.ofInt (min x y) := by
    rw [j_ite32 (q := y < x) (dq := inferInstance) (by rw [j_lt (j_hI hs) (j_hI (j_ot hs))])]
    congr 1
    split <;> omega
  rw [e]
  exact w
theorem s_abs {idx : Nat} {x : Int} (d : decode M.2.1 pc = .ok (.invokestatic idx, 3)) (hm : j_mm M.1.cls idx Lib.Math.abs.name Lib.Math.abs.code 1) (hrm : 1 ≤ M.2.2.2.2.frames ∧ 2 * st.length + 13 ≤ M.2.2.2.2.locals) (hr : j_rg (-x)) (kk : WV S G M Q (pc + 3) lv (jI (if 0 ≤ x then x else -x) :: st) h) : WV S G M Q pc lv (jI x :: st) h := by
  refine j_st (fun hR _ hs => j_oI (by split; exact j_hI hs; exact hr) (j_ot hs)) (fun {p e s m args below meth c H locs ls Z} hX hv hP hs w => ?_) kk
  obtain ⟨x1, x2, x3, x4, x5, x6, x7, x8, x9⟩ := hX
  refine va_mabs x1 x2 (x4.trans hv.1.symm) x5 (x6 _ hm.1) (x6 _ hm.2.1) (x6 _ hm.2.2.1) (x6 _ hm.2.2.2) hrm.1 (by have := j_cats G.2.2.2 st; omega) (Nat.zero_le _) (Nat.zero_le _) d ?_
  have e : (if 0 ≤ Int32.ofInt x then Int32.ofInt x else 0 - Int32.ofInt x) = Int32.ofInt (if 0 ≤ x then x else -x) := by
    rw [show (0 : Int32) - Int32.ofInt x = Int32.ofInt (-x) by rw [j_of0, ← Int32.ofInt_sub]; congr 1; omega]
    exact j_ite32 (q := 0 ≤ x) (by rw [j_of0, j_le (j_cst rfl) (j_hI hs)]) x (-x)
  rw [e]
  exact w
theorem s_copy {idx a b n0 n1 : Nat} {sp dp n : Int} (d : decode M.2.1 pc = .ok (.invokestatic idx, 3)) (hm : j_ma M.1.cls idx) (hrm : 1 ≤ M.2.2.2.2.frames ∧ 2 * st.length + (nativeFrameWords "java/lang/System" "arraycopy" 5 + 11) ≤ M.2.2.2.2.locals) (ha : S.2.2[a]? = some (.inl (false, n0))) (hb : S.2.2[b]? = some (.inl (false, n1))) (hin : 0 ≤ sp ∧ 0 ≤ dp ∧ 0 ≤ n ∧ sp + n ≤ n0 ∧ dp + n ≤ n1)
    (kk : WV S G M Q (pc + 3) lv st (j_cp h a sp.toNat b dp.toNat n.toNat)) : WV S G M Q pc lv (jI n :: jI dp :: jR b :: jI sp :: jR a :: st) h := by
  intro hR hl hs p e s m args below meth c H locs ls A hX hA hP hD hS hv
  have hX0 := hX
  obtain ⟨x1, x2, x3, x4, x5, x6, x7, x8, x9⟩ := hX
  have r1 := j_hI hs
  have r2 := j_hI (j_ot hs)
  have r3 := j_hI (j_ot (j_ot (j_ot hs)))
  obtain ⟨i1, i2, i3, i4, i5⟩ := hin
  have nn : ∀ z : Int, j_rg z → 0 ≤ z → ¬ Int32.ofInt z < 0 := fun z hz h0 => by
    rw [j_of0, j_lt hz (j_cst rfl)]
    omega
  refine va_copyi x1 x2 (x4.trans hv.1.symm) x5 (x6 _ hm.1) (x6 _ hm.2.1) (x6 _ hm.2.2.1) (x6 _ hm.2.2.2) x8 hP hD hS a b 0 0 (ty := .int) (j_w_at ha) (j_w_at hb) rfl rfl rfl (nn _ r3 i1) (nn _ r2 i2) (nn _ r1 i3) (by rw [j_cl r3, j_cl r1]; omega) (by rw [j_cl r2, j_cl r1]; omega) (fun i hi => rfl) hrm.1 (by have := j_cats G.2.2.2 st; omega) d (fun H1 locs1 hP1 hD1 hS1 => ?_)
  have e1 : (j_w G S.2.2 h).set b (G.2.2.2 b, .inl (if false = true then G.2.2.1.2 else G.2.2.1.1, n1, .inl (va_cpy (fun j => Int32.ofInt (h.1 a j)) (fun j => Int32.ofInt (h.1 b j)) (Int32.ofInt sp).toNatClampNeg (Int32.ofInt dp).toNatClampNeg (Int32.ofInt n).toNatClampNeg))) = j_w G S.2.2 (j_cp h a sp.toNat b dp.toNat n.toNat) := by
    rw [j_cl r1, j_cl r2, j_cl r3]
    have : va_cpy (fun j => Int32.ofInt (h.1 a j)) (fun j => Int32.ofInt (h.1 b j)) sp.toNat dp.toNat n.toNat = fun j => Int32.ofInt ((j_cp h a sp.toNat b dp.toNat n.toNat).1 b j) := by
      funext j
      simp only [va_cpy, j_cp, true_and]
      split <;> rfl
    rw [this]
    exact j_w_set hb (fun q hq => by funext x; simp [j_cp, hq]) (fun q hq => rfl)
  rw [e1] at hP1 hD1
  refine kk (fun k j => ?_) hl (j_ot (j_ot (j_ot (j_ot (j_ot hs))))) p e s m args below meth c H1 locs1 ls A hX0 hA hP1 hD1 hS1 hv
  show j_rg (if k = b ∧ dp.toNat ≤ j ∧ j < dp.toNat + n.toNat then h.1 a (sp.toNat + (j - dp.toNat)) else h.1 k j)
  split
  · exact hR _ _
  · exact hR _ _
end RW5
