/-! rows of numbers, ends, calls -/
section RW3
variable {S : jS} {G : jG} {M : jM} {Q : jQ} {pc : Nat} {lv st : List jV} {h : jH}
theorem s_iald {k n : Nat} {i x : Int} (d : decode M.2.1 pc = .ok (.iaload, 1)) (hc : S.2.2[k]? = some (.inl (false, n))) (hin : 0 ≤ i ∧ i < n) (hx : h.1 k i.toNat = x) (kk : WV S G M Q (pc + 1) lv (jI x :: st) h) : WV S G M Q pc lv (jI i :: jR k :: st) h := by
  subst hx
  refine j_st (fun hR _ hs => j_oI (hR _ _) (j_ot (j_ot hs))) (fun hX _ hP hs w => ?_) kk
  obtain ⟨x1, x2, x3, x4, x5, x6, x7, x8, x9⟩ := hX
  have hr := j_hI hs
  refine va_iald x1 x2 x8 hP k 0 (j_w_at hc) rfl (j_in hr hin.1 hin.2) d ?_
  rw [j_cl hr]
  exact w
theorem s_zald {k n : Nat} {i x : Int} (d : decode M.2.1 pc = .ok (.baload, 1)) (hc : S.2.2[k]? = some (.inl (true, n))) (hin : 0 ≤ i ∧ i < n) (hx : h.1 k i.toNat = x) (kk : WV S G M Q (pc + 1) lv (jI x :: st) h) : WV S G M Q pc lv (jI i :: jR k :: st) h := by
  subst hx
  refine j_st (fun hR _ hs => j_oI (hR _ _) (j_ot (j_ot hs))) (fun hX _ hP hs w => ?_) kk
  obtain ⟨x1, x2, x3, x4, x5, x6, x7, x8, x9⟩ := hX
  have hr := j_hI hs
  refine va_zald x1 x2 x8 hP k 1 (j_w_at hc) rfl (j_in hr hin.1 hin.2) d ?_
  rw [j_cl hr]
  exact w
theorem s_alen {k n : Nat} {b : Bool} {v : Int} (d : decode M.2.1 pc = .ok (.arraylength, 1)) (hc : S.2.2[k]? = some (.inl (b, n))) (hv : (n : Int) = v) (hr : j_rg v) (kk : WV S G M Q (pc + 1) lv (jI v :: st) h) : WV S G M Q pc lv (jR k :: st) h := by
  refine j_st (fun hR _ hs => j_oI hr (j_ot hs)) (fun hX _ hP hs w => ?_) kk
  obtain ⟨x1, x2, x3, x4, x5, x6, x7, x8, x9⟩ := hX
  have e : Int32.ofNat n = Int32.ofInt v := by rw [← hv, Int32.ofInt_eq_ofNat]
  cases b with
  | false => exact va_alen x1 x2 x8 hP k 0 (j_w_at hc) (ty := .int) rfl e d w
  | true => exact va_alen x1 x2 x8 hP k 1 (j_w_at hc) (ty := .boolean) rfl e d w
theorem j_up_row {k j : Nat} {x : Int} : (fun b => Int32.ofInt ((j_up h k j x).1 k b)) = upd (fun b => Int32.ofInt (h.1 k b)) j (Int32.ofInt x) := by
  funext b
  by_cases hb : b = j
  · subst hb; simp [j_up, upd]
  · simp [j_up, upd, hb]
theorem s_iast {k n : Nat} {i x : Int} (d : decode M.2.1 pc = .ok (.iastore, 1)) (hc : S.2.2[k]? = some (.inl (false, n))) (hin : 0 ≤ i ∧ i < n) (kk : WV S G M Q (pc + 1) lv st (j_up h k i.toNat x)) : WV S G M Q pc lv (jI x :: jI i :: jR k :: st) h := by
  intro hR hl hs p e s m args below meth c H locs ls A hX hA hP hD hS hv
  have hX0 := hX
  obtain ⟨x1, x2, x3, x4, x5, x6, x7, x8, x9⟩ := hX
  have hr := j_hI (j_ot hs)
  refine va_iast x1 x2 x8 hP hD hS k 0 (j_w_at hc) rfl (j_in hr hin.1 hin.2) d (fun H1 locs1 hP1 hD1 hS1 => ?_)
  have e1 : (j_w G S.2.2 h).set k (G.2.2.2 k, .inl (if false = true then G.2.2.1.2 else G.2.2.1.1, n, .inl (upd (fun j => Int32.ofInt (h.1 k j)) (Int32.ofInt i).toNatClampNeg (Int32.ofInt x)))) = j_w G S.2.2 (j_up h k i.toNat x) := by
    rw [j_cl hr, ← j_up_row]
    exact j_w_set hc (fun q hq => by funext b; simp [j_up, hq]) (fun q hq => rfl)
  rw [e1] at hP1 hD1
  exact kk (j_up_Rg hR (j_hI hs)) hl (j_ot (j_ot (j_ot hs))) p e s m args below meth c H1 locs1 ls A hX0 hA hP1 hD1 hS1 hv
theorem j_narz {x : Int} (hz : x = 0 ∨ x = 1) : vp_nar .boolean (Int32.ofInt x) = Int32.ofInt x := by
  rcases hz with rfl | rfl <;> rfl
theorem s_zast {k n : Nat} {i x : Int} (d : decode M.2.1 pc = .ok (.bastore, 1)) (hc : S.2.2[k]? = some (.inl (true, n))) (hin : 0 ≤ i ∧ i < n) (hz : x = 0 ∨ x = 1) (kk : WV S G M Q (pc + 1) lv st (j_up h k i.toNat x)) : WV S G M Q pc lv (jI x :: jI i :: jR k :: st) h := by
  intro hR hl hs p e s m args below meth c H locs ls A hX hA hP hD hS hv
  have hX0 := hX
  obtain ⟨x1, x2, x3, x4, x5, x6, x7, x8, x9⟩ := hX
  have hr := j_hI (j_ot hs)
  refine va_zast x1 x2 x8 hP hD hS k 1 (j_w_at hc) rfl (j_in hr hin.1 hin.2) d (fun H1 locs1 hP1 hD1 hS1 => ?_)
  have e1 : (j_w G S.2.2 h).set k (G.2.2.2 k, .inl (if true = true then G.2.2.1.2 else G.2.2.1.1, n, .inl (upd (fun j => Int32.ofInt (h.1 k j)) (Int32.ofInt i).toNatClampNeg (vp_nar .boolean (Int32.ofInt x))))) = j_w G S.2.2 (j_up h k i.toNat x) := by
    rw [j_narz hz, j_cl hr, ← j_up_row]
    exact j_w_set hc (fun q hq => by funext b; simp [j_up, hq]) (fun q hq => rfl)
  rw [e1] at hP1 hD1
  exact kk (j_up_Rg hR (j_hI hs)) hl (j_ot (j_ot (j_ot hs))) p e s m args below meth c H1 locs1 ls A hX0 hA hP1 hD1 hS1 hv
/-! ends -/
theorem s_iret {x : Int} (d : decode M.2.1 pc = .ok (.ireturn, 1)) (ht : M.2.2.2.1 = some .int) (hq : Q (some (jI x)) h) : WV S G M Q pc lv [jI x] h := by
  intro hR hl hs p e s m args below meth c H locs ls A hX hA hP hD hS hv
  obtain ⟨x1, x2, x3, x4, x5, x6, x7, x8, x9⟩ := hX
  have hr : meth.sig.returnType = some .int := x3.trans ht
  exact W.iret (v := Int32.ofInt x) x1 x2 hr (fun t ht hW => ⟨⟨some (jI x), h, hq, hR, fun a ha => by cases ha; exact j_oh hs, rfl, by rw [ht]; exact hP, va_K.moved hW.alike x8, hD⟩, hS.F ht⟩) hS.2.2 d x7
theorem s_zret {x : Int} (d : decode M.2.1 pc = .ok (.ireturn, 1)) (ht : M.2.2.2.1 = some .boolean) (hz : x = 0 ∨ x = 1) (hq : Q (some (jI x)) h) : WV S G M Q pc lv [jI x] h := by
  intro hR hl hs p e s m args below meth c H locs ls A hX hA hP hD hS hv
  obtain ⟨x1, x2, x3, x4, x5, x6, x7, x8, x9⟩ := hX
  have hr : meth.sig.returnType = some .boolean := x3.trans ht
  exact W.zret (v := Int32.ofInt x) x1 x2 hr (by rcases hz with rfl | rfl <;> rfl) (fun t ht hW => ⟨⟨some (jI x), h, hq, hR, fun a ha => by cases ha; exact j_oh hs, rfl, by rw [ht]; exact hP, va_K.moved hW.alike x8, hD⟩, hS.F ht⟩) hS.2.2 d x7
theorem s_lret {x : Int64} (d : decode M.2.1 pc = .ok (.lreturn, 1)) (ht : M.2.2.2.1 = some .long) (hq : Q (some (jL x)) h) : WV S G M Q pc lv [jL x] h := by
  intro hR hl hs p e s m args below meth c H locs ls A hX hA hP hD hS hv
  obtain ⟨x1, x2, x3, x4, x5, x6, x7, x8, x9⟩ := hX
  have hr : meth.sig.returnType = some .long := x3.trans ht
  exact W.lret (v := x) x1 x2 hr (fun t ht hW => ⟨⟨some (jL x), h, hq, hR, fun a ha => by cases ha; trivial, rfl, by rw [ht]; exact hP, va_K.moved hW.alike x8, hD⟩, hS.F ht⟩) hS.2.2 d x7
theorem s_vret (d : decode M.2.1 pc = .ok (.return_, 1)) (ht : M.2.2.2.1 = none) (hq : Q none h) : WV S G M Q pc lv [] h := by
  intro hR hl hs p e s m args below meth c H locs ls A hX hA hP hD hS hv
  obtain ⟨x1, x2, x3, x4, x5, x6, x7, x8, x9⟩ := hX
  have hr : meth.sig.returnType = none := x3.trans ht
  exact W.vret x1 x2 hr (fun t ht hW => ⟨⟨none, h, hq, hR, fun a ha => (by cases ha), rfl, by rw [ht]; exact hP, va_K.moved hW.alike x8, hD⟩, hS.F ht⟩) hS.2.2 d x7
end RW3
/-! a contract out of a walk -/
theorem j_sl (G : jG) (av : List jV) (hu : ∀ a ∈ av, j_un a = false) : lg_sl (av.map (j_v G.2.2.2)) = av.map (fun a => Slot.val (j_v G.2.2.2 a)) := by
  induction av with
  | nil => rfl
  | cons a t ih =>
    have h1 := j_v_cat (ad := G.2.2.2) (hu a List.mem_cons_self)
    have h2 := ih (fun b hb => hu b (List.mem_cons_of_mem _ hb))
    simp only [lg_sl, List.map_cons, List.flatMap_cons, h1] at h2 ⊢
    rw [h2]
    rfl
theorem j_lva (G : jG) : ∀ (av : List jV) (i : Nat), (∀ a ∈ av, j_un a = false) → ∀ (k : Nat) (a : jV), av[k]? = some a → (i + k, j_v G.2.2.2 a) ∈ lv_args i (av.map (j_v G.2.2.2)) := by
  intro av
  induction av with
  | nil => intro i _ k a h; simp at h
  | cons b t ih =>
    intro i hu k a h
    have h1 := j_v_cat (ad := G.2.2.2) (hu b List.mem_cons_self)
    simp only [List.map_cons, lv_args, h1]
    cases k with
    | zero =>
      simp at h
      subst h
      exact List.mem_cons_self
    | succ k =>
      have := ih (i + 1) (fun c hc => hu c (List.mem_cons_of_mem _ hc)) k a (by simpa using h)
      rw [show i + (k + 1) = i + 1 + k by omega]
      exact List.mem_cons_of_mem _ this
theorem CT.of {S : jS} {M : jM} {av : List jV} {h : jH} {post : jQ} (hy : plainName M.1.cls = true) (hu : ∀ a ∈ av, j_un a = false) (hl : av.length ≤ M.2.2.1) (lv : List jV) (hlv : av ++ List.replicate (M.2.2.1 - av.length) jU = lv) (k : ∀ G, WV S G M post 0 lv [] h) : CT S M av h post := by
  intro G sz hR hok
  subst hlv
  refine Met.ofW (cc := M.2.1) (maxL := M.2.2.1) (ret := M.2.2.2.1) hy rfl ?_
  intro p e s m args below meth c s₁ B hml hv
  obtain ⟨rfl, hsz, hP, hK, hN, hD0⟩ := hv
  have hts := atoms_spec (ws := j_ws M) B.pre
  have hown : s.vm.findClass M.1.cls = some m.cls := findClass_of_methodNamed B.named
  subst hsz
  have hD := hD0.self (sz := s.heap.size)
  have hle : (lg_sl (av.map (j_v G.2.2.2))).length ≤ M.2.2.1 := by rw [j_sl G av hu]; simpa using hl
  have hl := lv_entry (av.map (j_v G.2.2.2)) (n := M.2.2.1) hle
  rw [lg_entry_eq]
  generalize (lg_sl (av.map (j_v G.2.2.2)) ++ List.replicate (M.2.2.1 - (lg_sl (av.map (j_v G.2.2.2))).length) Slot.unset).toArray = ls at hl ⊢
  have hlv : j_lv G ls M.2.2.1 (av ++ List.replicate (M.2.2.1 - av.length) jU) := by
    refine ⟨hl.1, hl.2.1, fun i a hi hua => ?_⟩
    by_cases hii : i < av.length
    · rw [List.getElem?_append_left hii] at hi
      have := j_lva G av 0 hu i a hi
      rw [Nat.zero_add] at this
      exact hl.2.2 _ this
    · rw [List.getElem?_append_right (by omega), List.getElem?_replicate] at hi
      split at hi
      · cases hi; cases hua
      · cases hi
  exact k G hR (fun a ha => by
    rcases List.mem_append.mp ha with h1 | h1
    · exact hok a h1
    · rw [(List.mem_replicate.mp h1).2]; trivial) (fun a ha => by cases ha) p e s m _ below meth c s.heap [] ls _ ⟨B.exec, B.bytes, B.returns, hml, hown, fun w hw => hts w (List.mem_cons_of_mem _ hw), B.notSynchronized, hK, hN⟩ (fun q hq => Or.inr hq) hP hD va_S.rf hlv
/-! calls -/
/-- what a call of y at entry idx of own's pool needs: an instance method of the object's own class -/
def j_mv (own : String) (idx n : Nat) (M : jM) : Prop := Cond.methodLink own idx M.1 ∈ jW ∧ Cond.instanceMethod M.1 ∈ jW ∧ Cond.selects M.1.cls M.1 M.1 ∈ jW ∧ Cond.initialized M.1.cls ∈ jW ∧ Cond.code M.1 M.2.1 M.2.2.1 M.2.2.2.1 ∈ jW ∧ M.1.cls ≠ "java/lang/invoke/MethodHandle" ∧ M.1.cls ≠ "java/lang/invoke/VarHandle" ∧ (parseMethodDescriptor M.1.desc).map (fun d => d.parameters.length) = some n
def j_ms (own : String) (idx n : Nat) (M : jM) : Prop := Cond.methodLink own idx M.1 ∈ jW ∧ Cond.static M.1 ∈ jW ∧ Cond.initialized M.1.cls ∈ jW ∧ Cond.code M.1 M.2.1 M.2.2.1 M.2.2.2.1 ∈ jW ∧ M.1.cls ≠ "java/lang/invoke/MethodHandle" ∧ M.1.cls ≠ "java/lang/invoke/VarHandle" ∧ (parseMethodDescriptor M.1.desc).map (fun d => d.parameters.length) = some n
/-- a call's room -/
def j_rm2 (M M' : jM) : Prop := M'.2.2.2.2.cells = 0 ∧ M'.2.2.2.2.slots = 0 ∧ M'.2.2.2.2.frames + 1 ≤ M.2.2.2.2.frames ∧ 8 + (M'.2.2.1 + 11) + M'.2.2.2.2.locals ≤ M.2.2.2.2.locals
theorem j_good (M : jM) (hc : Cond.code M.1 M.2.1 M.2.2.1 M.2.2.2.1 ∈ jW) : GoodIn jW (j_ws M) := by
  intro w hw
  rcases List.mem_cons.mp hw with rfl | hw
  · exact ⟨hc, jW_good _ hc⟩
  · exact ⟨hw, jW_good w hw⟩
theorem j_cats (ad : Nat → Nat) (st : List jV) : ((st.map (j_v ad)).map fun v => v.category).sum ≤ 2 * st.length := by
  induction st with
  | nil => simp
  | cons a t ih =>
    have : (j_v ad a).category ≤ 2 := by rcases lv_cat (j_v ad a) with h | h <;> omega
    simp only [List.map_cons, List.sum_cons, List.length_cons]
    omega
section RW4
variable {S : jS} {G : jG} {M M' : jM} {Q : jQ} {pc : Nat} {lv st : List jV} {h : jH}
/-- behind a call's run -/
theorem j_back {post : jQ} {p : Program} {e : Env} {s : State} {m : MethodId} {args : Array Value} {below : List Frame} {meth : Method} {c : Code} {H : Heap} {locs : List Loc} {ls : Array Slot} {A : Nat → Prop} {st0 : List Value} {a : Array Value}
    (hr : va_Run p G.1 e M.2.2.2.2 s m args below meth c H locs 0 0 0 0 (F0 m pc ls st0) (st.map (j_v G.2.2.2)) (j_Q S G (va_A (j_w G S.2.2 h) H.size) post a) (va_A (j_w G S.2.2 h) H.size))
    (hl : ∀ a ∈ lv, j_ok a) (hs : ∀ a ∈ st, j_ok a) (hX : j_X S G M p s m args meth c) (hA : ∀ q, s.heap.size ≤ q → A q) (hD : va_D A (j_w G S.2.2 h)) (hS : va_S A s.heap H locs) (hv : j_lv G ls M.2.2.1 lv)
    (kk : ∀ (r : Option jV) (h' : jH), post r h' → WV S G M Q (pc + 3) lv (r.toList ++ st) h') : W p G.1 e M.2.2.2.2 s m args below meth c H locs 0 0 (MQ below (j_Q S G A Q) args s 0 0 A) (F0 m pc ls st0) := by
  have hF : ∀ q, va_A (j_w G S.2.2 h) H.size q → A q := by
    intro q hq
    rcases hq with ⟨k, e, hk⟩ | hq
    · exact hD.2 k _ hk
    · exact hA q (Nat.le_trans hS.1 hq)
  intro T hT X
  obtain ⟨v, st₀, t, T', L, h0, X', hL, e1, e2, ⟨⟨r, h', q1, q2, q3, q4, q5, q6, q7⟩, hz, hk⟩, stp⟩ := hr T hT X
  rw [h0] at hz hk
  cases q4
  have hS' : va_S A s.heap T'.heap (locs ++ L) := ⟨Nat.le_trans hS.1 (by rw [e1]; exact hz), fun q h1 h2 => by rw [e1, hk q (Nat.lt_of_lt_of_le h1 hS.1) (fun z => h2 (hF q z))]; exact hS.2.1 q h1 h2, fun q hq => by
    rcases List.mem_append.mp hq with h | h
    · exact hS.2.2 q h
    · exact hF _ (hL q h)⟩
  have hw := kk r h' q1 q2 hl (fun a ha => by
    rcases List.mem_append.mp ha with h1 | h1
    · exact q3 a (by cases r with
        | none => cases h1
        | some b => rw [List.mem_singleton.mp h1])
    · exact hs a h1) p e s m args below meth c T'.heap (locs ++ L) ls A hX hA (by rw [e1]; exact q5) (q7.weaken (fun k q _ hq => hF q.1 hq)) hS' hv
  have hst : (r.map (j_v G.2.2.2)).toList ++ st.map (j_v G.2.2.2) = (r.toList ++ st).map (j_v G.2.2.2) := by cases r <;> simp
  obtain ⟨t2, a1, b1⟩ := hw T' rfl X'
  refine ⟨t2, stp t2 ?_, b1⟩
  rw [← hst] at a1
  exact a1
theorem j_pre {av : List jV} {s : State} {H : Heap} {A : Nat → Prop} (hK : va_K G.2.1 S.1 (j_ty G) s) (hN : j_N S s) (hP : va_P G.2.1 S.1 (j_w G S.2.2 h) H) (hD : va_D A (j_w G S.2.2 h)) : PreS s H (va_Pc (av.map (j_v G.2.2.2)) (fun U => U.heap.size = H.size ∧ va_P G.2.1 S.1 (j_w G S.2.2 h) U.heap ∧ va_K G.2.1 S.1 (j_ty G) U ∧ j_N S U ∧ va_D (fun _ => True) (j_w G S.2.2 h))) (av.map (j_v G.2.2.2)) :=
  ⟨fun a U g mk q => by
    obtain ⟨q0, q1, qP, qK, qN, qD⟩ := q
    exact ⟨q0, q1, qP, va_K.moved (u := U) (U := U.calling g mk a) (Vm.Alike.refl U.vm) qK, fun z hz => va_Nw.same rfl rfl (qN z hz), qD⟩, fun U hU hW => ⟨rfl, by rw [hU], by rw [hU]; exact hP, va_K.moved hW.alike hK, hN.moved hW, hD.weaken (fun _ _ _ _ => trivial)⟩⟩
theorem s_callV {idx k ci : Nat} {as : List jV} {fs : List (Option (Option Nat))} {q : vw_C} {post : jQ} (d : decode M.2.1 pc = .ok (.invokevirtual idx, 3)) (hm : j_mv M.1.cls idx as.length M') (hrm : j_rm2 M M') (hc : S.2.2[k]? = some (.inr (ci, fs))) (hcl : S.1[ci]? = some q) (hq : q.1 = M'.1.cls) (hlen : 2 * st.length ≤ 8) (st0 : List jV) (hst : as.reverse ++ jR k :: st = st0)
    (hct : CT S M' (jR k :: as) h post) (kk : ∀ (r : Option jV) (h' : jH), post r h' → WV S G M Q (pc + 3) lv (r.toList ++ st) h') : WV S G M Q pc lv st0 h := by
  subst hst
  intro hR hl hs p e s m args below meth c H locs ls A hX hA hP hD hS hv
  have hX0 := hX
  obtain ⟨x1, x2, x3, x4, x5, x6, x7, x8, x9⟩ := hX
  obtain ⟨m1, m2, m3, m4, m5, m6, m7, m8⟩ := hm
  obtain ⟨r1, r2, r3, r4⟩ := hrm
  have hs1 : ∀ a ∈ jR k :: st, j_ok a := fun a ha => hs a (List.mem_append_right _ ha)
  have hpre := j_pre (av := jR k :: as) x8 x9 hP hD
  have cw : CallW M.2.2.2.2 s args M.1.cls M'.1.cls idx M'.1 M'.2.1 M'.2.2.1 M'.2.2.2.1 (j_ws M') M'.2.2.2.2 0 0 as.length := ⟨callB_of as.length x6 (j_good M' m5) rfl r1 r2 (x6 _ m4) (x6 _ m1) ⟨m6, m7, m8⟩ ⟨r3, r4⟩, x6 _ m2, x6 _ m3⟩
  have hrun := va_runV (e := e) (below := below) (meth := meth) (As := as.map (j_v G.2.2.2)) (rest := st.map (j_v G.2.2.2)) (b := G.2.2.2 k) (g := F0 m pc ls ((as.reverse ++ jR k :: st).map (j_v G.2.2.2))) (locs := locs) (cells := 0) (slots := 0) ⟨x1, x2, x4, x5, x6⟩ (hct G H.size hR (fun a ha => by
    rcases List.mem_cons.mp ha with rfl | ha
    · trivial
    · exact hs a (List.mem_append_left _ (List.mem_reverse.mpr ha)))) cw ⟨hpre.1, by rw [← hq]; exact va_recv x8 hP hcl (j_w_at hc), hpre.2⟩ rfl (by simp) hv.1 (by simp [j_v]) (lv_room (by have := j_cats G.2.2.2 st; omega)) d ⟨Nat.zero_le _, Nat.zero_le _⟩
  exact j_back hrun hl (j_ot hs1) hX0 hA hD hS hv kk
theorem s_callS {idx : Nat} {as : List jV} {post : jQ} (d : decode M.2.1 pc = .ok (.invokestatic idx, 3)) (hm : j_ms M.1.cls idx as.length M') (hrm : j_rm2 M M') (hlen : 2 * st.length ≤ 8) (st0 : List jV) (hst : as.reverse ++ st = st0)
    (hct : CT S M' as h post) (kk : ∀ (r : Option jV) (h' : jH), post r h' → WV S G M Q (pc + 3) lv (r.toList ++ st) h') : WV S G M Q pc lv st0 h := by
  subst hst
  intro hR hl hs p e s m args below meth c H locs ls A hX hA hP hD hS hv
  have hX0 := hX
  obtain ⟨x1, x2, x3, x4, x5, x6, x7, x8, x9⟩ := hX
  obtain ⟨m1, m2, m4, m5, m6, m7, m8⟩ := hm
  obtain ⟨r1, r2, r3, r4⟩ := hrm
  have hpre := j_pre (av := as) x8 x9 hP hD
  have hrun := va_runS (e := e) (below := below) (meth := meth) (As := as.map (j_v G.2.2.2)) (rest := st.map (j_v G.2.2.2)) (g := F0 m pc ls ((as.reverse ++ st).map (j_v G.2.2.2))) (locs := locs) (cells := 0) (slots := 0) ⟨x1, x2, x4, x5, x6⟩ (hct G H.size hR (fun a ha => hs a (List.mem_append_left _ (List.mem_reverse.mpr ha)))) ⟨callB_of as.length x6 (j_good M' m5) rfl r1 r2 (x6 _ m4) (x6 _ m1) ⟨m6, m7, m8⟩ ⟨r3, r4⟩, x6 _ m2⟩ hpre rfl (by simp) hv.1 (by simp) (lv_room (by have := j_cats G.2.2.2 st; omega)) d ⟨Nat.zero_le _, Nat.zero_le _⟩
  exact j_back hrun hl (fun a ha => hs a (List.mem_append_right _ ha)) hX0 hA hD hS hv kk
end RW4
