/-! constructors: a machine whose world grows -/
abbrev kG : Type := Launch × va_G × (ClassId × ClassId)
abbrev k_ty (G : kG) : List (ClassId × FieldType) := [(G.2.2.1, .int), (G.2.2.2, .boolean)]
abbrev k_g (G : kG) (ad : Nat → Nat) : jG := (G.1, G.2.1, G.2.2, ad)
def k_N (U : State) : Prop := j_N Sx U ∧ va_Nw (.methodLinkNest RX7 40 yX3_init "BoardCords") U
theorem k_N.moved {s U : State} (hW : s.WarmedH U.vm) (h : k_N s) : k_N U := ⟨h.1.moved hW, va_Nw.warmM hW h.2⟩
def k_X (G : kG) (M : jM) (p : Program) (s : State) (m : MethodId) (args : Array Value) (meth : Method) (c : Code) : Prop :=
  p.tables.exec = Jvm.exec ∧ c.code = M.2.1 ∧ meth.sig.returnType = none ∧ c.maxLocals = M.2.2.1 ∧ s.vm.findClass M.1.cls = some m.cls ∧ (∀ w ∈ jW, w.before args s = true) ∧ meth.locks = false ∧ meth.name = "<init>" ∧ va_K G.2.1 vwCl (k_ty G) s ∧ k_N s
def k_B (G : kG) (A : Nat → Prop) (w : va_W) (t : State) : Prop := va_P G.2.1 vwCl w t.heap ∧ va_K G.2.1 vwCl (k_ty G) t ∧ va_D A w
def WK (G : kG) (M : jM) (Qp : va_W → Prop) (mc ms pc : Nat) (lv : List (Nat × Value)) (st : List Value) (ws : va_W) (k n : Nat) : Prop :=
  ∀ (p : Program) (e : Env) (s : State) (m : MethodId) (args : Array Value) (below : List Frame) (meth : Method) (c : Code) (H : Heap) (locs : List Loc) (ls : Array Slot) (A : Nat → Prop),
    k_X G M p s m args meth c → (∀ q, s.heap.size ≤ q → A q) → va_P G.2.1 vwCl ws H → va_D A ws → va_S A s.heap H locs → lv_has ls M.2.2.1 lv →
    W p G.1 e M.2.2.2.2 s m args below meth c H locs k n (MQ below (va_Qv Qp (k_B G A) A) args s mc ms A) (F0 m pc ls st)
def KC (G : kG) (M : jM) (av : List Value) (w0 : va_W) (Qp : va_W → Prop) (mc ms : Nat) : Prop := ∀ sz : Nat, Met G.1 M.1 (j_ws M) M.2.2.2.2 (va_Pc av (fun U => U.heap.size = sz ∧ va_P G.2.1 vwCl w0 U.heap ∧ va_K G.2.1 vwCl (k_ty G) U ∧ k_N U ∧ va_D (fun _ => True) w0)) (va_Qv Qp (k_B G (va_A w0 sz)) (va_A w0 sz)) mc ms (va_A w0 sz)
theorem KC.of {G : kG} {M : jM} {av : List Value} {w0 : va_W} {Qp : va_W → Prop} {mc ms : Nat} (hy : plainName M.1.cls = true) (hr : M.2.2.2.1 = none) (hi : M.1.name = "<init>") (hl : (lg_sl av).length ≤ M.2.2.1) (k : WK G M Qp mc ms 0 (lv_args 0 av) [] w0 0 0) : KC G M av w0 Qp mc ms := by
  intro sz
  refine Met.ofW (cc := M.2.1) (maxL := M.2.2.1) (ret := M.2.2.2.1) hy rfl ?_
  intro p e s m args below meth c s₁ B hml hv
  obtain ⟨rfl, hsz, hP, hK, hN, hD0⟩ := hv
  have hts := atoms_spec (ws := j_ws M) B.pre
  have hown : s.vm.findClass M.1.cls = some m.cls := findClass_of_methodNamed B.named
  have hin : meth.name = "<init>" := by rw [(name_of_methodNamed B.named B.method).1]; exact hi
  subst hsz
  have hD := hD0.self (sz := s.heap.size)
  have hl := lv_entry av (n := M.2.2.1) hl
  rw [lg_entry_eq]
  exact k p e s m _ below meth c s.heap [] _ _ ⟨B.exec, B.bytes, by rw [← hr]; exact B.returns, hml, hown, fun w hw => hts w (List.mem_cons_of_mem _ hw), B.notSynchronized, hin, hK, hN⟩ (fun q hq => Or.inr hq) hP hD va_S.rf hl
/-! worlds put together -/
theorem k_pw {ws : va_W} : (∀ (i j : Nat) (p q : Nat × va_E), ws[i]? = some p → ws[j]? = some q → p.1 = q.1 → i = j) ↔ ws.Pairwise (fun a b => a.1 ≠ b.1) := by
  rw [List.pairwise_iff_getElem]
  constructor
  · intro h i j hi hj hij e
    have := h i j _ _ (List.getElem?_eq_getElem hi) (List.getElem?_eq_getElem hj) e
    omega
  · intro h i j p q hp hq e
    obtain ⟨hi, rfl⟩ := List.getElem?_eq_some_iff.mp hp
    obtain ⟨hj, rfl⟩ := List.getElem?_eq_some_iff.mp hq
    rcases Nat.lt_trichotomy i j with w | w | w
    · exact absurd e (h i j hi hj w)
    · exact w
    · exact absurd e.symm (h j i hj hi w)
theorem k_P {D : va_G} {cl : List vw_C} {ws : va_W} {H : Heap} : va_P D cl ws H ↔ ∀ x ∈ ws, va_at D cl x H := by
  constructor
  · intro h x hx
    obtain ⟨i, hi⟩ := List.getElem?_of_mem hx
    exact h i x hi
  · intro h k q hk
    exact h q (List.mem_of_getElem? hk)
theorem k_D {A : Nat → Prop} {ws : va_W} : va_D A ws ↔ ws.Pairwise (fun a b => a.1 ≠ b.1) ∧ ∀ x ∈ ws, A x.1 := by
  constructor
  · intro h
    refine ⟨k_pw.mp h.1, fun x hx => ?_⟩
    obtain ⟨i, hi⟩ := List.getElem?_of_mem hx
    exact h.2 i x hi
  · intro h
    exact ⟨k_pw.mpr h.1, fun k q hk => h.2 q (List.mem_of_getElem? hk)⟩
theorem k_A {ws : va_W} {sz q : Nat} : va_A ws sz q ↔ (∃ x ∈ ws, x.1 = q) ∨ sz ≤ q := by
  constructor
  · rintro (⟨k, e, h⟩ | h)
    · exact Or.inl ⟨(q, e), List.mem_of_getElem? h, rfl⟩
    · exact Or.inr h
  · rintro (⟨x, h, rfl⟩ | h)
    · obtain ⟨i, hi⟩ := List.getElem?_of_mem h
      exact Or.inl ⟨i, x.2, hi⟩
    · exact Or.inr h
/-- a part of the world is made anew by a call, the rest stays -/
theorem k_join {A : Nat → Prop} {D : va_G} {cl : List vw_C} {wl wc wr w1 : va_W} {H H1 : Heap} (hP : va_P D cl (wl ++ (wc ++ wr)) H) (hD : va_D A (wl ++ (wc ++ wr))) (hk : ∀ q : Nat, q < H.size → ¬ va_A wc H.size q → H1[q]? = H[q]?) (hF : ∀ q, va_A wc H.size q → A q) (hP1 : va_P D cl w1 H1) (hD1 : va_D (va_A wc H.size) w1) : va_P D cl (wl ++ (w1 ++ wr)) H1 ∧ va_D A (wl ++ (w1 ++ wr)) := by
  rw [k_P] at hP hP1 ⊢
  rw [k_D] at hD hD1 ⊢
  obtain ⟨d1, d2⟩ := hD
  obtain ⟨e1, e2⟩ := hD1
  rw [List.pairwise_append, List.pairwise_append] at d1 ⊢
  obtain ⟨p1, ⟨p2, p3, p4⟩, p5⟩ := d1
  have rest : ∀ x, x ∈ wl ∨ x ∈ wr → x.1 < H.size ∧ ¬ va_A wc H.size x.1 := by
    intro x hx
    have hm : x ∈ wl ++ (wc ++ wr) := by
      rcases hx with h | h
      · exact List.mem_append_left _ h
      · exact List.mem_append_right _ (List.mem_append_right _ h)
    have hlt := (hP x hm).lt
    refine ⟨hlt, fun ha => ?_⟩
    rcases k_A.mp ha with ⟨y, hy, e⟩ | h
    · rcases hx with h | h
      · exact p5 x h y (List.mem_append_left _ hy) e.symm
      · exact p4 y hy x h e
    · omega
  have kept : ∀ x, x ∈ wl ∨ x ∈ wr → va_at D cl x H1 := by
    intro x hx
    have hm : x ∈ wl ++ (wc ++ wr) := by
      rcases hx with h | h
      · exact List.mem_append_left _ h
      · exact List.mem_append_right _ (List.mem_append_right _ h)
    have := rest x hx
    exact (hP x hm).kept (hk x.1 this.1 this.2)
  refine ⟨fun x hx => ?_, ⟨p1, ⟨e1, p3, fun x hx y hy e => ?_⟩, fun x hx y hy e => ?_⟩, fun x hx => ?_⟩
  · rcases List.mem_append.mp hx with h | h
    · exact kept x (Or.inl h)
    · rcases List.mem_append.mp h with h | h
      · exact hP1 x h
      · exact kept x (Or.inr h)
  · have := e2 x hx
    rw [e] at this
    exact (rest y (Or.inr hy)).2 this
  · rcases List.mem_append.mp hy with h | h
    · have := e2 y h
      rw [← e] at this
      exact (rest x (Or.inl hx)).2 this
    · exact p5 x hx y (List.mem_append_right _ h) e
  · rcases List.mem_append.mp hx with h | h
    · exact d2 x (List.mem_append_left _ h)
    · rcases List.mem_append.mp h with h | h
      · exact hF _ (e2 x h)
      · exact d2 x (List.mem_append_right _ (List.mem_append_right _ h))
/-! rows -/
section KR
variable {G : kG} {M : jM} {Qp : va_W → Prop} {mc ms pc : Nat} {lv : List (Nat × Value)} {st : List Value} {ws : va_W} {a b : Nat}
theorem k_aload {i : Fin 4} {x : Nat} (j : Nat) (d : decode M.2.1 pc = .ok (.aload_n i, 1)) (hl : lv[j]? = some ((i : Nat), .ref x)) (k : WK G M Qp mc ms (pc + 1) lv (.ref x :: st) ws a b) : WK G M Qp mc ms pc lv st ws a b := by
  intro p e s m args below meth c H locs ls A hX hA hP hD hS hv
  exact lv_aload_n hX.1 hX.2.1 d rfl (lv_at hv j hl) (k p e s m args below meth c H locs ls A hX hA hP hD hS hv)
theorem k_iconst {n : Int} (v : Int32) (d : decode M.2.1 pc = .ok (.iconst n, 1)) (hv : Int32.ofInt n = v) (k : WK G M Qp mc ms (pc + 1) lv (.int v :: st) ws a b) : WK G M Qp mc ms pc lv st ws a b := by
  intro p e s m args below meth c H locs ls A hX hA hP hD hS hl
  exact lv_iconst hX.1 hX.2.1 d hv (k p e s m args below meth c H locs ls A hX hA hP hD hS hl)
theorem k_bipush {n : Int} (v : Int32) (d : decode M.2.1 pc = .ok (.bipush n, 2)) (hv : (Int8.ofInt n).toInt32 = v) (k : WK G M Qp mc ms (pc + 2) lv (.int v :: st) ws a b) : WK G M Qp mc ms pc lv st ws a b := by
  intro p e s m args below meth c H locs ls A hX hA hP hD hS hl
  exact lv_bipush hX.1 hX.2.1 d hv (k p e s m args below meth c H locs ls A hX hA hP hD hS hl)
theorem k_sipush {n : Int} (v : Int32) (d : decode M.2.1 pc = .ok (.sipush n, 3)) (hv : (Int16.ofInt n).toInt32 = v) (k : WK G M Qp mc ms (pc + 3) lv (.int v :: st) ws a b) : WK G M Qp mc ms pc lv st ws a b := by
  intro p e s m args below meth c H locs ls A hX hA hP hD hS hl
  exact lv_sipush hX.1 hX.2.1 d hv (k p e s m args below meth c H locs ls A hX hA hP hD hS hl)
theorem k_lconst {n : Fin 2} (v : Int64) (d : decode M.2.1 pc = .ok (.lconst n, 1)) (hv : Int64.ofNat (n : Nat) = v) (k : WK G M Qp mc ms (pc + 1) lv (.long v :: st) ws a b) : WK G M Qp mc ms pc lv st ws a b := by
  intro p e s m args below meth c H locs ls A hX hA hP hD hS hl
  exact lv_lconst hX.1 hX.2.1 d hv (k p e s m args below meth c H locs ls A hX hA hP hD hS hl)
theorem k_dup {x : Nat} (d : decode M.2.1 pc = .ok (.dup, 1)) (k : WK G M Qp mc ms (pc + 1) lv (.ref x :: .ref x :: st) ws a b) : WK G M Qp mc ms pc lv (.ref x :: st) ws a b := by
  intro p e s m args below meth c H locs ls A hX hA hP hD hS hl
  exact lv_dup hX.1 hX.2.1 d rfl (k p e s m args below meth c H locs ls A hX hA hP hD hS hl)
theorem k_obj {idx x : Nat} (d : decode M.2.1 pc = .ok (.invokespecial idx, 3)) (h1 : Cond.methodLink M.1.cls idx Lib.objectInit ∈ jW) (h2 : Cond.instanceMethod Lib.objectInit ∈ jW) (h3 : Cond.code Lib.objectInit ⟨#[0xb1]⟩ 1 none ∈ jW) (hf : 1 ≤ M.2.2.2.2.frames) (hlo : 12 ≤ M.2.2.2.2.locals) (k : WK G M Qp mc ms (pc + 3) lv [] ws a b) : WK G M Qp mc ms pc lv [.ref x] ws a b := by
  intro p e s m args below meth c H locs ls A hX hA hP hD hS hl
  refine W.objInit hX.1 hX.2.1 hX.2.2.2.2.1 (hX.2.2.2.2.2.1 _ h1) (hX.2.2.2.2.2.1 _ h2) (hX.2.2.2.2.2.1 _ h3) rfl (by rw [hX.2.2.2.1]; exact hl.1) rfl d hf hlo ?_
  exact k p e s m args below meth c H locs ls A hX hA hP hD hS hl
theorem k_newI {v : Int32} (N : Nat) (d : decode M.2.1 pc = .ok (.newarray .int, 2)) (hw : Cond.arrayClass .int ∈ jW) (hn : ¬ v < 0) (hN : v.toNatClampNeg = N) (hb : N * componentBytes .int ≤ 536870912) (hc : a + 1 ≤ M.2.2.2.2.cells) (hs : b + N ≤ M.2.2.2.2.slots) (k : ∀ q : Nat, WK G M Qp mc ms (pc + 2) lv (.ref q :: st) (ws ++ [(q, .inl (G.2.2.1, N, .inl (fun _ => Int32.ofInt 0)))]) (a + 1) (b + N)) : WK G M Qp mc ms pc lv (.int v :: st) ws a b := by
  intro p e s m args below meth c H locs ls A hX hA hP hD hS hl
  have hK := hX.2.2.2.2.2.2.2.2.1
  refine va_newa (atype := .int) (ty := .int) (a0 := (N, .inl (fun _ => Int32.ofInt 0))) hX.1 hX.2.1 (hX.2.2.2.2.2.1 _ hw) rfl hK hP hD hS hA (fun cA => by
    show arrV cA N (fun _ => Value.int (Int32.ofInt 0)) = arrV cA N (fun _ => Value.int 0)
    rw [← j_of0]) hn hN hb hc hs d (fun q cA H1 hK1 hP1 hD1 hS1 => ?_)
  have e1 := (hK1.2 2 (cA, .int) rfl).2
  have e2 := (hK.2 0 (G.2.2.1, .int) rfl).2
  have e : cA = G.2.2.1 := Option.some.inj (e1.symm.trans e2)
  subst e
  exact k q p e s m args below meth c H1 locs ls A hX hA hP1 hD1 hS1 hl
theorem k_newZ {v : Int32} (N : Nat) (d : decode M.2.1 pc = .ok (.newarray .boolean, 2)) (hw : Cond.arrayClass .boolean ∈ jW) (hn : ¬ v < 0) (hN : v.toNatClampNeg = N) (hb : N * componentBytes .boolean ≤ 536870912) (hc : a + 1 ≤ M.2.2.2.2.cells) (hs : b + N ≤ M.2.2.2.2.slots) (k : ∀ q : Nat, WK G M Qp mc ms (pc + 2) lv (.ref q :: st) (ws ++ [(q, .inl (G.2.2.2, N, .inl (fun _ => Int32.ofInt 0)))]) (a + 1) (b + N)) : WK G M Qp mc ms pc lv (.int v :: st) ws a b := by
  intro p e s m args below meth c H locs ls A hX hA hP hD hS hl
  have hK := hX.2.2.2.2.2.2.2.2.1
  refine va_newa (atype := .boolean) (ty := .boolean) (a0 := (N, .inl (fun _ => Int32.ofInt 0))) hX.1 hX.2.1 (hX.2.2.2.2.2.1 _ hw) rfl hK hP hD hS hA (fun cA => by
    show arrV cA N (fun _ => Value.int (Int32.ofInt 0)) = arrV cA N (fun _ => Value.int 0)
    rw [← j_of0]) hn hN hb hc hs d (fun q cA H1 hK1 hP1 hD1 hS1 => ?_)
  have e1 := (hK1.2 2 (cA, .boolean) rfl).2
  have e2 := (hK.2 1 (G.2.2.2, .boolean) rfl).2
  have e : cA = G.2.2.2 := Option.some.inj (e1.symm.trans e2)
  subst e
  exact k q p e s m args below meth c H1 locs ls A hX hA hP1 hD1 hS1 hl
/-- what a new object of a class needs -/
def k_nw (own : String) (idx ci N : Nat) (fs : List Value) : Prop := ∃ (C : String) (T : u_T) (ty : Nat → FieldType), vwCl[ci]? = some (C, T, N) ∧ (∀ w ∈ u_ws C T N, w ∈ jW) ∧ (∀ k, k < N → parseFieldDescriptor (T k).2.2.1 = some (ty k)) ∧ Cond.classLink own idx C ∈ jW ∧ Cond.instantiable C N ∈ jW ∧ Cond.initialized C ∈ jW ∧ ∀ j, j < N → defaultValue (ty j) = vp_V fs j
theorem k_new {idx ci N : Nat} {fs : List Value} (d : decode M.2.1 pc = .ok (.new idx, 3)) (hn : k_nw M.1.cls idx ci N fs) (hc : a + 1 ≤ M.2.2.2.2.cells) (hs : b + N ≤ M.2.2.2.2.slots) (k : ∀ q : Nat, WK G M Qp mc ms (pc + 3) lv (.ref q :: st) (ws ++ [(q, .inr (ci, fs))]) (a + 1) (b + N)) : WK G M Qp mc ms pc lv st ws a b := by
  intro p e s m args below meth c H locs ls A hX hA hP hD hS hl
  obtain ⟨C, T, ty, n1, n2, n3, n4, n5, n6, n7⟩ := hn
  have x6 := hX.2.2.2.2.2.1
  exact va_new (ci := ci) (fs := fs) (C := C) (T := T) (N := N) hX.1 hX.2.1 x6 n2 ty n3 hX.2.2.2.2.1 (x6 _ n4) (x6 _ n5) (x6 _ n6) hX.2.2.2.2.2.2.2.2.1 hP hD hS hA n1 n7 hc hs d (fun q H1 hP1 hD1 hS1 => k q p e s m args below meth c H1 locs ls A hX hA hP1 hD1 hS1 hl)
/-- what a field's setting in a constructor needs -/
def k_fp (own : String) (idx ci j : Nat) (ty : FieldType) (fin : Bool) : Prop := ∃ (C : String) (T : u_T) (N : Nat) (ty0 : Nat → FieldType), vwCl[ci]? = some (C, T, N) ∧ j < N ∧ (∀ w ∈ u_ws C T N, w ∈ jW) ∧ Cond.fieldLink own idx (T j).1 (T j).2.1 (T j).2.2.1 ∈ jW ∧ (∀ k, k < N → parseFieldDescriptor (T k).2.2.1 = some (ty0 k)) ∧ (∀ a, a < N → ∀ b, b < N → a ≠ b → (T a).2.1 ≠ (T b).2.1) ∧ (T j).2.2.2 = fin ∧ (T j).1 = own ∧ parseFieldDescriptor (T j).2.2.1 = some ty
theorem k_put {idx ci j x : Nat} {ty : FieldType} {fin : Bool} {v : Value} {fs : List Value} (q0 : Nat) {ws' : va_W} (d : decode M.2.1 pc = .ok (.putfield idx, 3)) (hf : k_fp M.1.cls idx ci j ty fin) (hw : ws[q0]? = some (x, .inr (ci, fs))) (hn : narrow ty v = v) (hfit : fits ty v = true) (hj : j < fs.length) (he : ws.set q0 (x, .inr (ci, fs.set j v)) = ws') (k : WK G M Qp mc ms (pc + 3) lv st ws' a b) : WK G M Qp mc ms pc lv (v :: .ref x :: st) ws a b := by
  subst he
  intro p e s m args below meth c H locs ls A hX hA hP hD hS hl
  obtain ⟨C, T, N, ty0, h1, h2, h3, h4, h5, h6, h7, h8, h9⟩ := hf
  have x6 := hX.2.2.2.2.2.1
  cases fin with
  | true => exact va_putF (D := G.2.1) (ci := ci) (v := v) (ty := ty) hX.1 hX.2.1 x6 h3 ty0 h5 h6 hX.2.2.2.2.1 hX.2.2.2.2.2.2.2.2.1 hP hD hS q0 hw h1 j h2 (x6 _ h4) (fun _ q => q) h7 hX.2.2.2.2.2.2.2.1 h8 h9 hn hfit hj d (fun H1 locs1 hP1 hD1 hS1 => k p e s m args below meth c H1 locs1 ls A hX hA hP1 hD1 hS1 hl)
  | false => exact va_put (D := G.2.1) (ci := ci) (v := v) (ty := ty) hX.1 hX.2.1 x6 h3 ty0 h5 h6 hX.2.2.2.2.1 hX.2.2.2.2.2.2.2.2.1 hP hD hS q0 hw h1 j h2 (x6 _ h4) (fun _ q => q) h7 h9 hn hfit hj d (fun H1 locs1 hP1 hD1 hS1 => k p e s m args below meth c H1 locs1 ls A hX hA hP1 hD1 hS1 hl)
theorem k_get {idx ci j x : Nat} {v : Value} {fs : List Value} (q0 : Nat) (d : decode M.2.1 pc = .ok (.getfield idx, 3)) (hf : j_fl vwCl M.1.cls idx ci j) (hw : ws[q0]? = some (x, .inr (ci, fs))) (hv : fs[j]? = some v) (k : WK G M Qp mc ms (pc + 3) lv (v :: st) ws a b) : WK G M Qp mc ms pc lv (.ref x :: st) ws a b := by
  intro p e s m args below meth c H locs ls A hX hA hP hD hS hl
  obtain ⟨C, T, N, h1, h2, h3, h4⟩ := hf
  have x6 := hX.2.2.2.2.2.1
  exact va_get (D := G.2.1) (ci := ci) (v := v) hX.1 hX.2.1 x6 h3 hX.2.2.2.2.1 hX.2.2.2.2.2.2.2.2.1 hP q0 hw h1 j h2 (x6 _ h4) (fun _ q => q) hv d (k p e s m args below meth c H locs ls A hX hA hP hD hS hl)
theorem k_ret (d : decode M.2.1 pc = .ok (.return_, 1)) (hq : Qp ws) : WK G M Qp mc ms pc lv [] ws mc ms := by
  intro p e s m args below meth c H locs ls A hX hA hP hD hS hl
  have hlocks := hX.2.2.2.2.2.2.1
  exact W.vret hX.1 hX.2.1 hX.2.2.1 (fun t ht hW => ⟨⟨ws, rfl, hq, by rw [ht]; exact hP, va_K.moved hW.alike hX.2.2.2.2.2.2.2.2.1, hD⟩, hS.F ht⟩) hS.2.2 d
/-- what a constructor's call needs -/
def k_mi (own : String) (idx n : Nat) (M' : jM) : Prop := Cond.instanceMethod M'.1 ∈ jW ∧ Cond.initialized M'.1.cls ∈ jW ∧ Cond.code M'.1 M'.2.1 M'.2.2.1 none ∈ jW ∧ M'.2.2.2.1 = none ∧ M'.1.name = "<init>" ∧ M'.1.cls ≠ "java/lang/invoke/MethodHandle" ∧ M'.1.cls ≠ "java/lang/invoke/VarHandle" ∧ (parseMethodDescriptor M'.1.desc).map (fun d => d.parameters.length) = some n
theorem k_pre {av : List Value} {s : State} {H : Heap} {A : Nat → Prop} {wc : va_W} (hK : va_K G.2.1 vwCl (k_ty G) s) (hN : k_N s) (hP : va_P G.2.1 vwCl wc H) (hD : va_D A wc) : PreS s H (va_Pc av (fun U => U.heap.size = H.size ∧ va_P G.2.1 vwCl wc U.heap ∧ va_K G.2.1 vwCl (k_ty G) U ∧ k_N U ∧ va_D (fun _ => True) wc)) av :=
  ⟨fun a U g mk q => by
    obtain ⟨q0, q1, qP, qK, qN, qD⟩ := q
    exact ⟨q0, q1, qP, va_K.moved (u := U) (U := U.calling g mk a) (Vm.Alike.refl U.vm) qK, ⟨fun z hz => va_Nw.same rfl rfl (qN.1 z hz), va_Nw.same rfl rfl qN.2⟩, qD⟩, fun U hU hW => ⟨rfl, by rw [hU], by rw [hU]; exact hP, va_K.moved hW.alike hK, hN.moved hW, hD.weaken (fun _ _ _ _ => trivial)⟩⟩
theorem k_free {s : State} {A : Nat → Prop} {wl wc wr : va_W} {H : Heap} {locs : List Loc} (hA : ∀ q, s.heap.size ≤ q → A q) (hD : va_D A (wl ++ (wc ++ wr))) (hS : va_S A s.heap H locs) : ∀ q, va_A wc H.size q → A q := by
  intro q hq
  rcases k_A.mp hq with ⟨x, hx, rfl⟩ | h
  · exact (k_D.mp hD).2 x (List.mem_append_right _ (List.mem_append_left _ hx))
  · exact hA q (Nat.le_trans hS.1 h)
theorem k_Dc {A : Nat → Prop} {wl wc wr : va_W} (hD : va_D A (wl ++ (wc ++ wr))) : va_D A wc := by
  rw [k_D] at hD ⊢
  obtain ⟨d1, d2⟩ := hD
  rw [List.pairwise_append, List.pairwise_append] at d1
  exact ⟨d1.2.1.1, fun x hx => d2 x (List.mem_append_right _ (List.mem_append_left _ hx))⟩
theorem k_Pc {D : va_G} {cl : List vw_C} {wl wc wr : va_W} {H : Heap} (hP : va_P D cl (wl ++ (wc ++ wr)) H) : va_P D cl wc H := k_P.mpr (fun x hx => k_P.mp hP x (List.mem_append_right _ (List.mem_append_left _ hx)))
/-- a constructor of another object: its cell is the world's last -/
theorem k_ctor {idx q : Nat} {o : va_E} {av st0 : List Value} {M' : jM} {Q1 : va_W → Prop} {mc1 ms1 : Nat} (d : decode M.2.1 pc = .ok (.invokespecial idx, 3)) (hl0 : Cond.methodLink M.1.cls idx M'.1 ∈ jW) (hm : k_mi M.1.cls idx av.length M') (hrm : M'.2.2.2.2.cells = mc1 ∧ M'.2.2.2.2.slots = ms1 ∧ M'.2.2.2.2.frames + 1 ≤ M.2.2.2.2.frames ∧ 8 + (M'.2.2.1 + 11) + M'.2.2.2.2.locals ≤ M.2.2.2.2.locals) (hr2 : a + mc1 ≤ M.2.2.2.2.cells ∧ b + ms1 ≤ M.2.2.2.2.slots) (hst : av.reverse ++ .ref q :: st = st0) (hlen : (st.map fun v => v.category).sum ≤ 8) (hK : KC G M' (.ref q :: av) [(q, o)] Q1 mc1 ms1) (k : ∀ w1, Q1 w1 → WK G M Qp mc ms (pc + 3) lv st (ws ++ w1) (a + mc1) (b + ms1)) : WK G M Qp mc ms pc lv st0 (ws ++ [(q, o)]) a b := by
  subst hst
  intro p e s m args below meth c H locs ls A hX hA hP hD hS hl
  obtain ⟨x1, x2, x3, x4, x5, x6, x7, x8, x9, x10⟩ := id hX
  obtain ⟨m2, m4, m5, m6, m7, m8, m9, m10⟩ := hm
  have hP : va_P G.2.1 vwCl (ws ++ ([(q, o)] ++ [])) H := hP
  have hD : va_D A (ws ++ ([(q, o)] ++ [])) := hD
  have hF := k_free (wl := ws) (wc := [(q, o)]) (wr := []) hA hD hS
  have m5' : Cond.code M'.1 M'.2.1 M'.2.2.1 M'.2.2.2.1 ∈ jW := by rw [m6]; exact m5
  have ew : j_ws M' = Cond.code M'.1 M'.2.1 M'.2.2.1 none :: jW := by
    show Cond.code M'.1 M'.2.1 M'.2.2.1 M'.2.2.2.1 :: jW = _
    rw [m6]
  have hrun := va_runI (e := e) (below := below) (meth := meth) (As := av) (rest := st) (b := q) (g := F0 m pc ls (av.reverse ++ .ref q :: st)) (locs := locs) (cells := a) (slots := b) ⟨x1, x2, x4, x5, x6⟩ (hK H.size) (cwI av.length x6 (j_good M' m5') ew hrm.1 hrm.2.1 (x6 _ m4) (x6 _ hl0) (x6 _ m2) m7 ⟨m8, m9, m10⟩ ⟨hrm.2.2.1, hrm.2.2.2⟩) (k_pre x9 x10 (k_Pc hP) (k_Dc hD)) rfl rfl hl.1 rfl (lv_room hlen) d hr2
  refine va_callv hrun hS (fun q _ h => hF q h) hF (fun u t H1 locs1 ht hvm hw hB hz1 hk1 hS1 => ?_)
  obtain ⟨hP1, hK1, hD1⟩ := hB
  rw [ht] at hP1
  obtain ⟨hP2, hD2⟩ := k_join hP hD hk1 hF hP1 hD1
  rw [List.append_nil] at hP2 hD2
  exact k u hw p e s m args below meth c H1 locs1 ls A hX hA hP2 hD2 hS1 hl
theorem k_ctorN {idx q : Nat} {o : va_E} {av st0 : List Value} {M' : jM} {Q1 : va_W → Prop} {mc1 ms1 : Nat} (d : decode M.2.1 pc = .ok (.invokespecial idx, 3)) (hl0 : ∀ s, k_N s → va_Nw (.methodLinkNest M.1.cls idx M'.1 "BoardCords") s) (hm : k_mi M.1.cls idx av.length M') (hrm : M'.2.2.2.2.cells = mc1 ∧ M'.2.2.2.2.slots = ms1 ∧ M'.2.2.2.2.frames + 1 ≤ M.2.2.2.2.frames ∧ 8 + (M'.2.2.1 + 11) + M'.2.2.2.2.locals ≤ M.2.2.2.2.locals) (hr2 : a + mc1 ≤ M.2.2.2.2.cells ∧ b + ms1 ≤ M.2.2.2.2.slots) (hst : av.reverse ++ .ref q :: st = st0) (hlen : (st.map fun v => v.category).sum ≤ 8) (hK : KC G M' (.ref q :: av) [(q, o)] Q1 mc1 ms1) (k : ∀ w1, Q1 w1 → WK G M Qp mc ms (pc + 3) lv st (ws ++ w1) (a + mc1) (b + ms1)) : WK G M Qp mc ms pc lv st0 (ws ++ [(q, o)]) a b := by
  subst hst
  intro p e s m args below meth c H locs ls A hX hA hP hD hS hl
  obtain ⟨x1, x2, x3, x4, x5, x6, x7, x8, x9, x10⟩ := id hX
  obtain ⟨m2, m4, m5, m6, m7, m8, m9, m10⟩ := hm
  have hP : va_P G.2.1 vwCl (ws ++ ([(q, o)] ++ [])) H := hP
  have hD : va_D A (ws ++ ([(q, o)] ++ [])) := hD
  have hF := k_free (wl := ws) (wc := [(q, o)]) (wr := []) hA hD hS
  have m5' : Cond.code M'.1 M'.2.1 M'.2.2.1 M'.2.2.2.1 ∈ jW := by rw [m6]; exact m5
  have ew : j_ws M' = Cond.code M'.1 M'.2.1 M'.2.2.1 none :: jW := by
    show Cond.code M'.1 M'.2.1 M'.2.2.1 M'.2.2.2.1 :: jW = _
    rw [m6]
  have hrun := va_runIN (e := e) (below := below) (meth := meth) (As := av) (rest := st) (b := q) (g := F0 m pc ls (av.reverse ++ .ref q :: st)) (locs := locs) (cells := a) (slots := b) ⟨x1, x2, x4, x5, x6⟩ (hK H.size) ⟨va_cnB av.length x6 (j_good M' m5') ew hrm.1 hrm.2.1 (hl0 s x10) (x6 _ m4) ⟨m8, m9, m10⟩ ⟨hrm.2.2.1, hrm.2.2.2⟩, m7, x6 _ m2⟩ (k_pre x9 x10 (k_Pc hP) (k_Dc hD)) rfl rfl hl.1 rfl (lv_room hlen) d hr2
  refine va_callv hrun hS (fun q _ h => hF q h) hF (fun u t H1 locs1 ht hvm hw hB hz1 hk1 hS1 => ?_)
  obtain ⟨hP1, hK1, hD1⟩ := hB
  rw [ht] at hP1
  obtain ⟨hP2, hD2⟩ := k_join hP hD hk1 hF hP1 hD1
  rw [List.append_nil] at hP2 hD2
  exact k u hw p e s m args below meth c H1 locs1 ls A hX hA hP2 hD2 hS1 hl
end KR
