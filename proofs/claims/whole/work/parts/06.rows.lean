/-! THE ROWS: an instruction a row, over the mini machine -/
theorem j_oc {a : jV} {st : List jV} (ha : j_ok a) (hs : ∀ b ∈ st, j_ok b) : ∀ b ∈ a :: st, j_ok b := fun b hb => by
  rcases List.mem_cons.mp hb with rfl | h
  · exact ha
  · exact hs b h
theorem j_ot {a : jV} {st : List jV} (hs : ∀ b ∈ a :: st, j_ok b) : ∀ b ∈ st, j_ok b := fun b hb => hs b (List.mem_cons_of_mem _ hb)
theorem j_oh {a : jV} {st : List jV} (hs : ∀ b ∈ a :: st, j_ok b) : j_ok a := hs a List.mem_cons_self
theorem j_oI {x : Int} {st : List jV} (ha : j_rg x) (hs : ∀ b ∈ st, j_ok b) : ∀ b ∈ jI x :: st, j_ok b := j_oc (a := jI x) ha hs
theorem j_oR {x : Nat} {st : List jV} (hs : ∀ b ∈ st, j_ok b) : ∀ b ∈ jR x :: st, j_ok b := j_oc (a := jR x) trivial hs
theorem j_oL {x : Int64} {st : List jV} (hs : ∀ b ∈ st, j_ok b) : ∀ b ∈ jL x :: st, j_ok b := j_oc (a := jL x) trivial hs
theorem j_hI {x : Int} {st : List jV} (hs : ∀ b ∈ jI x :: st, j_ok b) : j_rg x := j_oh (a := jI x) hs
section RW1
variable {S : jS} {G : jG} {M : jM} {Q : jQ} {pc : Nat} {lv st : List jV} {h : jH}
/-- what WV knows of ranges may be taken out -/
theorem WV.rng (k : j_Rg h → (∀ a ∈ lv, j_ok a) → (∀ a ∈ st, j_ok a) → WV S G M Q pc lv st h) : WV S G M Q pc lv st h := fun a b c => k a b c a b c
theorem WV.post {Q2 : jQ} (hq : ∀ r h', Q r h' → Q2 r h') (k : WV S G M Q pc lv st h) : WV S G M Q2 pc lv st h := by
  intro hR hl hs p e s m args below meth c H locs ls A hX hA hP hD hS hv T hT X
  obtain ⟨t, a1, o, b1, b2, ⟨⟨r, h', q1, q2⟩, q3⟩, b4⟩ := k hR hl hs p e s m args below meth c H locs ls A hX hA hP hD hS hv T hT X
  exact ⟨t, a1, o, b1, b2, ⟨⟨r, h', hq r h' q1, q2⟩, q3⟩, b4⟩
/-- a row that changes the stack alone -/
theorem j_st {pc' : Nat} {st' : List jV} (hok : j_Rg h → (∀ a ∈ lv, j_ok a) → (∀ a ∈ st, j_ok a) → ∀ a ∈ st', j_ok a)
    (hw : ∀ {p : Program} {e : Env} {s : State} {m : MethodId} {args : Array Value} {below : List Frame} {meth : Method} {c : Code} {H : Heap} {locs : List Loc} {ls : Array Slot} {Z : State → Prop}, j_X S G M p s m args meth c → j_lv G ls M.2.2.1 lv → va_P G.2.1 S.1 (j_w G S.2.2 h) H → (∀ a ∈ st, j_ok a) → W p G.1 e M.2.2.2.2 s m args below meth c H locs 0 0 Z (F0 m pc' ls (st'.map (j_v G.2.2.2))) → W p G.1 e M.2.2.2.2 s m args below meth c H locs 0 0 Z (F0 m pc ls (st.map (j_v G.2.2.2))))
    (k : WV S G M Q pc' lv st' h) : WV S G M Q pc lv st h := by
  intro hR hl hs p e s m args below meth c H locs ls A hX hA hP hD hS hv
  exact hw hX hv hP hs (k hR hl (hok hR hl hs) p e s m args below meth c H locs ls A hX hA hP hD hS hv)
theorem s_iconst {n : Int} (d : decode M.2.1 pc = .ok (.iconst n, 1)) (hr : j_rg n) (k : WV S G M Q (pc + 1) lv (jI n :: st) h) : WV S G M Q pc lv st h :=
  j_st (fun _ _ hs => j_oI hr hs) (fun hX _ _ _ w => lv_iconst hX.1 hX.2.1 d rfl w) k
theorem s_bipush {n : Int} (d : decode M.2.1 pc = .ok (.bipush n, 2)) (hv : (Int8.ofInt n).toInt32 = Int32.ofInt n) (hr : j_rg n) (k : WV S G M Q (pc + 2) lv (jI n :: st) h) : WV S G M Q pc lv st h :=
  j_st (fun _ _ hs => j_oI hr hs) (fun hX _ _ _ w => lv_bipush hX.1 hX.2.1 d hv w) k
theorem s_sipush {n : Int} (d : decode M.2.1 pc = .ok (.sipush n, 3)) (hv : (Int16.ofInt n).toInt32 = Int32.ofInt n) (hr : j_rg n) (k : WV S G M Q (pc + 3) lv (jI n :: st) h) : WV S G M Q pc lv st h :=
  j_st (fun _ _ hs => j_oI hr hs) (fun hX _ _ _ w => lv_sipush hX.1 hX.2.1 d hv w) k
theorem s_ldc {idx : Nat} {n : Int} (d : decode M.2.1 pc = .ok (.ldc idx, 2)) (hw : Cond.constant M.1.cls idx (Int32.ofInt n) ∈ jW) (hr : j_rg n) (k : WV S G M Q (pc + 2) lv (jI n :: st) h) : WV S G M Q pc lv st h :=
  j_st (fun _ _ hs => j_oI hr hs) (fun hX _ _ _ w => lv_ldc hX.1 hX.2.1 hX.2.2.2.2.1 (hX.2.2.2.2.2.1 _ hw) d w) k
theorem s_ldcw {idx : Nat} {n : Int} (d : decode M.2.1 pc = .ok (.ldc_w idx, 3)) (hw : Cond.constant M.1.cls idx (Int32.ofInt n) ∈ jW) (hr : j_rg n) (k : WV S G M Q (pc + 3) lv (jI n :: st) h) : WV S G M Q pc lv st h :=
  j_st (fun _ _ hs => j_oI hr hs) (fun hX _ _ _ w => lv_ldcw hX.1 hX.2.1 hX.2.2.2.2.1 (hX.2.2.2.2.2.1 _ hw) d w) k
theorem s_ldc2 {idx : Nat} {n : Int64} (d : decode M.2.1 pc = .ok (.ldc2_w idx, 3)) (hw : Cond.constantLong M.1.cls idx n ∈ jW) (k : WV S G M Q (pc + 3) lv (jL n :: st) h) : WV S G M Q pc lv st h :=
  j_st (fun _ _ hs => j_oL hs) (fun hX _ _ _ w => lv_ldc2 hX.1 hX.2.1 hX.2.2.2.2.1 (hX.2.2.2.2.2.1 _ hw) d w) k
theorem s_lconst {n : Fin 2} {v : Int64} (d : decode M.2.1 pc = .ok (.lconst n, 1)) (hv : Int64.ofNat (n : Nat) = v) (k : WV S G M Q (pc + 1) lv (jL v :: st) h) : WV S G M Q pc lv st h :=
  j_st (fun _ _ hs => j_oL hs) (fun hX _ _ _ w => lv_lconst hX.1 hX.2.1 d hv w) k
theorem s_iload_n {i : Fin 4} {x : Int} (d : decode M.2.1 pc = .ok (.iload_n i, 1)) (hl : lv[(i : Nat)]? = some (jI x)) (k : WV S G M Q (pc + 1) lv (jI x :: st) h) : WV S G M Q pc lv st h :=
  j_st (fun _ hv hs => j_oI (hv _ (List.mem_of_getElem? hl)) hs) (fun hX hv _ _ w => lv_iload_n hX.1 hX.2.1 d rfl (j_lv_at hv hl rfl) w) k
theorem s_iload {i : Nat} {x : Int} (d : decode M.2.1 pc = .ok (.iload i, 2)) (hl : lv[i]? = some (jI x)) (k : WV S G M Q (pc + 2) lv (jI x :: st) h) : WV S G M Q pc lv st h :=
  j_st (fun _ hv hs => j_oI (hv _ (List.mem_of_getElem? hl)) hs) (fun hX hv _ _ w => lv_iload hX.1 hX.2.1 d (j_lv_at hv hl rfl) w) k
theorem s_aload_n {i : Fin 4} {x : Nat} (d : decode M.2.1 pc = .ok (.aload_n i, 1)) (hl : lv[(i : Nat)]? = some (jR x)) (k : WV S G M Q (pc + 1) lv (jR x :: st) h) : WV S G M Q pc lv st h :=
  j_st (fun _ _ hs => j_oR hs) (fun hX hv _ _ w => lv_aload_n hX.1 hX.2.1 d rfl (j_lv_at hv hl rfl) w) k
/-- a row that changes the locals alone -/
theorem s_istore_n {i : Fin 4} {x : Int} {lv' : List jV} (d : decode M.2.1 pc = .ok (.istore_n i, 1)) (hn : (i : Nat) < M.2.2.1) (hl : lv.set (i : Nat) (jI x) = lv') (k : WV S G M Q (pc + 1) lv' st h) : WV S G M Q pc lv (jI x :: st) h := by
  subst hl
  intro hR hl hs p e s m args below meth c H locs ls A hX hA hP hD hS hv
  refine lv_istore_n hX.1 hX.2.1 d rfl (j_lv_has hv) hn rfl (fun ls' hl' => ?_)
  exact k hR (j_ok_set hl (j_oh hs)) (j_ot hs) p e s m args below meth c H locs ls' A hX hA hP hD hS (j_lv_set hl')
theorem s_istore {i : Nat} {x : Int} {lv' : List jV} (d : decode M.2.1 pc = .ok (.istore i, 2)) (hn : i < M.2.2.1) (hl : lv.set i (jI x) = lv') (k : WV S G M Q (pc + 2) lv' st h) : WV S G M Q pc lv (jI x :: st) h := by
  subst hl
  intro hR hl hs p e s m args below meth c H locs ls A hX hA hP hD hS hv
  refine lv_istore hX.1 hX.2.1 d (j_lv_has hv) hn rfl (fun ls' hl' => ?_)
  exact k hR (j_ok_set hl (j_oh hs)) (j_ot hs) p e s m args below meth c H locs ls' A hX hA hP hD hS (j_lv_set hl')
theorem s_iinc {i : Nat} {n x : Int} {lv' : List jV} (d : decode M.2.1 pc = .ok (.iinc i n, 3)) (hx : lv[i]? = some (jI x)) (hn : i < M.2.2.1) (hr : j_rg (x + n)) (hl : lv.set i (jI (x + n)) = lv') (k : WV S G M Q (pc + 3) lv' st h) : WV S G M Q pc lv st h := by
  subst hl
  intro hR hl hs p e s m args below meth c H locs ls A hX hA hP hD hS hv
  have hh := j_lv_has hv
  have hm : (i, j_v G.2.2.2 (jI x)) ∈ j_ll G lv := List.mem_map.mpr ⟨(jI x, i), List.mem_filter.mpr ⟨List.mem_zipIdx_iff_getElem?.mpr hx, rfl⟩, rfl⟩
  obtain ⟨q, hq⟩ := List.getElem?_of_mem hm
  refine lv_iinc (v := Int32.ofInt (x + n)) hX.1 hX.2.1 d hh (k := q) (x := Int32.ofInt x) hq (by rw [Int32.ofInt_add]) hn rfl (fun ls' hl' => ?_)
  exact k hR (j_ok_set hl hr) hs p e s m args below meth c H locs ls' A hX hA hP hD hS (j_lv_set (a := jI (x + n)) hl')
/-! stack -/
theorem s_dup {a : jV} (d : decode M.2.1 pc = .ok (.dup, 1)) (hu : j_un a = false) (k : WV S G M Q (pc + 1) lv (a :: a :: st) h) : WV S G M Q pc lv (a :: st) h :=
  j_st (fun _ _ hs => j_oc (j_oh hs) hs) (fun hX _ _ _ w => lv_dup hX.1 hX.2.1 d (j_v_cat hu) w) k
theorem s_dup2 {a b : jV} (d : decode M.2.1 pc = .ok (.dup2, 1)) (hu : j_un a = false) (hu2 : j_un b = false) (k : WV S G M Q (pc + 1) lv (a :: b :: a :: b :: st) h) : WV S G M Q pc lv (a :: b :: st) h :=
  j_st (fun _ _ hs => j_oc (j_oh hs) (j_oc (j_oh (j_ot hs)) hs)) (fun hX _ _ _ w => lv_dup2_11 hX.1 hX.2.1 d (j_v_cat hu) (j_v_cat hu2) w) k
/-! sums -/
theorem s_iadd {x y : Int} (d : decode M.2.1 pc = .ok (.iadd, 1)) (hr : j_rg (x + y)) (k : WV S G M Q (pc + 1) lv (jI (x + y) :: st) h) : WV S G M Q pc lv (jI y :: jI x :: st) h :=
  j_st (fun _ _ hs => j_oI hr (j_ot (j_ot hs))) (fun hX _ _ _ w => lv_iadd hX.1 hX.2.1 d (by rw [← Int32.ofInt_add]; exact w)) k
theorem s_isub {x y : Int} (d : decode M.2.1 pc = .ok (.isub, 1)) (hr : j_rg (x - y)) (k : WV S G M Q (pc + 1) lv (jI (x - y) :: st) h) : WV S G M Q pc lv (jI y :: jI x :: st) h :=
  j_st (fun _ _ hs => j_oI hr (j_ot (j_ot hs))) (fun hX _ _ _ w => lv_isub hX.1 hX.2.1 d (by rw [← Int32.ofInt_sub]; exact w)) k
theorem s_imul {x y : Int} (d : decode M.2.1 pc = .ok (.imul, 1)) (hr : j_rg (x * y)) (k : WV S G M Q (pc + 1) lv (jI (x * y) :: st) h) : WV S G M Q pc lv (jI y :: jI x :: st) h :=
  j_st (fun _ _ hs => j_oI hr (j_ot (j_ot hs))) (fun hX _ _ _ w => lv_imul hX.1 hX.2.1 d (by rw [← Int32.ofInt_mul]; exact w)) k
theorem s_ineg {x : Int} (d : decode M.2.1 pc = .ok (.ineg, 1)) (hr : j_rg (-x)) (k : WV S G M Q (pc + 1) lv (jI (-x) :: st) h) : WV S G M Q pc lv (jI x :: st) h :=
  j_st (fun _ _ hs => j_oI hr (j_ot hs)) (fun hX _ _ _ w => lv_ineg hX.1 hX.2.1 d (by rw [← Int32.ofInt_neg]; exact w)) k
theorem s_ladd {x y : Int64} (d : decode M.2.1 pc = .ok (.ladd, 1)) (k : WV S G M Q (pc + 1) lv (jL (x + y) :: st) h) : WV S G M Q pc lv (jL y :: jL x :: st) h :=
  j_st (fun _ _ hs => j_oL (j_ot (j_ot hs))) (fun hX _ _ _ w => lv_ladd hX.1 hX.2.1 d w) k
/-! bits: the machine's own words, as integers -/
def b_and (x y : Int) : Int := (Int32.ofInt x &&& Int32.ofInt y).toInt
def b_or (x y : Int) : Int := (Int32.ofInt x ||| Int32.ofInt y).toInt
def b_xor (x y : Int) : Int := (Int32.ofInt x ^^^ Int32.ofInt y).toInt
def b_shl (x y : Int) : Int := (Int32.ofInt x <<< (Int32.ofInt y &&& 31)).toInt
def b_shr (x y : Int) : Int := (Int32.ofInt x >>> (Int32.ofInt y &&& 31)).toInt
def b_ushr (x y : Int) : Int := ((Int32.ofInt x).toUInt32 >>> ((Int32.ofInt y).toUInt32 &&& Int32.toUInt32 31)).toInt32.toInt
theorem j_rg32 (x : Int32) : j_rg x.toInt := ⟨by have := Int32.le_toInt x; omega, by have := Int32.toInt_lt x; omega⟩
theorem s_iand {x y : Int} (d : decode M.2.1 pc = .ok (.iand, 1)) (k : WV S G M Q (pc + 1) lv (jI (b_and x y) :: st) h) : WV S G M Q pc lv (jI y :: jI x :: st) h :=
  j_st (fun _ _ hs => j_oI (j_rg32 _) (j_ot (j_ot hs))) (fun hX _ _ _ w => lv_iand hX.1 hX.2.1 d (by have w := w; simp only [List.map_cons, j_v, b_and, Int32.ofInt_toInt] at w; exact w)) k
theorem s_ior {x y : Int} (d : decode M.2.1 pc = .ok (.ior, 1)) (k : WV S G M Q (pc + 1) lv (jI (b_or x y) :: st) h) : WV S G M Q pc lv (jI y :: jI x :: st) h :=
  j_st (fun _ _ hs => j_oI (j_rg32 _) (j_ot (j_ot hs))) (fun hX _ _ _ w => lv_ior hX.1 hX.2.1 d (by have w := w; simp only [List.map_cons, j_v, b_or, Int32.ofInt_toInt] at w; exact w)) k
theorem s_ixor {x y : Int} (d : decode M.2.1 pc = .ok (.ixor, 1)) (k : WV S G M Q (pc + 1) lv (jI (b_xor x y) :: st) h) : WV S G M Q pc lv (jI y :: jI x :: st) h :=
  j_st (fun _ _ hs => j_oI (j_rg32 _) (j_ot (j_ot hs))) (fun hX _ _ _ w => lv_ixor hX.1 hX.2.1 d (by have w := w; simp only [List.map_cons, j_v, b_xor, Int32.ofInt_toInt] at w; exact w)) k
theorem s_ishl {x y : Int} (d : decode M.2.1 pc = .ok (.ishl, 1)) (k : WV S G M Q (pc + 1) lv (jI (b_shl x y) :: st) h) : WV S G M Q pc lv (jI y :: jI x :: st) h :=
  j_st (fun _ _ hs => j_oI (j_rg32 _) (j_ot (j_ot hs))) (fun hX _ _ _ w => lv_ishl hX.1 hX.2.1 d (by have w := w; simp only [List.map_cons, j_v, b_shl, Int32.ofInt_toInt] at w; exact w)) k
theorem s_ishr {x y : Int} (d : decode M.2.1 pc = .ok (.ishr, 1)) (k : WV S G M Q (pc + 1) lv (jI (b_shr x y) :: st) h) : WV S G M Q pc lv (jI y :: jI x :: st) h :=
  j_st (fun _ _ hs => j_oI (j_rg32 _) (j_ot (j_ot hs))) (fun hX _ _ _ w => lv_ishr hX.1 hX.2.1 d (by have w := w; simp only [List.map_cons, j_v, b_shr, Int32.ofInt_toInt] at w; exact w)) k
theorem s_iushr {x y : Int} (d : decode M.2.1 pc = .ok (.iushr, 1)) (k : WV S G M Q (pc + 1) lv (jI (b_ushr x y) :: st) h) : WV S G M Q pc lv (jI y :: jI x :: st) h :=
  j_st (fun _ _ hs => j_oI (j_rg32 _) (j_ot (j_ot hs))) (fun hX _ _ _ w => lv_iushr hX.1 hX.2.1 d rfl (by have w := w; simp only [List.map_cons, j_v, b_ushr, Int32.ofInt_toInt] at w; exact w)) k
/-! a division's divisor is above 0 -/
theorem j_dv {x y : Int} (hx : j_rg x) (hy : j_rg y) (h0 : 0 < y) : Int32.ofInt x / Int32.ofInt y = Int32.ofInt (x.tdiv y) ∧ j_rg (x.tdiv y) ∧ ¬ Int32.ofInt y = 0 := by
  have hne : Int32.ofInt y ≠ -1 := by
    intro e
    have e := congrArg Int32.toInt e
    rw [j_ti hy, show (-1 : Int32).toInt = -1 by decide] at e
    omega
  have e : (Int32.ofInt x / Int32.ofInt y).toInt = x.tdiv y := by
    rw [Int32.toInt_div_of_ne_right _ _ hne, j_ti hx, j_ti hy]
  refine ⟨?_, ?_, ?_⟩
  · rw [← e, Int32.ofInt_toInt]
  · rw [← e]; exact j_rg32 _
  · intro e
    rw [j_of0, j_eq hy (j_cst rfl)] at e
    omega
theorem s_idiv {x y : Int} (d : decode M.2.1 pc = .ok (.idiv, 1)) (h0 : 0 < y) (k : WV S G M Q (pc + 1) lv (jI (x.tdiv y) :: st) h) : WV S G M Q pc lv (jI y :: jI x :: st) h :=
  j_st (fun _ _ hs => j_oI (j_dv (j_hI (j_ot hs)) (j_hI hs) h0).2.1 (j_ot (j_ot hs))) (fun hX _ _ hs w => lv_idiv hX.1 hX.2.1 d (j_dv (j_hI (j_ot hs)) (j_hI hs) h0).2.2 (by rw [(j_dv (j_hI (j_ot hs)) (j_hI hs) h0).1]; exact w)) k
theorem j_rm {x y : Int} (hx : j_rg x) (hy : j_rg y) (h0 : 0 < y) : Int32.ofInt x - Int32.ofInt x / Int32.ofInt y * Int32.ofInt y = Int32.ofInt (x.tmod y) ∧ j_rg (x.tmod y) := by
  obtain ⟨e1, e2, e3⟩ := j_dv hx hy h0
  have e : x.tmod y = x - x.tdiv y * y := by rw [Int.tmod_def, Int.mul_comm]
  refine ⟨?_, ?_⟩
  · rw [e1, ← Int32.ofInt_mul, ← Int32.ofInt_sub, e]
  · have a1 := Int.tmod_lt_of_pos x h0
    have a2 : -y < x.tmod y := by
      have := Int.lt_tmod_of_pos x h0
      omega
    have := hy.2
    exact ⟨by omega, by omega⟩
theorem s_irem {x y : Int} (d : decode M.2.1 pc = .ok (.irem, 1)) (h0 : 0 < y) (k : WV S G M Q (pc + 1) lv (jI (x.tmod y) :: st) h) : WV S G M Q pc lv (jI y :: jI x :: st) h :=
  j_st (fun _ _ hs => j_oI (j_rm (j_hI (j_ot hs)) (j_hI hs) h0).2 (j_ot (j_ot hs))) (fun hX _ _ hs w => lv_irem hX.1 hX.2.1 d (j_dv (j_hI (j_ot hs)) (j_hI hs) h0).2.2 (by rw [(j_rm (j_hI (j_ot hs)) (j_hI hs) h0).1]; exact w)) k
theorem s_goto {off : Int} {tgt : Nat} (d : decode M.2.1 pc = .ok (.goto off, 3)) (ht : (pc : Int) + off = (tgt : Int)) (k : WV S G M Q tgt lv st h) : WV S G M Q pc lv st h :=
  j_st (fun _ _ hs => hs) (fun hX _ _ _ w => lv_goto hX.1 hX.2.1 d ht w) k
end RW1
