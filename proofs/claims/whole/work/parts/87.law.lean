/-! THE CLAIM OUT OF ONE WALK OF THE LAW'S BODY. Your part is whole_start (and what it stands on); all else here is the same for every law, but numbers. -/
def R_law : String := "BoardCordsLaw"
def lw_P (b : Addr) (xs : List Int32) (args : Array Value) (s : State) : Prop := args = #[.ref b] ∧ s.IntsAt b xs ∧ xs.length ≤ 2560 ∧ (Jvm.Cond.and given_1 narrow_1).before args s = true
def lw_Q (_ : Array Value) (s : State) (o : Outcome) (t : State) : Prop := o = .returned (some (.int 1)) ∧ Framed s o t [] 55 1517
def lw_Z (below : List Frame) (a : Array Value) (s : State) : State → Prop := fun t => ∃ o, t.status = .running ∧ Ended t below o ∧ lw_Q a s o t
/-- the law's own end, with 1 on the stack, nothing written that was there before, its room as the claim has it -/
theorem lw_ret {p : Program} {l : Launch} {e : Env} {s : State} {m : MethodId} {below : List Frame} {meth : Method} {c : Code} {b : Nat} (hx : p.tables.exec = Jvm.exec) (hb : c.code = code) (hr : meth.sig.returnType = ret) (hlocks : meth.locks = false) {pc : Nat} {H : Heap} {ls : Array Slot} (hdg : decode code pc = .ok (.ireturn, 1)) : W p l e room_1 s m #[Value.ref b] below meth c H [] 55 1517 (lw_Z below #[Value.ref b] s) (F0 m pc ls [.int 1]) := by
  intro T hT X
  obtain ⟨fs, hret, hrun, hended, hW, hframe⟩ := X.leave (v := some (.int 1)) (hlocks := hlocks) (fun h => by rw [hr] at h; cases h)
  have hmeth' : T.vm.method? m = some meth := X.method'
  refine ⟨T.setFrames fs, ?_, .returned (some (.int 1)), hrun, hended, rfl, ⟨_, rfl⟩, hW, hframe⟩
  jvm_step X.here [X.here.top, hx, hb, hdg, hmeth', hr, ret, narrow_b1]
  (try refine ⟨rfl, ?_⟩); (try refine ⟨rfl, ?_⟩)
  first | (intro acts; rw [hret _ acts rfl rfl rfl]) | rw [hret _ _ rfl rfl rfl]
  exact Steps.refl _
/-- what holds at the law's entry: the machine, the code, the tables' words (any of lw_tbl by 'hts w (by decide +kernel)'), the script of L ints xs at the cell b, what the Statement gives of the start (any of its parts by flat_of_before) -/
def lw_At (p : Program) (s : State) (m : MethodId) (meth : Method) (c : Code) (b L : Nat) (xs : Nat → Int32) : Prop :=
  p.tables.exec = Jvm.exec ∧ c.code = code ∧ meth.sig.returnType = ret ∧ c.maxLocals = 4 ∧ s.vm.findClass R_law = some m.cls ∧ (∀ w ∈ lw_tbl, w.before #[Value.ref b] s = true) ∧ va_X b L xs s s.heap ∧ b < s.heap.size ∧ meth.locks = false ∧ (Jvm.Cond.and given_1 narrow_1).before #[Value.ref b] s = true
/-! the law: rows -/
def LE (p : Program) (s : State) (m : MethodId) (meth : Method) (c : Code) (G : kG) (b L : Nat) (xs : Nat → Int32) : Prop := lw_At p s m meth c b L xs ∧ va_K G.2.1 vwCl (k_ty G) s ∧ k_N s ∧ L ≤ 2560
def LI (p : Program) (e : Env) (s : State) (m : MethodId) (below : List Frame) (meth : Method) (c : Code) (G : kG) (b : Nat) (adx adm : Nat → Nat) (pc i : Nat) (st : List Value) (u v : jH) : Prop :=
  ∀ (H : Heap) (locs : List Loc) (ls : Array Slot), va_P G.2.1 vwCl (j_w (k_g G adx) Sx.2.2 u ++ j_w (k_g G adm) Sm.2.2 v) H → va_D (fun q => s.heap.size ≤ q) (j_w (k_g G adx) Sx.2.2 u ++ j_w (k_g G adm) Sm.2.2 v) → va_S (fun q => s.heap.size ≤ q) s.heap H locs → lv_has ls 4 [(0, .ref b), (1, .ref (adx 0)), (2, .ref (adm 0)), (3, .int (Int32.ofInt (i : Int)))] →
    W p G.1 e room_1 s m #[Value.ref b] below meth c H locs 55 1517 (lw_Z below #[Value.ref b] s) (F0 m pc ls st)
theorem l_rg (x : Int32) : j_rg x.toInt := by
  have h1 := Int32.toInt_lt x
  have h2 := Int32.le_toInt x
  have e : (2 : Int) ^ 31 = 2147483648 := by decide
  rw [e] at h1 h2
  exact ⟨by omega, by omega⟩
theorem l_ok (x : Int32) : j_ok (jI x.toInt) := l_rg x
theorem l_hts {args : Array Value} {s : State} (h : ∀ w ∈ lw_tbl, w.before args s = true) : ∀ w ∈ jW, w.before args s = true := fun w hw => h w (List.mem_filter.mp hw).1
theorem l_and (x : Int32) : ∃ t : Nat, t < 32 ∧ x &&& Int32.ofInt 31 = Int32.ofInt (t : Int) := by
  have h1 : (x &&& Int32.ofInt 31).toBitVec.toNat ≤ 31 := by
    rw [Int32.toBitVec_and, BitVec.toNat_and]
    exact Nat.le_trans Nat.and_le_right (by decide)
  have h2 : (x &&& Int32.ofInt 31).toInt = (((x &&& Int32.ofInt 31).toBitVec.toNat : Nat) : Int) := by
    show (x &&& Int32.ofInt 31).toBitVec.toInt = _
    exact BitVec.toInt_eq_toNat_of_lt (by omega)
  exact ⟨(x &&& Int32.ofInt 31).toBitVec.toNat, by omega, by rw [← h2, Int32.ofInt_toInt]⟩
section LR
variable {p : Program} {e : Env} {s : State} {m : MethodId} {below : List Frame} {meth : Method} {c : Code} {G : kG} {b L : Nat} {xs : Nat → Int32} {adx adm : Nat → Nat} {pc i : Nat} {st : List Value} {u v : jH}
theorem l_al {k : Fin 4} {x : Nat} (j : Nat) (E : LE p s m meth c G b L xs) (d : decode code pc = .ok (.aload_n k, 1)) (hl : ([(0, .ref b), (1, .ref (adx 0)), (2, .ref (adm 0)), (3, .int (Int32.ofInt (i : Int)))] : List (Nat × Value))[j]? = some ((k : Nat), .ref x)) (kk : LI p e s m below meth c G b adx adm (pc + 1) i (.ref x :: st) u v) : LI p e s m below meth c G b adx adm pc i st u v := by
  intro H locs ls hP hD hS hv
  exact lv_aload_n E.1.1 E.1.2.1 d rfl (lv_at hv j hl) (kk H locs ls hP hD hS hv)
theorem l_arg (k : Nat) {n : Int} (E : LE p s m meth c G b L xs) (hk : i + k < L) (hn : n = (k : Int)) (d0 : decode code pc = .ok (.aload_n 0, 1)) (d1 : decode code (pc + 1) = .ok (.iload_n 3, 1)) (d2 : decode code (pc + 1 + 1) = .ok (.iconst n, 1)) (d3 : decode code (pc + 1 + 1 + 1) = .ok (.iadd, 1)) (d4 : decode code (pc + 1 + 1 + 1 + 1) = .ok (.iaload, 1)) (kk : LI p e s m below meth c G b adx adm (pc + 1 + 1 + 1 + 1 + 1) i (.int (Int32.ofInt (xs (i + k)).toInt) :: st) u v) : LI p e s m below meth c G b adx adm pc i st u v := by
  obtain ⟨⟨hx, hb, hr, hml, hown, hts, hX, hbl, hlocks, hgv⟩, hK, hN, hL⟩ := E
  intro H locs ls hP hD hS hl
  refine lv_aload_n hx hb d0 rfl (lv_at hl 0 rfl) ?_
  refine lv_iload_n hx hb d1 rfl (lv_at hl 3 rfl) ?_
  refine lv_iconst (v := Int32.ofInt n) hx hb d2 rfl ?_
  refine lv_iadd hx hb d3 ?_
  have rg : j_rg (((i + k : Nat) : Nat) : Int) := ⟨by omega, by omega⟩
  rw [← Int32.ofInt_add, show (i : Int) + n = ((i + k : Nat) : Int) by rw [hn]; omega]
  refine va_sld hx hb hX hbl (Nat.not_le.mpr hbl) hS (j_in rg (by omega) (by omega)) d4 ?_
  rw [j_cl rg, Int.toNat_natCast]
  have := kk H locs ls hP hD hS hl
  rw [Int32.ofInt_toInt] at this
  exact this
theorem l_callX {P : Int → jH → Prop} {idx : Nat} {M' : jM} (as : List jV) {st0 : List Value} (E : LE p s m meth c G b L xs) (hct : CT Sx M' (jR 0 :: as) u (jPi P)) (ru : j_Rg u) (hok : ∀ a ∈ as, j_ok a) (d : decode code pc = .ok (.invokevirtual idx, 3)) (hm : j_mv R_law idx as.length M') (hcl : M'.1.cls = RX7) (hrm : M'.2.2.2.2.cells = 0 ∧ M'.2.2.2.2.slots = 0 ∧ M'.2.2.2.2.frames + 1 ≤ room_1.frames ∧ 8 + (M'.2.2.1 + 11) + M'.2.2.2.2.locals ≤ room_1.locals) (hlen : (st.map fun v => v.category).sum ≤ 8) (hst : (as.map (j_v adx)).reverse ++ .ref (adx 0) :: st = st0) (kk : ∀ r u2, P r u2 → j_Rg u2 → LI p e s m below meth c G b adx adm (pc + 3) i (.int (Int32.ofInt r) :: st) u2 v) : LI p e s m below meth c G b adx adm pc i st0 u v := by
  obtain ⟨⟨hx, hb, hr, hml, hown, hts, hX, hbl, hlocks, hgv⟩, hK, hN, hL⟩ := E
  intro H locs ls hP hD hS hl
  have hP : va_P G.2.1 vwCl ([] ++ (j_w (k_g G adx) Sx.2.2 u ++ j_w (k_g G adm) Sm.2.2 v)) H := by rw [List.nil_append]; exact hP
  have hD : va_D (fun q => s.heap.size ≤ q) ([] ++ (j_w (k_g G adx) Sx.2.2 u ++ j_w (k_g G adm) Sm.2.2 v)) := by rw [List.nil_append]; exact hD
  refine w_call (G := k_g G adx) (S := Sx) (wl := []) (wr := j_w (k_g G adm) Sm.2.2 v) (h := u) (kp := 0) (as := as) (st := st) ⟨hx, hb, hml, hown, l_hts hts⟩ hK hN.1 (fun q h => h) d hm hrm ⟨Nat.le_of_ble_eq_true rfl, Nat.le_of_ble_eq_true rfl⟩ cSx_0 rfl hcl.symm hlen ru hok hst hct hP hD hS hl.1 ?_
  intro r u2 H1 locs1 hq ru2 _ hP1 hD1 hS1
  obtain ⟨r, rfl, hp⟩ := hq
  rw [List.nil_append] at hP1 hD1
  exact kk r u2 hp ru2 H1 locs1 ls hP1 hD1 hS1 hl
theorem l_callM {P : Int → jH → Prop} {idx : Nat} {M' : jM} (as : List jV) {st0 : List Value} (E : LE p s m meth c G b L xs) (hct : CT Sm M' (jR 0 :: as) v (jPi P)) (rv : j_Rg v) (hok : ∀ a ∈ as, j_ok a) (d : decode code pc = .ok (.invokevirtual idx, 3)) (hm : j_mv R_law idx as.length M') (hcl : M'.1.cls = RX8) (hrm : M'.2.2.2.2.cells = 0 ∧ M'.2.2.2.2.slots = 0 ∧ M'.2.2.2.2.frames + 1 ≤ room_1.frames ∧ 8 + (M'.2.2.1 + 11) + M'.2.2.2.2.locals ≤ room_1.locals) (hlen : (st.map fun v => v.category).sum ≤ 8) (hst : (as.map (j_v adm)).reverse ++ .ref (adm 0) :: st = st0) (kk : ∀ r v2, P r v2 → j_Rg v2 → LI p e s m below meth c G b adx adm (pc + 3) i (.int (Int32.ofInt r) :: st) u v2) : LI p e s m below meth c G b adx adm pc i st0 u v := by
  obtain ⟨⟨hx, hb, hr, hml, hown, hts, hX, hbl, hlocks, hgv⟩, hK, hN, hL⟩ := E
  intro H locs ls hP hD hS hl
  have hP : va_P G.2.1 vwCl (j_w (k_g G adx) Sx.2.2 u ++ (j_w (k_g G adm) Sm.2.2 v ++ [])) H := by rw [List.append_nil]; exact hP
  have hD : va_D (fun q => s.heap.size ≤ q) (j_w (k_g G adx) Sx.2.2 u ++ (j_w (k_g G adm) Sm.2.2 v ++ [])) := by rw [List.append_nil]; exact hD
  refine w_call (G := k_g G adm) (S := Sm) (wl := j_w (k_g G adx) Sx.2.2 u) (wr := []) (h := v) (kp := 0) (as := as) (st := st) ⟨hx, hb, hml, hown, l_hts hts⟩ hK (fun q hq => by cases hq) (fun q h => h) d hm hrm ⟨Nat.le_of_ble_eq_true rfl, Nat.le_of_ble_eq_true rfl⟩ cSm_0 rfl hcl.symm hlen rv hok hst hct hP hD hS hl.1 ?_
  intro r v2 H1 locs1 hq rv2 _ hP1 hD1 hS1
  obtain ⟨r, rfl, hp⟩ := hq
  rw [List.append_nil] at hP1 hD1
  exact kk r v2 hp rv2 H1 locs1 ls hP1 hD1 hS1 hl
theorem l_callXl {P : Int64 → jH → Prop} {idx : Nat} {M' : jM} (as : List jV) {st0 : List Value} (E : LE p s m meth c G b L xs) (hct : CT Sx M' (jR 0 :: as) u (jPl P)) (ru : j_Rg u) (hok : ∀ a ∈ as, j_ok a) (d : decode code pc = .ok (.invokevirtual idx, 3)) (hm : j_mv R_law idx as.length M') (hcl : M'.1.cls = RX7) (hrm : M'.2.2.2.2.cells = 0 ∧ M'.2.2.2.2.slots = 0 ∧ M'.2.2.2.2.frames + 1 ≤ room_1.frames ∧ 8 + (M'.2.2.1 + 11) + M'.2.2.2.2.locals ≤ room_1.locals) (hlen : (st.map fun v => v.category).sum ≤ 8) (hst : (as.map (j_v adx)).reverse ++ .ref (adx 0) :: st = st0) (kk : ∀ r u2, P r u2 → j_Rg u2 → LI p e s m below meth c G b adx adm (pc + 3) i (.long r :: st) u2 v) : LI p e s m below meth c G b adx adm pc i st0 u v := by
  obtain ⟨⟨hx, hb, hr, hml, hown, hts, hX, hbl, hlocks, hgv⟩, hK, hN, hL⟩ := E
  intro H locs ls hP hD hS hl
  have hP : va_P G.2.1 vwCl ([] ++ (j_w (k_g G adx) Sx.2.2 u ++ j_w (k_g G adm) Sm.2.2 v)) H := by rw [List.nil_append]; exact hP
  have hD : va_D (fun q => s.heap.size ≤ q) ([] ++ (j_w (k_g G adx) Sx.2.2 u ++ j_w (k_g G adm) Sm.2.2 v)) := by rw [List.nil_append]; exact hD
  refine w_call (G := k_g G adx) (S := Sx) (wl := []) (wr := j_w (k_g G adm) Sm.2.2 v) (h := u) (kp := 0) (as := as) (st := st) ⟨hx, hb, hml, hown, l_hts hts⟩ hK hN.1 (fun q h => h) d hm hrm ⟨Nat.le_of_ble_eq_true rfl, Nat.le_of_ble_eq_true rfl⟩ cSx_0 rfl hcl.symm hlen ru hok hst hct hP hD hS hl.1 ?_
  intro r u2 H1 locs1 hq ru2 _ hP1 hD1 hS1
  obtain ⟨r, rfl, hp⟩ := hq
  rw [List.nil_append] at hP1 hD1
  exact kk r u2 hp ru2 H1 locs1 ls hP1 hD1 hS1 hl
theorem l_callMl {P : Int64 → jH → Prop} {idx : Nat} {M' : jM} (as : List jV) {st0 : List Value} (E : LE p s m meth c G b L xs) (hct : CT Sm M' (jR 0 :: as) v (jPl P)) (rv : j_Rg v) (hok : ∀ a ∈ as, j_ok a) (d : decode code pc = .ok (.invokevirtual idx, 3)) (hm : j_mv R_law idx as.length M') (hcl : M'.1.cls = RX8) (hrm : M'.2.2.2.2.cells = 0 ∧ M'.2.2.2.2.slots = 0 ∧ M'.2.2.2.2.frames + 1 ≤ room_1.frames ∧ 8 + (M'.2.2.1 + 11) + M'.2.2.2.2.locals ≤ room_1.locals) (hlen : (st.map fun v => v.category).sum ≤ 8) (hst : (as.map (j_v adm)).reverse ++ .ref (adm 0) :: st = st0) (kk : ∀ r v2, P r v2 → j_Rg v2 → LI p e s m below meth c G b adx adm (pc + 3) i (.long r :: st) u v2) : LI p e s m below meth c G b adx adm pc i st0 u v := by
  obtain ⟨⟨hx, hb, hr, hml, hown, hts, hX, hbl, hlocks, hgv⟩, hK, hN, hL⟩ := E
  intro H locs ls hP hD hS hl
  have hP : va_P G.2.1 vwCl (j_w (k_g G adx) Sx.2.2 u ++ (j_w (k_g G adm) Sm.2.2 v ++ [])) H := by rw [List.append_nil]; exact hP
  have hD : va_D (fun q => s.heap.size ≤ q) (j_w (k_g G adx) Sx.2.2 u ++ (j_w (k_g G adm) Sm.2.2 v ++ [])) := by rw [List.append_nil]; exact hD
  refine w_call (G := k_g G adm) (S := Sm) (wl := j_w (k_g G adx) Sx.2.2 u) (wr := []) (h := v) (kp := 0) (as := as) (st := st) ⟨hx, hb, hml, hown, l_hts hts⟩ hK (fun q hq => by cases hq) (fun q h => h) d hm hrm ⟨Nat.le_of_ble_eq_true rfl, Nat.le_of_ble_eq_true rfl⟩ cSm_0 rfl hcl.symm hlen rv hok hst hct hP hD hS hl.1 ?_
  intro r v2 H1 locs1 hq rv2 _ hP1 hD1 hS1
  obtain ⟨r, rfl, hp⟩ := hq
  rw [List.append_nil] at hP1 hD1
  exact kk r v2 hp rv2 H1 locs1 ls hP1 hD1 hS1 hl
theorem l_eq {x : Int32} {off : Int} (E : LE p s m meth c G b L xs) (d : decode code pc = .ok (.if_icmp .eq off, 3)) (ht : (pc : Int) + off = ((771 : Nat) : Int)) (kk : LI p e s m below meth c G b adx adm 771 i st u v) : LI p e s m below meth c G b adx adm pc i (.int x :: .int x :: st) u v := by
  intro H locs ls hP hD hS hl
  exact lv_icmp_eq E.1.1 E.1.2.1 d ht (fun _ => kk H locs ls hP hD hS hl) (fun z => absurd rfl z)
theorem l_leq {x : Int64} {off : Int} (E : LE p s m meth c G b L xs) (d : decode code pc = .ok (.lcmp, 1)) (d2 : decode code (pc + 1) = .ok (.ifCond .eq off, 3)) (ht : ((pc + 1 : Nat) : Int) + off = ((771 : Nat) : Int)) (kk : LI p e s m below meth c G b adx adm 771 i st u v) : LI p e s m below meth c G b adx adm pc i (.long x :: .long x :: st) u v := by
  intro H locs ls hP hD hS hl
  refine W.lcmp E.1.1 E.1.2.1 d ?_
  have e0 : lg_cmp x x = 0 := by
    unfold lg_cmp
    rw [if_neg (by simp), if_pos rfl]
  rw [e0]
  exact lv_if_eq E.1.1 E.1.2.1 d2 ht (fun _ => kk H locs ls hP hD hS hl) (fun z => absurd rfl z)
theorem l_next (E : LE p s m meth c G b L xs) (kk : LI p e s m below meth c G b adx adm 18 (i + 5) [] u v) : LI p e s m below meth c G b adx adm 771 i [] u v := by
  intro H locs ls hP hD hS hl
  refine lv_iinc (v := Int32.ofInt ((i + 5 : Nat) : Int)) (lv' := [(3, .int (Int32.ofInt ((i + 5 : Nat) : Int))), (0, .ref b), (1, .ref (adx 0)), (2, .ref (adm 0))]) E.1.1 E.1.2.1 dL_law_771 hl (k := 3) rfl (by rw [← Int32.ofInt_add]; rfl) (by decide) rfl (fun ls' hl' => ?_)
  refine lv_goto (tgt := 18) E.1.1 E.1.2.1 dL_law_774 (by decide) ?_
  exact kk H locs ls' hP hD hS (lv_sub hl' [1, 2, 3, 0] rfl)
end LR
