/-! THE MINI MACHINE: ints as exact integers (each sum's range is a side condition), cells by their places, one world a system -/
abbrev jV : Type := Int ⊕ Nat ⊕ Int64 ⊕ Unit
abbrev jI (x : Int) : jV := .inl x
abbrev jR (k : Nat) : jV := .inr (.inl k)
abbrev jL (w : Int64) : jV := .inr (.inr (.inl w))
abbrev jU : jV := .inr (.inr (.inr ()))
abbrev jH : Type := (Nat → Nat → Int) × (Nat → Int64)
/-- a cell of the layout: a row (booleans? its length), or an object (its number, its fields: none a long, some none an int, some (some k) the cell at place k) -/
abbrev jC : Type := (Bool × Nat) ⊕ (Nat × List (Option (Option Nat)))
abbrev jS : Type := List vw_C × List (String × Nat × MethodName × String) × List jC
abbrev jG : Type := Launch × va_G × (ClassId × ClassId) × (Nat → Nat)
/-- a method: its name, code, locals, answer's type, room -/
abbrev jM : Type := MethodName × ByteArray × Nat × Option FieldType × Room
/-- the words that every method is given: all of the tables' that a call hands on -/
def jW : List Cond := lw_tbl.filter goodWord
abbrev j_ws (M : jM) : List Cond := Cond.code M.1 M.2.1 M.2.2.1 M.2.2.2.1 :: jW
theorem jW_in {w : Cond} (h : w ∈ lw_tbl) (hg : goodWord w = true) : w ∈ jW := List.mem_filter.mpr ⟨h, hg⟩
theorem jW_t {w : Cond} (i : Nat) (h : tables_1[i]? = some w) (hg : goodWord w = true) : w ∈ jW := jW_in (List.mem_append_right _ (List.mem_of_getElem? h)) hg
theorem jW_s {w : Cond} (i : Nat) (h : (k2_sels lw_privs)[i]? = some w) (hg : goodWord w = true) : w ∈ jW := jW_in (List.mem_append_left _ (List.mem_of_getElem? h)) hg
theorem jW_good : ∀ w ∈ jW, (w.onTables && w.keeps) = true ∨ ∃ ty, w = .arrayClass ty := fun w h => good_of_word (List.mem_filter.mp h).2
abbrev jQ : Type := Option jV → jH → Prop
abbrev j_rg (x : Int) : Prop := -2147483648 ≤ x ∧ x ≤ 2147483647
def j_ok (a : jV) : Prop := match a with
  | .inl x => j_rg x
  | _ => True
def j_Rg (h : jH) : Prop := ∀ k j, j_rg (h.1 k j)
def j_v (ad : Nat → Nat) (a : jV) : Value := match a with
  | .inl x => .int (Int32.ofInt x)
  | .inr (.inl k) => .ref (ad k)
  | .inr (.inr (.inl w)) => .long w
  | .inr (.inr (.inr _)) => .null
def j_un (a : jV) : Bool := match a with
  | .inl _ => false
  | .inr (.inl _) => false
  | _ => true
def j_f (ad : Nat → Nat) (h : jH) (k j : Nat) (f : Option (Option Nat)) : Value := match f with
  | none => .long (h.2 k)
  | some none => .int (Int32.ofInt (h.1 k j))
  | some (some r) => .ref (ad r)
def j_E (G : jG) (h : jH) (k : Nat) (c : jC) : va_E := match c with
  | .inl (b, n) => .inl (if b then G.2.2.1.2 else G.2.2.1.1, n, .inl (fun j => Int32.ofInt (h.1 k j)))
  | .inr (ci, fs) => .inr (ci, fs.mapIdx (fun j f => j_f G.2.2.2 h k j f))
def j_w (G : jG) (lay : List jC) (h : jH) : va_W := lay.mapIdx (fun k c => (G.2.2.2 k, j_E G h k c))
abbrev j_ty (G : jG) : List (ClassId × FieldType) := [(G.2.2.1.1, .int), (G.2.2.1.2, .boolean)]
def j_N (S : jS) (U : State) : Prop := ∀ q ∈ S.2.1, va_Nw (.methodLinkNest q.1 q.2.1 q.2.2.1 q.2.2.2) U
def j_lv (G : jG) (ls : Array Slot) (nL : Nat) (lv : List jV) : Prop := ls.size = nL ∧ lv_wf ls ∧ ∀ (i : Nat) (a : jV), lv[i]? = some a → j_un a = false → ls[i]? = some (.val (j_v G.2.2.2 a))
def j_X (S : jS) (G : jG) (M : jM) (p : Program) (s : State) (m : MethodId) (args : Array Value) (meth : Method) (c : Code) : Prop :=
  p.tables.exec = Jvm.exec ∧ c.code = M.2.1 ∧ meth.sig.returnType = M.2.2.2.1 ∧ c.maxLocals = M.2.2.1 ∧ s.vm.findClass M.1.cls = some m.cls ∧ (∀ w ∈ jW, w.before args s = true) ∧ meth.locks = false ∧ va_K G.2.1 S.1 (j_ty G) s ∧ j_N S s
/-- what holds behind a method: its answer and its world -/
def j_Q (S : jS) (G : jG) (A : Nat → Prop) (Q : jQ) : Array Value → State → Outcome → State → Prop := fun _ st oc t =>
  (∃ (r : Option jV) (h' : jH), Q r h' ∧ j_Rg h' ∧ (∀ a, r = some a → j_ok a) ∧ oc = .returned (r.map (j_v G.2.2.2)) ∧ va_P G.2.1 S.1 (j_w G S.2.2 h') t.heap ∧ va_K G.2.1 S.1 (j_ty G) t ∧ va_D A (j_w G S.2.2 h')) ∧ va_F A st t
/-- the machine, now at pc with these locals, this stack and this world, comes to the method's end with Q -/
def WV (S : jS) (G : jG) (M : jM) (Q : jQ) (pc : Nat) (lv st : List jV) (h : jH) : Prop :=
  j_Rg h → (∀ a ∈ lv, j_ok a) → (∀ a ∈ st, j_ok a) → ∀ (p : Program) (e : Env) (s : State) (m : MethodId) (args : Array Value) (below : List Frame) (meth : Method) (c : Code) (H : Heap) (locs : List Loc) (ls : Array Slot) (A : Nat → Prop),
    j_X S G M p s m args meth c → (∀ q, s.heap.size ≤ q → A q) → va_P G.2.1 S.1 (j_w G S.2.2 h) H → va_D A (j_w G S.2.2 h) → va_S A s.heap H locs → j_lv G ls M.2.2.1 lv →
    W p G.1 e M.2.2.2.2 s m args below meth c H locs 0 0 (MQ below (j_Q S G A Q) args s 0 0 A) (F0 m pc ls (st.map (j_v G.2.2.2)))
/-- a method's contract over the whole world -/
def CT (S : jS) (M : jM) (av : List jV) (h : jH) (post : jQ) : Prop :=
  ∀ (G : jG) (sz : Nat), j_Rg h → (∀ a ∈ av, j_ok a) → Met G.1 M.1 (j_ws M) M.2.2.2.2 (va_Pc (av.map (j_v G.2.2.2)) (fun U => U.heap.size = sz ∧ va_P G.2.1 S.1 (j_w G S.2.2 h) U.heap ∧ va_K G.2.1 S.1 (j_ty G) U ∧ j_N S U ∧ va_D (fun _ => True) (j_w G S.2.2 h)))
    (j_Q S G (va_A (j_w G S.2.2 h) sz) post) 0 0 (va_A (j_w G S.2.2 h) sz)
abbrev jPi (post : Int → jH → Prop) : jQ := fun o h' => ∃ r : Int, o = some (jI r) ∧ post r h'
abbrev jPv (post : jH → Prop) : jQ := fun o h' => o = none ∧ post h'
abbrev jPl (post : Int64 → jH → Prop) : jQ := fun o h' => ∃ r : Int64, o = some (jL r) ∧ post r h'
def j_up (h : jH) (k j : Nat) (x : Int) : jH := (fun a b => if a = k ∧ b = j then x else h.1 a b, h.2)
def j_upl (h : jH) (k : Nat) (w : Int64) : jH := (h.1, fun a => if a = k then w else h.2 a)
/-- n places of the row at a, from i on, into the row at b, from j on -/
def j_cp (h : jH) (a i b j n : Nat) : jH := (fun k x => if k = b ∧ j ≤ x ∧ x < j + n then h.1 a (i + (x - j)) else h.1 k x, h.2)
/-! numbers -/
theorem j_cst {n : Int} (h : decide (-2147483648 ≤ n ∧ n ≤ 2147483647) = true) : j_rg n := (of_decide_eq_true h : -2147483648 ≤ n ∧ n ≤ 2147483647)
theorem j_ti {x : Int} (h : j_rg x) : (Int32.ofInt x).toInt = x := Int32.toInt_ofInt_of_le (by have := h.1; omega) (by have := h.2; omega)
theorem j_le {x y : Int} (hx : j_rg x) (hy : j_rg y) : (Int32.ofInt x ≤ Int32.ofInt y) = (x ≤ y) := by
  rw [Int32.le_iff_toInt_le, j_ti hx, j_ti hy]
theorem j_lt {x y : Int} (hx : j_rg x) (hy : j_rg y) : (Int32.ofInt x < Int32.ofInt y) = (x < y) := by
  rw [Int32.lt_iff_toInt_lt, j_ti hx, j_ti hy]
theorem j_eq {x y : Int} (hx : j_rg x) (hy : j_rg y) : (Int32.ofInt x = Int32.ofInt y) = (x = y) := by
  rw [← Int32.toInt_inj, j_ti hx, j_ti hy]
theorem j_of0 : (0 : Int32) = Int32.ofInt 0 := by decide
theorem j_cl {x : Int} (h : j_rg x) : (Int32.ofInt x).toNatClampNeg = x.toNat := by
  show (Int32.ofInt x).toInt.toNat = x.toNat
  rw [j_ti h]
theorem j_in {x : Int} {n : Nat} (h : j_rg x) (h0 : 0 ≤ x) (hn : x < n) : vp_in (Int32.ofInt x) n := by
  rw [vp_in_iff, j_ti h]
  exact ⟨h0, hn⟩
/-! the world -/
theorem j_w_at {G : jG} {lay : List jC} {h : jH} {k : Nat} {c : jC} (hk : lay[k]? = some c) : (j_w G lay h)[k]? = some (G.2.2.2 k, j_E G h k c) := by
  simp [j_w, List.getElem?_mapIdx, hk]
theorem j_w_set {G : jG} {lay : List jC} {h h' : jH} {k : Nat} {c : jC} (hk : lay[k]? = some c) (h1 : ∀ a, a ≠ k → h'.1 a = h.1 a) (h2 : ∀ a, a ≠ k → h'.2 a = h.2 a) : (j_w G lay h).set k (G.2.2.2 k, j_E G h' k c) = j_w G lay h' := by
  apply List.ext_getElem?
  intro i
  by_cases hi : i = k
  · subst hi
    have hl : i < lay.length := (List.getElem?_eq_some_iff.mp hk).1
    rw [List.getElem?_set_self (by simpa [j_w] using hl)]
    exact (j_w_at hk).symm
  · rw [List.getElem?_set_ne (fun e => hi e.symm)]
    simp only [j_w, List.getElem?_mapIdx]
    cases lay[i]? with
    | none => rfl
    | some d =>
      simp only [Option.map_some, Option.some.injEq, Prod.mk.injEq, true_and]
      rcases d with ⟨b, n⟩ | ⟨ci, fs⟩
      · simp only [j_E, h1 i hi]
      · simp only [j_E, j_f, h1 i hi, h2 i hi]
theorem j_w_len {G : jG} {lay : List jC} {h : jH} : (j_w G lay h).length = lay.length := by simp [j_w]
theorem j_w_ad {G : jG} {lay : List jC} {h h' : jH} {sz q : Nat} : va_A (j_w G lay h) sz q ↔ va_A (j_w G lay h') sz q := by
  have key : ∀ h h' : jH, va_A (j_w G lay h) sz q → va_A (j_w G lay h') sz q := by
    intro h h' hq
    rcases hq with ⟨k, e, he⟩ | hq
    · left
      cases hc : lay[k]? with
      | none => simp [j_w, List.getElem?_mapIdx, hc] at he
      | some c =>
        rw [j_w_at hc] at he
        have := (Prod.mk.inj (Option.some.inj he)).1
        exact ⟨k, _, by rw [j_w_at hc, this]⟩
    · exact Or.inr hq
  exact ⟨key h h', key h' h⟩
theorem j_N.moved {S : jS} {s U : State} (hW : s.WarmedH U.vm) (h : j_N S s) : j_N S U := fun q hq => va_Nw.warmM hW (h q hq)
/-! locals -/
def j_ll (G : jG) (lv : List jV) : List (Nat × Value) := (lv.zipIdx.filter (fun q => !j_un q.1)).map (fun q => (q.2, j_v G.2.2.2 q.1))
theorem j_lv_has {G : jG} {ls : Array Slot} {nL : Nat} {lv : List jV} (h : j_lv G ls nL lv) : lv_has ls nL (j_ll G lv) := by
  refine ⟨h.1, h.2.1, fun q hq => ?_⟩
  obtain ⟨⟨a, i⟩, h1, rfl⟩ := List.mem_map.mp hq
  obtain ⟨h2, h3⟩ := List.mem_filter.mp h1
  have h4 := List.mem_zipIdx_iff_getElem?.mp h2
  exact h.2.2 i a h4 (by simpa using h3)
theorem j_lv_at {G : jG} {ls : Array Slot} {nL : Nat} {lv : List jV} (h : j_lv G ls nL lv) {i : Nat} {a : jV} (hi : lv[i]? = some a) (hu : j_un a = false) : ls[i]? = some (.val (j_v G.2.2.2 a)) := h.2.2 i a hi hu
theorem j_v_cat {ad : Nat → Nat} {a : jV} (h : j_un a = false) : (j_v ad a).category = 1 := by
  rcases a with x | k | w | u
  · rfl
  · rfl
  · cases h
  · cases h
theorem j_lv_set {G : jG} {ls' : Array Slot} {nL : Nat} {lv : List jV} {i : Nat} {a : jV} (hs : lv_has ls' nL ((i, j_v G.2.2.2 a) :: (j_ll G lv).filter (fun q => !(q.1 == i) && !(q.1 + 1 == i && q.2.category == 2)))) : j_lv G ls' nL (lv.set i a) := by
  refine ⟨hs.1, hs.2.1, fun k b hk hu => ?_⟩
  by_cases hki : i = k
  · subst hki
    have : b = a := by
      rw [List.getElem?_set] at hk
      simp at hk
      exact hk.2.symm
    subst this
    exact hs.2.2 (i, _) List.mem_cons_self
  · rw [List.getElem?_set_ne hki] at hk
    refine hs.2.2 (k, j_v G.2.2.2 b) (List.mem_cons_of_mem _ (List.mem_filter.mpr ⟨List.mem_map.mpr ⟨(b, k), List.mem_filter.mpr ⟨List.mem_zipIdx_iff_getElem?.mpr hk, by simp [hu]⟩, rfl⟩, ?_⟩))
    have h1 : (k == i) = false := by simpa using fun e : k = i => hki e.symm
    have h2 : ((j_v G.2.2.2 b).category == 2) = false := by rw [j_v_cat hu]; rfl
    simp [h1, h2]
theorem j_ok_set {lv : List jV} {i : Nat} {a : jV} (h : ∀ b ∈ lv, j_ok b) (ha : j_ok a) : ∀ b ∈ lv.set i a, j_ok b := by
  intro b hb
  rcases List.mem_or_eq_of_mem_set hb with h1 | h1
  · exact h b h1
  · rw [h1]; exact ha
