/-! branches, fields, rows of numbers, ends -/
section RW2
variable {S : jS} {G : jG} {M : jM} {Q : jQ} {pc : Nat} {lv st : List jV} {h : jH}
theorem s_icmp_lt {x y off : Int} {tgt : Nat} (d : decode M.2.1 pc = .ok (.if_icmp .lt off, 3)) (ht : (pc : Int) + off = (tgt : Int)) (kt : x < y → WV S G M Q tgt lv st h) (kf : ¬ x < y → WV S G M Q (pc + 3) lv st h) : WV S G M Q pc lv (jI y :: jI x :: st) h := by
  intro hR hl hs p e s m args below meth c H locs ls A hX hA hP hD hS hv
  have e1 := j_lt (j_hI (j_ot hs)) (j_hI hs)
  exact lv_icmp_lt hX.1 hX.2.1 d ht (fun q => kt (e1 ▸ q) hR hl (j_ot (j_ot hs)) p e s m args below meth c H locs ls A hX hA hP hD hS hv) (fun q => kf (e1 ▸ q) hR hl (j_ot (j_ot hs)) p e s m args below meth c H locs ls A hX hA hP hD hS hv)
theorem s_icmp_ge {x y off : Int} {tgt : Nat} (d : decode M.2.1 pc = .ok (.if_icmp .ge off, 3)) (ht : (pc : Int) + off = (tgt : Int)) (kt : y ≤ x → WV S G M Q tgt lv st h) (kf : ¬ y ≤ x → WV S G M Q (pc + 3) lv st h) : WV S G M Q pc lv (jI y :: jI x :: st) h := by
  intro hR hl hs p e s m args below meth c H locs ls A hX hA hP hD hS hv
  have e1 := j_le (j_hI hs) (j_hI (j_ot hs))
  exact lv_icmp_ge hX.1 hX.2.1 d ht (fun q => kt (e1 ▸ q) hR hl (j_ot (j_ot hs)) p e s m args below meth c H locs ls A hX hA hP hD hS hv) (fun q => kf (e1 ▸ q) hR hl (j_ot (j_ot hs)) p e s m args below meth c H locs ls A hX hA hP hD hS hv)
theorem s_icmp_gt {x y off : Int} {tgt : Nat} (d : decode M.2.1 pc = .ok (.if_icmp .gt off, 3)) (ht : (pc : Int) + off = (tgt : Int)) (kt : y < x → WV S G M Q tgt lv st h) (kf : ¬ y < x → WV S G M Q (pc + 3) lv st h) : WV S G M Q pc lv (jI y :: jI x :: st) h := by
  intro hR hl hs p e s m args below meth c H locs ls A hX hA hP hD hS hv
  have e1 := j_lt (j_hI hs) (j_hI (j_ot hs))
  exact lv_icmp_gt hX.1 hX.2.1 d ht (fun q => kt (e1 ▸ q) hR hl (j_ot (j_ot hs)) p e s m args below meth c H locs ls A hX hA hP hD hS hv) (fun q => kf (e1 ▸ q) hR hl (j_ot (j_ot hs)) p e s m args below meth c H locs ls A hX hA hP hD hS hv)
theorem s_icmp_le {x y off : Int} {tgt : Nat} (d : decode M.2.1 pc = .ok (.if_icmp .le off, 3)) (ht : (pc : Int) + off = (tgt : Int)) (kt : x ≤ y → WV S G M Q tgt lv st h) (kf : ¬ x ≤ y → WV S G M Q (pc + 3) lv st h) : WV S G M Q pc lv (jI y :: jI x :: st) h := by
  intro hR hl hs p e s m args below meth c H locs ls A hX hA hP hD hS hv
  have e1 := j_le (j_hI (j_ot hs)) (j_hI hs)
  exact lv_icmp_le hX.1 hX.2.1 d ht (fun q => kt (e1 ▸ q) hR hl (j_ot (j_ot hs)) p e s m args below meth c H locs ls A hX hA hP hD hS hv) (fun q => kf (e1 ▸ q) hR hl (j_ot (j_ot hs)) p e s m args below meth c H locs ls A hX hA hP hD hS hv)
theorem s_icmp_eq {x y off : Int} {tgt : Nat} (d : decode M.2.1 pc = .ok (.if_icmp .eq off, 3)) (ht : (pc : Int) + off = (tgt : Int)) (kt : x = y → WV S G M Q tgt lv st h) (kf : ¬ x = y → WV S G M Q (pc + 3) lv st h) : WV S G M Q pc lv (jI y :: jI x :: st) h := by
  intro hR hl hs p e s m args below meth c H locs ls A hX hA hP hD hS hv
  have e1 := j_eq (j_hI (j_ot hs)) (j_hI hs)
  exact lv_icmp_eq hX.1 hX.2.1 d ht (fun q => kt (e1 ▸ q) hR hl (j_ot (j_ot hs)) p e s m args below meth c H locs ls A hX hA hP hD hS hv) (fun q => kf (e1 ▸ q) hR hl (j_ot (j_ot hs)) p e s m args below meth c H locs ls A hX hA hP hD hS hv)
theorem s_icmp_ne {x y off : Int} {tgt : Nat} (d : decode M.2.1 pc = .ok (.if_icmp .ne off, 3)) (ht : (pc : Int) + off = (tgt : Int)) (kt : ¬ x = y → WV S G M Q tgt lv st h) (kf : x = y → WV S G M Q (pc + 3) lv st h) : WV S G M Q pc lv (jI y :: jI x :: st) h := by
  intro hR hl hs p e s m args below meth c H locs ls A hX hA hP hD hS hv
  have e1 := j_eq (j_hI (j_ot hs)) (j_hI hs)
  exact lv_icmp_ne hX.1 hX.2.1 d ht (fun q => kt (e1 ▸ q) hR hl (j_ot (j_ot hs)) p e s m args below meth c H locs ls A hX hA hP hD hS hv) (fun q => kf (e1 ▸ q) hR hl (j_ot (j_ot hs)) p e s m args below meth c H locs ls A hX hA hP hD hS hv)
theorem s_if_lt {x off : Int} {tgt : Nat} (d : decode M.2.1 pc = .ok (.ifCond .lt off, 3)) (ht : (pc : Int) + off = (tgt : Int)) (kt : x < 0 → WV S G M Q tgt lv st h) (kf : ¬ x < 0 → WV S G M Q (pc + 3) lv st h) : WV S G M Q pc lv (jI x :: st) h := by
  intro hR hl hs p e s m args below meth c H locs ls A hX hA hP hD hS hv
  have e1 := j_lt (j_hI hs) (j_cst (n := 0) rfl)
  rw [← j_of0] at e1
  exact lv_if_lt hX.1 hX.2.1 d ht (fun q => kt (e1 ▸ q) hR hl (j_ot hs) p e s m args below meth c H locs ls A hX hA hP hD hS hv) (fun q => kf (e1 ▸ q) hR hl (j_ot hs) p e s m args below meth c H locs ls A hX hA hP hD hS hv)
theorem s_if_ge {x off : Int} {tgt : Nat} (d : decode M.2.1 pc = .ok (.ifCond .ge off, 3)) (ht : (pc : Int) + off = (tgt : Int)) (kt : 0 ≤ x → WV S G M Q tgt lv st h) (kf : ¬ 0 ≤ x → WV S G M Q (pc + 3) lv st h) : WV S G M Q pc lv (jI x :: st) h := by
  intro hR hl hs p e s m args below meth c H locs ls A hX hA hP hD hS hv
  have e1 := j_le (j_cst (n := 0) rfl) (j_hI hs)
  rw [← j_of0] at e1
  exact lv_if_ge hX.1 hX.2.1 d ht (fun q => kt (e1 ▸ q) hR hl (j_ot hs) p e s m args below meth c H locs ls A hX hA hP hD hS hv) (fun q => kf (e1 ▸ q) hR hl (j_ot hs) p e s m args below meth c H locs ls A hX hA hP hD hS hv)
theorem s_if_gt {x off : Int} {tgt : Nat} (d : decode M.2.1 pc = .ok (.ifCond .gt off, 3)) (ht : (pc : Int) + off = (tgt : Int)) (kt : 0 < x → WV S G M Q tgt lv st h) (kf : ¬ 0 < x → WV S G M Q (pc + 3) lv st h) : WV S G M Q pc lv (jI x :: st) h := by
  intro hR hl hs p e s m args below meth c H locs ls A hX hA hP hD hS hv
  have e1 := j_lt (j_cst (n := 0) rfl) (j_hI hs)
  rw [← j_of0] at e1
  exact lv_if_gt hX.1 hX.2.1 d ht (fun q => kt (e1 ▸ q) hR hl (j_ot hs) p e s m args below meth c H locs ls A hX hA hP hD hS hv) (fun q => kf (e1 ▸ q) hR hl (j_ot hs) p e s m args below meth c H locs ls A hX hA hP hD hS hv)
theorem s_if_le {x off : Int} {tgt : Nat} (d : decode M.2.1 pc = .ok (.ifCond .le off, 3)) (ht : (pc : Int) + off = (tgt : Int)) (kt : x ≤ 0 → WV S G M Q tgt lv st h) (kf : ¬ x ≤ 0 → WV S G M Q (pc + 3) lv st h) : WV S G M Q pc lv (jI x :: st) h := by
  intro hR hl hs p e s m args below meth c H locs ls A hX hA hP hD hS hv
  have e1 := j_le (j_hI hs) (j_cst (n := 0) rfl)
  rw [← j_of0] at e1
  exact lv_if_le hX.1 hX.2.1 d ht (fun q => kt (e1 ▸ q) hR hl (j_ot hs) p e s m args below meth c H locs ls A hX hA hP hD hS hv) (fun q => kf (e1 ▸ q) hR hl (j_ot hs) p e s m args below meth c H locs ls A hX hA hP hD hS hv)
theorem s_if_eq {x off : Int} {tgt : Nat} (d : decode M.2.1 pc = .ok (.ifCond .eq off, 3)) (ht : (pc : Int) + off = (tgt : Int)) (kt : x = 0 → WV S G M Q tgt lv st h) (kf : ¬ x = 0 → WV S G M Q (pc + 3) lv st h) : WV S G M Q pc lv (jI x :: st) h := by
  intro hR hl hs p e s m args below meth c H locs ls A hX hA hP hD hS hv
  have e1 := j_eq (j_hI hs) (j_cst (n := 0) rfl)
  rw [← j_of0] at e1
  exact lv_if_eq hX.1 hX.2.1 d ht (fun q => kt (e1 ▸ q) hR hl (j_ot hs) p e s m args below meth c H locs ls A hX hA hP hD hS hv) (fun q => kf (e1 ▸ q) hR hl (j_ot hs) p e s m args below meth c H locs ls A hX hA hP hD hS hv)
theorem s_if_ne {x off : Int} {tgt : Nat} (d : decode M.2.1 pc = .ok (.ifCond .ne off, 3)) (ht : (pc : Int) + off = (tgt : Int)) (kt : ¬ x = 0 → WV S G M Q tgt lv st h) (kf : x = 0 → WV S G M Q (pc + 3) lv st h) : WV S G M Q pc lv (jI x :: st) h := by
  intro hR hl hs p e s m args below meth c H locs ls A hX hA hP hD hS hv
  have e1 := j_eq (j_hI hs) (j_cst (n := 0) rfl)
  rw [← j_of0] at e1
  exact lv_if_ne hX.1 hX.2.1 d ht (fun q => kt (e1 ▸ q) hR hl (j_ot hs) p e s m args below meth c H locs ls A hX hA hP hD hS hv) (fun q => kf (e1 ▸ q) hR hl (j_ot hs) p e s m args below meth c H locs ls A hX hA hP hD hS hv)
/-- a switch over a table: the number is in it, or not -/
theorem s_table {dflt lo hi x : Int} {offs : Array Int} {len : Nat} (d : decode M.2.1 pc = .ok (.tableswitch dflt lo hi offs, len)) (tg : Nat → Nat) (td : Nat) (htd : (pc : Int) + dflt = (td : Int)) (hsz : lo + offs.size = hi + 1) (htg : ∀ i, i < offs.size → (pc : Int) + offs.getD i 0 = (tg i : Int))
    (kt : ∀ i : Nat, i < offs.size → x = lo + i → WV S G M Q (tg i) lv st h) (kf : x < lo ∨ hi < x → WV S G M Q td lv st h) : WV S G M Q pc lv (jI x :: st) h := by
  intro hR hl hs p e s m args below meth c H locs ls A hX hA hP hD hS hv
  have e1 := j_ti (j_hI hs)
  by_cases hx : x < lo ∨ hi < x
  · exact lv_tableOut hX.1 hX.2.1 d (by rw [e1]; exact hx) htd (kf hx hR hl (j_ot hs) p e s m args below meth c H locs ls A hX hA hP hD hS hv)
  · have h1 : (x - lo).toNat < offs.size := by omega
    refine lv_tableIn (off := offs.getD (x - lo).toNat 0) hX.1 hX.2.1 d (by rw [e1]; omega) (by rw [e1]; omega) ?_ (htg _ h1) (kt (x - lo).toNat h1 (by omega) hR hl (j_ot hs) p e s m args below meth c H locs ls A hX hA hP hD hS hv)
    rw [e1, Array.getD_eq_getD_getElem?, Array.getElem?_eq_getElem h1]
    rfl
theorem s_lookup {dflt x off : Int} {ps : Array (Int × Int)} {len tgt : Nat} (d : decode M.2.1 pc = .ok (.lookupswitch dflt ps, len)) (hp : (ps.toList.zip (ps.toList.drop 1)).all (fun (a, next) => a.1 < next.1) = true) (ho : Op.lookupswitch.offset ps.toList dflt x = off) (ht : (pc : Int) + off = (tgt : Int)) (k : WV S G M Q tgt lv st h) : WV S G M Q pc lv (jI x :: st) h :=
  j_st (fun _ _ hs => j_ot hs) (fun hX _ _ hs w => lv_lookup hX.1 hX.2.1 d hp (by rw [j_ti (j_hI hs)]; exact ho) ht w) k
/-! fields -/
def j_fl (cl : List vw_C) (own : String) (idx ci j : Nat) : Prop := ∃ (C : String) (T : u_T) (N : Nat), cl[ci]? = some (C, T, N) ∧ j < N ∧ (∀ w ∈ u_ws C T N, w ∈ jW) ∧ Cond.fieldLink own idx (T j).1 (T j).2.1 (T j).2.2.1 ∈ jW
def j_fp (cl : List vw_C) (own : String) (idx ci j : Nat) (ty : FieldType) : Prop := ∃ (C : String) (T : u_T) (N : Nat) (ty0 : Nat → FieldType), cl[ci]? = some (C, T, N) ∧ j < N ∧ (∀ w ∈ u_ws C T N, w ∈ jW) ∧ Cond.fieldLink own idx (T j).1 (T j).2.1 (T j).2.2.1 ∈ jW ∧ (∀ k, k < N → parseFieldDescriptor (T k).2.2.1 = some (ty0 k)) ∧ (∀ a, a < N → ∀ b, b < N → a ≠ b → (T a).2.1 ≠ (T b).2.1) ∧ (T j).2.2.2 = false ∧ parseFieldDescriptor (T j).2.2.1 = some ty
theorem j_get {idx k ci j : Nat} {fs : List (Option (Option Nat))} {f : Option (Option Nat)} {a : jV} (d : decode M.2.1 pc = .ok (.getfield idx, 3)) (hf : j_fl S.1 M.1.cls idx ci j) (hc : S.2.2[k]? = some (.inr (ci, fs))) (hj : fs[j]? = some f) (ha : ∀ ad, j_f ad h k j f = j_v ad a) (hok : j_Rg h → j_ok a) (kk : WV S G M Q (pc + 3) lv (a :: st) h) : WV S G M Q pc lv (jR k :: st) h := by
  obtain ⟨C, T, N, h1, h2, h3, h4⟩ := hf
  refine j_st (fun hR _ hs => j_oc (hok hR) (j_ot hs)) (fun hX _ hP _ w => ?_) kk
  obtain ⟨x1, x2, x3, x4, x5, x6, x7, x8, x9⟩ := hX
  refine va_get (D := G.2.1) (ci := ci) (v := j_v G.2.2.2 a) x1 x2 x6 h3 x5 x8 hP k (j_w_at hc) h1 j h2 (x6 _ h4) (fun _ q => q) ?_ d w
  rw [List.getElem?_mapIdx, hj, ← ha]
  rfl
theorem s_geti {idx k ci j : Nat} {fs : List (Option (Option Nat))} {x : Int} (d : decode M.2.1 pc = .ok (.getfield idx, 3)) (hf : j_fl S.1 M.1.cls idx ci j) (hc : S.2.2[k]? = some (.inr (ci, fs))) (hj : fs[j]? = some (some none)) (hx : h.1 k j = x) (kk : WV S G M Q (pc + 3) lv (jI x :: st) h) : WV S G M Q pc lv (jR k :: st) h :=
  j_get (a := jI x) d hf hc hj (fun ad => by subst hx; rfl) (fun hR => by subst hx; exact hR k j) kk
theorem s_getl {idx k ci j : Nat} {fs : List (Option (Option Nat))} {x : Int64} (d : decode M.2.1 pc = .ok (.getfield idx, 3)) (hf : j_fl S.1 M.1.cls idx ci j) (hc : S.2.2[k]? = some (.inr (ci, fs))) (hj : fs[j]? = some none) (hx : h.2 k = x) (kk : WV S G M Q (pc + 3) lv (jL x :: st) h) : WV S G M Q pc lv (jR k :: st) h :=
  j_get (a := jL x) d hf hc hj (fun ad => by subst hx; rfl) (fun hR => trivial) kk
theorem s_getr {idx k ci j r : Nat} {fs : List (Option (Option Nat))} (d : decode M.2.1 pc = .ok (.getfield idx, 3)) (hf : j_fl S.1 M.1.cls idx ci j) (hc : S.2.2[k]? = some (.inr (ci, fs))) (hj : fs[j]? = some (some (some r))) (kk : WV S G M Q (pc + 3) lv (jR r :: st) h) : WV S G M Q pc lv (jR k :: st) h :=
  j_get (a := jR r) d hf hc hj (fun ad => rfl) (fun hR => trivial) kk
theorem j_up_Rg {k j : Nat} {x : Int} (hR : j_Rg h) (hx : j_rg x) : j_Rg (j_up h k j x) := by
  intro a b
  show j_rg (if a = k ∧ b = j then x else h.1 a b)
  split
  · exact hx
  · exact hR a b
theorem j_set_fs {ad : Nat → Nat} {h' : jH} {k j : Nat} {fs : List (Option (Option Nat))} {f : Option (Option Nat)} (hj : fs[j]? = some f) (ho : ∀ (i : Nat) (g : Option (Option Nat)), fs[i]? = some g → i ≠ j → j_f ad h' k i g = j_f ad h k i g) : (fs.mapIdx (fun i g => j_f ad h k i g)).set j (j_f ad h' k j f) = fs.mapIdx (fun i g => j_f ad h' k i g) := by
  apply List.ext_getElem?
  intro i
  by_cases hi : i = j
  · subst hi
    have hl : i < fs.length := (List.getElem?_eq_some_iff.mp hj).1
    rw [List.getElem?_set_self (by simpa using hl), List.getElem?_mapIdx, hj]
    rfl
  · rw [List.getElem?_set_ne (fun e => hi e.symm), List.getElem?_mapIdx, List.getElem?_mapIdx]
    cases hg : fs[i]? with
    | none => rfl
    | some g => simp only [Option.map_some, ho i g hg hi]
theorem j_put {idx k ci j : Nat} {fs : List (Option (Option Nat))} {f : Option (Option Nat)} {a : jV} {ty : FieldType} {h' : jH} (d : decode M.2.1 pc = .ok (.putfield idx, 3)) (hf : j_fp S.1 M.1.cls idx ci j ty) (hc : S.2.2[k]? = some (.inr (ci, fs))) (hj : fs[j]? = some f) (ha : ∀ ad, j_f ad h' k j f = j_v ad a) (hn : ∀ ad, narrow ty (j_v ad a) = j_v ad a) (hfit : ∀ ad, fits ty (j_v ad a) = true)
    (ho : ∀ (ad : Nat → Nat) (i : Nat) (g : Option (Option Nat)), fs[i]? = some g → i ≠ j → j_f ad h' k i g = j_f ad h k i g) (h1' : ∀ q, q ≠ k → h'.1 q = h.1 q) (h2' : ∀ q, q ≠ k → h'.2 q = h.2 q) (hok : j_Rg h → j_ok a → j_Rg h') (kk : WV S G M Q (pc + 3) lv st h') : WV S G M Q pc lv (a :: jR k :: st) h := by
  obtain ⟨C, T, N, ty0, h1, h2, h3, h4, h5, h6, h7, h8⟩ := hf
  intro hR hl hs p e s m args below meth c H locs ls A hX hA hP hD hS hv
  have hX0 := hX
  obtain ⟨x1, x2, x3, x4, x5, x6, x7, x8, x9⟩ := hX
  have hfl : j < fs.length := (List.getElem?_eq_some_iff.mp hj).1
  refine va_put (D := G.2.1) (ci := ci) (v := j_v G.2.2.2 a) (ty := ty) x1 x2 x6 h3 ty0 h5 h6 x5 x8 hP hD hS k (j_w_at hc) h1 j h2 (x6 _ h4) (fun _ q => q) h7 h8 (hn _) (hfit _) (by simpa using hfl) d (fun H1 locs1 hP1 hD1 hS1 => ?_)
  have e1 : (j_w G S.2.2 h).set k (G.2.2.2 k, .inr (ci, (fs.mapIdx (fun i g => j_f G.2.2.2 h k i g)).set j (j_v G.2.2.2 a))) = j_w G S.2.2 h' := by
    rw [← ha, j_set_fs hj (ho _)]
    exact j_w_set hc h1' h2'
  rw [e1] at hP1 hD1
  exact kk (hok hR (j_oh hs)) hl (j_ot (j_ot hs)) p e s m args below meth c H1 locs1 ls A hX0 hA hP1 hD1 hS1 hv
theorem j_up_o {k j : Nat} {x : Int} {fs : List (Option (Option Nat))} (ad : Nat → Nat) (i : Nat) (g : Option (Option Nat)) (_ : fs[i]? = some g) (hi : i ≠ j) : j_f ad (j_up h k j x) k i g = j_f ad h k i g := by
  rcases g with _ | _ | r
  · rfl
  · simp [j_f, j_up, hi]
  · rfl
theorem s_puti {idx k ci j : Nat} {fs : List (Option (Option Nat))} {x : Int} (d : decode M.2.1 pc = .ok (.putfield idx, 3)) (hf : j_fp S.1 M.1.cls idx ci j .int) (hc : S.2.2[k]? = some (.inr (ci, fs))) (hj : fs[j]? = some (some none)) (kk : WV S G M Q (pc + 3) lv st (j_up h k j x)) : WV S G M Q pc lv (jI x :: jR k :: st) h :=
  j_put (a := jI x) (h' := j_up h k j x) d hf hc hj (fun ad => by simp [j_f, j_up, j_v]) (fun _ => rfl) (fun _ => rfl) (fun ad i g hg hi => j_up_o ad i g hg hi) (fun q hq => by funext b; simp [j_up, hq]) (fun q hq => rfl) (fun hR ho => j_up_Rg hR ho) kk
theorem s_putz {idx k ci j : Nat} {fs : List (Option (Option Nat))} {x : Int} (d : decode M.2.1 pc = .ok (.putfield idx, 3)) (hf : j_fp S.1 M.1.cls idx ci j .boolean) (hc : S.2.2[k]? = some (.inr (ci, fs))) (hj : fs[j]? = some (some none)) (hz : x = 0 ∨ x = 1) (kk : WV S G M Q (pc + 3) lv st (j_up h k j x)) : WV S G M Q pc lv (jI x :: jR k :: st) h :=
  j_put (a := jI x) (h' := j_up h k j x) d hf hc hj (fun ad => by simp [j_f, j_up, j_v]) (fun _ => by rcases hz with rfl | rfl <;> rfl) (fun _ => by rcases hz with rfl | rfl <;> rfl) (fun ad i g hg hi => j_up_o ad i g hg hi) (fun q hq => by funext b; simp [j_up, hq]) (fun q hq => rfl) (fun hR ho => j_up_Rg hR ho) kk
theorem s_putl {idx k ci j : Nat} {fs : List (Option (Option Nat))} {x : Int64} (d : decode M.2.1 pc = .ok (.putfield idx, 3)) (hf : j_fp S.1 M.1.cls idx ci j .long) (hc : S.2.2[k]? = some (.inr (ci, fs))) (hj : fs[j]? = some none) (hone : ∀ i, fs[i]? = some none → i = j) (kk : WV S G M Q (pc + 3) lv st (j_upl h k x)) : WV S G M Q pc lv (jL x :: jR k :: st) h :=
  j_put (a := jL x) (h' := j_upl h k x) d hf hc hj (fun ad => by simp [j_f, j_upl, j_v]) (fun _ => rfl) (fun _ => rfl) (fun ad i g hg hi => by
    rcases g with _ | _ | r
    · exact absurd (hone i hg) hi
    · rfl
    · rfl) (fun q hq => rfl) (fun q hq => by simp [j_upl, hq]) (fun hR ho => hR) kk
end RW2
