/-! reading the text: items, and the class -/
abbrev jP : Type := Int × Int × Int × Nat × (Nat → Int) × (Nat → Nat → Int)
def gvh (L : Int) (ho : Nat → Int) (a b : Int) (j : Nat) : Int := if (j : Int) = a then b else if (j : Int) < L ∧ ho j = b then ho a.toNat else ho j
def chi (L : Int) (k : Nat) : Int := if k = 0 then 40 else if k < 3 then L - 1 else if k = 3 then 20 else 9
def cN (t : Nat → Int) (n : Nat) (L : Int) (o : Nat ⊕ Nat) : Nat → (Nat → Int) × (Nat ⊕ Nat)
  | 0 => (fun _ => 0, o)
  | k + 1 => (fun j => if j = k then (nmo t n (cN t n L o k).2 (if k = 3 then 1 else 0) (chi L k) (if k = 2 then (cN t n L o k).1 1 else -9)).1 else (cN t n L o k).1 j, (nmo t n (cN t n L o k).2 (if k = 3 then 1 else 0) (chi L k) (if k = 2 then (cN t n L o k).1 1 else -9)).2)
/-- an item whose letter stands at p -/
def itm (t : Nat → Int) (n items p : Nat) (s : jP) : (Nat ⊕ Nat) × jP :=
  if t p = 108 ∧ items = 0 then (eno t n (nmo t n (.inl (p + 1)) 2 6 (-9)).2, ((nmo t n (.inl (p + 1)) 2 6 (-9)).1, s.2))
  else if t p = 120 ∧ s.2.2.1 = 0 then (eno t n (nmo t n (.inl (p + 1)) 1 4 (-9)).2, (s.1, (nmo t n (.inl (p + 1)) 1 4 (-9)).1, 1, s.2.2.2))
  else if t p = 104 then (eno t n (nmo t n (nmo t n (.inl (p + 1)) 0 (s.1 - 1) (-9)).2 0 (s.1 - 1) (-9)).2, (s.1, s.2.1, s.2.2.1, s.2.2.2.1, gvh s.1 s.2.2.2.2.1 (nmo t n (.inl (p + 1)) 0 (s.1 - 1) (-9)).1 (nmo t n (nmo t n (.inl (p + 1)) 0 (s.1 - 1) (-9)).2 0 (s.1 - 1) (-9)).1, s.2.2.2.2.2))
  else if t p = 99 ∧ s.2.2.2.1 < 7 then (eno t n (cN t n s.1 (.inl (p + 1)) 5).2, (s.1, s.2.1, s.2.2.1, s.2.2.2.1 + 1, s.2.2.2.2.1, fun k j => if j = s.2.2.2.1 then (cN t n s.1 (.inl (p + 1)) 5).1 k else s.2.2.2.2.2 k j))
  else (.inr p, s)
def CD (s : jP) (h : jH) : Prop := h.1 10 0 = s.1 ∧ h.1 10 1 = s.2.1 ∧ h.1 9 6 = s.2.2.1 ∧ h.1 10 2 = (s.2.2.2.1 : Nat) ∧ (∀ l, l < 6 → h.1 11 l = s.2.2.2.2.1 l) ∧ ∀ c, c < s.2.2.2.1 → h.1 12 c = s.2.2.2.2.2 0 c ∧ h.1 13 c = s.2.2.2.2.2 1 c ∧ h.1 14 c = s.2.2.2.2.2 2 c ∧ h.1 15 c = s.2.2.2.2.2 3 c ∧ h.1 16 c = s.2.2.2.2.2 4 c
def XF (h h' : jH) : Prop := (∀ k, k < 9 ∨ 16 < k → h'.1 k = h.1 k) ∧ h'.2 = h.2 ∧ h'.1 9 5 = h.1 9 5 ∧ h'.1 9 2 = h.1 9 2
theorem XF.tr {a b c : jH} (h1 : XF a b) (h2 : XF b c) : XF a c := ⟨fun k hk => by rw [h2.1 k hk, h1.1 k hk], by rw [h2.2.1, h1.2.1], by rw [h2.2.2.1, h1.2.2.1], by rw [h2.2.2.2, h1.2.2.2]⟩
theorem R9.xf {a b : jH} (h : R9 a b) : XF a b := ⟨fun k hk => h.1 k (by omega), h.2.1, h.2.2 5 (by omega) (by omega), h.2.2 2 (by omega) (by omega)⟩
theorem XF.u {h : jH} {k j : Nat} {v : Int} (hk : 9 < k ∧ k ≤ 16) : XF h (j_up h k j v) := ⟨fun q hq => up_ne (by omega), rfl, by rw [up_ne (by omega)], by rw [up_ne (by omega)]⟩
theorem S9.cg {n : Nat} {o : Nat ⊕ Nat} {h h' : jH} (k : S9 n o h) (e : h'.1 9 = h.1 9) : S9 n o h' := by
  unfold S9 at *
  rw [e]
  exact k
theorem CD.r9 {s : jP} {h h' : jH} (k : CD s h) (r : R9 h h') : CD s h' := by
  unfold CD at *
  rw [r.1 10 (by omega), r.1 11 (by omega), r.1 12 (by omega), r.1 13 (by omega), r.1 14 (by omega), r.1 15 (by omega), r.1 16 (by omega), r.2.2 6 (by omega) (by omega)]
  exact k
theorem ct_readLines {h : jH} {n : Nat} {o : Nat ⊕ Nat} {s : jP} (ho : S9 n o h) (h200 : n ≤ 200) (ht : ∀ j, j < n → 0 ≤ h.1 1 j ∧ h.1 1 j ≤ 255) (hc : CD s h) : CT Sx M_X4_readLines [jR 9] h (jPv fun h' => S9 n (nmo (h.1 1) n o 2 6 (-9)).2 h' ∧ CD ((nmo (h.1 1) n o 2 6 (-9)).1, s.2) h' ∧ XF h h') := by
  refine en_X4_readLines_9 (fun G => vc_X4_readLines_9_0 ⟨_, ct_readNumber ho h200 ht 2 6 (-9), ?_⟩)
  rintro _ g ⟨rfl, g1, g2⟩
  refine ⟨rfl, g1.cg (up_ne (by omega)), ?_, g2.xf.tr (XF.u (by omega))⟩
  have k := hc.r9 g2
  exact ⟨up_eq, by rw [up_out (by omega)]; exact k.2.1, by rw [up_ne (by omega)]; exact k.2.2.1, by rw [up_out (by omega)]; exact k.2.2.2.1, fun l hl => by rw [up_ne (by omega)]; exact k.2.2.2.2.1 l hl, fun c hc => by rw [up_ne (by omega), up_ne (by omega), up_ne (by omega), up_ne (by omega), up_ne (by omega)]; exact k.2.2.2.2.2 c hc⟩
theorem ct_readCords {h : jH} {n : Nat} {o : Nat ⊕ Nat} {s : jP} (ho : S9 n o h) (h200 : n ≤ 200) (ht : ∀ j, j < n → 0 ≤ h.1 1 j ∧ h.1 1 j ≤ 255) (hc : CD s h) : CT Sx M_X4_readCords [jR 9] h (jPv fun h' => S9 n (nmo (h.1 1) n o 1 4 (-9)).2 h' ∧ CD (s.1, (nmo (h.1 1) n o 1 4 (-9)).1, 1, s.2.2.2) h' ∧ XF h h') := by
  refine en_X4_readCords_9 (fun G => vc_X4_readCords_9_0 ⟨_, ct_readNumber ho h200 ht 1 4 (-9), ?_⟩)
  rintro _ g ⟨rfl, g1, g2⟩
  have k := hc.r9 g2
  refine ⟨rfl, ?_, ?_, g2.xf.tr ((XF.u (by omega)).tr ⟨fun q hq => up_ne (by omega), rfl, up_out (by omega), up_out (by omega)⟩)⟩
  · unfold S9 at g1 ⊢
    rw [up_out (by omega), up_out (by omega), up_out (by omega), up_ne (by omega)]
    exact g1
  · exact ⟨by rw [up_ne (by omega), up_out (by omega)]; exact k.1, by rw [up_ne (by omega), up_eq], up_eq, by rw [up_ne (by omega), up_out (by omega)]; exact k.2.2.2.1, fun l hl => by rw [up_ne (by omega), up_ne (by omega)]; exact k.2.2.2.2.1 l hl, fun c hc => by
      rw [up_ne (by omega), up_ne (by omega), up_ne (by omega), up_ne (by omega), up_ne (by omega), up_ne (by omega), up_ne (by omega), up_ne (by omega), up_ne (by omega), up_ne (by omega)]; exact k.2.2.2.2.2 c hc⟩
theorem ct_giveHole {h : jH} {L : Nat} (hL : h.1 10 0 = L) (h6 : L ≤ 6) (l : Nat) (hl : l < L) (v : Int) : CU Sx M_X6_giveHole [jR 10, jI l, jI v] h (upr h 11 (gvh L (h.1 11) l v)) := by
  refine en_X6_giveHole_10 (fun G => vc_X6_giveHole_10_0 ?_)
  refine jf_loop L (fun o lv g => lv = [jR 10, jI l, jI v, jI (o : Nat)] ∧ g = upr h 11 (fun j => if j < o ∧ h.1 11 j = v then h.1 11 l else h.1 11 j)) ?_ ?_ 0 (Nat.zero_le _) _ _ ⟨rfl, (upr_id (fun j => by rw [if_neg (by omega)])).symm⟩
  · rintro o ho lv g ⟨rfl, rfl⟩ k
    have e0 : (upr h 11 (fun j => if j < o ∧ h.1 11 j = v then h.1 11 l else h.1 11 j)).1 10 0 = L := by rw [upr_ne (by omega)]; exact hL
    refine vc_X6_giveHole_10_2 ⟨fun z => absurd z (by omega), fun _ => ⟨by omega, ?_⟩⟩
    rw [upr_same, Int.toNat_natCast, Int.toNat_natCast, if_neg (by omega : ¬ (o < o ∧ h.1 11 o = v))]
    have el : (if l < o ∧ h.1 11 l = v then h.1 11 l else h.1 11 l) = h.1 11 l := by split <;> rfl
    rw [el]
    refine ⟨fun z => ⟨by omega, ⟨by omega, by omega⟩, k _ _ ⟨rfl, ?_⟩⟩, fun z => ⟨⟨by omega, by omega⟩, k _ _ ⟨rfl, ?_⟩⟩⟩
    · rw [up_upr]
      congr 1
      funext j
      by_cases q : j = o
      · rw [if_pos q, if_pos ⟨by omega, by rw [q]; exact z⟩]
      · rw [if_neg q]
        by_cases q2 : j < o ∧ h.1 11 j = v
        · rw [if_pos q2, if_pos ⟨by omega, q2.2⟩]
        · rw [if_neg q2, if_neg (fun w => q2 ⟨by omega, w.2⟩)]
    · congr 1
      funext j
      by_cases q2 : j < o ∧ h.1 11 j = v
      · rw [if_pos q2, if_pos ⟨by omega, q2.2⟩]
      · rw [if_neg q2]
        by_cases q : j = o
        · rw [if_neg (by rw [q]; exact fun w => z w.2)]
        · rw [if_neg (fun w => q2 ⟨by omega, w.2⟩)]
  · rintro lv g ⟨rfl, rfl⟩
    have e0 : (upr h 11 (fun j => if j < L ∧ h.1 11 j = v then h.1 11 l else h.1 11 j)).1 10 0 = L := by rw [upr_ne (by omega)]; exact hL
    refine vc_X6_giveHole_10_2 ⟨fun _ => ⟨by omega, rfl, ?_⟩, fun z => absurd (by omega) z⟩
    rw [Int.toNat_natCast, up_upr]
    congr 1
    funext j
    unfold gvh
    rw [Int.toNat_natCast]
    by_cases q : j = l
    · rw [if_pos q, if_pos (by omega)]
    · rw [if_neg q, if_neg (show ¬ ((j : Int) = (l : Int)) by omega)]
      by_cases q2 : j < L ∧ h.1 11 j = v
      · rw [if_pos q2, if_pos ⟨by omega, q2.2⟩]
      · rw [if_neg q2, if_neg (fun w => q2 ⟨by omega, w.2⟩)]
/-- a number that was read is as it must be -/
theorem nmo_ok {t : Nat → Int} {n : Nat} {o : Nat ⊕ Nat} {lo hi un : Int} {q : Nat} (h : (nmo t n o lo hi un).2 = .inl q) : (∃ p, o = .inl p ∧ p < q ∧ (p ≤ n → q ≤ n)) ∧ lo ≤ (nmo t n o lo hi un).1 ∧ (nmo t n o lo hi un).1 ≤ hi ∧ (nmo t n o lo hi un).1 ≠ un := by
  rcases o with p | s
  · have e : nmo t n (.inl p) lo hi un = (match nm t n p lo hi un with
      | .inl (v, q) => (v, .inl q)
      | .inr s => (lo, .inr s)) := rfl
    have sb := sk_bd (t := t) (n := n) (p := p)
    have db := dg_bd (t := t) (n := n) (p := sk t n p)
    rw [e] at h ⊢
    unfold nm at h ⊢
    split at h
    · rename_i v q2 hm
      split at hm
      · cases hm
      · rename_i hb
        cases hm
        cases h
        dsimp only
        exact ⟨⟨p, rfl, by omega, fun hp => db.2 (sb.2 hp)⟩, by omega, by omega, by omega⟩
    · cases h
  · cases h
theorem nmo_r {t : Nat → Int} {n : Nat} {s : Nat} {lo hi un : Int} : nmo t n (.inr s) lo hi un = (lo, .inr s) := rfl
theorem ct_readHole {h : jH} {n L : Nat} {o : Nat ⊕ Nat} {s : jP} (ho : S9 n o h) (h200 : n ≤ 200) (ht : ∀ j, j < n → 0 ≤ h.1 1 j ∧ h.1 1 j ≤ 255) (hc : CD s h) (hL : s.1 = L) (h2 : 2 ≤ L) (h6 : L ≤ 6) : CT Sx M_X4_readHole [jR 9] h (jPv fun h' => S9 n (nmo (h.1 1) n (nmo (h.1 1) n o 0 (s.1 - 1) (-9)).2 0 (s.1 - 1) (-9)).2 h' ∧ (∀ q, (nmo (h.1 1) n (nmo (h.1 1) n o 0 (s.1 - 1) (-9)).2 0 (s.1 - 1) (-9)).2 = .inl q → CD (s.1, s.2.1, s.2.2.1, s.2.2.2.1, gvh s.1 s.2.2.2.2.1 (nmo (h.1 1) n o 0 (s.1 - 1) (-9)).1 (nmo (h.1 1) n (nmo (h.1 1) n o 0 (s.1 - 1) (-9)).2 0 (s.1 - 1) (-9)).1, s.2.2.2.2.2) h') ∧ XF h h') := by
  have e0 := hc.1
  refine en_X4_readHole_9 (fun G => vc_X4_readHole_9_0 ⟨⟨by omega, by omega⟩, _, ct_readNumber ho h200 ht 0 _ (-9), ?_⟩)
  rintro _ g ⟨rfl, g1, g2⟩
  have eg : g.1 10 0 = s.1 := by rw [g2.1 10 (by omega)]; exact e0
  have e1 : g.1 1 = h.1 1 := g2.1 1 (by omega)
  refine ⟨⟨by omega, by omega⟩, _, ct_readNumber g1 h200 (by rw [e1]; exact ht) 0 _ (-9), ?_⟩
  rintro _ u ⟨rfl, u1, u2⟩
  rw [eg, e1, e0] at u1 ⊢
  have eu : u.1 10 0 = s.1 := by rw [u2.1 10 (by omega)]; exact eg
  have r2 := g2.tr u2
  cases hq : (nmo (h.1 1) n (nmo (h.1 1) n o 0 (s.1 - 1) (-9)).2 0 (s.1 - 1) (-9)).2 with
  | inr q =>
    rw [hq] at u1
    have f4 := u1.2.1
    refine ⟨fun z => absurd z (by omega), fun _ => ⟨rfl, u1, fun q2 z => (by cases z), r2.xf⟩⟩
  | inl q =>
    have k2 := nmo_ok hq
    obtain ⟨p1, hp1, -, -⟩ := k2.1
    have k1 := nmo_ok hp1
    rw [hq] at u1
    refine ⟨fun _ => ?_, fun z => absurd u1.2.2.2 z⟩
    generalize hr1 : (nmo (h.1 1) n o 0 (s.1 - 1) (-9)).1 = r1 at k1 ⊢
    generalize hr2 : (nmo (h.1 1) n (nmo (h.1 1) n o 0 (s.1 - 1) (-9)).2 0 (s.1 - 1) (-9)).1 = rr at k2 ⊢
    obtain ⟨l, rfl⟩ : ∃ l : Nat, r1 = (l : Int) := ⟨r1.toNat, by omega⟩
    refine ⟨_, ct_giveHole (by rw [eu]; exact hL) h6 l (by omega) rr, k_gv ⟨rfl, u1.cg (upr_ne (by omega)), fun q2 _ => ?_, r2.xf.tr ⟨fun k hk => upr_ne (by omega), rfl, by rw [upr_ne (by omega)], by rw [upr_ne (by omega)]⟩⟩⟩
    have k := hc.r9 r2
    refine ⟨by rw [upr_ne (by omega)]; exact k.1, by rw [upr_ne (by omega)]; exact k.2.1, by rw [upr_ne (by omega)]; exact k.2.2.1, by rw [upr_ne (by omega)]; exact k.2.2.2.1, fun j hj => ?_, fun c hc => by rw [upr_ne (by omega), upr_ne (by omega), upr_ne (by omega), upr_ne (by omega), upr_ne (by omega)]; exact k.2.2.2.2.2 c hc⟩
    rw [upr_same]
    dsimp only
    unfold gvh
    rw [k.2.2.2.2.1 j hj, Int.toNat_natCast, k.2.2.2.2.1 l (by omega), hL]
