/-! THE COMPARISON: what a row of GAPS would be joined with -/
theorem perm_del {α : Type} (f : Nat → α) (w0 : Nat) : ∀ n, w0 ≤ n → List.Perm ((List.range (n + 1)).map f) (f w0 :: (List.range n).map (fun w => if w0 ≤ w then f (w + 1) else f w))
  | 0, h => by
    have : w0 = 0 := by omega
    subst this
    exact List.Perm.refl _
  | m + 1, h => by
    rw [List.range_succ (n := m + 1), List.map_append]
    by_cases e : w0 = m + 1
    · subst e
      have : (List.range (m + 1)).map (fun w => if m + 1 ≤ w then f (w + 1) else f w) = (List.range (m + 1)).map f := by
        refine List.map_congr_left (fun w hw => ?_)
        have := List.mem_range.mp hw
        rw [if_neg (by omega)]
      rw [this]
      exact List.perm_append_singleton _ _
    · have ih := perm_del f w0 m (by omega)
      refine (ih.append_right _).trans ?_
      rw [List.range_succ (n := m), List.map_append, List.cons_append]
      simp only [List.map_cons, List.map_nil]
      rw [if_pos (show w0 ≤ m by omega)]
/-- both lists of windows, as far as they are the same -/
abbrev Gd : Type := (Int32 × Int32 × Int32 × Int32) × Bool × Tl
def gd (d : Wd) : Gd := (d.1, d.2.1.1, d.2.2.1)
theorem wsim.gd {ρ : Int32 → Int32} {c r : Wd} (h : wsim ρ c r) : gd c = gd r := by
  show (c.1, c.2.1.1, c.2.2.1) = (r.1, r.2.1.1, r.2.2.1)
  rw [h.1, h.2.1, h.2.2.1]
theorem WSim.perm {ρ : Int32 → Int32} : ∀ (n : Nat) (cw rw : Nat → Wd), WSim ρ n cw rw → List.Perm ((List.range n).map (fun j => gd (cw j))) ((List.range n).map (fun w => gd (rw w)))
  | 0, _, _, _ => List.Perm.refl _
  | n + 1, cw, rw, h => by
    obtain ⟨w0, h1, h2⟩ := h.1 n (by omega)
    have hd := h.del (j0 := n) (w0 := w0) (by omega) h1 h2.kw (cw' := fun j => if n ≤ j then cw (j + 1) else cw j) (rw' := fun w => if w0 ≤ w then rw (w + 1) else rw w) (fun _ _ => rfl) (fun _ _ => rfl)
    have ih := WSim.perm n _ _ hd
    have p1 := perm_del (fun j => gd (cw j)) n n (Nat.le_refl _)
    have p2 := perm_del (fun j => gd (rw j)) w0 n (by omega)
    have q : ∀ (f : Nat → Wd) (u : Nat), (List.range n).map (fun j => gd (if u ≤ j then f (j + 1) else f j)) = (List.range n).map (fun w => if u ≤ w then gd (f (w + 1)) else gd (f w)) := fun f u => by
      refine List.map_congr_left (fun w _ => ?_)
      by_cases z : u ≤ w
      · rw [if_pos z, if_pos z]
      · rw [if_neg z, if_neg z]
    rw [q cw n, q rw w0] at ih
    refine p1.trans (List.Perm.trans ?_ p2.symm)
    rw [show gd (cw n) = gd (rw w0) from h2.gd]
    exact List.Perm.cons _ ih
theorem rv_min_toInt (a b : Int32) : (rv_min a b).toInt = min a.toInt b.toInt := by
  unfold rv_min
  by_cases h : b < a
  · rw [if_pos h]; have := Int32.lt_iff_toInt_lt.mp h; omega
  · rw [if_neg h]; have := Int32.le_iff_toInt_le.mp (Int32.not_lt.mp h); omega
theorem rv_max_toInt (a b : Int32) : (rv_max a b).toInt = max a.toInt b.toInt := by
  unfold rv_max
  by_cases h : a < b
  · rw [if_pos h]; have := Int32.lt_iff_toInt_lt.mp h; omega
  · rw [if_neg h]; have := Int32.le_iff_toInt_le.mp (Int32.not_lt.mp h); omega
theorem rv_min_c (a b c : Int32) : rv_min (rv_min a b) c = rv_min (rv_min a c) b := by
  refine Int32.toInt_inj.mp ?_
  rw [rv_min_toInt, rv_min_toInt, rv_min_toInt, rv_min_toInt]
  omega
theorem rv_max_c (a b c : Int32) : rv_max (rv_max a b) c = rv_max (rv_max a c) b := by
  refine Int32.toInt_inj.mp ?_
  rw [rv_max_toInt, rv_max_toInt, rv_max_toInt, rv_max_toInt]
  omega
def jstep (a : Jn) (x : Gd) : Jn := (a.1 + 1, rv_min a.2.1 x.1.2.2.1, rv_max a.2.2.1 x.1.2.2.2, (a.2.2.2 || x.2.1))
def mtg (x : Gd) (o k b e : Int32) : Bool := decide (x.1.1 = o ∧ x.1.2.1 = k ∧ x.1.2.2.1 < e ∧ b < x.1.2.2.2)
def js (o k b e : Int32) (a : Jn) (x : Gd) : Jn := if mtg x o k b e = true then jstep a x else a
theorem js_comm (o k b e : Int32) (a : Jn) (x y : Gd) : js o k b e (js o k b e a x) y = js o k b e (js o k b e a y) x := by
  unfold js
  by_cases hx : mtg x o k b e = true
  · by_cases hy : mtg y o k b e = true
    · rw [if_pos hx, if_pos hy, if_pos hy, if_pos hx]
      show (a.1 + 1 + 1, rv_min (rv_min a.2.1 x.1.2.2.1) y.1.2.2.1, rv_max (rv_max a.2.2.1 x.1.2.2.2) y.1.2.2.2, ((a.2.2.2 || x.2.1) || y.2.1)) = (a.1 + 1 + 1, rv_min (rv_min a.2.1 y.1.2.2.1) x.1.2.2.1, rv_max (rv_max a.2.2.1 y.1.2.2.2) x.1.2.2.2, ((a.2.2.2 || y.2.1) || x.2.1))
      rw [rv_min_c, rv_max_c, Bool.or_assoc, Bool.or_comm x.2.1, ← Bool.or_assoc]
    · rw [if_pos hx, if_neg hy, if_neg hy, if_pos hx]
  · by_cases hy : mtg y o k b e = true
    · rw [if_neg hx, if_pos hy, if_neg hx]
    · rw [if_neg hx, if_neg hy, if_neg hx]
def jq (s : Md) : Jn := (s.jn, s.fB, s.fE, s.jT)
def jo_a (s : Md) (w : Nat) : Md :=
  let s := s.u_jn (s.jn + 1)
  s.u_jT (s.jT || s.wTold w)
def jo_b (s : Md) (w : Nat) : Md := if s.wBeg w < s.fB then s.u_fB (s.wBeg w) else s
def jo_c (s : Md) (w : Nat) : Md := if s.fE < s.wEnd w then s.u_fE (s.wEnd w) else s
theorem jo_st_abc (s : Md) (w : Nat) : jo_st s w = jo_c (jo_b (jo_a s w) w) w := by
  unfold jo_c jo_b jo_a jo_st
  rfl
def jsame (s' s : Md) : Prop := mw s' = mw s ∧ s'.st = s.st ∧ s'.ever = s.ever ∧ s'.eRow = s.eRow
theorem jsame.tr {a b c : Md} (h1 : jsame a b) (h2 : jsame b c) : jsame a c := ⟨h1.1.trans h2.1, h1.2.1.trans h2.2.1, h1.2.2.1.trans h2.2.2.1, h1.2.2.2.trans h2.2.2.2⟩
theorem jo_a_all (s : Md) (w : Nat) : jq (jo_a s w) = (s.jn + 1, s.fB, s.fE, (s.jT || s.wTold w)) ∧ jsame (jo_a s w) s := by
  obtain ⟨⟨a1, a2, a3, a4, a5, a6, a7, a8, a9, a10, a11, a12, a13, a14, a15⟩, b, c, d, ⟨w1, w2, w3, w4, w5, w6, w7, w8, w9, w10, w11, w12, w13, w14⟩, f, g, h⟩ := s
  refine ⟨Eq.refl ((a13 + 1, a11, a12, (a14 || w9 w)) : Jn), ?_, Eq.refl ((a1, a2, a3, a7, a8, a9, a10, a15, b, c, d, g, h) : MdT), Eq.refl a6, Eq.refl f⟩
  funext v
  exact Eq.refl (((w1 v, w2 v, w3 v, w4 v), (w9 v, w10 v), (w5 v, w6 v, w7 v, w8 v), (w11 v, w12 v, w13 v, w14 v)) : Wd)
theorem jo_fB_all (s : Md) (x : Int32) : jq (s.u_fB x) = (s.jn, x, s.fE, s.jT) ∧ jsame (s.u_fB x) s := by
  obtain ⟨⟨a1, a2, a3, a4, a5, a6, a7, a8, a9, a10, a11, a12, a13, a14, a15⟩, b, c, d, ⟨w1, w2, w3, w4, w5, w6, w7, w8, w9, w10, w11, w12, w13, w14⟩, f, g, h⟩ := s
  refine ⟨Eq.refl ((a13, x, a12, a14) : Jn), ?_, Eq.refl ((a1, a2, a3, a7, a8, a9, a10, a15, b, c, d, g, h) : MdT), Eq.refl a6, Eq.refl f⟩
  funext v
  exact Eq.refl (((w1 v, w2 v, w3 v, w4 v), (w9 v, w10 v), (w5 v, w6 v, w7 v, w8 v), (w11 v, w12 v, w13 v, w14 v)) : Wd)
theorem jo_fE_all (s : Md) (x : Int32) : jq (s.u_fE x) = (s.jn, s.fB, x, s.jT) ∧ jsame (s.u_fE x) s := by
  obtain ⟨⟨a1, a2, a3, a4, a5, a6, a7, a8, a9, a10, a11, a12, a13, a14, a15⟩, b, c, d, ⟨w1, w2, w3, w4, w5, w6, w7, w8, w9, w10, w11, w12, w13, w14⟩, f, g, h⟩ := s
  refine ⟨Eq.refl ((a13, a11, x, a14) : Jn), ?_, Eq.refl ((a1, a2, a3, a7, a8, a9, a10, a15, b, c, d, g, h) : MdT), Eq.refl a6, Eq.refl f⟩
  funext v
  exact Eq.refl (((w1 v, w2 v, w3 v, w4 v), (w9 v, w10 v), (w5 v, w6 v, w7 v, w8 v), (w11 v, w12 v, w13 v, w14 v)) : Wd)
theorem jsame.rf (s : Md) : jsame s s := ⟨rfl, rfl, rfl, rfl⟩
theorem jo_b_all (s : Md) (w : Nat) : jq (jo_b s w) = (s.jn, rv_min s.fB (s.wBeg w), s.fE, s.jT) ∧ jsame (jo_b s w) s := by
  unfold jo_b
  by_cases hc : s.wBeg w < s.fB
  · rw [if_pos hc, show rv_min s.fB (s.wBeg w) = s.wBeg w from if_pos hc]
    exact jo_fB_all s _
  · rw [if_neg hc, show rv_min s.fB (s.wBeg w) = s.fB from if_neg hc]
    exact ⟨rfl, jsame.rf s⟩
theorem jo_c_all (s : Md) (w : Nat) : jq (jo_c s w) = (s.jn, s.fB, rv_max s.fE (s.wEnd w), s.jT) ∧ jsame (jo_c s w) s := by
  unfold jo_c
  by_cases hc : s.fE < s.wEnd w
  · rw [if_pos hc, show rv_max s.fE (s.wEnd w) = s.wEnd w from if_pos hc]
    exact jo_fE_all s _
  · rw [if_neg hc, show rv_max s.fE (s.wEnd w) = s.fE from if_neg hc]
    exact ⟨rfl, jsame.rf s⟩
theorem jo_0_all (s : Md) (o : Nat) (t : Int32) : jq (jo_0 s o t) = (0, t, t + s.oSize o, false) ∧ jsame (jo_0 s o t) s := by
  obtain ⟨⟨a1, a2, a3, a4, a5, a6, a7, a8, a9, a10, a11, a12, a13, a14, a15⟩, ⟨b1, b2, b3⟩, c, d, ⟨w1, w2, w3, w4, w5, w6, w7, w8, w9, w10, w11, w12, w13, w14⟩, f, g, h⟩ := s
  refine ⟨Eq.refl ((0, t, t + b2 o, false) : Jn), ?_, Eq.refl ((a1, a2, a3, a7, a8, a9, a10, a15, (b1, b2, b3), c, d, g, h) : MdT), Eq.refl a6, Eq.refl f⟩
  funext v
  exact Eq.refl (((w1 v, w2 v, w3 v, w4 v), (w9 v, w10 v), (w5 v, w6 v, w7 v, w8 v), (w11 v, w12 v, w13 v, w14 v)) : Wd)
theorem mw_be {s s' : Md} {w : Nat} (h : mw s' = mw s) : s'.wBeg w = s.wBeg w ∧ s'.wEnd w = s.wEnd w := by
  have h2 : (mw s' w).1 = (mw s w).1 := by rw [h]
  exact ⟨congrArg (fun z : Int32 × Int32 × Int32 × Int32 => z.2.2.1) h2, congrArg (fun z : Int32 × Int32 × Int32 × Int32 => z.2.2.2) h2⟩
theorem jq_be {s : Md} {a : Jn} (h : jq s = a) : s.jn = a.1 ∧ s.fB = a.2.1 ∧ s.fE = a.2.2.1 ∧ s.jT = a.2.2.2 := ⟨congrArg (fun z : Jn => z.1) h, congrArg (fun z : Jn => z.2.1) h, congrArg (fun z : Jn => z.2.2.1) h, congrArg (fun z : Jn => z.2.2.2) h⟩
theorem jo_st_all (s : Md) (w : Nat) : jq (jo_st s w) = jstep (jq s) (gd (mw s w)) ∧ jsame (jo_st s w) s := by
  rw [jo_st_abc]
  obtain ⟨a1, a2⟩ := jo_a_all s w
  generalize jo_a s w = s1 at a1 a2 ⊢
  obtain ⟨b1, b2⟩ := jo_b_all s1 w
  generalize jo_b s1 w = s2 at b1 b2 ⊢
  obtain ⟨c1, c2⟩ := jo_c_all s2 w
  generalize jo_c s2 w = s3 at c1 c2 ⊢
  have ja := jq_be a1
  have jb := jq_be b1
  dsimp only at ja jb
  refine ⟨?_, c2.tr (b2.tr a2)⟩
  rw [c1, jb.1, jb.2.1, jb.2.2.1, jb.2.2.2, ja.1, ja.2.1, ja.2.2.1, ja.2.2.2, (mw_be (w := w) a2.1).1, (mw_be (w := w) (b2.1.trans a2.1)).2]
  rfl
theorem fold_1 {α β : Type} (g : β → α → β) (f : Nat → α) (a : β) (w t : Nat) : ((List.range' w (t + 1)).map f).foldl g a = ((List.range' (w + 1) t).map f).foldl g (g a (f w)) := by
  rw [List.range'_succ, List.map_cons, List.foldl_cons]
theorem jo_fold (vo k b e : Int32) : ∀ (t w : Nat) (s : Md), jq (jo_run vo k b e t w s) = ((List.range' w t).map (fun v => gd (mw s v))).foldl (js vo k b e) (jq s) ∧ jsame (jo_run vo k b e t w s) s
  | 0, _, s => ⟨rfl, rfl, rfl, rfl, rfl⟩
  | t + 1, w, s => by
    have h0 : jq (if mt_is s w vo k b e = true then jo_st s w else s) = js vo k b e (jq s) (gd (mw s w)) ∧ jsame (if mt_is s w vo k b e = true then jo_st s w else s) s := by
      by_cases hc : mt_is s w vo k b e = true
      · rw [if_pos hc]
        obtain ⟨a1, a2⟩ := jo_st_all s w
        refine ⟨?_, a2⟩
        rw [a1]
        exact (if_pos (show mtg (gd (mw s w)) vo k b e = true from hc)).symm
      · rw [if_neg hc]
        exact ⟨(if_neg (show ¬ mtg (gd (mw s w)) vo k b e = true from hc)).symm, rfl, rfl, rfl, rfl⟩
    obtain ⟨i1, i2⟩ := jo_fold vo k b e t (w + 1) (if mt_is s w vo k b e = true then jo_st s w else s)
    unfold jo_run
    refine ⟨?_, i2.tr h0.2⟩
    rw [i1, h0.1, h0.2.1, fold_1]
/-! the class's joined windows stand side by side -/
def belg (d : Wd) (o k : Int32) : Prop := d.1.1 = o ∧ d.1.2.1 = k
def mtw (d : Wd) (o k b e : Int32) : Prop := belg d o k ∧ d.1.2.2.1 < e ∧ b < d.1.2.2.2
theorem mtw_iff (d : Wd) (o k b e : Int32) : mtg (gd d) o k b e = true ↔ mtw d o k b e := by
  unfold mtg mtw belg
  rw [decide_eq_true_eq]
  exact ⟨fun h => ⟨⟨h.1, h.2.1⟩, h.2.2.1, h.2.2.2⟩, fun h => ⟨h.1.1, h.1.2, h.2.1, h.2.2⟩⟩
theorem jn_cond_iff (d : Wd) (o k en : Int32) : jn_cond d o k en = true ↔ belg d o k ∧ d.1.2.2.1 < en := by
  unfold jn_cond belg
  rw [Bool.and_eq_true, decide_eq_true_eq, decide_eq_true_eq]
theorem gaps_set {N : Int} {no n o : Nat} {od : Nat → Od} {p : Nat → Nat} {D : Nat → Wd} {k t : Int32} (hs : WS n p D) (hI : IW N no od n p D) (ho : o < no) (hk : (od o).1 = 2) (hsz : 1 ≤ (od o).2.1.toInt ∧ (od o).2.1.toInt ≤ 1000000) (ht : 0 ≤ t.toInt ∧ t.toInt ≤ 100000000) {q : Nat} (hq : q = rw_q p D (nI o) k t n) :
    q ≤ n ∧ (∀ i, i < q → ¬ mtw (D (p i)) (nI o) k t (t + (od o).2.1)) ∧ (∀ i, q ≤ i → i < n → (jn_cond (D (p i)) (nI o) k (t + (od o).2.1) = true ↔ mtw (D (p i)) (nI o) k t (t + (od o).2.1))) ∧ (∀ i i', q ≤ i → i ≤ i' → i' < n → jn_cond (D (p i')) (nI o) k (t + (od o).2.1) = true → jn_cond (D (p i)) (nI o) k (t + (od o).2.1) = true) := by
  obtain ⟨q0, hp0⟩ := rv_pl_ex hs (nI o) k t
  have eq := rv_plc_eq hp0
  unfold rw_q at hq
  rw [eq] at hq
  obtain ⟨a1, a2, a3⟩ := hp0
  have ev := tA (a := t) (b := (od o).2.1) (by omega) (by omega)
  generalize hen : t + (od o).2.1 = en at *
  have lo : ∀ i, i < q0 → belg (D (p i)) (nI o) k → (D (p i)).1.2.2.1.toInt < t.toInt := fun i hi hb => by
    have h := a2 i hi
    unfold wb at h
    rw [rv_before_iff, hb.1, hb.2] at h
    omega
  have hi' : ∀ i, q0 ≤ i → i < n → belg (D (p i)) (nI o) k → t.toInt ≤ (D (p i)).1.2.2.1.toInt := fun i h1 h2 hb => by
    have h : ¬ wb (D (p i)) (nI o) k t = true := by rw [a3 i h1 h2]; decide
    unfold wb at h
    rw [rv_before_iff, hb.1, hb.2] at h
    omega
  have dis : ∀ i j, i < j → j < n → belg (D (p i)) (nI o) k → belg (D (p j)) (nI o) k → (D (p i)).1.2.2.2.toInt ≤ (D (p j)).1.2.2.1.toInt := fun i j h1 h2 hb1 hb2 => by
    have := hI.2.1 i j h1 h2 (hb1.1.trans hb2.1.symm) (hb1.2.trans hb2.2.symm) o ho hb1.1 hk
    exact Int32.le_iff_toInt_le.mp this
  have wid : ∀ i, i < n → (D (p i)).1.2.2.1.toInt < (D (p i)).1.2.2.2.toInt := fun i hi => by
    obtain ⟨o', -, -, z, -⟩ := hI.1 i hi
    omega
  -- between two of the key there are only such
  have btw : ∀ i j, q0 ≤ i → i < j → j < n → belg (D (p j)) (nI o) k → belg (D (p i)) (nI o) k ∧ (D (p i)).1.2.2.1.toInt < (D (p j)).1.2.2.1.toInt := fun i j h1 h2 h3 hb => by
    have h : ¬ wb (D (p i)) (nI o) k t = true := by rw [a3 i h1 (by omega)]; decide
    have h' := hs i j h2 h3
    unfold wb at h h'
    rw [hb.1, hb.2] at h'
    rw [rv_before_iff] at h h'
    have e1 : (D (p i)).1.1.toInt = (nI o).toInt := by omega
    have e2 : (D (p i)).1.2.1.toInt = k.toInt := by omega
    exact ⟨⟨Int32.toInt_inj.mp e1, Int32.toInt_inj.mp e2⟩, by omega⟩
  have btw2 : ∀ i j, i < j → j < q0 → belg (D (p i)) (nI o) k → belg (D (p j)) (nI o) k := fun i j h1 h2 hb => by
    have h := a2 j h2
    have h' := hs i j h1 (by omega)
    unfold wb at h h'
    rw [hb.1, hb.2] at h'
    rw [rv_before_iff] at h h'
    have e1 : (D (p j)).1.1.toInt = (nI o).toInt := by omega
    have e2 : (D (p j)).1.2.1.toInt = k.toInt := by omega
    exact ⟨Int32.toInt_inj.mp e1, Int32.toInt_inj.mp e2⟩
  have up : ∀ i, q0 ≤ i → i < n → (jn_cond (D (p i)) (nI o) k en = true ↔ mtw (D (p i)) (nI o) k t en) := fun i h1 h2 => by
    rw [jn_cond_iff]
    unfold mtw
    constructor
    · rintro ⟨z1, z2⟩
      refine ⟨z1, z2, Int32.lt_iff_toInt_lt.mpr ?_⟩
      have := hi' i h1 h2 z1
      have := wid i h2
      omega
    · rintro ⟨z1, z2, -⟩
      exact ⟨z1, z2⟩
  have mono : ∀ i i', q0 ≤ i → i ≤ i' → i' < n → jn_cond (D (p i')) (nI o) k en = true → jn_cond (D (p i)) (nI o) k en = true := fun i i' h1 h2 h3 h4 => by
    by_cases z : i = i'
    · rw [z]; exact h4
    · rw [jn_cond_iff] at h4 ⊢
      obtain ⟨b1, b2⟩ := btw i i' h1 (by omega) h3 h4.1
      have := Int32.lt_iff_toInt_lt.mp h4.2
      exact ⟨b1, Int32.lt_iff_toInt_lt.mpr (by omega)⟩
  unfold jn_first at hq
  by_cases hc : 0 < q0 ∧ ((D (p (q0 - 1))).1.1 = nI o ∧ (D (p (q0 - 1))).1.2.1 = k) ∧ t < (D (p (q0 - 1))).1.2.2.2
  · rw [if_pos hc] at hq
    subst hq
    obtain ⟨c1, c2, c3⟩ := hc
    have hbg := lo (q0 - 1) (by omega) c2
    have hyes : jn_cond (D (p (q0 - 1))) (nI o) k en = true := by
      rw [jn_cond_iff]
      exact ⟨c2, Int32.lt_iff_toInt_lt.mpr (by omega)⟩
    refine ⟨by omega, fun i hi z => ?_, fun i h1 h2 => ?_, fun i i' h1 h2 h3 h4 => ?_⟩
    · have := dis i (q0 - 1) hi (by omega) z.1 c2
      have := Int32.lt_iff_toInt_lt.mp z.2.2
      omega
    · by_cases z : i = q0 - 1
      · rw [z]
        exact ⟨fun _ => ⟨c2, ((jn_cond_iff _ _ _ _).mp hyes).2, c3⟩, fun _ => hyes⟩
      · exact up i (by omega) h2
    · by_cases z : i = q0 - 1
      · rw [z]; exact hyes
      · exact mono i i' (by omega) h2 h3 h4
  · rw [if_neg hc] at hq
    subst hq
    refine ⟨a1, fun i hi z => ?_, up, mono⟩
    by_cases zi : i = q - 1
    · subst zi
      exact hc ⟨by omega, z.1, z.2.2⟩
    · have hb := btw2 i (q - 1) (by omega) (by omega) z.1
      have h1 := dis i (q - 1) (by omega) (by omega) z.1 hb
      have h2 := lo (q - 1) (by omega) hb
      have := Int32.lt_iff_toInt_lt.mp z.2.2
      omega
/-- how many are joined -/
def jn_c (p : Nat → Nat) (D : Nat → Wd) (o k en : Int32) : Nat → Nat → Nat
  | 0, _ => 0
  | f + 1, i => if jn_cond (D (p i)) o k en = true then jn_c p D o k en f (i + 1) + 1 else 0
theorem jn_c_le (p : Nat → Nat) (D : Nat → Wd) (o k en : Int32) : ∀ f i, jn_c p D o k en f i ≤ f
  | 0, _ => Nat.le_refl _
  | f + 1, i => by
    unfold jn_c
    have := jn_c_le p D o k en f (i + 1)
    split <;> omega
theorem jn_run_c (p : Nat → Nat) (D : Nat → Wd) (o k en : Int32) : ∀ (f i : Nat) (a : Jn), (jn_run p D o k en f i a).1 = a.1 + nI (jn_c p D o k en f i)
  | 0, i, a => by
    show a.1 = a.1 + nI 0
    rw [nI_0, Int32.add_zero]
  | f + 1, i, a => by
    unfold jn_run jn_c
    by_cases hc : jn_cond (D (p i)) o k en = true
    · rw [if_pos hc, if_pos hc, jn_run_c p D o k en f (i + 1)]
      show a.1 + 1 + nI _ = _
      rw [Int32.add_assoc, ← nI_1, Int32.add_comm 1]
    · rw [if_neg hc, if_neg hc, nI_0, Int32.add_zero]
theorem jn_c_set (p : Nat → Nat) (D : Nat → Wd) (o k en : Int32) {n : Nat} : ∀ (f i : Nat), i + f = n → (∀ a b, i ≤ a → a ≤ b → b < n → jn_cond (D (p b)) o k en = true → jn_cond (D (p a)) o k en = true) → ∀ j, i ≤ j → j < n → (jn_cond (D (p j)) o k en = true ↔ j < i + jn_c p D o k en f i)
  | 0, i, e, _, j, h1, h2 => absurd h2 (by omega)
  | f + 1, i, e, hm, j, h1, h2 => by
    unfold jn_c
    by_cases hc : jn_cond (D (p i)) o k en = true
    · rw [if_pos hc]
      by_cases z : j = i
      · rw [z]; exact ⟨fun _ => by omega, fun _ => hc⟩
      · have := jn_c_set p D o k en f (i + 1) (by omega) (fun a b h3 h4 h5 h6 => hm a b (by omega) h4 h5 h6) j (by omega) h2
        rw [this]
        omega
    · rw [if_neg hc]
      exact ⟨fun z => absurd (hm i j (Nat.le_refl _) h1 h2 z) hc, fun z => absurd z (by omega)⟩
theorem js_skip (f : Nat → Gd) (o k b e : Int32) : ∀ (t w : Nat) (a : Jn), (∀ i, w ≤ i → i < w + t → ¬ mtg (f i) o k b e = true) → ((List.range' w t).map f).foldl (js o k b e) a = a
  | 0, _, _, _ => rfl
  | t + 1, w, a, h => by
    rw [fold_1, show js o k b e a (f w) = a from if_neg (h w (Nat.le_refl _) (by omega))]
    exact js_skip f o k b e t (w + 1) a (fun i h1 h2 => h i (by omega) (by omega))
theorem jn_fold (p : Nat → Nat) (D : Nat → Wd) (o k b e : Int32) {n : Nat} : ∀ (f i : Nat) (a : Jn), i + f = n → (∀ j, i ≤ j → j < n → (jn_cond (D (p j)) o k e = true ↔ mtw (D (p j)) o k b e)) → (∀ x y, i ≤ x → x ≤ y → y < n → jn_cond (D (p y)) o k e = true → jn_cond (D (p x)) o k e = true) → jn_run p D o k e f i a = ((List.range' i f).map (fun j => gd (D (p j)))).foldl (js o k b e) a
  | 0, _, _, _, _, _ => rfl
  | f + 1, i, a, e0, h1, h2 => by
    unfold jn_run
    rw [fold_1]
    by_cases hc : jn_cond (D (p i)) o k e = true
    · rw [if_pos hc, show js o k b e a (gd (D (p i))) = jn_step a (D (p i)) from if_pos ((mtw_iff _ _ _ _ _).mpr ((h1 i (Nat.le_refl _) (by omega)).mp hc))]
      exact jn_fold p D o k b e f (i + 1) _ (by omega) (fun j h3 h4 => h1 j (by omega) h4) (fun x y h3 h4 h5 h6 => h2 x y (by omega) h4 h5 h6)
    · have hno : ∀ j, i ≤ j → j < n → ¬ mtg (gd (D (p j))) o k b e = true := fun j h3 h4 z => hc (h2 i j (Nat.le_refl _) h3 h4 ((h1 j h3 h4).mpr ((mtw_iff _ _ _ _ _).mp z)))
      rw [if_neg hc, show js o k b e a (gd (D (p i))) = a from if_neg (hno i (Nat.le_refl _) (by omega))]
      exact (js_skip _ o k b e f (i + 1) a (fun j h3 h4 => hno j (by omega) (by omega))).symm
/-- both sides judge the same join -/
theorem join_sim {ρ : Int32 → Int32} {N : Int} {no n o : Nat} {od : Nat → Od} {p : Nat → Nat} {D : Nat → Wd} {R : Rs} {s : Md} {k t : Int32} (hW : WR ρ n p D R s) (hI : IW N no od n p D) (ho : o < no) (hk : (od o).1 = 2) (hsz : 1 ≤ (od o).2.1.toInt ∧ (od o).2.1.toInt ≤ 1000000) (ht : 0 ≤ t.toInt ∧ t.toInt ≤ 100000000) (e1 : s.oSize o = (od o).2.1) :
    jq (jo_run (nI o) k t (t + s.oSize o) n 0 (jo_0 s o t)) = rw_j p D (nI o) k t (od o).2.1 n ∧ jsame (jo_run (nI o) k t (t + s.oSize o) n 0 (jo_0 s o t)) s ∧ ∃ c, (rw_j p D (nI o) k t (od o).2.1 n).1 = nI c ∧ rw_q p D (nI o) k t n + c ≤ n ∧ ∀ i, i < n → (mtw (D (p i)) (nI o) k t (t + (od o).2.1) ↔ rw_q p D (nI o) k t n ≤ i ∧ i < rw_q p D (nI o) k t n + c) := by
  obtain ⟨g1, g2, g3, g4⟩ := gaps_set hW.2.1 hI ho hk hsz ht (k := k) rfl
  obtain ⟨j1, j0⟩ := jo_0_all s o t
  obtain ⟨f1, f2⟩ := jo_fold (nI o) k t (t + s.oSize o) n 0 (jo_0 s o t)
  rw [j0.1, j1, e1] at f1
  rw [e1] at f2 ⊢
  generalize hq : rw_q p D (nI o) k t n = q at *
  have er : List.range' 0 n = List.range n := List.range_eq_range'.symm
  have hperm := (WSim.perm n _ _ hW.1).foldl_eq' (f := js (nI o) k t (t + (od o).2.1)) (fun x _ y _ z => js_comm _ _ _ _ z x y) (0, t, t + (od o).2.1, false)
  have hcl : ((List.range n).map (fun j => gd (D (p j)))).foldl (js (nI o) k t (t + (od o).2.1)) (0, t, t + (od o).2.1, false) = rw_j p D (nI o) k t (od o).2.1 n := by
    unfold rw_j
    rw [hq, jn_fold p D (nI o) k t (t + (od o).2.1) (n - q) q _ (by omega) g3 g4]
    have hsp : List.range n = List.range' 0 q ++ List.range' q (n - q) := by
      have := List.range'_append_1 (s := 0) (m := q) (n := n - q)
      rw [Nat.zero_add, show q + (n - q) = n by omega] at this
      rw [this, er]
    rw [hsp, List.map_append, List.foldl_append, js_skip _ _ _ _ _ q 0 _ (fun i _ h2 z => g2 i (by omega) ((mtw_iff _ _ _ _ _).mp z))]
  rw [er] at f1
  refine ⟨f1.trans (hperm.symm.trans hcl), f2.tr j0, jn_c p D (nI o) k (t + (od o).2.1) (n - q) q, ?_, ?_, fun i hi => ?_⟩
  · unfold rw_j
    rw [hq, jn_run_c]
    show 0 + _ = _
    rw [Int32.zero_add]
  · have := jn_c_le p D (nI o) k (t + (od o).2.1) (n - q) q
    omega
  · by_cases z : i < q
    · exact ⟨fun y => absurd y (g2 i z), fun y => by omega⟩
    · rw [← g3 i (by omega) hi, jn_c_set p D (nI o) k (t + (od o).2.1) (n - q) q (by omega) g4 i (by omega) hi]
      omega
