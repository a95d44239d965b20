/-! THE REFERENCE'S STATES: what each step does to windows, results, and the rest -/
abbrev MdT : Type := Int32 × Int32 × Int32 × Int32 × Int32 × Int32 × Int32 × Int32 × MdO × MdS × MdR × (Nat → Int32) × (Nat → Int64)
/-- all but windows and results -/
def Md.st (s : Md) : MdT := (s.nop, s.nsr, s.nrow, s.nas, s.bnd, s.rul, s.drp, s.nps, s.2.1, s.2.2.1, s.2.2.2.1, s.aRow, s.pRow)
theorem put_st (s : Md) (r w : Nat) (sg : Int32) (t : Tl) : (md_put s r w sg t).st = s.st := by
  obtain ⟨⟨a1, a2, a3, a4, a5, a6, a7, a8, a9, a10, a11, a12, a13, a14, a15⟩, b, c, d, e, f, g, h⟩ := s; rfl
theorem eRow_st (s : Md) (E : Nat → Int64) : (s.u_eRow E).st = s.st := by
  obtain ⟨a, b, c, d, e, f, g, h⟩ := s; rfl
theorem nres_st (s : Md) (v : Int32) : (s.u_nres v).st = s.st := by
  obtain ⟨⟨a1, a2, a3, a4, a5, a6, a7, a8, a9, a10, a11, a12, a13, a14, a15⟩, b, c, d, e, f, g, h⟩ := s; rfl
theorem res_st (s : Md) (r w : Nat) (sg : Int32) (t : Tl) : (md_res s r w sg t).st = s.st := by
  unfold md_res
  split
  · rw [put_st, nres_st, eRow_st]
  · rw [put_st]
theorem told_st (s : Md) (w : Nat) : (md_told s w).st = s.st := by
  obtain ⟨⟨a1, a2, a3, a4, a5, a6, a7, a8, a9, a10, a11, a12, a13, a14, a15⟩, b, c, d, e, f, g, h⟩ := s; rfl
theorem tell_st (s : Md) (r w : Nat) : (md_tell s r w).st = s.st := (told_st _ _).trans (res_st _ _ _ _ _)
theorem back_st (s : Md) (r w : Nat) : (md_back s r w).st = s.st := res_st _ _ _ _ _
theorem mv_st (s : Md) (k : Nat) : (md_mv s k).st = s.st := by
  obtain ⟨⟨a1, a2, a3, a4, a5, a6, a7, a8, a9, a10, a11, a12, a13, a14, a15⟩, b, c, d, e, f, g, h⟩ := s; rfl
theorem rm_st : ∀ (t k : Nat) (s : Md), (rm_run t k s).st = s.st
  | 0, _, _ => rfl
  | t + 1, k, s => (rm_st t (k + 1) (md_mv s k)).trans (mv_st s k)
theorem rem_st (s : Md) (n w : Nat) : (md_rem s n w).st = s.st := by
  unfold md_rem
  rw [rm_st]
  obtain ⟨⟨a1, a2, a3, a4, a5, a6, a7, a8, a9, a10, a11, a12, a13, a14, a15⟩, b, c, d, e, f, g, h⟩ := s; rfl
theorem made_st (s : Md) (n : Nat) (vo k b e : Int32) : (md_made s n vo k b e).st = s.st := by
  obtain ⟨⟨a1, a2, a3, a4, a5, a6, a7, a8, a9, a10, a11, a12, a13, a14, a15⟩, b, c, d, e, f, g, h⟩ := s; rfl
theorem into_st (s : Md) (w : Nat) (v : Int32) : (md_into s w v).st = s.st := by
  unfold md_into
  obtain ⟨⟨a1, a2, a3, a4, a5, a6, a7, a8, a9, a10, a11, a12, a13, a14, a15⟩, b, c, d, e, f, g, h⟩ := s; rfl
theorem gset_st (s : Md) (w : Nat) (t : Tl) : (md_gset s w t).st = s.st := by
  obtain ⟨⟨a1, a2, a3, a4, a5, a6, a7, a8, a9, a10, a11, a12, a13, a14, a15⟩, b, c, d, e, f, g, h⟩ := s; rfl
/-! windows -/
theorem put_mw (s : Md) (r w : Nat) (sg : Int32) (t : Tl) : mw (md_put s r w sg t) = mw s := by
  obtain ⟨⟨a1, a2, a3, a4, a5, a6, a7, a8, a9, a10, a11, a12, a13, a14, a15⟩, b, c, d, e, f, g, h⟩ := s; rfl
theorem res_mw (s : Md) (r w : Nat) (sg : Int32) (t : Tl) : mw (md_res s r w sg t) = mw s := by
  unfold md_res
  split
  · rw [put_mw]
    generalize sh_run 3591 0 s.eRow = E
    obtain ⟨⟨a1, a2, a3, a4, a5, a6, a7, a8, a9, a10, a11, a12, a13, a14, a15⟩, b, c, d, e, f, g, h⟩ := s; rfl
  · rw [put_mw]
theorem back_mw (s : Md) (r w : Nat) : mw (md_back s r w) = mw s := res_mw _ _ _ _ _
theorem told_mw (s : Md) (w v : Nat) : mw (md_told s w) v = if v = w then wtold (mw s w) else mw s v := by
  obtain ⟨i, o, c, d, ⟨w1, w2, w3, w4, w5, w6, w7, w8, w9, w10, w11, w12, w13, w14⟩, f⟩ := s
  show ((w1 v, w2 v, w3 v, w4 v), (va_up w9 w true v, va_up w10 w false v), (w5 v, w6 v, w7 v, w8 v), (upd w11 w (w5 w) v, vp_updL w12 w (w6 w) v, upd w13 w (w7 w) v, upd w14 w (w8 w) v)) = _
  by_cases h : v = w
  · subst h
    rw [va_up_self, va_up_self, pk_us, pk_uLs, pk_us, pk_us, if_pos rfl]
    rfl
  · rw [va_up_ne _ _ h, va_up_ne _ _ h, pk_un h, pk_uLn h, pk_un h, pk_un h, if_neg h]
    rfl
theorem tell_mw (s : Md) (r w v : Nat) : mw (md_tell s r w) v = if v = w then wtold (mw s w) else mw s v := by
  unfold md_tell
  rw [told_mw, res_mw]
theorem mv_mw (s : Md) (k v : Nat) : mw (md_mv s k) v = if v = k then mw s (k + 1) else mw s v := by
  obtain ⟨i, o, c, d, ⟨w1, w2, w3, w4, w5, w6, w7, w8, w9, w10, w11, w12, w13, w14⟩, f⟩ := s
  show ((upd w1 k (w1 (k + 1)) v, upd w2 k (w2 (k + 1)) v, upd w3 k (w3 (k + 1)) v, upd w4 k (w4 (k + 1)) v), (va_up w9 k (w9 (k + 1)) v, va_up w10 k (w10 (k + 1)) v), (upd w5 k (w5 (k + 1)) v, vp_updL w6 k (w6 (k + 1)) v, upd w7 k (w7 (k + 1)) v, upd w8 k (w8 (k + 1)) v), (upd w11 k (w11 (k + 1)) v, vp_updL w12 k (w12 (k + 1)) v, upd w13 k (w13 (k + 1)) v, upd w14 k (w14 (k + 1)) v)) = _
  by_cases h : v = k
  · subst h
    simp only [pk_us, pk_uLs, va_up_self, if_true]
    rfl
  · simp only [pk_un h, pk_uLn h, va_up_ne _ _ h, if_neg h]
    rfl
theorem rm_mw : ∀ (t k : Nat) (s : Md) (v : Nat), mw (rm_run t k s) v = if k ≤ v ∧ v < k + t then mw s (v + 1) else mw s v
  | 0, k, s, v => by rw [if_neg (by omega)]; rfl
  | t + 1, k, s, v => by
    show mw (rm_run t (k + 1) (md_mv s k)) v = _
    rw [rm_mw t (k + 1) (md_mv s k) v, mv_mw, mv_mw]
    by_cases h1 : k + 1 ≤ v ∧ v < k + 1 + t
    · rw [if_pos h1, if_neg (by omega), if_pos (by omega)]
    · rw [if_neg h1]
      by_cases h2 : v = k
      · subst h2; rw [if_pos rfl, if_pos (by omega)]
      · rw [if_neg h2, if_neg (by omega)]
theorem rem_mw (s : Md) (n w v : Nat) (hw : w < n) (hv : v < n - 1) : mw (md_rem s n w) v = if w ≤ v then mw s (v + 1) else mw s v := by
  unfold md_rem
  rw [rm_mw]
  have e : ∀ u, mw (s.u_nwin (s.nwin - 1)) u = mw s u := fun u => by
    obtain ⟨⟨a1, a2, a3, a4, a5, a6, a7, a8, a9, a10, a11, a12, a13, a14, a15⟩, b, c, d, e, f, g, h⟩ := s; rfl
  rw [e, e]
  by_cases h : w ≤ v
  · rw [if_pos (by omega), if_pos h]
  · rw [if_neg (by omega), if_neg h]
theorem made_mw (s : Md) (n : Nat) (vo k b e : Int32) (v : Nat) : mw (md_made s n vo k b e) v = if v = n then ((vo, k, b, e), (false, false), (0, 0, s.wLeast n, s.wMost n), (mw s n).2.2.2) else mw s v := by
  obtain ⟨i, o, c, d, ⟨w1, w2, w3, w4, w5, w6, w7, w8, w9, w10, w11, w12, w13, w14⟩, f⟩ := s
  show ((upd w1 n vo v, upd w2 n k v, upd w3 n b v, upd w4 n e v), (va_up w9 n false v, va_up w10 n false v), (upd w5 n 0 v, vp_updL w6 n 0 v, w7 v, w8 v), (w11 v, w12 v, w13 v, w14 v)) = _
  by_cases h : v = n
  · subst h
    simp only [pk_us, pk_uLs, va_up_self, if_true]
    rfl
  · simp only [pk_un h, pk_uLn h, va_up_ne _ _ h, if_neg h]
    rfl
/-- a number comes in -/
def tl_in (t : Tl) (v : Int32) : Tl := (t.1 + 1, t.2.1 + v.toInt64, (if t.1 = 0 ∨ v < t.2.2.1 then v else t.2.2.1), (if t.1 = 0 ∨ t.2.2.2 < v then v else t.2.2.2))
theorem into_mw (s : Md) (w : Nat) (x : Int32) (v : Nat) : mw (md_into s w x) v = if v = w then ((mw s w).1, ((mw s w).2.1.1, true), tl_in (mw s w).2.2.1 x, (mw s w).2.2.2) else mw s v := by
  unfold md_into
  obtain ⟨i, o, c, d, ⟨w1, w2, w3, w4, w5, w6, w7, w8, w9, w10, w11, w12, w13, w14⟩, f⟩ := s
  show ((w1 v, w2 v, w3 v, w4 v), (w9 v, va_up w10 w true v), (upd w5 w (w5 w + 1) v, vp_updL w6 w (w6 w + x.toInt64) v, upd w7 w (if w5 w = 0 ∨ x < w7 w then x else w7 w) v, upd w8 w (if w5 w = 0 ∨ w8 w < x then x else w8 w) v), (w11 v, w12 v, w13 v, w14 v)) = _
  by_cases h : v = w
  · subst h
    simp only [pk_us, pk_uLs, va_up_self, if_true]
    rfl
  · simp only [pk_un h, pk_uLn h, va_up_ne _ _ h, if_neg h]
    rfl
theorem gset_mw (s : Md) (w : Nat) (t : Tl) (v : Nat) : mw (md_gset s w t) v = if v = w then ((mw s w).1, (mw s w).2.1, t, (mw s w).2.2.2) else mw s v := by
  obtain ⟨i, o, c, d, ⟨w1, w2, w3, w4, w5, w6, w7, w8, w9, w10, w11, w12, w13, w14⟩, f⟩ := s
  show ((w1 v, w2 v, w3 v, w4 v), (w9 v, w10 v), (upd w5 w t.1 v, vp_updL w6 w t.2.1 v, upd w7 w t.2.2.1 v, upd w8 w t.2.2.2 v), (w11 v, w12 v, w13 v, w14 v)) = _
  by_cases h : v = w
  · subst h
    simp only [pk_us, pk_uLs, if_true]
    rfl
  · simp only [pk_un h, pk_uLn h, if_neg h]
    rfl
/-! results -/
def RSim (R : Rs) (s : Md) : Prop := s.nres = nI R.1 ∧ R.1 ≤ 400 ∧ R.2.2 = s.ever ∧ ∀ j, j < R.1 → ∀ k, k < 9 → R.2.1 j k = s.eRow (9 * j + k)
theorem sh_val : ∀ (t k : Nat) (e : Nat → Int64) (j : Nat), sh_run t k e j = if k ≤ j ∧ j < k + t then e (j + 9) else e j
  | 0, k, e, j => by rw [if_neg (by omega)]; rfl
  | t + 1, k, e, j => by
    show sh_run t (k + 1) (vp_updL e k (e (k + 9))) j = _
    rw [sh_val t (k + 1)]
    by_cases h1 : k + 1 ≤ j ∧ j < k + 1 + t
    · rw [if_pos h1, pk_uLn (by omega), if_pos (by omega)]
    · rw [if_neg h1]
      by_cases h2 : j = k
      · subst h2; rw [pk_uLs, if_pos (by omega)]
      · rw [pk_uLn h2, if_neg (by omega)]
theorem put_eRow (s : Md) (r w : Nat) (sg : Int32) (d : Wd) (hd : d.1 = (mw s w).1) : (md_put s r w sg d.2.2.2).eRow = vp_updL (vp_updL (vp_updL (vp_updL (vp_updL (vp_updL (vp_updL (vp_updL (vp_updL s.eRow (9 * r + 0) (rv_rec sg d 0)) (9 * r + 1) (rv_rec sg d 1)) (9 * r + 2) (rv_rec sg d 2)) (9 * r + 3) (rv_rec sg d 3)) (9 * r + 4) (rv_rec sg d 4)) (9 * r + 5) (rv_rec sg d 5)) (9 * r + 6) (rv_rec sg d 6)) (9 * r + 7) (rv_rec sg d 7)) (9 * r + 8) (rv_rec sg d 8) := by
  obtain ⟨d1, d2, d3, d4⟩ := d
  dsimp only at hd
  subst hd
  obtain ⟨⟨a1, a2, a3, a4, a5, a6, a7, a8, a9, a10, a11, a12, a13, a14, a15⟩, b, c, d, e, f, g, h⟩ := s; rfl
theorem put_ever (s : Md) (r w : Nat) (sg : Int32) (t : Tl) : (md_put s r w sg t).ever = s.ever + 1 := by
  obtain ⟨⟨a1, a2, a3, a4, a5, a6, a7, a8, a9, a10, a11, a12, a13, a14, a15⟩, b, c, d, e, f, g, h⟩ := s; rfl
theorem RSim.push {R : Rs} {s : Md} (h : RSim R s) (w : Nat) (sg : Int32) (d : Wd) (hd : d.1 = (mw s w).1) : RSim (rs_push R (rv_rec sg d)) (md_res s R.1 w sg d.2.2.2) ∧ (rs_push R (rv_rec sg d)).1 = rq R.1 := by
  obtain ⟨h1, h2, h3, h4⟩ := h
  have e1 : (rs_push R (rv_rec sg d)).1 = rq R.1 := by
    show rv_qn 400 R.1 = _
    unfold rv_qn rq
    by_cases z : R.1 = 400
    · rw [if_neg (by omega), if_pos z]
    · rw [if_pos (by omega), if_neg z]
  refine ⟨⟨?_, ?_, ?_, ?_⟩, e1⟩
  · rw [e1]; exact res_nres w sg _ h1
  · rw [e1]; exact rq_le h2
  · show R.2.2 + 1 = _
    unfold md_res
    by_cases z : R.1 = 400
    · rw [if_pos z, put_ever, h3]
      generalize sh_run 3591 0 s.eRow = E
      obtain ⟨⟨a1, a2, a3, a4, a5, a6, a7, a8, a9, a10, a11, a12, a13, a14, a15⟩, b, c, d, e, f, g, h⟩ := s; rfl
    · rw [if_neg z, put_ever, h3]
  · intro j hj k hk
    rw [e1] at hj
    show rv_qp 400 R.1 R.2.1 (rv_rec sg d) j k = _
    unfold md_res rv_qp
    by_cases z : R.1 = 400
    · have hj : j < 400 := by unfold rq at hj; rw [if_pos z] at hj; exact hj
      have em : mw ((s.u_eRow (sh_run 3591 0 s.eRow)).u_nres (s.nres - 1)) = mw s := by
        generalize sh_run 3591 0 s.eRow = E
        obtain ⟨⟨a1, a2, a3, a4, a5, a6, a7, a8, a9, a10, a11, a12, a13, a14, a15⟩, b, c, d, e, f, g, h⟩ := s; rfl
      have ee : ((s.u_eRow (sh_run 3591 0 s.eRow)).u_nres (s.nres - 1)).eRow = sh_run 3591 0 s.eRow := by
        generalize sh_run 3591 0 s.eRow = E
        obtain ⟨⟨a1, a2, a3, a4, a5, a6, a7, a8, a9, a10, a11, a12, a13, a14, a15⟩, b, c, d, e, f, g, h⟩ := s; rfl
      rw [if_pos z, if_neg (by omega), put_eRow _ _ _ _ _ (by rw [em]; exact hd), ee]
      by_cases z2 : j + 1 = 400
      · rw [if_pos z2, show 9 * j + k = 9 * 399 + k by omega]
        exact (rv_w9 k hk).symm
      · rw [if_neg z2, rv_n9 (fun i hi => by omega), sh_val, if_pos (by omega), h4 (j + 1) (by omega) k hk, show 9 * (j + 1) + k = 9 * j + k + 9 by omega]
    · have hj : j < R.1 + 1 := by unfold rq at hj; rw [if_neg z] at hj; exact hj
      rw [if_neg z, if_pos (by omega), put_eRow _ _ _ _ _ hd]
      by_cases z2 : j = R.1
      · rw [if_pos z2, z2]
        exact (rv_w9 k hk).symm
      · rw [if_neg z2, rv_n9 (fun i hi => by omega)]
        exact h4 j (by omega) k hk
/-- only results and windows count -/
theorem RSim.same {R : Rs} {s s' : Md} (h : RSim R s) (h1 : s'.nres = s.nres) (h2 : s'.ever = s.ever) (h3 : s'.eRow = s.eRow) : RSim R s' := ⟨h1.trans h.1, h.2.1, h.2.2.1.trans h2.symm, fun j hj k hk => by rw [h3]; exact h.2.2.2 j hj k hk⟩
theorem RSim.told {R : Rs} {s : Md} (h : RSim R s) (w : Nat) : RSim R (md_told s w) := h.same (told_nres s w) (by obtain ⟨a, b, c, d, e, f⟩ := s; rfl) (by obtain ⟨a, b, c, d, e, f⟩ := s; rfl)
theorem RSim.mv {R : Rs} {s : Md} (h : RSim R s) (w : Nat) : RSim R (md_mv s w) := h.same (by obtain ⟨⟨a1, a2, a3, a4, a5, a6, a7, a8, a9, a10, a11, a12, a13, a14, a15⟩, b, c, d, e, f, g, h⟩ := s; rfl) (by obtain ⟨⟨a1, a2, a3, a4, a5, a6, a7, a8, a9, a10, a11, a12, a13, a14, a15⟩, b, c, d, e, f, g, h⟩ := s; rfl) (by obtain ⟨⟨a1, a2, a3, a4, a5, a6, a7, a8, a9, a10, a11, a12, a13, a14, a15⟩, b, c, d, e, f, g, h⟩ := s; rfl)
theorem RSim.rm {R : Rs} : ∀ (t k : Nat) (s : Md), RSim R s → RSim R (rm_run t k s)
  | 0, _, _, h => h
  | t + 1, k, s, h => RSim.rm t (k + 1) (md_mv s k) (h.mv k)
theorem RSim.rem {R : Rs} {s : Md} (h : RSim R s) (n w : Nat) : RSim R (md_rem s n w) := RSim.rm _ _ _ (h.same (by obtain ⟨⟨a1, a2, a3, a4, a5, a6, a7, a8, a9, a10, a11, a12, a13, a14, a15⟩, b, c, d, e, f, g, h⟩ := s; rfl) (by obtain ⟨⟨a1, a2, a3, a4, a5, a6, a7, a8, a9, a10, a11, a12, a13, a14, a15⟩, b, c, d, e, f, g, h⟩ := s; rfl) (by obtain ⟨⟨a1, a2, a3, a4, a5, a6, a7, a8, a9, a10, a11, a12, a13, a14, a15⟩, b, c, d, e, f, g, h⟩ := s; rfl))
theorem RSim.made {R : Rs} {s : Md} (h : RSim R s) (n : Nat) (vo k b e : Int32) : RSim R (md_made s n vo k b e) := h.same (by obtain ⟨⟨a1, a2, a3, a4, a5, a6, a7, a8, a9, a10, a11, a12, a13, a14, a15⟩, b, c, d, e, f, g, h⟩ := s; rfl) (by obtain ⟨⟨a1, a2, a3, a4, a5, a6, a7, a8, a9, a10, a11, a12, a13, a14, a15⟩, b, c, d, e, f, g, h⟩ := s; rfl) (by obtain ⟨⟨a1, a2, a3, a4, a5, a6, a7, a8, a9, a10, a11, a12, a13, a14, a15⟩, b, c, d, e, f, g, h⟩ := s; rfl)
theorem RSim.into {R : Rs} {s : Md} (h : RSim R s) (w : Nat) (v : Int32) : RSim R (md_into s w v) := h.same (by unfold md_into; obtain ⟨⟨a1, a2, a3, a4, a5, a6, a7, a8, a9, a10, a11, a12, a13, a14, a15⟩, b, c, d, e, f, g, h⟩ := s; rfl) (by unfold md_into; obtain ⟨⟨a1, a2, a3, a4, a5, a6, a7, a8, a9, a10, a11, a12, a13, a14, a15⟩, b, c, d, e, f, g, h⟩ := s; rfl) (by unfold md_into; obtain ⟨⟨a1, a2, a3, a4, a5, a6, a7, a8, a9, a10, a11, a12, a13, a14, a15⟩, b, c, d, e, f, g, h⟩ := s; rfl)
theorem RSim.gset {R : Rs} {s : Md} (h : RSim R s) (w : Nat) (t : Tl) : RSim R (md_gset s w t) := h.same (by obtain ⟨⟨a1, a2, a3, a4, a5, a6, a7, a8, a9, a10, a11, a12, a13, a14, a15⟩, b, c, d, e, f, g, h⟩ := s; rfl) (by obtain ⟨⟨a1, a2, a3, a4, a5, a6, a7, a8, a9, a10, a11, a12, a13, a14, a15⟩, b, c, d, e, f, g, h⟩ := s; rfl) (by obtain ⟨⟨a1, a2, a3, a4, a5, a6, a7, a8, a9, a10, a11, a12, a13, a14, a15⟩, b, c, d, e, f, g, h⟩ := s; rfl)
