/-! THE REFERENCE: a row comes into the windows of its time -/
theorem put_O (s : Md) (r w : Nat) (sg : Int32) (t : Tl) : (md_put s r w sg t).2.1 = s.2.1 := by
  obtain ⟨a, b, c, d, e, f⟩ := s
  rfl
theorem un_O (s : Md) (e : Nat → Int64) (v : Int32) : ((s.u_eRow e).u_nres v).2.1 = s.2.1 := by
  obtain ⟨a, b, c, d, e, f⟩ := s
  rfl
theorem res_O (s : Md) (r w : Nat) (sg : Int32) (t : Tl) : (md_res s r w sg t).2.1 = s.2.1 := by
  unfold md_res
  split
  · exact (put_O _ _ _ _ _).trans (un_O _ _ _)
  · exact put_O _ _ _ _ _
theorem told_O (s : Md) (w : Nat) : (md_told s w).2.1 = s.2.1 := by
  obtain ⟨a, b, c, d, e, f⟩ := s
  rfl
theorem back_O (s : Md) (r w : Nat) : (md_back s r w).2.1 = s.2.1 := res_O _ _ _ _ _
theorem tell_O (s : Md) (r w : Nat) : (md_tell s r w).2.1 = s.2.1 := (told_O _ _).trans (res_O _ _ _ _ _)
theorem made_O (s : Md) (n : Nat) (vo k b e : Int32) : (md_made s n vo k b e).2.1 = s.2.1 := by
  obtain ⟨a, b, c, d, e, f⟩ := s
  rfl
theorem into_O (s : Md) (w : Nat) (v : Int32) : (md_into s w v).2.1 = s.2.1 := by
  obtain ⟨a, b, c, d, e, f⟩ := s
  rfl
theorem foll_O (s : Md) (r w o : Nat) : (md_foll s r w o).2.1 = s.2.1 := by
  unfold md_foll
  split
  · split
    · rfl
    · exact (tell_O _ _ _).trans (back_O _ _ _)
  · split
    · exact tell_O _ _ _
    · rfl
theorem foll_nwin (s : Md) (r w o : Nat) : (md_foll s r w o).nwin = s.nwin := by
  unfold md_foll
  split
  · split
    · rfl
    · exact (tell_nwin _ _ _).trans (back_nwin _ _ _)
  · split
    · exact tell_nwin _ _ _
    · rfl
def fl_r (s : Md) (r w o : Nat) : Nat := if s.wTold w = true then (if s.oRule o = 1 then r else rq (rq r)) else (if s.wEnd w ≤ s.oMark o then rq r else r)
theorem foll_nres {s : Md} {r : Nat} (w o : Nat) (er : s.nres = nI r) (hr : r ≤ 400) : (md_foll s r w o).nres = nI (fl_r s r w o) ∧ fl_r s r w o ≤ 400 := by
  unfold md_foll fl_r
  split
  · split
    · exact ⟨er, hr⟩
    · exact ⟨tell_nres w (back_nres w er), rq_le (rq_le hr)⟩
  · split
    · exact ⟨tell_nres w er, rq_le hr⟩
    · exact ⟨er, hr⟩
theorem made_facts (s : Md) (n : Nat) (vo k b e : Int32) : (md_made s n vo k b e).wOp n = vo ∧ (md_made s n vo k b e).nres = s.nres ∧ (md_made s n vo k b e).nwin = s.nwin + 1 := by
  obtain ⟨a, b1, c, d, e1, f⟩ := s
  refine ⟨?_, rfl, rfl⟩
  show upd _ n vo n = vo
  exact if_pos rfl
/-- found or made: the state, how many windows, which it is -/
def gu_fo (s : Md) (o n : Nat) (vo k b : Int32) : Md × Nat × Nat := match fd_run s vo k b n 0 with
  | none => (md_made s n vo k b (b + s.oSize o), n + 1, n)
  | some w => (s, n, w)
def gu_st (o : Nat) (vo k v b : Int32) (p : Md × Nat × Nat) : Md × Nat × Nat := if b + p.1.oSize o + p.1.oLt o ≤ p.1.oMark o then p else (md_foll (md_into (gu_fo p.1 o p.2.2 vo k b).1 (gu_fo p.1 o p.2.2 vo k b).2.2 v) p.2.1 (gu_fo p.1 o p.2.2 vo k b).2.2 o, fl_r (md_into (gu_fo p.1 o p.2.2 vo k b).1 (gu_fo p.1 o p.2.2 vo k b).2.2 v) p.2.1 (gu_fo p.1 o p.2.2 vo k b).2.2 o, (gu_fo p.1 o p.2.2 vo k b).2.1)
def gu_run (o : Nat) (vo k v : Int32) (B : Nat → Int32) : Nat → Nat → Md × Nat × Nat → Md × Nat × Nat
  | 0, _, p => p
  | f + 1, i, p => gu_run o vo k v B f (i + 1) (gu_st o vo k v (B i) p)
/-- there is room for what is made -/
def gu_ok (o : Nat) (vo k v : Int32) (B : Nat → Int32) : Nat → Nat → Md × Nat × Nat → Prop
  | 0, _, _ => True
  | f + 1, i, p => (¬ B i + p.1.oSize o + p.1.oLt o ≤ p.1.oMark o → fd_run p.1 vo k (B i) p.2.2 0 = none → p.2.2 < 120) ∧ gu_ok o vo k v B f (i + 1) (gu_st o vo k v (B i) p)
theorem ops_eq {s s' : Md} (h : s'.2.1 = s.2.1) (o : Nat) : bg_st s' o = bg_st s o ∧ s'.oSize o = s.oSize o := by
  unfold bg_st Md.oKind Md.oSize Md.oStep
  rw [h]
  exact ⟨rfl, rfl⟩
set_option maxRecDepth 100000 in
theorem lp_gu {G : rv_G} {σ0 : rv_S} {y o K t : Nat} {s0 : Md} {vo xs k time v v6 v7 v8 : Int32} (eo : vo = nI o) (ho : o < 5) (h0 : ¬ bg_st s0 o = 0) (hok : bg_ok (bg_st s0 o) (s0.oSize o) time t (dn time (bg_st s0 o) * bg_st s0 o)) (hK : bg_of (bg_st s0 o) (s0.oSize o) time t (nI K) = -99999999) (hK2 : ∀ i, i < K → ¬ bg_of (bg_st s0 o) (s0.oSize o) time t (nI i) = -99999999) : ∀ (f i : Nat) (vk : Int32) (v10 v11 : Option Value) (s : Md) (r n : Nat) (σ : rv_S), vk = nI i → i + f = K → s.2.1 = s0.2.1 → s.nwin = nI n → n ≤ 120 → s.nres = nI r → r ≤ 400 → gu_ok o vo k v (fun i => bg_of (bg_st s0 o) (s0.oSize o) time t (nI i)) f i (s, r, n) → MI σ0 σ y (md y s) →
    rv_V G m_Model_row 0 0 (fun q σ' => q = some (.int 1) ∧ MI σ0 σ' y (md y (gu_run o vo k v (fun i => bg_of (bg_st s0 o) (s0.oSize o) time t (nI i)) f i (s, r, n)).1)) 381 [some (.ref y), some (.int xs), some (.int k), some (.int time), some (.int v), some (.int vo), some (.int v6), some (.int v7), some (.int v8), some (.int vk), v10, v11] [] σ 0 0 := by
  intro f
  induction f with
  | zero =>
    intro i vk v10 v11 s r n σ ei h1 hO en hn er hr hg h
    have hq := ops_eq hO o
    refine rv_V.run rv_gd_Model_row [381] 400 ?_
    refine And.intro (Exists.intro _ h.ob) ?_
    refine ⟨_, _, _, rt_beginOf time vk t eo ho h (by rw [hq.1]; exact h0) (by rw [hq.1, hq.2]; exact hok), Nat.zero_le _, Nat.zero_le _, rfl, ?_⟩
    rintro _ σ ⟨rfl, rfl⟩
    rw [hq.1, hq.2]
    refine And.intro (fun c1 => ?_) (fun c1 => ?_)
    · exact And.intro trivial ⟨rfl, h⟩
    · exact absurd (by rw [ei, show i = K by omega]; exact hK) c1
  | succ f ih =>
    intro i vk v10 v11 s r n σ ei h1 hO en hn er hr hg h
    have hq := ops_eq hO o
    obtain ⟨hg1, hg2⟩ := hg
    have at481 : ∀ (v10 v11 : Option Value) (s1 : Md) (r1 n1 : Nat) (σ : rv_S), gu_st o vo k v (bg_of (bg_st s0 o) (s0.oSize o) time t (nI i)) (s, r, n) = (s1, r1, n1) → s1.2.1 = s0.2.1 → s1.nwin = nI n1 → n1 ≤ 120 → s1.nres = nI r1 → r1 ≤ 400 → MI σ0 σ y (md y s1) → rv_V G m_Model_row 0 0 (fun q σ' => q = some (.int 1) ∧ MI σ0 σ' y (md y (gu_run o vo k v (fun i => bg_of (bg_st s0 o) (s0.oSize o) time t (nI i)) (f + 1) i (s, r, n)).1)) 481 [some (.ref y), some (.int xs), some (.int k), some (.int time), some (.int v), some (.int vo), some (.int v6), some (.int v7), some (.int v8), some (.int vk), v10, v11] [] σ 0 0 := by
      intro v10 v11 s1 r1 n1 σ e1 e2 e3 e4 e5 e6 h
      refine rv_V.run rv_gd_Model_row [381] 400 ?_
      have q := ih (i + 1) (vk + 1) v10 v11 s1 r1 n1 σ (by rw [ei]; exact nI_1 i) (by omega) e2 e3 e4 e5 e6 (by rw [← e1]; exact hg2) h
      rw [← e1] at q
      exact q
    refine rv_V.run rv_gd_Model_row [381, 467, 481] 400 ?_
    refine And.intro (Exists.intro _ h.ob) ?_
    refine ⟨_, _, _, rt_beginOf time vk t eo ho h (by rw [hq.1]; exact h0) (by rw [hq.1, hq.2]; exact hok), Nat.zero_le _, Nat.zero_le _, rfl, ?_⟩
    rintro _ σ ⟨rfl, rfl⟩
    rw [hq.1, hq.2]
    refine And.intro (fun c1 => ?_) (fun c1 => ?_)
    · exact absurd (show bg_of (bg_st s0 o) (s0.oSize o) time t (nI i) = -99999999 by rw [← ei]; exact c1) (hK2 i (by omega))
    refine And.intro (Exists.intro _ h.ob) ?_
    refine ⟨_, _, _, rt_beginOf time vk t eo ho h (by rw [hq.1]; exact h0) (by rw [hq.1, hq.2]; exact hok), Nat.zero_le _, Nat.zero_le _, rfl, ?_⟩
    rintro _ σ ⟨rfl, rfl⟩
    rw [hq.1, hq.2, ei]
    rw [ei] at at481
    dsimp only at hg1
    generalize hB : bg_of (bg_st s0 o) (s0.oSize o) time t (nI i) = b at hg1 at481 ⊢
    refine Exists.intro _ (And.intro h.ob ?_)
    refine h.l2 eo ho ?_
    refine And.intro (Exists.intro _ h.ob) ?_
    refine ⟨_, _, _, rt_isClosed h eo ho _, Nat.zero_le _, Nat.zero_le _, rfl, ?_⟩
    rintro _ σ ⟨rfl, rfl⟩
    refine And.intro (fun c2 => ?_) (fun c2 => ?_)
    · have hcl := of_decide_eq_false (rv_b0.mp c2)
      have at467 : ∀ (s1 : Md) (n1 w : Nat) (vw : Int32) (σ : rv_S), vw = nI w → w < 120 → gu_fo s o n vo k b = (s1, n1, w) → s1.2.1 = s0.2.1 → s1.wOp w = vo → s1.nwin = nI n1 → n1 ≤ 120 → s1.nres = nI r → MI σ0 σ y (md y s1) → rv_V G m_Model_row 0 0 (fun q σ' => q = some (.int 1) ∧ MI σ0 σ' y (md y (gu_run o vo k v (fun i => bg_of (bg_st s0 o) (s0.oSize o) time t (nI i)) (f + 1) i (s, r, n)).1)) 467 [some (.ref y), some (.int xs), some (.int k), some (.int time), some (.int v), some (.int vo), some (.int v6), some (.int v7), some (.int v8), some (.int (nI i)), some (.int b), some (.int vw)] [] σ 0 0 := by
        intro s1 n1 w vw σ ew hw e1 e2 e3 e4 e5 e6 h
        have hf := into_facts s1 w v
        have hn2 := foll_nres (s := md_into s1 w v) w o (hf.2.1.trans e6) hr
        refine rv_V.run rv_gd_Model_row [481] 400 ?_
        refine And.intro (Exists.intro _ h.ob) ?_
        refine ⟨_, _, _, rt_into v ew hw h, Nat.zero_le _, Nat.zero_le _, rfl, ?_⟩
        rintro _ σ ⟨rfl, h⟩
        refine And.intro (Exists.intro _ h.ob) ?_
        refine ⟨_, _, _, rt_follows (s := md_into s1 w v) ew hw (hf.2.1.trans e6) hr (by rw [hf.1, e3, eo]) ho h, Nat.zero_le _, Nat.zero_le _, rfl, ?_⟩
        rintro _ σ ⟨rfl, h⟩
        refine at481 _ _ (md_foll (md_into s1 w v) r w o) (fl_r (md_into s1 w v) r w o) n1 σ ?_ ((foll_O _ _ _ _).trans ((into_O _ _ _).trans e2)) ((foll_nwin _ _ _ _).trans (hf.2.2.trans e4)) e5 hn2.1 hn2.2 h
        unfold gu_st
        rw [if_neg hcl]
        dsimp only
        rw [e1]
      refine And.intro (Exists.intro _ h.ob) ?_
      refine ⟨_, _, _, rt_found vo k b en hn h, Nat.zero_le _, Nat.zero_le _, rfl, ?_⟩
      rintro _ σ ⟨rfl, rfl⟩
      cases hd : fd_run s vo k b n 0 with
      | none =>
        have hn1 : n < 120 := hg1 hcl hd
        refine And.intro (fun c3 => ?_) (fun c3 => absurd rfl c3)
        refine Exists.intro _ (And.intro h.ob ?_)
        refine h.l2 eo ho ?_
        refine And.intro (Exists.intro _ h.ob) ?_
        refine ⟨_, _, _, rt_made vo k b (b + s.oSize o) en hn1 h, Nat.zero_le _, Nat.zero_le _, rfl, ?_⟩
        rintro _ σ ⟨rfl, h⟩
        have hf := made_facts s n vo k b (b + s.oSize o)
        exact at467 (md_made s n vo k b (b + s.oSize o)) (n + 1) n _ σ rfl hn1 (by unfold gu_fo; rw [hd]) ((made_O _ _ _ _ _ _).trans hO) hf.1 (by rw [hf.2.2, en, nI_1]) (by omega) (hf.2.1.trans er) h
      | some w =>
        have hw := fd_lt s vo k b n 0 w hd
        refine And.intro (fun c3 => ?_) (fun c3 => ?_)
        · have := (oi_none (b := some w) (fun j hj => by cases hj; omega)).mp c3
          cases this
        · exact at467 s n w _ σ rfl (by omega) (by unfold gu_fo; rw [hd]) hO hw.2 en hn er h
    · refine at481 _ _ s r n σ ?_ hO en hn er hr h
      unfold gu_st
      rw [if_pos (of_decide_eq_true (rv_bn c2))]
