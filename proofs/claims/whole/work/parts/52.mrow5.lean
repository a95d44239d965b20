/-! THE REFERENCE: a row of GAPS is judged -/
theorem jo_st_same (s : Md) (w : Nat) : (jo_st s w).2.1 = s.2.1 ∧ (jo_st s w).nres = s.nres := by
  unfold jo_st
  obtain ⟨a, b, c, d, e, f⟩ := s
  dsimp only
  split <;> split <;> exact ⟨rfl, rfl⟩
theorem jo_run_same (vo k b e : Int32) : ∀ (t w : Nat) (s : Md), (jo_run vo k b e t w s).2.1 = s.2.1 ∧ (jo_run vo k b e t w s).nres = s.nres ∧ (jo_run vo k b e t w s).nwin = s.nwin
  | 0, _, _ => ⟨rfl, rfl, rfl⟩
  | t + 1, w, s => by
    have h1 := jo_run_same vo k b e t (w + 1) (if mt_is s w vo k b e = true then jo_st s w else s)
    have h2 : (if mt_is s w vo k b e = true then jo_st s w else s).2.1 = s.2.1 ∧ (if mt_is s w vo k b e = true then jo_st s w else s).nres = s.nres ∧ (if mt_is s w vo k b e = true then jo_st s w else s).nwin = s.nwin := by
      split
      · exact ⟨(jo_st_same s w).1, (jo_st_same s w).2, jo_st_nwin s w⟩
      · exact ⟨rfl, rfl, rfl⟩
    exact ⟨h1.1.trans h2.1, h1.2.1.trans h2.2.1, h1.2.2.trans h2.2.2⟩
set_option maxRecDepth 100000 in
theorem lp_row_gaps {G : rv_G} {σ0 σ : rv_S} {y o n : Nat} {s : Md} {vo x k time v : Int32} {Rt : Option Value → rv_S → Prop} (eo : vo = nI o) (ho : o < 5) (en : s.nwin = nI n) (hn : n ≤ 120) (h : MI σ0 σ y (md y s))
    (next : ∀ (s1 : Md) (σ : rv_S), s1 = jo_run vo k time (time + s.oSize o) n 0 (jo_0 s o time) → MI σ0 σ y (md y s1) → rv_V G m_Model_row 0 0 Rt 272 [some (.ref y), some (.int x), some (.int k), some (.int time), some (.int v), some (.int vo), some (.int (rv_b (decide (s1.fE + s1.oLt o ≤ s1.oMark o)))), some (.int (rv_b (decide (s1.fE ≤ s1.oMark o) || s1.jT))), some (.int (if s1.jn = 0 then 1 else 0)), none, none, none] [] σ 0 0) :
    rv_V G m_Model_row 0 0 Rt 92 [some (.ref y), some (.int x), some (.int k), some (.int time), some (.int v), some (.int vo), some (.int (rv_b true)), some (.int (rv_b false)), some (.int 0), none, none, none] [] σ 0 0 := by
  refine rv_V.run rv_gd_Model_row [100] 400 ?_
  refine And.intro (Exists.intro _ h.ob) ?_
  refine ⟨_, _, _, rt_joined k time eo ho en hn h, Nat.zero_le _, Nat.zero_le _, rfl, ?_⟩
  rintro _ σ ⟨rfl, h⟩
  have nx := next _ σ rfl h
  generalize jo_run vo k time (time + s.oSize o) n 0 (jo_0 s o time) = s1 at h nx ⊢
  have at140 : ∀ ba : Bool, ba = (decide (s1.fE ≤ s1.oMark o) || s1.jT) → rv_V G m_Model_row 0 0 Rt 140 [some (.ref y), some (.int x), some (.int k), some (.int time), some (.int v), some (.int vo), some (.int (rv_b (decide (s1.fE + s1.oLt o ≤ s1.oMark o)))), some (.int (rv_b ba)), some (.int 0), none, none, none] [] σ 0 0 := by
    intro ba e1
    rw [← e1] at nx
    refine rv_V.run rv_gd_Model_row [272] 400 ?_
    refine Exists.intro _ (And.intro h.ob ?_)
    refine And.intro (fun c1 => ?_) (fun c1 => ?_)
    · rw [if_pos c1] at nx
      exact nx
    · rw [if_neg c1] at nx
      exact nx
  refine rv_V.run rv_gd_Model_row [140] 400 ?_
  refine Exists.intro _ (And.intro h.ob ?_)
  refine And.intro (Exists.intro _ h.ob) ?_
  refine ⟨_, _, _, rt_isClosed h eo ho _, Nat.zero_le _, Nat.zero_le _, rfl, ?_⟩
  rintro _ σ ⟨rfl, rfl⟩
  refine Exists.intro _ (And.intro h.ob ?_)
  refine Exists.intro _ (And.intro h.ob ?_)
  refine h.l6 eo ho ?_
  refine And.intro (fun c1 => ?_) (fun c1 => ?_)
  · exact at140 true (by rw [decide_eq_true c1]; rfl)
  · refine Exists.intro _ (And.intro h.ob ?_)
    refine And.intro (fun c2 => ?_) (fun c2 => ?_)
    · exact at140 false (by rw [decide_eq_false c1, rv_b0.mp c2]; rfl)
    · exact at140 true (by rw [rv_bn c2]; simp)
