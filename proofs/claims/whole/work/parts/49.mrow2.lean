/-! THE REFERENCE: a row, from its judgement on -/
theorem ap_nrow (s : Md) (a : Nat) (vs k time v why : Int32) : (md_ap s a vs k time v why).nrow = s.nrow := by
  obtain ⟨a1, b, c, d, e, f⟩ := s
  rfl
theorem ud_nrow (s : Md) (e : Nat → Int32) (x v : Int32) : (((s.u_drp x).u_aRow e).u_nas v).nrow = s.nrow := by
  obtain ⟨a, b, c, d, e, f⟩ := s
  rfl
theorem pa_nrow (s : Md) (a b j : Nat) (vs k time v why : Int32) : (pa_run s a b j vs k time v why).2.nrow = s.nrow := by
  unfold pa_run
  split
  · split
    · rfl
    · split
      · rfl
      · exact (ap_nrow _ _ _ _ _ _ _).trans (ud_nrow _ _ _ _)
  · exact ap_nrow _ _ _ _ _ _ _
def ro_why (cl : Bool) : Int32 := if cl = true then 1 else 2
def ra_st (s : Md) (a b j m : Nat) (vs k time v why : Int32) : Md := if (pa_run s a b j vs k time v why).1 = true then md_came (pa_run s a b j vs k time v why).2 m j vs k time v false else (pa_run s a b j vs k time v why).2
set_option maxRecDepth 100000 in
theorem lp_rA {G : rv_G} {σ0 σ : rv_S} {y o a b j m : Nat} {s : Md} {vs k time v vo mo : Int32} {cl ba : Bool} {x9 x10 x11 : Option Value} (eo : vo = nI o) (ho : o < 5) (hc : cl = true ∨ (ba = true ∧ s.oRule o = 2)) (ej : vs = nI j) (hj : j < 10) (em : s.nrow = nI m) (hm : m < 300) (e : s.nas = nI a) (ha : a ≤ 100) (eb : s.bnd = nI b) (hb : b ≤ 100) (h : MI σ0 σ y (md y s)) :
    rv_V G m_Model_row 0 0 (fun q σ' => q = some (.int (if (pa_run s a b j vs k time v (ro_why cl)).1 = true then 0 else -2)) ∧ MI σ0 σ' y (md y (ra_st s a b j m vs k time v (ro_why cl)))) 272 [some (.ref y), some (.int vs), some (.int k), some (.int time), some (.int v), some (.int vo), some (.int (rv_b cl)), some (.int (rv_b ba)), some (.int mo), x9, x10, x11] [] σ 0 0 := by
  have at309 : ∀ why : Int32, why = ro_why cl → rv_V G m_Model_row 0 0 (fun q σ' => q = some (.int (if (pa_run s a b j vs k time v (ro_why cl)).1 = true then 0 else -2)) ∧ MI σ0 σ' y (md y (ra_st s a b j m vs k time v (ro_why cl)))) 309 [some (.ref y), some (.int vs), some (.int k), some (.int time), some (.int v), some (.int vo), some (.int (rv_b cl)), some (.int (rv_b ba)), some (.int mo), x9, x10, x11] [.int why, .int v, .int time, .int k, .int vs, .ref y] σ 0 0 := by
    intro why ew
    subst ew
    refine rv_V.run rv_gd_Model_row [] 400 ?_
    refine And.intro (Exists.intro _ h.ob) ?_
    refine ⟨_, _, _, rt_putAside k time v (ro_why cl) ej hj e ha eb hb h, Nat.zero_le _, Nat.zero_le _, rfl, ?_⟩
    rintro _ σ ⟨rfl, h⟩
    have hnr := pa_nrow s a b j vs k time v (ro_why cl)
    unfold ra_st
    generalize pa_run s a b j vs k time v (ro_why cl) = pr at h hnr ⊢
    refine And.intro (fun c1 => ?_) (fun c1 => ?_)
    · have hf : ¬ pr.1 = true := by rw [rv_b0.mp c1]; decide
      rw [if_neg hf, if_neg hf]
      exact And.intro trivial ⟨rfl, h⟩
    · have hf := rv_bn c1
      rw [if_pos hf, if_pos hf]
      refine And.intro (Exists.intro _ h.ob) ?_
      refine ⟨_, _, _, rt_came k time v false ej hj (hnr.trans em) hm h, Nat.zero_le _, Nat.zero_le _, rfl, ?_⟩
      rintro _ σ ⟨rfl, h⟩
      exact And.intro trivial ⟨rfl, h⟩
  have at293 : rv_V G m_Model_row 0 0 (fun q σ' => q = some (.int (if (pa_run s a b j vs k time v (ro_why cl)).1 = true then 0 else -2)) ∧ MI σ0 σ' y (md y (ra_st s a b j m vs k time v (ro_why cl)))) 293 [some (.ref y), some (.int vs), some (.int k), some (.int time), some (.int v), some (.int vo), some (.int (rv_b cl)), some (.int (rv_b ba)), some (.int mo), x9, x10, x11] [] σ 0 0 := by
    refine rv_V.run rv_gd_Model_row [309] 400 ?_
    refine And.intro (fun c1 => ?_) (fun c1 => ?_)
    · exact at309 2 (by unfold ro_why; rw [rv_b0.mp c1]; rfl)
    · exact at309 1 (by unfold ro_why; rw [rv_bn c1]; rfl)
  refine rv_V.run rv_gd_Model_row [293] 400 ?_
  refine And.intro (fun c1 => ?_) (fun c1 => ?_)
  · have hcl : ¬ cl = true := by rw [rv_b0.mp c1]; decide
    obtain ⟨hba, hru⟩ := hc.resolve_left hcl
    refine And.intro (fun c2 => ?_) (fun c2 => ?_)
    · rw [hba] at c2
      exact absurd c2 (by decide)
    refine Exists.intro _ (And.intro h.ob ?_)
    refine h.l5 eo ho ?_
    refine And.intro (fun c3 => ?_) (fun c3 => absurd hru c3)
    exact at293
  · exact at293
/-- judged in time: on to the counting of windows -/
theorem lp_r330 {G : rv_G} {σ0 σ : rv_S} {y o : Nat} {s : Md} {vs k time v vo mo : Int32} {cl ba : Bool} {x9 x10 x11 : Option Value} {Rt : Option Value → rv_S → Prop} (eo : vo = nI o) (ho : o < 5) (hc : ¬ (cl = true ∨ (ba = true ∧ s.oRule o = 2))) (h : MI σ0 σ y (md y s)) (next : rv_V G m_Model_row 0 0 Rt 330 [some (.ref y), some (.int vs), some (.int k), some (.int time), some (.int v), some (.int vo), some (.int (rv_b cl)), some (.int (rv_b ba)), some (.int mo), x9, x10, x11] [] σ 0 0) :
    rv_V G m_Model_row 0 0 Rt 272 [some (.ref y), some (.int vs), some (.int k), some (.int time), some (.int v), some (.int vo), some (.int (rv_b cl)), some (.int (rv_b ba)), some (.int mo), x9, x10, x11] [] σ 0 0 := by
  refine rv_V.run rv_gd_Model_row [293, 330] 400 ?_
  refine And.intro (fun c1 => ?_) (fun c1 => absurd (Or.inl (rv_bn c1)) hc)
  refine And.intro (fun c2 => next) (fun c2 => ?_)
  refine Exists.intro _ (And.intro h.ob ?_)
  refine h.l5 eo ho ?_
  exact And.intro (fun c3 => absurd (Or.inr ⟨rv_bn c2, c3⟩) hc) (fun c3 => next)
set_option maxRecDepth 100000 in
theorem lp_rB {G : rv_G} {σ0 σ : rv_S} {y : Nat} {s : Md} {vs k time v vo mo v6 v7 : Int32} {x9 x10 x11 : Option Value} (hfull : 120 < s.nwin + mo) (h : MI σ0 σ y (md y s)) :
    rv_V G m_Model_row 0 0 (fun q σ' => q = some (.int (-3)) ∧ MI σ0 σ' y (md y s)) 330 [some (.ref y), some (.int vs), some (.int k), some (.int time), some (.int v), some (.int vo), some (.int v6), some (.int v7), some (.int mo), x9, x10, x11] [] σ 0 0 := by
  refine rv_V.run rv_gd_Model_row [] 400 ?_
  refine Exists.intro _ (And.intro h.ob ?_)
  refine And.intro (fun c1 => absurd hfull (Int32.not_lt.mpr c1)) (fun c1 => ?_)
  exact And.intro trivial ⟨rfl, h⟩
