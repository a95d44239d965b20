/-! THE REFERENCE: a number comes into a window -/
def md_in1 (s : Md) (w : Nat) (l : Int32) : Md := s.u_wLeast (upd s.wLeast w l)
def md_in2 (s : Md) (w : Nat) (l : Int32) : Md := s.u_wMost (upd s.wMost w l)
def md_in3 (s : Md) (w : Nat) (v : Int32) : Md :=
  let s := s.u_wMany (upd s.wMany w (((s.wMany w) + 1)))
  let s := s.u_wSum (vp_updL s.wSum w (((s.wSum w) + v.toInt64)))
  let s := s.u_wCame (va_up s.wCame w true)
  s
def md_into (s : Md) (w : Nat) (v : Int32) : Md := md_in3 (md_in2 (md_in1 s w (if s.wMany w = 0 ∨ v < s.wLeast w then v else s.wLeast w)) w (if s.wMany w = 0 ∨ s.wMost w < v then v else s.wMost w)) w v
set_option maxRecDepth 100000 in
theorem lp_into3 {G : rv_G} {σ0 σ : rv_S} {y w : Nat} {s : Md} {vw v : Int32} (ew : vw = nI w) (hw : w < 120) (h : MI σ0 σ y (md y s)) :
    rv_V G m_Model_into 0 0 (fun q σ' => q = none ∧ MI σ0 σ' y (md y (md_in3 s w v))) 70 [some (.ref y), some (.int vw), some (.int v)] [] σ 0 0 := by
  refine rv_V.run rv_gd_Model_into [] 400 ?_
  refine Exists.intro _ (And.intro h.ob ?_)
  refine h.l24 ew hw ?_
  refine h.s24 ew hw (fun σ h => ?_)
  refine Exists.intro _ (And.intro h.ob ?_)
  refine h.l25 ew hw ?_
  refine h.s25 ew hw (fun σ h => ?_)
  refine Exists.intro _ (And.intro h.ob ?_)
  refine h.s29 ew hw true rfl (fun σ h => ?_)
  exact ⟨rfl, h⟩
set_option maxRecDepth 100000 in
theorem lp_into2 {G : rv_G} {σ0 σ : rv_S} {y w : Nat} {s : Md} {vw v : Int32} (ew : vw = nI w) (hw : w < 120) (h : MI σ0 σ y (md y s)) :
    rv_V G m_Model_into 0 0 (fun q σ' => q = none ∧ MI σ0 σ' y (md y (md_in3 (md_in2 s w (if s.wMany w = 0 ∨ s.wMost w < v then v else s.wMost w)) w v))) 35 [some (.ref y), some (.int vw), some (.int v)] [] σ 0 0 := by
  refine rv_V.run rv_gd_Model_into [70] 400 ?_
  refine Exists.intro _ (And.intro h.ob ?_)
  refine Exists.intro _ (And.intro h.ob ?_)
  refine h.l24 ew hw ?_
  refine And.intro (fun c1 => ?_) (fun c1 => ?_)
  · refine h.s27 ew hw (fun σ h => ?_)
    rw [if_pos (Or.inl c1)]
    exact lp_into3 ew hw h
  · refine Exists.intro _ (And.intro h.ob ?_)
    refine h.l27 ew hw ?_
    refine And.intro (fun c2 => ?_) (fun c2 => ?_)
    · refine Exists.intro _ (And.intro h.ob ?_)
      refine h.l27 ew hw ?_
      refine h.s27 ew hw (fun σ h => ?_)
      rw [if_neg (fun z => z.elim c1 (Int32.not_lt.mpr c2))]
      exact lp_into3 ew hw h
    · refine h.s27 ew hw (fun σ h => ?_)
      rw [if_pos (Or.inr (Int32.not_le.mp c2))]
      exact lp_into3 ew hw h
set_option maxRecDepth 100000 in
theorem rt_into {G : rv_G} {σ0 σ : rv_S} {y w : Nat} {s : Md} {vw : Int32} (v : Int32) (ew : vw = nI w) (hw : w < 120) (h : MI σ0 σ y (md y s)) :
    rv_Ct G i_Model_into 0 0 [.ref y, .int vw, .int v] σ (fun q σ' => q = none ∧ MI σ0 σ' y (md y (md_into s w v))) := by
  have go : ∀ (l : Int32) (σ : rv_S), MI σ0 σ y (md y (md_in1 s w l)) → l = (if s.wMany w = 0 ∨ v < s.wLeast w then v else s.wLeast w) → rv_V G m_Model_into 0 0 (fun q σ' => q = none ∧ MI σ0 σ' y (md y (md_into s w v))) 35 [some (.ref y), some (.int vw), some (.int v)] [] σ 0 0 := by
    intro l σ h el
    subst el
    exact lp_into2 ew hw h
  refine rv_ct (M := m_Model_into) rfl (by decide) rfl rfl ?_
  refine rv_V.run rv_gd_Model_into [35] 400 ?_
  refine Exists.intro _ (And.intro h.ob ?_)
  refine Exists.intro _ (And.intro h.ob ?_)
  refine h.l24 ew hw ?_
  refine And.intro (fun c1 => ?_) (fun c1 => ?_)
  · refine h.s26 ew hw (fun σ h => ?_)
    exact go _ σ h (by rw [if_pos (Or.inl c1)])
  · refine Exists.intro _ (And.intro h.ob ?_)
    refine h.l26 ew hw ?_
    refine And.intro (fun c2 => ?_) (fun c2 => ?_)
    · refine Exists.intro _ (And.intro h.ob ?_)
      refine h.l26 ew hw ?_
      refine h.s26 ew hw (fun σ h => ?_)
      exact go _ σ h (by rw [if_neg (fun z => z.elim c1 (Int32.not_lt.mpr c2))])
    · refine h.s26 ew hw (fun σ h => ?_)
      exact go _ σ h (by rw [if_pos (Or.inr (Int32.not_le.mp c2))])
/-! how many results there are then -/
def rq (r : Nat) : Nat := if r = 400 then 400 else r + 1
theorem rq_le {r : Nat} (h : r ≤ 400) : rq r ≤ 400 := by unfold rq; split <;> omega
theorem put_nres (s : Md) (r w : Nat) (sg : Int32) (t : Tl) : (md_put s r w sg t).nres = s.nres + 1 := by
  obtain ⟨a, b, c, d, e, f⟩ := s
  rfl
theorem res_nres {s : Md} {r : Nat} (w : Nat) (sg : Int32) (t : Tl) (er : s.nres = nI r) : (md_res s r w sg t).nres = nI (rq r) := by
  unfold md_res rq
  by_cases h : r = 400
  · rw [if_pos h, if_pos h, put_nres, show ((s.u_eRow (sh_run 3591 0 s.eRow)).u_nres (s.nres - 1)).nres = s.nres - 1 from rfl, er, h, nI_pred 399]
    rfl
  · rw [if_neg h, if_neg h, put_nres, er, nI_1]
theorem told_nres (s : Md) (w : Nat) : (md_told s w).nres = s.nres := by
  obtain ⟨a, b, c, d, e, f⟩ := s
  rfl
theorem back_nres {s : Md} {r : Nat} (w : Nat) (er : s.nres = nI r) : (md_back s r w).nres = nI (rq r) := res_nres w _ _ er
theorem tell_nres {s : Md} {r : Nat} (w : Nat) (er : s.nres = nI r) : (md_tell s r w).nres = nI (rq r) := (told_nres _ w).trans (res_nres w _ _ er)
/-- what follows of a number that came -/
def md_foll (s : Md) (r w o : Nat) : Md := if s.wTold w = true then (if s.oRule o = 1 then s else md_tell (md_back s r w) (rq r) w) else (if s.wEnd w ≤ s.oMark o then md_tell s r w else s)
set_option maxRecDepth 100000 in
theorem rt_follows {G : rv_G} {σ0 σ : rv_S} {y w r o : Nat} {s : Md} {vw : Int32} (ew : vw = nI w) (hw : w < 120) (er : s.nres = nI r) (hr : r ≤ 400) (eo : s.wOp w = nI o) (ho : o < 5) (h : MI σ0 σ y (md y s)) :
    rv_Ct G i_Model_follows 0 0 [.ref y, .int vw] σ (fun q σ' => q = none ∧ MI σ0 σ' y (md y (md_foll s r w o))) := by
  refine rv_ct (M := m_Model_follows) rfl (by decide) rfl rfl ?_
  refine rv_V.run rv_gd_Model_follows [] 400 ?_
  refine Exists.intro _ (And.intro h.ob ?_)
  refine h.l20 ew hw ?_
  refine Exists.intro _ (And.intro h.ob ?_)
  refine h.l28 ew hw ?_
  refine And.intro (fun c1 => ?_) (fun c1 => ?_)
  · have ht : ¬ s.wTold w = true := by rw [rv_b0.mp c1]; decide
    refine Exists.intro _ (And.intro h.ob ?_)
    refine h.l23 ew hw ?_
    refine Exists.intro _ (And.intro h.ob ?_)
    refine h.l6 eo ho ?_
    refine And.intro (fun c2 => ?_) (fun c2 => ?_)
    · refine ⟨rfl, ?_⟩
      rw [show md_foll s r w o = s from (if_neg ht).trans (if_neg (Int32.not_le.mpr c2))]
      exact h
    · refine And.intro (Exists.intro _ h.ob) ?_
      refine ⟨_, _, _, rt_tell ew hw er hr h, Nat.zero_le _, Nat.zero_le _, rfl, ?_⟩
      rintro _ σ ⟨rfl, h⟩
      refine ⟨rfl, ?_⟩
      rw [show md_foll s r w o = md_tell s r w from (if_neg ht).trans (if_pos (Int32.not_lt.mp c2))]
      exact h
  · have ht : s.wTold w = true := rv_bn c1
    refine Exists.intro _ (And.intro h.ob ?_)
    refine h.l5 eo ho ?_
    refine And.intro (fun c2 => ?_) (fun c2 => ?_)
    · refine ⟨rfl, ?_⟩
      rw [show md_foll s r w o = s from (if_pos ht).trans (if_pos c2)]
      exact h
    · refine And.intro (Exists.intro _ h.ob) ?_
      refine ⟨_, _, _, rt_takeBack ew hw er hr h, Nat.zero_le _, Nat.zero_le _, rfl, ?_⟩
      rintro _ σ ⟨rfl, h⟩
      refine And.intro (Exists.intro _ h.ob) ?_
      refine ⟨_, _, _, rt_tell ew hw (back_nres w er) (rq_le hr) h, Nat.zero_le _, Nat.zero_le _, rfl, ?_⟩
      rintro _ σ ⟨rfl, h⟩
      refine ⟨rfl, ?_⟩
      rw [show md_foll s r w o = md_tell (md_back s r w) (rq r) w from (if_pos ht).trans (if_neg c2)]
      exact h
def mt_is (s : Md) (w : Nat) (o k b e : Int32) : Bool := decide (s.wOp w = o ∧ s.wKey w = k ∧ s.wBeg w < e ∧ b < s.wEnd w)
set_option maxRecDepth 100000 in
theorem rt_meets {G : rv_G} {σ0 σ : rv_S} {y w : Nat} {s : Md} {vw : Int32} (vo k b e : Int32) (ew : vw = nI w) (hw : w < 120) (h : MI σ0 σ y (md y s)) :
    rv_Ct G i_Model_meets 0 0 [.ref y, .int vw, .int vo, .int k, .int b, .int e] σ (fun q σ' => q = some (.int (rv_b (mt_is s w vo k b e))) ∧ σ' = σ) := by
  have no : ¬ (s.wOp w = vo ∧ s.wKey w = k ∧ s.wBeg w < e ∧ b < s.wEnd w) → rv_V G m_Model_meets 0 0 (fun q σ' => q = some (.int (rv_b (mt_is s w vo k b e))) ∧ σ' = σ) 46 [some (.ref y), some (.int vw), some (.int vo), some (.int k), some (.int b), some (.int e)] [] σ 0 0 := by
    intro hno
    refine rv_V.run rv_gd_Model_meets [] 400 ?_
    refine And.intro (Or.inl rfl) ⟨?_, rfl⟩
    rw [show mt_is s w vo k b e = false from decide_eq_false hno]; rfl
  refine rv_ct (M := m_Model_meets) rfl (by decide) rfl rfl ?_
  refine rv_V.run rv_gd_Model_meets [46] 400 ?_
  refine Exists.intro _ (And.intro h.ob ?_)
  refine h.l20 ew hw ?_
  refine And.intro (fun c1 => ?_) (fun c1 => no (fun z => c1 z.1))
  refine Exists.intro _ (And.intro h.ob ?_)
  refine h.l21 ew hw ?_
  refine And.intro (fun c2 => ?_) (fun c2 => no (fun z => c2 z.2.1))
  refine Exists.intro _ (And.intro h.ob ?_)
  refine h.l22 ew hw ?_
  refine And.intro (fun c3 => no (fun z => Int32.not_lt.mpr c3 z.2.2.1)) (fun c3 => ?_)
  refine Exists.intro _ (And.intro h.ob ?_)
  refine h.l23 ew hw ?_
  refine And.intro (fun c4 => no (fun z => Int32.not_lt.mpr c4 z.2.2.2)) (fun c4 => ?_)
  refine And.intro (Or.inr rfl) ⟨?_, rfl⟩
  rw [show mt_is s w vo k b e = true from decide_eq_true ⟨c1, c2, Int32.not_le.mp c3, Int32.not_le.mp c4⟩]; rfl
