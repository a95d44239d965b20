/-! THE REFERENCE: promise, end -/
set_option maxRecDepth 100000 in
theorem rt_promise_bad {G : rv_G} {σ0 σ : rv_S} {y n : Nat} {s : Md} {x t : Int32} (es : s.nsr = nI n) (hs : n ≤ 10) (ho : ¬ ((∃ j, j < n ∧ x = nI j) ∧ rv_in t 0 999999999 = true)) (h : MI σ0 σ y (md y s)) : rv_Ct G i_Model_promise 0 0 [.ref y, .int x, .int t] σ (fun q σ' => q = some (.int (-1)) ∧ σ' = σ) := by
  refine rv_ct (M := m_Model_promise) rfl (by decide) rfl rfl ?_
  refine rv_V.run rv_gd_Model_promise [] 400 ?_
  refine And.intro (Exists.intro _ h.ob) ?_
  refine ⟨_, _, _, rt_isSource x h, Nat.zero_le _, Nat.zero_le _, rfl, ?_⟩
  rintro _ σ ⟨rfl, rfl⟩
  refine And.intro (fun c1 => ?_) (fun c1 => ?_)
  · exact And.intro trivial ⟨rfl, rfl⟩
  have h1 := rv_bn c1
  rw [es] at h1
  refine ⟨_, _, _, rt_in t 0 999999999, Nat.zero_le _, Nat.zero_le _, rfl, ?_⟩
  rintro _ σ ⟨rfl, rfl⟩
  refine And.intro (fun c2 => ?_) (fun c2 => ?_)
  · exact And.intro trivial ⟨rfl, rfl⟩
  · exact absurd ⟨(in_nI (by omega)).mp h1, rv_bn c2⟩ ho
def pm_ans (s : Md) (o n ns r : Nat) : Int32 := if ml_run s o ns 0 1000000000 ≤ s.oMark o then 0 else (mo_run s o n ns r).ever - s.ever
def pm_st (s : Md) (o n ns r : Nat) : Md := if ml_run s o ns 0 1000000000 ≤ s.oMark o then s else mo_run s o n ns r
set_option maxRecDepth 100000 in
theorem rt_promise {G : rv_G} {σ0 σ : rv_S} {y ns n r i o : Nat} {s : Md} {x t : Int32} (es : s.nsr = nI ns) (hs : ns ≤ 10) (hi : i < ns) (ex : x = nI i) (ht : rv_in t 0 999999999 = true) (eo : s.sOp i = nI o) (ho : o < 5) (en : s.nwin = nI n) (hn : n ≤ 120) (er : s.nres = nI r) (hr : r ≤ 400) (h : MI σ0 σ y (md y s)) (hok : td_ok o n 120 ((s.u_sProm (upd s.sProm i t)).u_oMark (upd s.oMark o (ml_run (s.u_sProm (upd s.sProm i t)) o ns 0 1000000000)), r)) :
    rv_Ct G i_Model_promise 0 0 [.ref y, .int x, .int t] σ (fun q σ' => q = some (.int (if t < s.sProm i ∨ s.sEnd i = true then -2 else pm_ans (s.u_sProm (upd s.sProm i t)) o n ns r)) ∧ MI σ0 σ' y (md y (if t < s.sProm i ∨ s.sEnd i = true then s else pm_st (s.u_sProm (upd s.sProm i t)) o n ns r))) := by
  have hi10 : i < 10 := by omega
  refine rv_ct (M := m_Model_promise) rfl (by decide) rfl rfl ?_
  refine rv_V.run rv_gd_Model_promise [] 400 ?_
  refine And.intro (Exists.intro _ h.ob) ?_
  refine ⟨_, _, _, rt_isSource x h, Nat.zero_le _, Nat.zero_le _, rfl, ?_⟩
  rintro _ σ ⟨rfl, rfl⟩
  refine And.intro (fun c1 => ?_) (fun c1 => ?_)
  · have := rv_b0.mp c1
    rw [es, (in_nI (by omega)).mpr ⟨i, hi, ex⟩] at this
    cases this
  refine ⟨_, _, _, rt_in t 0 999999999, Nat.zero_le _, Nat.zero_le _, rfl, ?_⟩
  rintro _ σ ⟨rfl, rfl⟩
  refine And.intro (fun c2 => ?_) (fun c2 => ?_)
  · have := rv_b0.mp c2
    rw [ht] at this
    cases this
  refine Exists.intro _ (And.intro h.ob ?_)
  refine h.l8 ex hi10 ?_
  refine And.intro (fun c3 => ?_) (fun c3 => ?_)
  · rw [if_pos (Or.inl c3), if_pos (Or.inl c3)]
    exact And.intro trivial ⟨rfl, h⟩
  refine Exists.intro _ (And.intro h.ob ?_)
  refine h.l9 ex hi10 ?_
  refine And.intro (fun c4 => ?_) (fun c4 => ?_)
  · have hno : ¬ (t < s.sProm i ∨ s.sEnd i = true) := fun z => z.elim c3 (fun z => by rw [rv_b0.mp c4] at z; cases z)
    rw [if_neg hno, if_neg hno]
    refine Exists.intro _ (And.intro h.ob ?_)
    refine h.s8 ex hi10 (fun σ h => ?_)
    refine Exists.intro _ (And.intro h.ob ?_)
    refine h.l7 ex hi10 ?_
    refine And.intro (Exists.intro _ h.ob) ?_
    refine ⟨_, _, _, rt_moves (s := s.u_sProm (upd s.sProm i t)) (vo := s.sOp i) eo ho es hs en hn er hr hok h, Nat.zero_le _, Nat.zero_le _, rfl, ?_⟩
    rintro _ σ ⟨rfl, h⟩
    exact And.intro trivial ⟨rfl, h⟩
  · have hyes : t < s.sProm i ∨ s.sEnd i = true := Or.inr (rv_bn c4)
    rw [if_pos hyes, if_pos hyes]
    exact And.intro trivial ⟨rfl, h⟩
set_option maxRecDepth 100000 in
theorem rt_end_bad {G : rv_G} {σ0 σ : rv_S} {y n : Nat} {s : Md} {x : Int32} (es : s.nsr = nI n) (hs : n ≤ 10) (ho : ¬ ∃ j, j < n ∧ x = nI j) (h : MI σ0 σ y (md y s)) : rv_Ct G i_Model_end 0 0 [.ref y, .int x] σ (fun q σ' => q = some (.int (-1)) ∧ σ' = σ) := by
  refine rv_ct (M := m_Model_end) rfl (by decide) rfl rfl ?_
  refine rv_V.run rv_gd_Model_end [] 400 ?_
  refine And.intro (Exists.intro _ h.ob) ?_
  refine ⟨_, _, _, rt_isSource x h, Nat.zero_le _, Nat.zero_le _, rfl, ?_⟩
  rintro _ σ ⟨rfl, rfl⟩
  refine And.intro (fun c1 => ?_) (fun c1 => ?_)
  · exact And.intro trivial ⟨rfl, rfl⟩
  have h1 := rv_bn c1
  rw [es] at h1
  exact absurd ((in_nI (by omega)).mp h1) ho
set_option maxRecDepth 100000 in
theorem rt_end {G : rv_G} {σ0 σ : rv_S} {y ns n r i o : Nat} {s : Md} {x : Int32} (es : s.nsr = nI ns) (hs : ns ≤ 10) (hi : i < ns) (ex : x = nI i) (eo : s.sOp i = nI o) (ho : o < 5) (en : s.nwin = nI n) (hn : n ≤ 120) (er : s.nres = nI r) (hr : r ≤ 400) (h : MI σ0 σ y (md y s)) (hok : td_ok o n 120 ((s.u_sEnd (va_up s.sEnd i true)).u_oMark (upd s.oMark o (ml_run (s.u_sEnd (va_up s.sEnd i true)) o ns 0 1000000000)), r)) :
    rv_Ct G i_Model_end 0 0 [.ref y, .int x] σ (fun q σ' => q = some (.int (if s.sEnd i = true then -2 else pm_ans (s.u_sEnd (va_up s.sEnd i true)) o n ns r)) ∧ MI σ0 σ' y (md y (if s.sEnd i = true then s else pm_st (s.u_sEnd (va_up s.sEnd i true)) o n ns r))) := by
  have hi10 : i < 10 := by omega
  refine rv_ct (M := m_Model_end) rfl (by decide) rfl rfl ?_
  refine rv_V.run rv_gd_Model_end [] 400 ?_
  refine And.intro (Exists.intro _ h.ob) ?_
  refine ⟨_, _, _, rt_isSource x h, Nat.zero_le _, Nat.zero_le _, rfl, ?_⟩
  rintro _ σ ⟨rfl, rfl⟩
  refine And.intro (fun c1 => ?_) (fun c1 => ?_)
  · have := rv_b0.mp c1
    rw [es, (in_nI (by omega)).mpr ⟨i, hi, ex⟩] at this
    cases this
  refine Exists.intro _ (And.intro h.ob ?_)
  refine h.l9 ex hi10 ?_
  refine And.intro (fun c4 => ?_) (fun c4 => ?_)
  · have hno : ¬ s.sEnd i = true := fun z => by rw [rv_b0.mp c4] at z; cases z
    rw [if_neg hno, if_neg hno]
    refine Exists.intro _ (And.intro h.ob ?_)
    refine h.s9 ex hi10 true rfl (fun σ h => ?_)
    refine Exists.intro _ (And.intro h.ob ?_)
    refine h.l7 ex hi10 ?_
    refine And.intro (Exists.intro _ h.ob) ?_
    refine ⟨_, _, _, rt_moves (s := s.u_sEnd (va_up s.sEnd i true)) (vo := s.sOp i) eo ho es hs en hn er hr hok h, Nat.zero_le _, Nat.zero_le _, rfl, ?_⟩
    rintro _ σ ⟨rfl, h⟩
    exact And.intro trivial ⟨rfl, h⟩
  · have hyes : s.sEnd i = true := rv_bn c4
    rw [if_pos hyes, if_pos hyes]
    exact And.intro trivial ⟨rfl, h⟩
