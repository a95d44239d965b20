/-! THE REFERENCE: operators and sources -/
def md_op (s : Md) (n : Nat) (k sz st l r : Int32) : Md :=
  let s := s.u_oKind (upd s.oKind n (k))
  let s := s.u_oSize (upd s.oSize n (sz))
  let s := s.u_oStep (upd s.oStep n (st))
  let s := s.u_oLt (upd s.oLt n (l))
  let s := s.u_oRule (upd s.oRule n (r))
  let s := s.u_nop ((s.nop + 1))
  s
def op_ok (k sz st l r : Int32) : Bool := rv_in k 0 2 && (rv_in r 0 2 && (rv_in sz 1 1000000 && (rv_in st 1 1000000 && (rv_in l 0 1000000 && !(decide (k = 1) && (decide (sz < st) || decide (8 * st < sz)))))))
set_option maxRecDepth 100000 in
theorem rt_operator {G : rv_G} {σ0 σ : rv_S} {y n : Nat} {s : Md} (k sz st l r : Int32) (en : s.nop = nI n) (hn5 : n ≤ 5) (h : MI σ0 σ y (md y s)) :
    rv_Ct G i_Model_operator 0 0 [.ref y, .int k, .int sz, .int st, .int l, .int r] σ (fun q σ' => q = some (.int (if op_ok k sz st l r = true then (if n = 5 then -3 else nI n) else -1)) ∧ MI σ0 σ' y (md y (if op_ok k sz st l r = true ∧ ¬ n = 5 then md_op s n k sz st l r else s))) := by
  have bad : ∀ σ : rv_S, MI σ0 σ y (md y s) → op_ok k sz st l r = false → (some (Value.int (-1)) = some (Value.int (if op_ok k sz st l r = true then (if n = 5 then -3 else nI n) else -1)) ∧ MI σ0 σ y (md y (if op_ok k sz st l r = true ∧ ¬ n = 5 then md_op s n k sz st l r else s))) := by
    intro σ h hb
    have hno : ¬ op_ok k sz st l r = true := by rw [hb]; decide
    rw [if_neg hno, if_neg (fun z => hno z.1)]
    exact ⟨rfl, h⟩
  refine rv_ct (M := m_Model_operator) rfl (by decide) rfl rfl ?_
  refine rv_V.run rv_gd_Model_operator [72] 400 ?_
  refine ⟨_, _, _, rt_in k 0 2, Nat.zero_le _, Nat.zero_le _, rfl, ?_⟩
  rintro _ σ ⟨rfl, rfl⟩
  refine And.intro (fun c0 => And.intro trivial (bad σ h (by unfold op_ok; rw [rv_b0.mp c0]; rfl))) (fun c0 => ?_)
  refine ⟨_, _, _, rt_in r 0 2, Nat.zero_le _, Nat.zero_le _, rfl, ?_⟩
  rintro _ σ ⟨rfl, rfl⟩
  refine And.intro (fun c1 => And.intro trivial (bad σ h (by unfold op_ok; rw [rv_bn c0, rv_b0.mp c1]; rfl))) (fun c1 => ?_)
  refine ⟨_, _, _, rt_in sz 1 1000000, Nat.zero_le _, Nat.zero_le _, rfl, ?_⟩
  rintro _ σ ⟨rfl, rfl⟩
  refine And.intro (fun c2 => And.intro trivial (bad σ h (by unfold op_ok; rw [rv_bn c0, rv_bn c1, rv_b0.mp c2]; rfl))) (fun c2 => ?_)
  refine ⟨_, _, _, rt_in st 1 1000000, Nat.zero_le _, Nat.zero_le _, rfl, ?_⟩
  rintro _ σ ⟨rfl, rfl⟩
  refine And.intro (fun c3 => And.intro trivial (bad σ h (by unfold op_ok; rw [rv_bn c0, rv_bn c1, rv_bn c2, rv_b0.mp c3]; rfl))) (fun c3 => ?_)
  refine ⟨_, _, _, rt_in l 0 1000000, Nat.zero_le _, Nat.zero_le _, rfl, ?_⟩
  rintro _ σ ⟨rfl, rfl⟩
  refine And.intro (fun c4 => And.intro trivial (bad σ h (by unfold op_ok; rw [rv_bn c0, rv_bn c1, rv_bn c2, rv_bn c3, rv_b0.mp c4]; rfl))) (fun c4 => ?_)
  have rest : (decide (k = 1) && (decide (sz < st) || decide (8 * st < sz))) = false → rv_V G m_Model_operator 0 0 (fun q σ' => q = some (.int (if op_ok k sz st l r = true then (if n = 5 then -3 else nI n) else -1)) ∧ MI σ0 σ' y (md y (if op_ok k sz st l r = true ∧ ¬ n = 5 then md_op s n k sz st l r else s))) 72 [some (.ref y), some (.int k), some (.int sz), some (.int st), some (.int l), some (.int r)] [] σ 0 0 := by
    intro hz
    have hyes : op_ok k sz st l r = true := by unfold op_ok; rw [rv_bn c0, rv_bn c1, rv_bn c2, rv_bn c3, rv_bn c4, hz]; rfl
    rw [if_pos hyes]
    refine rv_V.run rv_gd_Model_operator [] 400 ?_
    refine Exists.intro _ (And.intro h.ob ?_)
    refine And.intro (fun c7 => ?_) (fun c7 => ?_)
    · have h5 : n = 5 := (nI_eq (b := 5) (by omega) (by decide)).mp (en.symm.trans c7)
      rw [if_pos h5, if_neg (fun z => z.2 h5)]
      exact And.intro trivial ⟨rfl, h⟩
    · have h5 : ¬ n = 5 := fun z => c7 (by show s.nop = 5; rw [en, z]; rfl)
      have hn : n < 5 := by omega
      rw [if_neg h5, if_pos ⟨hyes, h5⟩]
      refine Exists.intro _ (And.intro h.ob ?_)
      refine Exists.intro _ (And.intro h.ob ?_)
      refine h.s1 en hn (fun σ h => ?_)
      refine Exists.intro _ (And.intro h.ob ?_)
      refine Exists.intro _ (And.intro h.ob ?_)
      refine h.s2 en hn (fun σ h => ?_)
      refine Exists.intro _ (And.intro h.ob ?_)
      refine Exists.intro _ (And.intro h.ob ?_)
      refine h.s3 en hn (fun σ h => ?_)
      refine Exists.intro _ (And.intro h.ob ?_)
      refine Exists.intro _ (And.intro h.ob ?_)
      refine h.s4 en hn (fun σ h => ?_)
      refine Exists.intro _ (And.intro h.ob ?_)
      refine Exists.intro _ (And.intro h.ob ?_)
      refine h.s5 en hn (fun σ h => ?_)
      refine Exists.intro _ (And.intro h.ob ?_)
      refine h.p0  (fun σ h => ?_)
      refine Exists.intro _ (And.intro h.ob ?_)
      refine And.intro trivial ⟨?_, h⟩
      show some (Value.int (s.nop + 1 - 1)) = _
      rw [en, nI_1, nI_pred]
  refine And.intro (fun c5 => ?_) (fun c5 => ?_)
  · refine And.intro (fun c6 => ?_) (fun c6 => ?_)
    · exact And.intro trivial (bad σ h (by unfold op_ok; rw [rv_bn c0, rv_bn c1, rv_bn c2, rv_bn c3, rv_bn c4, decide_eq_true c5, decide_eq_true c6]; rfl))
    · refine And.intro (fun c7 => ?_) (fun c7 => ?_)
      · exact rest (by rw [decide_eq_false c6, decide_eq_false (Int32.not_lt.mpr c7)]; simp)
      · exact And.intro trivial (bad σ h (by unfold op_ok; rw [rv_bn c0, rv_bn c1, rv_bn c2, rv_bn c3, rv_bn c4, decide_eq_true c5, decide_eq_true (Int32.not_le.mp c7)]; simp))
  · exact rest (by rw [decide_eq_false c5]; rfl)
def md_src (s : Md) (n : Nat) (x : Int32) : Md :=
  let s := s.u_sOp (upd s.sOp n (x))
  let s := s.u_nsr ((s.nsr + 1))
  s
set_option maxRecDepth 100000 in
theorem rt_source_out {G : rv_G} {σ0 σ : rv_S} {y no : Nat} {s : Md} {x : Int32} (en : s.nop = nI no) (hn : no ≤ 5) (ho : ¬ ∃ j, j < no ∧ x = nI j) (h : MI σ0 σ y (md y s)) : rv_Ct G i_Model_source 0 0 [.ref y, .int x] σ (fun q σ' => q = some (.int (-1)) ∧ σ' = σ) := by
  refine rv_ct (M := m_Model_source) rfl (by decide) rfl rfl ?_
  refine rv_V.run rv_gd_Model_source [] 400 ?_
  refine And.intro (Exists.intro _ h.ob) ?_
  refine ⟨_, _, _, rt_isOp x h, Nat.zero_le _, Nat.zero_le _, rfl, ?_⟩
  rintro _ σ ⟨rfl, rfl⟩
  refine And.intro (fun c1 => ?_) (fun c1 => ?_)
  · exact And.intro trivial ⟨rfl, rfl⟩
  · have := rv_bn c1
    rw [en] at this
    exact absurd ((in_nI (by omega)).mp this) ho
set_option maxRecDepth 100000 in
theorem rt_source_in {G : rv_G} {σ0 σ : rv_S} {y no o n : Nat} {s : Md} {x : Int32} (en : s.nop = nI no) (hn : no ≤ 5) (ho : o < no) (ex : x = nI o) (es : s.nsr = nI n) (hs10 : n ≤ 10) (h : MI σ0 σ y (md y s)) :
    rv_Ct G i_Model_source 0 0 [.ref y, .int x] σ (fun q σ' => q = some (.int (if s.oMark o = 1000000000 then -2 else if n = 10 then -3 else nI n)) ∧ MI σ0 σ' y (md y (if s.oMark o = 1000000000 ∨ n = 10 then s else md_src s n x))) := by
  refine rv_ct (M := m_Model_source) rfl (by decide) rfl rfl ?_
  refine rv_V.run rv_gd_Model_source [] 400 ?_
  refine And.intro (Exists.intro _ h.ob) ?_
  refine ⟨_, _, _, rt_isOp x h, Nat.zero_le _, Nat.zero_le _, rfl, ?_⟩
  rintro _ σ ⟨rfl, rfl⟩
  refine And.intro (fun c1 => ?_) (fun c1 => ?_)
  · have := rv_b0.mp c1
    rw [en, (in_nI (by omega)).mpr ⟨o, ho, ex⟩] at this
    cases this
  refine Exists.intro _ (And.intro h.ob ?_)
  refine h.l6 ex (by omega) ?_
  refine And.intro (fun c2 => ?_) (fun c2 => ?_)
  · rw [if_pos c2, if_pos (Or.inl c2)]
    exact And.intro trivial ⟨rfl, h⟩
  rw [if_neg c2]
  refine Exists.intro _ (And.intro h.ob ?_)
  refine And.intro (fun c3 => ?_) (fun c3 => ?_)
  · have h5 : n = 10 := (nI_eq (b := 10) (by omega) (by decide)).mp (es.symm.trans c3)
    rw [if_pos h5, if_pos (Or.inr h5)]
    exact And.intro trivial ⟨rfl, h⟩
  · have h5 : ¬ n = 10 := fun z => c3 (by show s.nsr = 10; rw [es, z]; rfl)
    have hs : n < 10 := by omega
    rw [if_neg h5, if_neg (fun z => z.elim c2 h5)]
    refine Exists.intro _ (And.intro h.ob ?_)
    refine Exists.intro _ (And.intro h.ob ?_)
    refine h.s7 es hs (fun σ h => ?_)
    refine Exists.intro _ (And.intro h.ob ?_)
    refine h.p7  (fun σ h => ?_)
    refine Exists.intro _ (And.intro h.ob ?_)
    refine And.intro trivial ⟨?_, h⟩
    show some (Value.int (s.nsr + 1 - 1)) = _
    rw [es, nI_1, nI_pred]
set_option maxRecDepth 100000 in
theorem rt_count {G : rv_G} {σ0 σ : rv_S} {y : Nat} {s : Md} (x : Int32) (h : MI σ0 σ y (md y s)) :
    rv_Ct G i_Model_count 0 0 [.ref y, .int x] σ (fun q σ' => q = some (.int (if x = 0 then s.nop else if x = 1 then s.nsr else if x = 2 then s.nrow else if x = 3 then s.nwin else if x = 4 then s.nres else if x = 5 then s.ever else if x = 6 then s.nas else if x = 7 then s.drp else if x = 8 then s.nps else -1)) ∧ σ' = σ) := by
  refine rv_ct (M := m_Model_count) rfl (by decide) rfl rfl ?_
  refine rv_V.run rv_gd_Model_count [] 400 ?_
  refine And.intro (fun c => ?_) (fun c => ?_)
  · rw [if_pos c]
    refine Exists.intro _ (And.intro h.ob ?_)
    exact And.intro trivial ⟨rfl, rfl⟩
  rw [if_neg c]
  refine And.intro (fun c => ?_) (fun c => ?_)
  · rw [if_pos c]
    refine Exists.intro _ (And.intro h.ob ?_)
    exact And.intro trivial ⟨rfl, rfl⟩
  rw [if_neg c]
  refine And.intro (fun c => ?_) (fun c => ?_)
  · rw [if_pos c]
    refine Exists.intro _ (And.intro h.ob ?_)
    exact And.intro trivial ⟨rfl, rfl⟩
  rw [if_neg c]
  refine And.intro (fun c => ?_) (fun c => ?_)
  · rw [if_pos c]
    refine Exists.intro _ (And.intro h.ob ?_)
    exact And.intro trivial ⟨rfl, rfl⟩
  rw [if_neg c]
  refine And.intro (fun c => ?_) (fun c => ?_)
  · rw [if_pos c]
    refine Exists.intro _ (And.intro h.ob ?_)
    exact And.intro trivial ⟨rfl, rfl⟩
  rw [if_neg c]
  refine And.intro (fun c => ?_) (fun c => ?_)
  · rw [if_pos c]
    refine Exists.intro _ (And.intro h.ob ?_)
    exact And.intro trivial ⟨rfl, rfl⟩
  rw [if_neg c]
  refine And.intro (fun c => ?_) (fun c => ?_)
  · rw [if_pos c]
    refine Exists.intro _ (And.intro h.ob ?_)
    exact And.intro trivial ⟨rfl, rfl⟩
  rw [if_neg c]
  refine And.intro (fun c => ?_) (fun c => ?_)
  · rw [if_pos c]
    refine Exists.intro _ (And.intro h.ob ?_)
    exact And.intro trivial ⟨rfl, rfl⟩
  rw [if_neg c]
  refine And.intro (fun c => ?_) (fun c => ?_)
  · rw [if_pos c]
    refine Exists.intro _ (And.intro h.ob ?_)
    exact And.intro trivial ⟨rfl, rfl⟩
  rw [if_neg c]
  exact And.intro trivial ⟨rfl, rfl⟩
set_option maxRecDepth 100000 in
theorem rt_of_out {G : rv_G} {σ0 σ : rv_S} {y n : Nat} {s : Md} {x : Int32} (j : Int32) (es : s.nsr = nI n) (hs : n ≤ 10) (ho : ¬ ∃ j, j < n ∧ x = nI j) (h : MI σ0 σ y (md y s)) : rv_Ct G i_Model_of 0 0 [.ref y, .int x, .int j] σ (fun q σ' => q = some (.int (-99999999)) ∧ σ' = σ) := by
  refine rv_ct (M := m_Model_of) rfl (by decide) rfl rfl ?_
  refine rv_V.run rv_gd_Model_of [] 400 ?_
  refine And.intro (Exists.intro _ h.ob) ?_
  refine ⟨_, _, _, rt_isSource x h, Nat.zero_le _, Nat.zero_le _, rfl, ?_⟩
  rintro _ σ ⟨rfl, rfl⟩
  refine And.intro (fun c1 => ?_) (fun c1 => ?_)
  · exact And.intro trivial ⟨rfl, rfl⟩
  · have := rv_bn c1
    rw [es] at this
    exact absurd ((in_nI (by omega)).mp this) ho
def of_val (d : Sd) (j : Int32) : Int32 := if j = 0 then nI d.1 else if j = 1 then d.2.1 else if j = 2 then rv_b d.2.2.1.1 else if j = 3 then rv_b d.2.2.1.2 else if j = 4 then d.2.2.2.1 else if j = 5 then d.2.2.2.2.1 else if j = 6 then d.2.2.2.2.2.1 else if j = 7 then d.2.2.2.2.2.2 else -99999999
/-- the reference's source j, of operator o -/
def ms (s : Md) (o j : Nat) : Sd := (o, s.sProm j, (s.sEnd j, s.sStop j), s.sUsed j, s.sAside j, s.sBrok j, s.sFirst j)
set_option maxRecDepth 100000 in
theorem rt_of_in {G : rv_G} {σ0 σ : rv_S} {y n i o : Nat} {s : Md} {x : Int32} (j : Int32) (es : s.nsr = nI n) (hs : n ≤ 10) (hi : i < n) (ex : x = nI i) (eo : s.sOp i = nI o) (h : MI σ0 σ y (md y s)) : rv_Ct G i_Model_of 0 0 [.ref y, .int x, .int j] σ (fun q σ' => q = some (.int (of_val (ms s o i) j)) ∧ σ' = σ) := by
  refine rv_ct (M := m_Model_of) rfl (by decide) rfl rfl ?_
  refine rv_V.run rv_gd_Model_of [] 400 ?_
  refine And.intro (Exists.intro _ h.ob) ?_
  refine ⟨_, _, _, rt_isSource x h, Nat.zero_le _, Nat.zero_le _, rfl, ?_⟩
  rintro _ σ ⟨rfl, rfl⟩
  refine And.intro (fun c1 => ?_) (fun c1 => ?_)
  · have := rv_b0.mp c1
    rw [es, (in_nI (by omega)).mpr ⟨i, hi, ex⟩] at this
    cases this
  unfold of_val
  refine And.intro (fun c => ?_) (fun c => ?_)
  · rw [if_pos c]
    refine Exists.intro _ (And.intro h.ob ?_)
    refine h.l7 ex (by omega) ?_
    exact And.intro trivial ⟨by rw [eo]; rfl, rfl⟩
  rw [if_neg c]
  refine And.intro (fun c => ?_) (fun c => ?_)
  · rw [if_pos c]
    refine Exists.intro _ (And.intro h.ob ?_)
    refine h.l8 ex (by omega) ?_
    exact And.intro trivial ⟨rfl, rfl⟩
  rw [if_neg c]
  refine And.intro (fun c => ?_) (fun c => ?_)
  · rw [if_pos c]
    refine Exists.intro _ (And.intro h.ob ?_)
    refine h.l9 ex (by omega) ?_
    refine And.intro (fun c2 => ?_) (fun c2 => ?_)
    · exact And.intro trivial ⟨congrArg (fun q => some (Value.int q)) (Eq.symm c2), rfl⟩
    · refine And.intro trivial ⟨?_, rfl⟩
      rcases rv_b01 (s.sEnd i) with z | z
      · exact absurd z c2
      · exact congrArg (fun q => some (Value.int q)) (Eq.symm z)
  rw [if_neg c]
  refine And.intro (fun c => ?_) (fun c => ?_)
  · rw [if_pos c]
    refine Exists.intro _ (And.intro h.ob ?_)
    refine h.l10 ex (by omega) ?_
    refine And.intro (fun c2 => ?_) (fun c2 => ?_)
    · exact And.intro trivial ⟨congrArg (fun q => some (Value.int q)) (Eq.symm c2), rfl⟩
    · refine And.intro trivial ⟨?_, rfl⟩
      rcases rv_b01 (s.sStop i) with z | z
      · exact absurd z c2
      · exact congrArg (fun q => some (Value.int q)) (Eq.symm z)
  rw [if_neg c]
  refine And.intro (fun c => ?_) (fun c => ?_)
  · rw [if_pos c]
    refine Exists.intro _ (And.intro h.ob ?_)
    refine h.l11 ex (by omega) ?_
    exact And.intro trivial ⟨rfl, rfl⟩
  rw [if_neg c]
  refine And.intro (fun c => ?_) (fun c => ?_)
  · rw [if_pos c]
    refine Exists.intro _ (And.intro h.ob ?_)
    refine h.l12 ex (by omega) ?_
    exact And.intro trivial ⟨rfl, rfl⟩
  rw [if_neg c]
  refine And.intro (fun c => ?_) (fun c => ?_)
  · rw [if_pos c]
    refine Exists.intro _ (And.intro h.ob ?_)
    refine h.l13 ex (by omega) ?_
    exact And.intro trivial ⟨rfl, rfl⟩
  rw [if_neg c]
  refine And.intro (fun c => ?_) (fun c => ?_)
  · rw [if_pos c]
    refine Exists.intro _ (And.intro h.ob ?_)
    refine h.l14 ex (by omega) ?_
    exact And.intro trivial ⟨rfl, rfl⟩
  rw [if_neg c]
  exact And.intro trivial ⟨rfl, rfl⟩
