/-! THE REFERENCE: a row's entry -/
set_option maxRecDepth 100000 in
theorem rt_row_bad {G : rv_G} {σ0 σ : rv_S} {y n : Nat} {s : Md} {x k time v : Int32} (es : s.nsr = nI n) (hs : n ≤ 10) (ho : ¬ ((∃ j, j < n ∧ x = nI j) ∧ rv_in k 0 9 = true ∧ rv_in time 0 100000000 = true)) (h : MI σ0 σ y (md y s)) : rv_Ct G i_Model_row 0 0 [.ref y, .int x, .int k, .int time, .int v] σ (fun q σ' => q = some (.int (-1)) ∧ σ' = σ) := by
  refine rv_ct (M := m_Model_row) rfl (by decide) rfl rfl ?_
  refine rv_V.run rv_gd_Model_row [30] 400 ?_
  refine And.intro (Exists.intro _ h.ob) ?_
  refine ⟨_, _, _, rt_isSource x h, Nat.zero_le _, Nat.zero_le _, rfl, ?_⟩
  rintro _ σ ⟨rfl, rfl⟩
  refine And.intro (fun c1 => And.intro trivial ⟨rfl, rfl⟩) (fun c1 => ?_)
  have h1 := rv_bn c1
  rw [es] at h1
  refine ⟨_, _, _, rt_in k 0 9, Nat.zero_le _, Nat.zero_le _, rfl, ?_⟩
  rintro _ σ ⟨rfl, rfl⟩
  refine And.intro (fun c2 => And.intro trivial ⟨rfl, rfl⟩) (fun c2 => ?_)
  refine ⟨_, _, _, rt_in time 0 100000000, Nat.zero_le _, Nat.zero_le _, rfl, ?_⟩
  rintro _ σ ⟨rfl, rfl⟩
  refine And.intro (fun c3 => And.intro trivial ⟨rfl, rfl⟩) (fun c3 => ?_)
  exact absurd ⟨(in_nI (by omega)).mp h1, rv_bn c2, rv_bn c3⟩ ho
set_option maxRecDepth 100000 in
theorem rt_row_go {G : rv_G} {σ0 σ : rv_S} {y n j m o : Nat} {s : Md} {x k time v : Int32} {Rt : Option Value → rv_S → Prop} (es : s.nsr = nI n) (hs : n ≤ 10) (hj : j < n) (ex : x = nI j) (hk : rv_in k 0 9 = true) (ht : rv_in time 0 100000000 = true) (em : s.nrow = nI m) (hm : m ≤ 300) (eo : s.sOp j = nI o) (ho : o < 5) (h : MI σ0 σ y (md y s))
    (no : s.sEnd j = true ∨ s.sStop j = true → Rt (some (.int (-2))) σ) (full : ¬ (s.sEnd j = true ∨ s.sStop j = true) → m = 300 → Rt (some (.int (-3))) σ)
    (gaps : ¬ (s.sEnd j = true ∨ s.sStop j = true) → m < 300 → s.oKind o = 2 → rv_V G m_Model_row 0 0 Rt 92 [some (.ref y), some (.int x), some (.int k), some (.int time), some (.int v), some (.int (s.sOp j)), some (.int (rv_b true)), some (.int (rv_b false)), some (.int 0), none, none, none] [] σ 0 0)
    (grid : ¬ (s.sEnd j = true ∨ s.sStop j = true) → m < 300 → ¬ s.oKind o = 2 → rv_V G m_Model_row 0 0 Rt 160 [some (.ref y), some (.int x), some (.int k), some (.int time), some (.int v), some (.int (s.sOp j)), some (.int (rv_b true)), some (.int (rv_b false)), some (.int 0), some (.int 0), none, none] [] σ 0 0) :
    rv_Ct G i_Model_row 0 0 [.ref y, .int x, .int k, .int time, .int v] σ Rt := by
  have hj10 : j < 10 := by omega
  refine rv_ct (M := m_Model_row) rfl (by decide) rfl rfl ?_
  refine rv_V.run rv_gd_Model_row [92, 160] 400 ?_
  refine And.intro (Exists.intro _ h.ob) ?_
  refine ⟨_, _, _, rt_isSource x h, Nat.zero_le _, Nat.zero_le _, rfl, ?_⟩
  rintro _ σ ⟨rfl, rfl⟩
  refine And.intro (fun c1 => ?_) (fun c1 => ?_)
  · have := rv_b0.mp c1
    rw [es, (in_nI (by omega)).mpr ⟨j, hj, ex⟩] at this
    cases this
  refine ⟨_, _, _, rt_in k 0 9, Nat.zero_le _, Nat.zero_le _, rfl, ?_⟩
  rintro _ σ ⟨rfl, rfl⟩
  refine And.intro (fun c2 => ?_) (fun c2 => ?_)
  · have := rv_b0.mp c2
    rw [hk] at this
    cases this
  refine ⟨_, _, _, rt_in time 0 100000000, Nat.zero_le _, Nat.zero_le _, rfl, ?_⟩
  rintro _ σ ⟨rfl, rfl⟩
  refine And.intro (fun c3 => ?_) (fun c3 => ?_)
  · have := rv_b0.mp c3
    rw [ht] at this
    cases this
  refine Exists.intro _ (And.intro h.ob ?_)
  refine h.l9 ex hj10 ?_
  refine And.intro (fun c4 => ?_) (fun c4 => And.intro trivial (no (Or.inl (rv_bn c4))))
  refine Exists.intro _ (And.intro h.ob ?_)
  refine h.l10 ex hj10 ?_
  refine And.intro (fun c5 => ?_) (fun c5 => And.intro trivial (no (Or.inr (rv_bn c5))))
  have hno : ¬ (s.sEnd j = true ∨ s.sStop j = true) := by rw [rv_b0.mp c4, rv_b0.mp c5]; decide
  refine Exists.intro _ (And.intro h.ob ?_)
  refine And.intro (fun c6 => ?_) (fun c6 => ?_)
  · exact And.intro trivial (full hno ((nI_eq (b := 300) (by omega) (by decide)).mp (em.symm.trans c6)))
  have hm3 : m < 300 := by
    rcases Nat.lt_or_ge m 300 with z | z
    · exact z
    · exact absurd (show s.nrow = 300 by rw [em, show m = 300 by omega]; rfl) c6
  refine Exists.intro _ (And.intro h.ob ?_)
  refine h.l7 ex hj10 ?_
  refine Exists.intro _ (And.intro h.ob ?_)
  refine h.l1 eo ho ?_
  exact And.intro (fun c7 => gaps hno hm3 c7) (fun c7 => grid hno hm3 c7)
