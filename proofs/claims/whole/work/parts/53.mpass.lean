/-! THE REFERENCE: what a pass takes, and shows -/
def tk_is (s : Md) (i j : Nat) (vo : Int32) (all : Bool) : Bool := decide (s.sOp j = vo) && (all || s.rUsed i)
set_option maxRecDepth 100000 in
theorem rt_isTaken {G : rv_G} {σ0 σ : rv_S} {y i j : Nat} {s : Md} {vi : Int32} (vo : Int32) (all : Bool) (ei : vi = nI i) (hi : i < 300) (ej : s.rSrc i = nI j) (hj : j < 10) (h : MI σ0 σ y (md y s)) :
    rv_Ct G i_Model_isTaken 0 0 [.ref y, .int vi, .int vo, .int (rv_b all)] σ (fun q σ' => q = some (.int (rv_b (tk_is s i j vo all))) ∧ σ' = σ) := by
  refine rv_ct (M := m_Model_isTaken) rfl (by decide) rfl rfl ?_
  refine rv_V.run rv_gd_Model_isTaken [] 400 ?_
  refine Exists.intro _ (And.intro h.ob ?_)
  refine Exists.intro _ (And.intro h.ob ?_)
  refine h.l15 ei hi ?_
  refine h.l7 ej hj ?_
  refine And.intro (fun c1 => ?_) (fun c1 => ?_)
  · refine And.intro (fun c2 => ?_) (fun c2 => ?_)
    · refine Exists.intro _ (And.intro h.ob ?_)
      refine h.l19 ei hi ?_
      refine And.intro (fun c3 => ?_) (fun c3 => ?_)
      · refine And.intro (Or.inl rfl) ⟨?_, rfl⟩
        unfold tk_is
        rw [decide_eq_true c1, rv_b0.mp c2, rv_b0.mp c3]; rfl
      · refine And.intro (Or.inr rfl) ⟨?_, rfl⟩
        unfold tk_is
        rw [decide_eq_true c1, rv_b0.mp c2, rv_bn c3]; rfl
    · refine And.intro (Or.inr rfl) ⟨?_, rfl⟩
      unfold tk_is
      rw [decide_eq_true c1, rv_bn c2]; rfl
  · refine And.intro (Or.inl rfl) ⟨?_, rfl⟩
    unfold tk_is
    rw [decide_eq_false c1]; rfl
set_option maxRecDepth 100000 in
theorem rt_passed {G : rv_G} {σ0 σ : rv_S} {y r : Nat} {s : Md} (i j : Int32) (er : s.nps = nI r) (hr : r ≤ 2400) (h : MI σ0 σ y (md y s)) :
    rv_Ct G i_Model_passed 0 0 [.ref y, .int i, .int j] σ (fun q σ' => q = some (.long (if rv_in i 0 (nI r - 1) = true ∧ rv_in j 0 6 = true then s.pRow (7 * i.toNatClampNeg + j.toNatClampNeg) else -99999999)) ∧ σ' = σ) := by
  refine rv_ct (M := m_Model_passed) rfl (by decide) rfl rfl ?_
  refine rv_V.run rv_gd_Model_passed [] 400 ?_
  refine Exists.intro _ (And.intro h.ob ?_)
  refine ⟨_, _, _, rt_in i 0 (s.nps - 1), Nat.zero_le _, Nat.zero_le _, rfl, ?_⟩
  rintro _ σ ⟨rfl, rfl⟩
  rw [er]
  refine And.intro (fun c1 => ?_) (fun c1 => ?_)
  · refine ⟨?_, rfl⟩
    rw [if_neg (fun z => by rw [rv_b0.mp c1] at z; exact absurd z.1 (by decide))]
  refine ⟨_, _, _, rt_in j 0 6, Nat.zero_le _, Nat.zero_le _, rfl, ?_⟩
  rintro _ σ ⟨rfl, rfl⟩
  refine And.intro (fun c2 => ?_) (fun c2 => ?_)
  · refine ⟨?_, rfl⟩
    rw [if_neg (fun z => by rw [rv_b0.mp c2] at z; exact absurd z.2 (by decide))]
  obtain ⟨a, ha, ea⟩ := (in_nI (by omega)).mp (rv_bn c1)
  obtain ⟨b, hb, eb⟩ := (in_nI (n := 7) (by omega)).mp (rv_bn c2)
  refine Exists.intro _ (And.intro h.ob ?_)
  refine h.l36 (w := 7 * a + b) (by rw [ea, eb, show (7 : Int32) = nI 7 from rfl, nI_mul, nI_add]) (by omega) ?_
  refine ⟨?_, rfl⟩
  rw [if_pos ⟨rv_bn c1, rv_bn c2⟩, ea, eb, nI_clamp (by omega), nI_clamp (by omega)]
