/-! A ROW OF GAPS IS USED: the whole of it -/
set_option maxRecDepth 100000 in
theorem ct_useInGaps0 {G : rv_G} {σ : rv_S} {x oa fi n : Nat} {nop nsr bd rl dr : Int32} {p : Nat → Nat} {D : Nat → Wd} {R : Rs} {a : Jn} (o kd sz st l r0 m : Int32) (k v : Int32) (hoa : ¬ SC x oa) (hc : a.1 = 0) (hfi : fi ≤ n) (h : PT σ.2 x nop nsr bd rl dr n p D R) (hs : WS n p D) (hn : n < 120) (ho : σ.2 oa = some (oOp o kd sz st l r0 m)) (hj : σ.2 (x + 367) = some (oJ (nI fi) a)) :
    rv_Ct G i_Late_useInGaps 0 0 [.ref x, .ref oa, .int k, .int v] σ (fun r σ' => r = none ∧ σ'.1 = σ.1 ∧ (∃ F, F = fo_run o k a.2.1 a.2.2.1 n p D ∧ PT σ'.2 x nop nsr bd rl dr F.1.1 F.1.2.1 (ci_one r0 m (F.1.2.2, R) F.2 v).1 (ci_one r0 m (F.1.2.2, R) F.2 v).2 ∧ WS F.1.1 F.1.2.1 (ci_one r0 m (F.1.2.2, R) F.2 v).1) ∧ rv_only (SC x) σ.2 σ'.2) := by
  have rest : ∀ x4 : Option Value, rv_V G m_Late_useInGaps 0 0 (fun r σ' => r = none ∧ σ'.1 = σ.1 ∧ (∃ F, F = fo_run o k a.2.1 a.2.2.1 n p D ∧ PT σ'.2 x nop nsr bd rl dr F.1.1 F.1.2.1 (ci_one r0 m (F.1.2.2, R) F.2 v).1 (ci_one r0 m (F.1.2.2, R) F.2 v).2 ∧ WS F.1.1 F.1.2.1 (ci_one r0 m (F.1.2.2, R) F.2 v).1) ∧ rv_only (SC x) σ.2 σ'.2) 16 [some (.ref x), some (.ref oa), some (.int k), some (.int v), x4] [] σ 0 0 := by
    intro x4
    refine rv_V.run rv_gd_Late_useInGaps [26] 400 ?_
    refine Exists.intro _ (And.intro h.1 ?_)
    refine Exists.intro _ (And.intro hj ?_)
    refine And.intro (fun c1 => ?_) (fun c1 => ?_)
    · refine Exists.intro _ (And.intro h.1 ?_)
      refine Exists.intro _ (And.intro ho ?_)
      refine Exists.intro _ (And.intro h.1 ?_)
      refine Exists.intro _ (And.intro hj ?_)
      refine Exists.intro _ (And.intro h.1 ?_)
      refine Exists.intro _ (And.intro hj ?_)
      refine And.intro (Exists.intro _ h.2.1.1) ?_
      refine ⟨_, _, _, h.fo hs o k a.2.1 a.2.2.1 (fun _ => hn), Nat.zero_le _, Nat.zero_le _, rfl, ?_⟩
      rintro _ σ2 ⟨rfl, e1, h2, hs2, hi2, h3⟩
      refine And.intro (Exists.intro _ h2.1) ?_
      refine ⟨_, _, _, ct_comeInto o kd sz st l r0 m hoa h2 ((h3 oa hoa).trans ho) hi2 v, Nat.zero_le _, Nat.zero_le _, rfl, ?_⟩
      rintro _ σ3 ⟨rfl, e2, h4, h5⟩
      exact ⟨rfl, e2.trans e1, ⟨_, rfl, h4, hs2.same (fun i => by rw [ci_keys]; exact ⟨rfl, rfl, rfl⟩)⟩, h3.tr h5⟩
    · exact absurd hc c1
  refine rv_ct (M := m_Late_useInGaps) rfl (by decide) rfl rfl ?_
  refine rv_V.run rv_gd_Late_useInGaps [16] 400 ?_
  refine Exists.intro _ (And.intro h.1 ?_)
  refine Exists.intro _ (And.intro h.1 ?_)
  refine Exists.intro _ (And.intro hj ?_)
  refine And.intro (Exists.intro _ h.2.1.1) ?_
  rcases Nat.lt_or_ge fi n with z | z
  · refine ⟨_, _, _, ct_at_in h.2.1 fi z, Nat.zero_le _, Nat.zero_le _, rfl, ?_⟩
    rintro _ σ ⟨rfl, rfl⟩
    exact rest _
  · refine ⟨_, _, _, ct_at_out h.2.1 (nI fi) (Or.inr ((rv_leN rfl rfl (by omega) (by omega)).mpr z)), Nat.zero_le _, Nat.zero_le _, rfl, ?_⟩
    rintro _ σ ⟨rfl, rfl⟩
    exact rest _
/-- the windows and results before the number comes in -/
def ug_run (fi c : Nat) (a : Jn) (n : Nat) (p : Nat → Nat) (D : Nat → Wd) (R : Rs) : (Nat × (Nat → Nat) × (Nat → Wd)) × Rs :=
  if (D (p fi)).1.2.2.1 = a.2.1 ∧ (D (p fi)).1.2.2.2 = a.2.2.1 then ((n, p, D), R) else (mg_end (p fi) a.2.1 a.2.2.1 (mg_run fi (p fi) (c - 1) (n, p, D)), tb_run p D c fi R)
set_option maxRecDepth 100000 in
theorem ct_useInGaps1 {G : rv_G} {σ : rv_S} {x oa fi c n : Nat} {nop nsr bd rl dr : Int32} {p : Nat → Nat} {D : Nat → Wd} {R : Rs} {a : Jn} (o kd sz st l r0 m : Int32) (k v : Int32) (hoa : ¬ SC x oa) (hc : a.1 = nI c) (hc0 : 0 < c) (hfc : fi + c ≤ n) (h : PT σ.2 x nop nsr bd rl dr n p D R) (ho : σ.2 oa = some (oOp o kd sz st l r0 m)) (hj : σ.2 (x + 367) = some (oJ (nI fi) a)) :
    rv_Ct G i_Late_useInGaps 0 0 [.ref x, .ref oa, .int k, .int v] σ (fun r σ' => r = none ∧ σ'.1 = σ.1 ∧ (∃ F, F = ug_run fi c a n p D R ∧ PT σ'.2 x nop nsr bd rl dr F.1.1 F.1.2.1 (ci_one r0 m (F.1.2.2, F.2) (p fi) v).1 (ci_one r0 m (F.1.2.2, F.2) (p fi) v).2) ∧ rv_only (SC x) σ.2 σ'.2) := by
  have hn := h.2.1.2.2.2.2
  have hpf := h.2.1.2.2.2.1.1 fi (by omega)
  have hw := h.2.1.2.2.1 _ hpf
  have last : ∀ (n1 : Nat) (p1 : Nat → Nat) (D1 : Nat → Wd) (R1 : Rs) (σ1 : rv_S), σ1.1 = σ.1 → PT σ1.2 x nop nsr bd rl dr n1 p1 D1 R1 → rv_only (SC x) σ.2 σ1.2 → ug_run fi c a n p D R = ((n1, p1, D1), R1) →
      rv_V G m_Late_useInGaps 0 0 (fun r σ' => r = none ∧ σ'.1 = σ.1 ∧ (∃ F, F = ug_run fi c a n p D R ∧ PT σ'.2 x nop nsr bd rl dr F.1.1 F.1.2.1 (ci_one r0 m (F.1.2.2, F.2) (p fi) v).1 (ci_one r0 m (F.1.2.2, F.2) (p fi) v).2) ∧ rv_only (SC x) σ.2 σ'.2) 104 [some (.ref x), some (.ref oa), some (.int k), some (.int v), some (.ref (wa (x + 5) (p fi)))] [] σ1 0 0 := by
    intro n1 p1 D1 R1 σ1 s1 h1 s2 s3
    refine rv_V.run rv_gd_Late_useInGaps [] 400 ?_
    refine And.intro (Exists.intro _ h1.1) ?_
    refine ⟨_, _, _, ct_comeInto o kd sz st l r0 m hoa h1 ((s2 oa hoa).trans ho) hpf v, Nat.zero_le _, Nat.zero_le _, rfl, ?_⟩
    rintro _ σ3 ⟨rfl, e2, h4, h5⟩
    exact ⟨rfl, e2.trans s1, ⟨_, s3.symm, h4⟩, s2.tr h5⟩
  have both : ¬ ((D (p fi)).1.2.2.1 = a.2.1 ∧ (D (p fi)).1.2.2.2 = a.2.2.1) →
      rv_V G m_Late_useInGaps 0 0 (fun r σ' => r = none ∧ σ'.1 = σ.1 ∧ (∃ F, F = ug_run fi c a n p D R ∧ PT σ'.2 x nop nsr bd rl dr F.1.1 F.1.2.1 (ci_one r0 m (F.1.2.2, F.2) (p fi) v).1 (ci_one r0 m (F.1.2.2, F.2) (p fi) v).2) ∧ rv_only (SC x) σ.2 σ'.2) 94 [some (.ref x), some (.ref oa), some (.int k), some (.int v), some (.ref (wa (x + 5) (p fi)))] [] σ 0 0 := by
    intro hno
    refine rv_V.run rv_gd_Late_useInGaps [104] 400 ?_
    refine And.intro (Exists.intro _ h.1) ?_
    refine ⟨_, _, _, ct_takeBack hc hfc h hj, Nat.zero_le _, Nat.zero_le _, rfl, ?_⟩
    rintro _ σ2 ⟨rfl, e1, h2, h3⟩
    refine And.intro (Exists.intro _ h2.1) ?_
    refine ⟨_, _, _, ct_merge hc hc0 hfc h2 ((h3 _ (SC_n367 x)).trans hj), Nat.zero_le _, Nat.zero_le _, rfl, ?_⟩
    rintro _ σ3 ⟨rfl, e2, h4, h5⟩
    exact last _ _ _ _ σ3 (e2.trans e1) h4 (h3.tr h5) (if_neg hno)
  refine rv_ct (M := m_Late_useInGaps) rfl (by decide) rfl rfl ?_
  refine rv_V.run rv_gd_Late_useInGaps [94, 104] 400 ?_
  refine Exists.intro _ (And.intro h.1 ?_)
  refine Exists.intro _ (And.intro h.1 ?_)
  refine Exists.intro _ (And.intro hj ?_)
  refine And.intro (Exists.intro _ h.2.1.1) ?_
  refine ⟨_, _, _, ct_at_in h.2.1 fi (by omega), Nat.zero_le _, Nat.zero_le _, rfl, ?_⟩
  rintro _ σ ⟨rfl, rfl⟩
  refine Exists.intro _ (And.intro h.1 ?_)
  refine Exists.intro _ (And.intro hj ?_)
  refine And.intro (fun c1 => ?_) (fun c1 => ?_)
  · exact absurd c1 (by show ¬ a.1 = 0; rw [hc]; intro z; have := (rv_leN (a := c) (b := 0) rfl rfl (by omega) (by omega)).mp (by rw [z]; decide); omega)
  refine Exists.intro _ (And.intro hw.1 ?_)
  refine Exists.intro _ (And.intro h.1 ?_)
  refine Exists.intro _ (And.intro hj ?_)
  refine And.intro (fun c2 => ?_) (fun c2 => ?_)
  · refine Exists.intro _ (And.intro hw.1 ?_)
    refine Exists.intro _ (And.intro h.1 ?_)
    refine Exists.intro _ (And.intro hj ?_)
    refine And.intro (fun c3 => ?_) (fun c3 => ?_)
    · exact last n p D R σ rfl h rv_only.rf (if_pos ⟨c2, c3⟩)
    · exact both (fun z => c3 z.2)
  · exact both (fun z => c2 z.1)
