/-! THE CLASS: row -/
set_option maxRecDepth 100000 in
theorem ct_row_bad {G : rv_G} {σ : rv_S} {x no ns : Nat} {oa sa : Nat → Nat} {sd : Nat → Sd} {nop ev bd rl dr : Int32} (hx : σ.2 x = some (oLate x nop (nI ns) ev bd rl dr)) (hS : PSR σ.2 x no ns oa sa sd) (i k t v : Int32) (hb : (i < 0 ∨ nI ns ≤ i) ∨ ((∃ j, j < ns ∧ i = nI j) ∧ ¬ (rv_in k 0 9 = true ∧ rv_in t 0 100000000 = true))) : rv_Ct G i_Late_row 1 5 [.ref x, .int i, .int k, .int t, .int v] σ (fun r σ' => r = some (.int (-1)) ∧ σ' = σ) := by
  refine rv_ct (M := m_Late_row) rfl (by decide) rfl rfl ?_
  refine rv_V.run rv_gd_Late_row [34] 400 ?_
  refine And.intro (Exists.intro _ hx) ?_
  rcases hb with hb | ⟨⟨j, hj, rfl⟩, ht⟩
  · refine ⟨_, _, _, ct_sourceAt_out hx i hb, Nat.zero_le _, Nat.zero_le _, rfl, ?_⟩
    rintro _ σ ⟨rfl, rfl⟩
    exact And.intro trivial ⟨rfl, rfl⟩
  · refine ⟨_, _, _, ct_sourceAt_in hx hS j hj, Nat.zero_le _, Nat.zero_le _, rfl, ?_⟩
    rintro _ σ ⟨rfl, rfl⟩
    refine ⟨_, _, _, ct_isWithin k 0 9, Nat.zero_le _, Nat.zero_le _, rfl, ?_⟩
    rintro _ σ ⟨rfl, rfl⟩
    refine And.intro (fun c1 => And.intro trivial ⟨rfl, rfl⟩) (fun c1 => ?_)
    refine ⟨_, _, _, ct_isWithin t 0 100000000, Nat.zero_le _, Nat.zero_le _, rfl, ?_⟩
    rintro _ σ ⟨rfl, rfl⟩
    refine And.intro (fun c2 => And.intro trivial ⟨rfl, rfl⟩) (fun c2 => ?_)
    exact absurd ⟨rv_bn c1, rv_bn c2⟩ ht
set_option maxRecDepth 100000 in
theorem lp_row_34 {G : rv_G} {σ : rv_S} {x no ns j : Nat} {oa sa : Nat → Nat} {sd : Nat → Sd} {nop ev bd rl dr : Int32} {Rt : Option Value → rv_S → Prop} (hx : σ.2 x = some (oLate x nop (nI ns) ev bd rl dr)) (hS : PSR σ.2 x no ns oa sa sd) (k t v : Int32) (hj : j < ns) (hk : rv_in k 0 9 = true) (ht : rv_in t 0 100000000 = true)
    (next : rv_V G m_Late_row 1 5 Rt 34 [some (.ref x), some (.int (nI j)), some (.int k), some (.int t), some (.int v), some (.ref (sa j)), none] [] σ 0 0) : rv_Ct G i_Late_row 1 5 [.ref x, .int (nI j), .int k, .int t, .int v] σ Rt := by
  refine rv_ct (M := m_Late_row) rfl (by decide) rfl rfl ?_
  refine rv_V.run rv_gd_Late_row [34] 400 ?_
  refine And.intro (Exists.intro _ hx) ?_
  refine ⟨_, _, _, ct_sourceAt_in hx hS j hj, Nat.zero_le _, Nat.zero_le _, rfl, ?_⟩
  rintro _ σ ⟨rfl, rfl⟩
  refine ⟨_, _, _, ct_isWithin k 0 9, Nat.zero_le _, Nat.zero_le _, rfl, ?_⟩
  rintro _ σ ⟨rfl, rfl⟩
  refine And.intro (fun c1 => ?_) (fun c1 => ?_)
  · rw [hk] at c1; exact absurd c1 (by decide)
  refine ⟨_, _, _, ct_isWithin t 0 100000000, Nat.zero_le _, Nat.zero_le _, rfl, ?_⟩
  rintro _ σ ⟨rfl, rfl⟩
  refine And.intro (fun c2 => ?_) (fun c2 => ?_)
  · rw [ht] at c2; exact absurd c2 (by decide)
  exact next
set_option maxRecDepth 100000 in
theorem ct_row_no {G : rv_G} {σ : rv_S} {x no ns j : Nat} {oa sa : Nat → Nat} {sd : Nat → Sd} {nop ev bd rl dr : Int32} (hx : σ.2 x = some (oLate x nop (nI ns) ev bd rl dr)) (hS : PSR σ.2 x no ns oa sa sd) (k t v : Int32) (hj : j < ns) (hk : rv_in k 0 9 = true) (ht : rv_in t 0 100000000 = true) (hno : (sd j).2.2.1.1 = true ∨ (sd j).2.2.1.2 = true) :
    rv_Ct G i_Late_row 1 5 [.ref x, .int (nI j), .int k, .int t, .int v] σ (fun r σ' => r = some (.int (-2)) ∧ σ' = σ) := by
  refine lp_row_34 hx hS k t v hj hk ht ?_
  obtain ⟨s1, -, -⟩ := hS.2.1 j hj
  refine rv_V.run rv_gd_Late_row [] 400 ?_
  refine Exists.intro _ (And.intro s1 ?_)
  refine And.intro (fun c1 => ?_) (fun c1 => And.intro trivial ⟨rfl, rfl⟩)
  refine Exists.intro _ (And.intro s1 ?_)
  refine And.intro (fun c2 => ?_) (fun c2 => And.intro trivial ⟨rfl, rfl⟩)
  rcases hno with z | z
  · rw [z] at c1; exact absurd c1 (by decide)
  · rw [z] at c2; exact absurd c2 (by decide)
set_option maxRecDepth 100000 in
theorem lp_row_53 {G : rv_G} {σ : rv_S} {x no ns j : Nat} {oa sa : Nat → Nat} {sd : Nat → Sd} {nop ev bd rl dr : Int32} {Rt : Option Value → rv_S → Prop} (hx : σ.2 x = some (oLate x nop (nI ns) ev bd rl dr)) (hS : PSR σ.2 x no ns oa sa sd) (k t v : Int32) (hj : j < ns) (hk : rv_in k 0 9 = true) (ht : rv_in t 0 100000000 = true) (hno : (sd j).2.2.1.1 = false ∧ (sd j).2.2.1.2 = false)
    (next : rv_V G m_Late_row 1 5 Rt 53 [some (.ref x), some (.int (nI j)), some (.int k), some (.int t), some (.int v), some (.ref (sa j)), none] [] σ 0 0) : rv_Ct G i_Late_row 1 5 [.ref x, .int (nI j), .int k, .int t, .int v] σ Rt := by
  refine lp_row_34 hx hS k t v hj hk ht ?_
  obtain ⟨s1, -, -⟩ := hS.2.1 j hj
  refine rv_V.run rv_gd_Late_row [53] 400 ?_
  refine Exists.intro _ (And.intro s1 ?_)
  refine And.intro (fun c1 => ?_) (fun c1 => ?_)
  · refine Exists.intro _ (And.intro s1 ?_)
    refine And.intro (fun c2 => next) (fun c2 => ?_)
    have := rv_bn c2
    rw [hno.2] at this
    cases this
  · have := rv_bn c1
    rw [hno.1] at this
    cases this
section
variable {G : rv_G} {σ : rv_S} {x B no : Nat} {oa : Nat → Nat} {od : Nat → Od} {ns : Nat} {sa : Nat → Nat} {sd : Nat → Sd} {nr : Nat} {ra rs : Nat → Nat} {rd : Nat → Rd} {n : Nat} {p : Nat → Nat} {D : Nat → Wd} {R : Rs} {na : Nat} {aq : Nat → Nat → Int64} {b : Nat} {rl dr : Int32} {ps : Ps}
set_option maxRecDepth 100000 in
theorem ct_row_full (h : LI σ x B no oa od ns sa sd nr ra rs rd n p D R na aq b rl dr ps) {j : Nat} (k t v : Int32) (hj : j < ns) (hk : rv_in k 0 9 = true) (ht : rv_in t 0 100000000 = true) (hno : (sd j).2.2.1.1 = false ∧ (sd j).2.2.1.2 = false) (hnr : nr = 300) :
    rv_Ct G i_Late_row 1 5 [.ref x, .int (nI j), .int k, .int t, .int v] σ (fun r σ' => r = some (.int (-3)) ∧ σ' = σ) := by
  refine lp_row_53 h.1.1.1 h.2.2.1 k t v hj hk ht hno ?_
  refine rv_V.run rv_gd_Late_row [] 400 ?_
  refine Exists.intro _ (And.intro h.1.1.1 ?_)
  refine Exists.intro _ (And.intro h.2.2.2.1.1 ?_)
  refine And.intro (fun c1 => ?_) (fun c1 => And.intro trivial ⟨rfl, rfl⟩)
  rw [hnr] at c1
  exact absurd c1 (by decide)
/-- the join that a row of GAPS makes, its first window -/
def rw_q (p : Nat → Nat) (D : Nat → Wd) (o k t : Int32) (n : Nat) : Nat := jn_first p D o k t (rv_plc p D o k t n)
def rw_j (p : Nat → Nat) (D : Nat → Wd) (o k t sz : Int32) (n : Nat) : Jn := jn_run p D o k (t + sz) (n - rw_q p D o k t n) (rw_q p D o k t n) (0, t, t + sz, false)
/-- why a row goes aside, 0 if it doesn't -/
def rw_why (od : Od) (p : Nat → Nat) (D : Nat → Wd) (o k t : Int32) (n : Nat) : Int32 := if od.1 = 2 then jd_gaps od.2.2.2.1 od.2.2.2.2.1 od.2.2.2.2.2 (rw_j p D o k t od.2.1 n).2.2.1 (rw_j p D o k t od.2.1 n).2.2.2 else jd_grid od.2.2.2.2.1 (jg_run od.2.1 od.2.2.1 od.2.2.2.1 od.2.2.2.2.2 t 8 ((rv_fdiv (t - od.2.1) od.2.2.1 + 1) * od.2.2.1) (true, false))
set_option maxRecDepth 100000 in
/-- up to the judgement -/
theorem lp_row_111 {Rt : Option Value → rv_S → Prop} (h : LI σ x B no oa od ns sa sd nr ra rs rd n p D R na aq b rl dr ps) {j o : Nat} (k t v : Int32) (hj : j < ns) (hk : rv_in k 0 9 = true) (ht : rv_in t 0 100000000 = true) (hno : (sd j).2.2.1.1 = false ∧ (sd j).2.2.1.2 = false) (hnr : nr < 300) (eo : (sd j).1 = o) (h1 : 1 ≤ (od o).2.2.1) (h0 : ¬ (od o).2.2.1 = 0)
    (next : ∀ σ1 : rv_S, LI σ1 x B no oa od ns sa sd nr ra rs rd n p D R na aq b rl dr ps → σ1.1 = σ.1 → rv_only (fun q => q = x + 367) σ.2 σ1.2 → ((od o).1 = 2 → σ1.2 (x + 367) = some (oJ (nI (rw_q p D (nI o) k t n)) (rw_j p D (nI o) k t (od o).2.1 n))) →
      rv_V G m_Late_row 1 5 Rt 111 [some (.ref x), some (.int (nI j)), some (.int k), some (.int t), some (.int v), some (.ref (sa j)), some (.int (rw_why (od o) p D (nI o) k t n))] [] σ1 0 0) : rv_Ct G i_Late_row 1 5 [.ref x, .int (nI j), .int k, .int t, .int v] σ Rt := by
  refine lp_row_53 h.1.1.1 h.2.2.1 k t v hj hk ht hno ?_
  obtain ⟨s1, s2, s3⟩ := h.2.2.1.2.1 j hj
  rw [eo] at s3
  have hoo := (h.2.1.2.1 o s3).1
  have eS : σ.2 (sa j) = some (oSource (nI j) (oa o) (sd j).2.1 (sd j).2.2.1.1 (sd j).2.2.1.2 (sd j).2.2.2.1 (sd j).2.2.2.2.1 (sd j).2.2.2.2.2.1 (sd j).2.2.2.2.2.2) := by
    rw [s1]; unfold oS; rw [eo]
  have hjx : B ≤ sa j := h.2.2.2.2.2.2.2.2.1.2.1 j hj
  have hox : B ≤ oa o := h.2.2.2.2.2.2.2.2.1.1 o s3
  have hxB := h.2.2.2.2.2.2.2.1.2.1
  obtain ⟨vf, a, hjn⟩ := h.2.2.2.2.1
  refine rv_V.run rv_gd_Late_row [99] 400 ?_
  refine Exists.intro _ (And.intro h.1.1.1 ?_)
  refine Exists.intro _ (And.intro h.2.2.2.1.1 ?_)
  refine And.intro (fun c1 => ?_) (fun c1 => absurd ((rv_ltN (b := 300) rfl rfl (by omega) (by omega)).mpr hnr) c1)
  refine Exists.intro _ (And.intro eS ?_)
  refine Exists.intro _ (And.intro hoo ?_)
  refine And.intro (fun c2 => ?_) (fun c2 => ?_)
  · refine Exists.intro _ (And.intro h.1.1.1 ?_)
    refine Exists.intro _ (And.intro h.1.1.1 ?_)
    refine Exists.intro _ (And.intro eS ?_)
    refine And.intro (Exists.intro _ h.1.1.2.1.1) ?_
    refine ⟨_, _, _, ct_gather (jn := x + 367) k t (by omega) (by omega) h.1.1.2.1 h.1.2 hoo hjn, Nat.zero_le _, Nat.zero_le _, rfl, ?_⟩
    rintro _ _ ⟨rfl, q, hq, rfl⟩
    have eq := rv_plc_eq hq
    subst eq
    have h2 := h.join (nI (rw_q p D (nI o) k t n)) (rw_j p D (nI o) k t (od o).2.1 n)
    refine rv_V.run rv_gd_Late_row [111] 400 ?_
    refine Exists.intro _ (And.intro ((rv_up_n (by omega)).trans eS) ?_)
    refine And.intro (Exists.intro _ h2.1.1.1) ?_
    have hoo2 : rv_up σ.2 (x + 367) (oJ (nI (rw_q p D (nI o) k t n)) (rw_j p D (nI o) k t (od o).2.1 n)) (oa o) = some (oOp (nI o) 2 (od o).2.1 (od o).2.2.1 (od o).2.2.2.1 (od o).2.2.2.2.1 (od o).2.2.2.2.2) := by
      rw [rv_up_n (by omega), hoo]; unfold oO; rw [show (od o).1 = 2 from c2]
    refine ⟨_, _, _, ct_judge_gaps (σ := (σ.1, rv_up σ.2 (x + 367) (oJ (nI (rw_q p D (nI o) k t n)) (rw_j p D (nI o) k t (od o).2.1 n)))) (nI o) _ _ _ _ _ t h2.1.1.1 hoo2 rv_up_s, Nat.zero_le _, Nat.zero_le _, rfl, ?_⟩
    rintro _ _ ⟨rfl, rfl⟩
    have n1 := next _ h2 rfl (rv_only.up rfl) (fun _ => rv_up_s)
    unfold rw_why at n1
    rw [if_pos c2] at n1
    exact n1
  · refine rv_V.run rv_gd_Late_row [111] 400 ?_
    refine Exists.intro _ (And.intro eS ?_)
    refine And.intro (Exists.intro _ h.1.1.1) ?_
    refine ⟨_, _, _, ct_judge_grid (nI o) (od o).1 (od o).2.1 (od o).2.2.1 (od o).2.2.2.1 (od o).2.2.2.2.1 (od o).2.2.2.2.2 t c2 hoo h1 h0, Nat.zero_le _, Nat.zero_le _, rfl, ?_⟩
    rintro _ _ ⟨rfl, rfl⟩
    have n1 := next _ h rfl rv_only.rf (fun z => absurd z c2)
    unfold rw_why at n1
    rw [if_neg c2] at n1
    exact n1
end
