/-! THE CLASS: promise and end, called -/
set_option maxRecDepth 100000 in
theorem ct_promise_bad {G : rv_G} {σ : rv_S} {x no ns : Nat} {oa sa : Nat → Nat} {sd : Nat → Sd} {nop ev bd rl dr : Int32} (hx : σ.2 x = some (oLate x nop (nI ns) ev bd rl dr)) (hS : PSR σ.2 x no ns oa sa sd) (i t : Int32) (hb : (i < 0 ∨ nI ns ≤ i) ∨ ((∃ j, j < ns ∧ i = nI j) ∧ rv_in t 0 999999999 = false)) : rv_Ct G i_Late_promise 0 0 [.ref x, .int i, .int t] σ (fun r σ' => r = some (.int (-1)) ∧ σ' = σ) := by
  refine rv_ct (M := m_Late_promise) rfl (by decide) rfl rfl ?_
  refine rv_V.run rv_gd_Late_promise [] 400 ?_
  refine And.intro (Exists.intro _ hx) ?_
  rcases hb with hb | ⟨⟨j, hj, rfl⟩, ht⟩
  · refine ⟨_, _, _, ct_sourceAt_out hx i hb, Nat.zero_le _, Nat.zero_le _, rfl, ?_⟩
    rintro _ σ ⟨rfl, rfl⟩
    exact And.intro trivial ⟨rfl, rfl⟩
  · refine ⟨_, _, _, ct_sourceAt_in hx hS j hj, Nat.zero_le _, Nat.zero_le _, rfl, ?_⟩
    rintro _ σ ⟨rfl, rfl⟩
    refine ⟨_, _, _, ct_isWithin t 0 999999999, Nat.zero_le _, Nat.zero_le _, rfl, ?_⟩
    rintro _ σ ⟨rfl, rfl⟩
    refine And.intro (fun c1 => And.intro trivial ⟨rfl, rfl⟩) (fun c1 => ?_)
    rw [ht] at c1
    exact absurd rfl c1
set_option maxRecDepth 100000 in
theorem ct_promise {G : rv_G} {σ : rv_S} {x no ns n i : Nat} {oa sa : Nat → Nat} {od : Nat → Od} {sd : Nat → Sd} {p : Nat → Nat} {D : Nat → Wd} {R : Rs} {bd rl dr : Int32} (h : PT σ.2 x (nI no) (nI ns) bd rl dr n p D R) (hO : POP σ.2 x no oa od) (hS : PSR σ.2 x no ns oa sa sd) (hi : i < ns) (t : Int32) (ht : rv_in t 0 999999999 = true) :
    rv_Ct G i_Late_promise 0 0 [.ref x, .int (nI i), .int t] σ (fun r σ' => ((t < (sd i).2.1 ∨ (sd i).2.2.1.1 = true) → r = some (.int (-2)) ∧ σ' = σ) ∧ (¬ (t < (sd i).2.1 ∨ (sd i).2.2.1.1 = true) → ∃ m, m = mm_run od (va_up sd i (sd_prom (sd i) t)) (sd i).1 ns n p D R ∧ r = some (.int m.1) ∧ σ'.1 = σ.1 ∧ PT σ'.2 x (nI no) (nI ns) bd rl dr m.2.2.1 m.2.2.2.1 m.2.2.2.2.1 m.2.2.2.2.2 ∧ POP σ'.2 x no oa m.2.1 ∧ PSR σ'.2 x no ns oa sa (va_up sd i (sd_prom (sd i) t)) ∧ rv_only (fun q => SC x q ∨ q = oa (sd i).1 ∨ q = sa i) σ.2 σ'.2)) := by
  obtain ⟨s1, s2, s3⟩ := hS.2.1 i hi
  refine rv_ct (M := m_Late_promise) rfl (by decide) rfl rfl ?_
  refine rv_V.run rv_gd_Late_promise [] 400 ?_
  refine And.intro (Exists.intro _ h.1) ?_
  refine ⟨_, _, _, ct_sourceAt_in h.1 hS i hi, Nat.zero_le _, Nat.zero_le _, rfl, ?_⟩
  rintro _ σ ⟨rfl, rfl⟩
  refine ⟨_, _, _, ct_isWithin t 0 999999999, Nat.zero_le _, Nat.zero_le _, rfl, ?_⟩
  rintro _ σ ⟨rfl, rfl⟩
  refine And.intro (fun c1 => ?_) (fun c1 => ?_)
  · rw [ht] at c1
    exact absurd c1 (by decide)
  refine Exists.intro _ (And.intro s1 ?_)
  refine And.intro (fun c2 => ?_) (fun c2 => ?_)
  · exact And.intro trivial ⟨fun _ => ⟨rfl, rfl⟩, fun z => absurd (Or.inl c2) z⟩
  refine Exists.intro _ (And.intro s1 ?_)
  refine And.intro (fun c3 => ?_) (fun c3 => ?_)
  · have hno : ¬ (t < (sd i).2.1 ∨ (sd i).2.2.1.1 = true) := fun z => z.elim c2 (fun z => by rw [rv_b0.mp c3] at z; cases z)
    refine Exists.intro _ (And.intro s1 (And.intro trivial ?_))
    have h1 := h.far (oS oa i (sd_prom (sd i) t)) (a := sa i) (by omega)
    have hO1 := hO.up (oS oa i (sd_prom (sd i) t)) (a := sa i) (by omega) (fun j hj => os_ne hO hS hi hj)
    have hS1 := hS.set hi (sd_prom (sd i) t) s3
    refine Exists.intro _ (And.intro rv_up_s ?_)
    refine And.intro (Exists.intro _ h1.1) ?_
    refine ⟨_, _, _, ct_moveMark (σ := (σ.1, rv_up σ.2 (sa i) (oS oa i (sd_prom (sd i) t)))) h1 hO1 hS1 s3, Nat.zero_le _, Nat.zero_le _, rfl, ?_⟩
    rintro _ σ2 ⟨m, k0, rfl, k2, k3, k4, k5, k6⟩
    refine And.intro trivial ⟨fun z => absurd z hno, fun _ => ⟨m, k0, rfl, k2, k3, k4, k5, ?_⟩⟩
    intro q hq
    rw [k6 q (fun z => hq (z.elim Or.inl (fun z => Or.inr (Or.inl z))))]
    exact rv_up_n (fun z => hq (Or.inr (Or.inr z)))
  · exact And.intro trivial ⟨fun _ => ⟨rfl, rfl⟩, fun z => absurd (Or.inr (rv_bn c3)) z⟩
set_option maxRecDepth 100000 in
theorem ct_end_bad {G : rv_G} {σ : rv_S} {x ns : Nat} {nop ev bd rl dr : Int32} (hx : σ.2 x = some (oLate x nop (nI ns) ev bd rl dr)) (i : Int32) (hb : i < 0 ∨ nI ns ≤ i) : rv_Ct G i_Late_end 0 0 [.ref x, .int i] σ (fun r σ' => r = some (.int (-1)) ∧ σ' = σ) := by
  refine rv_ct (M := m_Late_end) rfl (by decide) rfl rfl ?_
  refine rv_V.run rv_gd_Late_end [] 400 ?_
  refine And.intro (Exists.intro _ hx) ?_
  refine ⟨_, _, _, ct_sourceAt_out hx i hb, Nat.zero_le _, Nat.zero_le _, rfl, ?_⟩
  rintro _ σ ⟨rfl, rfl⟩
  exact And.intro trivial ⟨rfl, rfl⟩
set_option maxRecDepth 100000 in
theorem ct_end {G : rv_G} {σ : rv_S} {x no ns n i : Nat} {oa sa : Nat → Nat} {od : Nat → Od} {sd : Nat → Sd} {p : Nat → Nat} {D : Nat → Wd} {R : Rs} {bd rl dr : Int32} (h : PT σ.2 x (nI no) (nI ns) bd rl dr n p D R) (hO : POP σ.2 x no oa od) (hS : PSR σ.2 x no ns oa sa sd) (hi : i < ns) :
    rv_Ct G i_Late_end 0 0 [.ref x, .int (nI i)] σ (fun r σ' => ((sd i).2.2.1.1 = true → r = some (.int (-2)) ∧ σ' = σ) ∧ (¬ (sd i).2.2.1.1 = true → ∃ m, m = mm_run od (va_up sd i (sd_end (sd i))) (sd i).1 ns n p D R ∧ r = some (.int m.1) ∧ σ'.1 = σ.1 ∧ PT σ'.2 x (nI no) (nI ns) bd rl dr m.2.2.1 m.2.2.2.1 m.2.2.2.2.1 m.2.2.2.2.2 ∧ POP σ'.2 x no oa m.2.1 ∧ PSR σ'.2 x no ns oa sa (va_up sd i (sd_end (sd i))) ∧ rv_only (fun q => SC x q ∨ q = oa (sd i).1 ∨ q = sa i) σ.2 σ'.2)) := by
  obtain ⟨s1, s2, s3⟩ := hS.2.1 i hi
  refine rv_ct (M := m_Late_end) rfl (by decide) rfl rfl ?_
  refine rv_V.run rv_gd_Late_end [] 400 ?_
  refine And.intro (Exists.intro _ h.1) ?_
  refine ⟨_, _, _, ct_sourceAt_in h.1 hS i hi, Nat.zero_le _, Nat.zero_le _, rfl, ?_⟩
  rintro _ σ ⟨rfl, rfl⟩
  refine Exists.intro _ (And.intro s1 ?_)
  refine And.intro (fun c3 => ?_) (fun c3 => ?_)
  · have hno : ¬ (sd i).2.2.1.1 = true := fun z => by rw [rv_b0.mp c3] at z; cases z
    refine Exists.intro _ (And.intro s1 (And.intro (Or.inr rfl) ?_))
    have h1 := h.far (oS oa i (sd_end (sd i))) (a := sa i) (by omega)
    have hO1 := hO.up (oS oa i (sd_end (sd i))) (a := sa i) (by omega) (fun j hj => os_ne hO hS hi hj)
    have hS1 := hS.set hi (sd_end (sd i)) s3
    refine Exists.intro _ (And.intro rv_up_s ?_)
    refine And.intro (Exists.intro _ h1.1) ?_
    refine ⟨_, _, _, ct_moveMark (σ := (σ.1, rv_up σ.2 (sa i) (oS oa i (sd_end (sd i))))) h1 hO1 hS1 s3, Nat.zero_le _, Nat.zero_le _, rfl, ?_⟩
    rintro _ σ2 ⟨m, k0, rfl, k2, k3, k4, k5, k6⟩
    refine And.intro trivial ⟨fun z => absurd z hno, fun _ => ⟨m, k0, rfl, k2, k3, k4, k5, ?_⟩⟩
    intro q hq
    rw [k6 q (fun z => hq (z.elim Or.inl (fun z => Or.inr (Or.inl z))))]
    exact rv_up_n (fun z => hq (Or.inr (Or.inr z)))
  · exact And.intro trivial ⟨fun _ => ⟨rfl, rfl⟩, fun z => absurd (rv_bn c3) z⟩
