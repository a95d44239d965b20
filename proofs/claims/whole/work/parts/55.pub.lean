/-! THE CLASS: its smaller calls -/
set_option maxRecDepth 100000 in
theorem ct_result {G : rv_G} {σ : rv_S} {x s : Nat} {q : Nat → Nat → Int64} {nop nsr ev bd rl dr : Int32} (hx : σ.2 x = some (oLate x nop nsr ev bd rl dr)) (h : PR σ.2 (x + 368) (x + 369) 400 9 s q) (i j : Int32) :
    rv_Ct G i_Late_result 0 0 [.ref x, .int i, .int j] σ (fun a σ' => a = some (.long (if i < 0 ∨ nI s ≤ i ∨ j < 0 ∨ nI 9 ≤ j then -99999999 else q i.toNatClampNeg j.toNatClampNeg)) ∧ σ' = σ) := by
  refine rv_ct (M := m_Late_result) rfl (by decide) rfl rfl ?_
  refine rv_V.run rv_gd_Late_result [] 400 ?_
  refine Exists.intro _ (And.intro hx ?_)
  refine And.intro (by obtain ⟨e, la, f, he, hs, hr, hc, hf⟩ := h; exact ⟨_, hr⟩) ?_
  refine ⟨_, _, _, ct_get_n h (by decide) (by decide) i j, Nat.zero_le _, Nat.zero_le _, rfl, ?_⟩
  rintro _ σ ⟨rfl, rfl⟩
  exact ⟨rfl, rfl⟩
set_option maxRecDepth 100000 in
theorem ct_aside {G : rv_G} {σ : rv_S} {x s : Nat} {q : Nat → Nat → Int64} {nop nsr ev bd rl dr : Int32} (hx : σ.2 x = some (oLate x nop nsr ev bd rl dr)) (h : PR σ.2 (x + 370) (x + 371) 100 5 s q) (i j : Int32) :
    rv_Ct G i_Late_aside 0 0 [.ref x, .int i, .int j] σ (fun a σ' => a = some (.int (if i < 0 ∨ nI s ≤ i ∨ j < 0 ∨ nI 5 ≤ j then (-99999999 : Int64) else q i.toNatClampNeg j.toNatClampNeg).toInt32) ∧ σ' = σ) := by
  refine rv_ct (M := m_Late_aside) rfl (by decide) rfl rfl ?_
  refine rv_V.run rv_gd_Late_aside [] 400 ?_
  refine Exists.intro _ (And.intro hx ?_)
  refine And.intro (by obtain ⟨e, la, f, he, hs, hr, hc, hf⟩ := h; exact ⟨_, hr⟩) ?_
  refine ⟨_, _, _, ct_get_n h (by decide) (by decide) i j, Nat.zero_le _, Nat.zero_le _, rfl, ?_⟩
  rintro _ σ ⟨rfl, rfl⟩
  exact And.intro trivial ⟨rfl, rfl⟩
set_option maxRecDepth 100000 in
theorem ct_mark_in {G : rv_G} {σ : rv_S} {x no : Nat} {oa : Nat → Nat} {od : Nat → Od} {nsr ev bd rl dr : Int32} (hx : σ.2 x = some (oLate x (nI no) nsr ev bd rl dr)) (h : POP σ.2 x no oa od) (j : Nat) (hj : j < no) : rv_Ct G i_Late_mark 0 0 [.ref x, .int (nI j)] σ (fun r σ' => r = some (.int (od j).2.2.2.2.2) ∧ σ' = σ) := by
  refine rv_ct (M := m_Late_mark) rfl (by decide) rfl rfl ?_
  refine rv_V.run rv_gd_Late_mark [] 400 ?_
  refine And.intro (Exists.intro _ hx) ?_
  refine ⟨_, _, _, ct_operatorAt_in hx h j hj, Nat.zero_le _, Nat.zero_le _, rfl, ?_⟩
  rintro _ σ ⟨rfl, rfl⟩
  refine Exists.intro _ (And.intro (h.2.1 j hj).1 ?_)
  exact And.intro trivial ⟨rfl, rfl⟩
set_option maxRecDepth 100000 in
theorem ct_mark_out {G : rv_G} {σ : rv_S} {x no : Nat} {nsr ev bd rl dr : Int32} (hx : σ.2 x = some (oLate x (nI no) nsr ev bd rl dr)) (i : Int32) (hi : i < 0 ∨ nI no ≤ i) : rv_Ct G i_Late_mark 0 0 [.ref x, .int i] σ (fun r σ' => r = some (.int (-1)) ∧ σ' = σ) := by
  refine rv_ct (M := m_Late_mark) rfl (by decide) rfl rfl ?_
  refine rv_V.run rv_gd_Late_mark [] 400 ?_
  refine And.intro (Exists.intro _ hx) ?_
  refine ⟨_, _, _, ct_operatorAt_out hx i hi, Nat.zero_le _, Nat.zero_le _, rfl, ?_⟩
  rintro _ σ ⟨rfl, rfl⟩
  exact And.intro trivial ⟨rfl, rfl⟩
set_option maxRecDepth 100000 in
theorem ct_bound {G : rv_G} {σ : rv_S} {x s : Nat} {q : Nat → Nat → Int64} {nop nsr ev bd rl dr : Int32} (hx : σ.2 x = some (oLate x nop nsr ev bd rl dr)) (hq : PR σ.2 (x + 370) (x + 371) 100 5 s q) (n rule : Int32) :
    rv_Ct G i_Late_bound 0 0 [.ref x, .int n, .int rule] σ (fun a σ' => a = some (.int (if rv_in n 0 100 = true ∧ rv_in rule 0 1 = true then (if nI s ≤ n then nI s else -2) else -1)) ∧ σ' = (if (rv_in n 0 100 = true ∧ rv_in rule 0 1 = true) ∧ nI s ≤ n then (σ.1, rv_up σ.2 x (oLate x nop nsr ev n rule dr)) else σ)) := by
  obtain ⟨e, la, f, he, hsR, hr, hc, hf⟩ := hq
  refine rv_ct (M := m_Late_bound) rfl (by decide) rfl rfl ?_
  refine rv_V.run rv_gd_Late_bound [] 400 ?_
  refine ⟨_, _, _, ct_isWithin n 0 100, Nat.zero_le _, Nat.zero_le _, rfl, ?_⟩
  rintro _ σ ⟨rfl, rfl⟩
  refine And.intro (fun c1 => ?_) (fun c1 => ?_)
  · have hno : ¬ (rv_in n 0 100 = true ∧ rv_in rule 0 1 = true) := fun z => by rw [rv_b0.mp c1] at z; exact absurd z.1 (by decide)
    rw [if_neg hno, if_neg (fun z => hno z.1)]
    exact And.intro trivial ⟨rfl, rfl⟩
  refine ⟨_, _, _, ct_isWithin rule 0 1, Nat.zero_le _, Nat.zero_le _, rfl, ?_⟩
  rintro _ σ ⟨rfl, rfl⟩
  refine And.intro (fun c2 => ?_) (fun c2 => ?_)
  · have hno : ¬ (rv_in n 0 100 = true ∧ rv_in rule 0 1 = true) := fun z => by rw [rv_b0.mp c2] at z; exact absurd z.2 (by decide)
    rw [if_neg hno, if_neg (fun z => hno z.1)]
    exact And.intro trivial ⟨rfl, rfl⟩
  have hyes : rv_in n 0 100 = true ∧ rv_in rule 0 1 = true := ⟨rv_bn c1, rv_bn c2⟩
  rw [if_pos hyes]
  refine Exists.intro _ (And.intro hx ?_)
  refine Exists.intro _ (And.intro hr ?_)
  refine And.intro (fun c3 => ?_) (fun c3 => ?_)
  · rw [if_pos c3, if_pos ⟨hyes, c3⟩]
    refine Exists.intro _ (And.intro hx (And.intro trivial ?_))
    refine Exists.intro _ (And.intro rv_up_s (And.intro trivial ?_))
    rw [rv_up_up]
    refine Exists.intro _ (And.intro rv_up_s ?_)
    refine Exists.intro _ (And.intro ((rv_up_n (by omega)).trans hr) ?_)
    exact And.intro trivial ⟨rfl, rfl⟩
  · rw [if_neg c3, if_neg (fun z => c3 z.2)]
    exact And.intro trivial ⟨rfl, rfl⟩
