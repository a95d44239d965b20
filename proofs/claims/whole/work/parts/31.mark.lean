/-! OPERATORS, SOURCES, THE MARK -/
def rv_in (n a b : Int32) : Bool := decide (a ≤ n ∧ n ≤ b)
set_option maxRecDepth 100000 in
theorem ct_isWithin {G : rv_G} {σ : rv_S} (n a b : Int32) : rv_Ct G i_Late_isWithin 0 0 [.int n, .int a, .int b] σ (fun r σ' => r = some (.int (rv_b (rv_in n a b))) ∧ σ' = σ) := by
  refine rv_ct (M := m_Late_isWithin) rfl (by decide) rfl rfl ?_
  refine rv_V.run rv_gd_Late_isWithin [] 400 ?_
  refine And.intro (fun c1 => ?_) (fun c1 => ?_)
  · refine And.intro (Or.inl rfl) ⟨?_, rfl⟩
    rw [show rv_in n a b = false from decide_eq_false (fun z => Int32.not_le.mpr c1 z.1)]; rfl
  · refine And.intro (fun c2 => ?_) (fun c2 => ?_)
    · refine And.intro (Or.inl rfl) ⟨?_, rfl⟩
      rw [show rv_in n a b = false from decide_eq_false (fun z => Int32.not_le.mpr c2 z.2)]; rfl
    · refine And.intro (Or.inr rfl) ⟨?_, rfl⟩
      rw [show rv_in n a b = true from decide_eq_true ⟨Int32.not_lt.mp c1, Int32.not_lt.mp c2⟩]; rfl
/-- an operator: kind, size, stride, lateness, rule, mark -/
abbrev Od : Type := Int32 × Int32 × Int32 × Int32 × Int32 × Int32
def oO (j : Nat) (d : Od) : rv_E := oOp (nI j) d.1 d.2.1 d.2.2.1 d.2.2.2.1 d.2.2.2.2.1 d.2.2.2.2.2
def POP (g : Nat → Option rv_E) (x no : Nat) (oa : Nat → Nat) (od : Nat → Od) : Prop :=
  (∃ f : Nat → Option Nat, g (x + 1) = some (rv_aO RX2 5 f) ∧ ∀ j, j < no → f j = some (oa j)) ∧ (∀ j, j < no → g (oa j) = some (oO j (od j)) ∧ x + 372 < oa j) ∧ no ≤ 5 ∧ ∀ i j, i < no → j < no → oa i = oa j → i = j
/-- a source: its operator, promise, ended, stopped, rows used, rows aside, times broken, first broken -/
abbrev Sd : Type := Nat × Int32 × (Bool × Bool) × Int32 × Int32 × Int32 × Int32
def oS (oa : Nat → Nat) (j : Nat) (d : Sd) : rv_E := oSource (nI j) (oa d.1) d.2.1 d.2.2.1.1 d.2.2.1.2 d.2.2.2.1 d.2.2.2.2.1 d.2.2.2.2.2.1 d.2.2.2.2.2.2
def PSR (g : Nat → Option rv_E) (x no ns : Nat) (oa sa : Nat → Nat) (sd : Nat → Sd) : Prop :=
  (∃ f : Nat → Option Nat, g (x + 2) = some (rv_aO RX6 10 f) ∧ ∀ j, j < ns → f j = some (sa j)) ∧ (∀ j, j < ns → g (sa j) = some (oS oa j (sd j)) ∧ x + 372 < sa j ∧ (sd j).1 < no) ∧ ns ≤ 10 ∧ ∀ i j, i < ns → j < ns → sa i = sa j → i = j
set_option maxRecDepth 100000 in
theorem ct_operatorAt_in {G : rv_G} {σ : rv_S} {x no : Nat} {oa : Nat → Nat} {od : Nat → Od} {nsr ev bd rl dr : Int32} (hx : σ.2 x = some (oLate x (nI no) nsr ev bd rl dr)) (h : POP σ.2 x no oa od) (j : Nat) (hj : j < no) : rv_Ct G i_Late_operatorAt 0 0 [.ref x, .int (nI j)] σ (fun r σ' => r = some (.ref (oa j)) ∧ σ' = σ) := by
  obtain ⟨⟨f, hf, hfe⟩, ho, hn, hi⟩ := h
  refine rv_ct (M := m_Late_operatorAt) rfl (by decide) rfl rfl ?_
  refine rv_V.run rv_gd_Late_operatorAt [] 400 ?_
  refine And.intro (fun c1 => ?_) (fun c1 => ?_)
  · exact absurd c1 (Int32.not_lt.mpr ((rv_leN (a := 0) rfl rfl (by omega) (by omega)).mpr (by omega)))
  refine Exists.intro _ (And.intro hx ?_)
  refine And.intro (fun c2 => ?_) (fun c2 => ?_)
  · exact absurd ((rv_leN rfl rfl (by omega) (by omega)).mp c2) (by omega)
  refine Exists.intro _ (And.intro hx ?_)
  exact ⟨_, _, _, some (oa j), hf, by decide, vp_in_nI (by omega) (by omega), (by rw [nI_clamp (by omega)]; exact hfe j hj), rfl, rfl⟩
set_option maxRecDepth 100000 in
theorem ct_operatorAt_out {G : rv_G} {σ : rv_S} {x no : Nat} {nsr ev bd rl dr : Int32} (hx : σ.2 x = some (oLate x (nI no) nsr ev bd rl dr)) (i : Int32) (hi : i < 0 ∨ nI no ≤ i) : rv_Ct G i_Late_operatorAt 0 0 [.ref x, .int i] σ (fun r σ' => r = some .null ∧ σ' = σ) := by
  refine rv_ct (M := m_Late_operatorAt) rfl (by decide) rfl rfl ?_
  refine rv_V.run rv_gd_Late_operatorAt [] 400 ?_
  refine And.intro (fun c1 => ?_) (fun c1 => ?_)
  · exact ⟨rfl, rfl⟩
  refine Exists.intro _ (And.intro hx ?_)
  refine And.intro (fun c2 => ?_) (fun c2 => ?_)
  · exact ⟨rfl, rfl⟩
  · rcases hi with z | z
    · exact absurd z c1
    · exact absurd z c2
set_option maxRecDepth 100000 in
theorem ct_sourceAt_in {G : rv_G} {σ : rv_S} {x no ns : Nat} {oa sa : Nat → Nat} {sd : Nat → Sd} {nop ev bd rl dr : Int32} (hx : σ.2 x = some (oLate x nop (nI ns) ev bd rl dr)) (h : PSR σ.2 x no ns oa sa sd) (j : Nat) (hj : j < ns) : rv_Ct G i_Late_sourceAt 0 0 [.ref x, .int (nI j)] σ (fun r σ' => r = some (.ref (sa j)) ∧ σ' = σ) := by
  obtain ⟨⟨f, hf, hfe⟩, ho, hn, hi⟩ := h
  refine rv_ct (M := m_Late_sourceAt) rfl (by decide) rfl rfl ?_
  refine rv_V.run rv_gd_Late_sourceAt [] 400 ?_
  refine And.intro (fun c1 => ?_) (fun c1 => ?_)
  · exact absurd c1 (Int32.not_lt.mpr ((rv_leN (a := 0) rfl rfl (by omega) (by omega)).mpr (by omega)))
  refine Exists.intro _ (And.intro hx ?_)
  refine And.intro (fun c2 => ?_) (fun c2 => ?_)
  · exact absurd ((rv_leN rfl rfl (by omega) (by omega)).mp c2) (by omega)
  refine Exists.intro _ (And.intro hx ?_)
  exact ⟨_, _, _, some (sa j), hf, by decide, vp_in_nI (by omega) (by omega), (by rw [nI_clamp (by omega)]; exact hfe j hj), rfl, rfl⟩
set_option maxRecDepth 100000 in
theorem ct_sourceAt_out {G : rv_G} {σ : rv_S} {x ns : Nat} {nop ev bd rl dr : Int32} (hx : σ.2 x = some (oLate x nop (nI ns) ev bd rl dr)) (i : Int32) (hi : i < 0 ∨ nI ns ≤ i) : rv_Ct G i_Late_sourceAt 0 0 [.ref x, .int i] σ (fun r σ' => r = some .null ∧ σ' = σ) := by
  refine rv_ct (M := m_Late_sourceAt) rfl (by decide) rfl rfl ?_
  refine rv_V.run rv_gd_Late_sourceAt [] 400 ?_
  refine And.intro (fun c1 => ?_) (fun c1 => ?_)
  · exact ⟨rfl, rfl⟩
  refine Exists.intro _ (And.intro hx ?_)
  refine And.intro (fun c2 => ?_) (fun c2 => ?_)
  · exact ⟨rfl, rfl⟩
  · rcases hi with z | z
    · exact absurd z c1
    · exact absurd z c2
/-- the least promise of an operator's sources that have not ended -/
def lp_run (sd : Nat → Sd) (o : Nat) : Nat → Nat → Int32 → Int32
  | 0, _, a => a
  | t + 1, i, a => lp_run sd o t (i + 1) (if (sd i).1 = o ∧ (sd i).2.2.1.1 = false then rv_min a (sd i).2.1 else a)
set_option maxRecDepth 100000 in
theorem lp_leastPromise {G : rv_G} {σ : rv_S} {x no ns o : Nat} {oa sa : Nat → Nat} {sd : Nat → Sd} {nop ev bd rl dr : Int32} (hx : σ.2 x = some (oLate x nop (nI ns) ev bd rl dr)) (h : PSR σ.2 x no ns oa sa sd) (hinj : ∀ i j, i < no → j < no → oa i = oa j → i = j) (ho : o < no) : ∀ (t i : Nat) (vi a : Int32), vi = nI i → i + t = ns →
    rv_V G m_Late_leastPromise 0 0 (fun r σ' => r = some (.int (lp_run sd o t i a)) ∧ σ' = σ) 5 [some (.ref x), some (.ref (oa o)), some (.int a), some (.int vi)] [] σ 0 0 := by
  obtain ⟨⟨f, hf, hfe⟩, hsd, hn, hi⟩ := h
  intro t
  induction t with
  | zero =>
    intro i vi a ei h1
    refine rv_V.run rv_gd_Late_leastPromise [5] 400 ?_
    refine Exists.intro _ (And.intro hx ?_)
    refine And.intro (fun c1 => ?_) (fun c1 => ?_)
    · exact And.intro trivial ⟨rfl, rfl⟩
    · exact absurd ((rv_leN rfl ei (by omega) (by omega)).mpr (by omega)) c1
  | succ t ih =>
    intro i vi a ei h1
    obtain ⟨hs1, hs2, hs3⟩ := hsd i (by omega)
    have hld : vp_in vi 10 := by rw [ei]; exact vp_in_nI (by omega) (by omega)
    have hfi : f vi.toNatClampNeg = some (sa i) := by rw [ei, nI_clamp (by omega)]; exact hfe i (by omega)
    have next : ∀ a' : Int32, lp_run sd o (t + 1) i a = lp_run sd o t (i + 1) a' → rv_V G m_Late_leastPromise 0 0 (fun r σ' => r = some (.int (lp_run sd o (t + 1) i a)) ∧ σ' = σ) 52 [some (.ref x), some (.ref (oa o)), some (.int a'), some (.int vi)] [] σ 0 0 := by
      intro a' e1
      refine rv_V.run rv_gd_Late_leastPromise [5] 400 ?_
      rw [e1]
      exact ih (i + 1) (vi + 1) a' (by rw [ei]; exact nI_1 i) (by omega)
    refine rv_V.run rv_gd_Late_leastPromise [5, 52] 400 ?_
    refine Exists.intro _ (And.intro hx ?_)
    refine And.intro (fun c1 => ?_) (fun c1 => ?_)
    · exact absurd ((rv_leN rfl ei (by omega) (by omega)).mp c1) (by omega)
    refine Exists.intro _ (And.intro hx ?_)
    refine ⟨_, _, _, some (sa i), hf, by decide, hld, hfi, ?_⟩
    refine Exists.intro _ (And.intro hs1 ?_)
    refine And.intro (fun c2 => ?_) (fun c2 => ?_)
    · refine Exists.intro _ (And.intro hx ?_)
      refine ⟨_, _, _, some (sa i), hf, by decide, hld, hfi, ?_⟩
      refine Exists.intro _ (And.intro hs1 ?_)
      refine And.intro (fun c3 => ?_) (fun c3 => ?_)
      · refine Exists.intro _ (And.intro hx ?_)
        refine ⟨_, _, _, some (sa i), hf, by decide, hld, hfi, ?_⟩
        refine Exists.intro _ (And.intro hs1 ?_)
        refine ⟨_, _, _, ct_min a (sd i).2.1, Nat.zero_le _, Nat.zero_le _, rfl, ?_⟩
        rintro _ σ ⟨rfl, rfl⟩
        refine next _ ?_
        conv => lhs; unfold lp_run
        rw [if_pos ⟨hinj _ _ hs3 ho c2, rv_b0.mp c3⟩]
      · refine next a ?_
        conv => lhs; unfold lp_run
        rw [if_neg (fun z => by have := rv_bn c3; rw [z.2] at this; cases this)]
    · refine next a ?_
      conv => lhs; unfold lp_run
      rw [if_neg (fun z => c2 (by show oa (sd i).1 = oa o; rw [z.1]))]
set_option maxRecDepth 100000 in
theorem ct_leastPromise {G : rv_G} {σ : rv_S} {x no ns o : Nat} {oa sa : Nat → Nat} {sd : Nat → Sd} {nop ev bd rl dr : Int32} (hx : σ.2 x = some (oLate x nop (nI ns) ev bd rl dr)) (h : PSR σ.2 x no ns oa sa sd) (hinj : ∀ i j, i < no → j < no → oa i = oa j → i = j) (ho : o < no) :
    rv_Ct G i_Late_leastPromise 0 0 [.ref x, .ref (oa o)] σ (fun r σ' => r = some (.int (lp_run sd o ns 0 1000000000)) ∧ σ' = σ) := by
  refine rv_ct (M := m_Late_leastPromise) rfl (by decide) rfl rfl ?_
  refine rv_V.run rv_gd_Late_leastPromise [5] 400 ?_
  exact lp_leastPromise hx h hinj ho ns 0 _ _ rfl (by omega)
/-- the mark goes on -/
def om (d : Od) (m : Int32) : Od := (d.1, d.2.1, d.2.2.1, d.2.2.2.1, d.2.2.2.2.1, m)
theorem SC_hi {x q : Nat} (h : x + 369 < q) : ¬ SC x q := by unfold SC; omega
set_option maxRecDepth 100000 in
theorem ct_moveMark0 {G : rv_G} {σ : rv_S} {x no ns o : Nat} {oa sa : Nat → Nat} {od : Nat → Od} {sd : Nat → Sd} {ev bd rl dr : Int32} (hx : σ.2 x = some (oLate x (nI no) (nI ns) ev bd rl dr)) (hO : POP σ.2 x no oa od) (hS : PSR σ.2 x no ns oa sa sd) (ho : o < no) (hle : lp_run sd o ns 0 1000000000 ≤ (od o).2.2.2.2.2) :
    rv_Ct G i_Late_moveMark 0 0 [.ref x, .ref (oa o)] σ (fun r σ' => r = some (.int 0) ∧ σ' = σ) := by
  refine rv_ct (M := m_Late_moveMark) rfl (by decide) rfl rfl ?_
  refine rv_V.run rv_gd_Late_moveMark [] 400 ?_
  refine Exists.intro _ (And.intro hx ?_)
  refine And.intro (Exists.intro _ hx) ?_
  refine ⟨_, _, _, ct_leastPromise hx hS hO.2.2.2 ho, Nat.zero_le _, Nat.zero_le _, rfl, ?_⟩
  rintro _ σ ⟨rfl, rfl⟩
  refine Exists.intro _ (And.intro (hO.2.1 o ho).1 ?_)
  refine And.intro (fun c1 => ?_) (fun c1 => ?_)
  · refine Exists.intro _ (And.intro hx ?_)
    exact And.intro trivial ⟨by show some (Value.int (ev - ev)) = _; rw [Int32.sub_self], rfl⟩
  · exact absurd hle c1
set_option maxRecDepth 100000 in
theorem ct_moveMark1 {G : rv_G} {σ : rv_S} {x no ns o n : Nat} {oa sa : Nat → Nat} {od : Nat → Od} {sd : Nat → Sd} {p : Nat → Nat} {D : Nat → Wd} {R : Rs} {bd rl dr : Int32} (h : PT σ.2 x (nI no) (nI ns) bd rl dr n p D R) (hO : POP σ.2 x no oa od) (hS : PSR σ.2 x no ns oa sa sd) (ho : o < no) (hle : (od o).2.2.2.2.2 < lp_run sd o ns 0 1000000000) :
    rv_Ct G i_Late_moveMark 0 0 [.ref x, .ref (oa o)] σ (fun r σ' => ∃ s, s = lc_run (nI o) (od o).2.2.2.1 (lp_run sd o ns 0 1000000000) 120 (n, p, tl_run (nI o) (lp_run sd o ns 0 1000000000) n p 120 (D, R)) ∧ r = some (.int (s.2.2.2.2.2 - R.2.2)) ∧ σ'.1 = σ.1 ∧ PT σ'.2 x (nI no) (nI ns) bd rl dr s.1 s.2.1 s.2.2.1 s.2.2.2 ∧ σ'.2 (oa o) = some (oO o (om (od o) (lp_run sd o ns 0 1000000000))) ∧ rv_only (fun q => SC x q ∨ q = oa o) σ.2 σ'.2) := by
  have hox := (hO.2.1 o ho).2
  have h1 : PT (rv_up σ.2 (oa o) (oO o (om (od o) (lp_run sd o ns 0 1000000000)))) x (nI no) (nI ns) bd rl dr n p D R := ⟨(rv_up_n (by omega)).trans h.1, h.2.1.kept (fun q h2 h3 => rv_up_n (by omega)), h.2.2.kept (rv_up_n (by omega)) (rv_up_n (by omega))⟩
  refine rv_ct (M := m_Late_moveMark) rfl (by decide) rfl rfl ?_
  refine rv_V.run rv_gd_Late_moveMark [] 400 ?_
  refine Exists.intro _ (And.intro h.1 ?_)
  refine And.intro (Exists.intro _ h.1) ?_
  refine ⟨_, _, _, ct_leastPromise h.1 hS hO.2.2.2 ho, Nat.zero_le _, Nat.zero_le _, rfl, ?_⟩
  rintro _ σ ⟨rfl, rfl⟩
  refine Exists.intro _ (And.intro (hO.2.1 o ho).1 ?_)
  refine And.intro (fun c1 => ?_) (fun c1 => ?_)
  · exact absurd hle (Int32.not_lt.mpr c1)
  refine Exists.intro _ (And.intro (hO.2.1 o ho).1 (And.intro trivial ?_))
  refine And.intro (Exists.intro _ h1.1) ?_
  refine ⟨_, _, _, ct_tellAllDue (σ := (σ.1, rv_up σ.2 (oa o) (oO o (om (od o) (lp_run sd o ns 0 1000000000))))) (nI o) _ _ _ _ _ _ (SC_hi (by omega)) h1 rv_up_s, Nat.zero_le _, Nat.zero_le _, rfl, ?_⟩
  rintro _ σ2 ⟨rfl, e2, h2, s2⟩
  refine And.intro (Exists.intro _ h2.1) ?_
  refine ⟨_, _, _, ct_letClosedGo (nI o) _ _ _ _ _ _ (SC_hi (by omega)) h2 ((s2 _ (SC_hi (by omega))).trans rv_up_s), Nat.zero_le _, Nat.zero_le _, rfl, ?_⟩
  rintro _ σ3 ⟨rfl, e3, h3, s3⟩
  refine Exists.intro _ (And.intro h3.1 ?_)
  refine And.intro trivial ⟨_, rfl, rfl, e3.trans e2, h3, (s3 _ (SC_hi (by omega))).trans ((s2 _ (SC_hi (by omega))).trans rv_up_s), ?_⟩
  intro q hq
  rw [s3 q (fun z => hq (Or.inl z)), s2 q (fun z => hq (Or.inl z))]
  exact rv_up_n (fun z => hq (Or.inr z))
