/-! THE CLASS: pass, passed, window -/
set_option maxRecDepth 100000 in
theorem ct_inOrder {G : rv_G} {σ : rv_S} {rl n i : Nat} {ra : Nat → Nat} {rd : Nat → Rd} (h : PRL σ.2 rl n ra rd) (hi : i < n) : rv_Ct G i_RowLog_inOrder 0 0 [.ref rl, .int (nI i)] σ (fun q σ' => q = some (.ref (ra i)) ∧ σ' = σ) := by
  obtain ⟨hx, ⟨f, hf, hfe⟩, hr, hn2⟩ := h
  refine rv_ct (M := m_RowLog_inOrder) rfl (by decide) rfl rfl ?_
  refine rv_V.run rv_gd_RowLog_inOrder [] 400 ?_
  refine And.intro (fun c1 => absurd c1 (nI_pos (by omega))) (fun c1 => ?_)
  refine Exists.intro _ (And.intro hx ?_)
  refine And.intro (fun c2 => absurd ((rv_leN rfl rfl (by omega) (by omega)).mp c2) (by omega)) (fun c2 => ?_)
  refine Exists.intro _ (And.intro hx ?_)
  exact ⟨_, _, _, some (ra i), hf, by decide, vp_in_nI (by omega) (by omega), (by rw [nI_clamp (by omega)]; exact hfe i hi), rfl, rfl⟩
theorem PRL.kept {g g' : Nat → Option rv_E} {rl n : Nat} {ra : Nat → Nat} {rd : Nat → Rd} (h : PRL g rl n ra rd) (h1 : g' rl = g rl) (h2 : g' (rl + 1) = g (rl + 1)) (h3 : ∀ j, j < n → g' (ra j) = g (ra j)) : PRL g' rl n ra rd := by
  obtain ⟨hx, ⟨f, hf, hfe⟩, hr, hn2⟩ := h
  exact ⟨h1.trans hx, ⟨f, h2.trans hf, hfe⟩, fun j hj => ⟨(h3 j hj).trans (hr j hj).1, (hr j hj).2⟩, hn2⟩
/-- which rows the pass takes, and what comes of them -/
def pp_is (sd : Nat → Sd) (rs : Nat → Nat) (rd : Nat → Rd) (o : Nat) (all : Bool) (i : Nat) : Bool := decide ((sd (rs i)).1 = o) && (all || (rd i).2.2.2.2)
def pp_run (sd : Nat → Sd) (rs : Nat → Nat) (rd : Nat → Rd) (d : Od) (o : Nat) (all : Bool) : Nat → Nat → Ps → Ps
  | 0, _, s => s
  | t + 1, i, s => pp_run sd rs rd d o all t (i + 1) (if pp_is sd rs rd o all i = true then ps_add d s (rd i) else s)
set_option maxRecDepth 100000 in
theorem lp_pass {G : rv_G} {x no ns nr o : Nat} {oa sa ra rs : Nat → Nat} {od : Nat → Od} {sd : Nat → Sd} {rd : Nat → Rd} {ev bd rl dr : Int32} {x1 : Int32} {all : Bool} (hrs : ∀ j, j < nr → rs j < ns ∧ (rd j).1 = sa (rs j)) (ho : o < no) (hst : 1 ≤ (od o).2.2.1) (hst0 : ¬ (od o).2.2.1 = 0) (hfo : ∀ j, j < no → x + 373 < oa j) (hfs : ∀ j, j < ns → x + 373 < sa j) (hfr : ∀ j, j < nr → x + 373 < ra j) :
    ∀ (t i : Nat) (vi : Int32) (x5 : Option Value) (s : Ps) (σ : rv_S), vi = nI i → i + t = nr → σ.2 x = some (oLate x (nI no) (nI ns) ev bd rl dr) → POP σ.2 x no oa od → PSR σ.2 x no ns oa sa sd → PRL σ.2 (x + 3) nr ra rd → POS σ.2 (x + 372) s →
    rv_V G m_Late_pass 0 0 (fun q σ' => q = some (.int (nI (pp_run sd rs rd (od o) o all t i s).1)) ∧ σ'.1 = σ.1 ∧ POS σ'.2 (x + 372) (pp_run sd rs rd (od o) o all t i s) ∧ rv_only (fun q => q = x + 372 ∨ q = x + 373) σ.2 σ'.2) 22 [some (.ref x), some (.int x1), some (.int (rv_b all)), some (.ref (oa o)), some (.int vi), x5] [] σ 0 0 := by
  intro t
  induction t with
  | zero =>
    intro i vi x5 s σ ei e1 hx hO hS hL hP
    have hn := hL.2.2.2
    refine rv_V.run rv_gd_Late_pass [22] 400 ?_
    refine Exists.intro _ (And.intro hx ?_)
    refine Exists.intro _ (And.intro hL.1 ?_)
    refine And.intro (fun c1 => ?_) (fun c1 => absurd ((rv_leN rfl ei (by omega) (by omega)).mpr (by omega)) c1)
    refine Exists.intro _ (And.intro hx ?_)
    refine Exists.intro _ (And.intro hP.1 ?_)
    exact And.intro trivial ⟨rfl, rfl, hP, rv_only.rf⟩
  | succ t ih =>
    intro i vi x5 s σ ei e1 hx hO hS hL hP
    have hn := hL.2.2.2
    have hi : i < nr := by omega
    obtain ⟨s1, s2⟩ := hrs i hi
    obtain ⟨r1, r2⟩ := hL.2.2.1 i hi
    obtain ⟨q1, q2, q3⟩ := hS.2.1 (rs i) s1
    have next : ∀ (v5 : Option Value) (s' : Ps) (σ2 : rv_S), pp_run sd rs rd (od o) o all (t + 1) i s = pp_run sd rs rd (od o) o all t (i + 1) s' → σ2.1 = σ.1 → POS σ2.2 (x + 372) s' → rv_only (fun q => q = x + 372 ∨ q = x + 373) σ.2 σ2.2 →
        rv_V G m_Late_pass 0 0 (fun q σ' => q = some (.int (nI (pp_run sd rs rd (od o) o all (t + 1) i s).1)) ∧ σ'.1 = σ.1 ∧ POS σ'.2 (x + 372) (pp_run sd rs rd (od o) o all (t + 1) i s) ∧ rv_only (fun q => q = x + 372 ∨ q = x + 373) σ.2 σ'.2) 84 [some (.ref x), some (.int x1), some (.int (rv_b all)), some (.ref (oa o)), some (.int vi), v5] [] σ2 0 0 := by
      intro v5 s' σ2 e k1 k2 k3
      rw [e]
      refine rv_V.run rv_gd_Late_pass [22] 400 ?_
      refine (ih (i + 1) (vi + 1) v5 s' σ2 (by rw [ei]; exact nI_1 i) (by omega) ((k3 x (by omega)).trans hx) ?_ ?_ ?_ k2).mono ?_
      · obtain ⟨⟨f, hf, hfe⟩, hoo, hn, hi⟩ := hO
        exact ⟨⟨f, (k3 _ (by omega)).trans hf, hfe⟩, fun j hj => ⟨(k3 _ (by have := hfo j hj; omega)).trans (hoo j hj).1, (hoo j hj).2⟩, hn, hi⟩
      · obtain ⟨⟨f, hf, hfe⟩, hoo, hn, hi⟩ := hS
        exact ⟨⟨f, (k3 _ (by omega)).trans hf, hfe⟩, fun j hj => ⟨(k3 _ (by have := hfs j hj; omega)).trans (hoo j hj).1, (hoo j hj).2⟩, hn, hi⟩
      · exact hL.kept (k3 _ (by omega)) (k3 _ (by omega)) (fun j hj => k3 _ (by have := hfr j hj; omega))
      · rintro q σ' ⟨m1, m2, m3, m4⟩
        exact ⟨m1, m2.trans k1, m3, k3.tr m4⟩
    refine rv_V.run rv_gd_Late_pass [22, 74, 84] 400 ?_
    refine Exists.intro _ (And.intro hx ?_)
    refine Exists.intro _ (And.intro hL.1 ?_)
    refine And.intro (fun c1 => absurd ((rv_leN rfl ei (by omega) (by omega)).mp c1) (by omega)) (fun c1 => ?_)
    refine Exists.intro _ (And.intro hx ?_)
    refine And.intro (Exists.intro _ hL.1) ?_
    refine ⟨_, _, _, (by rw [ei]; exact ct_inOrder hL hi), Nat.zero_le _, Nat.zero_le _, rfl, ?_⟩
    rintro _ σ ⟨rfl, rfl⟩
    refine Exists.intro _ (And.intro r1 ?_)
    refine Exists.intro _ (And.intro (by rw [s2]; exact q1) ?_)
    have take : pp_is sd rs rd o all i = true → rv_V G m_Late_pass 0 0 (fun q σ' => q = some (.int (nI (pp_run sd rs rd (od o) o all (t + 1) i s).1)) ∧ σ'.1 = σ.1 ∧ POS σ'.2 (x + 372) (pp_run sd rs rd (od o) o all (t + 1) i s) ∧ rv_only (fun q => q = x + 372 ∨ q = x + 373) σ.2 σ'.2) 74 [some (.ref x), some (.int x1), some (.int (rv_b all)), some (.ref (oa o)), some (.int vi), some (.ref (ra i))] [] σ 0 0 := by
      intro htk
      refine rv_V.run rv_gd_Late_pass [84] 400 ?_
      refine Exists.intro _ (And.intro hx ?_)
      refine And.intro (Exists.intro _ hP.1) ?_
      have f1 := hfr i hi
      have f2 := hfo o ho
      refine ⟨_, _, _, ct_OP_add hP r1 (hO.2.1 o ho).1 (by omega) (by omega) (by omega) (by omega) hst hst0, Nat.zero_le _, Nat.zero_le _, rfl, ?_⟩
      rintro _ σ2 ⟨rfl, k1, k2, k3⟩
      refine next _ _ σ2 ?_ k1 k2 k3
      conv => lhs; unfold pp_run
      rw [if_pos htk]
    have skip : ¬ pp_is sd rs rd o all i = true → rv_V G m_Late_pass 0 0 (fun q σ' => q = some (.int (nI (pp_run sd rs rd (od o) o all (t + 1) i s).1)) ∧ σ'.1 = σ.1 ∧ POS σ'.2 (x + 372) (pp_run sd rs rd (od o) o all (t + 1) i s) ∧ rv_only (fun q => q = x + 372 ∨ q = x + 373) σ.2 σ'.2) 84 [some (.ref x), some (.int x1), some (.int (rv_b all)), some (.ref (oa o)), some (.int vi), some (.ref (ra i))] [] σ 0 0 := by
      intro htk
      refine next _ _ σ ?_ rfl hP rv_only.rf
      conv => lhs; unfold pp_run
      rw [if_neg htk]
    refine And.intro (fun c2 => ?_) (fun c2 => ?_)
    · have e2 : (sd (rs i)).1 = o := hO.2.2.2 _ _ q3 ho c2
      refine And.intro (fun c3 => ?_) (fun c3 => ?_)
      · refine Exists.intro _ (And.intro r1 ?_)
        refine And.intro (fun c4 => ?_) (fun c4 => ?_)
        · refine skip (fun z => ?_)
          unfold pp_is at z
          rw [rv_b0.mp c3, rv_b0.mp c4] at z
          cases hd : decide ((sd (rs i)).1 = o) <;> rw [hd] at z <;> cases z
        · exact take (by unfold pp_is; rw [show (rd i).2.2.2.2 = true from rv_bn c4, decide_eq_true e2]; cases all <;> rfl)
      · exact take (by unfold pp_is; rw [rv_bn c3, decide_eq_true e2]; rfl)
    · refine skip (fun z => c2 ?_)
      unfold pp_is at z
      rw [show (sd (rs i)).1 = o from of_decide_eq_true (Bool.and_eq_true _ _ |>.mp z).1]
set_option maxRecDepth 100000 in
theorem ct_pass {G : rv_G} {σ : rv_S} {x no ns nr o : Nat} {oa sa ra rs : Nat → Nat} {od : Nat → Od} {sd : Nat → Sd} {rd : Nat → Rd} {ev bd rl dr : Int32} {all : Bool} {s : Ps} (hrs : ∀ j, j < nr → rs j < ns ∧ (rd j).1 = sa (rs j)) (ho : o < no) (hst : 1 ≤ (od o).2.2.1) (hst0 : ¬ (od o).2.2.1 = 0) (hfo : ∀ j, j < no → x + 373 < oa j) (hfs : ∀ j, j < ns → x + 373 < sa j) (hfr : ∀ j, j < nr → x + 373 < ra j)
    (hx : σ.2 x = some (oLate x (nI no) (nI ns) ev bd rl dr)) (hO : POP σ.2 x no oa od) (hS : PSR σ.2 x no ns oa sa sd) (hL : PRL σ.2 (x + 3) nr ra rd) (hP : POS σ.2 (x + 372) s) :
    rv_Ct G i_Late_pass 0 0 [.ref x, .int (nI o), .int (rv_b all)] σ (fun q σ' => q = some (.int (nI (pp_run sd rs rd (od o) o all nr 0 (0, s.2)).1)) ∧ σ'.1 = σ.1 ∧ POS σ'.2 (x + 372) (pp_run sd rs rd (od o) o all nr 0 (0, s.2)) ∧ rv_only (fun q => q = x + 372 ∨ q = x + 373) σ.2 σ'.2) := by
  refine rv_ct (M := m_Late_pass) rfl (by decide) rfl rfl ?_
  refine rv_V.run rv_gd_Late_pass [22] 400 ?_
  refine And.intro (Exists.intro _ hx) ?_
  refine ⟨_, _, _, ct_operatorAt_in hx hO o ho, Nat.zero_le _, Nat.zero_le _, rfl, ?_⟩
  rintro _ σ ⟨rfl, rfl⟩
  refine Exists.intro _ (And.intro hx ?_)
  refine And.intro (Exists.intro _ hP.1) ?_
  have hcl : rv_Ct G i_OnePass_clear 0 0 [.ref (x + 372)] σ (fun q σ' => q = none ∧ σ' = (σ.1, rv_up σ.2 (x + 372) (oOP (x + 373) 0))) := by
    refine rv_ct (M := m_OnePass_clear) rfl (by decide) rfl rfl ?_
    refine rv_V.run rv_gd_OnePass_clear [] 400 ?_
    refine Exists.intro _ (And.intro hP.1 (And.intro trivial ?_))
    exact ⟨rfl, rfl⟩
  refine ⟨_, _, _, hcl, Nat.zero_le _, Nat.zero_le _, rfl, ?_⟩
  rintro _ _ ⟨rfl, rfl⟩
  have k3 : rv_only (fun q => q = x + 372 ∨ q = x + 373) σ.2 (rv_up σ.2 (x + 372) (oOP (x + 373) 0)) := rv_only.up (Or.inl rfl)
  have z := lp_pass (G := G) (x1 := nI o) (all := all) (ev := ev) (bd := bd) (rl := rl) (dr := dr) hrs ho hst hst0 hfo hfs hfr nr 0 0 none (0, s.2) (σ.1, rv_up σ.2 (x + 372) (oOP (x + 373) 0)) rfl (by omega) ((k3 x (by omega)).trans hx) (by
    obtain ⟨⟨f, hf, hfe⟩, hoo, hn, hi⟩ := hO
    exact ⟨⟨f, (k3 _ (by omega)).trans hf, hfe⟩, fun j hj => ⟨(k3 _ (by have := hfo j hj; omega)).trans (hoo j hj).1, (hoo j hj).2⟩, hn, hi⟩) (by
    obtain ⟨⟨f, hf, hfe⟩, hoo, hn, hi⟩ := hS
    exact ⟨⟨f, (k3 _ (by omega)).trans hf, hfe⟩, fun j hj => ⟨(k3 _ (by have := hfs j hj; omega)).trans (hoo j hj).1, (hoo j hj).2⟩, hn, hi⟩) (hL.kept (k3 _ (by omega)) (k3 _ (by omega)) (fun j hj => k3 _ (by have := hfr j hj; omega))) ⟨rv_up_s, (rv_up_n (by omega)).trans hP.2.1, by dsimp only; omega⟩
  exact z.mono (fun q σ' ⟨m1, m2, m3, m4⟩ => ⟨m1, m2, m3, k3.tr m4⟩)
set_option maxRecDepth 100000 in
theorem ct_pass_out {G : rv_G} {σ : rv_S} {x no : Nat} {nsr ev bd rl dr : Int32} (hx : σ.2 x = some (oLate x (nI no) nsr ev bd rl dr)) (i : Int32) (all : Bool) (hi : i < 0 ∨ nI no ≤ i) :
    rv_Ct G i_Late_pass 0 0 [.ref x, .int i, .int (rv_b all)] σ (fun a σ' => a = some (.int (-1)) ∧ σ' = σ) := by
  refine rv_ct (M := m_Late_pass) rfl (by decide) rfl rfl ?_
  refine rv_V.run rv_gd_Late_pass [] 400 ?_
  refine And.intro (Exists.intro _ hx) ?_
  refine ⟨_, _, _, ct_operatorAt_out hx i hi, Nat.zero_le _, Nat.zero_le _, rfl, ?_⟩
  rintro _ σ ⟨rfl, rfl⟩
  exact And.intro trivial ⟨rfl, rfl⟩
set_option maxRecDepth 100000 in
theorem ct_passed {G : rv_G} {σ : rv_S} {x : Nat} {nop nsr ev bd rl dr : Int32} {s : Ps} (hx : σ.2 x = some (oLate x nop nsr ev bd rl dr)) (h : POS σ.2 (x + 372) s) (i c : Int32) :
    rv_Ct G i_Late_passed 0 0 [.ref x, .int i, .int c] σ (fun q σ' => q = some (.long (if rv_in i 0 (nI s.1 - 1) = true ∧ rv_in c 0 6 = true then s.2 (7 * i.toNatClampNeg + c.toNatClampNeg) else -99999999)) ∧ σ' = σ) := by
  refine rv_ct (M := m_Late_passed) rfl (by decide) rfl rfl ?_
  refine rv_V.run rv_gd_Late_passed [] 400 ?_
  refine Exists.intro _ (And.intro hx ?_)
  refine And.intro (Exists.intro _ h.1) ?_
  refine ⟨_, _, _, ct_OP_get h i c, Nat.zero_le _, Nat.zero_le _, rfl, ?_⟩
  rintro _ σ ⟨rfl, rfl⟩
  exact ⟨rfl, rfl⟩
/-- the place in the list of the window that is asked for -/
def wf_ix (n : Nat) (p : Nat → Nat) (D : Nat → Wd) (o k i : Int32) (q : Nat) : Option Nat := if i < 0 ∨ nI n ≤ i then none else if q + i.toNatClampNeg < n ∧ ((D (p (q + i.toNatClampNeg))).1.1 = o ∧ (D (p (q + i.toNatClampNeg))).1.2.1 = k) then some (q + i.toNatClampNeg) else none
def wf_ans (p : Nat → Nat) (D : Nat → Wd) (w : Int32) : Option Nat → Int64
  | none => -99999999
  | some j => if rv_in w 0 6 = true then wi_val (D (p j)) w else -99999999
theorem wi_out {w : Int32} (h0 : ¬ w = 0) (h1 : ¬ w = 1) (h2 : ¬ w = 2) (h3 : ¬ w = 3) (h4 : ¬ w = 4) (h5 : ¬ w = 5) (h6 : ¬ w = 6) : ¬ rv_in w 0 6 = true := by
  intro z
  obtain ⟨j, hj, e⟩ := (in_nI (n := 7) (by omega)).mp z
  match j, hj, e with
  | 0, _, e => exact h0 e
  | 1, _, e => exact h1 e
  | 2, _, e => exact h2 e
  | 3, _, e => exact h3 e
  | 4, _, e => exact h4 e
  | 5, _, e => exact h5 e
  | 6, _, e => exact h6 e
  | j + 7, hj, e => omega
set_option maxRecDepth 100000 in
theorem ct_window {G : rv_G} {σ : rv_S} {x n : Nat} {nop nsr ev bd rl dr : Int32} {p : Nat → Nat} {D : Nat → Wd} (hx : σ.2 x = some (oLate x nop nsr ev bd rl dr)) (h : PWL σ.2 (x + 5) n p D) (hs : WS n p D) (o k i w : Int32) :
    rv_Ct G i_Late_window 0 0 [.ref x, .int o, .int k, .int i, .int w] σ (fun r σ' => (∃ q : Nat, rv_pl_ n p D o k (-1000000) q ∧ r = some (.long (wf_ans p D w (wf_ix n p D o k i q)))) ∧ σ' = σ) := by
  refine rv_ct (M := m_Late_window) rfl (by decide) rfl rfl ?_
  refine rv_V.run rv_gd_Late_window [] 400 ?_
  refine Exists.intro _ (And.intro hx ?_)
  refine And.intro (Exists.intro _ h.1) ?_
  refine ⟨_, _, _, ct_find h hs o k i, Nat.zero_le _, Nat.zero_le _, rfl, ?_⟩
  rintro _ σ ⟨⟨q, hq, rfl⟩, rfl⟩
  have hn := h.2.2.2.2
  by_cases c1 : i < 0 ∨ nI n ≤ i
  · rw [if_pos c1]
    refine ⟨⟨q, hq, ?_⟩, rfl⟩
    unfold wf_ix
    rw [if_pos c1]
    rfl
  rw [if_neg c1]
  by_cases c2 : q + i.toNatClampNeg < n ∧ ((D (p (q + i.toNatClampNeg))).1.1 = o ∧ (D (p (q + i.toNatClampNeg))).1.2.1 = k)
  · rw [if_pos c2]
    have hix : wf_ix n p D o k i q = some (q + i.toNatClampNeg) := by unfold wf_ix; rw [if_neg c1, if_pos c2]
    generalize hj : q + i.toNatClampNeg = j at *
    obtain ⟨w1, w2, w3⟩ := h.2.2.1 (p j) (h.2.2.2.1.1 j (by omega))
    have fin : ∀ v : Int64, v = wf_ans p D w (some j) → (∃ q : Nat, rv_pl_ n p D o k (-1000000) q ∧ (some (Value.long v) : Option Value) = some (.long (wf_ans p D w (wf_ix n p D o k i q)))) := fun v hv => ⟨q, hq, by rw [hix, hv]⟩
    refine And.intro (fun d0 => ?_) (fun d0 => ?_)
    · refine Exists.intro _ (And.intro w1 ?_)
      exact ⟨fin _ (by subst d0; rfl), rfl⟩
    refine And.intro (fun d1 => ?_) (fun d1 => ?_)
    · refine Exists.intro _ (And.intro w1 ?_)
      exact ⟨fin _ (by subst d1; rfl), rfl⟩
    refine And.intro (fun d2 => ?_) (fun d2 => ?_)
    · refine Exists.intro _ (And.intro w1 ?_)
      refine And.intro (fun d3 => ?_) (fun d3 => ?_)
      · refine ⟨fin _ (by subst d2; show (0 : Int64) = if (D (p j)).2.1.1 = true then 1 else 0; rw [rv_b0.mp d3]; rfl), rfl⟩
      · refine ⟨fin _ (by subst d2; show (1 : Int64) = if (D (p j)).2.1.1 = true then 1 else 0; rw [show (D (p j)).2.1.1 = true from rv_bn d3]; rfl), rfl⟩
    refine And.intro (fun d3 => ?_) (fun d3 => ?_)
    · refine Exists.intro _ (And.intro w1 ?_)
      refine Exists.intro _ (And.intro w2 ?_)
      exact ⟨fin _ (by subst d3; rfl), rfl⟩
    refine And.intro (fun d4 => ?_) (fun d4 => ?_)
    · refine Exists.intro _ (And.intro w1 ?_)
      refine Exists.intro _ (And.intro w2 ?_)
      exact ⟨fin _ (by subst d4; rfl), rfl⟩
    refine And.intro (fun d5 => ?_) (fun d5 => ?_)
    · refine Exists.intro _ (And.intro w1 ?_)
      refine Exists.intro _ (And.intro w2 ?_)
      exact ⟨fin _ (by subst d5; rfl), rfl⟩
    refine And.intro (fun d6 => ?_) (fun d6 => ?_)
    · refine Exists.intro _ (And.intro w1 ?_)
      refine Exists.intro _ (And.intro w2 ?_)
      exact ⟨fin _ (by subst d6; rfl), rfl⟩
    · exact ⟨fin _ (by show _ = if rv_in w 0 6 = true then _ else _; rw [if_neg (wi_out d0 d1 d2 d3 d4 d5 d6)]), rfl⟩
  · rw [if_neg c2]
    refine ⟨⟨q, hq, ?_⟩, rfl⟩
    unfold wf_ix
    rw [if_neg c1, if_neg c2]
    rfl
