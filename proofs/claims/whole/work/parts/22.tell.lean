/-! TELLING A WINDOW -/
theorem PR.kept {g g' : Nat → Option rv_E} {r c R w s : Nat} {q : Nat → Nat → Int64} (h : PR g r c R w s q) (h1 : g' r = g r) (h2 : g' c = g c) : PR g' r c R w s q := by
  obtain ⟨e, la, f, a1, a2, a3, a4, a5⟩ := h
  exact ⟨e, la, f, a1, a2, h1.trans a3, h2.trans a4, a5⟩
theorem PWL.kept {g g' : Nat → Option rv_E} {wl n : Nat} {p : Nat → Nat} {D : Nat → Wd} (h : PWL g wl n p D) (hk : ∀ q, wl ≤ q → q < wl + 362 → g' q = g q) : PWL g' wl n p D := by
  obtain ⟨hx, ⟨f, hf, hfe⟩, hW, hp, hn⟩ := h
  exact ⟨(hk _ (by omega) (by omega)).trans hx, ⟨f, (hk _ (by omega) (by omega)).trans hf, hfe⟩, fun j hj => (hW j hj).kept (hk _ (by unfold wa; omega) (by unfold wa; omega)) (hk _ (by unfold wa; omega) (by unfold wa; omega)) (hk _ (by unfold wa; omega) (by unfold wa; omega)), hp, hn⟩
/-- the results: how many are kept, what they hold, how many there were in all -/
abbrev Rs : Type := Nat × (Nat → Nat → Int64) × Int32
def rs_push (R : Rs) (v : Nat → Int64) : Rs := (rv_qn 400 R.1, rv_qp 400 R.1 R.2.1 v, R.2.2 + 1)
def wtold (d : Wd) : Wd := (d.1, (true, false), d.2.2.1, d.2.2.1)
def rs_tell (R : Rs) (d : Wd) : Rs := rs_push (if d.2.1.1 = true then rs_push R (rv_rec (-1) d) else R) (rv_rec 1 (wtold d))
/-- the object, its list of windows, its results -/
def PT (g : Nat → Option rv_E) (x : Nat) (nop nsr bd rl dr : Int32) (n : Nat) (p : Nat → Nat) (D : Nat → Wd) (R : Rs) : Prop := g x = some (oLate x nop nsr R.2.2 bd rl dr) ∧ PWL g (x + 5) n p D ∧ PR g (x + 368) (x + 369) 400 9 R.1 R.2.1
def SC (x q : Nat) : Prop := q = x ∨ (x + 5 ≤ q ∧ q < x + 367) ∨ q = x + 368 ∨ q = x + 369
theorem PT.keep {G : rv_G} {σ : rv_S} {x : Nat} {nop nsr bd rl dr : Int32} {n : Nat} {p : Nat → Nat} {D : Nat → Wd} {R : Rs} (h : PT σ.2 x nop nsr bd rl dr n p D R) {i : Nat} (hi : i < 120) (sg : Int32) : rv_Ct G i_Late_keepResult 0 0 [.ref x, .int sg, .ref (wa (x + 5) i)] σ (fun r σ' => r = none ∧ σ'.1 = σ.1 ∧ PT σ'.2 x nop nsr bd rl dr n p D (rs_push R (rv_rec sg (D i))) ∧ rv_only (SC x) σ.2 σ'.2) := by
  have hw := h.2.1.2.2.1 i hi
  refine (ct_keepResult x (wa (x + 5) i) nop nsr R.2.2 bd rl dr sg (D i) h.1 h.2.2 hw.1 hw.2.2 (by unfold wa; omega) (by unfold wa; omega)).mono ?_
  rintro r σ' ⟨h1, h2, h3, h4, h5⟩
  refine ⟨h1, h2, ⟨h4, h.2.1.kept (fun q h6 h7 => h5 q (by omega)), h3⟩, fun q hq => h5 q (fun z => hq ?_)⟩
  unfold SC
  omega
set_option maxRecDepth 100000 in
theorem lp_tell {G : rv_G} {σ : rv_S} {x : Nat} {nop nsr bd rl dr : Int32} {n : Nat} {p : Nat → Nat} {D : Nat → Wd} {R : Rs} (h : PT σ.2 x nop nsr bd rl dr n p D R) {i : Nat} (hi : i < 120) :
    rv_V G m_Late_tell 0 0 (fun r σ' => r = none ∧ σ'.1 = σ.1 ∧ PT σ'.2 x nop nsr bd rl dr n p (va_up D i (wtold (D i))) (rs_push R (rv_rec 1 (wtold (D i)))) ∧ rv_only (SC x) σ.2 σ'.2) 13 [some (.ref x), some (.ref (wa (x + 5) i))] [] σ 0 0 := by
  have hw := h.2.1.2.2.1 i hi
  have hP2 := (h.2.1.setT hi (D i).2.2.1).setW hi (D i).1 (true, false)
  rw [va_up_self, bx_uu] at hP2
  refine rv_V.run rv_gd_Late_tell [] 400 ?_
  refine Exists.intro _ (And.intro hw.1 ?_)
  refine Exists.intro _ (And.intro hw.1 ?_)
  refine And.intro (Exists.intro _ hw.2.2) ?_
  refine ⟨_, _, _, ct_Tally_copy _ _ _ _ _ _ _ _ _ _ hw.2.2 hw.2.1 (by omega), Nat.zero_le _, Nat.zero_le _, rfl, ?_⟩
  rintro _ _ ⟨rfl, rfl⟩
  refine Exists.intro _ (And.intro ((rv_up_n (by omega)).trans hw.1) (And.intro (Or.inr rfl) ?_))
  refine Exists.intro _ (And.intro rv_up_s (And.intro (Or.inl rfl) ?_))
  rw [rv_up_up]
  have hT : PT (rv_up (rv_up σ.2 (wa (x + 5) i + 2) (oT (D i).2.2.1)) (wa (x + 5) i) (oW ((D i).1, (true, false), (D i).2.2.1, (D i).2.2.1) (wa (x + 5) i))) x nop nsr bd rl dr n p (va_up D i (wtold (D i))) R :=
    ⟨(rv_up_n (by unfold wa; omega)).trans ((rv_up_n (by unfold wa; omega)).trans h.1), hP2, h.2.2.kept ((rv_up_n (by unfold wa; omega)).trans (rv_up_n (by unfold wa; omega))) ((rv_up_n (by unfold wa; omega)).trans (rv_up_n (by unfold wa; omega)))⟩
  refine And.intro (Exists.intro _ hT.1) ?_
  refine ⟨_, _, _, PT.keep (σ := (σ.1, _)) hT hi 1, Nat.zero_le _, Nat.zero_le _, rfl, ?_⟩
  rintro _ σ2 ⟨rfl, e1, h2, h3⟩
  rw [va_up_self] at h2
  refine ⟨rfl, e1, h2, rv_only.tr (rv_only.tr (rv_only.up ?_) (rv_only.up ?_)) h3⟩
  · unfold SC wa; omega
  · unfold SC wa; omega
set_option maxRecDepth 100000 in
/-- A WINDOW IS TOLD (what was told of it before is taken back first) -/
theorem ct_tell {G : rv_G} {σ : rv_S} {x : Nat} {nop nsr bd rl dr : Int32} {n : Nat} {p : Nat → Nat} {D : Nat → Wd} {R : Rs} (h : PT σ.2 x nop nsr bd rl dr n p D R) {i : Nat} (hi : i < 120) :
    rv_Ct G i_Late_tell 0 0 [.ref x, .ref (wa (x + 5) i)] σ (fun r σ' => r = none ∧ σ'.1 = σ.1 ∧ PT σ'.2 x nop nsr bd rl dr n p (va_up D i (wtold (D i))) (rs_tell R (D i)) ∧ rv_only (SC x) σ.2 σ'.2) := by
  have hw := h.2.1.2.2.1 i hi
  refine rv_ct (M := m_Late_tell) rfl (by decide) rfl rfl ?_
  refine rv_V.run rv_gd_Late_tell [13] 400 ?_
  refine Exists.intro _ (And.intro hw.1 ?_)
  refine And.intro (fun c1 => ?_) (fun c1 => ?_)
  · have hb := rv_b0.mp c1
    refine (lp_tell h hi).mono ?_
    rintro r σ' ⟨h1, h2, h3, h4⟩
    refine ⟨h1, h2, ?_, h4⟩
    unfold rs_tell
    rw [hb, if_neg (by decide)]
    exact h3
  · have hb := rv_bn c1
    refine And.intro (Exists.intro _ h.1) ?_
    refine ⟨_, _, _, h.keep hi (-1), Nat.zero_le _, Nat.zero_le _, rfl, ?_⟩
    rintro _ σ2 ⟨rfl, e1, h2, h3⟩
    refine (lp_tell h2 hi).mono ?_
    rintro r σ' ⟨k1, k2, k3, k4⟩
    refine ⟨k1, k2.trans e1, ?_, h3.tr k4⟩
    unfold rs_tell
    rw [hb, if_pos rfl]
    exact k3
