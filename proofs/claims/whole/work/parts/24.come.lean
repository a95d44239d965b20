/-! A NUMBER COMES INTO A WINDOW -/
def tl_add (t : Tl) (v : Int32) : Tl := (t.1 + 1, t.2.1 + v.toInt64, (if t.1 = 0 then v else rv_min t.2.2.1 v), (if t.1 = 0 then v else rv_max t.2.2.2 v))
def wadd (d : Wd) (v : Int32) : Wd := (d.1, d.2.1, tl_add d.2.2.1 v, d.2.2.2)
def wchg (d : Wd) : Wd := (d.1, (d.2.1.1, true), d.2.2)
def ci_one (r0 m : Int32) (s : (Nat → Wd) × Rs) (i : Nat) (v : Int32) : (Nat → Wd) × Rs :=
  if (s.1 i).2.1.1 = true ∧ r0 = 1 then (va_up s.1 i (wchg (wadd (s.1 i) v)), s.2)
  else if (s.1 i).1.2.2.2 ≤ m then (va_up s.1 i (wtold (wadd (s.1 i) v)), rs_tell s.2 (wadd (s.1 i) v))
  else (va_up s.1 i (wadd (s.1 i) v), s.2)
theorem ci_a {r0 m : Int32} {D : Nat → Wd} {R : Rs} {i : Nat} {v : Int32} (h : (D i).2.1.1 = true ∧ r0 = 1) : ci_one r0 m (D, R) i v = (va_up D i (wchg (wadd (D i) v)), R) := if_pos h
theorem ci_b {r0 m : Int32} {D : Nat → Wd} {R : Rs} {i : Nat} {v : Int32} (h : ¬ ((D i).2.1.1 = true ∧ r0 = 1)) (hm : (D i).1.2.2.2 ≤ m) : ci_one r0 m (D, R) i v = (va_up D i (wtold (wadd (D i) v)), rs_tell R (wadd (D i) v)) := (if_neg h).trans (if_pos hm)
theorem ci_c {r0 m : Int32} {D : Nat → Wd} {R : Rs} {i : Nat} {v : Int32} (h : ¬ ((D i).2.1.1 = true ∧ r0 = 1)) (hm : ¬ (D i).1.2.2.2 ≤ m) : ci_one r0 m (D, R) i v = (va_up D i (wadd (D i) v), R) := (if_neg h).trans (if_neg hm)
theorem PT.up {g : Nat → Option rv_E} {x : Nat} {nop nsr bd rl dr : Int32} {n n' : Nat} {p p' : Nat → Nat} {D D' : Nat → Wd} {R : Rs} (h : PT g x nop nsr bd rl dr n p D R) {a : Nat} {y : rv_E} (ha : x + 5 ≤ a ∧ a < x + 367) (hP : PWL (rv_up g a y) (x + 5) n' p' D') : PT (rv_up g a y) x nop nsr bd rl dr n' p' D' R :=
  ⟨(rv_up_n (by omega)).trans h.1, hP, h.2.2.kept (rv_up_n (by omega)) (rv_up_n (by omega))⟩
set_option maxRecDepth 100000 in
theorem ct_comeInto {G : rv_G} {σ : rv_S} {x oa : Nat} {nop nsr bd rl dr : Int32} {n : Nat} {p : Nat → Nat} {D : Nat → Wd} {R : Rs} (o k sz st l r0 m : Int32) (hoa : ¬ SC x oa) (h : PT σ.2 x nop nsr bd rl dr n p D R) (ho : σ.2 oa = some (oOp o k sz st l r0 m)) {i : Nat} (hi : i < 120) (v : Int32) :
    rv_Ct G i_Late_comeInto 0 0 [.ref x, .ref oa, .ref (wa (x + 5) i), .int v] σ (fun r σ' => r = none ∧ σ'.1 = σ.1 ∧ PT σ'.2 x nop nsr bd rl dr n p (ci_one r0 m (D, R) i v).1 (ci_one r0 m (D, R) i v).2 ∧ rv_only (SC x) σ.2 σ'.2) := by
  have hw := h.2.1.2.2.1 i hi
  have h1 : PT (rv_up σ.2 (wa (x + 5) i + 1) (oT (tl_add (D i).2.2.1 v))) x nop nsr bd rl dr n p (va_up D i (wadd (D i) v)) R := h.up (by unfold wa; omega) (h.2.1.setH hi _)
  have hsc : SC x (wa (x + 5) i + 1) := by unfold SC wa; omega
  have hsc0 : SC x (wa (x + 5) i) := by unfold SC wa; omega
  have ho1 : rv_up σ.2 (wa (x + 5) i + 1) (oT (tl_add (D i).2.2.1 v)) oa = some (oOp o k sz st l r0 m) := (rv_up_n (fun z => hoa (by rw [z]; exact hsc))).trans ho
  have hw1 := h1.2.1.2.2.1 i hi
  rw [va_up_self] at hw1
  -- the way without 'changed'
  have rest : ¬ ((D i).2.1.1 = true ∧ r0 = 1) → rv_V G m_Late_comeInto 0 0 (fun r σ' => r = none ∧ σ'.1 = σ.1 ∧ PT σ'.2 x nop nsr bd rl dr n p (ci_one r0 m (D, R) i v).1 (ci_one r0 m (D, R) i v).2 ∧ rv_only (SC x) σ.2 σ'.2) 36 [some (.ref x), some (.ref oa), some (.ref (wa (x + 5) i)), some (.int v)] [] (σ.1, rv_up σ.2 (wa (x + 5) i + 1) (oT (tl_add (D i).2.2.1 v))) 0 0 := by
    intro hno
    refine rv_V.run rv_gd_Late_comeInto [] 400 ?_
    refine Exists.intro _ (And.intro hw1.1 ?_)
    refine And.intro (Exists.intro _ ho1) ?_
    refine ⟨_, _, _, ct_hasReached (σ := (σ.1, rv_up σ.2 (wa (x + 5) i + 1) (oT (tl_add (D i).2.2.1 v)))) oa o k sz st l r0 m _ ho1, Nat.zero_le _, Nat.zero_le _, rfl, ?_⟩
    rintro _ _ ⟨rfl, rfl⟩
    refine And.intro (fun c1 => ?_) (fun c1 => ?_)
    · have hm := of_decide_eq_false (rv_b0.mp c1)
      refine ⟨rfl, rfl, ?_, rv_only.up hsc⟩
      rw [ci_c hno hm]
      exact h1
    · have hm := of_decide_eq_true (rv_bn c1)
      refine And.intro (Exists.intro _ h1.1) ?_
      refine ⟨_, _, _, ct_tell (σ := (σ.1, rv_up σ.2 (wa (x + 5) i + 1) (oT (tl_add (D i).2.2.1 v)))) h1 hi, Nat.zero_le _, Nat.zero_le _, rfl, ?_⟩
      rintro _ σ2 ⟨rfl, e1, h2, h3⟩
      rw [va_up_self, bx_uu] at h2
      refine ⟨rfl, e1, ?_, rv_only.tr (rv_only.up hsc) h3⟩
      rw [ci_b hno hm]
      exact h2
  refine rv_ct (M := m_Late_comeInto) rfl (by decide) rfl rfl ?_
  refine rv_V.run rv_gd_Late_comeInto [36] 400 ?_
  refine Exists.intro _ (And.intro hw.1 ?_)
  refine And.intro (Exists.intro _ hw.2.1) ?_
  refine ⟨_, _, _, ct_Tally_add _ _ _ _ _ v hw.2.1, Nat.zero_le _, Nat.zero_le _, rfl, ?_⟩
  rintro _ _ ⟨rfl, rfl⟩
  refine Exists.intro _ (And.intro hw1.1 ?_)
  refine And.intro (fun c1 => ?_) (fun c1 => ?_)
  · exact rest (fun z => by have := rv_b0.mp c1; rw [show (wadd (D i) v).2.1.1 = (D i).2.1.1 from rfl, z.1] at this; cases this)
  · refine Exists.intro _ (And.intro ho1 ?_)
    refine And.intro (fun c2 => ?_) (fun c2 => ?_)
    · refine Exists.intro _ (And.intro hw1.1 (And.intro (Or.inr rfl) ?_))
      have h2 := h1.up (a := wa (x + 5) i) (y := oW (wchg (wadd (D i) v)) (wa (x + 5) i)) (by unfold wa; omega) (by
        have q := h1.2.1.setW hi (D i).1 ((D i).2.1.1, true)
        rw [va_up_self, bx_uu] at q
        exact q)
      refine ⟨rfl, rfl, ?_, rv_only.tr (rv_only.up hsc) (rv_only.up hsc0)⟩
      rw [ci_a ⟨rv_bn c1, c2⟩]
      exact h2
    · exact rest (fun z => c2 z.2)
