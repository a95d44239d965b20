/-! THE CLASS: promise and end -/
theorem os_ne {g : Nat → Option rv_E} {x no ns : Nat} {oa sa : Nat → Nat} {od : Nat → Od} {sd : Nat → Sd} (hO : POP g x no oa od) (hS : PSR g x no ns oa sa sd) {i j : Nat} (hi : i < ns) (hj : j < no) : sa i ≠ oa j := by
  intro z
  have h1 := (hS.2.1 i hi).1
  rw [z, (hO.2.1 j hj).1] at h1
  have h2 := congrArg Prod.fst (Sum.inl.inj (Option.some.inj h1))
  exact absurd (show k_Operator = k_Source from h2) (by decide)
theorem POP.up {g : Nat → Option rv_E} {x no : Nat} {oa : Nat → Nat} {od : Nat → Od} (h : POP g x no oa od) {a : Nat} (y : rv_E) (h1 : a ≠ x + 1) (h2 : ∀ j, j < no → a ≠ oa j) : POP (rv_up g a y) x no oa od := by
  obtain ⟨⟨f, hf, hfe⟩, ho, hn, hi⟩ := h
  exact ⟨⟨f, (rv_up_n (Ne.symm h1)).trans hf, hfe⟩, fun j hj => ⟨(rv_up_n (Ne.symm (h2 j hj))).trans (ho j hj).1, (ho j hj).2⟩, hn, hi⟩
theorem PT.far {g : Nat → Option rv_E} {x : Nat} {nop nsr bd rl dr : Int32} {n : Nat} {p : Nat → Nat} {D : Nat → Wd} {R : Rs} (h : PT g x nop nsr bd rl dr n p D R) {a : Nat} (y : rv_E) (ha : x + 369 < a) : PT (rv_up g a y) x nop nsr bd rl dr n p D R :=
  ⟨(rv_up_n (by omega)).trans h.1, h.2.1.kept (fun q h2 h3 => rv_up_n (by omega)), h.2.2.kept (rv_up_n (by omega)) (rv_up_n (by omega))⟩
def sd_prom (d : Sd) (t : Int32) : Sd := (d.1, t, d.2.2)
def sd_end (d : Sd) : Sd := (d.1, d.2.1, (true, d.2.2.1.2), d.2.2.2)
/-- the answer, the operators, the windows and results when the mark has moved, or not -/
def mm_run (od : Nat → Od) (sd : Nat → Sd) (o ns n : Nat) (p : Nat → Nat) (D : Nat → Wd) (R : Rs) : Int32 × (Nat → Od) × (Nat × (Nat → Nat) × (Nat → Wd) × Rs) :=
  if lp_run sd o ns 0 1000000000 ≤ (od o).2.2.2.2.2 then (0, od, (n, p, D, R)) else
    ((lc_run (nI o) (od o).2.2.2.1 (lp_run sd o ns 0 1000000000) 120 (n, p, tl_run (nI o) (lp_run sd o ns 0 1000000000) n p 120 (D, R))).2.2.2.2.2 - R.2.2, va_up od o (om (od o) (lp_run sd o ns 0 1000000000)), lc_run (nI o) (od o).2.2.2.1 (lp_run sd o ns 0 1000000000) 120 (n, p, tl_run (nI o) (lp_run sd o ns 0 1000000000) n p 120 (D, R)))
theorem ct_moveMark {G : rv_G} {σ : rv_S} {x no ns o n : Nat} {oa sa : Nat → Nat} {od : Nat → Od} {sd : Nat → Sd} {p : Nat → Nat} {D : Nat → Wd} {R : Rs} {bd rl dr : Int32} (h : PT σ.2 x (nI no) (nI ns) bd rl dr n p D R) (hO : POP σ.2 x no oa od) (hS : PSR σ.2 x no ns oa sa sd) (ho : o < no) :
    rv_Ct G i_Late_moveMark 0 0 [.ref x, .ref (oa o)] σ (fun r σ' => ∃ m, m = mm_run od sd o ns n p D R ∧ r = some (.int m.1) ∧ σ'.1 = σ.1 ∧ PT σ'.2 x (nI no) (nI ns) bd rl dr m.2.2.1 m.2.2.2.1 m.2.2.2.2.1 m.2.2.2.2.2 ∧ POP σ'.2 x no oa m.2.1 ∧ PSR σ'.2 x no ns oa sa sd ∧ rv_only (fun q => SC x q ∨ q = oa o) σ.2 σ'.2) := by
  by_cases hle : lp_run sd o ns 0 1000000000 ≤ (od o).2.2.2.2.2
  · refine (ct_moveMark0 h.1 hO hS ho hle).mono ?_
    rintro r σ' ⟨k1, k2⟩
    subst k2
    refine ⟨_, rfl, ?_⟩
    rw [show mm_run od sd o ns n p D R = (0, od, (n, p, D, R)) from if_pos hle]
    exact ⟨k1, rfl, h, hO, hS, rv_only.rf⟩
  · refine (ct_moveMark1 h hO hS ho (Int32.not_le.mp hle)).mono ?_
    rintro r σ' ⟨s, k0, k1, k2, k3, k4, k5⟩
    refine ⟨_, rfl, ?_⟩
    rw [show mm_run od sd o ns n p D R = _ from if_neg hle]
    subst k0
    have hfar : ∀ a, x + 369 < a → a ≠ oa o → σ'.2 a = σ.2 a := fun a h1 h2 => k5 a (fun z => z.elim (SC_hi h1) h2)
    have hnear : ∀ a, (a = x + 1 ∨ a = x + 2) → σ'.2 a = σ.2 a := fun a h1 => k5 a (fun z => by
      have := (hO.2.1 o ho).2
      rcases z with z | z
      · unfold SC at z; omega
      · omega)
    refine ⟨k1, k2, k3, ?_, ?_, k5⟩
    · obtain ⟨⟨f, hf, hfe⟩, hoo, hn, hi⟩ := hO
      refine ⟨⟨f, (hnear _ (Or.inl rfl)).trans hf, hfe⟩, fun j hj => ?_, hn, hi⟩
      dsimp only
      by_cases hjo : j = o
      · subst hjo
        rw [va_up_self]
        exact ⟨k4, (hoo j hj).2⟩
      · rw [va_up_ne _ _ hjo]
        exact ⟨(hfar _ (by have := (hoo j hj).2; omega) (fun z => hjo (hi j o hj ho z))).trans (hoo j hj).1, (hoo j hj).2⟩
    · have hne : ∀ i, i < ns → sa i ≠ oa o := fun i hi => os_ne hO hS hi ho
      obtain ⟨⟨f, hf, hfe⟩, hss, hn, hi⟩ := hS
      exact ⟨⟨f, (hnear _ (Or.inr rfl)).trans hf, hfe⟩, fun j hj => ⟨(hfar _ (by have := (hss j hj).2.1; omega) (hne j hj)).trans (hss j hj).1, (hss j hj).2⟩, hn, hi⟩
