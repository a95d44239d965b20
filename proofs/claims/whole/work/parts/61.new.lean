/-! THE CLASS: a new object -/
def PNew (g : Nat → Option rv_E) (x : Nat) : Prop := g x = some (oLate x 0 0 0 100 0 0) ∧ g (x + 1) = some (rv_aO RX2 5 (fun _ => none)) ∧ g (x + 2) = some (rv_aO RX6 10 (fun _ => none)) ∧ (g (x + 3) = some (oRowLog (x + 4) 0) ∧ g (x + 4) = some (rv_aO RX4 300 (fun _ => none))) ∧ PWL g (x + 5) 0 (fun j => j) (fun _ => wd0) ∧ g (x + 367) = some (oJoin 0 0 0 0 false) ∧ (g (x + 368) = some (oRing (nI 400) (nI 9) (x + 369) 0 0 0) ∧ g (x + 369) = some (rv_aJ (400 * 9) (fun _ => 0))) ∧ (g (x + 370) = some (oRing (nI 100) (nI 5) (x + 371) 0 0 0) ∧ g (x + 371) = some (rv_aJ (100 * 5) (fun _ => 0))) ∧ g (x + 372) = some (oOP (x + 373) 0) ∧ g (x + 373) = some (rv_aJ 16800 (fun _ => 0))
set_option maxRecDepth 100000 in
theorem ct_Late_init {G : rv_G} {g : Nat → Option rv_E} (x : Nat) (hx : g x = some (.inl (k_Late, rv_df k_Late))) : rv_Ct G i_Late_init 373 23278 [.ref x] (x + 1, g) (fun r σ' => r = none ∧ σ'.1 = x + 374 ∧ PNew σ'.2 x ∧ ∀ q, q < x ∨ x + 374 ≤ q → σ'.2 q = g q) := by
  refine rv_ct (M := m_Late_init) rfl (by decide) rfl rfl ?_
  refine rv_V.run rv_gd_Late_init [] 400 ?_
  refine ⟨_, 5, rfl, by decide, by decide, by decide, by decide, by decide, ?_⟩
  refine Exists.intro _ (And.intro ((rv_up_n (by omega)).trans hx) (And.intro trivial ?_))
  refine Exists.intro _ (And.intro rv_up_s (And.intro trivial ?_))
  rw [rv_up_up]
  refine ⟨_, 10, rfl, by decide, by decide, by decide, by decide, by decide, ?_⟩
  refine Exists.intro _ (And.intro ((rv_up_n (by omega)).trans rv_up_s) (And.intro trivial ?_))
  refine Exists.intro _ (And.intro rv_up_s (And.intro trivial ?_))
  rw [rv_up_up]
  refine And.intro (by decide) (And.intro (by decide) ?_)
  refine ⟨_, _, _, ct_RowLog_init (x + 3) rv_up_s (Nat.lt_succ_self _), by decide, by decide, rfl, ?_⟩
  rintro _ σ1 ⟨rfl, ⟨a1, a2⟩, a3, a4⟩
  have b0 : σ1.2 x = _ := (a2 x (by omega) (Or.inl (by dsimp only; omega))).trans ((rv_up_n (by omega)).trans rv_up_s)
  have b1 : σ1.2 (x + 1) = some (rv_aO RX2 5 (fun _ => none)) := (a2 _ (by omega) (Or.inl (by dsimp only; omega))).trans ((rv_up_n (by omega)).trans ((rv_up_n (by omega)).trans ((rv_up_n (by omega)).trans ((rv_up_n (by omega)).trans rv_up_s))))
  have b2 : σ1.2 (x + 2) = some (rv_aO RX6 10 (fun _ => none)) := (a2 _ (by omega) (Or.inl (by dsimp only; omega))).trans ((rv_up_n (by omega)).trans ((rv_up_n (by omega)).trans rv_up_s))
  have b9 : ∀ q, q < x ∨ x + 374 ≤ q → σ1.2 q = g q := fun q hq => (a2 q (by omega) (by dsimp only; omega)).trans ((rv_up_n (by omega)).trans ((rv_up_n (by omega)).trans ((rv_up_n (by omega)).trans ((rv_up_n (by omega)).trans (rv_up_n (by omega))))))
  clear a2
  dsimp only at a1 a3 a4
  obtain ⟨n1, g1⟩ := σ1
  dsimp only at a1 a3 a4 b0 b1 b2 b9
  subst a1
  refine Exists.intro _ (And.intro b0 (And.intro trivial ?_))
  refine And.intro (by decide) (And.intro (by decide) ?_)
  refine ⟨_, _, _, ct_WL_init (x + 5) rv_up_s rfl, by decide, by decide, rfl, ?_⟩
  rintro _ σ2 ⟨rfl, c1, c2, c3⟩
  have d0 : σ2.2 x = _ := (c3 x (by omega)).trans ((rv_up_n (by dsimp only; omega)).trans rv_up_s)
  have dq : ∀ q, (x < q ∧ q < x + 5) ∨ q < x ∨ x + 374 ≤ q → σ2.2 q = g1 q := fun q hq => (c3 q (by omega)).trans ((rv_up_n (by dsimp only; omega)).trans (rv_up_n (by omega)))
  clear c3
  obtain ⟨n2, g2⟩ := σ2
  dsimp only at c1 c2 d0 dq
  subst c1
  refine Exists.intro _ (And.intro d0 (And.intro trivial ?_))
  refine And.intro (by decide) (And.intro (by decide) ?_)
  refine ⟨_, _, _, ct_Join_init (x + 367) rv_up_s, by decide, by decide, rfl, ?_⟩
  rintro _ _ ⟨rfl, rfl⟩
  rw [rv_up_up]
  refine Exists.intro _ (And.intro ((rv_up_n (by omega)).trans rv_up_s) (And.intro trivial ?_))
  refine And.intro (by decide) (And.intro (by decide) ?_)
  refine ⟨_, _, _, ct_Ring_init (x + 368) 400 9 rv_up_s (Nat.lt_succ_self _) (by decide) (by decide), by decide, by decide, rfl, ?_⟩
  rintro _ σ3 ⟨rfl, ⟨e1, e2⟩, e3, e4⟩
  have f0 : σ3.2 x = _ := (e2 x (by omega) (Or.inl (by dsimp only; omega))).trans ((rv_up_n (by omega)).trans rv_up_s)
  have f1 : σ3.2 (x + 367) = some (oJoin 0 0 0 0 false) := (e2 _ (by omega) (Or.inl (by dsimp only; omega))).trans ((rv_up_n (by omega)).trans ((rv_up_n (by omega)).trans rv_up_s))
  have fq : ∀ q, (x < q ∧ q < x + 367) ∨ q < x ∨ x + 374 ≤ q → σ3.2 q = g2 q := fun q hq => (e2 q (by omega) (by dsimp only; omega)).trans ((rv_up_n (by omega)).trans ((rv_up_n (by omega)).trans ((rv_up_n (by omega)).trans (rv_up_n (by omega)))))
  clear e2
  obtain ⟨n3, g3⟩ := σ3
  dsimp only at e1 e3 e4 f0 f1 fq
  subst e1
  refine Exists.intro _ (And.intro f0 (And.intro trivial ?_))
  refine Exists.intro _ (And.intro rv_up_s (And.intro trivial ?_))
  rw [rv_up_up]
  refine And.intro (by decide) (And.intro (by decide) ?_)
  refine ⟨_, _, _, ct_Ring_init (x + 370) 100 5 rv_up_s (Nat.lt_succ_self _) (by decide) (by decide), by decide, by decide, rfl, ?_⟩
  rintro _ σ4 ⟨rfl, ⟨h1, h2⟩, h3, h4⟩
  have i0 : σ4.2 x = _ := (h2 x (by omega) (Or.inl (by dsimp only; omega))).trans ((rv_up_n (by omega)).trans rv_up_s)
  have iq : ∀ q, (x < q ∧ q < x + 370) ∨ q < x ∨ x + 374 ≤ q → σ4.2 q = g3 q := fun q hq => (h2 q (by omega) (by dsimp only; omega)).trans ((rv_up_n (by omega)).trans (rv_up_n (by omega)))
  clear h2
  obtain ⟨n4, g4⟩ := σ4
  dsimp only at h1 h3 h4 i0 iq
  subst h1
  refine Exists.intro _ (And.intro i0 (And.intro trivial ?_))
  refine Exists.intro _ (And.intro rv_up_s (And.intro trivial ?_))
  rw [rv_up_up]
  refine Exists.intro _ (And.intro rv_up_s (And.intro trivial ?_))
  rw [rv_up_up]
  refine Exists.intro _ (And.intro rv_up_s (And.intro trivial ?_))
  rw [rv_up_up]
  refine And.intro (by decide) (And.intro (by decide) ?_)
  refine ⟨_, _, _, ct_OnePass_init (x + 372) rv_up_s (Nat.lt_succ_self _), by decide, by decide, rfl, ?_⟩
  rintro _ σ5 ⟨rfl, ⟨j1, j2⟩, j3, j4⟩
  have k0 : σ5.2 x = _ := (j2 x (by omega) (Or.inl (by dsimp only; omega))).trans ((rv_up_n (by omega)).trans rv_up_s)
  have kq : ∀ q, (x < q ∧ q < x + 372) ∨ q < x ∨ x + 374 ≤ q → σ5.2 q = g4 q := fun q hq => (j2 q (by omega) (by dsimp only; omega)).trans ((rv_up_n (by omega)).trans (rv_up_n (by omega)))
  clear j2
  obtain ⟨n5, g5⟩ := σ5
  dsimp only at j1 j3 j4 k0 kq
  subst j1
  refine Exists.intro _ (And.intro k0 (And.intro trivial ?_))
  have all : ∀ q, (x < q ∧ q < x + 5) → (rv_up g5 x (oLate x 0 0 0 100 0 0)) q = g1 q := fun q hq => (rv_up_n (by omega)).trans ((kq q (by omega)).trans ((iq q (by omega)).trans ((fq q (by omega)).trans (dq q (by omega)))))
  have far : ∀ q, q < x ∨ x + 374 ≤ q → (rv_up g5 x (oLate x 0 0 0 100 0 0)) q = g q := fun q hq => (rv_up_n (by omega)).trans ((kq q (by omega)).trans ((iq q (by omega)).trans ((fq q (by omega)).trans ((dq q (by omega)).trans (b9 q hq)))))
  refine ⟨rfl, rfl, ⟨rv_up_s, (all _ (by omega)).trans b1, (all _ (by omega)).trans b2, ⟨(all _ (by omega)).trans a3, (all _ (by omega)).trans a4⟩, ?_, ?_, ⟨?_, ?_⟩, ⟨?_, ?_⟩, ?_, ?_⟩, far⟩
  · exact c2.kept (fun q hq1 hq2 => (rv_up_n (by omega)).trans ((kq q (by omega)).trans ((iq q (by omega)).trans (fq q (by omega)))))
  · exact (rv_up_n (by omega)).trans ((kq _ (by omega)).trans ((iq _ (by omega)).trans f1))
  · exact (rv_up_n (by omega)).trans ((kq _ (by omega)).trans ((iq _ (by omega)).trans e3))
  · exact (rv_up_n (by omega)).trans ((kq _ (by omega)).trans ((iq _ (by omega)).trans e4))
  · exact (rv_up_n (by omega)).trans ((kq _ (by omega)).trans h3)
  · exact (rv_up_n (by omega)).trans ((kq _ (by omega)).trans h4)
  · exact (rv_up_n (by omega)).trans j3
  · exact (rv_up_n (by omega)).trans j4
