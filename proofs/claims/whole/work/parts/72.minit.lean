/-! THE REFERENCE: a new object -/
def im_A : Nat → rv_E
  | 0 => rv_aI 5 (fun _ => 0)
  | 1 => rv_aI 5 (fun _ => 0)
  | 2 => rv_aI 5 (fun _ => 0)
  | 3 => rv_aI 5 (fun _ => 0)
  | 4 => rv_aI 5 (fun _ => 0)
  | 5 => rv_aI 5 (fun _ => 0)
  | 6 => rv_aI 10 (fun _ => 0)
  | 7 => rv_aI 10 (fun _ => 0)
  | 8 => rv_aZ 10 (fun _ => false)
  | 9 => rv_aZ 10 (fun _ => false)
  | 10 => rv_aI 10 (fun _ => 0)
  | 11 => rv_aI 10 (fun _ => 0)
  | 12 => rv_aI 10 (fun _ => 0)
  | 13 => rv_aI 10 (fun _ => 0)
  | 14 => rv_aI 300 (fun _ => 0)
  | 15 => rv_aI 300 (fun _ => 0)
  | 16 => rv_aI 300 (fun _ => 0)
  | 17 => rv_aI 300 (fun _ => 0)
  | 18 => rv_aZ 300 (fun _ => false)
  | 19 => rv_aI 120 (fun _ => 0)
  | 20 => rv_aI 120 (fun _ => 0)
  | 21 => rv_aI 120 (fun _ => 0)
  | 22 => rv_aI 120 (fun _ => 0)
  | 23 => rv_aI 120 (fun _ => 0)
  | 24 => rv_aJ 120 (fun _ => 0)
  | 25 => rv_aI 120 (fun _ => 0)
  | 26 => rv_aI 120 (fun _ => 0)
  | 27 => rv_aZ 120 (fun _ => false)
  | 28 => rv_aZ 120 (fun _ => false)
  | 29 => rv_aI 120 (fun _ => 0)
  | 30 => rv_aJ 120 (fun _ => 0)
  | 31 => rv_aI 120 (fun _ => 0)
  | 32 => rv_aI 120 (fun _ => 0)
  | 33 => rv_aJ 3600 (fun _ => 0)
  | 34 => rv_aI 505 (fun _ => 0)
  | _ => rv_aJ 16800 (fun _ => 0)
theorem im_step {g g0 : Nat → Option rv_E} {y j : Nat} (ob : rv_E) (h1 : ∀ i, i < j → g (y + 1 + i) = some (im_A i)) (hf : ∀ q, q < y ∨ y + 37 ≤ q → g q = g0 q) (hj : j < 36) : (∀ i, i < j + 1 → (rv_up (rv_up g (y + 1 + j) (im_A j)) y ob) (y + 1 + i) = some (im_A i)) ∧ (∀ q, q < y ∨ y + 37 ≤ q → (rv_up (rv_up g (y + 1 + j) (im_A j)) y ob) q = g0 q) ∧ (rv_up (rv_up g (y + 1 + j) (im_A j)) y ob) y = some ob := by
  refine ⟨fun i hi => ?_, fun q hq => ?_, rv_up_s⟩
  · rw [rv_up_n (by omega)]
    by_cases hij : i = j
    · subst hij; exact rv_up_s
    · rw [rv_up_n (by omega)]; exact h1 i (by omega)
  · rw [rv_up_n (by omega), rv_up_n (by omega)]; exact hf q hq
theorem im_put {g g0 : Nat → Option rv_E} {y j : Nat} (ob : rv_E) (h1 : ∀ i, i < j → g (y + 1 + i) = some (im_A i)) (hf : ∀ q, q < y ∨ y + 37 ≤ q → g q = g0 q) : (∀ i, i < j → (rv_up g y ob) (y + 1 + i) = some (im_A i)) ∧ (∀ q, q < y ∨ y + 37 ≤ q → (rv_up g y ob) q = g0 q) ∧ (rv_up g y ob) y = some ob := by
  refine ⟨fun i hi => ?_, fun q hq => ?_, rv_up_s⟩
  · rw [rv_up_n (by omega)]; exact h1 i hi
  · rw [rv_up_n (by omega)]; exact hf q hq
def md00 : Md := ((0, 0, 0, 0, 0, 0, 0, 100, 0, 0, 0, 0, 0, false, 0), (fun _ => 0, fun _ => 0, fun _ => 0, fun _ => 0, fun _ => 0, fun _ => 0), (fun _ => 0, fun _ => 0, fun _ => false, fun _ => false, fun _ => 0, fun _ => 0, fun _ => 0, fun _ => 0), (fun _ => 0, fun _ => 0, fun _ => 0, fun _ => 0, fun _ => false), (fun _ => 0, fun _ => 0, fun _ => 0, fun _ => 0, fun _ => 0, fun _ => 0, fun _ => 0, fun _ => 0, fun _ => false, fun _ => false, fun _ => 0, fun _ => 0, fun _ => 0, fun _ => 0), (fun _ => 0, fun _ => 0, fun _ => 0))
def sf_run : Nat → Nat → (Nat → Int32) → Nat → Int32
  | 0, _, f => f
  | t + 1, i, f => sf_run t (i + 1) (upd f i (-99999999))
def md0 : Md := md00.u_sFirst (sf_run 10 0 (fun _ => 0))
set_option maxRecDepth 100000 in
theorem lp_im {G : rv_G} {σ0 : rv_S} {y : Nat} : ∀ (t i : Nat) (vi : Int32) (f : Nat → Int32) (σ : rv_S), vi = nI i → i + t = 10 → sf_run t i f = sf_run 10 0 (fun _ => 0) → MI σ0 σ y (md y (md00.u_sFirst f)) →
    rv_V G m_Model_init 36 24195 (fun r σ' => r = none ∧ MI σ0 σ' y (md y md0)) 302 [some (.ref y), some (.int vi)] [] σ 36 24195 := by
  intro t
  induction t with
  | zero =>
    intro i vi f σ ei e1 ef h
    refine rv_V.run rv_gd_Model_init [302] 400 ?_
    refine And.intro (fun c1 => ?_) (fun c1 => absurd ((rv_leN (a := 10) rfl ei (by omega) (by omega)).mpr (by omega)) c1)
    unfold md0
    rw [← ef]
    exact ⟨rfl, h⟩
  | succ t ih =>
    intro i vi f σ ei e1 ef h
    refine rv_V.run rv_gd_Model_init [302] 400 ?_
    refine And.intro (fun c1 => absurd ((rv_leN (a := 10) rfl ei (by omega) (by omega)).mp c1) (by omega)) (fun c1 => ?_)
    refine Exists.intro _ (And.intro h.ob ?_)
    refine h.s14 ei (by omega) (fun σ h => ?_)
    exact ih (i + 1) (vi + 1) (upd f i (-99999999)) σ (by rw [ei]; exact nI_1 i) (by omega) ef h
theorem im_end {σ : rv_S} {y : Nat} (h1 : ∀ i, i < 36 → σ.2 (y + 1 + i) = some (im_A i)) (hy : σ.2 y = some (.inl (k_Model, mdf y md00))) : MI σ σ y (md y (md00.u_sFirst (fun _ => 0))) := by
  refine ⟨rfl, fun i c hc => ?_, rv_only.rf⟩
  match i, hc with
  | 0, hc => cases hc; exact hy
  | 1, hc => cases hc; exact h1 0 (by omega)
  | 2, hc => cases hc; exact h1 1 (by omega)
  | 3, hc => cases hc; exact h1 2 (by omega)
  | 4, hc => cases hc; exact h1 3 (by omega)
  | 5, hc => cases hc; exact h1 4 (by omega)
  | 6, hc => cases hc; exact h1 5 (by omega)
  | 7, hc => cases hc; exact h1 6 (by omega)
  | 8, hc => cases hc; exact h1 7 (by omega)
  | 9, hc => cases hc; exact h1 8 (by omega)
  | 10, hc => cases hc; exact h1 9 (by omega)
  | 11, hc => cases hc; exact h1 10 (by omega)
  | 12, hc => cases hc; exact h1 11 (by omega)
  | 13, hc => cases hc; exact h1 12 (by omega)
  | 14, hc => cases hc; exact h1 13 (by omega)
  | 15, hc => cases hc; exact h1 14 (by omega)
  | 16, hc => cases hc; exact h1 15 (by omega)
  | 17, hc => cases hc; exact h1 16 (by omega)
  | 18, hc => cases hc; exact h1 17 (by omega)
  | 19, hc => cases hc; exact h1 18 (by omega)
  | 20, hc => cases hc; exact h1 19 (by omega)
  | 21, hc => cases hc; exact h1 20 (by omega)
  | 22, hc => cases hc; exact h1 21 (by omega)
  | 23, hc => cases hc; exact h1 22 (by omega)
  | 24, hc => cases hc; exact h1 23 (by omega)
  | 25, hc => cases hc; exact h1 24 (by omega)
  | 26, hc => cases hc; exact h1 25 (by omega)
  | 27, hc => cases hc; exact h1 26 (by omega)
  | 28, hc => cases hc; exact h1 27 (by omega)
  | 29, hc => cases hc; exact h1 28 (by omega)
  | 30, hc => cases hc; exact h1 29 (by omega)
  | 31, hc => cases hc; exact h1 30 (by omega)
  | 32, hc => cases hc; exact h1 31 (by omega)
  | 33, hc => cases hc; exact h1 32 (by omega)
  | 34, hc => cases hc; exact h1 33 (by omega)
  | 35, hc => cases hc; exact h1 34 (by omega)
  | 36, hc => cases hc; exact h1 35 (by omega)
  | i + 37, hc => cases hc
set_option maxRecDepth 100000 in
theorem im_p37 {G : rv_G} {g0 : Nat → Option rv_E} {y : Nat} : ∀ g : Nat → Option rv_E, (∀ i, i < 36 → g (y + 1 + i) = some (im_A i)) → (∀ q, q < y ∨ y + 37 ≤ q → g q = g0 q) → g y = some (.inl (k_Model, [.int 0, .ref (y + 1), .ref (y + 2), .ref (y + 3), .ref (y + 4), .ref (y + 5), .ref (y + 6), .int 0, .ref (y + 7), .ref (y + 8), .ref (y + 9), .ref (y + 10), .ref (y + 11), .ref (y + 12), .ref (y + 13), .ref (y + 14), .int 0, .ref (y + 15), .ref (y + 16), .ref (y + 17), .ref (y + 18), .ref (y + 19), .int 0, .ref (y + 20), .ref (y + 21), .ref (y + 22), .ref (y + 23), .ref (y + 24), .ref (y + 25), .ref (y + 26), .ref (y + 27), .ref (y + 28), .ref (y + 29), .ref (y + 30), .ref (y + 31), .ref (y + 32), .ref (y + 33), .int 0, .int 0, .ref (y + 34), .int 0, .ref (y + 35), .int 100, .int 0, .int 0, .int 0, .int 0, .int 0, .int 0, .int 0, .ref (y + 36)])) → rv_V G m_Model_init 36 24195 (fun r σ' => r = none ∧ ∃ σ1 : rv_S, σ1.1 = y + 37 ∧ (∀ q, q < y ∨ y + 37 ≤ q → σ1.2 q = g0 q) ∧ MI σ1 σ' y (md y md0)) 300 [some (.ref y), none] [] (y + 37, g) 36 24195 := by
  intro g h1 hf hy
  refine rv_V.run rv_gd_Model_init [302] 400 ?_
  refine (lp_im 10 0 0 (fun _ => 0) (y + 37, g) rfl (by omega) rfl (im_end h1 hy)).mono ?_
  rintro r σ' ⟨m1, m2⟩
  exact ⟨m1, _, rfl, hf, m2⟩
set_option maxRecDepth 100000 in
theorem im_p36 {G : rv_G} {g0 : Nat → Option rv_E} {y : Nat} : ∀ g : Nat → Option rv_E, (∀ i, i < 35 → g (y + 1 + i) = some (im_A i)) → (∀ q, q < y ∨ y + 37 ≤ q → g q = g0 q) → g y = some (.inl (k_Model, [.int 0, .ref (y + 1), .ref (y + 2), .ref (y + 3), .ref (y + 4), .ref (y + 5), .ref (y + 6), .int 0, .ref (y + 7), .ref (y + 8), .ref (y + 9), .ref (y + 10), .ref (y + 11), .ref (y + 12), .ref (y + 13), .ref (y + 14), .int 0, .ref (y + 15), .ref (y + 16), .ref (y + 17), .ref (y + 18), .ref (y + 19), .int 0, .ref (y + 20), .ref (y + 21), .ref (y + 22), .ref (y + 23), .ref (y + 24), .ref (y + 25), .ref (y + 26), .ref (y + 27), .ref (y + 28), .ref (y + 29), .ref (y + 30), .ref (y + 31), .ref (y + 32), .ref (y + 33), .int 0, .int 0, .ref (y + 34), .int 0, .ref (y + 35), .int 100, .int 0, .int 0, .int 0, .int 0, .int 0, .int 0, .int 0, .null])) → rv_V G m_Model_init 36 24195 (fun r σ' => r = none ∧ ∃ σ1 : rv_S, σ1.1 = y + 37 ∧ (∀ q, q < y ∨ y + 37 ≤ q → σ1.2 q = g0 q) ∧ MI σ1 σ' y (md y md0)) 291 [some (.ref y), none] [] (y + 36, g) 35 7395 := by
  intro g h1 hf hy
  refine rv_V.run rv_gd_Model_init [300] 400 ?_
  refine ⟨16800, by decide, by decide, by decide, by decide, by decide, ?_⟩
  refine Exists.intro _ (And.intro ((rv_up_n (by omega)).trans hy) (And.intro trivial ?_))
  exact im_p37 _ (im_step (j := 35) _ h1 hf (by omega)).1 (im_step (j := 35) _ h1 hf (by omega)).2.1 rv_up_s
set_option maxRecDepth 100000 in
theorem im_p35 {G : rv_G} {g0 : Nat → Option rv_E} {y : Nat} : ∀ g : Nat → Option rv_E, (∀ i, i < 35 → g (y + 1 + i) = some (im_A i)) → (∀ q, q < y ∨ y + 37 ≤ q → g q = g0 q) → g y = some (.inl (k_Model, [.int 0, .ref (y + 1), .ref (y + 2), .ref (y + 3), .ref (y + 4), .ref (y + 5), .ref (y + 6), .int 0, .ref (y + 7), .ref (y + 8), .ref (y + 9), .ref (y + 10), .ref (y + 11), .ref (y + 12), .ref (y + 13), .ref (y + 14), .int 0, .ref (y + 15), .ref (y + 16), .ref (y + 17), .ref (y + 18), .ref (y + 19), .int 0, .ref (y + 20), .ref (y + 21), .ref (y + 22), .ref (y + 23), .ref (y + 24), .ref (y + 25), .ref (y + 26), .ref (y + 27), .ref (y + 28), .ref (y + 29), .ref (y + 30), .ref (y + 31), .ref (y + 32), .ref (y + 33), .int 0, .int 0, .ref (y + 34), .int 0, .ref (y + 35), .int 0, .int 0, .int 0, .int 0, .int 0, .int 0, .int 0, .int 0, .null])) → rv_V G m_Model_init 36 24195 (fun r σ' => r = none ∧ ∃ σ1 : rv_S, σ1.1 = y + 37 ∧ (∀ q, q < y ∨ y + 37 ≤ q → σ1.2 q = g0 q) ∧ MI σ1 σ' y (md y md0)) 285 [some (.ref y), none] [] (y + 36, g) 35 7395 := by
  intro g h1 hf hy
  refine rv_V.run rv_gd_Model_init [291] 400 ?_
  refine Exists.intro _ (And.intro hy (And.intro trivial ?_))
  exact im_p36 _ (im_put _ h1 hf).1 (im_put _ h1 hf).2.1 rv_up_s
set_option maxRecDepth 100000 in
theorem im_p34 {G : rv_G} {g0 : Nat → Option rv_E} {y : Nat} : ∀ g : Nat → Option rv_E, (∀ i, i < 34 → g (y + 1 + i) = some (im_A i)) → (∀ q, q < y ∨ y + 37 ≤ q → g q = g0 q) → g y = some (.inl (k_Model, [.int 0, .ref (y + 1), .ref (y + 2), .ref (y + 3), .ref (y + 4), .ref (y + 5), .ref (y + 6), .int 0, .ref (y + 7), .ref (y + 8), .ref (y + 9), .ref (y + 10), .ref (y + 11), .ref (y + 12), .ref (y + 13), .ref (y + 14), .int 0, .ref (y + 15), .ref (y + 16), .ref (y + 17), .ref (y + 18), .ref (y + 19), .int 0, .ref (y + 20), .ref (y + 21), .ref (y + 22), .ref (y + 23), .ref (y + 24), .ref (y + 25), .ref (y + 26), .ref (y + 27), .ref (y + 28), .ref (y + 29), .ref (y + 30), .ref (y + 31), .ref (y + 32), .ref (y + 33), .int 0, .int 0, .ref (y + 34), .int 0, .null, .int 0, .int 0, .int 0, .int 0, .int 0, .int 0, .int 0, .int 0, .null])) → rv_V G m_Model_init 36 24195 (fun r σ' => r = none ∧ ∃ σ1 : rv_S, σ1.1 = y + 37 ∧ (∀ q, q < y ∨ y + 37 ≤ q → σ1.2 q = g0 q) ∧ MI σ1 σ' y (md y md0)) 276 [some (.ref y), none] [] (y + 35, g) 34 6890 := by
  intro g h1 hf hy
  refine rv_V.run rv_gd_Model_init [285] 400 ?_
  refine ⟨505, by decide, by decide, by decide, by decide, by decide, ?_⟩
  refine Exists.intro _ (And.intro ((rv_up_n (by omega)).trans hy) (And.intro trivial ?_))
  exact im_p35 _ (im_step (j := 34) _ h1 hf (by omega)).1 (im_step (j := 34) _ h1 hf (by omega)).2.1 rv_up_s
set_option maxRecDepth 100000 in
theorem im_p33 {G : rv_G} {g0 : Nat → Option rv_E} {y : Nat} : ∀ g : Nat → Option rv_E, (∀ i, i < 33 → g (y + 1 + i) = some (im_A i)) → (∀ q, q < y ∨ y + 37 ≤ q → g q = g0 q) → g y = some (.inl (k_Model, [.int 0, .ref (y + 1), .ref (y + 2), .ref (y + 3), .ref (y + 4), .ref (y + 5), .ref (y + 6), .int 0, .ref (y + 7), .ref (y + 8), .ref (y + 9), .ref (y + 10), .ref (y + 11), .ref (y + 12), .ref (y + 13), .ref (y + 14), .int 0, .ref (y + 15), .ref (y + 16), .ref (y + 17), .ref (y + 18), .ref (y + 19), .int 0, .ref (y + 20), .ref (y + 21), .ref (y + 22), .ref (y + 23), .ref (y + 24), .ref (y + 25), .ref (y + 26), .ref (y + 27), .ref (y + 28), .ref (y + 29), .ref (y + 30), .ref (y + 31), .ref (y + 32), .ref (y + 33), .int 0, .int 0, .null, .int 0, .null, .int 0, .int 0, .int 0, .int 0, .int 0, .int 0, .int 0, .int 0, .null])) → rv_V G m_Model_init 36 24195 (fun r σ' => r = none ∧ ∃ σ1 : rv_S, σ1.1 = y + 37 ∧ (∀ q, q < y ∨ y + 37 ≤ q → σ1.2 q = g0 q) ∧ MI σ1 σ' y (md y md0)) 267 [some (.ref y), none] [] (y + 34, g) 33 3290 := by
  intro g h1 hf hy
  refine rv_V.run rv_gd_Model_init [276] 400 ?_
  refine ⟨3600, by decide, by decide, by decide, by decide, by decide, ?_⟩
  refine Exists.intro _ (And.intro ((rv_up_n (by omega)).trans hy) (And.intro trivial ?_))
  exact im_p34 _ (im_step (j := 33) _ h1 hf (by omega)).1 (im_step (j := 33) _ h1 hf (by omega)).2.1 rv_up_s
set_option maxRecDepth 100000 in
theorem im_p32 {G : rv_G} {g0 : Nat → Option rv_E} {y : Nat} : ∀ g : Nat → Option rv_E, (∀ i, i < 32 → g (y + 1 + i) = some (im_A i)) → (∀ q, q < y ∨ y + 37 ≤ q → g q = g0 q) → g y = some (.inl (k_Model, [.int 0, .ref (y + 1), .ref (y + 2), .ref (y + 3), .ref (y + 4), .ref (y + 5), .ref (y + 6), .int 0, .ref (y + 7), .ref (y + 8), .ref (y + 9), .ref (y + 10), .ref (y + 11), .ref (y + 12), .ref (y + 13), .ref (y + 14), .int 0, .ref (y + 15), .ref (y + 16), .ref (y + 17), .ref (y + 18), .ref (y + 19), .int 0, .ref (y + 20), .ref (y + 21), .ref (y + 22), .ref (y + 23), .ref (y + 24), .ref (y + 25), .ref (y + 26), .ref (y + 27), .ref (y + 28), .ref (y + 29), .ref (y + 30), .ref (y + 31), .ref (y + 32), .null, .int 0, .int 0, .null, .int 0, .null, .int 0, .int 0, .int 0, .int 0, .int 0, .int 0, .int 0, .int 0, .null])) → rv_V G m_Model_init 36 24195 (fun r σ' => r = none ∧ ∃ σ1 : rv_S, σ1.1 = y + 37 ∧ (∀ q, q < y ∨ y + 37 ≤ q → σ1.2 q = g0 q) ∧ MI σ1 σ' y (md y md0)) 259 [some (.ref y), none] [] (y + 33, g) 32 3170 := by
  intro g h1 hf hy
  refine rv_V.run rv_gd_Model_init [267] 400 ?_
  refine ⟨120, by decide, by decide, by decide, by decide, by decide, ?_⟩
  refine Exists.intro _ (And.intro ((rv_up_n (by omega)).trans hy) (And.intro trivial ?_))
  exact im_p33 _ (im_step (j := 32) _ h1 hf (by omega)).1 (im_step (j := 32) _ h1 hf (by omega)).2.1 rv_up_s
set_option maxRecDepth 100000 in
theorem im_p31 {G : rv_G} {g0 : Nat → Option rv_E} {y : Nat} : ∀ g : Nat → Option rv_E, (∀ i, i < 31 → g (y + 1 + i) = some (im_A i)) → (∀ q, q < y ∨ y + 37 ≤ q → g q = g0 q) → g y = some (.inl (k_Model, [.int 0, .ref (y + 1), .ref (y + 2), .ref (y + 3), .ref (y + 4), .ref (y + 5), .ref (y + 6), .int 0, .ref (y + 7), .ref (y + 8), .ref (y + 9), .ref (y + 10), .ref (y + 11), .ref (y + 12), .ref (y + 13), .ref (y + 14), .int 0, .ref (y + 15), .ref (y + 16), .ref (y + 17), .ref (y + 18), .ref (y + 19), .int 0, .ref (y + 20), .ref (y + 21), .ref (y + 22), .ref (y + 23), .ref (y + 24), .ref (y + 25), .ref (y + 26), .ref (y + 27), .ref (y + 28), .ref (y + 29), .ref (y + 30), .ref (y + 31), .null, .null, .int 0, .int 0, .null, .int 0, .null, .int 0, .int 0, .int 0, .int 0, .int 0, .int 0, .int 0, .int 0, .null])) → rv_V G m_Model_init 36 24195 (fun r σ' => r = none ∧ ∃ σ1 : rv_S, σ1.1 = y + 37 ∧ (∀ q, q < y ∨ y + 37 ≤ q → σ1.2 q = g0 q) ∧ MI σ1 σ' y (md y md0)) 251 [some (.ref y), none] [] (y + 32, g) 31 3050 := by
  intro g h1 hf hy
  refine rv_V.run rv_gd_Model_init [259] 400 ?_
  refine ⟨120, by decide, by decide, by decide, by decide, by decide, ?_⟩
  refine Exists.intro _ (And.intro ((rv_up_n (by omega)).trans hy) (And.intro trivial ?_))
  exact im_p32 _ (im_step (j := 31) _ h1 hf (by omega)).1 (im_step (j := 31) _ h1 hf (by omega)).2.1 rv_up_s
set_option maxRecDepth 100000 in
theorem im_p30 {G : rv_G} {g0 : Nat → Option rv_E} {y : Nat} : ∀ g : Nat → Option rv_E, (∀ i, i < 30 → g (y + 1 + i) = some (im_A i)) → (∀ q, q < y ∨ y + 37 ≤ q → g q = g0 q) → g y = some (.inl (k_Model, [.int 0, .ref (y + 1), .ref (y + 2), .ref (y + 3), .ref (y + 4), .ref (y + 5), .ref (y + 6), .int 0, .ref (y + 7), .ref (y + 8), .ref (y + 9), .ref (y + 10), .ref (y + 11), .ref (y + 12), .ref (y + 13), .ref (y + 14), .int 0, .ref (y + 15), .ref (y + 16), .ref (y + 17), .ref (y + 18), .ref (y + 19), .int 0, .ref (y + 20), .ref (y + 21), .ref (y + 22), .ref (y + 23), .ref (y + 24), .ref (y + 25), .ref (y + 26), .ref (y + 27), .ref (y + 28), .ref (y + 29), .ref (y + 30), .null, .null, .null, .int 0, .int 0, .null, .int 0, .null, .int 0, .int 0, .int 0, .int 0, .int 0, .int 0, .int 0, .int 0, .null])) → rv_V G m_Model_init 36 24195 (fun r σ' => r = none ∧ ∃ σ1 : rv_S, σ1.1 = y + 37 ∧ (∀ q, q < y ∨ y + 37 ≤ q → σ1.2 q = g0 q) ∧ MI σ1 σ' y (md y md0)) 243 [some (.ref y), none] [] (y + 31, g) 30 2930 := by
  intro g h1 hf hy
  refine rv_V.run rv_gd_Model_init [251] 400 ?_
  refine ⟨120, by decide, by decide, by decide, by decide, by decide, ?_⟩
  refine Exists.intro _ (And.intro ((rv_up_n (by omega)).trans hy) (And.intro trivial ?_))
  exact im_p31 _ (im_step (j := 30) _ h1 hf (by omega)).1 (im_step (j := 30) _ h1 hf (by omega)).2.1 rv_up_s
set_option maxRecDepth 100000 in
theorem im_p29 {G : rv_G} {g0 : Nat → Option rv_E} {y : Nat} : ∀ g : Nat → Option rv_E, (∀ i, i < 29 → g (y + 1 + i) = some (im_A i)) → (∀ q, q < y ∨ y + 37 ≤ q → g q = g0 q) → g y = some (.inl (k_Model, [.int 0, .ref (y + 1), .ref (y + 2), .ref (y + 3), .ref (y + 4), .ref (y + 5), .ref (y + 6), .int 0, .ref (y + 7), .ref (y + 8), .ref (y + 9), .ref (y + 10), .ref (y + 11), .ref (y + 12), .ref (y + 13), .ref (y + 14), .int 0, .ref (y + 15), .ref (y + 16), .ref (y + 17), .ref (y + 18), .ref (y + 19), .int 0, .ref (y + 20), .ref (y + 21), .ref (y + 22), .ref (y + 23), .ref (y + 24), .ref (y + 25), .ref (y + 26), .ref (y + 27), .ref (y + 28), .ref (y + 29), .null, .null, .null, .null, .int 0, .int 0, .null, .int 0, .null, .int 0, .int 0, .int 0, .int 0, .int 0, .int 0, .int 0, .int 0, .null])) → rv_V G m_Model_init 36 24195 (fun r σ' => r = none ∧ ∃ σ1 : rv_S, σ1.1 = y + 37 ∧ (∀ q, q < y ∨ y + 37 ≤ q → σ1.2 q = g0 q) ∧ MI σ1 σ' y (md y md0)) 235 [some (.ref y), none] [] (y + 30, g) 29 2810 := by
  intro g h1 hf hy
  refine rv_V.run rv_gd_Model_init [243] 400 ?_
  refine ⟨120, by decide, by decide, by decide, by decide, by decide, ?_⟩
  refine Exists.intro _ (And.intro ((rv_up_n (by omega)).trans hy) (And.intro trivial ?_))
  exact im_p30 _ (im_step (j := 29) _ h1 hf (by omega)).1 (im_step (j := 29) _ h1 hf (by omega)).2.1 rv_up_s
set_option maxRecDepth 100000 in
theorem im_p28 {G : rv_G} {g0 : Nat → Option rv_E} {y : Nat} : ∀ g : Nat → Option rv_E, (∀ i, i < 28 → g (y + 1 + i) = some (im_A i)) → (∀ q, q < y ∨ y + 37 ≤ q → g q = g0 q) → g y = some (.inl (k_Model, [.int 0, .ref (y + 1), .ref (y + 2), .ref (y + 3), .ref (y + 4), .ref (y + 5), .ref (y + 6), .int 0, .ref (y + 7), .ref (y + 8), .ref (y + 9), .ref (y + 10), .ref (y + 11), .ref (y + 12), .ref (y + 13), .ref (y + 14), .int 0, .ref (y + 15), .ref (y + 16), .ref (y + 17), .ref (y + 18), .ref (y + 19), .int 0, .ref (y + 20), .ref (y + 21), .ref (y + 22), .ref (y + 23), .ref (y + 24), .ref (y + 25), .ref (y + 26), .ref (y + 27), .ref (y + 28), .null, .null, .null, .null, .null, .int 0, .int 0, .null, .int 0, .null, .int 0, .int 0, .int 0, .int 0, .int 0, .int 0, .int 0, .int 0, .null])) → rv_V G m_Model_init 36 24195 (fun r σ' => r = none ∧ ∃ σ1 : rv_S, σ1.1 = y + 37 ∧ (∀ q, q < y ∨ y + 37 ≤ q → σ1.2 q = g0 q) ∧ MI σ1 σ' y (md y md0)) 227 [some (.ref y), none] [] (y + 29, g) 28 2690 := by
  intro g h1 hf hy
  refine rv_V.run rv_gd_Model_init [235] 400 ?_
  refine ⟨120, by decide, by decide, by decide, by decide, by decide, ?_⟩
  refine Exists.intro _ (And.intro ((rv_up_n (by omega)).trans hy) (And.intro trivial ?_))
  exact im_p29 _ (im_step (j := 28) _ h1 hf (by omega)).1 (im_step (j := 28) _ h1 hf (by omega)).2.1 rv_up_s
set_option maxRecDepth 100000 in
theorem im_p27 {G : rv_G} {g0 : Nat → Option rv_E} {y : Nat} : ∀ g : Nat → Option rv_E, (∀ i, i < 27 → g (y + 1 + i) = some (im_A i)) → (∀ q, q < y ∨ y + 37 ≤ q → g q = g0 q) → g y = some (.inl (k_Model, [.int 0, .ref (y + 1), .ref (y + 2), .ref (y + 3), .ref (y + 4), .ref (y + 5), .ref (y + 6), .int 0, .ref (y + 7), .ref (y + 8), .ref (y + 9), .ref (y + 10), .ref (y + 11), .ref (y + 12), .ref (y + 13), .ref (y + 14), .int 0, .ref (y + 15), .ref (y + 16), .ref (y + 17), .ref (y + 18), .ref (y + 19), .int 0, .ref (y + 20), .ref (y + 21), .ref (y + 22), .ref (y + 23), .ref (y + 24), .ref (y + 25), .ref (y + 26), .ref (y + 27), .null, .null, .null, .null, .null, .null, .int 0, .int 0, .null, .int 0, .null, .int 0, .int 0, .int 0, .int 0, .int 0, .int 0, .int 0, .int 0, .null])) → rv_V G m_Model_init 36 24195 (fun r σ' => r = none ∧ ∃ σ1 : rv_S, σ1.1 = y + 37 ∧ (∀ q, q < y ∨ y + 37 ≤ q → σ1.2 q = g0 q) ∧ MI σ1 σ' y (md y md0)) 219 [some (.ref y), none] [] (y + 28, g) 27 2570 := by
  intro g h1 hf hy
  refine rv_V.run rv_gd_Model_init [227] 400 ?_
  refine ⟨120, by decide, by decide, by decide, by decide, by decide, ?_⟩
  refine Exists.intro _ (And.intro ((rv_up_n (by omega)).trans hy) (And.intro trivial ?_))
  exact im_p28 _ (im_step (j := 27) _ h1 hf (by omega)).1 (im_step (j := 27) _ h1 hf (by omega)).2.1 rv_up_s
set_option maxRecDepth 100000 in
theorem im_p26 {G : rv_G} {g0 : Nat → Option rv_E} {y : Nat} : ∀ g : Nat → Option rv_E, (∀ i, i < 26 → g (y + 1 + i) = some (im_A i)) → (∀ q, q < y ∨ y + 37 ≤ q → g q = g0 q) → g y = some (.inl (k_Model, [.int 0, .ref (y + 1), .ref (y + 2), .ref (y + 3), .ref (y + 4), .ref (y + 5), .ref (y + 6), .int 0, .ref (y + 7), .ref (y + 8), .ref (y + 9), .ref (y + 10), .ref (y + 11), .ref (y + 12), .ref (y + 13), .ref (y + 14), .int 0, .ref (y + 15), .ref (y + 16), .ref (y + 17), .ref (y + 18), .ref (y + 19), .int 0, .ref (y + 20), .ref (y + 21), .ref (y + 22), .ref (y + 23), .ref (y + 24), .ref (y + 25), .ref (y + 26), .null, .null, .null, .null, .null, .null, .null, .int 0, .int 0, .null, .int 0, .null, .int 0, .int 0, .int 0, .int 0, .int 0, .int 0, .int 0, .int 0, .null])) → rv_V G m_Model_init 36 24195 (fun r σ' => r = none ∧ ∃ σ1 : rv_S, σ1.1 = y + 37 ∧ (∀ q, q < y ∨ y + 37 ≤ q → σ1.2 q = g0 q) ∧ MI σ1 σ' y (md y md0)) 211 [some (.ref y), none] [] (y + 27, g) 26 2450 := by
  intro g h1 hf hy
  refine rv_V.run rv_gd_Model_init [219] 400 ?_
  refine ⟨120, by decide, by decide, by decide, by decide, by decide, ?_⟩
  refine Exists.intro _ (And.intro ((rv_up_n (by omega)).trans hy) (And.intro trivial ?_))
  exact im_p27 _ (im_step (j := 26) _ h1 hf (by omega)).1 (im_step (j := 26) _ h1 hf (by omega)).2.1 rv_up_s
set_option maxRecDepth 100000 in
theorem im_p25 {G : rv_G} {g0 : Nat → Option rv_E} {y : Nat} : ∀ g : Nat → Option rv_E, (∀ i, i < 25 → g (y + 1 + i) = some (im_A i)) → (∀ q, q < y ∨ y + 37 ≤ q → g q = g0 q) → g y = some (.inl (k_Model, [.int 0, .ref (y + 1), .ref (y + 2), .ref (y + 3), .ref (y + 4), .ref (y + 5), .ref (y + 6), .int 0, .ref (y + 7), .ref (y + 8), .ref (y + 9), .ref (y + 10), .ref (y + 11), .ref (y + 12), .ref (y + 13), .ref (y + 14), .int 0, .ref (y + 15), .ref (y + 16), .ref (y + 17), .ref (y + 18), .ref (y + 19), .int 0, .ref (y + 20), .ref (y + 21), .ref (y + 22), .ref (y + 23), .ref (y + 24), .ref (y + 25), .null, .null, .null, .null, .null, .null, .null, .null, .int 0, .int 0, .null, .int 0, .null, .int 0, .int 0, .int 0, .int 0, .int 0, .int 0, .int 0, .int 0, .null])) → rv_V G m_Model_init 36 24195 (fun r σ' => r = none ∧ ∃ σ1 : rv_S, σ1.1 = y + 37 ∧ (∀ q, q < y ∨ y + 37 ≤ q → σ1.2 q = g0 q) ∧ MI σ1 σ' y (md y md0)) 203 [some (.ref y), none] [] (y + 26, g) 25 2330 := by
  intro g h1 hf hy
  refine rv_V.run rv_gd_Model_init [211] 400 ?_
  refine ⟨120, by decide, by decide, by decide, by decide, by decide, ?_⟩
  refine Exists.intro _ (And.intro ((rv_up_n (by omega)).trans hy) (And.intro trivial ?_))
  exact im_p26 _ (im_step (j := 25) _ h1 hf (by omega)).1 (im_step (j := 25) _ h1 hf (by omega)).2.1 rv_up_s
set_option maxRecDepth 100000 in
theorem im_p24 {G : rv_G} {g0 : Nat → Option rv_E} {y : Nat} : ∀ g : Nat → Option rv_E, (∀ i, i < 24 → g (y + 1 + i) = some (im_A i)) → (∀ q, q < y ∨ y + 37 ≤ q → g q = g0 q) → g y = some (.inl (k_Model, [.int 0, .ref (y + 1), .ref (y + 2), .ref (y + 3), .ref (y + 4), .ref (y + 5), .ref (y + 6), .int 0, .ref (y + 7), .ref (y + 8), .ref (y + 9), .ref (y + 10), .ref (y + 11), .ref (y + 12), .ref (y + 13), .ref (y + 14), .int 0, .ref (y + 15), .ref (y + 16), .ref (y + 17), .ref (y + 18), .ref (y + 19), .int 0, .ref (y + 20), .ref (y + 21), .ref (y + 22), .ref (y + 23), .ref (y + 24), .null, .null, .null, .null, .null, .null, .null, .null, .null, .int 0, .int 0, .null, .int 0, .null, .int 0, .int 0, .int 0, .int 0, .int 0, .int 0, .int 0, .int 0, .null])) → rv_V G m_Model_init 36 24195 (fun r σ' => r = none ∧ ∃ σ1 : rv_S, σ1.1 = y + 37 ∧ (∀ q, q < y ∨ y + 37 ≤ q → σ1.2 q = g0 q) ∧ MI σ1 σ' y (md y md0)) 195 [some (.ref y), none] [] (y + 25, g) 24 2210 := by
  intro g h1 hf hy
  refine rv_V.run rv_gd_Model_init [203] 400 ?_
  refine ⟨120, by decide, by decide, by decide, by decide, by decide, ?_⟩
  refine Exists.intro _ (And.intro ((rv_up_n (by omega)).trans hy) (And.intro trivial ?_))
  exact im_p25 _ (im_step (j := 24) _ h1 hf (by omega)).1 (im_step (j := 24) _ h1 hf (by omega)).2.1 rv_up_s
set_option maxRecDepth 100000 in
theorem im_p23 {G : rv_G} {g0 : Nat → Option rv_E} {y : Nat} : ∀ g : Nat → Option rv_E, (∀ i, i < 23 → g (y + 1 + i) = some (im_A i)) → (∀ q, q < y ∨ y + 37 ≤ q → g q = g0 q) → g y = some (.inl (k_Model, [.int 0, .ref (y + 1), .ref (y + 2), .ref (y + 3), .ref (y + 4), .ref (y + 5), .ref (y + 6), .int 0, .ref (y + 7), .ref (y + 8), .ref (y + 9), .ref (y + 10), .ref (y + 11), .ref (y + 12), .ref (y + 13), .ref (y + 14), .int 0, .ref (y + 15), .ref (y + 16), .ref (y + 17), .ref (y + 18), .ref (y + 19), .int 0, .ref (y + 20), .ref (y + 21), .ref (y + 22), .ref (y + 23), .null, .null, .null, .null, .null, .null, .null, .null, .null, .null, .int 0, .int 0, .null, .int 0, .null, .int 0, .int 0, .int 0, .int 0, .int 0, .int 0, .int 0, .int 0, .null])) → rv_V G m_Model_init 36 24195 (fun r σ' => r = none ∧ ∃ σ1 : rv_S, σ1.1 = y + 37 ∧ (∀ q, q < y ∨ y + 37 ≤ q → σ1.2 q = g0 q) ∧ MI σ1 σ' y (md y md0)) 187 [some (.ref y), none] [] (y + 24, g) 23 2090 := by
  intro g h1 hf hy
  refine rv_V.run rv_gd_Model_init [195] 400 ?_
  refine ⟨120, by decide, by decide, by decide, by decide, by decide, ?_⟩
  refine Exists.intro _ (And.intro ((rv_up_n (by omega)).trans hy) (And.intro trivial ?_))
  exact im_p24 _ (im_step (j := 23) _ h1 hf (by omega)).1 (im_step (j := 23) _ h1 hf (by omega)).2.1 rv_up_s
set_option maxRecDepth 100000 in
theorem im_p22 {G : rv_G} {g0 : Nat → Option rv_E} {y : Nat} : ∀ g : Nat → Option rv_E, (∀ i, i < 22 → g (y + 1 + i) = some (im_A i)) → (∀ q, q < y ∨ y + 37 ≤ q → g q = g0 q) → g y = some (.inl (k_Model, [.int 0, .ref (y + 1), .ref (y + 2), .ref (y + 3), .ref (y + 4), .ref (y + 5), .ref (y + 6), .int 0, .ref (y + 7), .ref (y + 8), .ref (y + 9), .ref (y + 10), .ref (y + 11), .ref (y + 12), .ref (y + 13), .ref (y + 14), .int 0, .ref (y + 15), .ref (y + 16), .ref (y + 17), .ref (y + 18), .ref (y + 19), .int 0, .ref (y + 20), .ref (y + 21), .ref (y + 22), .null, .null, .null, .null, .null, .null, .null, .null, .null, .null, .null, .int 0, .int 0, .null, .int 0, .null, .int 0, .int 0, .int 0, .int 0, .int 0, .int 0, .int 0, .int 0, .null])) → rv_V G m_Model_init 36 24195 (fun r σ' => r = none ∧ ∃ σ1 : rv_S, σ1.1 = y + 37 ∧ (∀ q, q < y ∨ y + 37 ≤ q → σ1.2 q = g0 q) ∧ MI σ1 σ' y (md y md0)) 179 [some (.ref y), none] [] (y + 23, g) 22 1970 := by
  intro g h1 hf hy
  refine rv_V.run rv_gd_Model_init [187] 400 ?_
  refine ⟨120, by decide, by decide, by decide, by decide, by decide, ?_⟩
  refine Exists.intro _ (And.intro ((rv_up_n (by omega)).trans hy) (And.intro trivial ?_))
  exact im_p23 _ (im_step (j := 22) _ h1 hf (by omega)).1 (im_step (j := 22) _ h1 hf (by omega)).2.1 rv_up_s
set_option maxRecDepth 100000 in
theorem im_p21 {G : rv_G} {g0 : Nat → Option rv_E} {y : Nat} : ∀ g : Nat → Option rv_E, (∀ i, i < 21 → g (y + 1 + i) = some (im_A i)) → (∀ q, q < y ∨ y + 37 ≤ q → g q = g0 q) → g y = some (.inl (k_Model, [.int 0, .ref (y + 1), .ref (y + 2), .ref (y + 3), .ref (y + 4), .ref (y + 5), .ref (y + 6), .int 0, .ref (y + 7), .ref (y + 8), .ref (y + 9), .ref (y + 10), .ref (y + 11), .ref (y + 12), .ref (y + 13), .ref (y + 14), .int 0, .ref (y + 15), .ref (y + 16), .ref (y + 17), .ref (y + 18), .ref (y + 19), .int 0, .ref (y + 20), .ref (y + 21), .null, .null, .null, .null, .null, .null, .null, .null, .null, .null, .null, .null, .int 0, .int 0, .null, .int 0, .null, .int 0, .int 0, .int 0, .int 0, .int 0, .int 0, .int 0, .int 0, .null])) → rv_V G m_Model_init 36 24195 (fun r σ' => r = none ∧ ∃ σ1 : rv_S, σ1.1 = y + 37 ∧ (∀ q, q < y ∨ y + 37 ≤ q → σ1.2 q = g0 q) ∧ MI σ1 σ' y (md y md0)) 171 [some (.ref y), none] [] (y + 22, g) 21 1850 := by
  intro g h1 hf hy
  refine rv_V.run rv_gd_Model_init [179] 400 ?_
  refine ⟨120, by decide, by decide, by decide, by decide, by decide, ?_⟩
  refine Exists.intro _ (And.intro ((rv_up_n (by omega)).trans hy) (And.intro trivial ?_))
  exact im_p22 _ (im_step (j := 21) _ h1 hf (by omega)).1 (im_step (j := 21) _ h1 hf (by omega)).2.1 rv_up_s
set_option maxRecDepth 100000 in
theorem im_p20 {G : rv_G} {g0 : Nat → Option rv_E} {y : Nat} : ∀ g : Nat → Option rv_E, (∀ i, i < 20 → g (y + 1 + i) = some (im_A i)) → (∀ q, q < y ∨ y + 37 ≤ q → g q = g0 q) → g y = some (.inl (k_Model, [.int 0, .ref (y + 1), .ref (y + 2), .ref (y + 3), .ref (y + 4), .ref (y + 5), .ref (y + 6), .int 0, .ref (y + 7), .ref (y + 8), .ref (y + 9), .ref (y + 10), .ref (y + 11), .ref (y + 12), .ref (y + 13), .ref (y + 14), .int 0, .ref (y + 15), .ref (y + 16), .ref (y + 17), .ref (y + 18), .ref (y + 19), .int 0, .ref (y + 20), .null, .null, .null, .null, .null, .null, .null, .null, .null, .null, .null, .null, .null, .int 0, .int 0, .null, .int 0, .null, .int 0, .int 0, .int 0, .int 0, .int 0, .int 0, .int 0, .int 0, .null])) → rv_V G m_Model_init 36 24195 (fun r σ' => r = none ∧ ∃ σ1 : rv_S, σ1.1 = y + 37 ∧ (∀ q, q < y ∨ y + 37 ≤ q → σ1.2 q = g0 q) ∧ MI σ1 σ' y (md y md0)) 163 [some (.ref y), none] [] (y + 21, g) 20 1730 := by
  intro g h1 hf hy
  refine rv_V.run rv_gd_Model_init [171] 400 ?_
  refine ⟨120, by decide, by decide, by decide, by decide, by decide, ?_⟩
  refine Exists.intro _ (And.intro ((rv_up_n (by omega)).trans hy) (And.intro trivial ?_))
  exact im_p21 _ (im_step (j := 20) _ h1 hf (by omega)).1 (im_step (j := 20) _ h1 hf (by omega)).2.1 rv_up_s
set_option maxRecDepth 100000 in
theorem im_p19 {G : rv_G} {g0 : Nat → Option rv_E} {y : Nat} : ∀ g : Nat → Option rv_E, (∀ i, i < 19 → g (y + 1 + i) = some (im_A i)) → (∀ q, q < y ∨ y + 37 ≤ q → g q = g0 q) → g y = some (.inl (k_Model, [.int 0, .ref (y + 1), .ref (y + 2), .ref (y + 3), .ref (y + 4), .ref (y + 5), .ref (y + 6), .int 0, .ref (y + 7), .ref (y + 8), .ref (y + 9), .ref (y + 10), .ref (y + 11), .ref (y + 12), .ref (y + 13), .ref (y + 14), .int 0, .ref (y + 15), .ref (y + 16), .ref (y + 17), .ref (y + 18), .ref (y + 19), .int 0, .null, .null, .null, .null, .null, .null, .null, .null, .null, .null, .null, .null, .null, .null, .int 0, .int 0, .null, .int 0, .null, .int 0, .int 0, .int 0, .int 0, .int 0, .int 0, .int 0, .int 0, .null])) → rv_V G m_Model_init 36 24195 (fun r σ' => r = none ∧ ∃ σ1 : rv_S, σ1.1 = y + 37 ∧ (∀ q, q < y ∨ y + 37 ≤ q → σ1.2 q = g0 q) ∧ MI σ1 σ' y (md y md0)) 155 [some (.ref y), none] [] (y + 20, g) 19 1610 := by
  intro g h1 hf hy
  refine rv_V.run rv_gd_Model_init [163] 400 ?_
  refine ⟨120, by decide, by decide, by decide, by decide, by decide, ?_⟩
  refine Exists.intro _ (And.intro ((rv_up_n (by omega)).trans hy) (And.intro trivial ?_))
  exact im_p20 _ (im_step (j := 19) _ h1 hf (by omega)).1 (im_step (j := 19) _ h1 hf (by omega)).2.1 rv_up_s
set_option maxRecDepth 100000 in
theorem im_p18 {G : rv_G} {g0 : Nat → Option rv_E} {y : Nat} : ∀ g : Nat → Option rv_E, (∀ i, i < 18 → g (y + 1 + i) = some (im_A i)) → (∀ q, q < y ∨ y + 37 ≤ q → g q = g0 q) → g y = some (.inl (k_Model, [.int 0, .ref (y + 1), .ref (y + 2), .ref (y + 3), .ref (y + 4), .ref (y + 5), .ref (y + 6), .int 0, .ref (y + 7), .ref (y + 8), .ref (y + 9), .ref (y + 10), .ref (y + 11), .ref (y + 12), .ref (y + 13), .ref (y + 14), .int 0, .ref (y + 15), .ref (y + 16), .ref (y + 17), .ref (y + 18), .null, .int 0, .null, .null, .null, .null, .null, .null, .null, .null, .null, .null, .null, .null, .null, .null, .int 0, .int 0, .null, .int 0, .null, .int 0, .int 0, .int 0, .int 0, .int 0, .int 0, .int 0, .int 0, .null])) → rv_V G m_Model_init 36 24195 (fun r σ' => r = none ∧ ∃ σ1 : rv_S, σ1.1 = y + 37 ∧ (∀ q, q < y ∨ y + 37 ≤ q → σ1.2 q = g0 q) ∧ MI σ1 σ' y (md y md0)) 146 [some (.ref y), none] [] (y + 19, g) 18 1310 := by
  intro g h1 hf hy
  refine rv_V.run rv_gd_Model_init [155] 400 ?_
  refine ⟨300, by decide, by decide, by decide, by decide, by decide, ?_⟩
  refine Exists.intro _ (And.intro ((rv_up_n (by omega)).trans hy) (And.intro trivial ?_))
  exact im_p19 _ (im_step (j := 18) _ h1 hf (by omega)).1 (im_step (j := 18) _ h1 hf (by omega)).2.1 rv_up_s
set_option maxRecDepth 100000 in
theorem im_p17 {G : rv_G} {g0 : Nat → Option rv_E} {y : Nat} : ∀ g : Nat → Option rv_E, (∀ i, i < 17 → g (y + 1 + i) = some (im_A i)) → (∀ q, q < y ∨ y + 37 ≤ q → g q = g0 q) → g y = some (.inl (k_Model, [.int 0, .ref (y + 1), .ref (y + 2), .ref (y + 3), .ref (y + 4), .ref (y + 5), .ref (y + 6), .int 0, .ref (y + 7), .ref (y + 8), .ref (y + 9), .ref (y + 10), .ref (y + 11), .ref (y + 12), .ref (y + 13), .ref (y + 14), .int 0, .ref (y + 15), .ref (y + 16), .ref (y + 17), .null, .null, .int 0, .null, .null, .null, .null, .null, .null, .null, .null, .null, .null, .null, .null, .null, .null, .int 0, .int 0, .null, .int 0, .null, .int 0, .int 0, .int 0, .int 0, .int 0, .int 0, .int 0, .int 0, .null])) → rv_V G m_Model_init 36 24195 (fun r σ' => r = none ∧ ∃ σ1 : rv_S, σ1.1 = y + 37 ∧ (∀ q, q < y ∨ y + 37 ≤ q → σ1.2 q = g0 q) ∧ MI σ1 σ' y (md y md0)) 137 [some (.ref y), none] [] (y + 18, g) 17 1010 := by
  intro g h1 hf hy
  refine rv_V.run rv_gd_Model_init [146] 400 ?_
  refine ⟨300, by decide, by decide, by decide, by decide, by decide, ?_⟩
  refine Exists.intro _ (And.intro ((rv_up_n (by omega)).trans hy) (And.intro trivial ?_))
  exact im_p18 _ (im_step (j := 17) _ h1 hf (by omega)).1 (im_step (j := 17) _ h1 hf (by omega)).2.1 rv_up_s
set_option maxRecDepth 100000 in
theorem im_p16 {G : rv_G} {g0 : Nat → Option rv_E} {y : Nat} : ∀ g : Nat → Option rv_E, (∀ i, i < 16 → g (y + 1 + i) = some (im_A i)) → (∀ q, q < y ∨ y + 37 ≤ q → g q = g0 q) → g y = some (.inl (k_Model, [.int 0, .ref (y + 1), .ref (y + 2), .ref (y + 3), .ref (y + 4), .ref (y + 5), .ref (y + 6), .int 0, .ref (y + 7), .ref (y + 8), .ref (y + 9), .ref (y + 10), .ref (y + 11), .ref (y + 12), .ref (y + 13), .ref (y + 14), .int 0, .ref (y + 15), .ref (y + 16), .null, .null, .null, .int 0, .null, .null, .null, .null, .null, .null, .null, .null, .null, .null, .null, .null, .null, .null, .int 0, .int 0, .null, .int 0, .null, .int 0, .int 0, .int 0, .int 0, .int 0, .int 0, .int 0, .int 0, .null])) → rv_V G m_Model_init 36 24195 (fun r σ' => r = none ∧ ∃ σ1 : rv_S, σ1.1 = y + 37 ∧ (∀ q, q < y ∨ y + 37 ≤ q → σ1.2 q = g0 q) ∧ MI σ1 σ' y (md y md0)) 128 [some (.ref y), none] [] (y + 17, g) 16 710 := by
  intro g h1 hf hy
  refine rv_V.run rv_gd_Model_init [137] 400 ?_
  refine ⟨300, by decide, by decide, by decide, by decide, by decide, ?_⟩
  refine Exists.intro _ (And.intro ((rv_up_n (by omega)).trans hy) (And.intro trivial ?_))
  exact im_p17 _ (im_step (j := 16) _ h1 hf (by omega)).1 (im_step (j := 16) _ h1 hf (by omega)).2.1 rv_up_s
set_option maxRecDepth 100000 in
theorem im_p15 {G : rv_G} {g0 : Nat → Option rv_E} {y : Nat} : ∀ g : Nat → Option rv_E, (∀ i, i < 15 → g (y + 1 + i) = some (im_A i)) → (∀ q, q < y ∨ y + 37 ≤ q → g q = g0 q) → g y = some (.inl (k_Model, [.int 0, .ref (y + 1), .ref (y + 2), .ref (y + 3), .ref (y + 4), .ref (y + 5), .ref (y + 6), .int 0, .ref (y + 7), .ref (y + 8), .ref (y + 9), .ref (y + 10), .ref (y + 11), .ref (y + 12), .ref (y + 13), .ref (y + 14), .int 0, .ref (y + 15), .null, .null, .null, .null, .int 0, .null, .null, .null, .null, .null, .null, .null, .null, .null, .null, .null, .null, .null, .null, .int 0, .int 0, .null, .int 0, .null, .int 0, .int 0, .int 0, .int 0, .int 0, .int 0, .int 0, .int 0, .null])) → rv_V G m_Model_init 36 24195 (fun r σ' => r = none ∧ ∃ σ1 : rv_S, σ1.1 = y + 37 ∧ (∀ q, q < y ∨ y + 37 ≤ q → σ1.2 q = g0 q) ∧ MI σ1 σ' y (md y md0)) 119 [some (.ref y), none] [] (y + 16, g) 15 410 := by
  intro g h1 hf hy
  refine rv_V.run rv_gd_Model_init [128] 400 ?_
  refine ⟨300, by decide, by decide, by decide, by decide, by decide, ?_⟩
  refine Exists.intro _ (And.intro ((rv_up_n (by omega)).trans hy) (And.intro trivial ?_))
  exact im_p16 _ (im_step (j := 15) _ h1 hf (by omega)).1 (im_step (j := 15) _ h1 hf (by omega)).2.1 rv_up_s
set_option maxRecDepth 100000 in
theorem im_p14 {G : rv_G} {g0 : Nat → Option rv_E} {y : Nat} : ∀ g : Nat → Option rv_E, (∀ i, i < 14 → g (y + 1 + i) = some (im_A i)) → (∀ q, q < y ∨ y + 37 ≤ q → g q = g0 q) → g y = some (.inl (k_Model, [.int 0, .ref (y + 1), .ref (y + 2), .ref (y + 3), .ref (y + 4), .ref (y + 5), .ref (y + 6), .int 0, .ref (y + 7), .ref (y + 8), .ref (y + 9), .ref (y + 10), .ref (y + 11), .ref (y + 12), .ref (y + 13), .ref (y + 14), .int 0, .null, .null, .null, .null, .null, .int 0, .null, .null, .null, .null, .null, .null, .null, .null, .null, .null, .null, .null, .null, .null, .int 0, .int 0, .null, .int 0, .null, .int 0, .int 0, .int 0, .int 0, .int 0, .int 0, .int 0, .int 0, .null])) → rv_V G m_Model_init 36 24195 (fun r σ' => r = none ∧ ∃ σ1 : rv_S, σ1.1 = y + 37 ∧ (∀ q, q < y ∨ y + 37 ≤ q → σ1.2 q = g0 q) ∧ MI σ1 σ' y (md y md0)) 110 [some (.ref y), none] [] (y + 15, g) 14 110 := by
  intro g h1 hf hy
  refine rv_V.run rv_gd_Model_init [119] 400 ?_
  refine ⟨300, by decide, by decide, by decide, by decide, by decide, ?_⟩
  refine Exists.intro _ (And.intro ((rv_up_n (by omega)).trans hy) (And.intro trivial ?_))
  exact im_p15 _ (im_step (j := 14) _ h1 hf (by omega)).1 (im_step (j := 14) _ h1 hf (by omega)).2.1 rv_up_s
set_option maxRecDepth 100000 in
theorem im_p13 {G : rv_G} {g0 : Nat → Option rv_E} {y : Nat} : ∀ g : Nat → Option rv_E, (∀ i, i < 13 → g (y + 1 + i) = some (im_A i)) → (∀ q, q < y ∨ y + 37 ≤ q → g q = g0 q) → g y = some (.inl (k_Model, [.int 0, .ref (y + 1), .ref (y + 2), .ref (y + 3), .ref (y + 4), .ref (y + 5), .ref (y + 6), .int 0, .ref (y + 7), .ref (y + 8), .ref (y + 9), .ref (y + 10), .ref (y + 11), .ref (y + 12), .ref (y + 13), .null, .int 0, .null, .null, .null, .null, .null, .int 0, .null, .null, .null, .null, .null, .null, .null, .null, .null, .null, .null, .null, .null, .null, .int 0, .int 0, .null, .int 0, .null, .int 0, .int 0, .int 0, .int 0, .int 0, .int 0, .int 0, .int 0, .null])) → rv_V G m_Model_init 36 24195 (fun r σ' => r = none ∧ ∃ σ1 : rv_S, σ1.1 = y + 37 ∧ (∀ q, q < y ∨ y + 37 ≤ q → σ1.2 q = g0 q) ∧ MI σ1 σ' y (md y md0)) 102 [some (.ref y), none] [] (y + 14, g) 13 100 := by
  intro g h1 hf hy
  refine rv_V.run rv_gd_Model_init [110] 400 ?_
  refine ⟨10, by decide, by decide, by decide, by decide, by decide, ?_⟩
  refine Exists.intro _ (And.intro ((rv_up_n (by omega)).trans hy) (And.intro trivial ?_))
  exact im_p14 _ (im_step (j := 13) _ h1 hf (by omega)).1 (im_step (j := 13) _ h1 hf (by omega)).2.1 rv_up_s
set_option maxRecDepth 100000 in
theorem im_p12 {G : rv_G} {g0 : Nat → Option rv_E} {y : Nat} : ∀ g : Nat → Option rv_E, (∀ i, i < 12 → g (y + 1 + i) = some (im_A i)) → (∀ q, q < y ∨ y + 37 ≤ q → g q = g0 q) → g y = some (.inl (k_Model, [.int 0, .ref (y + 1), .ref (y + 2), .ref (y + 3), .ref (y + 4), .ref (y + 5), .ref (y + 6), .int 0, .ref (y + 7), .ref (y + 8), .ref (y + 9), .ref (y + 10), .ref (y + 11), .ref (y + 12), .null, .null, .int 0, .null, .null, .null, .null, .null, .int 0, .null, .null, .null, .null, .null, .null, .null, .null, .null, .null, .null, .null, .null, .null, .int 0, .int 0, .null, .int 0, .null, .int 0, .int 0, .int 0, .int 0, .int 0, .int 0, .int 0, .int 0, .null])) → rv_V G m_Model_init 36 24195 (fun r σ' => r = none ∧ ∃ σ1 : rv_S, σ1.1 = y + 37 ∧ (∀ q, q < y ∨ y + 37 ≤ q → σ1.2 q = g0 q) ∧ MI σ1 σ' y (md y md0)) 94 [some (.ref y), none] [] (y + 13, g) 12 90 := by
  intro g h1 hf hy
  refine rv_V.run rv_gd_Model_init [102] 400 ?_
  refine ⟨10, by decide, by decide, by decide, by decide, by decide, ?_⟩
  refine Exists.intro _ (And.intro ((rv_up_n (by omega)).trans hy) (And.intro trivial ?_))
  exact im_p13 _ (im_step (j := 12) _ h1 hf (by omega)).1 (im_step (j := 12) _ h1 hf (by omega)).2.1 rv_up_s
set_option maxRecDepth 100000 in
theorem im_p11 {G : rv_G} {g0 : Nat → Option rv_E} {y : Nat} : ∀ g : Nat → Option rv_E, (∀ i, i < 11 → g (y + 1 + i) = some (im_A i)) → (∀ q, q < y ∨ y + 37 ≤ q → g q = g0 q) → g y = some (.inl (k_Model, [.int 0, .ref (y + 1), .ref (y + 2), .ref (y + 3), .ref (y + 4), .ref (y + 5), .ref (y + 6), .int 0, .ref (y + 7), .ref (y + 8), .ref (y + 9), .ref (y + 10), .ref (y + 11), .null, .null, .null, .int 0, .null, .null, .null, .null, .null, .int 0, .null, .null, .null, .null, .null, .null, .null, .null, .null, .null, .null, .null, .null, .null, .int 0, .int 0, .null, .int 0, .null, .int 0, .int 0, .int 0, .int 0, .int 0, .int 0, .int 0, .int 0, .null])) → rv_V G m_Model_init 36 24195 (fun r σ' => r = none ∧ ∃ σ1 : rv_S, σ1.1 = y + 37 ∧ (∀ q, q < y ∨ y + 37 ≤ q → σ1.2 q = g0 q) ∧ MI σ1 σ' y (md y md0)) 86 [some (.ref y), none] [] (y + 12, g) 11 80 := by
  intro g h1 hf hy
  refine rv_V.run rv_gd_Model_init [94] 400 ?_
  refine ⟨10, by decide, by decide, by decide, by decide, by decide, ?_⟩
  refine Exists.intro _ (And.intro ((rv_up_n (by omega)).trans hy) (And.intro trivial ?_))
  exact im_p12 _ (im_step (j := 11) _ h1 hf (by omega)).1 (im_step (j := 11) _ h1 hf (by omega)).2.1 rv_up_s
set_option maxRecDepth 100000 in
theorem im_p10 {G : rv_G} {g0 : Nat → Option rv_E} {y : Nat} : ∀ g : Nat → Option rv_E, (∀ i, i < 10 → g (y + 1 + i) = some (im_A i)) → (∀ q, q < y ∨ y + 37 ≤ q → g q = g0 q) → g y = some (.inl (k_Model, [.int 0, .ref (y + 1), .ref (y + 2), .ref (y + 3), .ref (y + 4), .ref (y + 5), .ref (y + 6), .int 0, .ref (y + 7), .ref (y + 8), .ref (y + 9), .ref (y + 10), .null, .null, .null, .null, .int 0, .null, .null, .null, .null, .null, .int 0, .null, .null, .null, .null, .null, .null, .null, .null, .null, .null, .null, .null, .null, .null, .int 0, .int 0, .null, .int 0, .null, .int 0, .int 0, .int 0, .int 0, .int 0, .int 0, .int 0, .int 0, .null])) → rv_V G m_Model_init 36 24195 (fun r σ' => r = none ∧ ∃ σ1 : rv_S, σ1.1 = y + 37 ∧ (∀ q, q < y ∨ y + 37 ≤ q → σ1.2 q = g0 q) ∧ MI σ1 σ' y (md y md0)) 78 [some (.ref y), none] [] (y + 11, g) 10 70 := by
  intro g h1 hf hy
  refine rv_V.run rv_gd_Model_init [86] 400 ?_
  refine ⟨10, by decide, by decide, by decide, by decide, by decide, ?_⟩
  refine Exists.intro _ (And.intro ((rv_up_n (by omega)).trans hy) (And.intro trivial ?_))
  exact im_p11 _ (im_step (j := 10) _ h1 hf (by omega)).1 (im_step (j := 10) _ h1 hf (by omega)).2.1 rv_up_s
set_option maxRecDepth 100000 in
theorem im_p9 {G : rv_G} {g0 : Nat → Option rv_E} {y : Nat} : ∀ g : Nat → Option rv_E, (∀ i, i < 9 → g (y + 1 + i) = some (im_A i)) → (∀ q, q < y ∨ y + 37 ≤ q → g q = g0 q) → g y = some (.inl (k_Model, [.int 0, .ref (y + 1), .ref (y + 2), .ref (y + 3), .ref (y + 4), .ref (y + 5), .ref (y + 6), .int 0, .ref (y + 7), .ref (y + 8), .ref (y + 9), .null, .null, .null, .null, .null, .int 0, .null, .null, .null, .null, .null, .int 0, .null, .null, .null, .null, .null, .null, .null, .null, .null, .null, .null, .null, .null, .null, .int 0, .int 0, .null, .int 0, .null, .int 0, .int 0, .int 0, .int 0, .int 0, .int 0, .int 0, .int 0, .null])) → rv_V G m_Model_init 36 24195 (fun r σ' => r = none ∧ ∃ σ1 : rv_S, σ1.1 = y + 37 ∧ (∀ q, q < y ∨ y + 37 ≤ q → σ1.2 q = g0 q) ∧ MI σ1 σ' y (md y md0)) 70 [some (.ref y), none] [] (y + 10, g) 9 60 := by
  intro g h1 hf hy
  refine rv_V.run rv_gd_Model_init [78] 400 ?_
  refine ⟨10, by decide, by decide, by decide, by decide, by decide, ?_⟩
  refine Exists.intro _ (And.intro ((rv_up_n (by omega)).trans hy) (And.intro trivial ?_))
  exact im_p10 _ (im_step (j := 9) _ h1 hf (by omega)).1 (im_step (j := 9) _ h1 hf (by omega)).2.1 rv_up_s
set_option maxRecDepth 100000 in
theorem im_p8 {G : rv_G} {g0 : Nat → Option rv_E} {y : Nat} : ∀ g : Nat → Option rv_E, (∀ i, i < 8 → g (y + 1 + i) = some (im_A i)) → (∀ q, q < y ∨ y + 37 ≤ q → g q = g0 q) → g y = some (.inl (k_Model, [.int 0, .ref (y + 1), .ref (y + 2), .ref (y + 3), .ref (y + 4), .ref (y + 5), .ref (y + 6), .int 0, .ref (y + 7), .ref (y + 8), .null, .null, .null, .null, .null, .null, .int 0, .null, .null, .null, .null, .null, .int 0, .null, .null, .null, .null, .null, .null, .null, .null, .null, .null, .null, .null, .null, .null, .int 0, .int 0, .null, .int 0, .null, .int 0, .int 0, .int 0, .int 0, .int 0, .int 0, .int 0, .int 0, .null])) → rv_V G m_Model_init 36 24195 (fun r σ' => r = none ∧ ∃ σ1 : rv_S, σ1.1 = y + 37 ∧ (∀ q, q < y ∨ y + 37 ≤ q → σ1.2 q = g0 q) ∧ MI σ1 σ' y (md y md0)) 62 [some (.ref y), none] [] (y + 9, g) 8 50 := by
  intro g h1 hf hy
  refine rv_V.run rv_gd_Model_init [70] 400 ?_
  refine ⟨10, by decide, by decide, by decide, by decide, by decide, ?_⟩
  refine Exists.intro _ (And.intro ((rv_up_n (by omega)).trans hy) (And.intro trivial ?_))
  exact im_p9 _ (im_step (j := 8) _ h1 hf (by omega)).1 (im_step (j := 8) _ h1 hf (by omega)).2.1 rv_up_s
set_option maxRecDepth 100000 in
theorem im_p7 {G : rv_G} {g0 : Nat → Option rv_E} {y : Nat} : ∀ g : Nat → Option rv_E, (∀ i, i < 7 → g (y + 1 + i) = some (im_A i)) → (∀ q, q < y ∨ y + 37 ≤ q → g q = g0 q) → g y = some (.inl (k_Model, [.int 0, .ref (y + 1), .ref (y + 2), .ref (y + 3), .ref (y + 4), .ref (y + 5), .ref (y + 6), .int 0, .ref (y + 7), .null, .null, .null, .null, .null, .null, .null, .int 0, .null, .null, .null, .null, .null, .int 0, .null, .null, .null, .null, .null, .null, .null, .null, .null, .null, .null, .null, .null, .null, .int 0, .int 0, .null, .int 0, .null, .int 0, .int 0, .int 0, .int 0, .int 0, .int 0, .int 0, .int 0, .null])) → rv_V G m_Model_init 36 24195 (fun r σ' => r = none ∧ ∃ σ1 : rv_S, σ1.1 = y + 37 ∧ (∀ q, q < y ∨ y + 37 ≤ q → σ1.2 q = g0 q) ∧ MI σ1 σ' y (md y md0)) 54 [some (.ref y), none] [] (y + 8, g) 7 40 := by
  intro g h1 hf hy
  refine rv_V.run rv_gd_Model_init [62] 400 ?_
  refine ⟨10, by decide, by decide, by decide, by decide, by decide, ?_⟩
  refine Exists.intro _ (And.intro ((rv_up_n (by omega)).trans hy) (And.intro trivial ?_))
  exact im_p8 _ (im_step (j := 7) _ h1 hf (by omega)).1 (im_step (j := 7) _ h1 hf (by omega)).2.1 rv_up_s
set_option maxRecDepth 100000 in
theorem im_p6 {G : rv_G} {g0 : Nat → Option rv_E} {y : Nat} : ∀ g : Nat → Option rv_E, (∀ i, i < 6 → g (y + 1 + i) = some (im_A i)) → (∀ q, q < y ∨ y + 37 ≤ q → g q = g0 q) → g y = some (.inl (k_Model, [.int 0, .ref (y + 1), .ref (y + 2), .ref (y + 3), .ref (y + 4), .ref (y + 5), .ref (y + 6), .int 0, .null, .null, .null, .null, .null, .null, .null, .null, .int 0, .null, .null, .null, .null, .null, .int 0, .null, .null, .null, .null, .null, .null, .null, .null, .null, .null, .null, .null, .null, .null, .int 0, .int 0, .null, .int 0, .null, .int 0, .int 0, .int 0, .int 0, .int 0, .int 0, .int 0, .int 0, .null])) → rv_V G m_Model_init 36 24195 (fun r σ' => r = none ∧ ∃ σ1 : rv_S, σ1.1 = y + 37 ∧ (∀ q, q < y ∨ y + 37 ≤ q → σ1.2 q = g0 q) ∧ MI σ1 σ' y (md y md0)) 46 [some (.ref y), none] [] (y + 7, g) 6 30 := by
  intro g h1 hf hy
  refine rv_V.run rv_gd_Model_init [54] 400 ?_
  refine ⟨10, by decide, by decide, by decide, by decide, by decide, ?_⟩
  refine Exists.intro _ (And.intro ((rv_up_n (by omega)).trans hy) (And.intro trivial ?_))
  exact im_p7 _ (im_step (j := 6) _ h1 hf (by omega)).1 (im_step (j := 6) _ h1 hf (by omega)).2.1 rv_up_s
set_option maxRecDepth 100000 in
theorem im_p5 {G : rv_G} {g0 : Nat → Option rv_E} {y : Nat} : ∀ g : Nat → Option rv_E, (∀ i, i < 5 → g (y + 1 + i) = some (im_A i)) → (∀ q, q < y ∨ y + 37 ≤ q → g q = g0 q) → g y = some (.inl (k_Model, [.int 0, .ref (y + 1), .ref (y + 2), .ref (y + 3), .ref (y + 4), .ref (y + 5), .null, .int 0, .null, .null, .null, .null, .null, .null, .null, .null, .int 0, .null, .null, .null, .null, .null, .int 0, .null, .null, .null, .null, .null, .null, .null, .null, .null, .null, .null, .null, .null, .null, .int 0, .int 0, .null, .int 0, .null, .int 0, .int 0, .int 0, .int 0, .int 0, .int 0, .int 0, .int 0, .null])) → rv_V G m_Model_init 36 24195 (fun r σ' => r = none ∧ ∃ σ1 : rv_S, σ1.1 = y + 37 ∧ (∀ q, q < y ∨ y + 37 ≤ q → σ1.2 q = g0 q) ∧ MI σ1 σ' y (md y md0)) 39 [some (.ref y), none] [] (y + 6, g) 5 25 := by
  intro g h1 hf hy
  refine rv_V.run rv_gd_Model_init [46] 400 ?_
  refine ⟨5, by decide, by decide, by decide, by decide, by decide, ?_⟩
  refine Exists.intro _ (And.intro ((rv_up_n (by omega)).trans hy) (And.intro trivial ?_))
  exact im_p6 _ (im_step (j := 5) _ h1 hf (by omega)).1 (im_step (j := 5) _ h1 hf (by omega)).2.1 rv_up_s
set_option maxRecDepth 100000 in
theorem im_p4 {G : rv_G} {g0 : Nat → Option rv_E} {y : Nat} : ∀ g : Nat → Option rv_E, (∀ i, i < 4 → g (y + 1 + i) = some (im_A i)) → (∀ q, q < y ∨ y + 37 ≤ q → g q = g0 q) → g y = some (.inl (k_Model, [.int 0, .ref (y + 1), .ref (y + 2), .ref (y + 3), .ref (y + 4), .null, .null, .int 0, .null, .null, .null, .null, .null, .null, .null, .null, .int 0, .null, .null, .null, .null, .null, .int 0, .null, .null, .null, .null, .null, .null, .null, .null, .null, .null, .null, .null, .null, .null, .int 0, .int 0, .null, .int 0, .null, .int 0, .int 0, .int 0, .int 0, .int 0, .int 0, .int 0, .int 0, .null])) → rv_V G m_Model_init 36 24195 (fun r σ' => r = none ∧ ∃ σ1 : rv_S, σ1.1 = y + 37 ∧ (∀ q, q < y ∨ y + 37 ≤ q → σ1.2 q = g0 q) ∧ MI σ1 σ' y (md y md0)) 32 [some (.ref y), none] [] (y + 5, g) 4 20 := by
  intro g h1 hf hy
  refine rv_V.run rv_gd_Model_init [39] 400 ?_
  refine ⟨5, by decide, by decide, by decide, by decide, by decide, ?_⟩
  refine Exists.intro _ (And.intro ((rv_up_n (by omega)).trans hy) (And.intro trivial ?_))
  exact im_p5 _ (im_step (j := 4) _ h1 hf (by omega)).1 (im_step (j := 4) _ h1 hf (by omega)).2.1 rv_up_s
set_option maxRecDepth 100000 in
theorem im_p3 {G : rv_G} {g0 : Nat → Option rv_E} {y : Nat} : ∀ g : Nat → Option rv_E, (∀ i, i < 3 → g (y + 1 + i) = some (im_A i)) → (∀ q, q < y ∨ y + 37 ≤ q → g q = g0 q) → g y = some (.inl (k_Model, [.int 0, .ref (y + 1), .ref (y + 2), .ref (y + 3), .null, .null, .null, .int 0, .null, .null, .null, .null, .null, .null, .null, .null, .int 0, .null, .null, .null, .null, .null, .int 0, .null, .null, .null, .null, .null, .null, .null, .null, .null, .null, .null, .null, .null, .null, .int 0, .int 0, .null, .int 0, .null, .int 0, .int 0, .int 0, .int 0, .int 0, .int 0, .int 0, .int 0, .null])) → rv_V G m_Model_init 36 24195 (fun r σ' => r = none ∧ ∃ σ1 : rv_S, σ1.1 = y + 37 ∧ (∀ q, q < y ∨ y + 37 ≤ q → σ1.2 q = g0 q) ∧ MI σ1 σ' y (md y md0)) 25 [some (.ref y), none] [] (y + 4, g) 3 15 := by
  intro g h1 hf hy
  refine rv_V.run rv_gd_Model_init [32] 400 ?_
  refine ⟨5, by decide, by decide, by decide, by decide, by decide, ?_⟩
  refine Exists.intro _ (And.intro ((rv_up_n (by omega)).trans hy) (And.intro trivial ?_))
  exact im_p4 _ (im_step (j := 3) _ h1 hf (by omega)).1 (im_step (j := 3) _ h1 hf (by omega)).2.1 rv_up_s
set_option maxRecDepth 100000 in
theorem im_p2 {G : rv_G} {g0 : Nat → Option rv_E} {y : Nat} : ∀ g : Nat → Option rv_E, (∀ i, i < 2 → g (y + 1 + i) = some (im_A i)) → (∀ q, q < y ∨ y + 37 ≤ q → g q = g0 q) → g y = some (.inl (k_Model, [.int 0, .ref (y + 1), .ref (y + 2), .null, .null, .null, .null, .int 0, .null, .null, .null, .null, .null, .null, .null, .null, .int 0, .null, .null, .null, .null, .null, .int 0, .null, .null, .null, .null, .null, .null, .null, .null, .null, .null, .null, .null, .null, .null, .int 0, .int 0, .null, .int 0, .null, .int 0, .int 0, .int 0, .int 0, .int 0, .int 0, .int 0, .int 0, .null])) → rv_V G m_Model_init 36 24195 (fun r σ' => r = none ∧ ∃ σ1 : rv_S, σ1.1 = y + 37 ∧ (∀ q, q < y ∨ y + 37 ≤ q → σ1.2 q = g0 q) ∧ MI σ1 σ' y (md y md0)) 18 [some (.ref y), none] [] (y + 3, g) 2 10 := by
  intro g h1 hf hy
  refine rv_V.run rv_gd_Model_init [25] 400 ?_
  refine ⟨5, by decide, by decide, by decide, by decide, by decide, ?_⟩
  refine Exists.intro _ (And.intro ((rv_up_n (by omega)).trans hy) (And.intro trivial ?_))
  exact im_p3 _ (im_step (j := 2) _ h1 hf (by omega)).1 (im_step (j := 2) _ h1 hf (by omega)).2.1 rv_up_s
set_option maxRecDepth 100000 in
theorem im_p1 {G : rv_G} {g0 : Nat → Option rv_E} {y : Nat} : ∀ g : Nat → Option rv_E, (∀ i, i < 1 → g (y + 1 + i) = some (im_A i)) → (∀ q, q < y ∨ y + 37 ≤ q → g q = g0 q) → g y = some (.inl (k_Model, [.int 0, .ref (y + 1), .null, .null, .null, .null, .null, .int 0, .null, .null, .null, .null, .null, .null, .null, .null, .int 0, .null, .null, .null, .null, .null, .int 0, .null, .null, .null, .null, .null, .null, .null, .null, .null, .null, .null, .null, .null, .null, .int 0, .int 0, .null, .int 0, .null, .int 0, .int 0, .int 0, .int 0, .int 0, .int 0, .int 0, .int 0, .null])) → rv_V G m_Model_init 36 24195 (fun r σ' => r = none ∧ ∃ σ1 : rv_S, σ1.1 = y + 37 ∧ (∀ q, q < y ∨ y + 37 ≤ q → σ1.2 q = g0 q) ∧ MI σ1 σ' y (md y md0)) 11 [some (.ref y), none] [] (y + 2, g) 1 5 := by
  intro g h1 hf hy
  refine rv_V.run rv_gd_Model_init [18] 400 ?_
  refine ⟨5, by decide, by decide, by decide, by decide, by decide, ?_⟩
  refine Exists.intro _ (And.intro ((rv_up_n (by omega)).trans hy) (And.intro trivial ?_))
  exact im_p2 _ (im_step (j := 1) _ h1 hf (by omega)).1 (im_step (j := 1) _ h1 hf (by omega)).2.1 rv_up_s
set_option maxRecDepth 100000 in
theorem im_p0 {G : rv_G} {g0 : Nat → Option rv_E} {y : Nat} : ∀ g : Nat → Option rv_E, (∀ i, i < 0 → g (y + 1 + i) = some (im_A i)) → (∀ q, q < y ∨ y + 37 ≤ q → g q = g0 q) → g y = some (.inl (k_Model, [.int 0, .null, .null, .null, .null, .null, .null, .int 0, .null, .null, .null, .null, .null, .null, .null, .null, .int 0, .null, .null, .null, .null, .null, .int 0, .null, .null, .null, .null, .null, .null, .null, .null, .null, .null, .null, .null, .null, .null, .int 0, .int 0, .null, .int 0, .null, .int 0, .int 0, .int 0, .int 0, .int 0, .int 0, .int 0, .int 0, .null])) → rv_V G m_Model_init 36 24195 (fun r σ' => r = none ∧ ∃ σ1 : rv_S, σ1.1 = y + 37 ∧ (∀ q, q < y ∨ y + 37 ≤ q → σ1.2 q = g0 q) ∧ MI σ1 σ' y (md y md0)) 4 [some (.ref y), none] [] (y + 1, g) 0 0 := by
  intro g h1 hf hy
  refine rv_V.run rv_gd_Model_init [11] 400 ?_
  refine ⟨5, by decide, by decide, by decide, by decide, by decide, ?_⟩
  refine Exists.intro _ (And.intro ((rv_up_n (by omega)).trans hy) (And.intro trivial ?_))
  exact im_p1 _ (im_step (j := 0) _ h1 hf (by omega)).1 (im_step (j := 0) _ h1 hf (by omega)).2.1 rv_up_s
set_option maxRecDepth 100000 in
theorem rt_init {G : rv_G} {g0 : Nat → Option rv_E} (y : Nat) (hy : g0 y = some (.inl (k_Model, rv_df k_Model))) : rv_Ct G i_Model_init 36 24195 [.ref y] (y + 1, g0) (fun r σ' => r = none ∧ ∃ σ1 : rv_S, σ1.1 = y + 37 ∧ (∀ q, q < y ∨ y + 37 ≤ q → σ1.2 q = g0 q) ∧ MI σ1 σ' y (md y md0)) := by
  refine rv_ct (M := m_Model_init) rfl (by decide) rfl rfl ?_
  refine rv_V.run rv_gd_Model_init [4] 400 ?_
  exact im_p0 g0 (fun i hi => absurd hi (by omega)) (fun q _ => rfl) hy
