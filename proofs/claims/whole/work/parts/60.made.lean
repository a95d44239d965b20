/-! THE CLASS: the list of windows and the object itself are made -/
def wd0 : Wd := ((0, 0, 0, 0), (false, false), (0, 0, 0, 0), (0, 0, 0, 0))
set_option maxRecDepth 100000 in
theorem lp_WL_init {G : rv_G} {wl : Nat} : ∀ (t i : Nat) (vi : Int32) (f : Nat → Option Nat) (σ : rv_S), vi = nI i → i + t = 120 → σ.1 = wl + 2 + 3 * i → σ.2 wl = some (oWL (wl + 1) 0) → σ.2 (wl + 1) = some (rv_aO RX8 120 f) → (∀ j, j < i → f j = some (wa wl j)) → (∀ j, j < i → PW σ.2 (wa wl j) wd0) →
    rv_V G m_WindowList_init 361 2040 (fun r σ' => r = none ∧ σ'.1 = wl + 362 ∧ PWL σ'.2 wl 0 (fun j => j) (fun _ => wd0) ∧ ∀ q, q < wl ∨ wl + 362 ≤ q → σ'.2 q = σ.2 q) 20 [some (.ref wl), some (.int vi)] [] σ (1 + 3 * i) (120 + 16 * i) := by
  intro t
  induction t with
  | zero =>
    intro i vi f σ ei h1 e1 hx hf hfe hw
    refine rv_V.run rv_gd_WindowList_init [20] 400 ?_
    refine Exists.intro _ (And.intro hx ?_)
    refine Exists.intro _ (Exists.intro _ (Exists.intro _ (And.intro hf ?_)))
    refine And.intro (fun c1 => ?_) (fun c1 => ?_)
    · refine ⟨rfl, by omega, ⟨hx, ⟨f, hf, fun j hj => hfe j (by omega)⟩, fun j hj => hw j (by omega), ⟨fun j hj => hj, fun a b _ _ h => h⟩, by omega⟩, fun q hq => rfl⟩
    · exact absurd ((rv_leN (b := i) rfl ei (by omega) (by omega)).mpr (by omega)) c1
  | succ t ih =>
    intro i vi f σ ei h1 e1 hx hf hfe hw
    refine rv_V.run rv_gd_WindowList_init [20] 400 ?_
    refine Exists.intro _ (And.intro hx ?_)
    refine Exists.intro _ (Exists.intro _ (Exists.intro _ (And.intro hf ?_)))
    refine And.intro (fun c1 => ?_) (fun c1 => ?_)
    · exact absurd ((rv_leN (b := i) rfl ei (by omega) (by omega)).mp c1) (by omega)
    refine Exists.intro _ (And.intro hx ?_)
    refine And.intro (by omega) (And.intro (by show 120 + 16 * i + 8 ≤ 2040; omega) ?_)
    refine ⟨_, _, _, ct_Window_init (σ := (σ.1 + 1, rv_up σ.2 σ.1 (.inl (k_Window, rv_df k_Window)))) σ.1 rv_up_s (by dsimp only; omega), by omega, by show 120 + 16 * i + 8 + 8 ≤ 2040; omega, rfl, ?_⟩
    rintro _ σ2 ⟨rfl, ⟨g1, g2⟩, k1, k2, k3⟩
    dsimp only at g1 g2 k1 k2 k3
    have old : ∀ q, q < σ.1 → σ2.2 q = σ.2 q := fun q hq => (g2 q (by omega) (by omega)).trans (rv_up_n (by omega))
    refine ⟨_, _, _, _, _, k1, rfl, (old _ (by omega)).trans hf, by decide, (by rw [ei]; exact vp_in_nI (by omega) (by omega)), ?_⟩
    have hcl : vi.toNatClampNeg = i := by rw [ei]; exact nI_clamp (by omega)
    have r1 := ih (i + 1) (vi + 1) (va_up f vi.toNatClampNeg (some σ.1)) (σ2.1, rv_up σ2.2 (wl + 1) (rv_aO RX8 120 (va_up f vi.toNatClampNeg (some σ.1)))) (by rw [ei]; exact nI_1 i) (by omega) (by dsimp only; omega) ((rv_up_n (by omega)).trans ((old _ (by omega)).trans hx)) rv_up_s
      (fun j hj => by
        rw [hcl]
        by_cases hji : j = i
        · subst hji; rw [va_up_self]; rw [e1]
        · rw [va_up_ne _ _ hji]; exact hfe j (by omega))
      (fun j hj => by
        have ew : wa wl j = wl + 2 + 3 * j := rfl
        by_cases hji : j = i
        · subst hji
          refine ⟨(rv_up_n (by omega)).trans ?_, (rv_up_n (by omega)).trans ?_, (rv_up_n (by omega)).trans ?_⟩
          · rw [show wa wl j = σ.1 from e1.symm]; exact k1
          · rw [show wa wl j = σ.1 from e1.symm]; exact k2
          · rw [show wa wl j = σ.1 from e1.symm]; exact k3
        · obtain ⟨a1, a2, a3⟩ := hw j (by omega)
          exact ⟨(rv_up_n (by omega)).trans ((old _ (by omega)).trans a1), (rv_up_n (by omega)).trans ((old _ (by omega)).trans a2), (rv_up_n (by omega)).trans ((old _ (by omega)).trans a3)⟩)
    rw [show 1 + 3 * i + 1 + 2 = 1 + 3 * (i + 1) by omega, show 120 + 16 * i + (rv_df k_Window).length + 8 = 120 + 16 * (i + 1) by show 120 + 16 * i + 8 + 8 = _; omega]
    refine r1.mono ?_
    rintro r σ' ⟨m1, m2, m3, m4⟩
    exact ⟨m1, m2, m3, fun q hq => (m4 q hq).trans ((rv_up_n (by omega)).trans ((g2 q (by omega) (by omega)).trans (rv_up_n (by omega))))⟩
set_option maxRecDepth 100000 in
theorem ct_WL_init {G : rv_G} {σ : rv_S} (wl : Nat) (hx : σ.2 wl = some (.inl (k_WindowList, rv_df k_WindowList))) (hl : σ.1 = wl + 1) : rv_Ct G i_WindowList_init 361 2040 [.ref wl] σ (fun r σ' => r = none ∧ σ'.1 = wl + 362 ∧ PWL σ'.2 wl 0 (fun j => j) (fun _ => wd0) ∧ ∀ q, q < wl ∨ wl + 362 ≤ q → σ'.2 q = σ.2 q) := by
  refine rv_ct (M := m_WindowList_init) rfl (by decide) rfl rfl ?_
  refine rv_V.run rv_gd_WindowList_init [20] 400 ?_
  refine ⟨_, 120, rfl, by decide, by decide, by decide, by decide, by decide, ?_⟩
  refine Exists.intro _ (And.intro ((rv_up_n (by omega)).trans hx) (And.intro trivial ?_))
  refine Exists.intro _ (And.intro rv_up_s (And.intro trivial ?_))
  rw [rv_up_up]
  have z := (lp_WL_init (G := G) (wl := wl) 120 0 0 (fun _ => none) (σ.1 + 1, rv_up (rv_up σ.2 σ.1 (rv_aO RX8 120 (fun _ => none))) wl (oWL (wl + 1) 0)) rfl (by omega) (by dsimp only; omega) rv_up_s ((rv_up_n (by omega)).trans (by rw [hl]; exact rv_up_s)) (fun j hj => absurd hj (by omega)) (fun j hj => absurd hj (by omega))).mono (Rt' := fun r σ' => r = none ∧ σ'.1 = wl + 362 ∧ PWL σ'.2 wl 0 (fun j => j) (fun _ => wd0) ∧ ∀ q, q < wl ∨ wl + 362 ≤ q → σ'.2 q = σ.2 q) (by
    rintro r σ' ⟨m1, m2, m3, m4⟩
    exact ⟨m1, m2, m3, fun q hq => (m4 q hq).trans ((rv_up_n (by omega)).trans (rv_up_n (by omega)))⟩)
  rw [show (oWL (wl + 1) 0 : rv_E) = .inl (k_WindowList, [.ref σ.1, .int 0]) by rw [hl]; rfl] at z
  exact z
