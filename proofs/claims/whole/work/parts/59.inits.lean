/-! THE CLASS: constructors -/
def rv_grown (x k : Nat) (σ σ' : rv_S) : Prop := σ'.1 = σ.1 + k ∧ ∀ q, q ≠ x → (q < σ.1 ∨ σ.1 + k ≤ q) → σ'.2 q = σ.2 q
set_option maxRecDepth 100000 in
theorem ct_Window_init {G : rv_G} {σ : rv_S} (x : Nat) (hx : σ.2 x = some (.inl (k_Window, rv_df k_Window))) (hl : x < σ.1) : rv_Ct G i_Window_init 2 8 [.ref x] σ (fun r σ' => r = none ∧ rv_grown x 2 σ σ' ∧ σ'.2 x = some (oWin 0 0 0 0 false false σ.1 (σ.1 + 1)) ∧ σ'.2 σ.1 = some (oTally 0 0 0 0) ∧ σ'.2 (σ.1 + 1) = some (oTally 0 0 0 0)) := by
  refine rv_ct (M := m_Window_init) rfl (by decide) rfl rfl ?_
  refine rv_V.run rv_gd_Window_init [] 400 ?_
  refine Exists.intro _ (And.intro hx (And.intro trivial ?_))
  refine Exists.intro _ (And.intro rv_up_s (And.intro trivial ?_))
  rw [rv_up_up]
  refine Exists.intro _ (And.intro rv_up_s (And.intro trivial ?_))
  rw [rv_up_up]
  refine Exists.intro _ (And.intro rv_up_s (And.intro trivial ?_))
  rw [rv_up_up]
  refine Exists.intro _ (And.intro rv_up_s (And.intro (Or.inl rfl) ?_))
  rw [rv_up_up]
  refine Exists.intro _ (And.intro rv_up_s (And.intro (Or.inl rfl) ?_))
  rw [rv_up_up]
  refine And.intro (by decide) (And.intro (by decide) ?_)
  refine ⟨_, _, _, ct_Tally_init σ.1 rv_up_s, by decide, by decide, rfl, ?_⟩
  rintro _ _ ⟨rfl, rfl⟩
  rw [rv_up_up]
  refine Exists.intro _ (And.intro ((rv_up_n (by omega)).trans rv_up_s) (And.intro trivial ?_))
  rw [rv_up_comm (a := σ.1) (b := x) (by omega), rv_up_up]
  refine And.intro (by decide) (And.intro (by decide) ?_)
  refine ⟨_, _, _, ct_Tally_init (σ.1 + 1) rv_up_s, by decide, by decide, rfl, ?_⟩
  rintro _ _ ⟨rfl, rfl⟩
  rw [rv_up_up]
  refine Exists.intro _ (And.intro ((rv_up_n (by omega)).trans ((rv_up_n (by omega)).trans rv_up_s)) (And.intro trivial ?_))
  refine ⟨rfl, ⟨rfl, fun q h1 h2 => ?_⟩, rv_up_s, (rv_up_n (by omega)).trans ((rv_up_n (by omega)).trans rv_up_s), (rv_up_n (by omega)).trans rv_up_s⟩
  exact (rv_up_n h1).trans ((rv_up_n (by omega)).trans ((rv_up_n (by omega)).trans (rv_up_n h1)))
set_option maxRecDepth 100000 in
theorem ct_RowLog_init {G : rv_G} {σ : rv_S} (x : Nat) (hx : σ.2 x = some (.inl (k_RowLog, rv_df k_RowLog))) (hl : x < σ.1) : rv_Ct G i_RowLog_init 1 300 [.ref x] σ (fun r σ' => r = none ∧ rv_grown x 1 σ σ' ∧ σ'.2 x = some (oRowLog σ.1 0) ∧ σ'.2 σ.1 = some (rv_aO RX4 300 (fun _ => none))) := by
  refine rv_ct (M := m_RowLog_init) rfl (by decide) rfl rfl ?_
  refine rv_V.run rv_gd_RowLog_init [] 400 ?_
  refine ⟨_, 300, rfl, by decide, by decide, by decide, by decide, by decide, ?_⟩
  refine Exists.intro _ (And.intro ((rv_up_n (by omega)).trans hx) (And.intro trivial ?_))
  refine Exists.intro _ (And.intro rv_up_s (And.intro trivial ?_))
  rw [rv_up_up]
  exact ⟨rfl, ⟨rfl, fun q h1 h2 => (rv_up_n h1).trans (rv_up_n (by omega))⟩, rv_up_s, (rv_up_n (by omega)).trans rv_up_s⟩
set_option maxRecDepth 100000 in
theorem ct_Ring_init {G : rv_G} {σ : rv_S} (x R w : Nat) (hx : σ.2 x = some (.inl (k_Ring, rv_df k_Ring))) (hl : x < σ.1) (hR : 1 ≤ R ∧ R ≤ 400) (hw : 1 ≤ w ∧ w ≤ 9) : rv_Ct G i_Ring_init 1 (R * w) [.ref x, .int (nI R), .int (nI w)] σ (fun r σ' => r = none ∧ rv_grown x 1 σ σ' ∧ σ'.2 x = some (oRing (nI R) (nI w) σ.1 0 0 0) ∧ σ'.2 σ.1 = some (rv_aJ (R * w) (fun _ => 0))) := by
  have hm : ∀ a, 1 ≤ a → a ≤ 400 → rv_max 1 (nI a) = nI a := fun a h1 h2 => by
    unfold rv_max
    by_cases h : (1 : Int32) < nI a
    · rw [if_pos h]
    · rw [if_neg h]
      have : ¬ 1 < a := fun z => h ((nI_ltI (a := 1) (by omega) (by omega)).mpr z)
      obtain rfl : a = 1 := by omega
      rfl
  have hRw : R * w ≤ 400 * 9 := Nat.mul_le_mul hR.2 hw.2
  refine rv_ct (M := m_Ring_init) rfl (by decide) rfl rfl ?_
  refine rv_V.run rv_gd_Ring_init [] 400 ?_
  refine Exists.intro _ (And.intro hx (And.intro trivial ?_))
  refine Exists.intro _ (And.intro rv_up_s (And.intro trivial ?_))
  rw [rv_up_up]
  refine Exists.intro _ (And.intro rv_up_s (And.intro trivial ?_))
  rw [rv_up_up]
  refine ⟨_, _, _, ct_max 1 (nI R), by decide, Nat.zero_le _, rfl, ?_⟩
  rintro _ _ ⟨rfl, rfl⟩
  rw [hm R hR.1 hR.2]
  refine Exists.intro _ (And.intro rv_up_s (And.intro trivial ?_))
  rw [rv_up_up]
  refine ⟨_, _, _, ct_max 1 (nI w), by decide, Nat.zero_le _, rfl, ?_⟩
  rintro _ _ ⟨rfl, rfl⟩
  rw [hm w hw.1 (by omega)]
  refine Exists.intro _ (And.intro rv_up_s (And.intro trivial ?_))
  rw [rv_up_up]
  refine Exists.intro _ (And.intro rv_up_s ?_)
  refine Exists.intro _ (And.intro rv_up_s ?_)
  refine ⟨R * w, by rw [nI_mul]; exact nI_clamp (by omega), by rw [nI_mul]; exact nI_pos (by omega), ?_, by decide, by omega, ?_⟩
  · show R * w * 8 ≤ 536870912
    omega
  refine Exists.intro _ (And.intro ((rv_up_n (by omega)).trans rv_up_s) (And.intro trivial ?_))
  exact ⟨rfl, ⟨rfl, fun q h1 h2 => (rv_up_n h1).trans ((rv_up_n (by omega)).trans (rv_up_n h1))⟩, rv_up_s, (rv_up_n (by omega)).trans rv_up_s⟩
def oOP (a : Nat) (n : Int32) : rv_E := .inl (k_OnePass, [.ref a, .int n])
set_option maxRecDepth 100000 in
theorem ct_OnePass_init {G : rv_G} {σ : rv_S} (x : Nat) (hx : σ.2 x = some (.inl (k_OnePass, rv_df k_OnePass))) (hl : x < σ.1) : rv_Ct G i_OnePass_init 1 16800 [.ref x] σ (fun r σ' => r = none ∧ rv_grown x 1 σ σ' ∧ σ'.2 x = some (oOP σ.1 0) ∧ σ'.2 σ.1 = some (rv_aJ 16800 (fun _ => 0))) := by
  refine rv_ct (M := m_OnePass_init) rfl (by decide) rfl rfl ?_
  refine rv_V.run rv_gd_OnePass_init [] 400 ?_
  refine ⟨16800, by decide, by decide, by decide, by decide, by decide, ?_⟩
  refine Exists.intro _ (And.intro ((rv_up_n (by omega)).trans hx) (And.intro trivial ?_))
  refine Exists.intro _ (And.intro rv_up_s (And.intro trivial ?_))
  rw [rv_up_up]
  exact ⟨rfl, ⟨rfl, fun q h1 h2 => (rv_up_n h1).trans (rv_up_n (by omega))⟩, rv_up_s, (rv_up_n (by omega)).trans rv_up_s⟩
