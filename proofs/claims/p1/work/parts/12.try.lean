set_option maxRecDepth 100000 in
theorem ct_isWithin {G : rv_G} {σ : rv_S} (n a b : Int32) : rv_Ct G i_Late_isWithin 0 0 [.int n, .int a, .int b] σ (fun r σ' => σ' = σ ∧ r = some (.int (if a ≤ n ∧ n ≤ b then 1 else 0))) := by
  refine rv_ct (M := m_Late_isWithin) rfl (by decide) rfl rfl ?_
  refine rv_V.run rv_gd_Late_isWithin [] 20 ?_
  refine And.intro (fun h => ?_) (fun h => ?_)
  · refine And.intro (Or.inl rfl) ⟨rfl, ?_⟩
    rw [if_neg (fun q => ?_)]
    exact absurd h (by rw [Int32.not_lt]; exact q.1)
  · refine And.intro (fun h2 => ?_) (fun h2 => ?_)
    · refine And.intro (Or.inl rfl) ⟨rfl, ?_⟩
      rw [if_neg (fun q => ?_)]
      exact absurd h2 (by rw [Int32.not_lt]; exact q.2)
    · refine And.intro (Or.inr rfl) ⟨rfl, ?_⟩
      rw [if_pos ⟨Int32.not_lt.mp h, Int32.not_lt.mp h2⟩]
set_option maxRecDepth 100000 in
theorem ct_hasReached {G : rv_G} {σ : rv_S} (x : Nat) (n k s st l r m e : Int32) (hx : σ.2 x = some (.inl (k_Operator, [.int n, .int k, .int s, .int st, .int l, .int r, .int m]))) : rv_Ct G i_Operator_hasReached 0 0 [.ref x, .int e] σ (fun r σ' => σ' = σ ∧ r = some (.int (if e ≤ m then 1 else 0))) := by
  refine rv_ct (M := m_Operator_hasReached) rfl (by decide) rfl rfl ?_
  refine rv_V.run rv_gd_Operator_hasReached [] 20 ?_
  refine Exists.intro _ (And.intro hx ?_)
  refine And.intro (fun h => ?_) (fun h => ?_)
  · exact And.intro (Or.inl rfl) ⟨rfl, by rw [if_neg (Int32.not_le.mpr h)]⟩
  · exact And.intro (Or.inr rfl) ⟨rfl, by rw [if_pos (Int32.not_lt.mp h)]⟩
set_option maxRecDepth 100000 in
theorem ct_Ring_clear {G : rv_G} {σ : rv_S} (x : Nat) (rm w el la sz : Int32) (c : Nat) (hx : σ.2 x = some (.inl (k_Ring, [.int rm, .int w, .ref c, .int el, .int la, .int sz]))) : rv_Ct G i_Ring_clear 0 0 [.ref x] σ (fun r σ' => r = none ∧ σ' = (σ.1, rv_up σ.2 x (.inl (k_Ring, [.int rm, .int w, .ref c, .int el, .int la, .int 0])))) := by
  refine rv_ct (M := m_Ring_clear) rfl (by decide) rfl rfl ?_
  refine rv_V.run rv_gd_Ring_clear [] 20 ?_
  refine Exists.intro _ (And.intro hx (And.intro trivial ?_))
  exact ⟨rfl, rfl⟩
