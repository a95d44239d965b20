/-! THE LOG OF ROWS, by keys and times -/
/-- a row: its source's address, key, time, number, whether it was used -/
abbrev Rd : Type := Nat × Int32 × Int32 × Int32 × Bool
def oR (d : Rd) : rv_E := oRow d.1 d.2.1 d.2.2.1 d.2.2.2.1 d.2.2.2.2
def PRL (g : Nat → Option rv_E) (rl n : Nat) (ra : Nat → Nat) (rd : Nat → Rd) : Prop := g rl = some (oRowLog (rl + 1) (nI n)) ∧ (∃ f : Nat → Option Nat, g (rl + 1) = some (rv_aO RX4 300 f) ∧ ∀ j, j < n → f j = some (ra j)) ∧ (∀ j, j < n → g (ra j) = some (oR (rd j)) ∧ rl + 1 < ra j) ∧ n ≤ 300
/-- all cells lie below the next address -/
def rv_bd (σ : rv_S) : Prop := ∀ (a : Nat) (y : rv_E), σ.2 a = some y → a < σ.1
def rv_insf {α : Type} (f : Nat → α) (q : Nat) (v : α) : Nat → α := fun j => if j < q then f j else if j = q then v else f (j - 1)
def raft (d : Rd) (k t : Int32) : Bool := rv_after d.2.1 d.2.2.1 k t
set_option maxRecDepth 100000 in
theorem lp_rowadd {G : rv_G} {rl n src : Nat} {ra : Nat → Nat} {rd : Nat → Rd} (k t v : Int32) (u : Bool) (hn : n < 300) : ∀ (q : Nat) (vq : Int32) (f : Nat → Option Nat) (σ : rv_S), vq = nI q → q ≤ n → σ.2 rl = some (oRowLog (rl + 1) (nI n)) → σ.2 (rl + 1) = some (rv_aO RX4 300 f) → (∀ j, j < q → f j = some (ra j)) → (∀ j, j < n → σ.2 (ra j) = some (oR (rd j)) ∧ rl + 1 < ra j) → rl + 1 < σ.1 →
    rv_V G m_RowLog_add 1 5 (fun r σ' => r = none ∧ σ'.1 = σ.1 + 1 ∧ ∃ q', q' ≤ q ∧ (∀ j, q' ≤ j → j < q → raft (rd j) k t = true) ∧ (q' = 0 ∨ raft (rd (q' - 1)) k t = false) ∧ σ'.2 = rv_up (rv_up (rv_up σ.2 σ.1 (oRow src k t v u)) (rl + 1) (rv_aO RX4 300 (rv_shf f q' q σ.1))) rl (oRowLog (rl + 1) (nI (n + 1)))) 19 [some (.ref rl), some (.ref src), some (.int k), some (.int t), some (.int v), some (.int (rv_b u)), some (.int vq)] [] σ 0 0 := by
  intro q
  induction q with
  | zero =>
    intro vq f σ eq h1 hx hf hfe hr hb
    refine rv_V.run rv_gd_RowLog_add [] 400 ?_
    refine And.intro (fun c1 => ?_) (fun c1 => ?_)
    · refine Exists.intro _ (And.intro hx ?_)
      refine And.intro (by decide) (And.intro (by decide) ?_)
      refine ⟨_, _, _, ct_Row_init σ.1 src k t v u rv_up_s, by decide, by decide, rfl, ?_⟩
      rintro _ _ ⟨rfl, rfl⟩
      rw [rv_up_up]
      refine ⟨_, _, _, _, _, rv_up_s, rfl, (rv_up_n (by omega)).trans hf, by decide, (by rw [eq]; exact vp_in_nI (by omega) (by omega)), ?_⟩
      refine Exists.intro _ (And.intro ((rv_up_n (by omega)).trans ((rv_up_n (by omega)).trans hx)) ?_)
      refine Exists.intro _ (And.intro ((rv_up_n (by omega)).trans ((rv_up_n (by omega)).trans hx)) (And.intro trivial ?_))
      refine ⟨rfl, rfl, 0, Nat.le_refl _, fun j h2 h3 => absurd h3 (by omega), Or.inl rfl, ?_⟩
      rw [rv_shf_0, ← nI_1, show vq.toNatClampNeg = 0 by rw [eq]; exact nI_clamp (by omega)]
      rfl
    · exact absurd (by rw [eq]; decide) c1
  | succ q ih =>
    intro vq f σ eq h1 hx hf hfe hr hb
    have hq1 : vq - 1 = nI q := by rw [eq]; exact nI_pred q
    have hcl : vq.toNatClampNeg = q + 1 := by rw [eq]; exact nI_clamp (by omega)
    obtain ⟨hrq, hrl⟩ := hr q (by omega)
    have fin : raft (rd q) k t = false → rv_V G m_RowLog_add 1 5 (fun r σ' => r = none ∧ σ'.1 = σ.1 + 1 ∧ ∃ q', q' ≤ q + 1 ∧ (∀ j, q' ≤ j → j < q + 1 → raft (rd j) k t = true) ∧ (q' = 0 ∨ raft (rd (q' - 1)) k t = false) ∧ σ'.2 = rv_up (rv_up (rv_up σ.2 σ.1 (oRow src k t v u)) (rl + 1) (rv_aO RX4 300 (rv_shf f q' (q + 1) σ.1))) rl (oRowLog (rl + 1) (nI (n + 1)))) 63 [some (.ref rl), some (.ref src), some (.int k), some (.int t), some (.int v), some (.int (rv_b u)), some (.int vq)] [] σ 0 0 := by
      intro hno
      refine rv_V.run rv_gd_RowLog_add [] 400 ?_
      refine Exists.intro _ (And.intro hx ?_)
      refine And.intro (by decide) (And.intro (by decide) ?_)
      refine ⟨_, _, _, ct_Row_init σ.1 src k t v u rv_up_s, by decide, by decide, rfl, ?_⟩
      rintro _ _ ⟨rfl, rfl⟩
      rw [rv_up_up]
      refine ⟨_, _, _, _, _, rv_up_s, rfl, (rv_up_n (by omega)).trans hf, by decide, (by rw [eq]; exact vp_in_nI (by omega) (by omega)), ?_⟩
      refine Exists.intro _ (And.intro ((rv_up_n (by omega)).trans ((rv_up_n (by omega)).trans hx)) ?_)
      refine Exists.intro _ (And.intro ((rv_up_n (by omega)).trans ((rv_up_n (by omega)).trans hx)) (And.intro trivial ?_))
      refine ⟨rfl, rfl, q + 1, Nat.le_refl _, fun j h2 h3 => absurd h3 (by omega), Or.inr hno, ?_⟩
      rw [rv_shf_0, ← nI_1, hcl]
      rfl
    refine rv_V.run rv_gd_RowLog_add [19, 63] 400 ?_
    refine And.intro (fun c1 => ?_) (fun c1 => ?_)
    · exact absurd c1 (by rw [eq]; exact nI_nle (by omega) (by omega))
    refine Exists.intro _ (And.intro hx ?_)
    refine ⟨_, _, _, some (ra q), hf, by decide, (by rw [hq1]; exact vp_in_nI (by omega) (by omega)), (by rw [hq1, nI_clamp (by omega)]; exact hfe q (by omega)), ?_⟩
    refine And.intro (Exists.intro _ hrq) ?_
    refine ⟨_, _, _, ct_standsAfter _ _ _ _ _ _ k t hrq, by decide, by decide, rfl, ?_⟩
    rintro _ σ ⟨rfl, rfl⟩
    refine And.intro (fun c2 => ?_) (fun c2 => ?_)
    · exact fin (rv_b0.mp c2)
    · refine Exists.intro _ (And.intro hx ?_)
      refine Exists.intro _ (And.intro hx ?_)
      refine ⟨_, _, _, some (ra q), hf, by decide, (by rw [hq1]; exact vp_in_nI (by omega) (by omega)), (by rw [hq1, nI_clamp (by omega)]; exact hfe q (by omega)), ?_⟩
      refine ⟨_, _, _, _, _, hrq, rfl, hf, by decide, (by rw [eq]; exact vp_in_nI (by omega) (by omega)), ?_⟩
      refine (ih (vq + (-1)) (va_up f vq.toNatClampNeg (some (ra q))) (σ.1, rv_up σ.2 (rl + 1) (rv_aO RX4 300 (va_up f vq.toNatClampNeg (some (ra q))))) (by rw [eq]; exact pk_m1 q) (by omega) ((rv_up_n (by omega)).trans hx) rv_up_s (fun j hj => (va_up_ne _ _ (by rw [hcl]; omega)).trans (hfe j (by omega))) (fun j hj => ⟨(rv_up_n (by have := (hr j hj).2; omega)).trans (hr j hj).1, (hr j hj).2⟩) hb).mono ?_
      rintro r σ' ⟨k1, k2, q', k3, k4, k5, k6⟩
      refine ⟨k1, k2, q', by omega, fun j h2 h3 => ?_, k5, ?_⟩
      · rcases Nat.lt_or_ge j q with z | z
        · exact k4 j h2 z
        · obtain rfl : j = q := by omega
          exact rv_bn c2
      · rw [k6, hcl]
        dsimp only
        rw [rv_up_comm (a := rl + 1) (b := σ.1) (by omega), rv_up_up, show rv_shf (va_up f (q + 1) (some (ra q))) q' q σ.1 = rv_shf f q' (q + 1) σ.1 from rv_shf_1 f q' (q + 1) σ.1 (ra q) (by omega) (hfe q (by omega))]
set_option maxRecDepth 100000 in
theorem ct_rowadd {G : rv_G} {σ : rv_S} {rl n src : Nat} {ra : Nat → Nat} {rd : Nat → Rd} (h : PRL σ.2 rl n ra rd) (hn : n < 300) (hb : rv_bd σ) (k t v : Int32) (u : Bool) :
    rv_Ct G i_RowLog_add 1 5 [.ref rl, .ref src, .int k, .int t, .int v, .int (rv_b u)] σ (fun r σ' => r = none ∧ σ'.1 = σ.1 + 1 ∧ (∃ q', q' ≤ n ∧ (∀ j, q' ≤ j → j < n → raft (rd j) k t = true) ∧ (q' = 0 ∨ raft (rd (q' - 1)) k t = false) ∧ PRL σ'.2 rl (n + 1) (rv_insf ra q' σ.1) (rv_insf rd q' (src, k, t, v, u))) ∧ rv_only (fun a => a = rl ∨ a = rl + 1 ∨ a = σ.1) σ.2 σ'.2) := by
  obtain ⟨hx, ⟨f, hf, hfe⟩, hr, hn2⟩ := h
  have hb1 := hb _ _ hf
  refine rv_ct (M := m_RowLog_add) rfl (by decide) rfl rfl ?_
  refine rv_V.run rv_gd_RowLog_add [19] 400 ?_
  refine Exists.intro _ (And.intro hx ?_)
  refine Exists.intro _ (And.intro hx ?_)
  refine Exists.intro _ (Exists.intro _ (Exists.intro _ (And.intro hf ?_)))
  refine And.intro (fun c1 => ?_) (fun c1 => ?_)
  · refine Exists.intro _ (And.intro hx ?_)
    refine (lp_rowadd (ra := ra) (rd := rd) k t v u hn n _ f σ rfl (Nat.le_refl _) hx hf hfe hr hb1).mono ?_
    rintro r σ' ⟨k1, k2, q', k3, k4, k5, k6⟩
    refine ⟨k1, k2, ⟨q', k3, k4, k5, ?_⟩, ?_⟩
    · rw [k6]
      refine ⟨rv_up_s, ⟨_, (rv_up_n (by omega)).trans rv_up_s, fun j hj => ?_⟩, fun j hj => ?_, by omega⟩
      · unfold rv_shf rv_insf
        by_cases h1 : j = q'
        · rw [if_pos h1, if_neg (by omega), if_pos h1]
        · rw [if_neg h1]
          by_cases h2 : j < q'
          · rw [if_neg (by omega), if_pos h2]; exact hfe j (by omega)
          · rw [if_pos (by omega), if_neg h2, if_neg h1]; exact hfe _ (by omega)
      · have key : ∀ i, i < n → (rv_up (rv_up (rv_up σ.2 σ.1 (oRow src k t v u)) (rl + 1) (rv_aO RX4 300 (rv_shf f q' n σ.1))) rl (oRowLog (rl + 1) (nI (n + 1)))) (ra i) = some (oR (rd i)) ∧ rl + 1 < ra i := fun i hi => ⟨(rv_up_n (by have := (hr i hi).2; omega)).trans ((rv_up_n (by have := (hr i hi).2; omega)).trans ((rv_up_n (by have := hb _ _ (hr i hi).1; omega)).trans (hr i hi).1)), (hr i hi).2⟩
        unfold rv_insf
        by_cases h2 : j < q'
        · simp only [if_pos h2]
          exact key j (by omega)
        · by_cases h1 : j = q'
          · simp only [if_neg h2, if_pos h1]
            exact ⟨(rv_up_n (by omega)).trans ((rv_up_n (by omega)).trans rv_up_s), hb1⟩
          · simp only [if_neg h2, if_neg h1]
            exact key (j - 1) (by omega)
    · rw [k6]
      exact ((rv_only.up (Or.inr (Or.inr rfl))).tr (rv_only.up (Or.inr (Or.inl rfl)))).tr (rv_only.up (Or.inl rfl))
  · exact absurd ((nI_ltI (b := 300) (by omega) (by omega)).mpr hn) c1
