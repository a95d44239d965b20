/-! KEEPING A ROW ASIDE -/
set_option maxRecDepth 100000 in
theorem ct_keepAside {G : rv_G} {σ : rv_S} (x sa : Nat) (nop nsr ev bd rl dr : Int32) (nu : Int32) (ow : Nat) (pr : Int32) (en sp : Bool) (us as br fi : Int32) (k t v why : Int32) {s : Nat} {q : Nat → Nat → Int64} (hx : σ.2 x = some (oLate x nop nsr ev bd rl dr)) (hq : PR σ.2 (x + 370) (x + 371) 100 5 s q) (hsa : σ.2 sa = some (oSource nu ow pr en sp us as br fi)) (hd : x + 371 < sa) : rv_Ct G i_Late_keepAside 0 0 [.ref x, .ref sa, .int k, .int t, .int v, .int why] σ (fun r σ' => r = none ∧ σ'.1 = σ.1 ∧ PR σ'.2 (x + 370) (x + 371) 100 5 (rv_qn 100 s) (rv_qp 100 s q (rv_arec nu k t v why)) ∧ rv_only (fun q => q = x + 370 ∨ q = x + 371) σ.2 σ'.2) := by
  obtain ⟨e, la, f, he, hs, hr, hc, hf⟩ := hq
  refine rv_ct (M := m_Late_keepAside) rfl (by decide) rfl rfl ?_
  refine rv_V.run rv_gd_Late_keepAside [] 400 ?_
  refine Exists.intro _ (And.intro hx ?_)
  refine And.intro (Exists.intro _ hr) ?_
  refine ⟨_, _, _, ct_open_n _ 100 e s (nI 5) _ la he hs (by omega) hr, Nat.zero_le _, Nat.zero_le _, rfl, ?_⟩
  rintro _ _ ⟨rfl, rfl⟩
  refine Exists.intro _ (And.intro ((rv_up_n (by first | omega | (unfold wa; omega))).trans hx) ?_)
  refine Exists.intro _ (And.intro ((rv_up_n (by first | omega | (unfold wa; omega))).trans hsa) ?_)
  refine And.intro (Exists.intro _ rv_up_s) ?_
  refine ⟨_, _, _, ct_set_n _ 100 5 ((e + s) % 100) 0 _ _ _ _ _ (Nat.mod_lt _ (by omega)) (by omega) (by omega) rv_up_s ((rv_up_n (by first | omega | (unfold wa; omega))).trans hc), Nat.zero_le _, Nat.zero_le _, rfl, ?_⟩
  rintro _ _ ⟨rfl, rfl⟩
  refine Exists.intro _ (And.intro ((rv_up_n (by first | omega | (unfold wa; omega))).trans ((rv_up_n (by first | omega | (unfold wa; omega))).trans hx)) ?_)
  refine And.intro (Exists.intro _ ((rv_up_n (by first | omega | (unfold wa; omega))).trans rv_up_s)) ?_
  refine ⟨_, _, _, ct_set_n _ 100 5 ((e + s) % 100) 1 _ _ _ _ _ (Nat.mod_lt _ (by omega)) (by omega) (by omega) ((rv_up_n (by first | omega | (unfold wa; omega))).trans rv_up_s) rv_up_s, Nat.zero_le _, Nat.zero_le _, rfl, ?_⟩
  rintro _ _ ⟨rfl, rfl⟩
  rw [rv_up_up]
  refine Exists.intro _ (And.intro ((rv_up_n (by first | omega | (unfold wa; omega))).trans ((rv_up_n (by first | omega | (unfold wa; omega))).trans hx)) ?_)
  refine And.intro (Exists.intro _ ((rv_up_n (by first | omega | (unfold wa; omega))).trans rv_up_s)) ?_
  refine ⟨_, _, _, ct_set_n _ 100 5 ((e + s) % 100) 2 _ _ _ _ _ (Nat.mod_lt _ (by omega)) (by omega) (by omega) ((rv_up_n (by first | omega | (unfold wa; omega))).trans rv_up_s) rv_up_s, Nat.zero_le _, Nat.zero_le _, rfl, ?_⟩
  rintro _ _ ⟨rfl, rfl⟩
  rw [rv_up_up]
  refine Exists.intro _ (And.intro ((rv_up_n (by first | omega | (unfold wa; omega))).trans ((rv_up_n (by first | omega | (unfold wa; omega))).trans hx)) ?_)
  refine And.intro (Exists.intro _ ((rv_up_n (by first | omega | (unfold wa; omega))).trans rv_up_s)) ?_
  refine ⟨_, _, _, ct_set_n _ 100 5 ((e + s) % 100) 3 _ _ _ _ _ (Nat.mod_lt _ (by omega)) (by omega) (by omega) ((rv_up_n (by first | omega | (unfold wa; omega))).trans rv_up_s) rv_up_s, Nat.zero_le _, Nat.zero_le _, rfl, ?_⟩
  rintro _ _ ⟨rfl, rfl⟩
  rw [rv_up_up]
  refine Exists.intro _ (And.intro ((rv_up_n (by first | omega | (unfold wa; omega))).trans ((rv_up_n (by first | omega | (unfold wa; omega))).trans hx)) ?_)
  refine And.intro (Exists.intro _ ((rv_up_n (by first | omega | (unfold wa; omega))).trans rv_up_s)) ?_
  refine ⟨_, _, _, ct_set_n _ 100 5 ((e + s) % 100) 4 _ _ _ _ _ (Nat.mod_lt _ (by omega)) (by omega) (by omega) ((rv_up_n (by first | omega | (unfold wa; omega))).trans rv_up_s) rv_up_s, Nat.zero_le _, Nat.zero_le _, rfl, ?_⟩
  rintro _ _ ⟨rfl, rfl⟩
  rw [rv_up_up]
  -- path  ret None
  refine ⟨rfl, rfl, ?_, ?_⟩
  · refine ⟨_, _, _, ?_, ?_, ((rv_up_n (by omega)).trans rv_up_s), rv_up_s, rv_push he hs hf (f' := (vp_updL (vp_updL (vp_updL (vp_updL (vp_updL f ((e + s) % 100 * 5 + 0) (rv_arec nu k t v why 0)) ((e + s) % 100 * 5 + 1) (rv_arec nu k t v why 1)) ((e + s) % 100 * 5 + 2) (rv_arec nu k t v why 2)) ((e + s) % 100 * 5 + 3) (rv_arec nu k t v why 3)) ((e + s) % 100 * 5 + 4) (rv_arec nu k t v why 4))) (v := rv_arec nu k t v why) (fun k hk => rv_w5 k hk) (fun l k hl hk => rv_n5 (fun k' hk' => rv_cell_ne hk hk' hl))⟩
    · split <;> first | exact he | exact Nat.mod_lt _ (by omega)
    · unfold rv_qn; split <;> omega
  · exact (rv_only.up (Or.inl rfl)).tr (rv_only.up (Or.inr rfl))
