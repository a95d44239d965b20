/-! THE CLASS: of, take, promise, end -/
set_option maxRecDepth 100000 in
theorem ct_of_out {G : rv_G} {σ : rv_S} {x ns : Nat} {nop ev bd rl dr : Int32} (hx : σ.2 x = some (oLate x nop (nI ns) ev bd rl dr)) (i j : Int32) (hi : i < 0 ∨ nI ns ≤ i) : rv_Ct G i_Late_of 0 0 [.ref x, .int i, .int j] σ (fun r σ' => r = some (.int (-99999999)) ∧ σ' = σ) := by
  refine rv_ct (M := m_Late_of) rfl (by decide) rfl rfl ?_
  refine rv_V.run rv_gd_Late_of [] 400 ?_
  refine And.intro (Exists.intro _ hx) ?_
  refine ⟨_, _, _, ct_sourceAt_out hx i hi, Nat.zero_le _, Nat.zero_le _, rfl, ?_⟩
  rintro _ σ ⟨rfl, rfl⟩
  exact And.intro trivial ⟨rfl, rfl⟩
set_option maxRecDepth 100000 in
theorem ct_of_in {G : rv_G} {σ : rv_S} {x no ns : Nat} {oa sa : Nat → Nat} {od : Nat → Od} {sd : Nat → Sd} {ev bd rl dr : Int32} (hx : σ.2 x = some (oLate x (nI no) (nI ns) ev bd rl dr)) (hO : POP σ.2 x no oa od) (h : PSR σ.2 x no ns oa sa sd) (i : Nat) (hi : i < ns) (j : Int32) : rv_Ct G i_Late_of 0 0 [.ref x, .int (nI i), .int j] σ (fun r σ' => r = some (.int (of_val (sd i) j)) ∧ σ' = σ) := by
  obtain ⟨h1, h2, h3⟩ := h.2.1 i hi
  refine rv_ct (M := m_Late_of) rfl (by decide) rfl rfl ?_
  refine rv_V.run rv_gd_Late_of [] 400 ?_
  refine And.intro (Exists.intro _ hx) ?_
  refine ⟨_, _, _, ct_sourceAt_in hx h i hi, Nat.zero_le _, Nat.zero_le _, rfl, ?_⟩
  rintro _ σ ⟨rfl, rfl⟩
  unfold of_val
  refine And.intro (fun c => ?_) (fun c => ?_)
  · rw [if_pos c]
    refine Exists.intro _ (And.intro h1 ?_)
    refine Exists.intro _ (And.intro (hO.2.1 _ h3).1 ?_)
    exact And.intro trivial ⟨rfl, rfl⟩
  rw [if_neg c]
  refine And.intro (fun c => ?_) (fun c => ?_)
  · rw [if_pos c]
    refine Exists.intro _ (And.intro h1 ?_)
    exact And.intro trivial ⟨rfl, rfl⟩
  rw [if_neg c]
  refine And.intro (fun c => ?_) (fun c => ?_)
  · rw [if_pos c]
    refine Exists.intro _ (And.intro h1 ?_)
    refine And.intro (fun c2 => ?_) (fun c2 => ?_)
    · exact And.intro trivial ⟨congrArg (fun q => some (Value.int q)) (Eq.symm c2), rfl⟩
    · refine And.intro trivial ⟨?_, rfl⟩
      rcases rv_b01 (sd i).2.2.1.1 with z | z
      · exact absurd z c2
      · exact congrArg (fun q => some (Value.int q)) (Eq.symm z)
  rw [if_neg c]
  refine And.intro (fun c => ?_) (fun c => ?_)
  · rw [if_pos c]
    refine Exists.intro _ (And.intro h1 ?_)
    refine And.intro (fun c2 => ?_) (fun c2 => ?_)
    · exact And.intro trivial ⟨congrArg (fun q => some (Value.int q)) (Eq.symm c2), rfl⟩
    · refine And.intro trivial ⟨?_, rfl⟩
      rcases rv_b01 (sd i).2.2.1.2 with z | z
      · exact absurd z c2
      · exact congrArg (fun q => some (Value.int q)) (Eq.symm z)
  rw [if_neg c]
  refine And.intro (fun c => ?_) (fun c => ?_)
  · rw [if_pos c]
    refine Exists.intro _ (And.intro h1 ?_)
    exact And.intro trivial ⟨rfl, rfl⟩
  rw [if_neg c]
  refine And.intro (fun c => ?_) (fun c => ?_)
  · rw [if_pos c]
    refine Exists.intro _ (And.intro h1 ?_)
    exact And.intro trivial ⟨rfl, rfl⟩
  rw [if_neg c]
  refine And.intro (fun c => ?_) (fun c => ?_)
  · rw [if_pos c]
    refine Exists.intro _ (And.intro h1 ?_)
    exact And.intro trivial ⟨rfl, rfl⟩
  rw [if_neg c]
  refine And.intro (fun c => ?_) (fun c => ?_)
  · rw [if_pos c]
    refine Exists.intro _ (And.intro h1 ?_)
    exact And.intro trivial ⟨rfl, rfl⟩
  rw [if_neg c]
  exact And.intro trivial ⟨rfl, rfl⟩
theorem PSR.set {g : Nat → Option rv_E} {x no ns : Nat} {oa sa : Nat → Nat} {sd : Nat → Sd} (h : PSR g x no ns oa sa sd) {i : Nat} (hi : i < ns) (d : Sd) (hd : d.1 < no) : PSR (rv_up g (sa i) (oS oa i d)) x no ns oa sa (va_up sd i d) := by
  obtain ⟨⟨f, hf, hfe⟩, hs, hn, hj⟩ := h
  have hx := (hs i hi).2.1
  refine ⟨⟨f, (rv_up_n (by omega)).trans hf, hfe⟩, fun j hjn => ?_, hn, hj⟩
  by_cases hji : j = i
  · subst hji
    rw [va_up_self]
    exact ⟨rv_up_s, hx, hd⟩
  · rw [va_up_ne _ _ hji]
    exact ⟨(rv_up_n (fun z => hji (hj j i hjn hi z))).trans (hs j hjn).1, (hs j hjn).2⟩
/-- no source is stopped, from i on -/
def ts_run : Nat → Nat → (Nat → Sd) → Nat → Sd
  | 0, _, sd => sd
  | t + 1, i, sd => ts_run t (i + 1) (va_up sd i (sd_stop (sd i) false))
set_option maxRecDepth 100000 in
theorem lp_ctake {G : rv_G} {x no ns : Nat} {oa sa : Nat → Nat} {nop ev bd rl dr v1 : Int32} : ∀ (t i : Nat) (vi : Int32) (sd : Nat → Sd) (σ : rv_S), vi = nI i → i + t = ns → σ.2 x = some (oLate x nop (nI ns) ev bd rl dr) → PSR σ.2 x no ns oa sa sd →
    rv_V G m_Late_take 0 0 (fun r σ' => r = some (.int v1) ∧ σ'.1 = σ.1 ∧ PSR σ'.2 x no ns oa sa (ts_run t i sd) ∧ rv_only (fun q => ∃ j, j < ns ∧ q = sa j) σ.2 σ'.2) 17 [some (.ref x), some (.int v1), some (.int vi)] [] σ 0 0 := by
  intro t
  induction t with
  | zero =>
    intro i vi sd σ ei h1 hx h
    have hn := h.2.2.1
    refine rv_V.run rv_gd_Late_take [17] 400 ?_
    refine Exists.intro _ (And.intro hx ?_)
    refine And.intro (fun c1 => And.intro trivial ⟨rfl, rfl, h, rv_only.rf⟩) (fun c1 => ?_)
    exact absurd ((rv_leN rfl ei (by omega) (by omega)).mpr (by omega)) c1
  | succ t ih =>
    intro i vi sd σ ei h1 hx h
    have hn := h.2.2.1
    obtain ⟨s1, s2, s3⟩ := h.2.1 i (by omega)
    have hset := h.set (i := i) (by omega) (sd_stop (sd i) false) s3
    obtain ⟨⟨f, hf, hfe⟩, hs, _, hj⟩ := h
    refine rv_V.run rv_gd_Late_take [17] 400 ?_
    refine Exists.intro _ (And.intro hx ?_)
    refine And.intro (fun c1 => ?_) (fun c1 => ?_)
    · exact absurd ((rv_leN rfl ei (by omega) (by omega)).mp c1) (by omega)
    refine Exists.intro _ (And.intro hx ?_)
    refine ⟨_, _, _, some (sa i), hf, by decide, (by rw [ei]; exact vp_in_nI (by omega) (by omega)), (by rw [ei, nI_clamp (by omega)]; exact hfe i (by omega)), ?_⟩
    refine Exists.intro _ (And.intro s1 (And.intro (Or.inl rfl) ?_))
    refine (ih (i + 1) (vi + 1) _ (σ.1, rv_up σ.2 (sa i) (oS oa i (sd_stop (sd i) false))) (by rw [ei]; exact nI_1 i) (by omega) ((rv_up_n (by omega)).trans hx) hset).mono ?_
    rintro r σ' ⟨k1, k2, k3, k4⟩
    exact ⟨k1, k2, k3, (rv_only.up ⟨i, by omega, rfl⟩).tr k4⟩
set_option maxRecDepth 100000 in
theorem ct_take {G : rv_G} {σ : rv_S} {x no ns s : Nat} {oa sa : Nat → Nat} {sd : Nat → Sd} {q : Nat → Nat → Int64} {nop ev bd rl dr : Int32} (hx : σ.2 x = some (oLate x nop (nI ns) ev bd rl dr)) (h : PSR σ.2 x no ns oa sa sd) (hq : PR σ.2 (x + 370) (x + 371) 100 5 s q) :
    rv_Ct G i_Late_take 0 0 [.ref x] σ (fun r σ' => r = some (.int (nI s)) ∧ σ'.1 = σ.1 ∧ PSR σ'.2 x no ns oa sa (ts_run ns 0 sd) ∧ PR σ'.2 (x + 370) (x + 371) 100 5 0 q ∧ rv_only (fun q => q = x + 370 ∨ ∃ j, j < ns ∧ q = sa j) σ.2 σ'.2) := by
  obtain ⟨e, la, f, he, hsR, hr, hc, hf⟩ := hq
  have h' : PSR (rv_up σ.2 (x + 370) (oRing (nI 100) (nI 5) (x + 371) (nI e) la 0)) x no ns oa sa sd := by
    obtain ⟨⟨f, hf, hfe⟩, hs, hn, hj⟩ := h
    exact ⟨⟨f, (rv_up_n (by omega)).trans hf, hfe⟩, fun j hj2 => ⟨(rv_up_n (by have := (hs j hj2).2.1; omega)).trans (hs j hj2).1, (hs j hj2).2⟩, hn, hj⟩
  refine rv_ct (M := m_Late_take) rfl (by decide) rfl rfl ?_
  refine rv_V.run rv_gd_Late_take [17] 400 ?_
  refine Exists.intro _ (And.intro hx ?_)
  refine Exists.intro _ (And.intro hr ?_)
  refine Exists.intro _ (And.intro hx ?_)
  refine And.intro (Exists.intro _ hr) ?_
  refine ⟨_, _, _, ct_Ring_clear (x + 370) _ _ _ _ _ _ hr, Nat.zero_le _, Nat.zero_le _, rfl, ?_⟩
  rintro _ _ ⟨rfl, rfl⟩
  refine (lp_ctake ns 0 _ sd (σ.1, rv_up σ.2 (x + 370) (oRing (nI 100) (nI 5) (x + 371) (nI e) la 0)) rfl (by omega) ((rv_up_n (by omega)).trans hx) h').mono ?_
  rintro r σ' ⟨k1, k2, k3, k4⟩
  have hne : ∀ a, a ≤ x + 372 → ¬ ∃ j, j < ns ∧ a = sa j := fun a ha z => by
    obtain ⟨j, hj, e1⟩ := z
    have := (h.2.1 j hj).2.1
    omega
  refine ⟨k1, k2, k3, ⟨e, la, f, he, Nat.zero_le _, ?_, ?_, fun j hj => absurd hj (Nat.not_lt_zero j)⟩, (rv_only.up (Or.inl rfl)).tr (fun a ha => k4 a (fun z => ha (Or.inr z)))⟩
  · exact (k4 _ (hne _ (by omega))).trans rv_up_s
  · exact (k4 _ (hne _ (by omega))).trans ((rv_up_n (by omega)).trans hc)
