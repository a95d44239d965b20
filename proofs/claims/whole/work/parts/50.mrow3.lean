/-! THE REFERENCE: a row is used -/
theorem cm1_same (s : Md) (m : Nat) (vs k time v : Int32) (u : Bool) : (md_cm1 s m vs k time v u).2.1 = s.2.1 ∧ (md_cm1 s m vs k time v u).nwin = s.nwin ∧ (md_cm1 s m vs k time v u).nres = s.nres := by
  obtain ⟨a, b, c, d, e, f⟩ := s
  exact ⟨rfl, rfl, rfl⟩
theorem cm2_same (s : Md) (j : Nat) (u : Bool) : (md_cm2 s j u).2.1 = s.2.1 ∧ (md_cm2 s j u).nwin = s.nwin ∧ (md_cm2 s j u).nres = s.nres := by
  unfold md_cm2
  obtain ⟨a, b, c, d, e, f⟩ := s
  split <;> exact ⟨rfl, rfl, rfl⟩
theorem cm3_same (s : Md) (j : Nat) (time : Int32) : (md_cm3 s j time).2.1 = s.2.1 ∧ (md_cm3 s j time).nwin = s.nwin ∧ (md_cm3 s j time).nres = s.nres := by
  unfold md_cm3 md_cm4
  obtain ⟨a, b, c, d, e, f⟩ := s
  split
  · split <;> exact ⟨rfl, rfl, rfl⟩
  · exact ⟨rfl, rfl, rfl⟩
theorem came_same (s : Md) (m j : Nat) (vs k time v : Int32) (u : Bool) : (md_came s m j vs k time v u).2.1 = s.2.1 ∧ (md_came s m j vs k time v u).nwin = s.nwin ∧ (md_came s m j vs k time v u).nres = s.nres := by
  unfold md_came
  have h1 := cm1_same s m vs k time v u
  have h2 := cm2_same (md_cm1 s m vs k time v u) j u
  have h3 := cm3_same (md_cm2 (md_cm1 s m vs k time v u) j u) j time
  exact ⟨h3.1.trans (h2.1.trans h1.1), h3.2.1.trans (h2.2.1.trans h1.2.1), h3.2.2.trans (h2.2.2.trans h1.2.2)⟩
set_option maxRecDepth 100000 in
theorem lp_rC2 {G : rv_G} {σ0 σ : rv_S} {y o n r j m : Nat} {s : Md} {vs k time v vo mo v6 v7 : Int32} {x9 x10 x11 : Option Value} (hroom : ¬ 120 < s.nwin + mo) (eo : vo = nI o) (ho : o < 5) (hk : s.oKind o = 2) (ej : vs = nI j) (hj : j < 10) (em : s.nrow = nI m) (hm : m < 300) (en : s.nwin = nI n) (hn : n ≤ 120) (er : s.nres = nI r) (hr : r ≤ 400) (hg : (gp_run vo k (md_came s m j vs k time v true).fB (md_came s m j vs k time v true).fE n (md_came s m j vs k time v true) r (1, v.toInt64, v, v)).2.2.1 < 120) (h : MI σ0 σ y (md y s)) :
    rv_V G m_Model_row 0 0 (fun q σ' => q = some (.int 1) ∧ MI σ0 σ' y (md y (gap_all (md_came s m j vs k time v true) n r o vo k v))) 330 [some (.ref y), some (.int vs), some (.int k), some (.int time), some (.int v), some (.int vo), some (.int v6), some (.int v7), some (.int mo), x9, x10, x11] [] σ 0 0 := by
  have hs := came_same s m j vs k time v true
  have hk' : (md_came s m j vs k time v true).oKind o = 2 := by unfold Md.oKind at hk ⊢; rw [hs.1]; exact hk
  refine rv_V.run rv_gd_Model_row [] 400 ?_
  refine Exists.intro _ (And.intro h.ob ?_)
  refine And.intro (fun c1 => ?_) (fun c1 => absurd (Int32.not_le.mp c1) hroom)
  refine And.intro (Exists.intro _ h.ob) ?_
  refine ⟨_, _, _, rt_came k time v true ej hj em hm h, Nat.zero_le _, Nat.zero_le _, rfl, ?_⟩
  rintro _ σ ⟨rfl, h⟩
  generalize md_came s m j vs k time v true = s1 at h hs hk' hg ⊢
  refine Exists.intro _ (And.intro h.ob ?_)
  refine h.l1 eo ho ?_
  refine And.intro (fun c2 => ?_) (fun c2 => absurd hk' c2)
  refine And.intro (Exists.intro _ h.ob) ?_
  refine ⟨_, _, _, rt_gap k time v eo ho (hs.2.1.trans en) hn hg (hs.2.2.trans er) hr h, Nat.zero_le _, Nat.zero_le _, rfl, ?_⟩
  rintro _ σ ⟨rfl, h⟩
  exact And.intro trivial ⟨rfl, h⟩
set_option maxRecDepth 100000 in
theorem lp_rC1 {G : rv_G} {σ0 σ : rv_S} {y o n r j m K t : Nat} {s : Md} {vs k time v vo mo v6 v7 : Int32} {x9 x10 x11 : Option Value} (hroom : ¬ 120 < s.nwin + mo) (eo : vo = nI o) (ho : o < 5) (hk : ¬ s.oKind o = 2) (ej : vs = nI j) (hj : j < 10) (em : s.nrow = nI m) (hm : m < 300) (en : s.nwin = nI n) (hn : n ≤ 120) (er : s.nres = nI r) (hr : r ≤ 400) (h0 : ¬ bg_st s o = 0) (hok : bg_ok (bg_st s o) (s.oSize o) time t (dn time (bg_st s o) * bg_st s o)) (hK : bg_of (bg_st s o) (s.oSize o) time t (nI K) = -99999999) (hK2 : ∀ i, i < K → ¬ bg_of (bg_st s o) (s.oSize o) time t (nI i) = -99999999) (hg : gu_ok o vo k v (fun i => bg_of (bg_st s o) (s.oSize o) time t (nI i)) K 0 (md_came s m j vs k time v true, r, n)) (h : MI σ0 σ y (md y s)) :
    rv_V G m_Model_row 0 0 (fun q σ' => q = some (.int 1) ∧ MI σ0 σ' y (md y (gu_run o vo k v (fun i => bg_of (bg_st s o) (s.oSize o) time t (nI i)) K 0 (md_came s m j vs k time v true, r, n)).1)) 330 [some (.ref y), some (.int vs), some (.int k), some (.int time), some (.int v), some (.int vo), some (.int v6), some (.int v7), some (.int mo), x9, x10, x11] [] σ 0 0 := by
  have hs := came_same s m j vs k time v true
  have hk' : ¬ (md_came s m j vs k time v true).oKind o = 2 := by unfold Md.oKind at hk ⊢; rw [hs.1]; exact hk
  refine rv_V.run rv_gd_Model_row [381] 400 ?_
  refine Exists.intro _ (And.intro h.ob ?_)
  refine And.intro (fun c1 => ?_) (fun c1 => absurd (Int32.not_le.mp c1) hroom)
  refine And.intro (Exists.intro _ h.ob) ?_
  refine ⟨_, _, _, rt_came k time v true ej hj em hm h, Nat.zero_le _, Nat.zero_le _, rfl, ?_⟩
  rintro _ σ ⟨rfl, h⟩
  generalize md_came s m j vs k time v true = s1 at h hs hk' hg ⊢
  refine Exists.intro _ (And.intro h.ob ?_)
  refine h.l1 eo ho ?_
  refine And.intro (fun c2 => absurd c2 hk') (fun c2 => ?_)
  exact lp_gu eo ho h0 hok hK hK2 K 0 _ _ _ s1 r n σ rfl (by omega) hs.1 (hs.2.1.trans en) hn (hs.2.2.trans er) hr hg h
