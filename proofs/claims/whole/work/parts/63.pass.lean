/-! THE CLASS: one pass -/
theorem ps_ix (m c : Nat) : nI m * 7 + nI c = nI (7 * m + c) := by
  rw [show (7 : Int32) = nI 7 from rfl, nI_mul, nI_add, Nat.mul_comm]
theorem ps_in {m c : Nat} (hm : m < 2400) (hc : c < 7) : vp_in (nI m * 7 + nI c) 16800 := by
  rw [ps_ix]; exact vp_in_nI (by omega) (by omega)
theorem ps_cl {m c : Nat} (hm : m < 2400) (hc : c < 7) : (nI m * 7 + nI c).toNatClampNeg = 7 * m + c := by
  rw [ps_ix]; exact nI_clamp (by omega)
/-- the table of one pass: how many, the cells -/
abbrev Ps : Type := Nat × (Nat → Int64)
def POS (g : Nat → Option rv_E) (a : Nat) (s : Ps) : Prop := g a = some (oOP (a + 1) (nI s.1)) ∧ g (a + 1) = some (rv_aJ 16800 s.2) ∧ s.1 ≤ 2400
theorem POS.kept {g g' : Nat → Option rv_E} {a : Nat} {s : Ps} (h : POS g a s) (h1 : g' a = g a) (h2 : g' (a + 1) = g (a + 1)) : POS g' a s := ⟨h1.trans h.1, h2.trans h.2.1, h.2.2⟩
set_option maxRecDepth 100000 in
theorem ct_OP_get {G : rv_G} {σ : rv_S} {a : Nat} {s : Ps} (h : POS σ.2 a s) (i c : Int32) :
    rv_Ct G i_OnePass_get 0 0 [.ref a, .int i, .int c] σ (fun q σ' => q = some (.long (if rv_in i 0 (nI s.1 - 1) = true ∧ rv_in c 0 6 = true then s.2 (7 * i.toNatClampNeg + c.toNatClampNeg) else -99999999)) ∧ σ' = σ) := by
  obtain ⟨h1, h2, h3⟩ := h
  refine rv_ct (M := m_OnePass_get) rfl (by decide) rfl rfl ?_
  refine rv_V.run rv_gd_OnePass_get [] 400 ?_
  refine And.intro (fun c1 => ?_) (fun c1 => ?_)
  · rw [if_neg]
    · exact ⟨rfl, rfl⟩
    · rintro ⟨z, -⟩
      exact absurd c1 (Int32.not_lt.mpr (of_decide_eq_true z).1)
  refine Exists.intro _ (And.intro h1 ?_)
  refine And.intro (fun c2 => ?_) (fun c2 => ?_)
  · rw [if_neg]
    · exact ⟨rfl, rfl⟩
    · rintro ⟨z, -⟩
      obtain ⟨j, hj, rfl⟩ := (in_nI (by omega)).mp z
      exact absurd ((rv_leN rfl rfl (by omega) (by omega)).mp c2) (by omega)
  refine And.intro (fun c3 => ?_) (fun c3 => ?_)
  · rw [if_neg]
    · exact ⟨rfl, rfl⟩
    · rintro ⟨-, z⟩
      exact absurd c3 (Int32.not_lt.mpr (of_decide_eq_true z).1)
  refine And.intro (fun c4 => ?_) (fun c4 => ?_)
  · have hi : rv_in i 0 (nI s.1 - 1) = true := (in_nI (by omega)).mpr (by
      obtain ⟨j, hj, e⟩ := nI_of2 (nI_toInt (n := s.1) (by omega)) c1 (Int32.le_of_lt (Int32.not_le.mp c2))
      subst e
      exact ⟨j, (rv_ltN rfl rfl (by omega) (by omega)).mp (Int32.not_le.mp c2), rfl⟩)
    have hc : rv_in c 0 6 = true := (in_nI (n := 7) (by omega)).mpr (by
      obtain ⟨j, hj, e⟩ := nI_of2 (nI_toInt (n := 7) (by omega)) c3 (Int32.le_of_lt c4)
      subst e
      exact ⟨j, (rv_ltN (b := 7) rfl rfl (by omega) (by omega)).mp c4, rfl⟩)
    rw [if_pos ⟨hi, hc⟩]
    obtain ⟨j, hj, rfl⟩ := (in_nI (by omega)).mp hi
    obtain ⟨d, hd, rfl⟩ := (in_nI (n := 7) (by omega)).mp hc
    refine Exists.intro _ (And.intro h1 ?_)
    refine ⟨_, _, h2, ps_in (by omega) hd, ?_⟩
    rw [ps_cl (by omega) hd, nI_clamp (by omega), nI_clamp (by omega)]
    exact ⟨rfl, rfl⟩
  · rw [if_neg]
    · exact ⟨rfl, rfl⟩
    · rintro ⟨-, z⟩
      obtain ⟨j, hj, rfl⟩ := (in_nI (n := 7) (by omega)).mp z
      exact absurd ((rv_ltN (b := 7) rfl rfl (by omega) (by omega)).mpr hj) c4
theorem ct_OP_at {G : rv_G} {σ : rv_S} {a i c : Nat} {s : Ps} (h : POS σ.2 a s) (hi : i < s.1) (hc : c < 7) :
    rv_Ct G i_OnePass_get 0 0 [.ref a, .int (nI i), .int (nI c)] σ (fun q σ' => q = some (.long (s.2 (7 * i + c))) ∧ σ' = σ) := by
  have h3 := h.2.2
  refine (ct_OP_get h (nI i) (nI c)).mono ?_
  rintro q σ' ⟨k1, k2⟩
  refine ⟨?_, k2⟩
  rw [k1, if_pos ⟨(in_nI (by omega)).mpr ⟨i, hi, rfl⟩, (in_nI (n := 7) (by omega)).mpr ⟨c, hc, rfl⟩⟩, nI_clamp (by omega), nI_clamp (by omega)]
def ps_w (f : Nat → Int64) (m : Nat) (k b e c v l g : Int64) : Nat → Int64 :=
  vp_updL (vp_updL (vp_updL (vp_updL (vp_updL (vp_updL (vp_updL f (7 * m + 0) k) (7 * m + 1) b) (7 * m + 2) e) (7 * m + 3) c) (7 * m + 4) v) (7 * m + 5) l) (7 * m + 6) g
def ps_open (s : Ps) (k b e v : Int32) : Ps := if s.1 < 2400 then (s.1 + 1, ps_w s.2 s.1 k.toInt64 b.toInt64 e.toInt64 1 v.toInt64 v.toInt64 v.toInt64) else s
set_option maxRecDepth 100000 in
theorem ct_OP_open {G : rv_G} {σ : rv_S} {a r : Nat} {s : Ps} {d : Rd} (h : POS σ.2 a s) (hr : σ.2 r = some (oR d)) (hra : r ≠ a + 1) (hra2 : r ≠ a) (b e : Int32) :
    rv_Ct G i_OnePass_open 0 0 [.ref a, .ref r, .int b, .int e] σ (fun q σ' => q = none ∧ σ'.1 = σ.1 ∧ POS σ'.2 a (ps_open s d.2.1 b e d.2.2.2.1) ∧ rv_only (fun q => q = a ∨ q = a + 1) σ.2 σ'.2) := by
  obtain ⟨h1, h2, h3⟩ := h
  refine rv_ct (M := m_OnePass_open) rfl (by decide) rfl rfl ?_
  refine rv_V.run rv_gd_OnePass_open [] 400 ?_
  refine Exists.intro _ (And.intro h1 ?_)
  refine And.intro (fun c1 => ?_) (fun c1 => ?_)
  · have hm : s.1 < 2400 := (rv_ltN (b := 2400) rfl rfl (by omega) (by omega)).mp c1
    have i0 : vp_in (nI s.1 * 7 + 0) 16800 := ps_in (c := 0) hm (by omega)
    have i1 : vp_in (nI s.1 * 7 + 1) 16800 := ps_in (c := 1) hm (by omega)
    have i2 : vp_in (nI s.1 * 7 + 2) 16800 := ps_in (c := 2) hm (by omega)
    have i3 : vp_in (nI s.1 * 7 + 3) 16800 := ps_in (c := 3) hm (by omega)
    have i4 : vp_in (nI s.1 * 7 + 4) 16800 := ps_in (c := 4) hm (by omega)
    have i5 : vp_in (nI s.1 * 7 + 5) 16800 := ps_in (c := 5) hm (by omega)
    have i6 : vp_in (nI s.1 * 7 + 6) 16800 := ps_in (c := 6) hm (by omega)
    have z0 : (nI s.1 * 7 + 0).toNatClampNeg = 7 * s.1 + 0 := ps_cl (c := 0) hm (by omega)
    have z1 : (nI s.1 * 7 + 1).toNatClampNeg = 7 * s.1 + 1 := ps_cl (c := 1) hm (by omega)
    have z2 : (nI s.1 * 7 + 2).toNatClampNeg = 7 * s.1 + 2 := ps_cl (c := 2) hm (by omega)
    have z3 : (nI s.1 * 7 + 3).toNatClampNeg = 7 * s.1 + 3 := ps_cl (c := 3) hm (by omega)
    have z4 : (nI s.1 * 7 + 4).toNatClampNeg = 7 * s.1 + 4 := ps_cl (c := 4) hm (by omega)
    have z5 : (nI s.1 * 7 + 5).toNatClampNeg = 7 * s.1 + 5 := ps_cl (c := 5) hm (by omega)
    have z6 : (nI s.1 * 7 + 6).toNatClampNeg = 7 * s.1 + 6 := ps_cl (c := 6) hm (by omega)
    refine Exists.intro _ (And.intro h1 ?_)
    refine Exists.intro _ (And.intro h1 ?_)
    refine Exists.intro _ (And.intro hr ?_)
    refine ⟨_, _, h2, i0, ?_⟩
    refine Exists.intro _ (And.intro ((rv_up_n (by omega)).trans h1) ?_)
    refine ⟨_, _, rv_up_s, i1, ?_⟩
    rw [rv_up_up]
    refine Exists.intro _ (And.intro ((rv_up_n (by omega)).trans h1) ?_)
    refine ⟨_, _, rv_up_s, i2, ?_⟩
    rw [rv_up_up]
    refine Exists.intro _ (And.intro ((rv_up_n (by omega)).trans h1) ?_)
    refine ⟨_, _, rv_up_s, i3, ?_⟩
    rw [rv_up_up]
    refine Exists.intro _ (And.intro ((rv_up_n (by omega)).trans h1) ?_)
    refine Exists.intro _ (And.intro ((rv_up_n hra).trans hr) ?_)
    refine ⟨_, _, rv_up_s, i4, ?_⟩
    rw [rv_up_up]
    refine Exists.intro _ (And.intro ((rv_up_n (by omega)).trans h1) ?_)
    refine Exists.intro _ (And.intro ((rv_up_n hra).trans hr) ?_)
    refine ⟨_, _, rv_up_s, i5, ?_⟩
    rw [rv_up_up]
    refine Exists.intro _ (And.intro ((rv_up_n (by omega)).trans h1) ?_)
    refine Exists.intro _ (And.intro ((rv_up_n hra).trans hr) ?_)
    refine ⟨_, _, rv_up_s, i6, ?_⟩
    rw [rv_up_up]
    refine Exists.intro _ (And.intro ((rv_up_n (by omega)).trans h1) ?_)
    refine Exists.intro _ (And.intro ((rv_up_n (by omega)).trans h1) (And.intro trivial ?_))
    rw [z0, z1, z2, z3, z4, z5, z6]
    refine ⟨rfl, rfl, ?_, ?_⟩
    · unfold ps_open
      rw [if_pos hm]
      refine ⟨rv_up_s.trans ?_, (rv_up_n (by omega)).trans rv_up_s, hm⟩
      show some (oOP (a + 1) (nI s.1 + 1)) = _
      rw [nI_1]
    · exact (rv_only.up (Or.inr rfl)).tr (rv_only.up (Or.inl rfl))
  · have hm : ¬ s.1 < 2400 := fun z => c1 ((rv_ltN (b := 2400) rfl rfl (by omega) (by omega)).mpr z)
    refine ⟨rfl, rfl, ?_, rv_only.rf⟩
    unfold ps_open
    rw [if_neg hm]
    exact ⟨h1, h2, h3⟩
def ps_cm (f : Nat → Int64) (i : Nat) (e v : Int64) : Nat → Int64 :=
  let f := vp_updL f (7 * i + 2) e
  let f := vp_updL f (7 * i + 3) (f (7 * i + 3) + 1)
  let f := vp_updL f (7 * i + 4) (f (7 * i + 4) + v)
  let f := vp_updL f (7 * i + 5) (rv_minL (f (7 * i + 5)) v)
  vp_updL f (7 * i + 6) (rv_maxL (f (7 * i + 6)) v)
set_option maxRecDepth 100000 in
theorem ct_OP_come {G : rv_G} {σ : rv_S} {a i : Nat} {s : Ps} (h : POS σ.2 a s) (hi : i < s.1) (e v : Int32) :
    rv_Ct G i_OnePass_comeInto 0 0 [.ref a, .int (nI i), .int e, .int v] σ (fun q σ' => q = none ∧ σ'.1 = σ.1 ∧ POS σ'.2 a (s.1, ps_cm s.2 i e.toInt64 v.toInt64) ∧ rv_only (fun q => q = a ∨ q = a + 1) σ.2 σ'.2) := by
  obtain ⟨h1, h2, h3⟩ := h
  have hm : i < 2400 := by omega
  have i2 : vp_in (nI i * 7 + 2) 16800 := ps_in (c := 2) hm (by omega)
  have i3 : vp_in (nI i * 7 + 3) 16800 := ps_in (c := 3) hm (by omega)
  have i4 : vp_in (nI i * 7 + 4) 16800 := ps_in (c := 4) hm (by omega)
  have i5 : vp_in (nI i * 7 + 5) 16800 := ps_in (c := 5) hm (by omega)
  have i6 : vp_in (nI i * 7 + 6) 16800 := ps_in (c := 6) hm (by omega)
  have z2 : (nI i * 7 + 2).toNatClampNeg = 7 * i + 2 := ps_cl (c := 2) hm (by omega)
  have z3 : (nI i * 7 + 3).toNatClampNeg = 7 * i + 3 := ps_cl (c := 3) hm (by omega)
  have z4 : (nI i * 7 + 4).toNatClampNeg = 7 * i + 4 := ps_cl (c := 4) hm (by omega)
  have z5 : (nI i * 7 + 5).toNatClampNeg = 7 * i + 5 := ps_cl (c := 5) hm (by omega)
  have z6 : (nI i * 7 + 6).toNatClampNeg = 7 * i + 6 := ps_cl (c := 6) hm (by omega)
  refine rv_ct (M := m_OnePass_comeInto) rfl (by decide) rfl rfl ?_
  refine rv_V.run rv_gd_OnePass_comeInto [] 400 ?_
  refine And.intro (fun c1 => absurd c1 (nI_pos (by omega))) (fun c1 => ?_)
  refine Exists.intro _ (And.intro h1 ?_)
  refine And.intro (fun c2 => ?_) (fun c2 => absurd ((rv_ltN rfl rfl (by omega) (by omega)).mpr hi) c2)
  refine Exists.intro _ (And.intro h1 ?_)
  refine ⟨_, _, h2, i2, ?_⟩
  refine Exists.intro _ (And.intro ((rv_up_n (by omega)).trans h1) ?_)
  refine ⟨_, _, rv_up_s, i3, ?_⟩
  refine ⟨_, _, rv_up_s, i3, ?_⟩
  rw [rv_up_up]
  refine Exists.intro _ (And.intro ((rv_up_n (by omega)).trans h1) ?_)
  refine ⟨_, _, rv_up_s, i4, ?_⟩
  refine ⟨_, _, rv_up_s, i4, ?_⟩
  rw [rv_up_up]
  refine Exists.intro _ (And.intro ((rv_up_n (by omega)).trans h1) ?_)
  refine Exists.intro _ (And.intro ((rv_up_n (by omega)).trans h1) ?_)
  refine ⟨_, _, rv_up_s, i5, ?_⟩
  refine ⟨_, _, _, ct_minL _ _, Nat.zero_le _, Nat.zero_le _, rfl, ?_⟩
  rintro _ _ ⟨rfl, rfl⟩
  refine ⟨_, _, rv_up_s, i5, ?_⟩
  rw [rv_up_up]
  refine Exists.intro _ (And.intro ((rv_up_n (by omega)).trans h1) ?_)
  refine Exists.intro _ (And.intro ((rv_up_n (by omega)).trans h1) ?_)
  refine ⟨_, _, rv_up_s, i6, ?_⟩
  refine ⟨_, _, _, ct_maxL _ _, Nat.zero_le _, Nat.zero_le _, rfl, ?_⟩
  rintro _ _ ⟨rfl, rfl⟩
  refine ⟨_, _, rv_up_s, i6, ?_⟩
  rw [rv_up_up, z2, z3, z4, z5, z6]
  refine ⟨rfl, rfl, ⟨(rv_up_n (by omega)).trans h1, rv_up_s, h3⟩, rv_only.up (Or.inr rfl)⟩
