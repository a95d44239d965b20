/-! THE REFERENCE: gap, promise, end -/
theorem gset_facts (s : Md) (n : Nat) (vo k b e : Int32) (t : Tl) : (md_gset (md_made s n vo k b e) n t).wOp n = vo ∧ (md_gset (md_made s n vo k b e) n t).nres = s.nres := by
  obtain ⟨a, b1, c, d, e1, f⟩ := s
  refine ⟨?_, rfl⟩
  show upd _ n vo n = vo
  exact if_pos rfl
set_option maxRecDepth 100000 in
theorem lp_gap2 {G : rv_G} {σ0 σ : rv_S} {y n r o : Nat} {s : Md} {vo k time v v5 b e nv : Int32} {t : Tl} {x14 : Option Value} (eo : vo = nI o) (ho : o < 5) (en : s.nwin = nI n) (hn : n < 120) (er : s.nres = nI r) (hr : r ≤ 400) (h : MI σ0 σ y (md y s)) :
    rv_V G m_Model_gap 0 0 (fun q σ' => q = none ∧ MI σ0 σ' y (md y (md_foll (md_gset (md_made s n vo k b e) n t) r n o))) 257 [some (.ref y), some (.int vo), some (.int k), some (.int time), some (.int v), some (.int v5), some (.int t.1), some (.long t.2.1), none, some (.int t.2.2.1), some (.int t.2.2.2), some (.int e), some (.int b), some (.int nv), x14] [] σ 0 0 := by
  refine rv_V.run rv_gd_Model_gap [269] 400 ?_
  refine And.intro (Exists.intro _ h.ob) ?_
  refine ⟨_, _, _, rt_made vo k b e en hn h, Nat.zero_le _, Nat.zero_le _, rfl, ?_⟩
  rintro _ σ ⟨rfl, h⟩
  have hf := gset_facts s n vo k b e t
  have key : ∀ (s1 : Md) (σ : rv_S), MI σ0 σ y (md y s1) → (md_gset s1 n t).wOp n = vo → (md_gset s1 n t).nres = nI r → rv_V G m_Model_gap 0 0 (fun q σ' => q = none ∧ MI σ0 σ' y (md y (md_foll (md_gset s1 n t) r n o))) 269 [some (.ref y), some (.int vo), some (.int k), some (.int time), some (.int v), some (.int v5), some (.int t.1), some (.long t.2.1), none, some (.int t.2.2.1), some (.int t.2.2.2), some (.int e), some (.int b), some (.int nv), some (.int (nI n))] [] σ 0 0 := by
    intro s1 σ h h1 h2
    have hw : n < 120 := hn
    refine rv_V.run rv_gd_Model_gap [] 400 ?_
    refine Exists.intro _ (And.intro h.ob ?_)
    refine h.s24 rfl hw (fun σ h => ?_)
    refine Exists.intro _ (And.intro h.ob ?_)
    refine h.s25 rfl hw (fun σ h => ?_)
    refine Exists.intro _ (And.intro h.ob ?_)
    refine h.s26 rfl hw (fun σ h => ?_)
    refine Exists.intro _ (And.intro h.ob ?_)
    refine h.s27 rfl hw (fun σ h => ?_)
    refine And.intro (Exists.intro _ h.ob) ?_
    refine ⟨_, _, _, rt_follows (s := md_gset s1 n t) rfl hn h2 hr (h1.trans eo) ho h, Nat.zero_le _, Nat.zero_le _, rfl, ?_⟩
    rintro _ σ ⟨rfl, h⟩
    exact ⟨rfl, h⟩
  exact key _ σ h hf.1 (hf.2.trans er)
def gap_run (s : Md) (n r o : Nat) (vo k v : Int32) : Md := md_foll (md_gset (md_made (gp_run vo k s.fB s.fE n s r (1, v.toInt64, v, v)).1 (gp_run vo k s.fB s.fE n s r (1, v.toInt64, v, v)).2.2.1 vo k s.fB s.fE) (gp_run vo k s.fB s.fE n s r (1, v.toInt64, v, v)).2.2.1 (gp_run vo k s.fB s.fE n s r (1, v.toInt64, v, v)).2.2.2) (gp_run vo k s.fB s.fE n s r (1, v.toInt64, v, v)).2.1 (gp_run vo k s.fB s.fE n s r (1, v.toInt64, v, v)).2.2.1 o
set_option maxRecDepth 100000 in
theorem lp_gap1 {G : rv_G} {σ0 σ : rv_S} {y n r o : Nat} {s : Md} {vo k time v v5 : Int32} (eo : vo = nI o) (ho : o < 5) (en : s.nwin = nI n) (hn : n ≤ 120) (hroom : (gp_run vo k s.fB s.fE n s r (1, v.toInt64, v, v)).2.2.1 < 120) (er : s.nres = nI r) (hr : r ≤ 400) (h : MI σ0 σ y (md y s)) :
    rv_V G m_Model_gap 0 0 (fun q σ' => q = none ∧ MI σ0 σ' y (md y (gap_run s n r o vo k v))) 56 [some (.ref y), some (.int vo), some (.int k), some (.int time), some (.int v), some (.int v5), none, none, none, none, none, none, none, none, none] [] σ 0 0 := by
  refine rv_V.run rv_gd_Model_gap [87] 400 ?_
  refine Exists.intro _ (And.intro h.ob ?_)
  refine Exists.intro _ (And.intro h.ob ?_)
  refine lp_gap n r s (1, v.toInt64, v, v) 0 _ σ hn en er hr (by decide) h (fun nv x14 σ h => ?_)
  have hf := gp_facts vo k s.fB s.fE n s r (1, v.toInt64, v, v) hn en er hr
  exact lp_gap2 eo ho hf.1 hroom hf.2.1 hf.2.2.1 h
theorem into_facts (s : Md) (w : Nat) (v : Int32) : (md_into s w v).wOp = s.wOp ∧ (md_into s w v).nres = s.nres ∧ (md_into s w v).nwin = s.nwin := by
  obtain ⟨a, b1, c, d, e1, f⟩ := s
  exact ⟨rfl, rfl, rfl⟩
def gap_own (s : Md) (n : Nat) (vo k : Int32) : Option Nat := fd_run s vo k s.fB n 0
def gap_all (s : Md) (n r o : Nat) (vo k v : Int32) : Md := match gap_own s n vo k with
  | none => gap_run s n r o vo k v
  | some w => if s.jn = 1 ∧ s.wEnd w = s.fE then md_foll (md_into s w v) r w o else gap_run s n r o vo k v
theorem fd_lt (s : Md) (o k b : Int32) : ∀ (t w j : Nat), fd_run s o k b t w = some j → j < w + t ∧ s.wOp j = o
  | 0, w, j, h => by cases h
  | t + 1, w, j, h => by
    unfold fd_run at h
    split at h
    · rename_i hc
      cases h
      exact ⟨by omega, hc.1⟩
    · have := fd_lt s o k b t (w + 1) j h
      exact ⟨by omega, this.2⟩
set_option maxRecDepth 100000 in
theorem rt_gap {G : rv_G} {σ0 σ : rv_S} {y n r o : Nat} {s : Md} {vo : Int32} (k time v : Int32) (eo : vo = nI o) (ho : o < 5) (en : s.nwin = nI n) (hn : n ≤ 120) (hroom : (gp_run vo k s.fB s.fE n s r (1, v.toInt64, v, v)).2.2.1 < 120) (er : s.nres = nI r) (hr : r ≤ 400) (h : MI σ0 σ y (md y s)) :
    rv_Ct G i_Model_gap 0 0 [.ref y, .int vo, .int k, .int time, .int v] σ (fun q σ' => q = none ∧ MI σ0 σ' y (md y (gap_all s n r o vo k v))) := by
  refine rv_ct (M := m_Model_gap) rfl (by decide) rfl rfl ?_
  refine rv_V.run rv_gd_Model_gap [56] 400 ?_
  refine Exists.intro _ (And.intro h.ob ?_)
  refine And.intro (Exists.intro _ h.ob) ?_
  refine ⟨_, _, _, rt_found vo k s.fB en hn h, Nat.zero_le _, Nat.zero_le _, rfl, ?_⟩
  rintro _ σ ⟨rfl, rfl⟩
  cases hd : gap_own s n vo k with
  | none =>
    have hd' : fd_run s vo k s.fB n 0 = none := hd
    rw [show gap_all s n r o vo k v = gap_run s n r o vo k v by unfold gap_all; rw [hd], hd']
    refine Exists.intro _ (And.intro h.ob ?_)
    refine And.intro (fun c1 => ?_) (fun c1 => ?_)
    · refine And.intro (fun c2 => ?_) (fun c2 => absurd rfl c2)
      exact lp_gap1 eo ho en hn hroom er hr h
    · exact lp_gap1 eo ho en hn hroom er hr h
  | some w =>
    have hd' : fd_run s vo k s.fB n 0 = some w := hd
    have hw1 := fd_lt s vo k s.fB n 0 w hd'
    have hw : w < 120 := by omega
    have ew : oi (some w) = nI w := rfl
    have hG : gap_all s n r o vo k v = if s.jn = 1 ∧ s.wEnd w = s.fE then md_foll (md_into s w v) r w o else gap_run s n r o vo k v := by unfold gap_all; rw [hd]
    rw [hG, hd']
    refine Exists.intro _ (And.intro h.ob ?_)
    refine And.intro (fun c1 => ?_) (fun c1 => ?_)
    · refine And.intro (fun c2 => ?_) (fun c2 => ?_)
      · have := (oi_none (b := some w) (fun j hj => by cases hj; omega)).mp c2
        cases this
      refine Exists.intro _ (And.intro h.ob ?_)
      refine h.l23 ew hw ?_
      refine Exists.intro _ (And.intro h.ob ?_)
      refine And.intro (fun c3 => ?_) (fun c3 => ?_)
      · rw [if_pos ⟨c1, c3⟩]
        refine And.intro (Exists.intro _ h.ob) ?_
        refine ⟨_, _, _, rt_into v ew hw h, Nat.zero_le _, Nat.zero_le _, rfl, ?_⟩
        rintro _ σ ⟨rfl, h⟩
        have hf := into_facts s w v
        refine And.intro (Exists.intro _ h.ob) ?_
        refine ⟨_, _, _, rt_follows (s := md_into s w v) ew hw (hf.2.1.trans er) hr (by rw [hf.1, hw1.2, eo]) ho h, Nat.zero_le _, Nat.zero_le _, rfl, ?_⟩
        rintro _ σ ⟨rfl, h⟩
        exact ⟨rfl, h⟩
      · rw [if_neg (fun z => c3 z.2)]
        exact lp_gap1 eo ho en hn hroom er hr h
    · rw [if_neg (fun z => c1 z.1)]
      exact lp_gap1 eo ho en hn hroom er hr h
