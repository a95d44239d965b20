/-! THE REFERENCE: what a row would join, the begins of a time, a row that came -/
def jo_st (s : Md) (w : Nat) : Md :=
  let s := s.u_jn (s.jn + 1)
  let s := s.u_jT (s.jT || s.wTold w)
  let s := if s.wBeg w < s.fB then s.u_fB (s.wBeg w) else s
  if s.fE < s.wEnd w then s.u_fE (s.wEnd w) else s
def jo_run (vo k b e : Int32) : Nat → Nat → Md → Md
  | 0, _, s => s
  | t + 1, w, s => jo_run vo k b e t (w + 1) (if mt_is s w vo k b e = true then jo_st s w else s)
def jo_0 (s : Md) (o : Nat) (time : Int32) : Md :=
  let s := s.u_fB time
  let s := s.u_fE (time + s.oSize o)
  let s := s.u_jn 0
  s.u_jT false
theorem jo_st_nwin (s : Md) (w : Nat) : (jo_st s w).nwin = s.nwin := by
  unfold jo_st
  dsimp only
  split <;> split <;> rfl
set_option maxRecDepth 100000 in
theorem lp_jo1 {G : rv_G} {σ0 σ : rv_S} {y w : Nat} {s : Md} {vo k time b e vw : Int32} {Rt : Option Value → rv_S → Prop} (ew : vw = nI w) (hw : w < 120) (h : MI σ0 σ y (md y s)) (next : ∀ σ, MI σ0 σ y (md y (if s.fE < s.wEnd w then s.u_fE (s.wEnd w) else s)) → rv_V G m_Model_joined 0 0 Rt 152 [some (.ref y), some (.int vo), some (.int k), some (.int time), some (.int b), some (.int e), some (.int vw)] [] σ 0 0) :
    rv_V G m_Model_joined 0 0 Rt 127 [some (.ref y), some (.int vo), some (.int k), some (.int time), some (.int b), some (.int e), some (.int vw)] [] σ 0 0 := by
  refine rv_V.run rv_gd_Model_joined [152] 400 ?_
  refine Exists.intro _ (And.intro h.ob ?_)
  refine h.l23 ew hw ?_
  refine Exists.intro _ (And.intro h.ob ?_)
  refine And.intro (fun c1 => ?_) (fun c1 => ?_)
  · exact next σ (by rw [if_neg (Int32.not_lt.mpr c1)]; exact h)
  · refine Exists.intro _ (And.intro h.ob ?_)
    refine h.l23 ew hw ?_
    refine h.p46 (fun σ h => ?_)
    exact next σ (by rw [if_pos (Int32.not_le.mp c1)]; exact h)
set_option maxRecDepth 100000 in
theorem lp_jo2 {G : rv_G} {σ0 σ : rv_S} {y w : Nat} {s : Md} {vo k time b e vw : Int32} {Rt : Option Value → rv_S → Prop} (ew : vw = nI w) (hw : w < 120) (h : MI σ0 σ y (md y s)) (next : ∀ σ, MI σ0 σ y (md y (if s.wBeg w < s.fB then s.u_fB (s.wBeg w) else s)) → rv_V G m_Model_joined 0 0 Rt 127 [some (.ref y), some (.int vo), some (.int k), some (.int time), some (.int b), some (.int e), some (.int vw)] [] σ 0 0) :
    rv_V G m_Model_joined 0 0 Rt 102 [some (.ref y), some (.int vo), some (.int k), some (.int time), some (.int b), some (.int e), some (.int vw)] [] σ 0 0 := by
  refine rv_V.run rv_gd_Model_joined [127] 400 ?_
  refine Exists.intro _ (And.intro h.ob ?_)
  refine h.l22 ew hw ?_
  refine Exists.intro _ (And.intro h.ob ?_)
  refine And.intro (fun c1 => ?_) (fun c1 => ?_)
  · exact next σ (by rw [if_neg (Int32.not_lt.mpr c1)]; exact h)
  · refine Exists.intro _ (And.intro h.ob ?_)
    refine h.l22 ew hw ?_
    refine h.p45 (fun σ h => ?_)
    exact next σ (by rw [if_pos (Int32.not_le.mp c1)]; exact h)
set_option maxRecDepth 100000 in
theorem lp_jo3 {G : rv_G} {σ0 σ : rv_S} {y w : Nat} {s : Md} {vo k time b e vw : Int32} {Rt : Option Value → rv_S → Prop} (ew : vw = nI w) (hw : w < 120) (h : MI σ0 σ y (md y s)) (next : ∀ σ, MI σ0 σ y (md y ((s.u_jn (s.jn + 1)).u_jT ((s.u_jn (s.jn + 1)).jT || (s.u_jn (s.jn + 1)).wTold w))) → rv_V G m_Model_joined 0 0 Rt 102 [some (.ref y), some (.int vo), some (.int k), some (.int time), some (.int b), some (.int e), some (.int vw)] [] σ 0 0) :
    rv_V G m_Model_joined 0 0 Rt 66 [some (.ref y), some (.int vo), some (.int k), some (.int time), some (.int b), some (.int e), some (.int vw)] [] σ 0 0 := by
  refine rv_V.run rv_gd_Model_joined [102] 400 ?_
  refine Exists.intro _ (And.intro h.ob ?_)
  refine h.p47 (fun σ h => ?_)
  refine Exists.intro _ (And.intro h.ob ?_)
  refine And.intro (fun c1 => ?_) (fun c1 => ?_)
  · refine Exists.intro _ (And.intro h.ob ?_)
    refine h.l28 ew hw ?_
    refine And.intro (fun c2 => ?_) (fun c2 => ?_)
    · refine h.p48 false rfl (fun σ h => ?_)
      exact next σ (by rw [rv_b0.mp c1, rv_b0.mp c2]; exact h)
    · refine h.p48 true rfl (fun σ h => ?_)
      exact next σ (by rw [rv_b0.mp c1, rv_bn c2]; exact h)
  · refine h.p48 true rfl (fun σ h => ?_)
    exact next σ (by rw [rv_bn c1]; exact h)
set_option maxRecDepth 100000 in
theorem lp_joined {G : rv_G} {σ0 : rv_S} {y n : Nat} {vo k time b e : Int32} (hn : n ≤ 120) (S : Md) : ∀ (t w : Nat) (vw : Int32) (s : Md) (σ : rv_S), vw = nI w → w + t = n → s.nwin = nI n → jo_run vo k b e t w s = S → MI σ0 σ y (md y s) →
    rv_V G m_Model_joined 0 0 (fun q σ' => q = none ∧ MI σ0 σ' y (md y S)) 39 [some (.ref y), some (.int vo), some (.int k), some (.int time), some (.int b), some (.int e), some (.int vw)] [] σ 0 0 := by
  intro t
  induction t with
  | zero =>
    intro w vw s σ ew h1 en hS h
    refine rv_V.run rv_gd_Model_joined [39] 400 ?_
    refine Exists.intro _ (And.intro h.ob ?_)
    refine And.intro (fun c1 => ?_) (fun c1 => ?_)
    · subst hS
      exact ⟨rfl, h⟩
    · exact absurd ((rv_leN en ew (by omega) (by omega)).mpr (by omega)) c1
  | succ t ih =>
    intro w vw s σ ew h1 en hS h
    have at152 : ∀ (s' : Md) (σ : rv_S), jo_run vo k b e (t + 1) w s = jo_run vo k b e t (w + 1) s' → s'.nwin = nI n → MI σ0 σ y (md y s') → rv_V G m_Model_joined 0 0 (fun q σ' => q = none ∧ MI σ0 σ' y (md y S)) 152 [some (.ref y), some (.int vo), some (.int k), some (.int time), some (.int b), some (.int e), some (.int vw)] [] σ 0 0 := by
      intro s' σ e1 e2 h
      refine rv_V.run rv_gd_Model_joined [39] 400 ?_
      exact ih (w + 1) (vw + 1) s' σ (by rw [ew]; exact nI_1 w) (by omega) e2 (e1.symm.trans hS) h
    refine rv_V.run rv_gd_Model_joined [39, 66, 152] 400 ?_
    refine Exists.intro _ (And.intro h.ob ?_)
    refine And.intro (fun c1 => ?_) (fun c1 => ?_)
    · exact absurd ((rv_leN en ew (by omega) (by omega)).mp c1) (by omega)
    refine And.intro (Exists.intro _ h.ob) ?_
    refine ⟨_, _, _, rt_meets vo k b e ew (by omega) h, Nat.zero_le _, Nat.zero_le _, rfl, ?_⟩
    rintro _ σ ⟨rfl, rfl⟩
    refine And.intro (fun c2 => ?_) (fun c2 => ?_)
    · refine at152 s σ ?_ en h
      conv => lhs; unfold jo_run
      rw [if_neg (by rw [rv_b0.mp c2]; decide)]
    · refine lp_jo3 ew (by omega) h (fun σ h => lp_jo2 ew (by omega) h (fun σ h => lp_jo1 ew (by omega) h (fun σ h => ?_)))
      refine at152 (jo_st s w) σ ?_ ((jo_st_nwin s w).trans en) h
      conv => lhs; unfold jo_run
      rw [if_pos (rv_bn c2)]
set_option maxRecDepth 100000 in
theorem rt_joined {G : rv_G} {σ0 σ : rv_S} {y o n : Nat} {s : Md} {vo : Int32} (k time : Int32) (eo : vo = nI o) (ho : o < 5) (en : s.nwin = nI n) (hn : n ≤ 120) (h : MI σ0 σ y (md y s)) :
    rv_Ct G i_Model_joined 0 0 [.ref y, .int vo, .int k, .int time] σ (fun q σ' => q = none ∧ MI σ0 σ' y (md y (jo_run vo k time (time + s.oSize o) n 0 (jo_0 s o time)))) := by
  refine rv_ct (M := m_Model_joined) rfl (by decide) rfl rfl ?_
  refine rv_V.run rv_gd_Model_joined [39] 400 ?_
  refine h.p45 (fun σ h => ?_)
  refine Exists.intro _ (And.intro h.ob ?_)
  refine h.l2 eo ho ?_
  refine h.p46 (fun σ h => ?_)
  refine h.p47 (fun σ h => ?_)
  refine h.p48 false rfl (fun σ h => ?_)
  refine Exists.intro _ (And.intro h.ob ?_)
  exact lp_joined hn _ n 0 _ (jo_0 s o time) σ rfl (by omega) en rfl h
def dn (v b : Int32) : Int32 := if v < v / b * b then v / b - 1 else v / b
set_option maxRecDepth 100000 in
theorem rt_down {G : rv_G} {σ : rv_S} (v b : Int32) (hb : ¬ b = 0) : rv_Ct G i_Model_down 0 0 [.int v, .int b] σ (fun q σ' => q = some (.int (dn v b)) ∧ σ' = σ) := by
  refine rv_ct (M := m_Model_down) rfl (by decide) rfl rfl ?_
  refine rv_V.run rv_gd_Model_down [] 400 ?_
  refine And.intro hb ?_
  refine And.intro (fun c1 => ?_) (fun c1 => ?_)
  · refine And.intro trivial ⟨?_, rfl⟩
    rw [show dn v b = v / b from if_neg (Int32.not_lt.mpr c1)]
  · refine And.intro trivial ⟨?_, rfl⟩
    rw [show dn v b = v / b - 1 from if_pos (Int32.not_le.mp c1)]
/-- the least begin, from the last one down -/
def bg_run (st sz time : Int32) : Nat → Int32 → Int32
  | 0, f => f
  | t + 1, f => if f - st + sz ≤ time then f else bg_run st sz time t (f - st)
def bg_ok (st sz time : Int32) : Nat → Int32 → Prop
  | 0, f => f - st + sz ≤ time
  | t + 1, f => ¬ f - st + sz ≤ time → bg_ok st sz time t (f - st)
def bg_of (st sz time : Int32) (t : Nat) (k : Int32) : Int32 := if bg_run st sz time t (dn time st * st) + k * st ≤ dn time st * st then bg_run st sz time t (dn time st * st) + k * st else -99999999
set_option maxRecDepth 100000 in
theorem lp_beginOf {G : rv_G} {σ0 σ : rv_S} {y o : Nat} {s : Md} {vo time k st la : Int32} (eo : vo = nI o) (ho : o < 5) (h : MI σ0 σ y (md y s)) : ∀ (t : Nat) (f : Int32) (x7 : Option Value), bg_ok st (s.oSize o) time t f →
    rv_V G m_Model_beginOf 0 0 (fun q σ' => q = some (.int (if bg_run st (s.oSize o) time t f + k * st ≤ la then bg_run st (s.oSize o) time t f + k * st else -99999999)) ∧ σ' = σ) 41 [some (.ref y), some (.int vo), some (.int time), some (.int k), some (.int st), some (.int la), some (.int f), x7] [] σ 0 0 := by
  have fin : ∀ (f : Int32) (x7 : Option Value), rv_V G m_Model_beginOf 0 0 (fun q σ' => q = some (.int (if f + k * st ≤ la then f + k * st else -99999999)) ∧ σ' = σ) 67 [some (.ref y), some (.int vo), some (.int time), some (.int k), some (.int st), some (.int la), some (.int f), x7] [] σ 0 0 := by
    intro f x7
    refine rv_V.run rv_gd_Model_beginOf [] 400 ?_
    refine And.intro (fun c1 => ?_) (fun c1 => ?_)
    · exact And.intro trivial ⟨by rw [if_neg (Int32.not_le.mpr c1)], rfl⟩
    · exact And.intro trivial ⟨by rw [if_pos (Int32.not_lt.mp c1)], rfl⟩
  intro t
  induction t with
  | zero =>
    intro f x7 hok
    refine rv_V.run rv_gd_Model_beginOf [41, 67] 400 ?_
    refine Exists.intro _ (And.intro h.ob ?_)
    refine h.l2 eo ho ?_
    refine And.intro (fun c1 => ?_) (fun c1 => ?_)
    · exact fin f x7
    · exact absurd hok c1
  | succ t ih =>
    intro f x7 hok
    refine rv_V.run rv_gd_Model_beginOf [41, 67] 400 ?_
    refine Exists.intro _ (And.intro h.ob ?_)
    refine h.l2 eo ho ?_
    refine And.intro (fun c1 => ?_) (fun c1 => ?_)
    · rw [show bg_run st (s.oSize o) time (t + 1) f = f from if_pos c1]
      exact fin f x7
    · rw [show bg_run st (s.oSize o) time (t + 1) f = bg_run st (s.oSize o) time t (f - st) from if_neg c1]
      exact ih (f - st) x7 (hok c1)
def bg_st (s : Md) (o : Nat) : Int32 := if s.oKind o = 0 then s.oSize o else s.oStep o
set_option maxRecDepth 100000 in
theorem rt_beginOf {G : rv_G} {σ0 σ : rv_S} {y o : Nat} {s : Md} {vo : Int32} (time k : Int32) (t : Nat) (eo : vo = nI o) (ho : o < 5) (h : MI σ0 σ y (md y s)) (h0 : ¬ bg_st s o = 0) (hok : bg_ok (bg_st s o) (s.oSize o) time t (dn time (bg_st s o) * bg_st s o)) :
    rv_Ct G i_Model_beginOf 0 0 [.ref y, .int vo, .int time, .int k] σ (fun q σ' => q = some (.int (bg_of (bg_st s o) (s.oSize o) time t k)) ∧ σ' = σ) := by
  have mid : ∀ v : Int32, v = bg_st s o → rv_V G m_Model_beginOf 0 0 (fun q σ' => q = some (.int (bg_of (bg_st s o) (s.oSize o) time t k)) ∧ σ' = σ) 24 [some (.ref y), some (.int vo), some (.int time), some (.int k), none, none, none, none] [.int v] σ 0 0 := by
    rintro _ rfl
    refine rv_V.run rv_gd_Model_beginOf [41] 400 ?_
    refine ⟨_, _, _, rt_down time (bg_st s o) h0, Nat.zero_le _, Nat.zero_le _, rfl, ?_⟩
    rintro _ σ ⟨rfl, rfl⟩
    exact lp_beginOf eo ho h t _ _ hok
  refine rv_ct (M := m_Model_beginOf) rfl (by decide) rfl rfl ?_
  refine rv_V.run rv_gd_Model_beginOf [24] 400 ?_
  refine Exists.intro _ (And.intro h.ob ?_)
  refine h.l1 eo ho ?_
  refine And.intro (fun c1 => ?_) (fun c1 => ?_)
  · refine Exists.intro _ (And.intro h.ob ?_)
    refine h.l2 eo ho ?_
    exact mid _ (if_pos c1).symm
  · refine Exists.intro _ (And.intro h.ob ?_)
    refine h.l3 eo ho ?_
    exact mid _ (if_neg c1).symm
