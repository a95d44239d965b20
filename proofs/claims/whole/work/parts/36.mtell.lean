/-! THE REFERENCE: telling, removing, what is due -/
def md_told (s : Md) (w : Nat) : Md :=
  let s := s.u_wTold (va_up s.wTold w true)
  let s := s.u_wCame (va_up s.wCame w false)
  let s := s.u_tMany (upd s.tMany w ((s.wMany w)))
  let s := s.u_tSum (vp_updL s.tSum w ((s.wSum w)))
  let s := s.u_tLeast (upd s.tLeast w ((s.wLeast w)))
  let s := s.u_tMost (upd s.tMost w ((s.wMost w)))
  s
def md_tell (s : Md) (r w : Nat) : Md := md_told (md_res s r w 1 (mw s w).2.2.1) w
def md_back (s : Md) (r w : Nat) : Md := md_res s r w (-1) (mw s w).2.2.2
set_option maxRecDepth 100000 in
theorem lp_told {G : rv_G} {σ0 σ : rv_S} {y w : Nat} {s : Md} {vw : Int32} (ew : vw = nI w) (hw : w < 120) (h : MI σ0 σ y (md y s)) :
    rv_V G m_Model_tell 0 0 (fun q σ' => q = none ∧ MI σ0 σ' y (md y (md_told s w))) 30 [some (.ref y), some (.int vw)] [] σ 0 0 := by
  refine rv_V.run rv_gd_Model_tell [] 400 ?_
  refine Exists.intro _ (And.intro h.ob ?_)
  refine h.s28 ew hw true rfl (fun σ h => ?_)
  refine Exists.intro _ (And.intro h.ob ?_)
  refine h.s29 ew hw false rfl (fun σ h => ?_)
  refine Exists.intro _ (And.intro h.ob ?_)
  refine Exists.intro _ (And.intro h.ob ?_)
  refine h.l24 ew hw ?_
  refine h.s30 ew hw (fun σ h => ?_)
  refine Exists.intro _ (And.intro h.ob ?_)
  refine Exists.intro _ (And.intro h.ob ?_)
  refine h.l25 ew hw ?_
  refine h.s31 ew hw (fun σ h => ?_)
  refine Exists.intro _ (And.intro h.ob ?_)
  refine Exists.intro _ (And.intro h.ob ?_)
  refine h.l26 ew hw ?_
  refine h.s32 ew hw (fun σ h => ?_)
  refine Exists.intro _ (And.intro h.ob ?_)
  refine Exists.intro _ (And.intro h.ob ?_)
  refine h.l27 ew hw ?_
  refine h.s33 ew hw (fun σ h => ?_)
  exact ⟨rfl, h⟩
set_option maxRecDepth 100000 in
theorem rt_tell {G : rv_G} {σ0 σ : rv_S} {y w r : Nat} {s : Md} {vw : Int32} (ew : vw = nI w) (hw : w < 120) (er : s.nres = nI r) (hr : r ≤ 400) (h : MI σ0 σ y (md y s)) :
    rv_Ct G i_Model_tell 0 0 [.ref y, .int vw] σ (fun q σ' => q = none ∧ MI σ0 σ' y (md y (md_tell s r w))) := by
  refine rv_ct (M := m_Model_tell) rfl (by decide) rfl rfl ?_
  refine rv_V.run rv_gd_Model_tell [30] 400 ?_
  refine Exists.intro _ (And.intro h.ob ?_)
  refine h.l24 ew hw ?_
  refine Exists.intro _ (And.intro h.ob ?_)
  refine h.l25 ew hw ?_
  refine Exists.intro _ (And.intro h.ob ?_)
  refine h.l26 ew hw ?_
  refine Exists.intro _ (And.intro h.ob ?_)
  refine h.l27 ew hw ?_
  refine And.intro (Exists.intro _ h.ob) ?_
  refine ⟨_, _, _, rt_result ew hw er hr h, Nat.zero_le _, Nat.zero_le _, rfl, ?_⟩
  rintro _ σ ⟨rfl, h⟩
  exact lp_told ew hw h
set_option maxRecDepth 100000 in
theorem rt_takeBack {G : rv_G} {σ0 σ : rv_S} {y w r : Nat} {s : Md} {vw : Int32} (ew : vw = nI w) (hw : w < 120) (er : s.nres = nI r) (hr : r ≤ 400) (h : MI σ0 σ y (md y s)) :
    rv_Ct G i_Model_takeBack 0 0 [.ref y, .int vw] σ (fun q σ' => q = none ∧ MI σ0 σ' y (md y (md_back s r w))) := by
  refine rv_ct (M := m_Model_takeBack) rfl (by decide) rfl rfl ?_
  refine rv_V.run rv_gd_Model_takeBack [] 400 ?_
  refine Exists.intro _ (And.intro h.ob ?_)
  refine h.l30 ew hw ?_
  refine Exists.intro _ (And.intro h.ob ?_)
  refine h.l31 ew hw ?_
  refine Exists.intro _ (And.intro h.ob ?_)
  refine h.l32 ew hw ?_
  refine Exists.intro _ (And.intro h.ob ?_)
  refine h.l33 ew hw ?_
  refine And.intro (Exists.intro _ h.ob) ?_
  refine ⟨_, _, _, rt_result ew hw er hr h, Nat.zero_le _, Nat.zero_le _, rfl, ?_⟩
  rintro _ σ ⟨rfl, h⟩
  exact ⟨rfl, h⟩
def md_mv (s : Md) (k : Nat) : Md :=
  let s := s.u_wOp (upd s.wOp k ((s.wOp (k + 1))))
  let s := s.u_wKey (upd s.wKey k ((s.wKey (k + 1))))
  let s := s.u_wBeg (upd s.wBeg k ((s.wBeg (k + 1))))
  let s := s.u_wEnd (upd s.wEnd k ((s.wEnd (k + 1))))
  let s := s.u_wMany (upd s.wMany k ((s.wMany (k + 1))))
  let s := s.u_wSum (vp_updL s.wSum k ((s.wSum (k + 1))))
  let s := s.u_wLeast (upd s.wLeast k ((s.wLeast (k + 1))))
  let s := s.u_wMost (upd s.wMost k ((s.wMost (k + 1))))
  let s := s.u_wTold (va_up s.wTold k (s.wTold (k + 1)))
  let s := s.u_wCame (va_up s.wCame k (s.wCame (k + 1)))
  let s := s.u_tMany (upd s.tMany k ((s.tMany (k + 1))))
  let s := s.u_tSum (vp_updL s.tSum k ((s.tSum (k + 1))))
  let s := s.u_tLeast (upd s.tLeast k ((s.tLeast (k + 1))))
  let s := s.u_tMost (upd s.tMost k ((s.tMost (k + 1))))
  s
theorem mv_nwin (s : Md) (k : Nat) : (md_mv s k).nwin = s.nwin := by
  obtain ⟨a, b, c, d, e, f⟩ := s
  rfl
def rm_run : Nat → Nat → Md → Md
  | 0, _, s => s
  | t + 1, k, s => rm_run t (k + 1) (md_mv s k)
def md_rem (s : Md) (n w : Nat) : Md := rm_run (n - 1 - w) w (s.u_nwin (s.nwin - 1))
set_option maxRecDepth 100000 in
theorem lp_mremove {G : rv_G} {σ0 : rv_S} {y m : Nat} {v1 : Int32} (hm : m < 120) (S : Md) : ∀ (t k : Nat) (vk : Int32) (s : Md) (σ : rv_S), vk = nI k → k + t = m → s.nwin = nI m → rm_run t k s = S → MI σ0 σ y (md y s) →
    rv_V G m_Model_remove 0 0 (fun q σ' => q = none ∧ MI σ0 σ' y (md y S)) 12 [some (.ref y), some (.int v1), some (.int vk)] [] σ 0 0 := by
  intro t
  induction t with
  | zero =>
    intro k vk s σ ek h1 hn hS h
    refine rv_V.run rv_gd_Model_remove [12] 400 ?_
    refine Exists.intro _ (And.intro h.ob ?_)
    refine And.intro (fun c1 => ?_) (fun c1 => ?_)
    · subst hS
      exact ⟨rfl, h⟩
    · exact absurd ((rv_leN hn ek (by omega) (by omega)).mpr (by omega)) c1
  | succ t ih =>
    intro k vk s σ ek h1 hn hS h
    have ek1 : vk + 1 = nI (k + 1) := by rw [ek]; exact nI_1 k
    refine rv_V.run rv_gd_Model_remove [12] 400 ?_
    refine Exists.intro _ (And.intro h.ob ?_)
    refine And.intro (fun c1 => ?_) (fun c1 => ?_)
    · exact absurd ((rv_leN hn ek (by omega) (by omega)).mp c1) (by omega)
    refine Exists.intro _ (And.intro h.ob ?_)
    refine Exists.intro _ (And.intro h.ob ?_)
    refine h.l20 ek1 (by omega) ?_
    refine h.s20 ek (by omega) (fun σ h => ?_)
    refine Exists.intro _ (And.intro h.ob ?_)
    refine Exists.intro _ (And.intro h.ob ?_)
    refine h.l21 ek1 (by omega) ?_
    refine h.s21 ek (by omega) (fun σ h => ?_)
    refine Exists.intro _ (And.intro h.ob ?_)
    refine Exists.intro _ (And.intro h.ob ?_)
    refine h.l22 ek1 (by omega) ?_
    refine h.s22 ek (by omega) (fun σ h => ?_)
    refine Exists.intro _ (And.intro h.ob ?_)
    refine Exists.intro _ (And.intro h.ob ?_)
    refine h.l23 ek1 (by omega) ?_
    refine h.s23 ek (by omega) (fun σ h => ?_)
    refine Exists.intro _ (And.intro h.ob ?_)
    refine Exists.intro _ (And.intro h.ob ?_)
    refine h.l24 ek1 (by omega) ?_
    refine h.s24 ek (by omega) (fun σ h => ?_)
    refine Exists.intro _ (And.intro h.ob ?_)
    refine Exists.intro _ (And.intro h.ob ?_)
    refine h.l25 ek1 (by omega) ?_
    refine h.s25 ek (by omega) (fun σ h => ?_)
    refine Exists.intro _ (And.intro h.ob ?_)
    refine Exists.intro _ (And.intro h.ob ?_)
    refine h.l26 ek1 (by omega) ?_
    refine h.s26 ek (by omega) (fun σ h => ?_)
    refine Exists.intro _ (And.intro h.ob ?_)
    refine Exists.intro _ (And.intro h.ob ?_)
    refine h.l27 ek1 (by omega) ?_
    refine h.s27 ek (by omega) (fun σ h => ?_)
    refine Exists.intro _ (And.intro h.ob ?_)
    refine Exists.intro _ (And.intro h.ob ?_)
    refine h.l28 ek1 (by omega) ?_
    refine h.s28 ek (by omega) _ rfl (fun σ h => ?_)
    refine Exists.intro _ (And.intro h.ob ?_)
    refine Exists.intro _ (And.intro h.ob ?_)
    refine h.l29 ek1 (by omega) ?_
    refine h.s29 ek (by omega) _ rfl (fun σ h => ?_)
    refine Exists.intro _ (And.intro h.ob ?_)
    refine Exists.intro _ (And.intro h.ob ?_)
    refine h.l30 ek1 (by omega) ?_
    refine h.s30 ek (by omega) (fun σ h => ?_)
    refine Exists.intro _ (And.intro h.ob ?_)
    refine Exists.intro _ (And.intro h.ob ?_)
    refine h.l31 ek1 (by omega) ?_
    refine h.s31 ek (by omega) (fun σ h => ?_)
    refine Exists.intro _ (And.intro h.ob ?_)
    refine Exists.intro _ (And.intro h.ob ?_)
    refine h.l32 ek1 (by omega) ?_
    refine h.s32 ek (by omega) (fun σ h => ?_)
    refine Exists.intro _ (And.intro h.ob ?_)
    refine Exists.intro _ (And.intro h.ob ?_)
    refine h.l33 ek1 (by omega) ?_
    refine h.s33 ek (by omega) (fun σ h => ?_)
    exact ih (k + 1) (vk + 1) (md_mv s k) σ ek1 (by omega) ((mv_nwin s k).trans hn) hS h
set_option maxRecDepth 100000 in
theorem rt_remove {G : rv_G} {σ0 σ : rv_S} {y w n : Nat} {s : Md} {vw : Int32} (ew : vw = nI w) (hw : w < n) (en : s.nwin = nI n) (hn : n ≤ 120) (h : MI σ0 σ y (md y s)) :
    rv_Ct G i_Model_remove 0 0 [.ref y, .int vw] σ (fun q σ' => q = none ∧ MI σ0 σ' y (md y (md_rem s n w))) := by
  refine rv_ct (M := m_Model_remove) rfl (by decide) rfl rfl ?_
  refine rv_V.run rv_gd_Model_remove [12] 400 ?_
  refine Exists.intro _ (And.intro h.ob ?_)
  refine h.p22 (fun σ h => ?_)
  exact lp_mremove (m := n - 1) (by omega) _ (n - 1 - w) w vw (s.u_nwin (s.nwin - 1)) σ ew (by omega) (by show s.nwin - 1 = _; rw [en]; obtain ⟨t, rfl⟩ : ∃ t, n = t + 1 := ⟨n - 1, by omega⟩; exact nI_pred t) rfl h
def ah (s : Md) (w v : Nat) : Bool := if s.wEnd w = s.wEnd v then (if s.wKey w = s.wKey v then decide (s.wBeg w < s.wBeg v) else decide (s.wKey w < s.wKey v)) else decide (s.wEnd w < s.wEnd v)
set_option maxRecDepth 100000 in
theorem rt_isAhead {G : rv_G} {σ0 σ : rv_S} {y w v : Nat} {s : Md} {vw vv : Int32} (ew : vw = nI w) (hw : w < 120) (ev : vv = nI v) (hv : v < 120) (h : MI σ0 σ y (md y s)) :
    rv_Ct G i_Model_isAhead 0 0 [.ref y, .int vw, .int vv] σ (fun q σ' => q = some (.int (rv_b (ah s w v))) ∧ σ' = σ) := by
  refine rv_ct (M := m_Model_isAhead) rfl (by decide) rfl rfl ?_
  refine rv_V.run rv_gd_Model_isAhead [] 400 ?_
  refine Exists.intro _ (And.intro h.ob ?_)
  refine h.l23 ew hw ?_
  refine Exists.intro _ (And.intro h.ob ?_)
  refine h.l23 ev hv ?_
  refine And.intro (fun c1 => ?_) (fun c1 => ?_)
  · refine Exists.intro _ (And.intro h.ob ?_)
    refine h.l21 ew hw ?_
    refine Exists.intro _ (And.intro h.ob ?_)
    refine h.l21 ev hv ?_
    refine And.intro (fun c2 => ?_) (fun c2 => ?_)
    · refine Exists.intro _ (And.intro h.ob ?_)
      refine h.l22 ew hw ?_
      refine Exists.intro _ (And.intro h.ob ?_)
      refine h.l22 ev hv ?_
      refine And.intro (fun c9 => ?_) (fun c9 => ?_)
      · refine And.intro (Or.inl rfl) ⟨?_, rfl⟩
        unfold ah
        rw [if_pos c1, if_pos c2, decide_eq_false (Int32.not_lt.mpr c9)]; rfl
      · refine And.intro (Or.inr rfl) ⟨?_, rfl⟩
        unfold ah
        rw [if_pos c1, if_pos c2, decide_eq_true (Int32.not_le.mp c9)]; rfl
    · refine Exists.intro _ (And.intro h.ob ?_)
      refine h.l21 ew hw ?_
      refine Exists.intro _ (And.intro h.ob ?_)
      refine h.l21 ev hv ?_
      refine And.intro (fun c9 => ?_) (fun c9 => ?_)
      · refine And.intro (Or.inl rfl) ⟨?_, rfl⟩
        unfold ah
        rw [if_pos c1, if_neg c2, decide_eq_false (Int32.not_lt.mpr c9)]; rfl
      · refine And.intro (Or.inr rfl) ⟨?_, rfl⟩
        unfold ah
        rw [if_pos c1, if_neg c2, decide_eq_true (Int32.not_le.mp c9)]; rfl
  · refine Exists.intro _ (And.intro h.ob ?_)
    refine h.l23 ew hw ?_
    refine Exists.intro _ (And.intro h.ob ?_)
    refine h.l23 ev hv ?_
    refine And.intro (fun c9 => ?_) (fun c9 => ?_)
    · refine And.intro (Or.inl rfl) ⟨?_, rfl⟩
      unfold ah
      rw [if_neg c1, decide_eq_false (Int32.not_lt.mpr c9)]; rfl
    · refine And.intro (Or.inr rfl) ⟨?_, rfl⟩
      unfold ah
      rw [if_neg c1, decide_eq_true (Int32.not_le.mp c9)]; rfl
