/-! THE REFERENCE: the mark moves -/
theorem put_nwin (s : Md) (r w : Nat) (sg : Int32) (t : Tl) : (md_put s r w sg t).nwin = s.nwin := by
  obtain ⟨a, b, c, d, e, f⟩ := s
  rfl
theorem res_nwin (s : Md) (r w : Nat) (sg : Int32) (t : Tl) : (md_res s r w sg t).nwin = s.nwin := by
  unfold md_res
  split
  · exact put_nwin _ _ _ _ _
  · exact put_nwin _ _ _ _ _
theorem told_nwin (s : Md) (w : Nat) : (md_told s w).nwin = s.nwin := by
  obtain ⟨a, b, c, d, e, f⟩ := s
  rfl
theorem back_nwin (s : Md) (r w : Nat) : (md_back s r w).nwin = s.nwin := res_nwin _ _ _ _ _
theorem tell_nwin (s : Md) (r w : Nat) : (md_tell s r w).nwin = s.nwin := (told_nwin _ _).trans (res_nwin _ _ _ _ _)
theorem mv_nres (s : Md) (k : Nat) : (md_mv s k).nres = s.nres := by
  obtain ⟨a, b, c, d, e, f⟩ := s
  rfl
theorem rm_nwin : ∀ (t k : Nat) (s : Md), (rm_run t k s).nwin = s.nwin
  | 0, _, _ => rfl
  | t + 1, k, s => (rm_nwin t (k + 1) (md_mv s k)).trans (mv_nwin s k)
theorem rm_nres : ∀ (t k : Nat) (s : Md), (rm_run t k s).nres = s.nres
  | 0, _, _ => rfl
  | t + 1, k, s => (rm_nres t (k + 1) (md_mv s k)).trans (mv_nres s k)
theorem rem_nwin {s : Md} {n : Nat} (w : Nat) (hn : 0 < n) (en : s.nwin = nI n) : (md_rem s n w).nwin = nI (n - 1) := by
  refine (rm_nwin _ _ _).trans ?_
  show s.nwin - 1 = _
  rw [en]
  obtain ⟨t, rfl⟩ : ∃ t, n = t + 1 := ⟨n - 1, by omega⟩
  exact nI_pred t
theorem rem_nres (s : Md) (n w : Nat) : (md_rem s n w).nres = s.nres := rm_nres _ _ _
theorem du_lt (s : Md) (o : Nat) (g : Bool) : ∀ (t w : Nat) (b : Option Nat) (j : Nat), du_run s o g t w b = some j → (∀ i, b = some i → i < w) → j < w + t
  | 0, w, b, j, h, hb => hb j h
  | t + 1, w, b, j, h, hb => by
    have := du_lt s o g t (w + 1) _ j h (fun i hi => by
      split at hi
      · cases hi; omega
      · have := hb i hi; omega)
    omega
/-- the least promise -/
def ml_run (s : Md) (o : Nat) : Nat → Nat → Int32 → Int32
  | 0, _, a => a
  | t + 1, j, a => ml_run s o t (j + 1) (if s.sOp j = nI o ∧ s.sEnd j = false ∧ s.sProm j < a then s.sProm j else a)
def td_run (o n : Nat) : Nat → Md × Nat → Md × Nat
  | 0, p => p
  | t + 1, p => match du_run p.1 o false n 0 none with
    | none => p
    | some w => td_run o n t (md_tell p.1 p.2 w, rq p.2)
/-- the telling ends -/
def td_ok (o n : Nat) : Nat → Md × Nat → Prop
  | 0, p => du_run p.1 o false n 0 none = none
  | t + 1, p => ∀ w, du_run p.1 o false n 0 none = some w → td_ok o n t (md_tell p.1 p.2 w, rq p.2)
def tr_one (s : Md) (r w o : Nat) : Md × Nat := if s.oRule o = 1 ∧ s.wCame w = true then (md_tell (md_back s r w) (rq r) w, rq (rq r)) else (s, r)
def tr_run (o : Nat) : Nat → Md × Nat → Md × Nat
  | 0, p => p
  | n + 1, p => match du_run p.1 o true (n + 1) 0 none with
    | none => p
    | some w => tr_run o n (md_rem (tr_one p.1 p.2 w o).1 (n + 1) w, (tr_one p.1 p.2 w o).2)
theorem oi_eq {b : Option Nat} {v : Int32} (hv : v = oi b) (hb : ∀ j, b = some j → j < 120) : v = -99999999 ↔ b = none := by
  rw [hv]; exact oi_none hb
set_option maxRecDepth 100000 in
theorem lp_mv3 {G : rv_G} {σ0 : rv_S} {y o : Nat} {vo be le : Int32} (eo : vo = nI o) (ho : o < 5) : ∀ (n r : Nat) (s : Md) (vw : Int32) (σ : rv_S), n ≤ 120 → s.nwin = nI n → s.nres = nI r → r ≤ 400 → vw = oi (du_run s o true n 0 none) → MI σ0 σ y (md y s) →
    rv_V G m_Model_moves 0 0 (fun q σ' => q = some (.int ((tr_run o n (s, r)).1.ever - be)) ∧ MI σ0 σ' y (md y (tr_run o n (s, r)).1)) 125 [some (.ref y), some (.int vo), some (.int be), some (.int le), some (.int vw)] [] σ 0 0 := by
  intro n
  induction n with
  | zero =>
    intro r s vw σ hn en er hr ew h
    refine rv_V.run rv_gd_Model_moves [125] 400 ?_
    refine And.intro (fun c1 => ?_) (fun c1 => ?_)
    · refine Exists.intro _ (And.intro h.ob ?_)
      exact And.intro trivial ⟨rfl, h⟩
    · exact absurd ew c1
  | succ n ih =>
    intro r s vw σ hn en er hr ew h
    have hlt : ∀ j, du_run s o true (n + 1) 0 none = some j → j < n + 1 := fun j hj => by
      have := du_lt s o true (n + 1) 0 none j hj (fun i hi => by cases hi)
      omega
    cases hd : du_run s o true (n + 1) 0 none with
    | none =>
      rw [hd] at ew
      have hR : tr_run o (n + 1) (s, r) = (s, r) := by
        unfold tr_run
        rw [hd]
      rw [hR]
      refine rv_V.run rv_gd_Model_moves [125] 400 ?_
      refine And.intro (fun c1 => ?_) (fun c1 => ?_)
      · refine Exists.intro _ (And.intro h.ob ?_)
        exact And.intro trivial ⟨rfl, h⟩
      · exact absurd ew c1
    | some w =>
      have hw := hlt w hd
      rw [hd] at ew
      have ew' : vw = nI w := ew
      have hR : tr_run o (n + 1) (s, r) = tr_run o n (md_rem (tr_one s r w o).1 (n + 1) w, (tr_one s r w o).2) := by
        conv => lhs; unfold tr_run
        rw [hd]
      rw [hR]
      have at164 : ∀ (s1 : Md) (r1 : Nat) (σ : rv_S), tr_one s r w o = (s1, r1) → s1.nwin = nI (n + 1) → s1.nres = nI r1 → r1 ≤ 400 → MI σ0 σ y (md y s1) → rv_V G m_Model_moves 0 0 (fun q σ' => q = some (.int ((tr_run o n (md_rem (tr_one s r w o).1 (n + 1) w, (tr_one s r w o).2)).1.ever - be)) ∧ MI σ0 σ' y (md y (tr_run o n (md_rem (tr_one s r w o).1 (n + 1) w, (tr_one s r w o).2)).1)) 164 [some (.ref y), some (.int vo), some (.int be), some (.int le), some (.int vw)] [] σ 0 0 := by
        intro s1 r1 σ e1 e2 e3 e4 h
        rw [e1]
        refine rv_V.run rv_gd_Model_moves [125] 400 ?_
        refine And.intro (Exists.intro _ h.ob) ?_
        refine ⟨_, _, _, rt_remove ew' hw e2 hn h, Nat.zero_le _, Nat.zero_le _, rfl, ?_⟩
        rintro _ σ ⟨rfl, h⟩
        have en' := rem_nwin w (Nat.succ_pos n) e2
        refine And.intro (Exists.intro _ h.ob) ?_
        refine ⟨_, _, _, rt_due true eo ho en' (by omega) h, Nat.zero_le _, Nat.zero_le _, rfl, ?_⟩
        rintro _ σ ⟨rfl, rfl⟩
        exact ih r1 (md_rem s1 (n + 1) w) _ σ (by omega) en' ((rem_nres s1 (n + 1) w).trans e3) e4 rfl h
      refine rv_V.run rv_gd_Model_moves [125, 164] 400 ?_
      refine And.intro (fun c1 => ?_) (fun c1 => ?_)
      · have := (oi_eq ew (fun j hj => by cases hj; omega)).mp c1
        cases this
      refine Exists.intro _ (And.intro h.ob ?_)
      refine h.l5 eo ho ?_
      refine And.intro (fun c2 => ?_) (fun c2 => ?_)
      · refine Exists.intro _ (And.intro h.ob ?_)
        refine h.l29 ew' (by omega) ?_
        refine And.intro (fun c3 => ?_) (fun c3 => ?_)
        · exact at164 s r σ (if_neg (fun z => by rw [rv_b0.mp c3] at z; exact absurd z.2 (by decide))) en er hr h
        · refine And.intro (Exists.intro _ h.ob) ?_
          refine ⟨_, _, _, rt_takeBack ew' (by omega) er hr h, Nat.zero_le _, Nat.zero_le _, rfl, ?_⟩
          rintro _ σ ⟨rfl, h⟩
          refine And.intro (Exists.intro _ h.ob) ?_
          refine ⟨_, _, _, rt_tell ew' (by omega) (back_nres w er) (rq_le hr) h, Nat.zero_le _, Nat.zero_le _, rfl, ?_⟩
          rintro _ σ ⟨rfl, h⟩
          exact at164 _ _ σ (if_pos ⟨c2, rv_bn c3⟩) ((tell_nwin _ _ _).trans ((back_nwin _ _ _).trans en)) (tell_nres w (back_nres w er)) (rq_le (rq_le hr)) h
      · exact at164 s r σ (if_neg (fun z => c2 z.1)) en er hr h
set_option maxRecDepth 100000 in
theorem lp_mv2 {G : rv_G} {σ0 : rv_S} {y o n : Nat} {vo be le : Int32} (eo : vo = nI o) (ho : o < 5) (hn : n ≤ 120) : ∀ (t r : Nat) (s : Md) (vw : Int32) (σ : rv_S), s.nwin = nI n → s.nres = nI r → r ≤ 400 → td_ok o n t (s, r) → vw = oi (du_run s o false n 0 none) → MI σ0 σ y (md y s) →
    rv_V G m_Model_moves 0 0 (fun q σ' => q = some (.int ((tr_run o n (td_run o n t (s, r))).1.ever - be)) ∧ MI σ0 σ' y (md y (tr_run o n (td_run o n t (s, r))).1)) 93 [some (.ref y), some (.int vo), some (.int be), some (.int le), some (.int vw)] [] σ 0 0 := by
  have fin : ∀ (r : Nat) (s : Md) (vw : Int32) (σ : rv_S), s.nwin = nI n → s.nres = nI r → r ≤ 400 → MI σ0 σ y (md y s) → rv_V G m_Model_moves 0 0 (fun q σ' => q = some (.int ((tr_run o n (s, r)).1.ever - be)) ∧ MI σ0 σ' y (md y (tr_run o n (s, r)).1)) 117 [some (.ref y), some (.int vo), some (.int be), some (.int le), some (.int vw)] [] σ 0 0 := by
    intro r s vw σ en er hr h
    refine rv_V.run rv_gd_Model_moves [125] 400 ?_
    refine And.intro (Exists.intro _ h.ob) ?_
    refine ⟨_, _, _, rt_due true eo ho en hn h, Nat.zero_le _, Nat.zero_le _, rfl, ?_⟩
    rintro _ σ ⟨rfl, rfl⟩
    exact lp_mv3 eo ho n r s _ σ hn en er hr rfl h
  have hlt : ∀ (s : Md) j, du_run s o false n 0 none = some j → j < n := fun s j hj => by
    have := du_lt s o false n 0 none j hj (fun i hi => by cases hi)
    omega
  intro t
  induction t with
  | zero =>
    intro r s vw σ en er hr hok ew h
    have hd : du_run s o false n 0 none = none := hok
    rw [hd] at ew
    refine rv_V.run rv_gd_Model_moves [93, 117] 400 ?_
    refine And.intro (fun c1 => ?_) (fun c1 => ?_)
    · exact fin r s vw σ en er hr h
    · exact absurd ew c1
  | succ t ih =>
    intro r s vw σ en er hr hok ew h
    cases hd : du_run s o false n 0 none with
    | none =>
      rw [hd] at ew
      have hR : td_run o n (t + 1) (s, r) = (s, r) := by
        unfold td_run
        rw [hd]
      rw [hR]
      refine rv_V.run rv_gd_Model_moves [93, 117] 400 ?_
      refine And.intro (fun c1 => ?_) (fun c1 => ?_)
      · exact fin r s vw σ en er hr h
      · exact absurd ew c1
    | some w =>
      have hw := hlt s w hd
      rw [hd] at ew
      have ew' : vw = nI w := ew
      have hR : td_run o n (t + 1) (s, r) = td_run o n t (md_tell s r w, rq r) := by
        conv => lhs; unfold td_run
        rw [hd]
      rw [hR]
      refine rv_V.run rv_gd_Model_moves [93, 117] 400 ?_
      refine And.intro (fun c1 => ?_) (fun c1 => ?_)
      · have := (oi_eq ew (fun j hj => by cases hj; omega)).mp c1
        cases this
      refine And.intro (Exists.intro _ h.ob) ?_
      refine ⟨_, _, _, rt_tell ew' (by omega) er hr h, Nat.zero_le _, Nat.zero_le _, rfl, ?_⟩
      rintro _ σ ⟨rfl, h⟩
      refine And.intro (Exists.intro _ h.ob) ?_
      refine ⟨_, _, _, rt_due false eo ho ((tell_nwin s r w).trans en) hn h, Nat.zero_le _, Nat.zero_le _, rfl, ?_⟩
      rintro _ σ ⟨rfl, rfl⟩
      exact ih (rq r) (md_tell s r w) _ σ ((tell_nwin s r w).trans en) (tell_nres w er) (rq_le hr) (hok w hd) rfl h
set_option maxRecDepth 100000 in
theorem lp_mv1 {G : rv_G} {σ0 σ : rv_S} {y o ns : Nat} {s : Md} {vo be : Int32} {Rt : Option Value → rv_S → Prop} (eo : vo = nI o) (es : s.nsr = nI ns) (hs : ns ≤ 10) (h : MI σ0 σ y (md y s)) : ∀ (t j : Nat) (vj a : Int32), vj = nI j → j + t = ns → (∀ vj : Int32, rv_V G m_Model_moves 0 0 Rt 66 [some (.ref y), some (.int vo), some (.int be), some (.int (ml_run s o t j a)), some (.int vj)] [] σ 0 0) →
    rv_V G m_Model_moves 0 0 Rt 11 [some (.ref y), some (.int vo), some (.int be), some (.int a), some (.int vj)] [] σ 0 0 := by
  intro t
  induction t with
  | zero =>
    intro j vj a ej h1 fin
    refine rv_V.run rv_gd_Model_moves [11, 66] 400 ?_
    refine Exists.intro _ (And.intro h.ob ?_)
    refine And.intro (fun c1 => ?_) (fun c1 => ?_)
    · exact fin vj
    · exact absurd ((rv_leN es ej (by omega) (by omega)).mpr (by omega)) c1
  | succ t ih =>
    intro j vj a ej h1 fin
    have next : ∀ a' : Int32, ml_run s o (t + 1) j a = ml_run s o t (j + 1) a' → rv_V G m_Model_moves 0 0 Rt 60 [some (.ref y), some (.int vo), some (.int be), some (.int a'), some (.int vj)] [] σ 0 0 := by
      intro a' e1
      refine rv_V.run rv_gd_Model_moves [11] 400 ?_
      refine ih (j + 1) (vj + 1) a' (by rw [ej]; exact nI_1 j) (by omega) ?_
      rw [← e1]
      exact fin
    have no : ¬ (s.sOp j = nI o ∧ s.sEnd j = false ∧ s.sProm j < a) → ml_run s o (t + 1) j a = ml_run s o t (j + 1) a := fun hno => by
      conv => lhs; unfold ml_run
      rw [if_neg hno]
    refine rv_V.run rv_gd_Model_moves [11, 60, 66] 400 ?_
    refine Exists.intro _ (And.intro h.ob ?_)
    refine And.intro (fun c1 => ?_) (fun c1 => ?_)
    · exact absurd ((rv_leN es ej (by omega) (by omega)).mp c1) (by omega)
    refine Exists.intro _ (And.intro h.ob ?_)
    refine h.l7 ej (by omega) ?_
    refine And.intro (fun c2 => ?_) (fun c2 => next a (no (fun z => c2 (by rw [eo]; exact z.1))))
    refine Exists.intro _ (And.intro h.ob ?_)
    refine h.l9 ej (by omega) ?_
    refine And.intro (fun c3 => ?_) (fun c3 => next a (no (fun z => by have := rv_bn c3; rw [z.2.1] at this; cases this)))
    refine Exists.intro _ (And.intro h.ob ?_)
    refine h.l8 ej (by omega) ?_
    refine And.intro (fun c4 => next a (no (fun z => Int32.not_lt.mpr c4 z.2.2))) (fun c4 => ?_)
    refine Exists.intro _ (And.intro h.ob ?_)
    refine h.l8 ej (by omega) ?_
    refine next _ ?_
    conv => lhs; unfold ml_run
    rw [if_pos ⟨by rw [← eo]; exact c2, rv_b0.mp c3, Int32.not_le.mp c4⟩]
def mo_run (s : Md) (o n ns r : Nat) : Md := (tr_run o n (td_run o n 120 (s.u_oMark (upd s.oMark o (ml_run s o ns 0 1000000000)), r))).1
set_option maxRecDepth 100000 in
theorem rt_moves {G : rv_G} {σ0 σ : rv_S} {y o n ns r : Nat} {s : Md} {vo : Int32} (eo : vo = nI o) (ho : o < 5) (es : s.nsr = nI ns) (hs : ns ≤ 10) (en : s.nwin = nI n) (hn : n ≤ 120) (er : s.nres = nI r) (hr : r ≤ 400) (hok : td_ok o n 120 (s.u_oMark (upd s.oMark o (ml_run s o ns 0 1000000000)), r)) (h : MI σ0 σ y (md y s)) :
    rv_Ct G i_Model_moves 0 0 [.ref y, .int vo] σ (fun q σ' => q = some (.int (if ml_run s o ns 0 1000000000 ≤ s.oMark o then 0 else (mo_run s o n ns r).ever - s.ever)) ∧ MI σ0 σ' y (md y (if ml_run s o ns 0 1000000000 ≤ s.oMark o then s else mo_run s o n ns r))) := by
  refine rv_ct (M := m_Model_moves) rfl (by decide) rfl rfl ?_
  refine rv_V.run rv_gd_Model_moves [11] 400 ?_
  refine Exists.intro _ (And.intro h.ob ?_)
  refine lp_mv1 eo es hs h ns 0 _ _ rfl (by omega) (fun vj => ?_)
  refine rv_V.run rv_gd_Model_moves [93] 400 ?_
  refine Exists.intro _ (And.intro h.ob ?_)
  refine h.l6 eo ho ?_
  refine And.intro (fun c1 => ?_) (fun c1 => ?_)
  · have hno := Int32.not_le.mpr c1
    rw [if_neg hno, if_neg hno]
    refine Exists.intro _ (And.intro h.ob ?_)
    refine h.s6 eo ho (fun σ h => ?_)
    refine And.intro (Exists.intro _ h.ob) ?_
    refine ⟨_, _, _, rt_due (s := (s.u_oMark (upd s.oMark o (ml_run s o ns 0 1000000000)))) false eo ho en hn h, Nat.zero_le _, Nat.zero_le _, rfl, ?_⟩
    rintro _ σ ⟨rfl, rfl⟩
    exact lp_mv2 eo ho hn 120 r (s.u_oMark (upd s.oMark o (ml_run s o ns 0 1000000000))) _ σ en er hr hok rfl h
  · rw [if_pos (Int32.not_lt.mp c1), if_pos (Int32.not_lt.mp c1)]
    exact And.intro trivial ⟨rfl, h⟩
