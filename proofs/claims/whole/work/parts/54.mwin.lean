/-! THE REFERENCE: a window is shown -/
def wi_cnt (s : Md) (vo k : Int32) (w : Nat) : Nat → Nat → Int32 → Int32
  | 0, _, a => a
  | t + 1, v, a => wi_cnt s vo k w t (v + 1) (a + (if s.wOp v = vo ∧ s.wKey v = k ∧ s.wBeg v < s.wBeg w then 1 else 0))
def wi_run (s : Md) (n : Nat) (vo k i : Int32) : Nat → Nat → Option Nat
  | 0, _ => none
  | t + 1, w => if (s.wOp w = vo ∧ s.wKey w = k) ∧ wi_cnt s vo k w n 0 0 = i then some w else wi_run s n vo k i t (w + 1)
def wi_val (d : Wd) (q : Int32) : Int64 := if q = 0 then d.1.2.2.1.toInt64 else if q = 1 then d.1.2.2.2.toInt64 else if q = 2 then (if d.2.1.1 = true then 1 else 0) else if q = 3 then d.2.2.1.1.toInt64 else if q = 4 then d.2.2.1.2.1 else if q = 5 then d.2.2.1.2.2.1.toInt64 else d.2.2.1.2.2.2.toInt64
def wi_ans (s : Md) (r : Option Nat) (q : Int32) : Int64 := match r with
  | none => -99999999
  | some w => wi_val (mw s w) q
set_option maxRecDepth 100000 in
theorem lp_wcnt {G : rv_G} {σ0 σ : rv_S} {y n w : Nat} {s : Md} {vo k i q vw : Int32} {Rt : Option Value → rv_S → Prop} (en : s.nwin = nI n) (hn : n ≤ 120) (ew : vw = nI w) (hw : w < 120) (h : MI σ0 σ y (md y s)) : ∀ (t v : Nat) (vv a : Int32), vv = nI v → v + t = n → (∀ x7 : Option Value, rv_V G m_Model_window 0 0 Rt 134 [some (.ref y), some (.int vo), some (.int k), some (.int i), some (.int q), some (.int vw), some (.int (wi_cnt s vo k w t v a)), x7] [] σ 0 0) →
    rv_V G m_Model_window 0 0 Rt 70 [some (.ref y), some (.int vo), some (.int k), some (.int i), some (.int q), some (.int vw), some (.int a), some (.int vv)] [] σ 0 0 := by
  intro t
  induction t with
  | zero =>
    intro v vv a ev h1 fin
    refine rv_V.run rv_gd_Model_window [70, 134] 400 ?_
    refine Exists.intro _ (And.intro h.ob ?_)
    refine And.intro (fun c1 => fin _) (fun c1 => ?_)
    exact absurd ((rv_leN en ev (by omega) (by omega)).mpr (by omega)) c1
  | succ t ih =>
    intro v vv a ev h1 fin
    have next : ∀ z : Int32, z = (if s.wOp v = vo ∧ s.wKey v = k ∧ s.wBeg v < s.wBeg w then 1 else 0) → rv_V G m_Model_window 0 0 Rt 125 [some (.ref y), some (.int vo), some (.int k), some (.int i), some (.int q), some (.int vw), some (.int a), some (.int vv)] [.int z, .int a] σ 0 0 := by
      intro z ez
      subst ez
      refine rv_V.run rv_gd_Model_window [70] 400 ?_
      exact ih (v + 1) (vv + 1) _ (by rw [ev]; exact nI_1 v) (by omega) fin
    refine rv_V.run rv_gd_Model_window [70, 125, 134] 400 ?_
    refine Exists.intro _ (And.intro h.ob ?_)
    refine And.intro (fun c1 => ?_) (fun c1 => ?_)
    · exact absurd ((rv_leN en ev (by omega) (by omega)).mp c1) (by omega)
    refine Exists.intro _ (And.intro h.ob ?_)
    refine h.l20 ev (by omega) ?_
    refine And.intro (fun c2 => ?_) (fun c2 => next 0 (by rw [if_neg (fun z => c2 z.1)]))
    refine Exists.intro _ (And.intro h.ob ?_)
    refine h.l21 ev (by omega) ?_
    refine And.intro (fun c3 => ?_) (fun c3 => next 0 (by rw [if_neg (fun z => c3 z.2.1)]))
    refine Exists.intro _ (And.intro h.ob ?_)
    refine h.l22 ev (by omega) ?_
    refine Exists.intro _ (And.intro h.ob ?_)
    refine h.l22 ew hw ?_
    exact And.intro (fun c4 => next 0 (by rw [if_neg (fun z => Int32.not_lt.mpr c4 z.2.2)])) (fun c4 => next 1 (by rw [if_pos ⟨c2, c3, Int32.not_le.mp c4⟩]))
set_option maxRecDepth 100000 in
theorem lp_window {G : rv_G} {σ0 σ : rv_S} {y n : Nat} {s : Md} {vo k i q : Int32} (en : s.nwin = nI n) (hn : n ≤ 120) (h : MI σ0 σ y (md y s)) : ∀ (t w : Nat) (vw : Int32) (x6 x7 : Option Value), vw = nI w → w + t = n →
    rv_V G m_Model_window 0 0 (fun a σ' => a = some (.long (wi_ans s (wi_run s n vo k i t w) q)) ∧ σ' = σ) 30 [some (.ref y), some (.int vo), some (.int k), some (.int i), some (.int q), some (.int vw), x6, x7] [] σ 0 0 := by
  intro t
  induction t with
  | zero =>
    intro w vw x6 x7 ew h1
    refine rv_V.run rv_gd_Model_window [30] 400 ?_
    refine Exists.intro _ (And.intro h.ob ?_)
    refine And.intro (fun c1 => ⟨rfl, rfl⟩) (fun c1 => ?_)
    exact absurd ((rv_leN en ew (by omega) (by omega)).mpr (by omega)) c1
  | succ t ih =>
    intro w vw x6 x7 ew h1
    have hw : w < 120 := by omega
    have next : ∀ x6 x7 : Option Value, ¬ ((s.wOp w = vo ∧ s.wKey w = k) ∧ wi_cnt s vo k w n 0 0 = i) → rv_V G m_Model_window 0 0 (fun a σ' => a = some (.long (wi_ans s (wi_run s n vo k i (t + 1) w) q)) ∧ σ' = σ) 251 [some (.ref y), some (.int vo), some (.int k), some (.int i), some (.int q), some (.int vw), x6, x7] [] σ 0 0 := by
      intro x6 x7 hno
      refine rv_V.run rv_gd_Model_window [30] 400 ?_
      rw [show wi_run s n vo k i (t + 1) w = wi_run s n vo k i t (w + 1) from if_neg hno]
      exact ih (w + 1) (vw + 1) x6 x7 (by rw [ew]; exact nI_1 w) (by omega)
    refine rv_V.run rv_gd_Model_window [30, 70, 251] 400 ?_
    refine Exists.intro _ (And.intro h.ob ?_)
    refine And.intro (fun c1 => ?_) (fun c1 => ?_)
    · exact absurd ((rv_leN en ew (by omega) (by omega)).mp c1) (by omega)
    refine Exists.intro _ (And.intro h.ob ?_)
    refine h.l20 ew hw ?_
    refine And.intro (fun c2 => ?_) (fun c2 => next _ _ (fun z => c2 z.1.1))
    refine Exists.intro _ (And.intro h.ob ?_)
    refine h.l21 ew hw ?_
    refine And.intro (fun c3 => ?_) (fun c3 => next _ _ (fun z => c3 z.1.2))
    refine lp_wcnt en hn ew hw h n 0 _ _ rfl (by omega) (fun x7 => ?_)
    refine rv_V.run rv_gd_Model_window [251] 400 ?_
    refine And.intro (fun c4 => ?_) (fun c4 => next _ _ (fun z => c4 z.2))
    rw [show wi_run s n vo k i (t + 1) w = some w from if_pos ⟨⟨c2, c3⟩, c4⟩]
    show rv_bx _ _ _ _ (fun a σ' => a = some (.long (wi_val (mw s w) q)) ∧ σ' = σ) _ _ _ _ _ _ _ _ _
    unfold wi_val
    refine And.intro (fun c => ?_) (fun c => ?_)
    · rw [if_pos c]
      refine Exists.intro _ (And.intro h.ob ?_)
      refine h.l22 ew hw ?_
      exact ⟨rfl, rfl⟩
    rw [if_neg c]
    refine And.intro (fun c => ?_) (fun c => ?_)
    · rw [if_pos c]
      refine Exists.intro _ (And.intro h.ob ?_)
      refine h.l23 ew hw ?_
      exact ⟨rfl, rfl⟩
    rw [if_neg c]
    refine And.intro (fun c => ?_) (fun c => ?_)
    · rw [if_pos c]
      refine Exists.intro _ (And.intro h.ob ?_)
      refine h.l28 ew hw ?_
      refine And.intro (fun c2 => ?_) (fun c2 => ?_)
      · exact ⟨by rw [if_neg (show ¬ (mw s w).2.1.1 = true from fun z => absurd (show s.wTold w = true from z) (by rw [rv_b0.mp c2]; decide))], rfl⟩
      · exact ⟨by rw [if_pos (show (mw s w).2.1.1 = true from rv_bn c2)], rfl⟩
    rw [if_neg c]
    refine And.intro (fun c => ?_) (fun c => ?_)
    · rw [if_pos c]
      refine Exists.intro _ (And.intro h.ob ?_)
      refine h.l24 ew hw ?_
      exact ⟨rfl, rfl⟩
    rw [if_neg c]
    refine And.intro (fun c => ?_) (fun c => ?_)
    · rw [if_pos c]
      refine Exists.intro _ (And.intro h.ob ?_)
      refine h.l25 ew hw ?_
      exact ⟨rfl, rfl⟩
    rw [if_neg c]
    refine And.intro (fun c => ?_) (fun c => ?_)
    · rw [if_pos c]
      refine Exists.intro _ (And.intro h.ob ?_)
      refine h.l26 ew hw ?_
      exact ⟨rfl, rfl⟩
    rw [if_neg c]
    refine Exists.intro _ (And.intro h.ob ?_)
    refine h.l27 ew hw ?_
    exact ⟨rfl, rfl⟩
set_option maxRecDepth 100000 in
theorem rt_window {G : rv_G} {σ0 σ : rv_S} {y n : Nat} {s : Md} (vo k i q : Int32) (en : s.nwin = nI n) (hn : n ≤ 120) (h : MI σ0 σ y (md y s)) :
    rv_Ct G i_Model_window 0 0 [.ref y, .int vo, .int k, .int i, .int q] σ (fun a σ' => a = some (.long (if rv_in vo 0 (s.nop - 1) = true ∧ ¬ i < 0 ∧ rv_in q 0 6 = true then wi_ans s (wi_run s n vo k i n 0) q else -99999999)) ∧ σ' = σ) := by
  refine rv_ct (M := m_Model_window) rfl (by decide) rfl rfl ?_
  refine rv_V.run rv_gd_Model_window [30] 400 ?_
  refine And.intro (Exists.intro _ h.ob) ?_
  refine ⟨_, _, _, rt_isOp vo h, Nat.zero_le _, Nat.zero_le _, rfl, ?_⟩
  rintro _ σ ⟨rfl, rfl⟩
  refine And.intro (fun c1 => ⟨by rw [if_neg (fun z => by rw [rv_b0.mp c1] at z; exact absurd z.1 (by decide))], rfl⟩) (fun c1 => ?_)
  refine And.intro (fun c2 => ⟨by rw [if_neg (fun z => z.2.1 c2)], rfl⟩) (fun c2 => ?_)
  refine ⟨_, _, _, rt_in q 0 6, Nat.zero_le _, Nat.zero_le _, rfl, ?_⟩
  rintro _ σ ⟨rfl, rfl⟩
  refine And.intro (fun c3 => ⟨by rw [if_neg (fun z => by rw [rv_b0.mp c3] at z; exact absurd z.2.2 (by decide))], rfl⟩) (fun c3 => ?_)
  rw [if_pos ⟨rv_bn c1, c2, rv_bn c3⟩]
  exact lp_window en hn h n 0 _ _ _ rfl (by omega)
