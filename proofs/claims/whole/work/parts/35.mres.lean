/-! THE REFERENCE: its results and windows -/
theorem nI_mul (a b : Nat) : nI a * nI b = nI (a * b) := (Int32.ofNat_mul a b).symm
/-- all records one place down -/
def sh_run : Nat → Nat → (Nat → Int64) → Nat → Int64
  | 0, _, e => e
  | t + 1, k, e => sh_run t (k + 1) (vp_updL e k (e (k + 9)))
def md_put (s : Md) (r w : Nat) (sg : Int32) (t : Tl) : Md :=
  let s := s.u_eRow (vp_updL s.eRow (9 * r + 0) (sg.toInt64))
  let s := s.u_eRow (vp_updL s.eRow (9 * r + 1) ((s.wOp w).toInt64))
  let s := s.u_eRow (vp_updL s.eRow (9 * r + 2) ((s.wKey w).toInt64))
  let s := s.u_eRow (vp_updL s.eRow (9 * r + 3) ((s.wBeg w).toInt64))
  let s := s.u_eRow (vp_updL s.eRow (9 * r + 4) ((s.wEnd w).toInt64))
  let s := s.u_eRow (vp_updL s.eRow (9 * r + 5) (t.1.toInt64))
  let s := s.u_eRow (vp_updL s.eRow (9 * r + 6) (t.2.1))
  let s := s.u_eRow (vp_updL s.eRow (9 * r + 7) (t.2.2.1.toInt64))
  let s := s.u_eRow (vp_updL s.eRow (9 * r + 8) (t.2.2.2.toInt64))
  let s := s.u_nres ((s.nres + 1))
  let s := s.u_ever ((s.ever + 1))
  s
def md_res (s : Md) (r w : Nat) (sg : Int32) (t : Tl) : Md := if r = 400 then md_put ((s.u_eRow (sh_run 3591 0 s.eRow)).u_nres (s.nres - 1)) 399 w sg t else md_put s r w sg t
set_option maxRecDepth 100000 in
theorem rt_put {G : rv_G} {σ0 σ : rv_S} {y w r : Nat} {s : Md} {vw sg many least most : Int32} {sum : Int64} (x8 : Option Value) (ew : vw = nI w) (hw : w < 120) (er : s.nres = nI r) (hr : r < 400) (h : MI σ0 σ y (md y s)) :
    rv_V G m_Model_result_IIIJIIV 0 0 (fun q σ' => q = none ∧ MI σ0 σ' y (md y (md_put s r w sg (many, sum, least, most)))) 54 [some (.ref y), some (.int sg), some (.int vw), some (.int many), some (.long sum), none, some (.int least), some (.int most), x8] [] σ 0 0 := by
  have ea : ∀ k, (9 : Int32) * s.nres + nI k = nI (9 * r + k) := fun k => by rw [er, show (9 : Int32) = nI 9 from rfl, nI_mul, nI_add]
  have e0 : (9 : Int32) * s.nres = nI (9 * r + 0) := by rw [er, show (9 : Int32) = nI 9 from rfl, nI_mul]; rfl
  refine rv_V.run rv_gd_Model_result_IIIJIIV [] 400 ?_
  refine Exists.intro _ (And.intro h.ob ?_)
  refine Exists.intro _ (And.intro h.ob ?_)
  refine h.s34 e0 (by omega) (fun σ h => ?_)
  refine Exists.intro _ (And.intro h.ob ?_)
  refine Exists.intro _ (And.intro h.ob ?_)
  refine h.l20 ew hw ?_
  refine h.s34 (ea 1) (by omega) (fun σ h => ?_)
  refine Exists.intro _ (And.intro h.ob ?_)
  refine Exists.intro _ (And.intro h.ob ?_)
  refine h.l21 ew hw ?_
  refine h.s34 (ea 2) (by omega) (fun σ h => ?_)
  refine Exists.intro _ (And.intro h.ob ?_)
  refine Exists.intro _ (And.intro h.ob ?_)
  refine h.l22 ew hw ?_
  refine h.s34 (ea 3) (by omega) (fun σ h => ?_)
  refine Exists.intro _ (And.intro h.ob ?_)
  refine Exists.intro _ (And.intro h.ob ?_)
  refine h.l23 ew hw ?_
  refine h.s34 (ea 4) (by omega) (fun σ h => ?_)
  refine Exists.intro _ (And.intro h.ob ?_)
  refine h.s34 (ea 5) (by omega) (fun σ h => ?_)
  refine Exists.intro _ (And.intro h.ob ?_)
  refine h.s34 (ea 6) (by omega) (fun σ h => ?_)
  refine Exists.intro _ (And.intro h.ob ?_)
  refine h.s34 (ea 7) (by omega) (fun σ h => ?_)
  refine Exists.intro _ (And.intro h.ob ?_)
  refine h.s34 (ea 8) (by omega) (fun σ h => ?_)
  refine Exists.intro _ (And.intro h.ob ?_)
  refine h.p37  (fun σ h => ?_)
  refine Exists.intro _ (And.intro h.ob ?_)
  refine h.p38  (fun σ h => ?_)
  exact ⟨rfl, h⟩
set_option maxRecDepth 100000 in
theorem lp_shift {G : rv_G} {σ0 : rv_S} {y : Nat} {vw sg many least most : Int32} {sum : Int64} {Rt : Option Value → rv_S → Prop} (s : Md) (fin : ∀ (x8 : Option Value) (σ : rv_S), MI σ0 σ y (md y ((s.u_eRow (sh_run 3591 0 s.eRow)).u_nres (s.nres - 1))) → rv_V G m_Model_result_IIIJIIV 0 0 Rt 54 [some (.ref y), some (.int sg), some (.int vw), some (.int many), some (.long sum), none, some (.int least), some (.int most), x8] [] σ 0 0) : ∀ (t k : Nat) (vk : Int32) (e : Nat → Int64) (σ : rv_S), vk = nI k → k + t = 3591 → sh_run t k e = sh_run 3591 0 s.eRow → MI σ0 σ y (md y (s.u_eRow e)) →
    rv_V G m_Model_result_IIIJIIV 0 0 Rt 13 [some (.ref y), some (.int sg), some (.int vw), some (.int many), some (.long sum), none, some (.int least), some (.int most), some (.int vk)] [] σ 0 0 := by
  intro t
  induction t with
  | zero =>
    intro k vk e σ ek h1 h2 h
    refine rv_V.run rv_gd_Model_result_IIIJIIV [13, 54] 400 ?_
    refine And.intro (fun c1 => ?_) (fun c1 => ?_)
    · refine Exists.intro _ (And.intro h.ob ?_)
      refine h.p37 (fun σ h => ?_)
      refine fin _ σ ?_
      rw [← h2]
      exact h
    · exact absurd ((rv_leN (a := 3591) rfl ek (by omega) (by omega)).mpr (by omega)) c1
  | succ t ih =>
    intro k vk e σ ek h1 h2 h
    have e9 : vk + 9 = nI (k + 9) := by rw [ek, show (9 : Int32) = nI 9 from rfl, nI_add]
    refine rv_V.run rv_gd_Model_result_IIIJIIV [13, 54] 400 ?_
    refine And.intro (fun c1 => ?_) (fun c1 => ?_)
    · exact absurd ((rv_leN (a := 3591) rfl ek (by omega) (by omega)).mp c1) (by omega)
    refine Exists.intro _ (And.intro h.ob ?_)
    refine Exists.intro _ (And.intro h.ob ?_)
    refine h.l34 e9 (by omega) ?_
    refine h.s34 ek (by omega) (fun σ h => ?_)
    exact ih (k + 1) (vk + 1) (vp_updL e k (e (k + 9))) σ (by rw [ek]; exact nI_1 k) (by omega) h2 h
set_option maxRecDepth 100000 in
theorem rt_result {G : rv_G} {σ0 σ : rv_S} {y w r : Nat} {s : Md} {vw sg many least most : Int32} {sum : Int64} (ew : vw = nI w) (hw : w < 120) (er : s.nres = nI r) (hr : r ≤ 400) (h : MI σ0 σ y (md y s)) :
    rv_Ct G i_Model_result_IIIJIIV 0 0 [.ref y, .int sg, .int vw, .int many, .long sum, .int least, .int most] σ (fun q σ' => q = none ∧ MI σ0 σ' y (md y (md_res s r w sg (many, sum, least, most)))) := by
  refine rv_ct (M := m_Model_result_IIIJIIV) rfl (by decide) rfl rfl ?_
  refine rv_V.run rv_gd_Model_result_IIIJIIV [13, 54] 400 ?_
  refine Exists.intro _ (And.intro h.ob ?_)
  refine And.intro (fun c1 => ?_) (fun c1 => ?_)
  · have hr4 : r = 400 := (nI_eq (a := r) (b := 400) (by omega) (by decide)).mp (by rw [← er]; exact c1)
    refine lp_shift s (fun x8 σ h => ?_) 3591 0 _ s.eRow σ rfl rfl rfl h
    refine (rt_put (r := 399) x8 ew hw (by show s.nres - 1 = _; rw [er, hr4]; exact nI_pred 399) (by decide) h).mono ?_
    rintro q σ' ⟨k1, k2⟩
    refine ⟨k1, ?_⟩
    rw [show md_res s r w sg (many, sum, least, most) = _ from if_pos hr4]
    exact k2
  · have hr4 : ¬ r = 400 := fun z => c1 (by rw [show (s.nres = _) from er, z]; rfl)
    refine (rt_put _ ew hw er (by omega) h).mono ?_
    rintro q σ' ⟨k1, k2⟩
    refine ⟨k1, ?_⟩
    rw [show md_res s r w sg (many, sum, least, most) = _ from if_neg hr4]
    exact k2
