/-! THE REFERENCE: a row that came, a row aside -/
def md_cm1 (s : Md) (m : Nat) (vs k time v : Int32) (u : Bool) : Md :=
  let s := s.u_rSrc (upd s.rSrc m (vs))
  let s := s.u_rKey (upd s.rKey m (k))
  let s := s.u_rTime (upd s.rTime m (time))
  let s := s.u_rV (upd s.rV m (v))
  let s := s.u_rUsed (va_up s.rUsed m u)
  let s := s.u_nrow ((s.nrow + 1))
  s
def md_cm2 (s : Md) (j : Nat) (u : Bool) : Md := if u = true then s.u_sUsed (upd s.sUsed j (s.sUsed j + 1)) else s.u_sAside (upd s.sAside j (s.sAside j + 1))
def md_cm4 (s : Md) (j : Nat) : Md := s.u_sBrok (upd s.sBrok j (s.sBrok j + 1))
def md_cm3 (s : Md) (j : Nat) (time : Int32) : Md := if time < s.sProm j then md_cm4 (if s.sBrok j = 0 then s.u_sFirst (upd s.sFirst j time) else s) j else s
def md_came (s : Md) (m j : Nat) (vs k time v : Int32) (u : Bool) : Md := md_cm3 (md_cm2 (md_cm1 s m vs k time v u) j u) j time
set_option maxRecDepth 100000 in
theorem lp_came4 {G : rv_G} {σ0 σ : rv_S} {y j : Nat} {s : Md} {vs k time v : Int32} {u : Bool} (ej : vs = nI j) (hj : j < 10) (h : MI σ0 σ y (md y s)) :
    rv_V G m_Model_came 0 0 (fun q σ' => q = none ∧ MI σ0 σ' y (md y (md_cm4 s j))) 116 [some (.ref y), some (.int vs), some (.int k), some (.int time), some (.int v), some (.int (rv_b u))] [] σ 0 0 := by
  refine rv_V.run rv_gd_Model_came [] 400 ?_
  refine Exists.intro _ (And.intro h.ob ?_)
  refine h.l13 ej hj ?_
  refine h.s13 ej hj (fun σ h => ?_)
  exact ⟨rfl, h⟩
set_option maxRecDepth 100000 in
theorem lp_came3 {G : rv_G} {σ0 σ : rv_S} {y j : Nat} {s : Md} {vs k time v : Int32} {u : Bool} (ej : vs = nI j) (hj : j < 10) (h : MI σ0 σ y (md y s)) :
    rv_V G m_Model_came 0 0 (fun q σ' => q = none ∧ MI σ0 σ' y (md y (md_cm3 s j time))) 90 [some (.ref y), some (.int vs), some (.int k), some (.int time), some (.int v), some (.int (rv_b u))] [] σ 0 0 := by
  refine rv_V.run rv_gd_Model_came [116] 400 ?_
  refine Exists.intro _ (And.intro h.ob ?_)
  refine h.l8 ej hj ?_
  refine And.intro (fun c1 => ?_) (fun c1 => ?_)
  · refine ⟨rfl, ?_⟩
    rw [show md_cm3 s j time = s from if_neg (Int32.not_lt.mpr c1)]
    exact h
  · rw [show md_cm3 s j time = _ from if_pos (Int32.not_le.mp c1)]
    refine Exists.intro _ (And.intro h.ob ?_)
    refine h.l13 ej hj ?_
    refine And.intro (fun c2 => ?_) (fun c2 => ?_)
    · refine Exists.intro _ (And.intro h.ob ?_)
      refine h.s14 ej hj (fun σ h => ?_)
      rw [if_pos c2]
      exact lp_came4 ej hj h
    · rw [if_neg c2]
      exact lp_came4 ej hj h
set_option maxRecDepth 100000 in
theorem lp_came2 {G : rv_G} {σ0 σ : rv_S} {y j : Nat} {s : Md} {vs k time v : Int32} {u : Bool} (ej : vs = nI j) (hj : j < 10) (h : MI σ0 σ y (md y s)) :
    rv_V G m_Model_came 0 0 (fun q σ' => q = none ∧ MI σ0 σ' y (md y (md_cm3 (md_cm2 s j u) j time))) 62 [some (.ref y), some (.int vs), some (.int k), some (.int time), some (.int v), some (.int (rv_b u))] [] σ 0 0 := by
  refine rv_V.run rv_gd_Model_came [90] 400 ?_
  refine And.intro (fun c1 => ?_) (fun c1 => ?_)
  · rw [show md_cm2 s j u = _ from if_neg (by rw [rv_b0.mp c1]; decide)]
    refine Exists.intro _ (And.intro h.ob ?_)
    refine h.l12 ej hj ?_
    refine h.s12 ej hj (fun σ h => ?_)
    exact lp_came3 ej hj h
  · rw [show md_cm2 s j u = _ from if_pos (rv_bn c1)]
    refine Exists.intro _ (And.intro h.ob ?_)
    refine h.l11 ej hj ?_
    refine h.s11 ej hj (fun σ h => ?_)
    exact lp_came3 ej hj h
set_option maxRecDepth 100000 in
theorem rt_came {G : rv_G} {σ0 σ : rv_S} {y j m : Nat} {s : Md} {vs : Int32} (k time v : Int32) (u : Bool) (ej : vs = nI j) (hj : j < 10) (en : s.nrow = nI m) (hm : m < 300) (h : MI σ0 σ y (md y s)) :
    rv_Ct G i_Model_came 0 0 [.ref y, .int vs, .int k, .int time, .int v, .int (rv_b u)] σ (fun q σ' => q = none ∧ MI σ0 σ' y (md y (md_came s m j vs k time v u))) := by
  refine rv_ct (M := m_Model_came) rfl (by decide) rfl rfl ?_
  refine rv_V.run rv_gd_Model_came [62] 400 ?_
  refine Exists.intro _ (And.intro h.ob ?_)
  refine Exists.intro _ (And.intro h.ob ?_)
  refine h.s15 en (by omega) (fun σ h => ?_)
  refine Exists.intro _ (And.intro h.ob ?_)
  refine Exists.intro _ (And.intro h.ob ?_)
  refine h.s16 en (by omega) (fun σ h => ?_)
  refine Exists.intro _ (And.intro h.ob ?_)
  refine Exists.intro _ (And.intro h.ob ?_)
  refine h.s17 en (by omega) (fun σ h => ?_)
  refine Exists.intro _ (And.intro h.ob ?_)
  refine Exists.intro _ (And.intro h.ob ?_)
  refine h.s18 en (by omega) (fun σ h => ?_)
  refine Exists.intro _ (And.intro h.ob ?_)
  refine Exists.intro _ (And.intro h.ob ?_)
  refine h.s19 en (by omega) u rfl (fun σ h => ?_)
  refine Exists.intro _ (And.intro h.ob ?_)
  refine h.p16  (fun σ h => ?_)
  exact lp_came2 ej hj h
def md_ap (s : Md) (a : Nat) (vs k time v why : Int32) : Md :=
  let s := s.u_aRow (upd s.aRow (5 * a + 0) (vs))
  let s := s.u_aRow (upd s.aRow (5 * a + 1) (k))
  let s := s.u_aRow (upd s.aRow (5 * a + 2) (time))
  let s := s.u_aRow (upd s.aRow (5 * a + 3) (v))
  let s := s.u_aRow (upd s.aRow (5 * a + 4) (why))
  let s := s.u_nas ((s.nas + 1))
  s
def sh5 : Nat → Nat → (Nat → Int32) → Nat → Int32
  | 0, _, e => e
  | t + 1, k, e => sh5 t (k + 1) (upd e k (e (k + 5)))
def pa_run (s : Md) (a b j : Nat) (vs k time v why : Int32) : Bool × Md :=
  if a = b then (if s.rul = 1 then (false, s.u_sStop (va_up s.sStop j true)) else if a = 0 then (true, s.u_drp (s.drp + 1)) else (true, md_ap (((s.u_drp (s.drp + 1)).u_aRow (sh5 (5 * (a - 1)) 0 s.aRow)).u_nas (s.nas - 1)) (a - 1) vs k time v why)) else (true, md_ap s a vs k time v why)
set_option maxRecDepth 100000 in
theorem lp_ap {G : rv_G} {σ0 σ : rv_S} {y a : Nat} {s : Md} {vs k time v why : Int32} (x6 : Option Value) (e : s.nas = nI a) (ha : a ≤ 100) (h : MI σ0 σ y (md y s)) :
    rv_V G m_Model_putAside 0 0 (fun q σ' => q = some (.int 1) ∧ MI σ0 σ' y (md y (md_ap s a vs k time v why))) 98 [some (.ref y), some (.int vs), some (.int k), some (.int time), some (.int v), some (.int why), x6] [] σ 0 0 := by
  have ea : ∀ k, (5 : Int32) * s.nas + nI k = nI (5 * a + k) := fun k => by rw [e, show (5 : Int32) = nI 5 from rfl, nI_mul, nI_add]
  have e0 : (5 : Int32) * s.nas = nI (5 * a + 0) := by rw [e, show (5 : Int32) = nI 5 from rfl, nI_mul]; rfl
  refine rv_V.run rv_gd_Model_putAside [] 400 ?_
  refine Exists.intro _ (And.intro h.ob ?_)
  refine Exists.intro _ (And.intro h.ob ?_)
  refine h.s35 e0 (by omega) (fun σ h => ?_)
  refine Exists.intro _ (And.intro h.ob ?_)
  refine h.s35 (ea 1) (by omega) (fun σ h => ?_)
  refine Exists.intro _ (And.intro h.ob ?_)
  refine h.s35 (ea 2) (by omega) (fun σ h => ?_)
  refine Exists.intro _ (And.intro h.ob ?_)
  refine h.s35 (ea 3) (by omega) (fun σ h => ?_)
  refine Exists.intro _ (And.intro h.ob ?_)
  refine h.s35 (ea 4) (by omega) (fun σ h => ?_)
  refine Exists.intro _ (And.intro h.ob ?_)
  refine h.p40  (fun σ h => ?_)
  exact And.intro (Or.inr rfl) ⟨rfl, h⟩
set_option maxRecDepth 100000 in
theorem lp_sh5 {G : rv_G} {σ0 : rv_S} {y N : Nat} {vs k time v why : Int32} {Rt : Option Value → rv_S → Prop} (s : Md) (hN : N ≤ 500) (eN : (5 : Int32) * (s.nas - 1) = nI N) (fin : ∀ (x6 : Option Value) (σ : rv_S), MI σ0 σ y (md y (s.u_aRow (sh5 N 0 s.aRow))) → rv_V G m_Model_putAside 0 0 Rt 76 [some (.ref y), some (.int vs), some (.int k), some (.int time), some (.int v), some (.int why), x6] [] σ 0 0) : ∀ (t i : Nat) (vi : Int32) (e : Nat → Int32) (σ : rv_S), vi = nI i → i + t = N → sh5 t i e = sh5 N 0 s.aRow → MI σ0 σ y (md y (s.u_aRow e)) →
    rv_V G m_Model_putAside 0 0 Rt 41 [some (.ref y), some (.int vs), some (.int k), some (.int time), some (.int v), some (.int why), some (.int vi)] [] σ 0 0 := by
  intro t
  induction t with
  | zero =>
    intro i vi e σ ei h1 h2 h
    refine rv_V.run rv_gd_Model_putAside [41, 76] 400 ?_
    refine Exists.intro _ (And.intro h.ob ?_)
    refine And.intro (fun c1 => ?_) (fun c1 => ?_)
    · refine fin _ σ ?_
      rw [← h2]
      exact h
    · exact absurd ((rv_leN eN ei (by omega) (by omega)).mpr (by omega)) c1
  | succ t ih =>
    intro i vi e σ ei h1 h2 h
    have e5 : vi + 5 = nI (i + 5) := by rw [ei, show (5 : Int32) = nI 5 from rfl, nI_add]
    refine rv_V.run rv_gd_Model_putAside [41, 76] 400 ?_
    refine Exists.intro _ (And.intro h.ob ?_)
    refine And.intro (fun c1 => ?_) (fun c1 => ?_)
    · exact absurd ((rv_leN eN ei (by omega) (by omega)).mp c1) (by omega)
    refine Exists.intro _ (And.intro h.ob ?_)
    refine Exists.intro _ (And.intro h.ob ?_)
    refine h.l35 e5 (by omega) ?_
    refine h.s35 ei (by omega) (fun σ h => ?_)
    exact ih (i + 1) (vi + 1) (upd e i (e (i + 5))) σ (by rw [ei]; exact nI_1 i) (by omega) h2 h
set_option maxRecDepth 100000 in
theorem rt_putAside {G : rv_G} {σ0 σ : rv_S} {y a b j : Nat} {s : Md} {vs : Int32} (k time v why : Int32) (ej : vs = nI j) (hj : j < 10) (e : s.nas = nI a) (ha : a ≤ 100) (eb : s.bnd = nI b) (hb : b ≤ 100) (h : MI σ0 σ y (md y s)) :
    rv_Ct G i_Model_putAside 0 0 [.ref y, .int vs, .int k, .int time, .int v, .int why] σ (fun q σ' => q = some (.int (rv_b (pa_run s a b j vs k time v why).1)) ∧ MI σ0 σ' y (md y (pa_run s a b j vs k time v why).2)) := by
  refine rv_ct (M := m_Model_putAside) rfl (by decide) rfl rfl ?_
  refine rv_V.run rv_gd_Model_putAside [41, 98] 400 ?_
  refine Exists.intro _ (And.intro h.ob ?_)
  refine Exists.intro _ (And.intro h.ob ?_)
  refine And.intro (fun c1 => ?_) (fun c1 => ?_)
  · have hab : a = b := (nI_eq (by omega) (by omega)).mp (e.symm.trans (Eq.trans c1 eb))
    refine Exists.intro _ (And.intro h.ob ?_)
    refine And.intro (fun c2 => ?_) (fun c2 => ?_)
    · refine Exists.intro _ (And.intro h.ob ?_)
      refine h.s10 ej hj true rfl (fun σ h => ?_)
      rw [show pa_run s a b j vs k time v why = _ from (if_pos hab).trans (if_pos c2)]
      exact And.intro (Or.inl rfl) ⟨rfl, h⟩
    · refine Exists.intro _ (And.intro h.ob ?_)
      refine h.p44 (fun σ h => ?_)
      rcases Nat.eq_zero_or_pos a with ha0 | ha0
      · rw [show pa_run s a b j vs k time v why = _ from (if_pos hab).trans ((if_neg c2).trans (if_pos ha0))]
        have en0 : (s.u_drp (s.drp + 1)).nas = 0 := by show s.nas = 0; rw [e, ha0]; rfl
        refine rv_V.run rv_gd_Model_putAside [] 400 ?_
        refine Exists.intro _ (And.intro h.ob ?_)
        refine And.intro (fun c3 => ?_) (fun c3 => ?_)
        · refine Exists.intro _ (And.intro h.ob ?_)
          refine And.intro (fun c4 => ?_) (fun c4 => ?_)
          · exact And.intro (Or.inr rfl) ⟨rfl, h⟩
          · exact absurd (by rw [show Md.nas (s.u_drp (s.drp + 1)) = 0 from en0]; decide) c4
        · exact absurd (by show (5 : Int32) * (s.nas - 1) ≤ 0; rw [e, ha0]; decide) c3
      · obtain ⟨a', rfl⟩ : ∃ a', a = a' + 1 := ⟨a - 1, by omega⟩
        rw [show pa_run s (a' + 1) b j vs k time v why = _ from (if_pos hab).trans ((if_neg c2).trans (if_neg (by omega)))]
        refine lp_sh5 (N := 5 * a') (s.u_drp (s.drp + 1)) (by omega) (by show (5 : Int32) * (s.nas - 1) = _; rw [e, nI_pred, show (5 : Int32) = nI 5 from rfl, nI_mul]) (fun x6 σ h => ?_) (5 * a') 0 _ s.aRow σ rfl (by omega) rfl h
        refine rv_V.run rv_gd_Model_putAside [98] 400 ?_
        refine Exists.intro _ (And.intro h.ob ?_)
        refine And.intro (fun c4 => ?_) (fun c4 => ?_)
        · exact absurd c4 (by show ¬ s.nas ≤ 0; rw [e]; exact nI_nle (by omega) (by omega))
        · refine Exists.intro _ (And.intro h.ob ?_)
          refine h.p40 (fun σ h => ?_)
          exact lp_ap _ (by show s.nas - 1 = _; rw [e]; exact nI_pred a') (by omega) h
  · rw [show pa_run s a b j vs k time v why = (true, md_ap s a vs k time v why) from if_neg (fun z => c1 (by rw [show Md.nas s = _ from e, show Md.bnd s = _ from eb, z]))]
    exact lp_ap _ e ha h
