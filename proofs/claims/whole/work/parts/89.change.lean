/-! BOTH SIDES: calls that change what there is -/
theorem oi_le {a b : Nat} (ha : a < 2 ^ 31) (hb : b < 2 ^ 31) : nI a ≤ nI b ↔ a ≤ b := rv_leN rfl rfl ha hb
section
variable {G : rv_G} {x : Nat} {σ : rv_S}
theorem step_bound (hI : INV x σ) (m rule : Int32) : STEP G Value.int i_Late_bound i_Model_bound 0 0 x [.int m, .int rule] σ := by
  have hI0 := hI
  obtain ⟨no, oa, od, ns, sa, sd, nr, ra, rs, rd, n, p, D, R, na, aq, b, rl, dr, ps, s, hL, hM, ρ, hO, hS, ⟨hW, hρ⟩, hIw, hRw, hA, hP⟩ := hI
  refine (ct_bound (G := G) hL.1.1.1 hL.2.2.2.2.2.1 m rule).mono ?_
  rintro _ σ1 ⟨rfl, hσ⟩
  by_cases hc : (rv_in m 0 100 = true ∧ rv_in rule 0 1 = true) ∧ nI na ≤ m
  · rw [if_pos hc] at hσ
    subst hσ
    obtain ⟨b', hb, rfl⟩ := (in_nI (n := 101) (by omega)).mp hc.1.1
    have hnb : na ≤ b' := (oi_le (by have := hA.2.1; have := hA.2.2.1; omega) (by omega)).mp hc.2
    have hk : rv_only (LF x (x + 411)) σ.2 (rv_up σ.2 x (oLate x (nI no) (nI ns) R.2.2 (nI b') rule dr)) := rv_only.up (Or.inl ⟨Nat.le_refl _, by omega⟩)
    have hL1 := hL.bd (b' := b') (rl' := rule) (by omega)
    have hM1 := hM.cls (σ' := (σ.1, rv_up σ.2 x (oLate x (nI no) (nI ns) R.2.2 (nI b') rule dr))) hk
    refine ⟨⟨LF.lb hk, _, hM1.ob⟩, _, rfl, (rt_bound (G := G) (nI b') rule hM1).mono ?_⟩
    rintro _ σ2 ⟨rfl, hM2⟩
    rw [hA.1, if_pos hc] at hM2
    rw [hA.1]
    refine ⟨rfl, ?_, mdS.lb hM2.2.2⟩
    obtain ⟨⟨q1, q2, q3, q4, q5, q6, q7, q8, q9, q10, -, -, -, -, q15⟩, p1, p2, p3, p4, p5, p6, p7⟩ := bnd_all s (nI b') rule
    exact ⟨no, oa, od, ns, sa, sd, nr, ra, rs, rd, n, p, D, R, na, aq, b', rule, dr, ps, _, hL1.ref hM2, hM2.self, ρ, hO.of q1 p1, hS.of q2 p2, ⟨hW.of (mw_of p4) q4 q5 q6 p5, fun j hj => by rw [(st_O1 p1).2.2.2]; exact hρ j hj⟩, hIw, hRw.of q3 p3, ⟨q7.trans hA.1, hnb, by omega, q8, q9, q10.trans hA.2.2.2.2.2.1, fun j hj k hk => by rw [p6]; exact hA.2.2.2.2.2.2 j hj k hk⟩, hP.of q15 p7⟩
  · rw [if_neg hc] at hσ
    subst hσ
    refine ⟨⟨rv_only.rf, hI0.ob⟩, _, rfl, (rt_bound (G := G) m rule hM).mono ?_⟩
    rintro _ σ2 ⟨rfl, hM2⟩
    rw [hA.1, if_neg hc] at hM2
    rw [hA.1]
    exact ⟨rfl, ⟨no, oa, od, ns, sa, sd, nr, ra, rs, rd, n, p, D, R, na, aq, b, rl, dr, ps, s, hL.ref hM2, hM2.self, ρ, hO, hS, ⟨hW, hρ⟩, hIw, hRw, hA, hP⟩, mdS.lb hM2.2.2⟩
theorem ms_of (s : Md) (o j : Nat) {c1 c2 : Nat → Int32} {c3 c4 : Nat → Bool} {c5 c6 c7 c8 : Nat → Int32} (h : s.2.2.1 = (c1, c2, c3, c4, c5, c6, c7, c8)) : ms s o j = (o, c2 j, (c3 j, c4 j), c5 j, c6 j, c7 j, c8 j) := by
  unfold ms Md.sProm Md.sEnd Md.sStop Md.sUsed Md.sAside Md.sBrok Md.sFirst
  rw [h]
theorem ts_val : ∀ (t i : Nat) (sd : Nat → Sd) (j : Nat), ts_run t i sd j = if i ≤ j ∧ j < i + t then sd_stop (sd j) false else sd j
  | 0, i, sd, j => by rw [if_neg (by omega)]; rfl
  | t + 1, i, sd, j => by
    unfold ts_run
    rw [ts_val t (i + 1)]
    by_cases z : j = i
    · subst z
      rw [if_neg (by omega), if_pos (by omega), va_up_self]
    · rw [va_up_ne _ _ z]
      by_cases z2 : i + 1 ≤ j ∧ j < i + 1 + t
      · rw [if_pos z2, if_pos (by omega)]
      · rw [if_neg z2, if_neg (by omega)]
theorem tk_val : ∀ (t i : Nat) (e : Nat → Bool) (j : Nat), tk_run t i e j = if i ≤ j ∧ j < i + t then false else e j
  | 0, i, e, j => by rw [if_neg (by omega)]; rfl
  | t + 1, i, e, j => by
    unfold tk_run
    rw [tk_val t (i + 1)]
    by_cases z : j = i
    · subst z
      rw [if_neg (by omega), if_pos (by omega), va_up_self]
    · rw [va_up_ne _ _ z]
      by_cases z2 : i + 1 ≤ j ∧ j < i + 1 + t
      · rw [if_pos z2, if_pos (by omega)]
      · rw [if_neg z2, if_neg (by omega)]
theorem step_take (hI : INV x σ) : STEP G Value.int i_Late_take i_Model_take 0 0 x [] σ := by
  obtain ⟨no, oa, od, ns, sa, sd, nr, ra, rs, rd, n, p, D, R, na, aq, b, rl, dr, ps, s, hL, hM, ρ, hO, hS, ⟨hW, hρ⟩, hIw, hRw, hA, hP⟩ := hI
  refine (ct_take (G := G) hL.1.1.1 hL.2.2.1 hL.2.2.2.2.2.1).mono ?_
  rintro _ σ1 ⟨rfl, e1, hS1, hA1, hk0⟩
  have hk : rv_only (LF x (x + 411)) σ.2 σ1.2 := fun q hq => hk0 q (fun z => hq (by
    rcases z with z | ⟨j, j1, j2⟩
    · exact Or.inl (by omega)
    · exact Or.inr (by rw [j2]; exact hL.2.2.2.2.2.2.2.2.1.2.1 j j1)))
  have hL1 := hL.tk e1 hS1 hA1 hk0
  have hM1 := hM.cls hk
  refine ⟨⟨LF.lb hk, _, hM1.ob⟩, _, rfl, (rt_take (G := G) hM1).mono ?_⟩
  rintro _ σ2 ⟨rfl, hM2⟩
  rw [hA.1]
  refine ⟨rfl, ?_, mdS.lb hM2.2.2⟩
  obtain ⟨⟨q1, q2, q3, q4, q5, q6, q7, q8, q9, q10, -, -, -, -, q15⟩, p1, p2, p3, p4, p5, p6, p7⟩ := take_all s 0 (tk_run 10 0 s.sStop)
  obtain ⟨s1, s2, s3, s4⟩ := hS
  have hms : ∀ o j, j < 10 → ms ((s.u_nas 0).u_sStop (tk_run 10 0 s.sStop)) o j = sd_stop (ms s o j) false := fun o j hj => by
    rw [ms_of _ o j p2, tk_val, if_pos (by omega)]
    rfl
  refine ⟨no, oa, od, ns, sa, ts_run ns 0 sd, nr, ra, rs, rd, n, p, D, R, 0, aq, b, rl, dr, ps, _, hL1.ref hM2, hM2.self, ρ, hO.of q1 p1, ⟨q2.trans s1, s2, fun j hj => ?_, fun j h1 h2 => ?_⟩, ⟨hW.of (mw_of p4) q4 q5 q6 p5, fun j hj => by rw [(st_O1 p1).2.2.2]; exact hρ j hj⟩, hIw, hRw.of q3 p3, ⟨q7, by omega, hA.2.2.1, q8.trans hA.2.2.2.1, q9.trans hA.2.2.2.2.1, q10.trans hA.2.2.2.2.2.1, fun j hj => absurd hj (by omega)⟩, hP.of q15 p7⟩
  · obtain ⟨t1, t2, t3⟩ := s3 j hj
    rw [ts_val, if_pos (by omega)]
    refine ⟨t1, ?_, ?_⟩
    · unfold Md.sOp; rw [p2]; exact t2
    · rw [hms _ j (by omega)]
      show sd_stop (ms s (sd j).1 j) false = _
      rw [t3]
  · rw [hms 0 j h2, s4 j h1 h2]
    rfl
theorem op_ok_od {k sz st l r : Int32} (h : op_ok k sz st l r = true) : odok (od_new k sz st l r) := by
  unfold op_ok at h
  rw [Bool.and_eq_true, Bool.and_eq_true, Bool.and_eq_true, Bool.and_eq_true, Bool.and_eq_true] at h
  obtain ⟨h1, h2, h3, h4, h5, h6⟩ := h
  have i1 := of_decide_eq_true h1
  have i3 := of_decide_eq_true h3
  have i4 := of_decide_eq_true h4
  have i5 := of_decide_eq_true h5
  have k0 : 0 ≤ k.toInt ∧ k.toInt ≤ 2 := ⟨Int32.le_iff_toInt_le.mp i1.1, Int32.le_iff_toInt_le.mp i1.2⟩
  have z0 : 1 ≤ sz.toInt ∧ sz.toInt ≤ 1000000 := ⟨Int32.le_iff_toInt_le.mp i3.1, Int32.le_iff_toInt_le.mp i3.2⟩
  have t0 : 1 ≤ st.toInt ∧ st.toInt ≤ 1000000 := ⟨Int32.le_iff_toInt_le.mp i4.1, Int32.le_iff_toInt_le.mp i4.2⟩
  have l0 : 0 ≤ l.toInt ∧ l.toInt ≤ 1000000 := ⟨Int32.le_iff_toInt_le.mp i5.1, Int32.le_iff_toInt_le.mp i5.2⟩
  have hk : k = 0 ∨ k = 1 ∨ k = 2 := by
    have : k.toInt = 0 ∨ k.toInt = 1 ∨ k.toInt = 2 := by omega
    rcases this with z | z | z
    · exact Or.inl (Int32.toInt_inj.mp z)
    · exact Or.inr (Or.inl (Int32.toInt_inj.mp z))
    · exact Or.inr (Or.inr (Int32.toInt_inj.mp z))
  have e8 : ((8 : Int32) * st).toInt = 8 * st.toInt := by
    rw [tM (by rw [show (8 : Int32).toInt = 8 from rfl]; omega) (by rw [show (8 : Int32).toInt = 8 from rfl]; omega)]
    rfl
  refine ⟨hk, z0, ?_, fun hn => ?_, l0⟩
  · show 1 ≤ (if k = 1 then st else sz).toInt ∧ (if k = 1 then st else sz).toInt ≤ sz.toInt ∧ sz.toInt ≤ 8 * (if k = 1 then st else sz).toInt
    by_cases hk1 : k = 1
    · rw [if_pos hk1]
      have h7 : ¬ (sz < st ∨ 8 * st < sz) := fun z => by
        rw [decide_eq_true hk1] at h6
        rcases z with z | z
        · rw [decide_eq_true z] at h6; cases h6
        · rw [decide_eq_true z] at h6; cases hb : decide (sz < st) <;> rw [hb] at h6 <;> cases h6
      have a1 : ¬ sz.toInt < st.toInt := fun z => h7 (Or.inl (Int32.lt_iff_toInt_lt.mpr z))
      have a2 : ¬ 8 * st.toInt < sz.toInt := fun z => h7 (Or.inr (Int32.lt_iff_toInt_lt.mpr (by rw [e8]; exact z)))
      omega
    · rw [if_neg hk1]; omega
  · exact if_neg hn
theorem WSim.rho {ρ ρ' : Int32 → Int32} {n : Nat} {cw rw : Nat → Wd} (h : WSim ρ n cw rw) (hr : ∀ j, j < n → ρ' (cw j).1.1 = ρ (cw j).1.1) : WSim ρ' n cw rw := by
  obtain ⟨h1, h2, h3, h4⟩ := h
  have key : ∀ j w, j < n → wsim ρ (cw j) (rw w) → wsim ρ' (cw j) (rw w) := fun j w hj hs => by
    obtain ⟨a1, a2, a3, a4, a5⟩ := hs
    exact ⟨a1, a2, a3, a4, by rw [hr j hj]; exact a5⟩
  refine ⟨fun j hj => ?_, fun w hw => ?_, h3, h4⟩
  · obtain ⟨w, w1, w2⟩ := h1 j hj
    exact ⟨w, w1, key j w hj w2⟩
  · obtain ⟨j, j1, j2⟩ := h2 w hw
    exact ⟨j, j1, key j w j1 j2⟩
theorem step_operator (hI : INV x σ) (k sz st l r : Int32) : STEP G Value.int i_Late_operator i_Model_operator 1 7 x [.int k, .int sz, .int st, .int l, .int r] σ := by
  have hI0 := hI
  obtain ⟨no, oa, od, ns, sa, sd, nr, ra, rs, rd, n, p, D, R, na, aq, b, rl, dr, ps, s, hL, hM, ρ, hO, hS, ⟨hW, hρ⟩, hIw, hRw, hA, hP⟩ := hI
  obtain ⟨o1, o2, o3, o4⟩ := hO
  have hxB := hL.2.2.2.2.2.2.2.1
  refine (ct_operator (G := G) hL.1.1.1 hL.2.1 hxB.1 (by omega) k sz st l r).mono ?_
  rintro a σ1 ⟨h1, h2, h3⟩
  by_cases hok : op_ok k sz st l r = true
  · by_cases hn5 : no = 5
    · obtain ⟨rfl, hs⟩ := h2 hok hn5
      subst hs
      refine ⟨⟨rv_only.rf, hI0.ob⟩, _, rfl, (rt_operator (G := G) k sz st l r o1 o2 hM).mono ?_⟩
      rintro _ σ2 ⟨rfl, hM2⟩
      rw [if_neg (fun z => z.2 hn5)] at hM2
      refine ⟨by rw [if_pos hok, if_pos hn5], ⟨no, oa, od, ns, sa, sd, nr, ra, rs, rd, n, p, D, R, na, aq, b, rl, dr, ps, s, hL.ref hM2, hM2.self, ρ, ⟨o1, o2, o3, o4⟩, hS, ⟨hW, hρ⟩, hIw, hRw, hA, hP⟩, mdS.lb hM2.2.2⟩
    · obtain ⟨rfl, e1, hx1, hO1, hk0⟩ := h3 hok (by omega)
      have hk : rv_only (LF x (x + 411)) σ.2 σ1.2 := fun q hq => hk0 q (fun z => hq (by unfold LF; omega))
      have hL1 := hL.op (od_new k sz st l r) e1 hx1 hO1 hk0
      have hM1 := hM.cls hk
      refine ⟨⟨LF.lb hk, _, hM1.ob⟩, _, rfl, (rt_operator (G := G) k sz st l r o1 o2 hM1).mono ?_⟩
      rintro _ σ2 ⟨rfl, hM2⟩
      rw [if_pos ⟨hok, hn5⟩] at hM2
      refine ⟨by rw [if_pos hok, if_neg hn5], ?_, mdS.lb hM2.2.2⟩
      obtain ⟨⟨q1, q2, q3, q4, q5, q6, q7, q8, q9, q10, -, -, -, -, q15⟩, p1, p2, p3, p4, p5, p6, p7⟩ := op_all s no k sz st l r
      have hopl : ∀ j, j < n → ∃ o, o < no ∧ (D (p j)).1.1 = nI o := fun j hj => by
        obtain ⟨o, z1, z2, -⟩ := hIw.1 j hj
        exact ⟨o, z1, z2⟩
      have hodk := op_ok_od hok
      refine ⟨no + 1, va_up oa no σ.1, va_up od no (od_new k sz st l r), ns, sa, sd, nr, ra, rs, rd, n, p, D, R, na, aq, b, rl, dr, ps, _, hL1.ref hM2, hM2.self, fun v => if v = nI no then r else ρ v, ⟨by rw [q1, o1]; exact nI_1 no, by omega, fun j hj => ?_, fun j z1 z2 => ?_⟩, ?_, ⟨?_, fun j hj => ?_⟩, ⟨fun j hj => ?_, fun i j hij hj => ?_, hIw.2.2⟩, hRw.of q3 p3, hA.of q7 q8 q9 q10 p6, hP.of q15 p7⟩
      · unfold Md.oKind Md.oSize Md.oStep Md.oLt Md.oRule Md.oMark
        rw [p1]
        (try dsimp only)
        by_cases z : j = no
        · subst z
          rw [va_up_self, pk_us, pk_us, pk_us, pk_us, pk_us]
          refine ⟨hodk, rfl, rfl, fun hk1 => ?_, rfl, rfl, o4 j (Nat.le_refl _) (by omega)⟩
          exact (if_pos (show k = 1 from hk1)).symm
        · rw [va_up_ne _ _ z, pk_un z, pk_un z, pk_un z, pk_un z, pk_un z]
          exact o3 j (by omega)
      · unfold Md.oMark
        rw [p1]
        exact o4 j (by omega) z2
      · obtain ⟨s1, s2, s3, s4⟩ := hS.of q2 p2
        exact ⟨s1, s2, fun j hj => ⟨by have := (s3 j hj).1; omega, (s3 j hj).2⟩, s4⟩
      · have hW1 := hW.of (mw_of p4) q4 q5 q6 p5
        refine ⟨hW1.1.rho (fun j hj => ?_), hW1.2⟩
        obtain ⟨o, z1, z2⟩ := hopl j hj
        (try dsimp only)
        rw [z2, if_neg (fun z => by have := nI_inj (by omega) (by omega) z; omega)]
      · dsimp only
        unfold Md.oRule
        rw [p1]
        (try dsimp only)
        by_cases z : j = no
        · subst z; rw [if_pos rfl, pk_us]
        · rw [if_neg (fun y => z (nI_inj (by omega) (by omega) y)), pk_un z]; exact hρ j (by omega)
      · obtain ⟨o, z1, z2, z3, z4⟩ := hIw.1 j hj
        refine ⟨o, by omega, z2, z3, ?_⟩
        rw [va_up_ne _ _ (show o ≠ no by omega)]
        exact z4
      · intro u1 u2 o u3 u4 u5
        obtain ⟨o', z1, z2⟩ := hopl i (by omega)
        have : o = o' := nI_inj (by omega) (by omega) (u4.symm.trans z2)
        subst this
        rw [va_up_ne _ _ (show o ≠ no by omega)] at u5
        exact hIw.2.1 i j hij hj u1 u2 o z1 u4 u5
  · obtain ⟨rfl, hs⟩ := h1 hok
    subst hs
    refine ⟨⟨rv_only.rf, hI0.ob⟩, _, rfl, (rt_operator (G := G) k sz st l r o1 o2 hM).mono ?_⟩
    rintro _ σ2 ⟨rfl, hM2⟩
    rw [if_neg (fun z => hok z.1)] at hM2
    exact ⟨by rw [if_neg hok], ⟨no, oa, od, ns, sa, sd, nr, ra, rs, rd, n, p, D, R, na, aq, b, rl, dr, ps, s, hL.ref hM2, hM2.self, ρ, ⟨o1, o2, o3, o4⟩, hS, ⟨hW, hρ⟩, hIw, hRw, hA, hP⟩, mdS.lb hM2.2.2⟩
theorem RwSim.ns {ns ns' nr : Nat} {rs : Nat → Nat} {rd : Nat → Rd} {s : Md} (h : RwSim ns nr rs rd s) (hn : ns ≤ ns') : RwSim ns' nr rs rd s := by
  obtain ⟨a1, a2, ⟨rj, a3, a4⟩, a5⟩ := h
  exact ⟨a1, a2, ⟨rj, fun i hi => ⟨(a3 i hi).1, by have := (a3 i hi).2; omega⟩, a4⟩, a5⟩
theorem step_source (hI : INV x σ) (i : Int32) : STEP G Value.int i_Late_source i_Model_source 1 9 x [.int i] σ := by
  have hI0 := hI
  obtain ⟨no, oa, od, ns, sa, sd, nr, ra, rs, rd, n, p, D, R, na, aq, b, rl, dr, ps, s, hL, hM, ρ, hO, hS, ⟨hW, hρ⟩, hIw, hRw, hA, hP⟩ := hI
  obtain ⟨o1, o2, o3, o4⟩ := hO
  obtain ⟨s1, s2, s3, s4⟩ := hS
  have hxB := hL.2.2.2.2.2.2.2.1
  rcases ix_box i (n := no) (by omega) with ⟨o, ho, rfl⟩ | ⟨ho, hno⟩
  · have hmk : s.oMark o = (od o).2.2.2.2.2 := (o3 o ho).2.2.2.2.2.2
    refine (ct_source (G := G) hL.1.1.1 hL.2.1 hL.2.2.1 ho hxB.1 (by omega)).mono ?_
    rintro a σ1 ⟨h1, h2, h3⟩
    by_cases hm : (od o).2.2.2.2.2 = 1000000000
    · obtain ⟨rfl, hs⟩ := h1 hm
      subst hs
      refine ⟨⟨rv_only.rf, hI0.ob⟩, _, rfl, (rt_source_in (G := G) o1 o2 ho rfl s1 s2 hM).mono ?_⟩
      rintro _ σ2 ⟨rfl, hM2⟩
      rw [if_pos (Or.inl (hmk.trans hm))] at hM2
      exact ⟨by rw [if_pos (hmk.trans hm)], ⟨no, oa, od, ns, sa, sd, nr, ra, rs, rd, n, p, D, R, na, aq, b, rl, dr, ps, s, hL.ref hM2, hM2.self, ρ, ⟨o1, o2, o3, o4⟩, ⟨s1, s2, s3, s4⟩, ⟨hW, hρ⟩, hIw, hRw, hA, hP⟩, mdS.lb hM2.2.2⟩
    · have hm2 : ¬ s.oMark o = 1000000000 := by rw [hmk]; exact hm
      by_cases hn : ns = 10
      · obtain ⟨rfl, hs⟩ := h2 hm hn
        subst hs
        refine ⟨⟨rv_only.rf, hI0.ob⟩, _, rfl, (rt_source_in (G := G) o1 o2 ho rfl s1 s2 hM).mono ?_⟩
        rintro _ σ2 ⟨rfl, hM2⟩
        rw [if_pos (Or.inr hn)] at hM2
        exact ⟨by rw [if_neg hm2, if_pos hn], ⟨no, oa, od, ns, sa, sd, nr, ra, rs, rd, n, p, D, R, na, aq, b, rl, dr, ps, s, hL.ref hM2, hM2.self, ρ, ⟨o1, o2, o3, o4⟩, ⟨s1, s2, s3, s4⟩, ⟨hW, hρ⟩, hIw, hRw, hA, hP⟩, mdS.lb hM2.2.2⟩
      · obtain ⟨rfl, e1, hx1, hS1, hk0⟩ := h3 hm (by omega)
        have hk : rv_only (LF x (x + 411)) σ.2 σ1.2 := fun q hq => hk0 q (fun z => hq (by unfold LF; omega))
        have hL1 := hL.sr (sd_new o) e1 hx1 hS1 hk0
        have hM1 := hM.cls hk
        refine ⟨⟨LF.lb hk, _, hM1.ob⟩, _, rfl, (rt_source_in (G := G) o1 o2 ho rfl s1 s2 hM1).mono ?_⟩
        rintro _ σ2 ⟨rfl, hM2⟩
        rw [if_neg (fun z => z.elim hm2 hn)] at hM2
        refine ⟨by rw [if_neg hm2, if_neg hn], ?_, mdS.lb hM2.2.2⟩
        obtain ⟨⟨q1, q2, q3, q4, q5, q6, q7, q8, q9, q10, -, -, -, -, q15⟩, p1, p2, p3, p4, p5, p6, p7⟩ := src_all s ns (nI o)
        have hms : ∀ u j, ms (md_src s ns (nI o)) u j = ms s u j := fun u j => by
          rw [ms_of _ u j p2]
          rfl
        refine ⟨no, oa, od, ns + 1, va_up sa ns σ.1, va_up sd ns (sd_new o), nr, ra, rs, rd, n, p, D, R, na, aq, b, rl, dr, ps, _, hL1.ref hM2, hM2.self, ρ, OSim.of ⟨o1, o2, o3, o4⟩ q1 p1, ⟨by rw [q2, s1]; exact nI_1 ns, by omega, fun j hj => ?_, fun j z1 z2 => ?_⟩, ⟨hW.of (mw_of p4) q4 q5 q6 p5, fun j hj => by rw [(st_O1 p1).2.2.2]; exact hρ j hj⟩, hIw, (hRw.of q3 p3).ns (by omega), hA.of q7 q8 q9 q10 p6, hP.of q15 p7⟩
        · by_cases z : j = ns
          · subst z
            rw [va_up_self]
            refine ⟨ho, ?_, ?_⟩
            · unfold Md.sOp
              rw [p2]
              exact pk_us
            · rw [hms]
              have h4 := s4 j (Nat.le_refl _) (by omega)
              exact congrArg (fun q : Sd => ((o, q.2) : Sd)) h4
          · rw [va_up_ne _ _ z]
            obtain ⟨t1, t2, t3⟩ := s3 j (by omega)
            refine ⟨t1, ?_, by rw [hms]; exact t3⟩
            unfold Md.sOp
            rw [p2]
            exact (pk_un z).trans t2
        · rw [hms]; exact s4 j (by omega) z2
  · exact step_same hI0 (ct_source_out hL.1.1.1 i ho) (rt_source_out o1 o2 hno hM)
end
