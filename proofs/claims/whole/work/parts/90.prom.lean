/-! BOTH SIDES: promise and end -/
section
variable {G : rv_G} {x : Nat} {σ : rv_S}
theorem step_promise (hI : INV x σ) (i t : Int32) : STEP G Value.int i_Late_promise i_Model_promise 0 0 x [.int i, .int t] σ := by
  have hI0 := hI
  obtain ⟨no, oa, od, ns, sa, sd, nr, ra, rs, rd, n, p, D, R, na, aq, b, rl, dr, ps, s, hL, hM, ρ, hO, hS, ⟨hW, hρ⟩, hIw, hRw, hA, hP⟩ := hI
  have hS0 := hS
  obtain ⟨s1, s2, s3, s4⟩ := hS
  have hno := hO.2.1
  rcases ix_box i (n := ns) (by omega) with ⟨i', hi, rfl⟩ | ⟨ho, hno⟩
  · by_cases ht : rv_in t 0 999999999 = true
    · obtain ⟨t1, t2, t3⟩ := s3 i' hi
      generalize ho : (sd i').1 = o at t1 t2 t3
      obtain ⟨⟨q1, q2, q3, q4, q5, q6, q7, q8, q9, q10, -, -, -, -, q15⟩, p1, p2, p3, p4, p5, p6, p7⟩ := prom_all s (upd s.sProm i' t)
      have hms : ∀ u j, ms (s.u_sProm (upd s.sProm i' t)) u j = if j = i' then sd_prom (ms s u j) t else ms s u j := fun u j => by
        rw [ms_of _ u j p2]
        by_cases z : j = i'
        · subst z; rw [if_pos rfl, pk_us]; rfl
        · rw [if_neg z, pk_un z]; rfl
      have hS1 : SSim no ns (va_up sd i' (sd_prom (sd i') t)) (s.u_sProm (upd s.sProm i' t)) := by
        refine ⟨q2.trans s1, s2, fun j hj => ?_, fun j z1 z2 => ?_⟩
        · have hop : (s.u_sProm (upd s.sProm i' t)).sOp j = s.sOp j := by unfold Md.sOp; rw [p2]; rfl
          rw [hop, hms]
          by_cases z : j = i'
          · subst z
            rw [va_up_self, if_pos rfl]
            obtain ⟨u1, u2, u3⟩ := s3 j hj
            refine ⟨u1, u2, ?_⟩
            show sd_prom (ms s (sd j).1 j) t = _
            rw [u3]
          · rw [va_up_ne _ _ z, if_neg z]; exact s3 j hj
        · rw [hms, if_neg (by omega)]; exact s4 j z1 z2
      have hW1 := hW.of (mw_of p4) q4 q5 q6 p5
      have hO1 := hO.of q1 p1
      obtain ⟨hok, m, m0, m1, m2, m3, m4, m5, m6⟩ := mm_sim hO1 hS1 hW1 (fun j hj => by rw [(st_O1 p1).2.2.2]; exact hρ j hj) hIw t1
      rw [(st_O1 p1).2.2.1] at hok
      refine (ct_promise (G := G) hL.1.1 hL.2.1 hL.2.2.1 hi t ht).mono ?_
      rintro a σ1 ⟨h1, h2⟩
      have e1 : s.sProm i' = (sd i').2.1 := congrArg (fun q : Sd => q.2.1) (s3 i' hi).2.2
      have e2 : s.sEnd i' = (sd i').2.2.1.1 := congrArg (fun q : Sd => q.2.2.1.1) (s3 i' hi).2.2
      by_cases hn : t < (sd i').2.1 ∨ (sd i').2.2.1.1 = true
      · obtain ⟨rfl, hs⟩ := h1 hn
        subst hs
        refine ⟨⟨rv_only.rf, hI0.ob⟩, _, rfl, (rt_promise (G := G) s1 s2 hi rfl ht t2 (by omega) hW.2.2.2.1 hW.2.2.2.2.1 hW.2.2.1.1 hW.2.2.1.2.1 hM hok).mono ?_⟩
        rintro _ σ2 ⟨rfl, hM2⟩
        rw [e1, e2, if_pos hn] at hM2
        rw [e1, e2, if_pos hn]
        exact ⟨rfl, ⟨no, oa, od, ns, sa, sd, nr, ra, rs, rd, n, p, D, R, na, aq, b, rl, dr, ps, s, hL.ref hM2, hM2.self, ρ, hO, hS0, ⟨hW, hρ⟩, hIw, hRw, hA, hP⟩, mdS.lb hM2.2.2⟩
      · obtain ⟨m', h3, rfl, h4, h5, h6, h7, hk0⟩ := h2 hn
        rw [ho, ← m0] at h3
        subst h3
        rw [ho] at hk0
        have hk : rv_only (LF x (x + 411)) σ.2 σ1.2 := fun q hq => hk0 q (fun z => hq (by
          rcases z with z | z | z
          · unfold SC at z; exact Or.inl (by omega)
          · exact Or.inr (by rw [z]; exact hL.2.2.2.2.2.2.2.2.1.1 o t1)
          · exact Or.inr (by rw [z]; exact hL.2.2.2.2.2.2.2.2.1.2.1 i' hi)))
        have hL1 := hL.mk hi t1 h4 h5 m2.2.1 h6 h7 hk0
        have hM1 := hM.cls hk
        refine ⟨⟨LF.lb hk, _, hM1.ob⟩, _, rfl, (rt_promise (G := G) s1 s2 hi rfl ht t2 (by omega) hW.2.2.2.1 hW.2.2.2.2.1 hW.2.2.1.1 hW.2.2.1.2.1 hM1 hok).mono ?_⟩
        rintro _ σ2 ⟨rfl, hM2⟩
        rw [e1, e2, if_neg hn] at hM2
        rw [e1, e2, if_neg hn]
        obtain ⟨⟨u1, u2, u3⟩, ⟨u4, u5, u6, u7, u8⟩, u9, u10, u11, u12⟩ := st2_all m4
        exact ⟨by rw [m1], ⟨no, oa, m'.2.1, ns, sa, va_up sd i' (sd_prom (sd i') t), nr, ra, rs, rd, m'.2.2.1, m'.2.2.2.1, m'.2.2.2.2.1, m'.2.2.2.2.2, na, aq, b, rl, dr, ps, _, hL1.ref hM2, hM2.self, ρ, m3, hS1.of u2 u9, ⟨m2, m6⟩, m5, (hRw.of q3 p3).of u3 u10, (hA.of q7 q8 q9 q10 p6).of u4 u5 u6 u7 u11, (hP.of q15 p7).of u8 u12⟩, mdS.lb hM2.2.2⟩
    · have hf : rv_in t 0 999999999 = false := by cases hb : rv_in t 0 999999999 <;> simp_all
      exact step_same hI0 (ct_promise_bad hL.1.1.1 hL.2.2.1 _ t (Or.inr ⟨⟨i', hi, rfl⟩, hf⟩)) (rt_promise_bad s1 s2 (fun z => ht z.2) hM)
  · exact step_same hI0 (ct_promise_bad hL.1.1.1 hL.2.2.1 _ t (Or.inl ho)) (rt_promise_bad s1 s2 (fun z => hno z.1) hM)
theorem step_end (hI : INV x σ) (i : Int32) : STEP G Value.int i_Late_end i_Model_end 0 0 x [.int i] σ := by
  have hI0 := hI
  obtain ⟨no, oa, od, ns, sa, sd, nr, ra, rs, rd, n, p, D, R, na, aq, b, rl, dr, ps, s, hL, hM, ρ, hO, hS, ⟨hW, hρ⟩, hIw, hRw, hA, hP⟩ := hI
  have hS0 := hS
  obtain ⟨s1, s2, s3, s4⟩ := hS
  have hno := hO.2.1
  rcases ix_box i (n := ns) (by omega) with ⟨i', hi, rfl⟩ | ⟨ho, hno⟩
  · obtain ⟨t1, t2, t3⟩ := s3 i' hi
    generalize ho : (sd i').1 = o at t1 t2 t3
    obtain ⟨⟨q1, q2, q3, q4, q5, q6, q7, q8, q9, q10, -, -, -, -, q15⟩, p1, p2, p3, p4, p5, p6, p7⟩ := end_all s (va_up s.sEnd i' true)
    have hms : ∀ u j, ms (s.u_sEnd (va_up s.sEnd i' true)) u j = if j = i' then sd_end (ms s u j) else ms s u j := fun u j => by
      rw [ms_of _ u j p2]
      by_cases z : j = i'
      · subst z; rw [if_pos rfl, va_up_self]; rfl
      · rw [if_neg z, va_up_ne _ _ z]; rfl
    have hS1 : SSim no ns (va_up sd i' (sd_end (sd i'))) (s.u_sEnd (va_up s.sEnd i' true)) := by
      refine ⟨q2.trans s1, s2, fun j hj => ?_, fun j z1 z2 => ?_⟩
      · have hop : (s.u_sEnd (va_up s.sEnd i' true)).sOp j = s.sOp j := by unfold Md.sOp; rw [p2]; rfl
        rw [hop, hms]
        by_cases z : j = i'
        · subst z
          rw [va_up_self, if_pos rfl]
          obtain ⟨u1, u2, u3⟩ := s3 j hj
          refine ⟨u1, u2, ?_⟩
          show sd_end (ms s (sd j).1 j) = _
          rw [u3]
        · rw [va_up_ne _ _ z, if_neg z]; exact s3 j hj
      · rw [hms, if_neg (by omega)]; exact s4 j z1 z2
    have hW1 := hW.of (mw_of p4) q4 q5 q6 p5
    have hO1 := hO.of q1 p1
    obtain ⟨hok, m, m0, m1, m2, m3, m4, m5, m6⟩ := mm_sim hO1 hS1 hW1 (fun j hj => by rw [(st_O1 p1).2.2.2]; exact hρ j hj) hIw t1
    rw [(st_O1 p1).2.2.1] at hok
    refine (ct_end (G := G) hL.1.1 hL.2.1 hL.2.2.1 hi).mono ?_
    rintro a σ1 ⟨h1, h2⟩
    have e2 : s.sEnd i' = (sd i').2.2.1.1 := congrArg (fun q : Sd => q.2.2.1.1) (s3 i' hi).2.2
    by_cases hn : (sd i').2.2.1.1 = true
    · obtain ⟨rfl, hs⟩ := h1 hn
      subst hs
      refine ⟨⟨rv_only.rf, hI0.ob⟩, _, rfl, (rt_end (G := G) s1 s2 hi rfl t2 (by omega) hW.2.2.2.1 hW.2.2.2.2.1 hW.2.2.1.1 hW.2.2.1.2.1 hM hok).mono ?_⟩
      rintro _ σ2 ⟨rfl, hM2⟩
      rw [e2, if_pos hn] at hM2
      rw [e2, if_pos hn]
      exact ⟨rfl, ⟨no, oa, od, ns, sa, sd, nr, ra, rs, rd, n, p, D, R, na, aq, b, rl, dr, ps, s, hL.ref hM2, hM2.self, ρ, hO, hS0, ⟨hW, hρ⟩, hIw, hRw, hA, hP⟩, mdS.lb hM2.2.2⟩
    · obtain ⟨m', h3, rfl, h4, h5, h6, h7, hk0⟩ := h2 hn
      rw [ho, ← m0] at h3
      subst h3
      rw [ho] at hk0
      have hk : rv_only (LF x (x + 411)) σ.2 σ1.2 := fun q hq => hk0 q (fun z => hq (by
        rcases z with z | z | z
        · unfold SC at z; exact Or.inl (by omega)
        · exact Or.inr (by rw [z]; exact hL.2.2.2.2.2.2.2.2.1.1 o t1)
        · exact Or.inr (by rw [z]; exact hL.2.2.2.2.2.2.2.2.1.2.1 i' hi)))
      have hL1 := hL.mk hi t1 h4 h5 m2.2.1 h6 h7 hk0
      have hM1 := hM.cls hk
      refine ⟨⟨LF.lb hk, _, hM1.ob⟩, _, rfl, (rt_end (G := G) s1 s2 hi rfl t2 (by omega) hW.2.2.2.1 hW.2.2.2.2.1 hW.2.2.1.1 hW.2.2.1.2.1 hM1 hok).mono ?_⟩
      rintro _ σ2 ⟨rfl, hM2⟩
      rw [e2, if_neg hn] at hM2
      rw [e2, if_neg hn]
      obtain ⟨⟨u1, u2, u3⟩, ⟨u4, u5, u6, u7, u8⟩, u9, u10, u11, u12⟩ := st2_all m4
      exact ⟨by rw [m1], ⟨no, oa, m'.2.1, ns, sa, va_up sd i' (sd_end (sd i')), nr, ra, rs, rd, m'.2.2.1, m'.2.2.2.1, m'.2.2.2.2.1, m'.2.2.2.2.2, na, aq, b, rl, dr, ps, _, hL1.ref hM2, hM2.self, ρ, m3, hS1.of u2 u9, ⟨m2, m6⟩, m5, (hRw.of q3 p3).of u3 u10, (hA.of q7 q8 q9 q10 p6).of u4 u5 u6 u7 u11, (hP.of q15 p7).of u8 u12⟩, mdS.lb hM2.2.2⟩
  · exact step_same hI0 (ct_end_bad hL.1.1.1 _ ho) (rt_end_bad s1 s2 hno hM)
end
