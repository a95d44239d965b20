/-! THE COMPARISON: the whole state, when a row has come -/
def most (s2 s : Md) : Prop := (s2.nop = s.nop ∧ s2.nsr = s.nsr ∧ s2.nrow = s.nrow ∧ s2.nwin = s.nwin ∧ s2.nres = s.nres ∧ s2.ever = s.ever ∧ s2.nps = s.nps) ∧ (s2.2.1 = s.2.1 ∧ s2.2.2.1 = s.2.2.1 ∧ s2.2.2.2.1 = s.2.2.2.1 ∧ s2.2.2.2.2.1 = s.2.2.2.2.1 ∧ s2.eRow = s.eRow ∧ s2.pRow = s.pRow)
theorem most.tr {a b c : Md} (h1 : most a b) (h2 : most b c) : most a c := by
  obtain ⟨⟨a1, a2, a3, a4, a5, a6, a7⟩, b1, b2, b3, b4, b5, b6⟩ := h1
  obtain ⟨⟨c1, c2, c3, c4, c5, c6, c7⟩, d1, d2, d3, d4, d5, d6⟩ := h2
  exact ⟨⟨a1.trans c1, a2.trans c2, a3.trans c3, a4.trans c4, a5.trans c5, a6.trans c6, a7.trans c7⟩, b1.trans d1, b2.trans d2, b3.trans d3, b4.trans d4, b5.trans d5, b6.trans d6⟩
theorem most.rf (s : Md) : most s s := ⟨⟨rfl, rfl, rfl, rfl, rfl, rfl, rfl⟩, rfl, rfl, rfl, rfl, rfl, rfl⟩
section
variable {no : Nat} {od : Nat → Od} {ns : Nat} {sd : Nat → Sd} {nr : Nat} {rs : Nat → Nat} {rd : Nat → Rd} {n : Nat} {p : Nat → Nat} {D : Nat → Wd} {R : Rs} {na : Nat} {aq : Nat → Nat → Int64} {b : Nat} {rl dr : Int32} {ps : Ps} {s s' s1 s2 : Md}
theorem SIM.js (h : SIM no od ns sd nr rs rd n p D R na aq b rl dr ps s) (hj : jsame s1 s) (h1 : s1.nwin = s.nwin) (h2 : s1.nres = s.nres) : SIM no od ns sd nr rs rd n p D R na aq b rl dr ps s1 := by
  obtain ⟨ρ, hO, hS, ⟨hW, hρ⟩, hIw, hRw, hA, hP⟩ := h
  obtain ⟨j1, j2, j3, j4⟩ := hj
  obtain ⟨⟨u1, u2, u3⟩, ⟨u4, u5, u6, u7, u8⟩, u9, u10, u11, u12⟩ := st2_all (st_st2 j2)
  have u0 := st_O j2
  exact ⟨ρ, hO.of u1 u0, hS.of u2 u9, ⟨hW.of j1 h1 h2 j3 j4, fun j hj => by rw [(st_O1 u0).2.2.2]; exact hρ j hj⟩, hIw, hRw.of u3 u10, hA.of u4 u5 u6 u7 u11, hP.of u8 u12⟩
theorem SIM.src {j : Nat} {F : Sd → Sd} (h : SIM no od ns sd nr rs rd n p D R na aq b rl dr ps s) (hj : j < ns) (hs : s1of s' s j F) (hF : ∀ d, (F d).1 = d.1) : SIM no od ns (va_up sd j (F (sd j))) nr rs rd n p D R na aq b rl dr ps s' := by
  obtain ⟨ρ, hO, hS, ⟨hW, hρ⟩, hIw, hRw, hA, hP⟩ := h
  obtain ⟨⟨u1, u2, u3, u4, u5, u6⟩, ⟨v1, v2, v3, v4, v5⟩, ⟨w1, w2, w3, w4, w5⟩, -⟩ := sm_ints hs.1
  have u0 := hs.1.2.1
  exact ⟨ρ, hO.of u1 u0, hS.one hj hs hF, ⟨hW.of (mw_of w2) u4 u5 u6 w3, fun j hj => by rw [(st_O1 u0).2.2.2]; exact hρ j hj⟩, hIw, hRw.of u3 w1, hA.of v1 v2 v3 v4 w4, hP.of v5 w5⟩
/-- a row has come -/
theorem SIM.came {j q A na' b' : Nat} {aq' : Nat → Nat → Int64} {rl' dr' : Int32} {k t v : Int32} {u : Bool} (h : SIM no od ns sd nr rs rd n p D R na aq b rl dr ps s) (hm : most s2 s) (hA' : ASim na' aq' b' rl' dr' s2) (hnr : nr < 300) (hj : j < ns) (hk : 0 ≤ k.toInt ∧ k.toInt ≤ 9) (ht : 0 ≤ t.toInt ∧ t.toInt ≤ 100000000) (hq : q ≤ nr ∧ (∀ i, q ≤ i → i < nr → raft (rd i) k t = true) ∧ (q = 0 ∨ raft (rd (q - 1)) k t = false)) : SIM no od ns (va_up sd j (sd_note (sd j) t u)) (nr + 1) (rv_insf rs q j) (rv_insf rd q (A, k, t, v, u)) n p D R na' aq' b' rl' dr' ps (md_came s2 nr j (nI j) k t v u) := by
  obtain ⟨ρ, hO, hS, ⟨hW, hρ⟩, hIw, hRw, -, hP⟩ := h
  obtain ⟨⟨a1, a2, a3, a4, a5, a6, a7⟩, b1, b2, b3, b4, b5, b6⟩ := hm
  obtain ⟨⟨q1, q2, q3, q4, q5, q6, q7, q8, q9, q10, -, -, -, -, q15⟩, p1, p2, p3, p4, p5, p6, p7⟩ := cm1_all s2 nr (nI j) k t v u
  have hso := so_came s2 nr j (nI j) k t v u
  obtain ⟨⟨u1, u2, u3, u4, u5, u6⟩, ⟨v1, v2, v3, v4, v5⟩, ⟨w1, w2, w3, w4, w5⟩, -⟩ := sm_ints hso.1
  have u0 := hso.1.2.1
  have x0 : (md_came s2 nr j (nI j) k t v u).2.1 = s.2.1 := u0.trans (p1.trans b1)
  refine ⟨ρ, hO.of (u1.trans (q1.trans a1)) x0, ((hS.of a2 b2).of q2 p2).one hj hso (fun d => rfl), ⟨hW.of (mw_of (w2.trans (p4.trans b4))) (u4.trans (q4.trans a4)) (u5.trans (q5.trans a5)) (u6.trans (q6.trans a6)) (w3.trans (p5.trans b5)), fun j hj => by rw [(st_O1 x0).2.2.2]; exact hρ j hj⟩, hIw.mono (by omega), ?_, (hA'.of q7 q8 q9 q10 p6).of v1 v2 v3 v4 w4, hP.of (v5.trans (q15.trans a7)) (w5.trans (p7.trans b6))⟩
  exact (hRw.of a3 b3).add hnr hj hk ht hq (u3.trans q3) (w1.trans p3)
theorem aside_stop {j : Nat} {k t v w : Int32} (h : SIM no od ns sd nr rs rd n p D R na aq b rl dr ps s) (hj : j < ns) (hb : b ≤ na ∧ rl = 1) : (pa_run s na b j (nI j) k t v w).1 = false ∧ SIM no od ns (va_up sd j (sd_stop (sd j) true)) nr rs rd n p D R na aq b rl dr ps (ra_st s na b j nr (nI j) k t v w) := by
  have hA := h
  obtain ⟨ρ, hO, hS, ⟨hW, hρ⟩, hIw, hRw, ⟨a1, a2, a3, a4, a5, a6, a7⟩, hP⟩ := hA
  have e : pa_run s na b j (nI j) k t v w = (false, s.u_sStop (va_up s.sStop j true)) := by
    unfold pa_run
    rw [if_pos (by omega), if_pos (a5.trans hb.2)]
  unfold ra_st
  rw [e]
  refine ⟨rfl, ?_⟩
  rw [if_neg (by intro z; cases z)]
  exact h.src hj (so_stop s j) (fun d => rfl)
theorem pa_go {j : Nat} {k t v w : Int32} (hA : ASim na aq b rl dr s) (hb : ¬ (b ≤ na ∧ rl = 1)) : (pa_run s na b j (nI j) k t v w).1 = true ∧ most (pa_run s na b j (nI j) k t v w).2 s ∧ ASim (as_run b na aq (rv_arec (nI j) k t v w)).1 (as_run b na aq (rv_arec (nI j) k t v w)).2 b rl (if b ≤ na then dr + 1 else dr) (pa_run s na b j (nI j) k t v w).2 := by
  obtain ⟨a1, a2, a3, a4, a5, a6, a7⟩ := hA
  unfold pa_run as_run
  by_cases hab : na = b
  · have hr1 : ¬ s.rul = 1 := fun z => hb ⟨by omega, a5.symm.trans z⟩
    rw [if_pos hab, if_neg hr1, if_pos (show b ≤ na by omega)]
    by_cases h0 : na = 0
    · rw [if_pos h0, if_neg (by omega), if_pos (by omega)]
      obtain ⟨⟨q1, q2, q3, q4, q5, q6, q7, q8, q9, q10, -, -, -, -, q15⟩, p1, p2, p3, p4, p5, p6, p7⟩ := drp_all s (s.drp + 1)
      refine ⟨rfl, ⟨⟨q1, q2, q3, q4, q5, q6, q15⟩, p1, p2, p3, p4, p5, p7⟩, ?_⟩
      refine ⟨?_, ?_, a3, q8.trans a4, q9.trans a5, by rw [q10, a6, if_pos (by omega)], fun i hi => ?_⟩
      · show _ = nI (na - 1)
        rw [q7, a1, h0]
      · show na - 1 ≤ b
        omega
      · exact absurd hi (by show ¬ i < na - 1; omega)
    · rw [if_neg h0, if_pos (by omega), if_pos (show b ≤ na by omega)]
      obtain ⟨⟨q1, q2, q3, q4, q5, q6, q7, q8, q9, q10, -, -, -, -, q15⟩, p1, p2, p3, p4, p5, p6, p7⟩ := dr2_all s (s.drp + 1) (s.nas - 1) (sh5 (5 * (na - 1)) 0 s.aRow)
      generalize ((s.u_drp (s.drp + 1)).u_aRow (sh5 (5 * (na - 1)) 0 s.aRow)).u_nas (s.nas - 1) = z at *
      obtain ⟨⟨r1, r2, r3, r4, r5, r6, r7, r8, r9, r10, -, -, -, -, r15⟩, t1, t2, t3, t4, t5, t6, t7⟩ := ap_all z (na - 1) (nI j) k t v w
      have hn' : (rv_qd na aq).1 = na - 1 := rfl
      refine ⟨rfl, most.tr ⟨⟨r1, r2, r3, r4, r5, r6, r15⟩, t1, t2, t3, t4, t5, t7⟩ ⟨⟨q1, q2, q3, q4, q5, q6, q15⟩, p1, p2, p3, p4, p5, p7⟩, ?_⟩
      dsimp only
      rw [hn']
      have e1 : rv_qn 100 (na - 1) = na := by unfold rv_qn; rw [if_pos (by omega)]; omega
      rw [e1]
      refine ⟨?_, by omega, a3, r8.trans (q8.trans a4), r9.trans (q9.trans a5), by rw [r10, q10, a6], fun i hi c hc => ?_⟩
      · rw [r7, q7, a1]
        obtain ⟨m, rfl⟩ : ∃ m, na = m + 1 := ⟨na - 1, by omega⟩
        rw [nI_pred, nI_1]
      · obtain ⟨v1, v2⟩ := ap_val z.aRow (na - 1) (nI j) k t v w
        rw [t6]
        show rv_qp 100 (na - 1) (rv_qd na aq).2 (rv_arec (nI j) k t v w) i c = _
        unfold rv_qp
        rw [if_pos (by omega)]
        by_cases y : i = na - 1
        · rw [if_pos y, y]; exact (v1 c hc).symm
        · rw [if_neg y, v2 (5 * i + c) (by omega), p6, sh5_val, if_pos (by omega)]
          show (if na = 0 then aq i else aq (i + 1)) c = _
          rw [if_neg h0, a7 (i + 1) (by omega) c hc, show 5 * (i + 1) + c = 5 * i + c + 5 by omega]
  · rw [if_neg hab, if_pos (show 0 < b by omega), if_neg (show ¬ b ≤ na by omega), if_neg (show ¬ b ≤ na by omega)]
    obtain ⟨⟨r1, r2, r3, r4, r5, r6, r7, r8, r9, r10, -, -, -, -, r15⟩, t1, t2, t3, t4, t5, t6, t7⟩ := ap_all s na (nI j) k t v w
    refine ⟨rfl, ⟨⟨r1, r2, r3, r4, r5, r6, r15⟩, t1, t2, t3, t4, t5, t7⟩, ?_⟩
    dsimp only
    have e1 : rv_qn 100 na = na + 1 := by unfold rv_qn; rw [if_pos (by omega)]
    rw [e1]
    refine ⟨by rw [r7, a1]; exact nI_1 na, by omega, a3, r8.trans a4, r9.trans a5, by rw [r10, a6], fun i hi c hc => ?_⟩
    obtain ⟨v1, v2⟩ := ap_val s.aRow na (nI j) k t v w
    rw [t6]
    show rv_qp 100 na aq (rv_arec (nI j) k t v w) i c = _
    unfold rv_qp
    rw [if_pos (by omega)]
    by_cases y : i = na
    · rw [if_pos y, y]; exact (v1 c hc).symm
    · rw [if_neg y, v2 (5 * i + c) (by omega)]
      exact a7 i (by omega) c hc
theorem aside_go {j q A : Nat} {k t v w : Int32} (h : SIM no od ns sd nr rs rd n p D R na aq b rl dr ps s) (hnr : nr < 300) (hj : j < ns) (hk : 0 ≤ k.toInt ∧ k.toInt ≤ 9) (ht : 0 ≤ t.toInt ∧ t.toInt ≤ 100000000) (hq : q ≤ nr ∧ (∀ i, q ≤ i → i < nr → raft (rd i) k t = true) ∧ (q = 0 ∨ raft (rd (q - 1)) k t = false)) (hb : ¬ (b ≤ na ∧ rl = 1)) : (pa_run s na b j (nI j) k t v w).1 = true ∧ SIM no od ns (va_up sd j (sd_note (sd j) t false)) (nr + 1) (rv_insf rs q j) (rv_insf rd q (A, k, t, v, false)) n p D R (as_run b na aq (rv_arec (nI j) k t v w)).1 (as_run b na aq (rv_arec (nI j) k t v w)).2 b rl (if b ≤ na then dr + 1 else dr) ps (ra_st s na b j nr (nI j) k t v w) := by
  have h0 := h
  obtain ⟨ρ, hO, hS, ⟨hW, hρ⟩, hIw, hRw, hA, hP⟩ := h0
  obtain ⟨e1, e2, e3⟩ := pa_go (j := j) (k := k) (t := t) (v := v) (w := w) hA hb
  refine ⟨e1, ?_⟩
  unfold ra_st
  rw [if_pos e1]
  exact h.came e2 e3 hnr hj hk ht hq
end
