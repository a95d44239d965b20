/-! BOTH SIDES: row -/
theorem in_bd {x a b : Int32} (h : rv_in x a b = true) : a.toInt ≤ x.toInt ∧ x.toInt ≤ b.toInt := by
  have := of_decide_eq_true h
  exact ⟨Int32.le_iff_toInt_le.mp this.1, Int32.le_iff_toInt_le.mp this.2⟩
theorem bg_st_eq {no o : Nat} {od : Nat → Od} {s : Md} (hO : OSim no od s) (ho : o < no) (hk : ¬ (od o).1 = 2) : bg_st s o = (od o).2.2.1 := by
  obtain ⟨ok, k1, k2, k3, -⟩ := hO.2.2.1 o ho
  unfold bg_st
  rw [k1, k2]
  rcases ok.1 with z | z | z
  · rw [if_pos z]
    exact (ok.2.2.2.1 (by rw [z]; decide)).symm
  · rw [if_neg (by rw [z]; decide)]
    exact k3 z
  · exact absurd z hk
theorem why_grid (r0 : Int32) (a : Bool × Bool) : (¬ jd_grid r0 a = 0 ↔ (a.1 = true ∨ (a.2 = true ∧ r0 = 2))) ∧ ((a.1 = true ∨ (a.2 = true ∧ r0 = 2)) → jd_grid r0 a = ro_why a.1) := by
  unfold jd_grid ro_why
  by_cases h1 : a.1 = true
  · rw [if_pos h1, if_pos h1]
    exact ⟨⟨fun _ => Or.inl h1, fun _ => by decide⟩, fun _ => rfl⟩
  · rw [if_neg h1, if_neg h1]
    by_cases h2 : a.2 = true ∧ r0 = 2
    · rw [if_pos h2]
      exact ⟨⟨fun _ => Or.inr h2, fun _ => by decide⟩, fun _ => rfl⟩
    · rw [if_neg h2]
      exact ⟨⟨fun z => absurd rfl z, fun z => absurd (z.resolve_left h1) h2⟩, fun z => absurd (z.resolve_left h1) h2⟩
theorem why_gaps (l r0 m e : Int32) (tl : Bool) {cl ba : Bool} (hcl : cl = decide (e + l ≤ m)) (hba : ba = (decide (e ≤ m) || tl)) : (¬ jd_gaps l r0 m e tl = 0 ↔ (cl = true ∨ (ba = true ∧ r0 = 2))) ∧ ((cl = true ∨ (ba = true ∧ r0 = 2)) → jd_gaps l r0 m e tl = ro_why cl) := by
  have e1 : cl = true ↔ e + l ≤ m := by rw [hcl, decide_eq_true_eq]
  have e2 : ba = true ↔ (e ≤ m ∨ tl = true) := by rw [hba, Bool.or_eq_true, decide_eq_true_eq]
  unfold jd_gaps ro_why
  rw [e2]
  by_cases h1 : e + l ≤ m
  · rw [if_pos h1, if_pos (e1.mpr h1)]
    exact ⟨⟨fun _ => Or.inl (e1.mpr h1), fun _ => by decide⟩, fun _ => rfl⟩
  · have h1' : ¬ cl = true := fun z => h1 (e1.mp z)
    rw [if_neg h1, if_neg h1']
    by_cases h2 : (e ≤ m ∨ tl = true) ∧ r0 = 2
    · rw [if_pos h2]
      exact ⟨⟨fun _ => Or.inr h2, fun _ => by decide⟩, fun _ => rfl⟩
    · rw [if_neg h2]
      exact ⟨⟨fun z => absurd rfl z, fun z => absurd (z.resolve_left h1') h2⟩, fun z => absurd (z.resolve_left h1') h2⟩
theorem full_nI {n c : Nat} (hn : n ≤ 120) (hc : c ≤ 120) : (nI n + nI c ≤ 120 ↔ n + c ≤ 120) ∧ (120 < nI n + nI c ↔ 120 < n + c) := by
  rw [nI_add]
  exact ⟨rv_leN rfl rfl (by omega) (by omega), rv_ltN (a := 120) rfl rfl (by omega) (by omega)⟩
section
variable {G : rv_G} {x : Nat} {σ : rv_S}
/-- what the class's aside gives goes on with the reference -/
theorem INV.mk {no : Nat} {oa : Nat → Nat} {od : Nat → Od} {ns : Nat} {sa : Nat → Nat} {sd : Nat → Sd} {nr : Nat} {ra rs : Nat → Nat} {rd : Nat → Rd} {n : Nat} {p : Nat → Nat} {D : Nat → Wd} {R : Rs} {na : Nat} {aq : Nat → Nat → Int64} {b : Nat} {rl dr : Int32} {ps : Ps} {s : Md} {σ1 σ2 : rv_S} (hL : LI σ1 x (x + 411) no oa od ns sa sd nr ra rs rd n p D R na aq b rl dr ps) (hM : MI σ1 σ2 (x + 374) (md (x + 374) s)) (hS : SIM no od ns sd nr rs rd n p D R na aq b rl dr ps s) : INV x σ2 ∧ rv_only (LB x) σ1.2 σ2.2 :=
  ⟨⟨no, oa, od, ns, sa, sd, nr, ra, rs, rd, n, p, D, R, na, aq, b, rl, dr, ps, s, hL.ref hM, hM.self, hS⟩, mdS.lb hM.2.2⟩
set_option maxHeartbeats 4000000 in
theorem step_row (hI : INV x σ) (i k t v : Int32) : STEP G Value.int i_Late_row i_Model_row 1 5 x [.int i, .int k, .int t, .int v] σ := by
  have hI0 := hI
  obtain ⟨no, oa, od, ns, sa, sd, nr, ra, rs, rd, n, p, D, R, na, aq, b, rl, dr, ps, s, hL, hM, hSIM⟩ := hI
  have hSIM0 := hSIM
  obtain ⟨ρ, hO, hS, ⟨hW, hρ⟩, hIw, hRw, hA, hP⟩ := hSIM
  obtain ⟨s1, s2, s3, s4⟩ := hS
  have hno := hO.2.1
  have hn := hW.2.2.2.2.1
  rcases (ix_box i (n := ns) (by omega)).symm with ⟨hout, hnout⟩ | ⟨j, hj, rfl⟩
  · exact step_same hI0 (ct_row_bad hL.1.1.1 hL.2.2.1 i k t v (Or.inl hout)) (rt_row_bad s1 s2 (fun z => hnout z.1) hM)
  by_cases hkt : ¬ (rv_in k 0 9 = true ∧ rv_in t 0 100000000 = true)
  · exact step_same hI0 (ct_row_bad hL.1.1.1 hL.2.2.1 _ k t v (Or.inr ⟨⟨j, hj, rfl⟩, hkt⟩)) (rt_row_bad s1 s2 (fun z => hkt z.2) hM)
  obtain ⟨hk, ht⟩ := Classical.not_not.mp hkt
  obtain ⟨t1, t2, t3⟩ := s3 j hj
  have e1 : s.sEnd j = (sd j).2.2.1.1 := congrArg (fun q : Sd => q.2.2.1.1) t3
  have e2 : s.sStop j = (sd j).2.2.1.2 := congrArg (fun q : Sd => q.2.2.1.2) t3
  by_cases hno1 : (sd j).2.2.1.1 = true ∨ (sd j).2.2.1.2 = true
  · refine step_same hI0 (ct_row_no hL.1.1.1 hL.2.2.1 k t v hj hk ht hno1) ?_
    refine rt_row_go s1 s2 hj rfl hk ht hRw.1 hRw.2.1 t2 (by omega) hM (fun _ => ⟨rfl, rfl⟩) (fun z => ?_) (fun z => ?_) (fun z => ?_)
    · rw [e1, e2] at z; exact absurd hno1 z
    · rw [e1, e2] at z; exact absurd hno1 z
    · rw [e1, e2] at z; exact absurd hno1 z
  have hgo : ¬ (s.sEnd j = true ∨ s.sStop j = true) := by rw [e1, e2]; exact hno1
  have hno2 : (sd j).2.2.1.1 = false ∧ (sd j).2.2.1.2 = false := by
    constructor
    · cases hb : (sd j).2.2.1.1 with
      | false => rfl
      | true => exact absurd (Or.inl hb) hno1
    · cases hb : (sd j).2.2.1.2 with
      | false => rfl
      | true => exact absurd (Or.inr hb) hno1
  by_cases hnr3 : nr = 300
  · refine step_same hI0 (ct_row_full hL k t v hj hk ht hno2 hnr3) ?_
    refine rt_row_go s1 s2 hj rfl hk ht hRw.1 hRw.2.1 t2 (by omega) hM (fun z => absurd z hgo) (fun _ _ => ⟨rfl, rfl⟩) (fun _ z => ?_) (fun _ z => ?_)
    · omega
    · omega
  have hnr : nr < 300 := by have := hRw.2.1; omega
  generalize ho : (sd j).1 = o at t1 t2 t3
  obtain ⟨ok, k1, k2, k3, k4, k5, k6⟩ := hO.2.2.1 o t1
  have hst := ok.2.2.1
  have h1 : 1 ≤ (od o).2.2.1 := Int32.le_iff_toInt_le.mpr hst.1
  have h0 : ¬ (od o).2.2.1 = 0 := fun z => by
    have := congrArg Int32.toInt z
    rw [show (0 : Int32).toInt = 0 from rfl] at this
    omega
  have hg : rw_go sd od ns nr j o k t := ⟨hj, hk, ht, hno2, hnr, ho, h1, h0⟩
  have hkb : 0 ≤ k.toInt ∧ k.toInt ≤ 9 := in_bd hk
  have htb : 0 ≤ t.toInt ∧ t.toInt ≤ 100000000 := in_bd ht
  have hρo : ρ (nI o) = (od o).2.2.2.2.1 := (hρ o t1).trans k5
  have hna : na ≤ 100 := by have := hA.2.1; have := hA.2.2.1; omega
  by_cases hkd : (od o).1 = 2
  · -- GAPS
    have hkd2 : s.oKind o = 2 := k1.trans hkd
    obtain ⟨c1, c2, c, c3, c4, c5⟩ := join_sim (k := k) hW hIw t1 hkd ok.2.1 htb k2
    generalize hs1 : jo_run (nI o) k t (t + s.oSize o) n 0 (jo_0 s o t) = sj at c1 c2
    have hsame := jo_run_same (nI o) k t (t + s.oSize o) n 0 (jo_0 s o t)
    have hj0 : (jo_0 s o t).nres = s.nres ∧ (jo_0 s o t).nwin = s.nwin := by
      obtain ⟨⟨a1, a2, a3, a4, a5, a6, a7, a8, a9, a10, a11, a12, a13, a14, a15⟩, ⟨b1, b2, b3⟩, c, d, e, f, g, h⟩ := s
      exact ⟨Eq.refl a5, Eq.refl a4⟩
    rw [hs1] at hsame
    have nw1 : sj.nwin = s.nwin := hsame.2.2.trans hj0.2
    have nr1 : sj.nres = s.nres := hsame.2.1.trans hj0.1
    have hSj := hSIM0.js c2 nw1 nr1
    obtain ⟨u1, u2, u3, u4⟩ := st_O1 (st_O c2.2.1)
    obtain ⟨⟨-, -, w3⟩, ⟨w4, w5, -, -, -⟩, -⟩ := st2_all (st_st2 c2.2.1)
    have ukd : sj.oKind o = 2 := by
      have : sj.oKind = s.oKind := by show sj.2.1.1 = s.2.1.1; rw [st_O c2.2.1]
      rw [this]; exact hkd2
    obtain ⟨q1, q2, q3, q4⟩ := jq_be c1
    have ewhy : rw_why (od o) p D (nI o) k t n = jd_gaps (od o).2.2.2.1 (od o).2.2.2.2.1 (od o).2.2.2.2.2 (rw_j p D (nI o) k t (od o).2.1 n).2.2.1 (rw_j p D (nI o) k t (od o).2.1 n).2.2.2 := if_pos hkd
    have hw := why_gaps (od o).2.2.2.1 (od o).2.2.2.2.1 (od o).2.2.2.2.2 (rw_j p D (nI o) k t (od o).2.1 n).2.2.1 (rw_j p D (nI o) k t (od o).2.1 n).2.2.2 (cl := decide (sj.fE + sj.oLt o ≤ sj.oMark o)) (ba := (decide (sj.fE ≤ sj.oMark o) || sj.jT)) (by rw [q3, u2, u3, k4, k6]) (by rw [q3, q4, u3, k6])
    rw [← ewhy] at hw
    generalize hcl : decide (sj.fE + sj.oLt o ≤ sj.oMark o) = cl at hw
    generalize hba : (decide (sj.fE ≤ sj.oMark o) || sj.jT) = ba at hw
    have urule : sj.oRule o = (od o).2.2.2.2.1 := by rw [u4]; exact k5
    have hmo : (if sj.jn = 0 then (1 : Int32) else 0) = nI (if c = 0 then 1 else 0) := by
      rw [q1, c3]
      by_cases z : c = 0
      · rw [if_pos z, if_pos (by rw [z]; rfl)]; rfl
      · rw [if_neg z, if_neg (nI_ne0 (by omega) (by omega))]; rfl
    have enew : rw_new (od o) p D (nI o) k t n = 1 - nI c := by
      unfold rw_new
      rw [if_pos hkd, c3]
    have hfull : nI n + rw_new (od o) p D (nI o) k t n ≤ 120 ↔ ¬ 120 < sj.nwin + (if sj.jn = 0 then (1 : Int32) else 0) := by
      rw [enew, hmo, nw1, hW.2.2.2.1, (full_nI hn (by split <;> omega)).2]
      by_cases z : c = 0
      · rw [if_pos z, z, show (1 : Int32) - nI 0 = nI 1 from rfl, (full_nI hn (by omega)).1]
        omega
      · rw [if_neg z]
        have e3 : (nI n + (1 - nI c)).toInt = n + (1 - (c : Int)) := by
          have e4 : ((1 : Int32) - nI c).toInt = 1 - (c : Int) := by
            rw [tS (by rw [nI_toInt (by omega), show (1 : Int32).toInt = 1 from rfl]; omega) (by rw [nI_toInt (by omega), show (1 : Int32).toInt = 1 from rfl]; omega), nI_toInt (by omega)]
            rfl
          rw [tA (by rw [e4, nI_toInt (by omega)]; omega) (by rw [e4, nI_toInt (by omega)]; omega), e4, nI_toInt (by omega)]
        have : nI n + (1 - nI c) ≤ 120 := Int32.le_iff_toInt_le.mpr (by rw [e3, show (120 : Int32).toInt = 120 from rfl]; omega)
        exact ⟨fun _ => by omega, fun _ => this⟩
    -- what the reference does
    have hrefA : ∀ {σ1 : rv_S} {Rt : Option Value → rv_S → Prop}, MI σ1 σ1 (x + 374) (md (x + 374) s) → (cl = true ∨ (ba = true ∧ (od o).2.2.2.2.1 = 2)) → (∀ σ', MI σ1 σ' (x + 374) (md (x + 374) (ra_st sj na b j nr (nI j) k t v (ro_why cl))) → Rt (some (.int (if (pa_run sj na b j (nI j) k t v (ro_why cl)).1 = true then 0 else -2))) σ') → rv_Ct G i_Model_row 0 0 [.ref (x + 374), .int (nI j), .int k, .int t, .int v] σ1 Rt := fun hM1 hc hRt =>
      ref_gaps s1 s2 hj hk ht hRw.1 hnr t2 (by omega) hM1 hgo hkd2 hW.2.2.2.1 hn hs1.symm (w3.trans hRw.1) (nw1.trans hW.2.2.2.1) ukd (nr1.trans hW.2.2.1.1) hW.2.2.1.2.1 (w4.trans hA.1) hna (w5.trans hA.2.2.2.1) hA.2.2.1 hcl.symm hba.symm rfl (fun _ => hRt) (fun z => absurd (by rw [urule]; exact hc) z) (fun z => absurd (by rw [urule]; exact hc) z)
    by_cases hc : cl = true ∨ (ba = true ∧ (od o).2.2.2.2.1 = 2)
    · have hw0 := hw.1.mpr hc
      have hwe := hw.2 hc
      by_cases hstop : b ≤ na ∧ rl = 1
      · refine (ct_row_stop (G := G) hL k t v hg hw0 hstop.1 hstop.2).mono ?_
        rintro _ σ1 ⟨rfl, hL1, -, hk1⟩
        have hM1 := hM.cls hk1
        refine ⟨⟨LF.lb hk1, _, hM1.ob⟩, _, rfl, hrefA hM1 hc ?_⟩
        intro σ2 hM2
        obtain ⟨a1, a2⟩ := aside_stop (k := k) (t := t) (v := v) (w := ro_why cl) hSj hj hstop
        exact ⟨by rw [a1]; rfl, INV.mk hL1 hM2 a2⟩
      · refine (ct_row_aside (G := G) hL k t v hg hw0 hstop).mono ?_
        rintro _ σ1 ⟨rfl, ⟨q, hq, hL1⟩, -, hk1⟩
        have hM1 := hM.cls hk1
        refine ⟨⟨LF.lb hk1, _, hM1.ob⟩, _, rfl, hrefA hM1 hc ?_⟩
        intro σ2 hM2
        obtain ⟨a1, a2⟩ := aside_go (A := sa j) (k := k) (t := t) (v := v) (w := ro_why cl) hSj hnr hj hkb htb hq hstop
        rw [hwe] at hL1
        exact ⟨by rw [a1]; rfl, INV.mk hL1 hM2 a2⟩
    · have hw0 : rw_why (od o) p D (nI o) k t n = 0 := Classical.byContradiction (fun z => hc (hw.1.mp z))
      by_cases hf : nI n + rw_new (od o) p D (nI o) k t n ≤ 120
      · -- used
        have hroom : c = 0 → n < 120 := fun z => by
          rw [enew, z, show (1 : Int32) - nI 0 = nI 1 from rfl, (full_nI hn (by omega)).1] at hf
          omega
        obtain ⟨⟨-, -, -, -, -, -, -, -, -, -, r11, r12, r13, r14, -⟩, -⟩ := cm1_all sj nr (nI j) k t v true
        have hjqC : jq (md_came sj nr j (nI j) k t v true) = rw_j p D (nI o) k t (od o).2.1 n := by
          rw [(sm_ints (so_came sj nr j (nI j) k t v true).1).2.2.2]
          show ((md_cm1 sj nr (nI j) k t v true).jn, (md_cm1 sj nr (nI j) k t v true).fB, (md_cm1 sj nr (nI j) k t v true).fE, (md_cm1 sj nr (nI j) k t v true).jT) = _
          rw [r11, r12, r13, r14]
          exact c1
        have hSC : ∀ q, (q ≤ nr ∧ (∀ i, q ≤ i → i < nr → raft (rd i) k t = true) ∧ (q = 0 ∨ raft (rd (q - 1)) k t = false)) → SIM no od ns (va_up sd j (sd_note (sd j) t true)) (nr + 1) (rv_insf rs q j) (rv_insf rd q (sa j, k, t, v, true)) n p D R na aq b rl dr ps (md_came sj nr j (nI j) k t v true) := fun q hq => by
          have hAj : ASim na aq b rl dr sj := by
            obtain ⟨ρ', z⟩ := hSj
            exact z.2.2.2.2.2.1
          exact hSj.came (most.rf sj) hAj hnr hj hkb htb hq
        have hxq : ∃ q, (q ≤ nr ∧ (∀ i, q ≤ i → i < nr → raft (rd i) k t = true) ∧ (q = 0 ∨ raft (rd (q - 1)) k t = false)) := by
          have : ∀ m, m ≤ nr → (∀ i, m ≤ i → i < nr → raft (rd i) k t = true) → ∃ q, (q ≤ nr ∧ (∀ i, q ≤ i → i < nr → raft (rd i) k t = true) ∧ (q = 0 ∨ raft (rd (q - 1)) k t = false)) := by
            intro m
            induction m with
            | zero => intro z1 z2; exact ⟨0, z1, z2, Or.inl rfl⟩
            | succ m ih =>
              intro z1 z2
              cases hb : raft (rd m) k t with
              | false => exact ⟨m + 1, z1, z2, Or.inr hb⟩
              | true =>
                refine ih (by omega) (fun i y1 y2 => ?_)
                by_cases y : i = m
                · rw [y]; exact hb
                · exact z2 i (by omega) y2
          exact this nr (Nat.le_refl _) (fun i y1 y2 => absurd y2 (by omega))
        obtain ⟨q0, hq0⟩ := hxq
        obtain ⟨ρ2, O2, S2, ⟨W2, ρ2e⟩, -, -, A2, P2⟩ := hSC q0 hq0
        have hs2 := O2.2.2.1 o t1
        obtain ⟨g1, F, gF, gW, gI, gst⟩ := gap_sim (v := v) W2 hIw hno t1 hkd ok.2.1 htb (by omega) ((ρ2e o t1).trans hs2.2.2.2.2.2.1) hs2.2.2.2.2.2.1 hs2.2.2.2.2.2.2 hjqC c3 c4 c5 hroom
        refine (ct_row_gaps (G := G) hL k t v hg hw0 hf hkd c3 (fun z => ⟨hroom z, by omega⟩) c4 (by rw [← gF]; exact gW.2.1)).mono ?_
        rintro _ σ1 ⟨rfl, ⟨q, F', hq, hF', hL1⟩, -, hk1⟩
        rw [← gF] at hF'
        subst hF'
        have hM1 := hM.cls hk1
        refine ⟨⟨LF.lb hk1, _, hM1.ob⟩, _, rfl, ref_gaps s1 s2 hj hk ht hRw.1 hnr t2 (by omega) hM1 hgo hkd2 hW.2.2.2.1 hn hs1.symm (w3.trans hRw.1) (nw1.trans hW.2.2.2.1) ukd (nr1.trans hW.2.2.1.1) hW.2.2.1.2.1 (w4.trans hA.1) hna (w5.trans hA.2.2.2.1) hA.2.2.1 hcl.symm hba.symm rfl (fun z => absurd z (by rw [urule]; exact hc)) (fun _ z => absurd z (hfull.mp hf)) (fun _ _ => ⟨g1, ?_⟩)⟩
        intro σ2 hM2
        refine ⟨rfl, INV.mk hL1 hM2 ?_⟩
        obtain ⟨ρ3, O3, S3, ⟨W3, ρ3e⟩, I3, R3, A3, P3⟩ := hSC q hq
        obtain ⟨⟨x1, x2, x3⟩, ⟨x4, x5, x6, x7, x8⟩, x9, x10, x11, x12⟩ := st2_all (st_st2 gst)
        have x0 := st_O gst
        exact ⟨ρ2, O3.of x1 x0, S3.of x2 x9, ⟨gW, fun i hi => by rw [(st_O1 x0).2.2.2]; exact ρ2e i hi⟩, gI.mono (by omega), R3.of x3 x10, A3.of x4 x5 x6 x7 x11, P3.of x8 x12⟩
      · refine (ct_row_fullw (G := G) hL k t v hg hw0 hf).mono ?_
        rintro _ σ1 ⟨rfl, hL1, -, hk1⟩
        have hM1 := hM.cls hk1
        refine ⟨⟨LF.lb hk1, _, hM1.ob⟩, _, rfl, ref_gaps s1 s2 hj hk ht hRw.1 hnr t2 (by omega) hM1 hgo hkd2 hW.2.2.2.1 hn hs1.symm (w3.trans hRw.1) (nw1.trans hW.2.2.2.1) ukd (nr1.trans hW.2.2.1.1) hW.2.2.1.2.1 (w4.trans hA.1) hna (w5.trans hA.2.2.2.1) hA.2.2.1 hcl.symm hba.symm rfl (fun z => absurd z (by rw [urule]; exact hc)) (fun _ _ => ?_) (fun _ z => absurd (hfull.mpr z) hf)⟩
        intro σ2 hM2
        exact ⟨rfl, INV.mk hL1 hM2 hSj⟩
  · -- fixed, sliding
    have hkd2 : ¬ s.oKind o = 2 := by rw [k1]; exact hkd
    have ebg := bg_st_eq hO t1 hkd
    obtain ⟨K, K1, K8, K2, K3, K4, K5, K6, K7, K9⟩ := bg_all (st := (od o).2.2.1) (sz := (od o).2.1) (time := t) hst.1 hst.2.1 ok.2.1.2 hst.2.2 htb.1 htb.2
    have h0' : ¬ bg_st s o = 0 := by rw [ebg]; exact h0
    rw [← ebg, ← k2] at K2 K3
    generalize hB : (fun i => bg_of (bg_st s o) (s.oSize o) t 8 (nI i)) = B
    have hBe : ∀ i, B i = bg_of (bg_st s o) (s.oSize o) t 8 (nI i) := fun i => by rw [← hB]
    generalize hfb : (rv_fdiv (t - (od o).2.1) (od o).2.2.1 + 1) * (od o).2.2.1 = fb at *
    have hB1 : ∀ i, i < K → B i = cb (od o).2.2.1 i fb ∧ cb (od o).2.2.1 i fb ≤ t := fun i hi => by
      rw [hBe, ebg, k2]
      exact ⟨(K4 i hi).1, (K4 i hi).2.2⟩
    have hBn : ∀ i, i < K → ¬ bg_of (bg_st s o) (s.oSize o) t 8 (nI i) = -99999999 := fun i hi => by
      rw [← hBe, (hB1 i hi).1]; exact (K4 i hi).2.1
    have hmul : ∀ i : Nat, i ≤ 8 → 0 ≤ (i : Int) * (od o).2.2.1.toInt := fun i hi => Int.mul_nonneg (by omega) (by omega)
    have hBb : ∀ i, i < K → -1000000 ≤ (B i).toInt ∧ (B i).toInt ≤ 100000000 := fun i hi => by
      have z1 := K6 i (by omega)
      have z2 := hmul i (by omega)
      have z3 := Int32.le_iff_toInt_le.mp (hB1 i hi).2
      have z4 := ok.2.1
      rw [(hB1 i hi).1]
      omega
    have hBi : ∀ i i', i < i' → i' < K → B i' ≠ B i := fun i i' hii hi' z => by
      have z1 := K6 i (by omega)
      have z2 := K6 i' (by omega)
      rw [(hB1 i (by omega)).1, (hB1 i' hi').1] at z
      rw [z, z1] at z2
      have z3 : ((i : Int) + 1) * (od o).2.2.1.toInt ≤ (i' : Int) * (od o).2.2.1.toInt := Int.mul_le_mul_of_nonneg_right (by omega) (by omega)
      rw [Int.add_mul, Int.one_mul] at z3
      omega
    obtain ⟨j1, j2, j3⟩ := gcount (vo := nI o) (k := k) (st := (od o).2.2.1) (sz := (od o).2.1) (l := (od o).2.2.2.1) (m := (od o).2.2.2.2.2) (o := o) hW k2 k4 k6 hB1 K5 K8 K 0 (true, false) 0 (by omega)
    rw [Nat.sub_zero] at j1 j2
    dsimp only at j1 j2 j3
    rw [show cb (od o).2.2.1 0 fb = fb from rfl] at j1 j2
    rw [Int32.zero_add] at j3
    generalize ha' : gc_run s o n (nI o) k B K 0 (true, false, 0) = a' at j1 j2 j3
    have hms := ms_le (n := n) (p := p) (D := D) (o := nI o) (k := k) (sz := (od o).2.1) (l := (od o).2.2.2.1) (m := (od o).2.2.2.2.2) (B := B) K 0
    have ewhy : rw_why (od o) p D (nI o) k t n = jd_grid (od o).2.2.2.2.1 (a'.1, a'.2.1) := by
      unfold rw_why
      rw [if_neg hkd, hfb, j1]
    have hw := why_grid (od o).2.2.2.2.1 (a'.1, a'.2.1)
    rw [← ewhy] at hw
    dsimp only at hw
    have enew : rw_new (od o) p D (nI o) k t n = a'.2.2 := by
      unfold rw_new
      rw [if_neg hkd, hfb, j2]
    have hfull : nI n + rw_new (od o) p D (nI o) k t n ≤ 120 ↔ ¬ 120 < s.nwin + a'.2.2 := by
      rw [enew, hW.2.2.2.1, Int32.not_lt]
    have ea' : a' = gc_run s o n (nI o) k (fun i => bg_of (bg_st s o) (s.oSize o) t 8 (nI i)) K 0 (true, false, 0) := by rw [hB]; exact ha'.symm
    by_cases hc : a'.1 = true ∨ (a'.2.1 = true ∧ (od o).2.2.2.2.1 = 2)
    · have hw0 := hw.1.mpr hc
      have hwe := hw.2 hc
      have hc2 : a'.1 = true ∨ (a'.2.1 = true ∧ s.oRule o = 2) := by rw [k5]; exact hc
      by_cases hstop : b ≤ na ∧ rl = 1
      · refine (ct_row_stop (G := G) hL k t v hg hw0 hstop.1 hstop.2).mono ?_
        rintro _ σ1 ⟨rfl, hL1, -, hk1⟩
        have hM1 := hM.cls hk1
        refine ⟨⟨LF.lb hk1, _, hM1.ob⟩, _, rfl, ref_grid s1 s2 hj hk ht hRw.1 hnr t2 (by omega) hM1 hgo hkd2 hW.2.2.2.1 hn hW.2.2.1.1 hW.2.2.1.2.1 hA.1 hna hA.2.2.2.1 hA.2.2.1 h0' K2 K3 hBn ea' (fun _ => ?_) (fun z => absurd hc2 z) (fun z => absurd hc2 z)⟩
        intro σ2 hM2
        obtain ⟨a1, a2⟩ := aside_stop (k := k) (t := t) (v := v) (w := ro_why a'.1) hSIM0 hj hstop
        exact ⟨by rw [a1]; rfl, INV.mk hL1 hM2 a2⟩
      · refine (ct_row_aside (G := G) hL k t v hg hw0 hstop).mono ?_
        rintro _ σ1 ⟨rfl, ⟨q, hq, hL1⟩, -, hk1⟩
        have hM1 := hM.cls hk1
        refine ⟨⟨LF.lb hk1, _, hM1.ob⟩, _, rfl, ref_grid s1 s2 hj hk ht hRw.1 hnr t2 (by omega) hM1 hgo hkd2 hW.2.2.2.1 hn hW.2.2.1.1 hW.2.2.1.2.1 hA.1 hna hA.2.2.2.1 hA.2.2.1 h0' K2 K3 hBn ea' (fun _ => ?_) (fun z => absurd hc2 z) (fun z => absurd hc2 z)⟩
        intro σ2 hM2
        obtain ⟨a1, a2⟩ := aside_go (A := sa j) (k := k) (t := t) (v := v) (w := ro_why a'.1) hSIM0 hnr hj hkb htb hq hstop
        rw [hwe] at hL1
        exact ⟨by rw [a1]; rfl, INV.mk hL1 hM2 a2⟩
    · have hw0 : rw_why (od o) p D (nI o) k t n = 0 := Classical.byContradiction (fun z => hc (hw.1.mp z))
      have hc2 : ¬ (a'.1 = true ∨ (a'.2.1 = true ∧ s.oRule o = 2)) := by rw [k5]; exact hc
      by_cases hf : nI n + rw_new (od o) p D (nI o) k t n ≤ 120
      · have hroom : n + ms_run n p D (nI o) k (od o).2.1 (od o).2.2.2.1 (od o).2.2.2.2.2 B K 0 ≤ 120 := by
          rw [enew, j3, (full_nI hn (by omega)).1] at hf
          exact hf
        have hSC : ∀ q, (q ≤ nr ∧ (∀ i, q ≤ i → i < nr → raft (rd i) k t = true) ∧ (q = 0 ∨ raft (rd (q - 1)) k t = false)) → SIM no od ns (va_up sd j (sd_note (sd j) t true)) (nr + 1) (rv_insf rs q j) (rv_insf rd q (sa j, k, t, v, true)) n p D R na aq b rl dr ps (md_came s nr j (nI j) k t v true) := fun q hq => hSIM0.came (most.rf s) hA hnr hj hkb htb hq
        have hxq : ∃ q, (q ≤ nr ∧ (∀ i, q ≤ i → i < nr → raft (rd i) k t = true) ∧ (q = 0 ∨ raft (rd (q - 1)) k t = false)) := by
          have : ∀ m, m ≤ nr → (∀ i, m ≤ i → i < nr → raft (rd i) k t = true) → ∃ q, (q ≤ nr ∧ (∀ i, q ≤ i → i < nr → raft (rd i) k t = true) ∧ (q = 0 ∨ raft (rd (q - 1)) k t = false)) := by
            intro m
            induction m with
            | zero => intro z1 z2; exact ⟨0, z1, z2, Or.inl rfl⟩
            | succ m ih =>
              intro z1 z2
              cases hb : raft (rd m) k t with
              | false => exact ⟨m + 1, z1, z2, Or.inr hb⟩
              | true =>
                refine ih (by omega) (fun i y1 y2 => ?_)
                by_cases y : i = m
                · rw [y]; exact hb
                · exact z2 i (by omega) y2
          exact this nr (Nat.le_refl _) (fun i y1 y2 => absurd y2 (by omega))
        obtain ⟨q0, hq0⟩ := hxq
        obtain ⟨ρ2, O2, S2, ⟨W2, ρ2e⟩, -, -, A2, P2⟩ := hSC q0 hq0
        have hs2 := O2.2.2.1 o t1
        obtain ⟨g1, g2, F, T, gF, gT, gW, gI, gst⟩ := gr_sim (ρ := ρ2) (k := k) (v := v) (s0 := md_came s nr j (nI j) k t v true) hno t1 ((ρ2e o t1).trans hs2.2.2.2.2.2.1) hs2.2.2.1 hs2.2.2.2.2.2.1 hs2.2.2.2.2.2.2 hs2.2.2.2.2.1 hkd ok.2.1 hB1 hBb hBi K5 K8 K 0 n p D R (md_came s nr j (nI j) k t v true) (8 * (nr : Int)) (by omega) W2 hIw rfl (by omega) hroom
        rw [Nat.sub_zero, show cb (od o).2.2.1 0 fb = fb from rfl, ← hfb] at g1 gF
        refine (ct_row_grid (G := G) hL k t v hg hw0 hf hkd g1).mono ?_
        rintro _ σ1 ⟨rfl, ⟨q, F', hq, hF', hL1⟩, -, hk1⟩
        rw [← gF] at hF'
        subst hF'
        have hM1 := hM.cls hk1
        refine ⟨⟨LF.lb hk1, _, hM1.ob⟩, _, rfl, ref_grid s1 s2 hj hk ht hRw.1 hnr t2 (by omega) hM1 hgo hkd2 hW.2.2.2.1 hn hW.2.2.1.1 hW.2.2.1.2.1 hA.1 hna hA.2.2.2.1 hA.2.2.1 h0' K2 K3 hBn ea' (fun z => absurd z hc2) (fun _ z => absurd z (hfull.mp hf)) (fun _ _ => ⟨by rw [hB]; exact g2, ?_⟩)⟩
        intro σ2 hM2
        rw [hB, ← gT] at hM2
        refine ⟨rfl, INV.mk hL1 hM2 ?_⟩
        obtain ⟨ρ3, O3, S3, ⟨W3, ρ3e⟩, I3, R3, A3, P3⟩ := hSC q hq
        obtain ⟨⟨x1, x2, x3⟩, ⟨x4, x5, x6, x7, x8⟩, x9, x10, x11, x12⟩ := st2_all (st_st2 gst)
        have x0 := st_O gst
        exact ⟨ρ2, O3.of x1 x0, S3.of x2 x9, ⟨gW, fun i hi => by rw [(st_O1 x0).2.2.2]; exact ρ2e i hi⟩, gI.mono (by omega), R3.of x3 x10, A3.of x4 x5 x6 x7 x11, P3.of x8 x12⟩
      · refine (ct_row_fullw (G := G) hL k t v hg hw0 hf).mono ?_
        rintro _ σ1 ⟨rfl, hL1, -, hk1⟩
        have hM1 := hM.cls hk1
        refine ⟨⟨LF.lb hk1, _, hM1.ob⟩, _, rfl, ref_grid s1 s2 hj hk ht hRw.1 hnr t2 (by omega) hM1 hgo hkd2 hW.2.2.2.1 hn hW.2.2.1.1 hW.2.2.1.2.1 hA.1 hna hA.2.2.2.1 hA.2.2.1 h0' K2 K3 hBn ea' (fun z => absurd z hc2) (fun _ _ => ?_) (fun _ z => absurd (hfull.mpr z) hf)⟩
        intro σ2 hM2
        exact ⟨rfl, INV.mk hL1 hM2 hSIM0⟩
end
