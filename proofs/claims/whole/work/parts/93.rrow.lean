/-! THE REFERENCE: a row, put together -/
section
variable {G : rv_G} {σ : rv_S} {y ns j nr o n r na b : Nat} {s : Md} {k t v : Int32} {Rt : Option Value → rv_S → Prop}
theorem ref_grid {K : Nat} {a' : Bool × Bool × Int32} (es : s.nsr = nI ns) (hs : ns ≤ 10) (hj : j < ns) (hk : rv_in k 0 9 = true) (ht : rv_in t 0 100000000 = true) (em : s.nrow = nI nr) (hm : nr < 300) (eo : s.sOp j = nI o) (ho : o < 5) (h : MI σ σ y (md y s)) (hgo : ¬ (s.sEnd j = true ∨ s.sStop j = true)) (hkd : ¬ s.oKind o = 2) (en : s.nwin = nI n) (hn : n ≤ 120) (er : s.nres = nI r) (hr : r ≤ 400) (ea : s.nas = nI na) (ha : na ≤ 100) (eb : s.bnd = nI b) (hb : b ≤ 100) (h0 : ¬ bg_st s o = 0) (hok : bg_ok (bg_st s o) (s.oSize o) t 8 (dn t (bg_st s o) * bg_st s o)) (hK : bg_of (bg_st s o) (s.oSize o) t 8 (nI K) = -99999999) (hK2 : ∀ i, i < K → ¬ bg_of (bg_st s o) (s.oSize o) t 8 (nI i) = -99999999) (ea' : a' = gc_run s o n (nI o) k (fun i => bg_of (bg_st s o) (s.oSize o) t 8 (nI i)) K 0 (true, false, 0))
    (hA : (a'.1 = true ∨ (a'.2.1 = true ∧ s.oRule o = 2)) → ∀ σ', MI σ σ' y (md y (ra_st s na b j nr (nI j) k t v (ro_why a'.1))) → Rt (some (.int (if (pa_run s na b j (nI j) k t v (ro_why a'.1)).1 = true then 0 else -2))) σ')
    (hB : ¬ (a'.1 = true ∨ (a'.2.1 = true ∧ s.oRule o = 2)) → 120 < s.nwin + a'.2.2 → ∀ σ', MI σ σ' y (md y s) → Rt (some (.int (-3))) σ')
    (hC : ¬ (a'.1 = true ∨ (a'.2.1 = true ∧ s.oRule o = 2)) → ¬ 120 < s.nwin + a'.2.2 → gu_ok o (nI o) k v (fun i => bg_of (bg_st s o) (s.oSize o) t 8 (nI i)) K 0 (md_came s nr j (nI j) k t v true, r, n) ∧ ∀ σ', MI σ σ' y (md y (gu_run o (nI o) k v (fun i => bg_of (bg_st s o) (s.oSize o) t 8 (nI i)) K 0 (md_came s nr j (nI j) k t v true, r, n)).1) → Rt (some (.int 1)) σ') :
    rv_Ct G i_Model_row 0 0 [.ref y, .int (nI j), .int k, .int t, .int v] σ Rt := by
  have hj10 : j < 10 := by omega
  refine rt_row_go es hs hj rfl hk ht em (by omega) eo ho h (fun z => absurd z hgo) (fun _ z => absurd z (by omega)) (fun _ _ z => absurd z hkd) (fun _ _ _ => ?_)
  rw [eo]
  refine lp_gc rfl ho en hn h0 hok hK hK2 h K 0 0 (true, false, 0) none none nI_0.symm (by omega) ?_
  intro a2 vk x10 x11 e2
  rw [← ea'] at e2
  rw [e2]
  by_cases hc : a'.1 = true ∨ (a'.2.1 = true ∧ s.oRule o = 2)
  · refine (lp_rA rfl ho hc rfl hj10 em hm ea ha eb hb h).mono ?_
    rintro _ σ' ⟨rfl, h'⟩
    exact hA hc σ' h'
  · refine lp_r330 rfl ho hc h ?_
    by_cases hf : 120 < s.nwin + a'.2.2
    · refine (lp_rB hf h).mono ?_
      rintro _ σ' ⟨rfl, h'⟩
      exact hB hc hf σ' h'
    · obtain ⟨g1, g2⟩ := hC hc hf
      refine (lp_rC1 hf rfl ho hkd rfl hj10 em hm en hn er hr h0 hok hK hK2 g1 h).mono ?_
      rintro _ σ' ⟨rfl, h'⟩
      exact g2 σ' h'
theorem ref_gaps {s1 : Md} {cl ba : Bool} {mo : Int32} (es : s.nsr = nI ns) (hs : ns ≤ 10) (hj : j < ns) (hk : rv_in k 0 9 = true) (ht : rv_in t 0 100000000 = true) (em : s.nrow = nI nr) (hm : nr < 300) (eo : s.sOp j = nI o) (ho : o < 5) (h : MI σ σ y (md y s)) (hgo : ¬ (s.sEnd j = true ∨ s.sStop j = true)) (hkd : s.oKind o = 2) (en : s.nwin = nI n) (hn : n ≤ 120) (e1 : s1 = jo_run (nI o) k t (t + s.oSize o) n 0 (jo_0 s o t)) (em1 : s1.nrow = nI nr) (en1 : s1.nwin = nI n) (hkd1 : s1.oKind o = 2) (er : s1.nres = nI r) (hr : r ≤ 400) (ea : s1.nas = nI na) (ha : na ≤ 100) (eb : s1.bnd = nI b) (hb : b ≤ 100) (ecl : cl = decide (s1.fE + s1.oLt o ≤ s1.oMark o)) (eba : ba = (decide (s1.fE ≤ s1.oMark o) || s1.jT)) (emo : mo = if s1.jn = 0 then 1 else 0)
    (hA : (cl = true ∨ (ba = true ∧ s1.oRule o = 2)) → ∀ σ', MI σ σ' y (md y (ra_st s1 na b j nr (nI j) k t v (ro_why cl))) → Rt (some (.int (if (pa_run s1 na b j (nI j) k t v (ro_why cl)).1 = true then 0 else -2))) σ')
    (hB : ¬ (cl = true ∨ (ba = true ∧ s1.oRule o = 2)) → 120 < s1.nwin + mo → ∀ σ', MI σ σ' y (md y s1) → Rt (some (.int (-3))) σ')
    (hC : ¬ (cl = true ∨ (ba = true ∧ s1.oRule o = 2)) → ¬ 120 < s1.nwin + mo → (gp_run (nI o) k (md_came s1 nr j (nI j) k t v true).fB (md_came s1 nr j (nI j) k t v true).fE n (md_came s1 nr j (nI j) k t v true) r (1, v.toInt64, v, v)).2.2.1 < 120 ∧ ∀ σ', MI σ σ' y (md y (gap_all (md_came s1 nr j (nI j) k t v true) n r o (nI o) k v)) → Rt (some (.int 1)) σ') :
    rv_Ct G i_Model_row 0 0 [.ref y, .int (nI j), .int k, .int t, .int v] σ Rt := by
  have hj10 : j < 10 := by omega
  refine rt_row_go es hs hj rfl hk ht em (by omega) eo ho h (fun z => absurd z hgo) (fun _ z => absurd z (by omega)) (fun _ _ _ => ?_) (fun _ _ z => absurd hkd z)
  rw [eo]
  refine lp_row_gaps rfl ho en hn h ?_
  intro s2 σ' e2 h2
  rw [← e1] at e2
  subst e2
  rw [← ecl, ← eba, ← emo]
  by_cases hc : cl = true ∨ (ba = true ∧ s2.oRule o = 2)
  · refine (lp_rA rfl ho hc rfl hj10 em1 hm ea ha eb hb h2).mono ?_
    rintro _ σ' ⟨rfl, h'⟩
    exact hA hc σ' h'
  · refine lp_r330 rfl ho hc h2 ?_
    by_cases hf : 120 < s2.nwin + mo
    · refine (lp_rB hf h2).mono ?_
      rintro _ σ' ⟨rfl, h'⟩
      exact hB hc hf σ' h'
    · obtain ⟨g1, g2⟩ := hC hc hf
      refine (lp_rC2 hf rfl ho hkd1 rfl hj10 em1 hm en1 hn er hr g1 h2).mono ?_
      rintro _ σ' ⟨rfl, h'⟩
      exact g2 σ' h'
end
