/-! BOTH SIDES: the smaller calls -/
theorem ix_box (x : Int32) {n : Nat} (hn : n < 2 ^ 30) : (∃ j, j < n ∧ x = nI j) ∨ ((x < 0 ∨ nI n ≤ x) ∧ ¬ ∃ j, j < n ∧ x = nI j) := by
  by_cases h : ∃ j, j < n ∧ x = nI j
  · exact Or.inl h
  · refine Or.inr ⟨?_, h⟩
    by_cases h0 : x < 0
    · exact Or.inl h0
    · by_cases h1 : nI n ≤ x
      · exact Or.inr h1
      · exfalso
        have z0 := Int32.le_iff_toInt_le.mp (Int32.not_lt.mp h0)
        have z1 := Int32.lt_iff_toInt_lt.mp (Int32.not_le.mp h1)
        rw [show (0 : Int32).toInt = 0 from rfl] at z0
        rw [nI_toInt (by omega)] at z1
        refine h ⟨x.toInt.toNat, by omega, Int32.toInt_inj.mp ?_⟩
        rw [nI_toInt (by omega), Int.toNat_of_nonneg z0]
theorem nI_inside {j n : Nat} (hj : j < n) (hn : n < 2 ^ 30) : ¬ nI j < 0 ∧ ¬ nI n ≤ nI j ∧ (nI j).toNatClampNeg = j := ⟨nI_pos (by omega), nI_ge hj (by omega), nI_clamp (by omega)⟩
theorem INV.ob {x : Nat} {σ : rv_S} (h : INV x σ) : ∃ fs, σ.2 (x + 374) = some (.inl (k_Model, fs)) := by
  obtain ⟨_, _, _, _, _, _, _, _, _, _, _, _, _, _, _, _, _, _, _, _, _, h1, h2, h3⟩ := h
  exact ⟨_, h2.ob⟩
section
variable {G : rv_G} {ic ir mc ms x : Nat} {av : List Value} {σ : rv_S}
/-- nothing changes -/
theorem step_same {ν : Type} {mk : ν → Value} (hI : INV x σ) {a : ν} (hc : rv_Ct G ic mc ms (.ref x :: av) σ (fun r σ' => r = some (mk a) ∧ σ' = σ)) (hr : rv_Ct G ir 0 0 (.ref (x + 374) :: av) σ (fun r σ' => r = some (mk a) ∧ σ' = σ)) : STEP G mk ic ir mc ms x av σ := by
  refine hc.mono ?_
  rintro _ σ ⟨rfl, rfl⟩
  refine ⟨⟨rv_only.rf, hI.ob⟩, a, rfl, hr.mono ?_⟩
  rintro _ σ ⟨rfl, rfl⟩
  exact ⟨rfl, hI, rv_only.rf⟩
end
section
variable {G : rv_G} {x : Nat} {σ : rv_S}
theorem step_result (hI : INV x σ) (i j : Int32) : STEP G Value.long i_Late_result i_Model_result_IIJ 0 0 x [.int i, .int j] σ := by
  have hI0 := hI
  obtain ⟨no, oa, od, ns, sa, sd, nr, ra, rs, rd, n, p, D, R, na, aq, b, rl, dr, ps, s, hL, hM, ρ, hO, hS, ⟨hW, hρ⟩, hIw, hRw, hA, hP⟩ := hI
  obtain ⟨r1, r2, r3, r4⟩ := hW.2.2.1
  have hc := ct_result (G := G) hL.1.1.1 hL.1.1.2.2 i j
  have hr := rt_result_get (G := G) i j r1 r2 hM
  refine step_same hI0 hc (hr.mono ?_)
  rintro _ σ ⟨rfl, rfl⟩
  refine ⟨?_, rfl⟩
  congr 2
  rcases ix_box i (n := R.1) (by omega) with ⟨i', hi, rfl⟩ | ⟨ho, hno⟩
  · rcases ix_box j (n := 9) (by omega) with ⟨j', hj, rfl⟩ | ⟨ho, hno⟩
    · obtain ⟨z1, z2, z3⟩ := nI_inside hi (by omega)
      obtain ⟨y1, y2, y3⟩ := nI_inside hj (by omega)
      rw [if_pos ⟨(in_nI (by omega)).mpr ⟨i', hi, rfl⟩, (in_nI (n := 9) (by omega)).mpr ⟨j', hj, rfl⟩⟩, if_neg (fun z => by rcases z with z | z | z | z <;> contradiction), z3, y3]
      exact (r4 i' hi j' hj).symm
    · rw [if_neg (fun z => hno ((in_nI (n := 9) (by omega)).mp z.2)), if_pos (Or.inr (Or.inr ho))]
  · rw [if_neg (fun z => hno ((in_nI (by omega)).mp z.1)), if_pos (ho.elim Or.inl (fun z => Or.inr (Or.inl z)))]
theorem step_aside (hI : INV x σ) (i j : Int32) : STEP G Value.int i_Late_aside i_Model_aside 0 0 x [.int i, .int j] σ := by
  have hI0 := hI
  obtain ⟨no, oa, od, ns, sa, sd, nr, ra, rs, rd, n, p, D, R, na, aq, b, rl, dr, ps, s, hL, hM, ρ, hO, hS, ⟨hW, hρ⟩, hIw, hRw, hA, hP⟩ := hI
  obtain ⟨r1, r2, r3, -, -, -, r4⟩ := hA
  have hc := ct_aside (G := G) hL.1.1.1 hL.2.2.2.2.2.1 i j
  have hr := rt_aside_get (G := G) i j r1 (by omega) hM
  refine step_same hI0 hc (hr.mono ?_)
  rintro _ σ ⟨rfl, rfl⟩
  refine ⟨?_, rfl⟩
  congr 2
  rcases ix_box i (n := na) (by omega) with ⟨i', hi, rfl⟩ | ⟨ho, hno⟩
  · rcases ix_box j (n := 5) (by omega) with ⟨j', hj, rfl⟩ | ⟨ho, hno⟩
    · obtain ⟨z1, z2, z3⟩ := nI_inside hi (by omega)
      obtain ⟨y1, y2, y3⟩ := nI_inside hj (by omega)
      rw [if_pos ⟨(in_nI (by omega)).mpr ⟨i', hi, rfl⟩, (in_nI (n := 5) (by omega)).mpr ⟨j', hj, rfl⟩⟩, if_neg (fun z => by rcases z with z | z | z | z <;> contradiction), z3, y3, r4 i' hi j' hj]
      exact (Int32.toInt32_toInt64 _).symm
    · rw [if_neg (fun z => hno ((in_nI (n := 5) (by omega)).mp z.2)), if_pos (Or.inr (Or.inr ho))]
      rfl
  · rw [if_neg (fun z => hno ((in_nI (by omega)).mp z.1)), if_pos (ho.elim Or.inl (fun z => Or.inr (Or.inl z)))]
    rfl
theorem step_passed (hI : INV x σ) (i j : Int32) : STEP G Value.long i_Late_passed i_Model_passed 0 0 x [.int i, .int j] σ := by
  have hI0 := hI
  obtain ⟨no, oa, od, ns, sa, sd, nr, ra, rs, rd, n, p, D, R, na, aq, b, rl, dr, ps, s, hL, hM, ρ, hO, hS, ⟨hW, hρ⟩, hIw, hRw, hA, ⟨r1, r2, r3⟩⟩ := hI
  have hc := ct_passed (G := G) hL.1.1.1 hL.2.2.2.2.2.2.1 i j
  have hr := rt_passed (G := G) i j r1 r2 hM
  refine step_same hI0 hc (hr.mono ?_)
  rintro _ σ ⟨rfl, rfl⟩
  refine ⟨?_, rfl⟩
  congr 2
  by_cases hc : rv_in i 0 (nI ps.1 - 1) = true ∧ rv_in j 0 6 = true
  · rw [if_pos hc, if_pos hc]
    obtain ⟨i', hi, rfl⟩ := (in_nI (by omega)).mp hc.1
    obtain ⟨j', hj, rfl⟩ := (in_nI (n := 7) (by omega)).mp hc.2
    rw [nI_clamp (by omega), nI_clamp (by omega)]
    exact (r3 _ (by omega)).symm
  · rw [if_neg hc, if_neg hc]
theorem step_mark (hI : INV x σ) (i : Int32) : STEP G Value.int i_Late_mark i_Model_mark 0 0 x [.int i] σ := by
  have hI0 := hI
  obtain ⟨no, oa, od, ns, sa, sd, nr, ra, rs, rd, n, p, D, R, na, aq, b, rl, dr, ps, s, hL, hM, ρ, ⟨o1, o2, o3, o4⟩, hS, ⟨hW, hρ⟩, hIw, hRw, hA, hP⟩ := hI
  rcases ix_box i (n := no) (by omega) with ⟨j, hj, rfl⟩ | ⟨ho, hno⟩
  · refine step_same hI0 (ct_mark_in hL.1.1.1 hL.2.1 j hj) ((rt_mark_in o1 o2 hj rfl hM).mono ?_)
    rintro _ σ ⟨rfl, rfl⟩
    exact ⟨by rw [(o3 j hj).2.2.2.2.2.2], rfl⟩
  · exact step_same hI0 (ct_mark_out hL.1.1.1 i ho) (rt_mark_out o1 o2 hno hM)
theorem step_of (hI : INV x σ) (i j : Int32) : STEP G Value.int i_Late_of i_Model_of 0 0 x [.int i, .int j] σ := by
  have hI0 := hI
  obtain ⟨no, oa, od, ns, sa, sd, nr, ra, rs, rd, n, p, D, R, na, aq, b, rl, dr, ps, s, hL, hM, ρ, hO, ⟨s1, s2, s3, s4⟩, ⟨hW, hρ⟩, hIw, hRw, hA, hP⟩ := hI
  rcases ix_box i (n := ns) (by omega) with ⟨i', hi, rfl⟩ | ⟨ho, hno⟩
  · refine step_same hI0 (ct_of_in hL.1.1.1 hL.2.1 hL.2.2.1 i' hi j) ((rt_of_in j s1 s2 hi rfl (s3 i' hi).2.1 hM).mono ?_)
    rintro _ σ ⟨rfl, rfl⟩
    exact ⟨by rw [(s3 i' hi).2.2], rfl⟩
  · exact step_same hI0 (ct_of_out hL.1.1.1 i j ho) (rt_of_out j s1 s2 hno hM)
theorem step_count (hI : INV x σ) (i : Int32) : STEP G Value.int i_Late_count i_Model_count 0 0 x [.int i] σ := by
  have hI0 := hI
  obtain ⟨no, oa, od, ns, sa, sd, nr, ra, rs, rd, n, p, D, R, na, aq, b, rl, dr, ps, s, hL, hM, ρ, hO, hS, ⟨hW, hρ⟩, hIw, hRw, hA, hP⟩ := hI
  have hR2 := hL.1.1.2.2
  have hA2 := hL.2.2.2.2.2.1
  obtain ⟨e1, la1, g1, -, -, q1, -⟩ := hR2
  obtain ⟨e2, la2, g2, -, -, q2, -⟩ := hA2
  refine step_same hI0 (ct_count hL.1.1.1 hL.2.2.2.1.1 hL.1.1.2.1.1 q1 q2 hL.2.2.2.2.2.2.1.1 i) ((rt_count i hM).mono ?_)
  rintro _ σ ⟨rfl, rfl⟩
  refine ⟨?_, rfl⟩
  rw [hO.1, hS.1, hRw.1, hW.2.2.2.1, hW.2.2.1.1, ← hW.2.2.1.2.2.1, hA.1, hA.2.2.2.2.2.1, hP.1]
end
