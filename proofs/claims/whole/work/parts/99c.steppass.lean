/-! BOTH SIDES: pass -/
abbrev Rw5 : Type := Nat × Int32 × Int32 × Int32 × Bool
def tkf (sd : Nat → Sd) (o : Nat) (all : Bool) (r : Rw5) : Bool := decide ((sd r.1).1 = o) && (all || r.2.2.2.2)
theorem flt_1 {α β : Type} (p : α → Bool) (g : α → List β) (L : List β) (f : Nat → α) (i t : Nat) : L ++ (((List.range' i (t + 1)).map f).filter p).flatMap g = (if p (f i) = true then L ++ g (f i) else L) ++ (((List.range' (i + 1) t).map f).filter p).flatMap g := by
  rw [List.range'_succ, List.map_cons]
  by_cases h : p (f i) = true
  · rw [List.filter_cons_of_pos h, List.flatMap_cons, if_pos h, List.append_assoc]
  · rw [List.filter_cons_of_neg h, if_neg h]
section
variable {sd : Nat → Sd} {rs : Nat → Nat} {rd : Nat → Rd} {d : Od} {o nr : Nat} {all : Bool}
theorem pp_grid (hk : ¬ d.1 = 2) (hs : 1 ≤ d.2.2.1.toInt) (hS1 : d.2.2.1.toInt ≤ d.2.1.toInt) (hS2 : d.2.1.toInt ≤ 1000000) (hS8 : d.2.1.toInt ≤ 8 * d.2.2.1.toInt) (hnr : nr ≤ 300) (hsort : ∀ i j, i < j → j < nr → raft (rd i) (rd j).2.1 (rd j).2.2.1 = false) (hb : ∀ i, i < nr → (0 ≤ (rd i).2.1.toInt ∧ (rd i).2.1.toInt ≤ 9) ∧ (0 ≤ (rd i).2.2.1.toInt ∧ (rd i).2.2.1.toInt ≤ 100000000)) :
    ∀ (t i : Nat) (s : Ps) (L : List Cn) (K0 T0 : Int), i + t = nr → Reps s L (EG d.2.1.toInt) → s.1 ≤ 8 * i → GI d.2.2.1.toInt d.2.1.toInt K0 T0 L → (∀ j, i ≤ j → j < nr → K0 < (rd j).2.1.toInt ∨ (K0 = (rd j).2.1.toInt ∧ T0 ≤ (rd j).2.2.1.toInt)) →
    Reps (pp_run sd rs rd d o all t i s) (L ++ (((List.range' i t).map (fun i => (rs i, (rd i).2))).filter (tkf sd o all)).flatMap (rowC d.2.2.1 d.2.1)) (EG d.2.1.toInt)
  | 0, i, s, L, K0, T0, e, h, hn, hg, hr => by
    show Reps s (L ++ []) _
    rw [List.append_nil]
    exact h
  | t + 1, i, s, L, K0, T0, e, h, hn, hg, hr => by
    rw [flt_1]
    unfold pp_run
    have hbi := hb i (by omega)
    by_cases hc : pp_is sd rs rd o all i = true
    · rw [if_pos hc, if_pos (show tkf sd o all (rs i, (rd i).2) = true from hc)]
      have hg2 := hg.mono (hr i (Nat.le_refl _) (by omega))
      obtain ⟨k1, -, -, -, -, -, k7, k8, m, hm⟩ := kn_all hs hS1 hS2 hS8 hbi.2.1 hbi.2.2
      obtain ⟨a1, a2, a3⟩ := pgrid (d := rd i) hs hS1 hS2 hS8 hbi.2.1 hbi.2.2 (kn d.2.2.1 d.2.1 (rd i).2.2.1) 0 s L (by omega) h (by omega) hg2 (fun n n1 n2 => by
        exfalso
        rw [hm, show ((0 : Nat) : Int) * d.2.2.1.toInt = 0 by simp, Int.add_zero] at n2
        have hlt : n < m := by
          rcases Int.lt_or_le n m with z | z
          · exact z
          · have := Int.mul_le_mul_of_nonneg_right z (show 0 ≤ d.2.2.1.toInt by omega)
            omega
        have := Int.mul_le_mul_of_nonneg_right (show n + 1 ≤ m by omega) (show 0 ≤ d.2.2.1.toInt by omega)
        rw [Int.add_mul, Int.one_mul] at this
        omega)
      have eadd : ps_add d s (rd i) = ps_grid d.2.1 d.2.2.1 (rd i) (8 - 0) (cb d.2.2.1 0 (fbo d.2.2.1 d.2.1 (rd i).2.2.1)) s := by
        unfold ps_add
        rw [if_neg hk]
        rfl
      rw [eadd]
      refine pp_grid hk hs hS1 hS2 hS8 hnr hsort hb t (i + 1) _ _ (rd i).2.1.toInt (rd i).2.2.1.toInt (by omega) a1 (by omega) a3 (fun j j1 j2 => ?_)
      have := hsort i j (by omega) j2
      rw [raft_f] at this
      omega
    · rw [if_neg hc, if_neg (show ¬ tkf sd o all (rs i, (rd i).2) = true from hc)]
      exact pp_grid hk hs hS1 hS2 hS8 hnr hsort hb t (i + 1) s L K0 T0 (by omega) h (by omega) hg (fun j j1 j2 => hr j (by omega) j2)
theorem pr_grid {s : Md} {rj : Nat → Nat} {N : Nat} {st : Int32} (hk : ¬ s.oKind o = 2) (est : bg_st s o = st) (hs : 1 ≤ st.toInt) (hS1 : st.toInt ≤ (s.oSize o).toInt) (hS2 : (s.oSize o).toInt ≤ 1000000) (hS8 : (s.oSize o).toInt ≤ 8 * st.toInt) (htk : ∀ i, i < nr → tk_is s i (rj i) (nI o) all = tkf sd o all (rj i, s.rKey i, s.rTime i, s.rV i, s.rUsed i)) (hb : ∀ i, i < nr → 0 ≤ (s.rTime i).toInt ∧ (s.rTime i).toInt ≤ 100000000) :
    ∀ (f i : Nat) (q : Ps) (L : List Cn), i + f = nr → Reps q L (EG (s.oSize o).toInt) → Reps (pr_run s o all rj nr N 8 (fun i => kn st (s.oSize o) (s.rTime i)) f i q) (L ++ (((List.range' i f).map (fun i => (rj i, s.rKey i, s.rTime i, s.rV i, s.rUsed i))).filter (tkf sd o all)).flatMap (rowC st (s.oSize o))) (EG (s.oSize o).toInt)
  | 0, i, q, L, e, h => by
    show Reps q (L ++ []) _
    rw [List.append_nil]
    exact h
  | f + 1, i, q, L, e, h => by
    rw [flt_1]
    unfold pr_run pr_st
    rw [htk i (by omega)]
    have hbi := hb i (by omega)
    by_cases hc : tkf sd o all (rj i, s.rKey i, s.rTime i, s.rV i, s.rUsed i) = true
    · rw [if_pos hc, if_pos hc, if_neg hk, est]
      obtain ⟨k1, -, -, k4, -⟩ := kn_all hs hS1 hS2 hS8 hbi.1 hbi.2
      have h2 := mgrid (k := s.rKey i) (v := (s.rV i).toInt64) (B := fun j => bg_of st (s.oSize o) (s.rTime i) 8 (nI j)) hs hS1 hS2 hS8 hbi.1 hbi.2 (fun j hj => (k4 j hj).1) (kn st (s.oSize o) (s.rTime i)) 0 q L (by omega) h
      exact pr_grid hk est hs hS1 hS2 hS8 htk hb f (i + 1) _ _ (by omega) h2
    · rw [if_neg hc, if_neg hc]
      exact pr_grid hk est hs hS1 hS2 hS8 htk hb f (i + 1) q L (by omega) h
end
noncomputable def rowG (nr : Nat) (tk : Nat → Bool) (kI tI : Nat → Int) (sz : Int) (r : Rw5) : List Cn := [(r.2.1.toInt64, lo64 nr tk kI tI sz r.2.1.toInt r.2.2.1.toInt, r.2.2.2.1.toInt64)]
section
variable {sd : Nat → Sd} {rs : Nat → Nat} {rd : Nat → Rd} {d : Od} {o nr : Nat} {all : Bool}
theorem pp_gaps (hk : d.1 = 2) (hS1 : 1 ≤ d.2.1.toInt) (hS2 : d.2.1.toInt ≤ 1000000) (hnr : nr ≤ 300) (hsort : ∀ i j, i < j → j < nr → raft (rd i) (rd j).2.1 (rd j).2.2.1 = false) (hb : ∀ i, i < nr → (0 ≤ (rd i).2.1.toInt ∧ (rd i).2.1.toInt ≤ 9) ∧ (0 ≤ (rd i).2.2.1.toInt ∧ (rd i).2.2.1.toInt ≤ 100000000)) :
    ∀ (t i : Nat) (s : Ps) (L : List Cn), i + t = nr → GS nr (pp_is sd rs rd o all) (fun i => (rd i).2.1.toInt) (fun i => (rd i).2.2.1.toInt) d.2.1.toInt i s L →
    GS nr (pp_is sd rs rd o all) (fun i => (rd i).2.1.toInt) (fun i => (rd i).2.2.1.toInt) d.2.1.toInt nr (pp_run sd rs rd d o all t i s) (L ++ (((List.range' i t).map (fun i => (rs i, (rd i).2))).filter (tkf sd o all)).flatMap (rowG nr (pp_is sd rs rd o all) (fun i => (rd i).2.1.toInt) (fun i => (rd i).2.2.1.toInt) d.2.1.toInt))
  | 0, i, s, L, e, h => by
    have : i = nr := by omega
    subst this
    show GS _ _ _ _ _ i s (L ++ [])
    rw [List.append_nil]
    exact h
  | t + 1, i, s, L, e, h => by
    rw [flt_1]
    unfold pp_run
    have hbi := hb i (by omega)
    by_cases hc : pp_is sd rs rd o all i = true
    · rw [if_pos hc, if_pos (show tkf sd o all (rs i, (rd i).2) = true from hc)]
      have ee : ((rd i).2.2.1 + d.2.1).toInt = (rd i).2.2.1.toInt + d.2.1.toInt := tA (by omega) (by omega)
      have h2 := GS.take (sz32 := d.2.1) (d := rd i) (fun a b h1 h2 => by
        have := hsort a b h1 h2
        rw [raft_f] at this
        (try dsimp only)
        omega) (by omega) hnr h hc rfl rfl rfl ee hS1
      have eadd : ps_add d s (rd i) = ps_gap d.2.1 s (rd i) := by
        unfold ps_add
        rw [if_pos hk]
      rw [eadd]
      exact pp_gaps hk hS1 hS2 hnr hsort hb t (i + 1) _ _ (by omega) h2
    · rw [if_neg hc, if_neg (show ¬ tkf sd o all (rs i, (rd i).2) = true from hc)]
      exact pp_gaps hk hS1 hS2 hnr hsort hb t (i + 1) s L (by omega) (h.skip (by cases hb2 : pp_is sd rs rd o all i with
        | false => rfl
        | true => exact absurd hb2 hc))
theorem pr_gaps {s : Md} {rj Kf : Nat → Nat} {N t : Nat} {E : Int64 → Int64 → Int64 → Prop} {G : Rw5 → List Cn} (hk : s.oKind o = 2) (htk : ∀ i, i < nr → tk_is s i (rj i) (nI o) all = tkf sd o all (rj i, s.rKey i, s.rTime i, s.rV i, s.rUsed i)) (hE : ∀ k b e e', E k b e → E k b e' → e = e')
    (hrow : ∀ i, i < nr → tk_is s i (rj i) (nI o) all = true → G (rj i, s.rKey i, s.rTime i, s.rV i, s.rUsed i) = [((s.rKey i).toInt64, (eg_run (eg_T s rj (nI o) all i) s.rTime (s.oSize o) true nr N (s.rTime i)).toInt64, (s.rV i).toInt64)] ∧ E (s.rKey i).toInt64 (eg_run (eg_T s rj (nI o) all i) s.rTime (s.oSize o) true nr N (s.rTime i)).toInt64 (eg_run (eg_T s rj (nI o) all i) s.rTime (s.oSize o) false nr N (s.rTime i) + s.oSize o).toInt64) :
    ∀ (f i : Nat) (q : Ps) (L : List Cn), i + f = nr → Reps q L E → Reps (pr_run s o all rj nr N t Kf f i q) (L ++ (((List.range' i f).map (fun i => (rj i, s.rKey i, s.rTime i, s.rV i, s.rUsed i))).filter (tkf sd o all)).flatMap G) E
  | 0, i, q, L, e, h => by
    show Reps q (L ++ []) _
    rw [List.append_nil]
    exact h
  | f + 1, i, q, L, e, h => by
    rw [flt_1]
    unfold pr_run pr_st
    by_cases hc : tk_is s i (rj i) (nI o) all = true
    · obtain ⟨r1, r2⟩ := hrow i (by omega) hc
      rw [if_pos hc, if_pos hk, if_pos (by rw [← htk i (by omega)]; exact hc), r1]
      exact pr_gaps hk htk hE hrow f (i + 1) _ _ (by omega) (reps_pi h r2 (fun e' he' => hE _ _ _ _ he' r2))
    · rw [if_neg hc, if_neg (by rw [← htk i (by omega)]; exact hc)]
      exact pr_gaps hk htk hE hrow f (i + 1) q L (by omega) h
end
theorem reps_nil (f : Nat → Int64) (E : Int64 → Int64 → Int64 → Prop) : Reps (0, f) [] E := ⟨fun i j _ hj => absurd hj (by (try dsimp only); omega), fun i hi => absurd hi (by (try dsimp only); omega), fun c hc => absurd hc List.not_mem_nil⟩
section
variable {G : rv_G} {x : Nat} {σ : rv_S}
set_option maxHeartbeats 4000000 in
theorem step_pass (hI : INV x σ) (i : Int32) (all : Bool) : STEP G Value.int i_Late_pass i_Model_pass 0 0 x [.int i, .int (rv_b all)] σ := by
  have hI0 := hI
  obtain ⟨N, hN⟩ : ∃ N : Nat, (N : Int) = 100000000 := ⟨100000000, rfl⟩
  obtain ⟨no, oa, od, ns, sa, sd, nr, ra, rs, rd, n, p, D, R, na, aq, b, rl, dr, ps, s, hL, hM, ρ, hO, hS, ⟨hW, hρ⟩, hIw, hRw, hA, hP⟩ := hI
  obtain ⟨o1, o2, o3, o4⟩ := hO
  rcases (ix_box i (n := no) (by omega)).symm with ⟨hout, hnout⟩ | ⟨o, ho, rfl⟩
  · exact step_same hI0 (ct_pass_out hL.1.1.1 i all hout) (rt_pass_out o1 o2 hnout hM)
  obtain ⟨ok, k1, k2, k3, k4, k5, k6⟩ := o3 o ho
  have hst := ok.2.2.1
  have h1 : 1 ≤ (od o).2.2.1 := Int32.le_iff_toInt_le.mpr hst.1
  have h0 : ¬ (od o).2.2.1 = 0 := fun z => by
    have := congrArg Int32.toInt z
    rw [show (0 : Int32).toInt = 0 from rfl] at this
    omega
  obtain ⟨w1, w2, ⟨rj, w3, w4⟩, w5, w6⟩ := hRw
  have hfar := hL.2.2.2.2.2.2.2.2.1
  -- rows of the reference and of the class
  have toC : ∀ u, u < nr → ∃ j, j < nr ∧ (rs j, (rd j).2) = (rj u, s.rKey u, s.rTime u, s.rV u, s.rUsed u) := fun u hu => by
    have h3 : (rj u, s.rKey u, s.rTime u, s.rV u, s.rUsed u) ∈ (List.range nr).map (fun i => (rs i, (rd i).2)) := w4.mem_iff.mpr (List.mem_map.mpr ⟨u, List.mem_range.mpr hu, rfl⟩)
    obtain ⟨j, j1, j2⟩ := List.mem_map.mp h3
    exact ⟨j, List.mem_range.mp j1, j2⟩
  have toR : ∀ j, j < nr → ∃ u, u < nr ∧ (rs j, (rd j).2) = (rj u, s.rKey u, s.rTime u, s.rV u, s.rUsed u) := fun j hj => by
    have h3 : (rs j, (rd j).2) ∈ (List.range nr).map (fun i => (rj i, s.rKey i, s.rTime i, s.rV i, s.rUsed i)) := w4.mem_iff.mp (List.mem_map.mpr ⟨j, List.mem_range.mpr hj, rfl⟩)
    obtain ⟨u, u1, u2⟩ := List.mem_map.mp h3
    exact ⟨u, List.mem_range.mp u1, u2.symm⟩
  have hbR : ∀ u, u < nr → 0 ≤ (s.rTime u).toInt ∧ (s.rTime u).toInt ≤ 100000000 := fun u hu => by
    obtain ⟨j, j1, j2⟩ := toC u hu
    have : (rd j).2.2.1 = s.rTime u := congrArg (fun q : Rw5 => q.2.2.1) j2
    rw [← this]
    exact (w6 j j1).2
  have htk : ∀ u, u < nr → tk_is s u (rj u) (nI o) all = tkf sd o all (rj u, s.rKey u, s.rTime u, s.rV u, s.rUsed u) := fun u hu => by
    unfold tk_is tkf
    have hsu := hS.2.2.1 (rj u) (w3 u hu).2
    rw [hsu.2.1]
    congr 1
    by_cases z : (sd (rj u)).1 = o
    · rw [decide_eq_true z, z, decide_eq_true rfl]
    · rw [decide_eq_false z, decide_eq_false (fun y => z (nI_inj (by omega) (by omega) y))]
  have hrj10 : ∀ u, u < nr → s.rSrc u = nI (rj u) ∧ rj u < 10 := fun u hu => ⟨(w3 u hu).1, by have := (w3 u hu).2; have := hS.2.1; omega⟩
  have hst2 : ∀ hk : ¬ (od o).1 = 2, bg_st s o = (od o).2.2.1 := fun hk => bg_st_eq ⟨o1, o2, o3, o4⟩ ho hk
  have hperm := (w4.filter (tkf sd o all))
  -- what the reference needs
  have hG : s.oKind o = 2 → ∀ u, u < nr → tk_is s u (rj u) (nI o) all = true → eg_ok (eg_T s rj (nI o) all u) s.rTime (s.oSize o) true nr N (s.rTime u) ∧ eg_ok (eg_T s rj (nI o) all u) s.rTime (s.oSize o) false nr N (s.rTime u) := fun _ u hu _ =>
    ⟨(eg_run_spec (fun j hj _ => hbR j hj) N (s.rTime u) (hbR u hu) (by have := hbR u hu; unfold uu cC; rw [if_pos rfl, if_pos rfl]; omega)).1, (eg_run_spec (fun j hj _ => hbR j hj) N (s.rTime u) (hbR u hu) (by have := hbR u hu; unfold uu cC; rw [if_neg (by decide), if_neg (by decide)]; omega)).1⟩
  have hBg : ¬ s.oKind o = 2 → ¬ bg_st s o = 0 ∧ ∀ u, u < nr → bg_ok (bg_st s o) (s.oSize o) (s.rTime u) 8 (dn (s.rTime u) (bg_st s o) * bg_st s o) ∧ (fun i => kn (od o).2.2.1 (s.oSize o) (s.rTime i)) u ≤ 8 ∧ bg_of (bg_st s o) (s.oSize o) (s.rTime u) 8 (nI ((fun i => kn (od o).2.2.1 (s.oSize o) (s.rTime i)) u)) = -99999999 ∧ ∀ j, j < (fun i => kn (od o).2.2.1 (s.oSize o) (s.rTime i)) u → ¬ bg_of (bg_st s o) (s.oSize o) (s.rTime u) 8 (nI j) = -99999999 := fun hk => by
    rw [hst2 (by rw [← k1]; exact hk)]
    refine ⟨h0, fun u hu => ?_⟩
    obtain ⟨q1, q2, q3, q4, -⟩ := kn_all (st := (od o).2.2.1) (sz := s.oSize o) hst.1 (by rw [k2]; exact hst.2.1) (by rw [k2]; exact ok.2.1.2) (by rw [k2]; exact hst.2.2) (hbR u hu).1 (hbR u hu).2
    exact ⟨q2, q1, q3, fun j hj => by rw [(q4 j hj).1]; exact (q4 j hj).2.1⟩
  -- both tables
  have hmain : (pp_run sd rs rd (od o) o all nr 0 (0, ps.2)).1 = (pr_run s o all rj nr N 8 (fun i => kn (od o).2.2.1 (s.oSize o) (s.rTime i)) nr 0 (0, s.pRow)).1 ∧ ∀ i, i < 7 * (pp_run sd rs rd (od o) o all nr 0 (0, ps.2)).1 → (pp_run sd rs rd (od o) o all nr 0 (0, ps.2)).2 i = (pr_run s o all rj nr N 8 (fun i => kn (od o).2.2.1 (s.oSize o) (s.rTime i)) nr 0 (0, s.pRow)).2 i := by
    by_cases hk : (od o).1 = 2
    · have hc := pp_gaps (sd := sd) (rs := rs) (o := o) (all := all) hk ok.2.1.1 ok.2.1.2 w2 w5 w6 nr 0 (0, ps.2) [] (by omega) ⟨reps_nil _ _, by (try dsimp only); omega, fun j hj => absurd hj (by omega), fun z => absurd z (by (try dsimp only); omega)⟩
      have hsort : ∀ a b, a < b → b < nr → (fun i => (rd i).2.1.toInt) a < (fun i => (rd i).2.1.toInt) b ∨ ((fun i => (rd i).2.1.toInt) a = (fun i => (rd i).2.1.toInt) b ∧ (fun i => (rd i).2.2.1.toInt) a ≤ (fun i => (rd i).2.2.1.toInt) b) := fun a b h1 h2 => by
        have := w5 a b h1 h2
        rw [raft_f] at this
        (try dsimp only)
        omega
      have hd := hc.done hsort
      generalize hQ : pp_run sd rs rd (od o) o all nr 0 (0, ps.2) = Q at hc hd ⊢
      have hRc := hc.1
      rw [List.nil_append] at hRc
      -- ends are those of the class's table
      have hE : ∀ k b e e', (∃ j, j < Q.1 ∧ (ent Q.2 j).1 = k ∧ (ent Q.2 j).2.1 = b ∧ (ent Q.2 j).2.2.1 = e) → (∃ j, j < Q.1 ∧ (ent Q.2 j).1 = k ∧ (ent Q.2 j).2.1 = b ∧ (ent Q.2 j).2.2.1 = e') → e = e' := by
        rintro k b e e' ⟨j, j1, j2, j3, j4⟩ ⟨l, l1, l2, l3, l4⟩
        have hjl : j = l := by
          rcases Nat.lt_trichotomy j l with z | z | z
          · have := hRc.1 j l z l1
            rw [j2, j3, l2, l3] at this
            unfold klt at this; omega
          · exact z
          · have := hRc.1 l j z j1
            rw [j2, j3, l2, l3] at this
            unfold klt at this; omega
        subst hjl
        exact j4.symm.trans l4
      have hRc2 : Reps Q ((((List.range' 0 nr).map (fun i => (rs i, (rd i).2))).filter (tkf sd o all)).flatMap (rowG nr (pp_is sd rs rd o all) (fun i => (rd i).2.1.toInt) (fun i => (rd i).2.2.1.toInt) (od o).2.1.toInt)) (fun k b e => ∃ j, j < Q.1 ∧ (ent Q.2 j).1 = k ∧ (ent Q.2 j).2.1 = b ∧ (ent Q.2 j).2.2.1 = e) := ⟨hRc.1, fun i hi => ⟨(hRc.2.1 i hi).1, i, hi, rfl, rfl, rfl⟩, hRc.2.2⟩
      have hrow : ∀ u, u < nr → tk_is s u (rj u) (nI o) all = true → rowG nr (pp_is sd rs rd o all) (fun i => (rd i).2.1.toInt) (fun i => (rd i).2.2.1.toInt) (od o).2.1.toInt (rj u, s.rKey u, s.rTime u, s.rV u, s.rUsed u) = [((s.rKey u).toInt64, (eg_run (eg_T s rj (nI o) all u) s.rTime (s.oSize o) true nr N (s.rTime u)).toInt64, (s.rV u).toInt64)] ∧ (fun k b e => ∃ j, j < Q.1 ∧ (ent Q.2 j).1 = k ∧ (ent Q.2 j).2.1 = b ∧ (ent Q.2 j).2.2.1 = e) (s.rKey u).toInt64 (eg_run (eg_T s rj (nI o) all u) s.rTime (s.oSize o) true nr N (s.rTime u)).toInt64 (eg_run (eg_T s rj (nI o) all u) s.rTime (s.oSize o) false nr N (s.rTime u) + s.oSize o).toInt64 := fun u hu htu => by
        obtain ⟨-, e1, e2, e3, e4⟩ := eg_run_spec (sz := s.oSize o) (T := eg_T s rj (nI o) all u) (tm := s.rTime) (first := true) (nr := nr) (fun j hj _ => hbR j hj) N (s.rTime u) (hbR u hu) (by have := hbR u hu; unfold uu cC; rw [if_pos rfl, if_pos rfl]; omega)
        obtain ⟨-, f1, f2, f3, f4⟩ := eg_run_spec (sz := s.oSize o) (T := eg_T s rj (nI o) all u) (tm := s.rTime) (first := false) (nr := nr) (fun j hj _ => hbR j hj) N (s.rTime u) (hbR u hu) (by have := hbR u hu; unfold uu cC; rw [if_neg (by decide), if_neg (by decide)]; omega)
        generalize eg_run (eg_T s rj (nI o) all u) s.rTime (s.oSize o) true nr N (s.rTime u) = A at *
        generalize eg_run (eg_T s rj (nI o) all u) s.rTime (s.oSize o) false nr N (s.rTime u) = Z at *
        have ut : ∀ z : Int32, uu true z = z.toInt := fun z => if_pos rfl
        have uf : ∀ z : Int32, uu false z = - z.toInt := fun z => if_neg (by decide)
        simp only [ut] at e2 e3 e4
        simp only [uf] at f2 f3 f4
        rw [k2] at e3 e4 f3 f4
        -- the rows that both look at
        have rowsT : ∀ j, j < nr → pp_is sd rs rd o all j = true → (rd j).2.1.toInt = (s.rKey u).toInt → ∃ w, w < nr ∧ eg_T s rj (nI o) all u w = true ∧ (s.rTime w).toInt = (rd j).2.2.1.toInt := fun j hj ht hkk => by
          obtain ⟨w, w1', w2'⟩ := toR j hj
          refine ⟨w, w1', ?_, ?_⟩
          · unfold eg_T
            rw [htk w w1', ← w2']
            have : tkf sd o all (rs j, (rd j).2) = true := ht
            rw [this, Bool.true_and, decide_eq_true_eq]
            have hk1 : (rd j).2.1 = s.rKey w := congrArg (fun q : Rw5 => q.2.1) w2'
            rw [← hk1]
            exact Int32.toInt_inj.mp hkk
          · have : (rd j).2.2.1 = s.rTime w := congrArg (fun q : Rw5 => q.2.2.1) w2'
            rw [this]
        have rowsC : ∀ w, w < nr → eg_T s rj (nI o) all u w = true → ∃ j, j < nr ∧ pp_is sd rs rd o all j = true ∧ (rd j).2.1.toInt = (s.rKey u).toInt ∧ (rd j).2.2.1.toInt = (s.rTime w).toInt := fun w hw ht => by
          obtain ⟨j, j1, j2⟩ := toC w hw
          unfold eg_T at ht
          rw [Bool.and_eq_true, decide_eq_true_eq] at ht
          refine ⟨j, j1, ?_, ?_, ?_⟩
          · show tkf sd o all (rs j, (rd j).2) = true
            rw [j2, ← htk w hw]; exact ht.1
          · have : (rd j).2.1 = s.rKey w := congrArg (fun q : Rw5 => q.2.1) j2
            rw [this, ht.2]
          · have : (rd j).2.2.1 = s.rTime w := congrArg (fun q : Rw5 => q.2.2.1) j2
            rw [this]
        have hPl : Pl nr (pp_is sd rs rd o all) (fun i => (rd i).2.1.toInt) (fun i => (rd i).2.2.1.toInt) (od o).2.1.toInt (s.rKey u).toInt (s.rTime u).toInt A.toInt := by
          refine ⟨e2, fun j j1 j2 j3 j4 => ?_, fun y y1 y2 => ?_⟩
          · obtain ⟨w, v1, v2, v3⟩ := rowsT j j1 j2 j3
            refine e3 w v1 v2 ?_
            rw [v3]; exact j4
          · obtain ⟨w, v1, v2, v3, v4⟩ := e4 y y1 y2
            obtain ⟨j, j1, j2, j3, j4⟩ := rowsC w v1 v2
            exact ⟨j, j1, j2, j3, by (try dsimp only); rw [j4]; exact v3, by (try dsimp only); rw [j4]; exact v4⟩
        have hPh : Ph nr (pp_is sd rs rd o all) (fun i => (rd i).2.1.toInt) (fun i => (rd i).2.2.1.toInt) (od o).2.1.toInt (s.rKey u).toInt (s.rTime u).toInt Z.toInt := by
          refine ⟨⟨by omega, fun y y1 y2 => ?_⟩, fun j j1 j2 j3 j4 => ?_⟩
          · obtain ⟨w, v1, v2, v3, v4⟩ := f4 (-y) (by omega) (by omega)
            obtain ⟨j, j1, j2, j3, j4⟩ := rowsC w v1 v2
            exact ⟨j, j1, j2, j3, by (try dsimp only); omega, by (try dsimp only); omega⟩
          · obtain ⟨w, v1, v2, v3⟩ := rowsT j j1 j2 j3
            (try dsimp only at j4)
            refine f3 w v1 v2 ?_
            rw [v3]
            omega
        have elo : lo64 nr (pp_is sd rs rd o all) (fun i => (rd i).2.1.toInt) (fun i => (rd i).2.2.1.toInt) (od o).2.1.toInt (s.rKey u).toInt (s.rTime u).toInt = A.toInt64 := lo64_eq (by rw [Int32.toInt_toInt64]; exact hPl)
        refine ⟨?_, ?_⟩
        · show [((s.rKey u).toInt64, lo64 nr (pp_is sd rs rd o all) (fun i => (rd i).2.1.toInt) (fun i => (rd i).2.2.1.toInt) (od o).2.1.toInt (s.rKey u).toInt (s.rTime u).toInt, (s.rV u).toInt64)] = _
          rw [elo]
        · obtain ⟨j, j1, j2⟩ := toC u hu
          have hjt : pp_is sd rs rd o all j = true := by
            show tkf sd o all (rs j, (rd j).2) = true
            rw [j2, ← htk u hu]; exact htu
          have hjk : (rd j).2.1 = s.rKey u := congrArg (fun q : Rw5 => q.2.1) j2
          have hjm : (rd j).2.2.1 = s.rTime u := congrArg (fun q : Rw5 => q.2.2.1) j2
          obtain ⟨e, e1', e2', e3', e4'⟩ := hd j j1 hjt
          (try dsimp only at e2' e3' e4')
          rw [hjk] at e2' e3' e4'
          rw [hjm] at e3' e4'
          have ea := e3'.uniq hPl
          have ez := e4'.uniq hPh
          refine ⟨e, e1', ?_, ?_, ?_⟩
          · exact Int64.toInt_inj.mp (by rw [Int32.toInt_toInt64]; exact e2')
          · exact Int64.toInt_inj.mp (by rw [Int32.toInt_toInt64]; exact ea)
          · refine Int64.toInt_inj.mp ?_
            have hz := ok.2.1
            rw [Int32.toInt_toInt64, k2, tA (by omega) (by omega)]
            omega
      have hRr := pr_gaps (sd := sd) (N := N) (t := 8) (Kf := fun i => kn (od o).2.2.1 (s.oSize o) (s.rTime i)) (k1.trans hk) htk hE hrow nr 0 (0, s.pRow) [] (by omega) (reps_nil _ _)
      rw [List.nil_append] at hRr
      refine reps_eq hRc2 hRr ?_ hE
      rw [show List.range' 0 nr = List.range nr from List.range_eq_range'.symm]
      exact hperm.flatMap_right _
    · have hc := pp_grid (sd := sd) (rs := rs) (o := o) (all := all) hk hst.1 hst.2.1 ok.2.1.2 hst.2.2 w2 w5 w6 nr 0 (0, ps.2) [] (-1) 0 (by omega) (reps_nil _ _) (by (try dsimp only); omega) ⟨fun c hc => absurd hc List.not_mem_nil, fun c hc => absurd hc List.not_mem_nil, fun c hc => absurd hc List.not_mem_nil⟩ (fun j _ hj => Or.inl (by have := (w6 j hj).1; omega))
      have hr := pr_grid (sd := sd) (s := s) (rj := rj) (N := N) (all := all) (nr := nr) (o := o) (by rw [k1]; exact hk) (hst2 hk) hst.1 (by rw [k2]; exact hst.2.1) (by rw [k2]; exact ok.2.1.2) (by rw [k2]; exact hst.2.2) htk hbR nr 0 (0, s.pRow) [] (by omega) (reps_nil _ _)
      rw [List.nil_append] at hc hr
      rw [k2] at hr ⊢
      refine reps_eq hc hr ?_ (fun k b e e' h1 h2 => Int64.toInt_inj.mp (by unfold EG at h1 h2; omega))
      rw [show List.range' 0 nr = List.range nr from List.range_eq_range'.symm]
      exact hperm.flatMap_right _
  refine (ct_pass (G := G) (all := all) hL.2.2.2.2.2.2.2.2.2.1 ho h1 h0 (fun j hj => by have := hfar.1 j hj; omega) (fun j hj => by have := hfar.2.1 j hj; omega) (fun j hj => by have := hfar.2.2 j hj; omega) hL.1.1.1 hL.2.1 hL.2.2.1 hL.2.2.2.1 hL.2.2.2.2.2.2.1).mono ?_
  rintro _ σ1 ⟨rfl, e1, hP1, hk0⟩
  have hk : rv_only (LF x (x + 411)) σ.2 σ1.2 := fun q hq => hk0 q (fun z => hq (by unfold LF; omega))
  have hL1 := hL.pass1 e1 hP1 hk0
  have hM1 := hM.cls hk
  refine ⟨⟨LF.lb hk, _, hM1.ob⟩, _, rfl, (rt_pass (G := G) (N := N) (t := 8) (Kf := fun i => kn (od o).2.2.1 (s.oSize o) (s.rTime i)) o1 o2 ho w2 w1 hrj10 hG hBg hM1).mono ?_⟩
  rintro _ σ2 ⟨rfl, hM2⟩
  rw [← hmain.1]
  refine ⟨rfl, INV.mk hL1 hM2 ?_⟩
  obtain ⟨⟨q1, q2, q3, q4, q5, q6, q7, q8, q9, q10, -, -, -, -, q15⟩, p1, p2, p3, p4, p5, p6, p7⟩ := mp_all s (pr_run s o all rj nr N 8 (fun i => kn (od o).2.2.1 (s.oSize o) (s.rTime i)) nr 0 (0, s.pRow))
  refine ⟨ρ, OSim.of ⟨o1, o2, o3, o4⟩ q1 p1, hS.of q2 p2, ⟨hW.of (mw_of p4) q4 q5 q6 p5, fun j hj => by rw [(st_O1 p1).2.2.2]; exact hρ j hj⟩, hIw, RwSim.of ⟨w1, w2, ⟨rj, w3, w4⟩, w5, w6⟩ q3 p3, hA.of q7 q8 q9 q10 p6, ⟨by rw [q15, hmain.1], hP1.2.2, fun i hi => by rw [p7]; exact hmain.2 i hi⟩⟩
end
