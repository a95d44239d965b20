/-! BOTH SIDES: window -/
def wq (vo k b : Int32) (x : Gd) : Bool := decide (x.1.1 = vo ∧ x.1.2.1 = k ∧ x.1.2.2.1 < b)
theorem wi_cnt_val (s : Md) (vo k : Int32) (w : Nat) : ∀ (t v : Nat) (a : Int32), wi_cnt s vo k w t v a = a + nI ((List.range' v t).countP (fun u => wq vo k (s.wBeg w) (gd (mw s u))))
  | 0, v, a => by
    show a = a + nI 0
    rw [nI_0, Int32.add_zero]
  | t + 1, v, a => by
    unfold wi_cnt
    rw [wi_cnt_val s vo k w t (v + 1), List.range'_succ, List.countP_cons]
    by_cases hc : s.wOp v = vo ∧ s.wKey v = k ∧ s.wBeg v < s.wBeg w
    · rw [if_pos hc, if_pos (show wq vo k (s.wBeg w) (gd (mw s v)) = true from decide_eq_true hc), Int32.add_assoc]
      congr 1
      rw [← nI_1, Int32.add_comm]
    · rw [if_neg hc, if_neg (show ¬ wq vo k (s.wBeg w) (gd (mw s v)) = true from fun z => hc (of_decide_eq_true z)), Int32.add_zero]
      rfl
theorem cP_int {Q : Nat → Bool} {q u : Nat} (hqu : q ≤ u) : ∀ n, (∀ j, j < n → (Q j = true ↔ q ≤ j ∧ j < u)) → (List.range n).countP Q = min n u - min n q
  | 0, _ => by
    rw [show min 0 u = 0 by omega]
    rfl
  | n + 1, h => by
    rw [List.range_succ, List.countP_append, cP_int hqu n (fun j hj => h j (by omega))]
    have := h n (by omega)
    by_cases hc : q ≤ n ∧ n < u
    · rw [show [n].countP Q = 1 from by rw [List.countP_cons, if_pos (this.mpr hc)]; rfl]
      omega
    · rw [show [n].countP Q = 0 from by rw [List.countP_cons, if_neg (fun z => hc (this.mp z))]; rfl]
      omega
theorem wi_run_spec (s : Md) (n : Nat) (vo k i : Int32) : ∀ (t w : Nat), (wi_run s n vo k i t w = none ∧ ∀ v, w ≤ v → v < w + t → ¬ ((s.wOp v = vo ∧ s.wKey v = k) ∧ wi_cnt s vo k v n 0 0 = i)) ∨ ∃ v, wi_run s n vo k i t w = some v ∧ v < w + t ∧ (s.wOp v = vo ∧ s.wKey v = k) ∧ wi_cnt s vo k v n 0 0 = i
  | 0, w => Or.inl ⟨rfl, fun v h1 h2 => absurd h2 (by omega)⟩
  | t + 1, w => by
    unfold wi_run
    by_cases hc : (s.wOp w = vo ∧ s.wKey w = k) ∧ wi_cnt s vo k w n 0 0 = i
    · rw [if_pos hc]
      exact Or.inr ⟨w, rfl, by omega, hc⟩
    · rw [if_neg hc]
      rcases wi_run_spec s n vo k i t (w + 1) with ⟨h1, h2⟩ | ⟨v, h1, h2, h3⟩
      · refine Or.inl ⟨h1, fun v h3 h4 => ?_⟩
        by_cases z : v = w
        · rw [z]; exact hc
        · exact h2 v (by omega) (by omega)
      · exact Or.inr ⟨v, h1, by omega, h3⟩
theorem wi_val_gd {c d : Wd} (h : gd c = gd d) (q : Int32) : wi_val c q = wi_val d q := by
  have h1 : c.1 = d.1 := congrArg (fun z : Gd => z.1) h
  have h2 : c.2.1.1 = d.2.1.1 := congrArg (fun z : Gd => z.2.1) h
  have h3 : c.2.2.1 = d.2.2.1 := congrArg (fun z : Gd => z.2.2) h
  unfold wi_val
  rw [h1, h2, h3]
section
variable {G : rv_G} {x : Nat} {σ : rv_S}
theorem step_window (hI : INV x σ) (o k i w : Int32) : STEP G Value.long i_Late_window i_Model_window 0 0 x [.int o, .int k, .int i, .int w] σ := by
  have hI0 := hI
  obtain ⟨no, oa, od, ns, sa, sd, nr, ra, rs, rd, n, p, D, R, na, aq, b, rl, dr, ps, s, hL, hM, ρ, hO, hS, ⟨hW, hρ⟩, hIw, hRw, hA, hP⟩ := hI
  have hn := hW.2.2.2.2.1
  have hno := hO.2.1
  refine (ct_window (G := G) hL.1.1.1 hL.1.1.2.1 hL.1.2 o k i w).mono ?_
  rintro _ σ1 ⟨⟨q, ⟨a1, a2, a3⟩, rfl⟩, hs⟩
  subst hs
  refine ⟨⟨rv_only.rf, hI0.ob⟩, _, rfl, (rt_window (G := G) o k i w hW.2.2.2.1 hn hM).mono ?_⟩
  rintro _ σ2 ⟨rfl, hs⟩
  subst hs
  refine ⟨?_, hI0, rv_only.rf⟩
  congr 2
  -- windows of the operator and key stand from q on
  have hlo : ∀ j, j < q → ¬ belg (D (p j)) o k := fun j hj hb => by
    have h := a2 j hj
    obtain ⟨o', -, -, z, -⟩ := hIw.1 j (by omega)
    unfold wb at h
    rw [rv_before_iff, hb.1, hb.2, show (-1000000 : Int32).toInt = -1000000 from rfl] at h
    omega
  have hbtw : ∀ j u, q ≤ j → j < u → u < n → belg (D (p u)) o k → belg (D (p j)) o k ∧ (D (p j)).1.2.2.1.toInt < (D (p u)).1.2.2.1.toInt := fun j u h1 h2 h3 hb => by
    have h : ¬ wb (D (p j)) o k (-1000000) = true := by rw [a3 j h1 (by omega)]; decide
    have h' := hW.2.1 j u h2 h3
    unfold wb at h h'
    rw [hb.1, hb.2] at h'
    rw [rv_before_iff] at h h'
    have e1 : (D (p j)).1.1.toInt = o.toInt := by omega
    have e2 : (D (p j)).1.2.1.toInt = k.toInt := by omega
    exact ⟨⟨Int32.toInt_inj.mp e1, Int32.toInt_inj.mp e2⟩, by omega⟩
  -- the rank of a window
  have rank : ∀ u v, u < n → v < n → wsim ρ (D (p u)) (mw s v) → belg (D (p u)) o k → q ≤ u ∧ wi_cnt s o k v n 0 0 = nI (u - q) := fun u v hu hv hs hb => by
    have hqu : q ≤ u := by
      rcases Nat.lt_or_ge u q with z | z
      · exact absurd hb (hlo u z)
      · exact z
    refine ⟨hqu, ?_⟩
    have eb : s.wBeg v = (D (p u)).1.2.2.1 := by rw [hs.1]; rfl
    rw [wi_cnt_val, Int32.zero_add, eb]
    congr 1
    have hperm := (WSim.perm n _ _ hW.1).countP_eq (wq o k (D (p u)).1.2.2.1)
    rw [List.countP_map, List.countP_map] at hperm
    rw [show List.range' 0 n = List.range n from List.range_eq_range'.symm]
    have hc := cP_int (Q := fun j => wq o k (D (p u)).1.2.2.1 (gd (D (p j)))) hqu n (fun j hj => by
      unfold wq
      rw [decide_eq_true_eq]
      constructor
      · rintro ⟨z1, z2, z3⟩
        have z3 := Int32.lt_iff_toInt_lt.mp z3
        refine ⟨?_, ?_⟩
        · rcases Nat.lt_or_ge j q with z | z
          · exact absurd ⟨z1, z2⟩ (hlo j z)
          · exact z
        · rcases Nat.lt_or_ge j u with z | z
          · exact z
          · exfalso
            by_cases y : j = u
            · subst y
              have z3 : (D (p j)).1.2.2.1.toInt < (D (p j)).1.2.2.1.toInt := z3
              omega
            · have := hbtw u j hqu (by omega) hj ⟨z1, z2⟩
              have z3 : (D (p j)).1.2.2.1.toInt < (D (p u)).1.2.2.1.toInt := z3
              omega
      · rintro ⟨z1, z2⟩
        obtain ⟨y1, y2⟩ := hbtw j u z1 z2 hu hb
        exact ⟨y1.1, y1.2, Int32.lt_iff_toInt_lt.mpr y2⟩)
    have hf1 : (fun j => wq o k (D (p u)).1.2.2.1 (gd (D (p j)))) = (wq o k (D (p u)).1.2.2.1 ∘ fun j => gd (D (p j))) := rfl
    have hf2 : (fun j => wq o k (D (p u)).1.2.2.1 (gd (mw s j))) = (wq o k (D (p u)).1.2.2.1 ∘ fun w => gd (mw s w)) := rfl
    rw [hf2, ← hperm, ← hf1, hc]
    omega
  by_cases hcond : rv_in o 0 (s.nop - 1) = true ∧ ¬ i < 0 ∧ rv_in w 0 6 = true
  · rw [if_pos hcond]
    obtain ⟨c1, c2, c3⟩ := hcond
    have hi0 := Int32.le_iff_toInt_le.mp (Int32.not_lt.mp c2)
    rw [show (0 : Int32).toInt = 0 from rfl] at hi0
    obtain ⟨i', ei⟩ : ∃ i' : Nat, i.toInt = i' := ⟨i.toInt.toNat, by omega⟩
    have hi32 : i' < 2 ^ 31 := by have := Int32.toInt_lt i; omega
    have ei2 : i = nI i' := Int32.toInt_inj.mp (by rw [nI_toInt hi32, ei])
    subst ei2
    unfold wf_ix
    rw [nI_clamp hi32]
    by_cases hcl : q + i' < n ∧ belg (D (p (q + i'))) o k
    · have hlt : ¬ (nI i' < 0 ∨ nI n ≤ nI i') := fun z => z.elim c2 (fun z => by
        have := (oi_le (by omega) hi32).mp z
        omega)
      rw [if_neg hlt, if_pos (show q + i' < n ∧ ((D (p (q + i'))).1.1 = o ∧ (D (p (q + i'))).1.2.1 = k) from hcl)]
      obtain ⟨v, v1, v2⟩ := hW.1.1 (q + i') hcl.1
      have rk := rank (q + i') v hcl.1 v1 v2 hcl.2
      rw [show q + i' - q = i' by omega] at rk
      rcases wi_run_spec s n o k (nI i') n 0 with ⟨-, h2⟩ | ⟨v', h1, h2, h3, h4⟩
      · exfalso
        refine h2 v (by omega) (by omega) ⟨⟨?_, ?_⟩, rk.2⟩
        · have : (mw s v).1 = (D (p (q + i'))).1 := v2.1.symm
          exact (congrArg (fun z : Int32 × Int32 × Int32 × Int32 => z.1) this).trans hcl.2.1
        · have : (mw s v).1 = (D (p (q + i'))).1 := v2.1.symm
          exact (congrArg (fun z : Int32 × Int32 × Int32 × Int32 => z.2.1) this).trans hcl.2.2
      · rw [h1]
        obtain ⟨u', u1, u2⟩ := hW.1.2.1 v' (by omega)
        have hb' : belg (D (p u')) o k := by
          have : (D (p u')).1 = (mw s v').1 := u2.1
          exact ⟨(congrArg (fun z : Int32 × Int32 × Int32 × Int32 => z.1) this).trans h3.1, (congrArg (fun z : Int32 × Int32 × Int32 × Int32 => z.2.1) this).trans h3.2⟩
        obtain ⟨r1, r2⟩ := rank u' v' u1 (by omega) u2 hb'
        rw [h4] at r2
        have := nI_inj hi32 (by omega) r2
        have eu : u' = q + i' := by omega
        subst eu
        show wi_val (mw s v') w = if rv_in w 0 6 = true then wi_val (D (p (q + i'))) w else -99999999
        rw [if_pos c3]
        exact (wi_val_gd u2.gd w).symm
    · have hnone : (if nI i' < 0 ∨ nI n ≤ nI i' then none else if q + i' < n ∧ ((D (p (q + i'))).1.1 = o ∧ (D (p (q + i'))).1.2.1 = k) then some (q + i') else none) = (none : Option Nat) := by
        by_cases z : nI i' < 0 ∨ nI n ≤ nI i'
        · rw [if_pos z]
        · rw [if_neg z, if_neg (show ¬ (q + i' < n ∧ ((D (p (q + i'))).1.1 = o ∧ (D (p (q + i'))).1.2.1 = k)) from hcl)]
      rw [hnone]
      rcases wi_run_spec s n o k (nI i') n 0 with ⟨h1, -⟩ | ⟨v', h1, h2, h3, h4⟩
      · rw [h1]; rfl
      · exfalso
        obtain ⟨u', u1, u2⟩ := hW.1.2.1 v' (by omega)
        have hb' : belg (D (p u')) o k := by
          have : (D (p u')).1 = (mw s v').1 := u2.1
          exact ⟨(congrArg (fun z : Int32 × Int32 × Int32 × Int32 => z.1) this).trans h3.1, (congrArg (fun z : Int32 × Int32 × Int32 × Int32 => z.2.1) this).trans h3.2⟩
        obtain ⟨r1, r2⟩ := rank u' v' u1 (by omega) u2 hb'
        rw [h4] at r2
        have := nI_inj hi32 (by omega) r2
        have eu : u' = q + i' := by omega
        subst eu
        exact hcl ⟨u1, hb'⟩
  · rw [if_neg hcond]
    -- the class finds none, or shows none
    cases hx : wf_ix n p D o k i q with
    | none => rfl
    | some u =>
      show -99999999 = if rv_in w 0 6 = true then wi_val (D (p u)) w else -99999999
      by_cases c3 : rv_in w 0 6 = true
      · exfalso
        unfold wf_ix at hx
        by_cases z : i < 0 ∨ nI n ≤ i
        · rw [if_pos z] at hx; cases hx
        · rw [if_neg z] at hx
          by_cases y : q + i.toNatClampNeg < n ∧ ((D (p (q + i.toNatClampNeg))).1.1 = o ∧ (D (p (q + i.toNatClampNeg))).1.2.1 = k)
          · refine hcond ⟨?_, fun y => z (Or.inl y), c3⟩
            obtain ⟨o', z1, z2, -⟩ := hIw.1 _ y.1
            rw [hO.1]
            exact (in_nI (by omega)).mpr ⟨o', z1, y.2.1.symm.trans z2⟩
          · rw [if_neg y] at hx; cases hx
      · rw [if_neg c3]
end
