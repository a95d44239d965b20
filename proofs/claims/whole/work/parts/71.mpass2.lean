/-! THE REFERENCE: pass -/
theorem pi_run_le (q : Ps) (k b e v : Int64) : (pi_run q k b e v).1 ≤ q.1 + 1 := by
  unfold pi_run
  split
  · exact Nat.le_refl _
  · exact Nat.le_succ _
/-- the windows of one row, fixed or sliding -/
def pg_run (B : Nat → Int32) (sz k : Int32) (v : Int64) : Nat → Nat → Ps → Ps
  | 0, _, q => q
  | f + 1, i, q => pg_run B sz k v f (i + 1) (pi_run q k.toInt64 (B i).toInt64 (B i + sz).toInt64 v)
theorem pg_run_le (B : Nat → Int32) (sz k : Int32) (v : Int64) : ∀ (f i : Nat) (q : Ps), (pg_run B sz k v f i q).1 ≤ q.1 + f
  | 0, _, q => Nat.le_refl _
  | f + 1, i, q => by
    unfold pg_run
    have h1 := pg_run_le B sz k v f (i + 1) (pi_run q k.toInt64 (B i).toInt64 (B i + sz).toInt64 v)
    have h2 := pi_run_le q k.toInt64 (B i).toInt64 (B i + sz).toInt64 v
    omega
/-- one row comes into the pass -/
def pr_st (s : Md) (o : Nat) (all : Bool) (rj : Nat → Nat) (nr N t : Nat) (Kf : Nat → Nat) (i : Nat) (q : Ps) : Ps :=
  if tk_is s i (rj i) (nI o) all = true then
    (if s.oKind o = 2 then pi_run q (s.rKey i).toInt64 (eg_run (eg_T s rj (nI o) all i) s.rTime (s.oSize o) true nr N (s.rTime i)).toInt64 (eg_run (eg_T s rj (nI o) all i) s.rTime (s.oSize o) false nr N (s.rTime i) + s.oSize o).toInt64 (s.rV i).toInt64
    else pg_run (fun j => bg_of (bg_st s o) (s.oSize o) (s.rTime i) t (nI j)) (s.oSize o) (s.rKey i) (s.rV i).toInt64 (Kf i) 0 q) else q
def pr_run (s : Md) (o : Nat) (all : Bool) (rj : Nat → Nat) (nr N t : Nat) (Kf : Nat → Nat) : Nat → Nat → Ps → Ps
  | 0, _, q => q
  | f + 1, i, q => pr_run s o all rj nr N t Kf f (i + 1) (pr_st s o all rj nr N t Kf i q)
section
variable {G : rv_G} {σ0 : rv_S} {y nr o N t : Nat} {s : Md} {rj Kf : Nat → Nat} {all : Bool}
set_option maxRecDepth 100000 in
theorem lp_ps_87 {Rt : Option Value → rv_S → Prop} (hnr : nr ≤ 300) (ho : o < 5) {i : Nat} (hi : i < nr) (h0 : ¬ bg_st s o = 0) (hok : bg_ok (bg_st s o) (s.oSize o) (s.rTime i) t (dn (s.rTime i) (bg_st s o) * bg_st s o)) {K : Nat} (hK8 : K ≤ 8) (hK : bg_of (bg_st s o) (s.oSize o) (s.rTime i) t (nI K) = -99999999) (hK2 : ∀ j, j < K → ¬ bg_of (bg_st s o) (s.oSize o) (s.rTime i) t (nI j) = -99999999) :
    ∀ (f j : Nat) (vj : Int32) (x5 : Option Value) (q : Ps) (σ : rv_S), vj = nI j → j + f = K → q.1 ≤ 8 * i + j → MI σ0 σ y (md y (mp s q)) →
    (∀ (σ : rv_S) (vj : Int32) (x5 : Option Value), MI σ0 σ y (md y (mp s (pg_run (fun j => bg_of (bg_st s o) (s.oSize o) (s.rTime i) t (nI j)) (s.oSize o) (s.rKey i) (s.rV i).toInt64 f j q))) → rv_V G m_Model_pass 0 0 Rt 154 [some (.ref y), some (.int (nI o)), some (.int (rv_b all)), some (.int (nI i)), some (.int vj), x5] [] σ 0 0) →
    rv_V G m_Model_pass 0 0 Rt 87 [some (.ref y), some (.int (nI o)), some (.int (rv_b all)), some (.int (nI i)), some (.int vj), x5] [] σ 0 0 := by
  have hbg : ∀ (q : Ps) (σ : rv_S) (j : Nat), MI σ0 σ y (md y (mp s q)) → rv_Ct G i_Model_beginOf 0 0 [.ref y, .int (nI o), .int (s.rTime i), .int (nI j)] σ (fun q σ' => q = some (.int (bg_of (bg_st s o) (s.oSize o) (s.rTime i) t (nI j))) ∧ σ' = σ) := fun q σ j h => rt_beginOf (s := mp s q) (s.rTime i) (nI j) t rfl ho h h0 hok
  intro f
  induction f with
  | zero =>
    intro j vj x5 q σ ej e1 hq h next
    obtain rfl : j = K := by omega
    subst ej
    refine rv_V.run rv_gd_Model_pass [154] 400 ?_
    refine Exists.intro _ (And.intro h.ob ?_)
    refine h.l17 rfl (by omega) ?_
    refine And.intro (Exists.intro _ h.ob) ?_
    refine ⟨_, _, _, hbg q σ j h, Nat.zero_le _, Nat.zero_le _, rfl, ?_⟩
    rintro _ σ ⟨rfl, rfl⟩
    exact And.intro (fun c1 => next σ _ _ h) (fun c1 => absurd hK c1)
  | succ f ih =>
    intro j vj x5 q σ ej e1 hq h next
    subst ej
    refine rv_V.run rv_gd_Model_pass [87, 154] 400 ?_
    refine Exists.intro _ (And.intro h.ob ?_)
    refine h.l17 rfl (by omega) ?_
    refine And.intro (Exists.intro _ h.ob) ?_
    refine ⟨_, _, _, hbg q σ j h, Nat.zero_le _, Nat.zero_le _, rfl, ?_⟩
    rintro _ σ ⟨rfl, rfl⟩
    refine And.intro (fun c1 => absurd c1 (hK2 j (by omega))) (fun c1 => ?_)
    refine Exists.intro _ (And.intro h.ob ?_)
    refine h.l17 rfl (by omega) ?_
    refine And.intro (Exists.intro _ h.ob) ?_
    refine ⟨_, _, _, hbg q σ j h, Nat.zero_le _, Nat.zero_le _, rfl, ?_⟩
    rintro _ σ ⟨rfl, rfl⟩
    refine Exists.intro _ (And.intro h.ob ?_)
    refine h.l16 rfl (by omega) ?_
    refine Exists.intro _ (And.intro h.ob ?_)
    refine h.l2 rfl ho ?_
    refine Exists.intro _ (And.intro h.ob ?_)
    refine h.l18 rfl (by omega) ?_
    refine And.intro (Exists.intro _ h.ob) ?_
    refine ⟨_, _, _, rt_passInto (q := q) _ _ _ _ (by omega) h, Nat.zero_le _, Nat.zero_le _, rfl, ?_⟩
    rintro _ σ ⟨rfl, h⟩
    have hle := pi_run_le q (s.rKey i).toInt64 (bg_of (bg_st s o) (s.oSize o) (s.rTime i) t (nI j)).toInt64 (bg_of (bg_st s o) (s.oSize o) (s.rTime i) t (nI j) + s.oSize o).toInt64 (s.rV i).toInt64
    exact ih (j + 1) (nI j + 1) _ _ σ (nI_1 j) (by omega) (Nat.le_trans hle (by omega)) h next
set_option maxRecDepth 100000 in
theorem lp_ps_17 (hnr : nr ≤ 300) (en : s.nrow = nI nr) (hrj : ∀ k, k < nr → s.rSrc k = nI (rj k) ∧ rj k < 10) (ho : o < 5)
    (hG : s.oKind o = 2 → ∀ i, i < nr → tk_is s i (rj i) (nI o) all = true → eg_ok (eg_T s rj (nI o) all i) s.rTime (s.oSize o) true nr N (s.rTime i) ∧ eg_ok (eg_T s rj (nI o) all i) s.rTime (s.oSize o) false nr N (s.rTime i))
    (hB : ¬ s.oKind o = 2 → ¬ bg_st s o = 0 ∧ ∀ i, i < nr → bg_ok (bg_st s o) (s.oSize o) (s.rTime i) t (dn (s.rTime i) (bg_st s o) * bg_st s o) ∧ Kf i ≤ 8 ∧ bg_of (bg_st s o) (s.oSize o) (s.rTime i) t (nI (Kf i)) = -99999999 ∧ ∀ j, j < Kf i → ¬ bg_of (bg_st s o) (s.oSize o) (s.rTime i) t (nI j) = -99999999) :
    ∀ (f i : Nat) (vi : Int32) (x4 x5 : Option Value) (q : Ps) (σ : rv_S), vi = nI i → i + f = nr → q.1 ≤ 8 * i → MI σ0 σ y (md y (mp s q)) →
    rv_V G m_Model_pass 0 0 (fun a σ' => a = some (.int (nI (pr_run s o all rj nr N t Kf f i q).1)) ∧ MI σ0 σ' y (md y (mp s (pr_run s o all rj nr N t Kf f i q)))) 17 [some (.ref y), some (.int (nI o)), some (.int (rv_b all)), some (.int vi), x4, x5] [] σ 0 0 := by
  intro f
  induction f with
  | zero =>
    intro i vi x4 x5 q σ ei e1 hq h
    refine rv_V.run rv_gd_Model_pass [] 400 ?_
    refine Exists.intro _ (And.intro h.ob ?_)
    refine And.intro (fun c1 => ?_) (fun c1 => absurd ((rv_leN (show (mp s q).nrow = nI nr from en) ei (by omega) (by omega)).mpr (by omega)) c1)
    refine Exists.intro _ (And.intro h.ob ?_)
    exact And.intro trivial ⟨rfl, h⟩
  | succ f ih =>
    intro i vi x4 x5 q σ ei e1 hq h
    have hi : i < nr := by omega
    subst ei
    obtain ⟨j1, j2⟩ := hrj i hi
    have next : ∀ (q' : Ps) (σ : rv_S) (x4 x5 : Option Value), pr_st s o all rj nr N t Kf i q = q' → q'.1 ≤ 8 * (i + 1) → MI σ0 σ y (md y (mp s q')) → rv_V G m_Model_pass 0 0 (fun a σ' => a = some (.int (nI (pr_run s o all rj nr N t Kf (f + 1) i q).1)) ∧ MI σ0 σ' y (md y (mp s (pr_run s o all rj nr N t Kf (f + 1) i q)))) 154 [some (.ref y), some (.int (nI o)), some (.int (rv_b all)), some (.int (nI i)), x4, x5] [] σ 0 0 := by
      intro q' σ x4 x5 eq hq h
      rw [show pr_run s o all rj nr N t Kf (f + 1) i q = pr_run s o all rj nr N t Kf f (i + 1) q' by conv => lhs; unfold pr_run; rw [eq]]
      refine rv_V.run rv_gd_Model_pass [17] 400 ?_
      exact ih (i + 1) (nI i + 1) x4 x5 q' σ (nI_1 i) (by omega) hq h
    refine rv_V.run rv_gd_Model_pass [87, 154] 400 ?_
    refine Exists.intro _ (And.intro h.ob ?_)
    refine And.intro (fun c1 => absurd ((rv_leN (show (mp s q).nrow = nI nr from en) rfl (by omega) (by omega)).mp c1) (by omega)) (fun c1 => ?_)
    refine And.intro (Exists.intro _ h.ob) ?_
    refine ⟨_, _, _, rt_isTaken (s := mp s q) (nI o) all rfl (by omega) j1 j2 h, Nat.zero_le _, Nat.zero_le _, rfl, ?_⟩
    rintro _ σ ⟨rfl, rfl⟩
    refine And.intro (fun c2 => ?_) (fun c2 => ?_)
    · refine next q σ _ _ ?_ (by omega) h
      unfold pr_st
      rw [if_neg (by rw [show tk_is s i (rj i) (nI o) all = false from rv_b0.mp c2]; decide)]
    have hT : tk_is s i (rj i) (nI o) all = true := rv_bn c2
    refine Exists.intro _ (And.intro h.ob ?_)
    refine h.l1 rfl ho ?_
    refine And.intro (fun c3 => ?_) (fun c3 => ?_)
    · have c3 : s.oKind o = 2 := c3
      obtain ⟨g1, g2⟩ := hG c3 i hi hT
      refine Exists.intro _ (And.intro h.ob ?_)
      refine h.l16 rfl (by omega) ?_
      refine And.intro (Exists.intro _ h.ob) ?_
      refine ⟨_, _, _, rt_edge (s := mp s q) (first := true) N hnr en hrj ho hi h g1, Nat.zero_le _, Nat.zero_le _, rfl, ?_⟩
      rintro _ σ ⟨rfl, rfl⟩
      refine And.intro (Exists.intro _ h.ob) ?_
      refine ⟨_, _, _, rt_edge (s := mp s q) (first := false) N hnr en hrj ho hi h g2, Nat.zero_le _, Nat.zero_le _, rfl, ?_⟩
      rintro _ σ ⟨rfl, rfl⟩
      refine Exists.intro _ (And.intro h.ob ?_)
      refine h.l18 rfl (by omega) ?_
      refine And.intro (Exists.intro _ h.ob) ?_
      refine ⟨_, _, _, rt_passInto (q := q) _ _ _ _ (by omega) h, Nat.zero_le _, Nat.zero_le _, rfl, ?_⟩
      rintro _ σ ⟨rfl, h⟩
      refine next _ σ _ _ ?_ (Nat.le_trans (pi_run_le q _ _ _ _) (by omega)) h
      unfold pr_st
      rw [if_pos hT, if_pos c3]
      rfl
    · have c3 : ¬ s.oKind o = 2 := c3
      obtain ⟨b0, b1⟩ := hB c3
      obtain ⟨b2, b3, b4, b5⟩ := b1 i hi
      refine lp_ps_87 hnr ho hi b0 b2 b3 b4 b5 (Kf i) 0 _ _ q σ rfl (by omega) (by omega) h (fun σ vj x5 h => ?_)
      refine next _ σ _ _ ?_ (Nat.le_trans (pg_run_le _ _ _ _ _ _ q) (by omega)) h
      unfold pr_st
      rw [if_pos hT, if_neg c3]
set_option maxRecDepth 100000 in
theorem rt_pass {σ : rv_S} {no : Nat} (eno : s.nop = nI no) (hno : no ≤ 5) (hon : o < no) (hnr : nr ≤ 300) (en : s.nrow = nI nr) (hrj : ∀ k, k < nr → s.rSrc k = nI (rj k) ∧ rj k < 10)
    (hG : s.oKind o = 2 → ∀ i, i < nr → tk_is s i (rj i) (nI o) all = true → eg_ok (eg_T s rj (nI o) all i) s.rTime (s.oSize o) true nr N (s.rTime i) ∧ eg_ok (eg_T s rj (nI o) all i) s.rTime (s.oSize o) false nr N (s.rTime i))
    (hB : ¬ s.oKind o = 2 → ¬ bg_st s o = 0 ∧ ∀ i, i < nr → bg_ok (bg_st s o) (s.oSize o) (s.rTime i) t (dn (s.rTime i) (bg_st s o) * bg_st s o) ∧ Kf i ≤ 8 ∧ bg_of (bg_st s o) (s.oSize o) (s.rTime i) t (nI (Kf i)) = -99999999 ∧ ∀ j, j < Kf i → ¬ bg_of (bg_st s o) (s.oSize o) (s.rTime i) t (nI j) = -99999999) (h : MI σ0 σ y (md y s)) :
    rv_Ct G i_Model_pass 0 0 [.ref y, .int (nI o), .int (rv_b all)] σ (fun a σ' => a = some (.int (nI (pr_run s o all rj nr N t Kf nr 0 (0, s.pRow)).1)) ∧ MI σ0 σ' y (md y (mp s (pr_run s o all rj nr N t Kf nr 0 (0, s.pRow))))) := by
  refine rv_ct (M := m_Model_pass) rfl (by decide) rfl rfl ?_
  refine rv_V.run rv_gd_Model_pass [17] 400 ?_
  refine And.intro (Exists.intro _ h.ob) ?_
  refine ⟨_, _, _, rt_isOp (nI o) h, Nat.zero_le _, Nat.zero_le _, rfl, ?_⟩
  rintro _ σ ⟨rfl, rfl⟩
  have hin : rv_in (nI o) 0 (s.nop - 1) = true := by rw [eno]; exact (in_nI (by omega)).mpr ⟨o, hon, rfl⟩
  refine And.intro (fun c1 => ?_) (fun c1 => ?_)
  · rw [hin] at c1; exact absurd c1 (by decide)
  refine h.p49 (fun σ h => ?_)
  have h : MI σ0 σ y (md y (mp s (0, s.pRow))) := h
  exact lp_ps_17 hnr en hrj (by omega) hG hB nr 0 _ _ _ (0, s.pRow) σ rfl (by omega) (by omega) h
set_option maxRecDepth 100000 in
theorem rt_pass_out {σ : rv_S} {no : Nat} {x : Int32} (eno : s.nop = nI no) (hno : no ≤ 5) (ho : ¬ ∃ j, j < no ∧ x = nI j) (h : MI σ0 σ y (md y s)) :
    rv_Ct G i_Model_pass 0 0 [.ref y, .int x, .int (rv_b all)] σ (fun a σ' => a = some (.int (-1)) ∧ σ' = σ) := by
  refine rv_ct (M := m_Model_pass) rfl (by decide) rfl rfl ?_
  refine rv_V.run rv_gd_Model_pass [17] 400 ?_
  refine And.intro (Exists.intro _ h.ob) ?_
  refine ⟨_, _, _, rt_isOp x h, Nat.zero_le _, Nat.zero_le _, rfl, ?_⟩
  rintro _ σ ⟨rfl, rfl⟩
  refine And.intro (fun c1 => And.intro trivial ⟨rfl, rfl⟩) (fun c1 => ?_)
  have := rv_bn c1
  rw [eno] at this
  exact absurd ((in_nI (by omega)).mp this) ho
end
