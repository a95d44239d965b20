/-! THE REFERENCE: its smaller calls -/
theorem in_nI {x : Int32} {n : Nat} (hn : n < 2 ^ 30) : rv_in x 0 (nI n - 1) = true ↔ ∃ j, j < n ∧ x = nI j := by
  unfold rv_in
  rw [decide_eq_true_iff]
  cases n with
  | zero =>
    constructor
    · rintro ⟨h1, h2⟩
      have := Int32.le_trans h1 h2
      exact absurd this (by decide)
    · rintro ⟨j, hj, _⟩
      omega
  | succ t =>
    rw [nI_pred]
    constructor
    · rintro ⟨h1, h2⟩
      obtain ⟨j, hj, e⟩ := nI_of2 (nI_toInt (n := t) (by omega)) (Int32.not_lt.mpr h1) h2
      exact ⟨j, by omega, e⟩
    · rintro ⟨j, hj, rfl⟩
      exact ⟨nI_pos' (by omega), nI_le (by omega) (by omega)⟩
set_option maxRecDepth 100000 in
theorem rt_isOp {G : rv_G} {σ0 σ : rv_S} {y : Nat} {s : Md} (x : Int32) (h : MI σ0 σ y (md y s)) : rv_Ct G i_Model_isOp 0 0 [.ref y, .int x] σ (fun q σ' => q = some (.int (rv_b (rv_in x 0 (s.nop - 1)))) ∧ σ' = σ) := by
  refine rv_ct (M := m_Model_isOp) rfl (by decide) rfl rfl ?_
  refine rv_V.run rv_gd_Model_isOp [] 400 ?_
  refine Exists.intro _ (And.intro h.ob ?_)
  refine ⟨_, _, _, rt_in x 0 (s.nop - 1), Nat.zero_le _, Nat.zero_le _, rfl, ?_⟩
  rintro _ σ ⟨rfl, rfl⟩
  exact And.intro (rv_b01 _) ⟨rfl, rfl⟩
set_option maxRecDepth 100000 in
theorem rt_isSource {G : rv_G} {σ0 σ : rv_S} {y : Nat} {s : Md} (x : Int32) (h : MI σ0 σ y (md y s)) : rv_Ct G i_Model_isSource 0 0 [.ref y, .int x] σ (fun q σ' => q = some (.int (rv_b (rv_in x 0 (s.nsr - 1)))) ∧ σ' = σ) := by
  refine rv_ct (M := m_Model_isSource) rfl (by decide) rfl rfl ?_
  refine rv_V.run rv_gd_Model_isSource [] 400 ?_
  refine Exists.intro _ (And.intro h.ob ?_)
  refine ⟨_, _, _, rt_in x 0 (s.nsr - 1), Nat.zero_le _, Nat.zero_le _, rfl, ?_⟩
  rintro _ σ ⟨rfl, rfl⟩
  exact And.intro (rv_b01 _) ⟨rfl, rfl⟩
set_option maxRecDepth 100000 in
theorem rt_mark_in {G : rv_G} {σ0 σ : rv_S} {y no o : Nat} {s : Md} {x : Int32} (en : s.nop = nI no) (hn : no ≤ 5) (ho : o < no) (ex : x = nI o) (h : MI σ0 σ y (md y s)) : rv_Ct G i_Model_mark 0 0 [.ref y, .int x] σ (fun q σ' => q = some (.int (s.oMark o)) ∧ σ' = σ) := by
  refine rv_ct (M := m_Model_mark) rfl (by decide) rfl rfl ?_
  refine rv_V.run rv_gd_Model_mark [] 400 ?_
  refine And.intro (Exists.intro _ h.ob) ?_
  refine ⟨_, _, _, rt_isOp x h, Nat.zero_le _, Nat.zero_le _, rfl, ?_⟩
  rintro _ σ ⟨rfl, rfl⟩
  refine And.intro (fun c1 => ?_) (fun c1 => ?_)
  · have := rv_b0.mp c1
    rw [en, (in_nI (by omega)).mpr ⟨o, ho, ex⟩] at this
    cases this
  · refine Exists.intro _ (And.intro h.ob ?_)
    refine h.l6 ex (by omega) ?_
    exact And.intro trivial ⟨rfl, rfl⟩
set_option maxRecDepth 100000 in
theorem rt_mark_out {G : rv_G} {σ0 σ : rv_S} {y no : Nat} {s : Md} {x : Int32} (en : s.nop = nI no) (hn : no ≤ 5) (ho : ¬ ∃ j, j < no ∧ x = nI j) (h : MI σ0 σ y (md y s)) : rv_Ct G i_Model_mark 0 0 [.ref y, .int x] σ (fun q σ' => q = some (.int (-1)) ∧ σ' = σ) := by
  refine rv_ct (M := m_Model_mark) rfl (by decide) rfl rfl ?_
  refine rv_V.run rv_gd_Model_mark [] 400 ?_
  refine And.intro (Exists.intro _ h.ob) ?_
  refine ⟨_, _, _, rt_isOp x h, Nat.zero_le _, Nat.zero_le _, rfl, ?_⟩
  rintro _ σ ⟨rfl, rfl⟩
  refine And.intro (fun c1 => ?_) (fun c1 => ?_)
  · exact And.intro trivial ⟨rfl, rfl⟩
  · have := rv_bn c1
    rw [en] at this
    exact absurd ((in_nI (by omega)).mp this) ho
def md_bnd (s : Md) (n rule : Int32) : Md :=
  let s := s.u_bnd n
  s.u_rul rule
set_option maxRecDepth 100000 in
theorem rt_bound {G : rv_G} {σ0 σ : rv_S} {y : Nat} {s : Md} (n rule : Int32) (h : MI σ0 σ y (md y s)) :
    rv_Ct G i_Model_bound 0 0 [.ref y, .int n, .int rule] σ (fun q σ' => q = some (.int (if rv_in n 0 100 = true ∧ rv_in rule 0 1 = true then (if s.nas ≤ n then s.nas else -2) else -1)) ∧ MI σ0 σ' y (md y (if (rv_in n 0 100 = true ∧ rv_in rule 0 1 = true) ∧ s.nas ≤ n then md_bnd s n rule else s))) := by
  refine rv_ct (M := m_Model_bound) rfl (by decide) rfl rfl ?_
  refine rv_V.run rv_gd_Model_bound [] 400 ?_
  refine ⟨_, _, _, rt_in n 0 100, Nat.zero_le _, Nat.zero_le _, rfl, ?_⟩
  rintro _ σ ⟨rfl, rfl⟩
  refine And.intro (fun c1 => ?_) (fun c1 => ?_)
  · have hno : ¬ (rv_in n 0 100 = true ∧ rv_in rule 0 1 = true) := fun z => by rw [rv_b0.mp c1] at z; exact absurd z.1 (by decide)
    rw [if_neg hno, if_neg (fun z => hno z.1)]
    exact And.intro trivial ⟨rfl, h⟩
  refine ⟨_, _, _, rt_in rule 0 1, Nat.zero_le _, Nat.zero_le _, rfl, ?_⟩
  rintro _ σ ⟨rfl, rfl⟩
  refine And.intro (fun c2 => ?_) (fun c2 => ?_)
  · have hno : ¬ (rv_in n 0 100 = true ∧ rv_in rule 0 1 = true) := fun z => by rw [rv_b0.mp c2] at z; exact absurd z.2 (by decide)
    rw [if_neg hno, if_neg (fun z => hno z.1)]
    exact And.intro trivial ⟨rfl, h⟩
  have hyes : rv_in n 0 100 = true ∧ rv_in rule 0 1 = true := ⟨rv_bn c1, rv_bn c2⟩
  rw [if_pos hyes]
  refine Exists.intro _ (And.intro h.ob ?_)
  refine And.intro (fun c3 => ?_) (fun c3 => ?_)
  · rw [if_pos c3, if_pos ⟨hyes, c3⟩]
    refine h.p42 (fun σ h => ?_)
    refine h.p43 (fun σ h => ?_)
    refine Exists.intro _ (And.intro h.ob ?_)
    exact And.intro trivial ⟨rfl, h⟩
  · rw [if_neg c3, if_neg (fun z => c3 z.2)]
    exact And.intro trivial ⟨rfl, h⟩
set_option maxRecDepth 100000 in
theorem rt_result_get {G : rv_G} {σ0 σ : rv_S} {y r : Nat} {s : Md} (i j : Int32) (er : s.nres = nI r) (hr : r ≤ 400) (h : MI σ0 σ y (md y s)) :
    rv_Ct G i_Model_result_IIJ 0 0 [.ref y, .int i, .int j] σ (fun q σ' => q = some (.long (if rv_in i 0 (nI r - 1) = true ∧ rv_in j 0 8 = true then s.eRow (9 * i.toNatClampNeg + j.toNatClampNeg) else -99999999)) ∧ σ' = σ) := by
  refine rv_ct (M := m_Model_result_IIJ) rfl (by decide) rfl rfl ?_
  refine rv_V.run rv_gd_Model_result_IIJ [] 400 ?_
  refine Exists.intro _ (And.intro h.ob ?_)
  refine ⟨_, _, _, rt_in i 0 (s.nres - 1), Nat.zero_le _, Nat.zero_le _, rfl, ?_⟩
  rintro _ σ ⟨rfl, rfl⟩
  rw [er]
  refine And.intro (fun c1 => ?_) (fun c1 => ?_)
  · refine ⟨?_, rfl⟩
    rw [if_neg (fun z => by rw [rv_b0.mp c1] at z; exact absurd z.1 (by decide))]
  refine ⟨_, _, _, rt_in j 0 8, Nat.zero_le _, Nat.zero_le _, rfl, ?_⟩
  rintro _ σ ⟨rfl, rfl⟩
  refine And.intro (fun c2 => ?_) (fun c2 => ?_)
  · refine ⟨?_, rfl⟩
    rw [if_neg (fun z => by rw [rv_b0.mp c2] at z; exact absurd z.2 (by decide))]
  obtain ⟨a, ha, ea⟩ := (in_nI (by omega)).mp (rv_bn c1)
  obtain ⟨b, hb, eb⟩ := (in_nI (n := 9) (by omega)).mp (rv_bn c2)
  refine Exists.intro _ (And.intro h.ob ?_)
  refine h.l34 (w := 9 * a + b) (by rw [ea, eb, show (9 : Int32) = nI 9 from rfl, nI_mul, nI_add]) (by omega) ?_
  refine ⟨?_, rfl⟩
  rw [if_pos ⟨rv_bn c1, rv_bn c2⟩, ea, eb, nI_clamp (by omega), nI_clamp (by omega)]
set_option maxRecDepth 100000 in
theorem rt_aside_get {G : rv_G} {σ0 σ : rv_S} {y r : Nat} {s : Md} (i j : Int32) (er : s.nas = nI r) (hr : r ≤ 100) (h : MI σ0 σ y (md y s)) :
    rv_Ct G i_Model_aside 0 0 [.ref y, .int i, .int j] σ (fun q σ' => q = some (.int (if rv_in i 0 (nI r - 1) = true ∧ rv_in j 0 4 = true then s.aRow (5 * i.toNatClampNeg + j.toNatClampNeg) else -99999999)) ∧ σ' = σ) := by
  refine rv_ct (M := m_Model_aside) rfl (by decide) rfl rfl ?_
  refine rv_V.run rv_gd_Model_aside [] 400 ?_
  refine Exists.intro _ (And.intro h.ob ?_)
  refine ⟨_, _, _, rt_in i 0 (s.nas - 1), Nat.zero_le _, Nat.zero_le _, rfl, ?_⟩
  rintro _ σ ⟨rfl, rfl⟩
  rw [er]
  refine And.intro (fun c1 => ?_) (fun c1 => ?_)
  · refine And.intro trivial ⟨?_, rfl⟩
    rw [if_neg (fun z => by rw [rv_b0.mp c1] at z; exact absurd z.1 (by decide))]
  refine ⟨_, _, _, rt_in j 0 4, Nat.zero_le _, Nat.zero_le _, rfl, ?_⟩
  rintro _ σ ⟨rfl, rfl⟩
  refine And.intro (fun c2 => ?_) (fun c2 => ?_)
  · refine And.intro trivial ⟨?_, rfl⟩
    rw [if_neg (fun z => by rw [rv_b0.mp c2] at z; exact absurd z.2 (by decide))]
  obtain ⟨a, ha, ea⟩ := (in_nI (by omega)).mp (rv_bn c1)
  obtain ⟨b, hb, eb⟩ := (in_nI (n := 5) (by omega)).mp (rv_bn c2)
  refine Exists.intro _ (And.intro h.ob ?_)
  refine h.l35 (w := 5 * a + b) (by rw [ea, eb, show (5 : Int32) = nI 5 from rfl, nI_mul, nI_add]) (by omega) ?_
  refine And.intro trivial ⟨?_, rfl⟩
  rw [if_pos ⟨rv_bn c1, rv_bn c2⟩, ea, eb, nI_clamp (by omega), nI_clamp (by omega)]
/-- none is stopped -/
def tk_run : Nat → Nat → (Nat → Bool) → Nat → Bool
  | 0, _, e => e
  | t + 1, j, e => tk_run t (j + 1) (va_up e j false)
set_option maxRecDepth 100000 in
theorem lp_take {G : rv_G} {σ0 : rv_S} {y : Nat} {vh : Int32} (s : Md) : ∀ (t j : Nat) (vj : Int32) (e : Nat → Bool) (σ : rv_S), vj = nI j → j + t = 10 → MI σ0 σ y (md y (s.u_sStop e)) →
    rv_V G m_Model_take 0 0 (fun q σ' => q = some (.int vh) ∧ MI σ0 σ' y (md y (s.u_sStop (tk_run t j e)))) 12 [some (.ref y), some (.int vh), some (.int vj)] [] σ 0 0 := by
  intro t
  induction t with
  | zero =>
    intro j vj e σ ej h1 h
    refine rv_V.run rv_gd_Model_take [12] 400 ?_
    refine And.intro (fun c1 => ?_) (fun c1 => ?_)
    · exact And.intro trivial ⟨rfl, h⟩
    · exact absurd ((rv_leN (a := 10) rfl ej (by omega) (by omega)).mpr (by omega)) c1
  | succ t ih =>
    intro j vj e σ ej h1 h
    refine rv_V.run rv_gd_Model_take [12] 400 ?_
    refine And.intro (fun c1 => ?_) (fun c1 => ?_)
    · exact absurd ((rv_leN (a := 10) rfl ej (by omega) (by omega)).mp c1) (by omega)
    refine Exists.intro _ (And.intro h.ob ?_)
    refine h.s10 ej (by omega) false rfl (fun σ h => ?_)
    exact ih (j + 1) (vj + 1) (va_up e j false) σ (by rw [ej]; exact nI_1 j) (by omega) h
set_option maxRecDepth 100000 in
theorem rt_take {G : rv_G} {σ0 σ : rv_S} {y : Nat} {s : Md} (h : MI σ0 σ y (md y s)) :
    rv_Ct G i_Model_take 0 0 [.ref y] σ (fun q σ' => q = some (.int s.nas) ∧ MI σ0 σ' y (md y ((s.u_nas 0).u_sStop (tk_run 10 0 s.sStop)))) := by
  refine rv_ct (M := m_Model_take) rfl (by decide) rfl rfl ?_
  refine rv_V.run rv_gd_Model_take [12] 400 ?_
  refine Exists.intro _ (And.intro h.ob ?_)
  refine h.p40 (fun σ h => ?_)
  exact lp_take (s.u_nas 0) 10 0 _ s.sStop σ rfl rfl h
