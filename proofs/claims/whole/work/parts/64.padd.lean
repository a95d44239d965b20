/-! THE CLASS: one pass, rows added to it -/
theorem rv_cmp_eq (x y : Int64) : lg_cmp x y = 0 ↔ x = y := by
  constructor
  · intro h
    have h1 : ¬ x < y := fun z => by have := (rv_cmp_lt x y).mpr z; rw [h] at this; exact absurd this (by decide)
    have h2 : ¬ y < x := fun z => by have := (rv_cmp_gt x y).mpr z; rw [h] at this; exact absurd this (by decide)
    exact Int64.le_antisymm (Int64.not_lt.mp h2) (Int64.not_lt.mp h1)
  · intro h
    subst h
    have h1 : ¬ lg_cmp x x < 0 := fun z => absurd ((rv_cmp_lt x x).mp z) (Int64.lt_irrefl)
    have h2 : ¬ 0 < lg_cmp x x := fun z => absurd ((rv_cmp_gt x x).mp z) (Int64.lt_irrefl)
    exact Int32.le_antisymm (Int32.not_lt.mp h2) (Int32.not_lt.mp h1)
def pf_run (f : Nat → Int64) (k b : Int64) : Nat → Nat → Option Nat
  | 0, _ => none
  | _, 0 => none
  | t + 1, i + 1 => if f (7 * i) = k ∧ f (7 * i + 1) = b then some i else pf_run f k b t i
def fi_i : Option Nat → Int32
  | none => -1
  | some i => nI i
set_option maxRecDepth 100000 in
theorem lp_OP_find {G : rv_G} {σ : rv_S} {a : Nat} {s : Ps} (h : POS σ.2 a s) (k b : Int32) : ∀ (t q : Nat) (vi : Int32), vi = nI q - 1 → s.1 + t = q + 8 → q ≤ s.1 →
    rv_V G m_OnePass_find 0 0 (fun r σ' => r = some (.int (fi_i (pf_run s.2 k.toInt64 b.toInt64 t q))) ∧ σ' = σ) 7 [some (.ref a), some (.int k), some (.int b), some (.int vi)] [] σ 0 0 := by
  have h1 := h.1
  have h3 := h.2.2
  intro t
  induction t with
  | zero =>
    intro q vi ei e1 hq
    refine rv_V.run rv_gd_OnePass_find [7] 400 ?_
    refine And.intro (fun c1 => ?_) (fun c1 => ?_)
    · exact And.intro trivial ⟨rfl, rfl⟩
    refine Exists.intro _ (And.intro h1 ?_)
    refine And.intro (fun c2 => ?_) (fun c2 => ?_)
    · exact And.intro trivial ⟨rfl, rfl⟩
    · exfalso
      refine c2 (Int32.lt_iff_toInt_lt.mpr ?_)
      rw [ei, show (nI q - 1).toInt = _ from pk_sub_toInt (a := q) (b := 1) (by omega) (by omega), show (nI s.1 - 8).toInt = _ from pk_sub_toInt (a := s.1) (b := 8) (by omega) (by omega)]
      omega
  | succ t ih =>
    intro q vi ei e1 hq
    cases q with
    | zero =>
      refine rv_V.run rv_gd_OnePass_find [7] 400 ?_
      refine And.intro (fun c1 => ?_) (fun c1 => ?_)
      · exact And.intro trivial ⟨rfl, rfl⟩
      · exact absurd (by rw [ei]; decide) c1
    | succ i =>
      rw [nI_pred] at ei
      subst ei
      have next : pf_run s.2 k.toInt64 b.toInt64 (t + 1) (i + 1) = pf_run s.2 k.toInt64 b.toInt64 t i → rv_V G m_OnePass_find 0 0 (fun r σ' => r = some (.int (fi_i (pf_run s.2 k.toInt64 b.toInt64 (t + 1) (i + 1)))) ∧ σ' = σ) 48 [some (.ref a), some (.int k), some (.int b), some (.int (nI i))] [] σ 0 0 := by
        intro e
        rw [e]
        refine rv_V.run rv_gd_OnePass_find [7] 400 ?_
        exact ih i (nI i + (-1)) (Int32.sub_eq_add_neg _ _).symm (by omega) (by omega)
      refine rv_V.run rv_gd_OnePass_find [7, 48] 400 ?_
      refine And.intro (fun c1 => absurd c1 (nI_pos (by omega))) (fun c1 => ?_)
      refine Exists.intro _ (And.intro h1 ?_)
      refine And.intro (fun c2 => ?_) (fun c2 => ?_)
      · exfalso
        have := Int32.lt_iff_toInt_lt.mp c2
        rw [nI_toInt (by omega), show (nI s.1 - 8).toInt = _ from pk_sub_toInt (a := s.1) (b := 8) (by omega) (by omega)] at this
        omega
      refine And.intro (Exists.intro _ h1) ?_
      refine ⟨_, _, _, ct_OP_at (i := i) (c := 0) h (by omega) (by omega), Nat.zero_le _, Nat.zero_le _, rfl, ?_⟩
      rintro _ σ ⟨rfl, rfl⟩
      refine And.intro (fun c3 => ?_) (fun c3 => ?_)
      · have e3 := (rv_cmp_eq _ _).mp c3
        refine And.intro (Exists.intro _ h1) ?_
        refine ⟨_, _, _, ct_OP_at (i := i) (c := 1) h (by omega) (by omega), Nat.zero_le _, Nat.zero_le _, rfl, ?_⟩
        rintro _ σ ⟨rfl, rfl⟩
        refine And.intro (fun c4 => ?_) (fun c4 => ?_)
        · have e4 := (rv_cmp_eq _ _).mp c4
          refine And.intro trivial ⟨?_, rfl⟩
          conv => rhs; unfold pf_run
          rw [if_pos ⟨e3, e4⟩]
          rfl
        · refine next ?_
          conv => lhs; unfold pf_run
          rw [if_neg (fun z => c4 ((rv_cmp_eq _ _).mpr z.2))]
      · refine next ?_
        conv => lhs; unfold pf_run
        rw [if_neg (fun z => c3 ((rv_cmp_eq _ _).mpr z.1))]
set_option maxRecDepth 100000 in
theorem ct_OP_find {G : rv_G} {σ : rv_S} {a : Nat} {s : Ps} (h : POS σ.2 a s) (k b : Int32) :
    rv_Ct G i_OnePass_find 0 0 [.ref a, .int k, .int b] σ (fun r σ' => r = some (.int (fi_i (pf_run s.2 k.toInt64 b.toInt64 8 s.1))) ∧ σ' = σ) := by
  refine rv_ct (M := m_OnePass_find) rfl (by decide) rfl rfl ?_
  refine rv_V.run rv_gd_OnePass_find [7] 400 ?_
  refine Exists.intro _ (And.intro h.1 ?_)
  exact lp_OP_find h k b 8 s.1 _ rfl rfl (Nat.le_refl _)
theorem pf_run_lt {f : Nat → Int64} {k b : Int64} : ∀ (t q i : Nat), pf_run f k b t q = some i → i < q
  | 0, q, i, h => by simp [pf_run] at h
  | t + 1, 0, i, h => by simp [pf_run] at h
  | t + 1, q + 1, i, h => by
    unfold pf_run at h
    by_cases hc : f (7 * q) = k ∧ f (7 * q + 1) = b
    · rw [if_pos hc] at h; cases h; omega
    · rw [if_neg hc] at h
      have := pf_run_lt t q i h
      omega
def ps_gap (sz : Int32) (s : Ps) (d : Rd) : Ps :=
  if 0 < s.1 ∧ s.2 (7 * (s.1 - 1)) = d.2.1.toInt64 ∧ d.2.2.1.toInt64 < s.2 (7 * (s.1 - 1) + 2) then (s.1, ps_cm s.2 (s.1 - 1) (d.2.2.1 + sz).toInt64 d.2.2.2.1.toInt64) else ps_open s d.2.1 d.2.2.1 (d.2.2.1 + sz) d.2.2.2.1
set_option maxRecDepth 100000 in
theorem ct_OP_gaps {G : rv_G} {σ : rv_S} {a r oa : Nat} {s : Ps} {d : Rd} (o kd sz st l r0 m : Int32) (h : POS σ.2 a s) (hr : σ.2 r = some (oR d)) (ho : σ.2 oa = some (oOp o kd sz st l r0 m)) (hra : r ≠ a + 1) (hra2 : r ≠ a) :
    rv_Ct G i_OnePass_addToGaps 0 0 [.ref a, .ref oa, .ref r] σ (fun q σ' => q = none ∧ σ'.1 = σ.1 ∧ POS σ'.2 a (ps_gap sz s d) ∧ rv_only (fun q => q = a ∨ q = a + 1) σ.2 σ'.2) := by
  have h1 := h.1
  have h3 := h.2.2
  refine rv_ct (M := m_OnePass_addToGaps) rfl (by decide) rfl rfl ?_
  have opn : ∀ ls, ls = [some (.ref a), some (.ref oa), some (.ref r), some (.int (d.2.2.1 + sz)), some (.int (nI s.1 - 1))] → ¬ (0 < s.1 ∧ s.2 (7 * (s.1 - 1)) = d.2.1.toInt64 ∧ d.2.2.1.toInt64 < s.2 (7 * (s.1 - 1) + 2)) → rv_V G m_OnePass_addToGaps 0 0 (fun q σ' => q = none ∧ σ'.1 = σ.1 ∧ POS σ'.2 a (ps_gap sz s d) ∧ rv_only (fun q => q = a ∨ q = a + 1) σ.2 σ'.2) 69 ls [] σ 0 0 := by
    intro ls hls hno
    subst hls
    refine rv_V.run rv_gd_OnePass_addToGaps [] 400 ?_
    refine Exists.intro _ (And.intro hr ?_)
    refine And.intro (Exists.intro _ h1) ?_
    refine ⟨_, _, _, ct_OP_open h hr hra hra2 _ _, Nat.zero_le _, Nat.zero_le _, rfl, ?_⟩
    rintro _ σ2 ⟨rfl, k1, k2, k3⟩
    unfold ps_gap
    rw [if_neg hno]
    exact ⟨rfl, k1, k2, k3⟩
  refine rv_V.run rv_gd_OnePass_addToGaps [69] 400 ?_
  refine Exists.intro _ (And.intro hr ?_)
  refine Exists.intro _ (And.intro ho ?_)
  refine Exists.intro _ (And.intro h1 ?_)
  refine And.intro (fun c1 => ?_) (fun c1 => ?_)
  · refine opn _ rfl (fun z => ?_)
    have := Int32.lt_iff_toInt_lt.mp c1
    rw [show (nI s.1 - 1).toInt = _ from pk_sub_toInt (a := s.1) (b := 1) (by omega) (by omega)] at this
    rw [show (0 : Int32).toInt = 0 from rfl] at this
    omega
  have hm : 0 < s.1 := by
    refine Nat.pos_of_ne_zero (fun z => c1 ?_)
    rw [z]
    decide
  have ei : nI s.1 - 1 = nI (s.1 - 1) := by
    obtain ⟨w, hw⟩ : ∃ w, s.1 = w + 1 := ⟨s.1 - 1, by omega⟩
    rw [hw, nI_pred]
    rfl
  rw [ei]
  refine And.intro (Exists.intro _ h1) ?_
  refine ⟨_, _, _, ct_OP_at (i := s.1 - 1) (c := 0) h (by omega) (by omega), Nat.zero_le _, Nat.zero_le _, rfl, ?_⟩
  rintro _ σ ⟨rfl, rfl⟩
  refine Exists.intro _ (And.intro hr ?_)
  refine And.intro (fun c3 => ?_) (fun c3 => ?_)
  · have e3 := (rv_cmp_eq _ _).mp c3
    refine Exists.intro _ (And.intro hr ?_)
    refine And.intro (Exists.intro _ h1) ?_
    refine ⟨_, _, _, ct_OP_at (i := s.1 - 1) (c := 2) h (by omega) (by omega), Nat.zero_le _, Nat.zero_le _, rfl, ?_⟩
    rintro _ σ ⟨rfl, rfl⟩
    refine And.intro (fun c4 => ?_) (fun c4 => ?_)
    · exact opn _ (by rw [ei]; rfl) (fun z => Int32.not_lt.mpr c4 ((rv_cmp_lt _ _).mpr z.2.2))
    · refine Exists.intro _ (And.intro hr ?_)
      refine And.intro (Exists.intro _ h1) ?_
      refine ⟨_, _, _, ct_OP_come (i := s.1 - 1) h (by omega) _ _, Nat.zero_le _, Nat.zero_le _, rfl, ?_⟩
      rintro _ σ2 ⟨rfl, k1, k2, k3⟩
      unfold ps_gap
      rw [if_pos ⟨hm, e3, (rv_cmp_lt _ _).mp (Int32.not_le.mp c4)⟩]
      exact ⟨rfl, k1, k2, k3⟩
  · exact opn _ (by rw [ei]; rfl) (fun z => c3 ((rv_cmp_eq _ _).mpr z.2.1))
def ps_one (s : Ps) (k b e v : Int32) : Ps := match pf_run s.2 k.toInt64 b.toInt64 8 s.1 with
  | some i => (s.1, ps_cm s.2 i e.toInt64 v.toInt64)
  | none => ps_open s k b e v
def ps_grid (sz st : Int32) (d : Rd) : Nat → Int32 → Ps → Ps
  | 0, _, s => s
  | t + 1, b, s => if b ≤ d.2.2.1 then ps_grid sz st d t (b + st) (ps_one s d.2.1 b (b + sz) d.2.2.2.1) else s
set_option maxRecDepth 100000 in
theorem lp_OP_grid {G : rv_G} {a r oa : Nat} {d : Rd} (o kd sz st l r0 m : Int32) (hra : r ≠ a + 1) (hra2 : r ≠ a) (hoa : oa ≠ a + 1) (hoa2 : oa ≠ a) : ∀ (t c : Nat) (vc b : Int32) (x5 x6 : Option Value) (s : Ps) (σ : rv_S), vc = nI c → c + t = 8 → POS σ.2 a s → σ.2 r = some (oR d) → σ.2 oa = some (oOp o kd sz st l r0 m) →
    rv_V G m_OnePass_addToGrid 0 0 (fun q σ' => q = none ∧ σ'.1 = σ.1 ∧ POS σ'.2 a (ps_grid sz st d t b s) ∧ rv_only (fun q => q = a ∨ q = a + 1) σ.2 σ'.2) 12 [some (.ref a), some (.ref oa), some (.ref r), some (.int b), some (.int vc), x5, x6] [] σ 0 0 := by
  intro t
  induction t with
  | zero =>
    intro c vc b x5 x6 s σ ec e1 h hr ho
    refine rv_V.run rv_gd_OnePass_addToGrid [12] 400 ?_
    refine And.intro (fun c1 => ?_) (fun c1 => ?_)
    · exact ⟨rfl, rfl, h, rv_only.rf⟩
    · exact absurd ((rv_leN (a := 8) rfl ec (by omega) (by omega)).mpr (by omega)) c1
  | succ t ih =>
    intro c vc b x5 x6 s σ ec e1 h hr ho
    refine rv_V.run rv_gd_OnePass_addToGrid [12, 74] 400 ?_
    refine And.intro (fun c1 => ?_) (fun c1 => ?_)
    · exact absurd ((rv_leN (a := 8) rfl ec (by omega) (by omega)).mp c1) (by omega)
    refine Exists.intro _ (And.intro hr ?_)
    refine And.intro (fun c2 => ?_) (fun c2 => ?_)
    · refine ⟨rfl, rfl, ?_, rv_only.rf⟩
      unfold ps_grid
      rw [if_neg (Int32.not_le.mpr c2)]
      exact h
    have c2 := Int32.not_lt.mp c2
    have hg : ps_grid sz st d (t + 1) b s = ps_grid sz st d t (b + st) (ps_one s d.2.1 b (b + sz) d.2.2.2.1) := by
      conv => lhs; unfold ps_grid
      rw [if_pos c2]
    rw [hg]
    have next : ∀ (v5 v6 : Int32) (σ2 : rv_S), σ2.1 = σ.1 → POS σ2.2 a (ps_one s d.2.1 b (b + sz) d.2.2.2.1) → rv_only (fun q => q = a ∨ q = a + 1) σ.2 σ2.2 → rv_V G m_OnePass_addToGrid 0 0 (fun q σ' => q = none ∧ σ'.1 = σ.1 ∧ POS σ'.2 a (ps_grid sz st d t (b + st) (ps_one s d.2.1 b (b + sz) d.2.2.2.1)) ∧ rv_only (fun q => q = a ∨ q = a + 1) σ.2 σ'.2) 74 [some (.ref a), some (.ref oa), some (.ref r), some (.int b), some (.int vc), some (.int v5), some (.int v6)] [] σ2 0 0 := by
      intro v5 v6 σ2 k1 k2 k3
      have hr2 : σ2.2 r = some (oR d) := (k3 r (by omega)).trans hr
      have ho2 : σ2.2 oa = some (oOp o kd sz st l r0 m) := (k3 oa (by omega)).trans ho
      refine rv_V.run rv_gd_OnePass_addToGrid [12] 400 ?_
      refine Exists.intro _ (And.intro ho2 ?_)
      refine (ih (c + 1) (vc + 1) (b + st) _ _ _ σ2 (by rw [ec]; exact nI_1 c) (by omega) k2 hr2 ho2).mono ?_
      rintro q σ' ⟨m1, m2, m3, m4⟩
      exact ⟨m1, m2.trans k1, m3, k3.tr m4⟩
    refine Exists.intro _ (And.intro ho ?_)
    refine Exists.intro _ (And.intro hr ?_)
    refine And.intro (Exists.intro _ h.1) ?_
    refine ⟨_, _, _, ct_OP_find h d.2.1 b, Nat.zero_le _, Nat.zero_le _, rfl, ?_⟩
    rintro _ σ ⟨rfl, rfl⟩
    have h3 := h.2.2
    cases hp : pf_run s.2 d.2.1.toInt64 b.toInt64 8 s.1 with
    | none =>
      refine And.intro (fun c3 => ?_) (fun c3 => absurd (show (-1 : Int32) < 0 by decide) c3)
      refine And.intro (Exists.intro _ h.1) ?_
      refine ⟨_, _, _, ct_OP_open h hr hra hra2 _ _, Nat.zero_le _, Nat.zero_le _, rfl, ?_⟩
      rintro _ σ2 ⟨rfl, k1, k2, k3⟩
      refine next _ _ σ2 k1 ?_ k3
      unfold ps_one
      rw [hp]
      exact k2
    | some i =>
      have hi := pf_run_lt _ _ _ hp
      refine And.intro (fun c3 => absurd c3 (nI_pos (by omega))) (fun c3 => ?_)
      refine Exists.intro _ (And.intro hr ?_)
      refine And.intro (Exists.intro _ h.1) ?_
      refine ⟨_, _, _, ct_OP_come (i := i) h hi _ _, Nat.zero_le _, Nat.zero_le _, rfl, ?_⟩
      rintro _ σ2 ⟨rfl, k1, k2, k3⟩
      refine next _ _ σ2 k1 ?_ k3
      unfold ps_one
      rw [hp]
      exact k2
set_option maxRecDepth 100000 in
theorem ct_OP_grid {G : rv_G} {σ : rv_S} {a r oa : Nat} {s : Ps} {d : Rd} (o kd sz st l r0 m : Int32) (h : POS σ.2 a s) (hr : σ.2 r = some (oR d)) (ho : σ.2 oa = some (oOp o kd sz st l r0 m)) (hra : r ≠ a + 1) (hra2 : r ≠ a) (hoa : oa ≠ a + 1) (hoa2 : oa ≠ a) (h1 : 1 ≤ st) (h0 : ¬ st = 0) :
    rv_Ct G i_OnePass_addToGrid 0 0 [.ref a, .ref oa, .ref r] σ (fun q σ' => q = none ∧ σ'.1 = σ.1 ∧ POS σ'.2 a (ps_grid sz st d 8 ((rv_fdiv (d.2.2.1 - sz) st + 1) * st) s) ∧ rv_only (fun q => q = a ∨ q = a + 1) σ.2 σ'.2) := by
  refine rv_ct (M := m_OnePass_addToGrid) rfl (by decide) rfl rfl ?_
  refine rv_V.run rv_gd_OnePass_addToGrid [12] 400 ?_
  refine Exists.intro _ (And.intro hr ?_)
  refine And.intro (Exists.intro _ ho) ?_
  refine ⟨_, _, _, ct_firstBegin _ o kd sz st l r0 m _ ho h1 h0, Nat.zero_le _, Nat.zero_le _, rfl, ?_⟩
  rintro _ σ ⟨rfl, rfl⟩
  exact lp_OP_grid o kd sz st l r0 m hra hra2 hoa hoa2 8 0 _ _ _ _ s σ rfl rfl h hr ho
def ps_add (d : Od) (s : Ps) (r : Rd) : Ps := if d.1 = 2 then ps_gap d.2.1 s r else ps_grid d.2.1 d.2.2.1 r 8 ((rv_fdiv (r.2.2.1 - d.2.1) d.2.2.1 + 1) * d.2.2.1) s
set_option maxRecDepth 100000 in
theorem ct_OP_add {G : rv_G} {σ : rv_S} {a r oa j : Nat} {s : Ps} {d : Rd} {w : Od} (h : POS σ.2 a s) (hr : σ.2 r = some (oR d)) (ho : σ.2 oa = some (oO j w)) (hra : r ≠ a + 1) (hra2 : r ≠ a) (hoa : oa ≠ a + 1) (hoa2 : oa ≠ a) (h1 : 1 ≤ w.2.2.1) (h0 : ¬ w.2.2.1 = 0) :
    rv_Ct G i_OnePass_add 0 0 [.ref a, .ref oa, .ref r] σ (fun q σ' => q = none ∧ σ'.1 = σ.1 ∧ POS σ'.2 a (ps_add w s d) ∧ rv_only (fun q => q = a ∨ q = a + 1) σ.2 σ'.2) := by
  refine rv_ct (M := m_OnePass_add) rfl (by decide) rfl rfl ?_
  refine rv_V.run rv_gd_OnePass_add [] 400 ?_
  refine Exists.intro _ (And.intro ho ?_)
  refine And.intro (fun c1 => ?_) (fun c1 => ?_)
  · refine And.intro (Exists.intro _ h.1) ?_
    refine ⟨_, _, _, ct_OP_gaps _ _ _ _ _ _ _ h hr ho hra hra2, Nat.zero_le _, Nat.zero_le _, rfl, ?_⟩
    rintro _ σ2 ⟨rfl, k1, k2, k3⟩
    unfold ps_add
    rw [if_pos c1]
    exact ⟨rfl, k1, k2, k3⟩
  · refine And.intro (Exists.intro _ h.1) ?_
    refine ⟨_, _, _, ct_OP_grid _ _ _ _ _ _ _ h hr ho hra hra2 hoa hoa2 h1 h0, Nat.zero_le _, Nat.zero_le _, rfl, ?_⟩
    rintro _ σ2 ⟨rfl, k1, k2, k3⟩
    unfold ps_add
    rw [if_neg c1]
    exact ⟨rfl, k1, k2, k3⟩
