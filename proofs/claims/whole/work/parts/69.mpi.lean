/-! THE REFERENCE: passInto -/
def mp (s : Md) (q : Ps) : Md := (s.u_pRow q.2).u_nps (nI q.1)
theorem MI.lP {G : rv_G} {M : rv_M} {mc ms : Nat} {Rt : Option Value → rv_S → Prop} {stops : List Nat} {K : Nat → rv_L → List Value → rv_S → Nat → Nat → Prop} {k pc : Nat} {ls : rv_L} {st : List Value} {ce sl : Nat} {σ0 σ : rv_S} {y : Nat} {s : Md} {m : Nat} {g : Nat → Int64} (h : MI σ0 σ y (md y (mp s (m, g)))) {vi : Int32} (w : Nat) (ei : vi = nI w) (hw : w < 16800) (next : rv_bx G M mc ms Rt stops K k pc ls (.long (g w) :: st) σ ce sl) : ∃ (n : Nat) (f : Nat → Int64), σ.2 (y + 36) = some (rv_aJ n f) ∧ vp_in vi n ∧ rv_bx G M mc ms Rt stops K k pc ls (.long (f vi.toNatClampNeg) :: st) σ ce sl := h.l36 ei hw next
theorem MI.sP {G : rv_G} {M : rv_M} {mc ms : Nat} {Rt : Option Value → rv_S → Prop} {stops : List Nat} {K : Nat → rv_L → List Value → rv_S → Nat → Nat → Prop} {k pc : Nat} {ls : rv_L} {st : List Value} {ce sl : Nat} {σ0 σ : rv_S} {y : Nat} {s : Md} {m : Nat} {g : Nat → Int64} (h : MI σ0 σ y (md y (mp s (m, g)))) {vi : Int32} (w : Nat) (ei : vi = nI w) (hw : w < 16800) {v : Int64} (next : ∀ σ', MI σ0 σ' y (md y (mp s (m, vp_updL g w v))) → rv_bx G M mc ms Rt stops K k pc ls st σ' ce sl) : ∃ (n : Nat) (f : Nat → Int64), σ.2 (y + 36) = some (rv_aJ n f) ∧ vp_in vi n ∧ rv_bx G M mc ms Rt stops K k pc ls st (σ.1, rv_up σ.2 (y + 36) (rv_aJ n (vp_updL f vi.toNatClampNeg v))) ce sl := h.s36 ei hw next
theorem mp_nps (s : Md) (q : Ps) : (mp s q).nps = nI q.1 := rfl
theorem pi_ix (a c : Nat) : (7 : Int32) * nI a + nI c = nI (7 * a + c) := by
  rw [show (7 : Int32) = nI 7 from rfl, nI_mul, nI_add]
theorem pi_ix0 (a : Nat) : (7 : Int32) * nI a = nI (7 * a) := by
  rw [show (7 : Int32) = nI 7 from rfl, nI_mul]
/-- the place of a window in the table -/
def pi_at (f : Nat → Int64) (k b : Int64) : Nat → Nat → Nat
  | 0, a => a
  | t + 1, a => if f (7 * a) < k ∨ (f (7 * a) = k ∧ f (7 * a + 1) < b) then pi_at f k b t (a + 1) else a
/-- all cells from there on, one place up -/
def pi_sh (lo : Nat) : Nat → (Nat → Int64) → Nat → Int64
  | 0, f => f
  | t + 1, f => pi_sh lo t (vp_updL f (lo + t + 7) (f (lo + t)))
def pi_fin (f : Nat → Int64) (a : Nat) (v : Int64) : Nat → Int64 :=
  let f := vp_updL f (7 * a + 3) (f (7 * a + 3) + 1)
  let f := vp_updL f (7 * a + 4) (f (7 * a + 4) + v)
  let f := if v < f (7 * a + 5) then vp_updL f (7 * a + 5) v else f
  if f (7 * a + 6) < v then vp_updL f (7 * a + 6) v else f
set_option maxRecDepth 100000 in
theorem lp_pi_260 {G : rv_G} {σ0 σ : rv_S} {y m a : Nat} {s : Md} {f : Nat → Int64} {k b e : Int32} {v : Int64} (x7 : Option Value) (ha : a < 2400) (h : MI σ0 σ y (md y (mp s (m, f)))) :
    rv_V G m_Model_passInto 0 0 (fun q σ' => q = none ∧ MI σ0 σ' y (md y (mp s (m, pi_fin f a v)))) 260 [some (.ref y), some (.int k), some (.int b), some (.int e), some (.long v), none, some (.int (nI a)), x7] [] σ 0 0 := by
  have e3 : (7 : Int32) * nI a + 3 = nI (7 * a + 3) := pi_ix a 3
  have e4 : (7 : Int32) * nI a + 4 = nI (7 * a + 4) := pi_ix a 4
  have e5 : (7 : Int32) * nI a + 5 = nI (7 * a + 5) := pi_ix a 5
  have e6 : (7 : Int32) * nI a + 6 = nI (7 * a + 6) := pi_ix a 6
  have last : ∀ (g : Nat → Int64) (σ : rv_S) (x7 : Option Value), pi_fin f a v = (if g (7 * a + 6) < v then vp_updL g (7 * a + 6) v else g) → MI σ0 σ y (md y (mp s (m, g))) → rv_V G m_Model_passInto 0 0 (fun q σ' => q = none ∧ MI σ0 σ' y (md y (mp s (m, pi_fin f a v)))) 325 [some (.ref y), some (.int k), some (.int b), some (.int e), some (.long v), none, some (.int (nI a)), x7] [] σ 0 0 := by
    intro g σ x7 eg h
    rw [eg]
    refine rv_V.run rv_gd_Model_passInto [] 400 ?_
    refine Exists.intro _ (And.intro h.ob ?_)
    refine h.lP (7 * a + 6) e6 (by omega) ?_
    refine And.intro (fun c1 => ?_) (fun c1 => ?_)
    · rw [if_neg (fun z => absurd ((rv_cmp_gt _ _).mpr z) (Int32.not_lt.mpr c1))]
      exact ⟨rfl, h⟩
    · rw [if_pos ((rv_cmp_gt _ _).mp (Int32.not_le.mp c1))]
      refine Exists.intro _ (And.intro h.ob ?_)
      refine h.sP (7 * a + 6) e6 (by omega) (fun σ h => ?_)
      exact ⟨rfl, h⟩
  refine rv_V.run rv_gd_Model_passInto [325] 400 ?_
  refine Exists.intro _ (And.intro h.ob ?_)
  refine h.lP (7 * a + 3) e3 (by omega) ?_
  refine h.sP (7 * a + 3) e3 (by omega) (fun σ h => ?_)
  refine Exists.intro _ (And.intro h.ob ?_)
  refine h.lP (7 * a + 4) e4 (by omega) ?_
  refine h.sP (7 * a + 4) e4 (by omega) (fun σ h => ?_)
  refine Exists.intro _ (And.intro h.ob ?_)
  refine h.lP (7 * a + 5) e5 (by omega) ?_
  refine And.intro (fun c1 => ?_) (fun c1 => ?_)
  · refine last _ σ _ ?_ h
    unfold pi_fin
    dsimp only
    rw [if_neg (fun z => absurd ((rv_cmp_lt _ _).mpr z) (Int32.not_lt.mpr c1))]
  · refine Exists.intro _ (And.intro h.ob ?_)
    refine h.sP (7 * a + 5) e5 (by omega) (fun σ h => ?_)
    refine last _ σ _ ?_ h
    unfold pi_fin
    dsimp only
    rw [if_pos ((rv_cmp_lt _ _).mp (Int32.not_le.mp c1))]
def pi_run (q : Ps) (k b e v : Int64) : Ps :=
  if pi_at q.2 k b q.1 0 = q.1 ∨ ¬ q.2 (7 * pi_at q.2 k b q.1 0) = k ∨ ¬ q.2 (7 * pi_at q.2 k b q.1 0 + 1) = b then (q.1 + 1, pi_fin (ps_w (pi_sh (7 * pi_at q.2 k b q.1 0) (7 * q.1 - 7 * pi_at q.2 k b q.1 0) q.2) (pi_at q.2 k b q.1 0) k b e 0 0 v v) (pi_at q.2 k b q.1 0) v) else (q.1, pi_fin q.2 (pi_at q.2 k b q.1 0) v)
set_option maxRecDepth 100000 in
theorem lp_pi_155 {G : rv_G} {σ0 σ : rv_S} {y m a : Nat} {s : Md} {f : Nat → Int64} {k b e : Int32} {v : Int64} (x7 : Option Value) (ha : a < 2400) (h : MI σ0 σ y (md y (mp s (m, f)))) :
    rv_V G m_Model_passInto 0 0 (fun q σ' => q = none ∧ MI σ0 σ' y (md y (mp s (m + 1, pi_fin (ps_w f a k.toInt64 b.toInt64 e.toInt64 0 0 v v) a v)))) 155 [some (.ref y), some (.int k), some (.int b), some (.int e), some (.long v), none, some (.int (nI a)), x7] [] σ 0 0 := by
  have e0 : (7 : Int32) * nI a = nI (7 * a + 0) := pi_ix0 a
  have e1 : (7 : Int32) * nI a + 1 = nI (7 * a + 1) := pi_ix a 1
  have e2 : (7 : Int32) * nI a + 2 = nI (7 * a + 2) := pi_ix a 2
  have e3 : (7 : Int32) * nI a + 3 = nI (7 * a + 3) := pi_ix a 3
  have e4 : (7 : Int32) * nI a + 4 = nI (7 * a + 4) := pi_ix a 4
  have e5 : (7 : Int32) * nI a + 5 = nI (7 * a + 5) := pi_ix a 5
  have e6 : (7 : Int32) * nI a + 6 = nI (7 * a + 6) := pi_ix a 6
  refine rv_V.run rv_gd_Model_passInto [260] 400 ?_
  refine Exists.intro _ (And.intro h.ob ?_)
  refine h.p49 (fun σ h => ?_)
  have h : MI σ0 σ y (md y (mp s (m + 1, f))) := by
    have e : (mp s (m, f)).u_nps ((mp s (m, f)).nps + 1) = mp s (m + 1, f) := by
      rw [mp_nps, nI_1]; rfl
    rw [← e]
    exact h
  refine Exists.intro _ (And.intro h.ob ?_)
  refine h.sP (7 * a + 0) e0 (by omega) (fun σ h => ?_)
  refine Exists.intro _ (And.intro h.ob ?_)
  refine h.sP (7 * a + 1) e1 (by omega) (fun σ h => ?_)
  refine Exists.intro _ (And.intro h.ob ?_)
  refine h.sP (7 * a + 2) e2 (by omega) (fun σ h => ?_)
  refine Exists.intro _ (And.intro h.ob ?_)
  refine h.sP (7 * a + 3) e3 (by omega) (fun σ h => ?_)
  refine Exists.intro _ (And.intro h.ob ?_)
  refine h.sP (7 * a + 4) e4 (by omega) (fun σ h => ?_)
  refine Exists.intro _ (And.intro h.ob ?_)
  refine h.sP (7 * a + 5) e5 (by omega) (fun σ h => ?_)
  refine Exists.intro _ (And.intro h.ob ?_)
  refine h.sP (7 * a + 6) e6 (by omega) (fun σ h => ?_)
  exact lp_pi_260 _ ha h
set_option maxRecDepth 100000 in
theorem lp_pi_122 {G : rv_G} {σ0 : rv_S} {y m a : Nat} {s : Md} {k b e : Int32} {v : Int64} (ha : a ≤ m) (hm : m < 2400) (F : Nat → Int64) : ∀ (t : Nat) (vt : Int32) (f : Nat → Int64) (σ : rv_S), vt = nI (7 * a + t) - 1 → 7 * a + t ≤ 7 * m → pi_sh (7 * a) t f = F → MI σ0 σ y (md y (mp s (m, f))) →
    rv_V G m_Model_passInto 0 0 (fun q σ' => q = none ∧ MI σ0 σ' y (md y (mp s (m + 1, pi_fin (ps_w F a k.toInt64 b.toInt64 e.toInt64 0 0 v v) a v)))) 122 [some (.ref y), some (.int k), some (.int b), some (.int e), some (.long v), none, some (.int (nI a)), some (.int vt)] [] σ 0 0 := by
  intro t
  induction t with
  | zero =>
    intro vt f σ et hle hF h
    subst hF
    refine rv_V.run rv_gd_Model_passInto [155] 400 ?_
    refine And.intro (fun c1 => ?_) (fun c1 => ?_)
    · exact lp_pi_155 _ (by omega) h
    · exfalso
      refine c1 (Int32.lt_iff_toInt_lt.mpr ?_)
      rw [et, pi_ix0, show (nI (7 * a + 0) - 1).toInt = _ from pk_sub_toInt (a := 7 * a + 0) (b := 1) (by omega) (by omega), nI_toInt (by omega)]
      omega
  | succ t ih =>
    intro vt f σ et hle hF h
    have ev : vt = nI (7 * a + t) := by rw [et, show 7 * a + (t + 1) = (7 * a + t) + 1 by omega, nI_pred]
    refine rv_V.run rv_gd_Model_passInto [122, 155] 400 ?_
    refine And.intro (fun c1 => ?_) (fun c1 => ?_)
    · exfalso
      have := Int32.lt_iff_toInt_lt.mp c1
      rw [ev, pi_ix0, nI_toInt (by omega), nI_toInt (by omega)] at this
      omega
    refine Exists.intro _ (And.intro h.ob ?_)
    refine Exists.intro _ (And.intro h.ob ?_)
    refine h.lP (7 * a + t) ev (by omega) ?_
    refine h.sP (7 * a + t + 7) (by rw [ev, show (7 : Int32) = nI 7 from rfl, nI_add]) (by omega) (fun σ h => ?_)
    exact ih (vt + (-1)) _ σ (by rw [ev]; exact (Int32.sub_eq_add_neg _ _).symm) (by omega) hF h
set_option maxRecDepth 100000 in
theorem lp_pi_3 {G : rv_G} {σ0 σ : rv_S} {y m : Nat} {s : Md} {f : Nat → Int64} {k b e : Int32} {v : Int64} (hm : m < 2400) (h : MI σ0 σ y (md y (mp s (m, f)))) : ∀ (t a : Nat) (va : Int32), va = nI a → a + t = m → pi_at f k.toInt64 b.toInt64 m 0 = pi_at f k.toInt64 b.toInt64 t a →
    rv_V G m_Model_passInto 0 0 (fun q σ' => q = none ∧ MI σ0 σ' y (md y (mp s (pi_run (m, f) k.toInt64 b.toInt64 e.toInt64 v)))) 3 [some (.ref y), some (.int k), some (.int b), some (.int e), some (.long v), none, some (.int va), none] [] σ 0 0 := by
  have end_ : ∀ a : Nat, a ≤ m → pi_at f k.toInt64 b.toInt64 m 0 = a → rv_V G m_Model_passInto 0 0 (fun q σ' => q = none ∧ MI σ0 σ' y (md y (mp s (pi_run (m, f) k.toInt64 b.toInt64 e.toInt64 v)))) 68 [some (.ref y), some (.int k), some (.int b), some (.int e), some (.long v), none, some (.int (nI a)), none] [] σ 0 0 := by
    intro a ha ea
    have ins : (a = m ∨ ¬ f (7 * a) = k.toInt64 ∨ ¬ f (7 * a + 1) = b.toInt64) → rv_V G m_Model_passInto 0 0 (fun q σ' => q = none ∧ MI σ0 σ' y (md y (mp s (pi_run (m, f) k.toInt64 b.toInt64 e.toInt64 v)))) 111 [some (.ref y), some (.int k), some (.int b), some (.int e), some (.long v), none, some (.int (nI a)), none] [] σ 0 0 := by
      intro hi
      unfold pi_run
      dsimp only
      rw [ea, if_pos hi]
      refine rv_V.run rv_gd_Model_passInto [122] 400 ?_
      refine Exists.intro _ (And.intro h.ob ?_)
      refine lp_pi_122 ha hm _ (7 * m - 7 * a) _ f σ ?_ (by omega) rfl h
      show (7 : Int32) * nI m - 1 = _
      rw [pi_ix0, show 7 * a + (7 * m - 7 * a) = 7 * m by omega]
    refine rv_V.run rv_gd_Model_passInto [111, 260] 400 ?_
    refine Exists.intro _ (And.intro h.ob ?_)
    refine And.intro (fun c1 => ?_) (fun c1 => ?_)
    · refine ins (Or.inl ?_)
      have : nI a = nI m := c1
      have h2 := congrArg Int32.toNatClampNeg this
      rw [nI_clamp (by omega), nI_clamp (by omega)] at h2
      exact h2
    have hne : a ≠ m := fun z => c1 (by rw [z]; rfl)
    refine Exists.intro _ (And.intro h.ob ?_)
    refine h.lP (7 * a) (pi_ix0 a) (by omega) ?_
    refine And.intro (fun c2 => ?_) (fun c2 => ?_)
    · refine Exists.intro _ (And.intro h.ob ?_)
      refine h.lP (7 * a + 1) (pi_ix a 1) (by omega) ?_
      refine And.intro (fun c3 => ?_) (fun c3 => ?_)
      · have n1 := lp_pi_260 (G := G) (k := k) (b := b) (e := e) (v := v) none (show a < 2400 by omega) h
        unfold pi_run
        dsimp only
        rw [ea, if_neg (fun z => z.elim hne (fun z => z.elim (fun z => z ((rv_cmp_eq _ _).mp c2)) (fun z => z ((rv_cmp_eq _ _).mp c3))))]
        exact n1
      · exact ins (Or.inr (Or.inr (fun z => c3 ((rv_cmp_eq _ _).mpr z))))
    · exact ins (Or.inr (Or.inl (fun z => c2 ((rv_cmp_eq _ _).mpr z))))
  intro t
  induction t with
  | zero =>
    intro a va ea h1 hp
    subst ea
    refine rv_V.run rv_gd_Model_passInto [68] 400 ?_
    refine Exists.intro _ (And.intro h.ob ?_)
    refine And.intro (fun c1 => end_ a (by omega) hp) (fun c1 => absurd ((rv_leN rfl rfl (by omega) (by omega)).mpr (by omega)) c1)
  | succ t ih =>
    intro a va ea h1 hp
    subst ea
    have stop : ¬ (f (7 * a) < k.toInt64 ∨ (f (7 * a) = k.toInt64 ∧ f (7 * a + 1) < b.toInt64)) → rv_V G m_Model_passInto 0 0 (fun q σ' => q = none ∧ MI σ0 σ' y (md y (mp s (pi_run (m, f) k.toInt64 b.toInt64 e.toInt64 v)))) 68 [some (.ref y), some (.int k), some (.int b), some (.int e), some (.long v), none, some (.int (nI a)), none] [] σ 0 0 := by
      intro hno
      refine end_ a (by omega) ?_
      rw [hp]
      conv => lhs; unfold pi_at
      rw [if_neg hno]
    have go : (f (7 * a) < k.toInt64 ∨ (f (7 * a) = k.toInt64 ∧ f (7 * a + 1) < b.toInt64)) → rv_V G m_Model_passInto 0 0 (fun q σ' => q = none ∧ MI σ0 σ' y (md y (mp s (pi_run (m, f) k.toInt64 b.toInt64 e.toInt64 v)))) 62 [some (.ref y), some (.int k), some (.int b), some (.int e), some (.long v), none, some (.int (nI a)), none] [] σ 0 0 := by
      intro hyes
      refine rv_V.run rv_gd_Model_passInto [3] 400 ?_
      refine ih (a + 1) (nI a + 1) (nI_1 a) (by omega) ?_
      rw [hp]
      conv => lhs; unfold pi_at
      rw [if_pos hyes]
    refine rv_V.run rv_gd_Model_passInto [3, 62, 68] 400 ?_
    refine Exists.intro _ (And.intro h.ob ?_)
    refine And.intro (fun c1 => absurd ((rv_leN rfl rfl (by omega) (by omega)).mp c1) (by omega)) (fun c1 => ?_)
    refine Exists.intro _ (And.intro h.ob ?_)
    refine h.lP (7 * a) (pi_ix0 a) (by omega) ?_
    refine And.intro (fun c2 => go (Or.inl ((rv_cmp_lt _ _).mp c2))) (fun c2 => ?_)
    have n2 : ¬ f (7 * a) < k.toInt64 := fun z => c2 ((rv_cmp_lt _ _).mpr z)
    refine Exists.intro _ (And.intro h.ob ?_)
    refine h.lP (7 * a) (pi_ix0 a) (by omega) ?_
    refine And.intro (fun c3 => ?_) (fun c3 => ?_)
    · refine Exists.intro _ (And.intro h.ob ?_)
      refine h.lP (7 * a + 1) (pi_ix a 1) (by omega) ?_
      refine And.intro (fun c4 => ?_) (fun c4 => ?_)
      · exact stop (fun z => z.elim n2 (fun z => Int32.not_lt.mpr c4 ((rv_cmp_lt _ _).mpr z.2)))
      · exact go (Or.inr ⟨(rv_cmp_eq _ _).mp c3, (rv_cmp_lt _ _).mp (Int32.not_le.mp c4)⟩)
    · exact stop (fun z => z.elim n2 (fun z => c3 ((rv_cmp_eq _ _).mpr z.1)))
set_option maxRecDepth 100000 in
theorem rt_passInto {G : rv_G} {σ0 σ : rv_S} {y : Nat} {s : Md} {q : Ps} (k b e : Int32) (v : Int64) (hm : q.1 < 2400) (h : MI σ0 σ y (md y (mp s q))) :
    rv_Ct G i_Model_passInto 0 0 [.ref y, .int k, .int b, .int e, .long v] σ (fun r σ' => r = none ∧ MI σ0 σ' y (md y (mp s (pi_run q k.toInt64 b.toInt64 e.toInt64 v)))) := by
  refine rv_ct (M := m_Model_passInto) rfl (by decide) rfl rfl ?_
  refine rv_V.run rv_gd_Model_passInto [3] 400 ?_
  exact lp_pi_3 (m := q.1) (f := q.2) hm h q.1 0 _ rfl (by omega) rfl
