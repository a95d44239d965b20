/-! THE REFERENCE: what is due, found, made -/
def oi : Option Nat → Int32
  | none => -99999999
  | some j => nI j
theorem oi_none {b : Option Nat} (hb : ∀ j, b = some j → j < 120) : oi b = -99999999 ↔ b = none := by
  cases b with
  | none => exact ⟨fun _ => rfl, fun _ => rfl⟩
  | some j =>
    refine ⟨fun z => ?_, fun z => by cases z⟩
    have hj := hb j rfl
    have h1 : (0 : Int32) ≤ nI j := nI_pos' (by omega)
    rw [show nI j = -99999999 from z] at h1
    exact absurd h1 (by decide)
def du_is (s : Md) (o : Nat) (g : Bool) (w : Nat) : Bool := decide (s.wOp w = nI o) && (if g = true then decide (s.wEnd w + s.oLt o ≤ s.oMark o) else (!s.wTold w && decide (s.wEnd w ≤ s.oMark o)))
def du_bt (s : Md) (w : Nat) (b : Option Nat) : Bool := match b with
  | none => true
  | some v => ah s w v
def du_run (s : Md) (o : Nat) (g : Bool) : Nat → Nat → Option Nat → Option Nat
  | 0, _, b => b
  | t + 1, w, b => du_run s o g t (w + 1) (if du_is s o g w = true ∧ du_bt s w b = true then some w else b)
set_option maxRecDepth 100000 in
theorem lp_due {G : rv_G} {σ0 σ : rv_S} {y o n : Nat} {s : Md} {vo : Int32} {g : Bool} (eo : vo = nI o) (ho : o < 5) (en : s.nwin = nI n) (hn : n ≤ 120) (h : MI σ0 σ y (md y s)) : ∀ (t w : Nat) (vw bv : Int32) (b : Option Nat) (x5 : Option Value), vw = nI w → w + t = n → bv = oi b → (∀ j, b = some j → j < 120) →
    rv_V G m_Model_due 0 0 (fun q σ' => q = some (.int (oi (du_run s o g t w b))) ∧ σ' = σ) 6 [some (.ref y), some (.int vo), some (.int (rv_b g)), some (.int bv), some (.int vw), x5] [] σ 0 0 := by
  intro t
  induction t with
  | zero =>
    intro w vw bv b x5 ew h1 eb hb
    refine rv_V.run rv_gd_Model_due [6] 400 ?_
    refine Exists.intro _ (And.intro h.ob ?_)
    refine And.intro (fun c1 => ?_) (fun c1 => ?_)
    · exact And.intro trivial ⟨by rw [eb]; rfl, rfl⟩
    · exact absurd ((rv_leN en ew (by omega) (by omega)).mpr (by omega)) c1
  | succ t ih =>
    intro w vw bv b x5 ew h1 eb hb
    have at105 : ∀ (bv' : Int32) (b' : Option Nat) (x5 : Option Value), bv' = oi b' → (∀ j, b' = some j → j < 120) → du_run s o g (t + 1) w b = du_run s o g t (w + 1) b' → rv_V G m_Model_due 0 0 (fun q σ' => q = some (.int (oi (du_run s o g (t + 1) w b))) ∧ σ' = σ) 105 [some (.ref y), some (.int vo), some (.int (rv_b g)), some (.int bv'), some (.int vw), x5] [] σ 0 0 := by
      intro bv' b' x5 e1 e2 e3
      refine rv_V.run rv_gd_Model_due [6] 400 ?_
      rw [e3]
      exact ih (w + 1) (vw + 1) bv' b' x5 (by rw [ew]; exact nI_1 w) (by omega) e1 e2
    have at81 : ∀ b0 : Bool, du_is s o g w = b0 → rv_V G m_Model_due 0 0 (fun q σ' => q = some (.int (oi (du_run s o g (t + 1) w b))) ∧ σ' = σ) 81 [some (.ref y), some (.int vo), some (.int (rv_b g)), some (.int bv), some (.int vw), some (.int (rv_b b0))] [] σ 0 0 := by
      intro b0 e0
      have yes : b0 = true → du_bt s w b = true → du_run s o g (t + 1) w b = du_run s o g t (w + 1) (some w) := fun z1 z2 => by
        conv => lhs; unfold du_run
        rw [if_pos ⟨e0.trans z1, z2⟩]
      have no : (b0 = false ∨ du_bt s w b = false) → du_run s o g (t + 1) w b = du_run s o g t (w + 1) b := fun z => by
        conv => lhs; unfold du_run
        rw [if_neg (fun q => by
          rcases z with z | z
          · rw [e0, z] at q; exact absurd q.1 (by decide)
          · rw [z] at q; exact absurd q.2 (by decide))]
      refine rv_V.run rv_gd_Model_due [105] 400 ?_
      refine And.intro (fun c1 => ?_) (fun c1 => ?_)
      · exact at105 bv b _ eb hb (no (Or.inl (rv_b0.mp c1)))
      refine And.intro (fun c2 => ?_) (fun c2 => ?_)
      · have hbn := (oi_none hb).mp (eb.symm.trans c2)
        subst hbn
        exact at105 vw (some w) _ ew (fun j hj => by cases hj; omega) (yes (rv_bn c1) rfl)
      · cases b with
        | none => exact absurd eb c2
        | some v =>
          refine And.intro (Exists.intro _ h.ob) ?_
          refine ⟨_, _, _, rt_isAhead ew (by omega) eb (hb v rfl) h, Nat.zero_le _, Nat.zero_le _, rfl, ?_⟩
          rintro _ σ ⟨rfl, rfl⟩
          refine And.intro (fun c3 => ?_) (fun c3 => ?_)
          · exact at105 bv (some v) _ eb hb (no (Or.inr (rv_b0.mp c3)))
          · exact at105 vw (some w) _ ew (fun j hj => by cases hj; omega) (yes (rv_bn c1) (rv_bn c3))
    refine rv_V.run rv_gd_Model_due [6, 81] 400 ?_
    refine Exists.intro _ (And.intro h.ob ?_)
    refine And.intro (fun c1 => ?_) (fun c1 => ?_)
    · exact absurd ((rv_leN en ew (by omega) (by omega)).mp c1) (by omega)
    refine Exists.intro _ (And.intro h.ob ?_)
    refine h.l20 ew (by omega) ?_
    refine And.intro (fun c2 => ?_) (fun c2 => ?_)
    · have hop : decide (s.wOp w = nI o) = true := decide_eq_true (by rw [← eo]; exact c2)
      refine And.intro (fun c3 => ?_) (fun c3 => ?_)
      · have hg := rv_b0.mp c3
        have du : ∀ b1 : Bool, (!s.wTold w && decide (s.wEnd w ≤ s.oMark o)) = b1 → du_is s o g w = b1 := fun b1 z => by
          unfold du_is
          rw [hop, hg, if_neg (by decide), z]; rfl
        refine Exists.intro _ (And.intro h.ob ?_)
        refine h.l28 ew (by omega) ?_
        refine And.intro (fun c4 => ?_) (fun c4 => ?_)
        · have ht := rv_b0.mp c4
          refine Exists.intro _ (And.intro h.ob ?_)
          refine h.l23 ew (by omega) ?_
          refine Exists.intro _ (And.intro h.ob ?_)
          refine h.l6 eo ho ?_
          refine And.intro (fun c5 => ?_) (fun c5 => ?_)
          · exact at81 false (du _ (by rw [ht, decide_eq_false (Int32.not_le.mpr c5)]; rfl))
          · exact at81 true (du _ (by rw [ht, decide_eq_true (Int32.not_lt.mp c5)]; rfl))
        · exact at81 false (du _ (by rw [rv_bn c4]; rfl))
      · have hg := rv_bn c3
        have du : ∀ b1 : Bool, decide (s.wEnd w + s.oLt o ≤ s.oMark o) = b1 → du_is s o g w = b1 := fun b1 z => by
          unfold du_is
          rw [hop, hg, if_pos rfl, z]; rfl
        refine Exists.intro _ (And.intro h.ob ?_)
        refine h.l23 ew (by omega) ?_
        refine And.intro (Exists.intro _ h.ob) ?_
        refine ⟨_, _, _, rt_isClosed h eo ho _, Nat.zero_le _, Nat.zero_le _, rfl, ?_⟩
        rintro _ σ ⟨rfl, rfl⟩
        refine And.intro (fun c4 => ?_) (fun c4 => ?_)
        · exact at81 false (du _ (rv_b0.mp c4))
        · exact at81 true (du _ (rv_bn c4))
    · refine at81 false ?_
      unfold du_is
      rw [decide_eq_false (by rw [← eo]; exact c2)]; rfl
set_option maxRecDepth 100000 in
theorem rt_due {G : rv_G} {σ0 σ : rv_S} {y o n : Nat} {s : Md} {vo : Int32} (g : Bool) (eo : vo = nI o) (ho : o < 5) (en : s.nwin = nI n) (hn : n ≤ 120) (h : MI σ0 σ y (md y s)) :
    rv_Ct G i_Model_due 0 0 [.ref y, .int vo, .int (rv_b g)] σ (fun q σ' => q = some (.int (oi (du_run s o g n 0 none))) ∧ σ' = σ) := by
  refine rv_ct (M := m_Model_due) rfl (by decide) rfl rfl ?_
  refine rv_V.run rv_gd_Model_due [6] 400 ?_
  exact lp_due eo ho en hn h n 0 _ _ none _ rfl (by omega) rfl (fun j hj => by cases hj)
def fd_run (s : Md) (o k b : Int32) : Nat → Nat → Option Nat
  | 0, _ => none
  | t + 1, w => if s.wOp w = o ∧ s.wKey w = k ∧ s.wBeg w = b then some w else fd_run s o k b t (w + 1)
set_option maxRecDepth 100000 in
theorem lp_found {G : rv_G} {σ0 σ : rv_S} {y n : Nat} {s : Md} {vo k b : Int32} (en : s.nwin = nI n) (hn : n ≤ 120) (h : MI σ0 σ y (md y s)) : ∀ (t w : Nat) (vw : Int32), vw = nI w → w + t = n →
    rv_V G m_Model_found 0 0 (fun q σ' => q = some (.int (oi (fd_run s vo k b t w))) ∧ σ' = σ) 3 [some (.ref y), some (.int vo), some (.int k), some (.int b), some (.int vw)] [] σ 0 0 := by
  intro t
  induction t with
  | zero =>
    intro w vw ew h1
    refine rv_V.run rv_gd_Model_found [3] 400 ?_
    refine Exists.intro _ (And.intro h.ob ?_)
    refine And.intro (fun c1 => ?_) (fun c1 => ?_)
    · exact And.intro trivial ⟨rfl, rfl⟩
    · exact absurd ((rv_leN en ew (by omega) (by omega)).mpr (by omega)) c1
  | succ t ih =>
    intro w vw ew h1
    have next : ¬ (s.wOp w = vo ∧ s.wKey w = k ∧ s.wBeg w = b) → rv_V G m_Model_found 0 0 (fun q σ' => q = some (.int (oi (fd_run s vo k b (t + 1) w))) ∧ σ' = σ) 48 [some (.ref y), some (.int vo), some (.int k), some (.int b), some (.int vw)] [] σ 0 0 := by
      intro hno
      refine rv_V.run rv_gd_Model_found [3] 400 ?_
      rw [show fd_run s vo k b (t + 1) w = fd_run s vo k b t (w + 1) from if_neg hno]
      exact ih (w + 1) (vw + 1) (by rw [ew]; exact nI_1 w) (by omega)
    refine rv_V.run rv_gd_Model_found [3, 48] 400 ?_
    refine Exists.intro _ (And.intro h.ob ?_)
    refine And.intro (fun c1 => ?_) (fun c1 => ?_)
    · exact absurd ((rv_leN en ew (by omega) (by omega)).mp c1) (by omega)
    refine Exists.intro _ (And.intro h.ob ?_)
    refine h.l20 ew (by omega) ?_
    refine And.intro (fun c2 => ?_) (fun c2 => next (fun z => c2 z.1))
    refine Exists.intro _ (And.intro h.ob ?_)
    refine h.l21 ew (by omega) ?_
    refine And.intro (fun c3 => ?_) (fun c3 => next (fun z => c3 z.2.1))
    refine Exists.intro _ (And.intro h.ob ?_)
    refine h.l22 ew (by omega) ?_
    refine And.intro (fun c4 => ?_) (fun c4 => next (fun z => c4 z.2.2))
    refine And.intro trivial ⟨?_, rfl⟩
    rw [show fd_run s vo k b (t + 1) w = some w from if_pos ⟨c2, c3, c4⟩, ew]
    rfl
set_option maxRecDepth 100000 in
theorem rt_found {G : rv_G} {σ0 σ : rv_S} {y n : Nat} {s : Md} (vo k b : Int32) (en : s.nwin = nI n) (hn : n ≤ 120) (h : MI σ0 σ y (md y s)) :
    rv_Ct G i_Model_found 0 0 [.ref y, .int vo, .int k, .int b] σ (fun q σ' => q = some (.int (oi (fd_run s vo k b n 0))) ∧ σ' = σ) := by
  refine rv_ct (M := m_Model_found) rfl (by decide) rfl rfl ?_
  refine rv_V.run rv_gd_Model_found [3] 400 ?_
  exact lp_found en hn h n 0 _ rfl (by omega)
def md_made (s : Md) (n : Nat) (vo k b e : Int32) : Md :=
  let s := s.u_wOp (upd s.wOp n (vo))
  let s := s.u_wKey (upd s.wKey n (k))
  let s := s.u_wBeg (upd s.wBeg n (b))
  let s := s.u_wEnd (upd s.wEnd n (e))
  let s := s.u_wMany (upd s.wMany n (0))
  let s := s.u_wSum (vp_updL s.wSum n ((0 : Int64)))
  let s := s.u_wTold (va_up s.wTold n false)
  let s := s.u_wCame (va_up s.wCame n false)
  let s := s.u_nwin ((s.nwin + 1))
  s
set_option maxRecDepth 100000 in
theorem rt_made {G : rv_G} {σ0 σ : rv_S} {y n : Nat} {s : Md} (vo k b e : Int32) (en : s.nwin = nI n) (hn : n < 120) (h : MI σ0 σ y (md y s)) :
    rv_Ct G i_Model_made 0 0 [.ref y, .int vo, .int k, .int b, .int e] σ (fun q σ' => q = some (.int (nI n)) ∧ MI σ0 σ' y (md y (md_made s n vo k b e))) := by
  refine rv_ct (M := m_Model_made) rfl (by decide) rfl rfl ?_
  refine rv_V.run rv_gd_Model_made [] 400 ?_
  refine Exists.intro _ (And.intro h.ob ?_)
  refine Exists.intro _ (And.intro h.ob ?_)
  refine h.s20 en (by omega) (fun σ h => ?_)
  refine Exists.intro _ (And.intro h.ob ?_)
  refine Exists.intro _ (And.intro h.ob ?_)
  refine h.s21 en (by omega) (fun σ h => ?_)
  refine Exists.intro _ (And.intro h.ob ?_)
  refine Exists.intro _ (And.intro h.ob ?_)
  refine h.s22 en (by omega) (fun σ h => ?_)
  refine Exists.intro _ (And.intro h.ob ?_)
  refine Exists.intro _ (And.intro h.ob ?_)
  refine h.s23 en (by omega) (fun σ h => ?_)
  refine Exists.intro _ (And.intro h.ob ?_)
  refine Exists.intro _ (And.intro h.ob ?_)
  refine h.s24 en (by omega) (fun σ h => ?_)
  refine Exists.intro _ (And.intro h.ob ?_)
  refine Exists.intro _ (And.intro h.ob ?_)
  refine h.s25 en (by omega) (fun σ h => ?_)
  refine Exists.intro _ (And.intro h.ob ?_)
  refine Exists.intro _ (And.intro h.ob ?_)
  refine h.s28 en (by omega) false rfl (fun σ h => ?_)
  refine Exists.intro _ (And.intro h.ob ?_)
  refine Exists.intro _ (And.intro h.ob ?_)
  refine h.s29 en (by omega) false rfl (fun σ h => ?_)
  refine Exists.intro _ (And.intro h.ob ?_)
  refine h.p22  (fun σ h => ?_)
  refine Exists.intro _ (And.intro h.ob ?_)
  refine And.intro trivial ⟨?_, h⟩
  show some (Value.int (s.nwin + 1 - 1)) = _
  rw [en, nI_1, nI_pred]
