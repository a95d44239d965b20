/-! THE REFERENCE: edge -/
def eg_d (first : Bool) (a b : Int32) : Int32 := if first = true then a - b else b - a
def eg_in (T : Nat → Bool) (tm : Nat → Int32) (sz : Int32) (first : Bool) : Nat → Nat → Int32 × Bool → Int32 × Bool
  | 0, _, a => a
  | t + 1, k, a => eg_in T tm sz first t (k + 1) (if T k = true ∧ 0 < eg_d first a.1 (tm k) ∧ eg_d first a.1 (tm k) < sz then (tm k, true) else a)
def eg_run (T : Nat → Bool) (tm : Nat → Int32) (sz : Int32) (first : Bool) (nr : Nat) : Nat → Int32 → Int32
  | 0, a => (eg_in T tm sz first nr 0 (a, false)).1
  | N + 1, a => if (eg_in T tm sz first nr 0 (a, false)).2 = true then eg_run T tm sz first nr N (eg_in T tm sz first nr 0 (a, false)).1 else (eg_in T tm sz first nr 0 (a, false)).1
def eg_ok (T : Nat → Bool) (tm : Nat → Int32) (sz : Int32) (first : Bool) (nr : Nat) : Nat → Int32 → Prop
  | 0, a => (eg_in T tm sz first nr 0 (a, false)).2 = false
  | N + 1, a => (eg_in T tm sz first nr 0 (a, false)).2 = true → eg_ok T tm sz first nr N (eg_in T tm sz first nr 0 (a, false)).1
/-- the rows of the pass that have the row's key -/
def eg_T (s : Md) (rj : Nat → Nat) (vo : Int32) (all : Bool) (r : Nat) (k : Nat) : Bool := tk_is s k (rj k) vo all && decide (s.rKey k = s.rKey r)
section
variable {G : rv_G} {σ0 σ : rv_S} {y nr o r : Nat} {s : Md} {rj : Nat → Nat} {all first : Bool}
set_option maxRecDepth 100000 in
theorem lp_eg_22 {Rt : Option Value → rv_S → Prop} (hnr : nr ≤ 300) (en : s.nrow = nI nr) (hrj : ∀ k, k < nr → s.rSrc k = nI (rj k) ∧ rj k < 10) (ho : o < 5) (hr : r < nr) (h : MI σ0 σ y (md y s)) : ∀ (t k : Nat) (vk : Int32) (a : Int32 × Bool) (x8 : Option Value), vk = nI k → k + t = nr →
    (∀ (vk : Int32) (x8 : Option Value), rv_V G m_Model_edge 0 0 Rt 11 [some (.ref y), some (.int (nI r)), some (.int (nI o)), some (.int (rv_b all)), some (.int (rv_b first)), some (.int (eg_in (eg_T s rj (nI o) all r) s.rTime (s.oSize o) first t k a).1), some (.int (rv_b (eg_in (eg_T s rj (nI o) all r) s.rTime (s.oSize o) first t k a).2)), some (.int vk), x8] [] σ 0 0) →
    rv_V G m_Model_edge 0 0 Rt 22 [some (.ref y), some (.int (nI r)), some (.int (nI o)), some (.int (rv_b all)), some (.int (rv_b first)), some (.int a.1), some (.int (rv_b a.2)), some (.int vk), x8] [] σ 0 0 := by
  intro t
  induction t with
  | zero =>
    intro k vk a x8 ek e1 next
    refine rv_V.run rv_gd_Model_edge [11] 400 ?_
    refine Exists.intro _ (And.intro h.ob ?_)
    refine And.intro (fun c1 => next vk x8) (fun c1 => absurd ((rv_leN en ek (by omega) (by omega)).mpr (by omega)) c1)
  | succ t ih =>
    intro k vk a x8 ek e1 next
    have hk : k < nr := by omega
    obtain ⟨j1, j2⟩ := hrj k hk
    have step : ∀ (a' : Int32 × Bool) (x8 : Option Value), eg_in (eg_T s rj (nI o) all r) s.rTime (s.oSize o) first (t + 1) k a = eg_in (eg_T s rj (nI o) all r) s.rTime (s.oSize o) first t (k + 1) a' → rv_V G m_Model_edge 0 0 Rt 119 [some (.ref y), some (.int (nI r)), some (.int (nI o)), some (.int (rv_b all)), some (.int (rv_b first)), some (.int a'.1), some (.int (rv_b a'.2)), some (.int vk), x8] [] σ 0 0 := by
      intro a' x8 e
      refine rv_V.run rv_gd_Model_edge [22] 400 ?_
      refine ih (k + 1) (vk + 1) a' x8 (by rw [ek]; exact nI_1 k) (by omega) ?_
      rw [← e]
      exact next
    have skip : ∀ x8, ¬ (eg_T s rj (nI o) all r k = true ∧ 0 < eg_d first a.1 (s.rTime k) ∧ eg_d first a.1 (s.rTime k) < s.oSize o) → rv_V G m_Model_edge 0 0 Rt 119 [some (.ref y), some (.int (nI r)), some (.int (nI o)), some (.int (rv_b all)), some (.int (rv_b first)), some (.int a.1), some (.int (rv_b a.2)), some (.int vk), x8] [] σ 0 0 := by
      intro x8 hno
      refine step a x8 ?_
      conv => lhs; unfold eg_in
      rw [if_neg hno]
    have at89 : ∀ d, d = eg_d first a.1 (s.rTime k) → eg_T s rj (nI o) all r k = true → rv_V G m_Model_edge 0 0 Rt 89 [some (.ref y), some (.int (nI r)), some (.int (nI o)), some (.int (rv_b all)), some (.int (rv_b first)), some (.int a.1), some (.int (rv_b a.2)), some (.int vk), x8] [.int d] σ 0 0 := by
      intro d ed hT
      subst ed
      refine rv_V.run rv_gd_Model_edge [119] 400 ?_
      refine And.intro (fun c1 => ?_) (fun c1 => ?_)
      · exact skip _ (fun z => absurd z.2.1 (Int32.not_lt.mpr c1))
      refine Exists.intro _ (And.intro h.ob ?_)
      refine h.l2 rfl ho ?_
      refine And.intro (fun c2 => ?_) (fun c2 => ?_)
      · exact skip _ (fun z => absurd z.2.2 (Int32.not_lt.mpr c2))
      refine Exists.intro _ (And.intro h.ob ?_)
      refine h.l17 ek (by omega) ?_
      refine step (s.rTime k, true) _ ?_
      conv => lhs; unfold eg_in
      rw [if_pos ⟨hT, Int32.not_le.mp c1, Int32.not_le.mp c2⟩]
    refine rv_V.run rv_gd_Model_edge [89, 119] 400 ?_
    refine Exists.intro _ (And.intro h.ob ?_)
    refine And.intro (fun c1 => absurd ((rv_leN en ek (by omega) (by omega)).mp c1) (by omega)) (fun c1 => ?_)
    refine And.intro (Exists.intro _ h.ob) ?_
    refine ⟨_, _, _, rt_isTaken (nI o) all ek (by omega) j1 j2 h, Nat.zero_le _, Nat.zero_le _, rfl, ?_⟩
    rintro _ σ ⟨rfl, rfl⟩
    refine And.intro (fun c2 => ?_) (fun c2 => ?_)
    · refine skip _ (fun z => ?_)
      have := z.1
      unfold eg_T at this
      rw [rv_b0.mp c2] at this
      cases this
    refine Exists.intro _ (And.intro h.ob ?_)
    refine h.l16 ek (by omega) ?_
    refine Exists.intro _ (And.intro h.ob ?_)
    refine h.l16 rfl (by omega) ?_
    refine And.intro (fun c3 => ?_) (fun c3 => ?_)
    · have hT : eg_T s rj (nI o) all r k = true := by unfold eg_T; rw [rv_bn c2, decide_eq_true c3]; rfl
      refine And.intro (fun c4 => ?_) (fun c4 => ?_)
      · refine Exists.intro _ (And.intro h.ob ?_)
        refine h.l17 ek (by omega) ?_
        refine at89 _ ?_ hT
        unfold eg_d
        rw [if_neg (by rw [rv_b0.mp c4]; decide)]
      · refine Exists.intro _ (And.intro h.ob ?_)
        refine h.l17 ek (by omega) ?_
        refine at89 _ ?_ hT
        unfold eg_d
        rw [if_pos (rv_bn c4)]
    · refine skip _ (fun z => ?_)
      have := z.1
      unfold eg_T at this
      rw [decide_eq_false c3, Bool.and_false] at this
      cases this
set_option maxRecDepth 100000 in
theorem lp_eg_16 (hnr : nr ≤ 300) (en : s.nrow = nI nr) (hrj : ∀ k, k < nr → s.rSrc k = nI (rj k) ∧ rj k < 10) (ho : o < 5) (hr : r < nr) (h : MI σ0 σ y (md y s)) : ∀ (N : Nat) (a v6 : Int32) (x7 x8 : Option Value), eg_ok (eg_T s rj (nI o) all r) s.rTime (s.oSize o) first nr N a → ¬ v6 = 0 →
    rv_V G m_Model_edge 0 0 (fun q σ' => q = some (.int (if first = true then eg_run (eg_T s rj (nI o) all r) s.rTime (s.oSize o) first nr N a else eg_run (eg_T s rj (nI o) all r) s.rTime (s.oSize o) first nr N a + s.oSize o)) ∧ σ' = σ) 11 [some (.ref y), some (.int (nI r)), some (.int (nI o)), some (.int (rv_b all)), some (.int (rv_b first)), some (.int a), some (.int v6), x7, x8] [] σ 0 0 := by
  have fin : ∀ (a : Int32) (x7 x8 : Option Value), rv_V G m_Model_edge 0 0 (fun q σ' => q = some (.int (if first = true then a else a + s.oSize o)) ∧ σ' = σ) 11 [some (.ref y), some (.int (nI r)), some (.int (nI o)), some (.int (rv_b all)), some (.int (rv_b first)), some (.int a), some (.int 0), x7, x8] [] σ 0 0 := by
    intro a x7 x8
    refine rv_V.run rv_gd_Model_edge [] 400 ?_
    refine And.intro (fun c1 => ?_) (fun c1 => absurd rfl c1)
    refine And.intro (fun c2 => ?_) (fun c2 => ?_)
    · refine Exists.intro _ (And.intro h.ob ?_)
      refine h.l2 rfl ho ?_
      exact And.intro trivial ⟨by rw [if_neg (by rw [rv_b0.mp c2]; decide)], rfl⟩
    · exact And.intro trivial ⟨by rw [if_pos (rv_bn c2)], rfl⟩
  intro N
  induction N with
  | zero =>
    intro a v6 x7 x8 hok h6
    refine rv_V.run rv_gd_Model_edge [22] 400 ?_
    refine And.intro (fun c1 => absurd c1 h6) (fun c1 => ?_)
    refine lp_eg_22 hnr en hrj ho hr h nr 0 _ (a, false) x8 rfl (by omega) (fun vk x8 => ?_)
    rw [show (eg_in (eg_T s rj (nI o) all r) s.rTime (s.oSize o) first nr 0 (a, false)).2 = false from hok]
    exact fin _ _ _
  | succ N ih =>
    intro a v6 x7 x8 hok h6
    refine rv_V.run rv_gd_Model_edge [22] 400 ?_
    refine And.intro (fun c1 => absurd c1 h6) (fun c1 => ?_)
    refine lp_eg_22 hnr en hrj ho hr h nr 0 _ (a, false) x8 rfl (by omega) (fun vk x8 => ?_)
    cases hb : (eg_in (eg_T s rj (nI o) all r) s.rTime (s.oSize o) first nr 0 (a, false)).2 with
    | false =>
      have e : eg_run (eg_T s rj (nI o) all r) s.rTime (s.oSize o) first nr (N + 1) a = (eg_in (eg_T s rj (nI o) all r) s.rTime (s.oSize o) first nr 0 (a, false)).1 := by
        conv => lhs; unfold eg_run
        rw [hb, if_neg (by decide)]
      rw [e]
      exact fin _ _ _
    | true =>
      have e : eg_run (eg_T s rj (nI o) all r) s.rTime (s.oSize o) first nr (N + 1) a = eg_run (eg_T s rj (nI o) all r) s.rTime (s.oSize o) first nr N (eg_in (eg_T s rj (nI o) all r) s.rTime (s.oSize o) first nr 0 (a, false)).1 := by
        conv => lhs; unfold eg_run
        rw [hb, if_pos rfl]
      rw [e]
      exact ih _ _ _ _ (hok hb) (by decide)
set_option maxRecDepth 100000 in
theorem rt_edge (N : Nat) (hnr : nr ≤ 300) (en : s.nrow = nI nr) (hrj : ∀ k, k < nr → s.rSrc k = nI (rj k) ∧ rj k < 10) (ho : o < 5) (hr : r < nr) (h : MI σ0 σ y (md y s)) (hok : eg_ok (eg_T s rj (nI o) all r) s.rTime (s.oSize o) first nr N (s.rTime r)) :
    rv_Ct G i_Model_edge 0 0 [.ref y, .int (nI r), .int (nI o), .int (rv_b all), .int (rv_b first)] σ (fun q σ' => q = some (.int (if first = true then eg_run (eg_T s rj (nI o) all r) s.rTime (s.oSize o) first nr N (s.rTime r) else eg_run (eg_T s rj (nI o) all r) s.rTime (s.oSize o) first nr N (s.rTime r) + s.oSize o)) ∧ σ' = σ) := by
  refine rv_ct (M := m_Model_edge) rfl (by decide) rfl rfl ?_
  refine rv_V.run rv_gd_Model_edge [11] 400 ?_
  refine Exists.intro _ (And.intro h.ob ?_)
  refine h.l17 rfl (by omega) ?_
  exact lp_eg_16 hnr en hrj ho hr h N _ _ _ _ hok (by decide)
end
