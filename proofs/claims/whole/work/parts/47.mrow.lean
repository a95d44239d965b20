/-! THE REFERENCE: a row, judged and counted over the begins of its time -/
def gc_st (s : Md) (o n : Nat) (vo k b : Int32) (a : Bool × Bool × Int32) : Bool × Bool × Int32 := if b + s.oSize o + s.oLt o ≤ s.oMark o then a else (false, (a.2.1 || decide (b + s.oSize o ≤ s.oMark o)), a.2.2 + (if fd_run s vo k b n 0 = none then 1 else 0))
def gc_run (s : Md) (o n : Nat) (vo k : Int32) (B : Nat → Int32) : Nat → Nat → Bool × Bool × Int32 → Bool × Bool × Int32
  | 0, _, a => a
  | f + 1, i, a => gc_run s o n vo k B f (i + 1) (gc_st s o n vo k (B i) a)
set_option maxRecDepth 100000 in
theorem lp_gc {G : rv_G} {σ0 σ : rv_S} {y o n K t : Nat} {s : Md} {vo xs k time v : Int32} {Rt : Option Value → rv_S → Prop} (eo : vo = nI o) (ho : o < 5) (en : s.nwin = nI n) (hn : n ≤ 120) (h0 : ¬ bg_st s o = 0) (hok : bg_ok (bg_st s o) (s.oSize o) time t (dn time (bg_st s o) * bg_st s o)) (hK : bg_of (bg_st s o) (s.oSize o) time t (nI K) = -99999999) (hK2 : ∀ i, i < K → ¬ bg_of (bg_st s o) (s.oSize o) time t (nI i) = -99999999) (h : MI σ0 σ y (md y s)) : ∀ (f i : Nat) (vk : Int32) (a : Bool × Bool × Int32) (x10 x11 : Option Value), vk = nI i → i + f = K → (∀ (a' : Bool × Bool × Int32) (vk : Int32) (x10 x11 : Option Value), a' = gc_run s o n vo k (fun i => bg_of (bg_st s o) (s.oSize o) time t (nI i)) f i a → rv_V G m_Model_row 0 0 Rt 272 [some (.ref y), some (.int xs), some (.int k), some (.int time), some (.int v), some (.int vo), some (.int (rv_b a'.1)), some (.int (rv_b a'.2.1)), some (.int a'.2.2), some (.int vk), x10, x11] [] σ 0 0) →
    rv_V G m_Model_row 0 0 Rt 160 [some (.ref y), some (.int xs), some (.int k), some (.int time), some (.int v), some (.int vo), some (.int (rv_b a.1)), some (.int (rv_b a.2.1)), some (.int a.2.2), some (.int vk), x10, x11] [] σ 0 0 := by
  intro f
  induction f with
  | zero =>
    intro i vk a x10 x11 ei h1 fin
    refine rv_V.run rv_gd_Model_row [160, 272] 400 ?_
    refine And.intro (Exists.intro _ h.ob) ?_
    refine ⟨_, _, _, rt_beginOf time vk t eo ho h h0 hok, Nat.zero_le _, Nat.zero_le _, rfl, ?_⟩
    rintro _ σ ⟨rfl, rfl⟩
    refine And.intro (fun c1 => ?_) (fun c1 => ?_)
    · exact fin a vk x10 x11 rfl
    · exact absurd (by rw [ei, show i = K by omega]; exact hK) c1
  | succ f ih =>
    intro i vk a x10 x11 ei h1 fin
    have at266 : ∀ (a' : Bool × Bool × Int32) (x10 x11 : Option Value), a' = gc_st s o n vo k (bg_of (bg_st s o) (s.oSize o) time t (nI i)) a → rv_V G m_Model_row 0 0 Rt 266 [some (.ref y), some (.int xs), some (.int k), some (.int time), some (.int v), some (.int vo), some (.int (rv_b a'.1)), some (.int (rv_b a'.2.1)), some (.int a'.2.2), some (.int vk), x10, x11] [] σ 0 0 := by
      intro a' x10 x11 ea
      refine rv_V.run rv_gd_Model_row [160] 400 ?_
      refine ih (i + 1) (vk + 1) a' x10 x11 (by rw [ei]; exact nI_1 i) (by omega) ?_
      intro a2 vk2 x10 x11 e2
      exact fin a2 vk2 x10 x11 (by rw [e2, ea]; rfl)
    refine rv_V.run rv_gd_Model_row [160, 242, 266, 272] 400 ?_
    refine And.intro (Exists.intro _ h.ob) ?_
    refine ⟨_, _, _, rt_beginOf time vk t eo ho h h0 hok, Nat.zero_le _, Nat.zero_le _, rfl, ?_⟩
    rintro _ σ ⟨rfl, rfl⟩
    refine And.intro (fun c1 => ?_) (fun c1 => ?_)
    · exact absurd (show bg_of (bg_st s o) (s.oSize o) time t (nI i) = -99999999 by rw [← ei]; exact c1) (hK2 i (by omega))
    refine And.intro (Exists.intro _ h.ob) ?_
    refine ⟨_, _, _, rt_beginOf time vk t eo ho h h0 hok, Nat.zero_le _, Nat.zero_le _, rfl, ?_⟩
    rintro _ σ ⟨rfl, rfl⟩
    rw [ei]
    refine Exists.intro _ (And.intro h.ob ?_)
    refine h.l2 eo ho ?_
    refine And.intro (Exists.intro _ h.ob) ?_
    refine ⟨_, _, _, rt_isClosed h eo ho _, Nat.zero_le _, Nat.zero_le _, rfl, ?_⟩
    rintro _ σ ⟨rfl, rfl⟩
    rw [ei] at at266
    refine And.intro (fun c2 => ?_) (fun c2 => ?_)
    · have hcl := of_decide_eq_false (rv_b0.mp c2)
      have key : ∀ (ba : Bool) (mo : Int32) (x11 : Option Value), ba = (a.2.1 || decide (bg_of (bg_st s o) (s.oSize o) time t (nI i) + s.oSize o ≤ s.oMark o)) → mo = a.2.2 + (if fd_run s vo k (bg_of (bg_st s o) (s.oSize o) time t (nI i)) n 0 = none then 1 else 0) → rv_V G m_Model_row 0 0 Rt 266 [some (.ref y), some (.int xs), some (.int k), some (.int time), some (.int v), some (.int vo), some (.int (rv_b false)), some (.int (rv_b ba)), some (.int mo), some (.int (nI i)), some (.int (bg_of (bg_st s o) (s.oSize o) time t (nI i))), x11] [] σ 0 0 := by
        intro ba mo x11 e1 e2
        subst e1
        subst e2
        exact at266 (false, (a.2.1 || decide (bg_of (bg_st s o) (s.oSize o) time t (nI i) + s.oSize o ≤ s.oMark o)), a.2.2 + (if fd_run s vo k (bg_of (bg_st s o) (s.oSize o) time t (nI i)) n 0 = none then 1 else 0)) _ _ (by unfold gc_st; rw [if_neg hcl])
      have at242 : ∀ (ba : Bool), ba = (a.2.1 || decide (bg_of (bg_st s o) (s.oSize o) time t (nI i) + s.oSize o ≤ s.oMark o)) → rv_V G m_Model_row 0 0 Rt 242 [some (.ref y), some (.int xs), some (.int k), some (.int time), some (.int v), some (.int vo), some (.int (rv_b false)), some (.int (rv_b ba)), some (.int a.2.2), some (.int (nI i)), some (.int (bg_of (bg_st s o) (s.oSize o) time t (nI i))), x11] [] σ 0 0 := by
        intro ba e1
        refine rv_V.run rv_gd_Model_row [266] 400 ?_
        refine And.intro (Exists.intro _ h.ob) ?_
        refine ⟨_, _, _, rt_found vo k _ en hn h, Nat.zero_le _, Nat.zero_le _, rfl, ?_⟩
        rintro _ σ ⟨rfl, rfl⟩
        have hfl : ∀ j, fd_run s vo k (bg_of (bg_st s o) (s.oSize o) time t (nI i)) n 0 = some j → j < 120 := fun j hj => by
          have := (fd_lt s vo k _ n 0 j hj).1
          omega
        refine And.intro (fun c3 => ?_) (fun c3 => ?_)
        · exact key ba _ _ e1 (by rw [if_pos ((oi_none hfl).mp c3)])
        · exact key ba _ _ e1 (by rw [if_neg (fun z => c3 ((oi_none hfl).mpr z))])
      refine And.intro (fun c3 => ?_) (fun c3 => ?_)
      · refine Exists.intro _ (And.intro h.ob ?_)
        refine h.l2 eo ho ?_
        refine Exists.intro _ (And.intro h.ob ?_)
        refine h.l6 eo ho ?_
        refine And.intro (fun c4 => ?_) (fun c4 => ?_)
        · exact at242 false (by rw [rv_b0.mp c3, decide_eq_false (Int32.not_le.mpr c4)]; rfl)
        · exact at242 true (by rw [decide_eq_true (Int32.not_lt.mp c4)]; simp)
      · exact at242 true (by rw [rv_bn c3]; rfl)
    · exact at266 a _ _ (by unfold gc_st; rw [if_pos (of_decide_eq_true (rv_bn c2))])
