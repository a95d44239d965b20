/-! WHAT A ROW OF GAPS WOULD BE JOINED WITH -/
abbrev Jn : Type := Int32 × Int32 × Int32 × Bool
def oJ (f : Int32) (a : Jn) : rv_E := oJoin f a.1 a.2.1 a.2.2.1 a.2.2.2
def jn_cond (d : Wd) (o k en : Int32) : Bool := decide (d.1.1 = o ∧ d.1.2.1 = k) && decide (d.1.2.2.1 < en)
def jn_step (a : Jn) (d : Wd) : Jn := (a.1 + 1, rv_min a.2.1 d.1.2.2.1, rv_max a.2.2.1 d.1.2.2.2, (a.2.2.2 || d.2.1.1))
def jn_run (p : Nat → Nat) (D : Nat → Wd) (o k en : Int32) : Nat → Nat → Jn → Jn
  | 0, _, a => a
  | f + 1, i, a => if jn_cond (D (p i)) o k en = true then jn_run p D o k en f (i + 1) (jn_step a (D (p i))) else a
set_option maxRecDepth 100000 in
theorem lp_gather {G : rv_G} {wl n jn oa : Nat} {p : Nat → Nat} {D : Nat → Wd} {o kd sz st l r0 m : Int32} {k time en vf v6 : Int32} (hjn : jn < wl ∨ wl + 362 ≤ jn) (hjo : oa ≠ jn) : ∀ (t i : Nat) (vi : Int32) (x7 x9 : Option Value) (a : Jn) (σ : rv_S), vi = nI i → i + t = n → PWL σ.2 wl n p D → σ.2 oa = some (oOp o kd sz st l r0 m) → σ.2 jn = some (oJ vf a) →
    rv_V G m_WindowList_gather 0 0 (fun r σ' => r = none ∧ σ' = (σ.1, rv_up σ.2 jn (oJ vf (jn_run p D o k en t i a)))) 77 [some (.ref wl), some (.ref jn), some (.ref oa), some (.int k), some (.int time), some (.int en), some (.int v6), x7, some (.int vi), x9] [] σ 0 0 := by
  intro t
  induction t with
  | zero =>
    intro i vi x7 x9 a σ ei h1 h ho hj
    have hn := h.2.2.2.2
    refine rv_V.run rv_gd_WindowList_gather [77] 400 ?_
    refine Exists.intro _ (And.intro h.1 ?_)
    refine And.intro (fun c1 => ?_) (fun c1 => ?_)
    · exact ⟨rfl, by rw [show jn_run p D o k en 0 i a = a from rfl, rv_up_id hj]⟩
    · exact absurd ((rv_leN rfl ei (by omega) (by omega)).mpr (by omega)) c1
  | succ t ih =>
    intro i vi x7 x9 a σ ei h1 h ho hj
    obtain ⟨hx, ⟨f, hf, hfe⟩, hW, hp, hn⟩ := id h
    have hw := hW _ (hp.1 i (by omega))
    have hwn : wa wl (p i) ≠ jn := by have := hp.1 i (by omega); unfold wa; omega
    refine rv_V.run rv_gd_WindowList_gather [77] 400 ?_
    refine Exists.intro _ (And.intro hx ?_)
    refine And.intro (fun c1 => ?_) (fun c1 => ?_)
    · exact absurd ((rv_leN rfl ei (by omega) (by omega)).mp c1) (by omega)
    refine Exists.intro _ (And.intro hx ?_)
    refine ⟨_, _, _, some (wa wl (p i)), hf, by decide, (by rw [ei]; exact vp_in_nI (by omega) (by omega)), (by rw [ei, nI_clamp (by omega)]; exact hfe i (by omega)), ?_⟩
    refine Exists.intro _ (And.intro ho ?_)
    refine And.intro (Exists.intro _ hw.1) ?_
    refine ⟨_, _, _, ct_belongsTo _ _ _ _ _ _ _ _ _ o k hw.1, Nat.zero_le _, Nat.zero_le _, rfl, ?_⟩
    rintro _ σ ⟨rfl, rfl⟩
    refine And.intro (fun c2 => ?_) (fun c2 => ?_)
    · refine ⟨rfl, ?_⟩
      rw [show jn_run p D o k en (t + 1) i a = a from if_neg (by unfold jn_cond; rw [rv_b0.mp c2]; simp), rv_up_id hj]
    · refine Exists.intro _ (And.intro hw.1 ?_)
      refine And.intro (fun c3 => ?_) (fun c3 => ?_)
      · refine And.intro (Exists.intro _ hj) ?_
        refine ⟨_, _, _, ct_Join_add jn (wa wl (p i)) _ _ _ _ _ _ _ _ _ _ _ _ _ hj hw.1 hwn, Nat.zero_le _, Nat.zero_le _, rfl, ?_⟩
        rintro _ _ ⟨rfl, rfl⟩
        refine (ih (i + 1) (vi + 1) _ (some (.ref (wa wl (p i)))) (jn_step a (D (p i))) (σ.1, rv_up σ.2 jn (oJ vf (jn_step a (D (p i))))) (by rw [ei]; exact nI_1 i) (by omega) (h.kept (fun q h2 h3 => rv_up_n (by omega))) ((rv_up_n hjo).trans ho) rv_up_s).mono ?_
        rintro r σ' ⟨k1, k2⟩
        refine ⟨k1, ?_⟩
        rw [k2, show jn_run p D o k en (t + 1) i a = jn_run p D o k en t (i + 1) (jn_step a (D (p i))) from if_pos (by unfold jn_cond; rw [rv_bn c2, decide_eq_true c3]; rfl)]
        dsimp only
        rw [rv_up_up]
      · refine ⟨rfl, ?_⟩
        rw [show jn_run p D o k en (t + 1) i a = a from if_neg (by unfold jn_cond; rw [decide_eq_false c3]; simp), rv_up_id hj]
/-- where the joined begin -/
def jn_first (p : Nat → Nat) (D : Nat → Wd) (o k time : Int32) (q : Nat) : Nat := if 0 < q ∧ ((D (p (q - 1))).1.1 = o ∧ (D (p (q - 1))).1.2.1 = k) ∧ time < (D (p (q - 1))).1.2.2.2 then q - 1 else q
set_option maxRecDepth 100000 in
theorem ct_gather {G : rv_G} {σ : rv_S} {wl n jn oa : Nat} {p : Nat → Nat} {D : Nat → Wd} {o kd sz st l r0 m : Int32} {vf : Int32} {a : Jn} (k time : Int32) (hjn : jn < wl ∨ wl + 362 ≤ jn) (hjo : oa ≠ jn) (h : PWL σ.2 wl n p D) (hs : WS n p D) (ho : σ.2 oa = some (oOp o kd sz st l r0 m)) (hj : σ.2 jn = some (oJ vf a)) :
    rv_Ct G i_WindowList_gather 0 0 [.ref wl, .ref jn, .ref oa, .int k, .int time] σ (fun r σ' => r = none ∧ ∃ q, rv_pl_ n p D o k time q ∧ σ' = (σ.1, rv_up σ.2 jn (oJ (nI (jn_first p D o k time q)) (jn_run p D o k (time + sz) (n - jn_first p D o k time q) (jn_first p D o k time q) (0, time, time + sz, false))))) := by
  have hn := h.2.2.2.2
  refine rv_ct (M := m_WindowList_gather) rfl (by decide) rfl rfl ?_
  refine rv_V.run rv_gd_WindowList_gather [63] 400 ?_
  refine Exists.intro _ (And.intro ho ?_)
  refine Exists.intro _ (And.intro ho ?_)
  refine And.intro (Exists.intro _ h.1) ?_
  refine ⟨_, _, _, ct_place h hs o k time, Nat.zero_le _, Nat.zero_le _, rfl, ?_⟩
  rintro _ σ ⟨⟨q, hq, rfl⟩, rfl⟩
  have tail : ∀ (fi : Nat) (vfi : Int32) (x7 : Option Value), vfi = nI fi → fi ≤ n → fi = jn_first p D o k time q →
      rv_V G m_WindowList_gather 0 0 (fun r σ' => r = none ∧ ∃ q, rv_pl_ n p D o k time q ∧ σ' = (σ.1, rv_up σ.2 jn (oJ (nI (jn_first p D o k time q)) (jn_run p D o k (time + sz) (n - jn_first p D o k time q) (jn_first p D o k time q) (0, time, time + sz, false))))) 63 [some (.ref wl), some (.ref jn), some (.ref oa), some (.int k), some (.int time), some (.int (time + sz)), some (.int vfi), x7, none, none] [] σ 0 0 := by
    intro fi vfi x7 e1 e2 e3
    refine rv_V.run rv_gd_WindowList_gather [77] 400 ?_
    refine And.intro (Exists.intro _ hj) ?_
    refine ⟨_, _, _, ct_Join_start jn _ _ _ _ _ time (time + sz) vfi hj, Nat.zero_le _, Nat.zero_le _, rfl, ?_⟩
    rintro _ _ ⟨rfl, rfl⟩
    refine (lp_gather (p := p) (D := D) hjn hjo (n - fi) fi vfi _ _ (0, time, time + sz, false) (σ.1, rv_up σ.2 jn (oJoin vfi 0 time (time + sz) false)) e1 (by omega) (h.kept (fun q h2 h3 => rv_up_n (by omega))) ((rv_up_n hjo).trans ho) rv_up_s).mono ?_
    rintro r σ' ⟨k1, k2⟩
    refine ⟨k1, q, hq, ?_⟩
    rw [k2, ← e3, e1]
    dsimp only
    rw [rv_up_up]
  rcases Nat.eq_zero_or_pos q with hq0 | hq0
  · refine And.intro (Exists.intro _ h.1) ?_
    refine ⟨_, _, _, ct_at_out h _ (Or.inl (by rw [hq0]; decide)), Nat.zero_le _, Nat.zero_le _, rfl, ?_⟩
    rintro _ σ ⟨rfl, rfl⟩
    exact tail q _ _ rfl hq.1 (by unfold jn_first; rw [if_neg (by omega)])
  · have hq1 : nI q - 1 = nI (q - 1) := by obtain ⟨t, rfl⟩ : ∃ t, q = t + 1 := ⟨q - 1, by omega⟩; exact nI_pred t
    have hqn := hq.1
    have hw := h.2.2.1 _ (h.2.2.2.1.1 (q - 1) (by omega))
    refine And.intro (Exists.intro _ h.1) ?_
    refine ⟨_, _, _, (by rw [hq1]; exact ct_at_in h (q - 1) (by omega)), Nat.zero_le _, Nat.zero_le _, rfl, ?_⟩
    rintro _ σ ⟨rfl, rfl⟩
    refine Exists.intro _ (And.intro ho ?_)
    refine And.intro (Exists.intro _ hw.1) ?_
    refine ⟨_, _, _, ct_belongsTo _ _ _ _ _ _ _ _ _ o k hw.1, Nat.zero_le _, Nat.zero_le _, rfl, ?_⟩
    rintro _ σ ⟨rfl, rfl⟩
    refine And.intro (fun c1 => ?_) (fun c1 => ?_)
    · exact tail q _ _ rfl hq.1 (by unfold jn_first; rw [if_neg (fun z => of_decide_eq_false (rv_b0.mp c1) z.2.1)])
    · refine Exists.intro _ (And.intro hw.1 ?_)
      refine And.intro (fun c2 => ?_) (fun c2 => ?_)
      · exact tail q _ _ rfl hq.1 (by unfold jn_first; rw [if_neg (fun z => absurd z.2.2 (Int32.not_lt.mpr c2))])
      · exact tail (q - 1) _ _ (by obtain ⟨t, rfl⟩ : ∃ t, q = t + 1 := ⟨q - 1, by omega⟩; exact pk_m1 t) (by omega) (by unfold jn_first; rw [if_pos ⟨hq0, of_decide_eq_true (rv_bn c1), Int32.not_le.mp c2⟩])
