/-! A ROW OF GAPS IS USED -/
/-- those that were told are taken back, by begins -/
def tb_run (p : Nat → Nat) (D : Nat → Wd) : Nat → Nat → Rs → Rs
  | 0, _, R => R
  | f + 1, i, R => tb_run p D f (i + 1) (if (D (p i)).2.1.1 = true then rs_push R (rv_rec (-1) (D (p i))) else R)
theorem SC_n367 (x : Nat) : ¬ SC x (x + 367) := by unfold SC; omega
set_option maxRecDepth 100000 in
theorem lp_takeBack {G : rv_G} {x fi c n : Nat} {nop nsr bd rl dr : Int32} {p : Nat → Nat} {D : Nat → Wd} {a : Jn} (hc : a.1 = nI c) (hfc : fi + c ≤ n) : ∀ (t i : Nat) (vi : Int32) (x2 : Option Value) (R : Rs) (σ : rv_S), vi = nI i → i + t = c → PT σ.2 x nop nsr bd rl dr n p D R → σ.2 (x + 367) = some (oJ (nI fi) a) →
    rv_V G m_Late_takeBackJoined 0 0 (fun r σ' => r = none ∧ σ'.1 = σ.1 ∧ PT σ'.2 x nop nsr bd rl dr n p D (tb_run p D t (fi + i) R) ∧ rv_only (SC x) σ.2 σ'.2) 2 [some (.ref x), some (.int vi), x2] [] σ 0 0 := by
  intro t
  induction t with
  | zero =>
    intro i vi x2 R σ ei h1 h hj
    have hn := h.2.1.2.2.2.2
    refine rv_V.run rv_gd_Late_takeBackJoined [2] 400 ?_
    refine Exists.intro _ (And.intro h.1 ?_)
    refine Exists.intro _ (And.intro hj ?_)
    refine And.intro (fun c1 => ?_) (fun c1 => ?_)
    · exact ⟨rfl, rfl, h, rv_only.rf⟩
    · exact absurd ((rv_leN hc ei (by omega) (by omega)).mpr (by omega)) c1
  | succ t ih =>
    intro i vi x2 R σ ei h1 h hj
    have hn := h.2.1.2.2.2.2
    have hpi := h.2.1.2.2.2.1.1 (fi + i) (by omega)
    have hw := h.2.1.2.2.1 _ hpi
    refine rv_V.run rv_gd_Late_takeBackJoined [2] 400 ?_
    refine Exists.intro _ (And.intro h.1 ?_)
    refine Exists.intro _ (And.intro hj ?_)
    refine And.intro (fun c1 => ?_) (fun c1 => ?_)
    · exact absurd ((rv_leN hc ei (by omega) (by omega)).mp c1) (by omega)
    refine Exists.intro _ (And.intro h.1 ?_)
    refine Exists.intro _ (And.intro h.1 ?_)
    refine Exists.intro _ (And.intro hj ?_)
    refine And.intro (Exists.intro _ h.2.1.1) ?_
    refine ⟨_, _, _, (by rw [show nI fi + vi = nI (fi + i) by rw [ei, nI_add]]; exact ct_at_in h.2.1 (fi + i) (by omega)), Nat.zero_le _, Nat.zero_le _, rfl, ?_⟩
    rintro _ σ ⟨rfl, rfl⟩
    refine Exists.intro _ (And.intro hw.1 ?_)
    refine And.intro (fun c2 => ?_) (fun c2 => ?_)
    · refine (ih (i + 1) (vi + 1) _ R σ (by rw [ei]; exact nI_1 i) (by omega) h hj).mono ?_
      rintro r σ' ⟨k1, k2, k3, k4⟩
      refine ⟨k1, k2, ?_, k4⟩
      rw [show tb_run p D (t + 1) (fi + i) R = tb_run p D t (fi + (i + 1)) R by
        conv => lhs; unfold tb_run
        rw [rv_b0.mp c2, if_neg (by decide)]; rfl]
      exact k3
    · refine And.intro (Exists.intro _ h.1) ?_
      refine ⟨_, _, _, h.keep hpi (-1), Nat.zero_le _, Nat.zero_le _, rfl, ?_⟩
      rintro _ σ2 ⟨rfl, e1, h2, h3⟩
      refine (ih (i + 1) (vi + 1) _ _ σ2 (by rw [ei]; exact nI_1 i) (by omega) h2 ((h3 _ (SC_n367 x)).trans hj)).mono ?_
      rintro r σ' ⟨k1, k2, k3, k4⟩
      refine ⟨k1, k2.trans e1, ?_, h3.tr k4⟩
      rw [show tb_run p D (t + 1) (fi + i) R = tb_run p D t (fi + (i + 1)) (rs_push R (rv_rec (-1) (D (p (fi + i))))) by
        conv => lhs; unfold tb_run
        rw [rv_bn c2, if_pos rfl]; rfl]
      exact k3
set_option maxRecDepth 100000 in
theorem ct_takeBack {G : rv_G} {σ : rv_S} {x fi c n : Nat} {nop nsr bd rl dr : Int32} {p : Nat → Nat} {D : Nat → Wd} {R : Rs} {a : Jn} (hc : a.1 = nI c) (hfc : fi + c ≤ n) (h : PT σ.2 x nop nsr bd rl dr n p D R) (hj : σ.2 (x + 367) = some (oJ (nI fi) a)) :
    rv_Ct G i_Late_takeBackJoined 0 0 [.ref x] σ (fun r σ' => r = none ∧ σ'.1 = σ.1 ∧ PT σ'.2 x nop nsr bd rl dr n p D (tb_run p D c fi R) ∧ rv_only (SC x) σ.2 σ'.2) := by
  refine rv_ct (M := m_Late_takeBackJoined) rfl (by decide) rfl rfl ?_
  refine rv_V.run rv_gd_Late_takeBackJoined [2] 400 ?_
  exact lp_takeBack hc hfc c 0 _ _ R σ rfl (by omega) h hj
def tl_all (a b : Tl) : Tl := (a.1 + b.1, a.2.1 + b.2.1, rv_min a.2.2.1 b.2.2.1, rv_max a.2.2.2 b.2.2.2)
def whas (d : Wd) (t : Tl) : Wd := (d.1, d.2.1, t, d.2.2.2)
/-- the first takes what the others have, from the last on; they go -/
def mg_run (fi i0 : Nat) : Nat → Nat × (Nat → Nat) × (Nat → Wd) → Nat × (Nat → Nat) × (Nat → Wd)
  | 0, s => s
  | t + 1, s => mg_run fi i0 t (s.1 - 1, rv_del s.2.1 (fi + (t + 1)) s.1, va_up s.2.2 i0 (whas (s.2.2 i0) (tl_all (s.2.2 i0).2.2.1 (s.2.2 (s.2.1 (fi + (t + 1)))).2.2.1)))
/-- the joined window stands there, untold -/
def mg_end (i0 : Nat) (b e : Int32) (s : Nat × (Nat → Nat) × (Nat → Wd)) : Nat × (Nat → Nat) × (Nat → Wd) := (s.1, s.2.1, va_up s.2.2 i0 (((s.2.2 i0).1.1, (s.2.2 i0).1.2.1, b, e), (false, false), (s.2.2 i0).2.2))
set_option maxRecDepth 100000 in
theorem lp_merge {G : rv_G} {x fi i0 : Nat} {nop nsr bd rl dr : Int32} {a : Jn} (hi0 : i0 < 120) : ∀ (t : Nat) (vt : Int32) (x3 : Option Value) (n : Nat) (p : Nat → Nat) (D : Nat → Wd) (R : Rs) (σ : rv_S), vt = nI t → fi + t < n → p fi = i0 → PT σ.2 x nop nsr bd rl dr n p D R → σ.2 (x + 367) = some (oJ (nI fi) a) →
    rv_V G m_Late_mergeJoined 0 0 (fun r σ' => r = none ∧ σ'.1 = σ.1 ∧ PT σ'.2 x nop nsr bd rl dr (mg_end i0 a.2.1 a.2.2.1 (mg_run fi i0 t (n, p, D))).1 (mg_end i0 a.2.1 a.2.2.1 (mg_run fi i0 t (n, p, D))).2.1 (mg_end i0 a.2.1 a.2.2.1 (mg_run fi i0 t (n, p, D))).2.2 R ∧ rv_only (SC x) σ.2 σ'.2) 10 [some (.ref x), some (.ref (wa (x + 5) i0)), some (.int vt), x3] [] σ 0 0 := by
  intro t
  induction t with
  | zero =>
    intro vt x3 n p D R σ ei h1 hp0 h hj
    have hw := h.2.1.2.2.1 _ hi0
    have hsc0 : SC x (wa (x + 5) i0) := by unfold SC wa; omega
    have hne : x + 367 ≠ wa (x + 5) i0 := by unfold wa; omega
    refine rv_V.run rv_gd_Late_mergeJoined [10] 400 ?_
    refine And.intro (fun c1 => ?_) (fun c1 => ?_)
    · refine Exists.intro _ (And.intro h.1 ?_)
      refine Exists.intro _ (And.intro hj ?_)
      refine Exists.intro _ (And.intro hw.1 (And.intro trivial ?_))
      refine Exists.intro _ (And.intro ((rv_up_n (by unfold wa; omega)).trans h.1) ?_)
      refine Exists.intro _ (And.intro ((rv_up_n hne).trans hj) ?_)
      refine Exists.intro _ (And.intro rv_up_s (And.intro trivial ?_))
      rw [rv_up_up]
      refine Exists.intro _ (And.intro rv_up_s (And.intro (Or.inl rfl) ?_))
      rw [rv_up_up]
      refine Exists.intro _ (And.intro rv_up_s (And.intro (Or.inl rfl) ?_))
      rw [rv_up_up]
      refine ⟨rfl, rfl, ?_, rv_only.up hsc0⟩
      exact h.up (a := wa (x + 5) i0) (by unfold wa; omega) (h.2.1.setW hi0 ((D i0).1.1, (D i0).1.2.1, a.2.1, a.2.2.1) (false, false))
    · exact absurd (by rw [ei]; decide) c1
  | succ t ih =>
    intro vt x3 n p D R σ ei h1 hp0 h hj
    have hn := h.2.1.2.2.2.2
    have hpj := h.2.1.2.2.2.1.1 (fi + (t + 1)) (by omega)
    have hne : p (fi + (t + 1)) ≠ i0 := by
      intro z
      have := h.2.1.2.2.2.1.2 (fi + (t + 1)) fi (by omega) (by omega) (by rw [z, hp0])
      omega
    have hw := h.2.1.2.2.1 _ hi0
    have hwj := h.2.1.2.2.1 _ hpj
    have hsc1 : SC x (wa (x + 5) i0 + 1) := by unfold SC wa; omega
    have h1' : PT (rv_up σ.2 (wa (x + 5) i0 + 1) (oT (tl_all (D i0).2.2.1 (D (p (fi + (t + 1)))).2.2.1))) x nop nsr bd rl dr n p (va_up D i0 (whas (D i0) (tl_all (D i0).2.2.1 (D (p (fi + (t + 1)))).2.2.1))) R := h.up (by unfold wa; omega) (h.2.1.setH hi0 _)
    have hj' : rv_up σ.2 (wa (x + 5) i0 + 1) (oT (tl_all (D i0).2.2.1 (D (p (fi + (t + 1)))).2.2.1)) (x + 367) = some (oJ (nI fi) a) := (rv_up_n (by unfold wa; omega)).trans hj
    have hadd : nI fi + vt = nI (fi + (t + 1)) := by rw [ei, nI_add]
    refine rv_V.run rv_gd_Late_mergeJoined [10] 400 ?_
    refine And.intro (fun c1 => ?_) (fun c1 => ?_)
    · exact absurd c1 (by rw [ei]; exact nI_nle (by omega) (by omega))
    refine Exists.intro _ (And.intro h.1 ?_)
    refine Exists.intro _ (And.intro h.1 ?_)
    refine Exists.intro _ (And.intro hj ?_)
    refine And.intro (Exists.intro _ h.2.1.1) ?_
    refine ⟨_, _, _, (by rw [hadd]; exact ct_at_in h.2.1 (fi + (t + 1)) h1), Nat.zero_le _, Nat.zero_le _, rfl, ?_⟩
    rintro _ σ ⟨rfl, rfl⟩
    refine Exists.intro _ (And.intro hw.1 ?_)
    refine Exists.intro _ (And.intro hwj.1 ?_)
    refine And.intro (Exists.intro _ hw.2.1) ?_
    refine ⟨_, _, _, ct_Tally_addAll _ _ _ _ _ _ _ _ _ _ hw.2.1 hwj.2.1 (by unfold wa; omega), Nat.zero_le _, Nat.zero_le _, rfl, ?_⟩
    rintro _ _ ⟨rfl, rfl⟩
    refine Exists.intro _ (And.intro h1'.1 ?_)
    refine Exists.intro _ (And.intro h1'.1 ?_)
    refine Exists.intro _ (And.intro hj' ?_)
    refine And.intro (Exists.intro _ h1'.2.1.1) ?_
    refine ⟨_, _, _, (by rw [hadd]; exact ct_WL_remove (σ := (σ.1, rv_up σ.2 (wa (x + 5) i0 + 1) (oT (tl_all (D i0).2.2.1 (D (p (fi + (t + 1)))).2.2.1)))) h1'.2.1 (fi + (t + 1)) h1), Nat.zero_le _, Nat.zero_le _, rfl, ?_⟩
    rintro _ σ2 ⟨rfl, e1, h2, h3⟩
    have hT2 : PT σ2.2 x nop nsr bd rl dr (n - 1) (rv_del p (fi + (t + 1)) n) (va_up D i0 (whas (D i0) (tl_all (D i0).2.2.1 (D (p (fi + (t + 1)))).2.2.1))) R := ⟨(h3 x (by omega)).trans h1'.1, h2, h1'.2.2.kept (h3 _ (by omega)) (h3 _ (by omega))⟩
    have hon : rv_only (SC x) σ.2 σ2.2 := (rv_only.up hsc1).tr (fun q hq => h3 q (by unfold SC at hq; omega))
    refine (ih (vt + (-1)) _ _ _ _ _ σ2 (by rw [ei]; exact pk_m1 t) (by omega) (by unfold rv_del; rw [if_neg (by omega), if_neg (by omega)]; exact hp0) hT2 ((hon _ (SC_n367 x)).trans hj)).mono ?_
    rintro r σ' ⟨k1, k2, k3, k4⟩
    exact ⟨k1, k2.trans e1, k3, hon.tr k4⟩
set_option maxRecDepth 100000 in
theorem ct_merge {G : rv_G} {σ : rv_S} {x fi c n : Nat} {nop nsr bd rl dr : Int32} {p : Nat → Nat} {D : Nat → Wd} {R : Rs} {a : Jn} (hc : a.1 = nI c) (hc0 : 0 < c) (hfc : fi + c ≤ n) (h : PT σ.2 x nop nsr bd rl dr n p D R) (hj : σ.2 (x + 367) = some (oJ (nI fi) a)) :
    rv_Ct G i_Late_mergeJoined 0 0 [.ref x, .ref (wa (x + 5) (p fi))] σ (fun r σ' => r = none ∧ σ'.1 = σ.1 ∧ PT σ'.2 x nop nsr bd rl dr (mg_end (p fi) a.2.1 a.2.2.1 (mg_run fi (p fi) (c - 1) (n, p, D))).1 (mg_end (p fi) a.2.1 a.2.2.1 (mg_run fi (p fi) (c - 1) (n, p, D))).2.1 (mg_end (p fi) a.2.1 a.2.2.1 (mg_run fi (p fi) (c - 1) (n, p, D))).2.2 R ∧ rv_only (SC x) σ.2 σ'.2) := by
  have hn := h.2.1.2.2.2.2
  refine rv_ct (M := m_Late_mergeJoined) rfl (by decide) rfl rfl ?_
  refine rv_V.run rv_gd_Late_mergeJoined [10] 400 ?_
  refine Exists.intro _ (And.intro h.1 ?_)
  refine Exists.intro _ (And.intro hj ?_)
  exact lp_merge (h.2.1.2.2.2.1.1 fi (by omega)) (c - 1) _ _ n p D R σ (by show a.1 - 1 = _; rw [hc]; obtain ⟨t, rfl⟩ : ∃ t, c = t + 1 := ⟨c - 1, by omega⟩; exact nI_pred t) (by omega) rfl h hj
