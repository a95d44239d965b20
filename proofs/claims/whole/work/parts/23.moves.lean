/-! WHEN THE MARK MOVES: all that are due are told; those that are closed go -/
/-- the first of least E among those below i that Q has -/
def rv_fj (Q : Nat → Bool) (E : Nat → Int32) (i : Nat) (r : Option Nat) : Prop := match r with
  | none => ∀ t, t < i → Q t = false
  | some j => j < i ∧ Q j = true ∧ ∀ t, t < i → Q t = true → (E j < E t ∨ (E j = E t ∧ j ≤ t))
def rv_pick (Q : Nat → Bool) (E : Nat → Int32) : Nat → Option Nat
  | 0 => none
  | i + 1 => match rv_pick Q E i with
    | none => if Q i = true then some i else none
    | some j => if Q i = true ∧ E i < E j then some i else some j
theorem rv_pick_ok (Q : Nat → Bool) (E : Nat → Int32) : ∀ i, rv_fj Q E i (rv_pick Q E i)
  | 0 => fun t ht => absurd ht (by omega)
  | i + 1 => by
    have ih := rv_pick_ok Q E i
    unfold rv_pick
    cases hp : rv_pick Q E i with
    | none =>
      rw [hp] at ih
      by_cases hQ : Q i = true
      · simp only [hQ, if_true]
        refine ⟨by omega, hQ, fun t ht hq => ?_⟩
        rcases Nat.lt_or_ge t i with z | z
        · rw [ih t z] at hq; cases hq
        · obtain rfl : t = i := by omega
          exact Or.inr ⟨rfl, Nat.le_refl _⟩
      · simp only [hQ]
        intro t ht
        rcases Nat.lt_or_ge t i with z | z
        · exact ih t z
        · obtain rfl : t = i := by omega
          simpa using hQ
    | some j =>
      rw [hp] at ih
      obtain ⟨h1, h2, h3⟩ := ih
      by_cases hQ : Q i = true ∧ E i < E j
      · simp only [hQ, and_self, if_true]
        refine ⟨by omega, hQ.1, fun t ht hq => ?_⟩
        rcases Nat.lt_or_ge t i with z | z
        · rcases h3 t z hq with y | y
          · exact Or.inl (Int32.lt_trans hQ.2 y)
          · exact Or.inl (by rw [← y.1]; exact hQ.2)
        · obtain rfl : t = i := by omega
          exact Or.inr ⟨rfl, Nat.le_refl _⟩
      · simp only [if_neg hQ]
        refine ⟨by omega, h2, fun t ht hq => ?_⟩
        rcases Nat.lt_or_ge t i with z | z
        · exact h3 t z hq
        · obtain rfl : t = i := by omega
          have hE : ¬ E t < E j := fun y => hQ ⟨hq, y⟩
          rcases Int32.lt_or_eq_of_le (Int32.not_lt.mp hE) with y | y
          · exact Or.inl y
          · exact Or.inr ⟨y, by omega⟩
theorem rv_fj_uniq {Q : Nat → Bool} {E : Nat → Int32} {i : Nat} {r r' : Option Nat} (h : rv_fj Q E i r) (h' : rv_fj Q E i r') : r = r' := by
  cases r with
  | none =>
    cases r' with
    | none => rfl
    | some j => have := h j h'.1; rw [h'.2.1] at this; cases this
  | some j =>
    cases r' with
    | none => have := h' j h.1; rw [h.2.1] at this; cases this
    | some j' =>
      rcases h.2.2 j' h'.1 h'.2.1 with a | a <;> rcases h'.2.2 j h.1 h.2.1 with b | b
      · exact (Int32.lt_irrefl (Int32.lt_trans a b)).elim
      · rw [b.1] at a; exact (Int32.lt_irrefl a).elim
      · rw [a.1] at b; exact (Int32.lt_irrefl b).elim
      · congr 1; omega
theorem rv_first_pick {Q : Nat → Bool} {E : Nat → Int32} {i : Nat} {v : Int32} (h : rv_first Q E i v) : (rv_pick Q E i = none ∧ v = -1) ∨ ∃ j, rv_pick Q E i = some j ∧ v = nI j ∧ j < i ∧ Q j = true := by
  rcases h with ⟨h1, h2⟩ | ⟨j, h1, h2, h3, h4⟩
  · exact Or.inl ⟨rv_fj_uniq (rv_pick_ok Q E i) (r' := none) h2, h1⟩
  · exact Or.inr ⟨j, rv_fj_uniq (rv_pick_ok Q E i) (r' := some j) ⟨h1, h3, h4⟩, h2, h1, h3⟩
/-- telling all that are due -/
def tl_run (o m : Int32) (n : Nat) (p : Nat → Nat) : Nat → (Nat → Wd) × Rs → (Nat → Wd) × Rs
  | 0, s => s
  | f + 1, s => match rv_pick (fun t => wdue (s.1 (p t)) o m) (fun t => (s.1 (p t)).1.2.2.2) n with
    | none => s
    | some j => tl_run o m n p f (va_up s.1 (p j) (wtold (s.1 (p j))), rs_tell s.2 (s.1 (p j)))
set_option maxRecDepth 100000 in
theorem lp_tellAllDue {G : rv_G} {x oa : Nat} {nop nsr bd rl dr : Int32} {n : Nat} {p : Nat → Nat} (o k sz st l r0 m : Int32) (hoa : ¬ SC x oa) : ∀ (t c : Nat) (vc : Int32) (x3 : Option Value) (D : Nat → Wd) (R : Rs) (σ : rv_S), vc = nI c → c + t = 120 → PT σ.2 x nop nsr bd rl dr n p D R → σ.2 oa = some (oOp o k sz st l r0 m) →
    rv_V G m_Late_tellAllDue 0 0 (fun r σ' => r = none ∧ σ'.1 = σ.1 ∧ PT σ'.2 x nop nsr bd rl dr n p (tl_run o m n p t (D, R)).1 (tl_run o m n p t (D, R)).2 ∧ rv_only (SC x) σ.2 σ'.2) 2 [some (.ref x), some (.ref oa), some (.int vc), x3] [] σ 0 0 := by
  intro t
  induction t with
  | zero =>
    intro c vc x3 D R σ ec h1 h ho
    refine rv_V.run rv_gd_Late_tellAllDue [2] 400 ?_
    refine And.intro (fun c1 => ?_) (fun c1 => ?_)
    · exact ⟨rfl, rfl, h, rv_only.rf⟩
    · exact absurd ((rv_leN (a := 120) rfl ec (by omega) (by omega)).mpr (by omega)) c1
  | succ t ih =>
    intro c vc x3 D R σ ec h1 h ho
    refine rv_V.run rv_gd_Late_tellAllDue [2] 400 ?_
    refine And.intro (fun c1 => ?_) (fun c1 => ?_)
    · exact absurd ((rv_leN (a := 120) rfl ec (by omega) (by omega)).mp c1) (by omega)
    refine Exists.intro _ (And.intro h.1 ?_)
    refine Exists.intro _ (And.intro h.1 ?_)
    refine And.intro (Exists.intro _ h.2.1.1) ?_
    refine ⟨_, _, _, ct_nextDue h.2.1 oa o k sz st l r0 m ho, Nat.zero_le _, Nat.zero_le _, rfl, ?_⟩
    rintro _ σ ⟨⟨v, hv, rfl⟩, rfl⟩
    have hn := h.2.1.2.2.2.2
    rcases rv_first_pick hv with ⟨hp, rfl⟩ | ⟨j, hp, rfl, hj, hQ⟩
    · refine And.intro (Exists.intro _ h.2.1.1) ?_
      refine ⟨_, _, _, ct_at_out h.2.1 (-1) (Or.inl (by decide)), Nat.zero_le _, Nat.zero_le _, rfl, ?_⟩
      rintro _ _ ⟨rfl, rfl⟩
      refine ⟨rfl, rfl, ?_, rv_only.rf⟩
      unfold tl_run
      dsimp only
      rw [hp]
      exact h
    · refine And.intro (Exists.intro _ h.2.1.1) ?_
      refine ⟨_, _, _, ct_at_in h.2.1 j hj, Nat.zero_le _, Nat.zero_le _, rfl, ?_⟩
      rintro _ _ ⟨rfl, rfl⟩
      refine And.intro (Exists.intro _ h.1) ?_
      refine ⟨_, _, _, ct_tell h (h.2.1.2.2.2.1.1 j (by omega)), Nat.zero_le _, Nat.zero_le _, rfl, ?_⟩
      rintro _ σ2 ⟨rfl, e1, h2, h3⟩
      refine (ih (c + 1) _ _ _ _ σ2 (by rw [ec]; exact nI_1 c) (by omega) h2 ((h3 oa hoa).trans ho)).mono ?_
      rintro r σ' ⟨k1, k2, k3, k4⟩
      refine ⟨k1, k2.trans e1, ?_, h3.tr k4⟩
      rw [show tl_run o m n p (t + 1) (D, R) = tl_run o m n p t (va_up D (p j) (wtold (D (p j))), rs_tell R (D (p j))) by
        conv => lhs; unfold tl_run
        dsimp only
        rw [hp]]
      exact k3
set_option maxRecDepth 100000 in
theorem ct_tellAllDue {G : rv_G} {σ : rv_S} {x oa : Nat} {nop nsr bd rl dr : Int32} {n : Nat} {p : Nat → Nat} {D : Nat → Wd} {R : Rs} (o k sz st l r0 m : Int32) (hoa : ¬ SC x oa) (h : PT σ.2 x nop nsr bd rl dr n p D R) (ho : σ.2 oa = some (oOp o k sz st l r0 m)) :
    rv_Ct G i_Late_tellAllDue 0 0 [.ref x, .ref oa] σ (fun r σ' => r = none ∧ σ'.1 = σ.1 ∧ PT σ'.2 x nop nsr bd rl dr n p (tl_run o m n p 120 (D, R)).1 (tl_run o m n p 120 (D, R)).2 ∧ rv_only (SC x) σ.2 σ'.2) := by
  refine rv_ct (M := m_Late_tellAllDue) rfl (by decide) rfl rfl ?_
  refine rv_V.run rv_gd_Late_tellAllDue [2] 400 ?_
  exact lp_tellAllDue o k sz st l r0 m hoa 120 0 _ _ D R σ rfl rfl h ho
/-- those that are closed go -/
def lc_one (s : (Nat → Wd) × Rs) (i : Nat) : (Nat → Wd) × Rs := if (s.1 i).2.1.2 = true then (va_up s.1 i (wtold (s.1 i)), rs_tell s.2 (s.1 i)) else s
def lc_run (o l m : Int32) : Nat → Nat × (Nat → Nat) × (Nat → Wd) × Rs → Nat × (Nat → Nat) × (Nat → Wd) × Rs
  | 0, s => s
  | f + 1, s => match rv_pick (fun t => wcls (s.2.2.1 (s.2.1 t)) o l m) (fun t => (s.2.2.1 (s.2.1 t)).1.2.2.2) s.1 with
    | none => s
    | some j => lc_run o l m f (s.1 - 1, rv_del s.2.1 j s.1, lc_one s.2.2 (s.2.1 j))
set_option maxRecDepth 100000 in
theorem lp_letClosedGo {G : rv_G} {x oa : Nat} {nop nsr bd rl dr : Int32} (o k sz st l r0 m : Int32) (hoa : ¬ SC x oa) : ∀ (t c : Nat) (vc : Int32) (x3 x4 : Option Value) (n : Nat) (p : Nat → Nat) (D : Nat → Wd) (R : Rs) (σ : rv_S), vc = nI c → c + t = 120 → PT σ.2 x nop nsr bd rl dr n p D R → σ.2 oa = some (oOp o k sz st l r0 m) →
    rv_V G m_Late_letClosedGo 0 0 (fun r σ' => r = none ∧ σ'.1 = σ.1 ∧ PT σ'.2 x nop nsr bd rl dr (lc_run o l m t (n, p, D, R)).1 (lc_run o l m t (n, p, D, R)).2.1 (lc_run o l m t (n, p, D, R)).2.2.1 (lc_run o l m t (n, p, D, R)).2.2.2 ∧ rv_only (SC x) σ.2 σ'.2) 2 [some (.ref x), some (.ref oa), some (.int vc), x3, x4] [] σ 0 0 := by
  intro t
  induction t with
  | zero =>
    intro c vc x3 x4 n p D R σ ec h1 h ho
    refine rv_V.run rv_gd_Late_letClosedGo [2] 400 ?_
    refine And.intro (fun c1 => ?_) (fun c1 => ?_)
    · exact ⟨rfl, rfl, h, rv_only.rf⟩
    · exact absurd ((rv_leN (a := 120) rfl ec (by omega) (by omega)).mpr (by omega)) c1
  | succ t ih =>
    intro c vc x3 x4 n p D R σ ec h1 h ho
    refine rv_V.run rv_gd_Late_letClosedGo [2, 47] 400 ?_
    refine And.intro (fun c1 => ?_) (fun c1 => ?_)
    · exact absurd ((rv_leN (a := 120) rfl ec (by omega) (by omega)).mp c1) (by omega)
    refine Exists.intro _ (And.intro h.1 ?_)
    refine And.intro (Exists.intro _ h.2.1.1) ?_
    refine ⟨_, _, _, ct_nextClosed h.2.1 oa o k sz st l r0 m ho, Nat.zero_le _, Nat.zero_le _, rfl, ?_⟩
    rintro _ σ ⟨⟨v, hv, rfl⟩, rfl⟩
    have hn := h.2.1.2.2.2.2
    rcases rv_first_pick hv with ⟨hp, rfl⟩ | ⟨j, hp, rfl, hj, hQ⟩
    · refine Exists.intro _ (And.intro h.1 ?_)
      refine And.intro (Exists.intro _ h.2.1.1) ?_
      refine ⟨_, _, _, ct_at_out h.2.1 (-1) (Or.inl (by decide)), Nat.zero_le _, Nat.zero_le _, rfl, ?_⟩
      rintro _ _ ⟨rfl, rfl⟩
      refine ⟨rfl, rfl, ?_, rv_only.rf⟩
      unfold lc_run
      dsimp only
      rw [hp]
      exact h
    · have hpj := h.2.1.2.2.2.1.1 j (by omega)
      have hw := h.2.1.2.2.1 _ hpj
      have hrun : lc_run o l m (t + 1) (n, p, D, R) = lc_run o l m t (n - 1, rv_del p j n, lc_one (D, R) (p j)) := by
        conv => lhs; unfold lc_run
        dsimp only
        rw [hp]
      -- behind the telling: the removal, and the next turn
      have tail : ∀ (D1 : Nat → Wd) (R1 : Rs) (σ1 : rv_S), σ1.1 = σ.1 → PT σ1.2 x nop nsr bd rl dr n p D1 R1 → rv_only (SC x) σ.2 σ1.2 → lc_one (D, R) (p j) = (D1, R1) →
          rv_V G m_Late_letClosedGo 0 0 (fun r σ' => r = none ∧ σ'.1 = σ.1 ∧ PT σ'.2 x nop nsr bd rl dr (lc_run o l m (t + 1) (n, p, D, R)).1 (lc_run o l m (t + 1) (n, p, D, R)).2.1 (lc_run o l m (t + 1) (n, p, D, R)).2.2.1 (lc_run o l m (t + 1) (n, p, D, R)).2.2.2 ∧ rv_only (SC x) σ.2 σ'.2) 47 [some (.ref x), some (.ref oa), some (.int vc), some (.int (nI j)), some (.ref (wa (x + 5) (p j)))] [] σ1 0 0 := by
        intro D1 R1 σ1 s1 hT s2 s3
        refine rv_V.run rv_gd_Late_letClosedGo [2] 400 ?_
        refine Exists.intro _ (And.intro hT.1 ?_)
        refine And.intro (Exists.intro _ hT.2.1.1) ?_
        refine ⟨_, _, _, ct_WL_remove hT.2.1 j hj, Nat.zero_le _, Nat.zero_le _, rfl, ?_⟩
        rintro _ σ2 ⟨rfl, e1, h2, h3⟩
        have hT2 : PT σ2.2 x nop nsr bd rl dr (n - 1) (rv_del p j n) D1 R1 := ⟨(h3 x (by omega)).trans hT.1, h2, hT.2.2.kept (h3 _ (by omega)) (h3 _ (by omega))⟩
        have hon : rv_only (SC x) σ1.2 σ2.2 := fun q hq => h3 q (by unfold SC at hq; omega)
        refine (ih (c + 1) _ _ _ _ _ _ _ σ2 (by rw [ec]; exact nI_1 c) (by omega) hT2 (((hon oa hoa).trans (s2 oa hoa)).trans ho)).mono ?_
        rintro r σ' ⟨k1, k2, k3, k4⟩
        refine ⟨k1, (k2.trans e1).trans s1, ?_, (s2.tr hon).tr k4⟩
        rw [hrun, s3]
        exact k3
      refine Exists.intro _ (And.intro h.1 ?_)
      refine And.intro (Exists.intro _ h.2.1.1) ?_
      refine ⟨_, _, _, ct_at_in h.2.1 j hj, Nat.zero_le _, Nat.zero_le _, rfl, ?_⟩
      rintro _ σ ⟨rfl, rfl⟩
      refine Exists.intro _ (And.intro hw.1 ?_)
      refine And.intro (fun c2 => ?_) (fun c2 => ?_)
      · exact tail D R σ rfl h rv_only.rf (by unfold lc_one; rw [if_neg (by rw [rv_b0.mp c2]; decide)])
      · refine And.intro (Exists.intro _ h.1) ?_
        refine ⟨_, _, _, ct_tell h hpj, Nat.zero_le _, Nat.zero_le _, rfl, ?_⟩
        rintro _ σ2 ⟨rfl, e1, h2, h3⟩
        exact tail _ _ σ2 e1 h2 h3 (by unfold lc_one; rw [if_pos (rv_bn c2)])
set_option maxRecDepth 100000 in
theorem ct_letClosedGo {G : rv_G} {σ : rv_S} {x oa : Nat} {nop nsr bd rl dr : Int32} {n : Nat} {p : Nat → Nat} {D : Nat → Wd} {R : Rs} (o k sz st l r0 m : Int32) (hoa : ¬ SC x oa) (h : PT σ.2 x nop nsr bd rl dr n p D R) (ho : σ.2 oa = some (oOp o k sz st l r0 m)) :
    rv_Ct G i_Late_letClosedGo 0 0 [.ref x, .ref oa] σ (fun r σ' => r = none ∧ σ'.1 = σ.1 ∧ PT σ'.2 x nop nsr bd rl dr (lc_run o l m 120 (n, p, D, R)).1 (lc_run o l m 120 (n, p, D, R)).2.1 (lc_run o l m 120 (n, p, D, R)).2.2.1 (lc_run o l m 120 (n, p, D, R)).2.2.2 ∧ rv_only (SC x) σ.2 σ'.2) := by
  refine rv_ct (M := m_Late_letClosedGo) rfl (by decide) rfl rfl ?_
  refine rv_V.run rv_gd_Late_letClosedGo [2] 400 ?_
  exact lp_letClosedGo o k sz st l r0 m hoa 120 0 _ _ _ n p D R σ rfl rfl h ho
