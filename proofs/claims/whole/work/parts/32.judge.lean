/-! A ROW IS JUDGED -/
def jd_gaps (l r0 m e : Int32) (t : Bool) : Int32 := if e + l ≤ m then 1 else if (e ≤ m ∨ t = true) ∧ r0 = 2 then 2 else 0
set_option maxRecDepth 100000 in
theorem ct_judgeInGaps {G : rv_G} {σ : rv_S} {x oa : Nat} {nop nsr ev bd rl dr : Int32} {vf : Int32} {a : Jn} (o kd sz st l r0 m : Int32) (hx : σ.2 x = some (oLate x nop nsr ev bd rl dr)) (ho : σ.2 oa = some (oOp o kd sz st l r0 m)) (hj : σ.2 (x + 367) = some (oJ vf a)) :
    rv_Ct G i_Late_judgeInGaps 0 0 [.ref x, .ref oa] σ (fun r σ' => r = some (.int (jd_gaps l r0 m a.2.2.1 a.2.2.2)) ∧ σ' = σ) := by
  have rest : ∀ t : Bool, (t = true ↔ (a.2.2.1 ≤ m ∨ a.2.2.2 = true)) → ¬ a.2.2.1 + l ≤ m → rv_V G m_Late_judgeInGaps 0 0 (fun r σ' => r = some (.int (jd_gaps l r0 m a.2.2.1 a.2.2.2)) ∧ σ' = σ) 45 [some (.ref x), some (.ref oa), none] [.int (rv_b t)] σ 0 0 := by
    intro t ht hnc
    refine rv_V.run rv_gd_Late_judgeInGaps [] 400 ?_
    refine And.intro (fun c1 => ?_) (fun c1 => ?_)
    · refine And.intro trivial ⟨?_, rfl⟩
      unfold jd_gaps
      rw [if_neg hnc, if_neg (fun z => by have := ht.mpr z.1; rw [rv_b0.mp c1] at this; cases this)]
    · refine Exists.intro _ (And.intro ho ?_)
      refine And.intro (fun c2 => ?_) (fun c2 => ?_)
      · refine And.intro trivial ⟨?_, rfl⟩
        unfold jd_gaps
        rw [if_neg hnc, if_pos ⟨ht.mp (rv_bn c1), c2⟩]
      · refine And.intro trivial ⟨?_, rfl⟩
        unfold jd_gaps
        rw [if_neg hnc, if_neg (fun z => c2 z.2)]
  refine rv_ct (M := m_Late_judgeInGaps) rfl (by decide) rfl rfl ?_
  refine rv_V.run rv_gd_Late_judgeInGaps [45] 400 ?_
  refine Exists.intro _ (And.intro hx ?_)
  refine Exists.intro _ (And.intro hj ?_)
  refine And.intro (Exists.intro _ ho) ?_
  refine ⟨_, _, _, ct_closes oa o kd sz st l r0 m _ ho, Nat.zero_le _, Nat.zero_le _, rfl, ?_⟩
  rintro _ σ ⟨rfl, rfl⟩
  refine And.intro (fun c1 => ?_) (fun c1 => ?_)
  · have hnc := of_decide_eq_false (rv_b0.mp c1)
    refine Exists.intro _ (And.intro hx ?_)
    refine Exists.intro _ (And.intro hj ?_)
    refine And.intro (Exists.intro _ ho) ?_
    refine ⟨_, _, _, ct_hasReached oa o kd sz st l r0 m _ ho, Nat.zero_le _, Nat.zero_le _, rfl, ?_⟩
    rintro _ σ ⟨rfl, rfl⟩
    refine And.intro (fun c2 => ?_) (fun c2 => ?_)
    · refine Exists.intro _ (And.intro hx ?_)
      refine Exists.intro _ (And.intro hj ?_)
      refine And.intro (fun c3 => ?_) (fun c3 => ?_)
      · have hno : ¬ (a.2.2.1 ≤ m ∨ a.2.2.2 = true) := by
          rintro (z | z)
          · exact absurd z (of_decide_eq_false (rv_b0.mp c2))
          · exact absurd z (by rw [rv_b0.mp c3]; decide)
        exact rest false (Iff.intro (fun z => absurd z (by decide)) (fun z => absurd z hno)) hnc
      · exact rest true ⟨fun _ => Or.inr (rv_bn c3), fun _ => rfl⟩ hnc
    · exact rest true ⟨fun _ => Or.inl (of_decide_eq_true (rv_bn c2)), fun _ => rfl⟩ hnc
  · refine And.intro trivial ⟨?_, rfl⟩
    unfold jd_gaps
    rw [if_pos (of_decide_eq_true (rv_bn c1))]
/-- all windows of a time are closed; one that isn't has been reached -/
def jg_run (sz st l m time : Int32) : Nat → Int32 → Bool × Bool → Bool × Bool
  | 0, _, s => s
  | t + 1, b, s => if b ≤ time then jg_run sz st l m time t (b + st) (if b + sz + l ≤ m then s else (false, s.2 || decide (b + sz ≤ m))) else s
def jd_grid (r0 : Int32) (s : Bool × Bool) : Int32 := if s.1 = true then 1 else if s.2 = true ∧ r0 = 2 then 2 else 0
set_option maxRecDepth 100000 in
theorem lp_judgeInGrid {G : rv_G} {σ : rv_S} {oa : Nat} (o kd sz st l r0 m time : Int32) (ho : σ.2 oa = some (oOp o kd sz st l r0 m)) : ∀ (t c : Nat) (vc b : Int32) (x6 : Option Value) (s : Bool × Bool), vc = nI c → c + t = 8 →
    rv_V G m_Late_judgeInGrid 0 0 (fun r σ' => r = some (.int (jd_grid r0 (jg_run sz st l m time t b s))) ∧ σ' = σ) 14 [some (.ref oa), some (.int time), some (.int (rv_b s.1)), some (.int (rv_b s.2)), some (.int b), some (.int vc), x6] [] σ 0 0 := by
  have fin : ∀ (s : Bool × Bool) (vc b : Int32) (x6 : Option Value), rv_V G m_Late_judgeInGrid 0 0 (fun r σ' => r = some (.int (jd_grid r0 s)) ∧ σ' = σ) 81 [some (.ref oa), some (.int time), some (.int (rv_b s.1)), some (.int (rv_b s.2)), some (.int b), some (.int vc), x6] [] σ 0 0 := by
    intro s vc b x6
    refine rv_V.run rv_gd_Late_judgeInGrid [] 400 ?_
    refine And.intro (fun c1 => ?_) (fun c1 => ?_)
    · have h1 := rv_b0.mp c1
      refine And.intro (fun c2 => ?_) (fun c2 => ?_)
      · refine And.intro trivial ⟨?_, rfl⟩
        unfold jd_grid
        rw [h1, rv_b0.mp c2]; rfl
      · refine Exists.intro _ (And.intro ho ?_)
        refine And.intro (fun c3 => ?_) (fun c3 => ?_)
        · refine And.intro trivial ⟨?_, rfl⟩
          unfold jd_grid
          rw [h1, if_neg (by decide), if_pos ⟨rv_bn c2, c3⟩]
        · refine And.intro trivial ⟨?_, rfl⟩
          unfold jd_grid
          rw [h1, if_neg (by decide), if_neg (fun z => c3 z.2)]
    · refine And.intro trivial ⟨?_, rfl⟩
      unfold jd_grid
      rw [if_pos (rv_bn c1)]
  intro t
  induction t with
  | zero =>
    intro c vc b x6 s ec h1
    refine rv_V.run rv_gd_Late_judgeInGrid [81] 400 ?_
    refine And.intro (fun c1 => ?_) (fun c1 => ?_)
    · exact fin s vc b x6
    · exact absurd ((rv_leN (a := 8) rfl ec (by omega) (by omega)).mpr (by omega)) c1
  | succ t ih =>
    intro c vc b x6 s ec h1
    have next : ∀ (x6 : Option Value) (s' : Bool × Bool), jg_run sz st l m time (t + 1) b s = jg_run sz st l m time t (b + st) s' → rv_V G m_Late_judgeInGrid 0 0 (fun r σ' => r = some (.int (jd_grid r0 (jg_run sz st l m time (t + 1) b s))) ∧ σ' = σ) 66 [some (.ref oa), some (.int time), some (.int (rv_b s'.1)), some (.int (rv_b s'.2)), some (.int b), some (.int vc), x6] [] σ 0 0 := by
      intro x6 s' e1
      refine rv_V.run rv_gd_Late_judgeInGrid [14] 400 ?_
      refine Exists.intro _ (And.intro ho ?_)
      rw [e1]
      exact ih (c + 1) (vc + 1) (b + st) x6 s' (by rw [ec]; exact nI_1 c) (by omega)
    refine rv_V.run rv_gd_Late_judgeInGrid [14, 66, 81] 400 ?_
    refine And.intro (fun c1 => ?_) (fun c1 => ?_)
    · exact absurd ((rv_leN (a := 8) rfl ec (by omega) (by omega)).mp c1) (by omega)
    refine And.intro (fun c2 => ?_) (fun c2 => ?_)
    · rw [show jg_run sz st l m time (t + 1) b s = s from if_neg (Int32.not_le.mpr c2)]
      exact fin s vc b x6
    have hb := Int32.not_lt.mp c2
    refine Exists.intro _ (And.intro ho ?_)
    refine And.intro (Exists.intro _ ho) ?_
    refine ⟨_, _, _, ct_closes oa o kd sz st l r0 m _ ho, Nat.zero_le _, Nat.zero_le _, rfl, ?_⟩
    rintro _ σ ⟨rfl, rfl⟩
    refine And.intro (fun c3 => ?_) (fun c3 => ?_)
    · have hcl := of_decide_eq_false (rv_b0.mp c3)
      have e2 : ∀ b2 : Bool, (s.2 || decide (b + sz ≤ m)) = b2 → jg_run sz st l m time (t + 1) b s = jg_run sz st l m time t (b + st) (false, b2) := by
        intro b2 h2
        rw [show jg_run sz st l m time (t + 1) b s = _ from if_pos hb, if_neg hcl, h2]
      refine And.intro (fun c4 => ?_) (fun c4 => ?_)
      · refine And.intro (Exists.intro _ ho) ?_
        refine ⟨_, _, _, ct_hasReached oa o kd sz st l r0 m _ ho, Nat.zero_le _, Nat.zero_le _, rfl, ?_⟩
        rintro _ σ ⟨rfl, rfl⟩
        refine And.intro (fun c5 => ?_) (fun c5 => ?_)
        · exact next _ (false, false) (e2 false (by rw [rv_b0.mp c4, rv_b0.mp c5]; rfl))
        · exact next _ (false, true) (e2 true (by rw [rv_bn c5]; simp))
      · exact next _ (false, true) (e2 true (by rw [rv_bn c4]; rfl))
    · have hcl := of_decide_eq_true (rv_bn c3)
      exact next _ s (by rw [show jg_run sz st l m time (t + 1) b s = _ from if_pos hb, if_pos hcl])
set_option maxRecDepth 100000 in
theorem ct_judgeInGrid {G : rv_G} {σ : rv_S} {oa : Nat} (o kd sz st l r0 m time : Int32) (ho : σ.2 oa = some (oOp o kd sz st l r0 m)) (h1 : 1 ≤ st) (h0 : ¬ st = 0) :
    rv_Ct G i_Late_judgeInGrid 0 0 [.ref oa, .int time] σ (fun r σ' => r = some (.int (jd_grid r0 (jg_run sz st l m time 8 ((rv_fdiv (time - sz) st + 1) * st) (true, false)))) ∧ σ' = σ) := by
  refine rv_ct (M := m_Late_judgeInGrid) rfl (by decide) rfl rfl ?_
  refine rv_V.run rv_gd_Late_judgeInGrid [14] 400 ?_
  refine And.intro (Exists.intro _ ho) ?_
  refine ⟨_, _, _, ct_firstBegin oa o kd sz st l r0 m time ho h1 h0, Nat.zero_le _, Nat.zero_le _, rfl, ?_⟩
  rintro _ σ ⟨rfl, rfl⟩
  exact lp_judgeInGrid o kd sz st l r0 m time ho 8 0 _ _ _ (true, false) rfl rfl
set_option maxRecDepth 100000 in
theorem ct_judge_gaps {G : rv_G} {σ : rv_S} {x oa : Nat} {nop nsr ev bd rl dr : Int32} {vf : Int32} {a : Jn} (o sz st l r0 m time : Int32) (hx : σ.2 x = some (oLate x nop nsr ev bd rl dr)) (ho : σ.2 oa = some (oOp o 2 sz st l r0 m)) (hj : σ.2 (x + 367) = some (oJ vf a)) :
    rv_Ct G i_Late_judge 0 0 [.ref x, .ref oa, .int time] σ (fun r σ' => r = some (.int (jd_gaps l r0 m a.2.2.1 a.2.2.2)) ∧ σ' = σ) := by
  refine rv_ct (M := m_Late_judge) rfl (by decide) rfl rfl ?_
  refine rv_V.run rv_gd_Late_judge [] 400 ?_
  refine Exists.intro _ (And.intro ho ?_)
  refine And.intro (fun c1 => ?_) (fun c1 => ?_)
  · refine And.intro (Exists.intro _ hx) ?_
    refine ⟨_, _, _, ct_judgeInGaps o 2 sz st l r0 m hx ho hj, Nat.zero_le _, Nat.zero_le _, rfl, ?_⟩
    rintro _ σ ⟨rfl, rfl⟩
    exact And.intro trivial ⟨rfl, rfl⟩
  · exact absurd rfl c1
set_option maxRecDepth 100000 in
theorem ct_judge_grid {G : rv_G} {σ : rv_S} {x oa : Nat} (o kd sz st l r0 m time : Int32) (hk : ¬ kd = 2) (ho : σ.2 oa = some (oOp o kd sz st l r0 m)) (h1 : 1 ≤ st) (h0 : ¬ st = 0) :
    rv_Ct G i_Late_judge 0 0 [.ref x, .ref oa, .int time] σ (fun r σ' => r = some (.int (jd_grid r0 (jg_run sz st l m time 8 ((rv_fdiv (time - sz) st + 1) * st) (true, false)))) ∧ σ' = σ) := by
  refine rv_ct (M := m_Late_judge) rfl (by decide) rfl rfl ?_
  refine rv_V.run rv_gd_Late_judge [] 400 ?_
  refine Exists.intro _ (And.intro ho ?_)
  refine And.intro (fun c1 => ?_) (fun c1 => ?_)
  · exact absurd c1 hk
  · refine ⟨_, _, _, ct_judgeInGrid o kd sz st l r0 m time ho h1 h0, Nat.zero_le _, Nat.zero_le _, rfl, ?_⟩
    rintro _ σ ⟨rfl, rfl⟩
    exact And.intro trivial ⟨rfl, rfl⟩
/-- how many windows a row of the grid would open -/
def cn_run (o k sz st l m time : Int32) (n : Nat) (p : Nat → Nat) (D : Nat → Wd) : Nat → Int32 → Int32 → Int32
  | 0, _, a => a
  | t + 1, b, a => if b ≤ time then cn_run o k sz st l m time n p D t (b + st) (if b + sz + l ≤ m ∨ (rv_plc p D o k b n < n ∧ weq (D (p (rv_plc p D o k b n))) o k b = true) then a else a + 1) else a
set_option maxRecDepth 100000 in
theorem lp_countNew {G : rv_G} {σ : rv_S} {x oa n : Nat} {nop nsr ev bd rl dr : Int32} {p : Nat → Nat} {D : Nat → Wd} (o kd sz st l r0 m k time : Int32) (hx : σ.2 x = some (oLate x nop nsr ev bd rl dr)) (h : PWL σ.2 (x + 5) n p D) (hs : WS n p D) (ho : σ.2 oa = some (oOp o kd sz st l r0 m)) : ∀ (t c : Nat) (vc b a : Int32), vc = nI c → c + t = 8 →
    rv_V G m_Late_countNewWindows 0 0 (fun r σ' => r = some (.int (cn_run o k sz st l m time n p D t b a)) ∧ σ' = σ) 31 [some (.ref x), some (.ref oa), some (.int k), some (.int time), some (.int a), some (.int b), some (.int vc)] [] σ 0 0 := by
  intro t
  induction t with
  | zero =>
    intro c vc b a ec h1
    refine rv_V.run rv_gd_Late_countNewWindows [31] 400 ?_
    refine And.intro (fun c1 => ?_) (fun c1 => ?_)
    · exact And.intro trivial ⟨rfl, rfl⟩
    · exact absurd ((rv_leN (a := 8) rfl ec (by omega) (by omega)).mpr (by omega)) c1
  | succ t ih =>
    intro c vc b a ec h1
    have next : ∀ (a' : Int32), cn_run o k sz st l m time n p D (t + 1) b a = cn_run o k sz st l m time n p D t (b + st) a' → rv_V G m_Late_countNewWindows 0 0 (fun r σ' => r = some (.int (cn_run o k sz st l m time n p D (t + 1) b a)) ∧ σ' = σ) 78 [some (.ref x), some (.ref oa), some (.int k), some (.int time), some (.int a'), some (.int b), some (.int vc)] [] σ 0 0 := by
      intro a' e1
      refine rv_V.run rv_gd_Late_countNewWindows [31] 400 ?_
      refine Exists.intro _ (And.intro ho ?_)
      rw [e1]
      exact ih (c + 1) (vc + 1) (b + st) a' (by rw [ec]; exact nI_1 c) (by omega)
    refine rv_V.run rv_gd_Late_countNewWindows [31, 78] 400 ?_
    refine And.intro (fun c1 => ?_) (fun c1 => ?_)
    · exact absurd ((rv_leN (a := 8) rfl ec (by omega) (by omega)).mp c1) (by omega)
    refine And.intro (fun c2 => ?_) (fun c2 => ?_)
    · refine And.intro trivial ⟨?_, rfl⟩
      rw [show cn_run o k sz st l m time n p D (t + 1) b a = a from if_neg (Int32.not_le.mpr c2)]
    have hb := Int32.not_lt.mp c2
    refine Exists.intro _ (And.intro ho ?_)
    refine And.intro (Exists.intro _ ho) ?_
    refine ⟨_, _, _, ct_closes oa o kd sz st l r0 m _ ho, Nat.zero_le _, Nat.zero_le _, rfl, ?_⟩
    rintro _ σ ⟨rfl, rfl⟩
    refine And.intro (fun c3 => ?_) (fun c3 => ?_)
    · have hcl := of_decide_eq_false (rv_b0.mp c3)
      refine Exists.intro _ (And.intro hx ?_)
      refine Exists.intro _ (And.intro ho ?_)
      refine And.intro (Exists.intro _ h.1) ?_
      refine ⟨_, _, _, ct_has h hs o k b, Nat.zero_le _, Nat.zero_le _, rfl, ?_⟩
      rintro _ σ ⟨⟨q, hq, rfl⟩, rfl⟩
      have hpl := rv_plc_eq hq
      refine And.intro (fun c4 => ?_) (fun c4 => ?_)
      · refine next (a + 1) ?_
        have h4 := rv_b0.mp c4
        rw [show cn_run o k sz st l m time n p D (t + 1) b a = _ from if_pos hb, if_neg (fun z => by
          rcases z with z | z
          · exact hcl z
          · rw [hpl] at z
            rw [decide_eq_true z.1, z.2] at h4
            cases h4)]
      · refine next a ?_
        have h4 := rv_bn c4
        rw [Bool.and_eq_true, decide_eq_true_eq] at h4
        rw [show cn_run o k sz st l m time n p D (t + 1) b a = _ from if_pos hb, if_pos (Or.inr (by rw [hpl]; exact h4))]
    · have hcl := of_decide_eq_true (rv_bn c3)
      exact next a (by rw [show cn_run o k sz st l m time n p D (t + 1) b a = _ from if_pos hb, if_pos (Or.inl hcl)])
set_option maxRecDepth 100000 in
theorem ct_countNew_grid {G : rv_G} {σ : rv_S} {x oa n : Nat} {nop nsr ev bd rl dr : Int32} {p : Nat → Nat} {D : Nat → Wd} (o kd sz st l r0 m k time : Int32) (hk : ¬ kd = 2) (hx : σ.2 x = some (oLate x nop nsr ev bd rl dr)) (h : PWL σ.2 (x + 5) n p D) (hs : WS n p D) (ho : σ.2 oa = some (oOp o kd sz st l r0 m)) (h1 : 1 ≤ st) (h0 : ¬ st = 0) :
    rv_Ct G i_Late_countNewWindows 0 0 [.ref x, .ref oa, .int k, .int time] σ (fun r σ' => r = some (.int (cn_run o k sz st l m time n p D 8 ((rv_fdiv (time - sz) st + 1) * st) 0)) ∧ σ' = σ) := by
  refine rv_ct (M := m_Late_countNewWindows) rfl (by decide) rfl rfl ?_
  refine rv_V.run rv_gd_Late_countNewWindows [31] 400 ?_
  refine Exists.intro _ (And.intro ho ?_)
  refine And.intro (fun c1 => ?_) (fun c1 => ?_)
  · exact absurd c1 hk
  refine And.intro (Exists.intro _ ho) ?_
  refine ⟨_, _, _, ct_firstBegin oa o kd sz st l r0 m time ho h1 h0, Nat.zero_le _, Nat.zero_le _, rfl, ?_⟩
  rintro _ σ ⟨rfl, rfl⟩
  exact lp_countNew o kd sz st l r0 m k time hx h hs ho 8 0 _ _ _ rfl rfl
set_option maxRecDepth 100000 in
theorem ct_countNew_gaps {G : rv_G} {σ : rv_S} {x oa : Nat} {nop nsr ev bd rl dr : Int32} {vf : Int32} {a : Jn} (o sz st l r0 m k time : Int32) (hx : σ.2 x = some (oLate x nop nsr ev bd rl dr)) (ho : σ.2 oa = some (oOp o 2 sz st l r0 m)) (hj : σ.2 (x + 367) = some (oJ vf a)) :
    rv_Ct G i_Late_countNewWindows 0 0 [.ref x, .ref oa, .int k, .int time] σ (fun r σ' => r = some (.int (1 - a.1)) ∧ σ' = σ) := by
  refine rv_ct (M := m_Late_countNewWindows) rfl (by decide) rfl rfl ?_
  refine rv_V.run rv_gd_Late_countNewWindows [31] 400 ?_
  refine Exists.intro _ (And.intro ho ?_)
  refine And.intro (fun c1 => ?_) (fun c1 => ?_)
  · refine Exists.intro _ (And.intro hx ?_)
    refine Exists.intro _ (And.intro hj ?_)
    exact And.intro trivial ⟨rfl, rfl⟩
  · exact absurd rfl c1
