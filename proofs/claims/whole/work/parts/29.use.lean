/-! A ROW IS USED: the order of the windows, and the two ways -/
/-- the place of (o, k, b), by numbers -/
def rv_plc (p : Nat → Nat) (D : Nat → Wd) (o k b : Int32) : Nat → Nat
  | 0 => 0
  | n + 1 => if wb (D (p n)) o k b = true then n + 1 else rv_plc p D o k b n
theorem rv_plc_eq {p : Nat → Nat} {D : Nat → Wd} {o k b : Int32} : ∀ {n q : Nat}, rv_pl_ n p D o k b q → rv_plc p D o k b n = q
  | 0, q, h => by have := h.1; unfold rv_plc; omega
  | n + 1, q, h => by
    unfold rv_plc
    rcases Nat.lt_or_ge n q with z | z
    · rw [if_pos (h.2.1 n z)]
      have := h.1
      omega
    · rw [if_neg (by rw [h.2.2 n z (by omega)]; decide)]
      exact rv_plc_eq ⟨z, h.2.1, fun j h1 h2 => h.2.2 j h1 (by omega)⟩
theorem wb_total {d : Wd} {o k b : Int32} (h1 : wb d o k b = false) (h2 : weq d o k b = false) : rv_before o k b d.1.1 d.1.2.1 d.1.2.2.1 = true := by
  have h3 : ¬ wb d o k b = true := by rw [h1]; decide
  unfold wb at h3
  rw [rv_before_iff] at h3 ⊢
  have h4 : ¬ ((d.1.1.toInt = o.toInt ∧ d.1.2.1.toInt = k.toInt) ∧ d.1.2.2.1.toInt = b.toInt) := by
    rintro ⟨⟨a1, a2⟩, a3⟩
    unfold weq at h2
    rw [decide_eq_true ⟨Int32.toInt_inj.mp a1, Int32.toInt_inj.mp a2⟩, decide_eq_true (Int32.toInt_inj.mp a3)] at h2
    cases h2
  omega
/-- the order stays, where only what isn't a key has changed -/
theorem WS.same {n : Nat} {p : Nat → Nat} {D D' : Nat → Wd} (h : WS n p D) (hD : ∀ i, (D' i).1.1 = (D i).1.1 ∧ (D' i).1.2.1 = (D i).1.2.1 ∧ (D' i).1.2.2.1 = (D i).1.2.2.1) : WS n p D' := by
  intro i j hij hj
  have := h i j hij hj
  unfold wb at this ⊢
  rw [(hD (p i)).1, (hD (p i)).2.1, (hD (p i)).2.2, (hD (p j)).1, (hD (p j)).2.1, (hD (p j)).2.2]
  exact this
theorem WS.ins {n q : Nat} {p : Nat → Nat} {D : Nat → Wd} {o k b e : Int32} (h : WS n p D) (hp : ∀ i j, i < 120 → j < 120 → p i = p j → i = j) (hn : n < 120) (hq : rv_pl_ n p D o k b q) (hno : ¬ (q < n ∧ weq (D (p q)) o k b = true)) : WS (n + 1) (rv_ins p q n) (va_up D (p n) (rv_fresh o k b e)) := by
  have hq1 := hq.1
  have old : ∀ j, j < n → va_up D (p n) (rv_fresh o k b e) (p j) = D (p j) := fun j hj => va_up_ne _ _ (fun z => by have := hp j n (by omega) hn z; omega)
  have hnew : ∀ j, q ≤ j → j < n → rv_before o k b (D (p j)).1.1 (D (p j)).1.2.1 (D (p j)).1.2.2.1 = true := by
    intro j h1 h2
    have hqq : rv_before o k b (D (p q)).1.1 (D (p q)).1.2.1 (D (p q)).1.2.2.1 = true := wb_total (hq.2.2 q (Nat.le_refl _) (by omega)) (by
      cases hz : weq (D (p q)) o k b with
      | false => rfl
      | true => exact absurd ⟨by omega, hz⟩ hno)
    rcases Nat.lt_or_ge q j with z | z
    · have := h q j z h2
      unfold wb at this
      rw [rv_before_iff] at this hqq ⊢
      omega
    · obtain rfl : j = q := by omega
      exact hqq
  intro i j hij hj
  unfold rv_ins
  by_cases h1 : j = q
  · rw [if_neg (by omega), if_neg (by omega), if_pos h1, old i (by omega), va_up_self]
    exact hq.2.1 i (by omega)
  · rw [if_neg h1]
    by_cases h2 : q < j ∧ j ≤ n
    · rw [if_pos h2, old (j - 1) (by omega)]
      by_cases h3 : i = q
      · rw [if_pos h3, va_up_self]
        exact hnew (j - 1) (by omega) (by omega)
      · rw [if_neg h3]
        by_cases h4 : q < i ∧ i ≤ n
        · rw [if_pos h4, old (i - 1) (by omega)]
          exact h (i - 1) (j - 1) (by omega) (by omega)
        · rw [if_neg h4, old i (by omega)]
          exact h i (j - 1) (by omega) (by omega)
    · rw [if_neg h2, if_neg (by omega), if_neg (by omega), old i (by omega), old j (by omega)]
      exact h i j hij (by omega)
theorem ci_keys (r0 m : Int32) (D : Nat → Wd) (R : Rs) (i : Nat) (v : Int32) : ∀ j, ((ci_one r0 m (D, R) i v).1 j).1 = (D j).1 := by
  intro j
  have key : ∀ d : Wd, d.1 = (D i).1 → (va_up D i d j).1 = (D j).1 := by
    intro d hd
    by_cases hj : j = i
    · subst hj; rw [va_up_self]; exact hd
    · rw [va_up_ne _ _ hj]
  by_cases h : (D i).2.1.1 = true ∧ r0 = 1
  · rw [ci_a h]; exact key _ rfl
  · by_cases hm : (D i).1.2.2.2 ≤ m
    · rw [ci_b h hm]; exact key _ rfl
    · rw [ci_c h hm]; exact key _ rfl
/-- found, or opened: the windows then, and which it is -/
def fo_run (o k b e : Int32) (n : Nat) (p : Nat → Nat) (D : Nat → Wd) : (Nat × (Nat → Nat) × (Nat → Wd)) × Nat :=
  if rv_plc p D o k b n < n ∧ weq (D (p (rv_plc p D o k b n))) o k b = true then ((n, p, D), p (rv_plc p D o k b n)) else ((n + 1, rv_ins p (rv_plc p D o k b n) n, va_up D (p n) (rv_fresh o k b e)), p n)
theorem PT.fo {G : rv_G} {σ : rv_S} {x : Nat} {nop nsr bd rl dr : Int32} {n : Nat} {p : Nat → Nat} {D : Nat → Wd} {R : Rs} (h : PT σ.2 x nop nsr bd rl dr n p D R) (hs : WS n p D) (o k b e : Int32) (hr : ¬ (rv_plc p D o k b n < n ∧ weq (D (p (rv_plc p D o k b n))) o k b = true) → n < 120) :
    rv_Ct G i_WindowList_findOrOpen 0 0 [.ref (x + 5), .int o, .int k, .int b, .int e] σ (fun r σ' => r = some (.ref (wa (x + 5) (fo_run o k b e n p D).2)) ∧ σ'.1 = σ.1 ∧ PT σ'.2 x nop nsr bd rl dr (fo_run o k b e n p D).1.1 (fo_run o k b e n p D).1.2.1 (fo_run o k b e n p D).1.2.2 R ∧ WS (fo_run o k b e n p D).1.1 (fo_run o k b e n p D).1.2.1 (fo_run o k b e n p D).1.2.2 ∧ (fo_run o k b e n p D).2 < 120 ∧ rv_only (SC x) σ.2 σ'.2) := by
  refine (ct_findOrOpen h.2.1 hs o k b e (fun q hq hno => hr (by rw [rv_plc_eq hq]; exact hno))).mono ?_
  rintro r σ' ⟨q, hq, h1⟩
  have hpl := rv_plc_eq hq
  rcases h1 with ⟨a1, a2, a3, a4⟩ | ⟨a1, a2, a3, a4, a5⟩
  · have hf : fo_run o k b e n p D = ((n, p, D), p q) := by unfold fo_run; rw [hpl, if_pos ⟨a1, a2⟩]
    rw [hf, a4]
    exact ⟨a3, rfl, h, hs, h.2.1.2.2.2.1.1 q (by have := h.2.1.2.2.2.2; omega), rv_only.rf⟩
  · have hf : fo_run o k b e n p D = ((n + 1, rv_ins p q n, va_up D (p n) (rv_fresh o k b e)), p n) := by unfold fo_run; rw [hpl, if_neg a1]
    rw [hf]
    have hr := hr (by rw [hpl]; exact a1)
    exact ⟨a2, a3, ⟨(a5 x (by omega)).trans h.1, a4, h.2.2.kept (a5 _ (by omega)) (a5 _ (by omega))⟩, hs.ins h.2.1.2.2.2.1.2 hr hq a1, h.2.1.2.2.2.1.1 n hr, fun q2 hq2 => a5 q2 (by unfold SC at hq2; omega)⟩
/-- fixed and sliding: into all windows that are not closed -/
def gr_run (o k sz st l r0 m : Int32) (time v : Int32) : Nat → Int32 → Nat × (Nat → Nat) × (Nat → Wd) × Rs → Nat × (Nat → Nat) × (Nat → Wd) × Rs
  | 0, _, s => s
  | t + 1, b, s => if b ≤ time then
      gr_run o k sz st l r0 m time v t (b + st) (if b + sz + l ≤ m then s else
        ((fo_run o k b (b + sz) s.1 s.2.1 s.2.2.1).1.1, (fo_run o k b (b + sz) s.1 s.2.1 s.2.2.1).1.2.1, ci_one r0 m ((fo_run o k b (b + sz) s.1 s.2.1 s.2.2.1).1.2.2, s.2.2.2) (fo_run o k b (b + sz) s.1 s.2.1 s.2.2.1).2 v))
    else s
/-- there is room for what is opened -/
def gd_ok (o k sz st l r0 m : Int32) (time v : Int32) : Nat → Int32 → Nat × (Nat → Nat) × (Nat → Wd) × Rs → Prop
  | 0, _, _ => True
  | t + 1, b, s => b ≤ time → (¬ b + sz + l ≤ m → ¬ (rv_plc s.2.1 s.2.2.1 o k b s.1 < s.1 ∧ weq (s.2.2.1 (s.2.1 (rv_plc s.2.1 s.2.2.1 o k b s.1))) o k b = true) → s.1 < 120) ∧ gd_ok o k sz st l r0 m time v t (b + st) (if b + sz + l ≤ m then s else
        ((fo_run o k b (b + sz) s.1 s.2.1 s.2.2.1).1.1, (fo_run o k b (b + sz) s.1 s.2.1 s.2.2.1).1.2.1, ci_one r0 m ((fo_run o k b (b + sz) s.1 s.2.1 s.2.2.1).1.2.2, s.2.2.2) (fo_run o k b (b + sz) s.1 s.2.1 s.2.2.1).2 v))
set_option maxRecDepth 100000 in
theorem lp_useInGrid {G : rv_G} {x oa : Nat} {nop nsr bd rl dr : Int32} (o kd sz st l r0 m : Int32) (k time v : Int32) (hoa : ¬ SC x oa) : ∀ (t c : Nat) (vc b : Int32) (x7 : Option Value) (n : Nat) (p : Nat → Nat) (D : Nat → Wd) (R : Rs) (σ : rv_S), vc = nI c → c + t = 8 → PT σ.2 x nop nsr bd rl dr n p D R → WS n p D → σ.2 oa = some (oOp o kd sz st l r0 m) → gd_ok o k sz st l r0 m time v t b (n, p, D, R) →
    rv_V G m_Late_useInGrid 0 0 (fun r σ' => r = none ∧ σ'.1 = σ.1 ∧ (∃ s, s = gr_run o k sz st l r0 m time v t b (n, p, D, R) ∧ PT σ'.2 x nop nsr bd rl dr s.1 s.2.1 s.2.2.1 s.2.2.2 ∧ WS s.1 s.2.1 s.2.2.1) ∧ rv_only (SC x) σ.2 σ'.2) 10 [some (.ref x), some (.ref oa), some (.int k), some (.int time), some (.int v), some (.int b), some (.int vc), x7] [] σ 0 0 := by
  intro t
  induction t with
  | zero =>
    intro c vc b x7 n p D R σ ec h1 h hs ho hok
    refine rv_V.run rv_gd_Late_useInGrid [10] 400 ?_
    refine And.intro (fun c1 => ?_) (fun c1 => ?_)
    · exact ⟨rfl, rfl, ⟨_, rfl, h, hs⟩, rv_only.rf⟩
    · exact absurd ((rv_leN (a := 8) rfl ec (by omega) (by omega)).mpr (by omega)) c1
  | succ t ih =>
    intro c vc b x7 n p D R σ ec h1 h hs ho hok
    have next : ∀ (x7 : Option Value) (s : Nat × (Nat → Nat) × (Nat → Wd) × Rs) (σ1 : rv_S), b ≤ time → σ1.1 = σ.1 → PT σ1.2 x nop nsr bd rl dr s.1 s.2.1 s.2.2.1 s.2.2.2 → WS s.1 s.2.1 s.2.2.1 → rv_only (SC x) σ.2 σ1.2 → gr_run o k sz st l r0 m time v (t + 1) b (n, p, D, R) = gr_run o k sz st l r0 m time v t (b + st) s → gd_ok o k sz st l r0 m time v t (b + st) s →
        rv_V G m_Late_useInGrid 0 0 (fun r σ' => r = none ∧ σ'.1 = σ.1 ∧ (∃ s, s = gr_run o k sz st l r0 m time v (t + 1) b (n, p, D, R) ∧ PT σ'.2 x nop nsr bd rl dr s.1 s.2.1 s.2.2.1 s.2.2.2 ∧ WS s.1 s.2.1 s.2.2.1) ∧ rv_only (SC x) σ.2 σ'.2) 64 [some (.ref x), some (.ref oa), some (.int k), some (.int time), some (.int v), some (.int b), some (.int vc), x7] [] σ1 0 0 := by
      intro x7 s σ1 hb s1 hT hw s2 s3 s4
      refine rv_V.run rv_gd_Late_useInGrid [10] 400 ?_
      refine Exists.intro _ (And.intro ((s2 oa hoa).trans ho) ?_)
      refine (ih (c + 1) (vc + 1) (b + st) x7 s.1 s.2.1 s.2.2.1 s.2.2.2 σ1 (by rw [ec]; exact nI_1 c) (by omega) hT hw ((s2 oa hoa).trans ho) s4).mono ?_
      rintro r σ' ⟨k1, k2, ⟨s', k3, k5⟩, k4⟩
      exact ⟨k1, k2.trans s1, ⟨s', by rw [k3, s3], k5⟩, s2.tr k4⟩
    refine rv_V.run rv_gd_Late_useInGrid [10, 64] 400 ?_
    refine And.intro (fun c1 => ?_) (fun c1 => ?_)
    · exact absurd ((rv_leN (a := 8) rfl ec (by omega) (by omega)).mp c1) (by omega)
    refine And.intro (fun c2 => ?_) (fun c2 => ?_)
    · refine ⟨rfl, rfl, ⟨_, rfl, ?_⟩, rv_only.rf⟩
      rw [show gr_run o k sz st l r0 m time v (t + 1) b (n, p, D, R) = (n, p, D, R) from if_neg (Int32.not_le.mpr c2)]
      exact ⟨h, hs⟩
    have hb := Int32.not_lt.mp c2
    obtain ⟨hroom, hok2⟩ := hok hb
    refine Exists.intro _ (And.intro ho ?_)
    refine And.intro (Exists.intro _ ho) ?_
    refine ⟨_, _, _, ct_closes oa o kd sz st l r0 m _ ho, Nat.zero_le _, Nat.zero_le _, rfl, ?_⟩
    rintro _ σ ⟨rfl, rfl⟩
    refine And.intro (fun c3 => ?_) (fun c3 => ?_)
    · have hcl := of_decide_eq_false (rv_b0.mp c3)
      rw [if_neg hcl] at hok2
      refine Exists.intro _ (And.intro h.1 ?_)
      refine Exists.intro _ (And.intro ho ?_)
      refine And.intro (Exists.intro _ h.2.1.1) ?_
      refine ⟨_, _, _, h.fo hs o k b (b + sz) (hroom hcl), Nat.zero_le _, Nat.zero_le _, rfl, ?_⟩
      rintro _ σ2 ⟨rfl, e1, h2, hs2, hi2, h3⟩
      refine And.intro (Exists.intro _ h2.1) ?_
      refine ⟨_, _, _, ct_comeInto o kd sz st l r0 m hoa h2 ((h3 oa hoa).trans ho) hi2 v, Nat.zero_le _, Nat.zero_le _, rfl, ?_⟩
      rintro _ σ3 ⟨rfl, e2, h4, h5⟩
      refine next _ _ σ3 hb (e2.trans e1) h4 (hs2.same (fun i => ?_)) (h3.tr h5) ?_ hok2
      · rw [ci_keys]; exact ⟨rfl, rfl, rfl⟩
      · rw [show gr_run o k sz st l r0 m time v (t + 1) b (n, p, D, R) = _ from if_pos hb, if_neg hcl]
    · have hcl := of_decide_eq_true (rv_bn c3)
      rw [if_pos hcl] at hok2
      refine next _ (n, p, D, R) σ hb rfl h hs rv_only.rf ?_ hok2
      rw [show gr_run o k sz st l r0 m time v (t + 1) b (n, p, D, R) = _ from if_pos hb, if_pos hcl]
set_option maxRecDepth 100000 in
theorem ct_useInGrid {G : rv_G} {σ : rv_S} {x oa : Nat} {nop nsr bd rl dr : Int32} {n : Nat} {p : Nat → Nat} {D : Nat → Wd} {R : Rs} (o kd sz st l r0 m : Int32) (k time v : Int32) (hoa : ¬ SC x oa) (h : PT σ.2 x nop nsr bd rl dr n p D R) (hs : WS n p D) (ho : σ.2 oa = some (oOp o kd sz st l r0 m)) (h1 : 1 ≤ st) (h0 : ¬ st = 0) (hok : gd_ok o k sz st l r0 m time v 8 ((rv_fdiv (time - sz) st + 1) * st) (n, p, D, R)) :
    rv_Ct G i_Late_useInGrid 0 0 [.ref x, .ref oa, .int k, .int time, .int v] σ (fun r σ' => r = none ∧ σ'.1 = σ.1 ∧ (∃ s, s = gr_run o k sz st l r0 m time v 8 ((rv_fdiv (time - sz) st + 1) * st) (n, p, D, R) ∧ PT σ'.2 x nop nsr bd rl dr s.1 s.2.1 s.2.2.1 s.2.2.2 ∧ WS s.1 s.2.1 s.2.2.1) ∧ rv_only (SC x) σ.2 σ'.2) := by
  refine rv_ct (M := m_Late_useInGrid) rfl (by decide) rfl rfl ?_
  refine rv_V.run rv_gd_Late_useInGrid [10] 400 ?_
  refine And.intro (Exists.intro _ ho) ?_
  refine ⟨_, _, _, ct_firstBegin oa o kd sz st l r0 m time ho h1 h0, Nat.zero_le _, Nat.zero_le _, rfl, ?_⟩
  rintro _ σ ⟨rfl, rfl⟩
  exact lp_useInGrid o kd sz st l r0 m k time v hoa 8 0 _ _ _ n p D R σ rfl rfl h hs ho hok
