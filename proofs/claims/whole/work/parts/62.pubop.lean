/-! THE CLASS: operator, source, count -/
def od_new (k sz st l r : Int32) : Od := (k, sz, (if k = 1 then st else sz), l, r, 0)
set_option maxRecDepth 100000 in
theorem ct_operator {G : rv_G} {σ : rv_S} {x no : Nat} {oa : Nat → Nat} {od : Nat → Od} {nsr ev bd rl dr : Int32} (hx : σ.2 x = some (oLate x (nI no) nsr ev bd rl dr)) (hO : POP σ.2 x no oa od) (hb : rv_bd σ) (hx1 : x + 372 < σ.1) (k sz st l r : Int32) :
    rv_Ct G i_Late_operator 1 7 [.ref x, .int k, .int sz, .int st, .int l, .int r] σ (fun a σ' => (¬ op_ok k sz st l r = true → a = some (.int (-1)) ∧ σ' = σ) ∧ (op_ok k sz st l r = true → no = 5 → a = some (.int (-3)) ∧ σ' = σ) ∧ (op_ok k sz st l r = true → no < 5 → a = some (.int (nI no)) ∧ σ'.1 = σ.1 + 1 ∧ σ'.2 x = some (oLate x (nI (no + 1)) nsr ev bd rl dr) ∧ POP σ'.2 x (no + 1) (va_up oa no σ.1) (va_up od no (od_new k sz st l r)) ∧ rv_only (fun q => q = x ∨ q = x + 1 ∨ q = σ.1) σ.2 σ'.2)) := by
  obtain ⟨⟨f, hf, hfe⟩, ho, hn, hi⟩ := hO
  refine rv_ct (M := m_Late_operator) rfl (by decide) rfl rfl ?_
  have bad : ∀ ls : rv_L, op_ok k sz st l r = false → ∀ pc, (pc = 19 ∨ pc = 52 ∨ pc = 72) → rv_V G m_Late_operator 1 7 (fun a σ' => (¬ op_ok k sz st l r = true → a = some (.int (-1)) ∧ σ' = σ) ∧ (op_ok k sz st l r = true → no = 5 → a = some (.int (-3)) ∧ σ' = σ) ∧ (op_ok k sz st l r = true → no < 5 → a = some (.int (nI no)) ∧ σ'.1 = σ.1 + 1 ∧ σ'.2 x = some (oLate x (nI (no + 1)) nsr ev bd rl dr) ∧ POP σ'.2 x (no + 1) (va_up oa no σ.1) (va_up od no (od_new k sz st l r)) ∧ rv_only (fun q => q = x ∨ q = x + 1 ∨ q = σ.1) σ.2 σ'.2)) pc ls [] σ 0 0 := by
    intro ls hbad pc hpc
    have fin : (¬ op_ok k sz st l r = true → (some (Value.int (-1)) : Option Value) = some (.int (-1)) ∧ σ = σ) ∧ (op_ok k sz st l r = true → no = 5 → (some (Value.int (-1)) : Option Value) = some (.int (-3)) ∧ σ = σ) ∧ (op_ok k sz st l r = true → no < 5 → (some (Value.int (-1)) : Option Value) = some (.int (nI no)) ∧ σ.1 = σ.1 + 1 ∧ σ.2 x = some (oLate x (nI (no + 1)) nsr ev bd rl dr) ∧ POP σ.2 x (no + 1) (va_up oa no σ.1) (va_up od no (od_new k sz st l r)) ∧ rv_only (fun q => q = x ∨ q = x + 1 ∨ q = σ.1) σ.2 σ.2) :=
      ⟨fun _ => ⟨rfl, rfl⟩, fun z => absurd (hbad.symm.trans z) Bool.false_ne_true, fun z => absurd (hbad.symm.trans z) Bool.false_ne_true⟩
    rcases hpc with rfl | rfl | rfl
    · refine rv_V.run rv_gd_Late_operator [] 400 ?_
      exact And.intro trivial fin
    · refine rv_V.run rv_gd_Late_operator [] 400 ?_
      exact And.intro trivial fin
    · refine rv_V.run rv_gd_Late_operator [] 400 ?_
      exact And.intro trivial fin
  refine rv_V.run rv_gd_Late_operator [19, 52, 72, 74] 400 ?_
  refine ⟨_, _, _, ct_isWithin k 0 2, Nat.zero_le _, Nat.zero_le _, rfl, ?_⟩
  rintro _ σ ⟨rfl, rfl⟩
  refine And.intro (fun c1 => ?_) (fun c1 => ?_)
  · exact bad _ (by unfold op_ok; rw [rv_b0.mp c1]; rfl) 19 (Or.inl rfl)
  refine ⟨_, _, _, ct_isWithin r 0 2, Nat.zero_le _, Nat.zero_le _, rfl, ?_⟩
  rintro _ σ ⟨rfl, rfl⟩
  refine And.intro (fun c2 => ?_) (fun c2 => ?_)
  · exact bad _ (by unfold op_ok; rw [rv_b0.mp c2]; cases rv_in k 0 2 <;> rfl) 19 (Or.inl rfl)
  refine ⟨_, _, _, ct_isWithin sz 1 1000000, Nat.zero_le _, Nat.zero_le _, rfl, ?_⟩
  rintro _ σ ⟨rfl, rfl⟩
  refine And.intro (fun c3 => ?_) (fun c3 => ?_)
  · exact bad _ (by unfold op_ok; rw [rv_b0.mp c3]; cases rv_in k 0 2 <;> cases rv_in r 0 2 <;> rfl) 52 (Or.inr (Or.inl rfl))
  refine ⟨_, _, _, ct_isWithin st 1 1000000, Nat.zero_le _, Nat.zero_le _, rfl, ?_⟩
  rintro _ σ ⟨rfl, rfl⟩
  refine And.intro (fun c4 => ?_) (fun c4 => ?_)
  · exact bad _ (by unfold op_ok; rw [rv_b0.mp c4]; cases rv_in k 0 2 <;> cases rv_in r 0 2 <;> cases rv_in sz 1 1000000 <;> rfl) 52 (Or.inr (Or.inl rfl))
  refine ⟨_, _, _, ct_isWithin l 0 1000000, Nat.zero_le _, Nat.zero_le _, rfl, ?_⟩
  rintro _ σ ⟨rfl, rfl⟩
  refine And.intro (fun c5 => ?_) (fun c5 => ?_)
  · exact bad _ (by unfold op_ok; rw [rv_b0.mp c5]; cases rv_in k 0 2 <;> cases rv_in r 0 2 <;> cases rv_in sz 1 1000000 <;> cases rv_in st 1 1000000 <;> rfl) 52 (Or.inr (Or.inl rfl))
  have e1 := rv_bn c1
  have e2 := rv_bn c2
  have e3 := rv_bn c3
  have e4 := rv_bn c4
  have e5 := rv_bn c5
  have good : ∀ ls, ls = [some (.ref x), some (.int k), some (.int sz), some (.int st), some (.int l), some (.int r)] → op_ok k sz st l r = true → rv_V G m_Late_operator 1 7 (fun a σ' => (¬ op_ok k sz st l r = true → a = some (.int (-1)) ∧ σ' = σ) ∧ (op_ok k sz st l r = true → no = 5 → a = some (.int (-3)) ∧ σ' = σ) ∧ (op_ok k sz st l r = true → no < 5 → a = some (.int (nI no)) ∧ σ'.1 = σ.1 + 1 ∧ σ'.2 x = some (oLate x (nI (no + 1)) nsr ev bd rl dr) ∧ POP σ'.2 x (no + 1) (va_up oa no σ.1) (va_up od no (od_new k sz st l r)) ∧ rv_only (fun q => q = x ∨ q = x + 1 ∨ q = σ.1) σ.2 σ'.2)) 74 ls [] σ 0 0 := by
    intro ls hls hok
    subst hls
    refine rv_V.run rv_gd_Late_operator [] 400 ?_
    refine Exists.intro _ (And.intro hx ?_)
    refine And.intro (fun c6 => ?_) (fun c6 => ?_)
    · have hno : no < 5 := (rv_ltN (b := 5) rfl rfl (by omega) (by omega)).mp c6
      refine Exists.intro _ (And.intro hx ?_)
      refine Exists.intro _ (And.intro hx ?_)
      refine And.intro (by decide) (And.intro (by decide) ?_)
      refine Exists.intro _ (And.intro ((rv_up_n (by omega)).trans hx) ?_)
      refine ⟨_, _, _, ct_Operator_init σ.1 (nI no) k sz st l r rv_up_s, by decide, by decide, rfl, ?_⟩
      rintro _ _ ⟨rfl, rfl⟩
      rw [rv_up_up]
      refine ⟨_, _, _, _, _, rv_up_s, rfl, (rv_up_n (by omega)).trans hf, by decide, vp_in_nI (by omega) (by omega), ?_⟩
      refine Exists.intro _ (And.intro ((rv_up_n (by omega)).trans ((rv_up_n (by omega)).trans hx)) ?_)
      refine Exists.intro _ (And.intro ((rv_up_n (by omega)).trans ((rv_up_n (by omega)).trans hx)) (And.intro trivial ?_))
      refine Exists.intro _ (And.intro rv_up_s ?_)
      refine And.intro trivial ⟨fun z => absurd hok z, fun _ z => absurd z (by omega), fun _ _ => ⟨?_, rfl, ?_, ?_, ?_⟩⟩
      · show some (Value.int (nI no + 1 - 1)) = _
        rw [nI_1, show nI (no + 1) - 1 = nI no from nI_pred no]
      · refine rv_up_s.trans ?_
        show some (oLate x (nI no + 1) nsr ev bd rl dr) = _
        rw [nI_1]
      · have hcl : (nI no).toNatClampNeg = no := nI_clamp (by omega)
        rw [hcl]
        refine ⟨⟨_, (rv_up_n (by omega)).trans rv_up_s, fun j hj => ?_⟩, fun j hj => ?_, by omega, fun i j hi1 hj1 he => ?_⟩
        · by_cases hjn : j = no
          · subst hjn; rw [va_up_self, va_up_self]
          · rw [va_up_ne _ _ hjn, va_up_ne _ _ hjn]; exact hfe j (by omega)
        · by_cases hjn : j = no
          · subst hjn
            rw [va_up_self, va_up_self]
            exact ⟨(rv_up_n (by omega)).trans ((rv_up_n (by omega)).trans rv_up_s), hx1⟩
          · rw [va_up_ne _ _ hjn, va_up_ne _ _ hjn]
            obtain ⟨q1, q2⟩ := ho j (by omega)
            have q3 := hb _ _ q1
            exact ⟨(rv_up_n (by omega)).trans ((rv_up_n (by omega)).trans ((rv_up_n (by omega)).trans q1)), q2⟩
        · by_cases hin : i = no
          · by_cases hjn : j = no
            · omega
            · rw [hin, va_up_self, va_up_ne _ _ hjn] at he
              have := hb _ _ (ho j (by omega)).1
              omega
          · by_cases hjn : j = no
            · rw [hjn, va_up_self, va_up_ne _ _ hin] at he
              have := hb _ _ (ho i (by omega)).1
              omega
            · rw [va_up_ne _ _ hin, va_up_ne _ _ hjn] at he
              exact hi i j (by omega) (by omega) he
      · exact ((rv_only.up (Or.inr (Or.inr rfl))).tr (rv_only.up (Or.inr (Or.inl rfl)))).tr (rv_only.up (Or.inl rfl))
    · have hno : ¬ no < 5 := fun z => c6 ((rv_ltN (b := 5) rfl rfl (by omega) (by omega)).mpr z)
      exact And.intro trivial ⟨fun z => absurd hok z, fun _ _ => ⟨rfl, rfl⟩, fun _ z => absurd z hno⟩
  have hop : op_ok k sz st l r = !(decide (k = 1) && (decide (sz < st) || decide (8 * st < sz))) := by
    unfold op_ok; rw [e1, e2, e3, e4, e5]; rfl
  refine And.intro (fun c6 => ?_) (fun c6 => ?_)
  · refine And.intro (fun c7 => ?_) (fun c7 => ?_)
    · exact bad _ (by rw [hop, decide_eq_true c6, decide_eq_true c7]; rfl) 72 (Or.inr (Or.inr rfl))
    · refine And.intro (fun c8 => ?_) (fun c8 => ?_)
      · exact good _ rfl (by rw [hop, decide_eq_true c6, decide_eq_false c7, decide_eq_false (Int32.not_lt.mpr c8)]; rfl)
      · exact bad _ (by rw [hop, decide_eq_true c6, decide_eq_true (Int32.not_le.mp c8)]; cases decide (sz < st) <;> rfl) 72 (Or.inr (Or.inr rfl))
  · exact good _ rfl (by rw [hop, decide_eq_false c6]; rfl)
set_option maxRecDepth 100000 in
theorem ct_source_out {G : rv_G} {σ : rv_S} {x no : Nat} {nsr ev bd rl dr : Int32} (hx : σ.2 x = some (oLate x (nI no) nsr ev bd rl dr)) (i : Int32) (hi : i < 0 ∨ nI no ≤ i) :
    rv_Ct G i_Late_source 1 9 [.ref x, .int i] σ (fun a σ' => a = some (.int (-1)) ∧ σ' = σ) := by
  refine rv_ct (M := m_Late_source) rfl (by decide) rfl rfl ?_
  refine rv_V.run rv_gd_Late_source [] 400 ?_
  refine And.intro (Exists.intro _ hx) ?_
  refine ⟨_, _, _, ct_operatorAt_out hx i hi, Nat.zero_le _, Nat.zero_le _, rfl, ?_⟩
  rintro _ σ ⟨rfl, rfl⟩
  exact And.intro trivial ⟨rfl, rfl⟩
def sd_new (o : Nat) : Sd := (o, 0, (false, false), 0, 0, 0, -99999999)
set_option maxRecDepth 100000 in
theorem ct_source {G : rv_G} {σ : rv_S} {x no ns o : Nat} {oa sa : Nat → Nat} {od : Nat → Od} {sd : Nat → Sd} {ev bd rl dr : Int32} (hx : σ.2 x = some (oLate x (nI no) (nI ns) ev bd rl dr)) (hO : POP σ.2 x no oa od) (hS : PSR σ.2 x no ns oa sa sd) (ho : o < no) (hb : rv_bd σ) (hx1 : x + 372 < σ.1) :
    rv_Ct G i_Late_source 1 9 [.ref x, .int (nI o)] σ (fun a σ' => ((od o).2.2.2.2.2 = 1000000000 → a = some (.int (-2)) ∧ σ' = σ) ∧ (¬ (od o).2.2.2.2.2 = 1000000000 → ns = 10 → a = some (.int (-3)) ∧ σ' = σ) ∧ (¬ (od o).2.2.2.2.2 = 1000000000 → ns < 10 → a = some (.int (nI ns)) ∧ σ'.1 = σ.1 + 1 ∧ σ'.2 x = some (oLate x (nI no) (nI (ns + 1)) ev bd rl dr) ∧ PSR σ'.2 x no (ns + 1) oa (va_up sa ns σ.1) (va_up sd ns (sd_new o)) ∧ rv_only (fun q => q = x ∨ q = x + 2 ∨ q = σ.1) σ.2 σ'.2)) := by
  have hoo := hO.2.1 o ho
  obtain ⟨⟨f, hf, hfe⟩, hs, hn, hi⟩ := hS
  refine rv_ct (M := m_Late_source) rfl (by decide) rfl rfl ?_
  refine rv_V.run rv_gd_Late_source [] 400 ?_
  refine And.intro (Exists.intro _ hx) ?_
  refine ⟨_, _, _, ct_operatorAt_in hx hO o ho, Nat.zero_le _, Nat.zero_le _, rfl, ?_⟩
  rintro _ σ ⟨rfl, rfl⟩
  refine Exists.intro _ (And.intro hoo.1 ?_)
  refine And.intro (fun c1 => ?_) (fun c1 => ?_)
  · exact And.intro trivial ⟨fun _ => ⟨rfl, rfl⟩, fun z => absurd c1 z, fun z => absurd c1 z⟩
  refine Exists.intro _ (And.intro hx ?_)
  refine And.intro (fun c6 => ?_) (fun c6 => ?_)
  · have hno : ns < 10 := (rv_ltN (b := 10) rfl rfl (by omega) (by omega)).mp c6
    refine Exists.intro _ (And.intro hx ?_)
    refine Exists.intro _ (And.intro hx ?_)
    refine And.intro (by decide) (And.intro (by decide) ?_)
    refine Exists.intro _ (And.intro ((rv_up_n (by omega)).trans hx) ?_)
    refine ⟨_, _, _, ct_Source_init σ.1 (nI ns) (oa o) rv_up_s, by decide, by decide, rfl, ?_⟩
    rintro _ _ ⟨rfl, rfl⟩
    rw [rv_up_up]
    refine ⟨_, _, _, _, _, rv_up_s, rfl, (rv_up_n (by omega)).trans hf, by decide, vp_in_nI (by omega) (by omega), ?_⟩
    refine Exists.intro _ (And.intro ((rv_up_n (by omega)).trans ((rv_up_n (by omega)).trans hx)) ?_)
    refine Exists.intro _ (And.intro ((rv_up_n (by omega)).trans ((rv_up_n (by omega)).trans hx)) (And.intro trivial ?_))
    refine Exists.intro _ (And.intro rv_up_s ?_)
    refine And.intro trivial ⟨fun z => absurd z c1, fun _ z => absurd z (by omega), fun _ _ => ⟨?_, rfl, ?_, ?_, ?_⟩⟩
    · show some (Value.int (nI ns + 1 - 1)) = _
      rw [nI_1, show nI (ns + 1) - 1 = nI ns from nI_pred ns]
    · refine rv_up_s.trans ?_
      show some (oLate x (nI no) (nI ns + 1) ev bd rl dr) = _
      rw [nI_1]
    · have hcl : (nI ns).toNatClampNeg = ns := nI_clamp (by omega)
      rw [hcl]
      refine ⟨⟨_, (rv_up_n (by omega)).trans rv_up_s, fun j hj => ?_⟩, fun j hj => ?_, by omega, fun i j hi1 hj1 he => ?_⟩
      · by_cases hjn : j = ns
        · subst hjn; rw [va_up_self, va_up_self]
        · rw [va_up_ne _ _ hjn, va_up_ne _ _ hjn]; exact hfe j (by omega)
      · by_cases hjn : j = ns
        · subst hjn
          rw [va_up_self, va_up_self]
          exact ⟨(rv_up_n (by omega)).trans ((rv_up_n (by omega)).trans rv_up_s), hx1, ho⟩
        · rw [va_up_ne _ _ hjn, va_up_ne _ _ hjn]
          obtain ⟨q1, q2, q4⟩ := hs j (by omega)
          have q3 := hb _ _ q1
          exact ⟨(rv_up_n (by omega)).trans ((rv_up_n (by omega)).trans ((rv_up_n (by omega)).trans q1)), q2, q4⟩
      · by_cases hin : i = ns
        · by_cases hjn : j = ns
          · omega
          · rw [hin, va_up_self, va_up_ne _ _ hjn] at he
            have := hb _ _ (hs j (by omega)).1
            omega
        · by_cases hjn : j = ns
          · rw [hjn, va_up_self, va_up_ne _ _ hin] at he
            have := hb _ _ (hs i (by omega)).1
            omega
          · rw [va_up_ne _ _ hin, va_up_ne _ _ hjn] at he
            exact hi i j (by omega) (by omega) he
    · exact ((rv_only.up (Or.inr (Or.inr rfl))).tr (rv_only.up (Or.inr (Or.inl rfl)))).tr (rv_only.up (Or.inl rfl))
  · have hno : ¬ ns < 10 := fun z => c6 ((rv_ltN (b := 10) rfl rfl (by omega) (by omega)).mpr z)
    exact And.intro trivial ⟨fun z => absurd z c1, fun _ _ => ⟨rfl, rfl⟩, fun _ z => absurd z hno⟩
set_option maxRecDepth 100000 in
theorem ct_count {G : rv_G} {σ : rv_S} {x : Nat} {nop nsr ev bd rl dr nr nw np : Int32} {ra wl oc r1 r2 : Nat} {rm1 w1 el1 la1 sz1 rm2 w2 el2 la2 sz2 : Int32} (hx : σ.2 x = some (oLate x nop nsr ev bd rl dr)) (h3 : σ.2 (x + 3) = some (oRowLog ra nr)) (h5 : σ.2 (x + 5) = some (oWL wl nw)) (h8 : σ.2 (x + 368) = some (oRing rm1 w1 r1 el1 la1 sz1)) (h9 : σ.2 (x + 370) = some (oRing rm2 w2 r2 el2 la2 sz2)) (h12 : σ.2 (x + 372) = some (oOP oc np)) (i : Int32) :
    rv_Ct G i_Late_count 0 0 [.ref x, .int i] σ (fun q σ' => q = some (.int (if i = 0 then nop else if i = 1 then nsr else if i = 2 then nr else if i = 3 then nw else if i = 4 then sz1 else if i = 5 then ev else if i = 6 then sz2 else if i = 7 then dr else if i = 8 then np else -1)) ∧ σ' = σ) := by
  refine rv_ct (M := m_Late_count) rfl (by decide) rfl rfl ?_
  refine rv_V.run rv_gd_Late_count [] 400 ?_
  refine And.intro (fun c0 => ?_) (fun c0 => ?_)
  · refine Exists.intro _ (And.intro hx ?_)
    exact And.intro trivial ⟨by rw [if_pos c0], rfl⟩
  refine And.intro (fun c1 => ?_) (fun c1 => ?_)
  · refine Exists.intro _ (And.intro hx ?_)
    exact And.intro trivial ⟨by rw [if_neg c0, if_pos c1], rfl⟩
  refine And.intro (fun c2 => ?_) (fun c2 => ?_)
  · refine Exists.intro _ (And.intro hx ?_)
    refine Exists.intro _ (And.intro h3 ?_)
    exact And.intro trivial ⟨by rw [if_neg c0, if_neg c1, if_pos c2], rfl⟩
  refine And.intro (fun c3 => ?_) (fun c3 => ?_)
  · refine Exists.intro _ (And.intro hx ?_)
    refine Exists.intro _ (And.intro h5 ?_)
    exact And.intro trivial ⟨by rw [if_neg c0, if_neg c1, if_neg c2, if_pos c3], rfl⟩
  refine And.intro (fun c4 => ?_) (fun c4 => ?_)
  · refine Exists.intro _ (And.intro hx ?_)
    refine Exists.intro _ (And.intro h8 ?_)
    exact And.intro trivial ⟨by rw [if_neg c0, if_neg c1, if_neg c2, if_neg c3, if_pos c4], rfl⟩
  refine And.intro (fun c5 => ?_) (fun c5 => ?_)
  · refine Exists.intro _ (And.intro hx ?_)
    exact And.intro trivial ⟨by rw [if_neg c0, if_neg c1, if_neg c2, if_neg c3, if_neg c4, if_pos c5], rfl⟩
  refine And.intro (fun c6 => ?_) (fun c6 => ?_)
  · refine Exists.intro _ (And.intro hx ?_)
    refine Exists.intro _ (And.intro h9 ?_)
    exact And.intro trivial ⟨by rw [if_neg c0, if_neg c1, if_neg c2, if_neg c3, if_neg c4, if_neg c5, if_pos c6], rfl⟩
  refine And.intro (fun c7 => ?_) (fun c7 => ?_)
  · refine Exists.intro _ (And.intro hx ?_)
    exact And.intro trivial ⟨by rw [if_neg c0, if_neg c1, if_neg c2, if_neg c3, if_neg c4, if_neg c5, if_neg c6, if_pos c7], rfl⟩
  refine And.intro (fun c8 => ?_) (fun c8 => ?_)
  · refine Exists.intro _ (And.intro hx ?_)
    refine Exists.intro _ (And.intro h12 ?_)
    exact And.intro trivial ⟨by rw [if_neg c0, if_neg c1, if_neg c2, if_neg c3, if_neg c4, if_neg c5, if_neg c6, if_neg c7, if_pos c8], rfl⟩
  exact And.intro trivial ⟨by rw [if_neg c0, if_neg c1, if_neg c2, if_neg c3, if_neg c4, if_neg c5, if_neg c6, if_neg c7, if_neg c8], rfl⟩
