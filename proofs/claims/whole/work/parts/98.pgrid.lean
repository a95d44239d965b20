/-! THE COMPARISON: one pass over the grid -/
def fbo (st sz t : Int32) : Int32 := (rv_fdiv (t - sz) st + 1) * st
def kn (st sz t : Int32) : Nat := (List.range 8).countP (fun c => decide (cb st c (fbo st sz t) ≤ t))
theorem kn_all {st sz t : Int32} (hs : 1 ≤ st.toInt) (hS1 : st.toInt ≤ sz.toInt) (hS2 : sz.toInt ≤ 1000000) (hS8 : sz.toInt ≤ 8 * st.toInt) (hT0 : 0 ≤ t.toInt) (hT : t.toInt ≤ 100000000) :
    kn st sz t ≤ 8 ∧ bg_ok st sz t 8 (dn t st * st) ∧ bg_of st sz t 8 (nI (kn st sz t)) = -99999999 ∧ (∀ i, i < kn st sz t → bg_of st sz t 8 (nI i) = cb st i (fbo st sz t) ∧ ¬ cb st i (fbo st sz t) = -99999999 ∧ cb st i (fbo st sz t) ≤ t) ∧ ¬ cb st (kn st sz t) (fbo st sz t) ≤ t ∧ (∀ i, i ≤ 8 → (cb st i (fbo st sz t)).toInt = (fbo st sz t).toInt + i * st.toInt) ∧ t.toInt - sz.toInt < (fbo st sz t).toInt ∧ (fbo st sz t).toInt ≤ t.toInt - sz.toInt + st.toInt ∧ ∃ m : Int, (fbo st sz t).toInt = m * st.toInt := by
  obtain ⟨K, K1, K8, K2, K3, K4, K5, K6, K7, K9⟩ := bg_all (st := st) (sz := sz) (time := t) hs hS1 hS2 hS8 hT0 hT
  have hfb : (rv_fdiv (t - sz) st + 1) * st = fbo st sz t := rfl
  rw [hfb] at K4 K5 K6 K7 K9
  have ek : kn st sz t = K := by
    unfold kn
    rw [cP_int (q := 0) (u := K) (by omega) 8 (fun j hj => ?_)]
    · omega
    · rw [decide_eq_true_eq]
      constructor
      · intro z
        refine ⟨by omega, ?_⟩
        rcases Nat.lt_or_ge j K with y | y
        · exact y
        · exfalso
          apply K5
          have z1 := Int32.le_iff_toInt_le.mp z
          rw [K6 j (by omega)] at z1
          refine Int32.le_iff_toInt_le.mpr ?_
          rw [K6 K K8]
          have : (K : Int) * st.toInt ≤ (j : Int) * st.toInt := Int.mul_le_mul_of_nonneg_right (by omega) (by omega)
          omega
      · rintro ⟨-, z⟩
        exact (K4 j z).2.2
  rw [ek]
  refine ⟨K8, K2, K3, K4, K5, K6, K7, K9, ?_⟩
  have e0 := tS (a := t) (b := sz) (by omega) (by omega)
  obtain ⟨q, q1, q2, q3⟩ := fdiv_val (x := t - sz) (y := st) hs (by omega) (by omega) (by omega)
  have bq := mul_bd (a := q) (s := st.toInt) (c := 101000000) hs (by omega) (by omega)
  have e1 : (rv_fdiv (t - sz) st + 1).toInt = q + 1 := by
    rw [tA (by rw [q1, show (1 : Int32).toInt = 1 from rfl]; omega) (by rw [q1, show (1 : Int32).toInt = 1 from rfl]; omega), q1]; rfl
  have hqs : (q + 1) * st.toInt = q * st.toInt + st.toInt := by rw [Int.add_mul, Int.one_mul]
  refine ⟨q + 1, ?_⟩
  unfold fbo
  rw [tM (by rw [e1]; omega) (by rw [e1]; omega), e1]
/-- rows have come in order of keys and times -/
def GI (st sz K T : Int) (L : List Cn) : Prop := (∀ c, c ∈ L → c.1.toInt < K ∨ (c.1.toInt = K ∧ c.2.1.toInt ≤ T)) ∧ (∀ c, c ∈ L → c.1.toInt = K → ∀ m : Int, T - sz < m * st → m * st ≤ c.2.1.toInt → ∃ d, d ∈ L ∧ d.1 = c.1 ∧ d.2.1.toInt = m * st) ∧ ∀ c, c ∈ L → ∃ m : Int, c.2.1.toInt = m * st
theorem GI.mono {st sz K T K2 T2 : Int} {L : List Cn} (h : GI st sz K T L) (hk : K < K2 ∨ (K = K2 ∧ T ≤ T2)) : GI st sz K2 T2 L := by
  obtain ⟨h1, h2, h3⟩ := h
  refine ⟨fun c hc => ?_, fun c hc e m m1 m2 => ?_, h3⟩
  · have := h1 c hc
    omega
  · have := h1 c hc
    exact h2 c hc (by omega) m (by omega) m2
def EG (sz : Int) (k b e : Int64) : Prop := e.toInt = b.toInt + sz
theorem pf_spec (f : Nat → Int64) (k b : Int64) : ∀ (t i : Nat), (pf_run f k b t i = none ∧ ∀ j, j < i → i ≤ j + t → ¬ ((ent f j).1 = k ∧ (ent f j).2.1 = b)) ∨ ∃ j, pf_run f k b t i = some j ∧ j < i ∧ (ent f j).1 = k ∧ (ent f j).2.1 = b
  | 0, i => Or.inl ⟨by cases i <;> rfl, fun j h1 h2 => absurd h1 (by omega)⟩
  | t + 1, 0 => Or.inl ⟨rfl, fun j h1 h2 => absurd h1 (by omega)⟩
  | t + 1, i + 1 => by
    unfold pf_run
    by_cases hc : f (7 * i) = k ∧ f (7 * i + 1) = b
    · rw [if_pos hc]
      exact Or.inr ⟨i, rfl, by omega, hc.1, hc.2⟩
    · rw [if_neg hc]
      rcases pf_spec f k b t i with ⟨h1, h2⟩ | ⟨j, h1, h2, h3⟩
      · refine Or.inl ⟨h1, fun j h3 h4 => ?_⟩
        by_cases z : j = i
        · rw [z]; exact hc
        · exact h2 j (by omega) (by omega)
      · exact Or.inr ⟨j, h1, by omega, h3⟩
theorem reps_mem {q : Ps} {L : List Cn} {E : Int64 → Int64 → Int64 → Prop} (h : Reps q L E) {i : Nat} (hi : i < q.1) : ∃ c, c ∈ L ∧ c.1 = (ent q.2 i).1 ∧ c.2.1 = (ent q.2 i).2.1 := by
  have h1 : ¬ gv (ent q.2 i).1 (ent q.2 i).2.1 L = none := by rw [(h.2.1 i hi).1]; simp
  rw [gv_none] at h1
  exact Classical.byContradiction (fun z => h1 (fun c hc y => z ⟨c, hc, y⟩))
/-- one window of a row, in the class -/
theorem pone {s : Ps} {L : List Cn} {st sz K T b : Int} {k32 b32 sz32 v32 : Int32} (h : Reps s L (EG sz)) (hs : s.1 < 2400) (hg : GI st sz K T L) (ek : k32.toInt = K) (eb : b32.toInt = b) (ee : (b32 + sz32).toInt = b + sz) (hst : 1 ≤ st) (h8 : sz ≤ 8 * st) (hb1 : T - sz < b) (hb2 : b ≤ T) {m : Int} (hm : b = m * st) (hprev : ∀ n : Int, T - sz < n * st → n * st < b → ∃ d, d ∈ L ∧ d.1 = k32.toInt64 ∧ d.2.1.toInt = n * st) :
    Reps (ps_one s k32 b32 (b32 + sz32) v32) (L ++ [(k32.toInt64, b32.toInt64, v32.toInt64)]) (EG sz) ∧ (ps_one s k32 b32 (b32 + sz32) v32).1 ≤ s.1 + 1 ∧ GI st sz K T (L ++ [(k32.toInt64, b32.toInt64, v32.toInt64)]) := by
  have ek64 : k32.toInt64.toInt = K := by rw [Int32.toInt_toInt64]; exact ek
  have eb64 : b32.toInt64.toInt = b := by rw [Int32.toInt_toInt64]; exact eb
  have hE : EG sz k32.toInt64 b32.toInt64 (b32 + sz32).toInt64 := by
    unfold EG
    rw [Int32.toInt_toInt64, eb64, ee]
  have hgi : GI st sz K T (L ++ [(k32.toInt64, b32.toInt64, v32.toInt64)]) := by
    obtain ⟨g1, g2, g3⟩ := hg
    refine ⟨fun c hc => ?_, fun c hc e n n1 n2 => ?_, fun c hc => ?_⟩
    · rcases List.mem_append.mp hc with z | z
      · exact g1 c z
      · rw [List.mem_singleton] at z
        subst z
        exact Or.inr ⟨ek64, by show b32.toInt64.toInt ≤ T; omega⟩
    · rcases List.mem_append.mp hc with z | z
      · obtain ⟨d, d1, d2⟩ := g2 c z e n n1 n2
        exact ⟨d, List.mem_append_left _ d1, d2⟩
      · rw [List.mem_singleton] at z
        subst z
        have n2' : n * st ≤ b32.toInt64.toInt := n2
        rw [eb64] at n2'
        by_cases y : n * st = b
        · exact ⟨_, List.mem_append_right _ (List.mem_singleton.mpr rfl), rfl, by show b32.toInt64.toInt = _; omega⟩
        · obtain ⟨d, d1, d2⟩ := hprev n n1 (by omega)
          exact ⟨d, List.mem_append_left _ d1, d2⟩
    · rcases List.mem_append.mp hc with z | z
      · exact g3 c z
      · rw [List.mem_singleton] at z
        subst z
        exact ⟨m, eb64.trans hm⟩
  unfold ps_one
  rcases pf_spec s.2 k32.toInt64 b32.toInt64 8 s.1 with ⟨p1, p2⟩ | ⟨j, p1, p2, p3, p4⟩
  · rw [p1]
    dsimp only
    -- there is no such window
    have hno : ∀ i, i < s.1 → ¬ ((ent s.2 i).1 = k32.toInt64 ∧ (ent s.2 i).2.1 = b32.toInt64) := fun i hi y => by
      have hfar : i + 8 < s.1 := by
        rcases Nat.lt_or_ge (i + 8) s.1 with z | z
        · exact z
        · exact absurd y (p2 i hi (by omega))
      -- those behind it have greater begins
      have up : ∀ n : Nat, i + n < s.1 → (ent s.2 (i + n)).1.toInt = K ∧ ∃ u : Int, (ent s.2 (i + n)).2.1.toInt = u * st ∧ m + n ≤ u := by
        intro n
        induction n with
        | zero =>
          intro _
          refine ⟨by rw [Nat.add_zero, y.1]; exact ek64, m, by rw [Nat.add_zero, y.2, eb64]; exact hm, by omega⟩
        | succ n ih =>
          intro hn
          obtain ⟨i1, u, i2, i3⟩ := ih (by omega)
          have hlt := h.1 (i + n) (i + (n + 1)) (by omega) hn
          obtain ⟨c, c1, c2, c3⟩ := reps_mem h hn
          have g1 := hg.1 c c1
          obtain ⟨w, hw⟩ := hg.2.2 c c1
          rw [c2, c3] at g1
          rw [c3] at hw
          unfold klt at hlt
          refine ⟨by omega, w, hw, ?_⟩
          have hgt : u * st < w * st := by omega
          have : u < w := by
            rcases Int.lt_or_le u w with z | z
            · exact z
            · have := Int.mul_le_mul_of_nonneg_right z (show 0 ≤ st by omega)
              omega
          omega
      obtain ⟨i1, u, i2, i3⟩ := up 8 hfar
      obtain ⟨c, c1, c2, c3⟩ := reps_mem h hfar
      have g1 := hg.1 c c1
      rw [c2, c3, i2] at g1
      have h9 : (m + 8) * st ≤ u * st := Int.mul_le_mul_of_nonneg_right (by omega) (by omega)
      rw [Int.add_mul] at h9
      omega
    have hlo : ∀ i, i < s.1 → klt (ent s.2 i).1 (ent s.2 i).2.1 k32.toInt64 b32.toInt64 := fun i hi => by
      obtain ⟨c, c1, c2, c3⟩ := reps_mem h hi
      have g1 := hg.1 c c1
      rw [c2, c3] at g1
      unfold klt
      rw [ek64, eb64]
      rcases g1 with z | ⟨z1, z2⟩
      · exact Or.inl z
      · refine Or.inr ⟨z1, ?_⟩
        rcases Int.lt_or_le (ent s.2 i).2.1.toInt b with y | y
        · exact y
        · exfalso
          obtain ⟨d, d1, d2, d3⟩ := hg.2.1 c c1 (by rw [c2]; exact z1) m (by omega) (by rw [c3]; omega)
          obtain ⟨i', i1, i2, i3⟩ := h.2.2 d d1
          refine hno i' i1 ⟨?_, ?_⟩
          · rw [i2, d2, c2]
            exact Int64.toInt_inj.mp (by rw [z1, ek64])
          · rw [i3]
            exact Int64.toInt_inj.mp (by rw [d3, eb64, hm])
    obtain ⟨o1, o2⟩ := ent_open (k := k32) (b := b32) (e := b32 + sz32) (v := v32) hs
    exact ⟨reps_ins (a := s.1) h (Nat.le_refl _) hlo (fun i h1 h2 => absurd h2 (by omega)) o1 o2 hE, by omega, hgi⟩
  · rw [p1]
    dsimp only
    refine ⟨reps_upd (a := j) (e := (b32 + sz32).toInt64) h p2 p3 p4 rfl (fun i hi => ?_) hE, by omega, hgi⟩
    dsimp only
    rw [ent_cm]
    by_cases z : i = j
    · rw [if_pos z, if_pos z, ← p3, ← p4]; rfl
    · rw [if_neg z, if_neg z]
/-- what a row gives to its windows -/
def rowC (st sz : Int32) (r : Nat × Int32 × Int32 × Int32 × Bool) : List Cn := (List.range' 0 (kn st sz r.2.2.1)).map (fun c => (r.2.1.toInt64, (cb st c (fbo st sz r.2.2.1)).toInt64, r.2.2.2.1.toInt64))
theorem pgrid {st sz : Int32} {d : Rd} (hs : 1 ≤ st.toInt) (hS1 : st.toInt ≤ sz.toInt) (hS2 : sz.toInt ≤ 1000000) (hS8 : sz.toInt ≤ 8 * st.toInt) (hT0 : 0 ≤ d.2.2.1.toInt) (hT : d.2.2.1.toInt ≤ 100000000) :
    ∀ (f c : Nat) (s : Ps) (L : List Cn), c + f = kn st sz d.2.2.1 → Reps s L (EG sz.toInt) → s.1 + f ≤ 2400 → GI st.toInt sz.toInt d.2.1.toInt d.2.2.1.toInt L → (∀ n : Int, d.2.2.1.toInt - sz.toInt < n * st.toInt → n * st.toInt < (fbo st sz d.2.2.1).toInt + c * st.toInt → ∃ y, y ∈ L ∧ y.1 = d.2.1.toInt64 ∧ y.2.1.toInt = n * st.toInt) →
    Reps (ps_grid sz st d (8 - c) (cb st c (fbo st sz d.2.2.1)) s) (L ++ (List.range' c f).map (fun c => (d.2.1.toInt64, (cb st c (fbo st sz d.2.2.1)).toInt64, d.2.2.2.1.toInt64))) (EG sz.toInt) ∧ (ps_grid sz st d (8 - c) (cb st c (fbo st sz d.2.2.1)) s).1 ≤ s.1 + f ∧ GI st.toInt sz.toInt d.2.1.toInt d.2.2.1.toInt (L ++ (List.range' c f).map (fun c => (d.2.1.toInt64, (cb st c (fbo st sz d.2.2.1)).toInt64, d.2.2.2.1.toInt64))) := by
  obtain ⟨k1, -, -, k4, k5, k6, k7, k8, m, hm⟩ := kn_all hs hS1 hS2 hS8 hT0 hT
  intro f
  induction f with
  | zero =>
    intro c s L e h hs0 hg _
    have ec : c = kn st sz d.2.2.1 := by omega
    have z : ps_grid sz st d (8 - c) (cb st c (fbo st sz d.2.2.1)) s = s := by
      rw [ec]
      cases h8 : 8 - kn st sz d.2.2.1 with
      | zero => rfl
      | succ t => exact if_neg k5
    rw [z]
    show Reps s (L ++ []) _ ∧ _ ∧ GI _ _ _ _ (L ++ [])
    rw [List.append_nil]
    exact ⟨h, by omega, hg⟩
  | succ f ih =>
    intro c s L e h hs0 hg hprev
    have hc : c < kn st sz d.2.2.1 := by omega
    have v1 := k6 c (by omega)
    have v2 := Int32.le_iff_toInt_le.mp (k4 c hc).2.2
    have hmul : 0 ≤ (c : Int) * st.toInt := Int.mul_nonneg (by omega) (by omega)
    have ee : (cb st c (fbo st sz d.2.2.1) + sz).toInt = ((fbo st sz d.2.2.1).toInt + c * st.toInt) + sz.toInt := by
      rw [tA (by omega) (by omega), v1]
    have hmc : (fbo st sz d.2.2.1).toInt + c * st.toInt = (m + c) * st.toInt := by rw [Int.add_mul, hm]
    obtain ⟨a1, a2, a3⟩ := pone (v32 := d.2.2.2.1) h (by omega) hg rfl v1 ee hs hS8 (by omega) (by omega) hmc hprev
    have hx : ((c + 1 : Nat) : Int) * st.toInt = c * st.toInt + st.toInt := by rw [Int.natCast_add, Int.add_mul]; simp
    obtain ⟨b1, b2, b3⟩ := ih (c + 1) (ps_one s d.2.1 (cb st c (fbo st sz d.2.2.1)) (cb st c (fbo st sz d.2.2.1) + sz) d.2.2.2.1) (L ++ [(d.2.1.toInt64, (cb st c (fbo st sz d.2.2.1)).toInt64, d.2.2.2.1.toInt64)]) (by omega) a1 (by omega) a3 (fun n n1 n2 => by
      rcases Int.lt_or_le (n * st.toInt) ((fbo st sz d.2.2.1).toInt + c * st.toInt) with y | y
      · obtain ⟨z, z1, z2⟩ := hprev n n1 y
        exact ⟨z, List.mem_append_left _ z1, z2⟩
      · refine ⟨_, List.mem_append_right _ (List.mem_singleton.mpr rfl), rfl, ?_⟩
        show (cb st c (fbo st sz d.2.2.1)).toInt64.toInt = _
        rw [Int32.toInt_toInt64, v1, hmc]
        rw [hx, ← Int.add_assoc, hmc] at n2
        rw [hmc] at y
        have e1 : n < m + c + 1 := by
          rcases Int.lt_or_le n (m + c + 1) with u | u
          · exact u
          · have := Int.mul_le_mul_of_nonneg_right u (show 0 ≤ st.toInt by omega)
            rw [Int.add_mul, Int.one_mul] at this
            omega
        have e2 : m + c ≤ n := by
          rcases Int.lt_or_le n (m + c) with u | u
          · have := Int.mul_le_mul_of_nonneg_right (show n + 1 ≤ m + c by omega) (show 0 ≤ st.toInt by omega)
            rw [Int.add_mul, Int.one_mul] at this
            omega
          · exact u
        rw [show n = m + c by omega])
    have e8 : 8 - c = (8 - (c + 1)) + 1 := by omega
    have est : ps_grid sz st d (8 - c) (cb st c (fbo st sz d.2.2.1)) s = ps_grid sz st d (8 - (c + 1)) (cb st (c + 1) (fbo st sz d.2.2.1)) (ps_one s d.2.1 (cb st c (fbo st sz d.2.2.1)) (cb st c (fbo st sz d.2.2.1) + sz) d.2.2.2.1) := by
      rw [e8]
      exact if_pos (k4 c hc).2.2
    rw [est, List.range'_succ, List.map_cons]
    rw [List.append_assoc, List.singleton_append] at b1 b3
    exact ⟨b1, by omega, b3⟩
/-- the reference -/
theorem mgrid {st sz k t : Int32} {v : Int64} {B : Nat → Int32} (hs : 1 ≤ st.toInt) (hS1 : st.toInt ≤ sz.toInt) (hS2 : sz.toInt ≤ 1000000) (hS8 : sz.toInt ≤ 8 * st.toInt) (hT0 : 0 ≤ t.toInt) (hT : t.toInt ≤ 100000000) (hB : ∀ i, i < kn st sz t → B i = cb st i (fbo st sz t)) :
    ∀ (f c : Nat) (q : Ps) (L : List Cn), c + f = kn st sz t → Reps q L (EG sz.toInt) → Reps (pg_run B sz k v f c q) (L ++ (List.range' c f).map (fun c => (k.toInt64, (cb st c (fbo st sz t)).toInt64, v))) (EG sz.toInt) := by
  obtain ⟨k1, -, -, k4, k5, k6, k7, k8, m, hm⟩ := kn_all hs hS1 hS2 hS8 hT0 hT
  intro f
  induction f with
  | zero =>
    intro c q L e h
    show Reps q (L ++ []) _
    rw [List.append_nil]
    exact h
  | succ f ih =>
    intro c q L e h
    have hc : c < kn st sz t := by omega
    have v1 := k6 c (by omega)
    have v2 := Int32.le_iff_toInt_le.mp (k4 c hc).2.2
    have hmul : 0 ≤ (c : Int) * st.toInt := Int.mul_nonneg (by omega) (by omega)
    have ee : (cb st c (fbo st sz t) + sz).toInt = (cb st c (fbo st sz t)).toInt + sz.toInt := tA (by omega) (by omega)
    have hE : EG sz.toInt k.toInt64 (cb st c (fbo st sz t)).toInt64 (cb st c (fbo st sz t) + sz).toInt64 := by
      unfold EG
      rw [Int32.toInt_toInt64, Int32.toInt_toInt64, ee]
    have h1 := reps_pi (v := v) h hE (fun e' he' => Int64.toInt_inj.mp (by unfold EG at he' hE; omega))
    have h2 := ih (c + 1) _ _ (by omega) h1
    unfold pg_run
    rw [hB c hc, List.range'_succ, List.map_cons]
    rw [List.append_assoc, List.singleton_append] at h2
    exact h2
