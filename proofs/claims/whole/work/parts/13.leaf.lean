/-! LEAVES: the objects' pictures, and the contracts of the small methods (rows laid by leaf.py) -/
def rv_max (x y : Int32) : Int32 := if x < y then y else x
def rv_min (x y : Int32) : Int32 := if y < x then y else x
def rv_maxL (x y : Int64) : Int64 := if x < y then y else x
def rv_minL (x y : Int64) : Int64 := if y < x then y else x
def rv_fdiv (x y : Int32) : Int32 := if 0 ≤ x ^^^ y ∨ x / y * y = x then x / y else x / y - 1
theorem rv_cmp_lt (x y : Int64) : lg_cmp x y < 0 ↔ x < y := by
  unfold lg_cmp
  by_cases h1 : x > y
  · rw [if_pos h1]
    exact ⟨fun h => absurd h (by decide), fun h => absurd h (Int64.not_lt.mpr (Int64.le_of_lt h1))⟩
  · rw [if_neg h1]
    by_cases h2 : x = y
    · subst h2
      rw [if_pos rfl]
      exact ⟨fun h => absurd h (by decide), fun h => absurd h h1⟩
    · rw [if_neg h2]
      exact ⟨fun _ => by
        rcases Int64.lt_or_eq_of_le (Int64.not_lt.mp h1) with h | h
        · exact h
        · exact absurd h h2, fun _ => by decide⟩
theorem rv_cmp_gt (x y : Int64) : 0 < lg_cmp x y ↔ y < x := by
  unfold lg_cmp
  by_cases h1 : x > y
  · rw [if_pos h1]
    exact ⟨fun _ => h1, fun _ => by decide⟩
  · rw [if_neg h1]
    refine ⟨fun h => ?_, fun h => absurd h h1⟩
    by_cases h2 : x = y
    · rw [if_pos h2] at h; exact absurd h (by decide)
    · rw [if_neg h2] at h; exact absurd h (by decide)
theorem rv_bn {b : Bool} (h : ¬ rv_b b = 0) : b = true := by cases b <;> simp [rv_b] at h ⊢
def oOp (n k s st l r m : Int32) : rv_E := .inl (k_Operator, [.int n, .int k, .int s, .int st, .int l, .int r, .int m])
def oTally (c : Int32) (s : Int64) (l g : Int32) : rv_E := .inl (k_Tally, [.int c, .long s, .int l, .int g])
def oWin (o k b e : Int32) (t ch : Bool) (h tl : Nat) : rv_E := .inl (k_Window, [.int o, .int k, .int b, .int e, .int (rv_b t), .int (rv_b ch), .ref h, .ref tl])
def oJoin (f s b e : Int32) (t : Bool) : rv_E := .inl (k_Join, [.int f, .int s, .int b, .int e, .int (rv_b t)])
def oRow (src : Nat) (k t v : Int32) (u : Bool) : rv_E := .inl (k_Row, [.ref src, .int k, .int t, .int v, .int (rv_b u)])
def oRowLog (a : Nat) (n : Int32) : rv_E := .inl (k_RowLog, [.ref a, .int n])
def oSource (n : Int32) (o : Nat) (pr : Int32) (en sp : Bool) (us as br fi : Int32) : rv_E := .inl (k_Source, [.int n, .ref o, .int pr, .int (rv_b en), .int (rv_b sp), .int us, .int as, .int br, .int fi])
def oRing (rm w : Int32) (c : Nat) (el la sz : Int32) : rv_E := .inl (k_Ring, [.int rm, .int w, .ref c, .int el, .int la, .int sz])
def oWL (a : Nat) (n : Int32) : rv_E := .inl (k_WindowList, [.ref a, .int n])
/-- (operator, key, begin) in their order -/
def rv_before (o k b o2 k2 b2 : Int32) : Bool := if o = o2 then (if k = k2 then decide (b < b2) else decide (k < k2)) else decide (o < o2)
def rv_after (k t k2 t2 : Int32) : Bool := if k = k2 then decide (t2 < t) else decide (k2 < k)

set_option maxRecDepth 100000 in
theorem ct_max {G : rv_G} {σ : rv_S} (x y : Int32) : rv_Ct G i_Math_max_III 0 0 [.int x, .int y] σ (fun r σ' => r = some (.int (rv_max x y)) ∧ σ' = σ) := by
  refine rv_ctF (M := m_Math_max_III) rfl (by decide +kernel) rfl rfl ?_
  refine rv_V.run rv_gd_Math_max_III [] 400 ?_
  refine And.intro (fun c1 => ?_) (fun c1 => ?_)
  · refine And.intro trivial ?_
    -- path T ret .int y
    exact ⟨by rw [rv_max, if_pos c1], rfl⟩
  · refine And.intro trivial ?_
    -- path F ret .int x
    exact ⟨by rw [rv_max, if_neg c1], rfl⟩

set_option maxRecDepth 100000 in
theorem ct_min {G : rv_G} {σ : rv_S} (x y : Int32) : rv_Ct G i_Math_min_III 0 0 [.int x, .int y] σ (fun r σ' => r = some (.int (rv_min x y)) ∧ σ' = σ) := by
  refine rv_ctF (M := m_Math_min_III) rfl (by decide +kernel) rfl rfl ?_
  refine rv_V.run rv_gd_Math_min_III [] 400 ?_
  refine And.intro (fun c1 => ?_) (fun c1 => ?_)
  · refine And.intro trivial ?_
    -- path T ret .int y
    exact ⟨by rw [rv_min, if_pos c1], rfl⟩
  · refine And.intro trivial ?_
    -- path F ret .int x
    exact ⟨by rw [rv_min, if_neg c1], rfl⟩

set_option maxRecDepth 100000 in
theorem ct_maxL {G : rv_G} {σ : rv_S} (x y : Int64) : rv_Ct G i_Math_max_JJJ 0 0 [.long x, .long y] σ (fun r σ' => r = some (.long (rv_maxL x y)) ∧ σ' = σ) := by
  refine rv_ctF (M := m_Math_max_JJJ) rfl (by decide +kernel) rfl rfl ?_
  refine rv_V.run rv_gd_Math_max_JJJ [] 400 ?_
  refine And.intro (fun c1 => ?_) (fun c1 => ?_)
  · -- path T ret .long y
    exact ⟨by rw [rv_maxL, if_pos ((rv_cmp_lt x y).mp c1)], rfl⟩
  · -- path F ret .long x
    exact ⟨by rw [rv_maxL, if_neg (fun q => c1 ((rv_cmp_lt x y).mpr q))], rfl⟩

set_option maxRecDepth 100000 in
theorem ct_minL {G : rv_G} {σ : rv_S} (x y : Int64) : rv_Ct G i_Math_min_JJJ 0 0 [.long x, .long y] σ (fun r σ' => r = some (.long (rv_minL x y)) ∧ σ' = σ) := by
  refine rv_ctF (M := m_Math_min_JJJ) rfl (by decide +kernel) rfl rfl ?_
  refine rv_V.run rv_gd_Math_min_JJJ [] 400 ?_
  refine And.intro (fun c1 => ?_) (fun c1 => ?_)
  · -- path T ret .long y
    exact ⟨by rw [rv_minL, if_pos ((rv_cmp_gt x y).mp c1)], rfl⟩
  · -- path F ret .long x
    exact ⟨by rw [rv_minL, if_neg (fun q => c1 ((rv_cmp_gt x y).mpr q))], rfl⟩

set_option maxRecDepth 100000 in
theorem ct_floorDiv {G : rv_G} {σ : rv_S} (x y : Int32) (hy : ¬ y = 0) : rv_Ct G i_Math_floorDiv 0 0 [.int x, .int y] σ (fun r σ' => r = some (.int (rv_fdiv x y)) ∧ σ' = σ) := by
  refine rv_ctF (M := m_Math_floorDiv) rfl (by decide +kernel) rfl rfl ?_
  refine rv_V.run rv_gd_Math_floorDiv [] 400 ?_
  refine And.intro hy ?_
  refine And.intro (fun c1 => ?_) (fun c1 => ?_)
  · refine And.intro trivial ?_
    -- path T ret .int (x / y)
    exact ⟨by rw [rv_fdiv, if_pos (Or.inl c1)], rfl⟩
  · refine And.intro (fun c2 => ?_) (fun c2 => ?_)
    · refine And.intro trivial ?_
      -- path FT ret .int (x / y)
      exact ⟨by rw [rv_fdiv, if_pos (Or.inr c2)], rfl⟩
    · refine And.intro trivial ?_
      -- path FF ret .int ((x / y) - 1)
      exact ⟨by rw [rv_fdiv, if_neg (fun q => q.elim c1 c2)], rfl⟩

set_option maxRecDepth 100000 in
theorem ct_Operator_init {G : rv_G} {σ : rv_S} (x : Nat) (n k s sp l r0 : Int32) (hx : σ.2 x = some (oOp 0 0 0 0 0 0 0)) : rv_Ct G i_Operator_init 0 0 [.ref x, .int n, .int k, .int s, .int sp, .int l, .int r0] σ (fun r σ' => r = none ∧ σ' = (σ.1, rv_up σ.2 x (oOp n k s (if k = 1 then sp else s) l r0 0))) := by
  refine rv_ct (M := m_Operator_init) rfl (by decide) rfl rfl ?_
  refine rv_V.run rv_gd_Operator_init [] 400 ?_
  refine Exists.intro _ (And.intro hx (And.intro trivial ?_))
  refine Exists.intro _ (And.intro rv_up_s (And.intro trivial ?_))
  rw [rv_up_up]
  refine Exists.intro _ (And.intro rv_up_s (And.intro trivial ?_))
  rw [rv_up_up]
  refine Exists.intro _ (And.intro rv_up_s (And.intro trivial ?_))
  rw [rv_up_up]
  refine And.intro (fun c1 => ?_) (fun c1 => ?_)
  · refine Exists.intro _ (And.intro rv_up_s (And.intro trivial ?_))
    rw [rv_up_up]
    refine Exists.intro _ (And.intro rv_up_s (And.intro trivial ?_))
    rw [rv_up_up]
    refine Exists.intro _ (And.intro rv_up_s (And.intro trivial ?_))
    rw [rv_up_up]
    -- path T ret None
    rw [if_pos c1]
    exact ⟨rfl, rfl⟩
  · refine Exists.intro _ (And.intro rv_up_s (And.intro trivial ?_))
    rw [rv_up_up]
    refine Exists.intro _ (And.intro rv_up_s (And.intro trivial ?_))
    rw [rv_up_up]
    refine Exists.intro _ (And.intro rv_up_s (And.intro trivial ?_))
    rw [rv_up_up]
    -- path F ret None
    rw [if_neg c1]
    exact ⟨rfl, rfl⟩

set_option maxRecDepth 100000 in
theorem ct_hasReached {G : rv_G} {σ : rv_S} (x : Nat) (n k s st l r0 m : Int32) (e : Int32) (hx : σ.2 x = some (oOp n k s st l r0 m)) : rv_Ct G i_Operator_hasReached 0 0 [.ref x, .int e] σ (fun r σ' => r = some (.int (rv_b (decide (e ≤ m)))) ∧ σ' = σ) := by
  refine rv_ct (M := m_Operator_hasReached) rfl (by decide) rfl rfl ?_
  refine rv_V.run rv_gd_Operator_hasReached [] 400 ?_
  refine Exists.intro _ (And.intro hx ?_)
  refine And.intro (fun c1 => ?_) (fun c1 => ?_)
  · refine And.intro (Or.inl rfl) ?_
    -- path T ret .int 0
    exact ⟨by rw [decide_eq_false (Int32.not_le.mpr c1)]; rfl, rfl⟩
  · refine And.intro (Or.inr rfl) ?_
    -- path F ret .int 1
    exact ⟨by rw [decide_eq_true (Int32.not_lt.mp c1)]; rfl, rfl⟩

set_option maxRecDepth 100000 in
theorem ct_closes {G : rv_G} {σ : rv_S} (x : Nat) (n k s st l r0 m : Int32) (e : Int32) (hx : σ.2 x = some (oOp n k s st l r0 m)) : rv_Ct G i_Operator_closes 0 0 [.ref x, .int e] σ (fun r σ' => r = some (.int (rv_b (decide (e + l ≤ m)))) ∧ σ' = σ) := by
  refine rv_ct (M := m_Operator_closes) rfl (by decide) rfl rfl ?_
  refine rv_V.run rv_gd_Operator_closes [] 400 ?_
  refine Exists.intro _ (And.intro hx ?_)
  refine Exists.intro _ (And.intro hx ?_)
  refine And.intro (fun c1 => ?_) (fun c1 => ?_)
  · refine And.intro (Or.inl rfl) ?_
    -- path T ret .int 0
    exact ⟨by rw [decide_eq_false (Int32.not_le.mpr c1)]; rfl, rfl⟩
  · refine And.intro (Or.inr rfl) ?_
    -- path F ret .int 1
    exact ⟨by rw [decide_eq_true (Int32.not_lt.mp c1)]; rfl, rfl⟩

set_option maxRecDepth 100000 in
theorem ct_firstBegin {G : rv_G} {σ : rv_S} (x : Nat) (n k s st l r0 m : Int32) (t : Int32) (hx : σ.2 x = some (oOp n k s st l r0 m)) (h1 : 1 ≤ st) (h0 : ¬ st = 0) : rv_Ct G i_Operator_firstBegin 0 0 [.ref x, .int t] σ (fun r σ' => r = some (.int ((rv_fdiv (t - s) st + 1) * st)) ∧ σ' = σ) := by
  refine rv_ct (M := m_Operator_firstBegin) rfl (by decide) rfl rfl ?_
  refine rv_V.run rv_gd_Operator_firstBegin [] 400 ?_
  refine Exists.intro _ (And.intro hx ?_)
  refine And.intro (fun c1 => ?_) (fun c1 => ?_)
  · refine Exists.intro _ (And.intro hx ?_)
    refine Exists.intro _ (And.intro hx ?_)
    refine ⟨_, _, _, ct_floorDiv _ _ h0, Nat.zero_le _, Nat.zero_le _, rfl, ?_⟩
    rintro _ _ ⟨rfl, rfl⟩
    refine Exists.intro _ (And.intro hx ?_)
    refine And.intro trivial ?_
    -- path T ret .int (((rv_fdiv (t - s) st) + 1) * st)
    exact ⟨rfl, rfl⟩
  · refine And.intro trivial ?_
    -- path F ret .int t
    exact absurd h1 c1

set_option maxRecDepth 100000 in
theorem ct_Source_init {G : rv_G} {σ : rv_S} (x : Nat) (n : Int32) (o : Nat) (hx : σ.2 x = some (.inl (k_Source, [.int 0, .null, .int 0, .int 0, .int 0, .int 0, .int 0, .int 0, .int 0]))) : rv_Ct G i_Source_init 0 0 [.ref x, .int n, .ref o] σ (fun r σ' => r = none ∧ σ' = (σ.1, rv_up σ.2 x (oSource n o 0 false false 0 0 0 (-99999999)))) := by
  refine rv_ct (M := m_Source_init) rfl (by decide) rfl rfl ?_
  refine rv_V.run rv_gd_Source_init [] 400 ?_
  refine Exists.intro _ (And.intro hx (And.intro trivial ?_))
  refine Exists.intro _ (And.intro rv_up_s (And.intro (Or.inl rfl) ?_))
  rw [rv_up_up]
  refine Exists.intro _ (And.intro rv_up_s (And.intro (Or.inl rfl) ?_))
  rw [rv_up_up]
  refine Exists.intro _ (And.intro rv_up_s (And.intro trivial ?_))
  rw [rv_up_up]
  refine Exists.intro _ (And.intro rv_up_s (And.intro trivial ?_))
  rw [rv_up_up]
  refine Exists.intro _ (And.intro rv_up_s (And.intro trivial ?_))
  rw [rv_up_up]
  refine Exists.intro _ (And.intro rv_up_s (And.intro trivial ?_))
  rw [rv_up_up]
  refine Exists.intro _ (And.intro rv_up_s (And.intro trivial ?_))
  rw [rv_up_up]
  refine Exists.intro _ (And.intro rv_up_s (And.intro trivial ?_))
  rw [rv_up_up]
  -- path  ret None
  exact ⟨rfl, rfl⟩

set_option maxRecDepth 100000 in
theorem ct_noteRow {G : rv_G} {σ : rv_S} (x : Nat) (n : Int32) (o : Nat) (pr : Int32) (en sp : Bool) (us as br fi : Int32) (t : Int32) (u : Bool) (hx : σ.2 x = some (oSource n o pr en sp us as br fi)) : rv_Ct G i_Source_noteRow 0 0 [.ref x, .int t, .int (rv_b u)] σ (fun r σ' => r = none ∧ σ' = (σ.1, rv_up σ.2 x (oSource n o pr en sp (if u = true then us + 1 else us) (if u = true then as else as + 1) (if t < pr then br + 1 else br) (if t < pr ∧ br = 0 then t else fi)))) := by
  refine rv_ct (M := m_Source_noteRow) rfl (by decide) rfl rfl ?_
  refine rv_V.run rv_gd_Source_noteRow [] 400 ?_
  refine And.intro (fun c1 => ?_) (fun c1 => ?_)
  · refine Exists.intro _ (And.intro hx ?_)
    refine Exists.intro _ (And.intro hx (And.intro trivial ?_))
    refine Exists.intro _ (And.intro rv_up_s ?_)
    refine And.intro (fun c2 => ?_) (fun c2 => ?_)
    · -- path TT ret None
      rw [rv_b0.mp c1, if_neg (by decide), if_neg (by decide), if_neg (Int32.not_lt.mpr c2), if_neg (fun q => absurd q.1 (Int32.not_lt.mpr c2))]
      exact ⟨rfl, rfl⟩
    · refine Exists.intro _ (And.intro rv_up_s ?_)
      refine And.intro (fun c3 => ?_) (fun c3 => ?_)
      · refine Exists.intro _ (And.intro rv_up_s (And.intro trivial ?_))
        rw [rv_up_up]
        refine Exists.intro _ (And.intro rv_up_s ?_)
        refine Exists.intro _ (And.intro rv_up_s (And.intro trivial ?_))
        rw [rv_up_up]
        -- path TFT ret None
        rw [rv_b0.mp c1, if_neg (by decide), if_neg (by decide), if_pos (Int32.not_le.mp c2), if_pos ⟨Int32.not_le.mp c2, c3⟩]
        exact ⟨rfl, rfl⟩
      · refine Exists.intro _ (And.intro rv_up_s ?_)
        refine Exists.intro _ (And.intro rv_up_s (And.intro trivial ?_))
        rw [rv_up_up]
        -- path TFF ret None
        rw [rv_b0.mp c1, if_neg (by decide), if_neg (by decide), if_pos (Int32.not_le.mp c2), if_neg (fun q => c3 q.2)]
        exact ⟨rfl, rfl⟩
  · refine Exists.intro _ (And.intro hx ?_)
    refine Exists.intro _ (And.intro hx (And.intro trivial ?_))
    refine Exists.intro _ (And.intro rv_up_s ?_)
    refine And.intro (fun c4 => ?_) (fun c4 => ?_)
    · -- path FT ret None
      rw [rv_bn c1, if_pos rfl, if_pos rfl, if_neg (Int32.not_lt.mpr c4), if_neg (fun q => absurd q.1 (Int32.not_lt.mpr c4))]
      exact ⟨rfl, rfl⟩
    · refine Exists.intro _ (And.intro rv_up_s ?_)
      refine And.intro (fun c5 => ?_) (fun c5 => ?_)
      · refine Exists.intro _ (And.intro rv_up_s (And.intro trivial ?_))
        rw [rv_up_up]
        refine Exists.intro _ (And.intro rv_up_s ?_)
        refine Exists.intro _ (And.intro rv_up_s (And.intro trivial ?_))
        rw [rv_up_up]
        -- path FFT ret None
        rw [rv_bn c1, if_pos rfl, if_pos rfl, if_pos (Int32.not_le.mp c4), if_pos ⟨Int32.not_le.mp c4, c5⟩]
        exact ⟨rfl, rfl⟩
      · refine Exists.intro _ (And.intro rv_up_s ?_)
        refine Exists.intro _ (And.intro rv_up_s (And.intro trivial ?_))
        rw [rv_up_up]
        -- path FFF ret None
        rw [rv_bn c1, if_pos rfl, if_pos rfl, if_pos (Int32.not_le.mp c4), if_neg (fun q => c5 q.2)]
        exact ⟨rfl, rfl⟩

set_option maxRecDepth 100000 in
theorem ct_Tally_init {G : rv_G} {σ : rv_S} (x : Nat) (hx : σ.2 x = some (oTally 0 0 0 0)) : rv_Ct G i_Tally_init 0 0 [.ref x] σ (fun r σ' => r = none ∧ σ' = (σ.1, rv_up σ.2 x (oTally 0 0 0 0))) := by
  refine rv_ct (M := m_Tally_init) rfl (by decide) rfl rfl ?_
  refine rv_V.run rv_gd_Tally_init [] 400 ?_
  refine Exists.intro _ (And.intro hx (And.intro trivial ?_))
  refine Exists.intro _ (And.intro rv_up_s (And.intro trivial ?_))
  rw [rv_up_up]
  refine Exists.intro _ (And.intro rv_up_s (And.intro trivial ?_))
  rw [rv_up_up]
  refine Exists.intro _ (And.intro rv_up_s (And.intro trivial ?_))
  rw [rv_up_up]
  -- path  ret None
  exact ⟨rfl, rfl⟩

set_option maxRecDepth 100000 in
theorem ct_Tally_clear {G : rv_G} {σ : rv_S} (x : Nat) (c : Int32) (s : Int64) (l g : Int32) (hx : σ.2 x = some (oTally c s l g)) : rv_Ct G i_Tally_clear 0 0 [.ref x] σ (fun r σ' => r = none ∧ σ' = (σ.1, rv_up σ.2 x (oTally 0 0 0 0))) := by
  refine rv_ct (M := m_Tally_clear) rfl (by decide) rfl rfl ?_
  refine rv_V.run rv_gd_Tally_clear [] 400 ?_
  refine Exists.intro _ (And.intro hx (And.intro trivial ?_))
  refine Exists.intro _ (And.intro rv_up_s (And.intro trivial ?_))
  rw [rv_up_up]
  refine Exists.intro _ (And.intro rv_up_s (And.intro trivial ?_))
  rw [rv_up_up]
  refine Exists.intro _ (And.intro rv_up_s (And.intro trivial ?_))
  rw [rv_up_up]
  -- path  ret None
  exact ⟨rfl, rfl⟩

set_option maxRecDepth 100000 in
theorem ct_Tally_copy {G : rv_G} {σ : rv_S} (x y : Nat) (c : Int32) (s : Int64) (l g : Int32) (c2 : Int32) (s2 : Int64) (l2 g2 : Int32) (hx : σ.2 x = some (oTally c s l g)) (hy : σ.2 y = some (oTally c2 s2 l2 g2)) (hxy : y ≠ x) : rv_Ct G i_Tally_copy 0 0 [.ref x, .ref y] σ (fun r σ' => r = none ∧ σ' = (σ.1, rv_up σ.2 x (oTally c2 s2 l2 g2))) := by
  refine rv_ct (M := m_Tally_copy) rfl (by decide) rfl rfl ?_
  refine rv_V.run rv_gd_Tally_copy [] 400 ?_
  refine Exists.intro _ (And.intro hy ?_)
  refine Exists.intro _ (And.intro hx (And.intro trivial ?_))
  refine Exists.intro _ (And.intro ((rv_up_n hxy).trans hy) ?_)
  refine Exists.intro _ (And.intro rv_up_s (And.intro trivial ?_))
  rw [rv_up_up]
  refine Exists.intro _ (And.intro ((rv_up_n hxy).trans hy) ?_)
  refine Exists.intro _ (And.intro rv_up_s (And.intro trivial ?_))
  rw [rv_up_up]
  refine Exists.intro _ (And.intro ((rv_up_n hxy).trans hy) ?_)
  refine Exists.intro _ (And.intro rv_up_s (And.intro trivial ?_))
  rw [rv_up_up]
  -- path  ret None
  exact ⟨rfl, rfl⟩

set_option maxRecDepth 100000 in
theorem ct_Tally_add {G : rv_G} {σ : rv_S} (x : Nat) (c : Int32) (s : Int64) (l g : Int32) (v : Int32) (hx : σ.2 x = some (oTally c s l g)) : rv_Ct G i_Tally_add 0 0 [.ref x, .int v] σ (fun r σ' => r = none ∧ σ' = (σ.1, rv_up σ.2 x (oTally (c + 1) (s + v.toInt64) (if c = 0 then v else rv_min l v) (if c = 0 then v else rv_max g v)))) := by
  refine rv_ct (M := m_Tally_add) rfl (by decide) rfl rfl ?_
  refine rv_V.run rv_gd_Tally_add [] 400 ?_
  refine Exists.intro _ (And.intro hx ?_)
  refine And.intro (fun c1 => ?_) (fun c1 => ?_)
  · refine Exists.intro _ (And.intro hx (And.intro trivial ?_))
    refine Exists.intro _ (And.intro rv_up_s ?_)
    refine And.intro (fun c2 => ?_) (fun c2 => ?_)
    · refine Exists.intro _ (And.intro rv_up_s (And.intro trivial ?_))
      rw [rv_up_up]
      refine Exists.intro _ (And.intro rv_up_s ?_)
      refine Exists.intro _ (And.intro rv_up_s (And.intro trivial ?_))
      rw [rv_up_up]
      refine Exists.intro _ (And.intro rv_up_s ?_)
      refine Exists.intro _ (And.intro rv_up_s (And.intro trivial ?_))
      rw [rv_up_up]
      -- path TT ret None
      rw [if_pos c1, if_pos c1]
      exact ⟨rfl, rfl⟩
    · refine Exists.intro _ (And.intro rv_up_s ?_)
      refine ⟨_, _, _, ct_max _ _, Nat.zero_le _, Nat.zero_le _, rfl, ?_⟩
      rintro _ _ ⟨rfl, rfl⟩
      refine Exists.intro _ (And.intro rv_up_s (And.intro trivial ?_))
      rw [rv_up_up]
      refine Exists.intro _ (And.intro rv_up_s ?_)
      refine Exists.intro _ (And.intro rv_up_s (And.intro trivial ?_))
      rw [rv_up_up]
      refine Exists.intro _ (And.intro rv_up_s ?_)
      refine Exists.intro _ (And.intro rv_up_s (And.intro trivial ?_))
      rw [rv_up_up]
      -- path TF ret None
      exact absurd c1 c2
  · refine Exists.intro _ (And.intro hx ?_)
    refine ⟨_, _, _, ct_min _ _, Nat.zero_le _, Nat.zero_le _, rfl, ?_⟩
    rintro _ _ ⟨rfl, rfl⟩
    refine Exists.intro _ (And.intro hx (And.intro trivial ?_))
    refine Exists.intro _ (And.intro rv_up_s ?_)
    refine And.intro (fun c3 => ?_) (fun c3 => ?_)
    · refine Exists.intro _ (And.intro rv_up_s (And.intro trivial ?_))
      rw [rv_up_up]
      refine Exists.intro _ (And.intro rv_up_s ?_)
      refine Exists.intro _ (And.intro rv_up_s (And.intro trivial ?_))
      rw [rv_up_up]
      refine Exists.intro _ (And.intro rv_up_s ?_)
      refine Exists.intro _ (And.intro rv_up_s (And.intro trivial ?_))
      rw [rv_up_up]
      -- path FT ret None
      exact absurd c3 c1
    · refine Exists.intro _ (And.intro rv_up_s ?_)
      refine ⟨_, _, _, ct_max _ _, Nat.zero_le _, Nat.zero_le _, rfl, ?_⟩
      rintro _ _ ⟨rfl, rfl⟩
      refine Exists.intro _ (And.intro rv_up_s (And.intro trivial ?_))
      rw [rv_up_up]
      refine Exists.intro _ (And.intro rv_up_s ?_)
      refine Exists.intro _ (And.intro rv_up_s (And.intro trivial ?_))
      rw [rv_up_up]
      refine Exists.intro _ (And.intro rv_up_s ?_)
      refine Exists.intro _ (And.intro rv_up_s (And.intro trivial ?_))
      rw [rv_up_up]
      -- path FF ret None
      rw [if_neg c1, if_neg c1]
      exact ⟨rfl, rfl⟩

set_option maxRecDepth 100000 in
theorem ct_Tally_addAll {G : rv_G} {σ : rv_S} (x y : Nat) (c : Int32) (s : Int64) (l g : Int32) (c2 : Int32) (s2 : Int64) (l2 g2 : Int32) (hx : σ.2 x = some (oTally c s l g)) (hy : σ.2 y = some (oTally c2 s2 l2 g2)) (hxy : y ≠ x) : rv_Ct G i_Tally_addAll 0 0 [.ref x, .ref y] σ (fun r σ' => r = none ∧ σ' = (σ.1, rv_up σ.2 x (oTally (c + c2) (s + s2) (rv_min l l2) (rv_max g g2)))) := by
  refine rv_ct (M := m_Tally_addAll) rfl (by decide) rfl rfl ?_
  refine rv_V.run rv_gd_Tally_addAll [] 400 ?_
  refine Exists.intro _ (And.intro hx ?_)
  refine Exists.intro _ (And.intro hy ?_)
  refine ⟨_, _, _, ct_min _ _, Nat.zero_le _, Nat.zero_le _, rfl, ?_⟩
  rintro _ _ ⟨rfl, rfl⟩
  refine Exists.intro _ (And.intro hx (And.intro trivial ?_))
  refine Exists.intro _ (And.intro rv_up_s ?_)
  refine Exists.intro _ (And.intro ((rv_up_n hxy).trans hy) ?_)
  refine ⟨_, _, _, ct_max _ _, Nat.zero_le _, Nat.zero_le _, rfl, ?_⟩
  rintro _ _ ⟨rfl, rfl⟩
  refine Exists.intro _ (And.intro rv_up_s (And.intro trivial ?_))
  rw [rv_up_up]
  refine Exists.intro _ (And.intro rv_up_s ?_)
  refine Exists.intro _ (And.intro ((rv_up_n hxy).trans hy) ?_)
  refine Exists.intro _ (And.intro rv_up_s (And.intro trivial ?_))
  rw [rv_up_up]
  refine Exists.intro _ (And.intro rv_up_s ?_)
  refine Exists.intro _ (And.intro ((rv_up_n hxy).trans hy) ?_)
  refine Exists.intro _ (And.intro rv_up_s (And.intro trivial ?_))
  rw [rv_up_up]
  -- path  ret None
  exact ⟨rfl, rfl⟩

set_option maxRecDepth 100000 in
theorem ct_belongsTo {G : rv_G} {σ : rv_S} (x : Nat) (o k b e : Int32) (t ch : Bool) (h tl : Nat) (o2 k2 : Int32) (hx : σ.2 x = some (oWin o k b e t ch h tl)) : rv_Ct G i_Window_belongsTo 0 0 [.ref x, .int o2, .int k2] σ (fun r σ' => r = some (.int (rv_b (decide (o = o2 ∧ k = k2)))) ∧ σ' = σ) := by
  refine rv_ct (M := m_Window_belongsTo) rfl (by decide) rfl rfl ?_
  refine rv_V.run rv_gd_Window_belongsTo [] 400 ?_
  refine Exists.intro _ (And.intro hx ?_)
  refine And.intro (fun c1 => ?_) (fun c1 => ?_)
  · refine Exists.intro _ (And.intro hx ?_)
    refine And.intro (fun c2 => ?_) (fun c2 => ?_)
    · refine And.intro (Or.inr rfl) ?_
      -- path TT ret .int 1
      exact ⟨by rw [decide_eq_true ⟨c1, c2⟩]; rfl, rfl⟩
    · refine And.intro (Or.inl rfl) ?_
      -- path TF ret .int 0
      exact ⟨by rw [decide_eq_false (fun q => c2 q.2)]; rfl, rfl⟩
  · refine And.intro (Or.inl rfl) ?_
    -- path F ret .int 0
    exact ⟨by rw [decide_eq_false (fun q => c1 q.1)]; rfl, rfl⟩

set_option maxRecDepth 100000 in
theorem ct_standsBefore {G : rv_G} {σ : rv_S} (x : Nat) (o k b e : Int32) (t ch : Bool) (h tl : Nat) (o2 k2 b2 : Int32) (hx : σ.2 x = some (oWin o k b e t ch h tl)) : rv_Ct G i_Window_standsBefore 0 0 [.ref x, .int o2, .int k2, .int b2] σ (fun r σ' => r = some (.int (rv_b (rv_before o k b o2 k2 b2))) ∧ σ' = σ) := by
  refine rv_ct (M := m_Window_standsBefore) rfl (by decide) rfl rfl ?_
  refine rv_V.run rv_gd_Window_standsBefore [] 400 ?_
  refine Exists.intro _ (And.intro hx ?_)
  refine And.intro (fun c1 => ?_) (fun c1 => ?_)
  · refine Exists.intro _ (And.intro hx ?_)
    refine And.intro (fun c2 => ?_) (fun c2 => ?_)
    · refine Exists.intro _ (And.intro hx ?_)
      refine And.intro (fun c3 => ?_) (fun c3 => ?_)
      · refine And.intro (Or.inl rfl) ?_
        -- path TTT ret .int 0
        exact ⟨by rw [rv_before, if_pos c1, if_pos c2, decide_eq_false (Int32.not_lt.mpr c3)]; rfl, rfl⟩
      · refine And.intro (Or.inr rfl) ?_
        -- path TTF ret .int 1
        exact ⟨by rw [rv_before, if_pos c1, if_pos c2, decide_eq_true (Int32.not_le.mp c3)]; rfl, rfl⟩
    · refine Exists.intro _ (And.intro hx ?_)
      refine And.intro (fun c4 => ?_) (fun c4 => ?_)
      · refine And.intro (Or.inl rfl) ?_
        -- path TFT ret .int 0
        exact ⟨by rw [rv_before, if_pos c1, if_neg c2, decide_eq_false (Int32.not_lt.mpr c4)]; rfl, rfl⟩
      · refine And.intro (Or.inr rfl) ?_
        -- path TFF ret .int 1
        exact ⟨by rw [rv_before, if_pos c1, if_neg c2, decide_eq_true (Int32.not_le.mp c4)]; rfl, rfl⟩
  · refine Exists.intro _ (And.intro hx ?_)
    refine And.intro (fun c5 => ?_) (fun c5 => ?_)
    · refine And.intro (Or.inl rfl) ?_
      -- path FT ret .int 0
      exact ⟨by rw [rv_before, if_neg c1, decide_eq_false (Int32.not_lt.mpr c5)]; rfl, rfl⟩
    · refine And.intro (Or.inr rfl) ?_
      -- path FF ret .int 1
      exact ⟨by rw [rv_before, if_neg c1, decide_eq_true (Int32.not_le.mp c5)]; rfl, rfl⟩

set_option maxRecDepth 100000 in
theorem ct_Window_start {G : rv_G} {σ : rv_S} (x : Nat) (o k b e : Int32) (t ch : Bool) (h tl : Nat) (o2 k2 b2 e2 : Int32) (c : Int32) (s : Int64) (l g : Int32) (c2 : Int32) (s2 : Int64) (l2 g2 : Int32) (hx : σ.2 x = some (oWin o k b e t ch h tl)) (hh : σ.2 h = some (oTally c s l g)) (ht : σ.2 tl = some (oTally c2 s2 l2 g2)) (n1 : h ≠ x) (n2 : tl ≠ x) (n3 : tl ≠ h) : rv_Ct G i_Window_start 0 0 [.ref x, .int o2, .int k2, .int b2, .int e2] σ (fun r σ' => r = none ∧ σ' = (σ.1, rv_up (rv_up (rv_up σ.2 x (oWin o2 k2 b2 e2 false false h tl)) h (oTally 0 0 0 0)) tl (oTally 0 0 0 0))) := by
  refine rv_ct (M := m_Window_start) rfl (by decide) rfl rfl ?_
  refine rv_V.run rv_gd_Window_start [] 400 ?_
  refine Exists.intro _ (And.intro hx (And.intro trivial ?_))
  refine Exists.intro _ (And.intro rv_up_s (And.intro trivial ?_))
  rw [rv_up_up]
  refine Exists.intro _ (And.intro rv_up_s (And.intro trivial ?_))
  rw [rv_up_up]
  refine Exists.intro _ (And.intro rv_up_s (And.intro trivial ?_))
  rw [rv_up_up]
  refine Exists.intro _ (And.intro rv_up_s (And.intro (Or.inl rfl) ?_))
  rw [rv_up_up]
  refine Exists.intro _ (And.intro rv_up_s (And.intro (Or.inl rfl) ?_))
  rw [rv_up_up]
  refine Exists.intro _ (And.intro rv_up_s ?_)
  refine And.intro (Exists.intro _ ((rv_up_n n1).trans hh)) ?_
  refine ⟨_, _, _, ct_Tally_clear _ c s l g ((rv_up_n n1).trans hh), Nat.zero_le _, Nat.zero_le _, rfl, ?_⟩
  rintro _ _ ⟨rfl, rfl⟩
  refine Exists.intro _ (And.intro ((rv_up_n n1.symm).trans rv_up_s) ?_)
  refine And.intro (Exists.intro _ ((rv_up_n n3).trans ((rv_up_n n2).trans ht))) ?_
  refine ⟨_, _, _, ct_Tally_clear _ c2 s2 l2 g2 ((rv_up_n n3).trans ((rv_up_n n2).trans ht)), Nat.zero_le _, Nat.zero_le _, rfl, ?_⟩
  rintro _ _ ⟨rfl, rfl⟩
  -- path  ret None
  exact ⟨rfl, rfl⟩

set_option maxRecDepth 100000 in
theorem ct_Join_init {G : rv_G} {σ : rv_S} (x : Nat) (hx : σ.2 x = some (oJoin 0 0 0 0 false)) : rv_Ct G i_Join_init 0 0 [.ref x] σ (fun r σ' => r = none ∧ σ' = (σ.1, rv_up σ.2 x (oJoin 0 0 0 0 false))) := by
  refine rv_ct (M := m_Join_init) rfl (by decide) rfl rfl ?_
  refine rv_V.run rv_gd_Join_init [] 400 ?_
  refine Exists.intro _ (And.intro hx (And.intro trivial ?_))
  refine Exists.intro _ (And.intro rv_up_s (And.intro trivial ?_))
  rw [rv_up_up]
  refine Exists.intro _ (And.intro rv_up_s (And.intro trivial ?_))
  rw [rv_up_up]
  refine Exists.intro _ (And.intro rv_up_s (And.intro trivial ?_))
  rw [rv_up_up]
  refine Exists.intro _ (And.intro rv_up_s (And.intro (Or.inl rfl) ?_))
  rw [rv_up_up]
  -- path  ret None
  exact ⟨rfl, rfl⟩

set_option maxRecDepth 100000 in
theorem ct_Join_start {G : rv_G} {σ : rv_S} (x : Nat) (f s b e : Int32) (t : Bool) (b2 e2 f2 : Int32) (hx : σ.2 x = some (oJoin f s b e t)) : rv_Ct G i_Join_start 0 0 [.ref x, .int b2, .int e2, .int f2] σ (fun r σ' => r = none ∧ σ' = (σ.1, rv_up σ.2 x (oJoin f2 0 b2 e2 false))) := by
  refine rv_ct (M := m_Join_start) rfl (by decide) rfl rfl ?_
  refine rv_V.run rv_gd_Join_start [] 400 ?_
  refine Exists.intro _ (And.intro hx (And.intro trivial ?_))
  refine Exists.intro _ (And.intro rv_up_s (And.intro trivial ?_))
  rw [rv_up_up]
  refine Exists.intro _ (And.intro rv_up_s (And.intro trivial ?_))
  rw [rv_up_up]
  refine Exists.intro _ (And.intro rv_up_s (And.intro trivial ?_))
  rw [rv_up_up]
  refine Exists.intro _ (And.intro rv_up_s (And.intro (Or.inl rfl) ?_))
  rw [rv_up_up]
  -- path  ret None
  exact ⟨rfl, rfl⟩

set_option maxRecDepth 100000 in
theorem ct_Join_add {G : rv_G} {σ : rv_S} (x y : Nat) (f s b e : Int32) (t : Bool) (o k b2 e2 : Int32) (t2 ch : Bool) (h tl : Nat) (hx : σ.2 x = some (oJoin f s b e t)) (hy : σ.2 y = some (oWin o k b2 e2 t2 ch h tl)) (hxy : y ≠ x) : rv_Ct G i_Join_add 0 0 [.ref x, .ref y] σ (fun r σ' => r = none ∧ σ' = (σ.1, rv_up σ.2 x (oJoin f (s + 1) (rv_min b b2) (rv_max e e2) (t || t2)))) := by
  refine rv_ct (M := m_Join_add) rfl (by decide) rfl rfl ?_
  refine rv_V.run rv_gd_Join_add [] 400 ?_
  refine Exists.intro _ (And.intro hx ?_)
  refine Exists.intro _ (And.intro hx (And.intro trivial ?_))
  refine Exists.intro _ (And.intro rv_up_s ?_)
  refine Exists.intro _ (And.intro ((rv_up_n hxy).trans hy) ?_)
  refine ⟨_, _, _, ct_min _ _, Nat.zero_le _, Nat.zero_le _, rfl, ?_⟩
  rintro _ _ ⟨rfl, rfl⟩
  refine Exists.intro _ (And.intro rv_up_s (And.intro trivial ?_))
  rw [rv_up_up]
  refine Exists.intro _ (And.intro rv_up_s ?_)
  refine Exists.intro _ (And.intro ((rv_up_n hxy).trans hy) ?_)
  refine ⟨_, _, _, ct_max _ _, Nat.zero_le _, Nat.zero_le _, rfl, ?_⟩
  rintro _ _ ⟨rfl, rfl⟩
  refine Exists.intro _ (And.intro rv_up_s (And.intro trivial ?_))
  rw [rv_up_up]
  refine Exists.intro _ (And.intro rv_up_s ?_)
  refine And.intro (fun c1 => ?_) (fun c1 => ?_)
  · refine Exists.intro _ (And.intro ((rv_up_n hxy).trans hy) ?_)
    refine And.intro (fun c2 => ?_) (fun c2 => ?_)
    · refine Exists.intro _ (And.intro rv_up_s (And.intro (Or.inl rfl) ?_))
      rw [rv_up_up]
      -- path TT ret None
      rw [rv_b0.mp c1, rv_b0.mp c2]
      exact ⟨rfl, rfl⟩
    · refine Exists.intro _ (And.intro rv_up_s (And.intro (Or.inr rfl) ?_))
      rw [rv_up_up]
      -- path TF ret None
      rw [rv_b0.mp c1, rv_bn c2]
      exact ⟨rfl, rfl⟩
  · refine Exists.intro _ (And.intro rv_up_s (And.intro (Or.inr rfl) ?_))
    rw [rv_up_up]
    -- path F ret None
    rw [rv_bn c1]
    exact ⟨rfl, rfl⟩

set_option maxRecDepth 100000 in
theorem ct_Row_init {G : rv_G} {σ : rv_S} (x src : Nat) (k t v : Int32) (u : Bool) (hx : σ.2 x = some (.inl (k_Row, [.null, .int 0, .int 0, .int 0, .int 0]))) : rv_Ct G i_Row_init 0 0 [.ref x, .ref src, .int k, .int t, .int v, .int (rv_b u)] σ (fun r σ' => r = none ∧ σ' = (σ.1, rv_up σ.2 x (oRow src k t v u))) := by
  refine rv_ct (M := m_Row_init) rfl (by decide) rfl rfl ?_
  refine rv_V.run rv_gd_Row_init [] 400 ?_
  refine Exists.intro _ (And.intro hx (And.intro trivial ?_))
  refine Exists.intro _ (And.intro rv_up_s (And.intro trivial ?_))
  rw [rv_up_up]
  refine Exists.intro _ (And.intro rv_up_s (And.intro trivial ?_))
  rw [rv_up_up]
  refine Exists.intro _ (And.intro rv_up_s (And.intro trivial ?_))
  rw [rv_up_up]
  refine Exists.intro _ (And.intro rv_up_s (And.intro (rv_b01 _) ?_))
  rw [rv_up_up]
  -- path  ret None
  exact ⟨rfl, rfl⟩

set_option maxRecDepth 100000 in
theorem ct_standsAfter {G : rv_G} {σ : rv_S} (x src : Nat) (k t v : Int32) (u : Bool) (k2 t2 : Int32) (hx : σ.2 x = some (oRow src k t v u)) : rv_Ct G i_Row_standsAfter 0 0 [.ref x, .int k2, .int t2] σ (fun r σ' => r = some (.int (rv_b (rv_after k t k2 t2))) ∧ σ' = σ) := by
  refine rv_ct (M := m_Row_standsAfter) rfl (by decide) rfl rfl ?_
  refine rv_V.run rv_gd_Row_standsAfter [] 400 ?_
  refine Exists.intro _ (And.intro hx ?_)
  refine And.intro (fun c1 => ?_) (fun c1 => ?_)
  · refine Exists.intro _ (And.intro hx ?_)
    refine And.intro (fun c2 => ?_) (fun c2 => ?_)
    · refine And.intro (Or.inl rfl) ?_
      -- path TT ret .int 0
      exact ⟨by rw [rv_after, if_pos c1, decide_eq_false (Int32.not_lt.mpr c2)]; rfl, rfl⟩
    · refine And.intro (Or.inr rfl) ?_
      -- path TF ret .int 1
      exact ⟨by rw [rv_after, if_pos c1, decide_eq_true (Int32.not_le.mp c2)]; rfl, rfl⟩
  · refine Exists.intro _ (And.intro hx ?_)
    refine And.intro (fun c3 => ?_) (fun c3 => ?_)
    · refine And.intro (Or.inl rfl) ?_
      -- path FT ret .int 0
      exact ⟨by rw [rv_after, if_neg c1, decide_eq_false (Int32.not_lt.mpr c3)]; rfl, rfl⟩
    · refine And.intro (Or.inr rfl) ?_
      -- path FF ret .int 1
      exact ⟨by rw [rv_after, if_neg c1, decide_eq_true (Int32.not_le.mp c3)]; rfl, rfl⟩

set_option maxRecDepth 100000 in
theorem ct_Ring_clear {G : rv_G} {σ : rv_S} (x : Nat) (rm w : Int32) (c : Nat) (el la sz : Int32) (hx : σ.2 x = some (oRing rm w c el la sz)) : rv_Ct G i_Ring_clear 0 0 [.ref x] σ (fun r σ' => r = none ∧ σ' = (σ.1, rv_up σ.2 x (oRing rm w c el la 0))) := by
  refine rv_ct (M := m_Ring_clear) rfl (by decide) rfl rfl ?_
  refine rv_V.run rv_gd_Ring_clear [] 400 ?_
  refine Exists.intro _ (And.intro hx (And.intro trivial ?_))
  -- path  ret None
  exact ⟨rfl, rfl⟩

set_option maxRecDepth 100000 in
theorem ct_dropEldest {G : rv_G} {σ : rv_S} (x : Nat) (rm w : Int32) (c : Nat) (el la sz : Int32) (hx : σ.2 x = some (oRing rm w c el la sz)) : rv_Ct G i_Ring_dropEldest 0 0 [.ref x] σ (fun r σ' => r = none ∧ σ' = (σ.1, rv_up σ.2 x (if sz ≤ 0 then oRing rm w c el la sz else oRing rm w c (if rm ≤ el + 1 then 0 else el + 1) la (sz - 1)))) := by
  refine rv_ct (M := m_Ring_dropEldest) rfl (by decide) rfl rfl ?_
  refine rv_V.run rv_gd_Ring_dropEldest [] 400 ?_
  refine Exists.intro _ (And.intro hx ?_)
  refine And.intro (fun c1 => ?_) (fun c1 => ?_)
  · -- path T ret None
    rw [if_pos c1, rv_up_id hx]
    exact ⟨rfl, rfl⟩
  · refine Exists.intro _ (And.intro hx ?_)
    refine Exists.intro _ (And.intro hx ?_)
    refine And.intro (fun c2 => ?_) (fun c2 => ?_)
    · refine Exists.intro _ (And.intro hx (And.intro trivial ?_))
      refine Exists.intro _ (And.intro rv_up_s ?_)
      refine Exists.intro _ (And.intro rv_up_s (And.intro trivial ?_))
      rw [rv_up_up]
      -- path FT ret None
      rw [if_neg c1, if_pos c2]
      exact ⟨rfl, rfl⟩
    · refine Exists.intro _ (And.intro hx ?_)
      refine Exists.intro _ (And.intro hx (And.intro trivial ?_))
      refine Exists.intro _ (And.intro rv_up_s ?_)
      refine Exists.intro _ (And.intro rv_up_s (And.intro trivial ?_))
      rw [rv_up_up]
      -- path FF ret None
      rw [if_neg c1, if_neg c2]
      exact ⟨rfl, rfl⟩

set_option maxRecDepth 100000 in
theorem ct_Ring_set {G : rv_G} {σ : rv_S} (x : Nat) (rm w : Int32) (c : Nat) (el la sz : Int32) (hx : σ.2 x = some (oRing rm w c el la sz)) (n : Nat) (f : Nat → Int64) (hc : σ.2 c = some (rv_aJ n f)) (i : Int32) (v : Int64) (h0 : ¬ i < 0) (h1 : ¬ w ≤ i) (hin : vp_in (la * w + i) n) : rv_Ct G i_Ring_set 0 0 [.ref x, .int i, .long v] σ (fun r σ' => r = none ∧ σ' = (σ.1, rv_up σ.2 c (rv_aJ n (vp_updL f (la * w + i).toNatClampNeg v)))) := by
  refine rv_ct (M := m_Ring_set) rfl (by decide) rfl rfl ?_
  refine rv_V.run rv_gd_Ring_set [] 400 ?_
  refine And.intro (fun c1 => ?_) (fun c1 => ?_)
  · -- path T ret None
    exact absurd c1 h0
  · refine Exists.intro _ (And.intro hx ?_)
    refine And.intro (fun c2 => ?_) (fun c2 => ?_)
    · -- path FT ret None
      exact absurd c2 h1
    · refine Exists.intro _ (And.intro hx ?_)
      refine Exists.intro _ (And.intro hx ?_)
      refine Exists.intro _ (And.intro hx ?_)
      refine Exists.intro _ (Exists.intro _ (And.intro hc (And.intro (by assumption) ?_)))
      -- path FF ret None
      exact ⟨rfl, rfl⟩

set_option maxRecDepth 100000 in
theorem ct_Ring_get {G : rv_G} {σ : rv_S} (x : Nat) (rm w : Int32) (c : Nat) (el la sz : Int32) (hx : σ.2 x = some (oRing rm w c el la sz)) (n : Nat) (f : Nat → Int64) (hc : σ.2 c = some (rv_aJ n f)) (i j : Int32) (hin : ¬ i < 0 → ¬ sz ≤ i → ¬ j < 0 → ¬ w ≤ j → vp_in ((if rm ≤ el + i then el + i - rm else el + i) * w + j) n) : rv_Ct G i_Ring_get 0 0 [.ref x, .int i, .int j] σ (fun r σ' => r = some (.long (if i < 0 ∨ sz ≤ i ∨ j < 0 ∨ w ≤ j then -99999999 else f ((if rm ≤ el + i then el + i - rm else el + i) * w + j).toNatClampNeg)) ∧ σ' = σ) := by
  refine rv_ct (M := m_Ring_get) rfl (by decide) rfl rfl ?_
  refine rv_V.run rv_gd_Ring_get [] 400 ?_
  refine And.intro (fun c1 => ?_) (fun c1 => ?_)
  · -- path T ret .long (-99999999)
    exact ⟨by rw [if_pos (Or.inl c1)], rfl⟩
  · refine Exists.intro _ (And.intro hx ?_)
    refine And.intro (fun c2 => ?_) (fun c2 => ?_)
    · -- path FT ret .long (-99999999)
      exact ⟨by rw [if_pos (Or.inr (Or.inl c2))], rfl⟩
    · refine And.intro (fun c3 => ?_) (fun c3 => ?_)
      · -- path FFT ret .long (-99999999)
        exact ⟨by rw [if_pos (Or.inr (Or.inr (Or.inl c3)))], rfl⟩
      · refine Exists.intro _ (And.intro hx ?_)
        refine And.intro (fun c4 => ?_) (fun c4 => ?_)
        · refine Exists.intro _ (And.intro hx ?_)
          refine Exists.intro _ (And.intro hx ?_)
          refine And.intro (fun c5 => ?_) (fun c5 => ?_)
          · refine Exists.intro _ (And.intro hx ?_)
            refine Exists.intro _ (And.intro hx ?_)
            refine Exists.intro _ (And.intro hx ?_)
            refine Exists.intro _ (And.intro hx ?_)
            refine Exists.intro _ (Exists.intro _ (And.intro hc (And.intro (by first | (have q := hin c1 c2 c3 (Int32.not_le.mpr c4); rw [if_pos c5] at q; exact q) | (have q := hin c1 c2 c3 (Int32.not_le.mpr c4); rw [if_neg c5] at q; exact q)) ?_)))
            -- path FFFTT ret .long (f ((((el + i) - rm) * w) + j).toNatClampNeg)
            exact ⟨by rw [if_neg (fun q => q.elim c1 (fun q => q.elim c2 (fun q => q.elim c3 (Int32.not_le.mpr c4)))), if_pos c5], rfl⟩
          · refine Exists.intro _ (And.intro hx ?_)
            refine Exists.intro _ (And.intro hx ?_)
            refine Exists.intro _ (And.intro hx ?_)
            refine Exists.intro _ (Exists.intro _ (And.intro hc (And.intro (by first | (have q := hin c1 c2 c3 (Int32.not_le.mpr c4); rw [if_pos c5] at q; exact q) | (have q := hin c1 c2 c3 (Int32.not_le.mpr c4); rw [if_neg c5] at q; exact q)) ?_)))
            -- path FFFTF ret .long (f (((el + i) * w) + j).toNatClampNeg)
            exact ⟨by rw [if_neg (fun q => q.elim c1 (fun q => q.elim c2 (fun q => q.elim c3 (Int32.not_le.mpr c4)))), if_neg c5], rfl⟩
        · -- path FFFF ret .long (-99999999)
          exact ⟨by rw [if_pos (Or.inr (Or.inr (Or.inr (Int32.not_lt.mp c4))))], rfl⟩
