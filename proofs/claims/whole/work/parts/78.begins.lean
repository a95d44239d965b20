/-! THE COMPARISON: the begins of the windows that have a time in them -/
/-- the class's begins -/
def cb (st : Int32) : Nat → Int32 → Int32
  | 0, b => b
  | i + 1, b => cb st i b + st
theorem tdiv_low {X s : Int} (hs : 0 < s) (hX : 0 ≤ X) : X.tdiv s * s ≤ X ∧ X < X.tdiv s * s + s := by
  have h1 := Int.mul_tdiv_add_tmod X s
  have h2 := Int.tmod_nonneg s hX
  have h3 := Int.tmod_lt_of_pos X hs
  rw [Int.mul_comm] at h1
  omega
theorem tdiv_neg {X s : Int} (hs : 0 < s) (hX : X < 0) : X ≤ X.tdiv s * s ∧ X.tdiv s * s - s < X := by
  have h0 := tdiv_low (X := -X) hs (by omega)
  rw [Int.neg_tdiv, Int.neg_mul] at h0
  omega
theorem mul_bd {a s c : Int} (hs : 1 ≤ s) (h1 : -c ≤ a * s) (h2 : a * s ≤ c) : -c ≤ a ∧ a ≤ c := by
  rcases Int.le_total 0 a with z | z
  · have := Int.mul_le_mul_of_nonneg_left hs z
    omega
  · have : (-a) * 1 ≤ (-a) * s := Int.mul_le_mul_of_nonneg_left hs (by omega)
    rw [Int.neg_mul, Int.neg_mul] at this
    omega
theorem fdiv_val {x y : Int32} (hy : 1 ≤ y.toInt) (hy2 : y.toInt ≤ 1000000) (hx1 : -1000000 ≤ x.toInt) (hx2 : x.toInt ≤ 100000000) : ∃ q : Int, (rv_fdiv x y).toInt = q ∧ q * y.toInt ≤ x.toInt ∧ x.toInt < q * y.toInt + y.toInt := by
  have hd : ∀ P : Int, P = x.toInt.tdiv y.toInt * y.toInt → -2000000 ≤ P ∧ P ≤ 100000000 → (x / y).toInt = x.toInt.tdiv y.toInt ∧ (x / y * y).toInt = P := fun P hP hb => by
    have b := mul_bd (a := x.toInt.tdiv y.toInt) (s := y.toInt) (c := 100000000) hy (by omega) (by omega)
    have e1 := tD (a := x) (b := y) (by omega) (by omega)
    refine ⟨e1, ?_⟩
    rw [tM (by rw [e1]; omega) (by rw [e1]; omega), e1, hP]
  unfold rv_fdiv
  rcases Int.lt_or_le x.toInt 0 with hX | hX
  · have t := tdiv_neg (s := y.toInt) (by omega) hX
    obtain ⟨e1, e2⟩ := hd _ rfl ⟨by omega, by omega⟩
    have hno : ¬ 0 ≤ x ^^^ y := fun z => by
      have := tX.mp z
      omega
    by_cases c1 : x / y * y = x
    · rw [if_pos (Or.inr c1)]
      have := congrArg Int32.toInt c1
      rw [e2] at this
      exact ⟨_, e1, by omega, by omega⟩
    · rw [if_neg (fun z => z.elim hno c1)]
      have hne : x.toInt.tdiv y.toInt * y.toInt ≠ x.toInt := fun z => c1 (Int32.toInt_inj.mp (e2.trans z))
      have b := mul_bd (a := x.toInt.tdiv y.toInt) (s := y.toInt) (c := 100000000) hy (by omega) (by omega)
      refine ⟨x.toInt.tdiv y.toInt - 1, ?_, ?_, ?_⟩
      · rw [tS (by rw [e1, show (1 : Int32).toInt = 1 from rfl]; omega) (by rw [e1, show (1 : Int32).toInt = 1 from rfl]; omega), e1]
        rfl
      · rw [Int.sub_mul, Int.one_mul]; omega
      · rw [Int.sub_mul, Int.one_mul]; omega
  · have t := tdiv_low (s := y.toInt) (by omega) hX
    obtain ⟨e1, e2⟩ := hd _ rfl ⟨by omega, by omega⟩
    have hyes : 0 ≤ x ^^^ y := tX.mpr ⟨fun _ => by omega, fun _ => by omega⟩
    rw [if_pos (Or.inl hyes)]
    exact ⟨_, e1, by omega, by omega⟩
theorem dn_val {v b : Int32} (hb : 1 ≤ b.toInt) (hb2 : b.toInt ≤ 1000000) (hv1 : 0 ≤ v.toInt) (hv2 : v.toInt ≤ 100000000) : ∃ a : Int, (dn v b * b).toInt = a * b.toInt ∧ a * b.toInt ≤ v.toInt ∧ v.toInt < a * b.toInt + b.toInt := by
  have t := tdiv_low (s := b.toInt) (by omega) hv1
  have bb := mul_bd (a := v.toInt.tdiv b.toInt) (s := b.toInt) (c := 100000000) hb (by
    have := Int.mul_nonneg (Int.tdiv_nonneg hv1 (show 0 ≤ b.toInt by omega)) (show 0 ≤ b.toInt by omega)
    omega) (by omega)
  have p0 := Int.mul_nonneg (Int.tdiv_nonneg hv1 (show 0 ≤ b.toInt by omega)) (show 0 ≤ b.toInt by omega)
  have e1 := tD (a := v) (b := b) (by omega) (by omega)
  have e2 : (v / b * b).toInt = v.toInt.tdiv b.toInt * b.toInt := by
    rw [tM (by rw [e1]; omega) (by rw [e1]; omega), e1]
  have hno : ¬ v < v / b * b := fun z => by
    have := Int32.lt_iff_toInt_lt.mp z
    omega
  unfold dn
  rw [if_neg hno]
  exact ⟨_, e2, by omega, by omega⟩
theorem cb_val {st b : Int32} {F : Int} (hF : b.toInt = F) (h1 : -2000000 ≤ F) (h2 : F ≤ 110000000) (hs : 1 ≤ st.toInt) (hs2 : st.toInt ≤ 1000000) : ∀ i : Nat, i ≤ 16 → (cb st i b).toInt = F + i * st.toInt
  | 0, _ => by show b.toInt = _; rw [hF]; simp
  | i + 1, hi => by
    have ih := cb_val hF h1 h2 hs hs2 i (by omega)
    show (cb st i b + st).toInt = _
    have hp : 0 ≤ (i : Int) * st.toInt := Int.mul_nonneg (by omega) (by omega)
    have hq : (i : Int) * st.toInt ≤ 16 * 1000000 := Int.mul_le_mul (by omega) hs2 (by omega) (by omega)
    rw [tA (by rw [ih]; omega) (by rw [ih]; omega), ih, Int.natCast_add, Int.add_mul]
    simp
    omega
theorem bg_down {st sz time : Int32} {F : Int} (hs : 1 ≤ st.toInt) (hS1 : st.toInt ≤ sz.toInt) (hS2 : sz.toInt ≤ 1000000) (hT : time.toInt ≤ 100000000) (hT0 : 0 ≤ time.toInt) (hF1 : time.toInt - sz.toInt < F) (hF2 : F ≤ time.toInt - sz.toInt + st.toInt) : ∀ (t j : Nat) (f : Int32), f.toInt = F + j * st.toInt → j ≤ t → j ≤ 16 → (bg_run st sz time t f).toInt = F ∧ bg_ok st sz time t f
  | t, j, f, hf, hj, hj16 => by
    have hp : 0 ≤ (j : Int) * st.toInt := Int.mul_nonneg (by omega) (by omega)
    have hq : (j : Int) * st.toInt ≤ 16 * 1000000 := Int.mul_le_mul (by omega) (by omega) (by omega) (by omega)
    have e1 := tS (a := f) (b := st) (by omega) (by omega)
    have e2 := tA (a := f - st) (b := sz) (by omega) (by omega)
    cases j with
    | zero =>
      have hno : ¬ time < f - st + sz := fun z => by
        have := Int32.lt_iff_toInt_lt.mp z
        simp at hf
        omega
      have hle : f - st + sz ≤ time := Int32.not_lt.mp hno
      simp at hf
      cases t with
      | zero => exact ⟨hf, hle⟩
      | succ t =>
        refine ⟨?_, ?_⟩
        · unfold bg_run; rw [if_pos hle]; exact hf
        · unfold bg_ok; exact fun z => absurd hle z
    | succ j =>
      have hx : ((j + 1 : Nat) : Int) * st.toInt = j * st.toInt + st.toInt := by rw [Int.natCast_add, Int.add_mul]; simp
      have hyes : time < f - st + sz := Int32.lt_iff_toInt_lt.mpr (by
        have : 0 ≤ (j : Int) * st.toInt := Int.mul_nonneg (by omega) (by omega)
        omega)
      cases t with
      | zero => omega
      | succ t =>
        obtain ⟨i1, i2⟩ := bg_down hs hS1 hS2 hT hT0 hF1 hF2 t j (f - st) (by omega) (by omega) (by omega)
        refine ⟨?_, ?_⟩
        · unfold bg_run; rw [if_neg (Int32.not_le.mpr hyes)]; exact i1
        · unfold bg_ok; exact fun _ => i2
theorem bg_all {st sz time : Int32} (hs : 1 ≤ st.toInt) (hS1 : st.toInt ≤ sz.toInt) (hS2 : sz.toInt ≤ 1000000) (hS8 : sz.toInt ≤ 8 * st.toInt) (hT0 : 0 ≤ time.toInt) (hT : time.toInt ≤ 100000000) :
    ∃ K : Nat, 1 ≤ K ∧ K ≤ 8 ∧ bg_ok st sz time 8 (dn time st * st) ∧ bg_of st sz time 8 (nI K) = -99999999 ∧ (∀ i, i < K → bg_of st sz time 8 (nI i) = cb st i ((rv_fdiv (time - sz) st + 1) * st) ∧ ¬ cb st i ((rv_fdiv (time - sz) st + 1) * st) = -99999999 ∧ cb st i ((rv_fdiv (time - sz) st + 1) * st) ≤ time) ∧ ¬ cb st K ((rv_fdiv (time - sz) st + 1) * st) ≤ time ∧ (∀ i, i ≤ 8 → (cb st i ((rv_fdiv (time - sz) st + 1) * st)).toInt = ((rv_fdiv (time - sz) st + 1) * st).toInt + i * st.toInt) ∧ time.toInt - sz.toInt < ((rv_fdiv (time - sz) st + 1) * st).toInt ∧ ((rv_fdiv (time - sz) st + 1) * st).toInt ≤ time.toInt - sz.toInt + st.toInt := by
  have e0 := tS (a := time) (b := sz) (by omega) (by omega)
  obtain ⟨q, q1, q2, q3⟩ := fdiv_val (x := time - sz) (y := st) hs (by omega) (by omega) (by omega)
  obtain ⟨a, a1, a2, a3⟩ := dn_val (v := time) (b := st) hs (by omega) hT0 hT
  have bq := mul_bd (a := q) (s := st.toInt) (c := 101000000) hs (by omega) (by omega)
  have e1 : (rv_fdiv (time - sz) st + 1).toInt = q + 1 := by
    rw [tA (by rw [q1, show (1 : Int32).toInt = 1 from rfl]; omega) (by rw [q1, show (1 : Int32).toInt = 1 from rfl]; omega), q1]; rfl
  have hqs : (q + 1) * st.toInt = q * st.toInt + st.toInt := by rw [Int.add_mul, Int.one_mul]
  have e2 : ((rv_fdiv (time - sz) st + 1) * st).toInt = q * st.toInt + st.toInt := by
    rw [tM (by rw [e1]; omega) (by rw [e1]; omega), e1, hqs]
  generalize hfb : (rv_fdiv (time - sz) st + 1) * st = fb at *
  have hF1 : time.toInt - sz.toInt < fb.toInt := by omega
  have hF2 : fb.toInt ≤ time.toInt - sz.toInt + st.toInt := by omega
  -- the number of steps
  have hk : ∃ k : Nat, k ≤ 7 ∧ a * st.toInt = fb.toInt + k * st.toInt := by
    have hd : a * st.toInt - fb.toInt = (a - q - 1) * st.toInt := by
      rw [e2, Int.sub_mul, Int.sub_mul, Int.one_mul]; omega
    have h0 : 0 ≤ a - q - 1 := by
      rcases Int.lt_or_le (a - q - 1) 0 with z | z
      · exfalso
        have : (a - q - 1) * st.toInt ≤ (-1) * st.toInt := Int.mul_le_mul_of_nonneg_right (by omega) (by omega)
        omega
      · exact z
    have h8 : a - q - 1 < 8 := by
      rcases Int.lt_or_le (a - q - 1) 8 with z | z
      · exact z
      · exfalso
        have : 8 * st.toInt ≤ (a - q - 1) * st.toInt := Int.mul_le_mul_of_nonneg_right z (by omega)
        omega
    refine ⟨(a - q - 1).toNat, by omega, ?_⟩
    rw [Int.toNat_of_nonneg h0]
    omega
  obtain ⟨k, hk7, hka⟩ := hk
  have hla : (dn time st * st).toInt = fb.toInt + k * st.toInt := by rw [a1, hka]
  obtain ⟨g1, g2⟩ := bg_down hs hS1 hS2 hT hT0 hF1 hF2 8 k (dn time st * st) hla (by omega) (by omega)
  have hrun : bg_run st sz time 8 (dn time st * st) = fb := Int32.toInt_inj.mp g1
  have hcb := cb_val (st := st) (b := fb) rfl (by omega) (by omega) hs (by omega)
  have hmul : ∀ i : Nat, i ≤ 8 → 0 ≤ (i : Int) * st.toInt ∧ (i : Int) * st.toInt ≤ 8 * 1000000 := fun i hi => ⟨Int.mul_nonneg (by omega) (by omega), Int.mul_le_mul (by omega) (by omega) (by omega) (by omega)⟩
  have hix : ∀ i : Nat, i ≤ 8 → (fb + nI i * st).toInt = fb.toInt + i * st.toInt := fun i hi => by
    have hm := hmul i hi
    have e3 : (nI i * st).toInt = i * st.toInt := by
      rw [tM (by rw [nI_toInt (by omega)]; omega) (by rw [nI_toInt (by omega)]; omega), nI_toInt (by omega)]
    rw [tA (by rw [e3]; omega) (by rw [e3]; omega), e3]
  have hmono : ∀ i j : Nat, i ≤ j → (i : Int) * st.toInt ≤ (j : Int) * st.toInt := fun i j hij => Int.mul_le_mul_of_nonneg_right (by omega) (by omega)
  have hk1 : ((k + 1 : Nat) : Int) * st.toInt = k * st.toInt + st.toInt := by rw [Int.natCast_add, Int.add_mul]; simp
  refine ⟨k + 1, by omega, by omega, g2, ?_, fun i hi => ?_, ?_, fun i hi => hcb i (by omega), hF1, hF2⟩
  · unfold bg_of
    rw [hrun, if_neg]
    intro z
    have := Int32.le_iff_toInt_le.mp z
    rw [hix (k + 1) (by omega), hla] at this
    omega
  · have hm := hmono i k (by omega)
    have hv := hcb i (by omega)
    have hm2 := hmul i (by omega)
    refine ⟨?_, fun z => ?_, Int32.le_iff_toInt_le.mpr (by omega)⟩
    · unfold bg_of
      rw [hrun, if_pos (Int32.le_iff_toInt_le.mpr (by rw [hix i (by omega), hla]; omega))]
      exact Int32.toInt_inj.mp (by rw [hix i (by omega), hv])
    · rw [z] at hv
      rw [show (-99999999 : Int32).toInt = -99999999 from rfl] at hv
      omega
  · intro z
    have := Int32.le_iff_toInt_le.mp z
    rw [hcb (k + 1) (by omega)] at this
    omega
