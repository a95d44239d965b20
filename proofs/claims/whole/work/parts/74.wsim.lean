/-! THE COMPARISON: windows of the class and of the reference -/
def kw (d : Wd) : Int32 × Int32 × Int32 := (d.1.1, d.1.2.1, d.1.2.2.1)
/-- the class's window and the reference's are the same -/
def wsim (ρ : Int32 → Int32) (c r : Wd) : Prop := c.1 = r.1 ∧ c.2.1.1 = r.2.1.1 ∧ c.2.2.1 = r.2.2.1 ∧ (c.2.1.1 = true → c.2.2.2 = r.2.2.2) ∧ c.2.1.2 = (decide (ρ c.1.1 = 1) && (c.2.1.1 && r.2.1.2))
theorem wsim.kw {ρ : Int32 → Int32} {c r : Wd} (h : wsim ρ c r) : kw c = kw r := by show (c.1.1, c.1.2.1, c.1.2.2.1) = (r.1.1, r.1.2.1, r.1.2.2.1); rw [h.1]
def WSim (ρ : Int32 → Int32) (n : Nat) (cw rw : Nat → Wd) : Prop := (∀ j, j < n → ∃ w, w < n ∧ wsim ρ (cw j) (rw w)) ∧ (∀ w, w < n → ∃ j, j < n ∧ wsim ρ (cw j) (rw w)) ∧ (∀ v w, v < n → w < n → kw (rw v) = kw (rw w) → v = w) ∧ (∀ i j, i < n → j < n → kw (cw i) = kw (cw j) → i = j)
section
variable {ρ : Int32 → Int32} {n : Nat} {cw rw cw' rw' : Nat → Wd}
theorem WSim.upd (h : WSim ρ n cw rw) {j0 w0 : Nat} (hj : j0 < n) (hw : w0 < n) (hk : kw (cw j0) = kw (rw w0)) {c' r' : Wd} (hs : wsim ρ c' r') (hc : kw c' = kw (cw j0)) (hcw : ∀ j, j < n → cw' j = if j = j0 then c' else cw j) (hrw : ∀ w, w < n → rw' w = if w = w0 then r' else rw w) : WSim ρ n cw' rw' := by
  obtain ⟨h1, h2, h3, h4⟩ := h
  have kc : ∀ j, j < n → kw (cw' j) = kw (cw j) := fun j hj => by
    rw [hcw j hj]
    by_cases z : j = j0
    · rw [if_pos z, z]; exact hc
    · rw [if_neg z]
  have kr : ∀ w, w < n → kw (rw' w) = kw (rw w) := fun w hw => by
    rw [hrw w hw]
    by_cases z : w = w0
    · rw [if_pos z, z]; exact hs.kw.symm.trans (hc.trans hk)
    · rw [if_neg z]
  refine ⟨fun j hj' => ?_, fun w hw' => ?_, fun v w hv hw he => ?_, fun i j hi hj he => ?_⟩
  · by_cases z : j = j0
    · exact ⟨w0, hw, by rw [hcw j hj', hrw w0 hw, if_pos z, if_pos rfl]; exact hs⟩
    · obtain ⟨w, q1, q2⟩ := h1 j hj'
      have z2 : w ≠ w0 := fun e => z (h4 j j0 hj' hj (q2.kw.trans (by rw [e]; exact hk.symm)))
      exact ⟨w, q1, by rw [hcw j hj', hrw w q1, if_neg z, if_neg z2]; exact q2⟩
  · by_cases z : w = w0
    · exact ⟨j0, hj, by rw [hcw j0 hj, hrw w hw', if_pos z, if_pos rfl]; exact hs⟩
    · obtain ⟨j, q1, q2⟩ := h2 w hw'
      have z2 : j ≠ j0 := fun e => z (h3 w w0 hw' hw (q2.kw.symm.trans (by rw [e]; exact hk)))
      exact ⟨j, q1, by rw [hcw j q1, hrw w hw', if_neg z, if_neg z2]; exact q2⟩
  · rw [kr v hv, kr w hw] at he; exact h3 v w hv hw he
  · rw [kc i hi, kc j hj] at he; exact h4 i j hi hj he
theorem WSim.del (h : WSim ρ n cw rw) {j0 w0 : Nat} (hj : j0 < n) (hw : w0 < n) (hk : kw (cw j0) = kw (rw w0)) (hcw : ∀ j, j < n - 1 → cw' j = if j0 ≤ j then cw (j + 1) else cw j) (hrw : ∀ w, w < n - 1 → rw' w = if w0 ≤ w then rw (w + 1) else rw w) : WSim ρ (n - 1) cw' rw' := by
  obtain ⟨h1, h2, h3, h4⟩ := h
  have toC : ∀ j, j < n - 1 → ∃ i, i < n ∧ i ≠ j0 ∧ cw' j = cw i ∧ (i < j0 → j = i) ∧ (j0 < i → j + 1 = i) := fun j hj => by
    rw [hcw j hj]
    by_cases z : j0 ≤ j
    · exact ⟨j + 1, by omega, by omega, by rw [if_pos z], by omega, by omega⟩
    · exact ⟨j, by omega, by omega, by rw [if_neg z], by omega, by omega⟩
  have toR : ∀ j, j < n - 1 → ∃ i, i < n ∧ i ≠ w0 ∧ rw' j = rw i ∧ (i < w0 → j = i) ∧ (w0 < i → j + 1 = i) := fun j hj => by
    rw [hrw j hj]
    by_cases z : w0 ≤ j
    · exact ⟨j + 1, by omega, by omega, by rw [if_pos z], by omega, by omega⟩
    · exact ⟨j, by omega, by omega, by rw [if_neg z], by omega, by omega⟩
  have frC : ∀ i, i < n → i ≠ j0 → ∃ j, j < n - 1 ∧ cw' j = cw i := fun i hi hne => by
    by_cases z : i < j0
    · exact ⟨i, by omega, by rw [hcw i (by omega), if_neg (by omega)]⟩
    · exact ⟨i - 1, by omega, by rw [hcw (i - 1) (by omega), if_pos (by omega), show i - 1 + 1 = i by omega]⟩
  have frR : ∀ i, i < n → i ≠ w0 → ∃ j, j < n - 1 ∧ rw' j = rw i := fun i hi hne => by
    by_cases z : i < w0
    · exact ⟨i, by omega, by rw [hrw i (by omega), if_neg (by omega)]⟩
    · exact ⟨i - 1, by omega, by rw [hrw (i - 1) (by omega), if_pos (by omega), show i - 1 + 1 = i by omega]⟩
  refine ⟨fun j hj' => ?_, fun w hw' => ?_, fun v w hv hw' he => ?_, fun i j hi hj' he => ?_⟩
  · obtain ⟨i, a1, a2, a3, -, -⟩ := toC j hj'
    obtain ⟨w, q1, q2⟩ := h1 i a1
    have z2 : w ≠ w0 := fun e => a2 (h4 i j0 a1 hj (q2.kw.trans (by rw [e]; exact hk.symm)))
    obtain ⟨u, b1, b2⟩ := frR w q1 z2
    exact ⟨u, b1, by rw [a3, b2]; exact q2⟩
  · obtain ⟨i, a1, a2, a3, -, -⟩ := toR w hw'
    obtain ⟨j, q1, q2⟩ := h2 i a1
    have z2 : j ≠ j0 := fun e => a2 (h3 i w0 a1 hw (q2.kw.symm.trans (by rw [e]; exact hk)))
    obtain ⟨u, b1, b2⟩ := frC j q1 z2
    exact ⟨u, b1, by rw [a3, b2]; exact q2⟩
  · obtain ⟨i, a1, a2, a3, a4, a5⟩ := toR v hv
    obtain ⟨i', b1, b2, b3, b4, b5⟩ := toR w hw'
    rw [a3, b3] at he
    have := h3 i i' a1 b1 he
    omega
  · obtain ⟨u, a1, a2, a3, a4, a5⟩ := toC i hi
    obtain ⟨u', b1, b2, b3, b4, b5⟩ := toC j hj'
    rw [a3, b3] at he
    have := h4 u u' a1 b1 he
    omega
theorem WSim.ins (h : WSim ρ n cw rw) {q : Nat} (hq : q ≤ n) {c' r' : Wd} (hs : wsim ρ c' r') (hno : ∀ j, j < n → kw (cw j) ≠ kw c') (hcw : ∀ j, j < n + 1 → cw' j = if j < q then cw j else if j = q then c' else cw (j - 1)) (hrw : ∀ w, w < n + 1 → rw' w = if w = n then r' else rw w) : WSim ρ (n + 1) cw' rw' := by
  obtain ⟨h1, h2, h3, h4⟩ := h
  have hno2 : ∀ w, w < n → kw (rw w) ≠ kw c' := fun w hw e => by
    obtain ⟨j, q1, q2⟩ := h2 w hw
    exact hno j q1 (q2.kw.trans e)
  have frC : ∀ i, i < n → ∃ j, j < n + 1 ∧ cw' j = cw i := fun i hi => by
    by_cases z : i < q
    · exact ⟨i, by omega, by rw [hcw i (by omega), if_pos z]⟩
    · exact ⟨i + 1, by omega, by rw [hcw (i + 1) (by omega), if_neg (by omega), if_neg (by omega), Nat.add_sub_cancel]⟩
  have frR : ∀ i, i < n → rw' i = rw i := fun i hi => by rw [hrw i (by omega), if_neg (by omega)]
  have nC : cw' q = c' := by rw [hcw q (by omega), if_neg (by omega), if_pos rfl]
  have nR : rw' n = r' := by rw [hrw n (by omega), if_pos rfl]
  have toC : ∀ j, j < n + 1 → j ≠ q → ∃ i, i < n ∧ cw' j = cw i ∧ (j < q → i = j) ∧ (q < j → i + 1 = j) := fun j hj hne => by
    rw [hcw j hj]
    by_cases z : j < q
    · exact ⟨j, by omega, by rw [if_pos z], by omega, by omega⟩
    · exact ⟨j - 1, by omega, by rw [if_neg z, if_neg hne], by omega, by omega⟩
  refine ⟨fun j hj' => ?_, fun w hw' => ?_, fun v w hv hw' he => ?_, fun i j hi hj' he => ?_⟩
  · by_cases z : j = q
    · exact ⟨n, by omega, by rw [z, nC, nR]; exact hs⟩
    · obtain ⟨i, a1, a2, -, -⟩ := toC j hj' z
      obtain ⟨w, q1, q2⟩ := h1 i a1
      exact ⟨w, by omega, by rw [a2, frR w q1]; exact q2⟩
  · by_cases z : w = n
    · exact ⟨q, by omega, by rw [z, nC, nR]; exact hs⟩
    · obtain ⟨j, q1, q2⟩ := h2 w (by omega)
      obtain ⟨u, b1, b2⟩ := frC j q1
      exact ⟨u, b1, by rw [b2, frR w (by omega)]; exact q2⟩
  · by_cases z1 : v = n
    · by_cases z2 : w = n
      · omega
      · rw [z1, nR, frR w (by omega)] at he
        exact absurd (he.symm.trans hs.kw.symm) (hno2 w (by omega))
    · by_cases z2 : w = n
      · rw [z2, nR, frR v (by omega)] at he
        exact absurd (he.trans hs.kw.symm) (hno2 v (by omega))
      · rw [frR v (by omega), frR w (by omega)] at he
        exact h3 v w (by omega) (by omega) he
  · by_cases z1 : i = q
    · by_cases z2 : j = q
      · omega
      · obtain ⟨u, a1, a2, -, -⟩ := toC j hj' z2
        rw [z1, nC, a2] at he
        exact absurd he.symm (hno u a1)
    · by_cases z2 : j = q
      · obtain ⟨u, a1, a2, -, -⟩ := toC i hi z1
        rw [z2, nC, a2] at he
        exact absurd he (hno u a1)
      · obtain ⟨u, a1, a2, a3, a4⟩ := toC i hi z1
        obtain ⟨u', b1, b2, b3, b4⟩ := toC j hj' z2
        rw [a2, b2] at he
        have := h4 u u' a1 b1 he
        omega
end
/-! the class's list, changed -/
theorem cw_upd {p : Nat → Nat} {D : Nat → Wd} {n j : Nat} (hp : ∀ i j, i < 120 → j < 120 → p i = p j → i = j) (hn : n ≤ 120) (hj : j < n) (d : Wd) : ∀ i, i < n → va_up D (p j) d (p i) = if i = j then d else D (p i) := by
  intro i hi
  by_cases z : i = j
  · subst z; rw [va_up_self, if_pos rfl]
  · rw [va_up_ne _ _ (fun e => z (hp i j (by omega) (by omega) e)), if_neg z]
theorem cw_del {p : Nat → Nat} {D : Nat → Wd} {n j : Nat} (hj : j < n) : ∀ i, i < n - 1 → D (rv_del p j n i) = if j ≤ i then D (p (i + 1)) else D (p i) := by
  intro i hi
  unfold rv_del
  by_cases z : j ≤ i
  · rw [if_pos ⟨z, by omega⟩, if_pos z]
  · rw [if_neg (by omega), if_neg (by omega), if_neg z]
theorem cw_ins {p : Nat → Nat} {D : Nat → Wd} {n q : Nat} (hp : ∀ i j, i < 120 → j < 120 → p i = p j → i = j) (hn : n < 120) (hq : q ≤ n) (d : Wd) : ∀ i, i < n + 1 → va_up D (p n) d (rv_ins p q n i) = if i < q then D (p i) else if i = q then d else D (p (i - 1)) := by
  intro i hi
  unfold rv_ins
  by_cases z : i = q
  · rw [if_pos z, va_up_self, if_neg (by omega), if_pos z]
  · rw [if_neg z]
    by_cases z2 : q < i ∧ i ≤ n
    · rw [if_pos z2, va_up_ne _ _ (fun e => by have := hp (i - 1) n (by omega) hn e; omega), if_neg (by omega), if_neg z]
    · rw [if_neg z2, va_up_ne _ _ (fun e => by have := hp i n (by omega) hn e; omega), if_pos (by omega)]
