/-! THE COMPARISON: one pass over gaps, in the reference -/
def uu (first : Bool) (z : Int32) : Int := if first = true then z.toInt else - z.toInt
theorem eg_d_val {first : Bool} {a b : Int32} (ha : 0 ≤ a.toInt ∧ a.toInt ≤ 100000000) (hb : 0 ≤ b.toInt ∧ b.toInt ≤ 100000000) : (eg_d first a b).toInt = uu first a - uu first b := by
  unfold eg_d uu
  cases first with
  | true => rw [if_pos rfl, if_pos rfl, if_pos rfl]; exact tS (by omega) (by omega)
  | false =>
    rw [if_neg (by decide), if_neg (by decide), if_neg (by decide), tS (by omega) (by omega)]
    omega
section
variable {T : Nat → Bool} {tm : Nat → Int32} {sz : Int32} {first : Bool} {nr : Nat}
theorem eg_in_spec (htm : ∀ k, k < nr → T k = true → 0 ≤ (tm k).toInt ∧ (tm k).toInt ≤ 100000000) : ∀ (t k : Nat) (a : Int32 × Bool), k + t = nr → (0 ≤ a.1.toInt ∧ a.1.toInt ≤ 100000000) →
    (0 ≤ (eg_in T tm sz first t k a).1.toInt ∧ (eg_in T tm sz first t k a).1.toInt ≤ 100000000) ∧ uu first (eg_in T tm sz first t k a).1 ≤ uu first a.1 ∧ ((eg_in T tm sz first t k a).2 = false → (eg_in T tm sz first t k a).1 = a.1 ∧ a.2 = false ∧ ∀ j, k ≤ j → j < nr → T j = true → ¬ (0 < uu first a.1 - uu first (tm j) ∧ uu first a.1 - uu first (tm j) < sz.toInt)) ∧ ((eg_in T tm sz first t k a).2 = true → a.2 = true ∨ uu first (eg_in T tm sz first t k a).1 < uu first a.1) ∧ ∀ x, uu first (eg_in T tm sz first t k a).1 < x → x ≤ uu first a.1 → ∃ j, j < nr ∧ T j = true ∧ 0 < x - uu first (tm j) ∧ x - uu first (tm j) < sz.toInt
  | 0, k, a, e, ha => ⟨ha, Int.le_refl _, fun h => ⟨rfl, h, fun j h1 h2 => absurd h2 (by omega)⟩, fun h => Or.inl h, fun x h1 h2 => absurd h2 (by have : uu first a.1 < x := h1; omega)⟩
  | t + 1, k, a, e, ha => by
    unfold eg_in
    by_cases hc : T k = true ∧ 0 < eg_d first a.1 (tm k) ∧ eg_d first a.1 (tm k) < sz
    · rw [if_pos hc]
      have hk := htm k (by omega) hc.1
      have d1 := Int32.lt_iff_toInt_lt.mp hc.2.1
      have d2 := Int32.lt_iff_toInt_lt.mp hc.2.2
      rw [eg_d_val ha hk] at d1 d2
      rw [show (0 : Int32).toInt = 0 from rfl] at d1
      obtain ⟨i1, i2, i3, i4, i5⟩ := eg_in_spec htm t (k + 1) (tm k, true) (by omega) hk
      dsimp only at i2 i3 i4 i5
      refine ⟨i1, by omega, fun h => absurd (i3 h).2.1 (by decide), fun _ => Or.inr (by omega), fun x x1 x2 => ?_⟩
      rcases Int.lt_or_le (uu first (tm k)) x with z | z
      · exact ⟨k, by omega, hc.1, by omega, by omega⟩
      · exact i5 x x1 z
    · rw [if_neg hc]
      obtain ⟨i1, i2, i3, i4, i5⟩ := eg_in_spec htm t (k + 1) a (by omega) ha
      refine ⟨i1, i2, fun h => ?_, i4, i5⟩
      obtain ⟨j1, j2, j3⟩ := i3 h
      refine ⟨j1, j2, fun j h1 h2 h3 h4 => ?_⟩
      by_cases z : j = k
      · subst z
        have hk := htm j h2 h3
        refine hc ⟨h3, Int32.lt_iff_toInt_lt.mpr ?_, Int32.lt_iff_toInt_lt.mpr ?_⟩
        · rw [eg_d_val ha hk]; exact h4.1
        · rw [eg_d_val ha hk]; exact h4.2
      · exact j3 j (by omega) h2 h3 h4
def cC (first : Bool) : Int := if first = true then 0 else 100000000
theorem uu_lo {first : Bool} {a : Int32} (ha : 0 ≤ a.toInt ∧ a.toInt ≤ 100000000) : 0 ≤ uu first a + cC first := by
  unfold uu cC
  cases first with
  | true => rw [if_pos rfl, if_pos rfl]; omega
  | false => rw [if_neg (by decide), if_neg (by decide)]; omega
theorem eg_run_spec (htm : ∀ k, k < nr → T k = true → 0 ≤ (tm k).toInt ∧ (tm k).toInt ≤ 100000000) : ∀ (N : Nat) (a : Int32), (0 ≤ a.toInt ∧ a.toInt ≤ 100000000) → uu first a + cC first ≤ N →
    eg_ok T tm sz first nr N a ∧ (0 ≤ (eg_run T tm sz first nr N a).toInt ∧ (eg_run T tm sz first nr N a).toInt ≤ 100000000) ∧ uu first (eg_run T tm sz first nr N a) ≤ uu first a ∧ (∀ j, j < nr → T j = true → ¬ (0 < uu first (eg_run T tm sz first nr N a) - uu first (tm j) ∧ uu first (eg_run T tm sz first nr N a) - uu first (tm j) < sz.toInt)) ∧ ∀ x, uu first (eg_run T tm sz first nr N a) < x → x ≤ uu first a → ∃ j, j < nr ∧ T j = true ∧ 0 < x - uu first (tm j) ∧ x - uu first (tm j) < sz.toInt
  | 0, a, ha, hN => by
    obtain ⟨i1, i2, i3, i4, i5⟩ := eg_in_spec (sz := sz) (first := first) htm nr 0 (a, false) (by omega) ha
    have hf : (eg_in T tm sz first nr 0 (a, false)).2 = false := by
      cases hb : (eg_in T tm sz first nr 0 (a, false)).2 with
      | false => rfl
      | true =>
        rcases i4 hb with z | z
        · cases z
        · have := uu_lo (first := first) i1
          have hN' : uu first a + cC first ≤ 0 := hN
          dsimp only at z
          omega
    obtain ⟨j1, j2, j3⟩ := i3 hf
    unfold eg_ok eg_run
    rw [j1]
    exact ⟨hf, ha, Int.le_refl _, fun j h1 h2 => j3 j (by omega) h1 h2, fun x x1 x2 => absurd x2 (by (try dsimp only at x1); omega)⟩
  | N + 1, a, ha, hN => by
    obtain ⟨i1, i2, i3, i4, i5⟩ := eg_in_spec (sz := sz) (first := first) htm nr 0 (a, false) (by omega) ha
    unfold eg_ok eg_run
    generalize eg_in T tm sz first nr 0 (a, false) = r at *
    dsimp only at i2 i4 i5
    cases hb : r.2 with
    | false =>
      obtain ⟨j1, j2, j3⟩ := i3 hb
      rw [if_neg (by decide), j1]
      exact ⟨fun z => (by cases z), ha, Int.le_refl _, fun j h1 h2 => j3 j (by omega) h1 h2, fun x x1 x2 => absurd x2 (by (try dsimp only at x1); omega)⟩
    | true =>
      rw [if_pos rfl]
      have hlt : uu first r.1 < uu first a := (i4 hb).resolve_left (by decide)
      obtain ⟨k1, k2, k3, k4, k5⟩ := eg_run_spec htm N r.1 i1 (by omega)
      refine ⟨fun _ => k1, k2, by omega, k4, fun x x1 x2 => ?_⟩
      rcases Int.lt_or_le (uu first r.1) x with z | z
      · exact i5 x z x2
      · exact k5 x x1 z
end
