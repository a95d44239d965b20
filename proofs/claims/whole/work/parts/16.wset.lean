/-! THE LIST OF WINDOWS: one cell of it is written -/
theorem wa_ne {wl i j : Nat} (h : i ≠ j) : wa wl i ≠ wa wl j := by unfold wa; omega
/-- outside the list's cells nothing has changed -/
def rv_out (wl len : Nat) (g g' : Nat → Option rv_E) : Prop := ∀ a, (a < wl ∨ wl + len ≤ a) → g' a = g a
theorem rv_out.rf {wl len : Nat} {g : Nat → Option rv_E} : rv_out wl len g g := fun _ _ => rfl
theorem rv_out.tr {wl len : Nat} {g g1 g2 : Nat → Option rv_E} (h1 : rv_out wl len g g1) (h2 : rv_out wl len g1 g2) : rv_out wl len g g2 := fun a ha => (h2 a ha).trans (h1 a ha)
theorem rv_out.up {wl len a : Nat} {g : Nat → Option rv_E} {x : rv_E} (h : wl ≤ a ∧ a < wl + len) : rv_out wl len g (rv_up g a x) := fun q hq => rv_up_n (by omega)
theorem PW.kept {g g' : Nat → Option rv_E} {a : Nat} {d : Wd} (h : PW g a d) (h0 : g' a = g a) (h1 : g' (a + 1) = g (a + 1)) (h2 : g' (a + 2) = g (a + 2)) : PW g' a d := ⟨h0.trans h.1, h1.trans h.2.1, h2.trans h.2.2⟩
/-- a window's own cell -/
theorem PWL.setW {g : Nat → Option rv_E} {wl n : Nat} {p : Nat → Nat} {D : Nat → Wd} (h : PWL g wl n p D) {i : Nat} (hi : i < 120) (k : Int32 × Int32 × Int32 × Int32) (t : Bool × Bool) : PWL (rv_up g (wa wl i) (oW (k, t, (D i).2.2) (wa wl i))) wl n p (va_up D i (k, t, (D i).2.2)) := by
  obtain ⟨hx, ⟨f, hf, hfe⟩, hW, hp, hn⟩ := h
  refine ⟨(rv_up_n (by unfold wa; omega)).trans hx, ⟨f, (rv_up_n (by unfold wa; omega)).trans hf, hfe⟩, fun j hj => ?_, hp, hn⟩
  by_cases hji : j = i
  · subst hji
    rw [va_up_self]
    exact ⟨rv_up_s, (rv_up_n (by omega)).trans (hW j hj).2.1, (rv_up_n (by omega)).trans (hW j hj).2.2⟩
  · rw [va_up_ne _ _ hji]
    exact (hW j hj).kept (rv_up_n (by unfold wa; omega)) (rv_up_n (by unfold wa; omega)) (rv_up_n (by unfold wa; omega))
/-- what a window has -/
theorem PWL.setH {g : Nat → Option rv_E} {wl n : Nat} {p : Nat → Nat} {D : Nat → Wd} (h : PWL g wl n p D) {i : Nat} (hi : i < 120) (t : Tl) : PWL (rv_up g (wa wl i + 1) (oT t)) wl n p (va_up D i ((D i).1, (D i).2.1, t, (D i).2.2.2)) := by
  obtain ⟨hx, ⟨f, hf, hfe⟩, hW, hp, hn⟩ := h
  refine ⟨(rv_up_n (by unfold wa; omega)).trans hx, ⟨f, (rv_up_n (by unfold wa; omega)).trans hf, hfe⟩, fun j hj => ?_, hp, hn⟩
  by_cases hji : j = i
  · subst hji
    rw [va_up_self]
    exact ⟨(rv_up_n (by omega)).trans (hW j hj).1, rv_up_s, (rv_up_n (by omega)).trans (hW j hj).2.2⟩
  · rw [va_up_ne _ _ hji]
    exact (hW j hj).kept (rv_up_n (by unfold wa; omega)) (rv_up_n (by unfold wa; omega)) (rv_up_n (by unfold wa; omega))
/-- what was told of it last -/
theorem PWL.setT {g : Nat → Option rv_E} {wl n : Nat} {p : Nat → Nat} {D : Nat → Wd} (h : PWL g wl n p D) {i : Nat} (hi : i < 120) (t : Tl) : PWL (rv_up g (wa wl i + 2) (oT t)) wl n p (va_up D i ((D i).1, (D i).2.1, (D i).2.2.1, t)) := by
  obtain ⟨hx, ⟨f, hf, hfe⟩, hW, hp, hn⟩ := h
  refine ⟨(rv_up_n (by unfold wa; omega)).trans hx, ⟨f, (rv_up_n (by unfold wa; omega)).trans hf, hfe⟩, fun j hj => ?_, hp, hn⟩
  by_cases hji : j = i
  · subst hji
    rw [va_up_self]
    exact ⟨(rv_up_n (by omega)).trans (hW j hj).1, (rv_up_n (by omega)).trans (hW j hj).2.1, rv_up_s⟩
  · rw [va_up_ne _ _ hji]
    exact (hW j hj).kept (rv_up_n (by unfold wa; omega)) (rv_up_n (by unfold wa; omega)) (rv_up_n (by unfold wa; omega))
/-- the array -/
theorem PWL.setA {g : Nat → Option rv_E} {wl n : Nat} {p p' : Nat → Nat} {D : Nat → Wd} (h : PWL g wl n p D) {f' : Nat → Option Nat} (hf' : ∀ j, j < 120 → f' j = some (wa wl (p' j))) (hp' : (∀ j, j < 120 → p' j < 120) ∧ ∀ i j, i < 120 → j < 120 → p' i = p' j → i = j) : PWL (rv_up g (wl + 1) (rv_aO RX8 120 f')) wl n p' D := by
  obtain ⟨hx, ⟨f, hf, hfe⟩, hW, hp, hn⟩ := h
  exact ⟨(rv_up_n (by omega)).trans hx, ⟨f', rv_up_s, hf'⟩, fun j hj => (hW j hj).kept (rv_up_n (by unfold wa; omega)) (rv_up_n (by unfold wa; omega)) (rv_up_n (by unfold wa; omega)), hp', hn⟩
/-- how many there are -/
theorem PWL.setN {g : Nat → Option rv_E} {wl n n' : Nat} {p : Nat → Nat} {D : Nat → Wd} (h : PWL g wl n p D) (hn' : n' ≤ 120) : PWL (rv_up g wl (oWL (wl + 1) (nI n'))) wl n' p D := by
  obtain ⟨hx, ⟨f, hf, hfe⟩, hW, hp, hn⟩ := h
  exact ⟨rv_up_s, ⟨f, (rv_up_n (by omega)).trans hf, hfe⟩, fun j hj => (hW j hj).kept (rv_up_n (by unfold wa; omega)) (rv_up_n (by unfold wa; omega)) (rv_up_n (by unfold wa; omega)), hp, hn'⟩
/-- the places behind an opening at q, of n -/
def rv_ins (p : Nat → Nat) (q n : Nat) : Nat → Nat := fun j => if j = q then p n else if q < j ∧ j ≤ n then p (j - 1) else p j
theorem rv_ins_ok {p : Nat → Nat} {q n : Nat} (hq : q ≤ n) (hn : n < 120) (hp : (∀ j, j < 120 → p j < 120) ∧ ∀ i j, i < 120 → j < 120 → p i = p j → i = j) : (∀ j, j < 120 → rv_ins p q n j < 120) ∧ ∀ i j, i < 120 → j < 120 → rv_ins p q n i = rv_ins p q n j → i = j := by
  have key : ∀ j, j < 120 → ∃ t, t < 120 ∧ rv_ins p q n j = p t ∧ (t = if j = q then n else if q < j ∧ j ≤ n then j - 1 else j) := by
    intro j hj
    refine ⟨if j = q then n else if q < j ∧ j ≤ n then j - 1 else j, ?_, ?_, rfl⟩
    · split
      · exact hn
      · split <;> omega
    · unfold rv_ins
      split
      · rfl
      · split <;> rfl
  refine ⟨fun j hj => ?_, fun i j hi hj e => ?_⟩
  · obtain ⟨t, h1, h2, -⟩ := key j hj
    rw [h2]
    exact hp.1 t h1
  · obtain ⟨t, h1, h2, h3⟩ := key i hi
    obtain ⟨u, g1, g2, g3⟩ := key j hj
    have := hp.2 t u h1 g1 (by rw [← h2, ← g2]; exact e)
    subst this
    split at h3 <;> split at g3 <;> (try split at h3) <;> (try split at g3) <;> omega
/-- the places behind a removal of the j-th, of n -/
def rv_del (p : Nat → Nat) (j n : Nat) : Nat → Nat := fun t => if j ≤ t ∧ t + 1 < n then p (t + 1) else if t + 1 = n then p j else p t
theorem rv_del_ok {p : Nat → Nat} {j n : Nat} (hj : j < n) (hn : n ≤ 120) (hp : (∀ j, j < 120 → p j < 120) ∧ ∀ i j, i < 120 → j < 120 → p i = p j → i = j) : (∀ t, t < 120 → rv_del p j n t < 120) ∧ ∀ i t, i < 120 → t < 120 → rv_del p j n i = rv_del p j n t → i = t := by
  have key : ∀ t, t < 120 → ∃ u, u < 120 ∧ rv_del p j n t = p u ∧ (u = if j ≤ t ∧ t + 1 < n then t + 1 else if t + 1 = n then j else t) := by
    intro t ht
    refine ⟨if j ≤ t ∧ t + 1 < n then t + 1 else if t + 1 = n then j else t, ?_, ?_, rfl⟩
    · split
      · omega
      · split <;> omega
    · unfold rv_del
      split
      · rfl
      · split <;> rfl
  refine ⟨fun t ht => ?_, fun i t hi ht e => ?_⟩
  · obtain ⟨u, h1, h2, -⟩ := key t ht
    rw [h2]
    exact hp.1 u h1
  · obtain ⟨u, h1, h2, h3⟩ := key i hi
    obtain ⟨v, g1, g2, g3⟩ := key t ht
    have := hp.2 u v h1 g1 (by rw [← h2, ← g2]; exact e)
    subst this
    split at h3 <;> split at g3 <;> (try split at h3) <;> (try split at g3) <;> omega
