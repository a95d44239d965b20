/-! THE CLASS AS A WHOLE: its picture -/
def LF (x B q : Nat) : Prop := (x ≤ q ∧ q < x + 374) ∨ B ≤ q
def LI (σ : rv_S) (x B no : Nat) (oa : Nat → Nat) (od : Nat → Od) (ns : Nat) (sa : Nat → Nat) (sd : Nat → Sd) (nr : Nat) (ra rs : Nat → Nat) (rd : Nat → Rd) (n : Nat) (p : Nat → Nat) (D : Nat → Wd) (R : Rs) (na : Nat) (aq : Nat → Nat → Int64) (b : Nat) (rl dr : Int32) (ps : Ps) : Prop :=
  (PT σ.2 x (nI no) (nI ns) (nI b) rl dr n p D R ∧ WS n p D) ∧ POP σ.2 x no oa od ∧ PSR σ.2 x no ns oa sa sd ∧ PRL σ.2 (x + 3) nr ra rd ∧ (∃ vf a, σ.2 (x + 367) = some (oJ vf a)) ∧ PR σ.2 (x + 370) (x + 371) 100 5 na aq ∧ POS σ.2 (x + 372) ps ∧ (rv_bd σ ∧ x + 374 ≤ B ∧ B ≤ σ.1) ∧ ((∀ j, j < no → B ≤ oa j) ∧ (∀ j, j < ns → B ≤ sa j) ∧ ∀ j, j < nr → B ≤ ra j) ∧ (∀ j, j < nr → rs j < ns ∧ (rd j).1 = sa (rs j)) ∧ b ≤ 100
theorem rv_bd.only {σ σ' : rv_S} {S : Nat → Prop} (h : rv_bd σ) (e : σ.1 ≤ σ'.1) (ho : rv_only S σ.2 σ'.2) (hS : ∀ q, S q → q < σ'.1) : rv_bd σ' := by
  intro a y hy
  by_cases hq : S a
  · exact hS a hq
  · rw [ho a hq] at hy
    exact Nat.lt_of_lt_of_le (h a y hy) e
theorem POP.kept {g g' : Nat → Option rv_E} {x no : Nat} {oa : Nat → Nat} {od : Nat → Od} (h : POP g x no oa od) (h1 : g' (x + 1) = g (x + 1)) (h2 : ∀ j, j < no → g' (oa j) = g (oa j)) : POP g' x no oa od := by
  obtain ⟨⟨f, hf, hfe⟩, ho, hn, hi⟩ := h
  exact ⟨⟨f, h1.trans hf, hfe⟩, fun j hj => ⟨(h2 j hj).trans (ho j hj).1, (ho j hj).2⟩, hn, hi⟩
theorem PSR.kept {g g' : Nat → Option rv_E} {x no ns : Nat} {oa sa : Nat → Nat} {sd : Nat → Sd} (h : PSR g x no ns oa sa sd) (h1 : g' (x + 2) = g (x + 2)) (h2 : ∀ j, j < ns → g' (sa j) = g (sa j)) : PSR g' x no ns oa sa sd := by
  obtain ⟨⟨f, hf, hfe⟩, ho, hn, hi⟩ := h
  exact ⟨⟨f, h1.trans hf, hfe⟩, fun j hj => ⟨(h2 j hj).trans (ho j hj).1, (ho j hj).2⟩, hn, hi⟩
section
variable {σ σ' : rv_S} {x B no : Nat} {oa : Nat → Nat} {od : Nat → Od} {ns : Nat} {sa : Nat → Nat} {sd : Nat → Sd} {nr : Nat} {ra rs : Nat → Nat} {rd : Nat → Rd} {n : Nat} {p : Nat → Nat} {D : Nat → Wd} {R : Rs} {na : Nat} {aq : Nat → Nat → Int64} {b : Nat} {rl dr : Int32} {ps : Ps}
/-- other cells change -/
theorem LI.kept (h : LI σ x B no oa od ns sa sd nr ra rs rd n p D R na aq b rl dr ps) (e : σ'.1 = σ.1) (hk : ∀ q, LF x B q → σ'.2 q = σ.2 q) (hb : rv_bd σ') : LI σ' x B no oa od ns sa sd nr ra rs rd n p D R na aq b rl dr ps := by
  obtain ⟨⟨h1, h1w⟩, h2, h3, h4, ⟨vf, a, h5⟩, h6, h7, ⟨h8, h8a, h8b⟩, ⟨f1, f2, f3⟩, h10, h11⟩ := h
  have near : ∀ q, x ≤ q → q < x + 374 → σ'.2 q = σ.2 q := fun q z1 z2 => hk q (Or.inl ⟨z1, z2⟩)
  refine ⟨⟨⟨(near x (by omega) (by omega)).trans h1.1, h1.2.1.kept (fun q z1 z2 => near q (by omega) (by omega)), h1.2.2.kept (near _ (by omega) (by omega)) (near _ (by omega) (by omega))⟩, h1w⟩, h2.kept (near _ (by omega) (by omega)) (fun j hj => hk _ (Or.inr (f1 j hj))), h3.kept (near _ (by omega) (by omega)) (fun j hj => hk _ (Or.inr (f2 j hj))), h4.kept (near _ (by omega) (by omega)) (near _ (by omega) (by omega)) (fun j hj => hk _ (Or.inr (f3 j hj))), ⟨vf, a, (near _ (by omega) (by omega)).trans h5⟩, h6.kept (near _ (by omega) (by omega)) (near _ (by omega) (by omega)), h7.kept (near _ (by omega) (by omega)) (near _ (by omega) (by omega)), ⟨hb, h8a, by omega⟩, ⟨f1, f2, f3⟩, h10, h11⟩
/-- windows and results change -/
theorem LI.win {n' : Nat} {p' : Nat → Nat} {D' : Nat → Wd} {R' : Rs} (h : LI σ x B no oa od ns sa sd nr ra rs rd n p D R na aq b rl dr ps) (e : σ'.1 = σ.1) (ho : rv_only (SC x) σ.2 σ'.2) (hT : PT σ'.2 x (nI no) (nI ns) (nI b) rl dr n' p' D' R') (hw : WS n' p' D') : LI σ' x B no oa od ns sa sd nr ra rs rd n' p' D' R' na aq b rl dr ps := by
  obtain ⟨⟨h1, h1w⟩, h2, h3, h4, ⟨vf, a, h5⟩, h6, h7, ⟨h8, h8a, h8b⟩, ⟨f1, f2, f3⟩, h10, h11⟩ := h
  have far : ∀ q, x + 369 < q → σ'.2 q = σ.2 q := fun q z => ho q (SC_hi z)
  have low : ∀ q, x < q → q < x + 5 → σ'.2 q = σ.2 q := fun q z1 z2 => ho q (by unfold SC; omega)
  refine ⟨⟨hT, hw⟩, h2.kept (low _ (by omega) (by omega)) (fun j hj => far _ (by have := f1 j hj; omega)), h3.kept (low _ (by omega) (by omega)) (fun j hj => far _ (by have := f2 j hj; omega)), h4.kept (low _ (by omega) (by omega)) (low _ (by omega) (by omega)) (fun j hj => far _ (by have := f3 j hj; omega)), ⟨vf, a, (ho _ (SC_n367 x)).trans h5⟩, h6.kept (far _ (by omega)) (far _ (by omega)), h7.kept (far _ (by omega)) (far _ (by omega)), ⟨h8.only (Nat.le_of_eq e.symm) ho (fun q hq => by unfold SC at hq; omega), h8a, by omega⟩, ⟨f1, f2, f3⟩, h10, h11⟩
/-- the join changes -/
theorem LI.join (h : LI σ x B no oa od ns sa sd nr ra rs rd n p D R na aq b rl dr ps) (vf : Int32) (a : Jn) : LI (σ.1, rv_up σ.2 (x + 367) (oJ vf a)) x B no oa od ns sa sd nr ra rs rd n p D R na aq b rl dr ps := by
  obtain ⟨⟨h1, h1w⟩, h2, h3, h4, ⟨vf0, a0, h5⟩, h6, h7, ⟨h8, h8a, h8b⟩, ⟨f1, f2, f3⟩, h10, h11⟩ := h
  have ne : ∀ q, q ≠ x + 367 → rv_up σ.2 (x + 367) (oJ vf a) q = σ.2 q := fun q z => rv_up_n z
  refine ⟨⟨⟨(ne x (by omega)).trans h1.1, h1.2.1.kept (fun q z1 z2 => ne q (by omega)), h1.2.2.kept (ne _ (by omega)) (ne _ (by omega))⟩, h1w⟩, h2.kept (ne _ (by omega)) (fun j hj => ne _ (by have := f1 j hj; omega)), h3.kept (ne _ (by omega)) (fun j hj => ne _ (by have := f2 j hj; omega)), h4.kept (ne _ (by omega)) (ne _ (by omega)) (fun j hj => ne _ (by have := f3 j hj; omega)), ⟨vf, a, rv_up_s⟩, h6.kept (ne _ (by omega)) (ne _ (by omega)), h7.kept (ne _ (by omega)) (ne _ (by omega)), ⟨h8.only (σ' := (σ.1, rv_up σ.2 (x + 367) (oJ vf a))) (Nat.le_refl _) (S := fun q => q = x + 367) (rv_only.up rfl) (fun q hq => by dsimp only; omega), h8a, h8b⟩, ⟨f1, f2, f3⟩, h10, h11⟩
theorem LI.rs_ne (h : LI σ x B no oa od ns sa sd nr ra rs rd n p D R na aq b rl dr ps) {i j : Nat} (hi : i < ns) (hj : j < nr) : ra j ≠ sa i := by
  intro z
  have h1 := (h.2.2.1.2.1 i hi).1
  have h2 := (h.2.2.2.1.2.2.1 j hj).1
  rw [z, h1] at h2
  have h3 := congrArg Prod.fst (Sum.inl.inj (Option.some.inj h2))
  exact absurd (show k_Source = k_Row from h3) (by decide)
/-- a source changes -/
theorem LI.src (h : LI σ x B no oa od ns sa sd nr ra rs rd n p D R na aq b rl dr ps) {i : Nat} (hi : i < ns) (d : Sd) (hd : d.1 < no) : LI (σ.1, rv_up σ.2 (sa i) (oS oa i d)) x B no oa od ns sa (va_up sd i d) nr ra rs rd n p D R na aq b rl dr ps := by
  have hne : ∀ j, j < nr → ra j ≠ sa i := fun j hj => h.rs_ne hi hj
  obtain ⟨⟨h1, h1w⟩, h2, h3, h4, ⟨vf0, a0, h5⟩, h6, h7, ⟨h8, h8a, h8b⟩, ⟨f1, f2, f3⟩, h10, h11⟩ := h
  have hs := f2 i hi
  have hsb := h8 _ _ (h3.2.1 i hi).1
  have ne : ∀ q, q < x + 374 → rv_up σ.2 (sa i) (oS oa i d) q = σ.2 q := fun q z => rv_up_n (by omega)
  refine ⟨⟨h1.far _ (by omega), h1w⟩, h2.up _ (by omega) (fun j hj => os_ne h2 h3 hi hj), h3.set hi d hd, h4.kept (ne _ (by omega)) (ne _ (by omega)) (fun j hj => rv_up_n (hne j hj)), ⟨vf0, a0, (ne _ (by omega)).trans h5⟩, h6.kept (ne _ (by omega)) (ne _ (by omega)), h7.kept (ne _ (by omega)) (ne _ (by omega)), ⟨h8.only (σ' := (σ.1, rv_up σ.2 (sa i) (oS oa i d))) (Nat.le_refl _) (S := fun q => q = sa i) (rv_only.up rfl) (fun q hq => by dsimp only; omega), h8a, h8b⟩, ⟨f1, f2, f3⟩, h10, h11⟩
/-- a row more -/
theorem LI.row (h : LI σ x B no oa od ns sa sd nr ra rs rd n p D R na aq b rl dr ps) {i q : Nat} (hi : i < ns) (hq : q ≤ nr) {k t v : Int32} {u : Bool} (e : σ'.1 = σ.1 + 1) (ho : rv_only (fun a => a = x + 3 ∨ a = x + 4 ∨ a = σ.1) σ.2 σ'.2) (hL : PRL σ'.2 (x + 3) (nr + 1) (rv_insf ra q σ.1) (rv_insf rd q (sa i, k, t, v, u))) : LI σ' x B no oa od ns sa sd (nr + 1) (rv_insf ra q σ.1) (rv_insf rs q i) (rv_insf rd q (sa i, k, t, v, u)) n p D R na aq b rl dr ps := by
  obtain ⟨⟨h1, h1w⟩, h2, h3, h4, ⟨vf0, a0, h5⟩, h6, h7, ⟨h8, h8a, h8b⟩, ⟨f1, f2, f3⟩, h10, h11⟩ := h
  have ne : ∀ q, q ≠ x + 3 → q ≠ x + 4 → q ≠ σ.1 → σ'.2 q = σ.2 q := fun q z1 z2 z3 => ho q (by omega)
  have lo : ∀ q, q < x + 374 → q ≠ x + 3 → q ≠ x + 4 → σ'.2 q = σ.2 q := fun q z z1 z2 => ne q z1 z2 (by omega)
  refine ⟨⟨⟨(lo x (by omega) (by omega) (by omega)).trans h1.1, h1.2.1.kept (fun q z1 z2 => lo q (by omega) (by omega) (by omega)), h1.2.2.kept (lo _ (by omega) (by omega) (by omega)) (lo _ (by omega) (by omega) (by omega))⟩, h1w⟩, h2.kept (lo _ (by omega) (by omega) (by omega)) (fun j hj => ne _ (by have := f1 j hj; omega) (by have := f1 j hj; omega) (by have := h8 _ _ (h2.2.1 j hj).1; omega)), h3.kept (lo _ (by omega) (by omega) (by omega)) (fun j hj => ne _ (by have := f2 j hj; omega) (by have := f2 j hj; omega) (by have := h8 _ _ (h3.2.1 j hj).1; omega)), hL, ⟨vf0, a0, (lo _ (by omega) (by omega) (by omega)).trans h5⟩, h6.kept (lo _ (by omega) (by omega) (by omega)) (lo _ (by omega) (by omega) (by omega)), h7.kept (lo _ (by omega) (by omega) (by omega)) (lo _ (by omega) (by omega) (by omega)), ⟨h8.only (by omega) ho (fun q hq => by rcases hq with z | z | z <;> omega), h8a, by omega⟩, ⟨f1, f2, fun j hj => ?_⟩, fun j hj => ?_, h11⟩
  · unfold rv_insf
    by_cases z1 : j < q
    · rw [if_pos z1]; exact f3 j (by omega)
    · rw [if_neg z1]
      by_cases z2 : j = q
      · rw [if_pos z2]; exact h8b
      · rw [if_neg z2]; exact f3 (j - 1) (by omega)
  · unfold rv_insf
    by_cases z1 : j < q
    · rw [if_pos z1, if_pos z1]; exact h10 j (by omega)
    · rw [if_neg z1, if_neg z1]
      by_cases z2 : j = q
      · rw [if_pos z2, if_pos z2]; exact ⟨hi, rfl⟩
      · rw [if_neg z2, if_neg z2]; exact h10 (j - 1) (by omega)
end
