/-! THE LIST OF WINDOWS: which is next -/
def wdue (d : Wd) (o m : Int32) : Bool := decide (d.1.1 = o) && (!d.2.1.1 && decide (d.1.2.2.2 ≤ m))
def wcls (d : Wd) (o l m : Int32) : Bool := decide (d.1.1 = o) && decide (d.1.2.2.2 + l ≤ m)
/-- v is the place of the first of least E among those below i that Q has; -1 if there is none -/
def rv_first (Q : Nat → Bool) (E : Nat → Int32) (i : Nat) (v : Int32) : Prop := (v = -1 ∧ ∀ t, t < i → Q t = false) ∨ ∃ j, j < i ∧ v = nI j ∧ Q j = true ∧ ∀ t, t < i → Q t = true → (E j < E t ∨ (E j = E t ∧ j ≤ t))
theorem rv_first_skip {Q : Nat → Bool} {E : Nat → Int32} {i : Nat} {v : Int32} (h : rv_first Q E i v) (hQ : Q i = false) : rv_first Q E (i + 1) v := by
  rcases h with ⟨h1, h2⟩ | ⟨j, h1, h2, h3, h4⟩
  · refine Or.inl ⟨h1, fun t ht => ?_⟩
    rcases Nat.lt_or_ge t i with q | q
    · exact h2 t q
    · obtain rfl : t = i := by omega
      exact hQ
  · refine Or.inr ⟨j, by omega, h2, h3, fun t ht hq => ?_⟩
    rcases Nat.lt_or_ge t i with q | q
    · exact h4 t q hq
    · obtain rfl : t = i := by omega
      rw [hQ] at hq
      cases hq
theorem rv_first_new {Q : Nat → Bool} {E : Nat → Int32} {i : Nat} (h : ∀ t, t < i → Q t = false) (hQ : Q i = true) : rv_first Q E (i + 1) (nI i) := by
  refine Or.inr ⟨i, by omega, rfl, hQ, fun t ht hq => ?_⟩
  rcases Nat.lt_or_ge t i with q | q
  · rw [h t q] at hq
    cases hq
  · obtain rfl : t = i := by omega
    exact Or.inr ⟨rfl, Nat.le_refl _⟩
theorem rv_first_keep {Q : Nat → Bool} {E : Nat → Int32} {i j : Nat} (h1 : j < i) (h3 : Q j = true) (h4 : ∀ t, t < i → Q t = true → (E j < E t ∨ (E j = E t ∧ j ≤ t))) (hE : ¬ E i < E j) : rv_first Q E (i + 1) (nI j) := by
  refine Or.inr ⟨j, by omega, rfl, h3, fun t ht hq => ?_⟩
  rcases Nat.lt_or_ge t i with q | q
  · exact h4 t q hq
  · obtain rfl : t = i := by omega
    rcases Int32.lt_or_eq_of_le (Int32.not_lt.mp hE) with z | z
    · exact Or.inl z
    · exact Or.inr ⟨z, by omega⟩
theorem rv_first_take {Q : Nat → Bool} {E : Nat → Int32} {i j : Nat} (hQ : Q i = true) (h4 : ∀ t, t < i → Q t = true → (E j < E t ∨ (E j = E t ∧ j ≤ t))) (hE : E i < E j) : rv_first Q E (i + 1) (nI i) := by
  refine Or.inr ⟨i, by omega, rfl, hQ, fun t ht hq => ?_⟩
  rcases Nat.lt_or_ge t i with q | q
  · rcases h4 t q hq with z | z
    · exact Or.inl (Int32.lt_trans hE z)
    · exact Or.inl (by rw [← z.1]; exact hE)
  · obtain rfl : t = i := by omega
    exact Or.inr ⟨rfl, Nat.le_refl _⟩
set_option maxRecDepth 100000 in
theorem ct_endsBefore_m {G : rv_G} {σ : rv_S} {wl n : Nat} {p : Nat → Nat} {D : Nat → Wd} (h : PWL σ.2 wl n p D) (a : Nat) : rv_Ct G i_WindowList_endsBefore 0 0 [.ref wl, .ref a, .int (-1)] σ (fun r σ' => r = some (.int 1) ∧ σ' = σ) := by
  obtain ⟨hx, ⟨f, hf, hfe⟩, hW, hp, hn⟩ := h
  refine rv_ct (M := m_WindowList_endsBefore) rfl (by decide) rfl rfl ?_
  refine rv_V.run rv_gd_WindowList_endsBefore [] 400 ?_
  refine And.intro (fun c1 => ?_) (fun c1 => ?_)
  · refine And.intro (Or.inr rfl) ?_
    -- path T ret .int 1
    exact ⟨rfl, rfl⟩
  · exact absurd (by decide) c1

set_option maxRecDepth 100000 in
theorem lp_nextDue {G : rv_G} {σ : rv_S} {wl n : Nat} {p : Nat → Nat} {D : Nat → Wd} (h : PWL σ.2 wl n p D) (x : Nat) (o k s st l r0 m : Int32) (ho : σ.2 x = some (oOp o k s st l r0 m)) : ∀ (t i : Nat) (vn vi : Int32) (x4 : Option Value), vi = nI i → i + t = n → rv_first (fun t => wdue (D (p t)) o m) (fun t => (D (p t)).1.2.2.2) i vn → rv_V G m_WindowList_nextDue 0 0 (fun r σ' => (∃ v : Int32, rv_first (fun t => wdue (D (p t)) o m) (fun t => (D (p t)).1.2.2.2) n v ∧ r = some (.int v)) ∧ σ' = σ) 4 [some (.ref wl), some (.ref x), some (.int vn), some (.int vi), x4] [] σ 0 0 := by
  have h0 := h
  obtain ⟨hx, ⟨f, hf, hfe⟩, hW, hp, hn⟩ := h
  intro t
  induction t with
  | zero =>
    intro i vn vi x4 ei h1 hv
    refine rv_V.run rv_gd_WindowList_nextDue [4] 400 ?_
    refine Exists.intro _ (And.intro hx ?_)
    refine And.intro (fun c1 => ?_) (fun c1 => ?_)
    · refine And.intro trivial ?_
      exact ⟨⟨_, by rw [show i = n by omega] at hv; exact hv, rfl⟩, rfl⟩
    · exact absurd ((rv_leN rfl ei (by omega) (by omega)).mpr (by omega)) c1
  | succ t ih =>
    intro i vn vi x4 ei h1 hv
    have hv0 := hv
    rcases hv0 with ⟨rfl, hQ0⟩ | ⟨j, hj, rfl, hQj, h4⟩
    ·
      refine rv_V.run rv_gd_WindowList_nextDue [4] 400 ?_
      refine Exists.intro _ (And.intro hx ?_)
      refine And.intro (fun c1 => ?_) (fun c1 => ?_)
      · refine And.intro trivial ?_
        -- path T ret .int (-1)
        exact ⟨⟨_, by rw [show i = n by have := (rv_leN rfl ei (by omega) (by omega)).mp c1; omega] at hv; exact hv, rfl⟩, rfl⟩
      · have hin : i < n := by
          rcases Nat.lt_or_ge i n with q | q
          · exact q
          · exact absurd ((rv_leN rfl ei (by omega) (by omega)).mpr q) c1
        refine Exists.intro _ (And.intro hx ?_)
        refine ⟨_, _, _, (some (wa wl (p i))), hf, by decide, (by rw [ei]; exact vp_in_nI (by omega) (by omega)), (by rw [ei, nI_clamp (by omega)]; exact hfe i (by omega)), ?_⟩
        refine Exists.intro _ (And.intro (hW _ (hp.1 i (by omega))).1 ?_)
        refine Exists.intro _ (And.intro ho ?_)
        refine And.intro (fun c2 => ?_) (fun c2 => ?_)
        · refine Exists.intro _ (And.intro (hW _ (hp.1 i (by omega))).1 ?_)
          refine And.intro (fun c3 => ?_) (fun c3 => ?_)
          · refine Exists.intro _ (And.intro (hW _ (hp.1 i (by omega))).1 ?_)
            refine And.intro (Exists.intro _ ho) ?_
            refine ⟨_, _, _, ct_hasReached _ _ _ _ _ _ _ _ _ ho, Nat.zero_le _, Nat.zero_le _, rfl, ?_⟩
            rintro _ _ ⟨rfl, rfl⟩
            refine And.intro (fun c4 => ?_) (fun c4 => ?_)
            · -- path FTTT ret None
              exact ih (i + 1) _ _ _ (by rw [ei]; exact nI_1 i) (by omega) (rv_first_skip (Or.inl ⟨rfl, hQ0⟩) (by show wdue _ _ _ = false; rw [wdue, rv_b0.mp c4]; simp))
            · refine And.intro (Exists.intro _ hx) ?_
              refine ⟨_, _, _, ct_endsBefore_m h0 _, Nat.zero_le _, Nat.zero_le _, rfl, ?_⟩
              rintro _ _ ⟨rfl, rfl⟩
              refine And.intro (fun c5 => ?_) (fun c5 => ?_)
              · exact absurd c5 (by decide)
              · -- path FTTFF ret None
                exact ih (i + 1) _ _ _ (by rw [ei]; exact nI_1 i) (by omega) (by rw [ei]; exact rv_first_new hQ0 (show wdue _ _ _ = true by rw [wdue, decide_eq_true c2, rv_b0.mp c3, rv_bn c4]; rfl))
          · -- path FTF ret None
            exact ih (i + 1) _ _ _ (by rw [ei]; exact nI_1 i) (by omega) (rv_first_skip (Or.inl ⟨rfl, hQ0⟩) (by show wdue _ _ _ = false; rw [wdue, rv_bn c3]; simp))
        · -- path FF ret None
          exact ih (i + 1) _ _ _ (by rw [ei]; exact nI_1 i) (by omega) (rv_first_skip (Or.inl ⟨rfl, hQ0⟩) (by show wdue _ _ _ = false; rw [wdue, decide_eq_false c2]; rfl))
    ·
      refine rv_V.run rv_gd_WindowList_nextDue [4] 400 ?_
      refine Exists.intro _ (And.intro hx ?_)
      refine And.intro (fun c1 => ?_) (fun c1 => ?_)
      · refine And.intro trivial ?_
        -- path T ret .int (nI j)
        exact ⟨⟨_, by rw [show i = n by have := (rv_leN rfl ei (by omega) (by omega)).mp c1; omega] at hv; exact hv, rfl⟩, rfl⟩
      · have hin : i < n := by
          rcases Nat.lt_or_ge i n with q | q
          · exact q
          · exact absurd ((rv_leN rfl ei (by omega) (by omega)).mpr q) c1
        refine Exists.intro _ (And.intro hx ?_)
        refine ⟨_, _, _, (some (wa wl (p i))), hf, by decide, (by rw [ei]; exact vp_in_nI (by omega) (by omega)), (by rw [ei, nI_clamp (by omega)]; exact hfe i (by omega)), ?_⟩
        refine Exists.intro _ (And.intro (hW _ (hp.1 i (by omega))).1 ?_)
        refine Exists.intro _ (And.intro ho ?_)
        refine And.intro (fun c2 => ?_) (fun c2 => ?_)
        · refine Exists.intro _ (And.intro (hW _ (hp.1 i (by omega))).1 ?_)
          refine And.intro (fun c3 => ?_) (fun c3 => ?_)
          · refine Exists.intro _ (And.intro (hW _ (hp.1 i (by omega))).1 ?_)
            refine And.intro (Exists.intro _ ho) ?_
            refine ⟨_, _, _, ct_hasReached _ _ _ _ _ _ _ _ _ ho, Nat.zero_le _, Nat.zero_le _, rfl, ?_⟩
            rintro _ _ ⟨rfl, rfl⟩
            refine And.intro (fun c4 => ?_) (fun c4 => ?_)
            · -- path FTTT ret None
              exact ih (i + 1) _ _ _ (by rw [ei]; exact nI_1 i) (by omega) (rv_first_skip (Or.inr ⟨j, hj, rfl, hQj, h4⟩) (by show wdue _ _ _ = false; rw [wdue, rv_b0.mp c4]; simp))
            · refine And.intro (Exists.intro _ hx) ?_
              refine ⟨_, _, _, ct_endsBefore h0 _ _ (hW _ (hp.1 i (by omega))).1 j (by omega), Nat.zero_le _, Nat.zero_le _, rfl, ?_⟩
              rintro _ _ ⟨rfl, rfl⟩
              refine And.intro (fun c5 => ?_) (fun c5 => ?_)
              · -- path FTTFT ret None
                exact ih (i + 1) _ _ _ (by rw [ei]; exact nI_1 i) (by omega) (rv_first_keep hj hQj h4 (of_decide_eq_false (rv_b0.mp c5)))
              · -- path FTTFF ret None
                exact ih (i + 1) _ _ _ (by rw [ei]; exact nI_1 i) (by omega) (by rw [ei]; exact rv_first_take (show wdue _ _ _ = true by rw [wdue, decide_eq_true c2, rv_b0.mp c3, rv_bn c4]; rfl) h4 (of_decide_eq_true (rv_bn c5)))
          · -- path FTF ret None
            exact ih (i + 1) _ _ _ (by rw [ei]; exact nI_1 i) (by omega) (rv_first_skip (Or.inr ⟨j, hj, rfl, hQj, h4⟩) (by show wdue _ _ _ = false; rw [wdue, rv_bn c3]; simp))
        · -- path FF ret None
          exact ih (i + 1) _ _ _ (by rw [ei]; exact nI_1 i) (by omega) (rv_first_skip (Or.inr ⟨j, hj, rfl, hQj, h4⟩) (by show wdue _ _ _ = false; rw [wdue, decide_eq_false c2]; rfl))
set_option maxRecDepth 100000 in
theorem ct_nextDue {G : rv_G} {σ : rv_S} {wl n : Nat} {p : Nat → Nat} {D : Nat → Wd} (h : PWL σ.2 wl n p D) (x : Nat) (o k s st l r0 m : Int32) (ho : σ.2 x = some (oOp o k s st l r0 m)) : rv_Ct G i_WindowList_nextDue 0 0 [.ref wl, .ref x] σ (fun r σ' => (∃ v : Int32, rv_first (fun t => wdue (D (p t)) o m) (fun t => (D (p t)).1.2.2.2) n v ∧ r = some (.int v)) ∧ σ' = σ) := by
  refine rv_ct (M := m_WindowList_nextDue) rfl (by decide) rfl rfl ?_
  refine rv_V.run rv_gd_WindowList_nextDue [4] 400 ?_
  exact lp_nextDue h x o k s st l r0 m ho n 0 _ _ _ rfl (by omega) (Or.inl ⟨rfl, fun t ht => absurd ht (by omega)⟩)
set_option maxRecDepth 100000 in
theorem lp_nextClosed {G : rv_G} {σ : rv_S} {wl n : Nat} {p : Nat → Nat} {D : Nat → Wd} (h : PWL σ.2 wl n p D) (x : Nat) (o k s st l r0 m : Int32) (ho : σ.2 x = some (oOp o k s st l r0 m)) : ∀ (t i : Nat) (vn vi : Int32) (x4 : Option Value), vi = nI i → i + t = n → rv_first (fun t => wcls (D (p t)) o l m) (fun t => (D (p t)).1.2.2.2) i vn → rv_V G m_WindowList_nextClosed 0 0 (fun r σ' => (∃ v : Int32, rv_first (fun t => wcls (D (p t)) o l m) (fun t => (D (p t)).1.2.2.2) n v ∧ r = some (.int v)) ∧ σ' = σ) 4 [some (.ref wl), some (.ref x), some (.int vn), some (.int vi), x4] [] σ 0 0 := by
  have h0 := h
  obtain ⟨hx, ⟨f, hf, hfe⟩, hW, hp, hn⟩ := h
  intro t
  induction t with
  | zero =>
    intro i vn vi x4 ei h1 hv
    refine rv_V.run rv_gd_WindowList_nextClosed [4] 400 ?_
    refine Exists.intro _ (And.intro hx ?_)
    refine And.intro (fun c1 => ?_) (fun c1 => ?_)
    · refine And.intro trivial ?_
      exact ⟨⟨_, by rw [show i = n by omega] at hv; exact hv, rfl⟩, rfl⟩
    · exact absurd ((rv_leN rfl ei (by omega) (by omega)).mpr (by omega)) c1
  | succ t ih =>
    intro i vn vi x4 ei h1 hv
    have hv0 := hv
    rcases hv0 with ⟨rfl, hQ0⟩ | ⟨j, hj, rfl, hQj, h4⟩
    ·
      refine rv_V.run rv_gd_WindowList_nextClosed [4] 400 ?_
      refine Exists.intro _ (And.intro hx ?_)
      refine And.intro (fun c1 => ?_) (fun c1 => ?_)
      · refine And.intro trivial ?_
        -- path T ret .int (-1)
        exact ⟨⟨_, by rw [show i = n by have := (rv_leN rfl ei (by omega) (by omega)).mp c1; omega] at hv; exact hv, rfl⟩, rfl⟩
      · have hin : i < n := by
          rcases Nat.lt_or_ge i n with q | q
          · exact q
          · exact absurd ((rv_leN rfl ei (by omega) (by omega)).mpr q) c1
        refine Exists.intro _ (And.intro hx ?_)
        refine ⟨_, _, _, (some (wa wl (p i))), hf, by decide, (by rw [ei]; exact vp_in_nI (by omega) (by omega)), (by rw [ei, nI_clamp (by omega)]; exact hfe i (by omega)), ?_⟩
        refine Exists.intro _ (And.intro (hW _ (hp.1 i (by omega))).1 ?_)
        refine Exists.intro _ (And.intro ho ?_)
        refine And.intro (fun c2 => ?_) (fun c2 => ?_)
        · refine Exists.intro _ (And.intro (hW _ (hp.1 i (by omega))).1 ?_)
          refine And.intro (Exists.intro _ ho) ?_
          refine ⟨_, _, _, ct_closes _ _ _ _ _ _ _ _ _ ho, Nat.zero_le _, Nat.zero_le _, rfl, ?_⟩
          rintro _ _ ⟨rfl, rfl⟩
          refine And.intro (fun c3 => ?_) (fun c3 => ?_)
          · -- path FTT ret None
            exact ih (i + 1) _ _ _ (by rw [ei]; exact nI_1 i) (by omega) (rv_first_skip (Or.inl ⟨rfl, hQ0⟩) (by show wcls _ _ _ _ = false; rw [wcls, rv_b0.mp c3]; simp))
          · refine And.intro (Exists.intro _ hx) ?_
            refine ⟨_, _, _, ct_endsBefore_m h0 _, Nat.zero_le _, Nat.zero_le _, rfl, ?_⟩
            rintro _ _ ⟨rfl, rfl⟩
            refine And.intro (fun c4 => ?_) (fun c4 => ?_)
            · exact absurd c4 (by decide)
            · -- path FTFF ret None
              exact ih (i + 1) _ _ _ (by rw [ei]; exact nI_1 i) (by omega) (by rw [ei]; exact rv_first_new hQ0 (show wcls _ _ _ _ = true by rw [wcls, decide_eq_true c2, rv_bn c3]; rfl))
        · -- path FF ret None
          exact ih (i + 1) _ _ _ (by rw [ei]; exact nI_1 i) (by omega) (rv_first_skip (Or.inl ⟨rfl, hQ0⟩) (by show wcls _ _ _ _ = false; rw [wcls, decide_eq_false c2]; rfl))
    ·
      refine rv_V.run rv_gd_WindowList_nextClosed [4] 400 ?_
      refine Exists.intro _ (And.intro hx ?_)
      refine And.intro (fun c1 => ?_) (fun c1 => ?_)
      · refine And.intro trivial ?_
        -- path T ret .int (nI j)
        exact ⟨⟨_, by rw [show i = n by have := (rv_leN rfl ei (by omega) (by omega)).mp c1; omega] at hv; exact hv, rfl⟩, rfl⟩
      · have hin : i < n := by
          rcases Nat.lt_or_ge i n with q | q
          · exact q
          · exact absurd ((rv_leN rfl ei (by omega) (by omega)).mpr q) c1
        refine Exists.intro _ (And.intro hx ?_)
        refine ⟨_, _, _, (some (wa wl (p i))), hf, by decide, (by rw [ei]; exact vp_in_nI (by omega) (by omega)), (by rw [ei, nI_clamp (by omega)]; exact hfe i (by omega)), ?_⟩
        refine Exists.intro _ (And.intro (hW _ (hp.1 i (by omega))).1 ?_)
        refine Exists.intro _ (And.intro ho ?_)
        refine And.intro (fun c2 => ?_) (fun c2 => ?_)
        · refine Exists.intro _ (And.intro (hW _ (hp.1 i (by omega))).1 ?_)
          refine And.intro (Exists.intro _ ho) ?_
          refine ⟨_, _, _, ct_closes _ _ _ _ _ _ _ _ _ ho, Nat.zero_le _, Nat.zero_le _, rfl, ?_⟩
          rintro _ _ ⟨rfl, rfl⟩
          refine And.intro (fun c3 => ?_) (fun c3 => ?_)
          · -- path FTT ret None
            exact ih (i + 1) _ _ _ (by rw [ei]; exact nI_1 i) (by omega) (rv_first_skip (Or.inr ⟨j, hj, rfl, hQj, h4⟩) (by show wcls _ _ _ _ = false; rw [wcls, rv_b0.mp c3]; simp))
          · refine And.intro (Exists.intro _ hx) ?_
            refine ⟨_, _, _, ct_endsBefore h0 _ _ (hW _ (hp.1 i (by omega))).1 j (by omega), Nat.zero_le _, Nat.zero_le _, rfl, ?_⟩
            rintro _ _ ⟨rfl, rfl⟩
            refine And.intro (fun c4 => ?_) (fun c4 => ?_)
            · -- path FTFT ret None
              exact ih (i + 1) _ _ _ (by rw [ei]; exact nI_1 i) (by omega) (rv_first_keep hj hQj h4 (of_decide_eq_false (rv_b0.mp c4)))
            · -- path FTFF ret None
              exact ih (i + 1) _ _ _ (by rw [ei]; exact nI_1 i) (by omega) (by rw [ei]; exact rv_first_take (show wcls _ _ _ _ = true by rw [wcls, decide_eq_true c2, rv_bn c3]; rfl) h4 (of_decide_eq_true (rv_bn c4)))
        · -- path FF ret None
          exact ih (i + 1) _ _ _ (by rw [ei]; exact nI_1 i) (by omega) (rv_first_skip (Or.inr ⟨j, hj, rfl, hQj, h4⟩) (by show wcls _ _ _ _ = false; rw [wcls, decide_eq_false c2]; rfl))
set_option maxRecDepth 100000 in
theorem ct_nextClosed {G : rv_G} {σ : rv_S} {wl n : Nat} {p : Nat → Nat} {D : Nat → Wd} (h : PWL σ.2 wl n p D) (x : Nat) (o k s st l r0 m : Int32) (ho : σ.2 x = some (oOp o k s st l r0 m)) : rv_Ct G i_WindowList_nextClosed 0 0 [.ref wl, .ref x] σ (fun r σ' => (∃ v : Int32, rv_first (fun t => wcls (D (p t)) o l m) (fun t => (D (p t)).1.2.2.2) n v ∧ r = some (.int v)) ∧ σ' = σ) := by
  refine rv_ct (M := m_WindowList_nextClosed) rfl (by decide) rfl rfl ?_
  refine rv_V.run rv_gd_WindowList_nextClosed [4] 400 ?_
  exact lp_nextClosed h x o k s st l r0 m ho n 0 _ _ _ rfl (by omega) (Or.inl ⟨rfl, fun t ht => absurd ht (by omega)⟩)