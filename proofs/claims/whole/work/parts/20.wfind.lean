/-! THE LIST OF WINDOWS: in its order; finding -/
theorem rv_before_iff (o k b o2 k2 b2 : Int32) : rv_before o k b o2 k2 b2 = true ↔ (o.toInt < o2.toInt ∨ (o.toInt = o2.toInt ∧ (k.toInt < k2.toInt ∨ (k.toInt = k2.toInt ∧ b.toInt < b2.toInt)))) := by
  unfold rv_before
  by_cases h1 : o = o2
  · subst h1
    rw [if_pos rfl]
    by_cases h2 : k = k2
    · subst h2
      rw [if_pos rfl, decide_eq_true_eq, Int32.lt_iff_toInt_lt]
      omega
    · have h3 : ¬ k.toInt = k2.toInt := fun q => h2 (Int32.toInt_inj.mp q)
      rw [if_neg h2, decide_eq_true_eq, Int32.lt_iff_toInt_lt]
      omega
  · have h3 : ¬ o.toInt = o2.toInt := fun q => h1 (Int32.toInt_inj.mp q)
    rw [if_neg h1, decide_eq_true_eq, Int32.lt_iff_toInt_lt]
    omega
/-- strictly in order, by operators, keys, begins -/
def WS (n : Nat) (p : Nat → Nat) (D : Nat → Wd) : Prop := ∀ i j, i < j → j < n → wb (D (p i)) (D (p j)).1.1 (D (p j)).1.2.1 (D (p j)).1.2.2.1 = true
theorem WS.mono {n : Nat} {p : Nat → Nat} {D : Nat → Wd} (h : WS n p D) (o k b : Int32) : ∀ i j, i ≤ j → j < n → wb (D (p j)) o k b = true → wb (D (p i)) o k b = true := by
  intro i j hij hj hb
  rcases Nat.lt_or_ge i j with q | q
  · have h1 := h i j q hj
    unfold wb at h1 hb ⊢
    rw [rv_before_iff] at h1 hb ⊢
    omega
  · obtain rfl : i = j := by omega
    exact hb
theorem ct_holds {G : rv_G} {σ : rv_S} {wl n : Nat} {p : Nat → Nat} {D : Nat → Wd} (h : PWL σ.2 wl n p D) (q : Nat) (hq : q ≤ n) (o k b : Int32) : rv_Ct G i_WindowList_holds 0 0 [.ref wl, .int (nI q), .int o, .int k, .int b] σ (fun r σ' => r = some (.int (rv_b (decide (q < n) && weq (D (p q)) o k b))) ∧ σ' = σ) := by
  have hn := h.2.2.2.2
  rcases Nat.lt_or_ge q n with hl | hl
  · exact (ct_holds_in h q hl o k b).mono (fun r σ' ⟨h1, h2⟩ => ⟨by rw [h1, decide_eq_true hl]; rfl, h2⟩)
  · exact (ct_holds_out h (nI q) (Or.inr ((nI_leI (by omega) (by omega)).mpr hl)) o k b).mono (fun r σ' ⟨h1, h2⟩ => ⟨by rw [h1, decide_eq_false (by omega)]; rfl, h2⟩)
/-- a place: those before it stand before (o, k, b), the others don't -/
def rv_pl_ (n : Nat) (p : Nat → Nat) (D : Nat → Wd) (o k b : Int32) (q : Nat) : Prop := q ≤ n ∧ (∀ j, j < q → wb (D (p j)) o k b = true) ∧ (∀ j, q ≤ j → j < n → wb (D (p j)) o k b = false)
theorem ct_place {G : rv_G} {σ : rv_S} {wl n : Nat} {p : Nat → Nat} {D : Nat → Wd} (h : PWL σ.2 wl n p D) (hs : WS n p D) (o k b : Int32) : rv_Ct G i_WindowList_placeOf 0 0 [.ref wl, .int o, .int k, .int b] σ (fun r σ' => (∃ q : Nat, rv_pl_ n p D o k b q ∧ r = some (.int (nI q))) ∧ σ' = σ) :=
  (ct_placeOf h o k b (hs.mono o k b)).mono (fun r σ' ⟨⟨q, h1, h2, h3, h4⟩, h5⟩ => ⟨⟨q, ⟨h1, h2, h3⟩, h4⟩, h5⟩)

set_option maxRecDepth 100000 in
theorem ct_has {G : rv_G} {σ : rv_S} {wl n : Nat} {p : Nat → Nat} {D : Nat → Wd} (h : PWL σ.2 wl n p D) (hs : WS n p D) (o k b : Int32) : rv_Ct G i_WindowList_has 0 0 [.ref wl, .int o, .int k, .int b] σ (fun r σ' => (∃ q : Nat, rv_pl_ n p D o k b q ∧ r = some (.int (rv_b (decide (q < n) && weq (D (p q)) o k b)))) ∧ σ' = σ) := by
  have h0 := h
  obtain ⟨hx, ⟨f, hf, hfe⟩, hW, hp, hn⟩ := h
  refine rv_ct (M := m_WindowList_has) rfl (by decide) rfl rfl ?_
  refine rv_V.run rv_gd_WindowList_has [] 400 ?_
  refine And.intro (Exists.intro _ hx) ?_
  refine ⟨_, _, _, ct_place h0 hs o k b, Nat.zero_le _, Nat.zero_le _, rfl, ?_⟩
  rintro _ _ ⟨⟨q, hq, rfl⟩, rfl⟩
  refine And.intro (Exists.intro _ hx) ?_
  refine ⟨_, _, _, ct_holds h0 q hq.1 o k b, Nat.zero_le _, Nat.zero_le _, rfl, ?_⟩
  rintro _ _ ⟨rfl, rfl⟩
  refine And.intro (rv_b01 _) ?_
  -- path  ret .int (rv_b (decide (q < n) && weq (D (p q)) o k b))
  exact ⟨⟨q, hq, rfl⟩, rfl⟩

set_option maxRecDepth 100000 in
theorem ct_findOrOpen {G : rv_G} {σ : rv_S} {wl n : Nat} {p : Nat → Nat} {D : Nat → Wd} (h : PWL σ.2 wl n p D) (hs : WS n p D) (o k b e : Int32) (hr : ∀ q, rv_pl_ n p D o k b q → ¬ (q < n ∧ weq (D (p q)) o k b = true) → n < 120) : rv_Ct G i_WindowList_findOrOpen 0 0 [.ref wl, .int o, .int k, .int b, .int e] σ (fun r σ' => ∃ q : Nat, rv_pl_ n p D o k b q ∧ ((q < n ∧ weq (D (p q)) o k b = true ∧ r = some (.ref (wa wl (p q))) ∧ σ' = σ) ∨ (¬ (q < n ∧ weq (D (p q)) o k b = true) ∧ r = some (.ref (wa wl (p n))) ∧ σ'.1 = σ.1 ∧ PWL σ'.2 wl (n + 1) (rv_ins p q n) (va_up D (p n) (rv_fresh o k b e)) ∧ rv_out wl 362 σ.2 σ'.2))) := by
  have h0 := h
  obtain ⟨hx, ⟨f, hf, hfe⟩, hW, hp, hn⟩ := h
  refine rv_ct (M := m_WindowList_findOrOpen) rfl (by decide) rfl rfl ?_
  refine rv_V.run rv_gd_WindowList_findOrOpen [] 400 ?_
  refine And.intro (Exists.intro _ hx) ?_
  refine ⟨_, _, _, ct_place h0 hs o k b, Nat.zero_le _, Nat.zero_le _, rfl, ?_⟩
  rintro _ _ ⟨⟨q, hq, rfl⟩, rfl⟩
  refine And.intro (Exists.intro _ hx) ?_
  refine ⟨_, _, _, ct_holds h0 q hq.1 o k b, Nat.zero_le _, Nat.zero_le _, rfl, ?_⟩
  rintro _ _ ⟨rfl, rfl⟩
  refine And.intro (fun c1 => ?_) (fun c1 => ?_)
  · have hqn : ¬ (q < n ∧ weq (D (p q)) o k b = true) := fun z => by have := rv_b0.mp c1; rw [decide_eq_true z.1, z.2] at this; cases this
    refine And.intro (Exists.intro _ hx) ?_
    have hr := hr q hq hqn
    refine ⟨_, _, _, ct_WL_open h0 q hq.1 hr o k b e, Nat.zero_le _, Nat.zero_le _, rfl, ?_⟩
    rintro _ σ1 ⟨rfl, e1, hP, ho⟩
    refine And.intro (Exists.intro _ hP.1) ?_
    refine ⟨_, _, _, ct_at_in hP q (by have := hq.1; omega), Nat.zero_le _, Nat.zero_le _, rfl, ?_⟩
    rintro _ _ ⟨rfl, rfl⟩
    -- path T ret .ref (wa wl (rv_ins p q n q))
    refine ⟨q, hq, Or.inr ⟨hqn, ?_, e1, hP, ho⟩⟩
    rw [show rv_ins p q n q = p n by unfold rv_ins; rw [if_pos rfl]]
  · have hqn : q < n ∧ weq (D (p q)) o k b = true := by have := rv_bn c1; rw [Bool.and_eq_true, decide_eq_true_eq] at this; exact this
    refine And.intro (Exists.intro _ hx) ?_
    refine ⟨_, _, _, ct_at_in h0 q hqn.1, Nat.zero_le _, Nat.zero_le _, rfl, ?_⟩
    rintro _ _ ⟨rfl, rfl⟩
    -- path F ret .ref (wa wl (p q))
    exact ⟨q, hq, Or.inl ⟨hqn.1, hqn.2, rfl, rfl⟩⟩

theorem rv_pl_ex {n : Nat} {p : Nat → Nat} {D : Nat → Wd} (hs : WS n p D) (o k b : Int32) : ∃ q, rv_pl_ n p D o k b q := by
  have key : ∀ m, m ≤ n → ∃ q, q ≤ m ∧ (∀ j, j < q → wb (D (p j)) o k b = true) ∧ (∀ j, q ≤ j → j < m → wb (D (p j)) o k b = false) := by
    intro m
    induction m with
    | zero => exact fun _ => ⟨0, Nat.le_refl _, fun j hj => absurd hj (by omega), fun j _ hj => absurd hj (by omega)⟩
    | succ m ih =>
      intro hm
      obtain ⟨q, h1, h2, h3⟩ := ih (by omega)
      cases hb : wb (D (p m)) o k b with
      | false =>
        refine ⟨q, by omega, h2, fun j h4 h5 => ?_⟩
        rcases Nat.lt_or_ge j m with z | z
        · exact h3 j h4 z
        · obtain rfl : j = m := by omega
          exact hb
      | true => exact ⟨m + 1, Nat.le_refl _, fun j hj => hs.mono o k b j m (by omega) (by omega) hb, fun j h4 h5 => absurd h5 (by omega)⟩
  obtain ⟨q, h1, h2, h3⟩ := key n (Nat.le_refl _)
  exact ⟨q, h1, h2, h3⟩
set_option maxRecDepth 100000 in
theorem ct_find {G : rv_G} {σ : rv_S} {wl n : Nat} {p : Nat → Nat} {D : Nat → Wd} (h : PWL σ.2 wl n p D) (hs : WS n p D) (o k i : Int32) : rv_Ct G i_WindowList_find 0 0 [.ref wl, .int o, .int k, .int i] σ (fun r σ' => (∃ q : Nat, rv_pl_ n p D o k (-1000000) q ∧ r = some (va_rf (if i < 0 ∨ nI n ≤ i then none else if q + i.toNatClampNeg < n ∧ ((D (p (q + i.toNatClampNeg))).1.1 = o ∧ (D (p (q + i.toNatClampNeg))).1.2.1 = k) then some (wa wl (p (q + i.toNatClampNeg))) else none))) ∧ σ' = σ) := by
  have h0 := h
  obtain ⟨hx, ⟨f, hf, hfe⟩, hW, hp, hn⟩ := h
  refine rv_ct (M := m_WindowList_find) rfl (by decide) rfl rfl ?_
  refine rv_V.run rv_gd_WindowList_find [] 400 ?_
  refine And.intro (fun c1 => ?_) (fun c1 => ?_)
  · -- path T ret .null
    obtain ⟨q, hq⟩ := rv_pl_ex hs o k (-1000000)
    exact ⟨⟨q, hq, by rw [if_pos (Or.inl c1)]; rfl⟩, rfl⟩
  · refine Exists.intro _ (And.intro hx ?_)
    refine And.intro (fun c2 => ?_) (fun c2 => ?_)
    · refine And.intro (Exists.intro _ hx) ?_
      refine ⟨_, _, _, ct_place h0 hs o k (-1000000), Nat.zero_le _, Nat.zero_le _, rfl, ?_⟩
      rintro _ _ ⟨⟨q, hq, rfl⟩, rfl⟩
      obtain ⟨t, ht, rfl⟩ : ∃ t : Nat, t < n ∧ i = nI t := by
        rcases pk_ix i (n := n) (by omega) with z | z | z
        · exact absurd z c1
        · exact absurd z (Int32.not_le.mpr c2)
        · exact z
      have hq1 := hq.1
      have hcl : (nI t).toNatClampNeg = t := nI_clamp (by omega)
      have hno : ¬ (nI t < 0 ∨ nI n ≤ nI t) := fun z => z.elim c1 (Int32.not_le.mpr c2)
      rcases Nat.lt_or_ge (q + t) n with hqt | hqt
      · refine And.intro (Exists.intro _ hx) ?_
        refine ⟨_, _, _, (by rw [nI_add]; exact ct_at_in h0 (q + t) hqt), Nat.zero_le _, Nat.zero_le _, rfl, ?_⟩
        rintro _ _ ⟨rfl, rfl⟩
        refine And.intro (Exists.intro _ (hW _ (hp.1 (q + t) (by omega))).1) ?_
        refine ⟨_, _, _, ct_belongsTo _ _ _ _ _ _ _ _ _ o k (hW _ (hp.1 (q + t) (by omega))).1, Nat.zero_le _, Nat.zero_le _, rfl, ?_⟩
        rintro _ _ ⟨rfl, rfl⟩
        refine And.intro (fun c3 => ?_) (fun c3 => ?_)
        · -- path FTaT ret .null
          exact ⟨⟨q, hq, by rw [if_neg hno, hcl, if_neg (fun z => by have := rv_b0.mp c3; rw [decide_eq_true z.2] at this; cases this)]; rfl⟩, rfl⟩
        · -- path FTaF ret .ref (wa wl (p (q + t)))
          exact ⟨⟨q, hq, by rw [if_neg hno, hcl, if_pos ⟨hqt, of_decide_eq_true (rv_bn c3)⟩]; rfl⟩, rfl⟩
      · refine And.intro (Exists.intro _ hx) ?_
        refine ⟨_, _, _, ct_at_out h0 _ (Or.inr (by rw [nI_add]; exact (nI_leI (by omega) (by omega)).mpr hqt)), Nat.zero_le _, Nat.zero_le _, rfl, ?_⟩
        rintro _ _ ⟨rfl, rfl⟩
        -- path FTb ret .null
        exact ⟨⟨q, hq, by rw [if_neg hno, hcl, if_neg (fun z => absurd z.1 (by omega))]; rfl⟩, rfl⟩
    · -- path FF ret .null
      obtain ⟨q, hq⟩ := rv_pl_ex hs o k (-1000000)
      exact ⟨⟨q, hq, by rw [if_pos (Or.inr (Int32.not_lt.mp c2))]; rfl⟩, rfl⟩
