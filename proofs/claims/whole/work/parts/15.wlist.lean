/-! THE LIST OF WINDOWS: pictures and contracts -/
abbrev Tl : Type := Int32 × Int64 × Int32 × Int32
/-- a window: operator, key, begin, end; told, changed; what it has; what was told of it last -/
abbrev Wd : Type := (Int32 × Int32 × Int32 × Int32) × (Bool × Bool) × Tl × Tl
def oT (t : Tl) : rv_E := oTally t.1 t.2.1 t.2.2.1 t.2.2.2
def oW (d : Wd) (a : Nat) : rv_E := oWin d.1.1 d.1.2.1 d.1.2.2.1 d.1.2.2.2 d.2.1.1 d.2.1.2 (a + 1) (a + 2)
def PW (g : Nat → Option rv_E) (a : Nat) (d : Wd) : Prop := g a = some (oW d a) ∧ g (a + 1) = some (oT d.2.2.1) ∧ g (a + 2) = some (oT d.2.2.2)
abbrev wa (wl i : Nat) : Nat := wl + 2 + 3 * i
/-- the list at wl, its array behind it, then 120 windows with their two tallies each; n are there, the j-th is the p j-th of them -/
def PWL (g : Nat → Option rv_E) (wl n : Nat) (p : Nat → Nat) (D : Nat → Wd) : Prop :=
  g wl = some (oWL (wl + 1) (nI n)) ∧ (∃ f : Nat → Option Nat, g (wl + 1) = some (rv_aO RX8 120 f) ∧ ∀ j, j < 120 → f j = some (wa wl (p j))) ∧ (∀ i, i < 120 → PW g (wa wl i) (D i)) ∧ ((∀ j, j < 120 → p j < 120) ∧ ∀ i j, i < 120 → j < 120 → p i = p j → i = j) ∧ n ≤ 120
/-- does this window stand before (o, k, b)? -/
def wb (d : Wd) (o k b : Int32) : Bool := rv_before d.1.1 d.1.2.1 d.1.2.2.1 o k b
theorem rv_leN {x y : Int32} {a b : Nat} (hx : x = nI a) (hy : y = nI b) (ha : a < 2 ^ 31) (hb : b < 2 ^ 31) : x ≤ y ↔ a ≤ b := by
  subst hx
  subst hy
  exact nI_leI ha hb
theorem rv_ltN {x y : Int32} {a b : Nat} (hx : x = nI a) (hy : y = nI b) (ha : a < 2 ^ 31) (hb : b < 2 ^ 31) : x < y ↔ a < b := by
  subst hx
  subst hy
  exact nI_ltI ha hb

set_option maxRecDepth 100000 in
theorem ct_at_in {G : rv_G} {σ : rv_S} {wl n : Nat} {p : Nat → Nat} {D : Nat → Wd} (h : PWL σ.2 wl n p D) (j : Nat) (hj : j < n) : rv_Ct G i_WindowList_at 0 0 [.ref wl, .int (nI j)] σ (fun r σ' => r = some (.ref (wa wl (p j))) ∧ σ' = σ) := by
  obtain ⟨hx, ⟨f, hf, hfe⟩, hW, hp, hn⟩ := h
  refine rv_ct (M := m_WindowList_at) rfl (by decide) rfl rfl ?_
  refine rv_V.run rv_gd_WindowList_at [] 400 ?_
  refine And.intro (fun c1 => ?_) (fun c1 => ?_)
  · -- path T ret .null
    exact absurd c1 (nI_pos (by omega))
  · refine Exists.intro _ (And.intro hx ?_)
    refine And.intro (fun c2 => ?_) (fun c2 => ?_)
    · -- path FT ret .null
      exact absurd ((nI_leI (by omega) (by omega)).mp c2) (by omega)
    · refine Exists.intro _ (And.intro hx ?_)
      refine ⟨_, _, _, (some (wa wl (p j))), hf, by decide, (vp_in_nI (by omega) (by omega)), (by rw [nI_clamp (by omega)]; exact hfe j (by omega)), ?_⟩
      -- path FF ret .ref (wa wl (p j))
      exact ⟨rfl, rfl⟩

set_option maxRecDepth 100000 in
theorem ct_at_out {G : rv_G} {σ : rv_S} {wl n : Nat} {p : Nat → Nat} {D : Nat → Wd} (h : PWL σ.2 wl n p D) (i : Int32) (hi : i < 0 ∨ nI n ≤ i) : rv_Ct G i_WindowList_at 0 0 [.ref wl, .int i] σ (fun r σ' => r = some .null ∧ σ' = σ) := by
  obtain ⟨hx, ⟨f, hf, hfe⟩, hW, hp, hn⟩ := h
  refine rv_ct (M := m_WindowList_at) rfl (by decide) rfl rfl ?_
  refine rv_V.run rv_gd_WindowList_at [] 400 ?_
  refine And.intro (fun c1 => ?_) (fun c1 => ?_)
  · -- path T ret .null
    exact ⟨rfl, rfl⟩
  · refine Exists.intro _ (And.intro hx ?_)
    refine And.intro (fun c2 => ?_) (fun c2 => ?_)
    · -- path FT ret .null
      exact ⟨rfl, rfl⟩
    · refine Exists.intro _ (And.intro hx ?_)
      refine ⟨_, _, _, (some 0), hf, by decide, (absurd hi (fun q => q.elim c1 c2)), (absurd hi (fun q => q.elim c1 c2)), ?_⟩
      -- path FF ret .ref 0
      exact absurd hi (fun q => q.elim c1 c2)

set_option maxRecDepth 100000 in
theorem ct_endsBefore {G : rv_G} {σ : rv_S} {wl n : Nat} {p : Nat → Nat} {D : Nat → Wd} (h : PWL σ.2 wl n p D) (a : Nat) (d : Wd) (ha : σ.2 a = some (oW d a)) (j : Nat) (hj : j < 120) : rv_Ct G i_WindowList_endsBefore 0 0 [.ref wl, .ref a, .int (nI j)] σ (fun r σ' => r = some (.int (rv_b (decide (d.1.2.2.2 < (D (p j)).1.2.2.2)))) ∧ σ' = σ) := by
  obtain ⟨hx, ⟨f, hf, hfe⟩, hW, hp, hn⟩ := h
  refine rv_ct (M := m_WindowList_endsBefore) rfl (by decide) rfl rfl ?_
  refine rv_V.run rv_gd_WindowList_endsBefore [] 400 ?_
  refine And.intro (fun c1 => ?_) (fun c1 => ?_)
  · refine And.intro (Or.inr rfl) ?_
    -- path T ret .int 1
    exact absurd c1 (nI_pos (by omega))
  · refine Exists.intro _ (And.intro ha ?_)
    refine Exists.intro _ (And.intro hx ?_)
    refine ⟨_, _, _, (some (wa wl (p j))), hf, by decide, (vp_in_nI (by omega) (by omega)), (by rw [nI_clamp (by omega)]; exact hfe j (by omega)), ?_⟩
    refine Exists.intro _ (And.intro (hW _ (hp.1 j hj)).1 ?_)
    refine And.intro (fun c2 => ?_) (fun c2 => ?_)
    · refine And.intro (Or.inl rfl) ?_
      -- path FT ret .int 0
      exact ⟨by rw [decide_eq_false (Int32.not_lt.mpr c2)]; rfl, rfl⟩
    · refine And.intro (Or.inr rfl) ?_
      -- path FF ret .int 1
      exact ⟨by rw [decide_eq_true (Int32.not_le.mp c2)]; rfl, rfl⟩

set_option maxRecDepth 100000 in
theorem lp_placeOf {G : rv_G} {σ : rv_S} {wl n : Nat} {p : Nat → Nat} {D : Nat → Wd} (h : PWL σ.2 wl n p D) (o k b : Int32) (hm : ∀ i j, i ≤ j → j < n → wb (D (p j)) o k b = true → wb (D (p i)) o k b = true) : ∀ (m c lo hi : Nat) (vc vl vh : Int32) (x7 : Option Value), vc = nI c → vl = nI lo → vh = nI hi → c + m = 120 → lo ≤ hi → hi ≤ n → hi - lo ≤ m → (∀ j, j < lo → wb (D (p j)) o k b = true) → (∀ j, hi ≤ j → j < n → wb (D (p j)) o k b = false) → rv_V G m_WindowList_placeOf 0 0 (fun r σ' => (∃ q : Nat, q ≤ n ∧ (∀ j, j < q → wb (D (p j)) o k b = true) ∧ (∀ j, q ≤ j → j < n → wb (D (p j)) o k b = false) ∧ r = some (.int (nI q))) ∧ σ' = σ) 12 [some (.ref wl), some (.int o), some (.int k), some (.int b), some (.int vl), some (.int vh), some (.int vc), x7] [] σ 0 0 := by
  obtain ⟨hx, ⟨f, hf, hfe⟩, hW, hp, hn⟩ := h
  intro m
  induction m with
  | zero =>
    intro c lo hi vc vl vh x7 ec el eh h0 h1 h2 h3 h4 h5
    obtain rfl : lo = hi := by omega
    refine rv_V.run rv_gd_WindowList_placeOf [12] 400 ?_
    refine And.intro (fun c1 => ?_) (fun c1 => ?_)
    · exact And.intro trivial ⟨⟨lo, h2, h4, h5, by rw [el]⟩, rfl⟩
    · exact absurd (by rw [ec]; exact (nI_leI (a := 120) (b := c) (by omega) (by omega)).mpr (by omega)) c1
  | succ m ih =>
    intro c lo hi vc vl vh x7 ec el eh h0 h1 h2 h3 h4 h5
    have hmid : (vl + vh) / 2 = nI ((lo + hi) / 2) := by rw [el, eh, nI_add]; exact pk_div (d := 2) (by omega) (by omega) (by omega)
    refine rv_V.run rv_gd_WindowList_placeOf [12] 400 ?_
    refine And.intro (fun c1 => ?_) (fun c1 => ?_)
    · refine And.intro trivial ?_
      -- path T ret .int vl
      exact absurd ((rv_leN (a := 120) rfl ec (by omega) (by omega)).mp c1) (by omega)
    · refine And.intro (fun c2 => ?_) (fun c2 => ?_)
      · refine And.intro trivial ?_
        -- path FT ret .int vl
        have hh := (rv_leN eh el (by omega) (by omega)).mp c2
        obtain rfl : lo = hi := by omega
        exact ⟨⟨lo, h2, h4, h5, by rw [el]⟩, rfl⟩
      · have hlt : lo < hi := by
          rcases Nat.lt_or_ge lo hi with q | q
          · exact q
          · exact absurd (by rw [el, eh]; exact (nI_leI (by omega) (by omega)).mpr q) c2
        refine And.intro (by decide) ?_
        refine Exists.intro _ (And.intro hx ?_)
        refine ⟨_, _, _, (some (wa wl (p ((lo + hi) / 2)))), hf, by decide, (by rw [hmid]; exact vp_in_nI (by omega) (by omega)), (by rw [hmid, nI_clamp (by omega)]; exact hfe _ (by omega)), ?_⟩
        refine And.intro (Exists.intro _ (hW _ (hp.1 ((lo + hi) / 2) (by omega))).1) ?_
        refine ⟨_, _, _, ct_standsBefore _ _ _ _ _ _ _ _ _ o k b (hW _ (hp.1 ((lo + hi) / 2) (by omega))).1, Nat.zero_le _, Nat.zero_le _, rfl, ?_⟩
        rintro _ _ ⟨rfl, rfl⟩
        refine And.intro (fun c3 => ?_) (fun c3 => ?_)
        · -- path FFT ret None
          have hb := rv_b0.mp c3
          exact ih (c + 1) lo ((lo + hi) / 2) _ _ _ _ (by rw [ec]; exact nI_1 c) el hmid (by omega) (by omega) (by omega) (by omega) h4 (fun j h6 h7 => by
            cases hbj : wb (D (p j)) o k b with
            | false => rfl
            | true => exact absurd (hm _ j h6 h7 hbj) (by rw [show wb (D (p ((lo + hi) / 2))) o k b = false from hb]; decide))
        · -- path FFF ret None
          have hb := rv_bn c3
          exact ih (c + 1) ((lo + hi) / 2 + 1) hi _ _ _ _ (by rw [ec]; exact nI_1 c) (by rw [hmid]; exact nI_1 _) eh (by omega) (by omega) (by omega) (by omega) (fun j h6 => hm j ((lo + hi) / 2) (by omega) (by omega) hb) h5
set_option maxRecDepth 100000 in
theorem ct_placeOf {G : rv_G} {σ : rv_S} {wl n : Nat} {p : Nat → Nat} {D : Nat → Wd} (h : PWL σ.2 wl n p D) (o k b : Int32) (hm : ∀ i j, i ≤ j → j < n → wb (D (p j)) o k b = true → wb (D (p i)) o k b = true) : rv_Ct G i_WindowList_placeOf 0 0 [.ref wl, .int o, .int k, .int b] σ (fun r σ' => (∃ q : Nat, q ≤ n ∧ (∀ j, j < q → wb (D (p j)) o k b = true) ∧ (∀ j, q ≤ j → j < n → wb (D (p j)) o k b = false) ∧ r = some (.int (nI q))) ∧ σ' = σ) := by
  refine rv_ct (M := m_WindowList_placeOf) rfl (by decide) rfl rfl ?_
  refine rv_V.run rv_gd_WindowList_placeOf [12] 400 ?_
  refine Exists.intro _ (And.intro h.1 ?_)
  exact lp_placeOf h o k b hm 120 0 0 n _ _ _ _ rfl rfl rfl rfl (Nat.zero_le _) (Nat.le_refl _) (by have := h.2.2.2.2; omega) (fun j hj => absurd hj (by omega)) (fun j h1 h2 => absurd h2 (by omega))