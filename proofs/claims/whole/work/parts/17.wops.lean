/-! THE LIST OF WINDOWS: opening, removing -/
def weq (d : Wd) (o k b : Int32) : Bool := decide (d.1.1 = o ∧ d.1.2.1 = k) && decide (d.1.2.2.1 = b)
def rv_shf (f : Nat → Option Nat) (q j fr : Nat) : Nat → Option Nat := fun t => if t = q then some fr else if q < t ∧ t ≤ j then f (t - 1) else f t
theorem rv_shf_0 (f : Nat → Option Nat) (q fr : Nat) : rv_shf f q q fr = va_up f q (some fr) := by
  funext t
  unfold rv_shf va_up
  by_cases h : t = q
  · simp [h]
  · rw [if_neg h, if_neg h, if_neg (by omega)]
theorem rv_shf_1 (f : Nat → Option Nat) (q j fr a : Nat) (hq : q < j) (ha : f (j - 1) = some a) : rv_shf (va_up f j (some a)) q (j - 1) fr = rv_shf f q j fr := by
  funext t
  unfold rv_shf va_up
  by_cases h : t = q
  · rw [if_pos h, if_pos h]
  · rw [if_neg h, if_neg h]
    by_cases h1 : t = j
    · subst h1
      rw [if_neg (by omega), if_pos rfl, if_pos (by omega), ha]
    · by_cases h2 : q < t ∧ t ≤ j
      · rw [if_pos (by omega), if_neg (by omega), if_pos h2]
      · rw [if_neg (by omega), if_neg h1, if_neg h2]
/-- removal in the array: those behind j come forward -/
def rv_shb (f : Nat → Option Nat) (j m gone : Nat) : Nat → Option Nat := fun t => if t = m then some gone else if j ≤ t ∧ t < m then f (t + 1) else f t
theorem rv_shb_0 (f : Nat → Option Nat) (m gone : Nat) : rv_shb f m m gone = va_up f m (some gone) := by
  funext t
  unfold rv_shb va_up
  by_cases h : t = m
  · simp [h]
  · rw [if_neg h, if_neg h, if_neg (by omega)]
theorem rv_shb_1 (f : Nat → Option Nat) (j m gone a : Nat) (hj : j < m) (ha : f (j + 1) = some a) : rv_shb (va_up f j (some a)) (j + 1) m gone = rv_shb f j m gone := by
  funext t
  unfold rv_shb va_up
  by_cases h : t = m
  · rw [if_pos h, if_pos h]
  · rw [if_neg h, if_neg h]
    by_cases h1 : t = j
    · subst h1
      rw [if_neg (by omega), if_pos rfl, if_pos (by omega), ha]
    · by_cases h2 : j ≤ t ∧ t < m
      · rw [if_pos (by omega), if_neg (by omega), if_pos h2]
      · rw [if_neg (by omega), if_neg h1, if_neg h2]
/-- an array of windows -/
def rv_wins (g : Nat → Option rv_E) (wl : Nat) (f : Nat → Option Nat) : Prop := ∀ t, t < 120 → ∃ (a : Nat) (fs : List Value), f t = some a ∧ g a = some (.inl (k_Window, fs)) ∧ a ≠ wl + 1
theorem rv_wins.up {g : Nat → Option rv_E} {wl : Nat} {f : Nat → Option Nat} (h : rv_wins g wl f) {i a : Nat} (ha : ∃ fs : List Value, g a = some (.inl (k_Window, fs)) ∧ a ≠ wl + 1) (x : rv_E) : rv_wins (rv_up g (wl + 1) x) wl (va_up f i (some a)) := by
  intro t ht
  by_cases hti : t = i
  · subst hti
    obtain ⟨fs, h1, h2⟩ := ha
    exact ⟨a, fs, va_up_self _ _ _, (rv_up_n h2).trans h1, h2⟩
  · obtain ⟨a', fs, h1, h2, h3⟩ := h t ht
    exact ⟨a', fs, (va_up_ne _ _ hti).trans h1, (rv_up_n h3).trans h2, h3⟩

set_option maxRecDepth 100000 in
theorem ct_holds_in {G : rv_G} {σ : rv_S} {wl n : Nat} {p : Nat → Nat} {D : Nat → Wd} (h : PWL σ.2 wl n p D) (q : Nat) (hq : q < n) (o k b : Int32) : rv_Ct G i_WindowList_holds 0 0 [.ref wl, .int (nI q), .int o, .int k, .int b] σ (fun r σ' => r = some (.int (rv_b (weq (D (p q)) o k b))) ∧ σ' = σ) := by
  have h0 := h
  obtain ⟨hx, ⟨f, hf, hfe⟩, hW, hp, hn⟩ := h
  refine rv_ct (M := m_WindowList_holds) rfl (by decide) rfl rfl ?_
  refine rv_V.run rv_gd_WindowList_holds [] 400 ?_
  refine And.intro (Exists.intro _ hx) ?_
  refine ⟨_, _, _, ct_at_in h0 q hq, Nat.zero_le _, Nat.zero_le _, rfl, ?_⟩
  rintro _ _ ⟨rfl, rfl⟩
  refine And.intro (Exists.intro _ (hW _ (hp.1 q (by omega))).1) ?_
  refine ⟨_, _, _, ct_belongsTo _ _ _ _ _ _ _ _ _ o k (hW _ (hp.1 q (by omega))).1, Nat.zero_le _, Nat.zero_le _, rfl, ?_⟩
  rintro _ _ ⟨rfl, rfl⟩
  refine And.intro (fun c1 => ?_) (fun c1 => ?_)
  · refine And.intro (Or.inl rfl) ?_
    -- path T ret .int 0
    have hb := rv_b0.mp c1
    exact ⟨by rw [weq, hb]; rfl, rfl⟩
  · refine Exists.intro _ (And.intro (hW _ (hp.1 q (by omega))).1 ?_)
    refine And.intro (fun c2 => ?_) (fun c2 => ?_)
    · refine And.intro (Or.inr rfl) ?_
      -- path FT ret .int 1
      have hb := rv_bn c1
      exact ⟨by rw [weq, hb, decide_eq_true c2]; rfl, rfl⟩
    · refine And.intro (Or.inl rfl) ?_
      -- path FF ret .int 0
      have hb := rv_bn c1
      exact ⟨by rw [weq, hb, decide_eq_false c2]; rfl, rfl⟩

set_option maxRecDepth 100000 in
theorem ct_holds_out {G : rv_G} {σ : rv_S} {wl n : Nat} {p : Nat → Nat} {D : Nat → Wd} (h : PWL σ.2 wl n p D) (i : Int32) (hi : i < 0 ∨ nI n ≤ i) (o k b : Int32) : rv_Ct G i_WindowList_holds 0 0 [.ref wl, .int i, .int o, .int k, .int b] σ (fun r σ' => r = some (.int 0) ∧ σ' = σ) := by
  have h0 := h
  obtain ⟨hx, ⟨f, hf, hfe⟩, hW, hp, hn⟩ := h
  refine rv_ct (M := m_WindowList_holds) rfl (by decide) rfl rfl ?_
  refine rv_V.run rv_gd_WindowList_holds [] 400 ?_
  refine And.intro (Exists.intro _ hx) ?_
  refine ⟨_, _, _, ct_at_out h0 i hi, Nat.zero_le _, Nat.zero_le _, rfl, ?_⟩
  rintro _ _ ⟨rfl, rfl⟩
  refine And.intro (Or.inl rfl) ?_
  -- path  ret .int 0
  exact ⟨rfl, rfl⟩

set_option maxRecDepth 100000 in
theorem lp_open {G : rv_G} {wl q n : Nat} {o k b e : Int32} {fr : Nat} (hq : q ≤ n) (hn : n < 120) (hfr2 : fr ≠ wl + 1) {fs : List Value} : ∀ (m j : Nat) (vj : Int32) (f : Nat → Option Nat) (σ : rv_S), vj = nI j → j = q + m → j ≤ n → σ.2 wl = some (oWL (wl + 1) (nI n)) → σ.2 (wl + 1) = some (rv_aO RX8 120 f) → rv_wins σ.2 wl f → σ.2 fr = some (.inl (k_Window, fs)) → fr ≠ wl + 1 → rv_V G m_WindowList_open 0 0 (fun r σ' => r = none ∧ σ' = (σ.1, rv_up (rv_up σ.2 (wl + 1) (rv_aO RX8 120 (rv_shf f q j fr))) wl (oWL (wl + 1) (nI (n + 1))))) 41 [some (.ref wl), some (.int (nI q)), some (.int o), some (.int k), some (.int b), some (.int e), some (.ref fr), some (.int vj)] [] σ 0 0 := by
  intro m
  induction m with
  | zero =>
    intro j vj f σ ej h1 h2 hx hf hws hfr _
    have h1 : q = j := by omega
    refine rv_V.run rv_gd_WindowList_open [41] 400 ?_
    refine And.intro (fun c1 => ?_) (fun c1 => ?_)
    · refine Exists.intro _ (And.intro hx ?_)
      refine ⟨_, _, _, _, _, hfr, rfl, hf, by decide, (vp_in_nI (by omega) (by omega)), ?_⟩
      refine Exists.intro _ (And.intro ((rv_up_n (by first | omega | (unfold wa; omega))).trans hx) ?_)
      refine Exists.intro _ (And.intro ((rv_up_n (by first | omega | (unfold wa; omega))).trans hx) (And.intro trivial ?_))
      -- path T ret None
      refine ⟨rfl, ?_⟩
      rw [show rv_shf f q j fr = va_up f (nI q).toNatClampNeg (some fr) from by rw [nI_clamp (by omega), ← h1]; exact rv_shf_0 f q fr, ← nI_1]
      rfl
    · exact absurd ((rv_leN ej rfl (by omega) (by omega)).mpr (by omega)) c1
  | succ m ih =>
    intro j vj f σ ej h1 h2 hx hf hws hfr _
    have hj1 : vj - 1 = nI (j - 1) := by rw [ej]; obtain ⟨t, rfl⟩ : ∃ t, j = t + 1 := ⟨j - 1, by omega⟩; exact nI_pred t
    obtain ⟨a, fsa, ha, ha2, ha3⟩ := hws (j - 1) (by omega)
    refine rv_V.run rv_gd_WindowList_open [41] 400 ?_
    refine And.intro (fun c1 => ?_) (fun c1 => ?_)
    · exact absurd ((rv_leN ej rfl (by omega) (by omega)).mp c1) (by omega)
    · refine Exists.intro _ (And.intro hx ?_)
      refine Exists.intro _ (And.intro hx ?_)
      refine ⟨_, _, _, (some a), hf, by decide, (by rw [hj1]; exact vp_in_nI (by omega) (by omega)), (by rw [hj1, nI_clamp (by omega)]; exact ha), ?_⟩
      refine ⟨_, _, _, _, _, ha2, rfl, hf, by decide, (by rw [ej]; exact vp_in_nI (by omega) (by omega)), ?_⟩
      -- path F ret None
      refine (ih (j - 1) _ _ _ ?_ (by omega) (by omega) ((rv_up_n (by omega)).trans hx) rv_up_s (hws.up ⟨_, ha2, ha3⟩ _) ((rv_up_n hfr2).trans hfr) hfr2).mono ?_
      · rw [ej]; exact pk_m1 (j - 1) ▸ (by rw [show j - 1 + 1 = j by omega])
      · rintro r σ' ⟨e1, e2⟩
        refine ⟨e1, ?_⟩
        rw [e2, rv_up_up, show vj.toNatClampNeg = j by rw [ej]; exact nI_clamp (by omega), rv_shf_1 f q j fr a (by omega) ha]