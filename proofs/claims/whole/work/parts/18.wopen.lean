/-! THE LIST OF WINDOWS: opening and removing, whole -/
/-- a window that begins -/
def rv_fresh (o k b e : Int32) : Wd := ((o, k, b, e), (false, false), (0, 0, 0, 0), (0, 0, 0, 0))
theorem PWL.wins {g : Nat → Option rv_E} {wl n : Nat} {p : Nat → Nat} {D : Nat → Wd} (h : PWL g wl n p D) {f : Nat → Option Nat} (hfe : ∀ j, j < 120 → f j = some (wa wl (p j))) : rv_wins g wl f := fun t ht => ⟨_, _, hfe t ht, (h.2.2.1 _ (h.2.2.2.1.1 t ht)).1, by unfold wa; omega⟩
set_option maxRecDepth 100000 in
theorem ct_WL_open {G : rv_G} {σ : rv_S} {wl n : Nat} {p : Nat → Nat} {D : Nat → Wd} (h : PWL σ.2 wl n p D) (q : Nat) (hq : q ≤ n) (hr : n < 120) (o k b e : Int32) : rv_Ct G i_WindowList_open 0 0 [.ref wl, .int (nI q), .int o, .int k, .int b, .int e] σ (fun r σ' => r = none ∧ σ'.1 = σ.1 ∧ PWL σ'.2 wl (n + 1) (rv_ins p q n) (va_up D (p n) (rv_fresh o k b e)) ∧ rv_out wl 362 σ.2 σ'.2) := by
  have h0 := h
  have hpn := h.2.2.2.1.1 n hr
  have hw := h.2.2.1 _ hpn
  obtain ⟨hx, ⟨f, hf, hfe⟩, hW, hp, hn⟩ := h
  refine rv_ct (M := m_WindowList_open) rfl (by decide) rfl rfl ?_
  refine rv_V.run rv_gd_WindowList_open [41] 400 ?_
  refine Exists.intro _ (And.intro hx ?_)
  refine Exists.intro _ (And.intro hx ?_)
  refine Exists.intro _ (Exists.intro _ (Exists.intro _ (And.intro hf ?_)))
  refine And.intro (fun c1 => ?_) (fun c1 => ?_)
  · refine Exists.intro _ (And.intro hx ?_)
    refine Exists.intro _ (And.intro hx ?_)
    refine ⟨_, _, _, (some (wa wl (p n))), hf, by decide, (vp_in_nI (by omega) (by omega)), (by rw [nI_clamp (by omega)]; exact hfe n hr), ?_⟩
    refine And.intro (Exists.intro _ hw.1) ?_
    refine ⟨_, _, _, ct_Window_start _ _ _ _ _ _ _ _ _ o k b e _ _ _ _ _ _ _ _ hw.1 hw.2.1 hw.2.2 (by omega) (by omega) (by omega), Nat.zero_le _, Nat.zero_le _, rfl, ?_⟩
    rintro _ _ ⟨rfl, rfl⟩
    refine Exists.intro _ (And.intro ((rv_up_n (by first | omega | (unfold wa; omega))).trans ((rv_up_n (by first | omega | (unfold wa; omega))).trans ((rv_up_n (by first | omega | (unfold wa; omega))).trans hx))) ?_)
    -- path T ret None
    have hP1 := h0.setW hpn (o, k, b, e) (false, false)
    have hP2 := hP1.setH hpn (0, 0, 0, 0)
    have hP3 := hP2.setT hpn (0, 0, 0, 0)
    refine (lp_open (fs := _) hq hr (by unfold wa; omega) (n - q) n _ f _ rfl (by omega) (Nat.le_refl _) hP3.1 ((rv_up_n (by unfold wa; omega)).trans ((rv_up_n (by unfold wa; omega)).trans ((rv_up_n (by unfold wa; omega)).trans hf))) (hP3.wins hfe) (hP3.2.2.1 _ hpn).1 (by unfold wa; omega)).mono ?_
    rintro r σ' ⟨e1, e2⟩
    have hP4 := (hP3.setA (p' := rv_ins p q n) (f' := rv_shf f q n (wa wl (p n))) (fun j hj => by
      unfold rv_shf rv_ins
      by_cases h1 : j = q
      · rw [if_pos h1, if_pos h1]
      · rw [if_neg h1, if_neg h1]
        by_cases h2 : q < j ∧ j ≤ n
        · rw [if_pos h2, if_pos h2]; exact hfe _ (by omega)
        · rw [if_neg h2, if_neg h2]; exact hfe _ hj) (rv_ins_ok hq hr hp)).setN (n' := n + 1) (by omega)
    refine ⟨e1, by rw [e2], ?_, ?_⟩
    · rw [e2]
      have hP5 := hP4
      simp only [bx_uu, va_up_self] at hP5
      exact hP5
    · rw [e2]
      exact ((((rv_out.up (by unfold wa; omega)).tr (rv_out.up (by unfold wa; omega))).tr (rv_out.up (by unfold wa; omega))).tr (rv_out.up (by omega))).tr (rv_out.up (by omega))
  · exact absurd ((nI_ltI (b := 120) (by omega) (by omega)).mpr hr) c1

set_option maxRecDepth 100000 in
theorem lp_remove {G : rv_G} {wl m : Nat} {gone : Nat} {x1 : Option Value} (hm : m < 120) (hg2 : gone ≠ wl + 1) {fs : List Value} : ∀ (t j : Nat) (vj : Int32) (f : Nat → Option Nat) (σ : rv_S), vj = nI j → j + t = m → σ.2 wl = some (oWL (wl + 1) (nI m)) → σ.2 (wl + 1) = some (rv_aO RX8 120 f) → rv_wins σ.2 wl f → σ.2 gone = some (.inl (k_Window, fs)) → rv_V G m_WindowList_remove 0 0 (fun r σ' => r = none ∧ σ' = (σ.1, rv_up σ.2 (wl + 1) (rv_aO RX8 120 (rv_shb f j m gone)))) 23 [some (.ref wl), x1, some (.ref gone), some (.int vj)] [] σ 0 0 := by
  intro t
  induction t with
  | zero =>
    intro j vj f σ ej h1 hx hf hws hg
    have h1 : j = m := by omega
    refine rv_V.run rv_gd_WindowList_remove [23] 400 ?_
    refine Exists.intro _ (And.intro hx ?_)
    refine And.intro (fun c1 => ?_) (fun c1 => ?_)
    · refine Exists.intro _ (And.intro hx ?_)
      refine Exists.intro _ (And.intro hx ?_)
      refine ⟨_, _, _, _, _, hg, rfl, hf, by decide, (vp_in_nI (by omega) (by omega)), ?_⟩
      -- path T ret None
      refine ⟨rfl, ?_⟩
      rw [show rv_shb f j m gone = va_up f (nI m).toNatClampNeg (some gone) from by rw [nI_clamp (by omega), h1]; exact rv_shb_0 f m gone]
    · exact absurd ((rv_leN rfl ej (by omega) (by omega)).mpr (by omega)) c1
  | succ t ih =>
    intro j vj f σ ej h1 hx hf hws hg
    have hj1 : vj + 1 = nI (j + 1) := by rw [ej]; exact nI_1 j
    obtain ⟨a, fsa, ha, ha2, ha3⟩ := hws (j + 1) (by omega)
    refine rv_V.run rv_gd_WindowList_remove [23] 400 ?_
    refine Exists.intro _ (And.intro hx ?_)
    refine And.intro (fun c1 => ?_) (fun c1 => ?_)
    · exact absurd ((rv_leN rfl ej (by omega) (by omega)).mp c1) (by omega)
    · refine Exists.intro _ (And.intro hx ?_)
      refine Exists.intro _ (And.intro hx ?_)
      refine ⟨_, _, _, (some a), hf, by decide, (by rw [hj1]; exact vp_in_nI (by omega) (by omega)), (by rw [hj1, nI_clamp (by omega)]; exact ha), ?_⟩
      refine ⟨_, _, _, _, _, ha2, rfl, hf, by decide, (by rw [ej]; exact vp_in_nI (by omega) (by omega)), ?_⟩
      -- path F ret None
      refine (ih (j + 1) _ _ _ (by rw [ej]; exact nI_1 j) (by omega) ((rv_up_n (by omega)).trans hx) rv_up_s (hws.up ⟨_, ha2, ha3⟩ _) ((rv_up_n hg2).trans hg)).mono ?_
      rintro r σ' ⟨e1, e2⟩
      refine ⟨e1, ?_⟩
      rw [e2, rv_up_up, show vj.toNatClampNeg = j by rw [ej]; exact nI_clamp (by omega), rv_shb_1 f j m gone a (by omega) ha]
set_option maxRecDepth 100000 in
theorem ct_WL_remove {G : rv_G} {σ : rv_S} {wl n : Nat} {p : Nat → Nat} {D : Nat → Wd} (h : PWL σ.2 wl n p D) (j : Nat) (hj : j < n) : rv_Ct G i_WindowList_remove 0 0 [.ref wl, .int (nI j)] σ (fun r σ' => r = none ∧ σ'.1 = σ.1 ∧ PWL σ'.2 wl (n - 1) (rv_del p j n) D ∧ rv_out wl 362 σ.2 σ'.2) := by
  have h0 := h
  obtain ⟨hx, ⟨f, hf, hfe⟩, hW, hp, hn⟩ := h
  refine rv_ct (M := m_WindowList_remove) rfl (by decide) rfl rfl ?_
  refine rv_V.run rv_gd_WindowList_remove [23] 400 ?_
  refine And.intro (Exists.intro _ hx) ?_
  refine ⟨_, _, _, ct_at_in h0 j hj, Nat.zero_le _, Nat.zero_le _, rfl, ?_⟩
  rintro _ _ ⟨rfl, rfl⟩
  refine Exists.intro _ (And.intro hx ?_)
  refine Exists.intro _ (And.intro hx (And.intro trivial ?_))
  -- path  ret None
  rw [show nI n - 1 = nI (n - 1) by obtain ⟨t, rfl⟩ : ∃ t, n = t + 1 := ⟨n - 1, by omega⟩; exact nI_pred t]
  have hP1 := h0.setN (n' := n - 1) (by omega)
  refine (lp_remove (fs := _) (m := n - 1) (by omega) (by unfold wa; omega) (n - 1 - j) j _ f _ rfl (by omega) hP1.1 ((rv_up_n (by omega)).trans hf) (hP1.wins hfe) (hP1.2.2.1 _ (hp.1 j (by omega))).1).mono ?_
  rintro r σ' ⟨e1, e2⟩
  have hP2 := hP1.setA (p' := rv_del p j n) (f' := rv_shb f j (n - 1) (wa wl (p j))) (fun t ht => by
    unfold rv_shb rv_del
    by_cases h1 : t = n - 1
    · rw [if_pos h1, if_neg (by omega), if_pos (by omega)]
    · rw [if_neg h1]
      by_cases h2 : j ≤ t ∧ t < n - 1
      · rw [if_pos h2, if_pos (by omega)]; exact hfe _ (by omega)
      · rw [if_neg h2, if_neg (by omega), if_neg (by omega)]; exact hfe _ ht) (rv_del_ok hj hn hp)
  refine ⟨e1, by rw [e2], by rw [e2]; exact hP2, ?_⟩
  rw [e2]
  exact (rv_out.up (by omega)).tr (rv_out.up (by omega))
