/-! RINGS: records in the order they came -/
def rv_inc (rm el : Int32) : Int32 := if rm ≤ el + 1 then 0 else el + 1
def rv_slot (rm el i : Int32) : Int32 := if rm ≤ el + i then el + i - rm else el + i
theorem ct_drop {G : rv_G} {σ : rv_S} (x : Nat) (rm w : Int32) (c : Nat) (el la sz : Int32) (hs : ¬ sz ≤ 0) (hx : σ.2 x = some (oRing rm w c el la sz)) : rv_Ct G i_Ring_dropEldest 0 0 [.ref x] σ (fun r σ' => r = none ∧ σ' = (σ.1, rv_up σ.2 x (oRing rm w c (rv_inc rm el) la (sz - 1)))) :=
  (ct_dropEldest x rm w c el la sz hx).mono (fun r σ' h => ⟨h.1, by rw [h.2, if_neg hs]; rfl⟩)
theorem rv_inc_n {R e : Nat} (he : e < R) (hR : R < 2 ^ 30) : rv_inc (nI R) (nI e) = nI ((e + 1) % R) := by
  unfold rv_inc
  rw [nI_1]
  by_cases h : R ≤ e + 1
  · rw [if_pos ((nI_leI (by omega) (by omega)).mpr h), show (e + 1) % R = 0 by rw [show e + 1 = R by omega, Nat.mod_self]]
    rfl
  · rw [if_neg (fun q => h ((nI_leI (by omega) (by omega)).mp q)), Nat.mod_eq_of_lt (by omega)]
theorem rv_slot_n {R e i : Nat} (he : e < R) (hi : i ≤ R) (hR : R < 2 ^ 30) : rv_slot (nI R) (nI e) (nI i) = nI ((e + i) % R) := by
  unfold rv_slot
  rw [nI_add]
  by_cases h : R ≤ e + i
  · rw [if_pos ((nI_leI (by omega) (by omega)).mpr h), pk_sub h]
    congr 1
    rcases Nat.lt_or_ge (e + i) (2 * R) with h2 | h2
    · rw [Nat.mod_eq_sub_mod h, Nat.mod_eq_of_lt (by omega)]
    · omega
  · rw [if_neg (fun q => h ((nI_leI (by omega) (by omega)).mp q)), Nat.mod_eq_of_lt (by omega)]

set_option maxRecDepth 100000 in
theorem ct_Ring_open {G : rv_G} {σ : rv_S} (x : Nat) (rm w : Int32) (c : Nat) (el la sz : Int32) (hx : σ.2 x = some (oRing rm w c el la sz)) (hd : ¬ sz < rm → ¬ sz ≤ 0) : rv_Ct G i_Ring_open 0 0 [.ref x] σ (fun r σ' => r = none ∧ σ' = (σ.1, rv_up σ.2 x (if sz < rm then oRing rm w c el (rv_slot rm el sz) (sz + 1) else oRing rm w c (rv_inc rm el) (rv_slot rm (rv_inc rm el) (sz - 1)) (sz - 1 + 1)))) := by
  refine rv_ct (M := m_Ring_open) rfl (by decide) rfl rfl ?_
  refine rv_V.run rv_gd_Ring_open [] 400 ?_
  refine Exists.intro _ (And.intro hx ?_)
  refine Exists.intro _ (And.intro hx ?_)
  refine And.intro (fun c1 => ?_) (fun c1 => ?_)
  · refine Exists.intro _ (And.intro hx ?_)
    refine Exists.intro _ (And.intro hx ?_)
    refine Exists.intro _ (And.intro hx ?_)
    refine And.intro (fun c2 => ?_) (fun c2 => ?_)
    · refine Exists.intro _ (And.intro hx ?_)
      refine Exists.intro _ (And.intro hx ?_)
      refine Exists.intro _ (And.intro hx ?_)
      refine Exists.intro _ (And.intro hx (And.intro trivial ?_))
      refine Exists.intro _ (And.intro rv_up_s ?_)
      refine Exists.intro _ (And.intro rv_up_s (And.intro trivial ?_))
      rw [rv_up_up]
      -- path TT ret None
      rw [if_pos c1, rv_slot, if_pos c2]
      exact ⟨rfl, rfl⟩
    · refine Exists.intro _ (And.intro hx ?_)
      refine Exists.intro _ (And.intro hx ?_)
      refine Exists.intro _ (And.intro hx (And.intro trivial ?_))
      refine Exists.intro _ (And.intro rv_up_s ?_)
      refine Exists.intro _ (And.intro rv_up_s (And.intro trivial ?_))
      rw [rv_up_up]
      -- path TF ret None
      rw [if_pos c1, rv_slot, if_neg c2]
      exact ⟨rfl, rfl⟩
  · refine And.intro (Exists.intro _ hx) ?_
    refine ⟨_, _, _, ct_drop _ rm w c el la sz (hd c1) hx, Nat.zero_le _, Nat.zero_le _, rfl, ?_⟩
    rintro _ _ ⟨rfl, rfl⟩
    refine Exists.intro _ (And.intro rv_up_s ?_)
    refine Exists.intro _ (And.intro rv_up_s ?_)
    refine Exists.intro _ (And.intro rv_up_s ?_)
    refine And.intro (fun c3 => ?_) (fun c3 => ?_)
    · refine Exists.intro _ (And.intro rv_up_s ?_)
      refine Exists.intro _ (And.intro rv_up_s ?_)
      refine Exists.intro _ (And.intro rv_up_s ?_)
      refine Exists.intro _ (And.intro rv_up_s (And.intro trivial ?_))
      rw [rv_up_up]
      refine Exists.intro _ (And.intro rv_up_s ?_)
      refine Exists.intro _ (And.intro rv_up_s (And.intro trivial ?_))
      rw [rv_up_up]
      -- path FT ret None
      rw [if_neg c1, rv_slot, if_pos c3]
      exact ⟨rfl, rfl⟩
    · refine Exists.intro _ (And.intro rv_up_s ?_)
      refine Exists.intro _ (And.intro rv_up_s ?_)
      refine Exists.intro _ (And.intro rv_up_s (And.intro trivial ?_))
      rw [rv_up_up]
      refine Exists.intro _ (And.intro rv_up_s ?_)
      refine Exists.intro _ (And.intro rv_up_s (And.intro trivial ?_))
      rw [rv_up_up]
      -- path FF ret None
      rw [if_neg c1, rv_slot, if_neg c3]
      exact ⟨rfl, rfl⟩

/-- opening a record, by numbers -/
theorem ct_open_n {G : rv_G} {σ : rv_S} (x : Nat) (R e s : Nat) (w : Int32) (c : Nat) (la : Int32) (he : e < R) (hs : s ≤ R) (hR : R < 2 ^ 30) (hx : σ.2 x = some (oRing (nI R) w c (nI e) la (nI s))) :
    rv_Ct G i_Ring_open 0 0 [.ref x] σ (fun r σ' => r = none ∧ σ' = (σ.1, rv_up σ.2 x (oRing (nI R) w c (nI (if s < R then e else (e + 1) % R)) (nI ((e + s) % R)) (nI (if s < R then s + 1 else R))))) := by
  refine (ct_Ring_open x (nI R) w c (nI e) la (nI s) hx (fun h => ?_)).mono (fun r σ' h => ⟨h.1, ?_⟩)
  · rw [nI_ltI (by omega) (by omega)] at h
    exact nI_nle (by omega) (by omega)
  · rw [h.2]
    congr 2
    by_cases h1 : s < R
    · rw [if_pos ((nI_ltI (by omega) (by omega)).mpr h1), if_pos h1, if_pos h1, nI_1, rv_slot_n he hs hR]
    · have hsR : s = R := by omega
      subst hsR
      rw [if_neg (fun q => h1 ((nI_ltI (by omega) (by omega)).mp q)), if_neg h1, if_neg h1, rv_inc_n he hR]
      obtain ⟨k, rfl⟩ : ∃ k, s = k + 1 := ⟨s - 1, by omega⟩
      rw [nI_pred, nI_1, rv_slot_n (Nat.mod_lt _ (by omega)) (by omega) hR]
      congr 2
      rw [Nat.mod_add_mod, show e + 1 + k = e + (k + 1) by omega]
/-- a ring's picture: R records of w numbers; s of them are there, the j-th holds q j -/
def PR (g : Nat → Option rv_E) (r c R w s : Nat) (q : Nat → Nat → Int64) : Prop :=
  ∃ (e : Nat) (la : Int32) (f : Nat → Int64), e < R ∧ s ≤ R ∧ g r = some (oRing (nI R) (nI w) c (nI e) la (nI s)) ∧ g c = some (rv_aJ (R * w) f) ∧ ∀ j, j < s → ∀ k, k < w → f ((e + j) % R * w + k) = q j k
/-- a record more -/
def rv_qn (R s : Nat) : Nat := if s < R then s + 1 else R
def rv_qp (R s : Nat) (q : Nat → Nat → Int64) (v : Nat → Int64) : Nat → Nat → Int64 := fun j => if s < R then (if j = s then v else q j) else (if j + 1 = R then v else q (j + 1))
theorem ct_get_n {G : rv_G} {σ : rv_S} {r c R w s : Nat} {q : Nat → Nat → Int64} (h : PR σ.2 r c R w s q) (hw : 0 < w) (hRw : R * w < 2 ^ 30) (i j : Int32) :
    rv_Ct G i_Ring_get 0 0 [.ref r, .int i, .int j] σ (fun a σ' => a = some (.long (if i < 0 ∨ nI s ≤ i ∨ j < 0 ∨ nI w ≤ j then -99999999 else q i.toNatClampNeg j.toNatClampNeg)) ∧ σ' = σ) := by
  obtain ⟨e, la, f, he, hs, hr, hc, hf⟩ := h
  have hR : R < 2 ^ 30 := Nat.lt_of_le_of_lt (Nat.le_mul_of_pos_right R hw) hRw
  have hw2 : w < 2 ^ 30 := Nat.lt_of_le_of_lt (Nat.le_mul_of_pos_left w (by omega)) hRw
  have key : ∀ a b : Nat, a < s → b < w → (nI ((e + a) % R) * nI w + nI b) = nI ((e + a) % R * w + b) ∧ (e + a) % R * w + b < R * w := by
    intro a b ha hb
    refine ⟨by rw [pk_mul, nI_add], ?_⟩
    have h1 : (e + a) % R < R := Nat.mod_lt _ (by omega)
    calc (e + a) % R * w + b < (e + a) % R * w + w := by omega
      _ = ((e + a) % R + 1) * w := by rw [Nat.succ_mul]
      _ ≤ R * w := Nat.mul_le_mul_right w h1
  have num : ¬ i < 0 → ¬ nI s ≤ i → ¬ j < 0 → ¬ nI w ≤ j → ∃ a b : Nat, a < s ∧ b < w ∧ i = nI a ∧ j = nI b := by
    intro h1 h2 h3 h4
    rcases pk_ix i (n := s) (by omega) with h | h | ⟨a, ha, rfl⟩
    · exact absurd h h1
    · exact absurd h h2
    rcases pk_ix j (n := w) (by omega) with h | h | ⟨b, hb, rfl⟩
    · exact absurd h h3
    · exact absurd h h4
    exact ⟨a, b, ha, hb, rfl, rfl⟩
  have slot : ∀ a : Nat, a < s → (if nI R ≤ nI e + nI a then nI e + nI a - nI R else nI e + nI a) = nI ((e + a) % R) := fun a ha => rv_slot_n he (by omega) hR
  refine (ct_Ring_get r (nI R) (nI w) c (nI e) la (nI s) hr (R * w) f hc i j ?_).mono (fun a σ' h => ⟨?_, h.2⟩)
  · intro h1 h2 h3 h4
    obtain ⟨a, b, ha, hb, rfl, rfl⟩ := num h1 h2 h3 h4
    rw [slot a ha, (key a b ha hb).1]
    exact vp_in_nI (key a b ha hb).2 (by omega)
  · rw [h.1]
    congr 2
    by_cases hc : i < 0 ∨ nI s ≤ i ∨ j < 0 ∨ nI w ≤ j
    · rw [if_pos hc, if_pos hc]
    · rw [if_neg hc, if_neg hc]
      simp only [not_or] at hc
      obtain ⟨a, b, ha, hb, rfl, rfl⟩ := num hc.1 hc.2.1 hc.2.2.1 hc.2.2.2
      have k2 := (key a b ha hb).2
      rw [slot a ha, (key a b ha hb).1, nI_clamp (by omega), nI_clamp (by omega), nI_clamp (by omega)]
      exact hf a ha b hb
