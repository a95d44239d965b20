/-! KEEPING A RECORD in a ring -/
theorem rv_mod {e a R : Nat} (he : e < R) (ha : a ≤ R) : (e + a) % R = if R ≤ e + a then e + a - R else e + a := by
  by_cases h : R ≤ e + a
  · rw [if_pos h]
    rcases Nat.lt_or_ge (e + a) (2 * R) with h2 | h2
    · rw [Nat.mod_eq_sub_mod h, Nat.mod_eq_of_lt (by omega)]
    · omega
  · rw [if_neg h, Nat.mod_eq_of_lt (by omega)]
theorem rv_cell {R w l k : Nat} (hl : l < R) (hk : k < w) : l * w + k < R * w := by
  calc l * w + k < l * w + w := by omega
    _ = (l + 1) * w := by rw [Nat.succ_mul]
    _ ≤ R * w := Nat.mul_le_mul_right w hl
theorem rv_cell_ne {w l l' k k' : Nat} (hk : k < w) (hk' : k' < w) (h : l ≠ l') : l * w + k ≠ l' * w + k' := by
  intro q
  rcases Nat.lt_or_ge l l' with z | z
  · have : (l + 1) * w ≤ l' * w := Nat.mul_le_mul_right w z
    rw [Nat.succ_mul] at this
    omega
  · have : (l' + 1) * w ≤ l * w := Nat.mul_le_mul_right w (by omega)
    rw [Nat.succ_mul] at this
    omega
theorem ct_set_n {G : rv_G} {σ : rv_S} (x : Nat) (R W l k : Nat) (c : Nat) (el sz : Int32) (f : Nat → Int64) (v : Int64) (hl : l < R) (hk : k < W) (hRW : R * W < 2 ^ 30) (hx : σ.2 x = some (oRing (nI R) (nI W) c el (nI l) sz)) (hc : σ.2 c = some (rv_aJ (R * W) f)) :
    rv_Ct G i_Ring_set 0 0 [.ref x, .int (nI k), .long v] σ (fun r σ' => r = none ∧ σ' = (σ.1, rv_up σ.2 c (rv_aJ (R * W) (vp_updL f (l * W + k) v)))) := by
  have hc1 := rv_cell hl hk
  have hW : W < 2 ^ 30 := Nat.lt_of_le_of_lt (Nat.le_mul_of_pos_left W (by omega)) hRW
  have e1 : nI l * nI W + nI k = nI (l * W + k) := by rw [pk_mul, nI_add]
  refine (ct_Ring_set x (nI R) (nI W) c el (nI l) sz hx (R * W) f hc (nI k) v (nI_pos (by omega)) (fun q => absurd ((nI_leI (by omega) (by omega)).mp q) (by omega)) (by rw [e1]; exact vp_in_nI hc1 (by omega))).mono (fun r σ' h => ⟨h.1, ?_⟩)
  rw [h.2, e1, nI_clamp (by omega)]
/-- what the cells hold behind a record more -/
theorem rv_push {R w s e : Nat} {f f' : Nat → Int64} {q : Nat → Nat → Int64} {v : Nat → Int64} (he : e < R) (hs : s ≤ R) (hf : ∀ j, j < s → ∀ k, k < w → f ((e + j) % R * w + k) = q j k) (h1 : ∀ k, k < w → f' ((e + s) % R * w + k) = v k) (h2 : ∀ l k, l ≠ (e + s) % R → k < w → f' (l * w + k) = f (l * w + k)) :
    ∀ j, j < rv_qn R s → ∀ k, k < w → f' (((if s < R then e else (e + 1) % R) + j) % R * w + k) = rv_qp R s q v j k := by
  intro j hj k hk
  unfold rv_qn at hj
  unfold rv_qp
  by_cases hsR : s < R
  · rw [if_pos hsR] at hj
    rw [if_pos hsR, if_pos hsR]
    by_cases hjs : j = s
    · subst hjs
      rw [if_pos rfl]
      exact h1 k hk
    · rw [if_neg hjs, h2 _ k _ hk]
      · exact hf j (by omega) k hk
      · rw [rv_mod he (by omega), rv_mod he hs]
        split <;> split <;> omega
  · have hRs : s = R := by omega
    subst hRs
    rw [if_neg hsR] at hj
    rw [if_neg hsR, if_neg hsR, Nat.mod_add_mod, show e + 1 + j = e + (j + 1) by omega]
    by_cases hj1 : j + 1 = s
    · rw [if_pos hj1, hj1]
      exact h1 k hk
    · rw [if_neg hj1, h2 _ k _ hk]
      · exact hf (j + 1) (by omega) k hk
      · rw [rv_mod he (by omega), rv_mod he hs]
        split <;> split <;> omega
def oLate (x : Nat) (nop nsr ever bd rl dr : Int32) : rv_E := .inl (k_Late, [.ref (x + 1), .int nop, .ref (x + 2), .int nsr, .ref (x + 3), .ref (x + 5), .ref (x + 367), .ref (x + 368), .int ever, .ref (x + 370), .int bd, .int rl, .int dr, .ref (x + 372)])
/-- only at S something has changed -/
def rv_only (S : Nat → Prop) (g g' : Nat → Option rv_E) : Prop := ∀ a, ¬ S a → g' a = g a
theorem rv_only.rf {S : Nat → Prop} {g : Nat → Option rv_E} : rv_only S g g := fun _ _ => rfl
theorem rv_only.tr {S : Nat → Prop} {g g1 g2 : Nat → Option rv_E} (h1 : rv_only S g g1) (h2 : rv_only S g1 g2) : rv_only S g g2 := fun a ha => (h2 a ha).trans (h1 a ha)
theorem rv_only.up {S : Nat → Prop} {a : Nat} {g : Nat → Option rv_E} {x : rv_E} (h : S a) : rv_only S g (rv_up g a x) := fun q hq => rv_up_n (fun z => hq (z ▸ h))
/-- a result: sign, operator, key, begin, end, and what was told -/
def rv_rec (sg : Int32) (d : Wd) : Nat → Int64 := fun k => match k with
  | 0 => sg.toInt64
  | 1 => d.1.1.toInt64
  | 2 => d.1.2.1.toInt64
  | 3 => d.1.2.2.1.toInt64
  | 4 => d.1.2.2.2.toInt64
  | 5 => d.2.2.2.1.toInt64
  | 6 => d.2.2.2.2.1
  | 7 => d.2.2.2.2.2.1.toInt64
  | _ => d.2.2.2.2.2.2.toInt64
def rv_arec (n k t v w : Int32) : Nat → Int64 := fun i => match i with
  | 0 => n.toInt64
  | 1 => k.toInt64
  | 2 => t.toInt64
  | 3 => v.toInt64
  | _ => w.toInt64
theorem rv_w9 {f : Nat → Int64} {b : Nat} {v : Nat → Int64} : ∀ k, k < 9 → vp_updL (vp_updL (vp_updL (vp_updL (vp_updL (vp_updL (vp_updL (vp_updL (vp_updL f (b + 0) (v 0)) (b + 1) (v 1)) (b + 2) (v 2)) (b + 3) (v 3)) (b + 4) (v 4)) (b + 5) (v 5)) (b + 6) (v 6)) (b + 7) (v 7)) (b + 8) (v 8) (b + k) = v k := by
  intro k hk
  rcases (show k = 0 ∨ k = 1 ∨ k = 2 ∨ k = 3 ∨ k = 4 ∨ k = 5 ∨ k = 6 ∨ k = 7 ∨ k = 8 by omega) with rfl | rfl | rfl | rfl | rfl | rfl | rfl | rfl | rfl <;> simp [vp_updL]
theorem rv_n9 {f : Nat → Int64} {b i : Nat} {v : Nat → Int64} (h : ∀ k, k < 9 → i ≠ b + k) : vp_updL (vp_updL (vp_updL (vp_updL (vp_updL (vp_updL (vp_updL (vp_updL (vp_updL f (b + 0) (v 0)) (b + 1) (v 1)) (b + 2) (v 2)) (b + 3) (v 3)) (b + 4) (v 4)) (b + 5) (v 5)) (b + 6) (v 6)) (b + 7) (v 7)) (b + 8) (v 8) i = f i := by
  have h0 := h 0 (by omega)
  have h1 := h 1 (by omega)
  have h2 := h 2 (by omega)
  have h3 := h 3 (by omega)
  have h4 := h 4 (by omega)
  have h5 := h 5 (by omega)
  have h6 := h 6 (by omega)
  have h7 := h 7 (by omega)
  have h8 := h 8 (by omega)
  simp only [vp_updL, if_neg h0, if_neg h1, if_neg h2, if_neg h3, if_neg h4, if_neg h5, if_neg h6, if_neg h7, if_neg h8]
theorem rv_w5 {f : Nat → Int64} {b : Nat} {v : Nat → Int64} : ∀ k, k < 5 → vp_updL (vp_updL (vp_updL (vp_updL (vp_updL f (b + 0) (v 0)) (b + 1) (v 1)) (b + 2) (v 2)) (b + 3) (v 3)) (b + 4) (v 4) (b + k) = v k := by
  intro k hk
  rcases (show k = 0 ∨ k = 1 ∨ k = 2 ∨ k = 3 ∨ k = 4 by omega) with rfl | rfl | rfl | rfl | rfl <;> simp [vp_updL]
theorem rv_n5 {f : Nat → Int64} {b i : Nat} {v : Nat → Int64} (h : ∀ k, k < 5 → i ≠ b + k) : vp_updL (vp_updL (vp_updL (vp_updL (vp_updL f (b + 0) (v 0)) (b + 1) (v 1)) (b + 2) (v 2)) (b + 3) (v 3)) (b + 4) (v 4) i = f i := by
  have h0 := h 0 (by omega)
  have h1 := h 1 (by omega)
  have h2 := h 2 (by omega)
  have h3 := h 3 (by omega)
  have h4 := h 4 (by omega)
  simp only [vp_updL, if_neg h0, if_neg h1, if_neg h2, if_neg h3, if_neg h4]

set_option maxRecDepth 100000 in
theorem ct_keepResult {G : rv_G} {σ : rv_S} (x a : Nat) (nop nsr ev bd rl dr : Int32) (sg : Int32) (d : Wd) {s : Nat} {q : Nat → Nat → Int64} (hx : σ.2 x = some (oLate x nop nsr ev bd rl dr)) (hq : PR σ.2 (x + 368) (x + 369) 400 9 s q) (ha : σ.2 a = some (oW d a)) (ha2 : σ.2 (a + 2) = some (oT d.2.2.2)) (hd : a + 2 < x + 368 ∨ x + 369 < a) (hd2 : x < a) : rv_Ct G i_Late_keepResult 0 0 [.ref x, .int sg, .ref a] σ (fun r σ' => r = none ∧ σ'.1 = σ.1 ∧ PR σ'.2 (x + 368) (x + 369) 400 9 (rv_qn 400 s) (rv_qp 400 s q (rv_rec sg d)) ∧ σ'.2 x = some (oLate x nop nsr (ev + 1) bd rl dr) ∧ rv_only (fun q => q = x ∨ q = x + 368 ∨ q = x + 369) σ.2 σ'.2) := by
  obtain ⟨e, la, f, he, hs, hr, hc, hf⟩ := hq
  refine rv_ct (M := m_Late_keepResult) rfl (by decide) rfl rfl ?_
  refine rv_V.run rv_gd_Late_keepResult [] 400 ?_
  refine Exists.intro _ (And.intro hx ?_)
  refine And.intro (Exists.intro _ hr) ?_
  refine ⟨_, _, _, ct_open_n _ 400 e s (nI 9) _ la he hs (by omega) hr, Nat.zero_le _, Nat.zero_le _, rfl, ?_⟩
  rintro _ _ ⟨rfl, rfl⟩
  refine Exists.intro _ (And.intro ((rv_up_n (by first | omega | (unfold wa; omega))).trans hx) ?_)
  refine And.intro (Exists.intro _ rv_up_s) ?_
  refine ⟨_, _, _, ct_set_n _ 400 9 ((e + s) % 400) 0 _ _ _ _ _ (Nat.mod_lt _ (by omega)) (by omega) (by omega) rv_up_s ((rv_up_n (by first | omega | (unfold wa; omega))).trans hc), Nat.zero_le _, Nat.zero_le _, rfl, ?_⟩
  rintro _ _ ⟨rfl, rfl⟩
  refine Exists.intro _ (And.intro ((rv_up_n (by first | omega | (unfold wa; omega))).trans ((rv_up_n (by first | omega | (unfold wa; omega))).trans hx)) ?_)
  refine Exists.intro _ (And.intro ((rv_up_n (by first | omega | (unfold wa; omega))).trans ((rv_up_n (by first | omega | (unfold wa; omega))).trans ha)) ?_)
  refine And.intro (Exists.intro _ ((rv_up_n (by first | omega | (unfold wa; omega))).trans rv_up_s)) ?_
  refine ⟨_, _, _, ct_set_n _ 400 9 ((e + s) % 400) 1 _ _ _ _ _ (Nat.mod_lt _ (by omega)) (by omega) (by omega) ((rv_up_n (by first | omega | (unfold wa; omega))).trans rv_up_s) rv_up_s, Nat.zero_le _, Nat.zero_le _, rfl, ?_⟩
  rintro _ _ ⟨rfl, rfl⟩
  rw [rv_up_up]
  refine Exists.intro _ (And.intro ((rv_up_n (by first | omega | (unfold wa; omega))).trans ((rv_up_n (by first | omega | (unfold wa; omega))).trans hx)) ?_)
  refine Exists.intro _ (And.intro ((rv_up_n (by first | omega | (unfold wa; omega))).trans ((rv_up_n (by first | omega | (unfold wa; omega))).trans ha)) ?_)
  refine And.intro (Exists.intro _ ((rv_up_n (by first | omega | (unfold wa; omega))).trans rv_up_s)) ?_
  refine ⟨_, _, _, ct_set_n _ 400 9 ((e + s) % 400) 2 _ _ _ _ _ (Nat.mod_lt _ (by omega)) (by omega) (by omega) ((rv_up_n (by first | omega | (unfold wa; omega))).trans rv_up_s) rv_up_s, Nat.zero_le _, Nat.zero_le _, rfl, ?_⟩
  rintro _ _ ⟨rfl, rfl⟩
  rw [rv_up_up]
  refine Exists.intro _ (And.intro ((rv_up_n (by first | omega | (unfold wa; omega))).trans ((rv_up_n (by first | omega | (unfold wa; omega))).trans hx)) ?_)
  refine Exists.intro _ (And.intro ((rv_up_n (by first | omega | (unfold wa; omega))).trans ((rv_up_n (by first | omega | (unfold wa; omega))).trans ha)) ?_)
  refine And.intro (Exists.intro _ ((rv_up_n (by first | omega | (unfold wa; omega))).trans rv_up_s)) ?_
  refine ⟨_, _, _, ct_set_n _ 400 9 ((e + s) % 400) 3 _ _ _ _ _ (Nat.mod_lt _ (by omega)) (by omega) (by omega) ((rv_up_n (by first | omega | (unfold wa; omega))).trans rv_up_s) rv_up_s, Nat.zero_le _, Nat.zero_le _, rfl, ?_⟩
  rintro _ _ ⟨rfl, rfl⟩
  rw [rv_up_up]
  refine Exists.intro _ (And.intro ((rv_up_n (by first | omega | (unfold wa; omega))).trans ((rv_up_n (by first | omega | (unfold wa; omega))).trans hx)) ?_)
  refine Exists.intro _ (And.intro ((rv_up_n (by first | omega | (unfold wa; omega))).trans ((rv_up_n (by first | omega | (unfold wa; omega))).trans ha)) ?_)
  refine And.intro (Exists.intro _ ((rv_up_n (by first | omega | (unfold wa; omega))).trans rv_up_s)) ?_
  refine ⟨_, _, _, ct_set_n _ 400 9 ((e + s) % 400) 4 _ _ _ _ _ (Nat.mod_lt _ (by omega)) (by omega) (by omega) ((rv_up_n (by first | omega | (unfold wa; omega))).trans rv_up_s) rv_up_s, Nat.zero_le _, Nat.zero_le _, rfl, ?_⟩
  rintro _ _ ⟨rfl, rfl⟩
  rw [rv_up_up]
  refine Exists.intro _ (And.intro ((rv_up_n (by first | omega | (unfold wa; omega))).trans ((rv_up_n (by first | omega | (unfold wa; omega))).trans hx)) ?_)
  refine Exists.intro _ (And.intro ((rv_up_n (by first | omega | (unfold wa; omega))).trans ((rv_up_n (by first | omega | (unfold wa; omega))).trans ha)) ?_)
  refine Exists.intro _ (And.intro ((rv_up_n (by first | omega | (unfold wa; omega))).trans ((rv_up_n (by first | omega | (unfold wa; omega))).trans ha2)) ?_)
  refine And.intro (Exists.intro _ ((rv_up_n (by first | omega | (unfold wa; omega))).trans rv_up_s)) ?_
  refine ⟨_, _, _, ct_set_n _ 400 9 ((e + s) % 400) 5 _ _ _ _ _ (Nat.mod_lt _ (by omega)) (by omega) (by omega) ((rv_up_n (by first | omega | (unfold wa; omega))).trans rv_up_s) rv_up_s, Nat.zero_le _, Nat.zero_le _, rfl, ?_⟩
  rintro _ _ ⟨rfl, rfl⟩
  rw [rv_up_up]
  refine Exists.intro _ (And.intro ((rv_up_n (by first | omega | (unfold wa; omega))).trans ((rv_up_n (by first | omega | (unfold wa; omega))).trans hx)) ?_)
  refine Exists.intro _ (And.intro ((rv_up_n (by first | omega | (unfold wa; omega))).trans ((rv_up_n (by first | omega | (unfold wa; omega))).trans ha)) ?_)
  refine Exists.intro _ (And.intro ((rv_up_n (by first | omega | (unfold wa; omega))).trans ((rv_up_n (by first | omega | (unfold wa; omega))).trans ha2)) ?_)
  refine And.intro (Exists.intro _ ((rv_up_n (by first | omega | (unfold wa; omega))).trans rv_up_s)) ?_
  refine ⟨_, _, _, ct_set_n _ 400 9 ((e + s) % 400) 6 _ _ _ _ _ (Nat.mod_lt _ (by omega)) (by omega) (by omega) ((rv_up_n (by first | omega | (unfold wa; omega))).trans rv_up_s) rv_up_s, Nat.zero_le _, Nat.zero_le _, rfl, ?_⟩
  rintro _ _ ⟨rfl, rfl⟩
  rw [rv_up_up]
  refine Exists.intro _ (And.intro ((rv_up_n (by first | omega | (unfold wa; omega))).trans ((rv_up_n (by first | omega | (unfold wa; omega))).trans hx)) ?_)
  refine Exists.intro _ (And.intro ((rv_up_n (by first | omega | (unfold wa; omega))).trans ((rv_up_n (by first | omega | (unfold wa; omega))).trans ha)) ?_)
  refine Exists.intro _ (And.intro ((rv_up_n (by first | omega | (unfold wa; omega))).trans ((rv_up_n (by first | omega | (unfold wa; omega))).trans ha2)) ?_)
  refine And.intro (Exists.intro _ ((rv_up_n (by first | omega | (unfold wa; omega))).trans rv_up_s)) ?_
  refine ⟨_, _, _, ct_set_n _ 400 9 ((e + s) % 400) 7 _ _ _ _ _ (Nat.mod_lt _ (by omega)) (by omega) (by omega) ((rv_up_n (by first | omega | (unfold wa; omega))).trans rv_up_s) rv_up_s, Nat.zero_le _, Nat.zero_le _, rfl, ?_⟩
  rintro _ _ ⟨rfl, rfl⟩
  rw [rv_up_up]
  refine Exists.intro _ (And.intro ((rv_up_n (by first | omega | (unfold wa; omega))).trans ((rv_up_n (by first | omega | (unfold wa; omega))).trans hx)) ?_)
  refine Exists.intro _ (And.intro ((rv_up_n (by first | omega | (unfold wa; omega))).trans ((rv_up_n (by first | omega | (unfold wa; omega))).trans ha)) ?_)
  refine Exists.intro _ (And.intro ((rv_up_n (by first | omega | (unfold wa; omega))).trans ((rv_up_n (by first | omega | (unfold wa; omega))).trans ha2)) ?_)
  refine And.intro (Exists.intro _ ((rv_up_n (by first | omega | (unfold wa; omega))).trans rv_up_s)) ?_
  refine ⟨_, _, _, ct_set_n _ 400 9 ((e + s) % 400) 8 _ _ _ _ _ (Nat.mod_lt _ (by omega)) (by omega) (by omega) ((rv_up_n (by first | omega | (unfold wa; omega))).trans rv_up_s) rv_up_s, Nat.zero_le _, Nat.zero_le _, rfl, ?_⟩
  rintro _ _ ⟨rfl, rfl⟩
  rw [rv_up_up]
  refine Exists.intro _ (And.intro ((rv_up_n (by first | omega | (unfold wa; omega))).trans ((rv_up_n (by first | omega | (unfold wa; omega))).trans hx)) ?_)
  refine Exists.intro _ (And.intro ((rv_up_n (by first | omega | (unfold wa; omega))).trans ((rv_up_n (by first | omega | (unfold wa; omega))).trans hx)) (And.intro trivial ?_))
  -- path  ret None
  refine ⟨rfl, rfl, ?_, rv_up_s, ?_⟩
  · refine ⟨_, _, _, ?_, ?_, ((rv_up_n (by omega)).trans ((rv_up_n (by omega)).trans rv_up_s)), ((rv_up_n (by omega)).trans rv_up_s), rv_push he hs hf (f' := (vp_updL (vp_updL (vp_updL (vp_updL (vp_updL (vp_updL (vp_updL (vp_updL (vp_updL f ((e + s) % 400 * 9 + 0) (rv_rec sg d 0)) ((e + s) % 400 * 9 + 1) (rv_rec sg d 1)) ((e + s) % 400 * 9 + 2) (rv_rec sg d 2)) ((e + s) % 400 * 9 + 3) (rv_rec sg d 3)) ((e + s) % 400 * 9 + 4) (rv_rec sg d 4)) ((e + s) % 400 * 9 + 5) (rv_rec sg d 5)) ((e + s) % 400 * 9 + 6) (rv_rec sg d 6)) ((e + s) % 400 * 9 + 7) (rv_rec sg d 7)) ((e + s) % 400 * 9 + 8) (rv_rec sg d 8))) (v := rv_rec sg d) (fun k hk => rv_w9 k hk) (fun l k hl hk => rv_n9 (fun k' hk' => rv_cell_ne hk hk' hl))⟩
    · split <;> first | exact he | exact Nat.mod_lt _ (by omega)
    · unfold rv_qn; split <;> omega
  · exact ((rv_only.up (Or.inr (Or.inl rfl))).tr (rv_only.up (Or.inr (Or.inr rfl)))).tr (rv_only.up (Or.inl rfl))
