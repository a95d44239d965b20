/-! THE COMPARISON: the window that is due, or goes -/
theorem ah_before (s : Md) (w v : Nat) : ah s w v = rv_before (s.wEnd w) (s.wKey w) (s.wBeg w) (s.wEnd v) (s.wKey v) (s.wBeg v) := rfl
def du_inv (s : Md) (o : Nat) (g : Bool) (w : Nat) : Option Nat → Prop
  | none => ∀ v, v < w → du_is s o g v = false
  | some x => x < w ∧ du_is s o g x = true ∧ ∀ v, v < w → du_is s o g v = true → ah s v x = false
theorem ah_irr (s : Md) (w : Nat) : ah s w w = false := by
  cases h : ah s w w with
  | false => rfl
  | true =>
    rw [ah_before, rv_before_iff] at h
    omega
theorem ah_tr {s : Md} {v w x : Nat} (h1 : ah s v x = false) (h2 : ah s w x = true) : ah s v w = false := by
  cases h : ah s v w with
  | false => rfl
  | true =>
    rw [ah_before, rv_before_iff] at h h2
    have h3 : ¬ ah s v x = true := by rw [h1]; decide
    rw [ah_before, rv_before_iff] at h3
    omega
theorem du_spec (s : Md) (o : Nat) (g : Bool) : ∀ (t w : Nat) (b : Option Nat), du_inv s o g w b → du_inv s o g (w + t) (du_run s o g t w b)
  | 0, w, b, h => h
  | t + 1, w, b, h => by
    unfold du_run
    rw [show w + (t + 1) = (w + 1) + t by omega]
    refine du_spec s o g t (w + 1) _ ?_
    by_cases hc : du_is s o g w = true ∧ du_bt s w b = true
    · rw [if_pos hc]
      refine ⟨by omega, hc.1, fun v hv hd => ?_⟩
      by_cases hvw : v = w
      · subst hvw; exact ah_irr s v
      · cases b with
        | none => exact absurd (h v (by omega)) (by rw [hd]; decide)
        | some x => exact ah_tr (h.2.2 v (by omega) hd) hc.2
    · rw [if_neg hc]
      cases b with
      | none =>
        intro v hv
        by_cases hvw : v = w
        · subst hvw
          cases hd : du_is s o g v with
          | false => rfl
          | true => exact absurd ⟨hd, rfl⟩ hc
        · exact h v (by omega)
      | some x =>
        refine ⟨by have := h.1; omega, h.2.1, fun v hv hd => ?_⟩
        by_cases hvw : v = w
        · subst hvw
          cases ha : ah s v x with
          | false => rfl
          | true => exact absurd ⟨hd, ha⟩ hc
        · exact h.2.2 v (by omega) hd
theorem du_all (s : Md) (o : Nat) (g : Bool) (n : Nat) : du_inv s o g n (du_run s o g n 0 none) := by
  have := du_spec s o g n 0 none (fun v hv => absurd hv (by omega))
  rw [Nat.zero_add] at this
  exact this
theorem pick_sim {ρ : Int32 → Int32} {n o : Nat} {g : Bool} {cw : Nat → Wd} {s : Md} {Q : Wd → Bool} (h : WSim ρ n cw (mw s)) (hw : ∀ i j, i < j → j < n → wb (cw i) (cw j).1.1 (cw j).1.2.1 (cw j).1.2.2.1 = true) (hQ : ∀ j w, j < n → w < n → wsim ρ (cw j) (mw s w) → Q (cw j) = du_is s o g w) (hop : ∀ j, j < n → Q (cw j) = true → (cw j).1.1 = nI o) :
    (rv_pick (fun t => Q (cw t)) (fun t => (cw t).1.2.2.2) n = none ∧ du_run s o g n 0 none = none) ∨ ∃ j w, rv_pick (fun t => Q (cw t)) (fun t => (cw t).1.2.2.2) n = some j ∧ du_run s o g n 0 none = some w ∧ j < n ∧ w < n ∧ wsim ρ (cw j) (mw s w) ∧ Q (cw j) = true := by
  have hp := rv_pick_ok (fun t => Q (cw t)) (fun t => (cw t).1.2.2.2) n
  have hd := du_all s o g n
  cases ep : rv_pick (fun t => Q (cw t)) (fun t => (cw t).1.2.2.2) n with
  | none =>
    rw [ep] at hp
    cases ed : du_run s o g n 0 none with
    | none => exact Or.inl ⟨rfl, rfl⟩
    | some w =>
      rw [ed] at hd
      obtain ⟨j, j1, j2⟩ := h.2.1 w hd.1
      have : Q (cw j) = false := hp j j1
      rw [hQ j w j1 hd.1 j2, hd.2.1] at this
      cases this
  | some j =>
    rw [ep] at hp
    obtain ⟨p1, p2, p3⟩ := hp
    obtain ⟨w', w1, w2⟩ := h.1 j p1
    have dw' : du_is s o g w' = true := by rw [← hQ j w' p1 w1 w2]; exact p2
    cases ed : du_run s o g n 0 none with
    | none =>
      rw [ed] at hd
      have := hd w' w1
      rw [dw'] at this
      cases this
    | some w =>
      rw [ed] at hd
      obtain ⟨d1, d2, d3⟩ := hd
      obtain ⟨j', j1, j2⟩ := h.2.1 w d1
      have qj' : Q (cw j') = true := by rw [hQ j' w j1 d1 j2]; exact d2
      refine Or.inr ⟨j, w, rfl, rfl, p1, d1, ?_, p2⟩
      by_cases hjj : j = j'
      · rw [hjj]; exact j2
      · exfalso
        have hno : ¬ ah s w' w = true := by rw [d3 w' w1 dw']; decide
        rw [ah_before, rv_before_iff] at hno
        have e1 : (cw j).1 = (mw s w').1 := w2.1
        have e2 : (cw j').1 = (mw s w).1 := j2.1
        have o1 := hop j p1 p2
        have o2 := hop j' j1 qj'
        have a1 : s.wEnd w' = (cw j).1.2.2.2 := by rw [e1]; rfl
        have a2 : s.wKey w' = (cw j).1.2.1 := by rw [e1]; rfl
        have a3 : s.wBeg w' = (cw j).1.2.2.1 := by rw [e1]; rfl
        have b1 : s.wEnd w = (cw j').1.2.2.2 := by rw [e2]; rfl
        have b2 : s.wKey w = (cw j').1.2.1 := by rw [e2]; rfl
        have b3 : s.wBeg w = (cw j').1.2.2.1 := by rw [e2]; rfl
        rw [a1, a2, a3, b1, b2, b3] at hno
        rcases p3 j' j1 qj' with z | ⟨z1, z2⟩
        · have := Int32.lt_iff_toInt_lt.mp (show (cw j).1.2.2.2 < (cw j').1.2.2.2 from z)
          omega
        · have z3 := hw j j' (by omega) j1
          unfold wb at z3
          rw [rv_before_iff, o1, o2] at z3
          have z4 := congrArg Int32.toInt z1
          dsimp only at z4
          omega
/-! counting -/
def cnt (Q : Nat → Bool) : Nat → Nat
  | 0 => 0
  | n + 1 => cnt Q n + (if Q n = true then 1 else 0)
theorem cnt_le (Q : Nat → Bool) : ∀ n, cnt Q n ≤ n
  | 0 => Nat.le_refl _
  | n + 1 => by
    unfold cnt
    have := cnt_le Q n
    split <;> omega
theorem cnt_same {Q Q' : Nat → Bool} : ∀ n, (∀ i, i < n → Q' i = Q i) → cnt Q' n = cnt Q n
  | 0, _ => rfl
  | n + 1, h => by
    unfold cnt
    rw [cnt_same n (fun i hi => h i (by omega)), h n (by omega)]
theorem cnt_upd {Q Q' : Nat → Bool} {j : Nat} (h1 : Q j = true) (h2 : Q' j = false) : ∀ n, j < n → (∀ i, i < n → i ≠ j → Q' i = Q i) → cnt Q n = cnt Q' n + 1
  | 0, hj, _ => absurd hj (by omega)
  | n + 1, hj, h => by
    unfold cnt
    by_cases e : j = n
    · subst e
      rw [cnt_same (Q := Q) (Q' := Q') j (fun i hi => h i (by omega) (by omega)), h1, h2]
      rfl
    · rw [cnt_upd h1 h2 n (by omega) (fun i hi hne => h i (by omega) hne), h n (by omega) (Ne.symm e)]
      omega
theorem cnt_zero {Q : Nat → Bool} : ∀ n, cnt Q n = 0 → ∀ i, i < n → Q i = false
  | 0, _, i, hi => absurd hi (by omega)
  | n + 1, h, i, hi => by
    unfold cnt at h
    by_cases e : i = n
    · subst e
      cases hq : Q i with
      | false => rfl
      | true => rw [hq] at h; simp at h
    · exact cnt_zero n (by omega) i (by omega)
/-! one telling -/
/-- windows and results of both sides -/
def WR (ρ : Int32 → Int32) (n : Nat) (p : Nat → Nat) (D : Nat → Wd) (R : Rs) (s : Md) : Prop := WSim ρ n (fun j => D (p j)) (mw s) ∧ WS n p D ∧ RSim R s ∧ s.nwin = nI n ∧ n ≤ 120 ∧ (∀ j, j < 120 → p j < 120) ∧ ∀ i j, i < 120 → j < 120 → p i = p j → i = j
theorem wsim_told {ρ : Int32 → Int32} {c r : Wd} (h : wsim ρ c r) : wsim ρ (wtold c) (wtold r) := ⟨h.1, rfl, h.2.2.1, fun _ => h.2.2.1, by show false = _; cases decide (ρ (wtold c).1.1 = 1) <;> rfl⟩
theorem tell_nwin' (s : Md) (r w : Nat) : (md_tell s r w).nwin = s.nwin := tell_nwin s r w
theorem WR.told {ρ : Int32 → Int32} {n : Nat} {p : Nat → Nat} {D : Nat → Wd} {R R' : Rs} {s s' : Md} (h : WR ρ n p D R s) {j w : Nat} (hj : j < n) (hw : w < n) (hs : wsim ρ (D (p j)) (mw s w)) (hR : RSim R' s') (hn : s'.nwin = s.nwin) (hm : ∀ v, mw s' v = if v = w then wtold (mw s w) else mw s v) : WR ρ n p (va_up D (p j) (wtold (D (p j)))) R' s' := by
  obtain ⟨h1, h2, h3, h4, h5, h6, h7⟩ := h
  refine ⟨h1.upd hj hw hs.kw (wsim_told hs) rfl (cw_upd h7 h5 hj _) (fun v hv => hm v), h2.same (fun i => ?_), hR, hn.trans h4, h5, h6, h7⟩
  by_cases z : i = p j
  · rw [z, va_up_self]; exact ⟨rfl, rfl, rfl⟩
  · rw [va_up_ne _ _ z]; exact ⟨rfl, rfl, rfl⟩
theorem WR.tell0 {ρ : Int32 → Int32} {n : Nat} {p : Nat → Nat} {D : Nat → Wd} {R : Rs} {s : Md} (h : WR ρ n p D R s) {j w : Nat} (hj : j < n) (hw : w < n) (hs : wsim ρ (D (p j)) (mw s w)) (ht : (D (p j)).2.1.1 = false) : WR ρ n p (va_up D (p j) (wtold (D (p j)))) (rs_tell R (D (p j))) (md_tell s R.1 w) ∧ (rs_tell R (D (p j))).1 = rq R.1 := by
  have e1 : rs_tell R (D (p j)) = rs_push R (rv_rec 1 (wtold (D (p j)))) := by
    unfold rs_tell; rw [ht, if_neg (by decide)]
  have hp := h.2.2.1.push w 1 (wtold (D (p j))) hs.1
  have e2 : (wtold (D (p j))).2.2.2 = (mw s w).2.2.1 := hs.2.2.1
  rw [e2] at hp
  rw [e1]
  refine ⟨h.told hj hw hs ?_ (tell_nwin s R.1 w) (fun v => tell_mw s R.1 w v), hp.2⟩
  exact hp.1.told w
theorem WR.tell1 {ρ : Int32 → Int32} {n : Nat} {p : Nat → Nat} {D : Nat → Wd} {R : Rs} {s : Md} (h : WR ρ n p D R s) {j w : Nat} (hj : j < n) (hw : w < n) (hs : wsim ρ (D (p j)) (mw s w)) (ht : (D (p j)).2.1.1 = true) : WR ρ n p (va_up D (p j) (wtold (D (p j)))) (rs_tell R (D (p j))) (md_tell (md_back s R.1 w) (rq R.1) w) ∧ (rs_tell R (D (p j))).1 = rq (rq R.1) := by
  have e1 : rs_tell R (D (p j)) = rs_push (rs_push R (rv_rec (-1) (D (p j)))) (rv_rec 1 (wtold (D (p j)))) := by
    unfold rs_tell; rw [if_pos ht]
  have hp := h.2.2.1.push w (-1) (D (p j)) hs.1
  rw [hs.2.2.2.1 ht] at hp
  have em : mw (md_back s R.1 w) = mw s := back_mw s R.1 w
  have hp2 := hp.1.push w 1 (wtold (D (p j))) (by rw [show mw (md_res s R.1 w (-1) (mw s w).2.2.2) = mw s from em]; exact hs.1)
  rw [hp.2] at hp2
  have e2 : (wtold (D (p j))).2.2.2 = (mw (md_back s R.1 w) w).2.2.1 := by rw [em]; exact hs.2.2.1
  rw [e2] at hp2
  rw [e1]
  refine ⟨h.told hj hw hs (hp2.1.told w) ((tell_nwin _ _ w).trans (back_nwin s R.1 w)) (fun v => ?_), hp2.2⟩
  rw [tell_mw, em]
