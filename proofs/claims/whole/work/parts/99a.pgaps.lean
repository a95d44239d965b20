/-! THE COMPARISON: one pass over gaps, in the class -/
section
variable (nr : Nat) (tk : Nat → Bool) (kI tI : Nat → Int) (sz : Int)
def Pl (k t a : Int) : Prop := a ≤ t ∧ (∀ j, j < nr → tk j = true → kI j = k → ¬ (0 < a - tI j ∧ a - tI j < sz)) ∧ ∀ x, a < x → x ≤ t → ∃ j, j < nr ∧ tk j = true ∧ kI j = k ∧ 0 < x - tI j ∧ x - tI j < sz
def Pc (k t a : Int) : Prop := t ≤ a ∧ ∀ x, t ≤ x → x < a → ∃ j, j < nr ∧ tk j = true ∧ kI j = k ∧ 0 < tI j - x ∧ tI j - x < sz
def Ph (k t a : Int) : Prop := Pc nr tk kI tI sz k t a ∧ ∀ j, j < nr → tk j = true → kI j = k → ¬ (0 < tI j - a ∧ tI j - a < sz)
noncomputable def lo64 (k t : Int) : Int64 := Classical.epsilon (fun b : Int64 => Pl nr tk kI tI sz k t b.toInt)
end
section
variable {nr : Nat} {tk : Nat → Bool} {kI tI : Nat → Int} {sz : Int}
theorem Pl.uniq {k t a a' : Int} (h : Pl nr tk kI tI sz k t a) (h' : Pl nr tk kI tI sz k t a') : a = a' := by
  obtain ⟨h1, h2, h3⟩ := h
  obtain ⟨g1, g2, g3⟩ := h'
  rcases Int.lt_trichotomy a a' with z | z | z
  · obtain ⟨j, j1, j2, j3, j4, j5⟩ := h3 a' z g1
    exact absurd ⟨j4, j5⟩ (g2 j j1 j2 j3)
  · exact z
  · obtain ⟨j, j1, j2, j3, j4, j5⟩ := g3 a z h1
    exact absurd ⟨j4, j5⟩ (h2 j j1 j2 j3)
theorem Ph.uniq {k t a a' : Int} (h : Ph nr tk kI tI sz k t a) (h' : Ph nr tk kI tI sz k t a') : a = a' := by
  obtain ⟨⟨h1, h3⟩, h2⟩ := h
  obtain ⟨⟨g1, g3⟩, g2⟩ := h'
  rcases Int.lt_trichotomy a a' with z | z | z
  · obtain ⟨j, j1, j2, j3, j4, j5⟩ := g3 a h1 z
    exact absurd ⟨j4, j5⟩ (h2 j j1 j2 j3)
  · exact z
  · obtain ⟨j, j1, j2, j3, j4, j5⟩ := h3 a' g1 z
    exact absurd ⟨j4, j5⟩ (g2 j j1 j2 j3)
theorem lo64_eq {k t : Int} {b : Int64} (h : Pl nr tk kI tI sz k t b.toInt) : lo64 nr tk kI tI sz k t = b := by
  have h2 : Pl nr tk kI tI sz k t (lo64 nr tk kI tI sz k t).toInt := Classical.epsilon_spec (p := fun b : Int64 => Pl nr tk kI tI sz k t b.toInt) ⟨b, h⟩
  exact Int64.toInt_inj.mp (h2.uniq h)
/-- after the first i rows -/
def GS (nr : Nat) (tk : Nat → Bool) (kI tI : Nat → Int) (sz : Int) (i : Nat) (s : Ps) (L : List Cn) : Prop :=
  Reps s L (fun _ _ _ => True) ∧ s.1 ≤ i ∧
  (∀ j, j < i → tk j = true → ∃ e, e < s.1 ∧ (ent s.2 e).1.toInt = kI j ∧ Pl nr tk kI tI sz (kI j) (tI j) (ent s.2 e).2.1.toInt ∧ (e + 1 < s.1 → Ph nr tk kI tI sz (kI j) (tI j) ((ent s.2 e).2.2.1.toInt - sz)) ∧ (e + 1 = s.1 → Pc nr tk kI tI sz (kI j) (tI j) ((ent s.2 e).2.2.1.toInt - sz))) ∧
  (0 < s.1 → ∃ l, l < i ∧ tk l = true ∧ (∀ j, j < i → tk j = true → j ≤ l) ∧ (ent s.2 (s.1 - 1)).1.toInt = kI l ∧ (ent s.2 (s.1 - 1)).2.2.1.toInt = tI l + sz ∧ Pl nr tk kI tI sz (kI l) (tI l) (ent s.2 (s.1 - 1)).2.1.toInt)
theorem GS.skip {i : Nat} {s : Ps} {L : List Cn} (h : GS nr tk kI tI sz i s L) (ht : tk i = false) : GS nr tk kI tI sz (i + 1) s L := by
  obtain ⟨h1, h2, h3, h4⟩ := h
  have ne : ∀ j, j < i + 1 → tk j = true → j < i := fun j hj hk => by
    rcases Nat.lt_or_ge j i with z | z
    · exact z
    · have : j = i := by omega
      rw [this, ht] at hk; cases hk
  refine ⟨h1, by omega, fun j hj hk => h3 j (ne j hj hk) hk, fun z => ?_⟩
  obtain ⟨l, l1, l2, l3, l4⟩ := h4 z
  exact ⟨l, by omega, l2, fun j hj hk => l3 j (ne j hj hk) hk, l4⟩
set_option maxHeartbeats 2000000 in
theorem GS.take {i : Nat} {s : Ps} {L : List Cn} {sz32 : Int32} {d : Rd} (hsort : ∀ a b, a < b → b < nr → kI a < kI b ∨ (kI a = kI b ∧ tI a ≤ tI b)) (hi : i < nr) (hnr : nr ≤ 300) (h : GS nr tk kI tI sz i s L) (ht : tk i = true) (ek : d.2.1.toInt = kI i) (et : d.2.2.1.toInt = tI i) (es : sz32.toInt = sz) (ee : (d.2.2.1 + sz32).toInt = tI i + sz) (hsz : 1 ≤ sz) : GS nr tk kI tI sz (i + 1) (ps_gap sz32 s d) (L ++ [(d.2.1.toInt64, lo64 nr tk kI tI sz (kI i) (tI i), d.2.2.2.1.toInt64)]) := by
  obtain ⟨h1, h2, h3, h4⟩ := h
  have ek64 : d.2.1.toInt64.toInt = kI i := by rw [Int32.toInt_toInt64]; exact ek
  have et64 : d.2.2.1.toInt64.toInt = tI i := by rw [Int32.toInt_toInt64]; exact et
  have ee64 : (d.2.2.1 + sz32).toInt64.toInt = tI i + sz := by rw [Int32.toInt_toInt64]; exact ee
  unfold ps_gap
  by_cases hc : 0 < s.1 ∧ s.2 (7 * (s.1 - 1)) = d.2.1.toInt64 ∧ d.2.2.1.toInt64 < s.2 (7 * (s.1 - 1) + 2)
  · rw [if_pos hc]
    obtain ⟨c1, c2, c3⟩ := hc
    obtain ⟨l, l1, l2, l3, l4, l5, l6⟩ := h4 c1
    have ekl : kI l = kI i := by
      have : (ent s.2 (s.1 - 1)).1 = d.2.1.toInt64 := c2
      rw [← l4, this, ek64]
    have hlt : tI i < tI l + sz := by
      have : d.2.2.1.toInt64 < (ent s.2 (s.1 - 1)).2.2.1 := c3
      have := Int64.lt_iff_toInt_lt.mp this
      rw [et64, l5] at this
      exact this
    have hle : tI l ≤ tI i := by have := hsort l i l1 hi; omega
    have hent : ∀ e, ent (ps_cm s.2 (s.1 - 1) (d.2.2.1 + sz32).toInt64 d.2.2.2.1.toInt64) e = if e = s.1 - 1 then (d.2.1.toInt64, (ent s.2 (s.1 - 1)).2.1, (d.2.2.1 + sz32).toInt64, agin (ent s.2 (s.1 - 1)).2.2.2 d.2.2.2.1.toInt64) else ent s.2 e := fun e => by
      rw [ent_cm]
      by_cases z : e = s.1 - 1
      · rw [if_pos z, if_pos z, ← c2]; rfl
      · rw [if_neg z, if_neg z]
    have hPl : Pl nr tk kI tI sz (kI i) (tI i) (ent s.2 (s.1 - 1)).2.1.toInt := by
      obtain ⟨p1, p2, p3⟩ := l6
      rw [ekl] at p2 p3
      refine ⟨by omega, p2, fun x x1 x2 => ?_⟩
      rcases Int.lt_or_le (tI l) x with z | z
      · exact ⟨l, by omega, l2, ekl, by omega, by omega⟩
      · exact p3 x x1 z
    refine ⟨?_, by dsimp only; omega, fun j hj hk => ?_, fun _ => ⟨i, by omega, ht, fun j hj hk => by omega, ?_, ?_, ?_⟩⟩
    · rw [lo64_eq hPl]
      refine reps_upd (a := s.1 - 1) (e := (d.2.2.1 + sz32).toInt64) h1 (by omega) c2 rfl rfl (fun e he => ?_) trivial
      exact hent e
    · dsimp only
      by_cases z : j = i
      · subst z
        refine ⟨s.1 - 1, by omega, ?_, ?_, fun y => absurd y (by omega), fun _ => ?_⟩
        · rw [hent, if_pos rfl]; exact ek64
        · rw [hent, if_pos rfl]; exact hPl
        · rw [hent, if_pos rfl]
          show Pc nr tk kI tI sz (kI j) (tI j) ((d.2.2.1 + sz32).toInt64.toInt - sz)
          rw [ee64]
          exact ⟨by omega, fun x x1 x2 => absurd x2 (by omega)⟩
      · obtain ⟨e, e1, e2, e3, e4, e5⟩ := h3 j (by omega) hk
        refine ⟨e, e1, ?_, ?_, fun y => ?_, fun y => ?_⟩
        · rw [hent]
          by_cases u : e = s.1 - 1
          · rw [if_pos u]
            show d.2.1.toInt64.toInt = _
            rw [ek64, ← ekl, ← l4, ← u]; exact e2
          · rw [if_neg u]; exact e2
        · rw [hent]
          by_cases u : e = s.1 - 1
          · rw [if_pos u]
            show Pl nr tk kI tI sz (kI j) (tI j) (ent s.2 (s.1 - 1)).2.1.toInt
            rw [← u]; exact e3
          · rw [if_neg u]; exact e3
        · rw [hent, if_neg (by omega)]; exact e4 y
        · have u : e = s.1 - 1 := by omega
          rw [hent, if_pos u]
          show Pc nr tk kI tI sz (kI j) (tI j) ((d.2.2.1 + sz32).toInt64.toInt - sz)
          rw [ee64]
          obtain ⟨v1, v2⟩ := e5 y
          rw [u] at v1 v2 e2
          rw [l5] at v1 v2
          have ekj : kI j = kI i := by rw [← ekl, ← l4, ← e2]
          refine ⟨by omega, fun x x1 x2 => ?_⟩
          rcases Int.lt_or_le x (tI l) with w | w
          · exact v2 x x1 (by omega)
          · exact ⟨i, hi, ht, ekj.symm, by omega, by omega⟩
    · dsimp only
      rw [hent, if_pos rfl]; exact ek64
    · dsimp only
      rw [hent, if_pos rfl]; exact ee64
    · dsimp only
      rw [hent, if_pos rfl]; exact hPl
  · rw [if_neg hc]
    -- not joined with the latest
    have hnj : 0 < s.1 → ∀ l, (ent s.2 (s.1 - 1)).1.toInt = kI l → (ent s.2 (s.1 - 1)).2.2.1.toInt = tI l + sz → kI l = kI i → ¬ tI i < tI l + sz := fun c1 l l4 l5 ekl z => by
      refine hc ⟨c1, ?_, ?_⟩
      · exact Int64.toInt_inj.mp (by rw [ek64, ← ekl]; exact l4)
      · refine Int64.lt_iff_toInt_lt.mpr ?_
        rw [et64]
        have : (s.2 (7 * (s.1 - 1) + 2)).toInt = tI l + sz := l5
        omega
    have hPl : Pl nr tk kI tI sz (kI i) (tI i) (tI i) := by
      refine ⟨Int.le_refl _, fun j j1 j2 j3 j4 => ?_, fun x x1 x2 => absurd x2 (by omega)⟩
      have hji : j < i := by
        rcases Nat.lt_trichotomy j i with z | z | z
        · exact z
        · rw [z] at j4; omega
        · have := hsort i j z j1; omega
      obtain ⟨e, e1, -⟩ := h3 j hji j2
      obtain ⟨l, l1, l2, l3, l4, l5, l6⟩ := h4 (by omega)
      have hjl := l3 j hji j2
      have hsl := hsort l i l1 hi
      by_cases hjl2 : j = l
      · subst hjl2
        exact hnj (by omega) j l4 l5 j3 (by omega)
      · have hs2 := hsort j l (by omega) (by omega)
        exact hnj (by omega) l l4 l5 (by omega) (by omega)
    have hs24 : s.1 < 2400 := by omega
    obtain ⟨o1, o2⟩ := ent_open (k := d.2.1) (b := d.2.2.1) (e := d.2.2.1 + sz32) (v := d.2.2.2.1) hs24
    have hlast : 0 < s.1 → klt (ent s.2 (s.1 - 1)).1 (ent s.2 (s.1 - 1)).2.1 d.2.1.toInt64 d.2.2.1.toInt64 := fun c1 => by
      obtain ⟨l, l1, l2, l3, l4, l5, l6⟩ := h4 c1
      unfold klt
      rw [ek64, et64, l4]
      have hsl := hsort l i l1 hi
      have h6 := l6.1
      rcases hsl with z | ⟨z1, z2⟩
      · exact Or.inl z
      · have := hnj c1 l l4 l5 z1
        exact Or.inr ⟨z1, by omega⟩
    have hlo : ∀ e, e < s.1 → klt (ent s.2 e).1 (ent s.2 e).2.1 d.2.1.toInt64 d.2.2.1.toInt64 := fun e he => by
      have hl := hlast (by omega)
      by_cases z : e = s.1 - 1
      · rw [z]; exact hl
      · have := h1.1 e (s.1 - 1) (by omega) (by omega)
        unfold klt at this hl ⊢
        omega
    have hR : Reps (ps_open s d.2.1 d.2.2.1 (d.2.2.1 + sz32) d.2.2.2.1) (L ++ [(d.2.1.toInt64, d.2.2.1.toInt64, d.2.2.2.1.toInt64)]) (fun _ _ _ => True) := reps_ins (a := s.1) h1 (Nat.le_refl _) hlo (fun e e1 e2 => absurd e2 (by omega)) o1 o2 trivial
    generalize ps_open s d.2.1 d.2.2.1 (d.2.2.1 + sz32) d.2.2.2.1 = s' at o1 o2 hR ⊢
    have eo : ∀ e, e < s.1 → ent s'.2 e = ent s.2 e := fun e he => by rw [o2 e (by omega), if_pos he]
    have en : ent s'.2 s.1 = (d.2.1.toInt64, d.2.2.1.toInt64, (d.2.2.1 + sz32).toInt64, ag1 d.2.2.2.1.toInt64) := by rw [o2 s.1 (by omega), if_neg (by omega), if_pos rfl]
    refine ⟨?_, by omega, fun j hj hk => ?_, fun _ => ⟨i, by omega, ht, fun j hj hk => by omega, ?_, ?_, ?_⟩⟩
    · rw [lo64_eq (b := d.2.2.1.toInt64) (by rw [et64]; exact hPl)]
      exact hR
    · by_cases z : j = i
      · subst z
        refine ⟨s.1, by omega, ?_, ?_, fun y => absurd y (by omega), fun _ => ?_⟩
        · rw [en]; exact ek64
        · rw [en]
          show Pl nr tk kI tI sz (kI j) (tI j) d.2.2.1.toInt64.toInt
          rw [et64]; exact hPl
        · rw [en]
          show Pc nr tk kI tI sz (kI j) (tI j) ((d.2.2.1 + sz32).toInt64.toInt - sz)
          rw [ee64]
          exact ⟨by omega, fun x x1 x2 => absurd x2 (by omega)⟩
      · obtain ⟨e, e1, e2, e3, e4, e5⟩ := h3 j (by omega) hk
        refine ⟨e, by omega, by rw [eo e e1]; exact e2, by rw [eo e e1]; exact e3, fun y => ?_, fun y => absurd y (by omega)⟩
        rw [eo e e1]
        by_cases u : e + 1 < s.1
        · exact e4 u
        · have v := e5 (by omega)
          refine ⟨v, fun j' j1 j2 j3 j4 => ?_⟩
          obtain ⟨l, l1, l2, l3, l4, l5, l6⟩ := h4 (by omega)
          have ue : e = s.1 - 1 := by omega
          rw [ue] at j4 e2
          rw [l5] at j4
          have ekj : kI j = kI l := e2.symm.trans l4
          have hjge : i ≤ j' := by
            rcases Nat.lt_or_ge j' i with w | w
            · exfalso
              have := l3 j' w j2
              by_cases w2 : j' = l
              · rw [w2] at j4; omega
              · have := hsort j' l (by omega) (by omega); omega
            · exact w
          have hsl := hsort l i l1 hi
          by_cases w2 : j' = i
          · rw [w2] at j3 j4
            exact hnj (by omega) l l4 l5 (by omega) (by omega)
          · have := hsort i j' (by omega) j1
            exact hnj (by omega) l l4 l5 (by omega) (by omega)
    · rw [o1, Nat.add_sub_cancel, en]; exact ek64
    · rw [o1, Nat.add_sub_cancel, en]; exact ee64
    · rw [o1, Nat.add_sub_cancel, en]
      show Pl nr tk kI tI sz (kI i) (tI i) d.2.2.1.toInt64.toInt
      rw [et64]; exact hPl
/-- all rows have come -/
theorem GS.done {s : Ps} {L : List Cn} (hsort : ∀ a b, a < b → b < nr → kI a < kI b ∨ (kI a = kI b ∧ tI a ≤ tI b)) (h : GS nr tk kI tI sz nr s L) : ∀ j, j < nr → tk j = true → ∃ e, e < s.1 ∧ (ent s.2 e).1.toInt = kI j ∧ Pl nr tk kI tI sz (kI j) (tI j) (ent s.2 e).2.1.toInt ∧ Ph nr tk kI tI sz (kI j) (tI j) ((ent s.2 e).2.2.1.toInt - sz) := by
  obtain ⟨h1, h2, h3, h4⟩ := h
  intro j hj hk
  obtain ⟨e, e1, e2, e3, e4, e5⟩ := h3 j hj hk
  refine ⟨e, e1, e2, e3, ?_⟩
  by_cases u : e + 1 < s.1
  · exact e4 u
  · have v := e5 (by omega)
    refine ⟨v, fun j' j1 j2 j3 j4 => ?_⟩
    obtain ⟨l, l1, l2, l3, l4, l5, l6⟩ := h4 (by omega)
    have ue : e = s.1 - 1 := by omega
    rw [ue] at j4 e2
    rw [l5] at j4
    have ekj : kI j = kI l := e2.symm.trans l4
    have := l3 j' j1 j2
    by_cases w2 : j' = l
    · rw [w2] at j4; omega
    · have := hsort j' l (by omega) (by omega); omega
end
