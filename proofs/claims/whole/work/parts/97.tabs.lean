/-! THE COMPARISON: one more number comes into a table -/
section
variable {q q' : Ps} {L : List Cn} {E : Int64 → Int64 → Int64 → Prop} {k b e v : Int64}
theorem reps_upd {a : Nat} (h : Reps q L E) (ha : a < q.1) (hk : (ent q.2 a).1 = k) (hb : (ent q.2 a).2.1 = b) (h1 : q'.1 = q.1) (h2 : ∀ i, i < q.1 → ent q'.2 i = if i = a then (k, b, e, agin (ent q.2 a).2.2.2 v) else ent q.2 i) (hE : E k b e) : Reps q' (L ++ [(k, b, v)]) E := by
  obtain ⟨s1, s2, s3⟩ := h
  have key : ∀ i, i < q.1 → (ent q'.2 i).1 = (ent q.2 i).1 ∧ (ent q'.2 i).2.1 = (ent q.2 i).2.1 := fun i hi => by
    rw [h2 i hi]
    by_cases z : i = a
    · rw [if_pos z, z]; exact ⟨hk.symm, hb.symm⟩
    · rw [if_neg z]; exact ⟨rfl, rfl⟩
  refine ⟨fun i j hij hj => ?_, fun i hi => ?_, fun c hc => ?_⟩
  · rw [h1] at hj
    rw [(key i (by omega)).1, (key i (by omega)).2, (key j hj).1, (key j hj).2]
    exact s1 i j hij hj
  · rw [h1] at hi
    rw [(key i hi).1, (key i hi).2, gv_snoc, (s2 i hi).1]
    unfold gvs
    by_cases z : i = a
    · subst z
      rw [if_pos ⟨hk.symm, hb.symm⟩, h2 i hi, if_pos rfl, hk, hb]
      exact ⟨rfl, hE⟩
    · have hne : ¬ (k = (ent q.2 i).1 ∧ b = (ent q.2 i).2.1) := fun y => by
        rcases Nat.lt_or_ge i a with u | u
        · have := s1 i a u ha
          rw [hk, hb, ← y.1, ← y.2] at this
          unfold klt at this; omega
        · have := s1 a i (by omega) hi
          rw [hk, hb, ← y.1, ← y.2] at this
          unfold klt at this; omega
      rw [if_neg hne, h2 i hi, if_neg z]
      exact ⟨rfl, (s2 i hi).2⟩
  · rcases List.mem_append.mp hc with z | z
    · obtain ⟨i, i1, i2, i3⟩ := s3 c z
      exact ⟨i, by omega, by rw [(key i i1).1]; exact i2, by rw [(key i i1).2]; exact i3⟩
    · rw [List.mem_singleton] at z
      subst z
      exact ⟨a, by omega, by rw [(key a ha).1]; exact hk, by rw [(key a ha).2]; exact hb⟩
theorem reps_ins {a : Nat} (h : Reps q L E) (ha : a ≤ q.1) (hlo : ∀ i, i < a → klt (ent q.2 i).1 (ent q.2 i).2.1 k b) (hhi : ∀ i, a ≤ i → i < q.1 → klt k b (ent q.2 i).1 (ent q.2 i).2.1) (h1 : q'.1 = q.1 + 1) (h2 : ∀ i, i < q.1 + 1 → ent q'.2 i = if i < a then ent q.2 i else if i = a then (k, b, e, ag1 v) else ent q.2 (i - 1)) (hE : E k b e) : Reps q' (L ++ [(k, b, v)]) E := by
  obtain ⟨s1, s2, s3⟩ := h
  have lo : ∀ i, i < a → ent q'.2 i = ent q.2 i := fun i hi => by rw [h2 i (by omega), if_pos hi]
  have mi : ent q'.2 a = (k, b, e, ag1 v) := by rw [h2 a (by omega), if_neg (by omega), if_pos rfl]
  have hi' : ∀ i, a < i → i < q.1 + 1 → ent q'.2 i = ent q.2 (i - 1) := fun i h3 h4 => by rw [h2 i h4, if_neg (by omega), if_neg (by omega)]
  have hne : ∀ i, i < q.1 → ¬ (k = (ent q.2 i).1 ∧ b = (ent q.2 i).2.1) := fun i hi y => by
    rcases Nat.lt_or_ge i a with u | u
    · have := hlo i u
      rw [← y.1, ← y.2] at this
      unfold klt at this; omega
    · have := hhi i u hi
      rw [← y.1, ← y.2] at this
      unfold klt at this; omega
  have hnone : gv k b L = none := gv_none.mpr (fun c hc y => by
    obtain ⟨i, i1, i2, i3⟩ := s3 c hc
    exact hne i i1 ⟨y.1.symm.trans i2.symm, y.2.symm.trans i3.symm⟩)
  refine ⟨fun i j hij hj => ?_, fun i hi => ?_, fun c hc => ?_⟩
  · rw [h1] at hj
    by_cases z1 : i < a
    · rw [lo i z1]
      by_cases z2 : j < a
      · rw [lo j z2]; exact s1 i j hij (by omega)
      · by_cases z3 : j = a
        · rw [z3, mi]; exact hlo i z1
        · rw [hi' j (by omega) hj]; exact s1 i (j - 1) (by omega) (by omega)
    · rw [hi' j (by omega) hj]
      by_cases z3 : i = a
      · rw [z3, mi]; exact hhi (j - 1) (by omega) (by omega)
      · rw [hi' i (by omega) (by omega)]; exact s1 (i - 1) (j - 1) (by omega) (by omega)
  · rw [h1] at hi
    have old : ∀ u, u < q.1 → gv (ent q.2 u).1 (ent q.2 u).2.1 (L ++ [(k, b, v)]) = some (ent q.2 u).2.2.2 ∧ E (ent q.2 u).1 (ent q.2 u).2.1 (ent q.2 u).2.2.1 := fun u hu => by
      rw [gv_snoc, (s2 u hu).1]
      unfold gvs
      rw [if_neg (hne u hu)]
      exact ⟨rfl, (s2 u hu).2⟩
    by_cases z1 : i < a
    · rw [lo i z1]; exact old i (by omega)
    · by_cases z3 : i = a
      · rw [z3, mi]
        refine ⟨?_, hE⟩
        rw [gv_snoc, hnone]
        unfold gvs
        rw [if_pos ⟨rfl, rfl⟩]
        rfl
      · rw [hi' i (by omega) hi]; exact old (i - 1) (by omega)
  · rcases List.mem_append.mp hc with z | z
    · obtain ⟨i, i1, i2, i3⟩ := s3 c z
      by_cases z1 : i < a
      · exact ⟨i, by omega, by rw [lo i z1]; exact i2, by rw [lo i z1]; exact i3⟩
      · exact ⟨i + 1, by omega, by rw [hi' (i + 1) (by omega) (by omega), Nat.add_sub_cancel]; exact i2, by rw [hi' (i + 1) (by omega) (by omega), Nat.add_sub_cancel]; exact i3⟩
    · rw [List.mem_singleton] at z
      subst z
      exact ⟨a, by omega, by rw [mi], by rw [mi]⟩
theorem klt_iff (k b k2 b2 : Int64) : (k < k2 ∨ (k = k2 ∧ b < b2)) ↔ klt k b k2 b2 := by
  unfold klt
  rw [Int64.lt_iff_toInt_lt, Int64.lt_iff_toInt_lt, ← Int64.toInt_inj]
theorem pi_at_spec (f : Nat → Int64) (k b : Int64) : ∀ (t a : Nat), a ≤ pi_at f k b t a ∧ pi_at f k b t a ≤ a + t ∧ (∀ i, a ≤ i → i < pi_at f k b t a → klt (ent f i).1 (ent f i).2.1 k b) ∧ (pi_at f k b t a = a + t ∨ ¬ klt (ent f (pi_at f k b t a)).1 (ent f (pi_at f k b t a)).2.1 k b)
  | 0, a => ⟨Nat.le_refl _, Nat.le_refl _, fun i h1 h2 => absurd h2 (by unfold pi_at; omega), Or.inl rfl⟩
  | t + 1, a => by
    unfold pi_at
    by_cases hc : f (7 * a) < k ∨ (f (7 * a) = k ∧ f (7 * a + 1) < b)
    · rw [if_pos hc]
      obtain ⟨h1, h2, h3, h4⟩ := pi_at_spec f k b t (a + 1)
      refine ⟨by omega, by omega, fun i i1 i2 => ?_, ?_⟩
      · by_cases z : i = a
        · rw [z]; exact (klt_iff _ _ _ _).mp hc
        · exact h3 i (by omega) i2
      · rcases h4 with z | z
        · exact Or.inl (by omega)
        · exact Or.inr z
    · rw [if_neg hc]
      exact ⟨Nat.le_refl _, by omega, fun i i1 i2 => absurd i2 (by omega), Or.inr (fun z => hc ((klt_iff _ _ _ _).mpr z))⟩
theorem minL_self (v : Int64) : rv_minL v v = v := by
  unfold rv_minL
  split <;> rfl
theorem maxL_self (v : Int64) : rv_maxL v v = v := by
  unfold rv_maxL
  split <;> rfl
/-- the reference -/
theorem reps_pi (h : Reps q L E) (hE : E k b e) (hEf : ∀ e', E k b e' → e' = e) : Reps (pi_run q k b e v) (L ++ [(k, b, v)]) E := by
  obtain ⟨p1, p2, p3, p4⟩ := pi_at_spec q.2 k b q.1 0
  unfold pi_run
  generalize pi_at q.2 k b q.1 0 = a at *
  rw [Nat.zero_add] at p2 p4
  by_cases hc : a = q.1 ∨ ¬ q.2 (7 * a) = k ∨ ¬ q.2 (7 * a + 1) = b
  · rw [if_pos hc]
    refine reps_ins (a := a) h p2 (fun i hi => p3 i (by omega) hi) (fun i i1 i2 => ?_) rfl (fun i hi => ?_) hE
    · have ha : ¬ a = q.1 := by omega
      have hna := p4.resolve_left ha
      have hn2 : ¬ (q.2 (7 * a) = k ∧ q.2 (7 * a + 1) = b) := fun z => (hc.resolve_left ha).elim (fun y => y z.1) (fun y => y z.2)
      have hgt : klt k b (ent q.2 a).1 (ent q.2 a).2.1 := by
        have hn3 : ¬ ((ent q.2 a).1.toInt = k.toInt ∧ (ent q.2 a).2.1.toInt = b.toInt) := fun z => hn2 ⟨Int64.toInt_inj.mp z.1, Int64.toInt_inj.mp z.2⟩
        unfold klt at hna ⊢
        omega
      by_cases z : i = a
      · rw [z]; exact hgt
      · have := h.1 a i (by omega) i2
        unfold klt at this hgt ⊢
        omega
    · dsimp only
      rw [ent_fin, ent_w, ent_w]
      by_cases z : i = a
      · rw [if_pos z, if_pos rfl, if_neg (by omega), if_pos z]
        show (k, b, e, (0 : Int64) + 1, (0 : Int64) + v, rv_minL v v, rv_maxL v v) = (k, b, e, 1, v, v, v)
        rw [Int64.zero_add, Int64.zero_add, minL_self, maxL_self]
      · rw [if_neg z, if_neg z, ent_sh _ p2 i]
        by_cases z2 : i < a
        · rw [if_neg (by omega), if_pos z2]
        · rw [if_pos (by omega), if_neg z2, if_neg z]
  · rw [if_neg hc]
    have ha : a < q.1 := by
      rcases Nat.lt_or_ge a q.1 with z | z
      · exact z
      · exact absurd (Or.inl (by omega)) hc
    have hk : (ent q.2 a).1 = k := Classical.byContradiction (fun z => hc (Or.inr (Or.inl z)))
    have hb : (ent q.2 a).2.1 = b := Classical.byContradiction (fun z => hc (Or.inr (Or.inr z)))
    refine reps_upd (a := a) (e := (ent q.2 a).2.2.1) h ha hk hb rfl (fun i hi => ?_) ?_
    · dsimp only
      rw [ent_fin]
      by_cases z : i = a
      · rw [if_pos z, if_pos z, ← hk, ← hb]; rfl
      · rw [if_neg z, if_neg z]
    · have := (h.2.1 a ha).2
      rw [hk, hb] at this
      exact this
theorem ent_open {s : Ps} {k b e v : Int32} (hs : s.1 < 2400) : (ps_open s k b e v).1 = s.1 + 1 ∧ ∀ i, i < s.1 + 1 → ent (ps_open s k b e v).2 i = if i < s.1 then ent s.2 i else if i = s.1 then (k.toInt64, b.toInt64, e.toInt64, ag1 v.toInt64) else ent s.2 (i - 1) := by
  unfold ps_open
  rw [if_pos hs]
  refine ⟨rfl, fun i hi => ?_⟩
  dsimp only
  rw [ent_w]
  by_cases z : i = s.1
  · rw [if_pos z, if_neg (by omega), if_pos z]; rfl
  · rw [if_neg z, if_pos (by omega)]
end
