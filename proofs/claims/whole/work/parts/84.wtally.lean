/-! THE COMPARISON: what joined windows have together; the class's joining -/
theorem rv_min_comm (a b : Int32) : rv_min a b = rv_min b a := by
  refine Int32.toInt_inj.mp ?_
  rw [rv_min_toInt, rv_min_toInt]; omega
theorem rv_max_comm (a b : Int32) : rv_max a b = rv_max b a := by
  refine Int32.toInt_inj.mp ?_
  rw [rv_max_toInt, rv_max_toInt]; omega
theorem tl_all_c (T x y : Tl) : tl_all (tl_all T x) y = tl_all (tl_all T y) x := by
  show (T.1 + x.1 + y.1, T.2.1 + x.2.1 + y.2.1, rv_min (rv_min T.2.2.1 x.2.2.1) y.2.2.1, rv_max (rv_max T.2.2.2 x.2.2.2) y.2.2.2) = (T.1 + y.1 + x.1, T.2.1 + y.2.1 + x.2.1, rv_min (rv_min T.2.2.1 y.2.2.1) x.2.2.1, rv_max (rv_max T.2.2.2 y.2.2.2) x.2.2.2)
  rw [rv_min_c, rv_max_c, Int32.add_assoc, Int32.add_comm x.1, ← Int32.add_assoc, Int64.add_assoc, Int64.add_comm x.2.1, ← Int64.add_assoc]
theorem tl_all_comm (x y : Tl) : tl_all x y = tl_all y x := by
  show (x.1 + y.1, x.2.1 + y.2.1, rv_min x.2.2.1 y.2.2.1, rv_max x.2.2.2 y.2.2.2) = (y.1 + x.1, y.2.1 + x.2.1, rv_min y.2.2.1 x.2.2.1, rv_max y.2.2.2 x.2.2.2)
  rw [rv_min_comm, rv_max_comm, Int32.add_comm, Int64.add_comm]
theorem tf_c (g : Nat → Tl) : ∀ (m i : Nat) (T x : Tl), tl_all (tf g m i T) x = tf g m i (tl_all T x)
  | 0, _, _, _ => rfl
  | m + 1, i, T, x => by
    unfold tf
    rw [tf_c g m (i + 1), tl_all_c]
theorem tf_snoc (g : Nat → Tl) : ∀ (m i : Nat) (T : Tl), tf g (m + 1) i T = tl_all (tf g m i T) (g (i + m))
  | 0, i, T => rfl
  | m + 1, i, T => by
    have ih := tf_snoc g m (i + 1) (tl_all T (g i))
    rw [show i + 1 + m = i + (m + 1) by omega] at ih
    exact ih
/-- from the last on -/
def rf (h : Nat → Tl) : Nat → Tl → Tl
  | 0, T => T
  | t + 1, T => rf h t (tl_all T (h (t + 1)))
theorem rf_congr {h h' : Nat → Tl} : ∀ (t : Nat) (T : Tl), (∀ m, 1 ≤ m → m ≤ t → h m = h' m) → rf h t T = rf h' t T
  | 0, _, _ => rfl
  | t + 1, T, e => by
    unfold rf
    rw [e (t + 1) (by omega) (Nat.le_refl _), rf_congr t _ (fun m h1 h2 => e m h1 (by omega))]
theorem rf_tf (g : Nat → Tl) (q : Nat) : ∀ (t : Nat) (T : Tl), rf (fun m => g (q + m)) t T = tf g t (q + 1) T
  | 0, _ => rfl
  | t + 1, T => by
    unfold rf
    rw [rf_tf g q t, tf_snoc, ← tf_c, show q + 1 + t = q + (t + 1) by omega]
theorem va_up_id {α : Type} (D : Nat → α) (i : Nat) : va_up D i (D i) = D := by
  funext j
  by_cases h : j = i
  · subst h; rw [va_up_self]
  · rw [va_up_ne _ _ h]
theorem mg_spec {fi i0 : Nat} : ∀ (t n : Nat) (p : Nat → Nat) (D : Nat → Wd), fi + t < n → n ≤ 120 → ((∀ j, j < 120 → p j < 120) ∧ ∀ i j, i < 120 → j < 120 → p i = p j → i = j) → p fi = i0 →
    ∃ p', mg_run fi i0 t (n, p, D) = (n - t, p', va_up D i0 (whas (D i0) (rf (fun m => (D (p (fi + m))).2.2.1) t (D i0).2.2.1))) ∧ (∀ j, j < n - t → p' j = if j ≤ fi then p j else p (j + t)) ∧ ((∀ j, j < 120 → p' j < 120) ∧ ∀ i j, i < 120 → j < 120 → p' i = p' j → i = j)
  | 0, n, p, D, h1, h2, h3, h4 => by
    refine ⟨p, ?_, fun j hj => ?_, h3⟩
    · show (n, p, D) = (n, p, va_up D i0 (D i0))
      rw [va_up_id]
    · by_cases z : j ≤ fi
      · rw [if_pos z]
      · rw [if_neg z]; rfl
  | t + 1, n, p, D, h1, h2, h3, h4 => by
    have hdel : ∀ j, j < n - 1 → rv_del p (fi + (t + 1)) n j = if fi + (t + 1) ≤ j then p (j + 1) else p j := fun j hj => by
      unfold rv_del
      by_cases z : fi + (t + 1) ≤ j
      · rw [if_pos ⟨z, by omega⟩, if_pos z]
      · rw [if_neg (by omega), if_neg (by omega), if_neg z]
    have hok := rv_del_ok (p := p) (j := fi + (t + 1)) (n := n) (by omega) h2 h3
    obtain ⟨p', e1, e2, e3⟩ := mg_spec (fi := fi) (i0 := i0) t (n - 1) (rv_del p (fi + (t + 1)) n) (va_up D i0 (whas (D i0) (tl_all (D i0).2.2.1 (D (p (fi + (t + 1)))).2.2.1))) (by omega) (by omega) hok (by rw [hdel fi (by omega), if_neg (by omega)]; exact h4)
    refine ⟨p', ?_, fun j hj => ?_, e3⟩
    · show mg_run fi i0 t (n - 1, rv_del p (fi + (t + 1)) n, va_up D i0 (whas (D i0) (tl_all (D i0).2.2.1 (D (p (fi + (t + 1)))).2.2.1))) = _
      rw [e1, va_up2, va_up_self, show n - (t + 1) = n - 1 - t by omega]
      have er : rf (fun m => (va_up D i0 (whas (D i0) (tl_all (D i0).2.2.1 (D (p (fi + (t + 1)))).2.2.1)) (rv_del p (fi + (t + 1)) n (fi + m))).2.2.1) t (tl_all (D i0).2.2.1 (D (p (fi + (t + 1)))).2.2.1) = rf (fun m => (D (p (fi + m))).2.2.1) t (tl_all (D i0).2.2.1 (D (p (fi + (t + 1)))).2.2.1) := by
        refine rf_congr t _ (fun m m1 m2 => ?_)
        (try dsimp only)
        rw [hdel (fi + m) (by omega), if_neg (by omega), va_up_ne _ _ (fun z => by
          have := h3.2 (fi + m) fi (by omega) (by omega) (z.trans h4.symm)
          omega)]
      show (n - 1 - t, p', va_up D i0 (whas (D i0) (rf _ t (tl_all (D i0).2.2.1 (D (p (fi + (t + 1)))).2.2.1)))) = _
      rw [er]
      rfl
    · rw [e2 j (by omega)]
      by_cases z : j ≤ fi
      · rw [if_pos z, if_pos z, hdel j (by omega), if_neg (by omega)]
      · rw [if_neg z, if_neg z, hdel (j + t) (by omega), if_pos (by omega), show j + t + 1 = j + (t + 1) by omega]
/-- begin and end of the join -/
theorem jn_be (p : Nat → Nat) (D : Nat → Wd) (o k en : Int32) : ∀ (f i : Nat) (a : Jn),
    ((jn_run p D o k en f i a).2.1.toInt ≤ a.2.1.toInt ∧ ∀ j, i ≤ j → j < i + jn_c p D o k en f i → (jn_run p D o k en f i a).2.1.toInt ≤ (D (p j)).1.2.2.1.toInt) ∧ ((jn_run p D o k en f i a).2.1 = a.2.1 ∨ ∃ j, i ≤ j ∧ j < i + jn_c p D o k en f i ∧ (jn_run p D o k en f i a).2.1 = (D (p j)).1.2.2.1) ∧
    (a.2.2.1.toInt ≤ (jn_run p D o k en f i a).2.2.1.toInt ∧ ∀ j, i ≤ j → j < i + jn_c p D o k en f i → (D (p j)).1.2.2.2.toInt ≤ (jn_run p D o k en f i a).2.2.1.toInt) ∧ ((jn_run p D o k en f i a).2.2.1 = a.2.2.1 ∨ ∃ j, i ≤ j ∧ j < i + jn_c p D o k en f i ∧ (jn_run p D o k en f i a).2.2.1 = (D (p j)).1.2.2.2)
  | 0, i, a => ⟨⟨Int.le_refl _, fun j h1 h2 => absurd h2 (by unfold jn_c; omega)⟩, Or.inl rfl, ⟨Int.le_refl _, fun j h1 h2 => absurd h2 (by unfold jn_c; omega)⟩, Or.inl rfl⟩
  | f + 1, i, a => by
    unfold jn_run jn_c
    by_cases hc : jn_cond (D (p i)) o k en = true
    · rw [if_pos hc, if_pos hc]
      obtain ⟨⟨a1, a2⟩, a3, ⟨a4, a5⟩, a6⟩ := jn_be p D o k en f (i + 1) (jn_step a (D (p i)))
      have m1 : (jn_step a (D (p i))).2.1.toInt = min a.2.1.toInt (D (p i)).1.2.2.1.toInt := rv_min_toInt _ _
      have m2 : (jn_step a (D (p i))).2.2.1.toInt = max a.2.2.1.toInt (D (p i)).1.2.2.2.toInt := rv_max_toInt _ _
      have d1 : (jn_step a (D (p i))).2.1 = a.2.1 ∨ (jn_step a (D (p i))).2.1 = (D (p i)).1.2.2.1 := by
        show rv_min _ _ = _ ∨ rv_min _ _ = _
        unfold rv_min
        split
        · exact Or.inr rfl
        · exact Or.inl rfl
      have d2 : (jn_step a (D (p i))).2.2.1 = a.2.2.1 ∨ (jn_step a (D (p i))).2.2.1 = (D (p i)).1.2.2.2 := by
        show rv_max _ _ = _ ∨ rv_max _ _ = _
        unfold rv_max
        split
        · exact Or.inr rfl
        · exact Or.inl rfl
      refine ⟨⟨by omega, fun j h1 h2 => ?_⟩, ?_, ⟨by omega, fun j h1 h2 => ?_⟩, ?_⟩
      · by_cases z : j = i
        · rw [z]; omega
        · exact a2 j (by omega) (by omega)
      · rcases a3 with z | ⟨j, j1, j2, j3⟩
        · rcases d1 with y | y
          · exact Or.inl (z.trans y)
          · exact Or.inr ⟨i, Nat.le_refl _, by omega, z.trans y⟩
        · exact Or.inr ⟨j, by omega, by omega, j3⟩
      · by_cases z : j = i
        · rw [z]; omega
        · exact a5 j (by omega) (by omega)
      · rcases a6 with z | ⟨j, j1, j2, j3⟩
        · rcases d2 with y | y
          · exact Or.inl (z.trans y)
          · exact Or.inr ⟨i, Nat.le_refl _, by omega, z.trans y⟩
        · exact Or.inr ⟨j, by omega, by omega, j3⟩
    · rw [if_neg hc, if_neg hc]
      exact ⟨⟨Int.le_refl _, fun j h1 h2 => absurd h2 (by omega)⟩, Or.inl rfl, ⟨Int.le_refl _, fun j h1 h2 => absurd h2 (by omega)⟩, Or.inl rfl⟩
/-- where the joined window comes -/
theorem gaps_ord {n o : Nat} {p : Nat → Nat} {D : Nat → Wd} {k t en : Int32} (hs : WS n p D) (hten : t.toInt < en.toInt) {q : Nat} (hq : q = rw_q p D (nI o) k t n) : (∀ i, i < q → wb (D (p i)) (nI o) k t = true) ∧ ∀ i, q ≤ i → i < n → ¬ mtw (D (p i)) (nI o) k t en → wb (D (p i)) (nI o) k t = false := by
  obtain ⟨q0, hp0⟩ := rv_pl_ex hs (nI o) k t
  have eq := rv_plc_eq hp0
  unfold rw_q at hq
  rw [eq] at hq
  obtain ⟨a1, a2, a3⟩ := hp0
  unfold jn_first at hq
  by_cases hc : 0 < q0 ∧ ((D (p (q0 - 1))).1.1 = nI o ∧ (D (p (q0 - 1))).1.2.1 = k) ∧ t < (D (p (q0 - 1))).1.2.2.2
  · rw [if_pos hc] at hq
    refine ⟨fun i hi => a2 i (by omega), fun i h1 h2 h3 => ?_⟩
    by_cases z : i = q0 - 1
    · exfalso
      have hb := a2 (q0 - 1) (by omega)
      unfold wb at hb
      rw [rv_before_iff, hc.2.1.1, hc.2.1.2] at hb
      refine h3 ?_
      rw [z]
      exact ⟨hc.2.1, Int32.lt_iff_toInt_lt.mpr (by omega), hc.2.2⟩
    · exact a3 i (by omega) h2
  · rw [if_neg hc] at hq
    subst hq
    exact ⟨a2, fun i h1 h2 _ => a3 i h1 h2⟩
