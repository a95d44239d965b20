/-! THE COMPARISON: a number comes into a window, that was there or is made -/
theorem va_up2 {α : Type} (D : Nat → α) (i : Nat) (a b : α) : va_up (va_up D i a) i b = va_up D i b := by
  funext j
  by_cases h : j = i
  · subst h; rw [va_up_self, va_up_self]
  · rw [va_up_ne _ _ h, va_up_ne _ _ h, va_up_ne _ _ h]
theorem tl_same (t : Tl) (v : Int32) : tl_add t v = tl_in t v := by
  unfold tl_add tl_in rv_min rv_max
  by_cases h : t.1 = 0
  · rw [if_pos h, if_pos h, if_pos (Or.inl h), if_pos (Or.inl h)]
  · rw [if_neg h, if_neg h]
    simp only [h, false_or]
/-- the class's window when a number has come in, before it is told -/
def win_in (r0 : Int32) (d : Wd) (v : Int32) : Wd := if d.2.1.1 = true ∧ r0 = 1 then wchg (wadd d v) else wadd d v
theorem win_in_1 (r0 : Int32) (d : Wd) (v : Int32) : (win_in r0 d v).1 = d.1 ∧ (win_in r0 d v).2.1.1 = d.2.1.1 ∧ (win_in r0 d v).2.2.1 = tl_add d.2.2.1 v := by
  unfold win_in
  split
  · exact ⟨rfl, rfl, rfl⟩
  · exact ⟨rfl, rfl, rfl⟩
theorem wsim_in {ρ : Int32 → Int32} {c r : Wd} (h : wsim ρ c r) (v : Int32) : wsim ρ (win_in (ρ c.1.1) c v) (r.1, (r.2.1.1, true), tl_in r.2.2.1 v, r.2.2.2) := by
  obtain ⟨h1, h2, h3, h4, h5⟩ := h
  unfold win_in
  by_cases hc : c.2.1.1 = true ∧ ρ c.1.1 = 1
  · rw [if_pos hc]
    refine ⟨h1, h2, ?_, h4, ?_⟩
    · show tl_add c.2.2.1 v = _
      rw [tl_same, h3]
    · show true = (decide (ρ c.1.1 = 1) && (c.2.1.1 && true))
      rw [decide_eq_true hc.2, hc.1]; rfl
  · rw [if_neg hc]
    refine ⟨h1, h2, ?_, h4, ?_⟩
    · show tl_add c.2.2.1 v = _
      rw [tl_same, h3]
    · show c.2.1.2 = (decide (ρ c.1.1 = 1) && (c.2.1.1 && true))
      rw [h5]
      cases ht : c.2.1.1 with
      | false => rfl
      | true =>
        have : ¬ ρ c.1.1 = 1 := fun z => hc ⟨ht, z⟩
        rw [decide_eq_false this]; rfl
theorem kw_1 {c d : Wd} (h : c.1 = d.1) : kw c = kw d := by
  show (c.1.1, c.1.2.1, c.1.2.2.1) = (d.1.1, d.1.2.1, d.1.2.2.1)
  rw [h]
theorem WS.same1 {n : Nat} {p : Nat → Nat} {D : Nat → Wd} (h : WS n p D) {i : Nat} {d : Wd} (hd : d.1 = (D i).1) : WS n p (va_up D i d) := by
  refine h.same (fun j => ?_)
  by_cases z : j = i
  · subst z; rw [va_up_self, hd]; exact ⟨rfl, rfl, rfl⟩
  · rw [va_up_ne _ _ z]; exact ⟨rfl, rfl, rfl⟩
theorem WR.into {ρ : Int32 → Int32} {n : Nat} {p : Nat → Nat} {D : Nat → Wd} {R : Rs} {s : Md} (h : WR ρ n p D R s) {j w : Nat} (hj : j < n) (hw : w < n) (hs : wsim ρ (D (p j)) (mw s w)) (v : Int32) : WR ρ n p (va_up D (p j) (win_in (ρ (D (p j)).1.1) (D (p j)) v)) R (md_into s w v) ∧ wsim ρ (win_in (ρ (D (p j)).1.1) (D (p j)) v) (mw (md_into s w v) w) := by
  obtain ⟨h1, h2, h3, h4, h5, h6, h7⟩ := h
  have e := wsim_in hs v
  refine ⟨⟨h1.upd hj hw hs.kw e (kw_1 (win_in_1 _ _ _).1) (cw_upd h7 h5 hj _) (fun u hu => into_mw s w v u), h2.same1 (win_in_1 _ _ _).1, h3.into w v, (into_facts s w v).2.2.trans h4, h5, h6, h7⟩, ?_⟩
  rw [into_mw, if_pos rfl]
  exact e
/-- found in the class's list -/
theorem fnd_iff {n : Nat} {p : Nat → Nat} {D : Nat → Wd} {o k b : Int32} {q : Nat} (hs : WS n p D) (hq : rv_pl_ n p D o k b q) : (q < n ∧ weq (D (p q)) o k b = true) ↔ ∃ j, j < n ∧ kw (D (p j)) = (o, k, b) := by
  constructor
  · rintro ⟨h1, h2⟩
    refine ⟨q, h1, ?_⟩
    unfold weq at h2
    rw [Bool.and_eq_true, decide_eq_true_eq, decide_eq_true_eq] at h2
    show ((D (p q)).1.1, (D (p q)).1.2.1, (D (p q)).1.2.2.1) = _
    rw [h2.1.1, h2.1.2, h2.2]
  · rintro ⟨j, h1, h2⟩
    have e1 : (D (p j)).1.1 = o := congrArg (fun z : Int32 × Int32 × Int32 => z.1) h2
    have e2 : (D (p j)).1.2.1 = k := congrArg (fun z : Int32 × Int32 × Int32 => z.2.1) h2
    have e3 : (D (p j)).1.2.2.1 = b := congrArg (fun z : Int32 × Int32 × Int32 => z.2.2) h2
    have hno : ¬ wb (D (p j)) o k b = true := by
      unfold wb
      rw [rv_before_iff, e1, e2, e3]
      omega
    have hqj : q ≤ j := by
      rcases Nat.lt_or_ge j q with z | z
      · exact absurd (hq.2.1 j z) hno
      · exact z
    have : q = j := by
      rcases Nat.lt_or_ge q j with z | z
      · have h3 := hs q j z h1
        rw [e1, e2, e3, hq.2.2 q (Nat.le_refl _) (by omega)] at h3
        cases h3
      · omega
    subst this
    refine ⟨h1, ?_⟩
    unfold weq
    rw [e1, e2, e3, decide_eq_true ⟨rfl, rfl⟩, decide_eq_true rfl]; rfl
theorem fd_spec (s : Md) (o k b : Int32) : ∀ (t w : Nat), (fd_run s o k b t w = none ∧ ∀ v, w ≤ v → v < w + t → kw (mw s v) ≠ (o, k, b)) ∨ ∃ j, fd_run s o k b t w = some j ∧ j < w + t ∧ kw (mw s j) = (o, k, b)
  | 0, w => Or.inl ⟨rfl, fun v h1 h2 => absurd h2 (by omega)⟩
  | t + 1, w => by
    unfold fd_run
    by_cases hc : s.wOp w = o ∧ s.wKey w = k ∧ s.wBeg w = b
    · rw [if_pos hc]
      refine Or.inr ⟨w, rfl, by omega, ?_⟩
      show (s.wOp w, s.wKey w, s.wBeg w) = _
      rw [hc.1, hc.2.1, hc.2.2]
    · rw [if_neg hc]
      rcases fd_spec s o k b t (w + 1) with ⟨h1, h2⟩ | ⟨j, h1, h2, h3⟩
      · refine Or.inl ⟨h1, fun v h3 h4 h5 => ?_⟩
        by_cases z : v = w
        · subst z
          exact hc ⟨congrArg (fun z : Int32 × Int32 × Int32 => z.1) h5, congrArg (fun z : Int32 × Int32 × Int32 => z.2.1) h5, congrArg (fun z : Int32 × Int32 × Int32 => z.2.2) h5⟩
        · exact h2 v (by omega) (by omega) h5
      · exact Or.inr ⟨j, h1, by omega, h3⟩
/-- found by both, or by none -/
theorem fnd_sim {ρ : Int32 → Int32} {n : Nat} {p : Nat → Nat} {D : Nat → Wd} {R : Rs} {s : Md} (h : WR ρ n p D R s) (o k b : Int32) {q : Nat} (hq : rv_pl_ n p D o k b q) : ((q < n ∧ weq (D (p q)) o k b = true) ∧ ∃ w, fd_run s o k b n 0 = some w ∧ w < n ∧ wsim ρ (D (p q)) (mw s w)) ∨ (¬ (q < n ∧ weq (D (p q)) o k b = true) ∧ fd_run s o k b n 0 = none ∧ ∀ j, j < n → kw (D (p j)) ≠ (o, k, b)) := by
  obtain ⟨⟨a1, a2, a3, a4⟩, h2, -⟩ := h
  by_cases hf : q < n ∧ weq (D (p q)) o k b = true
  · refine Or.inl ⟨hf, ?_⟩
    have hkq : kw (D (p q)) = (o, k, b) := by
      have h3 := hf.2
      unfold weq at h3
      rw [Bool.and_eq_true, decide_eq_true_eq, decide_eq_true_eq] at h3
      show ((D (p q)).1.1, (D (p q)).1.2.1, (D (p q)).1.2.2.1) = _
      rw [h3.1.1, h3.1.2, h3.2]
    obtain ⟨w, w1, w2⟩ := a1 q hf.1
    rcases fd_spec s o k b n 0 with ⟨-, h4⟩ | ⟨j, h4, h5, h6⟩
    · exact absurd (w2.kw.symm.trans hkq) (h4 w (by omega) (by omega))
    · have : j = w := a3 j w (by omega) w1 (h6.trans (hkq.symm.trans w2.kw))
      subst this
      exact ⟨j, h4, w1, w2⟩
  · have hno : ∀ j, j < n → kw (D (p j)) ≠ (o, k, b) := fun j hj e => hf ((fnd_iff h2 hq).mpr ⟨j, hj, e⟩)
    refine Or.inr ⟨hf, ?_, hno⟩
    rcases fd_spec s o k b n 0 with ⟨h4, -⟩ | ⟨w, h4, h5, h6⟩
    · exact h4
    · obtain ⟨j, j1, j2⟩ := a2 w (by omega)
      exact absurd (j2.kw.trans h6) (hno j j1)
theorem fresh_in (ρ : Int32 → Int32) (o k b e v : Int32) (g1 g2 : Int32) (t : Tl) : wsim ρ (wadd (rv_fresh o k b e) v) ((o, k, b, e), (false, true), tl_in (0, 0, g1, g2) v, t) := by
  refine ⟨rfl, rfl, ?_, fun z => (by cases z), ?_⟩
  · show tl_add (0, 0, 0, 0) v = _
    unfold tl_add tl_in
    rw [if_pos rfl, if_pos rfl, if_pos (Or.inl rfl), if_pos (Or.inl rfl)]
  · show false = (decide _ && (false && true))
    cases decide (ρ (wadd (rv_fresh o k b e) v).1.1 = 1) <;> rfl
theorem WR.opn {ρ : Int32 → Int32} {n q : Nat} {p : Nat → Nat} {D : Nat → Wd} {R : Rs} {s s' : Md} {o k b e : Int32} {c' : Wd} (h : WR ρ n p D R s) (hn : n < 120) (hq : rv_pl_ n p D o k b q) (hno : ¬ (q < n ∧ weq (D (p q)) o k b = true)) (hc : c'.1 = (o, k, b, e)) (hs : wsim ρ c' (mw s' n)) (hm : ∀ w, w < n → mw s' w = mw s w) (hR : RSim R s') (en : s'.nwin = nI (n + 1)) : WR ρ (n + 1) (rv_ins p q n) (va_up D (p n) c') R s' := by
  have hno2 : ∀ j, j < n → kw (D (p j)) ≠ (o, k, b) := fun j hj e => hno ((fnd_iff h.2.1 hq).mpr ⟨j, hj, e⟩)
  obtain ⟨h1, h2, h3, h4, h5, h6, h7⟩ := h
  have hkc : kw c' = (o, k, b) := by
    show (c'.1.1, c'.1.2.1, c'.1.2.2.1) = _
    rw [hc]
  refine ⟨h1.ins hq.1 (c' := c') (r' := mw s' n) hs (fun j hj z => hno2 j hj (z.trans hkc)) (cw_ins h7 hn hq.1 c') (fun w hw => ?_), ?_, hR, en, by omega, rv_ins_ok hq.1 hn ⟨h6, h7⟩⟩
  · by_cases z : w = n
    · rw [if_pos z, z]
    · rw [if_neg z]; exact hm w (by omega)
  · have := (h2.ins (e := e) h7 hn hq hno).same1 (i := p n) (d := c') (by rw [va_up_self]; exact hc)
    rw [va_up2] at this
    exact this
theorem into_made_mw (s : Md) (n : Nat) (vo k b e v : Int32) : (∀ w, w ≠ n → mw (md_into (md_made s n vo k b e) n v) w = mw s w) ∧ mw (md_into (md_made s n vo k b e) n v) n = ((vo, k, b, e), (false, true), tl_in (0, 0, s.wLeast n, s.wMost n) v, (mw s n).2.2.2) := by
  refine ⟨fun w hw => ?_, ?_⟩
  · rw [into_mw, if_neg hw, made_mw, if_neg hw]
  · rw [into_mw, if_pos rfl, made_mw, if_pos rfl]
/-- what follows of a number that came -/
theorem foll_st (s : Md) (r w o : Nat) : (md_foll s r w o).st = s.st := by
  unfold md_foll
  split
  · split
    · rfl
    · exact (tell_st _ _ _).trans (back_st _ _ _)
  · split
    · exact tell_st _ _ _
    · rfl
theorem WR.foll {ρ : Int32 → Int32} {n o : Nat} {p : Nat → Nat} {D : Nat → Wd} {R : Rs} {s : Md} {j w : Nat} {r0 m v : Int32} (h : WR ρ n p (va_up D (p j) (win_in r0 (D (p j)) v)) R s) (hj : j < n) (hw : w < n) (hs : wsim ρ (win_in r0 (D (p j)) v) (mw s w)) (hr : s.oRule o = r0) (hm : s.oMark o = m) (ht : (D (p j)).2.1.1 = true → (D (p j)).1.2.2.2 ≤ m) : WR ρ n p (ci_one r0 m (D, R) (p j) v).1 (ci_one r0 m (D, R) (p j) v).2 (md_foll s R.1 w o) ∧ (ci_one r0 m (D, R) (p j) v).2.1 = fl_r s R.1 w o := by
  obtain ⟨i1, i2, i3⟩ := win_in_1 r0 (D (p j)) v
  have t1 : s.wTold w = (D (p j)).2.1.1 := hs.2.1.symm.trans i2
  have t2 : s.wEnd w = (D (p j)).1.2.2.2 := by
    have : (mw s w).1 = (D (p j)).1 := hs.1.symm.trans i1
    exact congrArg (fun z : Int32 × Int32 × Int32 × Int32 => z.2.2.2) this
  unfold md_foll fl_r
  rw [t1, t2, hr, hm]
  by_cases hc : (D (p j)).2.1.1 = true ∧ r0 = 1
  · rw [ci_a hc, if_pos hc.1, if_pos hc.1, if_pos hc.2, if_pos hc.2]
    rw [show win_in r0 (D (p j)) v = wchg (wadd (D (p j)) v) from if_pos hc] at h
    exact ⟨h, rfl⟩
  · rw [show win_in r0 (D (p j)) v = wadd (D (p j)) v from if_neg hc] at h hs
    have hs' : wsim ρ ((va_up D (p j) (wadd (D (p j)) v)) (p j)) (mw s w) := by rw [va_up_self]; exact hs
    by_cases htt : (D (p j)).2.1.1 = true
    · have hr1 : ¬ r0 = 1 := fun z => hc ⟨htt, z⟩
      rw [ci_b hc (ht htt), if_pos htt, if_pos htt, if_neg hr1, if_neg hr1]
      obtain ⟨k1, k2⟩ := h.tell1 hj hw hs' (by rw [va_up_self]; exact htt)
      rw [va_up_self, va_up2] at k1
      rw [va_up_self] at k2
      exact ⟨k1, k2⟩
    · rw [if_neg htt, if_neg htt]
      by_cases hle : (D (p j)).1.2.2.2 ≤ m
      · rw [ci_b hc hle, if_pos hle, if_pos hle]
        obtain ⟨k1, k2⟩ := h.tell0 hj hw hs' (by rw [va_up_self]; cases hx : (D (p j)).2.1.1 <;> simp_all [wadd])
        rw [va_up_self, va_up2] at k1
        rw [va_up_self] at k2
        exact ⟨k1, k2⟩
      · rw [ci_c hc hle, if_neg hle, if_neg hle]
        exact ⟨h, rfl⟩
