/-! THE COMPARISON: the mark moves -/
theorem st_oMark {s s' : Md} (h : s'.st = s.st) : s'.oMark = s.oMark := by
  have : s'.2.1 = s.2.1 := congrArg (fun q : MdT => q.2.2.2.2.2.2.2.2.1) h
  show s'.2.1.2.2.2.2.2 = s.2.1.2.2.2.2.2
  rw [this]
theorem st_oLt {s s' : Md} (h : s'.st = s.st) : s'.oLt = s.oLt := by
  have : s'.2.1 = s.2.1 := congrArg (fun q : MdT => q.2.2.2.2.2.2.2.2.1) h
  show s'.2.1.2.2.2.1 = s.2.1.2.2.2.1
  rw [this]
theorem st_oRule {s s' : Md} (h : s'.st = s.st) : s'.oRule = s.oRule := by
  have : s'.2.1 = s.2.1 := congrArg (fun q : MdT => q.2.2.2.2.2.2.2.2.1) h
  show s'.2.1.2.2.2.2.1 = s.2.1.2.2.2.2.1
  rw [this]
theorem wdue_sim {ρ : Int32 → Int32} {o : Nat} {m : Int32} {s : Md} {c : Wd} {w : Nat} (hm : s.oMark o = m) (h : wsim ρ c (mw s w)) : wdue c (nI o) m = du_is s o false w := by
  have e1 : c.1.1 = s.wOp w := by rw [h.1]; rfl
  have e2 : c.1.2.2.2 = s.wEnd w := by rw [h.1]; rfl
  have e3 : c.2.1.1 = s.wTold w := h.2.1
  unfold wdue du_is
  rw [e1, e2, e3, hm, if_neg (by decide)]
theorem wcls_sim {ρ : Int32 → Int32} {o : Nat} {l m : Int32} {s : Md} {c : Wd} {w : Nat} (hm : s.oMark o = m) (hl : s.oLt o = l) (h : wsim ρ c (mw s w)) : wcls c (nI o) l m = du_is s o true w := by
  have e1 : c.1.1 = s.wOp w := by rw [h.1]; rfl
  have e2 : c.1.2.2.2 = s.wEnd w := by rw [h.1]; rfl
  unfold wcls du_is
  rw [e1, e2, hm, hl, if_pos rfl]
theorem wdue_op {c : Wd} {o m : Int32} (h : wdue c o m = true) : c.1.1 = o ∧ c.2.1.1 = false ∧ c.1.2.2.2 ≤ m := by
  unfold wdue at h
  rw [Bool.and_eq_true, Bool.and_eq_true, decide_eq_true_eq, decide_eq_true_eq] at h
  exact ⟨h.1, by cases hb : c.2.1.1 <;> simp [hb] at h ⊢, h.2.2⟩
theorem wcls_op {c : Wd} {o l m : Int32} (h : wcls c o l m = true) : c.1.1 = o ∧ c.1.2.2.2 + l ≤ m := by
  unfold wcls at h
  rw [Bool.and_eq_true, decide_eq_true_eq, decide_eq_true_eq] at h
  exact h
theorem wdue_told (c : Wd) (o m : Int32) : wdue (wtold c) o m = false := by
  unfold wdue
  show (decide (c.1.1 = o) && (!true && decide (c.1.2.2.2 ≤ m))) = false
  cases decide (c.1.1 = o) <;> rfl
theorem tl_sim {ρ : Int32 → Int32} {n o : Nat} {p : Nat → Nat} {m : Int32} : ∀ (f : Nat) (D : Nat → Wd) (R : Rs) (s : Md), WR ρ n p D R s → s.oMark o = m → cnt (fun t => wdue (D (p t)) (nI o) m) n ≤ f →
    td_ok o n f (s, R.1) ∧ WR ρ n p (tl_run (nI o) m n p f (D, R)).1 (tl_run (nI o) m n p f (D, R)).2 (td_run o n f (s, R.1)).1 ∧ (td_run o n f (s, R.1)).2 = (tl_run (nI o) m n p f (D, R)).2.1 ∧ (td_run o n f (s, R.1)).1.st = s.st ∧ (∀ j, j < n → wdue ((tl_run (nI o) m n p f (D, R)).1 (p j)) (nI o) m = false) ∧ ∀ i, (tl_run (nI o) m n p f (D, R)).1 i = D i ∨ ((tl_run (nI o) m n p f (D, R)).1 i = wtold (D i) ∧ (D i).1.1 = nI o ∧ (D i).1.2.2.2 ≤ m) := by
  intro f
  induction f with
  | zero =>
    intro D R s h hm hc
    have hz := cnt_zero n (Nat.le_zero.mp hc)
    refine ⟨?_, h, rfl, rfl, hz, fun i => Or.inl rfl⟩
    have hd := du_all s o false n
    show du_run s o false n 0 none = none
    cases ed : du_run s o false n 0 none with
    | none => rfl
    | some w =>
      rw [ed] at hd
      obtain ⟨j, j1, j2⟩ := h.1.2.1 w hd.1
      have := hz j j1
      (try dsimp only at this)
      rw [wdue_sim hm j2, hd.2.1] at this
      cases this
  | succ f ih =>
    intro D R s h hm hc
    rcases pick_sim (o := o) (g := false) (Q := fun d => wdue d (nI o) m) h.1 h.2.1 (fun j w _ _ hs => wdue_sim hm hs) (fun j _ hq => (wdue_op hq).1) with ⟨e1, e2⟩ | ⟨j, w, e1, e2, hj, hw, hs, hq⟩
    · have t1 : tl_run (nI o) m n p (f + 1) (D, R) = (D, R) := by
        conv => lhs; unfold tl_run
        (try dsimp only)
        (try dsimp only at e1)
        rw [e1]
      have t2 : td_run o n (f + 1) (s, R.1) = (s, R.1) := by
        conv => lhs; unfold td_run
        (try dsimp only)
        rw [e2]
      rw [t1, t2]
      refine ⟨?_, h, rfl, rfl, fun j hj => ?_, fun i => Or.inl rfl⟩
      · intro w hw
        have : du_run s o false n 0 none = some w := hw
        rw [e2] at this
        cases this
      · have hp := rv_pick_ok (fun t => wdue (D (p t)) (nI o) m) (fun t => (D (p t)).1.2.2.2) n
        (try dsimp only at e1)
        rw [e1] at hp
        exact hp j hj
    · have ht := (wdue_op hq).2.1
      have t1 : tl_run (nI o) m n p (f + 1) (D, R) = tl_run (nI o) m n p f (va_up D (p j) (wtold (D (p j))), rs_tell R (D (p j))) := by
        conv => lhs; unfold tl_run
        (try dsimp only)
        (try dsimp only at e1)
        rw [e1]
      have t2 : td_run o n (f + 1) (s, R.1) = td_run o n f (md_tell s R.1 w, rq R.1) := by
        conv => lhs; unfold td_run
        (try dsimp only)
        rw [e2]
      obtain ⟨k1, k2⟩ := h.tell0 hj hw hs ht
      have hst := tell_st s R.1 w
      have hcu := cw_upd (D := D) h.2.2.2.2.2.2 h.2.2.2.2.1 hj (wtold (D (p j)))
      have hc2 : cnt (fun t => wdue (va_up D (p j) (wtold (D (p j))) (p t)) (nI o) m) n ≤ f := by
        have := cnt_upd (Q := fun t => wdue (D (p t)) (nI o) m) (Q' := fun t => wdue (va_up D (p j) (wtold (D (p j))) (p t)) (nI o) m) (j := j) hq (by (try dsimp only); rw [va_up_self]; exact wdue_told _ _ _) n hj (fun i hi hne => by (try dsimp only); rw [hcu i hi, if_neg hne])
        omega
      obtain ⟨a1, a2, a3, a4, a5, a6⟩ := ih _ _ _ k1 (by rw [st_oMark hst]; exact hm) hc2
      rw [k2] at a1 a2 a3 a4
      rw [t1, t2]
      refine ⟨?_, a2, a3, a4.trans hst, a5, fun i => ?_⟩
      · intro w' hw'
        have : du_run s o false n 0 none = some w' := hw'
        rw [e2] at this
        cases this
        exact a1
      · have hold : va_up D (p j) (wtold (D (p j))) i = D i ∨ (va_up D (p j) (wtold (D (p j))) i = wtold (D i) ∧ (D i).1.1 = nI o ∧ (D i).1.2.2.2 ≤ m) := by
          by_cases z : i = p j
          · rw [z, va_up_self]; exact Or.inr ⟨rfl, (wdue_op hq).1, (wdue_op hq).2.2⟩
          · rw [va_up_ne _ _ z]; exact Or.inl rfl
        rcases a6 i with z | ⟨z1, z2, z3⟩
        · rw [z]; exact hold
        · rw [z1]
          rcases hold with y | ⟨y1, y2, y3⟩
          · rw [y] at z2 z3 ⊢
            exact Or.inr ⟨rfl, z2, z3⟩
          · rw [y1] at z2 z3 ⊢
            exact Or.inr ⟨rfl, z2, z3⟩
/-! sums -/
def csum (f : Nat → Int) : Nat → Int
  | 0 => 0
  | n + 1 => csum f n + f n
theorem csum_same {f g : Nat → Int} : ∀ n, (∀ i, i < n → g i = f i) → csum g n = csum f n
  | 0, _ => rfl
  | n + 1, h => by unfold csum; rw [csum_same n (fun i hi => h i (by omega)), h n (by omega)]
theorem csum_upd {f g : Nat → Int} {j : Nat} {x : Int} : ∀ n, j < n → (∀ i, i < n → g i = if i = j then x else f i) → csum g n = csum f n - f j + x
  | 0, hj, _ => absurd hj (by omega)
  | n + 1, hj, h => by
    unfold csum
    by_cases e : j = n
    · subst e
      rw [csum_same (f := f) (g := g) j (fun i hi => by rw [h i (by omega), if_neg (by omega)]), h j (by omega), if_pos rfl]
      omega
    · rw [csum_upd n (by omega) (fun i hi => h i (by omega)), h n (by omega), if_neg (Ne.symm e)]
      omega
theorem csum_del {f g : Nat → Int} {j : Nat} : ∀ n, j < n → (∀ i, i < n - 1 → g i = if j ≤ i then f (i + 1) else f i) → csum g (n - 1) = csum f n - f j
  | 0, hj, _ => absurd hj (by omega)
  | n + 1, hj, h => by
    rw [Nat.add_sub_cancel] at h ⊢
    show csum g n = csum f n + f n - f j
    by_cases e : j = n
    · subst e
      rw [csum_same (f := f) (g := g) j (fun i hi => by rw [h i (by omega), if_neg (by omega)])]
      omega
    · obtain ⟨m, rfl⟩ : ∃ m, n = m + 1 := ⟨n - 1, by omega⟩
      have ih := csum_del (f := f) (g := g) (j := j) (m + 1) (by omega) (fun i hi => h i (by omega))
      rw [Nat.add_sub_cancel] at ih
      show csum g m + g m = _
      rw [ih, h m (by omega), if_pos (by omega)]
      omega
theorem csum_ins {f g : Nat → Int} {q : Nat} {x : Int} : ∀ n, q ≤ n → (∀ i, i < n + 1 → g i = if i < q then f i else if i = q then x else f (i - 1)) → csum g (n + 1) = csum f n + x
  | 0, hq, h => by
    have : q = 0 := by omega
    subst this
    show csum g 0 + g 0 = csum f 0 + x
    rw [h 0 (by omega), if_neg (by omega), if_pos rfl]
    rfl
  | n + 1, hq, h => by
    by_cases e : q = n + 1
    · subst e
      show csum g (n + 1) + g (n + 1) = csum f (n + 1) + x
      rw [csum_same (f := f) (g := g) (n + 1) (fun i hi => by rw [h i (by omega), if_pos hi]), h (n + 1) (by omega), if_neg (by omega), if_pos rfl]
    · show csum g (n + 1) + g (n + 1) = csum f n + f n + x
      rw [csum_ins n (by omega) (fun i hi => h i (by omega)), h (n + 1) (by omega), if_neg (by omega), if_neg (by omega), Nat.add_sub_cancel]
      omega
theorem csum_ge {f : Nat → Int} : ∀ n, (∀ i, i < n → 0 ≤ f i) → 0 ≤ csum f n ∧ ∀ j, j < n → f j ≤ csum f n
  | 0, _ => ⟨Int.le_refl _, fun j hj => absurd hj (by omega)⟩
  | n + 1, h => by
    obtain ⟨h1, h2⟩ := csum_ge n (fun i hi => h i (by omega))
    have h3 := h n (by omega)
    unfold csum
    refine ⟨by omega, fun j hj => ?_⟩
    by_cases e : j = n
    · subst e; omega
    · have := h2 j (by omega); omega
/-- how much the windows have, of all: each at least one, together at most N -/
def CB (N : Int) (n : Nat) (p : Nat → Nat) (D : Nat → Wd) : Prop := (∀ j, j < n → 1 ≤ (D (p j)).2.2.1.1.toInt) ∧ csum (fun j => (D (p j)).2.2.1.1.toInt) n ≤ N
theorem CB.same {N : Int} {n : Nat} {p : Nat → Nat} {D D' : Nat → Wd} (h : CB N n p D) (he : ∀ j, j < n → (D' (p j)).2.2.1.1 = (D (p j)).2.2.1.1) : CB N n p D' :=
  ⟨fun j hj => by rw [he j hj]; exact h.1 j hj, by rw [csum_same (f := fun j => (D (p j)).2.2.1.1.toInt) n (fun i hi => by (try dsimp only); rw [he i hi])]; exact h.2⟩
/-! what is closed goes -/
theorem lc_sim {ρ : Int32 → Int32} {o : Nat} {l m : Int32} : ∀ (n f : Nat) (p : Nat → Nat) (D : Nat → Wd) (R : Rs) (s : Md), n ≤ f → WR ρ n p D R s → s.oMark o = m → s.oLt o = l → ρ (nI o) = s.oRule o → (∀ j, j < n → wcls (D (p j)) (nI o) l m = true → (D (p j)).2.1.1 = true) →
    ∃ c t, c = lc_run (nI o) l m f (n, p, D, R) ∧ t = tr_run o n (s, R.1) ∧ WR ρ c.1 c.2.1 c.2.2.1 c.2.2.2 t.1 ∧ t.2 = c.2.2.2.1 ∧ t.1.st = s.st ∧ (∃ e : Nat → Nat, (∀ j, j < c.1 → e j < n ∧ c.2.2.1 (c.2.1 j) = D (p (e j))) ∧ ∀ i j, i < j → j < c.1 → e i < e j) ∧ ∀ N, CB N n p D → CB N c.1 c.2.1 c.2.2.1 := by
  intro n
  induction n with
  | zero =>
    intro f p D R s hf h hm hl hr ht
    have e1 : lc_run (nI o) l m f (0, p, D, R) = (0, p, D, R) := by
      cases f with
      | zero => rfl
      | succ f => rfl
    refine ⟨_, _, rfl, rfl, ?_⟩
    rw [e1]
    exact ⟨h, rfl, rfl, ⟨fun j => j, fun j hj => absurd hj (by (try dsimp only); omega), fun i j h1 h2 => h1⟩, fun N hN => hN⟩
  | succ n ih =>
    intro f p D R s hf h hm hl hr ht
    obtain ⟨f, rfl⟩ : ∃ g, f = g + 1 := ⟨f - 1, by omega⟩
    rcases pick_sim (o := o) (g := true) (Q := fun d => wcls d (nI o) l m) h.1 h.2.1 (fun j w _ _ hs => wcls_sim hm hl hs) (fun j _ hq => (wcls_op hq).1) with ⟨e1, e2⟩ | ⟨j, w, e1, e2, hj, hw, hs, hq⟩
    · have t1 : lc_run (nI o) l m (f + 1) (n + 1, p, D, R) = (n + 1, p, D, R) := by
        conv => lhs; unfold lc_run
        (try dsimp only)
        (try dsimp only at e1)
        rw [e1]
      have t2 : tr_run o (n + 1) (s, R.1) = (s, R.1) := by
        conv => lhs; unfold tr_run
        (try dsimp only)
        rw [e2]
      refine ⟨_, _, rfl, rfl, ?_⟩
      rw [t1, t2]
      exact ⟨h, rfl, rfl, ⟨fun j => j, fun j hj => ⟨hj, rfl⟩, fun i j h1 h2 => h1⟩, fun N hN => hN⟩
    · have htd := ht j hj hq
      have hop := (wcls_op hq).1
      have t1 : lc_run (nI o) l m (f + 1) (n + 1, p, D, R) = lc_run (nI o) l m f (n, rv_del p j (n + 1), lc_one (D, R) (p j)) := by
        conv => lhs; unfold lc_run
        (try dsimp only)
        (try dsimp only at e1)
        rw [e1]
        rfl
      have t2 : tr_run o (n + 1) (s, R.1) = tr_run o n (md_rem (tr_one s R.1 w o).1 (n + 1) w, (tr_one s R.1 w o).2) := by
        conv => lhs; unfold tr_run
        (try dsimp only)
        rw [e2]
      -- one of both sides
      have one : WR ρ (n + 1) p (lc_one (D, R) (p j)).1 (lc_one (D, R) (p j)).2 (tr_one s R.1 w o).1 ∧ (tr_one s R.1 w o).2 = (lc_one (D, R) (p j)).2.1 ∧ (tr_one s R.1 w o).1.st = s.st ∧ (∀ i, i < n + 1 → i ≠ j → (lc_one (D, R) (p j)).1 (p i) = D (p i)) ∧ wsim ρ ((lc_one (D, R) (p j)).1 (p j)) (mw (tr_one s R.1 w o).1 w) ∧ ((lc_one (D, R) (p j)).1 (p j)).2.2.1 = (D (p j)).2.2.1 := by
        have hch : (D (p j)).2.1.2 = (decide (s.oRule o = 1) && s.wCame w) := by
          rw [hs.2.2.2.2, hop, hr, htd]
          rfl
        unfold lc_one tr_one
        (try dsimp only)
        by_cases hc : s.oRule o = 1 ∧ s.wCame w = true
        · rw [if_pos (by rw [hch, decide_eq_true hc.1, hc.2]; rfl), if_pos hc]
          dsimp only
          obtain ⟨k1, k2⟩ := h.tell1 hj hw hs htd
          refine ⟨k1, k2.symm, (tell_st _ _ _).trans (back_st _ _ _), fun i hi hne => ?_, ?_, ?_⟩
          · rw [cw_upd h.2.2.2.2.2.2 h.2.2.2.2.1 hj _ i hi, if_neg hne]
          · rw [va_up_self, tell_mw, if_pos rfl, back_mw]; exact wsim_told hs
          · rw [va_up_self]; rfl
        · have hno : ¬ (D (p j)).2.1.2 = true := by
            rw [hch]
            intro z
            rw [Bool.and_eq_true, decide_eq_true_eq] at z
            exact hc z
          rw [if_neg hno, if_neg hc]
          exact ⟨h, rfl, rfl, fun i _ _ => rfl, hs, rfl⟩
      obtain ⟨o1, o2, o3, o4, o5, o6⟩ := one
      have hdel : ∀ i, i < n → (lc_one (D, R) (p j)).1 (rv_del p j (n + 1) i) = if j ≤ i then D (p (i + 1)) else D (p i) := fun i hi => by
        rw [cw_del (D := (lc_one (D, R) (p j)).1) (p := p) hj i (by omega)]
        by_cases z : j ≤ i
        · rw [if_pos z, if_pos z]; exact o4 (i + 1) (by omega) (by omega)
        · rw [if_neg z, if_neg z]; exact o4 i (by omega) (by omega)
      have hW : WR ρ n (rv_del p j (n + 1)) (lc_one (D, R) (p j)).1 (lc_one (D, R) (p j)).2 (md_rem (tr_one s R.1 w o).1 (n + 1) w) := by
        obtain ⟨h1, h2, h3, h4, h5, h6⟩ := o1
        refine ⟨?_, ?_, h3.rem _ _, rem_nwin w (by omega) h4, by omega, rv_del_ok hj h5 h6⟩
        · have := h1.del hj hw o5.kw (cw' := fun i => (lc_one (D, R) (p j)).1 (rv_del p j (n + 1) i)) (rw' := mw (md_rem (tr_one s R.1 w o).1 (n + 1) w)) (fun i hi => cw_del hj i hi) (fun v hv => rem_mw _ _ _ _ hw hv)
          exact this
        · intro a b hab hb
          rw [hdel a (by omega), hdel b hb]
          by_cases z1 : j ≤ a
          · rw [if_pos z1, if_pos (by omega)]; exact h.2.1 (a + 1) (b + 1) (by omega) (by omega)
          · rw [if_neg z1]
            by_cases z2 : j ≤ b
            · rw [if_pos z2]; exact h.2.1 a (b + 1) (by omega) (by omega)
            · rw [if_neg z2]; exact h.2.1 a b hab (by omega)
      have hst : (md_rem (tr_one s R.1 w o).1 (n + 1) w).st = s.st := (rem_st _ _ _).trans o3
      obtain ⟨c, t, ec, et, b1, b2, b3, ⟨e, b4, b5⟩, b6⟩ := ih f (rv_del p j (n + 1)) (lc_one (D, R) (p j)).1 (lc_one (D, R) (p j)).2 (md_rem (tr_one s R.1 w o).1 (n + 1) w) (by omega) hW (by rw [st_oMark hst]; exact hm) (by rw [st_oLt hst]; exact hl) (by rw [st_oRule hst]; exact hr) (fun i hi hq => by
        rw [hdel i hi] at hq ⊢
        by_cases z : j ≤ i
        · rw [if_pos z] at hq ⊢; exact ht (i + 1) (by omega) hq
        · rw [if_neg z] at hq ⊢; exact ht i (by omega) hq)
      refine ⟨c, t, by rw [t1]; exact ec, by rw [t2, o2]; exact et, b1, b2, b3.trans hst, ⟨fun i => if j ≤ e i then e i + 1 else e i, fun i hi => ?_, fun a b hab hb => ?_⟩, fun N hN => b6 N ?_⟩
      · obtain ⟨q1, q2⟩ := b4 i hi
        (try dsimp only)
        by_cases z : j ≤ e i
        · rw [if_pos z]; exact ⟨by omega, by rw [q2, hdel _ q1, if_pos z]⟩
        · rw [if_neg z]; exact ⟨by omega, by rw [q2, hdel _ q1, if_neg z]⟩
      · have := b5 a b hab hb
        (try dsimp only)
        by_cases z1 : j ≤ e a
        · rw [if_pos z1, if_pos (by omega)]; omega
        · rw [if_neg z1]
          by_cases z2 : j ≤ e b
          · rw [if_pos z2]; omega
          · rw [if_neg z2]; omega
      · refine ⟨fun i hi => ?_, ?_⟩
        · rw [hdel i hi]
          by_cases z : j ≤ i
          · rw [if_pos z]; exact hN.1 (i + 1) (by omega)
          · rw [if_neg z]; exact hN.1 i (by omega)
        · have := csum_del (f := fun i => (D (p i)).2.2.1.1.toInt) (g := fun i => ((lc_one (D, R) (p j)).1 (rv_del p j (n + 1) i)).2.2.1.1.toInt) (j := j) (n + 1) hj (fun i hi => by
            (try dsimp only)
            rw [hdel i (by omega)]
            by_cases z : j ≤ i
            · rw [if_pos z, if_pos z]
            · rw [if_neg z, if_neg z])
          rw [Nat.add_sub_cancel] at this
          rw [this]
          have h1 := hN.1 j hj
          have h2 := hN.2
          omega
