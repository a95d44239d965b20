/-! THE COMPARISON: a row comes into the windows of its time -/
theorem IW.upd {N : Int} {no n j : Nat} {od : Nat → Od} {p : Nat → Nat} {D : Nat → Wd} (h : IW N no od n p D) (hp : ∀ i j, i < 120 → j < 120 → p i = p j → i = j) (hn : n ≤ 120) (hj : j < n) {c' : Wd} (h1 : c'.1 = (D (p j)).1) (h2 : c'.2.2.1.1.toInt = (D (p j)).2.2.1.1.toInt + 1) (h3 : IWin no od c') : IW (N + 1) no od n p (va_up D (p j) c') := by
  obtain ⟨a1, a2, a3⟩ := h
  have cu := cw_upd (D := D) hp hn hj c'
  refine ⟨fun i hi => ?_, fun i k hik hk => ?_, fun i hi => ?_, ?_⟩
  · rw [cu i hi]
    by_cases z : i = j
    · rw [if_pos z]; exact h3
    · rw [if_neg z]; exact a1 i hi
  · have g := a2 i k hik hk
    rw [cu i (by omega), cu k hk]
    unfold IGap at g ⊢
    by_cases z1 : i = j
    · subst z1
      rw [if_pos rfl, if_neg (by omega), h1]; exact g
    · rw [if_neg z1]
      by_cases z2 : k = j
      · subst z2; rw [if_pos rfl, h1]; exact g
      · rw [if_neg z2]; exact g
  · rw [cu i hi]
    by_cases z : i = j
    · rw [if_pos z, h2]; have := a3.1 j hj; omega
    · rw [if_neg z]; exact a3.1 i hi
  · have := csum_upd (f := fun i => (D (p i)).2.2.1.1.toInt) (g := fun i => (va_up D (p j) c' (p i)).2.2.1.1.toInt) (j := j) (x := c'.2.2.1.1.toInt) n hj (fun i hi => by
      (try dsimp only)
      rw [cu i hi]
      by_cases z : i = j
      · rw [if_pos z, if_pos z]
      · rw [if_neg z, if_neg z])
    rw [this, h2]
    have := a3.2
    (try dsimp only)
    omega
theorem IW.ins {N : Int} {no n q : Nat} {od : Nat → Od} {p : Nat → Nat} {D : Nat → Wd} (h : IW N no od n p D) (hp : ∀ i j, i < 120 → j < 120 → p i = p j → i = j) (hn : n < 120) (hq : q ≤ n) {c' : Wd} {M : Int} (h2 : c'.2.2.1.1.toInt = M) (hM : 1 ≤ M) (h3 : IWin no od c') (hg1 : ∀ i, i < q → IGap od no (D (p i)) c') (hg2 : ∀ i, q ≤ i → i < n → IGap od no c' (D (p i))) : IW (N + M) no od (n + 1) (rv_ins p q n) (va_up D (p n) c') := by
  obtain ⟨a1, a2, a3⟩ := h
  have cu := cw_ins (D := D) hp hn hq c'
  refine ⟨fun i hi => ?_, fun i k hik hk => ?_, fun i hi => ?_, ?_⟩
  · rw [cu i hi]
    by_cases z : i < q
    · rw [if_pos z]; exact a1 i (by omega)
    · rw [if_neg z]
      by_cases z2 : i = q
      · rw [if_pos z2]; exact h3
      · rw [if_neg z2]; exact a1 (i - 1) (by omega)
  · rw [cu i (by omega), cu k hk]
    by_cases z1 : i < q
    · rw [if_pos z1]
      by_cases z2 : k < q
      · rw [if_pos z2]; exact a2 i k hik (by omega)
      · rw [if_neg z2]
        by_cases z3 : k = q
        · rw [if_pos z3]; exact hg1 i z1
        · rw [if_neg z3]; exact a2 i (k - 1) (by omega) (by omega)
    · rw [if_neg z1, if_neg (show ¬ k < q by omega), if_neg (show ¬ k = q by omega)]
      by_cases z3 : i = q
      · rw [if_pos z3]; exact hg2 (k - 1) (by omega) (by omega)
      · rw [if_neg z3]; exact a2 (i - 1) (k - 1) (by omega) (by omega)
  · rw [cu i hi]
    by_cases z : i < q
    · rw [if_pos z]; exact a3.1 i (by omega)
    · rw [if_neg z]
      by_cases z2 : i = q
      · rw [if_pos z2, h2]; exact hM
      · rw [if_neg z2]; exact a3.1 (i - 1) (by omega)
  · have := csum_ins (f := fun i => (D (p i)).2.2.1.1.toInt) (g := fun i => (va_up D (p n) c' (rv_ins p q n i)).2.2.1.1.toInt) (q := q) (x := c'.2.2.1.1.toInt) n hq (fun i hi => by
      (try dsimp only)
      rw [cu i hi]
      by_cases z : i < q
      · rw [if_pos z, if_pos z]
      · rw [if_neg z, if_neg z]
        by_cases z2 : i = q
        · rw [if_pos z2, if_pos z2]
        · rw [if_neg z2, if_neg z2])
    rw [this, h2]
    have := a3.2
    omega
theorem IW.cnt {N : Int} {no n j : Nat} {od : Nat → Od} {p : Nat → Nat} {D : Nat → Wd} (h : IW N no od n p D) (hj : j < n) : 1 ≤ (D (p j)).2.2.1.1.toInt ∧ (D (p j)).2.2.1.1.toInt ≤ N := by
  have h1 := h.2.2.1 j hj
  have h2 := (csum_ge (f := fun j => (D (p j)).2.2.1.1.toInt) n (fun i hi => by have := h.2.2.1 i hi; (try dsimp only); omega)).2 j hj
  have h3 := h.2.2.2
  (try dsimp only at h2)
  omega
theorem cnt_add {t : Tl} (v : Int32) (h0 : 0 ≤ t.1.toInt) (h : t.1.toInt < 2147483647) : (tl_add t v).1.toInt = t.1.toInt + 1 := by
  show (t.1 + 1).toInt = _
  rw [tA (by rw [show (1 : Int32).toInt = 1 from rfl]; omega) (by rw [show (1 : Int32).toInt = 1 from rfl]; omega)]
  rfl
theorem ci_form (r0 m : Int32) (D : Nat → Wd) (R : Rs) (i : Nat) (v : Int32) : ∃ c' : Wd, (ci_one r0 m (D, R) i v).1 = va_up D i c' ∧ c'.1 = (D i).1 ∧ c'.2.2.1 = tl_add (D i).2.2.1 v ∧ (c'.2.1.1 = true → (D i).2.1.1 = true ∨ (D i).1.2.2.2 ≤ m) := by
  by_cases hc : (D i).2.1.1 = true ∧ r0 = 1
  · rw [ci_a hc]; exact ⟨_, rfl, rfl, rfl, fun _ => Or.inl hc.1⟩
  · by_cases hm : (D i).1.2.2.2 ≤ m
    · rw [ci_b hc hm]; exact ⟨_, rfl, rfl, rfl, fun _ => Or.inr hm⟩
    · rw [ci_c hc hm]; exact ⟨_, rfl, rfl, rfl, fun z => Or.inl z⟩
theorem st_O1 {s s' : Md} (h : s'.2.1 = s.2.1) : s'.oSize = s.oSize ∧ s'.oLt = s.oLt ∧ s'.oMark = s.oMark ∧ s'.oRule = s.oRule := by
  refine ⟨?_, ?_, ?_, ?_⟩
  · show s'.2.1.2.1 = s.2.1.2.1; rw [h]
  · show s'.2.1.2.2.2.1 = s.2.1.2.2.2.1; rw [h]
  · show s'.2.1.2.2.2.2.2 = s.2.1.2.2.2.2.2; rw [h]
  · show s'.2.1.2.2.2.2.1 = s.2.1.2.2.2.2.1; rw [h]
/-- one window of the row -/
theorem gstep {ρ : Int32 → Int32} {no n o : Nat} {od : Nat → Od} {p : Nat → Nat} {D : Nat → Wd} {R : Rs} {s : Md} {N : Int} {k v b : Int32} (hW : WR ρ n p D R s) (hI : IW N no od n p D) (hno : no ≤ 5) (ho : o < no) (hρ : ρ (nI o) = (od o).2.2.2.2.1) (e1 : s.oSize o = (od o).2.1) (e2 : s.oRule o = (od o).2.2.2.2.1) (e3 : s.oMark o = (od o).2.2.2.2.2) (hk2 : ¬ (od o).1 = 2) (hsz : 1 ≤ (od o).2.1.toInt ∧ (od o).2.1.toInt ≤ 1000000) (hb : -1000000 ≤ b.toInt ∧ b.toInt ≤ 100000000) (hN : N < 1000000)
    (hroom : ¬ (rv_plc p D (nI o) k b n < n ∧ weq (D (p (rv_plc p D (nI o) k b n))) (nI o) k b = true) → n < 120) {F : (Nat × (Nat → Nat) × (Nat → Wd)) × Nat} (hF : F = fo_run (nI o) k b (b + (od o).2.1) n p D) {T : Md × Nat × Nat} (hT : T = gu_fo s o n (nI o) k b) {c : (Nat → Wd) × Rs} (hc : c = ci_one (od o).2.2.2.2.1 (od o).2.2.2.2.2 (F.1.2.2, R) F.2 v) :
    WR ρ F.1.1 F.1.2.1 c.1 c.2 (md_foll (md_into T.1 T.2.2 v) R.1 T.2.2 o) ∧ c.2.1 = fl_r (md_into T.1 T.2.2 v) R.1 T.2.2 o ∧ T.2.1 = F.1.1 ∧ IW (N + 1) no od F.1.1 F.1.2.1 c.1 ∧ (md_foll (md_into T.1 T.2.2 v) R.1 T.2.2 o).st = s.st ∧ ∀ b', b' ≠ b → ((∃ j, j < F.1.1 ∧ kw (c.1 (F.1.2.1 j)) = (nI o, k, b')) ↔ ∃ j, j < n ∧ kw (D (p j)) = (nI o, k, b')) := by
  obtain ⟨q, hq⟩ := rv_pl_ex hW.2.1 (nI o) k b
  have eq := rv_plc_eq hq
  rw [eq] at hroom
  unfold fo_run at hF
  unfold gu_fo at hT
  rw [eq] at hF
  have hp := hW.2.2.2.2.2.2
  rcases fnd_sim hW (nI o) k b hq with ⟨hf, w, w1, w2, w3⟩ | ⟨hf, w1, hnone⟩
  · rw [if_pos hf] at hF
    rw [w1] at hT
    subst hF
    subst hT
    dsimp only at hc ⊢
    have hop : (D (p q)).1.1 = nI o := by
      have h2 := hf.2
      unfold weq at h2
      rw [Bool.and_eq_true, decide_eq_true_eq, decide_eq_true_eq] at h2
      exact h2.1.1
    have ho2 : ρ (D (p q)).1.1 = (od o).2.2.2.2.1 := by rw [hop]; exact hρ
    obtain ⟨i1, i2⟩ := hW.into hf.1 w2 w3 v
    rw [ho2] at i1 i2
    have hst := into_st s w v
    obtain ⟨o', b1, b2, b3, b4⟩ := hI.1 q hf.1
    have eo' : o' = o := nI_inj (by omega) (by omega) (b2.symm.trans hop)
    subst eo'
    obtain ⟨f1, f2⟩ := i1.foll (o := o') hf.1 w2 i2 (by rw [st_oRule hst]; exact e2) (by rw [st_oMark hst]; exact e3) b4
    obtain ⟨c', g1, g2, g3, g4⟩ := ci_form (od o').2.2.2.2.1 (od o').2.2.2.2.2 D R (p q) v
    have hcn := hI.cnt hf.1
    have cu := cw_upd (D := D) hp hW.2.2.2.2.1 hf.1 c'
    rw [hc]
    refine ⟨f1, f2, rfl, ?_, (foll_st _ _ _ _).trans hst, fun b' hb' => ?_⟩
    · rw [g1]
      refine hI.upd hp hW.2.2.2.2.1 hf.1 g2 ?_ ⟨o', b1, ?_, ?_, fun z => ?_⟩
      · rw [g3]; exact cnt_add v (by omega) (by omega)
      · rw [g2]; exact b2
      · rw [g2]; exact b3
      · rw [g2]
        rcases g4 z with z1 | z1
        · exact b4 z1
        · exact z1
    · have key : ∀ j, j < n → kw (va_up D (p q) c' (p j)) = kw (D (p j)) := fun j hj => by
        rw [cu j hj]
        by_cases z : j = q
        · rw [if_pos z, z]; exact kw_1 g2
        · rw [if_neg z]
      rw [g1]
      constructor
      · rintro ⟨j, j1, j2⟩; exact ⟨j, j1, by rw [← key j j1]; exact j2⟩
      · rintro ⟨j, j1, j2⟩; exact ⟨j, j1, by rw [key j j1]; exact j2⟩
  · have hn := hroom hf
    rw [if_neg hf] at hF
    rw [w1] at hT
    subst hF
    subst hT
    dsimp only at hc ⊢
    rw [e1]
    have ev := tA (a := b) (b := (od o).2.1) (by omega) (by omega)
    have epn : rv_ins p q n q = p n := by unfold rv_ins; rw [if_pos rfl]
    have hst : (md_into (md_made s n (nI o) k b (b + (od o).2.1)) n v).st = s.st := (into_st _ _ _).trans (made_st _ _ _ _ _ _)
    obtain ⟨m1, m2⟩ := into_made_mw s n (nI o) k b (b + (od o).2.1) v
    have i0 : WR ρ (n + 1) (rv_ins p q n) (va_up D (p n) (wadd (rv_fresh (nI o) k b (b + (od o).2.1)) v)) R (md_into (md_made s n (nI o) k b (b + (od o).2.1)) n v) := by
      refine hW.opn (e := b + (od o).2.1) hn hq hf rfl ?_ (fun w hw => m1 w (by omega)) ((hW.2.2.1.made _ _ _ _ _).into _ _) ?_
      · rw [m2]; exact fresh_in ρ _ _ _ _ _ _ _ _
      · rw [(into_facts _ _ _).2.2, (made_facts _ _ _ _ _ _).2.2, hW.2.2.2.1]; exact nI_1 n
    have ew : win_in (od o).2.2.2.2.1 (va_up D (p n) (rv_fresh (nI o) k b (b + (od o).2.1)) (rv_ins p q n q)) v = wadd (rv_fresh (nI o) k b (b + (od o).2.1)) v := by
      rw [epn, va_up_self]
      exact if_neg (fun z => by cases z.1)
    have i1 : WR ρ (n + 1) (rv_ins p q n) (va_up (va_up D (p n) (rv_fresh (nI o) k b (b + (od o).2.1))) (rv_ins p q n q) (win_in (od o).2.2.2.2.1 (va_up D (p n) (rv_fresh (nI o) k b (b + (od o).2.1)) (rv_ins p q n q)) v)) R (md_into (md_made s n (nI o) k b (b + (od o).2.1)) n v) := by
      rw [ew, epn, va_up2]; exact i0
    obtain ⟨f1, f2⟩ := i1.foll (o := o) (m := (od o).2.2.2.2.2) (j := q) (w := n) (by have := hq.1; omega) (by omega) (by rw [ew, m2]; exact fresh_in ρ _ _ _ _ _ _ _ _) (by rw [st_oRule hst]; exact e2) (by rw [st_oMark hst]; exact e3) (fun z => by
      rw [epn, va_up_self] at z; cases z)
    rw [epn] at f1 f2
    obtain ⟨c', g1, g2, g3, g4⟩ := ci_form (od o).2.2.2.2.1 (od o).2.2.2.2.2 (va_up D (p n) (rv_fresh (nI o) k b (b + (od o).2.1))) R (p n) v
    rw [va_up_self] at g2 g3 g4
    rw [va_up2] at g1
    have cu := cw_ins (D := D) hp hn hq.1 c'
    rw [hc]
    refine ⟨f1, f2, rfl, ?_, (foll_st _ _ _ _).trans hst, fun b' hb' => ?_⟩
    · rw [g1]
      refine hI.ins hp hn hq.1 (M := 1) ?_ (by omega) ⟨o, ho, ?_, ?_, fun z => ?_⟩ (fun i hi h1 h2 o' h3 h4 h5 => ?_) (fun i hi1 hi2 h1 h2 o' h3 h4 h5 => ?_)
      · rw [g3]; rfl
      · rw [g2]; rfl
      · rw [g2]
        show -1000000 ≤ b.toInt ∧ b.toInt ≤ 100000000 ∧ b.toInt < (b + (od o).2.1).toInt ∧ (b + (od o).2.1).toInt ≤ 101000000
        omega
      · rw [g2]
        rcases g4 z with z1 | z1
        · cases z1
        · exact z1
      · rw [h4, g2] at h1
        have : o' = o := nI_inj (by omega) (by omega) h1
        subst this
        exact absurd h5 hk2
      · rw [g2] at h4
        have : o = o' := nI_inj (by omega) (by omega) h4
        subst this
        exact absurd h5 hk2
    · have hkc : kw c' = (nI o, k, b) := by
        show (c'.1.1, c'.1.2.1, c'.1.2.2.1) = _
        rw [g2]; rfl
      rw [g1]
      constructor
      · rintro ⟨j, j1, j2⟩
        rw [cu j j1] at j2
        by_cases z : j < q
        · rw [if_pos z] at j2; exact ⟨j, by have := hq.1; omega, j2⟩
        · rw [if_neg z] at j2
          by_cases z2 : j = q
          · rw [if_pos z2, hkc] at j2
            exact absurd (congrArg (fun z : Int32 × Int32 × Int32 => z.2.2) j2).symm hb'
          · rw [if_neg z2] at j2; exact ⟨j - 1, by omega, j2⟩
      · rintro ⟨j, j1, j2⟩
        by_cases z : j < q
        · exact ⟨j, by omega, by rw [cu j (by omega), if_pos z]; exact j2⟩
        · exact ⟨j + 1, by omega, by rw [cu (j + 1) (by omega), if_neg (by omega), if_neg (by omega), Nat.add_sub_cancel]; exact j2⟩
