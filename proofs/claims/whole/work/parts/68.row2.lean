/-! THE CLASS: row, its ends -/
section
variable {G : rv_G} {σ : rv_S} {x B no : Nat} {oa : Nat → Nat} {od : Nat → Od} {ns : Nat} {sa : Nat → Nat} {sd : Nat → Sd} {nr : Nat} {ra rs : Nat → Nat} {rd : Nat → Rd} {n : Nat} {p : Nat → Nat} {D : Nat → Wd} {R : Rs} {na : Nat} {aq : Nat → Nat → Int64} {b : Nat} {rl dr : Int32} {ps : Ps}
def rw_go (sd : Nat → Sd) (od : Nat → Od) (ns nr j o : Nat) (k t : Int32) : Prop := j < ns ∧ rv_in k 0 9 = true ∧ rv_in t 0 100000000 = true ∧ ((sd j).2.2.1.1 = false ∧ (sd j).2.2.1.2 = false) ∧ nr < 300 ∧ (sd j).1 = o ∧ 1 ≤ (od o).2.2.1 ∧ ¬ (od o).2.2.1 = 0
theorem LF.one {x B : Nat} {σ σ' : rv_S} {S : Nat → Prop} (h : rv_only S σ.2 σ'.2) (hS : ∀ q, S q → LF x B q) : rv_only (LF x B) σ.2 σ'.2 := fun q hq => h q (fun z => hq (hS q z))
set_option maxRecDepth 100000 in
theorem ct_row_stop (h : LI σ x B no oa od ns sa sd nr ra rs rd n p D R na aq b rl dr ps) {j o : Nat} (k t v : Int32) (hg : rw_go sd od ns nr j o k t) (hw : ¬ rw_why (od o) p D (nI o) k t n = 0) (hb : b ≤ na) (hrl : rl = 1) :
    rv_Ct G i_Late_row 1 5 [.ref x, .int (nI j), .int k, .int t, .int v] σ (fun r σ' => r = some (.int (-2)) ∧ LI σ' x B no oa od ns sa (va_up sd j (sd_stop (sd j) true)) nr ra rs rd n p D R na aq b rl dr ps ∧ σ.1 ≤ σ'.1 ∧ rv_only (LF x B) σ.2 σ'.2) := by
  obtain ⟨hj, hk, ht, hno, hnr, eo, h1, h0⟩ := hg
  refine lp_row_111 h k t v hj hk ht hno hnr eo h1 h0 (fun σ1 hL e1 o1 hJ => ?_)
  obtain ⟨s1, s2, s3⟩ := hL.2.2.1.2.1 j hj
  refine rv_V.run rv_gd_Late_row [] 400 ?_
  refine And.intro (fun c1 => absurd c1 hw) (fun c1 => ?_)
  refine And.intro (Exists.intro _ hL.1.1.1) ?_
  refine ⟨_, _, _, ct_layAside0 k t v _ (by rw [← hrl]; exact hL.1.1.1) hL.2.2.2.2.2.1 s1 hb, Nat.zero_le _, Nat.zero_le _, rfl, ?_⟩
  rintro _ _ ⟨rfl, rfl⟩
  refine And.intro trivial ⟨rfl, hL.src hj _ s3, by dsimp only; omega, ?_⟩
  have hx := hL.2.2.2.2.2.2.2.1.2.1
  refine (LF.one o1 (fun q hq => Or.inl (by omega))).tr (rv_only.up (Or.inr (hL.2.2.2.2.2.2.2.2.1.2.1 j hj)))
set_option maxRecDepth 100000 in
theorem ct_row_aside (h : LI σ x B no oa od ns sa sd nr ra rs rd n p D R na aq b rl dr ps) {j o : Nat} (k t v : Int32) (hg : rw_go sd od ns nr j o k t) (hw : ¬ rw_why (od o) p D (nI o) k t n = 0) (hb : ¬ (b ≤ na ∧ rl = 1)) :
    rv_Ct G i_Late_row 1 5 [.ref x, .int (nI j), .int k, .int t, .int v] σ (fun r σ' => r = some (.int 0) ∧ (∃ q, (q ≤ nr ∧ (∀ i, q ≤ i → i < nr → raft (rd i) k t = true) ∧ (q = 0 ∨ raft (rd (q - 1)) k t = false)) ∧ LI σ' x B no oa od ns sa (va_up sd j (sd_note (sd j) t false)) (nr + 1) (rv_insf ra q σ.1) (rv_insf rs q j) (rv_insf rd q (sa j, k, t, v, false)) n p D R (as_run b na aq (rv_arec (nI j) k t v (rw_why (od o) p D (nI o) k t n))).1 (as_run b na aq (rv_arec (nI j) k t v (rw_why (od o) p D (nI o) k t n))).2 b rl (if b ≤ na then dr + 1 else dr) ps) ∧ σ.1 ≤ σ'.1 ∧ rv_only (LF x B) σ.2 σ'.2) := by
  obtain ⟨hj, hk, ht, hno, hnr, eo, h1, h0⟩ := hg
  refine lp_row_111 h k t v hj hk ht hno hnr eo h1 h0 (fun σ1 hL e1 o1 hJ => ?_)
  obtain ⟨s1, s2, s3⟩ := hL.2.2.1.2.1 j hj
  have hne : ∀ i, i < nr → ra i ≠ sa j := fun i hi => hL.rs_ne hj hi
  have hL0 := hL
  obtain ⟨⟨k1, k1w⟩, k2, k3, k4, ⟨vf0, a0, k5⟩, k6, k7, ⟨k8, k8a, k8b⟩, ⟨f1, f2, f3⟩, k10, k11⟩ := hL
  have hsj := f2 j hj
  have hsb := k8 _ _ s1
  refine rv_V.run rv_gd_Late_row [] 400 ?_
  refine And.intro (fun c1 => absurd c1 hw) (fun c1 => ?_)
  refine And.intro (Exists.intro _ k1.1) ?_
  refine ⟨_, _, _, ct_layAside1 k t v _ k1.1 k6 k4 hnr k8 s1 (by omega) (fun i hi => ⟨by have := f3 i hi; omega, hne i hi⟩) k11 hb, Nat.le_refl _, Nat.le_refl _, rfl, ?_⟩
  rintro _ σ2 ⟨rfl, m1, m2, m3, m4, ⟨q, m5, m6, m7, m8⟩, m9⟩
  have ne : ∀ q, q ≠ x → q ≠ x + 3 → q ≠ x + 4 → q ≠ σ1.1 → q ≠ x + 370 → q ≠ x + 371 → q ≠ sa j → σ2.2 q = σ1.2 q := fun q z1 z2 z3 z4 z5 z6 z7 => m9 q (by omega)
  have lo : ∀ q, q < x + 374 → q ≠ x → q ≠ x + 3 → q ≠ x + 4 → q ≠ x + 370 → q ≠ x + 371 → σ2.2 q = σ1.2 q := fun q z z1 z2 z3 z4 z5 => ne q z1 z2 z3 (by omega) z4 z5 (by omega)
  refine And.intro trivial ⟨rfl, ⟨q, ⟨m5, m6, m7⟩, ?_⟩, by omega, ?_⟩
  · rw [← e1]
    refine ⟨⟨⟨m2, k1.2.1.kept (fun q z1 z2 => lo q (by omega) (by omega) (by omega) (by omega) (by omega) (by omega)), k1.2.2.kept (lo _ (by omega) (by omega) (by omega) (by omega) (by omega) (by omega)) (lo _ (by omega) (by omega) (by omega) (by omega) (by omega) (by omega))⟩, k1w⟩, k2.kept (lo _ (by omega) (by omega) (by omega) (by omega) (by omega) (by omega)) (fun i hi => ne _ (by have := f1 i hi; omega) (by have := f1 i hi; omega) (by have := f1 i hi; omega) (by have := k8 _ _ (k2.2.1 i hi).1; omega) (by have := f1 i hi; omega) (by have := f1 i hi; omega) (fun z => os_ne k2 k3 hj hi z.symm)), ?_, m8, ⟨vf0, a0, (lo _ (by omega) (by omega) (by omega) (by omega) (by omega) (by omega)).trans k5⟩, m3, k7.kept (lo _ (by omega) (by omega) (by omega) (by omega) (by omega) (by omega)) (lo _ (by omega) (by omega) (by omega) (by omega) (by omega) (by omega)), ⟨k8.only (by omega) m9 (fun q hq => by rcases hq with z | z | z | z | z | z | z <;> omega), k8a, by omega⟩, ⟨f1, f2, fun i hi => ?_⟩, fun i hi => ?_, k11⟩
    · obtain ⟨⟨f, hf, hfe⟩, ho, hn, hi⟩ := k3
      refine ⟨⟨f, (lo _ (by omega) (by omega) (by omega) (by omega) (by omega) (by omega)).trans hf, hfe⟩, fun i hin => ?_, hn, hi⟩
      by_cases hij : i = j
      · subst hij
        rw [va_up_self]
        exact ⟨m4, s2, s3⟩
      · rw [va_up_ne _ _ hij]
        have := f2 i hin
        have := k8 _ _ (ho i hin).1
        exact ⟨(ne _ (by omega) (by omega) (by omega) (by omega) (by omega) (by omega) (fun z => hij (hi i j hin hj z))).trans (ho i hin).1, (ho i hin).2⟩
    · unfold rv_insf
      by_cases z1 : i < q
      · rw [if_pos z1]; exact f3 i (by omega)
      · rw [if_neg z1]
        by_cases z2 : i = q
        · rw [if_pos z2]; exact k8b
        · rw [if_neg z2]; exact f3 (i - 1) (by omega)
    · unfold rv_insf
      by_cases z1 : i < q
      · rw [if_pos z1, if_pos z1]; exact k10 i (by omega)
      · rw [if_neg z1, if_neg z1]
        by_cases z2 : i = q
        · rw [if_pos z2, if_pos z2]; exact ⟨hj, rfl⟩
        · rw [if_neg z2, if_neg z2]; exact k10 (i - 1) (by omega)
  · refine (LF.one o1 (fun q hq => Or.inl (by omega))).tr (LF.one m9 (fun q hq => ?_))
    unfold LF
    rcases hq with z | z | z | z | z | z | z <;> omega
/-- how many windows a row would make -/
def rw_new (od : Od) (p : Nat → Nat) (D : Nat → Wd) (o k t : Int32) (n : Nat) : Int32 := if od.1 = 2 then 1 - (rw_j p D o k t od.2.1 n).1 else cn_run o k od.2.1 od.2.2.1 od.2.2.2.1 od.2.2.2.2.2 t n p D 8 ((rv_fdiv (t - od.2.1) od.2.2.1 + 1) * od.2.2.1) 0
set_option maxRecDepth 100000 in
theorem lp_row_147 {Rt : Option Value → rv_S → Prop} {σ1 : rv_S} (hL : LI σ1 x B no oa od ns sa sd nr ra rs rd n p D R na aq b rl dr ps) {j o : Nat} (k t v : Int32) (hg : rw_go sd od ns nr j o k t) (hw : rw_why (od o) p D (nI o) k t n = 0) (hJ : (od o).1 = 2 → σ1.2 (x + 367) = some (oJ (nI (rw_q p D (nI o) k t n)) (rw_j p D (nI o) k t (od o).2.1 n)))
    (next : rv_V G m_Late_row 1 5 Rt 147 [some (.ref x), some (.int (nI j)), some (.int k), some (.int t), some (.int v), some (.ref (sa j)), some (.int 0)] [.int (rw_new (od o) p D (nI o) k t n), .int (nI n)] σ1 0 0) :
    rv_V G m_Late_row 1 5 Rt 111 [some (.ref x), some (.int (nI j)), some (.int k), some (.int t), some (.int v), some (.ref (sa j)), some (.int (rw_why (od o) p D (nI o) k t n))] [] σ1 0 0 := by
  obtain ⟨hj, hk, ht, hno, hnr, eo, h1, h0⟩ := hg
  obtain ⟨s1, s2, s3⟩ := hL.2.2.1.2.1 j hj
  rw [eo] at s3
  have hoo := (hL.2.1.2.1 o s3).1
  have eS : σ1.2 (sa j) = some (oSource (nI j) (oa o) (sd j).2.1 (sd j).2.2.1.1 (sd j).2.2.1.2 (sd j).2.2.2.1 (sd j).2.2.2.2.1 (sd j).2.2.2.2.2.1 (sd j).2.2.2.2.2.2) := by
    rw [s1]; unfold oS; rw [eo]
  rw [hw]
  refine rv_V.run rv_gd_Late_row [147] 400 ?_
  refine And.intro (fun c1 => ?_) (fun c1 => absurd rfl c1)
  refine Exists.intro _ (And.intro hL.1.1.1 ?_)
  refine Exists.intro _ (And.intro hL.1.1.2.1.1 ?_)
  refine Exists.intro _ (And.intro eS ?_)
  refine And.intro (Exists.intro _ hL.1.1.1) ?_
  by_cases c2 : (od o).1 = 2
  · have hoo2 : σ1.2 (oa o) = some (oOp (nI o) 2 (od o).2.1 (od o).2.2.1 (od o).2.2.2.1 (od o).2.2.2.2.1 (od o).2.2.2.2.2) := by
      rw [hoo]; unfold oO; rw [c2]
    refine ⟨_, _, _, ct_countNew_gaps (nI o) _ _ _ _ _ k t hL.1.1.1 hoo2 (hJ c2), Nat.zero_le _, Nat.zero_le _, rfl, ?_⟩
    rintro _ _ ⟨rfl, rfl⟩
    unfold rw_new at next
    rw [if_pos c2] at next
    exact next
  · refine ⟨_, _, _, ct_countNew_grid (nI o) (od o).1 (od o).2.1 (od o).2.2.1 (od o).2.2.2.1 (od o).2.2.2.2.1 (od o).2.2.2.2.2 k t c2 hL.1.1.1 hL.1.1.2.1 hL.1.2 hoo h1 h0, Nat.zero_le _, Nat.zero_le _, rfl, ?_⟩
    rintro _ _ ⟨rfl, rfl⟩
    unfold rw_new at next
    rw [if_neg c2] at next
    exact next
set_option maxRecDepth 100000 in
theorem ct_row_fullw (h : LI σ x B no oa od ns sa sd nr ra rs rd n p D R na aq b rl dr ps) {j o : Nat} (k t v : Int32) (hg : rw_go sd od ns nr j o k t) (hw : rw_why (od o) p D (nI o) k t n = 0) (hf : ¬ nI n + rw_new (od o) p D (nI o) k t n ≤ 120) :
    rv_Ct G i_Late_row 1 5 [.ref x, .int (nI j), .int k, .int t, .int v] σ (fun r σ' => r = some (.int (-3)) ∧ LI σ' x B no oa od ns sa sd nr ra rs rd n p D R na aq b rl dr ps ∧ σ.1 ≤ σ'.1 ∧ rv_only (LF x B) σ.2 σ'.2) := by
  have hg0 := hg
  obtain ⟨hj, hk, ht, hno, hnr, eo, h1, h0⟩ := hg
  refine lp_row_111 h k t v hj hk ht hno hnr eo h1 h0 (fun σ1 hL e1 o1 hJ => ?_)
  refine lp_row_147 hL k t v hg0 hw hJ ?_
  refine rv_V.run rv_gd_Late_row [] 400 ?_
  refine And.intro (fun c1 => absurd c1 hf) (fun c1 => ?_)
  exact And.intro trivial ⟨rfl, hL, by omega, LF.one o1 (fun q hq => Or.inl (by omega))⟩
set_option maxRecDepth 100000 in
/-- the row is noted and kept -/
theorem lp_row_177 {Rt : Option Value → rv_S → Prop} (h : LI σ x B no oa od ns sa sd nr ra rs rd n p D R na aq b rl dr ps) {j o : Nat} (k t v : Int32) (hg : rw_go sd od ns nr j o k t) (hw : rw_why (od o) p D (nI o) k t n = 0) (hf : nI n + rw_new (od o) p D (nI o) k t n ≤ 120)
    (next : ∀ (σ2 : rv_S) (q : Nat), (q ≤ nr ∧ (∀ i, q ≤ i → i < nr → raft (rd i) k t = true) ∧ (q = 0 ∨ raft (rd (q - 1)) k t = false)) → LI σ2 x B no oa od ns sa (va_up sd j (sd_note (sd j) t true)) (nr + 1) (rv_insf ra q σ.1) (rv_insf rs q j) (rv_insf rd q (sa j, k, t, v, true)) n p D R na aq b rl dr ps → σ.1 ≤ σ2.1 → rv_only (LF x B) σ.2 σ2.2 → ((od o).1 = 2 → σ2.2 (x + 367) = some (oJ (nI (rw_q p D (nI o) k t n)) (rw_j p D (nI o) k t (od o).2.1 n))) →
      rv_V G m_Late_row 1 5 Rt 177 [some (.ref x), some (.int (nI j)), some (.int k), some (.int t), some (.int v), some (.ref (sa j)), some (.int 0)] [] σ2 1 5) : rv_Ct G i_Late_row 1 5 [.ref x, .int (nI j), .int k, .int t, .int v] σ Rt := by
  have hg0 := hg
  obtain ⟨hj, hk, ht, hno, hnr, eo, h1, h0⟩ := hg
  refine lp_row_111 h k t v hj hk ht hno hnr eo h1 h0 (fun σ1 hL e1 o1 hJ => ?_)
  refine lp_row_147 hL k t v hg0 hw hJ ?_
  obtain ⟨s1, s2, s3⟩ := hL.2.2.1.2.1 j hj
  have hsj := hL.2.2.2.2.2.2.2.2.1.2.1 j hj
  have hxB := hL.2.2.2.2.2.2.2.1.2.1
  refine rv_V.run rv_gd_Late_row [177] 400 ?_
  refine And.intro (fun c1 => ?_) (fun c1 => absurd hf c1)
  refine And.intro (Exists.intro _ s1) ?_
  refine ⟨_, _, _, ct_noteRow (sa j) _ _ _ _ _ _ _ _ _ t true s1, Nat.zero_le _, Nat.zero_le _, rfl, ?_⟩
  rintro _ _ ⟨rfl, rfl⟩
  have hL2 := hL.src hj (sd_note (sd j) t true) s3
  refine Exists.intro _ (And.intro hL2.1.1.1 ?_)
  refine And.intro (Exists.intro _ hL2.2.2.2.1.1) ?_
  refine ⟨_, _, _, ct_rowadd (σ := (σ1.1, rv_up σ1.2 (sa j) (oS oa j (sd_note (sd j) t true)))) (src := sa j) hL2.2.2.2.1 hnr hL2.2.2.2.2.2.2.2.1.1 k t v true, Nat.le_refl _, Nat.le_refl _, rfl, ?_⟩
  rintro _ σ3 ⟨rfl, m1, ⟨q, m2, m3, m4, m5⟩, m6⟩
  have hL3 := hL2.row hj m2 m1 (u := true) m6 m5
  dsimp only at m1 m2 m3 m4 m5 m6 hL3
  rw [e1] at hL3
  refine next σ3 q ⟨m2, m3, m4⟩ hL3 (by omega) ?_ (fun z => ?_)
  · refine ((LF.one o1 (fun q hq => Or.inl (by omega))).tr (rv_only.up (Or.inr hsj))).tr (fun q hq => m6 q (fun z => hq ?_))
    unfold LF
    have := hL.2.2.2.2.2.2.2.1.2.2
    rcases z with z | z | z <;> omega
  · rw [m6 _ (by have := hL.2.2.2.2.2.2.2.1.2.2; omega), ← hJ z]
    exact rv_up_n (by omega)
set_option maxRecDepth 100000 in
theorem ct_row_grid (h : LI σ x B no oa od ns sa sd nr ra rs rd n p D R na aq b rl dr ps) {j o : Nat} (k t v : Int32) (hg : rw_go sd od ns nr j o k t) (hw : rw_why (od o) p D (nI o) k t n = 0) (hf : nI n + rw_new (od o) p D (nI o) k t n ≤ 120) (hk2 : ¬ (od o).1 = 2) (hok : gd_ok (nI o) k (od o).2.1 (od o).2.2.1 (od o).2.2.2.1 (od o).2.2.2.2.1 (od o).2.2.2.2.2 t v 8 ((rv_fdiv (t - (od o).2.1) (od o).2.2.1 + 1) * (od o).2.2.1) (n, p, D, R)) :
    rv_Ct G i_Late_row 1 5 [.ref x, .int (nI j), .int k, .int t, .int v] σ (fun r σ' => r = some (.int 1) ∧ (∃ q F, (q ≤ nr ∧ (∀ i, q ≤ i → i < nr → raft (rd i) k t = true) ∧ (q = 0 ∨ raft (rd (q - 1)) k t = false)) ∧ F = gr_run (nI o) k (od o).2.1 (od o).2.2.1 (od o).2.2.2.1 (od o).2.2.2.2.1 (od o).2.2.2.2.2 t v 8 ((rv_fdiv (t - (od o).2.1) (od o).2.2.1 + 1) * (od o).2.2.1) (n, p, D, R) ∧ LI σ' x B no oa od ns sa (va_up sd j (sd_note (sd j) t true)) (nr + 1) (rv_insf ra q σ.1) (rv_insf rs q j) (rv_insf rd q (sa j, k, t, v, true)) F.1 F.2.1 F.2.2.1 F.2.2.2 na aq b rl dr ps) ∧ σ.1 ≤ σ'.1 ∧ rv_only (LF x B) σ.2 σ'.2) := by
  have hg0 := hg
  obtain ⟨hj, hk, ht, hno, hnr, eo, h1, h0⟩ := hg
  refine lp_row_177 h k t v hg0 hw hf (fun σ2 q hq hL e2 o2 hJ => ?_)
  obtain ⟨s1, s2, s3⟩ := hL.2.2.1.2.1 j hj
  rw [va_up_self] at s1 s3
  have eo2 : (sd_note (sd j) t true).1 = o := eo
  rw [eo2] at s3
  have hoo := (hL.2.1.2.1 o s3).1
  have hox := hL.2.2.2.2.2.2.2.2.1.1 o s3
  have hxB := hL.2.2.2.2.2.2.2.1.2.1
  have eS : σ2.2 (sa j) = some (oSource (nI j) (oa o) (sd_note (sd j) t true).2.1 (sd_note (sd j) t true).2.2.1.1 (sd_note (sd j) t true).2.2.1.2 (sd_note (sd j) t true).2.2.2.1 (sd_note (sd j) t true).2.2.2.2.1 (sd_note (sd j) t true).2.2.2.2.2.1 (sd_note (sd j) t true).2.2.2.2.2.2) := by
    rw [s1]; unfold oS; rw [eo2]
  refine rv_V.run rv_gd_Late_row [] 400 ?_
  refine Exists.intro _ (And.intro eS ?_)
  refine Exists.intro _ (And.intro hoo ?_)
  refine And.intro (fun c1 => absurd c1 hk2) (fun c1 => ?_)
  refine Exists.intro _ (And.intro eS ?_)
  refine And.intro (Exists.intro _ hL.1.1.1) ?_
  refine ⟨_, _, _, ct_useInGrid (nI o) (od o).1 (od o).2.1 (od o).2.2.1 (od o).2.2.2.1 (od o).2.2.2.2.1 (od o).2.2.2.2.2 k t v (SC_hi (by omega)) hL.1.1 hL.1.2 hoo h1 h0 hok, Nat.le_refl _, Nat.le_refl _, rfl, ?_⟩
  rintro _ σ3 ⟨rfl, m1, ⟨F, m2, m3, m4⟩, m5⟩
  refine And.intro trivial ⟨rfl, ⟨q, F, hq, m2, hL.win m1 m5 m3 m4⟩, by omega, o2.tr (LF.one m5 (fun q hq => ?_))⟩
  unfold SC at hq
  unfold LF
  omega
/-- a row of GAPS -/
def rw_gp (od : Od) (p : Nat → Nat) (D : Nat → Wd) (R : Rs) (o k t v : Int32) (n c : Nat) : Nat × (Nat → Nat) × (Nat → Wd) × Rs :=
  if c = 0 then ((fo_run o k (rw_j p D o k t od.2.1 n).2.1 (rw_j p D o k t od.2.1 n).2.2.1 n p D).1.1, (fo_run o k (rw_j p D o k t od.2.1 n).2.1 (rw_j p D o k t od.2.1 n).2.2.1 n p D).1.2.1, ci_one od.2.2.2.2.1 od.2.2.2.2.2 ((fo_run o k (rw_j p D o k t od.2.1 n).2.1 (rw_j p D o k t od.2.1 n).2.2.1 n p D).1.2.2, R) (fo_run o k (rw_j p D o k t od.2.1 n).2.1 (rw_j p D o k t od.2.1 n).2.2.1 n p D).2 v)
  else ((ug_run (rw_q p D o k t n) c (rw_j p D o k t od.2.1 n) n p D R).1.1, (ug_run (rw_q p D o k t n) c (rw_j p D o k t od.2.1 n) n p D R).1.2.1, ci_one od.2.2.2.2.1 od.2.2.2.2.2 ((ug_run (rw_q p D o k t n) c (rw_j p D o k t od.2.1 n) n p D R).1.2.2, (ug_run (rw_q p D o k t n) c (rw_j p D o k t od.2.1 n) n p D R).2) (p (rw_q p D o k t n)) v)
set_option maxRecDepth 100000 in
theorem ct_row_gaps (h : LI σ x B no oa od ns sa sd nr ra rs rd n p D R na aq b rl dr ps) {j o c : Nat} (k t v : Int32) (hg : rw_go sd od ns nr j o k t) (hw : rw_why (od o) p D (nI o) k t n = 0) (hf : nI n + rw_new (od o) p D (nI o) k t n ≤ 120) (hk2 : (od o).1 = 2) (hc : (rw_j p D (nI o) k t (od o).2.1 n).1 = nI c) (hc0 : c = 0 → n < 120 ∧ rw_q p D (nI o) k t n ≤ n) (hc1 : rw_q p D (nI o) k t n + c ≤ n)
    (hWS : WS (rw_gp (od o) p D R (nI o) k t v n c).1 (rw_gp (od o) p D R (nI o) k t v n c).2.1 (rw_gp (od o) p D R (nI o) k t v n c).2.2.1) :
    rv_Ct G i_Late_row 1 5 [.ref x, .int (nI j), .int k, .int t, .int v] σ (fun r σ' => r = some (.int 1) ∧ (∃ q F, (q ≤ nr ∧ (∀ i, q ≤ i → i < nr → raft (rd i) k t = true) ∧ (q = 0 ∨ raft (rd (q - 1)) k t = false)) ∧ F = rw_gp (od o) p D R (nI o) k t v n c ∧ LI σ' x B no oa od ns sa (va_up sd j (sd_note (sd j) t true)) (nr + 1) (rv_insf ra q σ.1) (rv_insf rs q j) (rv_insf rd q (sa j, k, t, v, true)) F.1 F.2.1 F.2.2.1 F.2.2.2 na aq b rl dr ps) ∧ σ.1 ≤ σ'.1 ∧ rv_only (LF x B) σ.2 σ'.2) := by
  have hg0 := hg
  obtain ⟨hj, hk, ht, hno, hnr, eo, h1, h0⟩ := hg
  refine lp_row_177 h k t v hg0 hw hf (fun σ2 q hq hL e2 o2 hJ => ?_)
  obtain ⟨s1, s2, s3⟩ := hL.2.2.1.2.1 j hj
  rw [va_up_self] at s1 s3
  have eo2 : (sd_note (sd j) t true).1 = o := eo
  rw [eo2] at s3
  have hoo := (hL.2.1.2.1 o s3).1
  have hox := hL.2.2.2.2.2.2.2.2.1.1 o s3
  have hxB := hL.2.2.2.2.2.2.2.1.2.1
  have hj2 := hJ hk2
  have eS : σ2.2 (sa j) = some (oSource (nI j) (oa o) (sd_note (sd j) t true).2.1 (sd_note (sd j) t true).2.2.1.1 (sd_note (sd j) t true).2.2.1.2 (sd_note (sd j) t true).2.2.2.1 (sd_note (sd j) t true).2.2.2.2.1 (sd_note (sd j) t true).2.2.2.2.2.1 (sd_note (sd j) t true).2.2.2.2.2.2) := by
    rw [s1]; unfold oS; rw [eo2]
  have lf : ∀ q, SC x q → LF x B q := fun q hq => by unfold SC at hq; unfold LF; omega
  refine rv_V.run rv_gd_Late_row [] 400 ?_
  refine Exists.intro _ (And.intro eS ?_)
  refine Exists.intro _ (And.intro hoo ?_)
  refine And.intro (fun c1 => ?_) (fun c1 => absurd hk2 c1)
  refine Exists.intro _ (And.intro eS ?_)
  refine And.intro (Exists.intro _ hL.1.1.1) ?_
  by_cases hz : c = 0
  · obtain ⟨w1, w2⟩ := hc0 hz
    refine ⟨_, _, _, ct_useInGaps0 (nI o) (od o).1 (od o).2.1 (od o).2.2.1 (od o).2.2.2.1 (od o).2.2.2.2.1 (od o).2.2.2.2.2 k v (SC_hi (by omega)) (by rw [hc, hz]; rfl) w2 hL.1.1 hL.1.2 w1 hoo hj2, Nat.le_refl _, Nat.le_refl _, rfl, ?_⟩
    rintro _ σ3 ⟨rfl, m1, ⟨F, m2, m3, m4⟩, m5⟩
    subst m2
    have eg : rw_gp (od o) p D R (nI o) k t v n c = _ := if_pos hz
    refine And.intro trivial ⟨rfl, ⟨q, _, hq, rfl, ?_⟩, by omega, o2.tr (LF.one m5 lf)⟩
    rw [eg]
    exact hL.win m1 m5 m3 m4
  · refine ⟨_, _, _, ct_useInGaps1 (nI o) (od o).1 (od o).2.1 (od o).2.2.1 (od o).2.2.2.1 (od o).2.2.2.2.1 (od o).2.2.2.2.2 k v (SC_hi (by omega)) hc (Nat.pos_of_ne_zero hz) hc1 hL.1.1 hoo hj2, Nat.le_refl _, Nat.le_refl _, rfl, ?_⟩
    rintro _ σ3 ⟨rfl, m1, ⟨F, m2, m3⟩, m5⟩
    subst m2
    have eg : rw_gp (od o) p D R (nI o) k t v n c = _ := if_neg hz
    refine And.intro trivial ⟨rfl, ⟨q, _, hq, rfl, ?_⟩, by omega, o2.tr (LF.one m5 lf)⟩
    rw [eg] at hWS ⊢
    exact hL.win m1 m5 m3 hWS
end
