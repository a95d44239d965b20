/-! BOTH SIDES: the relation between the class's state and the reference's -/
def RwSim (ns nr : Nat) (rs : Nat → Nat) (rd : Nat → Rd) (s : Md) : Prop := s.nrow = nI nr ∧ nr ≤ 300 ∧ (∃ rj : Nat → Nat, (∀ i, i < nr → s.rSrc i = nI (rj i) ∧ rj i < ns) ∧ List.Perm ((List.range nr).map (fun i => (rs i, (rd i).2))) ((List.range nr).map (fun i => (rj i, s.rKey i, s.rTime i, s.rV i, s.rUsed i)))) ∧ (∀ i j, i < j → j < nr → raft (rd i) (rd j).2.1 (rd j).2.2.1 = false) ∧ ∀ i, i < nr → (0 ≤ (rd i).2.1.toInt ∧ (rd i).2.1.toInt ≤ 9) ∧ (0 ≤ (rd i).2.2.1.toInt ∧ (rd i).2.2.1.toInt ≤ 100000000)
def ASim (na : Nat) (aq : Nat → Nat → Int64) (b : Nat) (rl dr : Int32) (s : Md) : Prop := s.nas = nI na ∧ na ≤ b ∧ b ≤ 100 ∧ s.bnd = nI b ∧ s.rul = rl ∧ s.drp = dr ∧ ∀ j, j < na → ∀ k, k < 5 → aq j k = (s.aRow (5 * j + k)).toInt64
def PSim (ps : Ps) (s : Md) : Prop := s.nps = nI ps.1 ∧ ps.1 ≤ 2400 ∧ ∀ i, i < 7 * ps.1 → ps.2 i = s.pRow i
def SIM (no : Nat) (od : Nat → Od) (ns : Nat) (sd : Nat → Sd) (nr : Nat) (rs : Nat → Nat) (rd : Nat → Rd) (n : Nat) (p : Nat → Nat) (D : Nat → Wd) (R : Rs) (na : Nat) (aq : Nat → Nat → Int64) (b : Nat) (rl dr : Int32) (ps : Ps) (s : Md) : Prop :=
  ∃ ρ : Int32 → Int32, OSim no od s ∧ SSim no ns sd s ∧ (WR ρ n p D R s ∧ ∀ j, j < no → ρ (nI j) = s.oRule j) ∧ IW (8 * (nr : Int)) no od n p D ∧ RwSim ns nr rs rd s ∧ ASim na aq b rl dr s ∧ PSim ps s
theorem RwSim.of {ns nr : Nat} {rs : Nat → Nat} {rd : Nat → Rd} {s s' : Md} (h : RwSim ns nr rs rd s) (h1 : s'.nrow = s.nrow) (h2 : s'.2.2.2.1 = s.2.2.2.1) : RwSim ns nr rs rd s' := by
  obtain ⟨a1, a2, a3, a4⟩ := h
  unfold RwSim Md.rSrc Md.rKey Md.rTime Md.rV Md.rUsed
  rw [h1, h2]
  exact ⟨a1, a2, a3, a4⟩
theorem ASim.of {na b : Nat} {aq : Nat → Nat → Int64} {rl dr : Int32} {s s' : Md} (h : ASim na aq b rl dr s) (h1 : s'.nas = s.nas) (h2 : s'.bnd = s.bnd) (h3 : s'.rul = s.rul) (h4 : s'.drp = s.drp) (h5 : s'.aRow = s.aRow) : ASim na aq b rl dr s' := by
  unfold ASim
  rw [h1, h2, h3, h4, h5]
  exact h
theorem PSim.of {ps : Ps} {s s' : Md} (h : PSim ps s) (h1 : s'.nps = s.nps) (h2 : s'.pRow = s.pRow) : PSim ps s' := by
  unfold PSim
  rw [h1, h2]
  exact h
theorem st2_all {s s' : Md} (h : s'.st2 = s.st2) : (s'.nop = s.nop ∧ s'.nsr = s.nsr ∧ s'.nrow = s.nrow) ∧ (s'.nas = s.nas ∧ s'.bnd = s.bnd ∧ s'.rul = s.rul ∧ s'.drp = s.drp ∧ s'.nps = s.nps) ∧ s'.2.2.1 = s.2.2.1 ∧ s'.2.2.2.1 = s.2.2.2.1 ∧ s'.aRow = s.aRow ∧ s'.pRow = s.pRow :=
  ⟨⟨congrArg (fun q : MdT2 => q.1) h, congrArg (fun q : MdT2 => q.2.1) h, congrArg (fun q : MdT2 => q.2.2.1) h⟩, ⟨congrArg (fun q : MdT2 => q.2.2.2.1) h, congrArg (fun q : MdT2 => q.2.2.2.2.1) h, congrArg (fun q : MdT2 => q.2.2.2.2.2.1) h, congrArg (fun q : MdT2 => q.2.2.2.2.2.2.1) h, congrArg (fun q : MdT2 => q.2.2.2.2.2.2.2.1) h⟩, congrArg (fun q : MdT2 => q.2.2.2.2.2.2.2.2.1) h, congrArg (fun q : MdT2 => q.2.2.2.2.2.2.2.2.2.1) h, congrArg (fun q : MdT2 => q.2.2.2.2.2.2.2.2.2.2.1) h, congrArg (fun q : MdT2 => q.2.2.2.2.2.2.2.2.2.2.2) h⟩
/-! the class's picture, changed by its calls -/
section
variable {σ σ' : rv_S} {x B no : Nat} {oa : Nat → Nat} {od : Nat → Od} {ns : Nat} {sa : Nat → Nat} {sd : Nat → Sd} {nr : Nat} {ra rs : Nat → Nat} {rd : Nat → Rd} {n : Nat} {p : Nat → Nat} {D : Nat → Wd} {R : Rs} {na : Nat} {aq : Nat → Nat → Int64} {b : Nat} {rl dr : Int32} {ps : Ps}
theorem LI.op (h : LI σ x B no oa od ns sa sd nr ra rs rd n p D R na aq b rl dr ps) (d : Od) (e : σ'.1 = σ.1 + 1) (hx : σ'.2 x = some (oLate x (nI (no + 1)) (nI ns) R.2.2 (nI b) rl dr)) (hO : POP σ'.2 x (no + 1) (va_up oa no σ.1) (va_up od no d)) (ho : rv_only (fun q => q = x ∨ q = x + 1 ∨ q = σ.1) σ.2 σ'.2) : LI σ' x B (no + 1) (va_up oa no σ.1) (va_up od no d) ns sa sd nr ra rs rd n p D R na aq b rl dr ps := by
  obtain ⟨⟨h1, h1w⟩, h2, h3, h4, ⟨vf, a, h5⟩, h6, h7, ⟨h8, h8a, h8b⟩, ⟨f1, f2, f3⟩, h10, h11⟩ := h
  have ne : ∀ q, q ≠ x → q ≠ x + 1 → q ≠ σ.1 → σ'.2 q = σ.2 q := fun q z1 z2 z3 => ho q (by omega)
  have lo : ∀ q, q < x + 374 → q ≠ x → q ≠ x + 1 → σ'.2 q = σ.2 q := fun q z z1 z2 => ne q z1 z2 (by omega)
  refine ⟨⟨⟨hx, h1.2.1.kept (fun q z1 z2 => lo q (by omega) (by omega) (by omega)), h1.2.2.kept (lo _ (by omega) (by omega) (by omega)) (lo _ (by omega) (by omega) (by omega))⟩, h1w⟩, hO, ?_, h4.kept (lo _ (by omega) (by omega) (by omega)) (lo _ (by omega) (by omega) (by omega)) (fun j hj => ne _ (by have := f3 j hj; omega) (by have := f3 j hj; omega) (by have := h8 _ _ (h4.2.2.1 j hj).1; omega)), ⟨vf, a, (lo _ (by omega) (by omega) (by omega)).trans h5⟩, h6.kept (lo _ (by omega) (by omega) (by omega)) (lo _ (by omega) (by omega) (by omega)), h7.kept (lo _ (by omega) (by omega) (by omega)) (lo _ (by omega) (by omega) (by omega)), ⟨h8.only (by omega) ho (fun q hq => by rcases hq with z | z | z <;> omega), h8a, by omega⟩, ⟨fun j hj => ?_, f2, f3⟩, h10, h11⟩
  · obtain ⟨⟨f, hf, hfe⟩, hs, hn, hi⟩ := h3
    refine ⟨⟨f, (lo _ (by omega) (by omega) (by omega)).trans hf, hfe⟩, fun j hj => ?_, hn, hi⟩
    obtain ⟨s1, s2, s3⟩ := hs j hj
    refine ⟨?_, s2, by omega⟩
    rw [ne _ (by have := f2 j hj; omega) (by have := f2 j hj; omega) (by have := h8 _ _ s1; omega), s1]
    unfold oS
    rw [va_up_ne _ _ (show (sd j).1 ≠ no by omega)]
  · by_cases z : j = no
    · rw [z, va_up_self]; exact h8b
    · rw [va_up_ne _ _ z]; exact f1 j (by omega)
theorem LI.sr (h : LI σ x B no oa od ns sa sd nr ra rs rd n p D R na aq b rl dr ps) (d : Sd) (e : σ'.1 = σ.1 + 1) (hx : σ'.2 x = some (oLate x (nI no) (nI (ns + 1)) R.2.2 (nI b) rl dr)) (hS : PSR σ'.2 x no (ns + 1) oa (va_up sa ns σ.1) (va_up sd ns d)) (ho : rv_only (fun q => q = x ∨ q = x + 2 ∨ q = σ.1) σ.2 σ'.2) : LI σ' x B no oa od (ns + 1) (va_up sa ns σ.1) (va_up sd ns d) nr ra rs rd n p D R na aq b rl dr ps := by
  obtain ⟨⟨h1, h1w⟩, h2, h3, h4, ⟨vf, a, h5⟩, h6, h7, ⟨h8, h8a, h8b⟩, ⟨f1, f2, f3⟩, h10, h11⟩ := h
  have ne : ∀ q, q ≠ x → q ≠ x + 2 → q ≠ σ.1 → σ'.2 q = σ.2 q := fun q z1 z2 z3 => ho q (by omega)
  have lo : ∀ q, q < x + 374 → q ≠ x → q ≠ x + 2 → σ'.2 q = σ.2 q := fun q z z1 z2 => ne q z1 z2 (by omega)
  refine ⟨⟨⟨hx, h1.2.1.kept (fun q z1 z2 => lo q (by omega) (by omega) (by omega)), h1.2.2.kept (lo _ (by omega) (by omega) (by omega)) (lo _ (by omega) (by omega) (by omega))⟩, h1w⟩, h2.kept (lo _ (by omega) (by omega) (by omega)) (fun j hj => ne _ (by have := f1 j hj; omega) (by have := f1 j hj; omega) (by have := h8 _ _ (h2.2.1 j hj).1; omega)), hS, h4.kept (lo _ (by omega) (by omega) (by omega)) (lo _ (by omega) (by omega) (by omega)) (fun j hj => ne _ (by have := f3 j hj; omega) (by have := f3 j hj; omega) (by have := h8 _ _ (h4.2.2.1 j hj).1; omega)), ⟨vf, a, (lo _ (by omega) (by omega) (by omega)).trans h5⟩, h6.kept (lo _ (by omega) (by omega) (by omega)) (lo _ (by omega) (by omega) (by omega)), h7.kept (lo _ (by omega) (by omega) (by omega)) (lo _ (by omega) (by omega) (by omega)), ⟨h8.only (by omega) ho (fun q hq => by rcases hq with z | z | z <;> omega), h8a, by omega⟩, ⟨f1, fun j hj => ?_, f3⟩, fun j hj => ?_, h11⟩
  · by_cases z : j = ns
    · rw [z, va_up_self]; exact h8b
    · rw [va_up_ne _ _ z]; exact f2 j (by omega)
  · obtain ⟨r1, r2⟩ := h10 j hj
    exact ⟨by omega, by rw [va_up_ne _ _ (show rs j ≠ ns by omega)]; exact r2⟩
/-- all is taken -/
theorem LI.tk {sd' : Nat → Sd} {q : Nat → Nat → Int64} (h : LI σ x B no oa od ns sa sd nr ra rs rd n p D R na aq b rl dr ps) (e : σ'.1 = σ.1) (hS : PSR σ'.2 x no ns oa sa sd') (hA : PR σ'.2 (x + 370) (x + 371) 100 5 0 q) (ho : rv_only (fun q => q = x + 370 ∨ ∃ j, j < ns ∧ q = sa j) σ.2 σ'.2) : LI σ' x B no oa od ns sa sd' nr ra rs rd n p D R 0 q b rl dr ps := by
  have hrs : ∀ i j, i < ns → j < nr → ra j ≠ sa i := fun i j hi hj => h.rs_ne hi hj
  obtain ⟨⟨h1, h1w⟩, h2, h3, h4, ⟨vf, a, h5⟩, h6, h7, ⟨h8, h8a, h8b⟩, ⟨f1, f2, f3⟩, h10, h11⟩ := h
  have lo : ∀ q, q < x + 374 → q ≠ x + 370 → σ'.2 q = σ.2 q := fun q z z1 => ho q (fun y => by
    rcases y with y | ⟨j, j1, j2⟩
    · omega
    · have := f2 j j1; omega)
  refine ⟨⟨⟨(lo x (by omega) (by omega)).trans h1.1, h1.2.1.kept (fun q z1 z2 => lo q (by omega) (by omega)), h1.2.2.kept (lo _ (by omega) (by omega)) (lo _ (by omega) (by omega))⟩, h1w⟩, h2.kept (lo _ (by omega) (by omega)) (fun j hj => ho _ (fun y => by
    rcases y with y | ⟨i, i1, i2⟩
    · have := f1 j hj; omega
    · exact os_ne h2 h3 i1 hj i2.symm)), hS, h4.kept (lo _ (by omega) (by omega)) (lo _ (by omega) (by omega)) (fun j hj => ho _ (fun y => by
    rcases y with y | ⟨i, i1, i2⟩
    · have := f3 j hj; omega
    · exact hrs i j i1 hj i2)), ⟨vf, a, (lo _ (by omega) (by omega)).trans h5⟩, hA, h7.kept (lo _ (by omega) (by omega)) (lo _ (by omega) (by omega)), ⟨h8.only (by omega) ho (fun q hq => by
    rcases hq with z | ⟨i, i1, i2⟩
    · omega
    · rw [i2, e]; exact h8 _ _ (h3.2.1 i i1).1), h8a, by omega⟩, ⟨f1, f2, f3⟩, h10, h11⟩
/-- the bound -/
theorem LI.bd {b' : Nat} {rl' : Int32} (h : LI σ x B no oa od ns sa sd nr ra rs rd n p D R na aq b rl dr ps) (hb : b' ≤ 100) : LI (σ.1, rv_up σ.2 x (oLate x (nI no) (nI ns) R.2.2 (nI b') rl' dr)) x B no oa od ns sa sd nr ra rs rd n p D R na aq b' rl' dr ps := by
  obtain ⟨⟨h1, h1w⟩, h2, h3, h4, ⟨vf, a, h5⟩, h6, h7, ⟨h8, h8a, h8b⟩, ⟨f1, f2, f3⟩, h10, h11⟩ := h
  have ne : ∀ q, q ≠ x → rv_up σ.2 x (oLate x (nI no) (nI ns) R.2.2 (nI b') rl' dr) q = σ.2 q := fun q z => rv_up_n z
  refine ⟨⟨⟨rv_up_s, h1.2.1.kept (fun q z1 z2 => ne q (by omega)), h1.2.2.kept (ne _ (by omega)) (ne _ (by omega))⟩, h1w⟩, h2.kept (ne _ (by omega)) (fun j hj => ne _ (by have := f1 j hj; omega)), h3.kept (ne _ (by omega)) (fun j hj => ne _ (by have := f2 j hj; omega)), h4.kept (ne _ (by omega)) (ne _ (by omega)) (fun j hj => ne _ (by have := f3 j hj; omega)), ⟨vf, a, (ne _ (by omega)).trans h5⟩, h6.kept (ne _ (by omega)) (ne _ (by omega)), h7.kept (ne _ (by omega)) (ne _ (by omega)), ⟨h8.only (σ' := (σ.1, rv_up σ.2 x (oLate x (nI no) (nI ns) R.2.2 (nI b') rl' dr))) (Nat.le_refl _) (S := fun q => q = x) (rv_only.up rfl) (fun q hq => by dsimp only; omega), h8a, h8b⟩, ⟨f1, f2, f3⟩, h10, hb⟩
/-- one pass -/
theorem LI.pass1 {ps' : Ps} (h : LI σ x B no oa od ns sa sd nr ra rs rd n p D R na aq b rl dr ps) (e : σ'.1 = σ.1) (hP : POS σ'.2 (x + 372) ps') (ho : rv_only (fun q => q = x + 372 ∨ q = x + 373) σ.2 σ'.2) : LI σ' x B no oa od ns sa sd nr ra rs rd n p D R na aq b rl dr ps' := by
  obtain ⟨⟨h1, h1w⟩, h2, h3, h4, ⟨vf, a, h5⟩, h6, h7, ⟨h8, h8a, h8b⟩, ⟨f1, f2, f3⟩, h10, h11⟩ := h
  have ne : ∀ q, q ≠ x + 372 → q ≠ x + 373 → σ'.2 q = σ.2 q := fun q z1 z2 => ho q (by omega)
  refine ⟨⟨⟨(ne x (by omega) (by omega)).trans h1.1, h1.2.1.kept (fun q z1 z2 => ne q (by omega) (by omega)), h1.2.2.kept (ne _ (by omega) (by omega)) (ne _ (by omega) (by omega))⟩, h1w⟩, h2.kept (ne _ (by omega) (by omega)) (fun j hj => ne _ (by have := f1 j hj; omega) (by have := f1 j hj; omega)), h3.kept (ne _ (by omega) (by omega)) (fun j hj => ne _ (by have := f2 j hj; omega) (by have := f2 j hj; omega)), h4.kept (ne _ (by omega) (by omega)) (ne _ (by omega) (by omega)) (fun j hj => ne _ (by have := f3 j hj; omega) (by have := f3 j hj; omega)), ⟨vf, a, (ne _ (by omega) (by omega)).trans h5⟩, h6.kept (ne _ (by omega) (by omega)) (ne _ (by omega) (by omega)), hP, ⟨h8.only (by omega) ho (fun q hq => by rcases hq with z | z <;> omega), h8a, by omega⟩, ⟨f1, f2, f3⟩, h10, h11⟩
/-- the mark has moved -/
theorem LI.mk {n' : Nat} {p' : Nat → Nat} {D' : Nat → Wd} {R' : Rs} {od' : Nat → Od} {sd' : Nat → Sd} {i o : Nat} (hi : i < ns) (hoo : o < no) (h : LI σ x B no oa od ns sa sd nr ra rs rd n p D R na aq b rl dr ps) (e : σ'.1 = σ.1) (hT : PT σ'.2 x (nI no) (nI ns) (nI b) rl dr n' p' D' R') (hw : WS n' p' D') (hO : POP σ'.2 x no oa od') (hS : PSR σ'.2 x no ns oa sa sd') (ho : rv_only (fun q => SC x q ∨ q = oa o ∨ q = sa i) σ.2 σ'.2) : LI σ' x B no oa od' ns sa sd' nr ra rs rd n' p' D' R' na aq b rl dr ps := by
  have hrs : ∀ i j, i < ns → j < nr → ra j ≠ sa i := fun i j hi hj => h.rs_ne hi hj
  obtain ⟨⟨h1, h1w⟩, h2, h3, h4, ⟨vf, a, h5⟩, h6, h7, ⟨h8, h8a, h8b⟩, ⟨f1, f2, f3⟩, h10, h11⟩ := h
  have b1 := f1 o hoo
  have b2 := f2 i hi
  have far : ∀ q, x + 369 < q → q ≠ oa o → q ≠ sa i → σ'.2 q = σ.2 q := fun q z z1 z2 => ho q (fun y => y.elim (SC_hi z) (fun y => by omega))
  have low : ∀ q, x < q → q < x + 5 → σ'.2 q = σ.2 q := fun q z1 z2 => ho q (by unfold SC; omega)
  have hro : ∀ j, j < nr → ra j ≠ oa o := fun j hj z => by
    have z1 := (h2.2.1 o hoo).1
    have z2 := (h4.2.2.1 j hj).1
    rw [z, z1] at z2
    have h3 := congrArg Prod.fst (Sum.inl.inj (Option.some.inj z2))
    exact absurd (show k_Operator = k_Row from h3) (by decide)
  refine ⟨⟨hT, hw⟩, hO, hS, h4.kept (low _ (by omega) (by omega)) (low _ (by omega) (by omega)) (fun j hj => far _ (by have := f3 j hj; omega) (hro j hj) (hrs i j hi hj)), ⟨vf, a, (ho _ (fun y => y.elim (SC_n367 x) (fun y => by omega))).trans h5⟩, h6.kept (far _ (by omega) (by omega) (by omega)) (far _ (by omega) (by omega) (by omega)), h7.kept (far _ (by omega) (by omega) (by omega)) (far _ (by omega) (by omega) (by omega)), ⟨h8.only (by omega) ho (fun q hq => by
    rcases hq with z | z | z
    · unfold SC at z; omega
    · rw [z, e]; exact h8 _ _ (h2.2.1 o hoo).1
    · rw [z, e]; exact h8 _ _ (h3.2.1 i hi).1), h8a, by omega⟩, ⟨f1, f2, f3⟩, h10, h11⟩
end
/-! the invariant of the law's loop, and a step of both sides -/
def INV (x : Nat) (σ : rv_S) : Prop := ∃ (no : Nat) (oa : Nat → Nat) (od : Nat → Od) (ns : Nat) (sa : Nat → Nat) (sd : Nat → Sd) (nr : Nat) (ra rs : Nat → Nat) (rd : Nat → Rd) (n : Nat) (p : Nat → Nat) (D : Nat → Wd) (R : Rs) (na : Nat) (aq : Nat → Nat → Int64) (b : Nat) (rl dr : Int32) (ps : Ps) (s : Md), LI σ x (x + 411) no oa od ns sa sd nr ra rs rd n p D R na aq b rl dr ps ∧ MI σ σ (x + 374) (md (x + 374) s) ∧ SIM no od ns sd nr rs rd n p D R na aq b rl dr ps s
/-- cells of both sides -/
def LB (x q : Nat) : Prop := x ≤ q
/-- after the class's call the reference's gives the same answer, and the invariant holds again -/
def STEP {ν : Type} (G : rv_G) (mk : ν → Value) (ic ir mc ms : Nat) (x : Nat) (av : List Value) (σ : rv_S) : Prop :=
  rv_Ct G ic mc ms (.ref x :: av) σ (fun r σ1 => (rv_only (LB x) σ.2 σ1.2 ∧ ∃ fs, σ1.2 (x + 374) = some (.inl (k_Model, fs))) ∧ ∃ a : ν, r = some (mk a) ∧ rv_Ct G ir 0 0 (.ref (x + 374) :: av) σ1 (fun r' σ2 => r' = some (mk a) ∧ INV x σ2 ∧ rv_only (LB x) σ1.2 σ2.2))
/-- the reference's picture, beside the class's changes -/
theorem MI.cls {σ σ' : rv_S} {x : Nat} {s : Md} (h : MI σ σ (x + 374) (md (x + 374) s)) (hk : rv_only (LF x (x + 411)) σ.2 σ'.2) : MI σ' σ' (x + 374) (md (x + 374) s) := by
  refine ⟨rfl, fun i c hc => ?_, rv_only.rf⟩
  have hi : i < 37 := by
    rcases Nat.lt_or_ge i 37 with z | z
    · exact z
    · exfalso
      have : rv_nth (md (x + 374) s) i = none := by
        rw [rv_nth_eq]
        exact List.getElem?_eq_none (by show 37 ≤ i; exact z)
      rw [this] at hc
      cases hc
  rw [hk _ (fun z => by unfold LF at z; omega)]
  exact h.2.1 i c hc
theorem MI.self {σ0 σ : rv_S} {y : Nat} {L : List rv_E} (h : MI σ0 σ y L) : MI σ σ y L := ⟨rfl, h.2.1, rv_only.rf⟩
theorem LF.lb {x : Nat} {g g' : Nat → Option rv_E} (h : rv_only (LF x (x + 411)) g g') : rv_only (LB x) g g' := fun q hq => h q (fun z => hq (by unfold LF at z; unfold LB; omega))
theorem mdS.lb {x : Nat} {g g' : Nat → Option rv_E} (h : rv_only (mdS (x + 374)) g g') : rv_only (LB x) g g' := fun q hq => h q (fun z => hq (by unfold mdS at z; unfold LB; omega))
/-- the class's picture, beside the reference's changes -/
theorem LI.ref {σ0 σ : rv_S} {x : Nat} {s : Md} {no : Nat} {oa : Nat → Nat} {od : Nat → Od} {ns : Nat} {sa : Nat → Nat} {sd : Nat → Sd} {nr : Nat} {ra rs : Nat → Nat} {rd : Nat → Rd} {n : Nat} {p : Nat → Nat} {D : Nat → Wd} {R : Rs} {na : Nat} {aq : Nat → Nat → Int64} {b : Nat} {rl dr : Int32} {ps : Ps} (h : LI σ0 x (x + 411) no oa od ns sa sd nr ra rs rd n p D R na aq b rl dr ps) (hm : MI σ0 σ (x + 374) (md (x + 374) s)) : LI σ x (x + 411) no oa od ns sa sd nr ra rs rd n p D R na aq b rl dr ps := by
  have hb := h.2.2.2.2.2.2.2.1
  exact h.kept hm.1 (fun q hq => hm.2.2 q (fun z => by unfold LF at hq; unfold mdS at z; omega)) (hb.1.only (Nat.le_of_eq hm.1.symm) hm.2.2 (fun q hq => by unfold mdS at hq; rw [hm.1]; omega))
