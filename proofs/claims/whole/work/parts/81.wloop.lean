/-! THE COMPARISON: a row of the grid is judged, its windows counted, and used -/
theorem IW.mono {N M : Int} {no n : Nat} {od : Nat → Od} {p : Nat → Nat} {D : Nat → Wd} (h : IW N no od n p D) (hNM : N ≤ M) : IW M no od n p D := ⟨h.1, h.2.1, h.2.2.1, Int.le_trans h.2.2.2 hNM⟩
def fndw (n : Nat) (p : Nat → Nat) (D : Nat → Wd) (o k b : Int32) : Prop := rv_plc p D o k b n < n ∧ weq (D (p (rv_plc p D o k b n))) o k b = true
theorem fndw_iff {n : Nat} {p : Nat → Nat} {D : Nat → Wd} {o k b : Int32} (hs : WS n p D) : fndw n p D o k b ↔ ∃ j, j < n ∧ kw (D (p j)) = (o, k, b) := by
  obtain ⟨q, hq⟩ := rv_pl_ex hs o k b
  unfold fndw
  rw [rv_plc_eq hq]
  exact fnd_iff hs hq
theorem fndw_sim {ρ : Int32 → Int32} {n : Nat} {p : Nat → Nat} {D : Nat → Wd} {R : Rs} {s : Md} (h : WR ρ n p D R s) (o k b : Int32) : fndw n p D o k b ↔ ¬ fd_run s o k b n 0 = none := by
  obtain ⟨q, hq⟩ := rv_pl_ex h.2.1 o k b
  unfold fndw
  rw [rv_plc_eq hq]
  rcases fnd_sim h o k b hq with ⟨h1, w, h2, -⟩ | ⟨h1, h2, -⟩
  · rw [h2]; exact ⟨fun _ z => (by cases z), fun _ => h1⟩
  · exact ⟨fun z => absurd z h1, fun z => absurd h2 z⟩
/-- how many windows are to be made -/
def ms_run (n : Nat) (p : Nat → Nat) (D : Nat → Wd) (o k sz l m : Int32) (B : Nat → Int32) : Nat → Nat → Nat
  | 0, _ => 0
  | f + 1, i => (if B i + sz + l ≤ m ∨ (rv_plc p D o k (B i) n < n ∧ weq (D (p (rv_plc p D o k (B i) n))) o k (B i) = true) then 0 else 1) + ms_run n p D o k sz l m B f (i + 1)
theorem ms_same {n n' : Nat} {p p' : Nat → Nat} {D D' : Nat → Wd} {o k sz l m : Int32} {B : Nat → Int32} : ∀ (f i : Nat), (∀ i', i ≤ i' → i' < i + f → (fndw n' p' D' o k (B i') ↔ fndw n p D o k (B i'))) → ms_run n' p' D' o k sz l m B f i = ms_run n p D o k sz l m B f i
  | 0, _, _ => rfl
  | f + 1, i, h => by
    unfold ms_run
    rw [ms_same f (i + 1) (fun i' h1 h2 => h i' (by omega) (by omega))]
    congr 1
    have hi := h i (Nat.le_refl _) (by omega)
    unfold fndw at hi
    by_cases hc : B i + sz + l ≤ m ∨ (rv_plc p D o k (B i) n < n ∧ weq (D (p (rv_plc p D o k (B i) n))) o k (B i) = true)
    · rw [if_pos hc, if_pos (hc.imp id hi.mpr)]
    · rw [if_neg hc, if_neg (fun z => hc (z.imp id hi.mp))]
theorem ms_le {n : Nat} {p : Nat → Nat} {D : Nat → Wd} {o k sz l m : Int32} {B : Nat → Int32} : ∀ (f i : Nat), ms_run n p D o k sz l m B f i ≤ f
  | 0, _ => Nat.le_refl _
  | f + 1, i => by
    unfold ms_run
    have := ms_le (n := n) (p := p) (D := D) (o := o) (k := k) (sz := sz) (l := l) (m := m) (B := B) f (i + 1)
    split <;> omega
theorem gcount {ρ : Int32 → Int32} {n o K : Nat} {p : Nat → Nat} {D : Nat → Wd} {R : Rs} {s : Md} {sz st l m time fb vo k : Int32} {B : Nat → Int32} (hW : WR ρ n p D R s) (e1 : s.oSize o = sz) (e2 : s.oLt o = l) (e3 : s.oMark o = m) (hB : ∀ i, i < K → B i = cb st i fb ∧ cb st i fb ≤ time) (hK : ¬ cb st K fb ≤ time) (hK8 : K ≤ 8) :
    ∀ (f i : Nat) (a : Bool × Bool) (c : Int32), i + f = K → jg_run sz st l m time (8 - i) (cb st i fb) a = ((gc_run s o n vo k B f i (a.1, a.2, c)).1, (gc_run s o n vo k B f i (a.1, a.2, c)).2.1) ∧ cn_run vo k sz st l m time n p D (8 - i) (cb st i fb) c = (gc_run s o n vo k B f i (a.1, a.2, c)).2.2 ∧ (gc_run s o n vo k B f i (a.1, a.2, c)).2.2 = c + nI (ms_run n p D vo k sz l m B f i)
  | 0, i, a, c, e => by
    have ei : i = K := by omega
    subst ei
    have z1 : jg_run sz st l m time (8 - i) (cb st i fb) a = a := by
      cases h8 : 8 - i with
      | zero => rfl
      | succ t => exact if_neg hK
    have z2 : cn_run vo k sz st l m time n p D (8 - i) (cb st i fb) c = c := by
      cases h8 : 8 - i with
      | zero => rfl
      | succ t => exact if_neg hK
    rw [z1, z2]
    refine ⟨rfl, rfl, ?_⟩
    show c = c + nI 0
    rw [nI_0, Int32.add_zero]
  | f + 1, i, a, c, e => by
    obtain ⟨b1, b2⟩ := hB i (by omega)
    have e8 : 8 - i = (8 - (i + 1)) + 1 := by omega
    have hf := fndw_sim hW vo k (B i)
    unfold fndw at hf
    rw [e8]
    unfold jg_run cn_run gc_run ms_run
    rw [if_pos b2, if_pos b2, ← b1]
    unfold gc_st
    rw [e1, e2, e3]
    (try dsimp only)
    have ecb : B i + st = cb st (i + 1) fb := by rw [b1]; rfl
    rw [ecb]
    by_cases hc : B i + sz + l ≤ m
    · rw [if_pos hc, if_pos hc, if_pos (Or.inl hc), if_pos (Or.inl hc), Nat.zero_add]
      exact gcount hW e1 e2 e3 hB hK hK8 f (i + 1) a c (by omega)
    · rw [if_neg hc, if_neg hc]
      by_cases hfd : fd_run s vo k (B i) n 0 = none
      · have hno : ¬ (B i + sz + l ≤ m ∨ (rv_plc p D vo k (B i) n < n ∧ weq (D (p (rv_plc p D vo k (B i) n))) vo k (B i) = true)) := fun z => z.elim hc (fun z => (hf.mp z) hfd)
        rw [if_pos hfd, if_neg hno, if_neg hno]
        obtain ⟨r1, r2, r3⟩ := gcount hW e1 e2 e3 hB hK hK8 f (i + 1) (false, a.2 || decide (B i + sz ≤ m)) (c + 1) (by omega)
        refine ⟨r1, r2, ?_⟩
        rw [r3, Int32.add_assoc]
        congr 1
        rw [← nI_add 1]
        rfl
      · have hyes := hf.mpr hfd
        rw [if_neg hfd, if_pos (Or.inr hyes), if_pos (Or.inr hyes), Nat.zero_add, Int32.add_zero]
        exact gcount hW e1 e2 e3 hB hK hK8 f (i + 1) (false, a.2 || decide (B i + sz ≤ m)) c (by omega)
theorem gr_sim {ρ : Int32 → Int32} {no o K : Nat} {od : Nat → Od} {s0 : Md} {time fb k v : Int32} {B : Nat → Int32} (hno : no ≤ 5) (ho : o < no) (hρ : ρ (nI o) = (od o).2.2.2.2.1) (e1 : s0.oSize o = (od o).2.1) (e2 : s0.oRule o = (od o).2.2.2.2.1) (e3 : s0.oMark o = (od o).2.2.2.2.2) (e4 : s0.oLt o = (od o).2.2.2.1) (hk2 : ¬ (od o).1 = 2) (hsz : 1 ≤ (od o).2.1.toInt ∧ (od o).2.1.toInt ≤ 1000000)
    (hB : ∀ i, i < K → B i = cb (od o).2.2.1 i fb ∧ cb (od o).2.2.1 i fb ≤ time) (hBb : ∀ i, i < K → -1000000 ≤ (B i).toInt ∧ (B i).toInt ≤ 100000000) (hBi : ∀ i j, i < j → j < K → B j ≠ B i) (hK : ¬ cb (od o).2.2.1 K fb ≤ time) (hK8 : K ≤ 8) :
    ∀ (f i n : Nat) (p : Nat → Nat) (D : Nat → Wd) (R : Rs) (s : Md) (N : Int), i + f = K → WR ρ n p D R s → IW N no od n p D → s.2.1 = s0.2.1 → N + f < 1000000 → n + ms_run n p D (nI o) k (od o).2.1 (od o).2.2.2.1 (od o).2.2.2.2.2 B f i ≤ 120 →
    gd_ok (nI o) k (od o).2.1 (od o).2.2.1 (od o).2.2.2.1 (od o).2.2.2.2.1 (od o).2.2.2.2.2 time v (8 - i) (cb (od o).2.2.1 i fb) (n, p, D, R) ∧ gu_ok o (nI o) k v B f i (s, R.1, n) ∧ ∃ F T, F = gr_run (nI o) k (od o).2.1 (od o).2.2.1 (od o).2.2.2.1 (od o).2.2.2.2.1 (od o).2.2.2.2.2 time v (8 - i) (cb (od o).2.2.1 i fb) (n, p, D, R) ∧ T = gu_run o (nI o) k v B f i (s, R.1, n) ∧ WR ρ F.1 F.2.1 F.2.2.1 F.2.2.2 T.1 ∧ IW (N + f) no od F.1 F.2.1 F.2.2.1 ∧ T.1.st = s.st := by
  intro f
  induction f with
  | zero =>
    intro i n p D R s N e hW hI hO hN hroom
    have ei : i = K := by omega
    subst ei
    have z1 : gr_run (nI o) k (od o).2.1 (od o).2.2.1 (od o).2.2.2.1 (od o).2.2.2.2.1 (od o).2.2.2.2.2 time v (8 - i) (cb (od o).2.2.1 i fb) (n, p, D, R) = (n, p, D, R) := by
      cases h8 : 8 - i with
      | zero => rfl
      | succ t => exact if_neg hK
    have z2 : gd_ok (nI o) k (od o).2.1 (od o).2.2.1 (od o).2.2.2.1 (od o).2.2.2.2.1 (od o).2.2.2.2.2 time v (8 - i) (cb (od o).2.2.1 i fb) (n, p, D, R) := by
      cases h8 : 8 - i with
      | zero => exact trivial
      | succ t => exact fun z => absurd z hK
    refine ⟨z2, trivial, _, _, rfl, rfl, ?_, ?_, rfl⟩
    · rw [z1]; exact hW
    · rw [z1]; exact hI.mono (by omega)
  | succ f ih =>
    intro i n p D R s N e hW hI hO hN hroom
    obtain ⟨b1, b2⟩ := hB i (by omega)
    have e8 : 8 - i = (8 - (i + 1)) + 1 := by omega
    have ecb : B i + (od o).2.2.1 = cb (od o).2.2.1 (i + 1) fb := by rw [b1]; rfl
    obtain ⟨q1, q2, q3, q4⟩ := st_O1 hO
    rw [e8]
    unfold gd_ok gr_run gu_ok gu_run
    unfold ms_run at hroom
    rw [if_pos b2, ← b1, ecb]
    unfold gu_st
    (try dsimp only)
    rw [q1, q2, q3, e1, e4, e3]
    by_cases hc : B i + (od o).2.1 + (od o).2.2.2.1 ≤ (od o).2.2.2.2.2
    · rw [if_pos hc, if_pos hc]
      rw [if_pos (Or.inl hc), Nat.zero_add] at hroom
      obtain ⟨a1, a2, F, T, a3, a4, a5, a6, a7⟩ := ih (i + 1) n p D R s N (by omega) hW hI hO (by omega) hroom
      exact ⟨fun _ => ⟨fun z => absurd hc z, a1⟩, ⟨fun z => absurd hc z, a2⟩, F, T, a3, a4, a5, a6.mono (by omega), a7⟩
    · rw [if_neg hc, if_neg hc]
      have hr1 : ¬ (rv_plc p D (nI o) k (B i) n < n ∧ weq (D (p (rv_plc p D (nI o) k (B i) n))) (nI o) k (B i) = true) → n < 120 := fun z => by
        rw [if_neg (fun y => y.elim hc z)] at hroom
        omega
      generalize hF : fo_run (nI o) k (B i) (B i + (od o).2.1) n p D = F
      generalize hT : gu_fo s o n (nI o) k (B i) = T
      generalize hci : ci_one (od o).2.2.2.2.1 (od o).2.2.2.2.2 (F.1.2.2, R) F.2 v = c
      obtain ⟨g1, g2, g3, g4, g5, g6⟩ := gstep (k := k) (v := v) (b := B i) hW hI hno ho hρ (by rw [q1]; exact e1) (by rw [q4]; exact e2) (by rw [q3]; exact e3) hk2 hsz (hBb i (by omega)) (by omega) hr1 hF.symm hT.symm hci.symm
      have hfn : F.1.1 + ms_run F.1.1 F.1.2.1 c.1 (nI o) k (od o).2.1 (od o).2.2.2.1 (od o).2.2.2.2.2 B f (i + 1) ≤ 120 := by
        have em := ms_same (n := n) (p := p) (D := D) (n' := F.1.1) (p' := F.1.2.1) (D' := c.1) (o := nI o) (k := k) (sz := (od o).2.1) (l := (od o).2.2.2.1) (m := (od o).2.2.2.2.2) (B := B) f (i + 1) (fun i' h1 h2 => by
          rw [fndw_iff g1.2.1, fndw_iff hW.2.1]
          exact g6 (B i') (hBi i i' (by omega) (by omega)))
        rw [em]
        by_cases hfd : rv_plc p D (nI o) k (B i) n < n ∧ weq (D (p (rv_plc p D (nI o) k (B i) n))) (nI o) k (B i) = true
        · rw [if_pos (Or.inr hfd)] at hroom
          unfold fo_run at hF
          rw [if_pos hfd] at hF
          rw [← hF]
          (try dsimp only)
          omega
        · rw [if_neg (fun y => y.elim hc hfd)] at hroom
          unfold fo_run at hF
          rw [if_neg hfd] at hF
          rw [← hF]
          (try dsimp only)
          omega
      obtain ⟨a1, a2, F', T', a3, a4, a5, a6, a7⟩ := ih (i + 1) F.1.1 F.1.2.1 c.1 c.2 _ (N + 1) (by omega) g1 g4 ((st_O g5).trans hO) (by omega) hfn
      rw [g2, ← g3] at a2 a4
      have ec : (F.1.1, F.1.2.1, c.1, c.2) = (F.1.1, F.1.2.1, c) := rfl
      rw [ec] at a1 a3
      refine ⟨fun _ => ⟨fun _ => hr1, a1⟩, ⟨fun _ z => ?_, a2⟩, F', T', a3, a4, a5, a6.mono (by omega), a7.trans g5⟩
      refine hr1 (fun y => ?_)
      exact (fndw_sim hW (nI o) k (B i)).mp y z
