theorem tA {a b : Int32} (h1 : -2147483648 ≤ a.toInt + b.toInt) (h2 : a.toInt + b.toInt < 2147483648) : (a + b).toInt = a.toInt + b.toInt := by
  rw [Int32.toInt_add]
  exact Int.bmod_eq_of_le (by omega) (by omega)
theorem tS {a b : Int32} (h1 : -2147483648 ≤ a.toInt - b.toInt) (h2 : a.toInt - b.toInt < 2147483648) : (a - b).toInt = a.toInt - b.toInt := by
  rw [Int32.toInt_sub]
  exact Int.bmod_eq_of_le (by omega) (by omega)
theorem tM {a b : Int32} (h1 : -2147483648 ≤ a.toInt * b.toInt) (h2 : a.toInt * b.toInt < 2147483648) : (a * b).toInt = a.toInt * b.toInt := by
  rw [Int32.toInt_mul]
  exact Int.bmod_eq_of_le (by omega) (by omega)
theorem tD {a b : Int32} (h1 : -2147483648 ≤ a.toInt.tdiv b.toInt) (h2 : a.toInt.tdiv b.toInt < 2147483648) : (a / b).toInt = a.toInt.tdiv b.toInt := by
  rw [Int32.toInt_div]
  exact Int.bmod_eq_of_le (by omega) (by omega)
theorem tX {x y : Int32} : 0 ≤ x ^^^ y ↔ (0 ≤ x.toInt ↔ 0 ≤ y.toInt) := by
  rw [Int32.le_iff_toInt_le, show (0 : Int32).toInt = 0 from rfl]
  have h1 : (x ^^^ y).toInt = (x.toBitVec ^^^ y.toBitVec).toInt := rfl
  have h2 : ∀ z : BitVec 32, (0 ≤ z.toInt) ↔ z.msb = false := fun z => by
    rw [BitVec.msb_eq_toInt]
    rw [decide_eq_false_iff_not]
    omega
  rw [h1, h2, BitVec.msb_xor, show x.toInt = x.toBitVec.toInt from rfl, show y.toInt = y.toBitVec.toInt from rfl, h2, h2]
  cases x.toBitVec.msb <;> cases y.toBitVec.msb <;> simp
/-! THE COMPARISON: operators, sources; promise and end -/
def MdT2 : Type := Int32 × Int32 × Int32 × Int32 × Int32 × Int32 × Int32 × Int32 × MdS × MdR × (Nat → Int32) × (Nat → Int64)
def Md.st2 (s : Md) : MdT2 := (s.nop, s.nsr, s.nrow, s.nas, s.bnd, s.rul, s.drp, s.nps, s.2.2.1, s.2.2.2.1, s.aRow, s.pRow)
theorem st_st2 {s s' : Md} (h : s'.st = s.st) : s'.st2 = s.st2 := congrArg (fun q : MdT => ((q.1, q.2.1, q.2.2.1, q.2.2.2.1, q.2.2.2.2.1, q.2.2.2.2.2.1, q.2.2.2.2.2.2.1, q.2.2.2.2.2.2.2.1, q.2.2.2.2.2.2.2.2.2.1, q.2.2.2.2.2.2.2.2.2.2.1, q.2.2.2.2.2.2.2.2.2.2.2.1, q.2.2.2.2.2.2.2.2.2.2.2.2) : MdT2)) h
theorem st_O {s s' : Md} (h : s'.st = s.st) : s'.2.1 = s.2.1 := congrArg (fun q : MdT => q.2.2.2.2.2.2.2.2.1) h
theorem st2_nop {s s' : Md} (h : s'.st2 = s.st2) : s'.nop = s.nop := congrArg (fun q : MdT2 => q.1) h
theorem st2_nsr {s s' : Md} (h : s'.st2 = s.st2) : s'.nsr = s.nsr := congrArg (fun q : MdT2 => q.2.1) h
theorem st2_S {s s' : Md} (h : s'.st2 = s.st2) : s'.2.2.1 = s.2.2.1 := congrArg (fun q : MdT2 => q.2.2.2.2.2.2.2.2.1) h
/-- an operator as it may be -/
def odok (d : Od) : Prop := (d.1 = 0 ∨ d.1 = 1 ∨ d.1 = 2) ∧ (1 ≤ d.2.1.toInt ∧ d.2.1.toInt ≤ 1000000) ∧ (1 ≤ d.2.2.1.toInt ∧ d.2.2.1.toInt ≤ d.2.1.toInt ∧ d.2.1.toInt ≤ 8 * d.2.2.1.toInt) ∧ (¬ d.1 = 1 → d.2.2.1 = d.2.1) ∧ (0 ≤ d.2.2.2.1.toInt ∧ d.2.2.2.1.toInt ≤ 1000000)
def OSim (no : Nat) (od : Nat → Od) (s : Md) : Prop := s.nop = nI no ∧ no ≤ 5 ∧ (∀ j, j < no → odok (od j) ∧ s.oKind j = (od j).1 ∧ s.oSize j = (od j).2.1 ∧ ((od j).1 = 1 → s.oStep j = (od j).2.2.1) ∧ s.oLt j = (od j).2.2.2.1 ∧ s.oRule j = (od j).2.2.2.2.1 ∧ s.oMark j = (od j).2.2.2.2.2) ∧ ∀ j, no ≤ j → j < 5 → s.oMark j = 0
def SSim (no ns : Nat) (sd : Nat → Sd) (s : Md) : Prop := s.nsr = nI ns ∧ ns ≤ 10 ∧ (∀ j, j < ns → (sd j).1 < no ∧ s.sOp j = nI (sd j).1 ∧ ms s (sd j).1 j = sd j) ∧ ∀ j, ns ≤ j → j < 10 → ms s 0 j = sd_new 0
theorem OSim.of {no : Nat} {od : Nat → Od} {s s' : Md} (h : OSim no od s) (h1 : s'.nop = s.nop) (h2 : s'.2.1 = s.2.1) : OSim no od s' := by
  obtain ⟨a1, a2, a3, a4⟩ := h
  unfold OSim Md.oKind Md.oSize Md.oStep Md.oLt Md.oRule Md.oMark
  rw [h1, h2]
  exact ⟨a1, a2, a3, a4⟩
theorem SSim.of {no ns : Nat} {sd : Nat → Sd} {s s' : Md} (h : SSim no ns sd s) (h1 : s'.nsr = s.nsr) (h2 : s'.2.2.1 = s.2.2.1) : SSim no ns sd s' := by
  obtain ⟨a1, a2, a3, a4⟩ := h
  unfold SSim ms Md.sOp Md.sProm Md.sEnd Md.sStop Md.sUsed Md.sAside Md.sBrok Md.sFirst
  rw [h1, h2]
  exact ⟨a1, a2, a3, a4⟩
/-- a window as it may be -/
def IWin (no : Nat) (od : Nat → Od) (d : Wd) : Prop := ∃ o, o < no ∧ d.1.1 = nI o ∧ (-1000000 ≤ d.1.2.2.1.toInt ∧ d.1.2.2.1.toInt ≤ 100000000 ∧ d.1.2.2.1.toInt < d.1.2.2.2.toInt ∧ d.1.2.2.2.toInt ≤ 101000000) ∧ (d.2.1.1 = true → d.1.2.2.2 ≤ (od o).2.2.2.2.2)
/-- windows of GAPS of one key have no time in common -/
def IGap (od : Nat → Od) (no : Nat) (c d : Wd) : Prop := c.1.1 = d.1.1 → c.1.2.1 = d.1.2.1 → ∀ o, o < no → c.1.1 = nI o → (od o).1 = 2 → c.1.2.2.2 ≤ d.1.2.2.1
def IW (N : Int) (no : Nat) (od : Nat → Od) (n : Nat) (p : Nat → Nat) (D : Nat → Wd) : Prop := (∀ j, j < n → IWin no od (D (p j))) ∧ (∀ i j, i < j → j < n → IGap od no (D (p i)) (D (p j))) ∧ CB N n p D
theorem nI_inj {a b : Nat} (ha : a < 2 ^ 31) (hb : b < 2 ^ 31) (h : nI a = nI b) : a = b := by
  have := congrArg Int32.toNatClampNeg h
  rw [nI_clamp ha, nI_clamp hb] at this
  exact this
theorem lp_ml {no ns o : Nat} {sd : Nat → Sd} {s : Md} (h : SSim no ns sd s) (hno : no ≤ 5) (ho : o < no) : ∀ (t i : Nat) (a : Int32), i + t = ns → lp_run sd o t i a = ml_run s o t i a
  | 0, _, _, _ => rfl
  | t + 1, i, a, e => by
    unfold lp_run ml_run
    rw [lp_ml h hno ho t (i + 1) _ (by omega)]
    congr 1
    obtain ⟨h1, h2, h3⟩ := h.2.2.1 i (by omega)
    have e1 : s.sProm i = (sd i).2.1 := congrArg (fun q : Sd => q.2.1) h3
    have e2 : s.sEnd i = (sd i).2.2.1.1 := congrArg (fun q : Sd => q.2.2.1.1) h3
    have e3 : s.sOp i = nI o ↔ (sd i).1 = o := by
      rw [h2]
      exact ⟨fun z => nI_inj (by omega) (by omega) z, fun z => by rw [z]⟩
    unfold rv_min
    rw [e1, e2]
    by_cases c1 : (sd i).1 = o ∧ (sd i).2.2.1.1 = false
    · rw [if_pos c1]
      by_cases c2 : (sd i).2.1 < a
      · rw [if_pos c2, if_pos ⟨e3.mpr c1.1, c1.2, c2⟩]
      · rw [if_neg c2, if_neg (fun z => c2 z.2.2)]
    · rw [if_neg c1, if_neg (fun z => c1 ⟨e3.mp z.1, z.2.1⟩)]
theorem WR.of {ρ : Int32 → Int32} {n : Nat} {p : Nat → Nat} {D : Nat → Wd} {R : Rs} {s s' : Md} (h : WR ρ n p D R s) (h1 : mw s' = mw s) (h2 : s'.nwin = s.nwin) (h3 : s'.nres = s.nres) (h4 : s'.ever = s.ever) (h5 : s'.eRow = s.eRow) : WR ρ n p D R s' := by
  obtain ⟨a1, a2, a3, a4, a5⟩ := h
  exact ⟨by rw [h1]; exact a1, a2, a3.same h3 h4 h5, h2.trans a4, a5⟩
theorem IWin.tell {no : Nat} {od : Nat → Od} {d : Wd} {o : Nat} {m : Int32} (hno : no ≤ 5) (ho : o < no) (h : IWin no od d) (hm : (od o).2.2.2.2.2 ≤ m) (hd : d.1.1 = nI o) (he : d.1.2.2.2 ≤ m) : IWin no (va_up od o (om (od o) m)) (wtold d) := by
  obtain ⟨o', a1, a2, a3, a4⟩ := h
  have : o' = o := nI_inj (by omega) (by omega) (a2.symm.trans hd)
  subst this
  exact ⟨o', a1, a2, a3, fun _ => by rw [va_up_self]; exact he⟩
theorem IWin.mark {no : Nat} {od : Nat → Od} {d : Wd} {o : Nat} {m : Int32} (h : IWin no od d) (hm : (od o).2.2.2.2.2 ≤ m) : IWin no (va_up od o (om (od o) m)) d := by
  obtain ⟨o', a1, a2, a3, a4⟩ := h
  refine ⟨o', a1, a2, a3, fun ht => ?_⟩
  by_cases z : o' = o
  · subst z; rw [va_up_self]; exact Int32.le_trans (a4 ht) hm
  · rw [va_up_ne _ _ z]; exact a4 ht
theorem IGap.mark {no : Nat} {od : Nat → Od} {c d : Wd} {o : Nat} {m : Int32} (h : IGap od no c d) : IGap (va_up od o (om (od o) m)) no c d := by
  intro h1 h2 o' h3 h4 h5
  refine h h1 h2 o' h3 h4 ?_
  by_cases z : o' = o
  · subst z; rw [va_up_self] at h5; exact h5
  · rw [va_up_ne _ _ z] at h5; exact h5
theorem mm_sim {ρ : Int32 → Int32} {no ns n o : Nat} {p : Nat → Nat} {od : Nat → Od} {sd : Nat → Sd} {D : Nat → Wd} {R : Rs} {s : Md} {N : Int} (hO : OSim no od s) (hS : SSim no ns sd s) (hW : WR ρ n p D R s) (hρ : ∀ j, j < no → ρ (nI j) = s.oRule j) (hI : IW N no od n p D) (ho : o < no) :
    td_ok o n 120 (s.u_oMark (upd s.oMark o (ml_run s o ns 0 1000000000)), R.1) ∧ ∃ m, m = mm_run od sd o ns n p D R ∧ m.1 = pm_ans s o n ns R.1 ∧ WR ρ m.2.2.1 m.2.2.2.1 m.2.2.2.2.1 m.2.2.2.2.2 (pm_st s o n ns R.1) ∧ OSim no m.2.1 (pm_st s o n ns R.1) ∧ (pm_st s o n ns R.1).st2 = s.st2 ∧ IW N no m.2.1 m.2.2.1 m.2.2.2.1 m.2.2.2.2.1 ∧ (∀ j, j < no → ρ (nI j) = (pm_st s o n ns R.1).oRule j) := by
  have hno := hO.2.1
  have eL := lp_ml hS hno ho ns 0 1000000000 (by omega)
  obtain ⟨ok, k1, k2, k3, k4, k5, k6⟩ := hO.2.2.1 o ho
  generalize hL : ml_run s o ns 0 1000000000 = L at *
  have hs1 : WR ρ n p D R (s.u_oMark (upd s.oMark o L)) := hW.of (by obtain ⟨a, b, c, d, e, f⟩ := s; rfl) (by obtain ⟨a, b, c, d, e, f⟩ := s; rfl) (by obtain ⟨a, b, c, d, e, f⟩ := s; rfl) (by obtain ⟨a, b, c, d, e, f⟩ := s; rfl) (by obtain ⟨a, b, c, d, e, f⟩ := s; rfl)
  have em : (s.u_oMark (upd s.oMark o L)).oMark o = L := pk_us
  obtain ⟨t1, t2, t3, t4, t5, t6⟩ := tl_sim 120 D R _ hs1 em (Nat.le_trans (cnt_le _ n) hW.2.2.2.2.1)
  refine ⟨t1, ?_⟩
  by_cases hle : L ≤ s.oMark o
  · have e1 : mm_run od sd o ns n p D R = (0, od, (n, p, D, R)) := by
      unfold mm_run; rw [eL, ← k6, if_pos hle]
    have e2 : pm_ans s o n ns R.1 = 0 := by unfold pm_ans; rw [hL, if_pos hle]
    have e3 : pm_st s o n ns R.1 = s := by unfold pm_st; rw [hL, if_pos hle]
    rw [e2, e3]
    exact ⟨_, rfl, by rw [e1], by rw [e1]; exact hW, by rw [e1]; exact hO, rfl, by rw [e1]; exact hI, hρ⟩
  · have hlt : (od o).2.2.2.2.2 ≤ L := by rw [← k6]; exact Int32.le_of_lt (Int32.not_le.mp hle)
    have hst1 : (s.u_oMark (upd s.oMark o L)).oLt = s.oLt := rfl
    have hT4 : (td_run o n 120 (s.u_oMark (upd s.oMark o L), R.1)).1.oMark o = L := by rw [st_oMark t4]; exact em
    have hT5 : (td_run o n 120 (s.u_oMark (upd s.oMark o L), R.1)).1.oLt o = (od o).2.2.2.1 := by rw [st_oLt t4]; exact k4
    have hT6 : ρ (nI o) = (td_run o n 120 (s.u_oMark (upd s.oMark o L), R.1)).1.oRule o := by rw [st_oRule t4]; exact hρ o ho
    have hIw : ∀ j, j < n → IWin no (va_up od o (om (od o) L)) ((tl_run (nI o) L n p 120 (D, R)).1 (p j)) := fun j hj => by
      rcases t6 (p j) with z | ⟨z1, z2, z3⟩
      · rw [z]; exact (hI.1 j hj).mark hlt
      · rw [z1]; exact (hI.1 j hj).tell hno ho hlt z2 z3
    have hkey : ∀ i, ((tl_run (nI o) L n p 120 (D, R)).1 i).1 = (D i).1 ∧ ((tl_run (nI o) L n p 120 (D, R)).1 i).2.2.1 = (D i).2.2.1 := fun i => by
      rcases t6 i with z | ⟨z1, z2, z3⟩
      · rw [z]; exact ⟨rfl, rfl⟩
      · rw [z1]; exact ⟨rfl, rfl⟩
    have htold : ∀ j, j < n → wcls ((tl_run (nI o) L n p 120 (D, R)).1 (p j)) (nI o) (od o).2.2.2.1 L = true → ((tl_run (nI o) L n p 120 (D, R)).1 (p j)).2.1.1 = true := fun j hj hc => by
      obtain ⟨c1, c2⟩ := wcls_op hc
      have hd := t5 j hj
      cases ht : ((tl_run (nI o) L n p 120 (D, R)).1 (p j)).2.1.1 with
      | true => rfl
      | false =>
        exfalso
        obtain ⟨o', -, -, a3, -⟩ := hIw j hj
        have hl := ok.2.2.2.2
        have e1 := tA (a := ((tl_run (nI o) L n p 120 (D, R)).1 (p j)).1.2.2.2) (b := (od o).2.2.2.1) (by omega) (by omega)
        have c3 := Int32.le_iff_toInt_le.mp c2
        have : ((tl_run (nI o) L n p 120 (D, R)).1 (p j)).1.2.2.2 ≤ L := Int32.le_iff_toInt_le.mpr (by omega)
        unfold wdue at hd
        rw [c1, ht, decide_eq_true rfl, decide_eq_true this] at hd
        cases hd
    obtain ⟨c, t, ec, et, b1, b2, b3, ⟨e, b4, b5⟩, b6⟩ := lc_sim (o := o) (l := (od o).2.2.2.1) (m := L) n 120 p (tl_run (nI o) L n p 120 (D, R)).1 (tl_run (nI o) L n p 120 (D, R)).2 (td_run o n 120 (s.u_oMark (upd s.oMark o L), R.1)).1 hW.2.2.2.2.1 t2 hT4 hT5 hT6 htold
    have e1 : mm_run od sd o ns n p D R = (c.2.2.2.2.2 - R.2.2, va_up od o (om (od o) L), c) := by
      unfold mm_run; rw [eL, ← k6, if_neg hle, ec]
    have e3 : pm_st s o n ns R.1 = t.1 := by
      unfold pm_st mo_run; rw [hL, if_neg hle, et, ← t3]
    have e2 : pm_ans s o n ns R.1 = t.1.ever - s.ever := by
      unfold pm_ans mo_run; rw [hL, if_neg hle, et, ← t3]
    have hst : t.1.st = (s.u_oMark (upd s.oMark o L)).st := b3.trans t4
    have hsO : t.1.2.1 = (s.u_oMark (upd s.oMark o L)).2.1 := st_O hst
    rw [e2, e3]
    refine ⟨_, rfl, ?_, ?_, ?_, ?_, ?_, ?_⟩
    · rw [e1]
      show c.2.2.2.2.2 - R.2.2 = _
      rw [b1.2.2.1.2.2.1, hW.2.2.1.2.2.1]
    · rw [e1]; exact b1
    · rw [e1]
      show OSim no (va_up od o (om (od o) L)) t.1
      have h0 : OSim no (va_up od o (om (od o) L)) (s.u_oMark (upd s.oMark o L)) := by
        refine ⟨hO.1, hno, fun j hj => ?_, fun j h1 h2 => ?_⟩
        · obtain ⟨q0, q1, q2, q3, q4, q5, q6⟩ := hO.2.2.1 j hj
          by_cases z : j = o
          · subst z; rw [va_up_self]; exact ⟨q0, q1, q2, q3, q4, q5, pk_us⟩
          · rw [va_up_ne _ _ z]; exact ⟨q0, q1, q2, q3, q4, q5, (pk_un z).trans q6⟩
        · exact (pk_un (by omega)).trans (hO.2.2.2 j h1 h2)
      exact h0.of (congrArg (fun q : MdT => q.1) hst) hsO
    · refine (st_st2 hst).trans ?_
      obtain ⟨⟨a1, a2, a3, a4, a5, a6, a7, a8, a9, a10, a11, a12, a13, a14, a15⟩, b, c, d, e, f, g, h⟩ := s; rfl
    · rw [e1]
      show IW N no (va_up od o (om (od o) L)) c.1 c.2.1 c.2.2.1
      refine ⟨fun j hj => ?_, fun i j hij hj => ?_, b6 N (hI.2.2.same (fun j hj => by rw [(hkey (p j)).2]))⟩
      · obtain ⟨q1, q2⟩ := b4 j hj
        rw [q2]; exact hIw _ q1
      · obtain ⟨q1, q2⟩ := b4 j hj
        obtain ⟨q3, q4⟩ := b4 i (by omega)
        rw [q2, q4]
        have hg := hI.2.1 (e i) (e j) (b5 i j hij hj) q1
        have : IGap od no ((tl_run (nI o) L n p 120 (D, R)).1 (p (e i))) ((tl_run (nI o) L n p 120 (D, R)).1 (p (e j))) := by
          intro h1 h2 o' h3 h4 h5
          rw [(hkey _).1] at h1 h2 h4 ⊢
          rw [(hkey _).1] at h1 h2 ⊢
          exact hg h1 h2 o' h3 h4 h5
        exact this.mark
    · intro j hj
      show ρ (nI j) = t.1.2.1.2.2.2.2.1 j
      rw [hsO]
      exact hρ j hj
