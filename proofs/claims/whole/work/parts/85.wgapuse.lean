/-! THE COMPARISON: a row of GAPS is used -/
theorem gset_made_mw (S : Md) (n : Nat) (vo k b e : Int32) (T : Tl) : (∀ w, w ≠ n → mw (md_gset (md_made S n vo k b e) n T) w = mw S w) ∧ mw (md_gset (md_made S n vo k b e) n T) n = ((vo, k, b, e), (false, false), T, (mw S n).2.2.2) := by
  refine ⟨fun w hw => ?_, ?_⟩
  · rw [gset_mw, if_neg hw, made_mw, if_neg hw]
  · rw [gset_mw, if_pos rfl, made_mw, if_pos rfl]
theorem gset_nwin (s : Md) (w : Nat) (t : Tl) : (md_gset s w t).nwin = s.nwin := by
  obtain ⟨⟨a1, a2, a3, a4, a5, a6, a7, a8, a9, a10, a11, a12, a13, a14, a15⟩, b, c, d, e, f, g, h⟩ := s
  exact Eq.refl a4
theorem gap_fin {ρ : Int32 → Int32} {n q : Nat} {cw : Nat → Wd} {S : Md} {p : Nat → Nat} {D0 : Nat → Wd} {R : Rs} {r0 v vo k b e : Int32} {T : Tl} {d0 : Wd} (hs : WSim ρ n cw (mw S)) (hq : q ≤ n) (hno : ∀ j, j < n → kw (cw j) ≠ (vo, k, b)) (hl : ∀ j, j < n + 1 → D0 (p j) = if j < q then cw j else if j = q then d0 else cw (j - 1)) (h1 : d0.1 = (vo, k, b, e)) (h2 : d0.2.1 = (false, false)) (hT : tl_add d0.2.2.1 v = T) (hp : (∀ j, j < 120 → p j < 120) ∧ ∀ i j, i < 120 → j < 120 → p i = p j → i = j) (hn : n + 1 ≤ 120) (hR : RSim R S) (en : S.nwin = nI n) (hWS : WS (n + 1) p D0) :
    WR ρ (n + 1) p (va_up D0 (p q) (win_in r0 (D0 (p q)) v)) R (md_gset (md_made S n vo k b e) n T) ∧ wsim ρ (win_in r0 (D0 (p q)) v) (mw (md_gset (md_made S n vo k b e) n T) n) := by
  have hq0 : D0 (p q) = d0 := by rw [hl q (by omega), if_neg (by omega), if_pos rfl]
  have ht : d0.2.1.1 = false := by rw [h2]
  have hw : win_in r0 d0 v = wadd d0 v := if_neg (fun z => by rw [ht] at z; cases z.1)
  obtain ⟨m1, m2⟩ := gset_made_mw S n vo k b e T
  have hsim : wsim ρ (wadd d0 v) (mw (md_gset (md_made S n vo k b e) n T) n) := by
    rw [m2]
    refine ⟨h1, ht, hT, fun z => ?_, ?_⟩
    · have : d0.2.1.1 = true := z
      rw [ht] at this
      cases this
    · show d0.2.1.2 = (decide (ρ d0.1.1 = 1) && (d0.2.1.1 && false))
      rw [h2]
      cases decide (ρ d0.1.1 = 1) <;> rfl
  rw [hq0, hw]
  refine ⟨⟨?_, hWS.same1 (by rw [hq0]; rfl), (hR.made _ _ _ _ _).gset _ _, ?_, hn, hp⟩, hsim⟩
  · refine hs.ins hq hsim (fun j hj z => hno j hj (z.trans ?_)) (fun j hj => ?_) (fun w hw => ?_)
    · show (d0.1.1, d0.1.2.1, d0.1.2.2.1) = _
      rw [h1]
    · rw [cw_upd hp.2 hn (show q < n + 1 by omega) (wadd d0 v) j hj, hl j hj]
      by_cases z : j = q
      · rw [if_pos z, if_neg (by omega), if_pos z]
      · rw [if_neg z]
        by_cases z2 : j < q
        · rw [if_pos z2, if_pos z2]
        · rw [if_neg z2, if_neg z, if_neg z2, if_neg z]
    · by_cases z : w = n
      · rw [if_pos z, z]
      · rw [if_neg z]; exact m1 w z
  · rw [gset_nwin, (made_facts _ _ _ _ _ _).2.2, en]; exact nI_1 n
set_option maxHeartbeats 4000000 in
theorem gap_sim {ρ : Int32 → Int32} {N : Int} {no n o c : Nat} {od : Nat → Od} {p : Nat → Nat} {D : Nat → Wd} {R : Rs} {s : Md} {k t v : Int32} (hW : WR ρ n p D R s) (hI : IW N no od n p D) (hno : no ≤ 5) (ho : o < no) (hk : (od o).1 = 2) (hsz : 1 ≤ (od o).2.1.toInt ∧ (od o).2.1.toInt ≤ 1000000) (ht : 0 ≤ t.toInt ∧ t.toInt ≤ 100000000) (hN : N < 1000000) (hρ : ρ (nI o) = (od o).2.2.2.2.1) (e2 : s.oRule o = (od o).2.2.2.2.1) (e3 : s.oMark o = (od o).2.2.2.2.2) (hj : jq s = rw_j p D (nI o) k t (od o).2.1 n) (hc : (rw_j p D (nI o) k t (od o).2.1 n).1 = nI c) (hqc : rw_q p D (nI o) k t n + c ≤ n) (hset : ∀ i, i < n → (mtw (D (p i)) (nI o) k t (t + (od o).2.1) ↔ rw_q p D (nI o) k t n ≤ i ∧ i < rw_q p D (nI o) k t n + c)) (hroom : c = 0 → n < 120) :
    (gp_run (nI o) k s.fB s.fE n s R.1 (1, v.toInt64, v, v)).2.2.1 < 120 ∧ ∃ F, F = rw_gp (od o) p D R (nI o) k t v n c ∧ WR ρ F.1 F.2.1 F.2.2.1 F.2.2.2 (gap_all s n R.1 o (nI o) k v) ∧ IW (N + 1) no od F.1 F.2.1 F.2.2.1 ∧ (gap_all s n R.1 o (nI o) k v).st = s.st := by
  have hn120 := hW.2.2.2.2.1
  have hpp := hW.2.2.2.2.2
  have ev := tA (a := t) (b := (od o).2.1) (by omega) (by omega)
  obtain ⟨o1, o2⟩ := gaps_ord (o := o) (k := k) (t := t) (en := t + (od o).2.1) hW.2.1 (by omega) rfl
  have hbe := jn_be p D (nI o) k (t + (od o).2.1) (n - rw_q p D (nI o) k t n) (rw_q p D (nI o) k t n) (0, t, t + (od o).2.1, false)
  have ecc : c = jn_c p D (nI o) k (t + (od o).2.1) (n - rw_q p D (nI o) k t n) (rw_q p D (nI o) k t n) := by
    have h1 := jn_run_c p D (nI o) k (t + (od o).2.1) (n - rw_q p D (nI o) k t n) (rw_q p D (nI o) k t n) (0, t, t + (od o).2.1, false)
    have h2 := jn_c_le p D (nI o) k (t + (od o).2.1) (n - rw_q p D (nI o) k t n) (rw_q p D (nI o) k t n)
    have h3 : (rw_j p D (nI o) k t (od o).2.1 n).1 = 0 + nI (jn_c p D (nI o) k (t + (od o).2.1) (n - rw_q p D (nI o) k t n) (rw_q p D (nI o) k t n)) := h1
    rw [Int32.zero_add, hc] at h3
    exact nI_inj (by omega) (by omega) h3
  rw [← ecc] at hbe
  unfold rw_gp
  have hfold : jn_run p D (nI o) k (t + (od o).2.1) (n - rw_q p D (nI o) k t n) (rw_q p D (nI o) k t n) (0, t, t + (od o).2.1, false) = rw_j p D (nI o) k t (od o).2.1 n := rfl
  rw [hfold] at hbe
  generalize rw_j p D (nI o) k t (od o).2.1 n = a at *
  generalize rw_q p D (nI o) k t n = q at *
  obtain ⟨j1, j2, j3, j4⟩ := jq_be hj
  obtain ⟨⟨b1, b2⟩, b3, ⟨f1, f2⟩, f3⟩ := hbe
  dsimp only at b1 b3 f1 f3
  rw [j2, j3]
  have inP : ∀ i, q ≤ i → i < q + c → mtw (D (p i)) (nI o) k t (t + (od o).2.1) := fun i h1 h2 => (hset i (by omega)).mpr ⟨h1, h2⟩
  have win : ∀ i, i < n → -1000000 ≤ (D (p i)).1.2.2.1.toInt ∧ (D (p i)).1.2.2.1.toInt ≤ 100000000 ∧ (D (p i)).1.2.2.1.toInt < (D (p i)).1.2.2.2.toInt ∧ (D (p i)).1.2.2.2.toInt ≤ 101000000 := fun i hi => by
    obtain ⟨o', -, -, z, -⟩ := hI.1 i hi
    exact z
  have dis : ∀ i i', i < i' → i' < n → belg (D (p i)) (nI o) k → belg (D (p i')) (nI o) k → (D (p i)).1.2.2.2.toInt ≤ (D (p i')).1.2.2.1.toInt := fun i i' h1 h2 hb1 hb2 => by
    have := hI.2.1 i i' h1 h2 (hb1.1.trans hb2.1.symm) (hb1.2.trans hb2.2.symm) o ho hb1.1 hk
    exact Int32.le_iff_toInt_le.mp this
  have blo : -1000000 ≤ a.2.1.toInt := by
    rcases b3 with z | ⟨i, i1, i2, i3⟩
    · rw [z]; omega
    · rw [i3]; exact (win i (by omega)).1
  have ehi : a.2.2.1.toInt ≤ 101000000 := by
    rcases f3 with z | ⟨i, i1, i2, i3⟩
    · rw [z]; omega
    · rw [i3]; exact (win i (by omega)).2.2.2
  have hset2 : ∀ i, i < n → (mtw (D (p i)) (nI o) k a.2.1 a.2.2.1 ↔ q ≤ i ∧ i < q + c) := fun i hi => by
    constructor
    · rintro ⟨m1, m2, m3⟩
      have m2 := Int32.lt_iff_toInt_lt.mp m2
      have m3 := Int32.lt_iff_toInt_lt.mp m3
      by_cases hjd : q ≤ i ∧ i < q + c
      · exact hjd
      · exfalso
        have hnm : ¬ mtw (D (p i)) (nI o) k t (t + (od o).2.1) := fun z => hjd ((hset i hi).mp z)
        have hnm2 : ¬ ((D (p i)).1.2.2.1.toInt < (t + (od o).2.1).toInt ∧ t.toInt < (D (p i)).1.2.2.2.toInt) := fun z => hnm ⟨m1, Int32.lt_iff_toInt_lt.mpr z.1, Int32.lt_iff_toInt_lt.mpr z.2⟩
        have wi := win i hi
        by_cases hl : (D (p i)).1.2.2.2.toInt ≤ t.toInt
        · rcases b3 with z | ⟨x, x1, x2, x3⟩
          · rw [z] at m3; omega
          · rw [x3] at m3
            obtain ⟨y1, y2, y3⟩ := inP x x1 x2
            have y3 := Int32.lt_iff_toInt_lt.mp y3
            by_cases hix : i < x
            · have := dis i x hix (by omega) m1 y1; omega
            · have hxi : x < i := by
                rcases Nat.lt_or_ge x i with z | z
                · exact z
                · have : x = i := by omega
                  subst this
                  exact absurd ⟨x1, x2⟩ hjd
              have := dis x i hxi hi y1 m1; omega
        · rcases f3 with z | ⟨x, x1, x2, x3⟩
          · rw [z] at m2; omega
          · rw [x3] at m2
            obtain ⟨y1, y2, y3⟩ := inP x x1 x2
            have y2 := Int32.lt_iff_toInt_lt.mp y2
            by_cases hix : i < x
            · have := dis i x hix (by omega) m1 y1; omega
            · have hxi : x < i := by
                rcases Nat.lt_or_ge x i with z | z
                · exact z
                · have : x = i := by omega
                  subst this
                  exact absurd ⟨x1, x2⟩ hjd
              have := dis x i hxi hi y1 m1; omega
    · rintro ⟨h1, h2⟩
      obtain ⟨y1, y2, y3⟩ := inP i h1 h2
      have y2 := Int32.lt_iff_toInt_lt.mp y2
      have y3 := Int32.lt_iff_toInt_lt.mp y3
      exact ⟨y1, Int32.lt_iff_toInt_lt.mpr (by omega), Int32.lt_iff_toInt_lt.mpr (by omega)⟩
  have hord : ∀ i i', q ≤ i → i < i' → i' < q + c → (D (p i)).1.2.2.1.toInt < (D (p i')).1.2.2.1.toInt := fun i i' h1 h2 h3 => by
    obtain ⟨x1, -, -⟩ := inP i h1 (by omega)
    obtain ⟨y1, -, -⟩ := inP i' (by omega) h3
    have h := hW.2.1 i i' h2 (by omega)
    unfold wb at h
    rw [rv_before_iff, x1.1, x1.2, y1.1, y1.2] at h
    omega
  -- before and behind the place
  have hlo : ∀ i, i < q → wb (D (p i)) (nI o) k a.2.1 = true ∧ (belg (D (p i)) (nI o) k → (D (p i)).1.2.2.2.toInt ≤ a.2.1.toInt) := fun i hi => by
    have h := o1 i hi
    have hn2 : ¬ mtw (D (p i)) (nI o) k a.2.1 a.2.2.1 := fun z => by have := (hset2 i (by omega)).mp z; omega
    have wi := win i (by omega)
    unfold wb at h ⊢
    rw [rv_before_iff] at h ⊢
    by_cases hb : belg (D (p i)) (nI o) k
    · rw [hb.1, hb.2] at h
      have hend : (D (p i)).1.2.2.2.toInt ≤ a.2.1.toInt := by
        rcases Int.lt_or_le a.2.1.toInt (D (p i)).1.2.2.2.toInt with z | z
        · exact absurd ⟨hb, Int32.lt_iff_toInt_lt.mpr (by omega), Int32.lt_iff_toInt_lt.mpr z⟩ hn2
        · exact z
      refine ⟨?_, fun _ => hend⟩
      rw [hb.1, hb.2]
      omega
    · refine ⟨?_, fun z => absurd z hb⟩
      rcases h with z | ⟨z1, z | ⟨z2, z3⟩⟩
      · exact Or.inl z
      · exact Or.inr ⟨z1, Or.inl z⟩
      · exact absurd ⟨Int32.toInt_inj.mp z1, Int32.toInt_inj.mp z2⟩ hb
  have hhi : ∀ i, q + c ≤ i → i < n → rv_before (nI o) k a.2.1 (D (p i)).1.1 (D (p i)).1.2.1 (D (p i)).1.2.2.1 = true ∧ (belg (D (p i)) (nI o) k → a.2.2.1.toInt ≤ (D (p i)).1.2.2.1.toInt) := fun i h1 h2 => by
    have h0 : ¬ mtw (D (p i)) (nI o) k t (t + (od o).2.1) := fun z => by have := (hset i h2).mp z; omega
    have h : ¬ wb (D (p i)) (nI o) k t = true := by rw [o2 i (by omega) h2 h0]; decide
    have hn2 : ¬ mtw (D (p i)) (nI o) k a.2.1 a.2.2.1 := fun z => by have := (hset2 i h2).mp z; omega
    have wi := win i h2
    unfold wb at h
    rw [rv_before_iff] at h ⊢
    by_cases hb : belg (D (p i)) (nI o) k
    · rw [hb.1, hb.2] at h ⊢
      have hbg : a.2.2.1.toInt ≤ (D (p i)).1.2.2.1.toInt := by
        rcases Int.lt_or_le (D (p i)).1.2.2.1.toInt a.2.2.1.toInt with z | z
        · exact absurd ⟨hb, Int32.lt_iff_toInt_lt.mpr z, Int32.lt_iff_toInt_lt.mpr (by omega)⟩ hn2
        · exact z
      exact ⟨by omega, fun _ => hbg⟩
    · refine ⟨?_, fun z => absurd z hb⟩
      have : ¬ ((D (p i)).1.1.toInt = (nI o).toInt ∧ (D (p i)).1.2.1.toInt = k.toInt) := fun z => hb ⟨Int32.toInt_inj.mp z.1, Int32.toInt_inj.mp z.2⟩
      omega
  -- the reference's joining
  have hv0 : vl p D q 0 = fun j => D (p j) := by
    funext j
    unfold vl
    by_cases z : j < q
    · rw [if_pos z]
    · rw [if_neg z, Nat.add_zero]
  have hcn := hI.2.2.2
  have hcn0 := (csum_ge (f := fun j => (D (p j)).2.2.1.1.toInt) n (fun i hi => by have := hI.2.2.1 i hi; (try dsimp only); omega)).1
  obtain ⟨S', g1, g2, g3, g4, g5, g6, g7⟩ := gp_sim (ρ := ρ) (M := csum (fun j => (D (p j)).2.2.1.1.toInt) n + 1) hset2 hqc hord hI.2.2.1 (by omega) c 0 s R (1, v.toInt64, v, v) (by omega) (by rw [hv0, Nat.sub_zero]; exact hW.1) hW.2.2.1 (by rw [Nat.sub_zero]; exact hW.2.2.2.1) (by rw [hv0, Nat.sub_zero]; rfl) (by show (1 : Int) + 0 ≤ 1; omega)
  rw [Nat.sub_zero, Nat.add_zero] at g1
  rw [Nat.add_zero] at g3 g6 g7
  have hnc : n - c < 120 := by
    by_cases z : c = 0
    · have := hroom z; omega
    · omega
  refine ⟨by rw [g1]; exact hnc, ?_⟩
  have erun : gap_run s n R.1 o (nI o) k v = md_foll (md_gset (md_made S' (n - c) (nI o) k a.2.1 a.2.2.1) (n - c) (tf (fun j => (D (p j)).2.2.1) c q (1, v.toInt64, v, v))) (tb_run p D c q R).1 (n - c) o := by
    unfold gap_run
    rw [j2, j3, g1]
  have vlo : ∀ j, j < q → vl p D q c j = D (p j) := fun j hj => by unfold vl; rw [if_pos hj]
  have vhi : ∀ j, q ≤ j → vl p D q c j = D (p (j + c)) := fun j hj => by unfold vl; rw [if_neg (by omega)]
  have run : ∀ (p2 : Nat → Nat) (D0 : Nat → Wd) (d0 : Wd), (∀ j, j < n - c + 1 → D0 (p2 j) = if j < q then vl p D q c j else if j = q then d0 else vl p D q c (j - 1)) → d0.1 = (nI o, k, a.2.1, a.2.2.1) → d0.2.1 = (false, false) → tl_add d0.2.2.1 v = tf (fun j => (D (p j)).2.2.1) c q (1, v.toInt64, v, v) → ((∀ j, j < 120 → p2 j < 120) ∧ ∀ i j, i < 120 → j < 120 → p2 i = p2 j → i = j) →
      WR ρ (n - c + 1) p2 (ci_one (od o).2.2.2.2.1 (od o).2.2.2.2.2 (D0, tb_run p D c q R) (p2 q) v).1 (ci_one (od o).2.2.2.2.1 (od o).2.2.2.2.2 (D0, tb_run p D c q R) (p2 q) v).2 (gap_run s n R.1 o (nI o) k v) ∧ IW (N + 1) no od (n - c + 1) p2 (ci_one (od o).2.2.2.2.1 (od o).2.2.2.2.2 (D0, tb_run p D c q R) (p2 q) v).1 ∧ (gap_run s n R.1 o (nI o) k v).st = s.st := by
    intro p2 D0 d0 hl h1 h2 h3 hp2
    have hlq : D0 (p2 q) = d0 := by rw [hl q (by omega), if_neg (by omega), if_pos rfl]
    have d11 : d0.1.1 = nI o := by rw [h1]
    have d12 : d0.1.2.1 = k := by rw [h1]
    have d13 : d0.1.2.2.1 = a.2.1 := by rw [h1]
    have d14 : d0.1.2.2.2 = a.2.2.1 := by rw [h1]
    have hWS : WS (n - c + 1) p2 D0 := by
      intro i i' hii hi'
      rw [hl i (by omega), hl i' hi']
      by_cases z1 : i < q
      · rw [if_pos z1, vlo i z1]
        by_cases z2 : i' < q
        · rw [if_pos z2, vlo i' z2]; exact hW.2.1 i i' hii (by omega)
        · rw [if_neg z2]
          by_cases z3 : i' = q
          · rw [if_pos z3, d11, d12, d13]; exact (hlo i z1).1
          · rw [if_neg z3, vhi (i' - 1) (by omega)]; exact hW.2.1 i (i' - 1 + c) (by omega) (by omega)
      · rw [if_neg z1, if_neg (show ¬ i' < q by omega), if_neg (show ¬ i' = q by omega), vhi (i' - 1) (by omega)]
        by_cases z3 : i = q
        · rw [if_pos z3]
          unfold wb
          rw [d11, d12, d13]
          exact (hhi (i' - 1 + c) (by omega) (by omega)).1
        · rw [if_neg z3, vhi (i - 1) (by omega)]; exact hW.2.1 (i - 1 + c) (i' - 1 + c) (by omega) (by omega)
    have hno2 : ∀ j, j < n - c → kw (vl p D q c j) ≠ (nI o, k, a.2.1) := fun j hj z => by
      have z1 : (vl p D q c j).1.1 = nI o := congrArg (fun z : Int32 × Int32 × Int32 => z.1) z
      have z2 : (vl p D q c j).1.2.1 = k := congrArg (fun z : Int32 × Int32 × Int32 => z.2.1) z
      have z3 : (vl p D q c j).1.2.2.1 = a.2.1 := congrArg (fun z : Int32 × Int32 × Int32 => z.2.2) z
      by_cases y : j < q
      · rw [vlo j y] at z1 z2 z3
        have h := (hlo j y).1
        unfold wb at h
        rw [rv_before_iff, z1, z2, z3] at h
        omega
      · rw [vhi j (by omega)] at z1 z2 z3
        have h := (hhi (j + c) (by omega) (by omega)).1
        rw [rv_before_iff, z1, z2, z3] at h
        omega
    obtain ⟨k1, k2⟩ := gap_fin (r0 := (od o).2.2.2.2.1) g2 (by omega) hno2 hl h1 h2 h3 hp2 (by omega) g3 g4 hWS
    have hst : (md_gset (md_made S' (n - c) (nI o) k a.2.1 a.2.2.1) (n - c) (tf (fun j => (D (p j)).2.2.1) c q (1, v.toInt64, v, v))).st = s.st := (gset_st _ _ _).trans ((made_st _ _ _ _ _ _).trans g5)
    obtain ⟨w1, w2⟩ := k1.foll (o := o) (m := (od o).2.2.2.2.2) (j := q) (w := n - c) (by omega) (by omega) k2 (by rw [st_oRule hst]; exact e2) (by rw [st_oMark hst]; exact e3) (fun z => by
      rw [hlq, h2] at z; cases z)
    rw [erun]
    refine ⟨w1, ?_, (foll_st _ _ _ _).trans hst⟩
    obtain ⟨c', y1, y2, y3, y4⟩ := ci_form (od o).2.2.2.2.1 (od o).2.2.2.2.2 D0 (tb_run p D c q R) (p2 q) v
    rw [hlq] at y2 y3 y4
    rw [h3] at y3
    have hL : ∀ j, j < n - c + 1 → va_up D0 (p2 q) c' (p2 j) = if j < q then vl p D q c j else if j = q then c' else vl p D q c (j - 1) := fun j hj => by
      rw [cw_upd hp2.2 (by omega) (show q < n - c + 1 by omega) c' j hj, hl j hj]
      by_cases z : j = q
      · rw [if_pos z, if_neg (by omega), if_pos z]
      · rw [if_neg z]
        by_cases z2 : j < q
        · rw [if_pos z2, if_pos z2]
        · rw [if_neg z2, if_neg z, if_neg z2, if_neg z]
    rw [y1]
    have hIw : IWin no od c' := by
      refine ⟨o, ho, ?_, ?_, fun z => ?_⟩
      · rw [y2]; exact d11
      · rw [y2, d13, d14]; omega
      · rw [y2, d14]
        rcases y4 z with x | x
        · rw [h2] at x; cases x
        · rw [d14] at x; exact x
    refine ⟨fun j hj => ?_, fun i i' hii hi' => ?_, fun j hj => ?_, ?_⟩
    · rw [hL j hj]
      by_cases z : j < q
      · rw [if_pos z, vlo j z]; exact hI.1 j (by omega)
      · rw [if_neg z]
        by_cases z2 : j = q
        · rw [if_pos z2]; exact hIw
        · rw [if_neg z2, vhi (j - 1) (by omega)]; exact hI.1 (j - 1 + c) (by omega)
    · rw [hL i (by omega), hL i' hi']
      by_cases z1 : i < q
      · rw [if_pos z1, vlo i z1]
        by_cases z2 : i' < q
        · rw [if_pos z2, vlo i' z2]; exact hI.2.1 i i' hii (by omega)
        · rw [if_neg z2]
          by_cases z3 : i' = q
          · rw [if_pos z3]
            intro u1 u2 o' u3 u4 u5
            rw [y2] at u1 u2 ⊢
            rw [d11] at u1
            rw [d12] at u2
            rw [d13]
            exact Int32.le_iff_toInt_le.mpr ((hlo i z1).2 ⟨u1, u2⟩)
          · rw [if_neg z3, vhi (i' - 1) (by omega)]; exact hI.2.1 i (i' - 1 + c) (by omega) (by omega)
      · rw [if_neg z1, if_neg (show ¬ i' < q by omega), if_neg (show ¬ i' = q by omega), vhi (i' - 1) (by omega)]
        by_cases z3 : i = q
        · rw [if_pos z3]
          intro u1 u2 o' u3 u4 u5
          rw [y2] at u1 u2 ⊢
          rw [d11] at u1
          rw [d12] at u2
          rw [d14]
          exact Int32.le_iff_toInt_le.mpr ((hhi (i' - 1 + c) (by omega) (by omega)).2 ⟨u1.symm, u2.symm⟩)
        · rw [if_neg z3, vhi (i - 1) (by omega)]; exact hI.2.1 (i - 1 + c) (i' - 1 + c) (by omega) (by omega)
    · rw [hL j hj]
      by_cases z : j < q
      · rw [if_pos z, vlo j z]; exact hI.2.2.1 j (by omega)
      · rw [if_neg z]
        by_cases z2 : j = q
        · rw [if_pos z2, y3]; omega
        · rw [if_neg z2, vhi (j - 1) (by omega)]; exact hI.2.2.1 (j - 1 + c) (by omega)
    · have := csum_ins (f := fun j => (vl p D q c j).2.2.1.1.toInt) (g := fun j => (va_up D0 (p2 q) c' (p2 j)).2.2.1.1.toInt) (q := q) (x := c'.2.2.1.1.toInt) (n - c) (by omega) (fun j hj => by
        (try dsimp only)
        rw [hL j hj]
        by_cases z : j < q
        · rw [if_pos z, if_pos z]
        · rw [if_neg z, if_neg z]
          by_cases z2 : j = q
          · rw [if_pos z2, if_pos z2]
          · rw [if_neg z2, if_neg z2])
      rw [this, y3]
      omega
  -- the three ways
  by_cases hc0 : c = 0
  · subst hc0
    have hall : gap_all s n R.1 o (nI o) k v = gap_run s n R.1 o (nI o) k v := by
      unfold gap_all
      cases gap_own s n (nI o) k with
      | none => rfl
      | some w =>
        dsimp only
        rw [if_neg]
        rintro ⟨z, -⟩
        rw [j1, hc] at z
        exact absurd z (by decide)
    rw [hall, if_pos rfl]
    have hpl : rv_pl_ n p D (nI o) k a.2.1 q := by
      refine ⟨by omega, fun i hi => (hlo i hi).1, fun i h1 h2 => ?_⟩
      have h := (hhi i (by omega) h2).1
      rw [rv_before_iff] at h
      cases hb : wb (D (p i)) (nI o) k a.2.1 with
      | false => rfl
      | true =>
        unfold wb at hb
        rw [rv_before_iff] at hb
        omega
    have hnf : ¬ (q < n ∧ weq (D (p q)) (nI o) k a.2.1 = true) := fun z => by
      have h := (hhi q (by omega) z.1).1
      have h2 := z.2
      unfold weq at h2
      rw [Bool.and_eq_true, decide_eq_true_eq, decide_eq_true_eq] at h2
      rw [rv_before_iff, h2.1.1, h2.1.2, h2.2] at h
      omega
    have efo : fo_run (nI o) k a.2.1 a.2.2.1 n p D = ((n + 1, rv_ins p q n, va_up D (p n) (rv_fresh (nI o) k a.2.1 a.2.2.1)), p n) := by
      unfold fo_run
      rw [rv_plc_eq hpl, if_neg hnf]
    rw [efo]
    have epn : rv_ins p q n q = p n := by unfold rv_ins; rw [if_pos rfl]
    obtain ⟨r1, r2, r3⟩ := run (rv_ins p q n) (va_up D (p n) (rv_fresh (nI o) k a.2.1 a.2.2.1)) (rv_fresh (nI o) k a.2.1 a.2.2.1) (fun j hj => by
      rw [cw_ins hpp.2 (hroom rfl) (show q ≤ n by omega) _ j (by omega), hv0]) rfl rfl (by
      show tl_add (0, 0, 0, 0) v = (1, v.toInt64, v, v)
      unfold tl_add
      rw [if_pos rfl, if_pos rfl]
      show ((0 : Int32) + 1, (0 : Int64) + v.toInt64, v, v) = _
      rw [Int64.zero_add]
      rfl) (rv_ins_ok (by omega) (hroom rfl) hpp)
    rw [Nat.sub_zero, epn] at r1 r2
    exact ⟨_, rfl, r1, r2, r3⟩
  · rw [if_neg hc0]
    have hbq := inP q (Nat.le_refl _) (by omega)
    by_cases hsame : (D (p q)).1.2.2.1 = a.2.1 ∧ (D (p q)).1.2.2.2 = a.2.2.1
    · have eug : ug_run q c a n p D R = ((n, p, D), R) := if_pos hsame
      rw [eug]
      have hc1 : c = 1 := by
        rcases Nat.lt_or_ge 1 c with z | z
        · exfalso
          obtain ⟨y1, -, -⟩ := inP (q + 1) (by omega) (by omega)
          have h4 := dis q (q + 1) (by omega) (by omega) hbq.1 y1
          have h5 := f2 (q + 1) (by omega) (by omega)
          have h6 := win (q + 1) (by omega)
          rw [hsame.2] at h4
          omega
        · omega
      obtain ⟨w, w1, w2⟩ := hW.1.1 q (by omega)
      have hkw : kw (mw s w) = (nI o, k, s.fB) := by
        rw [← w2.kw, j2]
        show ((D (p q)).1.1, (D (p q)).1.2.1, (D (p q)).1.2.2.1) = _
        rw [hbq.1.1, hbq.1.2, hsame.1]
      have hown : gap_own s n (nI o) k = some w := by
        unfold gap_own
        rcases fd_spec s (nI o) k s.fB n 0 with ⟨-, h4⟩ | ⟨x, h4, h5, h6⟩
        · exact absurd hkw (h4 w (by omega) (by omega))
        · rw [h4]
          exact congrArg some (hW.1.2.2.1 x w (by omega) w1 (h6.trans hkw.symm))
      have hall : gap_all s n R.1 o (nI o) k v = md_foll (md_into s w v) R.1 w o := by
        unfold gap_all
        rw [hown]
        dsimp only
        rw [if_pos]
        refine ⟨by rw [j1, hc, hc1]; rfl, ?_⟩
        rw [j3, ← hsame.2]
        have : (mw s w).1 = (D (p q)).1 := w2.1.symm
        exact congrArg (fun z : Int32 × Int32 × Int32 × Int32 => z.2.2.2) this
      rw [hall]
      dsimp only
      have ho2 : ρ (D (p q)).1.1 = (od o).2.2.2.2.1 := by rw [hbq.1.1]; exact hρ
      obtain ⟨i1, i2⟩ := hW.into (show q < n by omega) w1 w2 v
      rw [ho2] at i1 i2
      have hst := into_st s w v
      obtain ⟨o', x1, x2, x3, x4⟩ := hI.1 q (by omega)
      have eo' : o' = o := nI_inj (by omega) (by omega) (x2.symm.trans hbq.1.1)
      subst eo'
      obtain ⟨y1, y2⟩ := i1.foll (o := o') (show q < n by omega) w1 i2 (by rw [st_oRule hst]; exact e2) (by rw [st_oMark hst]; exact e3) x4
      refine ⟨_, rfl, y1, ?_, (foll_st _ _ _ _).trans hst⟩
      obtain ⟨c', z1, z2, z3, z4⟩ := ci_form (od o').2.2.2.2.1 (od o').2.2.2.2.2 D R (p q) v
      dsimp only
      rw [z1]
      have hcn := hI.cnt (show q < n by omega)
      refine hI.upd hpp.2 hn120 (show q < n by omega) z2 ?_ ⟨o', x1, ?_, ?_, fun z => ?_⟩
      · rw [z3]; exact cnt_add v (by omega) (by omega)
      · rw [z2]; exact x2
      · rw [z2]; exact x3
      · rw [z2]
        rcases z4 z with u | u
        · exact x4 u
        · exact u
    · have eug : ug_run q c a n p D R = (mg_end (p q) a.2.1 a.2.2.1 (mg_run q (p q) (c - 1) (n, p, D)), tb_run p D c q R) := if_neg hsame
      rw [eug]
      have hall : gap_all s n R.1 o (nI o) k v = gap_run s n R.1 o (nI o) k v := by
        unfold gap_all
        cases hown : gap_own s n (nI o) k with
        | none => rfl
        | some w =>
          dsimp only
          rw [if_neg]
          rintro ⟨u1, u2⟩
          rw [j1, hc] at u1
          have hc1 : c = 1 := nI_inj (by omega) (by omega) (u1.trans (show (1 : Int32) = nI 1 from rfl))
          unfold gap_own at hown
          rcases fd_spec s (nI o) k s.fB n 0 with ⟨h4, -⟩ | ⟨x, h4, h5, h6⟩
          · rw [h4] at hown; cases hown
          · rw [h4] at hown
            cases hown
            obtain ⟨i, i1, i2⟩ := hW.1.2.1 w (by omega)
            have hk2 : kw (D (p i)) = (nI o, k, s.fB) := i2.kw.trans h6
            have z1 : (D (p i)).1.1 = nI o := congrArg (fun z : Int32 × Int32 × Int32 => z.1) hk2
            have z2 : (D (p i)).1.2.1 = k := congrArg (fun z : Int32 × Int32 × Int32 => z.2.1) hk2
            have z3 : (D (p i)).1.2.2.1 = s.fB := congrArg (fun z : Int32 × Int32 × Int32 => z.2.2) hk2
            have z4 : (D (p i)).1.2.2.2 = s.wEnd w := by
              have : (D (p i)).1 = (mw s w).1 := i2.1
              exact congrArg (fun z : Int32 × Int32 × Int32 × Int32 => z.2.2.2) this
            rw [j2] at z3
            rw [u2, j3] at z4
            have hm : mtw (D (p i)) (nI o) k a.2.1 a.2.2.1 := ⟨⟨z1, z2⟩, Int32.lt_iff_toInt_lt.mpr (by rw [z3]; omega), Int32.lt_iff_toInt_lt.mpr (by rw [z4]; omega)⟩
            have hi := (hset2 i i1).mp hm
            have : i = q := by omega
            subst this
            exact hsame ⟨z3, z4⟩
      rw [hall]
      obtain ⟨p', m1, m2, m3⟩ := mg_spec (fi := q) (i0 := p q) (c - 1) n p D (by omega) hn120 hpp rfl
      have epq : p' q = p q := by rw [m2 q (by omega), if_pos (Nat.le_refl _)]
      rw [m1]
      unfold mg_end
      dsimp only
      rw [va_up2, va_up_self]
      generalize hX : rf (fun m => (D (p (q + m))).2.2.1) (c - 1) (D (p q)).2.2.1 = X
      have hXT : tl_all X (1, v.toInt64, v, v) = tf (fun j => (D (p j)).2.2.1) c q (1, v.toInt64, v, v) := by
        rw [← hX, rf_tf (fun j => (D (p j)).2.2.1) q (c - 1), tf_c, tl_all_comm]
        obtain ⟨c1, ec1⟩ : ∃ c1, c = c1 + 1 := ⟨c - 1, by omega⟩
        subst ec1
        rfl
      have hX0 : ¬ X.1 = 0 := fun z => by
        have h1 : (tf (fun j => (D (p j)).2.2.1) c q (1, v.toInt64, v, v)).1 = X.1 + 1 := by rw [← hXT]; rfl
        rw [z] at h1
        rw [h1] at g7
        have : ((0 : Int32) + 1).toInt = 1 := by decide
        omega
      have hadd : tl_add X v = tf (fun j => (D (p j)).2.2.1) c q (1, v.toInt64, v, v) := by
        rw [← hXT]
        unfold tl_add
        rw [if_neg hX0, if_neg hX0]
        rfl
      obtain ⟨r1, r2, r3⟩ := run p' (va_up D (p q) (((whas (D (p q)) X).1.1, (whas (D (p q)) X).1.2.1, a.2.1, a.2.2.1), (false, false), (whas (D (p q)) X).2.2)) (((whas (D (p q)) X).1.1, (whas (D (p q)) X).1.2.1, a.2.1, a.2.2.1), (false, false), (whas (D (p q)) X).2.2) (fun j hj => by
        have hpj := m2 j (by omega)
        by_cases z : j < q
        · rw [hpj, if_pos (by omega), va_up_ne _ _ (fun y => by have := hpp.2 j q (by omega) (by omega) y; omega), if_pos z, vlo j z]
        · rw [if_neg z]
          by_cases z2 : j = q
          · rw [if_pos z2, hpj, if_pos (by omega), z2, va_up_self]
          · rw [if_neg z2, hpj, if_neg (by omega), va_up_ne _ _ (fun y => by have := hpp.2 (j + (c - 1)) q (by omega) (by omega) y; omega), vhi (j - 1) (by omega), show j - 1 + c = j + (c - 1) by omega]) (by
        show ((D (p q)).1.1, (D (p q)).1.2.1, a.2.1, a.2.2.1) = _
        rw [hbq.1.1, hbq.1.2]) rfl hadd m3
      rw [epq, show n - c + 1 = n - (c - 1) by omega] at r1 r2
      exact ⟨_, rfl, r1, r2, r3⟩
