/-! THE COMPARISON: windows of GAPS are joined, one after the other -/
def gm_inv (s : Md) (vo k b e : Int32) (w : Nat) : Option Nat → Prop
  | none => ∀ v, v < w → mt_is s v vo k b e = false
  | some x => x < w ∧ mt_is s x vo k b e = true ∧ ∀ v, v < w → mt_is s v vo k b e = true → ¬ s.wBeg v < s.wBeg x
theorem gm_spec (s : Md) (vo k b e : Int32) : ∀ (t w : Nat) (q : Option Nat), gm_inv s vo k b e w q → gm_inv s vo k b e (w + t) (gm_pick s vo k b e t w q)
  | 0, w, q, h => h
  | t + 1, w, q, h => by
    unfold gm_pick
    rw [show w + (t + 1) = (w + 1) + t by omega]
    refine gm_spec s vo k b e t (w + 1) _ ?_
    by_cases hc : mt_is s w vo k b e = true ∧ gm_bt s w q = true
    · rw [if_pos hc]
      refine ⟨by omega, hc.1, fun v hv hd => ?_⟩
      by_cases hvw : v = w
      · subst hvw; exact Int32.lt_irrefl
      · cases q with
        | none => exact absurd (h v (by omega)) (by rw [hd]; decide)
        | some x =>
          have h1 := h.2.2 v (by omega) hd
          have h2 : s.wBeg w < s.wBeg x := of_decide_eq_true hc.2
          intro h3
          exact h1 (Int32.lt_trans h3 h2)
    · rw [if_neg hc]
      cases q with
      | none =>
        intro v hv
        by_cases hvw : v = w
        · subst hvw
          cases hd : mt_is s v vo k b e with
          | false => rfl
          | true => exact absurd ⟨hd, rfl⟩ hc
        · exact h v (by omega)
      | some x =>
        refine ⟨by have := h.1; omega, h.2.1, fun v hv hd => ?_⟩
        by_cases hvw : v = w
        · subst hvw
          intro h3
          exact hc ⟨hd, decide_eq_true h3⟩
        · exact h.2.2 v (by omega) hd
theorem gm_all (s : Md) (vo k b e : Int32) (n : Nat) : gm_inv s vo k b e n (gm_pick s vo k b e n 0 none) := by
  have := gm_spec s vo k b e n 0 none (fun v hv => absurd hv (by omega))
  rw [Nat.zero_add] at this
  exact this
theorem gp_t_eq (s : Md) (w : Nat) (t : Tl) : gp_t s w t = tl_all t (mw s w).2.2.1 := rfl
/-- what the windows from i on have, together -/
def tf (h : Nat → Tl) : Nat → Nat → Tl → Tl
  | 0, _, T => T
  | m + 1, i, T => tf h m (i + 1) (tl_all T (h i))
/-- the class's windows, i of them from q on being gone -/
def vl (p : Nat → Nat) (D : Nat → Wd) (q i j : Nat) : Wd := if j < q then D (p j) else D (p (j + i))
theorem mt_is_mtw (s : Md) (w : Nat) (o k b e : Int32) : mt_is s w o k b e = true ↔ mtw (mw s w) o k b e := mtw_iff (mw s w) o k b e
theorem mtw_1 {c d : Wd} (h : c.1 = d.1) {o k b e : Int32} : mtw c o k b e ↔ mtw d o k b e := by
  unfold mtw belg
  rw [h]
theorem gp_sim {ρ : Int32 → Int32} {vo k b e : Int32} {p : Nat → Nat} {D : Nat → Wd} {q c n : Nat} {M : Int} (hset : ∀ i, i < n → (mtw (D (p i)) vo k b e ↔ q ≤ i ∧ i < q + c)) (hqc : q + c ≤ n) (hord : ∀ i j, q ≤ i → i < j → j < q + c → (D (p i)).1.2.2.1.toInt < (D (p j)).1.2.2.1.toInt) (hcnt : ∀ i, i < n → 1 ≤ (D (p i)).2.2.1.1.toInt) (hM : M < 2147483647) :
    ∀ (m i : Nat) (S : Md) (R : Rs) (T : Tl), i + m = c → WSim ρ (n - i) (vl p D q i) (mw S) → RSim R S → S.nwin = nI (n - i) → csum (fun j => (vl p D q i j).2.2.1.1.toInt) (n - i) + T.1.toInt = M → 1 + (i : Int) ≤ T.1.toInt →
    ∃ S', gp_run vo k b e (n - i) S R.1 T = (S', (tb_run p D m (q + i) R).1, n - c, tf (fun j => (D (p j)).2.2.1) m (q + i) T) ∧ WSim ρ (n - c) (vl p D q c) (mw S') ∧ RSim (tb_run p D m (q + i) R) S' ∧ S'.nwin = nI (n - c) ∧ S'.st = S.st ∧ csum (fun j => (vl p D q c j).2.2.1.1.toInt) (n - c) + (tf (fun j => (D (p j)).2.2.1) m (q + i) T).1.toInt = M ∧ 1 + (c : Int) ≤ (tf (fun j => (D (p j)).2.2.1) m (q + i) T).1.toInt := by
  intro m
  induction m with
  | zero =>
    intro i S R T e0 hW hR hn hs hT
    have ei : i = c := by omega
    subst ei
    refine ⟨S, ?_, hW, hR, hn, rfl, hs, hT⟩
    show gp_run vo k b e (n - i) S R.1 T = (S, R.1, n - i, T)
    cases hni : n - i with
    | zero => rfl
    | succ n' =>
      have hnone : gm_pick S vo k b e (n' + 1) 0 none = none := by
        have hg := gm_all S vo k b e (n' + 1)
        cases hp : gm_pick S vo k b e (n' + 1) 0 none with
        | none => rfl
        | some x =>
          exfalso
          rw [hp] at hg
          rw [hni] at hW
          obtain ⟨j, j1, j2⟩ := hW.2.1 x hg.1
          have h1 : mtw (vl p D q i j) vo k b e := (mtw_1 j2.1).mpr ((mt_is_mtw S x vo k b e).mp hg.2.1)
          unfold vl at h1
          by_cases z : j < q
          · rw [if_pos z] at h1
            have := (hset j (by omega)).mp h1
            omega
          · rw [if_neg z] at h1
            have := (hset (j + i) (by omega)).mp h1
            omega
      unfold gp_run
      rw [hnone]
  | succ m ih =>
    intro i S R T e0 hW hR hn hs hT
    obtain ⟨n', hni⟩ : ∃ n', n - i = n' + 1 := ⟨n - i - 1, by omega⟩
    have hq0 : vl p D q i q = D (p (q + i)) := by unfold vl; rw [if_neg (by omega)]
    have hpick : ∃ w, gm_pick S vo k b e (n' + 1) 0 none = some w ∧ w < n' + 1 ∧ wsim ρ (D (p (q + i))) (mw S w) := by
      have hg := gm_all S vo k b e (n' + 1)
      rw [hni] at hW
      obtain ⟨w', w1, w2⟩ := hW.1 q (by omega)
      rw [hq0] at w2
      have mw' : mt_is S w' vo k b e = true := (mt_is_mtw S w' vo k b e).mpr ((mtw_1 w2.1).mp ((hset (q + i) (by omega)).mpr (by omega)))
      cases hp : gm_pick S vo k b e (n' + 1) 0 none with
      | none =>
        rw [hp] at hg
        have := hg w' w1
        rw [mw'] at this
        cases this
      | some w =>
        rw [hp] at hg
        obtain ⟨g1, g2, g3⟩ := hg
        refine ⟨w, rfl, g1, ?_⟩
        obtain ⟨j, j1, j2⟩ := hW.2.1 w g1
        have h1 : mtw (vl p D q i j) vo k b e := (mtw_1 j2.1).mpr ((mt_is_mtw S w vo k b e).mp g2)
        have hnl := g3 w' w1 mw'
        have b1 : S.wBeg w = (vl p D q i j).1.2.2.1 := by rw [j2.1]; rfl
        have b2 : S.wBeg w' = (D (p (q + i))).1.2.2.1 := by rw [w2.1]; rfl
        unfold vl at h1 b1 j2
        by_cases z : j < q
        · rw [if_pos z] at h1
          have := (hset j (by omega)).mp h1
          omega
        · rw [if_neg z] at h1 b1 j2
          have h2 := (hset (j + i) (by omega)).mp h1
          by_cases z2 : j = q
          · rw [z2] at j2; exact j2
          · exfalso
            have h3 := hord (q + i) (j + i) (by omega) (by omega) h2.2
            exact hnl (Int32.lt_iff_toInt_lt.mpr (by rw [b1, b2]; exact h3))
    obtain ⟨w, p1, p2, p3⟩ := hpick
    have hbk : mw (gp_s S R.1 w) = mw S := by
      unfold gp_s
      split
      · exact back_mw S R.1 w
      · rfl
    have htd : S.wTold w = (D (p (q + i))).2.1.1 := p3.2.1.symm
    have hR' : RSim (if (D (p (q + i))).2.1.1 = true then rs_push R (rv_rec (-1) (D (p (q + i)))) else R) (gp_s S R.1 w) ∧ (if (D (p (q + i))).2.1.1 = true then rs_push R (rv_rec (-1) (D (p (q + i)))) else R).1 = gp_r S R.1 w ∧ (gp_s S R.1 w).st = S.st ∧ (gp_s S R.1 w).nwin = S.nwin := by
      unfold gp_s gp_r
      rw [htd]
      by_cases ht : (D (p (q + i))).2.1.1 = true
      · rw [if_pos ht, if_pos ht, if_pos ht]
        have hp := hR.push w (-1) (D (p (q + i))) p3.1
        rw [p3.2.2.2.1 ht] at hp
        exact ⟨hp.1, hp.2, back_st _ _ _, back_nwin _ _ _⟩
      · rw [if_neg ht, if_neg ht, if_neg ht]
        exact ⟨hR, rfl, rfl, rfl⟩
    obtain ⟨r1, r2, r3, r4⟩ := hR'
    have hW' : WSim ρ (n - (i + 1)) (vl p D q (i + 1)) (mw (md_rem (gp_s S R.1 w) (n' + 1) w)) := by
      rw [hni] at hW
      have := hW.del (j0 := q) (w0 := w) (by omega) p2 (by rw [hq0]; exact p3.kw) (cw' := vl p D q (i + 1)) (rw' := mw (md_rem (gp_s S R.1 w) (n' + 1) w)) (fun j hj => by
        unfold vl
        by_cases z : q ≤ j
        · rw [if_neg (by omega), if_pos z, if_neg (by omega), show j + (i + 1) = j + 1 + i by omega]
        · rw [if_pos (by omega), if_neg z, if_pos (by omega)]) (fun v hv => by
        rw [rem_mw _ _ _ _ p2 hv, hbk])
      rw [show n - (i + 1) = n' + 1 - 1 by omega]
      exact this
    have hdel := csum_del (f := fun j => (vl p D q i j).2.2.1.1.toInt) (g := fun j => (vl p D q (i + 1) j).2.2.1.1.toInt) (j := q) (n - i) (by omega) (fun j hj => by
      (try dsimp only)
      unfold vl
      by_cases z : q ≤ j
      · rw [if_neg (by omega), if_pos z, if_neg (by omega), show j + (i + 1) = j + 1 + i by omega]
      · rw [if_pos (by omega), if_neg z, if_pos (by omega)])
    have hpos : ∀ j, j < n - i → 0 ≤ (vl p D q i j).2.2.1.1.toInt := fun j hj => by
      unfold vl
      by_cases z : j < q
      · rw [if_pos z]; have := hcnt j (by omega); omega
      · rw [if_neg z]; have := hcnt (j + i) (by omega); omega
    have hge := (csum_ge (f := fun j => (vl p D q i j).2.2.1.1.toInt) (n - i) hpos).2 q (by omega)
    have hpos2 : ∀ j, j < n - (i + 1) → 0 ≤ (vl p D q (i + 1) j).2.2.1.1.toInt := fun j hj => by
      unfold vl
      by_cases z : j < q
      · rw [if_pos z]; have := hcnt j (by omega); omega
      · rw [if_neg z]; have := hcnt (j + (i + 1)) (by omega); omega
    have hge0 := (csum_ge (f := fun j => (vl p D q (i + 1) j).2.2.1.1.toInt) (n - (i + 1)) hpos2).1
    (try dsimp only at hdel hge)
    rw [hq0] at hdel hge
    rw [show n - i - 1 = n - (i + 1) by omega] at hdel
    have hc1 := hcnt (q + i) (by omega)
    have eT : gp_t (gp_s S R.1 w) w T = tl_all T (D (p (q + i))).2.2.1 := by
      rw [gp_t_eq, hbk, p3.2.2.1]
    have hTi : (tl_all T (D (p (q + i))).2.2.1).1.toInt = T.1.toInt + (D (p (q + i))).2.2.1.1.toInt := by
      show (T.1 + (D (p (q + i))).2.2.1.1).toInt = _
      exact tA (by omega) (by omega)
    obtain ⟨S', a1, a2, a3, a4, a5, a6, a7⟩ := ih (i + 1) (md_rem (gp_s S R.1 w) (n' + 1) w) (if (D (p (q + i))).2.1.1 = true then rs_push R (rv_rec (-1) (D (p (q + i)))) else R) (tl_all T (D (p (q + i))).2.2.1) (by omega) hW' (r1.rem _ _) (by
      rw [rem_nwin w (by omega) (r4.trans (hn.trans (by rw [hni]))), show n' + 1 - 1 = n - (i + 1) by omega]) (by rw [hTi]; omega) (by rw [hTi]; omega)
    have es : (md_rem (gp_s S R.1 w) (n' + 1) w).st = S.st := (rem_st _ _ _).trans r3
    refine ⟨S', ?_, a2, a3, a4, a5.trans es, a6, a7⟩
    rw [show n - (i + 1) = n' by omega, r2] at a1
    rw [hni]
    unfold gp_run
    rw [p1]
    dsimp only
    rw [eT, a1]
    rfl
