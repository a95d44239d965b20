/-! THE LAW: two new objects -/
theorem sf_val : ∀ (t i : Nat) (f : Nat → Int32) (j : Nat), sf_run t i f j = if i ≤ j ∧ j < i + t then -99999999 else f j
  | 0, i, f, j => by rw [if_neg (by omega)]; rfl
  | t + 1, i, f, j => by
    unfold sf_run
    rw [sf_val t (i + 1)]
    by_cases z : j = i
    · subst z
      rw [if_neg (by omega), if_pos (by omega), pk_us]
    · rw [pk_un z]
      by_cases z2 : i + 1 ≤ j ∧ j < i + 1 + t
      · rw [if_pos z2, if_pos (by omega)]
      · rw [if_neg z2, if_neg (by omega)]
theorem sim_new : SIM 0 (fun _ => (0, 0, 0, 0, 0, 0)) 0 (fun _ => sd_new 0) 0 (fun _ => 0) (fun _ => (0, 0, 0, 0, false)) 0 (fun j => j) (fun _ => wd0) (0, fun _ _ => 0, 0) 0 (fun _ _ => 0) 100 0 0 (0, fun _ => 0) md0 := by
  have h0 : md0 = md00.u_sFirst (sf_run 10 0 (fun _ => 0)) := rfl
  obtain ⟨⟨q1, q2, q3, q4, q5, q6, q7, q8, q9, q10, -, -, -, -, q15⟩, p1, p2, p3, p4, p5, p6, p7⟩ := first_all md00 (sf_run 10 0 (fun _ => 0))
  rw [← h0] at q1 q2 q3 q4 q5 q6 q7 q8 q9 q10 q15 p1 p2 p3 p4 p5 p6 p7
  have hmark : ∀ j, md0.oMark j = 0 := fun j => by
    unfold Md.oMark
    rw [p1]
    rfl
  refine ⟨fun _ => 0, ⟨q1, by omega, fun j hj => absurd hj (by omega), fun j _ _ => hmark j⟩, ⟨q2, by omega, fun j hj => absurd hj (by omega), fun j _ hj => ?_⟩, ⟨⟨⟨fun j hj => absurd hj (by omega), fun j hj => absurd hj (by omega), fun j _ hj => absurd hj (by omega), fun j _ hj => absurd hj (by omega)⟩, fun i j _ hj => absurd hj (by omega), ⟨q5, by (try dsimp only); omega, q6.symm, fun j hj => absurd hj (by (try dsimp only); omega)⟩, q4, by omega, fun j hj => hj, fun i j _ _ z => z⟩, fun j hj => absurd hj (by omega)⟩, ⟨fun j hj => absurd hj (by omega), fun i j _ hj => absurd hj (by omega), fun j hj => absurd hj (by omega), by show (0 : Int) ≤ 8 * ((0 : Nat) : Int); omega⟩, ⟨q3, by omega, ⟨fun _ => 0, fun i hi => absurd hi (by omega), List.Perm.refl _⟩, fun i j _ hj => absurd hj (by omega), fun i hi => absurd hi (by omega)⟩, ⟨q7, by omega, by omega, q8, q9, q10, fun j hj => absurd hj (by omega)⟩, ⟨q15, by (try dsimp only); omega, fun i hi => absurd hi (by (try dsimp only at hi); omega)⟩⟩
  rw [ms_of md0 0 j p2, sf_val, if_pos (by omega)]
  rfl
theorem PNew.kept {g g' : Nat → Option rv_E} {x : Nat} (h : PNew g x) (hk : ∀ q, x ≤ q → q < x + 374 → g' q = g q) : PNew g' x := by
  obtain ⟨h1, h2, h3, ⟨h4, h5⟩, h6, h7, ⟨h8, h9⟩, ⟨h10, h11⟩, h12, h13⟩ := h
  exact ⟨(hk _ (by omega) (by omega)).trans h1, (hk _ (by omega) (by omega)).trans h2, (hk _ (by omega) (by omega)).trans h3, ⟨(hk _ (by omega) (by omega)).trans h4, (hk _ (by omega) (by omega)).trans h5⟩, h6.kept (fun q z1 z2 => hk q (by omega) (by omega)), (hk _ (by omega) (by omega)).trans h7, ⟨(hk _ (by omega) (by omega)).trans h8, (hk _ (by omega) (by omega)).trans h9⟩, ⟨(hk _ (by omega) (by omega)).trans h10, (hk _ (by omega) (by omega)).trans h11⟩, (hk _ (by omega) (by omega)).trans h12, (hk _ (by omega) (by omega)).trans h13⟩
theorem inv_new {x : Nat} {σ : rv_S} (e : σ.1 = x + 411) (hP : PNew σ.2 x) (hM : MI σ σ (x + 374) (md (x + 374) md0)) (hbd : rv_bd σ) : INV x σ := by
  obtain ⟨h1, h2, h3, ⟨h4, h5⟩, h6, h7, ⟨h8, h9⟩, ⟨h10, h11⟩, h12, h13⟩ := hP
  refine ⟨0, fun _ => 0, fun _ => (0, 0, 0, 0, 0, 0), 0, fun _ => 0, fun _ => sd_new 0, 0, fun _ => 0, fun _ => 0, fun _ => (0, 0, 0, 0, false), 0, fun j => j, fun _ => wd0, (0, fun _ _ => 0, 0), 0, fun _ _ => 0, 100, 0, 0, (0, fun _ => 0), md0, ⟨⟨⟨h1, h6, 0, 0, fun _ => 0, by omega, by omega, h8, h9, fun j hj => absurd hj (by omega)⟩, fun i j _ hj => absurd hj (by omega)⟩, ⟨⟨_, h2, fun j hj => absurd hj (by omega)⟩, fun j hj => absurd hj (by omega), by omega, fun i j hi => absurd hi (by omega)⟩, ⟨⟨_, h3, fun j hj => absurd hj (by omega)⟩, fun j hj => absurd hj (by omega), by omega, fun i j hi => absurd hi (by omega)⟩, ⟨h4, ⟨_, h5, fun j hj => absurd hj (by omega)⟩, fun j hj => absurd hj (by omega), by omega⟩, ⟨0, (0, 0, 0, false), h7⟩, ⟨0, 0, fun _ => 0, by omega, by omega, h10, h11, fun j hj => absurd hj (by omega)⟩, ⟨h12, h13, by (try dsimp only); omega⟩, ⟨hbd, by omega, by omega⟩, ⟨fun j hj => absurd hj (by omega), fun j hj => absurd hj (by omega), fun j hj => absurd hj (by omega)⟩, fun j hj => absurd hj (by omega), by omega⟩, hM, sim_new⟩
set_option maxHeartbeats 8000000 in
set_option maxRecDepth 100000 in
theorem law_start {G : rv_G} {N0 b L : Nat} {xs : Nat → Int32} {g0 : Nat → Option rv_E} (hb : b < N0) (hL : L ≤ 3072) (hg : g0 b = some (rv_aT L xs)) (hn : ∀ q, q ≠ b → g0 q = none) :
    rv_V G m_Law_law 600000 7302250 (fun r _ => r = some (.int 1)) 0 [some (.ref b), none, none, none] [] (N0, g0) 0 0 := by
  refine rv_V.run rv_gd_Law_law [18] 400 ?_
  refine ⟨Nat.le_of_ble_eq_true rfl, Nat.le_of_ble_eq_true rfl, ?_⟩
  refine ⟨_, _, _, ct_Late_init N0 rv_up_s, Nat.le_of_ble_eq_true rfl, Nat.le_of_ble_eq_true rfl, rfl, ?_⟩
  rintro _ ⟨n1, g1⟩ ⟨rfl, h1, hP, hk⟩
  dsimp only at h1 hP hk
  subst h1
  refine ⟨Nat.le_of_ble_eq_true rfl, Nat.le_of_ble_eq_true rfl, ?_⟩
  refine ⟨_, _, _, rt_init (N0 + 374) rv_up_s, Nat.le_of_ble_eq_true rfl, Nat.le_of_ble_eq_true rfl, rfl, ?_⟩
  rintro _ σ2 ⟨rfl, σ1, e1, hk1, hM⟩
  have eN : σ2.1 = N0 + 411 := by rw [hM.1, e1]
  have far : ∀ q, q < N0 + 374 ∨ N0 + 411 ≤ q → σ2.2 q = g1 q := fun q hq => by
    rw [hM.2.2 q (by unfold mdS; omega), hk1 q (by omega), rv_up_n (by omega)]
  have far0 : ∀ q, q < N0 ∨ N0 + 411 ≤ q → σ2.2 q = g0 q := fun q hq => by
    rw [far q (by omega), hk q (by omega), rv_up_n (by omega)]
  have hbd : rv_bd σ2 := fun a y hy => by
    rcases Nat.lt_or_ge a (N0 + 411) with z | z
    · omega
    · rw [far0 a (by omega), hn a (by omega)] at hy
      cases hy
  have hI : INV N0 σ2 := inv_new eN (hP.kept (fun q z1 z2 => far q (by omega))) hM.self hbd
  exact law_loop hb hL 512 0 0 σ2 _ _ nI_0.symm (by omega) (by omega) hI ((far0 b (by omega)).trans hg) (Nat.le_of_ble_eq_true rfl) (Nat.le_of_ble_eq_true rfl)
