/-! THE LAW: its loop -/
theorem INV.obx {x : Nat} {σ : rv_S} (h : INV x σ) : ∃ fs, σ.2 x = some (.inl (k_Late, fs)) := by
  obtain ⟨_, _, _, _, _, _, _, _, _, _, _, _, _, _, _, _, _, _, _, _, _, h1, h2, h3⟩ := h
  exact ⟨_, h1.1.1.1⟩
theorem INV.lt {x : Nat} {σ : rv_S} (h : INV x σ) : x + 411 ≤ σ.1 := by
  obtain ⟨_, _, _, _, _, _, _, _, _, _, _, _, _, _, _, _, _, _, _, _, _, h1, h2, h3⟩ := h
  exact h1.2.2.2.2.2.2.2.1.2.2
set_option maxHeartbeats 8000000 in
set_option maxRecDepth 100000 in
theorem law_loop {G : rv_G} {x b L : Nat} {xs : Nat → Int32} (hbx : b < x) (hL : L ≤ 3072) : ∀ (t i : Nat) (vi : Int32) (σ : rv_S) (ce sl : Nat), vi = nI (6 * i) → L < 6 * (i + t) + 6 → i + t ≤ 512 → INV x σ → σ.2 b = some (rv_aT L xs) → ce + t ≤ 600000 → sl + 9 * t ≤ 7302250 →
    rv_V G m_Law_law 600000 7302250 (fun r _ => r = some (.int 1)) 18 [some (.ref b), some (.ref x), some (.ref (x + 374)), some (.int vi)] [] σ ce sl := by
  have cmp : ∀ (i : Nat) (vi : Int32), vi = nI (6 * i) → i ≤ 512 → (nI L - 6 < vi ↔ L < 6 * i + 6) := fun i vi hv hi => by
    rw [hv, Int32.lt_iff_toInt_lt, tS (by rw [nI_toInt (by omega), show (6 : Int32).toInt = 6 from rfl]; omega) (by rw [nI_toInt (by omega), show (6 : Int32).toInt = 6 from rfl]; omega), nI_toInt (by omega), nI_toInt (by omega), show (6 : Int32).toInt = 6 from rfl]
    omega
  intro t
  induction t with
  | zero =>
    intro i vi σ ce sl hv hLt hi hI hb hce hsl
    refine rv_V.run rv_gd_Law_law [632] 400 ?_
    refine ⟨_, _, _, hb, ?_⟩
    refine And.intro (fun c1 => ?_) (fun c1 => ?_)
    · exact And.intro (Or.inr rfl) rfl
    · exact absurd ((cmp i vi hv (by omega)).mpr (by omega)) c1
  | succ t ih =>
    intro i vi σ ce sl hv hLt hi hI hb hce hsl
    have next : ∀ (σ2 : rv_S) (ce2 sl2 : Nat), INV x σ2 → σ2.2 b = some (rv_aT L xs) → ce2 ≤ ce + 1 → sl2 ≤ sl + 9 → rv_V G m_Law_law 600000 7302250 (fun r _ => r = some (.int 1)) 632 [some (.ref b), some (.ref x), some (.ref (x + 374)), some (.int vi)] [] σ2 ce2 sl2 := by
      intro σ2 ce2 sl2 hI2 hb2 h1 h2
      refine rv_V.run rv_gd_Law_law [18] 400 ?_
      exact ih (i + 1) (vi + 6) σ2 ce2 sl2 (by rw [hv]; exact nI_add (6 * i) 6) (by omega) (by omega) hI2 hb2 (by omega) (by omega)
    refine rv_V.run rv_gd_Law_law [632] 400 ?_
    refine ⟨_, _, _, hb, ?_⟩
    refine And.intro (fun c1 => ?_) (fun c1 => ?_)
    · exact And.intro (Or.inr rfl) rfl
    have hiL : 6 * i + 6 ≤ L := by
      rcases Nat.lt_or_ge L (6 * i + 6) with z | z
      · exact absurd ((cmp i vi hv (by omega)).mpr z) c1
      · exact z
    have n0 : vp_in vi L := by rw [hv]; exact vp_in_nI (by omega) (by omega)
    have n1 : vp_in (vi + 1) L := by rw [hv, show nI (6 * i) + 1 = nI (6 * i + 1) from nI_add (6 * i) 1]; exact vp_in_nI (by omega) (by omega)
    have n2 : vp_in (vi + 2) L := by rw [hv, show nI (6 * i) + 2 = nI (6 * i + 2) from nI_add (6 * i) 2]; exact vp_in_nI (by omega) (by omega)
    have n3 : vp_in (vi + 3) L := by rw [hv, show nI (6 * i) + 3 = nI (6 * i + 3) from nI_add (6 * i) 3]; exact vp_in_nI (by omega) (by omega)
    have n4 : vp_in (vi + 4) L := by rw [hv, show nI (6 * i) + 4 = nI (6 * i + 4) from nI_add (6 * i) 4]; exact vp_in_nI (by omega) (by omega)
    have n5 : vp_in (vi + 5) L := by rw [hv, show nI (6 * i) + 5 = nI (6 * i + 5) from nI_add (6 * i) 5]; exact vp_in_nI (by omega) (by omega)
    refine ⟨L, xs, Or.inr hb, n0, ?_⟩
    refine And.intro (fun e0 => ?_) (fun e0 => ?_)
    · refine ⟨L, xs, Or.inr hb, n1, ?_⟩
      refine ⟨L, xs, Or.inr hb, n2, ?_⟩
      refine ⟨L, xs, Or.inr hb, n3, ?_⟩
      refine ⟨L, xs, Or.inr hb, n4, ?_⟩
      refine ⟨L, xs, Or.inr hb, n5, ?_⟩
      refine And.intro hI.obx ?_
      refine ⟨_, _, _, step_operator hI _ _ _ _ _, by omega, by omega, rfl, ?_⟩
      rintro _ σ1 ⟨⟨ho1, ob1⟩, a, rfl, h2⟩
      have hb1 : σ1.2 b = some (rv_aT L xs) := (ho1 b (by unfold LB; omega)).trans hb
      refine ⟨L, xs, Or.inr hb1, n1, ?_⟩
      refine ⟨L, xs, Or.inr hb1, n2, ?_⟩
      refine ⟨L, xs, Or.inr hb1, n3, ?_⟩
      refine ⟨L, xs, Or.inr hb1, n4, ?_⟩
      refine ⟨L, xs, Or.inr hb1, n5, ?_⟩
      refine And.intro ob1 ?_
      refine ⟨_, _, _, h2, by omega, by omega, rfl, ?_⟩
      rintro _ σ2 ⟨rfl, hI2, ho2⟩
      refine And.intro (fun _ => ?_) (fun z => absurd rfl z)
      exact next σ2 _ _ hI2 ((ho2 b (by unfold LB; omega)).trans hb1) (by omega) (by omega)
    refine And.intro (fun e0 => ?_) (fun e0 => ?_)
    · refine ⟨L, xs, Or.inr hb, n1, ?_⟩
      refine And.intro hI.obx ?_
      refine ⟨_, _, _, step_source hI _, by omega, by omega, rfl, ?_⟩
      rintro _ σ1 ⟨⟨ho1, ob1⟩, a, rfl, h2⟩
      have hb1 : σ1.2 b = some (rv_aT L xs) := (ho1 b (by unfold LB; omega)).trans hb
      refine ⟨L, xs, Or.inr hb1, n1, ?_⟩
      refine And.intro ob1 ?_
      refine ⟨_, _, _, h2, by omega, by omega, rfl, ?_⟩
      rintro _ σ2 ⟨rfl, hI2, ho2⟩
      refine And.intro (fun _ => ?_) (fun z => absurd rfl z)
      exact next σ2 _ _ hI2 ((ho2 b (by unfold LB; omega)).trans hb1) (by omega) (by omega)
    refine And.intro (fun e0 => ?_) (fun e0 => ?_)
    · refine ⟨L, xs, Or.inr hb, n1, ?_⟩
      refine ⟨L, xs, Or.inr hb, n2, ?_⟩
      refine And.intro hI.obx ?_
      refine ⟨_, _, _, step_promise hI _ _, by omega, by omega, rfl, ?_⟩
      rintro _ σ1 ⟨⟨ho1, ob1⟩, a, rfl, h2⟩
      have hb1 : σ1.2 b = some (rv_aT L xs) := (ho1 b (by unfold LB; omega)).trans hb
      refine ⟨L, xs, Or.inr hb1, n1, ?_⟩
      refine ⟨L, xs, Or.inr hb1, n2, ?_⟩
      refine And.intro ob1 ?_
      refine ⟨_, _, _, h2, by omega, by omega, rfl, ?_⟩
      rintro _ σ2 ⟨rfl, hI2, ho2⟩
      refine And.intro (fun _ => ?_) (fun z => absurd rfl z)
      exact next σ2 _ _ hI2 ((ho2 b (by unfold LB; omega)).trans hb1) (by omega) (by omega)
    refine And.intro (fun e0 => ?_) (fun e0 => ?_)
    · refine ⟨L, xs, Or.inr hb, n1, ?_⟩
      refine And.intro hI.obx ?_
      refine ⟨_, _, _, step_end hI _, by omega, by omega, rfl, ?_⟩
      rintro _ σ1 ⟨⟨ho1, ob1⟩, a, rfl, h2⟩
      have hb1 : σ1.2 b = some (rv_aT L xs) := (ho1 b (by unfold LB; omega)).trans hb
      refine ⟨L, xs, Or.inr hb1, n1, ?_⟩
      refine And.intro ob1 ?_
      refine ⟨_, _, _, h2, by omega, by omega, rfl, ?_⟩
      rintro _ σ2 ⟨rfl, hI2, ho2⟩
      refine And.intro (fun _ => ?_) (fun z => absurd rfl z)
      exact next σ2 _ _ hI2 ((ho2 b (by unfold LB; omega)).trans hb1) (by omega) (by omega)
    refine And.intro (fun e0 => ?_) (fun e0 => ?_)
    · refine ⟨L, xs, Or.inr hb, n1, ?_⟩
      refine ⟨L, xs, Or.inr hb, n2, ?_⟩
      refine ⟨L, xs, Or.inr hb, n3, ?_⟩
      refine ⟨L, xs, Or.inr hb, n4, ?_⟩
      refine And.intro hI.obx ?_
      refine ⟨_, _, _, step_row hI _ _ _ _, by omega, by omega, rfl, ?_⟩
      rintro _ σ1 ⟨⟨ho1, ob1⟩, a, rfl, h2⟩
      have hb1 : σ1.2 b = some (rv_aT L xs) := (ho1 b (by unfold LB; omega)).trans hb
      refine ⟨L, xs, Or.inr hb1, n1, ?_⟩
      refine ⟨L, xs, Or.inr hb1, n2, ?_⟩
      refine ⟨L, xs, Or.inr hb1, n3, ?_⟩
      refine ⟨L, xs, Or.inr hb1, n4, ?_⟩
      refine And.intro ob1 ?_
      refine ⟨_, _, _, h2, by omega, by omega, rfl, ?_⟩
      rintro _ σ2 ⟨rfl, hI2, ho2⟩
      refine And.intro (fun _ => ?_) (fun z => absurd rfl z)
      exact next σ2 _ _ hI2 ((ho2 b (by unfold LB; omega)).trans hb1) (by omega) (by omega)
    refine And.intro (fun e0 => ?_) (fun e0 => ?_)
    · refine ⟨L, xs, Or.inr hb, n1, ?_⟩
      refine ⟨L, xs, Or.inr hb, n2, ?_⟩
      refine And.intro hI.obx ?_
      refine ⟨_, _, _, step_result hI _ _, by omega, by omega, rfl, ?_⟩
      rintro _ σ1 ⟨⟨ho1, ob1⟩, a, rfl, h2⟩
      have hb1 : σ1.2 b = some (rv_aT L xs) := (ho1 b (by unfold LB; omega)).trans hb
      refine ⟨L, xs, Or.inr hb1, n1, ?_⟩
      refine ⟨L, xs, Or.inr hb1, n2, ?_⟩
      refine And.intro ob1 ?_
      refine ⟨_, _, _, h2, by omega, by omega, rfl, ?_⟩
      rintro _ σ2 ⟨rfl, hI2, ho2⟩
      refine And.intro (fun _ => ?_) (fun z => absurd ((rv_cmp_eq a a).mpr rfl) z)
      exact next σ2 _ _ hI2 ((ho2 b (by unfold LB; omega)).trans hb1) (by omega) (by omega)
    refine And.intro (fun e0 => ?_) (fun e0 => ?_)
    · refine ⟨L, xs, Or.inr hb, n1, ?_⟩
      refine ⟨L, xs, Or.inr hb, n2, ?_⟩
      refine And.intro hI.obx ?_
      refine ⟨_, _, _, step_aside hI _ _, by omega, by omega, rfl, ?_⟩
      rintro _ σ1 ⟨⟨ho1, ob1⟩, a, rfl, h2⟩
      have hb1 : σ1.2 b = some (rv_aT L xs) := (ho1 b (by unfold LB; omega)).trans hb
      refine ⟨L, xs, Or.inr hb1, n1, ?_⟩
      refine ⟨L, xs, Or.inr hb1, n2, ?_⟩
      refine And.intro ob1 ?_
      refine ⟨_, _, _, h2, by omega, by omega, rfl, ?_⟩
      rintro _ σ2 ⟨rfl, hI2, ho2⟩
      refine And.intro (fun _ => ?_) (fun z => absurd rfl z)
      exact next σ2 _ _ hI2 ((ho2 b (by unfold LB; omega)).trans hb1) (by omega) (by omega)
    refine And.intro (fun e0 => ?_) (fun e0 => ?_)
    · refine And.intro hI.obx ?_
      refine ⟨_, _, _, step_take hI, by omega, by omega, rfl, ?_⟩
      rintro _ σ1 ⟨⟨ho1, ob1⟩, a, rfl, h2⟩
      have hb1 : σ1.2 b = some (rv_aT L xs) := (ho1 b (by unfold LB; omega)).trans hb
      refine And.intro ob1 ?_
      refine ⟨_, _, _, h2, by omega, by omega, rfl, ?_⟩
      rintro _ σ2 ⟨rfl, hI2, ho2⟩
      refine And.intro (fun _ => ?_) (fun z => absurd rfl z)
      exact next σ2 _ _ hI2 ((ho2 b (by unfold LB; omega)).trans hb1) (by omega) (by omega)
    refine And.intro (fun e0 => ?_) (fun e0 => ?_)
    · refine ⟨L, xs, Or.inr hb, n1, ?_⟩
      refine ⟨L, xs, Or.inr hb, n2, ?_⟩
      refine And.intro hI.obx ?_
      refine ⟨_, _, _, step_bound hI _ _, by omega, by omega, rfl, ?_⟩
      rintro _ σ1 ⟨⟨ho1, ob1⟩, a, rfl, h2⟩
      have hb1 : σ1.2 b = some (rv_aT L xs) := (ho1 b (by unfold LB; omega)).trans hb
      refine ⟨L, xs, Or.inr hb1, n1, ?_⟩
      refine ⟨L, xs, Or.inr hb1, n2, ?_⟩
      refine And.intro ob1 ?_
      refine ⟨_, _, _, h2, by omega, by omega, rfl, ?_⟩
      rintro _ σ2 ⟨rfl, hI2, ho2⟩
      refine And.intro (fun _ => ?_) (fun z => absurd rfl z)
      exact next σ2 _ _ hI2 ((ho2 b (by unfold LB; omega)).trans hb1) (by omega) (by omega)
    refine And.intro (fun e0 => ?_) (fun e0 => ?_)
    · refine ⟨L, xs, Or.inr hb, n1, ?_⟩
      refine ⟨L, xs, Or.inr hb, n2, ?_⟩
      refine And.intro hI.obx ?_
      refine ⟨_, _, _, step_of hI _ _, by omega, by omega, rfl, ?_⟩
      rintro _ σ1 ⟨⟨ho1, ob1⟩, a, rfl, h2⟩
      have hb1 : σ1.2 b = some (rv_aT L xs) := (ho1 b (by unfold LB; omega)).trans hb
      refine ⟨L, xs, Or.inr hb1, n1, ?_⟩
      refine ⟨L, xs, Or.inr hb1, n2, ?_⟩
      refine And.intro ob1 ?_
      refine ⟨_, _, _, h2, by omega, by omega, rfl, ?_⟩
      rintro _ σ2 ⟨rfl, hI2, ho2⟩
      refine And.intro (fun _ => ?_) (fun z => absurd rfl z)
      exact next σ2 _ _ hI2 ((ho2 b (by unfold LB; omega)).trans hb1) (by omega) (by omega)
    refine And.intro (fun e0 => ?_) (fun e0 => ?_)
    · refine ⟨L, xs, Or.inr hb, n1, ?_⟩
      refine And.intro hI.obx ?_
      refine ⟨_, _, _, step_mark hI _, by omega, by omega, rfl, ?_⟩
      rintro _ σ1 ⟨⟨ho1, ob1⟩, a, rfl, h2⟩
      have hb1 : σ1.2 b = some (rv_aT L xs) := (ho1 b (by unfold LB; omega)).trans hb
      refine ⟨L, xs, Or.inr hb1, n1, ?_⟩
      refine And.intro ob1 ?_
      refine ⟨_, _, _, h2, by omega, by omega, rfl, ?_⟩
      rintro _ σ2 ⟨rfl, hI2, ho2⟩
      refine And.intro (fun _ => ?_) (fun z => absurd rfl z)
      exact next σ2 _ _ hI2 ((ho2 b (by unfold LB; omega)).trans hb1) (by omega) (by omega)
    refine And.intro (fun e0 => ?_) (fun e0 => ?_)
    · refine ⟨L, xs, Or.inr hb, n1, ?_⟩
      refine ⟨L, xs, Or.inr hb, n2, ?_⟩
      refine ⟨L, xs, Or.inr hb, n3, ?_⟩
      refine ⟨L, xs, Or.inr hb, n4, ?_⟩
      refine And.intro hI.obx ?_
      refine ⟨_, _, _, step_window hI _ _ _ _, by omega, by omega, rfl, ?_⟩
      rintro _ σ1 ⟨⟨ho1, ob1⟩, a, rfl, h2⟩
      have hb1 : σ1.2 b = some (rv_aT L xs) := (ho1 b (by unfold LB; omega)).trans hb
      refine ⟨L, xs, Or.inr hb1, n1, ?_⟩
      refine ⟨L, xs, Or.inr hb1, n2, ?_⟩
      refine ⟨L, xs, Or.inr hb1, n3, ?_⟩
      refine ⟨L, xs, Or.inr hb1, n4, ?_⟩
      refine And.intro ob1 ?_
      refine ⟨_, _, _, h2, by omega, by omega, rfl, ?_⟩
      rintro _ σ2 ⟨rfl, hI2, ho2⟩
      refine And.intro (fun _ => ?_) (fun z => absurd ((rv_cmp_eq a a).mpr rfl) z)
      exact next σ2 _ _ hI2 ((ho2 b (by unfold LB; omega)).trans hb1) (by omega) (by omega)
    refine And.intro (fun e0 => ?_) (fun e0 => ?_)
    · refine ⟨L, xs, Or.inr hb, n1, ?_⟩
      refine ⟨L, xs, Or.inr hb, n2, ?_⟩
      refine And.intro (fun c2 => ?_) (fun c2 => ?_)
      · refine And.intro hI.obx ?_
        refine ⟨_, _, _, step_pass hI _ false, by omega, by omega, rfl, ?_⟩
        rintro _ σ1 ⟨⟨ho1, ob1⟩, a, rfl, h2⟩
        have hb1 : σ1.2 b = some (rv_aT L xs) := (ho1 b (by unfold LB; omega)).trans hb
        refine ⟨L, xs, Or.inr hb1, n1, ?_⟩
        refine ⟨L, xs, Or.inr hb1, n2, ?_⟩
        refine And.intro (fun z0 => ?_) (fun z0 => absurd c2 z0)
        refine And.intro ob1 ?_
        refine ⟨_, _, _, h2, by omega, by omega, rfl, ?_⟩
        rintro _ σ2 ⟨rfl, hI2, ho2⟩
        refine And.intro (fun _ => ?_) (fun z => absurd rfl z)
        exact next σ2 _ _ hI2 ((ho2 b (by unfold LB; omega)).trans hb1) (by omega) (by omega)
      · refine And.intro hI.obx ?_
        refine ⟨_, _, _, step_pass hI _ true, by omega, by omega, rfl, ?_⟩
        rintro _ σ1 ⟨⟨ho1, ob1⟩, a, rfl, h2⟩
        have hb1 : σ1.2 b = some (rv_aT L xs) := (ho1 b (by unfold LB; omega)).trans hb
        refine ⟨L, xs, Or.inr hb1, n1, ?_⟩
        refine ⟨L, xs, Or.inr hb1, n2, ?_⟩
        refine And.intro (fun z0 => absurd z0 c2) (fun z0 => ?_)
        refine And.intro ob1 ?_
        refine ⟨_, _, _, h2, by omega, by omega, rfl, ?_⟩
        rintro _ σ2 ⟨rfl, hI2, ho2⟩
        refine And.intro (fun _ => ?_) (fun z => absurd rfl z)
        exact next σ2 _ _ hI2 ((ho2 b (by unfold LB; omega)).trans hb1) (by omega) (by omega)
    refine And.intro (fun e0 => ?_) (fun e0 => ?_)
    · refine ⟨L, xs, Or.inr hb, n1, ?_⟩
      refine ⟨L, xs, Or.inr hb, n2, ?_⟩
      refine And.intro hI.obx ?_
      refine ⟨_, _, _, step_passed hI _ _, by omega, by omega, rfl, ?_⟩
      rintro _ σ1 ⟨⟨ho1, ob1⟩, a, rfl, h2⟩
      have hb1 : σ1.2 b = some (rv_aT L xs) := (ho1 b (by unfold LB; omega)).trans hb
      refine ⟨L, xs, Or.inr hb1, n1, ?_⟩
      refine ⟨L, xs, Or.inr hb1, n2, ?_⟩
      refine And.intro ob1 ?_
      refine ⟨_, _, _, h2, by omega, by omega, rfl, ?_⟩
      rintro _ σ2 ⟨rfl, hI2, ho2⟩
      refine And.intro (fun _ => ?_) (fun z => absurd ((rv_cmp_eq a a).mpr rfl) z)
      exact next σ2 _ _ hI2 ((ho2 b (by unfold LB; omega)).trans hb1) (by omega) (by omega)
    refine And.intro (fun e0 => ?_) (fun e0 => ?_)
    · refine ⟨L, xs, Or.inr hb, n1, ?_⟩
      refine And.intro hI.obx ?_
      refine ⟨_, _, _, step_count hI _, by omega, by omega, rfl, ?_⟩
      rintro _ σ1 ⟨⟨ho1, ob1⟩, a, rfl, h2⟩
      have hb1 : σ1.2 b = some (rv_aT L xs) := (ho1 b (by unfold LB; omega)).trans hb
      refine ⟨L, xs, Or.inr hb1, n1, ?_⟩
      refine And.intro ob1 ?_
      refine ⟨_, _, _, h2, by omega, by omega, rfl, ?_⟩
      rintro _ σ2 ⟨rfl, hI2, ho2⟩
      refine And.intro (fun _ => ?_) (fun z => absurd rfl z)
      exact next σ2 _ _ hI2 ((ho2 b (by unfold LB; omega)).trans hb1) (by omega) (by omega)
    exact next σ _ _ hI hb (by omega) (by omega)
