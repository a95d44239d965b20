/-! THE REFERENCE: windows are joined -/
def md_gset (s : Md) (w : Nat) (t : Tl) : Md :=
  let s := s.u_wMany (upd s.wMany w (t.1))
  let s := s.u_wSum (vp_updL s.wSum w (t.2.1))
  let s := s.u_wLeast (upd s.wLeast w (t.2.2.1))
  let s := s.u_wMost (upd s.wMost w (t.2.2.2))
  s
def gm_bt (s : Md) (w : Nat) : Option Nat → Bool
  | none => true
  | some j => decide (s.wBeg w < s.wBeg j)
def gm_pick (s : Md) (vo k b e : Int32) : Nat → Nat → Option Nat → Option Nat
  | 0, _, q => q
  | t + 1, w, q => gm_pick s vo k b e t (w + 1) (if mt_is s w vo k b e = true ∧ gm_bt s w q = true then some w else q)
theorem gm_lt (s : Md) (vo k b e : Int32) : ∀ (t w : Nat) (q : Option Nat) (j : Nat), gm_pick s vo k b e t w q = some j → (∀ i, q = some i → i < w) → j < w + t
  | 0, w, q, j, h, hb => hb j h
  | t + 1, w, q, j, h, hb => by
    have := gm_lt s vo k b e t (w + 1) _ j h (fun i hi => by
      split at hi
      · cases hi; omega
      · have := hb i hi; omega)
    omega
def gp_s (s : Md) (r w : Nat) : Md := if s.wTold w = true then md_back s r w else s
def gp_r (s : Md) (r w : Nat) : Nat := if s.wTold w = true then rq r else r
def gp_t (s : Md) (w : Nat) (t : Tl) : Tl := (t.1 + s.wMany w, t.2.1 + s.wSum w, (if s.wLeast w < t.2.2.1 then s.wLeast w else t.2.2.1), (if t.2.2.2 < s.wMost w then s.wMost w else t.2.2.2))
def gp_run (vo k b e : Int32) : Nat → Md → Nat → Tl → Md × Nat × Nat × Tl
  | 0, s, r, t => (s, r, 0, t)
  | n + 1, s, r, t => match gm_pick s vo k b e (n + 1) 0 none with
    | none => (s, r, n + 1, t)
    | some w => gp_run vo k b e n (md_rem (gp_s s r w) (n + 1) w) (gp_r s r w) (gp_t (gp_s s r w) w t)
set_option maxRecDepth 100000 in
theorem lp_gm {G : rv_G} {σ0 σ : rv_S} {y n : Nat} {s : Md} {vo k time v v5 b e : Int32} {t : Tl} {Rt : Option Value → rv_S → Prop} (en : s.nwin = nI n) (hn : n ≤ 120) (h : MI σ0 σ y (md y s)) : ∀ (f w : Nat) (vw nv : Int32) (q : Option Nat), vw = nI w → w + f = n → nv = oi q → (∀ j, q = some j → j < 120) → (∀ (x14 : Option Value) (nv : Int32), nv = oi (gm_pick s vo k b e f w q) → rv_V G m_Model_gap 0 0 Rt 159 [some (.ref y), some (.int vo), some (.int k), some (.int time), some (.int v), some (.int v5), some (.int t.1), some (.long t.2.1), none, some (.int t.2.2.1), some (.int t.2.2.2), some (.int e), some (.int b), some (.int nv), x14] [] σ 0 0) →
    rv_V G m_Model_gap 0 0 Rt 101 [some (.ref y), some (.int vo), some (.int k), some (.int time), some (.int v), some (.int v5), some (.int t.1), some (.long t.2.1), none, some (.int t.2.2.1), some (.int t.2.2.2), some (.int e), some (.int b), some (.int nv), some (.int vw)] [] σ 0 0 := by
  intro f
  induction f with
  | zero =>
    intro w vw nv q ew h1 eq hq fin
    refine rv_V.run rv_gd_Model_gap [101, 159] 400 ?_
    refine Exists.intro _ (And.intro h.ob ?_)
    refine And.intro (fun c1 => ?_) (fun c1 => ?_)
    · exact fin _ nv eq
    · exact absurd ((rv_leN en ew (by omega) (by omega)).mpr (by omega)) c1
  | succ f ih =>
    intro w vw nv q ew h1 eq hq fin
    have at153 : ∀ (nv : Int32) (q' : Option Nat), nv = oi q' → (∀ j, q' = some j → j < 120) → gm_pick s vo k b e (f + 1) w q = gm_pick s vo k b e f (w + 1) q' → rv_V G m_Model_gap 0 0 Rt 153 [some (.ref y), some (.int vo), some (.int k), some (.int time), some (.int v), some (.int v5), some (.int t.1), some (.long t.2.1), none, some (.int t.2.2.1), some (.int t.2.2.2), some (.int e), some (.int b), some (.int nv), some (.int vw)] [] σ 0 0 := by
      intro nv q' e1 e2 e3
      refine rv_V.run rv_gd_Model_gap [101] 400 ?_
      refine ih (w + 1) (vw + 1) nv q' (by rw [ew]; exact nI_1 w) (by omega) e1 e2 ?_
      rw [← e3]
      exact fin
    have yes : mt_is s w vo k b e = true → gm_bt s w q = true → gm_pick s vo k b e (f + 1) w q = gm_pick s vo k b e f (w + 1) (some w) := fun z1 z2 => by
      conv => lhs; unfold gm_pick
      rw [if_pos ⟨z1, z2⟩]
    have no : ¬ (mt_is s w vo k b e = true ∧ gm_bt s w q = true) → gm_pick s vo k b e (f + 1) w q = gm_pick s vo k b e f (w + 1) q := fun z => by
      conv => lhs; unfold gm_pick
      rw [if_neg z]
    refine rv_V.run rv_gd_Model_gap [101, 153, 159] 400 ?_
    refine Exists.intro _ (And.intro h.ob ?_)
    refine And.intro (fun c1 => ?_) (fun c1 => ?_)
    · exact absurd ((rv_leN en ew (by omega) (by omega)).mp c1) (by omega)
    refine And.intro (Exists.intro _ h.ob) ?_
    refine ⟨_, _, _, rt_meets vo k b e ew (by omega) h, Nat.zero_le _, Nat.zero_le _, rfl, ?_⟩
    rintro _ σ ⟨rfl, rfl⟩
    refine And.intro (fun c2 => ?_) (fun c2 => ?_)
    · exact at153 nv q eq hq (no (fun z => by rw [rv_b0.mp c2] at z; exact absurd z.1 (by decide)))
    refine And.intro (fun c3 => ?_) (fun c3 => ?_)
    · have hqn := (oi_eq eq hq).mp c3
      subst hqn
      exact at153 vw (some w) ew (fun j hj => by cases hj; omega) (yes (rv_bn c2) rfl)
    · cases q with
      | none => exact absurd eq c3
      | some j =>
        refine Exists.intro _ (And.intro h.ob ?_)
        refine h.l22 ew (by omega) ?_
        refine Exists.intro _ (And.intro h.ob ?_)
        refine h.l22 eq (hq j rfl) ?_
        refine And.intro (fun c4 => ?_) (fun c4 => ?_)
        · exact at153 nv (some j) eq hq (no (fun z => absurd (of_decide_eq_true z.2) (Int32.not_lt.mpr c4)))
        · exact at153 vw (some w) ew (fun j hj => by cases hj; omega) (yes (rv_bn c2) (decide_eq_true (Int32.not_le.mp c4)))
theorem gp_facts (vo k b e : Int32) : ∀ (n : Nat) (s : Md) (r : Nat) (t : Tl), n ≤ 120 → s.nwin = nI n → s.nres = nI r → r ≤ 400 → (gp_run vo k b e n s r t).1.nwin = nI (gp_run vo k b e n s r t).2.2.1 ∧ (gp_run vo k b e n s r t).1.nres = nI (gp_run vo k b e n s r t).2.1 ∧ (gp_run vo k b e n s r t).2.1 ≤ 400 ∧ (gp_run vo k b e n s r t).2.2.1 ≤ n
  | 0, s, r, t, hn, en, er, hr => ⟨en, er, hr, Nat.le_refl _⟩
  | n + 1, s, r, t, hn, en, er, hr => by
    cases hd : gm_pick s vo k b e (n + 1) 0 none with
    | none =>
      have hR : gp_run vo k b e (n + 1) s r t = (s, r, n + 1, t) := by
        unfold gp_run
        rw [hd]
      rw [hR]
      exact ⟨en, er, hr, Nat.le_refl _⟩
    | some w =>
      have hR : gp_run vo k b e (n + 1) s r t = gp_run vo k b e n (md_rem (gp_s s r w) (n + 1) w) (gp_r s r w) (gp_t (gp_s s r w) w t) := by
        conv => lhs; unfold gp_run
        rw [hd]
      rw [hR]
      have h1 : (gp_s s r w).nwin = nI (n + 1) := by
        unfold gp_s
        split
        · exact (back_nwin _ _ _).trans en
        · exact en
      have h2 : (gp_s s r w).nres = nI (gp_r s r w) ∧ gp_r s r w ≤ 400 := by
        unfold gp_s gp_r
        split
        · exact ⟨back_nres w er, rq_le hr⟩
        · exact ⟨er, hr⟩
      have := gp_facts vo k b e n (md_rem (gp_s s r w) (n + 1) w) (gp_r s r w) (gp_t (gp_s s r w) w t) (by omega) (rem_nwin w (Nat.succ_pos n) h1) ((rem_nres _ _ _).trans h2.1) h2.2
      exact ⟨this.1, this.2.1, this.2.2.1, by omega⟩
set_option maxRecDepth 100000 in
theorem lp_gap {G : rv_G} {σ0 : rv_S} {y : Nat} {vo k time v v5 b e : Int32} {Rt : Option Value → rv_S → Prop} : ∀ (n r : Nat) (s : Md) (t : Tl) (nv : Int32) (x14 : Option Value) (σ : rv_S), n ≤ 120 → s.nwin = nI n → s.nres = nI r → r ≤ 400 → ¬ nv = -99999999 → MI σ0 σ y (md y s) → (∀ (nv : Int32) (x14 : Option Value) (σ : rv_S), MI σ0 σ y (md y (gp_run vo k b e n s r t).1) → rv_V G m_Model_gap 0 0 Rt 257 [some (.ref y), some (.int vo), some (.int k), some (.int time), some (.int v), some (.int v5), some (.int (gp_run vo k b e n s r t).2.2.2.1), some (.long (gp_run vo k b e n s r t).2.2.2.2.1), none, some (.int (gp_run vo k b e n s r t).2.2.2.2.2.1), some (.int (gp_run vo k b e n s r t).2.2.2.2.2.2), some (.int e), some (.int b), some (.int nv), x14] [] σ 0 0) →
    rv_V G m_Model_gap 0 0 Rt 87 [some (.ref y), some (.int vo), some (.int k), some (.int time), some (.int v), some (.int v5), some (.int t.1), some (.long t.2.1), none, some (.int t.2.2.1), some (.int t.2.2.2), some (.int e), some (.int b), some (.int nv), x14] [] σ 0 0 := by
  intro n
  induction n with
  | zero =>
    intro r s t nv x14 σ hn en er hr hv h fin
    refine rv_V.run rv_gd_Model_gap [101] 400 ?_
    refine And.intro (fun c1 => absurd c1 hv) (fun c1 => ?_)
    refine lp_gm en hn h 0 0 _ _ none rfl rfl rfl (fun j hj => by cases hj) (fun x14 nv env => ?_)
    have env' : nv = -99999999 := env
    refine rv_V.run rv_gd_Model_gap [87] 400 ?_
    refine And.intro (fun c2 => ?_) (fun c2 => absurd env' c2)
    refine rv_V.run rv_gd_Model_gap [257] 400 ?_
    refine And.intro (fun c3 => ?_) (fun c3 => absurd env' c3)
    exact fin nv x14 σ h
  | succ n ih =>
    intro r s t nv x14 σ hn en er hr hv h fin
    refine rv_V.run rv_gd_Model_gap [101] 400 ?_
    refine And.intro (fun c1 => absurd c1 hv) (fun c1 => ?_)
    refine lp_gm en hn h (n + 1) 0 _ _ none rfl (by omega) rfl (fun j hj => by cases hj) (fun x14 nv env => ?_)
    cases hd : gm_pick s vo k b e (n + 1) 0 none with
    | none =>
      rw [hd] at env
      have env' : nv = -99999999 := env
      have hR : gp_run vo k b e (n + 1) s r t = (s, r, n + 1, t) := by
        unfold gp_run
        rw [hd]
      rw [hR] at fin
      refine rv_V.run rv_gd_Model_gap [87] 400 ?_
      refine And.intro (fun c2 => ?_) (fun c2 => absurd env' c2)
      refine rv_V.run rv_gd_Model_gap [257] 400 ?_
      refine And.intro (fun c3 => ?_) (fun c3 => absurd env' c3)
      exact fin nv x14 σ h
    | some w =>
      rw [hd] at env
      have ew : nv = nI w := env
      have hw1 := gm_lt s vo k b e (n + 1) 0 none w hd (fun i hi => by cases hi)
      have hw : w < 120 := by omega
      have hnv : ¬ nv = -99999999 := fun z => by
        have := (oi_eq env (fun j hj => by cases hj; omega)).mp z
        cases this
      have hR : gp_run vo k b e (n + 1) s r t = gp_run vo k b e n (md_rem (gp_s s r w) (n + 1) w) (gp_r s r w) (gp_t (gp_s s r w) w t) := by
        conv => lhs; unfold gp_run
        rw [hd]
      rw [hR] at fin
      have at248 : ∀ (s1 : Md) (r1 : Nat) (t : Tl) (x14 : Option Value) (σ : rv_S), s1.nwin = nI (n + 1) → s1.nres = nI r1 → r1 ≤ 400 → MI σ0 σ y (md y s1) → (∀ (nv : Int32) (x14 : Option Value) (σ : rv_S), MI σ0 σ y (md y (gp_run vo k b e n (md_rem s1 (n + 1) w) r1 t).1) → rv_V G m_Model_gap 0 0 Rt 257 [some (.ref y), some (.int vo), some (.int k), some (.int time), some (.int v), some (.int v5), some (.int (gp_run vo k b e n (md_rem s1 (n + 1) w) r1 t).2.2.2.1), some (.long (gp_run vo k b e n (md_rem s1 (n + 1) w) r1 t).2.2.2.2.1), none, some (.int (gp_run vo k b e n (md_rem s1 (n + 1) w) r1 t).2.2.2.2.2.1), some (.int (gp_run vo k b e n (md_rem s1 (n + 1) w) r1 t).2.2.2.2.2.2), some (.int e), some (.int b), some (.int nv), x14] [] σ 0 0) → rv_V G m_Model_gap 0 0 Rt 248 [some (.ref y), some (.int vo), some (.int k), some (.int time), some (.int v), some (.int v5), some (.int t.1), some (.long t.2.1), none, some (.int t.2.2.1), some (.int t.2.2.2), some (.int e), some (.int b), some (.int nv), x14] [] σ 0 0 := by
        intro s1 r1 t x14 σ e1 e2 e3 h fin
        refine rv_V.run rv_gd_Model_gap [87] 400 ?_
        refine And.intro (Exists.intro _ h.ob) ?_
        refine ⟨_, _, _, rt_remove ew (by omega) e1 hn h, Nat.zero_le _, Nat.zero_le _, rfl, ?_⟩
        rintro _ σ ⟨rfl, h⟩
        exact ih r1 (md_rem s1 (n + 1) w) t nv x14 σ (by omega) (rem_nwin w (Nat.succ_pos n) e1) ((rem_nres _ _ _).trans e2) e3 hnv h fin
      have at182 : ∀ (s1 : Md) (r1 : Nat) (x14 : Option Value) (σ : rv_S), s1.nwin = nI (n + 1) → s1.nres = nI r1 → r1 ≤ 400 → MI σ0 σ y (md y s1) → gp_s s r w = s1 → gp_r s r w = r1 → rv_V G m_Model_gap 0 0 Rt 182 [some (.ref y), some (.int vo), some (.int k), some (.int time), some (.int v), some (.int v5), some (.int t.1), some (.long t.2.1), none, some (.int t.2.2.1), some (.int t.2.2.2), some (.int e), some (.int b), some (.int nv), x14] [] σ 0 0 := by
        intro s1 r1 x14 σ e1 e2 e3 h g1 g2
        rw [g1, g2] at fin
        have at227 : ∀ (a : Int32) (x14 : Option Value), a = (gp_t s1 w t).2.2.1 → rv_V G m_Model_gap 0 0 Rt 227 [some (.ref y), some (.int vo), some (.int k), some (.int time), some (.int v), some (.int v5), some (.int (t.1 + s1.wMany w)), some (.long (t.2.1 + s1.wSum w)), none, some (.int a), some (.int t.2.2.2), some (.int e), some (.int b), some (.int nv), x14] [] σ 0 0 := by
          intro a x14 ea
          subst ea
          refine rv_V.run rv_gd_Model_gap [248] 400 ?_
          refine Exists.intro _ (And.intro h.ob ?_)
          refine h.l27 ew hw ?_
          refine And.intro (fun c4 => ?_) (fun c4 => ?_)
          · have q := at248 s1 r1 (gp_t s1 w t) x14 σ e1 e2 e3 h fin
            rw [show (gp_t s1 w t).2.2.2 = t.2.2.2 from if_neg (Int32.not_lt.mpr c4)] at q
            exact q
          · refine Exists.intro _ (And.intro h.ob ?_)
            refine h.l27 ew hw ?_
            have q := at248 s1 r1 (gp_t s1 w t) x14 σ e1 e2 e3 h fin
            rw [show (gp_t s1 w t).2.2.2 = s1.wMost w from if_pos (Int32.not_le.mp c4)] at q
            exact q
        refine rv_V.run rv_gd_Model_gap [227] 400 ?_
        refine Exists.intro _ (And.intro h.ob ?_)
        refine h.l24 ew hw ?_
        refine Exists.intro _ (And.intro h.ob ?_)
        refine h.l25 ew hw ?_
        refine Exists.intro _ (And.intro h.ob ?_)
        refine h.l26 ew hw ?_
        refine And.intro (fun c3 => ?_) (fun c3 => ?_)
        · exact at227 _ x14 (if_neg (Int32.not_lt.mpr c3)).symm
        · refine Exists.intro _ (And.intro h.ob ?_)
          refine h.l26 ew hw ?_
          exact at227 _ x14 (if_pos (Int32.not_le.mp c3)).symm
      refine rv_V.run rv_gd_Model_gap [87, 182] 400 ?_
      refine And.intro (fun c2 => absurd c2 hnv) (fun c2 => ?_)
      refine Exists.intro _ (And.intro h.ob ?_)
      refine h.l28 ew hw ?_
      refine And.intro (fun c3 => ?_) (fun c3 => ?_)
      · have hf : ¬ s.wTold w = true := by rw [rv_b0.mp c3]; decide
        exact at182 s r x14 σ en er hr h (if_neg hf) (if_neg hf)
      · have hf := rv_bn c3
        refine And.intro (Exists.intro _ h.ob) ?_
        refine ⟨_, _, _, rt_takeBack ew hw er hr h, Nat.zero_le _, Nat.zero_le _, rfl, ?_⟩
        rintro _ σ ⟨rfl, h⟩
        exact at182 (md_back s r w) (rq r) x14 σ ((back_nwin _ _ _).trans en) (back_nres w er) (rq_le hr) h (if_pos hf) (if_pos hf)
