/-! A ROW IS LAID ASIDE -/
theorem rv_bd.up {σ : rv_S} (h : rv_bd σ) {a : Nat} (ha : a < σ.1) (y : rv_E) : rv_bd (σ.1, rv_up σ.2 a y) := by
  intro b z hz
  by_cases hb : b = a
  · rw [hb]; exact ha
  · exact h b z (by rw [← hz]; exact (rv_up_n hb).symm)
/-- the eldest goes, if there is one -/
def rv_qd (s : Nat) (q : Nat → Nat → Int64) : Nat × (Nat → Nat → Int64) := (s - 1, fun j => if s = 0 then q j else q (j + 1))
set_option maxRecDepth 100000 in
theorem ct_drop_n {G : rv_G} {σ : rv_S} {r c R w s : Nat} {q : Nat → Nat → Int64} (h : PR σ.2 r c R w s q) (hR : R < 2 ^ 30) (hcr : c ≠ r) :
    rv_Ct G i_Ring_dropEldest 0 0 [.ref r] σ (fun a σ' => a = none ∧ σ'.1 = σ.1 ∧ PR σ'.2 r c R w (rv_qd s q).1 (rv_qd s q).2 ∧ rv_only (fun a => a = r) σ.2 σ'.2) := by
  obtain ⟨e, la, f, he, hs, hr, hc, hf⟩ := h
  refine (ct_dropEldest r (nI R) (nI w) c (nI e) la (nI s) hr).mono ?_
  rintro a σ' ⟨h1, h2⟩
  subst h2
  refine ⟨h1, rfl, ?_, rv_only.up rfl⟩
  rcases Nat.eq_zero_or_pos s with z | z
  · subst z
    rw [if_pos (by decide)]
    exact ⟨e, la, f, he, Nat.zero_le _, rv_up_s, (rv_up_n hcr).trans hc, fun j hj => absurd hj (Nat.not_lt_zero j)⟩
  · obtain ⟨t, rfl⟩ : ∃ t, s = t + 1 := ⟨s - 1, by omega⟩
    rw [if_neg (nI_nle (by omega) (by omega))]
    refine ⟨(e + 1) % R, la, f, Nat.mod_lt _ (by omega), by show t + 1 - 1 ≤ R; omega, ?_, (rv_up_n hcr).trans hc, ?_⟩
    · rw [← rv_inc_n he hR, show (rv_qd (t + 1) q).1 = t from rfl, ← nI_pred t]
      exact rv_up_s
    · intro j hj k hk
      have hj' : j < t := hj
      show _ = (if t + 1 = 0 then q j else q (j + 1)) k
      rw [if_neg (by omega), ← hf (j + 1) (by omega) k hk]
      rw [Nat.mod_add_mod, show e + 1 + j = e + (j + 1) by omega]
/-- the rows aside, after one more -/
def as_run (b : Nat) (s : Nat) (q : Nat → Nat → Int64) (v : Nat → Int64) : Nat × (Nat → Nat → Int64) :=
  if 0 < b then (if b ≤ s then (rv_qn 100 (rv_qd s q).1, rv_qp 100 (rv_qd s q).1 (rv_qd s q).2 v) else (rv_qn 100 s, rv_qp 100 s q v)) else (if b ≤ s then rv_qd s q else (s, q))
/-- a source that has noted a row -/
def sd_note (d : Sd) (t : Int32) (u : Bool) : Sd := (d.1, d.2.1, d.2.2.1, (if u = true then d.2.2.2.1 + 1 else d.2.2.2.1), (if u = true then d.2.2.2.2.1 else d.2.2.2.2.1 + 1), (if t < d.2.1 then d.2.2.2.2.2.1 + 1 else d.2.2.2.2.2.1), (if t < d.2.1 ∧ d.2.2.2.2.2.1 = 0 then t else d.2.2.2.2.2.2))
def sd_stop (d : Sd) (b : Bool) : Sd := (d.1, d.2.1, (d.2.2.1.1, b), d.2.2.2)
set_option maxRecDepth 100000 in
theorem ct_layAside0 {G : rv_G} {σ : rv_S} {x sa b s j : Nat} {oa : Nat → Nat} {d : Sd} {q : Nat → Nat → Int64} {nop nsr ev dr : Int32} (k t v why : Int32) (hx : σ.2 x = some (oLate x nop nsr ev (nI b) 1 dr)) (hq : PR σ.2 (x + 370) (x + 371) 100 5 s q) (hs : σ.2 sa = some (oS oa j d)) (hb : b ≤ s) :
    rv_Ct G i_Late_layAside 0 0 [.ref x, .ref sa, .int k, .int t, .int v, .int why] σ (fun r σ' => r = some (.int (-2)) ∧ σ' = (σ.1, rv_up σ.2 sa (oS oa j (sd_stop d true)))) := by
  obtain ⟨e, la, f, he, hsR, hr, hc, hf⟩ := hq
  refine rv_ct (M := m_Late_layAside) rfl (by decide) rfl rfl ?_
  refine rv_V.run rv_gd_Late_layAside [] 400 ?_
  refine Exists.intro _ (And.intro hx ?_)
  refine Exists.intro _ (And.intro hr ?_)
  refine Exists.intro _ (And.intro hx ?_)
  refine And.intro (fun c1 => ?_) (fun c1 => ?_)
  · exact absurd ((rv_ltN rfl rfl (by omega) (by omega)).mp c1) (by omega)
  refine And.intro (fun c2 => ?_) (fun c2 => ?_)
  · exact absurd c2 (by decide)
  refine Exists.intro _ (And.intro hx ?_)
  refine And.intro (fun c3 => ?_) (fun c3 => ?_)
  · refine Exists.intro _ (And.intro hs (And.intro (Or.inr rfl) ?_))
    exact And.intro trivial ⟨rfl, rfl⟩
  · exact absurd rfl c3
set_option maxRecDepth 100000 in
theorem ct_layAside1 {G : rv_G} {σ : rv_S} {x sa b s j n : Nat} {oa : Nat → Nat} {d : Sd} {q : Nat → Nat → Int64} {ra : Nat → Nat} {rd : Nat → Rd} {nop nsr ev rl dr : Int32} (k t v why : Int32) (hx : σ.2 x = some (oLate x nop nsr ev (nI b) rl dr)) (hq : PR σ.2 (x + 370) (x + 371) 100 5 s q) (hL : PRL σ.2 (x + 3) n ra rd) (hn : n < 300) (hbd : rv_bd σ) (hs : σ.2 sa = some (oS oa j d)) (hsa : x + 372 < sa) (hra : ∀ j, j < n → x + 372 < ra j ∧ ra j ≠ sa) (hb : b ≤ 100) (hno : ¬ (b ≤ s ∧ rl = 1)) :
    rv_Ct G i_Late_layAside 1 5 [.ref x, .ref sa, .int k, .int t, .int v, .int why] σ (fun r σ' => r = some (.int 0) ∧ σ'.1 = σ.1 + 1 ∧ σ'.2 x = some (oLate x nop nsr ev (nI b) rl (if b ≤ s then dr + 1 else dr)) ∧ PR σ'.2 (x + 370) (x + 371) 100 5 (as_run b s q (rv_arec (nI j) k t v why)).1 (as_run b s q (rv_arec (nI j) k t v why)).2 ∧ σ'.2 sa = some (oS oa j (sd_note d t false)) ∧ (∃ q', q' ≤ n ∧ (∀ j, q' ≤ j → j < n → raft (rd j) k t = true) ∧ (q' = 0 ∨ raft (rd (q' - 1)) k t = false) ∧ PRL σ'.2 (x + 3) (n + 1) (rv_insf ra q' σ.1) (rv_insf rd q' (sa, k, t, v, false))) ∧ rv_only (fun a => a = x ∨ a = x + 3 ∨ a = x + 4 ∨ a = σ.1 ∨ a = x + 370 ∨ a = x + 371 ∨ a = sa) σ.2 σ'.2) := by
  have hxb := hbd _ _ hx
  have hsb := hbd _ _ hs
  have hsR : s ≤ 100 := by obtain ⟨e, la, f, he, hsR, hr, hc, hf⟩ := hq; exact hsR
  have hrb : x + 371 < σ.1 := by obtain ⟨e, la, f, he, hsR, hr, hc, hf⟩ := hq; exact hbd _ _ hc
  -- the last step
  have last : ∀ (dr' : Int32) (s1 : Nat) (q1 : Nat → Nat → Int64) (σ2 : rv_S) (x6 : Option Value), σ2.1 = σ.1 + 1 → σ2.2 x = some (oLate x nop nsr ev (nI b) rl dr') → PR σ2.2 (x + 370) (x + 371) 100 5 s1 q1 → σ2.2 sa = some (oS oa j (sd_note d t false)) → (∃ q', q' ≤ n ∧ (∀ j, q' ≤ j → j < n → raft (rd j) k t = true) ∧ (q' = 0 ∨ raft (rd (q' - 1)) k t = false) ∧ PRL σ2.2 (x + 3) (n + 1) (rv_insf ra q' σ.1) (rv_insf rd q' (sa, k, t, v, false))) → rv_only (fun a => a = x ∨ a = x + 3 ∨ a = x + 4 ∨ a = σ.1 ∨ a = x + 370 ∨ a = x + 371 ∨ a = sa) σ.2 σ2.2 → (if b ≤ s then dr + 1 else dr) = dr' → as_run b s q (rv_arec (nI j) k t v why) = (if 0 < b then (rv_qn 100 s1, rv_qp 100 s1 q1 (rv_arec (nI j) k t v why)) else (s1, q1)) →
      rv_V G m_Late_layAside 1 5 (fun r σ' => r = some (.int 0) ∧ σ'.1 = σ.1 + 1 ∧ σ'.2 x = some (oLate x nop nsr ev (nI b) rl (if b ≤ s then dr + 1 else dr)) ∧ PR σ'.2 (x + 370) (x + 371) 100 5 (as_run b s q (rv_arec (nI j) k t v why)).1 (as_run b s q (rv_arec (nI j) k t v why)).2 ∧ σ'.2 sa = some (oS oa j (sd_note d t false)) ∧ (∃ q', q' ≤ n ∧ (∀ j, q' ≤ j → j < n → raft (rd j) k t = true) ∧ (q' = 0 ∨ raft (rd (q' - 1)) k t = false) ∧ PRL σ'.2 (x + 3) (n + 1) (rv_insf ra q' σ.1) (rv_insf rd q' (sa, k, t, v, false))) ∧ rv_only (fun a => a = x ∨ a = x + 3 ∨ a = x + 4 ∨ a = σ.1 ∨ a = x + 370 ∨ a = x + 371 ∨ a = sa) σ.2 σ'.2) 83 [some (.ref x), some (.ref sa), some (.int k), some (.int t), some (.int v), some (.int why), x6] [] σ2 1 5 := by
    intro dr' s1 q1 σ2 x6 e1 hx2 hq2 hs2 hL2 ho2 ed ea
    refine rv_V.run rv_gd_Late_layAside [] 400 ?_
    refine Exists.intro _ (And.intro hx2 ?_)
    refine And.intro (fun c1 => ?_) (fun c1 => ?_)
    · have hb0 : ¬ 0 < b := fun z => nI_nle z (by omega) c1
      refine And.intro trivial ⟨rfl, e1, by rw [ed]; exact hx2, ?_, hs2, hL2, ho2⟩
      rw [ea, if_neg hb0]
      exact hq2
    · have hb0 : 0 < b := by
        rcases Nat.eq_zero_or_pos b with z | z
        · exact absurd (by rw [z]; decide) c1
        · exact z
      refine And.intro (Exists.intro _ hx2) ?_
      refine ⟨_, _, _, ct_keepAside x sa _ _ _ _ _ _ _ _ _ _ _ _ _ _ _ k t v why hx2 hq2 hs2 (by omega), by decide, by decide, rfl, ?_⟩
      rintro _ σ3 ⟨rfl, e3, h3, o3⟩
      have hL3 : ∀ a, a ≠ x + 370 → a ≠ x + 371 → σ3.2 a = σ2.2 a := fun a h1 h2 => o3 a (by omega)
      refine And.intro trivial ⟨rfl, e3.trans e1, ?_, ?_, ?_, ?_, ?_⟩
      · rw [ed, hL3 x (by omega) (by omega)]; exact hx2
      · rw [ea, if_pos hb0]; exact h3
      · rw [hL3 sa (by omega) (by omega)]; exact hs2
      · obtain ⟨q', a1, a2, a3, a4, ⟨f, a5, a6⟩, a7, a8⟩ := hL2
        refine ⟨q', a1, a2, a3, (hL3 _ (by omega) (by omega)).trans a4, ⟨f, (hL3 _ (by omega) (by omega)).trans a5, a6⟩, fun i hi => ?_, a8⟩
        have hne : x + 371 < rv_insf ra q' σ.1 i := by
          unfold rv_insf
          by_cases z1 : i < q'
          · rw [if_pos z1]; have := (hra i (by omega)).1; omega
          · rw [if_neg z1]
            by_cases z2 : i = q'
            · rw [if_pos z2]; exact hrb
            · rw [if_neg z2]; have := (hra (i - 1) (by omega)).1; omega
        exact ⟨(hL3 _ (by omega) (by omega)).trans (a7 i hi).1, (a7 i hi).2⟩
      · intro a ha
        rw [hL3 a (by omega) (by omega)]
        exact ho2 a ha
  -- the row is noted
  have mid : ∀ fl : Bool, (fl = true ↔ b ≤ s) → rv_V G m_Late_layAside 1 5 (fun r σ' => r = some (.int 0) ∧ σ'.1 = σ.1 + 1 ∧ σ'.2 x = some (oLate x nop nsr ev (nI b) rl (if b ≤ s then dr + 1 else dr)) ∧ PR σ'.2 (x + 370) (x + 371) 100 5 (as_run b s q (rv_arec (nI j) k t v why)).1 (as_run b s q (rv_arec (nI j) k t v why)).2 ∧ σ'.2 sa = some (oS oa j (sd_note d t false)) ∧ (∃ q', q' ≤ n ∧ (∀ j, q' ≤ j → j < n → raft (rd j) k t = true) ∧ (q' = 0 ∨ raft (rd (q' - 1)) k t = false) ∧ PRL σ'.2 (x + 3) (n + 1) (rv_insf ra q' σ.1) (rv_insf rd q' (sa, k, t, v, false))) ∧ rv_only (fun a => a = x ∨ a = x + 3 ∨ a = x + 4 ∨ a = σ.1 ∨ a = x + 370 ∨ a = x + 371 ∨ a = sa) σ.2 σ'.2) 42 [some (.ref x), some (.ref sa), some (.int k), some (.int t), some (.int v), some (.int why), some (.int (rv_b fl))] [] σ 0 0 := by
    intro fl hfl
    have hx1 : rv_up σ.2 sa (oS oa j (sd_note d t false)) x = some (oLate x nop nsr ev (nI b) rl dr) := (rv_up_n (by omega)).trans hx
    have hL1 : PRL (rv_up σ.2 sa (oS oa j (sd_note d t false))) (x + 3) n ra rd := by
      obtain ⟨a4, ⟨f, a5, a6⟩, a7, a8⟩ := hL
      exact ⟨(rv_up_n (by omega)).trans a4, ⟨f, (rv_up_n (by omega)).trans a5, a6⟩, fun i hi => ⟨(rv_up_n (hra i hi).2).trans (a7 i hi).1, (a7 i hi).2⟩, a8⟩
    refine rv_V.run rv_gd_Late_layAside [83] 400 ?_
    refine And.intro (Exists.intro _ hs) ?_
    refine ⟨_, _, _, ct_noteRow sa _ _ _ _ _ _ _ _ _ t false hs, by decide, by decide, rfl, ?_⟩
    rintro _ _ ⟨rfl, rfl⟩
    refine Exists.intro _ (And.intro hx1 ?_)
    refine And.intro (Exists.intro _ hL1.1) ?_
    refine ⟨_, _, _, ct_rowadd (σ := (σ.1, rv_up σ.2 sa (oS oa j (sd_note d t false)))) (src := sa) hL1 hn (hbd.up hsb _) k t v false, by decide, by decide, rfl, ?_⟩
    rintro _ σ2 ⟨rfl, e2, hL2, o2⟩
    have k2 : ∀ a, a ≠ x + 3 → a ≠ x + 4 → a ≠ σ.1 → σ2.2 a = rv_up σ.2 sa (oS oa j (sd_note d t false)) a := fun a h1 h2 h3 => o2 a (by rintro (z | z | z) <;> omega)
    have hx2 : σ2.2 x = some (oLate x nop nsr ev (nI b) rl dr) := (k2 x (by omega) (by omega) (by omega)).trans hx1
    have hs2 : σ2.2 sa = some (oS oa j (sd_note d t false)) := (k2 sa (by omega) (by omega) (by omega)).trans rv_up_s
    have hq2 : PR σ2.2 (x + 370) (x + 371) 100 5 s q := hq.kept ((k2 _ (by omega) (by omega) (by omega)).trans (rv_up_n (by omega))) ((k2 _ (by omega) (by omega) (by omega)).trans (rv_up_n (by omega)))
    have ho2 : rv_only (fun a => a = x ∨ a = x + 3 ∨ a = x + 4 ∨ a = σ.1 ∨ a = x + 370 ∨ a = x + 371 ∨ a = sa) σ.2 σ2.2 := fun a ha => (k2 a (by omega) (by omega) (by omega)).trans (rv_up_n (by omega))
    refine And.intro (fun c1 => ?_) (fun c1 => ?_)
    · have hb1 : ¬ b ≤ s := fun z => by have := hfl.mpr z; rw [rv_b0.mp c1] at this; cases this
      refine last dr s q σ2 _ e2 hx2 hq2 hs2 hL2 ho2 (if_neg hb1) ?_
      unfold as_run
      rw [if_neg hb1, if_neg hb1]
    · have hb1 : b ≤ s := hfl.mp (rv_bn c1)
      have hx3 : rv_up σ2.2 x (oLate x nop nsr ev (nI b) rl (dr + 1)) x = some (oLate x nop nsr ev (nI b) rl (dr + 1)) := rv_up_s
      refine Exists.intro _ (And.intro hx2 ?_)
      refine Exists.intro _ (And.intro hx2 (And.intro trivial ?_))
      refine Exists.intro _ (And.intro hx3 ?_)
      have hq3 : PR (rv_up σ2.2 x (oLate x nop nsr ev (nI b) rl (dr + 1))) (x + 370) (x + 371) 100 5 s q := hq2.kept (rv_up_n (by omega)) (rv_up_n (by omega))
      refine And.intro (by obtain ⟨e, la, f, he, hsR, hr, hc, hf⟩ := hq3; exact ⟨_, hr⟩) ?_
      refine ⟨_, _, _, ct_drop_n (σ := (σ2.1, rv_up σ2.2 x (oLate x nop nsr ev (nI b) rl (dr + 1)))) hq3 (by decide) (by omega), by decide, by decide, rfl, ?_⟩
      rintro _ σ3 ⟨rfl, e3, hq4, o3⟩
      have k3 : ∀ a, a ≠ x → a ≠ x + 370 → σ3.2 a = σ2.2 a := fun a h1 h2 => (o3 a h2).trans (rv_up_n h1)
      refine last (dr + 1) _ _ σ3 _ (e3.trans e2) ((o3 x (by omega)).trans hx3) hq4 ((k3 sa (by omega) (by omega)).trans hs2) ?_ ?_ (if_pos hb1) ?_
      · obtain ⟨q', a1, a2, a3, a4, ⟨f, a5, a6⟩, a7, a8⟩ := hL2
        refine ⟨q', a1, a2, a3, (k3 _ (by omega) (by omega)).trans a4, ⟨f, (k3 _ (by omega) (by omega)).trans a5, a6⟩, fun i hi => ?_, a8⟩
        have hne : x + 371 < rv_insf ra q' σ.1 i := by
          unfold rv_insf
          by_cases z1 : i < q'
          · rw [if_pos z1]; have := (hra i (by omega)).1; omega
          · rw [if_neg z1]
            by_cases z2 : i = q'
            · rw [if_pos z2]; exact hrb
            · rw [if_neg z2]; have := (hra (i - 1) (by omega)).1; omega
        exact ⟨(k3 _ (by omega) (by omega)).trans (a7 i hi).1, (a7 i hi).2⟩
      · intro a ha
        rw [k3 a (by omega) (by omega)]
        exact ho2 a ha
      · unfold as_run
        rw [if_pos hb1, if_pos hb1]
  obtain ⟨e, la, f, he, hsR', hr, hc, hf⟩ := hq
  refine rv_ct (M := m_Late_layAside) rfl (by decide) rfl rfl ?_
  refine rv_V.run rv_gd_Late_layAside [42] 400 ?_
  refine Exists.intro _ (And.intro hx ?_)
  refine Exists.intro _ (And.intro hr ?_)
  refine Exists.intro _ (And.intro hx ?_)
  refine And.intro (fun c1 => ?_) (fun c1 => ?_)
  · refine And.intro (fun c2 => ?_) (fun c2 => ?_)
    · exact mid false (Iff.intro (fun z => absurd z (by decide)) (fun z => absurd ((rv_ltN rfl rfl (by omega) (by omega)).mp c1) (by omega)))
    · exact absurd rfl c2
  · have hb1 : b ≤ s := Nat.not_lt.mp (fun z => c1 ((rv_ltN rfl rfl (by omega) (by omega)).mpr z))
    refine And.intro (fun c2 => ?_) (fun c2 => ?_)
    · exact absurd c2 (by decide)
    refine Exists.intro _ (And.intro hx ?_)
    refine And.intro (fun c3 => ?_) (fun c3 => ?_)
    · exact absurd ⟨hb1, c3⟩ hno
    · exact mid true (Iff.intro (fun _ => hb1) (fun _ => rfl))
