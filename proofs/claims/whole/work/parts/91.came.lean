/-! THE COMPARISON: a row that came, a row aside -/
/-- all but the sources is the same -/
def sm (s' s : Md) : Prop := s'.1 = s.1 ∧ s'.2.1 = s.2.1 ∧ s'.2.2.2 = s.2.2.2
theorem sm.rf (s : Md) : sm s s := ⟨rfl, rfl, rfl⟩
theorem sm.tr {a b c : Md} (h1 : sm a b) (h2 : sm b c) : sm a c := ⟨h1.1.trans h2.1, h1.2.1.trans h2.2.1, h1.2.2.trans h2.2.2⟩
theorem sm_used (s : Md) (u : Nat → Int32) : sm (s.u_sUsed u) s := by
  obtain ⟨a, b, c, d, e, f⟩ := s
  exact ⟨Eq.refl a, Eq.refl b, Eq.refl (d, e, f)⟩
theorem sm_aside (s : Md) (u : Nat → Int32) : sm (s.u_sAside u) s := by
  obtain ⟨a, b, c, d, e, f⟩ := s
  exact ⟨Eq.refl a, Eq.refl b, Eq.refl (d, e, f)⟩
theorem sm_brok (s : Md) (u : Nat → Int32) : sm (s.u_sBrok u) s := by
  obtain ⟨a, b, c, d, e, f⟩ := s
  exact ⟨Eq.refl a, Eq.refl b, Eq.refl (d, e, f)⟩
theorem sm_first (s : Md) (u : Nat → Int32) : sm (s.u_sFirst u) s := by
  obtain ⟨a, b, c, d, e, f⟩ := s
  exact ⟨Eq.refl a, Eq.refl b, Eq.refl (d, e, f)⟩
theorem sm_stop (s : Md) (u : Nat → Bool) : sm (s.u_sStop u) s := by
  obtain ⟨a, b, c, d, e, f⟩ := s
  exact ⟨Eq.refl a, Eq.refl b, Eq.refl (d, e, f)⟩
theorem sm_ints {s' s : Md} (h : sm s' s) : (s'.nop = s.nop ∧ s'.nsr = s.nsr ∧ s'.nrow = s.nrow ∧ s'.nwin = s.nwin ∧ s'.nres = s.nres ∧ s'.ever = s.ever) ∧ (s'.nas = s.nas ∧ s'.bnd = s.bnd ∧ s'.rul = s.rul ∧ s'.drp = s.drp ∧ s'.nps = s.nps) ∧ (s'.2.2.2.1 = s.2.2.2.1 ∧ s'.2.2.2.2.1 = s.2.2.2.2.1 ∧ s'.eRow = s.eRow ∧ s'.aRow = s.aRow ∧ s'.pRow = s.pRow) ∧ jq s' = jq s := by
  obtain ⟨h1, h2, h3⟩ := h
  unfold jq Md.nop Md.nsr Md.nrow Md.nwin Md.nres Md.ever Md.nas Md.bnd Md.rul Md.drp Md.nps Md.jn Md.fB Md.fE Md.jT Md.eRow Md.aRow Md.pRow
  rw [h1, h3]
  exact ⟨⟨rfl, rfl, rfl, rfl, rfl, rfl⟩, ⟨rfl, rfl, rfl, rfl, rfl⟩, ⟨rfl, rfl, rfl, rfl, rfl⟩, rfl⟩
/-- one source is another -/
def s1of (s' s : Md) (j : Nat) (F : Sd → Sd) : Prop := sm s' s ∧ s'.sOp = s.sOp ∧ ∀ o i, ms s' o i = if i = j then F (ms s o i) else ms s o i
theorem s1of.tr {a b c : Md} {j : Nat} {F F' : Sd → Sd} (h1 : s1of a b j F) (h2 : s1of b c j F') : s1of a c j (fun d => F (F' d)) := by
  refine ⟨h1.1.tr h2.1, h1.2.1.trans h2.2.1, fun o i => ?_⟩
  rw [h1.2.2 o i, h2.2.2 o i]
  by_cases z : i = j
  · rw [if_pos z, if_pos z, if_pos z]
  · rw [if_neg z, if_neg z, if_neg z]
theorem so_used (s : Md) (j : Nat) (v : Int32) : s1of (s.u_sUsed (upd s.sUsed j v)) s j (fun d => (d.1, d.2.1, d.2.2.1, v, d.2.2.2.2)) := by
  have p2 := (used_all s (upd s.sUsed j v)).2.2.1
  refine ⟨sm_used _ _, ?_, fun o i => ?_⟩
  · unfold Md.sOp; rw [p2]; rfl
  · rw [ms_of _ o i p2]
    by_cases z : i = j
    · subst z; rw [if_pos rfl, pk_us]; rfl
    · rw [if_neg z, pk_un z]; rfl
theorem so_aside (s : Md) (j : Nat) (v : Int32) : s1of (s.u_sAside (upd s.sAside j v)) s j (fun d => (d.1, d.2.1, d.2.2.1, d.2.2.2.1, v, d.2.2.2.2.2)) := by
  have p2 := (saside_all s (upd s.sAside j v)).2.2.1
  refine ⟨sm_aside _ _, ?_, fun o i => ?_⟩
  · unfold Md.sOp; rw [p2]; rfl
  · rw [ms_of _ o i p2]
    by_cases z : i = j
    · subst z; rw [if_pos rfl, pk_us]; rfl
    · rw [if_neg z, pk_un z]; rfl
theorem so_brok (s : Md) (j : Nat) (v : Int32) : s1of (s.u_sBrok (upd s.sBrok j v)) s j (fun d => (d.1, d.2.1, d.2.2.1, d.2.2.2.1, d.2.2.2.2.1, v, d.2.2.2.2.2.2)) := by
  have p2 := (brok_all s (upd s.sBrok j v)).2.2.1
  refine ⟨sm_brok _ _, ?_, fun o i => ?_⟩
  · unfold Md.sOp; rw [p2]; rfl
  · rw [ms_of _ o i p2]
    by_cases z : i = j
    · subst z; rw [if_pos rfl, pk_us]; rfl
    · rw [if_neg z, pk_un z]; rfl
theorem so_first (s : Md) (j : Nat) (v : Int32) : s1of (s.u_sFirst (upd s.sFirst j v)) s j (fun d => (d.1, d.2.1, d.2.2.1, d.2.2.2.1, d.2.2.2.2.1, d.2.2.2.2.2.1, v)) := by
  have p2 := (first_all s (upd s.sFirst j v)).2.2.1
  refine ⟨sm_first _ _, ?_, fun o i => ?_⟩
  · unfold Md.sOp; rw [p2]; rfl
  · rw [ms_of _ o i p2]
    by_cases z : i = j
    · subst z; rw [if_pos rfl, pk_us]; rfl
    · rw [if_neg z, pk_un z]; rfl
theorem so_stop (s : Md) (j : Nat) : s1of (s.u_sStop (va_up s.sStop j true)) s j (fun d => sd_stop d true) := by
  have p2 := (stop_all s (va_up s.sStop j true)).2.2.1
  refine ⟨sm_stop _ _, ?_, fun o i => ?_⟩
  · unfold Md.sOp; rw [p2]; rfl
  · rw [ms_of _ o i p2]
    by_cases z : i = j
    · subst z; rw [if_pos rfl, va_up_self]; rfl
    · rw [if_neg z, va_up_ne _ _ z]; rfl
theorem s1of.eq {s' s : Md} {j : Nat} {F F' : Sd → Sd} (h : s1of s' s j F) (hF : ∀ o, F (ms s o j) = F' (ms s o j)) : s1of s' s j F' := by
  refine ⟨h.1, h.2.1, fun o i => ?_⟩
  rw [h.2.2 o i]
  by_cases z : i = j
  · rw [if_pos z, if_pos z, z]; exact hF o
  · rw [if_neg z, if_neg z]
theorem s1of.rf (s : Md) (j : Nat) {F : Sd → Sd} (hF : ∀ o, F (ms s o j) = ms s o j) : s1of s s j F := by
  refine ⟨sm.rf s, rfl, fun o i => ?_⟩
  by_cases z : i = j
  · rw [if_pos z, z, hF]
  · rw [if_neg z]
def sd_c2 (u : Bool) (d : Sd) : Sd := (d.1, d.2.1, d.2.2.1, (if u = true then d.2.2.2.1 + 1 else d.2.2.2.1), (if u = true then d.2.2.2.2.1 else d.2.2.2.2.1 + 1), d.2.2.2.2.2)
def sd_c3 (t : Int32) (d : Sd) : Sd := (d.1, d.2.1, d.2.2.1, d.2.2.2.1, d.2.2.2.2.1, (if t < d.2.1 then d.2.2.2.2.2.1 + 1 else d.2.2.2.2.2.1), (if t < d.2.1 ∧ d.2.2.2.2.2.1 = 0 then t else d.2.2.2.2.2.2))
theorem so_c2 (s : Md) (j : Nat) (u : Bool) : s1of (md_cm2 s j u) s j (sd_c2 u) := by
  unfold md_cm2
  cases u with
  | true =>
    rw [if_pos rfl]
    exact (so_used s j _).eq (fun o => rfl)
  | false =>
    rw [if_neg (by decide)]
    exact (so_aside s j _).eq (fun o => rfl)
theorem so_c4 (s : Md) (j : Nat) : s1of (md_cm4 s j) s j (fun d => (d.1, d.2.1, d.2.2.1, d.2.2.2.1, d.2.2.2.2.1, s.sBrok j + 1, d.2.2.2.2.2.2)) := so_brok s j _
theorem so_c3 (s : Md) (j : Nat) (t : Int32) : s1of (md_cm3 s j t) s j (sd_c3 t) := by
  unfold md_cm3
  by_cases h1 : t < s.sProm j
  · rw [if_pos h1]
    by_cases h2 : s.sBrok j = 0
    · rw [if_pos h2]
      have f1 := so_first s j t
      have f2 := so_c4 (s.u_sFirst (upd s.sFirst j t)) j
      refine (f2.tr f1).eq (fun o => ?_)
      have hb : (s.u_sFirst (upd s.sFirst j t)).sBrok j = s.sBrok j := by
        unfold Md.sBrok; rw [(first_all s (upd s.sFirst j t)).2.2.1]; rfl
      show (o, s.sProm j, (s.sEnd j, s.sStop j), s.sUsed j, s.sAside j, (s.u_sFirst (upd s.sFirst j t)).sBrok j + 1, t) = (o, s.sProm j, (s.sEnd j, s.sStop j), s.sUsed j, s.sAside j, (if t < s.sProm j then s.sBrok j + 1 else s.sBrok j), (if t < s.sProm j ∧ s.sBrok j = 0 then t else s.sFirst j))
      rw [hb, if_pos h1, if_pos ⟨h1, h2⟩]
    · rw [if_neg h2]
      refine (so_c4 s j).eq (fun o => ?_)
      show (o, s.sProm j, (s.sEnd j, s.sStop j), s.sUsed j, s.sAside j, s.sBrok j + 1, s.sFirst j) = (o, s.sProm j, (s.sEnd j, s.sStop j), s.sUsed j, s.sAside j, (if t < s.sProm j then s.sBrok j + 1 else s.sBrok j), (if t < s.sProm j ∧ s.sBrok j = 0 then t else s.sFirst j))
      rw [if_pos h1, if_neg (fun z => h2 z.2)]
  · rw [if_neg h1]
    refine s1of.rf s j (fun o => ?_)
    show (o, s.sProm j, (s.sEnd j, s.sStop j), s.sUsed j, s.sAside j, (if t < s.sProm j then s.sBrok j + 1 else s.sBrok j), (if t < s.sProm j ∧ s.sBrok j = 0 then t else s.sFirst j)) = (o, s.sProm j, (s.sEnd j, s.sStop j), s.sUsed j, s.sAside j, s.sBrok j, s.sFirst j)
    rw [if_neg h1, if_neg (fun z => h1 z.1)]
theorem sd_c23 (d : Sd) (t : Int32) (u : Bool) : sd_c3 t (sd_c2 u d) = sd_note d t u := rfl
/-- the source has noted the row -/
theorem so_came (s : Md) (m j : Nat) (vs k t v : Int32) (u : Bool) : s1of (md_came s m j vs k t v u) (md_cm1 s m vs k t v u) j (fun d => sd_note d t u) := ((so_c3 _ j t).tr (so_c2 _ j u)).eq (fun o => sd_c23 _ t u)
theorem SSim.one {no ns j : Nat} {sd : Nat → Sd} {s s' : Md} {F : Sd → Sd} (h : SSim no ns sd s) (hj : j < ns) (hs : s1of s' s j F) (hF : ∀ d, (F d).1 = d.1) : SSim no ns (va_up sd j (F (sd j))) s' := by
  obtain ⟨s1, s2, s3, s4⟩ := h
  obtain ⟨h1, h2, h3⟩ := hs
  refine ⟨(sm_ints h1).1.2.1.trans s1, s2, fun i hi => ?_, fun i z1 z2 => ?_⟩
  · rw [h2, h3]
    by_cases z : i = j
    · subst z
      rw [va_up_self, if_pos rfl]
      obtain ⟨u1, u2, u3⟩ := s3 i hi
      rw [hF]
      exact ⟨u1, u2, by rw [u3]⟩
    · rw [va_up_ne _ _ z, if_neg z]; exact s3 i hi
  · rw [h3, if_neg (by omega)]; exact s4 i z1 z2
/-! rows -/
theorem rv_after_iff (k t k2 t2 : Int32) : rv_after k t k2 t2 = true ↔ (k2.toInt < k.toInt ∨ (k.toInt = k2.toInt ∧ t2.toInt < t.toInt)) := by
  unfold rv_after
  by_cases h : k = k2
  · rw [if_pos h, decide_eq_true_eq, Int32.lt_iff_toInt_lt, h]
    omega
  · rw [if_neg h, decide_eq_true_eq, Int32.lt_iff_toInt_lt]
    have : k.toInt ≠ k2.toInt := fun z => h (Int32.toInt_inj.mp z)
    omega
theorem raft_f {d : Rd} {k t : Int32} : raft d k t = false ↔ ¬ (k.toInt < d.2.1.toInt ∨ (d.2.1.toInt = k.toInt ∧ t.toInt < d.2.2.1.toInt)) := by
  unfold raft
  rw [← rv_after_iff]
  cases rv_after d.2.1 d.2.2.1 k t <;> simp
theorem raft_t {d : Rd} {k t : Int32} : raft d k t = true ↔ (k.toInt < d.2.1.toInt ∨ (d.2.1.toInt = k.toInt ∧ t.toInt < d.2.2.1.toInt)) := rv_after_iff _ _ _ _
theorem RwSim.add {ns nr q j A : Nat} {rs : Nat → Nat} {rd : Nat → Rd} {s s' : Md} {k t v : Int32} {u : Bool} (h : RwSim ns nr rs rd s) (hnr : nr < 300) (hj : j < ns) (hk : 0 ≤ k.toInt ∧ k.toInt ≤ 9) (ht : 0 ≤ t.toInt ∧ t.toInt ≤ 100000000) (hq : q ≤ nr ∧ (∀ i, q ≤ i → i < nr → raft (rd i) k t = true) ∧ (q = 0 ∨ raft (rd (q - 1)) k t = false)) (e1 : s'.nrow = s.nrow + 1) (e2 : s'.2.2.2.1 = (upd s.rSrc nr (nI j), upd s.rKey nr k, upd s.rTime nr t, upd s.rV nr v, va_up s.rUsed nr u)) : RwSim ns (nr + 1) (rv_insf rs q j) (rv_insf rd q (A, k, t, v, u)) s' := by
  obtain ⟨a1, a2, ⟨rj, a3, a4⟩, a5, a6⟩ := h
  obtain ⟨q1, q2, q3⟩ := hq
  have lo : ∀ {α : Type} (f : Nat → α) (w : α) (i : Nat), i < q → rv_insf f q w i = f i := fun f w i hi => if_pos hi
  have mi : ∀ {α : Type} (f : Nat → α) (w : α), rv_insf f q w q = w := fun f w => by unfold rv_insf; rw [if_neg (by omega), if_pos rfl]
  have hi' : ∀ {α : Type} (f : Nat → α) (w : α) (i : Nat), q < i → rv_insf f q w i = f (i - 1) := fun f w i hi => by unfold rv_insf; rw [if_neg (by omega), if_neg (by omega)]
  have x1 : s'.rSrc = upd s.rSrc nr (nI j) := by unfold Md.rSrc; rw [e2]; rfl
  have x2 : s'.rKey = upd s.rKey nr k := by unfold Md.rKey; rw [e2]; rfl
  have x3 : s'.rTime = upd s.rTime nr t := by unfold Md.rTime; rw [e2]; rfl
  have x4 : s'.rV = upd s.rV nr v := by unfold Md.rV; rw [e2]; rfl
  have x5 : s'.rUsed = va_up s.rUsed nr u := by unfold Md.rUsed; rw [e2]; rfl
  have hlow : ∀ i, i < q → raft (rd i) k t = false := fun i hi => by
    rcases q3 with z | z
    · omega
    · by_cases y : i = q - 1
      · rw [y]; exact z
      · have h1 := a5 i (q - 1) (by omega) (by omega)
        rw [raft_f] at h1 z ⊢
        omega
  refine ⟨by rw [e1, a1]; exact nI_1 nr, by omega, ⟨fun i => if i = nr then j else rj i, fun i hi => ?_, ?_⟩, fun i i' hii hi2 => ?_, fun i hi => ?_⟩
  · rw [x1]
    dsimp only
    by_cases z : i = nr
    · rw [if_pos z, z, pk_us]; exact ⟨rfl, hj⟩
    · rw [if_neg z, pk_un z]; exact a3 i (by omega)
  · rw [x2, x3, x4, x5]
    refine (perm_del (fun i => (rv_insf rs q j i, (rv_insf rd q (A, k, t, v, u) i).2)) q nr q1).trans ?_
    rw [List.range_succ, List.map_append]
    refine List.Perm.trans ?_ (List.perm_append_singleton _ _).symm
    dsimp only
    rw [mi, mi, if_pos rfl, pk_us, pk_us, pk_us, va_up_self]
    refine List.Perm.cons _ ?_
    have c1 : (List.range nr).map (fun w => if q ≤ w then (rv_insf rs q j (w + 1), (rv_insf rd q (A, k, t, v, u) (w + 1)).2) else (rv_insf rs q j w, (rv_insf rd q (A, k, t, v, u) w).2)) = (List.range nr).map (fun i => (rs i, (rd i).2)) := by
      refine List.map_congr_left (fun w hw => ?_)
      by_cases z : q ≤ w
      · rw [if_pos z, hi' _ _ _ (by omega), hi' _ _ _ (by omega), Nat.add_sub_cancel]
      · rw [if_neg z, lo _ _ _ (by omega), lo _ _ _ (by omega)]
    have c2 : (List.range nr).map (fun i => (if i = nr then j else rj i, upd s.rKey nr k i, upd s.rTime nr t i, upd s.rV nr v i, va_up s.rUsed nr u i)) = (List.range nr).map (fun i => (rj i, s.rKey i, s.rTime i, s.rV i, s.rUsed i)) := by
      refine List.map_congr_left (fun w hw => ?_)
      have := List.mem_range.mp hw
      rw [if_neg (by omega), pk_un (by omega), pk_un (by omega), pk_un (by omega), va_up_ne _ _ (by omega)]
    rw [c1, c2]
    exact a4
  · by_cases z1 : i < q
    · rw [lo _ _ _ z1]
      by_cases z2 : i' < q
      · rw [lo _ _ _ z2]; exact a5 i i' hii (by omega)
      · by_cases z3 : i' = q
        · rw [z3, mi]; exact hlow i z1
        · rw [hi' _ _ _ (by omega)]; exact a5 i (i' - 1) (by omega) (by omega)
    · by_cases z3 : i = q
      · rw [z3, mi, hi' _ _ _ (by omega)]
        have h1 := q2 (i' - 1) (by omega) (by omega)
        rw [raft_t] at h1
        rw [raft_f]
        show ¬ ((rd (i' - 1)).2.1.toInt < k.toInt ∨ (k.toInt = (rd (i' - 1)).2.1.toInt ∧ (rd (i' - 1)).2.2.1.toInt < t.toInt))
        omega
      · rw [hi' _ _ _ (by omega), hi' _ _ _ (by omega)]; exact a5 (i - 1) (i' - 1) (by omega) (by omega)
  · by_cases z1 : i < q
    · rw [lo _ _ _ z1]; exact a6 i (by omega)
    · by_cases z3 : i = q
      · rw [z3, mi]; exact ⟨hk, ht⟩
      · rw [hi' _ _ _ (by omega)]; exact a6 (i - 1) (by omega)
/-! rows aside -/
theorem sh5_val : ∀ (t k : Nat) (e : Nat → Int32) (j : Nat), sh5 t k e j = if k ≤ j ∧ j < k + t then e (j + 5) else e j
  | 0, k, e, j => by rw [if_neg (by omega)]; rfl
  | t + 1, k, e, j => by
    show sh5 t (k + 1) (upd e k (e (k + 5))) j = _
    rw [sh5_val t (k + 1)]
    by_cases h1 : k + 1 ≤ j ∧ j < k + 1 + t
    · rw [if_pos h1, pk_un (by omega), if_pos (by omega)]
    · rw [if_neg h1]
      by_cases h2 : j = k
      · subst h2; rw [pk_us, if_pos (by omega)]
      · rw [pk_un h2, if_neg (by omega)]
theorem ap_val (e : Nat → Int32) (a : Nat) (vs k t v w : Int32) : (∀ i, i < 5 → ((upd (upd (upd (upd (upd e (5 * a + 0) vs) (5 * a + 1) k) (5 * a + 2) t) (5 * a + 3) v) (5 * a + 4) w) (5 * a + i)).toInt64 = rv_arec vs k t v w i) ∧ ∀ i, i < 5 * a → (upd (upd (upd (upd (upd e (5 * a + 0) vs) (5 * a + 1) k) (5 * a + 2) t) (5 * a + 3) v) (5 * a + 4) w) i = e i := by
  refine ⟨fun i hi => ?_, fun i hi => ?_⟩
  · match i, hi with
    | 0, _ => rw [pk_un (by omega), pk_un (by omega), pk_un (by omega), pk_un (by omega), pk_us]; rfl
    | 1, _ => rw [pk_un (by omega), pk_un (by omega), pk_un (by omega), pk_us]; rfl
    | 2, _ => rw [pk_un (by omega), pk_un (by omega), pk_us]; rfl
    | 3, _ => rw [pk_un (by omega), pk_us]; rfl
    | 4, _ => rw [pk_us]; rfl
  · rw [pk_un (by omega), pk_un (by omega), pk_un (by omega), pk_un (by omega), pk_un (by omega)]
