/-! RUNNING A METHOD: from its contract's claim to the machine -/
theorem rv_V.step {G : rv_G} {M : rv_M} {mc ms : Nat} {Rt : Option Value → rv_S → Prop} (hM : rv_good M) {nx : Nat → rv_L → List Value → rv_S → Nat → Nat → Prop} (hn : ∀ pc ls st σ ce sl, nx pc ls st σ ce sl → rv_V G M mc ms Rt pc ls st σ ce sl) {pc : Nat} {ls : rv_L} {st : List Value} {σ : rv_S} {ce sl : Nat} (h : rv_step G M mc ms Rt nx pc ls st σ ce sl) : rv_V G M mc ms Rt pc ls st σ ce sl := rv_sound hM rv_cf rv_cm_all rv_objw hn h
theorem rv_bx_V {G : rv_G} {M : rv_M} {mc ms : Nat} {Rt : Option Value → rv_S → Prop} (hM : rv_good M) {stops : List Nat} : ∀ (k pc : Nat) (ls : rv_L) (st : List Value) (σ : rv_S) (ce sl : Nat), rv_bx G M mc ms Rt stops (rv_V G M mc ms Rt) k pc ls st σ ce sl → rv_V G M mc ms Rt pc ls st σ ce sl
  | 0, pc, ls, st, σ, ce, sl, h => h
  | k + 1, pc, ls, st, σ, ce, sl, h => by
    unfold rv_bx at h
    split at h
    · exact h
    · exact rv_V.step hM (fun pc ls st σ ce sl h => rv_bx_V hM k pc ls st σ ce sl h) h
/-- k instructions from here (the first in any case), up to one of 'stops' -/
theorem rv_V.run {G : rv_G} {M : rv_M} {mc ms : Nat} {Rt : Option Value → rv_S → Prop} (hM : rv_good M) (stops : List Nat) (k : Nat) {pc : Nat} {ls : rv_L} {st : List Value} {σ : rv_S} {ce sl : Nat} (h : rv_step G M mc ms Rt (rv_bx G M mc ms Rt stops (rv_V G M mc ms Rt) k) pc ls st σ ce sl) : rv_V G M mc ms Rt pc ls st σ ce sl :=
  rv_V.step hM (fun pc ls st σ ce sl h => rv_bx_V hM k pc ls st σ ce sl h) h
/-- fewer known locals -/
theorem rv_V.weak {G : rv_G} {M : rv_M} {mc ms : Nat} {Rt : Option Value → rv_S → Prop} {pc : Nat} {ls ls' : rv_L} {st : List Value} {σ : rv_S} {ce sl : Nat} (h : rv_V G M mc ms Rt pc ls' st σ ce sl) (hw : ∀ (i : Nat) (v : Value), ls'[i]? = some (some v) → ls[i]? = some (some v)) : rv_V G M mc ms Rt pc ls st σ ce sl :=
  fun h1 h2 R p e s m args below meth c A H locs la hl hR hlo => h h1 h2 R p e s m args below meth c A H locs la (hl.weak hw) hR hlo
theorem rv_V.mono {G : rv_G} {M : rv_M} {mc ms : Nat} {Rt Rt' : Option Value → rv_S → Prop} {pc : Nat} {ls : rv_L} {st : List Value} {σ : rv_S} {ce sl : Nat} (h : rv_V G M mc ms Rt pc ls st σ ce sl) (hw : ∀ r σ, Rt r σ → Rt' r σ) : rv_V G M mc ms Rt' pc ls st σ ce sl := by
  intro h1 h2 R p e s m args below meth c A H locs la hl hR hlo T hT X
  obtain ⟨t, a, o, b1, b2, ⟨⟨r, σ', b3, b4, b5⟩, b7⟩, b6⟩ := h h1 h2 R p e s m args below meth c A H locs la hl hR hlo T hT X
  exact ⟨t, a, o, b1, b2, ⟨⟨r, σ', b3, hw r σ' b4, b5⟩, b7⟩, b6⟩
/-- counts of new cells may be rounded up -/
theorem rv_V.widen {G : rv_G} {M : rv_M} {mc ms : Nat} {Rt : Option Value → rv_S → Prop} {pc : Nat} {ls : rv_L} {st : List Value} {σ : rv_S} {ce sl ce' sl' : Nat} (h1 : ce ≤ ce') (h2 : sl ≤ sl') (h3 : ce' ≤ mc) (h4 : sl' ≤ ms) (h : rv_V G M mc ms Rt pc ls st σ ce' sl') : rv_V G M mc ms Rt pc ls st σ ce sl :=
  fun _ _ R p e s m args below meth c A H locs la hl hR hlo => W.widen h1 h2 (h h3 h4 R p e s m args below meth c A H locs la hl hR hlo)
/-- a method's locals at its entry -/
def rv_en : List Value → List (Option Value)
  | [] => []
  | .long x :: l => some (.long x) :: none :: rv_en l
  | .double x :: l => some (.double x) :: none :: rv_en l
  | v :: l => some v :: rv_en l
theorem rv_en_at : ∀ (av : List Value) (j i : Nat) (v : Value), (rv_en av)[i]? = some (some v) → (i + j, v) ∈ lv_args j av
  | [], j, i, v, h => by simp [rv_en] at h
  | w :: l, j, i, v, h => by
    have key1 : w.category = 1 → rv_en (w :: l) = some w :: rv_en l := by cases w <;> simp [rv_en, Value.category]
    have key2 : w.category = 2 → rv_en (w :: l) = some w :: none :: rv_en l := by cases w <;> simp [rv_en, Value.category]
    unfold lv_args
    rcases lv_cat w with hc | hc
    · rw [key1 hc] at h
      rw [if_neg (by omega)]
      cases i with
      | zero => simp at h; subst h; simp
      | succ i =>
        have := rv_en_at l (j + 1) i v (by simpa using h)
        rw [show i + (j + 1) = i + 1 + j by omega] at this
        exact List.mem_cons_of_mem _ this
    · rw [key2 hc] at h
      rw [if_pos hc]
      match i, h with
      | 0, h => simp at h; subst h; simp
      | 1, h => simp at h
      | i + 2, h =>
        have := rv_en_at l (j + 2) i v (by simpa using h)
        rw [show i + (j + 2) = i + 2 + j by omega] at this
        exact List.mem_cons_of_mem _ this
theorem rv_en_len : ∀ (av : List Value), (rv_en av).length = (lg_sl av).length
  | [] => rfl
  | w :: l => by
    have ih := rv_en_len l
    unfold lg_sl at ih ⊢
    cases w <;> simp [rv_en, Value.category, ih] <;> omega
/-- the entry's locals, filled up -/
def rv_e (n : Nat) (av : List Value) : rv_L := rv_en av ++ List.replicate (n - (rv_en av).length) none
set_option maxHeartbeats 1000000 in
/-- A CONTRACT OUT OF A WALK from the method's first instruction -/
theorem rv_ct {G : rv_G} {i mc ms : Nat} {av : List Value} {σ : rv_S} {Rt : Option Value → rv_S → Prop} {M : rv_M} (hi : rv_md i = M) (hp : plainName M.1.cls = true) (ho : M.1.cls = rv_ow M) (hlen : Nat.ble (rv_en av).length (rv_ml M) = true)
    (h : rv_V G M mc ms Rt 0 (rv_e (rv_ml M) av) [] σ 0 0) : rv_Ct G i mc ms av σ Rt := by
  unfold rv_Ct
  rw [hi]
  refine Met.ofW (cc := rv_bt M) (maxL := rv_ml M) (ret := rv_rt M) hp rfl ?_
  intro p e s m args below meth c s₁ B hml hv
  obtain ⟨rfl, hR, hK, hN⟩ := hv
  have hts := atoms_spec (ws := rv_W M) B.pre
  have hl := lv_entry av (n := rv_ml M) (by rw [← rv_en_len]; exact Nat.le_of_ble_eq_true hlen)
  rw [lg_entry_eq]
  refine h (Nat.zero_le _) (Nat.zero_le _) _ p e s m _ below meth c ⟨⟨B.exec, B.bytes, hml, by rw [← ho]; exact findClass_of_methodNamed B.named, fun w hw => hts w (List.mem_cons_of_mem _ hw)⟩, B.notSynchronized, B.returns, (name_of_methodNamed B.named B.method).1, ⟨rfl, rfl, Nat.le_refl _, Nat.le_refl _⟩, hK, hN⟩ s.heap [] _ ⟨hl.1, hl.2.1, fun i v hi => ?_⟩ hR va_S.rf
  have hi2 : (rv_en av)[i]? = some (some v) := by
    unfold rv_e at hi
    by_cases hlt : i < (rv_en av).length
    · rw [List.getElem?_append_left hlt] at hi
      exact hi
    · rw [List.getElem?_append_right (by omega)] at hi
      have := List.mem_of_getElem? hi
      simp at this
  have := rv_en_at av 0 i v hi2
  exact hl.2.2 (i, v) (by simpa using this)
set_option maxHeartbeats 1000000 in
/-- the same, of a member of a class of the JDK's -/
theorem rv_ctF {G : rv_G} {i mc ms : Nat} {av : List Value} {σ : rv_S} {Rt : Option Value → rv_S → Prop} {M : rv_M} (hi : rv_md i = M) (hp : plainFor M.1 = true) (ho : M.1.cls = rv_ow M) (hlen : Nat.ble (rv_en av).length (rv_ml M) = true)
    (h : rv_V G M mc ms Rt 0 (rv_e (rv_ml M) av) [] σ 0 0) : rv_Ct G i mc ms av σ Rt := by
  unfold rv_Ct
  rw [hi]
  refine va_MetF (cc := rv_bt M) (maxL := rv_ml M) (ret := rv_rt M) hp rfl ?_
  intro p e s m args below meth c s₁ B hml hv
  obtain ⟨rfl, hR, hK, hN⟩ := hv
  have hts := atoms_spec (ws := rv_W M) B.pre
  have hl := lv_entry av (n := rv_ml M) (by rw [← rv_en_len]; exact Nat.le_of_ble_eq_true hlen)
  rw [lg_entry_eq]
  refine h (Nat.zero_le _) (Nat.zero_le _) _ p e s m _ below meth c ⟨⟨B.exec, B.bytes, hml, by rw [← ho]; exact findClass_of_methodNamed B.named, fun w hw => hts w (List.mem_cons_of_mem _ hw)⟩, B.notSynchronized, B.returns, (name_of_methodNamed B.named B.method).1, ⟨rfl, rfl, Nat.le_refl _, Nat.le_refl _⟩, hK, hN⟩ s.heap [] _ ⟨hl.1, hl.2.1, fun i v hi => ?_⟩ hR va_S.rf
  have hi2 : (rv_en av)[i]? = some (some v) := by
    unfold rv_e at hi
    by_cases hlt : i < (rv_en av).length
    · rw [List.getElem?_append_left hlt] at hi
      exact hi
    · rw [List.getElem?_append_right (by omega)] at hi
      have := List.mem_of_getElem? hi
      simp at this
  have := rv_en_at av 0 i v hi2
  exact hl.2.2 (i, v) (by simpa using this)
