/-! WHAT IS CHECKED OF A LISTING (by the kernel, a method at a time), AND THE STEP'S SOUNDNESS -/
theorem rv_find_mem : ∀ (l : List rv_I) (pc : Nat) (x : rv_I), rv_find l pc = some x → x ∈ l ∧ x.1 = pc
  | [], pc, x, h => by cases h
  | y :: l, pc, x, h => by
    unfold rv_find at h
    split at h
    · rename_i hb
      cases h
      exact ⟨List.mem_cons_self, Nat.eq_of_beq_eq_true hb⟩
    · obtain ⟨h1, h2⟩ := rv_find_mem l pc x h
      exact ⟨List.mem_cons_of_mem _ h1, h2⟩
theorem rv_fit_ok {ty : FieldType} {v : Value} (h : rv_fit ty v) : narrow ty v = v ∧ fits ty v = true := by
  cases ty <;> cases v <;> simp only [rv_fit] at h <;> first | exact h.elim | exact ⟨rfl, rfl⟩ | (rcases h with rfl | rfl <;> exact ⟨by decide, by decide⟩)
theorem rv_NW.warm {s U : State} (hW : s.WarmedH U.vm) (h : rv_NW s) : rv_NW U := ⟨fun o i y ho hm => va_Nw.warmM hW (h.1 o i y ho hm), fun C hC => (h.2 C hC).moved hW.alike⟩
theorem rv_NW.same {s U : State} (hv : s.vm = U.vm) (h : rv_NW s) : rv_NW U := ⟨fun o i y ho hm => va_Nw.same rfl hv (h.1 o i y ho hm), fun C hC => (h.2 C hC).moved (by rw [hv]; exact Vm.Alike.refl _)⟩
theorem rv_sw_or {x : Int32} {nx : Nat → Prop} : ∀ (sw : List (Int32 × Nat)) (d : Nat), rv_sw x nx sw d → (∃ (i : Nat) (t : Nat), sw[i]? = some (x, t) ∧ nx t) ∨ ((∀ (i : Nat) (k : Int32) (t : Nat), sw[i]? = some (k, t) → ¬ x = k) ∧ nx d)
  | [], d, h => Or.inr ⟨fun i k t hi => by simp at hi, h⟩
  | (k, t) :: sw, d, h => by
    by_cases hk : x = k
    · subst hk
      exact Or.inl ⟨0, t, rfl, h.1 rfl⟩
    · rcases rv_sw_or sw d (h.2 hk) with ⟨i, t', h1, h2⟩ | ⟨h1, h2⟩
      · exact Or.inl ⟨i + 1, t', by simpa using h1, h2⟩
      · refine Or.inr ⟨fun i k' t' hi => ?_, h2⟩
        cases i with
        | zero => simp at hi; rw [← hi.1]; exact hk
        | succ i => exact h1 i k' t' (by simpa using hi)
/-- what a class's rows of the tables say -/
def rv_cfP (ci : Nat) (r : vw_C) : Prop := (∀ w ∈ u_ws r.1 r.2.1 r.2.2, w ∈ rv_gl) ∧ (∀ k, k < r.2.2 → parseFieldDescriptor (r.2.1 k).2.2.1 = some (rv_ty ci k)) ∧ (∀ a, a < r.2.2 → ∀ b, b < r.2.2 → a ≠ b → (r.2.1 a).2.1 ≠ (r.2.1 b).2.1) ∧ Cond.instantiable r.1 r.2.2 ∈ rv_gl ∧ Cond.initialized r.1 ∈ rv_gl ∧ (∀ j, j < r.2.2 → defaultValue (rv_ty ci j) = vp_V (rv_df ci) j) ∧ (rv_df ci).length = r.2.2 ∧ ¬ r.1 = "#"
/-- an activation of a method: the machine, the code, the words, the room, the classes -/
def rv_Act (G : rv_G) (M : rv_M) (mc ms : Nat) (R : Room) (p : Program) (s : State) (m : MethodId) (args : Array Value) (meth : Method) (c : Code) : Prop :=
  (p.tables.exec = Jvm.exec ∧ c.code = rv_bt M ∧ c.maxLocals = rv_ml M ∧ s.vm.findClass (rv_ow M) = some m.cls ∧ ∀ w ∈ rv_gl, w.before args s = true) ∧ meth.locks = false ∧ meth.sig.returnType = rv_rt M ∧ meth.name = M.1.name ∧ (R.cells = mc ∧ R.slots = ms ∧ rv_rk M ≤ R.frames ∧ rv_nd M ≤ R.locals) ∧ va_K G.2.1 classes [] s ∧ rv_NW s
/-- from this place of the method, with these locals, this stack and this heap, the machine comes to the method's end as Rt says -/
def rv_V (G : rv_G) (M : rv_M) (mc ms : Nat) (Rt : Option Value → rv_S → Prop) (pc : Nat) (ls : rv_L) (st : List Value) (σ : rv_S) (ce sl : Nat) : Prop :=
  ce ≤ mc → sl ≤ ms → ∀ (R : Room) (p : Program) (e : Env) (s : State) (m : MethodId) (args : Array Value) (below : List Frame) (meth : Method) (c : Code), rv_Act G M mc ms R p s m args meth c →
    ∀ (H : Heap) (locs : List Loc) (la : Array Slot), rv_lr la (rv_ml M) ls → rv_Rep G σ s H → va_S G.2.2 s.heap H locs →
      W p G.1 e R s m args below meth c H locs ce sl (MQ below (rv_Q G Rt) args s mc ms G.2.2) (F0 m pc la st)
theorem rv_back {G : rv_G} {Rt : Option Value → rv_S → Prop} {p : Program} {l : Launch} {e : Env} {R : Room} {s : State} {m : MethodId} {args : Array Value} {below : List Frame} {meth : Method} {c : Code} {H : Heap} {locs : List Loc} {ce sl mc ms pc : Nat} {la : Array Slot} {st0 rest : List Value} {a : Array Value} {Q : State → Prop}
    (hr : va_Run p l e R s m args below meth c H locs ce sl mc ms (F0 m pc la st0) rest (rv_Q G Rt a) G.2.2) (hlo : va_S G.2.2 s.heap H locs)
    (kk : ∀ (r : Option Value) (σ : rv_S) (H1 : Heap) (locs1 : List Loc), Rt r σ → rv_Rep G σ s H1 → va_S G.2.2 s.heap H1 locs1 → W p l e R s m args below meth c H1 locs1 (ce + mc) (sl + ms) Q (F0 m (pc + 3) la (r.toList ++ rest))) : W p l e R s m args below meth c H locs ce sl Q (F0 m pc la st0) := by
  intro T hT X
  obtain ⟨v, st₀, t, T', L, h0, X', hL, e1, e2, ⟨⟨r, σ, hv, hp, hb⟩, hz, hk⟩, st⟩ := hr T hT X
  cases hv
  rw [h0] at hz hk
  have hal : t.vm.Alike s.vm := by rw [← e2]; exact X'.warmed.alike.symm
  obtain ⟨t2, a1, b1⟩ := kk v σ T'.heap (locs ++ L) hp (by rw [e1]; exact hb.moved hal) ⟨Nat.le_trans hlo.1 (by rw [e1]; exact hz), fun q h1 h2 => by rw [e1, hk q (Nat.lt_of_lt_of_le h1 hlo.1) h2]; exact hlo.2.1 q h1 h2, fun q hq => by
    rcases List.mem_append.mp hq with h | h
    · exact hlo.2.2 q h
    · exact hL q h⟩ T' rfl X'
  exact ⟨t2, st t2 a1, b1⟩
/-- a store into an object's field -/
theorem rv_put {G : rv_G} {p : Program} {l : Launch} {e : Env} {R : Room} {s : State} {m : MethodId} {args : Array Value} {below : List Frame} {meth : Method} {c : Code} {H : Heap} {locs : List Loc} {ce sl pc idx : Nat} {la : Array Slot} {rest : List Value} {Q : State → Prop} {cc : ByteArray} {own : String} {ci o k : Nat} {fs : List Value} {v : Value} {r : vw_C} {σ : rv_S}
    (hexec : p.tables.exec = Jvm.exec) (hb : c.code = cc) (hown : s.vm.findClass own = some m.cls) (hts : ∀ w ∈ rv_gl, w.before args s = true) (hK : va_K G.2.1 classes [] s) (hc : classes[ci]? = some r) (hcf : rv_cfP ci r) (hk : k < r.2.2) (hlink : (Cond.fieldLink own idx (r.2.1 k).1 (r.2.1 k).2.1 (r.2.1 k).2.2.1).before args s = true)
    (hfin : (r.2.1 k).2.2.2 = false ∨ (meth.name = "<init>" ∧ (r.2.1 k).1 = own)) (hfit : rv_fit (rv_ty ci k) v) (hR : rv_Rep G σ s H) (ho : σ.2 o = some (.inl (ci, fs))) (hlo : va_S G.2.2 s.heap H locs) (hdg : decode cc pc = .ok (.putfield idx, 3))
    (kk : ∀ (H1 : Heap) (locs1 : List Loc), rv_Rep G (σ.1, rv_up σ.2 o (.inl (ci, fs.set k v))) s H1 → va_S G.2.2 s.heap H1 locs1 → W p l e R s m args below meth c H1 locs1 ce sl Q (F0 m (pc + 3) la rest)) : W p l e R s m args below meth c H locs ce sl Q (F0 m pc la (v :: .ref o :: rest)) := by
  obtain ⟨hlo1, r', hc', hlen, cell, q1, q2, q3, q4⟩ := hR.2 o _ ho
  have hr : r' = r := Option.some.inj (hc'.symm.trans hc)
  subst hr
  obtain ⟨hin, hty, hnm, -⟩ := hcf
  obtain ⟨hn, hf⟩ := rv_fit_ok hfit
  have hap := va_apart (own := own) (D := G.2.1) (cl := classes) (tys := []) (ci := ci) (C := r'.1) (T := r'.2.1) (N := r'.2.2) hts hin (rv_ty ci) hty hnm hK hc
  obtain ⟨hS, hfc, kC, hkC, hkind⟩ := hK.1 ci _ hc
  obtain ⟨cf, kf, fi, f, hi, hsl⟩ := hS k hk
  have hst := (u_facts hfc hkC (u_lays hts hin hk) hi).1
  have fin : ∀ H' : Heap, H'[o]? = some (cell.setSlot f.slot v) → H'.size = H.size → (∀ q, q ≠ o → H'[q]? = H[q]?) → W p l e R s m args below meth c H' (locs ++ [⟨o, f.slot⟩]) ce sl Q (F0 m (pc + 3) la rest) := by
    intro H' e1 e2 e3
    rw [hsl] at e1 ⊢
    refine kk H' _ (hR.set (x := .inl (ci, fs.set k v)) ⟨hlo1, r', hc, by rw [List.length_set]; exact hlen, t_OB.to (V := updV (vp_V fs) k v) ⟨_, e1, q2, q3, t_set q4 hap hk v⟩ (fun j _ => vp_updV_set (by rw [hlen]; exact hk) v j)⟩ e2 e3) (hlo.put e2 e3 hlo1)
  have hlay := hts _ (hin _ (u_in_lay hk))
  unfold u_lay at hlay
  cases hfl : (r'.2.1 k).2.2.2 with
  | false =>
    rw [if_neg (by rw [hfl]; decide)] at hlay
    have h6 := u_store hfc hkC hkind hlay hi (hty k hk) hn hf
    exact W.putK hexec hb (f := f) ⟨hown, hlink, ⟨_, _, _, hi⟩, hst⟩ (by rw [q2]; exact h6) q1 q3 (by rw [hsl]; exact k2_hasslot (q4 k hk)) rfl rfl hdg fin
  | true =>
    rw [if_pos hfl] at hlay
    rcases hfin with h | ⟨hin2, hdecl⟩
    · rw [hfl] at h; cases h
    · have hcf : m.cls = cf := by
        obtain ⟨_, _, c', _, _, _, -, -, hf', -, -, -, hown2, -⟩ := Cond.laysFinal_spec hlay
        have e1 : c' = cf := by have := hi.symm.trans hf'; simp at this; exact this.1.symm
        rw [hdecl] at hown2
        rw [← e1]; exact Option.some.inj (hown.symm.trans hown2)
      have h6 := u_fits hfc hkC hkind (Or.inr hlay) hi (hty k hk) hn hf
      exact W.putFinK hexec hb hown hlink hi hst hcf hin2 (by rw [q2]; exact h6) q1 q3 (by rw [hsl]; exact k2_hasslot (q4 k hk)) rfl rfl hdg fin
/-- the places of Object's constructor -/
def rv_obj : Prop := Cond.instanceMethod objectInit ∈ rv_gl ∧ Cond.code objectInit ⟨#[0xb1]⟩ 1 none ∈ rv_gl
theorem rv_c1_cat {w : Value} (h : rv_c1 w = true) : w.category = 1 := by cases w <;> simp [rv_c1, Value.category] at h ⊢
def rv_cm (N : rv_M) : Prop := Cond.code N.1 (rv_bt N) (rv_ml N) (rv_rt N) ∈ rv_gl
theorem rv_goodW {N : rv_M} (h : rv_cm N) : GoodIn rv_gl (rv_W N) := by
  intro w hw
  rcases List.mem_cons.mp hw with rfl | hw
  · exact ⟨h, good_of_word (List.mem_filter.mp h).2⟩
  · exact ⟨hw, good_of_word (List.mem_filter.mp hw).2⟩
theorem rv_blind {G : rv_G} {σ : rv_S} {av : List Value} : FrameBlind (va_Pc av (fun U => rv_Rep G σ U U.heap ∧ va_K G.2.1 classes [] U ∧ rv_NW U)) := by
  intro a U g mk q
  obtain ⟨q0, q1, q2, q3⟩ := q
  exact ⟨q0, rv_Rep.moved (u := U) (U := U.calling g mk a) (Vm.Alike.refl U.vm) q1, va_K.moved (u := U) (U := U.calling g mk a) (Vm.Alike.refl U.vm) q2, rv_NW.same (s := U) (U := U.calling g mk a) rfl q3⟩
theorem rv_ntag_long : ¬ FieldType.long = rv_tag := by unfold rv_tag; intro h; cases h
theorem rv_ntag_int : ¬ FieldType.int = rv_tag := by unfold rv_tag; intro h; cases h
theorem rv_ntag_boolean : ¬ FieldType.boolean = rv_tag := by unfold rv_tag; intro h; cases h
theorem rv_ntag_obj {C : String} (hC : ¬ C = "#") : ¬ FieldType.object C = rv_tag := by
  unfold rv_tag
  intro h
  cases h
  exact hC rfl
theorem rv_arr {G : rv_G} {U : State} {H : Heap} {a n : Nat} {ty : FieldType} {f : Nat → Value} (h : rv_at G.2.1 G.2.2 U H a (.inr (ty, n, f))) (ht : ¬ ty = rv_tag) : G.2.2 a ∧ ∃ cA : ClassId, H[a]? = some (arrV cA n f) ∧ ArrOfT U cA ty ∧ va_RA U cA ty := by
  rcases h with ⟨h1, -⟩ | ⟨-, h0, h1⟩
  · exact absurd h1 ht
  · exact ⟨h0, h1⟩
theorem rv_grow {A : Nat → Prop} {H0 H H1 : Heap} {locs : List Loc} {n : Nat} (h : va_S A H0 H locs) (hz : H1.size = n + 1) (hn : H.size = n) (ho : ∀ q : Nat, q < H.size → H1[q]? = H[q]?) : va_S A H0 H1 locs :=
  ⟨Nat.le_trans h.1 (by omega), fun q h1 h2 => (ho q (Nat.lt_of_lt_of_le h1 h.1)).trans (h.2.1 q h1 h2), h.2.2⟩
set_option maxHeartbeats 4000000 in
set_option maxRecDepth 100000 in
theorem rv_sound {G : rv_G} {M : rv_M} {mc ms : Nat} {Rt : Option Value → rv_S → Prop} {nx : Nat → rv_L → List Value → rv_S → Nat → Nat → Prop} (hM : rv_good M) (hcf : ∀ (ci : Nat) (r : vw_C), classes[ci]? = some r → rv_cfP ci r) (hcm : ∀ a, a < i_Law_law → rv_cm (rv_md a)) (hobj : rv_obj)
    (hn : ∀ pc ls st σ ce sl, nx pc ls st σ ce sl → rv_V G M mc ms Rt pc ls st σ ce sl) {pc : Nat} {ls : rv_L} {st : List Value} {σ : rv_S} {ce sl : Nat} (h : rv_step G M mc ms Rt nx pc ls st σ ce sl) : rv_V G M mc ms Rt pc ls st σ ce sl := by
  unfold rv_step at h
  split at h
  · exact h.elim
  rename_i pc' i a b k p0 v sw hx0
  obtain ⟨hmem, hpc⟩ := rv_find_mem _ _ _ hx0
  have hok := hM _ hmem
  simp only [rv_ok, Bool.and_eq_true, decide_eq_true_eq] at hok
  obtain ⟨hd, hlk⟩ := hok
  dsimp only at hd hlk h hpc
  subst hpc
  clear hx0 hmem
  intro hce hsl R p e s m args below meth c A H locs la hl hR hlo
  obtain ⟨⟨hx, hb, hml, hown, hts⟩, hlocks, hret, hnm, ⟨hRc, hRs, hRf, hRl⟩, hK, hN⟩ := id A
  have go : ∀ pc ls st σ ce sl, nx pc ls st σ ce sl → ce ≤ mc → sl ≤ ms → ∀ (H : Heap) (locs : List Loc) (la : Array Slot), rv_lr la (rv_ml M) ls → rv_Rep G σ s H → va_S G.2.2 s.heap H locs → W p G.1 e R s m args below meth c H locs ce sl (MQ below (rv_Q G Rt) args s mc ms G.2.2) (F0 m pc la st) :=
    fun pc ls st σ ce sl h h1 h2 H locs la hl hR hlo => hn pc ls st σ ce sl h h1 h2 R p e s m args below meth c A H locs la hl hR hlo
  cases i with
  | iconst n => exact lv_iconst hx hb hd (show Int32.ofInt n = v from of_decide_eq_true hlk) (go _ _ _ _ _ _ h hce hsl H locs la hl hR hlo)
  | bipush n => exact lv_bipush hx hb hd (show (Int8.ofInt n).toInt32 = v from of_decide_eq_true hlk) (go _ _ _ _ _ _ h hce hsl H locs la hl hR hlo)
  | sipush n => exact lv_sipush hx hb hd (show (Int16.ofInt n).toInt32 = v from of_decide_eq_true hlk) (go _ _ _ _ _ _ h hce hsl H locs la hl hR hlo)
  | ldc idx => exact lv_ldc hx hb hown (hts _ (rv_hasG_mem (show rv_hasG p0 (.constant (rv_ow M) idx v) = true from hlk))) hd (go _ _ _ _ _ _ h hce hsl H locs la hl hR hlo)
  | ldc2_w idx => exact lv_ldc2 hx hb hown (hts _ (rv_hasG_mem (show rv_hasG p0 (.constantLong (rv_ow M) idx (-99999999)) = true from hlk))) hd (go _ _ _ _ _ _ h hce hsl H locs la hl hR hlo)
  | lconst n =>
    match n, h, hd with
    | 0, h, hd => exact lv_lconst hx hb hd rfl (go _ _ _ _ _ _ h hce hsl H locs la hl hR hlo)
    | 1, h, hd => exact lv_lconst hx hb hd rfl (go _ _ _ _ _ _ h hce hsl H locs la hl hR hlo)
  | aconst_null => exact lv_null hx hb hd (go _ _ _ _ _ _ h hce hsl H locs la hl hR hlo)
  | iload i =>
    simp only [rv_ex] at h
    split at h
    · rename_i x hq
      exact lv_iload hx hb hd (hl.get hq) (go _ _ _ _ _ _ h hce hsl H locs la hl hR hlo)
    · exact h.elim
  | iload_n i =>
    simp only [rv_ex] at h
    split at h
    · rename_i x hq
      exact lv_iload_n hx hb hd rfl (hl.get hq) (go _ _ _ _ _ _ h hce hsl H locs la hl hR hlo)
    · exact h.elim
  | lload i =>
    simp only [rv_ex] at h
    split at h
    · rename_i x hq
      exact lv_lload hx hb hd (hl.get hq) (go _ _ _ _ _ _ h hce hsl H locs la hl hR hlo)
    · exact h.elim
  | lload_n i =>
    simp only [rv_ex] at h
    split at h
    · rename_i x hq
      exact lv_lload_n hx hb hd rfl (hl.get hq) (go _ _ _ _ _ _ h hce hsl H locs la hl hR hlo)
    · exact h.elim
  | aload i =>
    simp only [rv_ex] at h
    split at h
    · rename_i x hq
      exact lv_aload hx hb hd (hl.get hq) (go _ _ _ _ _ _ h hce hsl H locs la hl hR hlo)
    · rename_i hq
      exact lv_aloadN hx hb hd (hl.get hq) (go _ _ _ _ _ _ h hce hsl H locs la hl hR hlo)
    · exact h.elim
  | aload_n i =>
    simp only [rv_ex] at h
    split at h
    · rename_i x hq
      exact lv_aload_n hx hb hd rfl (hl.get hq) (go _ _ _ _ _ _ h hce hsl H locs la hl hR hlo)
    · rename_i hq
      exact lv_aload_nN hx hb hd rfl (hl.get hq) (go _ _ _ _ _ _ h hce hsl H locs la hl hR hlo)
    · exact h.elim
  | istore i =>
    simp only [rv_ex] at h
    split at h
    · exact lv_istore hx hb hd hl.has (show i < rv_ml M from of_decide_eq_true hlk) rfl (fun la' hl' => go _ _ _ _ _ _ h hce hsl H locs la' (rv_lr.st1 hl') hR hlo)
    · exact h.elim
  | istore_n i =>
    simp only [rv_ex] at h
    split at h
    · exact lv_istore_n hx hb hd rfl hl.has (show i.val < rv_ml M from of_decide_eq_true hlk) rfl (fun la' hl' => go _ _ _ _ _ _ h hce hsl H locs la' (rv_lr.st1 hl') hR hlo)
    · exact h.elim
  | lstore i =>
    simp only [rv_ex] at h
    split at h
    · exact lv_lstore hx hb hd hl.has (show i + 1 < rv_ml M from of_decide_eq_true hlk) rfl (fun la' hl' => go _ _ _ _ _ _ h hce hsl H locs la' (rv_lr.st2 hl') hR hlo)
    · exact h.elim
  | astore i =>
    simp only [rv_ex] at h
    split at h
    · exact lv_astore hx hb hd hl.has (show i < rv_ml M from of_decide_eq_true hlk) rfl (fun la' hl' => go _ _ _ _ _ _ h hce hsl H locs la' (rv_lr.st1 hl') hR hlo)
    · exact lv_astoreN hx hb hd hl.has (show i < rv_ml M from of_decide_eq_true hlk) rfl (fun la' hl' => go _ _ _ _ _ _ h hce hsl H locs la' (rv_lr.st1 hl') hR hlo)
    · exact h.elim
  | astore_n i =>
    simp only [rv_ex] at h
    split at h
    · exact lv_astore_n hx hb hd rfl hl.has (show i.val < rv_ml M from of_decide_eq_true hlk) rfl (fun la' hl' => go _ _ _ _ _ _ h hce hsl H locs la' (rv_lr.st1 hl') hR hlo)
    · exact lv_astore_nN hx hb hd rfl hl.has (show i.val < rv_ml M from of_decide_eq_true hlk) rfl (fun la' hl' => go _ _ _ _ _ _ h hce hsl H locs la' (rv_lr.st1 hl') hR hlo)
    · exact h.elim
  | iinc i n =>
    simp only [rv_lk, Bool.and_eq_true, decide_eq_true_eq] at hlk
    simp only [rv_ex] at h
    split at h
    · rename_i x hq
      obtain ⟨kq, hkq⟩ := List.getElem?_of_mem (rv_ps_mem.mpr (by rw [← rv_nth_eq]; exact hq))
      exact lv_iinc (v := x + v) hx hb hd hl.has hkq (by rw [hlk.1]) hlk.2 rfl (fun la' hl' => go _ _ _ _ _ _ h hce hsl H locs la' (rv_lr.st1 hl') hR hlo)
    · exact h.elim
  | iadd =>
    simp only [rv_ex] at h
    split at h
    · exact lv_iadd hx hb hd (go _ _ _ _ _ _ h hce hsl H locs la hl hR hlo)
    · exact h.elim
  | isub =>
    simp only [rv_ex] at h
    split at h
    · exact lv_isub hx hb hd (go _ _ _ _ _ _ h hce hsl H locs la hl hR hlo)
    · exact h.elim
  | imul =>
    simp only [rv_ex] at h
    split at h
    · exact lv_imul hx hb hd (go _ _ _ _ _ _ h hce hsl H locs la hl hR hlo)
    · exact h.elim
  | idiv =>
    simp only [rv_ex] at h
    split at h
    · exact lv_idiv hx hb hd h.1 (go _ _ _ _ _ _ h.2 hce hsl H locs la hl hR hlo)
    · exact h.elim
  | iand =>
    simp only [rv_ex] at h
    split at h
    · exact lv_iand hx hb hd (go _ _ _ _ _ _ h hce hsl H locs la hl hR hlo)
    · exact h.elim
  | ixor =>
    simp only [rv_ex] at h
    split at h
    · exact lv_ixor hx hb hd (go _ _ _ _ _ _ h hce hsl H locs la hl hR hlo)
    · exact h.elim
  | ladd =>
    simp only [rv_ex] at h
    split at h
    · exact lv_ladd hx hb hd (go _ _ _ _ _ _ h hce hsl H locs la hl hR hlo)
    · exact h.elim
  | i2l =>
    simp only [rv_ex] at h
    split at h
    · exact lv_i2l hx hb hd rfl (go _ _ _ _ _ _ h hce hsl H locs la hl hR hlo)
    · exact h.elim
  | l2i =>
    simp only [rv_ex] at h
    split at h
    · exact lv_l2i hx hb hd rfl (go _ _ _ _ _ _ h hce hsl H locs la hl hR hlo)
    · exact h.elim
  | lcmp =>
    simp only [rv_ex] at h
    split at h
    · exact W.lcmp hx hb hd (go _ _ _ _ _ _ h hce hsl H locs la hl hR hlo)
    · exact h.elim
  | dup =>
    simp only [rv_ex] at h
    split at h
    · split at h
      · rename_i hc
        exact lv_dup hx hb hd (rv_c1_cat hc) (go _ _ _ _ _ _ h hce hsl H locs la hl hR hlo)
      · exact h.elim
    · exact h.elim
  | dup2 =>
    simp only [rv_ex] at h
    split at h
    · exact lv_dup2_2 hx hb hd rfl (go _ _ _ _ _ _ h hce hsl H locs la hl hR hlo)
    · exact lv_dup2_11 hx hb hd rfl rfl (go _ _ _ _ _ _ h hce hsl H locs la hl hR hlo)
    · exact h.elim
  | goto off => exact lv_goto hx hb hd (show (pc' : Int) + off = (a : Int) from of_decide_eq_true hlk) (go _ _ _ _ _ _ h hce hsl H locs la hl hR hlo)
  | ifCond cd off =>
    have ht : (pc' : Int) + off = (a : Int) := of_decide_eq_true hlk
    simp only [rv_ex] at h
    split at h
    · cases cd with
      | eq => exact lv_if_eq hx hb hd ht (fun q => go _ _ _ _ _ _ (h.1 q) hce hsl H locs la hl hR hlo) (fun q => go _ _ _ _ _ _ (h.2 q) hce hsl H locs la hl hR hlo)
      | ne => exact lv_if_ne hx hb hd ht (fun q => go _ _ _ _ _ _ (h.2 q) hce hsl H locs la hl hR hlo) (fun q => go _ _ _ _ _ _ (h.1 q) hce hsl H locs la hl hR hlo)
      | lt => exact lv_if_lt hx hb hd ht (fun q => go _ _ _ _ _ _ (h.1 q) hce hsl H locs la hl hR hlo) (fun q => go _ _ _ _ _ _ (h.2 q) hce hsl H locs la hl hR hlo)
      | ge => exact lv_if_ge hx hb hd ht (fun q => go _ _ _ _ _ _ (h.1 q) hce hsl H locs la hl hR hlo) (fun q => go _ _ _ _ _ _ (h.2 q) hce hsl H locs la hl hR hlo)
      | gt => exact lv_if_gt hx hb hd ht (fun q => go _ _ _ _ _ _ (h.1 q) hce hsl H locs la hl hR hlo) (fun q => go _ _ _ _ _ _ (h.2 q) hce hsl H locs la hl hR hlo)
      | le => exact lv_if_le hx hb hd ht (fun q => go _ _ _ _ _ _ (h.1 q) hce hsl H locs la hl hR hlo) (fun q => go _ _ _ _ _ _ (h.2 q) hce hsl H locs la hl hR hlo)
    · exact h.elim
  | if_icmp cd off =>
    have ht : (pc' : Int) + off = (a : Int) := of_decide_eq_true hlk
    simp only [rv_ex] at h
    split at h
    · cases cd with
      | eq => exact lv_icmp_eq hx hb hd ht (fun q => go _ _ _ _ _ _ (h.1 q) hce hsl H locs la hl hR hlo) (fun q => go _ _ _ _ _ _ (h.2 q) hce hsl H locs la hl hR hlo)
      | ne => exact lv_icmp_ne hx hb hd ht (fun q => go _ _ _ _ _ _ (h.2 q) hce hsl H locs la hl hR hlo) (fun q => go _ _ _ _ _ _ (h.1 q) hce hsl H locs la hl hR hlo)
      | lt => exact lv_icmp_lt hx hb hd ht (fun q => go _ _ _ _ _ _ (h.1 q) hce hsl H locs la hl hR hlo) (fun q => go _ _ _ _ _ _ (h.2 q) hce hsl H locs la hl hR hlo)
      | ge => exact lv_icmp_ge hx hb hd ht (fun q => go _ _ _ _ _ _ (h.1 q) hce hsl H locs la hl hR hlo) (fun q => go _ _ _ _ _ _ (h.2 q) hce hsl H locs la hl hR hlo)
      | gt => exact lv_icmp_gt hx hb hd ht (fun q => go _ _ _ _ _ _ (h.1 q) hce hsl H locs la hl hR hlo) (fun q => go _ _ _ _ _ _ (h.2 q) hce hsl H locs la hl hR hlo)
      | le => exact lv_icmp_le hx hb hd ht (fun q => go _ _ _ _ _ _ (h.1 q) hce hsl H locs la hl hR hlo) (fun q => go _ _ _ _ _ _ (h.2 q) hce hsl H locs la hl hR hlo)
    · exact h.elim
  | if_acmp cd off =>
    have ht : (pc' : Int) + off = (a : Int) := of_decide_eq_true hlk
    simp only [rv_ex] at h
    split at h
    · rename_i y x st
      cases cd with
      | eq => exact lv_acmp_eq (rx := some x) (ry := some y) hx hb hd ht (fun q => go _ _ _ _ _ _ (h.1 (Option.some.inj q)) hce hsl H locs la hl hR hlo) (fun q => go _ _ _ _ _ _ (h.2 (fun z => q (congrArg some z))) hce hsl H locs la hl hR hlo)
      | ne => exact lv_acmp_ne (rx := some x) (ry := some y) hx hb hd ht (fun q => go _ _ _ _ _ _ (h.2 (fun z => q (congrArg some z))) hce hsl H locs la hl hR hlo) (fun q => go _ _ _ _ _ _ (h.1 (Option.some.inj q)) hce hsl H locs la hl hR hlo)
    · exact h.elim
  | ifnull off =>
    have ht : (pc' : Int) + off = (a : Int) := of_decide_eq_true hlk
    simp only [rv_ex] at h
    split at h
    · exact lv_ifnullN hx hb hd ht (go _ _ _ _ _ _ h hce hsl H locs la hl hR hlo)
    · exact lv_ifnull hx hb hd (go _ _ _ _ _ _ h hce hsl H locs la hl hR hlo)
    · exact h.elim
  | ifnonnull off =>
    have ht : (pc' : Int) + off = (a : Int) := of_decide_eq_true hlk
    simp only [rv_ex] at h
    split at h
    · exact lv_ifnonnullN hx hb hd (go _ _ _ _ _ _ h hce hsl H locs la hl hR hlo)
    · exact lv_ifnonnull hx hb hd ht (go _ _ _ _ _ _ h hce hsl H locs la hl hR hlo)
    · exact h.elim
  | tableswitch d lo hi offs =>
    simp only [rv_lk, rv_oksw, Bool.and_eq_true, decide_eq_true_eq] at hlk
    obtain ⟨⟨k1, k2⟩, k3⟩ := hlk
    have k3' : ∀ i, i < sw.length → ∃ key t off, sw[i]? = some (key, t) ∧ offs[i]? = some off ∧ key.toInt = lo + i ∧ (pc' : Int) + off = (t : Int) := by
      intro i hi
      have := List.all_eq_true.mp k3 i (List.mem_range.mpr hi)
      split at this
      · rename_i key t off h1 h2
        simp only [Bool.and_eq_true, decide_eq_true_eq] at this
        exact ⟨key, t, off, h1, h2, this.1, this.2⟩
      · cases this
    simp only [rv_ex] at h
    split at h
    · rename_i x st
      rcases rv_sw_or _ _ h with ⟨i, t, h1, h2⟩ | ⟨h1, h2⟩
      · have hi : i < sw.length := (List.getElem?_eq_some_iff.mp h1).1
        obtain ⟨key, t', off, g1, g2, g3, g4⟩ := k3' i hi
        rw [h1] at g1
        cases g1
        exact lv_tableIn (off := off) hx hb hd (by omega) (by omega) (by rw [show (x.toInt - lo).toNat = i by omega]; exact g2) g4 (go _ _ _ _ _ _ h2 hce hsl H locs la hl hR hlo)
      · refine lv_tableOut hx hb hd ?_ k2 (go _ _ _ _ _ _ h2 hce hsl H locs la hl hR hlo)
        by_cases hlo1 : x.toInt < lo
        · exact Or.inl hlo1
        · by_cases hhi : hi < x.toInt
          · exact Or.inr hhi
          · exfalso
            obtain ⟨key, t', off, g1, g2, g3, g4⟩ := k3' (x.toInt - lo).toNat (by omega)
            exact h1 _ key t' g1 (Int32.toInt_inj.mp (by omega))
    · exact h.elim
  | getfield idx =>
    simp only [rv_ex] at h
    split at h
    · rename_i o st
      obtain ⟨fs, ho, h⟩ := h
      obtain ⟨hlo1, r, hc, hlen, cell, q1, q2, q3, q4⟩ := hR.2 o _ ho
      simp only [rv_lk, hc, Bool.and_eq_true, decide_eq_true_eq] at hlk
      split at h
      · rename_i w hw
        obtain ⟨hin, -⟩ := hcf a r hc
        obtain ⟨hS, hfc, kC, hkC, hkind⟩ := hK.1 a _ hc
        obtain ⟨cf, kf, fi, f, hi, hsl1⟩ := hS b hlk.1
        refine W.getf hx hb hown (hts _ (rv_hasG_mem hlk.2)) hi (u_facts hfc hkC (u_lays hts hin hlk.1) hi).1 q1 (by rw [q3]; exact fun h => by cases h) (v := w) ?_ rfl rfl hd (go _ _ _ _ _ _ h hce hsl H locs la hl hR hlo)
        rw [hsl1, q4 b hlk.1]
        rw [rv_nth_eq] at hw
        simp [vp_V, hw]
      · exact h.elim
    · exact h.elim
  | putfield idx =>
    simp only [rv_ex] at h
    split at h
    · rename_i w o st
      obtain ⟨fs, ho, hfit, h⟩ := h
      obtain ⟨hlo1, r, hc, hlen, -⟩ := hR.2 o _ ho
      simp only [rv_lk, hc, Bool.and_eq_true, decide_eq_true_eq, Bool.or_eq_true, Bool.not_eq_true'] at hlk
      refine rv_put hx hb hown hts hK hc (hcf a r hc) hlk.1.1 (hts _ (rv_hasG_mem hlk.1.2)) ?_ hfit hR ho hlo hd (fun H1 locs1 hR1 hlo1 => go _ _ _ _ _ _ h hce hsl H1 locs1 la hl hR1 hlo1)
      rcases hlk.2 with q | q
      · exact Or.inl q
      · exact Or.inr ⟨hnm.trans q.1, q.2⟩
    · exact h.elim
  | new idx =>
    simp only [rv_ex] at h
    obtain ⟨h1, h2, h⟩ := h
    cases hc : classes[a]? with
    | none => simp only [rv_lk, hc] at hlk; cases hlk
    | some r =>
      simp only [rv_lk, hc] at hlk
      obtain ⟨hin, hty, hnm2, hins, hini, hdf, hlen, -⟩ := hcf a r hc
      rw [hlen] at h2 h
      have hKn := hK.1 a _ hc
      exact W.newcK hx hb hown (hts _ (rv_hasG_mem hlk)) (hts _ hins) (hts _ hini) rfl hd (by rw [hRc]; exact h1) (by rw [hRs]; exact h2) hKn.2.1 hR.1.1 (fun H1 kC hkC e1 z1 o1 => go _ _ _ _ _ _ h h1 h2 H1 locs la hl (hR.new (x := .inl (a, rv_df a)) ⟨hR.1.2 _ (Nat.le_refl _), r, hc, hlen, (u_born (rv_ty a) hts hin hKn hkC e1 hty).to hdf⟩ z1 (fun q hq => o1 q (by rw [← hR.1.1]; exact hq))) (rv_grow hlo z1 hR.1.1 (fun q hq => o1 q (by rw [← hR.1.1]; exact hq))))
  | newarray t =>
    simp only [rv_lk, Bool.and_eq_true, decide_eq_true_eq] at hlk
    simp only [rv_ex] at h
    split at h
    · rename_i xn stn
      obtain ⟨N, hN, hn0, hby, h1, h2, h⟩ := h
      have h : nx (pc' + 2) ls (.ref σ.1 :: stn) (σ.1 + 1, rv_up σ.2 σ.1 (.inr (newarray.typeOf t, N, fun _ => defaultValue (newarray.typeOf t)))) (ce + 1) (sl + N) := by cases t <;> first | exact h | exact h.elim
      exact va_newaK hx hb (hts _ (rv_hasG_mem hlk.1)) rfl hd rfl hn0 hN hby (by rw [hRc]; exact h1) (by rw [hRs]; exact h2) hR.1.1 (fun H1 cA e1 z1 o1 hAr hNm => go _ _ _ _ _ _ h h1 h2 H1 locs la hl (hR.new (x := .inr (newarray.typeOf t, N, fun _ => defaultValue (newarray.typeOf t))) (Or.inr ⟨hlk.2, hR.1.2 _ (Nat.le_refl _), cA, e1, hAr, by cases t <;> exact hNm⟩) z1 (fun q hq => o1 q (by rw [← hR.1.1]; exact hq))) (rv_grow hlo z1 hR.1.1 (fun q hq => o1 q (by rw [← hR.1.1]; exact hq))))
    · exact h.elim
  | anewarray idx =>
    simp only [rv_ex] at h
    split at h
    · obtain ⟨C, N, hC, hN, hn0, hby, h1, h2, h⟩ := h
      cases hc : classes[a]? with
      | none => simp only [rv_lk, hc] at hlk; cases hlk
      | some r =>
        simp only [rv_lk, hc, Bool.and_eq_true] at hlk
        unfold rv_cn at hC
        rw [rv_nth_eq, hc] at hC
        cases hC
        obtain ⟨-, -, -, -, -, -, -, hnt⟩ := hcf a r hc
        subst hN
        refine W.anew hx hb hown (hts _ (rv_hasG_mem hlk.1)) (va_AO.use (hN.2 _ (rv_has_mem hlk.2))) rfl hd rfl hn0 hby (by rw [hRc]; exact h1) (by rw [hRs]; exact h2) fun cA kA comp f1 f2 f3 f4 => ?_
        rw [hR.1.1]
        have z1 : ∀ x : Cell, (H.push x).size = σ.1 + 1 := fun x => by rw [Array.size_push, hR.1.1]
        have o1 : ∀ (x : Cell) (q : Nat), q < H.size → (H.push x)[q]? = H[q]? := fun x q hq => by rw [Array.getElem?_push, if_neg (Nat.ne_of_lt hq)]
        refine go _ _ _ _ _ _ h h1 h2 _ locs la hl (hR.new (x := rv_aO _ _ _) (Or.inr ⟨rv_ntag_obj hnt, hR.1.2 _ (Nat.le_refl _), cA, ?_, fun N z => ⟨(fun k h => by cases h), kA, f2, comp, f3⟩, kA, comp, f2, f3, f4, f1⟩) (z1 _) (o1 _)) (rv_grow hlo (z1 _) hR.1.1 (o1 _))
        show (H.push _)[σ.1]? = some (arrV _ _ (fun _ => .null))
        rw [← hR.1.1, Array.getElem?_push_size, ← arrV_new]
    · exact h.elim
  | arraylength =>
    simp only [rv_ex] at h
    split at h
    · obtain ⟨ty, n, f, ho, h⟩ := h
      rcases hR.2 _ _ ho with ⟨h1, xs, h2, scr, g1, g2, g3, g4, g5⟩ | ⟨-, h0, cA, h1, h2, h3⟩
      · exact W.alen (n := nI n) hx hb g1 g2 (by rw [g4]; rfl) rfl rfl hd (go _ _ _ _ _ _ h hce hsl H locs la hl hR hlo)
      · exact W.alen (n := nI n) hx hb h1 (h2 n f) (by rw [arrV_size]; rfl) rfl rfl hd (go _ _ _ _ _ _ h hce hsl H locs la hl hR hlo)
    · exact h.elim
  | iaload =>
    simp only [rv_ex] at h
    split at h
    · obtain ⟨n, f, ho, hin, h⟩ := h
      have hlt := Nat.not_le.mp fun q => hin (Or.inr q)
      rcases ho with ho | ho
      · obtain ⟨h0, cA, h1, h2, h3⟩ := rv_arr (hR.2 _ _ ho) rv_ntag_int
        exact W.iald hx hb h1 (h2 n _) (fun q => by cases q) (by rw [arrV_size]; exact hin) (arrV_read _ _ hlt) rfl rfl hd (go _ _ _ _ _ _ h hce hsl H locs la hl hR hlo)
      · rcases hR.2 _ _ ho with ⟨h1, xs, h2, scr, g1, g2, g3, g4, g5⟩ | ⟨hng, -⟩
        · refine W.iald hx hb g1 g2 g3 (by rw [g4]; exact hin) (v := .int (f _)) ?_ rfl rfl hd (go _ _ _ _ _ _ h hce hsl H locs la hl hR hlo)
          rw [g5 _ hlt, ← congrFun h2 _]
        · exact absurd rfl hng
    · exact h.elim
  | laload =>
    simp only [rv_ex] at h
    split at h
    · obtain ⟨n, f, ho, hin, h⟩ := h
      have hlt := Nat.not_le.mp fun q => hin (Or.inr q)
      obtain ⟨h0, cA, h1, h2, h3⟩ := rv_arr (hR.2 _ _ ho) rv_ntag_long
      exact W.lald hx hb h1 (h2 n _) (fun q => by cases q) (by rw [arrV_size]; exact hin) (arrV_read _ _ hlt) rfl rfl hd (go _ _ _ _ _ _ h hce hsl H locs la hl hR hlo)
    · exact h.elim
  | baload =>
    simp only [rv_ex] at h
    split at h
    · obtain ⟨n, f, ho, hin, h⟩ := h
      have hlt := Nat.not_le.mp fun q => hin (Or.inr q)
      obtain ⟨h0, cA, h1, h2, h3⟩ := rv_arr (hR.2 _ _ ho) rv_ntag_boolean
      exact W.zald hx hb h1 (h2 n _) (fun q => by cases q) (by rw [arrV_size]; exact hin) (arrV_read _ _ hlt) rfl rfl hd (go _ _ _ _ _ _ h hce hsl H locs la hl hR hlo)
    · exact h.elim
  | aaload =>
    simp only [rv_ex] at h
    split at h
    · obtain ⟨C, n, f, r, ho, hC, hin, hr, h⟩ := h
      have hlt := Nat.not_le.mp fun q => hin (Or.inr q)
      obtain ⟨h0, cA, h1, h2, h3⟩ := rv_arr (hR.2 _ _ ho) (rv_ntag_obj hC)
      cases r with
      | some q => exact W.aald (ty := .object C) hx hb h1 (h2 n _) rfl (fun q => by cases q) (by rw [arrV_size]; exact hin) ((arrV_read _ _ hlt).trans (by rw [hr]; rfl)) rfl rfl hd (go _ _ _ _ _ _ h hce hsl H locs la hl hR hlo)
      | none => exact W.aald (ty := .object C) hx hb h1 (h2 n _) rfl (fun q => by cases q) (by rw [arrV_size]; exact hin) ((arrV_read _ _ hlt).trans (by rw [hr]; rfl)) rfl rfl hd (go _ _ _ _ _ _ h hce hsl H locs la hl hR hlo)
    · exact h.elim
  | iastore =>
    simp only [rv_ex] at h
    split at h
    · obtain ⟨n, f, ho, hin, h⟩ := h
      obtain ⟨h0, cA, h1, h2, h3⟩ := rv_arr (hR.2 _ _ ho) rv_ntag_int
      exact W.iast hx hb h1 (h2 n _) (fun q => by cases q) (by rw [arrV_size]; exact hin) rfl rfl hd (fun H1 e1 z1 o1 => go _ _ _ _ _ _ h hce hsl H1 _ la hl (hR.set (Or.inr ⟨rv_ntag_int, h0, cA, by rw [e1, arrV_store, rv_updI], h2, h3⟩) z1 o1) (hlo.put z1 o1 h0))
    · exact h.elim
  | lastore =>
    simp only [rv_ex] at h
    split at h
    · obtain ⟨n, f, ho, hin, h⟩ := h
      obtain ⟨h0, cA, h1, h2, h3⟩ := rv_arr (hR.2 _ _ ho) rv_ntag_long
      exact W.last hx hb h1 (h2 n _) (fun q => by cases q) (by rw [arrV_size]; exact hin) rfl rfl hd (fun H1 e1 z1 o1 => go _ _ _ _ _ _ h hce hsl H1 _ la hl (hR.set (Or.inr ⟨rv_ntag_long, h0, cA, by rw [e1, arrV_store, rv_updJ], h2, h3⟩) z1 o1) (hlo.put z1 o1 h0))
    · exact h.elim
  | bastore =>
    simp only [rv_ex] at h
    split at h
    · rename_i x i o st
      obtain ⟨n, f, bb, ho, hxb, hin, h⟩ := h
      subst hxb
      obtain ⟨h0, cA, h1, h2, h3⟩ := rv_arr (hR.2 _ _ ho) rv_ntag_boolean
      have hnr : narrow .boolean (.int (rv_b bb)) = .int (rv_b bb) := (rv_fit_ok (ty := .boolean) (v := .int (rv_b bb)) (rv_b01 bb)).1
      exact W.zast hx hb h1 (h2 n _) (fun q => by cases q) (by rw [arrV_size]; exact hin) rfl rfl hd (fun H1 e1 z1 o1 => go _ _ _ _ _ _ h hce hsl H1 _ la hl (hR.set (Or.inr ⟨rv_ntag_boolean, h0, cA, by rw [e1, hnr, arrV_store, rv_updZ], h2, h3⟩) z1 o1) (hlo.put z1 o1 h0))
    · exact h.elim
  | aastore =>
    simp only [rv_ex] at h
    split at h
    · obtain ⟨ci, fs, C, n, f, hw, hcn, ho, hC, hin, h⟩ := h
      obtain ⟨h0, cA, h1, h2, h3⟩ := rv_arr (hR.2 _ _ ho) (rv_ntag_obj hC)
      obtain ⟨-, r, hc, -, cellV, g1, g2, g3, -⟩ := hR.2 _ _ hw
      unfold rv_cn at hcn
      rw [rv_nth_eq, hc] at hcn
      cases hcn
      have hcls := (hK.1 ci r hc).2
      have h3' := h3
      obtain ⟨kA, comp, k1, k2, k3, -⟩ := h3
      have hcomp : comp = G.2.1.1 ci := Option.some.inj (k3.symm.trans hcls.1)
      subst hcomp
      obtain ⟨kC, hkC, -⟩ := hcls.2
      have hlt := Nat.not_le.mp fun q => hin (Or.inr q)
      exact W.aast hx hb h1 (fun q h => by cases h) (fun h => by cases h) k1 k2 rfl hkC ⟨fun q => hin (Or.inl q), by rw [arrV_size]; exact hlt⟩ g1 (fun q h => by rw [g3] at h; cases h) (by rw [g2]; exact hkC) (by rw [g2]; exact va_assign hcls) rfl rfl hd (fun H1 e1 z1 o1 => go _ _ _ _ _ _ h hce hsl H1 _ la hl (hR.set (Or.inr ⟨rv_ntag_obj hC, h0, cA, by rw [e1, arrV_store, rv_updO], h2, h3'⟩) z1 o1) (hlo.put z1 o1 h0))
    · exact h.elim
  | ireturn =>
    simp only [rv_ex] at h
    split at h
    · rename_i x
      split at h
      · rename_i ty hty
        refine W.widen hce hsl ?_
        exact W.zret hx hb (hret.trans hty) (rv_fit_ok h.1).1 (fun t ht hW => ⟨⟨_, σ, rfl, h.2, by rw [ht]; exact hR.moved hW.alike⟩, hlo.F ht⟩) hlo.2.2 hd
      · exact h.elim
    · exact h.elim
  | lreturn =>
    simp only [rv_ex] at h
    split at h
    · rename_i x
      split at h
      · rename_i hty
        refine W.widen hce hsl ?_
        exact W.lret hx hb (hret.trans hty) (fun t ht hW => ⟨⟨_, σ, rfl, h, by rw [ht]; exact hR.moved hW.alike⟩, hlo.F ht⟩) hlo.2.2 hd
      · exact h.elim
    · exact h.elim
  | areturn =>
    simp only [rv_ex] at h
    split at h
    · split at h
      · rename_i C hty
        refine W.widen hce hsl ?_
        exact W.aret hx hb (hret.trans hty) (Or.inl ⟨_, rfl⟩) (Or.inr ⟨_, rfl⟩) (fun t ht hW => ⟨⟨_, σ, rfl, h, by rw [ht]; exact hR.moved hW.alike⟩, hlo.F ht⟩) hlo.2.2 hd
      · exact h.elim
    · split at h
      · rename_i C hty
        refine W.widen hce hsl ?_
        exact W.aret hx hb (hret.trans hty) (Or.inl ⟨_, rfl⟩) (Or.inl rfl) (fun t ht hW => ⟨⟨_, σ, rfl, h, by rw [ht]; exact hR.moved hW.alike⟩, hlo.F ht⟩) hlo.2.2 hd
      · exact h.elim
    · exact h.elim
  | return_ =>
    simp only [rv_ex] at h
    split at h
    · split at h
      · rename_i hty
        refine W.widen hce hsl ?_
        exact W.vret hx hb (hret.trans hty) (fun t ht hW => ⟨⟨_, σ, rfl, h, by rw [ht]; exact hR.moved hW.alike⟩, hlo.F ht⟩) hlo.2.2 hd
      · exact h.elim
    · exact h.elim
  | invokevirtual idx =>
    simp only [rv_lk, rv_okc, Bool.and_eq_true, decide_eq_true_eq] at hlk
    obtain ⟨⟨⟨⟨⟨⟨⟨⟨⟨⟨k0, k1⟩, k2⟩, k3⟩, k4⟩, k5⟩, k6⟩, k7⟩, k8⟩, k9⟩, k10⟩ := hlk
    simp only [rv_ex] at h
    split at h
    · rename_i o rest hdr
      obtain ⟨⟨fs, hfs⟩, mc', ms', Rt', hM', h1, h2, h3, h4⟩ := h
      obtain ⟨-, r, hc, -, cell, q1, q2, q3, -⟩ := hR.2 o _ hfs
      simp only [hc, decide_eq_true_eq] at k10
      have hcode := hcm a k0
      have hlen : (st.take b).reverse.length = b := by
        have h9 : (st.drop b).length = rest.length + 1 := by rw [hdr]; rfl
        rw [List.length_drop] at h9
        rw [List.length_reverse, List.length_take]
        omega
      exact rv_back (va_runV (C := r.1) (bytes := rv_bt (rv_md a)) (maxL := rv_ml (rv_md a)) (ret := rv_rt (rv_md a)) (n := b) (As := (st.take b).reverse) (rest := rest) (b := o) (nL := rv_ml M) (Ts := rv_gl) (own := rv_ow M) ⟨hx, hb, hml, hown, hts⟩ hM'
        ⟨callB_of b hts (rv_goodW hcode) rfl rfl rfl (hts _ (rv_hasG_mem k6)) (hts _ (rv_hasG_mem k7)) ⟨k4, k5, k3⟩ ⟨Nat.le_trans k1 hRf, Nat.le_trans k2 hRl⟩, hts _ (rv_hasG_mem k8), by rw [k10]; exact hts _ (rv_hasG_mem k9)⟩
        ⟨rv_blind, ⟨cell, q1, by rw [q3]; rfl, by rw [q2]; exact (hK.1 k r hc).2.1⟩, fun U hU hW => ⟨rfl, by rw [hU]; exact hR.moved hW.alike, va_K.moved hW.alike hK, hN.warm hW⟩⟩ rfl hlen hl.1 (by show st = _; rw [List.reverse_reverse, ← hdr, List.take_append_drop]) (lv_room (Nat.le_of_ble_eq_true h3)) hd ⟨by rw [hRc]; exact h1, by rw [hRs]; exact h2⟩) hlo
        (fun r' σ' H1 locs1 hq hR1 hlo1 => go _ _ _ _ _ _ (h4 r' σ' hq) h1 h2 H1 locs1 la hl hR1 hlo1)
    · exact h.elim
  | invokestatic idx =>
    simp only [rv_lk, rv_okc, Bool.and_eq_true, decide_eq_true_eq] at hlk
    obtain ⟨⟨⟨⟨⟨⟨⟨⟨k0, k1⟩, k2⟩, k3⟩, k4⟩, k5⟩, k6⟩, k7⟩, k8⟩ := hlk
    simp only [rv_ex] at h
    split at h
    · rename_i hble
      obtain ⟨mc', ms', Rt', hM', h1, h2, h3, h4⟩ := h
      have hcode := hcm a k0
      have hlen : (st.take b).reverse.length = b := by
        have h9 := Nat.le_of_ble_eq_true hble
        rw [List.length_reverse, List.length_take]
        omega
      exact rv_back (va_runS (bytes := rv_bt (rv_md a)) (maxL := rv_ml (rv_md a)) (ret := rv_rt (rv_md a)) (n := b) (As := (st.take b).reverse) (rest := st.drop b) (nL := rv_ml M) (Ts := rv_gl) (own := rv_ow M) ⟨hx, hb, hml, hown, hts⟩ hM'
        ⟨callB_of b hts (rv_goodW hcode) rfl rfl rfl (hts _ (rv_hasG_mem k6)) (hts _ (rv_hasG_mem k7)) ⟨k4, k5, k3⟩ ⟨Nat.le_trans k1 hRf, Nat.le_trans k2 hRl⟩, hts _ (rv_hasG_mem k8)⟩
        ⟨rv_blind, fun U hU hW => ⟨rfl, by rw [hU]; exact hR.moved hW.alike, va_K.moved hW.alike hK, hN.warm hW⟩⟩ rfl hlen hl.1 (by show st = _; rw [List.reverse_reverse, List.take_append_drop]) (lv_room (Nat.le_of_ble_eq_true h3)) hd ⟨by rw [hRc]; exact h1, by rw [hRs]; exact h2⟩) hlo
        (fun r' σ' H1 locs1 hq hR1 hlo1 => go _ _ _ _ _ _ (h4 r' σ' hq) h1 h2 H1 locs1 la hl hR1 hlo1)
    · exact h.elim
  | invokespecial idx =>
    simp only [rv_ex] at h
    split at h
    · simp only [rv_lk, Bool.and_eq_true, decide_eq_true_eq] at hlk
      split at h
      · exact W.objInit hx hb hown (hts _ (rv_hasG_mem hlk.1.1)) (hts _ hobj.1) (hts _ hobj.2) rfl (by rw [hml]; exact hl.1) rfl hd (Nat.le_trans hlk.1.2 hRf) (Nat.le_trans (m := 20) (by show 2 * 0 + 0 + 12 ≤ 20; decide) (Nat.le_trans hlk.2 hRl)) (go _ _ _ _ _ _ h hce hsl H locs la hl hR hlo)
      · exact h.elim
    · rename_i hk2
      split at h
      · rename_i o rest hdr
        obtain ⟨mc', ms', Rt', hM', h1, h2, h3, h4⟩ := h
        have hlen : (st.take b).reverse.length = b := by
          have h9 : (st.drop b).length = rest.length + 1 := by rw [hdr]; rfl
          rw [List.length_drop] at h9
          rw [List.length_reverse, List.length_take]
          omega
        have hstk : st = (st.take b).reverse.reverse ++ .ref o :: rest := by rw [List.reverse_reverse, ← hdr, List.take_append_drop]
        by_cases hk1 : k = 1
        · subst hk1
          simp only [rv_lk, rv_okc, Bool.and_eq_true, decide_eq_true_eq] at hlk
          obtain ⟨⟨⟨⟨⟨⟨⟨⟨⟨⟨k0, k1⟩, k2⟩, k3⟩, k4⟩, k5⟩, k6⟩, k7⟩, k8⟩, k9⟩, k10⟩ := hlk
          have hcode := hcm a k0
          unfold rv_cm at hcode
          have hG := rv_goodW (hcm a k0)
          unfold rv_Ct at hM'
          unfold rv_W at hM' hG
          rw [k10] at hM' hG hcode
          exact rv_back (va_runIN (host := "LateRows") (bytes := rv_bt (rv_md a)) (maxL := rv_ml (rv_md a)) (n := b) (As := (st.take b).reverse) (rest := rest) (b := o) (nL := rv_ml M) (Ts := rv_gl) (own := rv_ow M) ⟨hx, hb, hml, hown, hts⟩ hM'
            ⟨va_cnB b hts hG rfl rfl rfl (hN.1 _ _ _ _ (rv_has_mem k7)) (hts _ (rv_hasG_mem k6)) ⟨k4, k5, k3⟩ ⟨Nat.le_trans k1 hRf, Nat.le_trans k2 hRl⟩, k9, hts _ (rv_hasG_mem k8)⟩
            ⟨rv_blind, fun U hU hW => ⟨rfl, by rw [hU]; exact hR.moved hW.alike, va_K.moved hW.alike hK, hN.warm hW⟩⟩ rfl hlen hl.1 hstk (lv_room (Nat.le_of_ble_eq_true h3)) hd ⟨by rw [hRc]; exact h1, by rw [hRs]; exact h2⟩) hlo
            (fun r' σ' H1 locs1 hq hR1 hlo1 => go _ _ _ _ _ _ (h4 r' σ' hq) h1 h2 H1 locs1 la hl hR1 hlo1)
        · have hlk2 : (rv_okc M a b && rv_hasG p0 (.methodLink (rv_ow M) idx (rv_md a).1) && rv_hasG (rv_pl (rv_md a)).2.2.1 (.instanceMethod (rv_md a).1) && decide ((rv_md a).1.name = "<init>") && decide (rv_rt (rv_md a) = none)) = true := by
            unfold rv_lk at hlk
            dsimp only at hlk
            split at hlk
            · exact absurd rfl hk2
            · exact absurd rfl hk1
            · exact hlk
          simp only [rv_okc, Bool.and_eq_true, decide_eq_true_eq] at hlk2
          obtain ⟨⟨⟨⟨⟨⟨⟨⟨⟨⟨k0, k1⟩, k2⟩, k3⟩, k4⟩, k5⟩, k6⟩, k7⟩, k8⟩, k9⟩, k10⟩ := hlk2
          have hG := rv_goodW (hcm a k0)
          unfold rv_Ct at hM'
          unfold rv_W at hM' hG
          rw [k10] at hM' hG
          exact rv_back (va_runI (bytes := rv_bt (rv_md a)) (maxL := rv_ml (rv_md a)) (n := b) (As := (st.take b).reverse) (rest := rest) (b := o) (nL := rv_ml M) (Ts := rv_gl) (own := rv_ow M) ⟨hx, hb, hml, hown, hts⟩ hM'
            ⟨callB_of b hts hG rfl rfl rfl (hts _ (rv_hasG_mem k6)) (hts _ (rv_hasG_mem k7)) ⟨k4, k5, k3⟩ ⟨Nat.le_trans k1 hRf, Nat.le_trans k2 hRl⟩, k9, hts _ (rv_hasG_mem k8)⟩
            ⟨rv_blind, fun U hU hW => ⟨rfl, by rw [hU]; exact hR.moved hW.alike, va_K.moved hW.alike hK, hN.warm hW⟩⟩ rfl hlen hl.1 hstk (lv_room (Nat.le_of_ble_eq_true h3)) hd ⟨by rw [hRc]; exact h1, by rw [hRs]; exact h2⟩) hlo
            (fun r' σ' H1 locs1 hq hR1 hlo1 => go _ _ _ _ _ _ (h4 r' σ' hq) h1 h2 H1 locs1 la hl hR1 hlo1)
      · exact h.elim
  | _ => exact False.elim h
