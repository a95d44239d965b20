/-! WHAT IS CHECKED OF A LISTING (by the kernel, a method at a time), AND THE STEP'S SOUNDNESS -/
def rv_len (b : Nat) : Instr → Nat
  | .aload _ | .astore _ | .bipush _ | .iload _ | .istore _ | .ldc _ | .lload _ | .lstore _ | .newarray _ => 2
  | .anewarray _ | .getfield _ | .putfield _ | .goto _ | .ifCond _ _ | .if_icmp _ _ | .if_acmp _ _ | .ifnull _ | .ifnonnull _ | .iinc _ _ | .invokevirtual _ | .invokespecial _ | .invokestatic _ | .ldc2_w _ | .new _ | .sipush _ => 3
  | .tableswitch _ _ _ _ => b
  | _ => 1
def rv_okc (M : rv_M) (a b : Nat) : Bool := decide (a < i_Law_law) && decide (rv_rk (rv_md a) + 1 ≤ rv_rk M) && decide (8 + (rv_ml (rv_md a) + 11) + rv_nd (rv_md a) ≤ rv_nd M) && decide ((parseMethodDescriptor (rv_md a).1.desc).map (fun d => d.parameters.length) = some b) && decide ((rv_md a).1.cls ≠ "java/lang/invoke/MethodHandle") && decide ((rv_md a).1.cls ≠ "java/lang/invoke/VarHandle") && rv_hasG (rv_pl (rv_md a)).2.1 (.initialized (rv_md a).1.cls)
def rv_oksw (pc a : Nat) (d lo hi : Int) (offs : Array Int) (sw : List (Int32 × Nat)) : Bool :=
  decide ((sw.length : Int) = hi - lo + 1) && decide ((pc : Int) + d = (a : Int)) && (List.range sw.length).all (fun i => match sw[i]?, offs[i]? with
    | some (key, t), some off => decide (key.toInt = lo + i) && decide ((pc : Int) + off = (t : Int))
    | _, _ => false)
def rv_lk (M : rv_M) (pc a b k p : Nat) (v : Int32) (sw : List (Int32 × Nat)) : Instr → Bool
  | .iconst n => decide (Int32.ofInt n = v)
  | .bipush n => decide ((Int8.ofInt n).toInt32 = v)
  | .sipush n => decide ((Int16.ofInt n).toInt32 = v)
  | .iinc i n => decide (Int32.ofInt n = v) && decide (i < rv_ml M)
  | .istore i => decide (i < rv_ml M)
  | .istore_n i => decide (i.val < rv_ml M)
  | .astore i => decide (i < rv_ml M)
  | .astore_n i => decide (i.val < rv_ml M)
  | .lstore i => decide (i + 1 < rv_ml M)
  | .ldc idx => rv_hasG p (.constant (rv_ow M) idx v)
  | .ldc2_w idx => rv_hasG p (.constantLong (rv_ow M) idx (-99999999))
  | .goto off => decide ((pc : Int) + off = (a : Int))
  | .ifCond _ off => decide ((pc : Int) + off = (a : Int))
  | .if_icmp _ off => decide ((pc : Int) + off = (a : Int))
  | .if_acmp _ off => decide ((pc : Int) + off = (a : Int))
  | .ifnull off => decide ((pc : Int) + off = (a : Int))
  | .ifnonnull off => decide ((pc : Int) + off = (a : Int))
  | .tableswitch d lo hi offs => rv_oksw pc a d lo hi offs sw
  | .getfield idx => match classes[a]? with
    | some r => decide (b < r.2.2) && rv_hasG p (.fieldLink (rv_ow M) idx (r.2.1 b).1 (r.2.1 b).2.1 (r.2.1 b).2.2.1)
    | none => false
  | .putfield idx => match classes[a]? with
    | some r => decide (b < r.2.2) && rv_hasG p (.fieldLink (rv_ow M) idx (r.2.1 b).1 (r.2.1 b).2.1 (r.2.1 b).2.2.1) && (!(r.2.1 b).2.2.2 || (decide (M.1.name = "<init>") && decide ((r.2.1 b).1 = rv_ow M)))
    | none => false
  | .new idx => match classes[a]? with
    | some r => rv_hasG p (.classLink (rv_ow M) idx r.1)
    | none => false
  | .anewarray idx => match classes[a]? with
    | some r => rv_hasG p (.classLink (rv_ow M) idx r.1) && rv_has b (.arrayOver (.object r.1))
    | none => false
  | .newarray t => rv_hasG p (.arrayClass (newarray.typeOf t)) && decide (¬ newarray.typeOf t = rv_tag)
  | .invokevirtual idx => rv_okc M a b && rv_hasG p (.methodLink (rv_ow M) idx (rv_md a).1) && rv_hasG (rv_pl (rv_md a)).2.2.1 (.instanceMethod (rv_md a).1) && rv_hasG (rv_pl (rv_md a)).2.2.2 (.selects (rv_md a).1.cls (rv_md a).1 (rv_md a).1) && (match classes[k]? with
    | some r => decide (r.1 = (rv_md a).1.cls)
    | none => false)
  | .invokestatic idx => rv_okc M a b && rv_hasG p (.methodLink (rv_ow M) idx (rv_md a).1) && rv_hasG (rv_pl (rv_md a)).2.2.1 (.static (rv_md a).1)
  | .invokespecial idx => match k with
    | 2 => rv_hasG p (.methodLink (rv_ow M) idx objectInit) && decide (1 ≤ rv_rk M) && decide (20 ≤ rv_nd M)
    | 1 => rv_okc M a b && rv_has p (.methodLinkNest (rv_ow M) idx (rv_md a).1 "LateRows") && rv_hasG (rv_pl (rv_md a)).2.2.1 (.instanceMethod (rv_md a).1) && decide ((rv_md a).1.name = "<init>") && decide (rv_rt (rv_md a) = none)
    | _ => rv_okc M a b && rv_hasG p (.methodLink (rv_ow M) idx (rv_md a).1) && rv_hasG (rv_pl (rv_md a)).2.2.1 (.instanceMethod (rv_md a).1) && decide ((rv_md a).1.name = "<init>") && decide (rv_rt (rv_md a) = none)
  | _ => true
def rv_ok (M : rv_M) (x : rv_I) : Bool := decide (decode (rv_bt M) x.1 = .ok (x.2.1, rv_len x.2.2.2.1 x.2.1)) && rv_lk M x.1 x.2.2.1 x.2.2.2.1 x.2.2.2.2.1 x.2.2.2.2.2.1 x.2.2.2.2.2.2.1 x.2.2.2.2.2.2.2 x.2.1
def rv_good (M : rv_M) : Prop := ∀ x ∈ rv_li M, rv_ok M x = true
theorem rv_find_mem : ∀ (l : List rv_I) (pc : Nat) (x : rv_I), rv_find l pc = some x → x ∈ l ∧ x.1 = pc
  | [], pc, x, h => by cases h
  | y :: l, pc, x, h => by
    unfold rv_find at h
    split at h
    · rename_i hb
      cases h
      exact ⟨List.mem_cons_self, Nat.eq_of_beq_eq_true hb⟩
    · obtain ⟨h1, h2⟩ := rv_find_mem l pc x h
      exact ⟨List.mem_cons_of_mem _ h1, h2⟩
theorem rv_fit_ok {ty : FieldType} {v : Value} (h : rv_fit ty v) : narrow ty v = v ∧ fits ty v = true := by
  cases ty <;> cases v <;> simp only [rv_fit] at h <;> first | exact h.elim | exact ⟨rfl, rfl⟩ | (rcases h with rfl | rfl <;> exact ⟨by decide, by decide⟩)
theorem rv_NW.warm {s U : State} (hW : s.WarmedH U.vm) (h : rv_NW s) : rv_NW U := ⟨fun o i y ho hm => va_Nw.warmM hW (h.1 o i y ho hm), fun C hC => (h.2 C hC).moved hW.alike⟩
theorem rv_NW.same {s U : State} (hv : s.vm = U.vm) (h : rv_NW s) : rv_NW U := ⟨fun o i y ho hm => va_Nw.same rfl hv (h.1 o i y ho hm), fun C hC => (h.2 C hC).moved (by rw [hv]; exact Vm.Alike.refl _)⟩
theorem rv_sw_or {x : Int32} {nx : Nat → Prop} : ∀ (sw : List (Int32 × Nat)) (d : Nat), rv_sw x nx sw d → (∃ (i : Nat) (t : Nat), sw[i]? = some (x, t) ∧ nx t) ∨ ((∀ (i : Nat) (k : Int32) (t : Nat), sw[i]? = some (k, t) → ¬ x = k) ∧ nx d)
  | [], d, h => Or.inr ⟨fun i k t hi => by simp at hi, h⟩
  | (k, t) :: sw, d, h => by
    by_cases hk : x = k
    · subst hk
      exact Or.inl ⟨0, t, rfl, h.1 rfl⟩
    · rcases rv_sw_or sw d (h.2 hk) with ⟨i, t', h1, h2⟩ | ⟨h1, h2⟩
      · exact Or.inl ⟨i + 1, t', by simpa using h1, h2⟩
      · refine Or.inr ⟨fun i k' t' hi => ?_, h2⟩
        cases i with
        | zero => simp at hi; rw [← hi.1]; exact hk
        | succ i => exact h1 i k' t' (by simpa using hi)
/-- what a class's rows of the tables say -/
def rv_cfP (ci : Nat) (r : vw_C) : Prop := (∀ w ∈ u_ws r.1 r.2.1 r.2.2, w ∈ rv_gl) ∧ (∀ k, k < r.2.2 → parseFieldDescriptor (r.2.1 k).2.2.1 = some (rv_ty ci k)) ∧ (∀ a, a < r.2.2 → ∀ b, b < r.2.2 → a ≠ b → (r.2.1 a).2.1 ≠ (r.2.1 b).2.1) ∧ Cond.instantiable r.1 r.2.2 ∈ rv_gl ∧ Cond.initialized r.1 ∈ rv_gl ∧ (∀ j, j < r.2.2 → defaultValue (rv_ty ci j) = vp_V (rv_df ci) j) ∧ (rv_df ci).length = r.2.2 ∧ ¬ r.1 = "#"
/-- an activation of a method: the machine, the code, the words, the room, the classes -/
def rv_Act (G : rv_G) (M : rv_M) (mc ms : Nat) (R : Room) (p : Program) (s : State) (m : MethodId) (args : Array Value) (meth : Method) (c : Code) : Prop :=
  (p.tables.exec = Jvm.exec ∧ c.code = rv_bt M ∧ c.maxLocals = rv_ml M ∧ s.vm.findClass (rv_ow M) = some m.cls ∧ ∀ w ∈ rv_gl, w.before args s = true) ∧ meth.locks = false ∧ meth.sig.returnType = rv_rt M ∧ meth.name = M.1.name ∧ (R.cells = mc ∧ R.slots = ms ∧ rv_rk M ≤ R.frames ∧ rv_nd M ≤ R.locals) ∧ va_K G.2.1 classes [] s ∧ rv_NW s
/-- from this place of the method, with these locals, this stack and this heap, the machine comes to the method's end as Rt says -/
def rv_V (G : rv_G) (M : rv_M) (mc ms : Nat) (Rt : Option Value → rv_S → Prop) (pc : Nat) (ls : rv_L) (st : List Value) (σ : rv_S) (ce sl : Nat) : Prop :=
  ce ≤ mc → sl ≤ ms → ∀ (R : Room) (p : Program) (e : Env) (s : State) (m : MethodId) (args : Array Value) (below : List Frame) (meth : Method) (c : Code), rv_Act G M mc ms R p s m args meth c →
    ∀ (H : Heap) (locs : List Loc) (la : Array Slot), rv_lr la (rv_ml M) ls → rv_Rep G σ s H → va_S G.2.2 s.heap H locs →
      W p G.1 e R s m args below meth c H locs ce sl (MQ below (rv_Q G Rt) args s mc ms G.2.2) (F0 m pc la st)
theorem rv_back {G : rv_G} {Rt : Option Value → rv_S → Prop} {p : Program} {l : Launch} {e : Env} {R : Room} {s : State} {m : MethodId} {args : Array Value} {below : List Frame} {meth : Method} {c : Code} {H : Heap} {locs : List Loc} {ce sl mc ms pc : Nat} {la : Array Slot} {st0 rest : List Value} {a : Array Value} {Q : State → Prop}
    (hr : va_Run p l e R s m args below meth c H locs ce sl mc ms (F0 m pc la st0) rest (rv_Q G Rt a) G.2.2) (hlo : va_S G.2.2 s.heap H locs)
    (kk : ∀ (r : Option Value) (σ : rv_S) (H1 : Heap) (locs1 : List Loc), Rt r σ → rv_Rep G σ s H1 → va_S G.2.2 s.heap H1 locs1 → W p l e R s m args below meth c H1 locs1 (ce + mc) (sl + ms) Q (F0 m (pc + 3) la (r.toList ++ rest))) : W p l e R s m args below meth c H locs ce sl Q (F0 m pc la st0) := by
  intro T hT X
  obtain ⟨v, st₀, t, T', L, h0, X', hL, e1, e2, ⟨⟨r, σ, hv, hp, hb⟩, hz, hk⟩, st⟩ := hr T hT X
  cases hv
  rw [h0] at hz hk
  have hal : t.vm.Alike s.vm := by rw [← e2]; exact X'.warmed.alike.symm
  obtain ⟨t2, a1, b1⟩ := kk v σ T'.heap (locs ++ L) hp (by rw [e1]; exact hb.moved hal) ⟨Nat.le_trans hlo.1 (by rw [e1]; exact hz), fun q h1 h2 => by rw [e1, hk q (Nat.lt_of_lt_of_le h1 hlo.1) h2]; exact hlo.2.1 q h1 h2, fun q hq => by
    rcases List.mem_append.mp hq with h | h
    · exact hlo.2.2 q h
    · exact hL q h⟩ T' rfl X'
  exact ⟨t2, st t2 a1, b1⟩
/-- a store into an object's field -/
theorem rv_put {G : rv_G} {p : Program} {l : Launch} {e : Env} {R : Room} {s : State} {m : MethodId} {args : Array Value} {below : List Frame} {meth : Method} {c : Code} {H : Heap} {locs : List Loc} {ce sl pc idx : Nat} {la : Array Slot} {rest : List Value} {Q : State → Prop} {cc : ByteArray} {own : String} {ci o k : Nat} {fs : List Value} {v : Value} {r : vw_C} {σ : rv_S}
    (hexec : p.tables.exec = Jvm.exec) (hb : c.code = cc) (hown : s.vm.findClass own = some m.cls) (hts : ∀ w ∈ rv_gl, w.before args s = true) (hK : va_K G.2.1 classes [] s) (hc : classes[ci]? = some r) (hcf : rv_cfP ci r) (hk : k < r.2.2) (hlink : (Cond.fieldLink own idx (r.2.1 k).1 (r.2.1 k).2.1 (r.2.1 k).2.2.1).before args s = true)
    (hfin : (r.2.1 k).2.2.2 = false ∨ (meth.name = "<init>" ∧ (r.2.1 k).1 = own)) (hfit : rv_fit (rv_ty ci k) v) (hR : rv_Rep G σ s H) (ho : σ.2 o = some (.inl (ci, fs))) (hlo : va_S G.2.2 s.heap H locs) (hdg : decode cc pc = .ok (.putfield idx, 3))
    (kk : ∀ (H1 : Heap) (locs1 : List Loc), rv_Rep G (σ.1, rv_up σ.2 o (.inl (ci, fs.set k v))) s H1 → va_S G.2.2 s.heap H1 locs1 → W p l e R s m args below meth c H1 locs1 ce sl Q (F0 m (pc + 3) la rest)) : W p l e R s m args below meth c H locs ce sl Q (F0 m pc la (v :: .ref o :: rest)) := by
  obtain ⟨hlo1, r', hc', hlen, cell, q1, q2, q3, q4⟩ := hR.2 o _ ho
  have hr : r' = r := Option.some.inj (hc'.symm.trans hc)
  subst hr
  obtain ⟨hin, hty, hnm, -⟩ := hcf
  obtain ⟨hn, hf⟩ := rv_fit_ok hfit
  have hap := va_apart (own := own) (D := G.2.1) (cl := classes) (tys := []) (ci := ci) (C := r'.1) (T := r'.2.1) (N := r'.2.2) hts hin (rv_ty ci) hty hnm hK hc
  obtain ⟨hS, hfc, kC, hkC, hkind⟩ := hK.1 ci _ hc
  obtain ⟨cf, kf, fi, f, hi, hsl⟩ := hS k hk
  have hst := (u_facts hfc hkC (u_lays hts hin hk) hi).1
  have fin : ∀ H' : Heap, H'[o]? = some (cell.setSlot f.slot v) → H'.size = H.size → (∀ q, q ≠ o → H'[q]? = H[q]?) → W p l e R s m args below meth c H' (locs ++ [⟨o, f.slot⟩]) ce sl Q (F0 m (pc + 3) la rest) := by
    intro H' e1 e2 e3
    rw [hsl] at e1 ⊢
    refine kk H' _ (hR.set (x := .inl (ci, fs.set k v)) ⟨hlo1, r', hc, by rw [List.length_set]; exact hlen, t_OB.to (V := updV (vp_V fs) k v) ⟨_, e1, q2, q3, t_set q4 hap hk v⟩ (fun j _ => vp_updV_set (by rw [hlen]; exact hk) v j)⟩ e2 e3) (hlo.put e2 e3 hlo1)
  have hlay := hts _ (hin _ (u_in_lay hk))
  unfold u_lay at hlay
  cases hfl : (r'.2.1 k).2.2.2 with
  | false =>
    rw [if_neg (by rw [hfl]; decide)] at hlay
    have h6 := u_store hfc hkC hkind hlay hi (hty k hk) hn hf
    exact W.putK hexec hb (f := f) ⟨hown, hlink, ⟨_, _, _, hi⟩, hst⟩ (by rw [q2]; exact h6) q1 q3 (by rw [hsl]; exact k2_hasslot (q4 k hk)) rfl rfl hdg fin
  | true =>
    rw [if_pos hfl] at hlay
    rcases hfin with h | ⟨hin2, hdecl⟩
    · rw [hfl] at h; cases h
    · have hcf : m.cls = cf := by
        obtain ⟨_, _, c', _, _, _, -, -, hf', -, -, -, hown2, -⟩ := Cond.laysFinal_spec hlay
        have e1 : c' = cf := by have := hi.symm.trans hf'; simp at this; exact this.1.symm
        rw [hdecl] at hown2
        rw [← e1]; exact Option.some.inj (hown.symm.trans hown2)
      have h6 := u_fits hfc hkC hkind (Or.inr hlay) hi (hty k hk) hn hf
      exact W.putFinK hexec hb hown hlink hi hst hcf hin2 (by rw [q2]; exact h6) q1 q3 (by rw [hsl]; exact k2_hasslot (q4 k hk)) rfl rfl hdg fin
