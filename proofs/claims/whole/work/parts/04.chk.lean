/-! WHAT IS CHECKED OF A LISTING (by the kernel, a method at a time) -/
def rv_tag : FieldType := .object "#"
def rv_nth {α : Type} : List α → Nat → Option α
  | [], _ => none
  | x :: _, 0 => some x
  | _ :: l, i + 1 => rv_nth l i
theorem rv_nth_eq {α : Type} : ∀ (l : List α) (i : Nat), rv_nth l i = l[i]?
  | [], i => by simp [rv_nth]
  | x :: l, 0 => by simp [rv_nth]
  | x :: l, i + 1 => by simp [rv_nth, rv_nth_eq l i]
def rv_md (i : Nat) : rv_M := (rv_nth rv_all i).getD m_Law_law
abbrev rv_bt (M : rv_M) : ByteArray := M.2.1
abbrev rv_ml (M : rv_M) : Nat := M.2.2.1
abbrev rv_rt (M : rv_M) : Option FieldType := M.2.2.2.1
abbrev rv_ow (M : rv_M) : String := M.2.2.2.2.1
abbrev rv_rk (M : rv_M) : Nat := M.2.2.2.2.2.1
abbrev rv_nd (M : rv_M) : Nat := M.2.2.2.2.2.2.1
abbrev rv_pl (M : rv_M) : Nat × Nat × Nat × Nat := M.2.2.2.2.2.2.2.1
abbrev rv_li (M : rv_M) : List rv_I := M.2.2.2.2.2.2.2.2
def rv_gl : List Cond := lw_tbl.filter goodWord
def rv_has (p : Nat) (w : Cond) : Bool := decide (lw_tbl[p]? = some w)
def rv_hasG (p : Nat) (w : Cond) : Bool := rv_has p w && goodWord w
theorem rv_has_mem {p : Nat} {w : Cond} (h : rv_has p w = true) : w ∈ lw_tbl := List.mem_of_getElem? (of_decide_eq_true h)
theorem rv_hasG_mem {p : Nat} {w : Cond} (h : rv_hasG p w = true) : w ∈ rv_gl := by
  simp only [rv_hasG, Bool.and_eq_true] at h
  exact List.mem_filter.mpr ⟨rv_has_mem h.1, h.2⟩
def rv_len (b : Nat) : Instr → Nat
  | .aload _ | .astore _ | .bipush _ | .iload _ | .istore _ | .ldc _ | .lload _ | .lstore _ | .newarray _ => 2
  | .anewarray _ | .getfield _ | .putfield _ | .goto _ | .ifCond _ _ | .if_icmp _ _ | .if_acmp _ _ | .ifnull _ | .ifnonnull _ | .iinc _ _ | .invokevirtual _ | .invokespecial _ | .invokestatic _ | .ldc2_w _ | .new _ | .sipush _ => 3
  | .tableswitch _ _ _ _ => b
  | _ => 1
def rv_okc (M : rv_M) (a b : Nat) : Bool := decide (a < i_Law_law) && decide (rv_rk (rv_md a) + 1 ≤ rv_rk M) && decide (8 + (rv_ml (rv_md a) + 11) + rv_nd (rv_md a) ≤ rv_nd M) && decide ((parseMethodDescriptor (rv_md a).1.desc).map (fun d => d.parameters.length) = some b) && decide ((rv_md a).1.cls ≠ "java/lang/invoke/MethodHandle") && decide ((rv_md a).1.cls ≠ "java/lang/invoke/VarHandle") && rv_hasG (rv_pl (rv_md a)).2.1 (.initialized (rv_md a).1.cls)
def rv_oksw (pc a : Nat) (d lo hi : Int) (offs : Array Int) (sw : List (Int32 × Nat)) : Bool :=
  decide ((sw.length : Int) = hi - lo + 1) && decide ((pc : Int) + d = (a : Int)) && (List.range sw.length).all (fun i => match sw[i]?, offs[i]? with
    | some (key, t), some off => decide (key.toInt = lo + i) && decide ((pc : Int) + off = (t : Int))
    | _, _ => false)
def rv_lk (M : rv_M) (pc a b k p : Nat) (v : Int32) (sw : List (Int32 × Nat)) : Instr → Bool
  | .iconst n => decide (Int32.ofInt n = v)
  | .bipush n => decide ((Int8.ofInt n).toInt32 = v)
  | .sipush n => decide ((Int16.ofInt n).toInt32 = v)
  | .iinc i n => decide (Int32.ofInt n = v) && decide (i < rv_ml M)
  | .istore i => decide (i < rv_ml M)
  | .istore_n i => decide (i.val < rv_ml M)
  | .astore i => decide (i < rv_ml M)
  | .astore_n i => decide (i.val < rv_ml M)
  | .lstore i => decide (i + 1 < rv_ml M)
  | .ldc idx => rv_hasG p (.constant (rv_ow M) idx v)
  | .ldc2_w idx => rv_hasG p (.constantLong (rv_ow M) idx (-99999999))
  | .goto off => decide ((pc : Int) + off = (a : Int))
  | .ifCond _ off => decide ((pc : Int) + off = (a : Int))
  | .if_icmp _ off => decide ((pc : Int) + off = (a : Int))
  | .if_acmp _ off => decide ((pc : Int) + off = (a : Int))
  | .ifnull off => decide ((pc : Int) + off = (a : Int))
  | .ifnonnull off => decide ((pc : Int) + off = (a : Int))
  | .tableswitch d lo hi offs => rv_oksw pc a d lo hi offs sw
  | .getfield idx => match classes[a]? with
    | some r => decide (b < r.2.2) && rv_hasG p (.fieldLink (rv_ow M) idx (r.2.1 b).1 (r.2.1 b).2.1 (r.2.1 b).2.2.1)
    | none => false
  | .putfield idx => match classes[a]? with
    | some r => decide (b < r.2.2) && rv_hasG p (.fieldLink (rv_ow M) idx (r.2.1 b).1 (r.2.1 b).2.1 (r.2.1 b).2.2.1) && (!(r.2.1 b).2.2.2 || (decide (M.1.name = "<init>") && decide ((r.2.1 b).1 = rv_ow M)))
    | none => false
  | .new idx => match classes[a]? with
    | some r => rv_hasG p (.classLink (rv_ow M) idx r.1)
    | none => false
  | .anewarray idx => match classes[a]? with
    | some r => rv_hasG p (.classLink (rv_ow M) idx r.1) && rv_has b (.arrayOver (.object r.1))
    | none => false
  | .newarray t => rv_hasG p (.arrayClass (newarray.typeOf t)) && decide (¬ newarray.typeOf t = rv_tag)
  | .invokevirtual idx => rv_okc M a b && rv_hasG p (.methodLink (rv_ow M) idx (rv_md a).1) && rv_hasG (rv_pl (rv_md a)).2.2.1 (.instanceMethod (rv_md a).1) && rv_hasG (rv_pl (rv_md a)).2.2.2 (.selects (rv_md a).1.cls (rv_md a).1 (rv_md a).1) && (match classes[k]? with
    | some r => decide (r.1 = (rv_md a).1.cls)
    | none => false)
  | .invokestatic idx => rv_okc M a b && rv_hasG p (.methodLink (rv_ow M) idx (rv_md a).1) && rv_hasG (rv_pl (rv_md a)).2.2.1 (.static (rv_md a).1)
  | .invokespecial idx => match k with
    | 2 => rv_hasG p (.methodLink (rv_ow M) idx objectInit) && decide (1 ≤ rv_rk M) && decide (20 ≤ rv_nd M)
    | 1 => rv_okc M a b && rv_has p (.methodLinkNest (rv_ow M) idx (rv_md a).1 "LateRows") && rv_hasG (rv_pl (rv_md a)).2.2.1 (.instanceMethod (rv_md a).1) && decide ((rv_md a).1.name = "<init>") && decide (rv_rt (rv_md a) = none)
    | _ => rv_okc M a b && rv_hasG p (.methodLink (rv_ow M) idx (rv_md a).1) && rv_hasG (rv_pl (rv_md a)).2.2.1 (.instanceMethod (rv_md a).1) && decide ((rv_md a).1.name = "<init>") && decide (rv_rt (rv_md a) = none)
  | _ => true
def rv_ok (M : rv_M) (x : rv_I) : Bool := decide (decode (rv_bt M) x.1 = .ok (x.2.1, rv_len x.2.2.2.1 x.2.1)) && rv_lk M x.1 x.2.2.1 x.2.2.2.1 x.2.2.2.2.1 x.2.2.2.2.2.1 x.2.2.2.2.2.2.1 x.2.2.2.2.2.2.2 x.2.1
def rv_good (M : rv_M) : Prop := ∀ x ∈ rv_li M, rv_ok M x = true
theorem rv_good_of {M : rv_M} (h : (rv_li M).all (rv_ok M) = true) : rv_good M := fun x hx => List.all_eq_true.mp h x hx
