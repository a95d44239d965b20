/-! ONE INSTRUCTION AS A PROPOSITION -/
def rv_W (M : rv_M) : List Cond := .code M.1 (rv_bt M) (rv_ml M) (rv_rt M) :: rv_gl
def rv_rm (M : rv_M) (mc ms : Nat) : Room := { frames := rv_rk M, cells := mc, slots := ms, locals := rv_nd M }
def rv_NW (U : State) : Prop := (∀ (own : String) (idx : Nat) (y : MethodName) (host : String), Cond.methodLinkNest own idx y host ∈ lw_tbl → va_Nw (.methodLinkNest own idx y host) U) ∧ ∀ C : String, Cond.arrayOver (.object C) ∈ lw_tbl → va_AO C U
def rv_Q (G : rv_G) (Rt : Option Value → rv_S → Prop) : Array Value → State → Outcome → State → Prop := fun _ st o t => (∃ (r : Option Value) (σ : rv_S), o = .returned r ∧ Rt r σ ∧ rv_Rep G σ t t.heap) ∧ va_F G.2.2 st t
/-- A METHOD'S CONTRACT at these arguments and this heap: it returns, with an answer and a heap that Rt has; at most mc cells of ms slots are new -/
def rv_Ct (G : rv_G) (i mc ms : Nat) (av : List Value) (σ : rv_S) (Rt : Option Value → rv_S → Prop) : Prop :=
  Met G.1 (rv_md i).1 (rv_W (rv_md i)) (rv_rm (rv_md i) mc ms) (va_Pc av (fun U => rv_Rep G σ U U.heap ∧ va_K G.2.1 classes [] U ∧ rv_NW U)) (rv_Q G Rt) mc ms G.2.2
/-- which values a field or an element of a type may hold -/
def rv_fit : FieldType → Value → Prop
  | .int, .int _ => True
  | .long, .long _ => True
  | .boolean, .int x => x = 0 ∨ x = 1
  | .object _, .ref _ => True
  | .object _, .null => True
  | .array _, .ref _ => True
  | .array _, .null => True
  | _, _ => False
def rv_br (P A B : Prop) : Prop := (P → A) ∧ (¬ P → B)
def rv_sw (x : Int32) (nx : Nat → Prop) : List (Int32 × Nat) → Nat → Prop
  | [], d => nx d
  | (k, t) :: l, d => (x = k → nx t) ∧ (¬ x = k → rv_sw x nx l d)
def rv_find : List rv_I → Nat → Option rv_I
  | [], _ => none
  | x :: r, pc => match Nat.beq x.1 pc with
    | true => some x
    | false => rv_find r pc
def rv_c1 : Value → Bool
  | .long _ => false
  | .double _ => false
  | _ => true
def rv_ty (ci k : Nat) : FieldType := match rv_nth rv_tys ci with
  | some f => f k
  | none => .int
def rv_df (ci : Nat) : List Value := (rv_nth rv_dfs ci).getD []
def rv_cn (ci : Nat) : Option String := match rv_nth classes ci with
  | some r => some r.1
  | none => none
def rv_call (G : rv_G) (mc ms : Nat) (nx : Nat → rv_L → List Value → rv_S → Nat → Nat → Prop) (pc : Nat) (ls : rv_L) (rest : List Value) (σ : rv_S) (ce sl i : Nat) (av : List Value) : Prop :=
  ∃ (mc' ms' : Nat) (Rt' : Option Value → rv_S → Prop), rv_Ct G i mc' ms' av σ Rt' ∧ ce + mc' ≤ mc ∧ sl + ms' ≤ ms ∧ Nat.ble (rest.map fun v => v.category).sum 8 = true ∧ ∀ (r : Option Value) (σ' : rv_S), Rt' r σ' → nx (pc + 3) ls (r.toList ++ rest) σ' (ce + mc') (sl + ms')
def rv_ex (G : rv_G) (M : rv_M) (mc ms : Nat) (Rt : Option Value → rv_S → Prop) (nx : Nat → rv_L → List Value → rv_S → Nat → Nat → Prop) (pc : Nat) (ls : rv_L) (st : List Value) (σ : rv_S) (ce sl : Nat) (a b k : Nat) (v : Int32) (sw : List (Int32 × Nat)) : Instr → Prop
  | .iconst _ => nx (pc + 1) ls (.int v :: st) σ ce sl
  | .bipush _ => nx (pc + 2) ls (.int v :: st) σ ce sl
  | .sipush _ => nx (pc + 3) ls (.int v :: st) σ ce sl
  | .ldc _ => nx (pc + 2) ls (.int v :: st) σ ce sl
  | .ldc2_w _ => nx (pc + 3) ls (.long (-99999999) :: st) σ ce sl
  | .lconst n => match n with
    | 0 => nx (pc + 1) ls (.long 0 :: st) σ ce sl
    | 1 => nx (pc + 1) ls (.long 1 :: st) σ ce sl
  | .aconst_null => nx (pc + 1) ls (.null :: st) σ ce sl
  | .iload i => match rv_nth ls i with
    | some (some (.int x)) => nx (pc + 2) ls (.int x :: st) σ ce sl
    | _ => False
  | .iload_n i => match rv_nth ls i.val with
    | some (some (.int x)) => nx (pc + 1) ls (.int x :: st) σ ce sl
    | _ => False
  | .lload i => match rv_nth ls i with
    | some (some (.long x)) => nx (pc + 2) ls (.long x :: st) σ ce sl
    | _ => False
  | .lload_n i => match rv_nth ls i.val with
    | some (some (.long x)) => nx (pc + 1) ls (.long x :: st) σ ce sl
    | _ => False
  | .aload i => match rv_nth ls i with
    | some (some (.ref x)) => nx (pc + 2) ls (.ref x :: st) σ ce sl
    | some (some .null) => nx (pc + 2) ls (.null :: st) σ ce sl
    | _ => False
  | .aload_n i => match rv_nth ls i.val with
    | some (some (.ref x)) => nx (pc + 1) ls (.ref x :: st) σ ce sl
    | some (some .null) => nx (pc + 1) ls (.null :: st) σ ce sl
    | _ => False
  | .istore i => match st with
    | .int x :: st => nx (pc + 2) (rv_st1 ls i (.int x)) st σ ce sl
    | _ => False
  | .istore_n i => match st with
    | .int x :: st => nx (pc + 1) (rv_st1 ls i.val (.int x)) st σ ce sl
    | _ => False
  | .lstore i => match st with
    | .long x :: st => nx (pc + 2) (rv_st2 ls i (.long x)) st σ ce sl
    | _ => False
  | .astore i => match st with
    | .ref x :: st => nx (pc + 2) (rv_st1 ls i (.ref x)) st σ ce sl
    | .null :: st => nx (pc + 2) (rv_st1 ls i .null) st σ ce sl
    | _ => False
  | .astore_n i => match st with
    | .ref x :: st => nx (pc + 1) (rv_st1 ls i.val (.ref x)) st σ ce sl
    | .null :: st => nx (pc + 1) (rv_st1 ls i.val .null) st σ ce sl
    | _ => False
  | .iinc i _ => match rv_nth ls i with
    | some (some (.int x)) => nx (pc + 3) (rv_st1 ls i (.int (x + v))) st σ ce sl
    | _ => False
  | .iadd => match st with
    | .int y :: .int x :: st => nx (pc + 1) ls (.int (x + y) :: st) σ ce sl
    | _ => False
  | .isub => match st with
    | .int y :: .int x :: st => nx (pc + 1) ls (.int (x - y) :: st) σ ce sl
    | _ => False
  | .imul => match st with
    | .int y :: .int x :: st => nx (pc + 1) ls (.int (x * y) :: st) σ ce sl
    | _ => False
  | .idiv => match st with
    | .int y :: .int x :: st => ¬ y = 0 ∧ nx (pc + 1) ls (.int (x / y) :: st) σ ce sl
    | _ => False
  | .iand => match st with
    | .int y :: .int x :: st => nx (pc + 1) ls (.int (x &&& y) :: st) σ ce sl
    | _ => False
  | .ixor => match st with
    | .int y :: .int x :: st => nx (pc + 1) ls (.int (x ^^^ y) :: st) σ ce sl
    | _ => False
  | .ladd => match st with
    | .long y :: .long x :: st => nx (pc + 1) ls (.long (x + y) :: st) σ ce sl
    | _ => False
  | .i2l => match st with
    | .int x :: st => nx (pc + 1) ls (.long x.toInt64 :: st) σ ce sl
    | _ => False
  | .l2i => match st with
    | .long x :: st => nx (pc + 1) ls (.int x.toInt32 :: st) σ ce sl
    | _ => False
  | .lcmp => match st with
    | .long y :: .long x :: st => nx (pc + 1) ls (.int (lg_cmp x y) :: st) σ ce sl
    | _ => False
  | .dup => match st with
    | w :: st => match rv_c1 w with
      | true => nx (pc + 1) ls (w :: w :: st) σ ce sl
      | false => False
    | _ => False
  | .dup2 => match st with
    | .long x :: st => nx (pc + 1) ls (.long x :: .long x :: st) σ ce sl
    | .int x :: .ref y :: st => nx (pc + 1) ls (.int x :: .ref y :: .int x :: .ref y :: st) σ ce sl
    | _ => False
  | .goto _ => nx a ls st σ ce sl
  | .ifCond c _ => match st with
    | .int x :: st => match c with
      | .eq => rv_br (x = 0) (nx a ls st σ ce sl) (nx (pc + 3) ls st σ ce sl)
      | .ne => rv_br (x = 0) (nx (pc + 3) ls st σ ce sl) (nx a ls st σ ce sl)
      | .lt => rv_br (x < 0) (nx a ls st σ ce sl) (nx (pc + 3) ls st σ ce sl)
      | .ge => rv_br (0 ≤ x) (nx a ls st σ ce sl) (nx (pc + 3) ls st σ ce sl)
      | .gt => rv_br (0 < x) (nx a ls st σ ce sl) (nx (pc + 3) ls st σ ce sl)
      | .le => rv_br (x ≤ 0) (nx a ls st σ ce sl) (nx (pc + 3) ls st σ ce sl)
    | _ => False
  | .if_icmp c _ => match st with
    | .int y :: .int x :: st => match c with
      | .eq => rv_br (x = y) (nx a ls st σ ce sl) (nx (pc + 3) ls st σ ce sl)
      | .ne => rv_br (x = y) (nx (pc + 3) ls st σ ce sl) (nx a ls st σ ce sl)
      | .lt => rv_br (x < y) (nx a ls st σ ce sl) (nx (pc + 3) ls st σ ce sl)
      | .ge => rv_br (y ≤ x) (nx a ls st σ ce sl) (nx (pc + 3) ls st σ ce sl)
      | .gt => rv_br (y < x) (nx a ls st σ ce sl) (nx (pc + 3) ls st σ ce sl)
      | .le => rv_br (x ≤ y) (nx a ls st σ ce sl) (nx (pc + 3) ls st σ ce sl)
    | _ => False
  | .if_acmp c _ => match st with
    | .ref y :: .ref x :: st => match c with
      | .eq => rv_br (x = y) (nx a ls st σ ce sl) (nx (pc + 3) ls st σ ce sl)
      | .ne => rv_br (x = y) (nx (pc + 3) ls st σ ce sl) (nx a ls st σ ce sl)
    | _ => False
  | .ifnull _ => match st with
    | .null :: st => nx a ls st σ ce sl
    | .ref _ :: st => nx (pc + 3) ls st σ ce sl
    | _ => False
  | .ifnonnull _ => match st with
    | .null :: st => nx (pc + 3) ls st σ ce sl
    | .ref _ :: st => nx a ls st σ ce sl
    | _ => False
  | .tableswitch _ _ _ _ => match st with
    | .int x :: st => rv_sw x (fun t => nx t ls st σ ce sl) sw a
    | _ => False
  | .getfield _ => match st with
    | .ref o :: st => ∃ fs : List Value, σ.2 o = some (.inl (a, fs)) ∧ match rv_nth fs b with
      | some w => nx (pc + 3) ls (w :: st) σ ce sl
      | none => False
    | _ => False
  | .putfield _ => match st with
    | w :: .ref o :: st => ∃ fs : List Value, σ.2 o = some (.inl (a, fs)) ∧ rv_fit (rv_ty a b) w ∧ nx (pc + 3) ls st (σ.1, rv_up σ.2 o (.inl (a, fs.set b w))) ce sl
    | _ => False
  | .new _ => ce + 1 ≤ mc ∧ sl + (rv_df a).length ≤ ms ∧ nx (pc + 3) ls (.ref σ.1 :: st) (σ.1 + 1, rv_up σ.2 σ.1 (.inl (a, rv_df a))) (ce + 1) (sl + (rv_df a).length)
  | .newarray t => match st with
    | .int n :: st => ∃ N : Nat, n.toNatClampNeg = N ∧ ¬ n < 0 ∧ N * componentBytes (newarray.typeOf t) ≤ 536870912 ∧ ce + 1 ≤ mc ∧ sl + N ≤ ms ∧ match t with
      | .int => nx (pc + 2) ls (.ref σ.1 :: st) (σ.1 + 1, rv_up σ.2 σ.1 (rv_aI N (fun _ => 0))) (ce + 1) (sl + N)
      | .long => nx (pc + 2) ls (.ref σ.1 :: st) (σ.1 + 1, rv_up σ.2 σ.1 (rv_aJ N (fun _ => 0))) (ce + 1) (sl + N)
      | .boolean => nx (pc + 2) ls (.ref σ.1 :: st) (σ.1 + 1, rv_up σ.2 σ.1 (rv_aZ N (fun _ => false))) (ce + 1) (sl + N)
      | _ => False
    | _ => False
  | .anewarray _ => match st with
    | .int n :: st => ∃ (C : String) (N : Nat), rv_cn a = some C ∧ n.toNatClampNeg = N ∧ ¬ n < 0 ∧ N * 4 ≤ 536870912 ∧ ce + 1 ≤ mc ∧ sl + N ≤ ms ∧ nx (pc + 3) ls (.ref σ.1 :: st) (σ.1 + 1, rv_up σ.2 σ.1 (rv_aO C N (fun _ => none))) (ce + 1) (sl + N)
    | _ => False
  | .arraylength => match st with
    | .ref o :: st => ∃ (ty : FieldType) (n : Nat) (f : Nat → Value), σ.2 o = some (.inr (ty, n, f)) ∧ nx (pc + 1) ls (.int (nI n) :: st) σ ce sl
    | _ => False
  | .iaload => match st with
    | .int i :: .ref o :: st => ∃ (n : Nat) (f : Nat → Int32), (σ.2 o = some (rv_aI n f) ∨ σ.2 o = some (rv_aT n f)) ∧ vp_in i n ∧ nx (pc + 1) ls (.int (f i.toNatClampNeg) :: st) σ ce sl
    | _ => False
  | .laload => match st with
    | .int i :: .ref o :: st => ∃ (n : Nat) (f : Nat → Int64), σ.2 o = some (rv_aJ n f) ∧ vp_in i n ∧ nx (pc + 1) ls (.long (f i.toNatClampNeg) :: st) σ ce sl
    | _ => False
  | .baload => match st with
    | .int i :: .ref o :: st => ∃ (n : Nat) (f : Nat → Bool), σ.2 o = some (rv_aZ n f) ∧ vp_in i n ∧ nx (pc + 1) ls (.int (rv_b (f i.toNatClampNeg)) :: st) σ ce sl
    | _ => False
  | .aaload => match st with
    | .int i :: .ref o :: st => ∃ (C : String) (n : Nat) (f : Nat → Option Nat) (r : Option Nat), σ.2 o = some (rv_aO C n f) ∧ ¬ C = "#" ∧ vp_in i n ∧ f i.toNatClampNeg = r ∧ match r with
      | some q => nx (pc + 1) ls (.ref q :: st) σ ce sl
      | none => nx (pc + 1) ls (.null :: st) σ ce sl
    | _ => False
  | .iastore => match st with
    | .int x :: .int i :: .ref o :: st => ∃ (n : Nat) (f : Nat → Int32), σ.2 o = some (rv_aI n f) ∧ vp_in i n ∧ nx (pc + 1) ls st (σ.1, rv_up σ.2 o (rv_aI n (upd f i.toNatClampNeg x))) ce sl
    | _ => False
  | .lastore => match st with
    | .long x :: .int i :: .ref o :: st => ∃ (n : Nat) (f : Nat → Int64), σ.2 o = some (rv_aJ n f) ∧ vp_in i n ∧ nx (pc + 1) ls st (σ.1, rv_up σ.2 o (rv_aJ n (vp_updL f i.toNatClampNeg x))) ce sl
    | _ => False
  | .bastore => match st with
    | .int x :: .int i :: .ref o :: st => ∃ (n : Nat) (f : Nat → Bool) (b : Bool), σ.2 o = some (rv_aZ n f) ∧ x = rv_b b ∧ vp_in i n ∧ nx (pc + 1) ls st (σ.1, rv_up σ.2 o (rv_aZ n (va_up f i.toNatClampNeg b))) ce sl
    | _ => False
  | .aastore => match st with
    | .ref w :: .int i :: .ref o :: st => ∃ (ci : Nat) (fs : List Value) (C : String) (n : Nat) (f : Nat → Option Nat), σ.2 w = some (.inl (ci, fs)) ∧ rv_cn ci = some C ∧ σ.2 o = some (rv_aO C n f) ∧ ¬ C = "#" ∧ vp_in i n ∧ nx (pc + 1) ls st (σ.1, rv_up σ.2 o (rv_aO C n (va_up f i.toNatClampNeg (some w)))) ce sl
    | _ => False
  | .ireturn => match st with
    | [.int x] => match rv_rt M with
      | some ty => rv_fit ty (.int x) ∧ Rt (some (.int x)) σ
      | none => False
    | _ => False
  | .lreturn => match st with
    | [.long x] => match rv_rt M with
      | some .long => Rt (some (.long x)) σ
      | _ => False
    | _ => False
  | .areturn => match st with
    | [.ref x] => match rv_rt M with
      | some (.object _) => Rt (some (.ref x)) σ
      | _ => False
    | [.null] => match rv_rt M with
      | some (.object _) => Rt (some .null) σ
      | _ => False
    | _ => False
  | .return_ => match st with
    | [] => match rv_rt M with
      | none => Rt none σ
      | _ => False
    | _ => False
  | .invokevirtual _ => match st.drop b with
    | .ref o :: rest => (∃ fs : List Value, σ.2 o = some (.inl (k, fs))) ∧ rv_call G mc ms nx pc ls rest σ ce sl a (.ref o :: (st.take b).reverse)
    | _ => False
  | .invokestatic _ => match Nat.ble b st.length with
    | true => rv_call G mc ms nx pc ls (st.drop b) σ ce sl a (st.take b).reverse
    | false => False
  | .invokespecial _ => match k with
    | 2 => match st with
      | [.ref _] => nx (pc + 3) ls [] σ ce sl
      | _ => False
    | _ => match st.drop b with
      | .ref o :: rest => rv_call G mc ms nx pc ls rest σ ce sl a (.ref o :: (st.take b).reverse)
      | _ => False
  | _ => False
def rv_step (G : rv_G) (M : rv_M) (mc ms : Nat) (Rt : Option Value → rv_S → Prop) (nx : Nat → rv_L → List Value → rv_S → Nat → Nat → Prop) (pc : Nat) (ls : rv_L) (st : List Value) (σ : rv_S) (ce sl : Nat) : Prop :=
  match rv_find (rv_li M) pc with
  | none => False
  | some (_, i, a, b, k, _, v, sw) => rv_ex G M mc ms Rt nx pc ls st σ ce sl a b k v sw i
/-- at most k instructions, up to a place where one of 'stops' stands -/
def rv_bx (G : rv_G) (M : rv_M) (mc ms : Nat) (Rt : Option Value → rv_S → Prop) (stops : List Nat) (K : Nat → rv_L → List Value → rv_S → Nat → Nat → Prop) : Nat → Nat → rv_L → List Value → rv_S → Nat → Nat → Prop
  | 0, pc, ls, st, σ, ce, sl => K pc ls st σ ce sl
  | k + 1, pc, ls, st, σ, ce, sl => match stops.any (fun q => Nat.beq q pc) with
    | true => K pc ls st σ ce sl
    | false => rv_step G M mc ms Rt (rv_bx G M mc ms Rt stops K k) pc ls st σ ce sl
