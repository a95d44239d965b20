/-! THE ABSTRACT MACHINE: a heap as a map from addresses to cells; one instruction as a proposition; its soundness over the kit's rows, once for all methods. -/
/-- a cell: an object (the number of its class, its fields), or an array (its elements' type, length, elements) -/
abbrev rv_E : Type := (Nat × List Value) ⊕ (FieldType × Nat × (Nat → Value))
/-- the heap: the next address, the cells -/
abbrev rv_S : Type := Nat × (Nat → Option rv_E)
abbrev rv_L : Type := List (Option Value)
/-- the launch, the tables' numbers, which addresses may be written -/
abbrev rv_G : Type := Launch × va_G × (Nat → Prop)
def rv_up (g : Nat → Option rv_E) (a : Nat) (x : rv_E) : Nat → Option rv_E := fun q => if q = a then some x else g q
theorem rv_up_s {g : Nat → Option rv_E} {a : Nat} {x : rv_E} : rv_up g a x a = some x := by simp [rv_up]
theorem rv_up_n {g : Nat → Option rv_E} {a q : Nat} {x : rv_E} (h : q ≠ a) : rv_up g a x q = g q := by simp [rv_up, h]
theorem rv_up_up {g : Nat → Option rv_E} {a : Nat} {x y : rv_E} : rv_up (rv_up g a x) a y = rv_up g a y := by
  funext q
  by_cases h : q = a <;> simp [rv_up, h]
theorem rv_up_comm {g : Nat → Option rv_E} {a b : Nat} {x y : rv_E} (h : a ≠ b) : rv_up (rv_up g a x) b y = rv_up (rv_up g b y) a x := by
  funext q
  by_cases h1 : q = a
  · subst h1
    simp [rv_up, h]
  · by_cases h2 : q = b
    · subst h2
      simp [rv_up, h1]
    · simp [rv_up, h1, h2]
theorem rv_up_id {g : Nat → Option rv_E} {a : Nat} {x : rv_E} (h : g a = some x) : rv_up g a x = g := by
  funext q
  by_cases h1 : q = a <;> simp [rv_up, h1, h]
/-- what a cell of the machine's heap is -/
def rv_at (D : va_G) (A : Nat → Prop) (U : State) (H : Heap) (a : Nat) : rv_E → Prop
  | .inl (ci, fs) => A a ∧ ∃ r : vw_C, classes[ci]? = some r ∧ fs.length = r.2.2 ∧ t_OB a (D.1 ci) r.2.2 (D.2 ci) H (vp_V fs)
  | .inr (ty, n, f) => (ty = rv_tag ∧ ∃ xs : Nat → Int32, f = (fun j => Value.int (xs j)) ∧ va_X a n xs U H) ∨
      (¬ ty = rv_tag ∧ A a ∧ ∃ cA : ClassId, H[a]? = some (arrV cA n f) ∧ ArrOfT U cA ty ∧ va_RA U cA ty)
def rv_Rep (G : rv_G) (σ : rv_S) (U : State) (H : Heap) : Prop := (H.size = σ.1 ∧ ∀ q : Nat, σ.1 ≤ q → G.2.2 q) ∧ ∀ (a : Nat) (x : rv_E), σ.2 a = some x → rv_at G.2.1 G.2.2 U H a x
theorem rv_at.kept {D : va_G} {A : Nat → Prop} {U : State} {H H1 : Heap} {a : Nat} {x : rv_E} (h : rv_at D A U H a x) (hq : H1[a]? = H[a]?) : rv_at D A U H1 a x := by
  obtain ⟨ci, fs⟩ | ⟨ty, n, f⟩ := x
  · obtain ⟨h0, r, h1, h2, h3⟩ := h
    exact ⟨h0, r, h1, h2, h3.kept hq⟩
  · rcases h with ⟨h1, xs, h2, h3⟩ | ⟨hg, h0, cA, h1, h2⟩
    · exact Or.inl ⟨h1, xs, h2, h3.kept hq⟩
    · exact Or.inr ⟨hg, h0, cA, hq.trans h1, h2⟩
theorem rv_at.moved {D : va_G} {A : Nat → Prop} {u U : State} {H : Heap} {a : Nat} {x : rv_E} (hvm : u.vm.Alike U.vm) (h : rv_at D A u H a x) : rv_at D A U H a x := by
  obtain ⟨ci, fs⟩ | ⟨ty, n, f⟩ := x
  · exact h
  · rcases h with ⟨h1, xs, h2, h3⟩ | ⟨hg, h0, cA, h1, h2, h3⟩
    · exact Or.inl ⟨h1, xs, h2, h3.moved hvm⟩
    · exact Or.inr ⟨hg, h0, cA, h1, arrOfT_moved hvm h2, h3.moved hvm⟩
theorem rv_at.lt {D : va_G} {A : Nat → Prop} {U : State} {H : Heap} {a : Nat} {x : rv_E} (h : rv_at D A U H a x) : a < H.size := by
  obtain ⟨ci, fs⟩ | ⟨ty, n, f⟩ := x
  · obtain ⟨h0, r, h1, h2, cell, h3, -⟩ := h
    exact (Array.getElem?_eq_some_iff.mp h3).1
  · rcases h with ⟨h1, xs, h2, scr, h3, -⟩ | ⟨hg, h0, cA, h1, h2, h3⟩
    · exact (Array.getElem?_eq_some_iff.mp h3).1
    · exact (Array.getElem?_eq_some_iff.mp h1).1
theorem rv_Rep.moved {G : rv_G} {σ : rv_S} {u U : State} {H : Heap} (hvm : u.vm.Alike U.vm) (h : rv_Rep G σ u H) : rv_Rep G σ U H := ⟨h.1, fun a x hx => (h.2 a x hx).moved hvm⟩
/-- one cell is written -/
theorem rv_Rep.set {G : rv_G} {σ : rv_S} {U : State} {H H1 : Heap} (h : rv_Rep G σ U H) {a : Nat} {x : rv_E} (hx : rv_at G.2.1 G.2.2 U H1 a x) (hz : H1.size = H.size) (ho : ∀ q : Nat, q ≠ a → H1[q]? = H[q]?) : rv_Rep G (σ.1, rv_up σ.2 a x) U H1 := by
  refine ⟨⟨hz.trans h.1.1, h.1.2⟩, fun q y hy => ?_⟩
  by_cases hq : q = a
  · subst hq
    rw [show (σ.1, rv_up σ.2 q x).2 q = some x from rv_up_s] at hy
    cases hy
    exact hx
  · rw [show (σ.1, rv_up σ.2 a x).2 q = σ.2 q from rv_up_n hq] at hy
    exact (h.2 q y hy).kept (ho q hq)
/-- one cell is made -/
theorem rv_Rep.new {G : rv_G} {σ : rv_S} {U : State} {H H1 : Heap} (h : rv_Rep G σ U H) {x : rv_E} (hx : rv_at G.2.1 G.2.2 U H1 σ.1 x) (hz : H1.size = σ.1 + 1) (ho : ∀ q : Nat, q < H.size → H1[q]? = H[q]?) : rv_Rep G (σ.1 + 1, rv_up σ.2 σ.1 x) U H1 := by
  refine ⟨⟨hz, fun q hq => h.1.2 q (Nat.le_of_succ_le hq)⟩, fun q y hy => ?_⟩
  by_cases hq : q = σ.1
  · subst hq
    rw [show (σ.1 + 1, rv_up σ.2 σ.1 x).2 σ.1 = some x from rv_up_s] at hy
    cases hy
    exact hx
  · rw [show (σ.1 + 1, rv_up σ.2 σ.1 x).2 q = σ.2 q from rv_up_n hq] at hy
    exact (h.2 q y hy).kept (ho q (h.2 q y hy).lt)
/-! locals -/
def rv_lr (ls : Array Slot) (n : Nat) (l : rv_L) : Prop := ls.size = n ∧ lv_wf ls ∧ ∀ (i : Nat) (v : Value), l[i]? = some (some v) → ls[i]? = some (.val v)
def rv_clob : Option Value → Option Value
  | some (.long _) => none
  | some (.double _) => none
  | o => o
/-- a value of one slot is stored -/
def rv_st1 : rv_L → Nat → Value → rv_L
  | [], _, _ => []
  | _ :: l, 0, v => some v :: l
  | o :: l, i + 1, v => (match i with | 0 => rv_clob o | _ => o) :: rv_st1 l i v
/-- a value of two slots is stored -/
def rv_st2 : rv_L → Nat → Value → rv_L
  | [], _, _ => []
  | _ :: l, 0, v => some v :: (match l with | [] => [] | _ :: l => none :: l)
  | o :: l, i + 1, v => (match i with | 0 => rv_clob o | _ => o) :: rv_st2 l i v
theorem rv_clob_some {o : Option Value} {v : Value} (h : rv_clob o = some v) : o = some v ∧ v.category = 1 := by
  cases o with
  | none => cases h
  | some w => cases w <;> simp [rv_clob] at h <;> subst h <;> simp [Value.category]
theorem rv_st1_at : ∀ (l : rv_L) (i : Nat) (v : Value) (j : Nat) (w : Value), (rv_st1 l i v)[j]? = some (some w) → (j = i ∧ w = v) ∨ (j ≠ i ∧ l[j]? = some (some w) ∧ (j + 1 = i → w.category = 1))
  | [], i, v, j, w, h => by simp [rv_st1] at h
  | o :: l, 0, v, j, w, h => by
    cases j with
    | zero => simp [rv_st1] at h; exact Or.inl ⟨rfl, h.symm⟩
    | succ j => simp [rv_st1] at h; exact Or.inr ⟨by omega, by simpa using h, by omega⟩
  | o :: l, i + 1, v, j, w, h => by
    cases j with
    | zero =>
      cases i with
      | zero =>
        simp [rv_st1] at h
        obtain ⟨h1, h2⟩ := rv_clob_some h
        exact Or.inr ⟨by omega, by simp [h1], fun _ => h2⟩
      | succ i =>
        simp [rv_st1] at h
        exact Or.inr ⟨by omega, by simp [h], by omega⟩
    | succ j =>
      simp only [rv_st1, List.getElem?_cons_succ] at h
      rcases rv_st1_at l i v j w h with ⟨h1, h2⟩ | ⟨h1, h2, h3⟩
      · exact Or.inl ⟨by omega, h2⟩
      · exact Or.inr ⟨by omega, by simpa using h2, fun q => h3 (by omega)⟩
theorem rv_st2_at : ∀ (l : rv_L) (i : Nat) (v : Value) (j : Nat) (w : Value), (rv_st2 l i v)[j]? = some (some w) → (j = i ∧ w = v) ∨ (j ≠ i ∧ j ≠ i + 1 ∧ l[j]? = some (some w) ∧ (j + 1 = i → w.category = 1))
  | [], i, v, j, w, h => by simp [rv_st2] at h
  | o :: l, 0, v, j, w, h => by
    cases j with
    | zero => simp [rv_st2] at h; exact Or.inl ⟨rfl, h.symm⟩
    | succ j =>
      cases l with
      | nil => simp [rv_st2] at h
      | cons o2 l =>
        cases j with
        | zero => simp [rv_st2] at h
        | succ j => simp [rv_st2] at h; exact Or.inr ⟨by omega, by omega, by simpa using h, by omega⟩
  | o :: l, i + 1, v, j, w, h => by
    cases j with
    | zero =>
      cases i with
      | zero =>
        simp [rv_st2] at h
        obtain ⟨h1, h2⟩ := rv_clob_some h
        exact Or.inr ⟨by omega, by omega, by simp [h1], fun _ => h2⟩
      | succ i =>
        simp [rv_st2] at h
        exact Or.inr ⟨by omega, by omega, by simp [h], by omega⟩
    | succ j =>
      simp only [rv_st2, List.getElem?_cons_succ] at h
      rcases rv_st2_at l i v j w h with ⟨h1, h2⟩ | ⟨h1, h0, h2, h3⟩
      · exact Or.inl ⟨by omega, h2⟩
      · exact Or.inr ⟨by omega, by omega, by simpa using h2, fun q => h3 (by omega)⟩
/-- the listed values, as the kit's rows want them -/
def rv_ps (l : rv_L) : List (Nat × Value) := (List.range l.length).filterMap (fun i => match l[i]? with | some (some v) => some (i, v) | _ => none)
theorem rv_ps_mem {l : rv_L} {i : Nat} {v : Value} : (i, v) ∈ rv_ps l ↔ l[i]? = some (some v) := by
  constructor
  · intro h
    obtain ⟨j, -, hj⟩ := List.mem_filterMap.mp h
    split at hj
    · rename_i w hw
      cases hj
      exact hw
    · cases hj
  · intro h
    refine List.mem_filterMap.mpr ⟨i, List.mem_range.mpr (List.getElem?_eq_some_iff.mp h).1, ?_⟩
    rw [h]
theorem rv_lr.has {ls : Array Slot} {n : Nat} {l : rv_L} (h : rv_lr ls n l) : lv_has ls n (rv_ps l) := ⟨h.1, h.2.1, fun q hq => h.2.2 q.1 q.2 (rv_ps_mem.mp hq)⟩
theorem rv_lr.st1 {ls : Array Slot} {n : Nat} {l : rv_L} {i : Nat} {v : Value} (h : lv_has ls n ((i, v) :: (rv_ps l).filter (fun q => !(q.1 == i) && !(q.1 + 1 == i && q.2.category == 2)))) : rv_lr ls n (rv_st1 l i v) := by
  refine ⟨h.1, h.2.1, fun j w hj => ?_⟩
  rcases rv_st1_at l i v j w hj with ⟨h1, h2⟩ | ⟨h1, h2, h3⟩
  · subst h1; subst h2
    exact h.2.2 (j, w) List.mem_cons_self
  · refine h.2.2 (j, w) (List.mem_cons_of_mem _ (List.mem_filter.mpr ⟨rv_ps_mem.mpr h2, ?_⟩))
    have h4 : (j == i) = false := by simp [h1]
    by_cases h5 : j + 1 = i
    · simp [h4, h3 h5]
    · simp [h4, h5]
theorem rv_lr.st2 {ls : Array Slot} {n : Nat} {l : rv_L} {i : Nat} {v : Value} (h : lv_has ls n ((i, v) :: (rv_ps l).filter (fun q => !(q.1 == i) && (!(q.1 == i + 1) && !(q.1 + 1 == i && q.2.category == 2))))) : rv_lr ls n (rv_st2 l i v) := by
  refine ⟨h.1, h.2.1, fun j w hj => ?_⟩
  rcases rv_st2_at l i v j w hj with ⟨h1, h2⟩ | ⟨h1, h0, h2, h3⟩
  · subst h1; subst h2
    exact h.2.2 (j, w) List.mem_cons_self
  · refine h.2.2 (j, w) (List.mem_cons_of_mem _ (List.mem_filter.mpr ⟨rv_ps_mem.mpr h2, ?_⟩))
    have h4 : (j == i) = false := by simp [h1]
    have h6 : (j == i + 1) = false := by simp [h0]
    by_cases h5 : j + 1 = i
    · simp [h4, h6, h3 h5]
    · simp [h4, h6, h5]
theorem rv_lr.get {ls : Array Slot} {n : Nat} {l : rv_L} (h : rv_lr ls n l) {i : Nat} {v : Value} (hi : rv_nth l i = some (some v)) : ls[i]? = some (.val v) := h.2.2 i v (by rw [← rv_nth_eq]; exact hi)
theorem rv_lr.weak {ls : Array Slot} {n : Nat} {l l' : rv_L} (h : rv_lr ls n l) (hw : ∀ (i : Nat) (v : Value), l'[i]? = some (some v) → l[i]? = some (some v)) : rv_lr ls n l' := ⟨h.1, h.2.1, fun i v hi => h.2.2 i v (hw i v hi)⟩
/-! arrays by their kinds -/
def rv_b : Bool → Int32
  | true => 1
  | false => 0
theorem rv_b01 (b : Bool) : rv_b b = 0 ∨ rv_b b = 1 := by cases b <;> simp [rv_b]
theorem rv_b0 {b : Bool} : rv_b b = 0 ↔ b = false := by cases b <;> simp [rv_b]
theorem rv_b1 {b : Bool} : rv_b b = 1 ↔ b = true := by cases b <;> simp [rv_b]
theorem rv_b_inj {a b : Bool} : rv_b a = rv_b b ↔ a = b := by cases a <;> cases b <;> simp [rv_b]
def rv_aI (n : Nat) (f : Nat → Int32) : rv_E := .inr (.int, n, fun j => .int (f j))
def rv_aJ (n : Nat) (f : Nat → Int64) : rv_E := .inr (.long, n, fun j => .long (f j))
def rv_aZ (n : Nat) (f : Nat → Bool) : rv_E := .inr (.boolean, n, fun j => .int (rv_b (f j)))
def rv_aO (C : String) (n : Nat) (f : Nat → Option Nat) : rv_E := .inr (.object C, n, fun j => va_rf (f j))
def rv_aT (n : Nat) (f : Nat → Int32) : rv_E := .inr (rv_tag, n, fun j => .int (f j))
theorem rv_updI (f : Nat → Int32) (i : Nat) (x : Int32) : updV (fun j => .int (f j)) i (.int x) = fun j => Value.int (upd f i x j) := by
  funext j
  by_cases h : j = i <;> simp [updV, upd, h]
theorem rv_updJ (f : Nat → Int64) (i : Nat) (x : Int64) : updV (fun j => .long (f j)) i (.long x) = fun j => Value.long (vp_updL f i x j) := by
  funext j
  by_cases h : j = i <;> simp [updV, vp_updL, h]
theorem rv_updZ (f : Nat → Bool) (i : Nat) (x : Bool) : updV (fun j => .int (rv_b (f j))) i (.int (rv_b x)) = fun j => Value.int (rv_b (va_up f i x j)) := by
  funext j
  by_cases h : j = i <;> simp [updV, va_up, h]
theorem rv_updO (f : Nat → Option Nat) (i a : Nat) : updV (fun j => va_rf (f j)) i (.ref a) = fun j => va_rf (va_up f i (some a) j) := by
  funext j
  by_cases h : j = i <;> simp [updV, va_up, va_rf, h]
