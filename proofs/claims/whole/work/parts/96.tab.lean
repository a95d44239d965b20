/-! THE COMPARISON: tables of one pass -/
abbrev En7 : Type := Int64 × Int64 × Int64 × Int64 × Int64 × Int64 × Int64
def ent (f : Nat → Int64) (i : Nat) : En7 := (f (7 * i), f (7 * i + 1), f (7 * i + 2), f (7 * i + 3), f (7 * i + 4), f (7 * i + 5), f (7 * i + 6))
theorem ent_ne {f g : Nat → Int64} {i a : Nat} (h : i ≠ a) (ho : ∀ x, (x < 7 * a ∨ 7 * a + 7 ≤ x) → g x = f x) : ent g i = ent f i := by
  unfold ent
  rw [ho _ (by omega), ho _ (by omega), ho _ (by omega), ho _ (by omega), ho _ (by omega), ho _ (by omega), ho _ (by omega)]
theorem ent_at {f g : Nat → Int64} (h : ∀ i, ent f i = ent g i) : ∀ x, f x = g x := by
  intro x
  have h1 := h (x / 7)
  have hx : x = 7 * (x / 7) + x % 7 := by omega
  have hr : x % 7 < 7 := Nat.mod_lt _ (by omega)
  rw [hx]
  generalize x / 7 = i at *
  match hm : x % 7, hr with
  | 0, _ => exact congrArg (fun z : En7 => z.1) h1
  | 1, _ => exact congrArg (fun z : En7 => z.2.1) h1
  | 2, _ => exact congrArg (fun z : En7 => z.2.2.1) h1
  | 3, _ => exact congrArg (fun z : En7 => z.2.2.2.1) h1
  | 4, _ => exact congrArg (fun z : En7 => z.2.2.2.2.1) h1
  | 5, _ => exact congrArg (fun z : En7 => z.2.2.2.2.2.1) h1
  | 6, _ => exact congrArg (fun z : En7 => z.2.2.2.2.2.2) h1
theorem ent_at1 {f g : Nat → Int64} {i : Nat} (h : ent f i = ent g i) {c : Nat} (hc : c < 7) : f (7 * i + c) = g (7 * i + c) := by
  match c, hc with
  | 0, _ => exact congrArg (fun z : En7 => z.1) h
  | 1, _ => exact congrArg (fun z : En7 => z.2.1) h
  | 2, _ => exact congrArg (fun z : En7 => z.2.2.1) h
  | 3, _ => exact congrArg (fun z : En7 => z.2.2.2.1) h
  | 4, _ => exact congrArg (fun z : En7 => z.2.2.2.2.1) h
  | 5, _ => exact congrArg (fun z : En7 => z.2.2.2.2.2.1) h
  | 6, _ => exact congrArg (fun z : En7 => z.2.2.2.2.2.2) h
theorem ent_w (f : Nat → Int64) (m : Nat) (k b e c v l g : Int64) (i : Nat) : ent (ps_w f m k b e c v l g) i = if i = m then (k, b, e, c, v, l, g) else ent f i := by
  by_cases h : i = m
  · subst h
    rw [if_pos rfl]
    unfold ent ps_w
    rw [show 7 * i = 7 * i + 0 from rfl]
    simp only [pk_uLs]
    rw [pk_uLn (by omega), pk_uLn (by omega), pk_uLn (by omega), pk_uLn (by omega), pk_uLn (by omega), pk_uLn (by omega), pk_uLs, pk_uLn (by omega), pk_uLn (by omega), pk_uLn (by omega), pk_uLn (by omega), pk_uLn (by omega), pk_uLs, pk_uLn (by omega), pk_uLn (by omega), pk_uLn (by omega), pk_uLn (by omega), pk_uLs, pk_uLn (by omega), pk_uLn (by omega), pk_uLn (by omega), pk_uLs, pk_uLn (by omega), pk_uLn (by omega), pk_uLs, pk_uLn (by omega), pk_uLs]
  · rw [if_neg h]
    refine ent_ne h (fun x hx => ?_)
    unfold ps_w
    rw [pk_uLn (by omega), pk_uLn (by omega), pk_uLn (by omega), pk_uLn (by omega), pk_uLn (by omega), pk_uLn (by omega), pk_uLn (by omega)]
/-- a number comes into an entry -/
def e_in (z : En7) (v : Int64) : En7 := (z.1, z.2.1, z.2.2.1, z.2.2.2.1 + 1, z.2.2.2.2.1 + v, rv_minL z.2.2.2.2.2.1 v, rv_maxL z.2.2.2.2.2.2 v)
theorem upd_self {f : Nat → Int64} {a : Nat} {x : Int64} (h : x = f a) : vp_updL f a x = f := by
  funext i
  by_cases z : i = a
  · subst z; rw [pk_uLs, h]
  · rw [pk_uLn z]
theorem ent_cm (f : Nat → Int64) (a : Nat) (e v : Int64) (i : Nat) : ent (ps_cm f a e v) i = if i = a then (let z := e_in (ent f a) v; (z.1, z.2.1, e, z.2.2.2)) else ent f i := by
  by_cases h : i = a
  · subst h
    rw [if_pos rfl]
    unfold ps_cm
    (try dsimp only)
    unfold ent e_in
    (try dsimp only)
    have n1 : ∀ {f : Nat → Int64} {c d : Nat} {x : Int64}, c ≠ d → vp_updL f (7 * i + c) x (7 * i + d) = f (7 * i + d) := fun h => pk_uLn (by omega)
    have n0 : ∀ {f : Nat → Int64} {c : Nat} {x : Int64}, 0 < c → vp_updL f (7 * i + c) x (7 * i) = f (7 * i) := fun h => pk_uLn (by omega)
    refine Prod.ext ?_ (Prod.ext ?_ (Prod.ext ?_ (Prod.ext ?_ (Prod.ext ?_ (Prod.ext ?_ ?_)))))
    · dsimp only; rw [n0 (by omega), n0 (by omega), n0 (by omega), n0 (by omega), n0 (by omega)]
    · dsimp only; rw [n1 (by omega), n1 (by omega), n1 (by omega), n1 (by omega), n1 (by omega)]
    · dsimp only; rw [n1 (by omega), n1 (by omega), n1 (by omega), n1 (by omega), pk_uLs]
    · dsimp only; rw [n1 (by omega), n1 (by omega), n1 (by omega), pk_uLs, n1 (by omega)]
    · dsimp only; rw [n1 (by omega), n1 (by omega), pk_uLs, n1 (by omega), n1 (by omega)]
    · dsimp only; rw [n1 (by omega), pk_uLs, n1 (by omega), n1 (by omega), n1 (by omega)]
    · dsimp only; rw [pk_uLs, n1 (by omega), n1 (by omega), n1 (by omega), n1 (by omega)]
  · rw [if_neg h]
    refine ent_ne h (fun x hx => ?_)
    unfold ps_cm
    (try dsimp only)
    rw [pk_uLn (by omega), pk_uLn (by omega), pk_uLn (by omega), pk_uLn (by omega), pk_uLn (by omega)]
theorem ent_fin (f : Nat → Int64) (a : Nat) (v : Int64) (i : Nat) : ent (pi_fin f a v) i = if i = a then e_in (ent f a) v else ent f i := by
  have key : pi_fin f a v = ps_cm f a (f (7 * a + 2)) v := by
    unfold pi_fin ps_cm
    (try dsimp only)
    rw [upd_self (f := f) (a := 7 * a + 2) (x := f (7 * a + 2)) rfl]
    generalize vp_updL (vp_updL f (7 * a + 3) (f (7 * a + 3) + 1)) (7 * a + 4) (vp_updL f (7 * a + 3) (f (7 * a + 3) + 1) (7 * a + 4) + v) = g
    have h1 : (if v < g (7 * a + 5) then vp_updL g (7 * a + 5) v else g) = vp_updL g (7 * a + 5) (rv_minL (g (7 * a + 5)) v) := by
      unfold rv_minL
      by_cases z : v < g (7 * a + 5)
      · rw [if_pos z, if_pos z]
      · rw [if_neg z, if_neg z, upd_self rfl]
    rw [h1]
    generalize vp_updL g (7 * a + 5) (rv_minL (g (7 * a + 5)) v) = u
    unfold rv_maxL
    by_cases z : u (7 * a + 6) < v
    · rw [if_pos z, if_pos z]
    · rw [if_neg z, if_neg z, upd_self rfl]
  rw [key, ent_cm]
  by_cases h : i = a
  · rw [if_pos h, if_pos h]; rfl
  · rw [if_neg h, if_neg h]
theorem sh_up (lo : Nat) : ∀ (t : Nat) (f : Nat → Int64) (i : Nat), pi_sh lo t f i = if lo + 7 ≤ i ∧ i < lo + t + 7 then f (i - 7) else f i
  | 0, f, i => by rw [if_neg (by omega)]; rfl
  | t + 1, f, i => by
    unfold pi_sh
    rw [sh_up lo t]
    by_cases h1 : lo + 7 ≤ i ∧ i < lo + t + 7
    · rw [if_pos h1, if_pos (by omega), pk_uLn (by omega)]
    · rw [if_neg h1]
      by_cases h2 : i = lo + t + 7
      · subst h2
        rw [pk_uLs, if_pos (by omega)]
        congr 1
      · rw [pk_uLn h2, if_neg (by omega)]
theorem ent_sh (f : Nat → Int64) {a n : Nat} (ha : a ≤ n) (i : Nat) : ent (pi_sh (7 * a) (7 * n - 7 * a) f) i = if a < i ∧ i ≤ n then ent f (i - 1) else ent f i := by
  by_cases h : a < i ∧ i ≤ n
  · rw [if_pos h]
    unfold ent
    rw [sh_up, sh_up, sh_up, sh_up, sh_up, sh_up, sh_up, if_pos (by omega), if_pos (by omega), if_pos (by omega), if_pos (by omega), if_pos (by omega), if_pos (by omega), if_pos (by omega)]
    rw [show 7 * i - 7 = 7 * (i - 1) by omega, show 7 * i + 1 - 7 = 7 * (i - 1) + 1 by omega, show 7 * i + 2 - 7 = 7 * (i - 1) + 2 by omega, show 7 * i + 3 - 7 = 7 * (i - 1) + 3 by omega, show 7 * i + 4 - 7 = 7 * (i - 1) + 4 by omega, show 7 * i + 5 - 7 = 7 * (i - 1) + 5 by omega, show 7 * i + 6 - 7 = 7 * (i - 1) + 6 by omega]
  · rw [if_neg h]
    unfold ent
    rw [sh_up, sh_up, sh_up, sh_up, sh_up, sh_up, sh_up, if_neg (by omega), if_neg (by omega), if_neg (by omega), if_neg (by omega), if_neg (by omega), if_neg (by omega), if_neg (by omega)]
/-! what came into a window -/
abbrev Cn : Type := Int64 × Int64 × Int64
abbrev Ag : Type := Int64 × Int64 × Int64 × Int64
def ag1 (v : Int64) : Ag := (1, v, v, v)
def agin (a : Ag) (v : Int64) : Ag := (a.1 + 1, a.2.1 + v, rv_minL a.2.2.1 v, rv_maxL a.2.2.2 v)
def ago (o : Option Ag) (v : Int64) : Ag := match o with
  | none => ag1 v
  | some a => agin a v
def gvs (k b : Int64) (o : Option Ag) (c : Cn) : Option Ag := if c.1 = k ∧ c.2.1 = b then some (ago o c.2.2) else o
def gv (k b : Int64) (L : List Cn) : Option Ag := L.foldl (gvs k b) none
theorem minL_toInt (a b : Int64) : (rv_minL a b).toInt = min a.toInt b.toInt := by
  unfold rv_minL
  by_cases h : b < a
  · rw [if_pos h]; have := Int64.lt_iff_toInt_lt.mp h; omega
  · rw [if_neg h]; have := Int64.le_iff_toInt_le.mp (Int64.not_lt.mp h); omega
theorem maxL_toInt (a b : Int64) : (rv_maxL a b).toInt = max a.toInt b.toInt := by
  unfold rv_maxL
  by_cases h : a < b
  · rw [if_pos h]; have := Int64.lt_iff_toInt_lt.mp h; omega
  · rw [if_neg h]; have := Int64.le_iff_toInt_le.mp (Int64.not_lt.mp h); omega
theorem ago_c (o : Option Ag) (x y : Int64) : ago (some (ago o x)) y = ago (some (ago o y)) x := by
  have m1 : ∀ a x y : Int64, rv_minL (rv_minL a x) y = rv_minL (rv_minL a y) x := fun a x y => Int64.toInt_inj.mp (by rw [minL_toInt, minL_toInt, minL_toInt, minL_toInt]; omega)
  have m2 : ∀ a x y : Int64, rv_maxL (rv_maxL a x) y = rv_maxL (rv_maxL a y) x := fun a x y => Int64.toInt_inj.mp (by rw [maxL_toInt, maxL_toInt, maxL_toInt, maxL_toInt]; omega)
  have m3 : ∀ x y : Int64, rv_minL x y = rv_minL y x := fun x y => Int64.toInt_inj.mp (by rw [minL_toInt, minL_toInt]; omega)
  have m4 : ∀ x y : Int64, rv_maxL x y = rv_maxL y x := fun x y => Int64.toInt_inj.mp (by rw [maxL_toInt, maxL_toInt]; omega)
  cases o with
  | none =>
    show (1 + 1, x + y, rv_minL x y, rv_maxL x y) = (1 + 1, y + x, rv_minL y x, rv_maxL y x)
    rw [m3 x y, m4 x y, Int64.add_comm x y]
  | some a =>
    show (a.1 + 1 + 1, a.2.1 + x + y, rv_minL (rv_minL a.2.2.1 x) y, rv_maxL (rv_maxL a.2.2.2 x) y) = (a.1 + 1 + 1, a.2.1 + y + x, rv_minL (rv_minL a.2.2.1 y) x, rv_maxL (rv_maxL a.2.2.2 y) x)
    rw [m1, m2, Int64.add_assoc a.2.1 x y, Int64.add_comm x y, ← Int64.add_assoc a.2.1 y x]
theorem gvs_c (k b : Int64) (o : Option Ag) (c d : Cn) : gvs k b (gvs k b o c) d = gvs k b (gvs k b o d) c := by
  unfold gvs
  by_cases h1 : c.1 = k ∧ c.2.1 = b
  · by_cases h2 : d.1 = k ∧ d.2.1 = b
    · rw [if_pos h1, if_pos h2, if_pos h2, if_pos h1, ago_c]
    · rw [if_pos h1, if_neg h2, if_neg h2, if_pos h1]
  · by_cases h2 : d.1 = k ∧ d.2.1 = b
    · rw [if_neg h1, if_pos h2, if_neg h1]
    · rw [if_neg h1, if_neg h2, if_neg h1]
theorem gv_perm (k b : Int64) {L L' : List Cn} (h : List.Perm L L') : gv k b L = gv k b L' := h.foldl_eq' (fun x _ y _ z => gvs_c k b z x y) none
theorem gv_snoc (k b : Int64) (L : List Cn) (c : Cn) : gv k b (L ++ [c]) = gvs k b (gv k b L) c := by
  unfold gv
  rw [List.foldl_append]
  rfl
theorem gv_some (k b : Int64) : ∀ (L : List Cn) (o : Option Ag), (L.foldl (gvs k b) o = none ↔ (o = none ∧ ∀ c, c ∈ L → ¬ (c.1 = k ∧ c.2.1 = b)))
  | [], o => ⟨fun h => ⟨h, fun c hc => absurd hc List.not_mem_nil⟩, fun h => h.1⟩
  | c :: L, o => by
    show L.foldl (gvs k b) (gvs k b o c) = none ↔ _
    rw [gv_some k b L (gvs k b o c)]
    unfold gvs
    by_cases h1 : c.1 = k ∧ c.2.1 = b
    · rw [if_pos h1]
      exact ⟨fun h => absurd h.1 (by simp), fun h => absurd h1 (h.2 c List.mem_cons_self)⟩
    · rw [if_neg h1]
      refine ⟨fun h => ⟨h.1, fun d hd => ?_⟩, fun h => ⟨h.1, fun d hd => h.2 d (List.mem_cons_of_mem _ hd)⟩⟩
      rcases List.mem_cons.mp hd with z | z
      · rw [z]; exact h1
      · exact h.2 d z
theorem gv_none {k b : Int64} {L : List Cn} : gv k b L = none ↔ ∀ c, c ∈ L → ¬ (c.1 = k ∧ c.2.1 = b) := by
  unfold gv
  rw [gv_some]
  exact ⟨fun h => h.2, fun h => ⟨rfl, h⟩⟩
def klt (k b k2 b2 : Int64) : Prop := k.toInt < k2.toInt ∨ (k.toInt = k2.toInt ∧ b.toInt < b2.toInt)
/-- the table shows what came -/
def Reps (q : Ps) (L : List Cn) (E : Int64 → Int64 → Int64 → Prop) : Prop := (∀ i j, i < j → j < q.1 → klt (ent q.2 i).1 (ent q.2 i).2.1 (ent q.2 j).1 (ent q.2 j).2.1) ∧ (∀ i, i < q.1 → gv (ent q.2 i).1 (ent q.2 i).2.1 L = some (ent q.2 i).2.2.2 ∧ E (ent q.2 i).1 (ent q.2 i).2.1 (ent q.2 i).2.2.1) ∧ ∀ c, c ∈ L → ∃ i, i < q.1 ∧ (ent q.2 i).1 = c.1 ∧ (ent q.2 i).2.1 = c.2.1
theorem reps_key {q q' : Ps} {L L' : List Cn} {E E' : Int64 → Int64 → Int64 → Prop} (h : Reps q L E) (h' : Reps q' L' E') (hp : List.Perm L L') : ∀ i, i < q.1 → i < q'.1 ∧ (ent q.2 i).1 = (ent q'.2 i).1 ∧ (ent q.2 i).2.1 = (ent q'.2 i).2.1 := by
  have to : ∀ i, i < q.1 → ∃ i', i' < q'.1 ∧ (ent q'.2 i').1 = (ent q.2 i).1 ∧ (ent q'.2 i').2.1 = (ent q.2 i).2.1 := fun i hi => by
    have h1 : ¬ gv (ent q.2 i).1 (ent q.2 i).2.1 L = none := by rw [(h.2.1 i hi).1]; simp
    rw [gv_none] at h1
    have : ∃ c, c ∈ L ∧ (c.1 = (ent q.2 i).1 ∧ c.2.1 = (ent q.2 i).2.1) := Classical.byContradiction (fun z => h1 (fun c hc y => z ⟨c, hc, y⟩))
    obtain ⟨c, c1, c2, c3⟩ := this
    obtain ⟨i', i1, i2, i3⟩ := h'.2.2 c (hp.mem_iff.mp c1)
    exact ⟨i', i1, i2.trans c2, i3.trans c3⟩
  have fro : ∀ i, i < q'.1 → ∃ i', i' < q.1 ∧ (ent q.2 i').1 = (ent q'.2 i).1 ∧ (ent q.2 i').2.1 = (ent q'.2 i).2.1 := fun i hi => by
    have h1 : ¬ gv (ent q'.2 i).1 (ent q'.2 i).2.1 L' = none := by rw [(h'.2.1 i hi).1]; simp
    rw [gv_none] at h1
    have : ∃ c, c ∈ L' ∧ (c.1 = (ent q'.2 i).1 ∧ c.2.1 = (ent q'.2 i).2.1) := Classical.byContradiction (fun z => h1 (fun c hc y => z ⟨c, hc, y⟩))
    obtain ⟨c, c1, c2, c3⟩ := this
    obtain ⟨i', i1, i2, i3⟩ := h.2.2 c (hp.mem_iff.mpr c1)
    exact ⟨i', i1, i2.trans c2, i3.trans c3⟩
  intro i
  induction i using Nat.strongRecOn with
  | _ i ih =>
    intro hi
    obtain ⟨i1, a1, a2, a3⟩ := to i hi
    have hge : i ≤ i1 := by
      rcases Nat.lt_or_ge i1 i with z | z
      · exfalso
        obtain ⟨-, b2, b3⟩ := ih i1 z (by omega)
        have := h.1 i1 i z hi
        rw [b2, b3, a2, a3] at this
        unfold klt at this
        omega
      · exact z
    by_cases e : i1 = i
    · subst e; exact ⟨a1, a2.symm, a3.symm⟩
    · exfalso
      have hi' : i < q'.1 := by omega
      obtain ⟨i2, c1, c2, c3⟩ := fro i hi'
      have hge2 : i ≤ i2 := by
        rcases Nat.lt_or_ge i2 i with z | z
        · exfalso
          obtain ⟨-, b2, b3⟩ := ih i2 z (by omega)
          have := h'.1 i2 i z hi'
          rw [← b2, ← b3, c2, c3] at this
          unfold klt at this
          omega
        · exact z
      have d1 := h'.1 i i1 (by omega) a1
      rw [a2, a3, ← c2, ← c3] at d1
      by_cases e2 : i2 = i
      · rw [e2] at d1; unfold klt at d1; omega
      · have d2 := h.1 i i2 (by omega) c1
        unfold klt at d1 d2
        omega
/-- both tables are the same -/
theorem reps_eq {q q' : Ps} {L L' : List Cn} {E : Int64 → Int64 → Int64 → Prop} (h : Reps q L E) (h' : Reps q' L' E) (hp : List.Perm L L') (hE : ∀ k b e e', E k b e → E k b e' → e = e') : q.1 = q'.1 ∧ ∀ i, i < 7 * q.1 → q.2 i = q'.2 i := by
  have k1 := reps_key h h' hp
  have k2 := reps_key h' h hp.symm
  have e1 : q.1 = q'.1 := by
    rcases Nat.lt_trichotomy q.1 q'.1 with z | z | z
    · have := (k2 q.1 z).1; omega
    · exact z
    · have := (k1 q'.1 z).1; omega
  refine ⟨e1, fun x hx => ?_⟩
  have hi : x / 7 < q.1 := by omega
  obtain ⟨-, a2, a3⟩ := k1 (x / 7) hi
  obtain ⟨b1, b2⟩ := h.2.1 (x / 7) hi
  obtain ⟨c1, c2⟩ := h'.2.1 (x / 7) (by omega)
  rw [gv_perm _ _ hp, a2, a3, c1] at b1
  rw [a2, a3] at b2
  have a4 := hE _ _ _ _ b2 c2
  have hent : ent q.2 (x / 7) = ent q'.2 (x / 7) := by
    refine Prod.ext a2 (Prod.ext a3 (Prod.ext a4 ?_))
    exact (Option.some.inj b1).symm
  have := ent_at1 hent (c := x % 7) (Nat.mod_lt _ (by omega))
  rw [show 7 * (x / 7) + x % 7 = x by omega] at this
  exact this
