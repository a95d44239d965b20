/-! THE FRAME: cells that may not be written stay; so a contract over some cells holds beside any others -/
theorem rv_Met_mono {l : Launch} {y : MethodName} {ws : List Cond} {rm : Room} {Pc Pc' : Array Value → State → Prop} {Qc Qc' : Array Value → State → Outcome → State → Prop} {mc ms : Nat} {free free' : Addr → Prop} (h : Met l y ws rm Pc Qc mc ms free) (hp : ∀ a s, Pc' a s → Pc a s) (hq : ∀ a s o t, Pc' a s → s.WarmedH t.vm → Qc a s o t → Qc' a s o t) (hf : ∀ q, free q → free' q) : Met l y ws rm Pc' Qc' mc ms free' := by
  intro p e h1 h2 h3 s m args below h4 h5 h6 h7
  obtain ⟨t, o, k1, k2, k3, k4, L, k5, k6⟩ := h p e h1 h2 h3 s m args below h4 h5 (hp _ _ h6) h7
  exact ⟨t, o, k1, k2, k3, hq _ _ _ _ h6 k5.2.1 k4, L, k5, fun q hq => hf _ (k6 q hq)⟩
theorem rv_Ct.mono {G : rv_G} {i mc ms : Nat} {av : List Value} {σ : rv_S} {Rt Rt' : Option Value → rv_S → Prop} (h : rv_Ct G i mc ms av σ Rt) (hq : ∀ r σ', Rt r σ' → Rt' r σ') : rv_Ct G i mc ms av σ Rt' :=
  rv_Met_mono h (fun _ _ q => q) (fun _ _ _ _ _ _ ⟨⟨r, σ', h1, h2, h3⟩, h4⟩ => ⟨⟨r, σ', h1, hq r σ' h2, h3⟩, h4⟩) (fun _ q => q)
/-- two heaps side by side: the first's cells where it has some -/
def rv_mrg (g g2 : Nat → Option rv_E) : Nat → Option rv_E := fun q => match g q with
  | some x => some x
  | none => g2 q
theorem rv_mrg_l {g g2 : Nat → Option rv_E} {q : Nat} {x : rv_E} (h : g q = some x) : rv_mrg g g2 q = some x := by simp [rv_mrg, h]
theorem rv_mrg_or {g g2 : Nat → Option rv_E} {q : Nat} {x : rv_E} (h : rv_mrg g g2 q = some x) : g q = some x ∨ g2 q = some x := by
  unfold rv_mrg at h
  split at h
  · rename_i y hy
    cases h
    exact Or.inl hy
  · exact Or.inr h
def rv_nt (x : rv_E) : Prop := ∀ (n : Nat) (f : Nat → Value), x ≠ .inr (rv_tag, n, f)
theorem rv_at.to {D : va_G} {A B : Nat → Prop} {U : State} {H : Heap} {q : Nat} {x : rv_E} (h : rv_at D A U H q x) (hB : rv_nt x → B q) : rv_at D B U H q x := by
  obtain ⟨ci, fs⟩ | ⟨ty, k, f⟩ := x
  · exact ⟨hB (fun n f hx => by cases hx), h.2⟩
  · rcases h with h | ⟨h1, h2, h3⟩
    · exact Or.inl h
    · exact Or.inr ⟨h1, hB (fun n f hx => by cases hx; exact h1 rfl), h3⟩
theorem rv_at.wr {D : va_G} {A : Nat → Prop} {U : State} {H : Heap} {q : Nat} {x : rv_E} (h : rv_at D A U H q x) (hx : rv_nt x) : A q := by
  obtain ⟨ci, fs⟩ | ⟨ty, k, f⟩ := x
  · exact h.1
  · rcases h with ⟨h1, -⟩ | ⟨h1, h2, h3⟩
    · subst h1; exact absurd rfl (hx k f)
    · exact h2
/-- A CONTRACT BESIDE OTHER CELLS: proved over the cells g, with A to be written; it holds over g and g2 together, and g2 stays -/
theorem rv_frame {l : Launch} {D : va_G} {A B : Nat → Prop} {i mc ms n : Nat} {av : List Value} {g g2 : Nat → Option rv_E} {Rt : Option Value → rv_S → Prop} (h : rv_Ct (l, D, A) i mc ms av (n, g) Rt) (hAB : ∀ q, A q → B q) (hA : ∀ q, n ≤ q → A q) (hnt : ∀ q x, g q = some x → rv_nt x) (hg : ∀ q x, g q = some x → rv_nt x → A q) (h2 : ∀ q x, g2 q = some x → ¬ A q) :
    rv_Ct (l, D, B) i mc ms av (n, rv_mrg g g2) (fun r σ' => ∃ g' : Nat → Option rv_E, Rt r (σ'.1, g') ∧ (∀ q x, g' q = some x → rv_nt x → A q) ∧ (∀ q, σ'.1 ≤ q → A q) ∧ σ'.2 = rv_mrg g' g2) := by
  refine rv_Met_mono h ?_ ?_ hAB
  · rintro a s ⟨h0, hR, hK, hN⟩
    exact ⟨h0, ⟨⟨hR.1.1, hA⟩, fun q x hx => (hR.2 q x (rv_mrg_l hx)).to (fun hn => hg q x hx hn)⟩, hK, hN⟩
  · rintro a s o t ⟨h0, hR, hK, hN⟩ hW ⟨⟨r, σ', e1, e2, e3⟩, hz, hk⟩
    refine ⟨⟨r, (σ'.1, rv_mrg σ'.2 g2), e1, ⟨σ'.2, e2, fun q x hx hn => (e3.2 q x hx).wr hn, e3.1.2, rfl⟩, ⟨e3.1.1, fun q hq => hAB q (e3.1.2 q hq)⟩, fun q x hx => ?_⟩, hz, fun q h1 h3 => hk q h1 (fun z => h3 (hAB q z))⟩
    by_cases hs : σ'.2 q = none
    · have hx2 : g2 q = some x := by
        rcases rv_mrg_or hx with h3 | h3
        · rw [hs] at h3; cases h3
        · exact h3
      have hgq : rv_mrg g g2 q = some x := by
        cases hgg : g q with
        | none => simp [rv_mrg, hgg, hx2]
        | some y =>
          exfalso
          exact h2 q x hx2 (hg q y hgg (hnt q y hgg))
      have hat := hR.2 q x hgq
      exact (hat.kept (hk q hat.lt (h2 q x hx2))).moved hW.alike
    · obtain ⟨y, hy⟩ := Option.ne_none_iff_exists'.mp hs
      have : y = x := by
        have h3 : rv_mrg σ'.2 g2 q = some y := rv_mrg_l hy
        exact Option.some.inj (h3.symm.trans hx)
      subst this
      exact (e3.2 q y hy).to (fun hn => hAB q ((e3.2 q y hy).wr hn))
