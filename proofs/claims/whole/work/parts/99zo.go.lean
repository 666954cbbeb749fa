/-! Runs: what they all end with; cells once made stay what they are. -/
section
variable {G : am_Pg} {C : am_Cd} {A A' A1 A2 : am_A}
theorem am_W.all {ι : Type} {d j pc : Nat} {ls st : List Value} {S : ι → Prop} {P : ι → am_Res → am_A → Prop} (x0 : ι) (h0 : S x0) (h : ∀ i, S i → am_W d j pc ls st A (P i)) : am_W d j pc ls st A (fun r A1 => ∀ i, S i → P i r A1) := by
  obtain ⟨n, r, A1, e, hp⟩ := h x0 h0
  refine ⟨n, r, A1, e, fun i hi => ?_⟩
  obtain ⟨n', r', A1', e', hp'⟩ := h i hi
  have e1 := am_run_le e (Nat.le_max_left n n')
  have e2 := am_run_le e' (Nat.le_max_right n n')
  rw [e1] at e2
  have e3 := Option.some.inj e2
  have e4 : r = r' := congrArg Prod.fst e3
  have e5 : A1 = A1' := congrArg Prod.snd e3
  rw [e4, e5]
  exact hp'
theorem mC.all {ι : Type} {d j : Nat} {as : List Value} {S : ι → Prop} {P : ι → am_Res → am_A → Prop} (x0 : ι) (h0 : S x0) (h : ∀ i, S i → mC d j as A (P i)) : mC d j as A (fun r A1 => ∀ i, S i → P i r A1) := by
  have := am_W.all (P := fun i r A' => Sh A' ∧ P i r A') x0 h0 h
  exact am_W.mono this (fun r A1 hx => ⟨(hx x0 h0).1, fun i hi => (hx i hi).2⟩)
/-- cells that were, are what they were -/
def ext (A A' : am_A) : Prop := am_sz A ≤ am_sz A' ∧ ∀ a, a < am_sz A → am_T A' a = am_T A a ∧ am_L A' a = am_L A a
theorem ext.rfl (A : am_A) : ext A A := ⟨Nat.le_refl _, fun _ _ => ⟨Eq.refl _, Eq.refl _⟩⟩
theorem ext.tr (h1 : ext A A1) (h2 : ext A1 A2) : ext A A2 := ⟨Nat.le_trans h1.1 h2.1, fun a ha => ⟨(h2.2 a (Nat.lt_of_lt_of_le ha h1.1)).1.trans (h1.2 a ha).1, (h2.2 a (Nat.lt_of_lt_of_le ha h1.1)).2.trans (h1.2 a ha).2⟩⟩
theorem ext.new {t n : Nat} : ext A (am_new A t n) := ⟨Nat.le_succ _, fun a ha => by
  have e : a ≠ am_sz A := Nat.ne_of_lt ha
  refine ⟨?_, ?_⟩
  · show va_up (am_T A) (am_sz A) t a = am_T A a
    unfold va_up; rw [if_neg e]
  · show va_up (am_L A) (am_sz A) n a = am_L A a
    unfold va_up; rw [if_neg e]⟩
end
