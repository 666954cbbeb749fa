/-! Cells once made stay what they are: by steps, by runs. -/
section
variable {G : am_Pg} {C : am_Cd} {A A' A1 A2 : am_A}
theorem ext.new2 {n k : Nat} : ext A (am_new2 A n k) := ⟨by show am_sz A ≤ am_sz A + 1 + n; omega, fun a ha => by
  refine ⟨?_, ?_⟩
  · show (if a = am_sz A then 6 else if am_sz A < a ∧ a < am_sz A + 1 + n then 1 else am_T A a) = am_T A a
    rw [if_neg (by omega), if_neg (by omega)]
  · show (if a = am_sz A then n else if am_sz A < a ∧ a < am_sz A + 1 + n then k else am_L A a) = am_L A a
    rw [if_neg (by omega), if_neg (by omega)]⟩
def oA (o : am_O) : am_A := match o with
  | .inl F => F.2.2.2
  | .inr R => R.2
theorem am_after_ext {call : Nat → List Value → am_A → Option (am_Res × am_A)} (hc : ∀ m as A r A', call m as A = some (r, A') → ext A A') {j m len pc : Nat} {ls st : List Value} {o : am_O} (h : am_after G call j m len pc ls st A = some o) : ext A (oA o) := by
  unfold am_after at h
  split at h
  · split at h
    · next v A' e =>
      have h' := Option.some.inj h
      subst h'
      exact hc _ _ _ _ _ e
    · next E A' e =>
      split at h
      · have h' := Option.some.inj h
        subst h'
        exact (hc _ _ _ _ _ e).tr ext.new
      · split at h
        · cases h
        · have h' := Option.some.inj h
          subst h'
          exact hc _ _ _ _ _ e
    · cases h
  · cases h
theorem am_aftN_ext {call : Nat → List Value → am_A → Option (am_Res × am_A)} (hc : ∀ m as A r A', call m as A = some (r, A') → ext A A') {m len pc : Nat} {ls st : List Value} {o : am_O} (h : am_aftN G call m len pc ls st A = some o) : ext A (oA o) := by
  unfold am_aftN at h
  split at h
  · split at h
    · next v A' e =>
      have h' := Option.some.inj h
      subst h'
      exact hc _ _ _ _ _ e
    · cases h
    · cases h
  · cases h
set_option maxHeartbeats 1000000 in
theorem am_step_ext {call : Nat → List Value → am_A → Option (am_Res × am_A)} (hc : ∀ m as A r A', call m as A = some (r, A') → ext A A') {d j len pc : Nat} {i : Instr} {ls st : List Value} {o : am_O} (h : am_step G call d j i len pc ls st A = some o) : ext A (oA o) := by
  cases i
  case invokestatic m =>
    simp only [am_step] at h
    split at h
    · exact am_after_ext hc h
    · cases h
  case invokevirtual m =>
    simp only [am_step] at h
    split at h
    · cases h
    · exact am_after_ext hc h
  case invokespecial m =>
    simp only [am_step] at h
    split at h
    · cases h
    · exact am_aftN_ext hc h
  case instanceof m =>
    simp only [am_step] at h
    split at h
    · exact am_aftN_ext hc h
    · cases h
  all_goals
    unfold am_step at h
    dsimp only at h
    repeat' (split at h)
    all_goals (first
      | (cases h; done)
      | (have h' := Option.some.inj h; subst h'; exact ⟨Nat.le_refl _, fun _ _ => ⟨Eq.refl _, Eq.refl _⟩⟩)
      | (have h' := Option.some.inj h; subst h'; exact ext.new)
      | (have h' := Option.some.inj h; subst h'; exact ext.new2))
theorem am_run_ext : ∀ (n d j pc : Nat) (ls st : List Value) (A : am_A) (r : am_Res) (A' : am_A), am_run G C n d j pc ls st A = some (r, A') → ext A A' := by
  intro n
  induction n with
  | zero => intro d j pc ls st A r A' h; cases h
  | succ n ih =>
    intro d j pc ls st A r A' h
    rw [am_run] at h
    cases hcd : C j pc with
    | none => rw [hcd] at h; cases h
    | some e =>
      obtain ⟨i, len, ks⟩ := e
      rw [hcd] at h
      dsimp only at h
      have hcall : ∀ m as A r A', (fun m as A' => match d with
        | 0 => none
        | d' + 1 => am_run G C n d' m 0 (as ++ List.replicate (am_ml G m - as.length) am_un) [] A') m as A = some (r, A') → ext A A' := fun m as A r A' hx => by
        cases d with
        | zero => cases hx
        | succ d' => exact ih _ _ _ _ _ _ _ _ hx
      split at h
      · cases h
      · next pc' ls' st' A'' hs =>
        exact (am_step_ext hcall hs).tr (ih _ _ _ _ _ _ _ _ h)
      · next r' hs =>
        have h' := Option.some.inj h
        subst h'
        exact am_step_ext hcall hs
theorem mC.ext {d j : Nat} {as : List Value} {Q : am_Res → am_A → Prop} (h : mC d j as A Q) : mC d j as A (fun r A1 => Q r A1 ∧ ext A A1) := by
  obtain ⟨n, r, A1, e, hS, hq⟩ := h
  exact ⟨n, r, A1, e, hS, hq, am_run_ext _ _ _ _ _ _ _ _ _ e⟩
end
