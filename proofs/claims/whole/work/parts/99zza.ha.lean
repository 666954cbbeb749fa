/-! The script stays what it is: by steps, by runs. -/
section
variable {G : am_Pg} {C : am_Cd} {A A' A1 A2 : am_A}
def sk (A A' : am_A) : Prop := 2 ≤ am_sz A → ∀ j, am_I A' 1 j = am_I A 1 j
theorem sk.tr (h1 : sk A A1) (he : ext A A1) (h2 : sk A1 A2) : sk A A2 := fun hz j => (h2 (Nat.le_trans hz he.1) j).trans (h1 hz j)
theorem sk.rfl (A : am_A) : sk A A := fun _ _ => Eq.refl _
theorem sk.new {t n : Nat} : sk A (am_new A t n) := fun hz j => by
  show va_up (am_I A) (am_sz A) (fun _ => 0) 1 j = am_I A 1 j
  unfold va_up; rw [if_neg (by omega)]
theorem sk.new2 {n k : Nat} : sk A (am_new2 A n k) := fun hz j => by
  show (if am_sz A ≤ 1 ∧ 1 < am_sz A + 1 + n then 0 else am_I A 1 j) = am_I A 1 j
  rw [if_neg (by omega)]
theorem sk.si {a i : Nat} {x : Int32} (ha : 2 ≤ a) : sk A (am_setI A a i x) := fun _ j => by
  show am_u2 (am_I A) a i x 1 j = am_I A 1 j
  unfold am_u2; rw [if_neg (by omega)]
theorem sk.cp {s sp t tp n : Nat} (ha : 2 ≤ t) : sk A (am_copy A s sp t tp n) := fun _ j => by
  show (if 1 = t then _ else am_I A 1 j) = am_I A 1 j
  rw [if_neg (by omega)]
theorem am_after_sk {call : Nat → List Value → am_A → Option (am_Res × am_A)} (hc : ∀ m as A r A', call m as A = some (r, A') → sk A A' ∧ ext A A') {j m len pc : Nat} {ls st : List Value} {o : am_O} (h : am_after G call j m len pc ls st A = some o) : sk A (oA o) := by
  unfold am_after at h
  split at h
  · split at h
    · next v A' e =>
      have h' := Option.some.inj h
      subst h'
      exact (hc _ _ _ _ _ e).1
    · next E A' e =>
      split at h
      · have h' := Option.some.inj h
        subst h'
        exact (hc _ _ _ _ _ e).1.tr (hc _ _ _ _ _ e).2 sk.new
      · split at h
        · cases h
        · have h' := Option.some.inj h
          subst h'
          exact (hc _ _ _ _ _ e).1
    · cases h
  · cases h
theorem am_aftN_sk {call : Nat → List Value → am_A → Option (am_Res × am_A)} (hc : ∀ m as A r A', call m as A = some (r, A') → sk A A' ∧ ext A A') {m len pc : Nat} {ls st : List Value} {o : am_O} (h : am_aftN G call m len pc ls st A = some o) : sk A (oA o) := by
  unfold am_aftN at h
  split at h
  · split at h
    · next v A' e =>
      have h' := Option.some.inj h
      subst h'
      exact (hc _ _ _ _ _ e).1
    · cases h
    · cases h
  · cases h
set_option maxHeartbeats 1000000 in
theorem am_step_sk {call : Nat → List Value → am_A → Option (am_Res × am_A)} (hc : ∀ m as A r A', call m as A = some (r, A') → sk A A' ∧ ext A A') {d j len pc : Nat} {i : Instr} {ls st : List Value} {o : am_O} (h : am_step G call d j i len pc ls st A = some o) : sk A (oA o) := by
  cases i
  case invokestatic m =>
    simp only [am_step] at h
    split at h
    · exact am_after_sk hc h
    · cases h
  case invokevirtual m =>
    simp only [am_step] at h
    split at h
    · cases h
    · exact am_after_sk hc h
  case invokespecial m =>
    simp only [am_step] at h
    split at h
    · cases h
    · exact am_aftN_sk hc h
  case instanceof m =>
    simp only [am_step] at h
    split at h
    · exact am_aftN_sk hc h
    · cases h
  all_goals
    unfold am_step at h
    dsimp only at h
    repeat' (split at h)
    all_goals (first
      | (cases h; done)
      | (have h' := Option.some.inj h; subst h'; exact fun _ _ => Eq.refl _)
      | (rename_i hv; have h' := Option.some.inj h; subst h'; exact sk.si hv.1)
      | (rename_i hv; have h' := Option.some.inj h; subst h'; exact sk.cp hv.2.2.2.1)
      | (have h' := Option.some.inj h; subst h'; exact sk.new)
      | (have h' := Option.some.inj h; subst h'; exact sk.new2))
theorem am_run_sk : ∀ (n d j pc : Nat) (ls st : List Value) (A : am_A) (r : am_Res) (A' : am_A), am_run G C n d j pc ls st A = some (r, A') → sk A A' ∧ ext A A' := by
  intro n
  induction n with
  | zero => intro d j pc ls st A r A' h; cases h
  | succ n ih =>
    intro d j pc ls st A r A' h
    refine ⟨?_, am_run_ext _ _ _ _ _ _ _ _ _ h⟩
    rw [am_run] at h
    cases hcd : C j pc with
    | none => rw [hcd] at h; cases h
    | some e =>
      obtain ⟨i, len, ks⟩ := e
      rw [hcd] at h
      dsimp only at h
      have hcall : ∀ m as A r A', (fun m as A' => match d with
        | 0 => none
        | d' + 1 => am_run G C n d' m 0 (as ++ List.replicate (am_ml G m - as.length) am_un) [] A') m as A = some (r, A') → sk A A' ∧ ext A A' := fun m as A r A' hx => by
        cases d with
        | zero => cases hx
        | succ d' => exact ih _ _ _ _ _ _ _ _ hx
      split at h
      · cases h
      · next pc' ls' st' A'' hs =>
        exact (am_step_sk hcall hs).tr (am_step_ext (fun m as A r A' hx => (hcall m as A r A' hx).2) hs) (ih _ _ _ _ _ _ _ _ h).1
      · next r' hs =>
        have h' := Option.some.inj h
        subst h'
        exact am_step_sk hcall hs
/-- a call leaves the script, keeps cells -/
theorem mC_sk {d j : Nat} {as : List Value} {Q : am_Res → am_A → Prop} (h : mC d j as A Q) : mC d j as A (fun r A1 => Q r A1 ∧ sk A A1 ∧ ext A A1) := by
  obtain ⟨n, r, A1, e, hS, hq⟩ := h
  exact ⟨n, r, A1, e, hS, hq, am_run_sk _ _ _ _ _ _ _ _ _ e⟩
end
