/-! The abstract machine is the machine's. -/
set_option maxHeartbeats 4000000 in
theorem am_all (i : Instr) : am_Snd i := by
  cases i
  case iconst n => exact am_s_iconst n
  case aconst_null => exact am_s_null
  case iload k => exact am_s_iload k
  case aload k => exact am_s_aload k
  case istore k => exact am_s_istore k
  case astore k => exact am_s_astore k
  case iinc k n => exact am_s_iinc k n
  case iadd => exact am_s_iadd
  case isub => exact am_s_isub
  case imul => exact am_s_imul
  case idiv => exact am_s_idiv
  case irem => exact am_s_irem
  case iand => exact am_s_iand
  case ior => exact am_s_ior
  case ishl => exact am_s_ishl
  case ishr => exact am_s_ishr
  case iushr => exact am_s_iushr
  case i2l => exact am_s_i2l
  case lcmp => exact am_s_lcmp
  case dup => exact am_s_dup
  case dup2 => exact am_s_dup2
  case pop => exact am_s_pop
  case goto off => exact am_s_goto off
  case ifCond c off => exact am_s_ifCond c off
  case if_icmp c off => exact am_s_if_icmp c off
  case ifnull off => exact am_s_ifnull off
  case ifnonnull off => exact am_s_ifnonnull off
  case tableswitch d lo hi offs => exact am_s_tableswitch d lo hi offs
  case getfield q => exact am_s_getfield q
  case putfield q => exact am_s_putfield q
  case arraylength => exact am_s_arraylength
  case iaload => exact am_s_iaload
  case iastore => exact am_s_iastore
  case baload => exact am_s_baload
  case bastore => exact am_s_bastore
  case laload => exact am_s_laload
  case lastore => exact am_s_lastore
  case aaload => exact am_s_aaload
  case aastore => exact am_s_aastore
  case new q => exact am_s_new q
  case newarray t => exact am_s_newarray t
  case anewarray t => exact am_s_anewarray t
  case multianewarray x k => exact am_s_multi x k
  case invokedynamic x => exact am_s_copy x
  case invokeinterface x y => exact am_s_obj x y
  case checkcast x => exact am_s_max x
  case jsr E => exact am_s_throw E
  case invokestatic m => exact am_s_invokestatic m
  case instanceof m => exact am_s_nest m
  case invokespecial m => exact am_s_invokespecial m
  case invokevirtual m => exact am_s_invokevirtual m
  case ireturn => exact am_s_ireturn
  case areturn => exact am_s_areturn
  case return_ => exact am_s_return
  all_goals
    intro G cl D dT B0 Ts Xs Md p l e R s m args below meth c j hC hcl call d len pc ls st A o hdec hstep
    cases hstep
def am_oA (o : am_O) : am_A := match o with
  | .inl f => f.2.2.2
  | .inr q => q.2
def am_le (A A' : am_A) : Prop := am_sz A ≤ am_sz A' ∧ am_sl A ≤ am_sl A'
theorem am_le.rf {A : am_A} : am_le A A := ⟨Nat.le_refl _, Nat.le_refl _⟩
theorem am_le.setI {A : am_A} {a i : Nat} {x : Int32} : am_le A (am_setI A a i x) := ⟨Nat.le_refl _, Nat.le_refl _⟩
theorem am_le.setP {A : am_A} {a i x : Nat} : am_le A (am_setP A a i x) := ⟨Nat.le_refl _, Nat.le_refl _⟩
theorem am_le.setG {A : am_A} {a i : Nat} {x : Int64} : am_le A (am_setG A a i x) := ⟨Nat.le_refl _, Nat.le_refl _⟩
theorem am_le.cp {A : am_A} {a b c d n : Nat} : am_le A (am_copy A a b c d n) := ⟨Nat.le_refl _, Nat.le_refl _⟩
theorem am_le.nw {A : am_A} {t n : Nat} : am_le A (am_new A t n) := ⟨Nat.le_add_right _ _, Nat.le_add_right _ _⟩
theorem am_le.nw2 {A : am_A} {n k : Nat} : am_le A (am_new2 A n k) := ⟨Nat.le_trans (Nat.le_add_right _ 1) (Nat.le_add_right _ n), Nat.le_add_right _ _⟩
theorem am_le.tr {A B C : am_A} (h : am_le A B) (h2 : am_le B C) : am_le A C := ⟨Nat.le_trans h.1 h2.1, Nat.le_trans h.2 h2.2⟩
theorem am_some_inl {x : am_F} {o : am_O} {A : am_A} (h : some (Sum.inl x) = some o) (hx : am_le A x.2.2.2) : am_le A (am_oA o) := by cases h; exact hx
theorem am_some_inr {x : am_Res × am_A} {o : am_O} {A : am_A} (h : some (Sum.inr x) = some o) (hx : am_le A x.2) : am_le A (am_oA o) := by cases h; exact hx
section
variable {G : am_Pg} {call : Nat → List Value → am_A → Option (am_Res × am_A)} {d j len pc : Nat} {ls st : List Value} {A : am_A} {o : am_O}
theorem am_after_mono (hc : ∀ m as A r A1, call m as A = some (r, A1) → am_le A A1) {m : Nat} (h : am_after G call j m len pc ls st A = some o) : am_le A (am_oA o) := by
  unfold am_after at h
  split at h
  · cases hca : call m (st.take (am_ar G m)).reverse A with
    | none => rw [hca] at h; cases h
    | some ra =>
      obtain ⟨r, A1⟩ := ra
      have h1 := hc _ _ _ _ _ hca
      rw [hca] at h
      cases r with
      | inl v => exact am_some_inl h h1
      | inr E =>
        simp only [am_nx] at h
        split at h
        · exact am_some_inl h (h1.tr am_le.nw)
        · split at h
          · cases h
          · exact am_some_inr h h1
  · cases h
theorem am_aftN_mono (hc : ∀ m as A r A1, call m as A = some (r, A1) → am_le A A1) {m : Nat} (h : am_aftN G call m len pc ls st A = some o) : am_le A (am_oA o) := by
  unfold am_aftN at h
  split at h
  · cases hca : call m (st.take (am_ar G m)).reverse A with
    | none => rw [hca] at h; cases h
    | some ra =>
      obtain ⟨r, A1⟩ := ra
      have h1 := hc _ _ _ _ _ hca
      rw [hca] at h
      cases r with
      | inl v => exact am_some_inl h h1
      | inr E => cases h
  · cases h
set_option maxHeartbeats 4000000 in
theorem am_step_mono (hc : ∀ m as A r A1, call m as A = some (r, A1) → am_le A A1) {i : Instr} (h : am_step G call d j i len pc ls st A = some o) : am_le A (am_oA o) := by
  cases i
  case invokestatic m =>
    simp only [am_step] at h
    split at h
    · exact am_after_mono hc h
    · cases h
  case invokevirtual m =>
    simp only [am_step] at h
    split at h
    · cases h
    · exact am_after_mono hc h
  case invokespecial m =>
    simp only [am_step] at h
    split at h
    · cases h
    · exact am_aftN_mono hc h
  case instanceof m =>
    simp only [am_step] at h
    split at h
    · exact am_aftN_mono hc h
    · cases h
  all_goals
    simp only [am_step, am_nx] at h
    (try (repeat' split at h)) <;> first
      | (cases h; done)
      | exact am_some_inl h am_le.rf
      | exact am_some_inl h am_le.setI
      | exact am_some_inl h am_le.setP
      | exact am_some_inl h am_le.setG
      | exact am_some_inl h am_le.cp
      | exact am_some_inl h am_le.nw
      | exact am_some_inl h am_le.nw2
      | exact am_some_inr h am_le.rf
end
theorem am_run_mono {G : am_Pg} {C : am_Cd} : ∀ (n d j pc : Nat) (ls st : List Value) (A : am_A) (r : am_Res) (A1 : am_A), am_run G C n d j pc ls st A = some (r, A1) → am_le A A1 := by
  intro n
  induction n with
  | zero => intro d j pc ls st A r A1 h; cases h
  | succ n ih =>
    intro d j pc ls st A r A1 h
    unfold am_run at h
    split at h
    · cases h
    · split at h
      · cases h
      · next hstep =>
        have h1 := am_step_mono (fun m as A' r' A1' hc => by
          cases d with
          | zero => cases hc
          | succ d' => exact ih _ _ _ _ _ _ _ _ hc) hstep
        exact h1.tr (ih _ _ _ _ _ _ _ _ h)
      · next hstep =>
        have h1 := am_step_mono (fun m as A' r' A1' hc => by
          cases d with
          | zero => cases hc
          | succ d' => exact ih _ _ _ _ _ _ _ _ hc) hstep
        cases h
        exact h1
