/-! Methods by chunks: from one pointer, call or loop to the next. -/
def mW (d j pc : Nat) (ls st : List Value) (A : am_A) (Q : am_Res → am_A → Prop) : Prop := am_W d j pc ls st A (fun r A' => Sh A' ∧ Q r A')
def mC (d j : Nat) (as : List Value) (A : am_A) (Q : am_Res → am_A → Prop) : Prop := am_C d j as A (fun r A' => Sh A' ∧ Q r A')
theorem mW.mono {d j pc : Nat} {ls st : List Value} {A : am_A} {Q Q' : am_Res → am_A → Prop} (h : mW d j pc ls st A Q) (hQ : ∀ r A1, Sh A1 → Q r A1 → Q' r A1) : mW d j pc ls st A Q' := am_W.mono h (fun r A1 h1 => ⟨h1.1, hQ r A1 h1.1 h1.2⟩)
theorem mC.mono {d j : Nat} {as : List Value} {A : am_A} {Q Q' : am_Res → am_A → Prop} (h : mC d j as A Q) (hQ : ∀ r A1, Sh A1 → Q r A1 → Q' r A1) : mC d j as A Q' := am_C.mono h (fun r A1 h1 => ⟨h1.1, hQ r A1 h1.1 h1.2⟩)
/-- ends: an int, a reference, nothing; nothing or a throw -/
def am_ci (K : Int32 → am_A → Prop) : am_Res → am_A → Prop := fun r A => match r with
  | .inl (some (.int x)) => K x A
  | _ => False
def am_cr (K : Nat → am_A → Prop) : am_Res → am_A → Prop := fun r A => match r with
  | .inl (some (.ref x)) => K x A
  | _ => False
def am_cv (K : am_A → Prop) : am_Res → am_A → Prop := fun r A => match r with
  | .inl none => K A
  | _ => False
def am_cx (K : am_A → Prop) (E : Nat → am_A → Prop) : am_Res → am_A → Prop := fun r A => match r with
  | .inl none => K A
  | .inr e => E e A
  | _ => False
section
variable {d j pc m : Nat} {ls st rest as : List Value} {A : am_A} {Q : am_Res → am_A → Prop}
theorem ip (pc : Nat) {i : Instr} {len : Nat} (hf : am_find pc (pg_code j) = some (i, len, [])) (h : am_wp1 d j i len pc ls st A (fun pc ls st A => mW d j pc ls st A Q) (fun r A' => Sh A' ∧ Q r A')) : mW d j pc ls st A Q := am_wp1_ok (j := j) (ks := []) hf (fun _ _ _ _ hk => hk) h
theorem ipk (pc : Nat) (LS : List Value) {i : Instr} {len : Nat} {ks : List Nat} (hf : am_find pc (pg_code j) = some (i, len, ks)) (hk : am_kill ks ls = LS) (h : am_wp1 d j i len pc LS st A (fun pc ls st A => mW d j pc ls st A Q) (fun r A' => Sh A' ∧ Q r A')) : mW d j pc ls st A Q := am_wp1_ok (j := j) hf (fun _ _ _ _ hk => hk) (by rw [hk]; exact h)
theorem gm (h : ∀ M : am_A, M = A → mW d j pc ls st M Q) : mW d j pc ls st A Q := h A rfl
theorem shE {M : am_A} (e : M = A) (h : Sh A) : Sh M := e ▸ h
theorem pkE {M : am_A} (e : M = A) {a : Nat} (h : isPk A a) : isPk M a := e ▸ h
theorem avE {M : am_A} (e : M = A) {t a : Nat} (h : am_V A t a) : am_V M t a := e ▸ h
theorem il (LS : List Value) (h : mW d j pc LS st A Q) : mW d j pc LS st A Q := h
theorem st_P {A' : am_A} {a k a' : Nat} (e : am_P A' a k = a') (h : mW d j pc ls (.ref a' :: st) A Q) : mW d j pc ls (.ref (am_P A' a k) :: st) A Q := by rw [e]; exact h
theorem cl_i {K : Int32 → am_A → Prop} (h : mC d m as A (am_ci K)) (hn : ∀ x A2, Sh A2 → K x A2 → mW (d + 1) j (pc + 3) ls (.int x :: rest) A2 Q) : am_C d m as A (am_bk j pc ls rest (fun pc ls st A => mW (d + 1) j pc ls st A Q) (fun r A' => Sh A' ∧ Q r A')) := am_C.mono h (fun r A2 h2 => by
  obtain ⟨hS, h3⟩ := h2
  unfold am_ci at h3
  split at h3
  · next x => exact hn x A2 hS h3
  · exact h3.elim)
theorem cl_r {K : Nat → am_A → Prop} (h : mC d m as A (am_cr K)) (hn : ∀ x A2, Sh A2 → K x A2 → mW (d + 1) j (pc + 3) ls (.ref x :: rest) A2 Q) : am_C d m as A (am_bk j pc ls rest (fun pc ls st A => mW (d + 1) j pc ls st A Q) (fun r A' => Sh A' ∧ Q r A')) := am_C.mono h (fun r A2 h2 => by
  obtain ⟨hS, h3⟩ := h2
  unfold am_cr at h3
  split at h3
  · next x => exact hn x A2 hS h3
  · exact h3.elim)
theorem cl_v {K : am_A → Prop} (h : mC d m as A (am_cv K)) (hn : ∀ A2, Sh A2 → K A2 → mW (d + 1) j (pc + 3) ls rest A2 Q) : am_C d m as A (am_bk j pc ls rest (fun pc ls st A => mW (d + 1) j pc ls st A Q) (fun r A' => Sh A' ∧ Q r A')) := am_C.mono h (fun r A2 h2 => by
  obtain ⟨hS, h3⟩ := h2
  unfold am_cv at h3
  split at h3
  · exact hn A2 hS h3
  · exact h3.elim)
theorem cl_x (hj : pg_rw j = []) {K : am_A → Prop} (h : mC d m as A (am_cx K (fun e A2 => Q (.inr e) A2))) (hn : ∀ A2, Sh A2 → K A2 → mW (d + 1) j (pc + 3) ls rest A2 Q) : am_C d m as A (am_bk j pc ls rest (fun pc ls st A => mW (d + 1) j pc ls st A Q) (fun r A' => Sh A' ∧ Q r A')) := am_C.mono h (fun r A2 h2 => by
  obtain ⟨hS, h3⟩ := h2
  unfold am_cx at h3
  split at h3
  · exact hn A2 hS h3
  · next e =>
    have hh : ∀ pc E, am_hd pg_G j pc E = none := fun pc E => by
      show pg_hd j pc E = none
      unfold pg_hd
      rw [hj]
    show am_bk j pc ls rest _ _ (.inr e) A2
    unfold am_bk
    dsimp only
    rw [hh]
    refine ⟨?_, hS, h3⟩
    unfold am_ht
    rw [hh]
    rfl
  · exact h3.elim)
theorem cn_i {K : Int32 → am_A → Prop} (h : mC d m as A (am_ci K)) (hn : ∀ x A2, Sh A2 → K x A2 → mW (d + 1) j (pc + 3) ls (.int x :: rest) A2 Q) : am_C d m as A (am_bN pc ls rest (fun pc ls st A => mW (d + 1) j pc ls st A Q)) := am_C.mono h (fun r A2 h2 => by
  obtain ⟨hS, h3⟩ := h2
  unfold am_ci at h3
  split at h3
  · next x => exact hn x A2 hS h3
  · exact h3.elim)
theorem cn_v {K : am_A → Prop} (h : mC d m as A (am_cv K)) (hn : ∀ A2, Sh A2 → K A2 → mW (d + 1) j (pc + 3) ls rest A2 Q) : am_C d m as A (am_bN pc ls rest (fun pc ls st A => mW (d + 1) j pc ls st A Q)) := am_C.mono h (fun r A2 h2 => by
  obtain ⟨hS, h3⟩ := h2
  unfold am_cv at h3
  split at h3
  · exact hn A2 hS h3
  · exact h3.elim)
end
theorem newV {A : am_A} {t n : Nat} (h : Sh A) : am_V (am_new A t n) t (am_sz A) := ⟨by have : 469 ≤ am_sz A := h.1; omega, by show am_sz A < am_sz A + 1; omega, by show va_up (am_T A) (am_sz A) t (am_sz A) = t; unfold va_up; rw [if_pos rfl]⟩
theorem cz_i {x : Int32} {P : Prop} (h : am_bz x = true ∧ P) : am_bz x = true ∧ P := h
theorem cpO {A : am_A} {a b n1 n2 x y : Nat} {c : Prop} (h1 : am_L A a = n1) (h2 : am_L A b = n2) (h : c ∧ x ≤ n1 ∧ y ≤ n2) : c ∧ x ≤ am_L A a ∧ y ≤ am_L A b := by rw [h1, h2]; exact h
theorem ixD {n : Nat} {k : Int32} (h : (!(decide (k < 0)) && Nat.blt k.toNatClampNeg n) = true) : ixk n k := by
  rw [Bool.and_eq_true, Bool.not_eq_true', decide_eq_false_iff_not] at h
  exact ⟨h.1, Nat.le_of_ble_eq_true h.2⟩
