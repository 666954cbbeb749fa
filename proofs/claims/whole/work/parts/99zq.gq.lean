/-! The law's helpers: a call of the class, what it throws caught. -/
/-- behind a call that answers nothing; behind one that answers a number -/
def hx (c : Nat → Option Int32) (Q : am_Res → am_A → Prop) : am_Res → am_A → Prop := fun r A => match r with
  | .inl none => Q (.inl (some (.int 0))) A
  | .inr e => (match c e with
    | some v => Q (.inl (some (.int v))) (am_new A 0 6)
    | none => False)
  | _ => False
def hi (a : Nat) (c : Nat → Option Int32) (Q : am_Res → am_A → Prop) : am_Res → am_A → Prop := fun r A => match r with
  | .inl (some (.int y)) => (am_V A 3 a ∧ am_L A a = 1) ∧ Q (.inl (some (.int 0))) (am_setG A a 0 y.toInt64)
  | .inr e => (match c e with
    | some v => Q (.inl (some (.int v))) (am_new A 0 6)
    | none => False)
  | _ => False
theorem ix0 {A : am_A} {a : Nat} (h : am_L A a = 1) : am_ix A a (Int32.ofInt 0) := ⟨by decide, by rw [h]; decide⟩

set_option maxRecDepth 20000 in
theorem x_1_0 {d : Nat} {A : am_A} {Q : am_Res → am_A → Prop} {x1 x2 : Int32} (hS : Sh A) (h : mC d 16 [.ref 2, .int x1, .int x2] A (hx (fun e => if e = 0 then some 1 else none) Q)) : mC (d + 1) 1 [.ref 2, .int x1, .int x2] A Q :=
  show mW (d + 1) 1 0 [.ref 2, .int x1, .int x2, am_un] [] A Q from ip 0 rfl (ip 1 rfl (ip 2 rfl (ip 3 rfl (And.intro (hS.vl 2 20 2 rfl rfl) (am_C.mono h (fun r A2 h2 => by
    obtain ⟨hS2, h2⟩ := h2
    rcases r with (_ | v) | e
    · exact (show mW (d + 1) 1 6 [.ref 2, .int x1, .int x2, am_un] [] A2 Q from ip 6 rfl (ip 12 rfl (ip 13 rfl (And.intro hS2 h2))))
    · exact h2.elim
    · have h2 : (match (if e = 0 then some 1 else none) with | some v => Q (.inl (some (.int v))) (am_new A2 0 6) | none => False) := h2
      by_cases e0 : e = 0
      · rw [if_pos e0] at h2
        subst e0
        exact (show mW (d + 1) 1 9 [.ref 2, .int x1, .int x2, am_un] [.ref (am_sz A2)] (am_new A2 0 6) Q from ipk 9 [am_un, am_un, am_un, am_un] rfl rfl (il [am_un, am_un, am_un, .ref (am_sz A2)] (ip 10 rfl (ip 11 rfl (And.intro hS2.new h2)))))
      rw [if_neg e0] at h2
      exact h2.elim))))))
set_option maxRecDepth 20000 in
theorem x_2_0 {d : Nat} {A : am_A} {Q : am_Res → am_A → Prop} {x1 : Int32} (hS : Sh A) (h : mC d 17 [.ref 2, .int x1] A (hx (fun e => if e = 0 then some 1 else if e = 1 then some 2 else none) Q)) : mC (d + 1) 2 [.ref 2, .int x1] A Q :=
  show mW (d + 1) 2 0 [.ref 2, .int x1, am_un] [] A Q from ip 0 rfl (ip 1 rfl (ip 2 rfl (And.intro (hS.vl 2 20 2 rfl rfl) (am_C.mono h (fun r A2 h2 => by
    obtain ⟨hS2, h2⟩ := h2
    rcases r with (_ | v) | e
    · exact (show mW (d + 1) 2 5 [.ref 2, .int x1, am_un] [] A2 Q from ip 5 rfl (ip 14 rfl (ip 15 rfl (And.intro hS2 h2))))
    · exact h2.elim
    · have h2 : (match (if e = 0 then some 1 else if e = 1 then some 2 else none) with | some v => Q (.inl (some (.int v))) (am_new A2 0 6) | none => False) := h2
      by_cases e0 : e = 0
      · rw [if_pos e0] at h2
        subst e0
        exact (show mW (d + 1) 2 8 [.ref 2, .int x1, am_un] [.ref (am_sz A2)] (am_new A2 0 6) Q from ipk 8 [am_un, am_un, am_un] rfl rfl (il [am_un, am_un, .ref (am_sz A2)] (ip 9 rfl (ip 10 rfl (And.intro hS2.new h2)))))
      by_cases e1 : e = 1
      · rw [if_neg e0, if_pos e1] at h2
        subst e1
        exact (show mW (d + 1) 2 11 [.ref 2, .int x1, am_un] [.ref (am_sz A2)] (am_new A2 0 6) Q from ipk 11 [am_un, am_un, am_un] rfl rfl (il [am_un, am_un, .ref (am_sz A2)] (ip 12 rfl (ip 13 rfl (And.intro hS2.new h2)))))
      rw [if_neg e0, if_neg e1] at h2
      exact h2.elim)))))
set_option maxRecDepth 20000 in
theorem x_3_0 {d : Nat} {A : am_A} {Q : am_Res → am_A → Prop} {x1 : Int32} (hS : Sh A) (h : mC d 18 [.ref 2, .int x1] A (hx (fun e => if e = 0 then some 1 else if e = 1 then some 2 else none) Q)) : mC (d + 1) 3 [.ref 2, .int x1] A Q :=
  show mW (d + 1) 3 0 [.ref 2, .int x1, am_un] [] A Q from ip 0 rfl (ip 1 rfl (ip 2 rfl (And.intro (hS.vl 2 20 2 rfl rfl) (am_C.mono h (fun r A2 h2 => by
    obtain ⟨hS2, h2⟩ := h2
    rcases r with (_ | v) | e
    · exact (show mW (d + 1) 3 5 [.ref 2, .int x1, am_un] [] A2 Q from ip 5 rfl (ip 14 rfl (ip 15 rfl (And.intro hS2 h2))))
    · exact h2.elim
    · have h2 : (match (if e = 0 then some 1 else if e = 1 then some 2 else none) with | some v => Q (.inl (some (.int v))) (am_new A2 0 6) | none => False) := h2
      by_cases e0 : e = 0
      · rw [if_pos e0] at h2
        subst e0
        exact (show mW (d + 1) 3 8 [.ref 2, .int x1, am_un] [.ref (am_sz A2)] (am_new A2 0 6) Q from ipk 8 [am_un, am_un, am_un] rfl rfl (il [am_un, am_un, .ref (am_sz A2)] (ip 9 rfl (ip 10 rfl (And.intro hS2.new h2)))))
      by_cases e1 : e = 1
      · rw [if_neg e0, if_pos e1] at h2
        subst e1
        exact (show mW (d + 1) 3 11 [.ref 2, .int x1, am_un] [.ref (am_sz A2)] (am_new A2 0 6) Q from ipk 11 [am_un, am_un, am_un] rfl rfl (il [am_un, am_un, .ref (am_sz A2)] (ip 12 rfl (ip 13 rfl (And.intro hS2.new h2)))))
      rw [if_neg e0, if_neg e1] at h2
      exact h2.elim)))))
set_option maxRecDepth 20000 in
theorem x_4_0 {d : Nat} {A : am_A} {Q : am_Res → am_A → Prop} {x1 : Int32} (hS : Sh A) (h : mC d 19 [.ref 2, .int x1] A (hx (fun e => if e = 0 then some 1 else if e = 1 then some 2 else none) Q)) : mC (d + 1) 4 [.ref 2, .int x1] A Q :=
  show mW (d + 1) 4 0 [.ref 2, .int x1, am_un] [] A Q from ip 0 rfl (ip 1 rfl (ip 2 rfl (And.intro (hS.vl 2 20 2 rfl rfl) (am_C.mono h (fun r A2 h2 => by
    obtain ⟨hS2, h2⟩ := h2
    rcases r with (_ | v) | e
    · exact (show mW (d + 1) 4 5 [.ref 2, .int x1, am_un] [] A2 Q from ip 5 rfl (ip 14 rfl (ip 15 rfl (And.intro hS2 h2))))
    · exact h2.elim
    · have h2 : (match (if e = 0 then some 1 else if e = 1 then some 2 else none) with | some v => Q (.inl (some (.int v))) (am_new A2 0 6) | none => False) := h2
      by_cases e0 : e = 0
      · rw [if_pos e0] at h2
        subst e0
        exact (show mW (d + 1) 4 8 [.ref 2, .int x1, am_un] [.ref (am_sz A2)] (am_new A2 0 6) Q from ipk 8 [am_un, am_un, am_un] rfl rfl (il [am_un, am_un, .ref (am_sz A2)] (ip 9 rfl (ip 10 rfl (And.intro hS2.new h2)))))
      by_cases e1 : e = 1
      · rw [if_neg e0, if_pos e1] at h2
        subst e1
        exact (show mW (d + 1) 4 11 [.ref 2, .int x1, am_un] [.ref (am_sz A2)] (am_new A2 0 6) Q from ipk 11 [am_un, am_un, am_un] rfl rfl (il [am_un, am_un, .ref (am_sz A2)] (ip 12 rfl (ip 13 rfl (And.intro hS2.new h2)))))
      rw [if_neg e0, if_neg e1] at h2
      exact h2.elim)))))
set_option maxRecDepth 20000 in
theorem x_5_0 {d : Nat} {A : am_A} {Q : am_Res → am_A → Prop} {a : Nat} {x1 x2 x3 : Int32} (hS : Sh A) (h : mC d 20 [.ref 2, .int x1, .int x2, .int x3] A (hi a (fun e => if e = 0 then some 1 else if e = 1 then some 2 else none) Q)) : mC (d + 1) 5 [.ref 2, .int x1, .int x2, .int x3, .ref a] A Q :=
  show mW (d + 1) 5 0 [.ref 2, .int x1, .int x2, .int x3, .ref a, am_un] [] A Q from ip 0 rfl (ip 2 rfl (ip 3 rfl (ip 4 rfl (ip 5 rfl (ip 6 rfl (ip 7 rfl (And.intro (hS.vl 2 20 2 rfl rfl) (am_C.mono h (fun r A2 h2 => by
    obtain ⟨hS2, h2⟩ := h2
    rcases r with (_ | v) | e
    · exact h2.elim
    · cases v with
      | int y => exact (show mW (d + 1) 5 10 [.ref 2, .int x1, .int x2, .int x3, .ref a, am_un] [.int y, .int (Int32.ofInt 0), .ref a] A2 Q from ip 10 rfl (ip 11 rfl (And.intro (And.intro h2.1.1 (ix0 h2.1.2)) (ip 12 rfl (ip 23 rfl (ip 24 rfl (And.intro hS2 h2.2)))))))
      | _ => exact h2.elim
    · have h2 : (match (if e = 0 then some 1 else if e = 1 then some 2 else none) with | some v => Q (.inl (some (.int v))) (am_new A2 0 6) | none => False) := h2
      by_cases e0 : e = 0
      · rw [if_pos e0] at h2
        subst e0
        exact (show mW (d + 1) 5 15 [.ref 2, .int x1, .int x2, .int x3, .ref a, am_un] [.ref (am_sz A2)] (am_new A2 0 6) Q from ipk 15 [am_un, am_un, am_un, am_un, am_un, am_un] rfl rfl (il [am_un, am_un, am_un, am_un, am_un, .ref (am_sz A2)] (ip 17 rfl (ip 18 rfl (And.intro hS2.new h2)))))
      by_cases e1 : e = 1
      · rw [if_neg e0, if_pos e1] at h2
        subst e1
        exact (show mW (d + 1) 5 19 [.ref 2, .int x1, .int x2, .int x3, .ref a, am_un] [.ref (am_sz A2)] (am_new A2 0 6) Q from ipk 19 [am_un, am_un, am_un, am_un, am_un, am_un] rfl rfl (il [am_un, am_un, am_un, am_un, am_un, .ref (am_sz A2)] (ip 21 rfl (ip 22 rfl (And.intro hS2.new h2)))))
      rw [if_neg e0, if_neg e1] at h2
      exact h2.elim)))))))))
set_option maxRecDepth 20000 in
theorem x_6_0 {d : Nat} {A : am_A} {Q : am_Res → am_A → Prop} {x1 : Int32} (hS : Sh A) (h : mC d 21 [.ref 2, .int x1] A (hx (fun e => if e = 0 then some 1 else none) Q)) : mC (d + 1) 6 [.ref 2, .int x1] A Q :=
  show mW (d + 1) 6 0 [.ref 2, .int x1, am_un] [] A Q from ip 0 rfl (ip 1 rfl (ip 2 rfl (And.intro (hS.vl 2 20 2 rfl rfl) (am_C.mono h (fun r A2 h2 => by
    obtain ⟨hS2, h2⟩ := h2
    rcases r with (_ | v) | e
    · exact (show mW (d + 1) 6 5 [.ref 2, .int x1, am_un] [] A2 Q from ip 5 rfl (ip 11 rfl (ip 12 rfl (And.intro hS2 h2))))
    · exact h2.elim
    · have h2 : (match (if e = 0 then some 1 else none) with | some v => Q (.inl (some (.int v))) (am_new A2 0 6) | none => False) := h2
      by_cases e0 : e = 0
      · rw [if_pos e0] at h2
        subst e0
        exact (show mW (d + 1) 6 8 [.ref 2, .int x1, am_un] [.ref (am_sz A2)] (am_new A2 0 6) Q from ipk 8 [am_un, am_un, am_un] rfl rfl (il [am_un, am_un, .ref (am_sz A2)] (ip 9 rfl (ip 10 rfl (And.intro hS2.new h2)))))
      rw [if_neg e0] at h2
      exact h2.elim)))))
set_option maxRecDepth 20000 in
theorem x_7_0 {d : Nat} {A : am_A} {Q : am_Res → am_A → Prop} {x1 : Int32} (hS : Sh A) (h : mC d 23 [.ref 2, .int x1] A (hx (fun e => if e = 2 then some 1 else none) Q)) : mC (d + 1) 7 [.ref 2, .int x1] A Q :=
  show mW (d + 1) 7 0 [.ref 2, .int x1, am_un] [] A Q from ip 0 rfl (ip 1 rfl (ip 2 rfl (And.intro (hS.vl 2 20 2 rfl rfl) (am_C.mono h (fun r A2 h2 => by
    obtain ⟨hS2, h2⟩ := h2
    rcases r with (_ | v) | e
    · exact (show mW (d + 1) 7 5 [.ref 2, .int x1, am_un] [] A2 Q from ip 5 rfl (ip 11 rfl (ip 12 rfl (And.intro hS2 h2))))
    · exact h2.elim
    · have h2 : (match (if e = 2 then some 1 else none) with | some v => Q (.inl (some (.int v))) (am_new A2 0 6) | none => False) := h2
      by_cases e0 : e = 2
      · rw [if_pos e0] at h2
        subst e0
        exact (show mW (d + 1) 7 8 [.ref 2, .int x1, am_un] [.ref (am_sz A2)] (am_new A2 0 6) Q from ipk 8 [am_un, am_un, am_un] rfl rfl (il [am_un, am_un, .ref (am_sz A2)] (ip 9 rfl (ip 10 rfl (And.intro hS2.new h2)))))
      rw [if_neg e0] at h2
      exact h2.elim)))))
set_option maxRecDepth 20000 in
theorem x_8_0 {d : Nat} {A : am_A} {Q : am_Res → am_A → Prop} {x1 : Int32} (hS : Sh A) (h : mC d 24 [.ref 2, .int x1] A (hx (fun e => if e = 2 then some 1 else none) Q)) : mC (d + 1) 8 [.ref 2, .int x1] A Q :=
  show mW (d + 1) 8 0 [.ref 2, .int x1, am_un] [] A Q from ip 0 rfl (ip 1 rfl (ip 2 rfl (And.intro (hS.vl 2 20 2 rfl rfl) (am_C.mono h (fun r A2 h2 => by
    obtain ⟨hS2, h2⟩ := h2
    rcases r with (_ | v) | e
    · exact (show mW (d + 1) 8 5 [.ref 2, .int x1, am_un] [] A2 Q from ip 5 rfl (ip 11 rfl (ip 12 rfl (And.intro hS2 h2))))
    · exact h2.elim
    · have h2 : (match (if e = 2 then some 1 else none) with | some v => Q (.inl (some (.int v))) (am_new A2 0 6) | none => False) := h2
      by_cases e0 : e = 2
      · rw [if_pos e0] at h2
        subst e0
        exact (show mW (d + 1) 8 8 [.ref 2, .int x1, am_un] [.ref (am_sz A2)] (am_new A2 0 6) Q from ipk 8 [am_un, am_un, am_un] rfl rfl (il [am_un, am_un, .ref (am_sz A2)] (ip 9 rfl (ip 10 rfl (And.intro hS2.new h2)))))
      rw [if_neg e0] at h2
      exact h2.elim)))))
set_option maxRecDepth 20000 in
theorem x_9_0 {d : Nat} {A : am_A} {Q : am_Res → am_A → Prop} {a : Nat} {x1 x2 x3 : Int32} (hS : Sh A) (h : mC d 25 [.ref 2, .int x1, .int x2, .int x3] A (hi a (fun e => if e = 0 then some 1 else none) Q)) : mC (d + 1) 9 [.ref 2, .int x1, .int x2, .int x3, .ref a] A Q :=
  show mW (d + 1) 9 0 [.ref 2, .int x1, .int x2, .int x3, .ref a, am_un] [] A Q from ip 0 rfl (ip 2 rfl (ip 3 rfl (ip 4 rfl (ip 5 rfl (ip 6 rfl (ip 7 rfl (And.intro (hS.vl 2 20 2 rfl rfl) (am_C.mono h (fun r A2 h2 => by
    obtain ⟨hS2, h2⟩ := h2
    rcases r with (_ | v) | e
    · exact h2.elim
    · cases v with
      | int y => exact (show mW (d + 1) 9 10 [.ref 2, .int x1, .int x2, .int x3, .ref a, am_un] [.int y, .int (Int32.ofInt 0), .ref a] A2 Q from ip 10 rfl (ip 11 rfl (And.intro (And.intro h2.1.1 (ix0 h2.1.2)) (ip 12 rfl (ip 19 rfl (ip 20 rfl (And.intro hS2 h2.2)))))))
      | _ => exact h2.elim
    · have h2 : (match (if e = 0 then some 1 else none) with | some v => Q (.inl (some (.int v))) (am_new A2 0 6) | none => False) := h2
      by_cases e0 : e = 0
      · rw [if_pos e0] at h2
        subst e0
        exact (show mW (d + 1) 9 15 [.ref 2, .int x1, .int x2, .int x3, .ref a, am_un] [.ref (am_sz A2)] (am_new A2 0 6) Q from ipk 15 [am_un, am_un, am_un, am_un, am_un, am_un] rfl rfl (il [am_un, am_un, am_un, am_un, am_un, .ref (am_sz A2)] (ip 17 rfl (ip 18 rfl (And.intro hS2.new h2)))))
      rw [if_neg e0] at h2
      exact h2.elim)))))))))
set_option maxRecDepth 20000 in
theorem x_10_0 {d : Nat} {A : am_A} {Q : am_Res → am_A → Prop} {a : Nat} {x1 : Int32} (hS : Sh A) (h : mC d 26 [.ref 2, .int x1] A (hi a (fun e => if e = 0 then some 1 else none) Q)) : mC (d + 1) 10 [.ref 2, .int x1, .ref a] A Q :=
  show mW (d + 1) 10 0 [.ref 2, .int x1, .ref a, am_un] [] A Q from ip 0 rfl (ip 1 rfl (ip 2 rfl (ip 3 rfl (ip 4 rfl (And.intro (hS.vl 2 20 2 rfl rfl) (am_C.mono h (fun r A2 h2 => by
    obtain ⟨hS2, h2⟩ := h2
    rcases r with (_ | v) | e
    · exact h2.elim
    · cases v with
      | int y => exact (show mW (d + 1) 10 7 [.ref 2, .int x1, .ref a, am_un] [.int y, .int (Int32.ofInt 0), .ref a] A2 Q from ip 7 rfl (ip 8 rfl (And.intro (And.intro h2.1.1 (ix0 h2.1.2)) (ip 9 rfl (ip 15 rfl (ip 16 rfl (And.intro hS2 h2.2)))))))
      | _ => exact h2.elim
    · have h2 : (match (if e = 0 then some 1 else none) with | some v => Q (.inl (some (.int v))) (am_new A2 0 6) | none => False) := h2
      by_cases e0 : e = 0
      · rw [if_pos e0] at h2
        subst e0
        exact (show mW (d + 1) 10 12 [.ref 2, .int x1, .ref a, am_un] [.ref (am_sz A2)] (am_new A2 0 6) Q from ipk 12 [am_un, am_un, am_un, am_un] rfl rfl (il [am_un, am_un, am_un, .ref (am_sz A2)] (ip 13 rfl (ip 14 rfl (And.intro hS2.new h2)))))
      rw [if_neg e0] at h2
      exact h2.elim)))))))
set_option maxRecDepth 20000 in
theorem x_11_0 {d : Nat} {A : am_A} {Q : am_Res → am_A → Prop} {a : Nat} {x1 x2 : Int32} (hS : Sh A) (h : mC d 27 [.ref 2, .int x1, .int x2] A (hi a (fun e => if e = 2 then some 1 else if e = 0 then some 2 else none) Q)) : mC (d + 1) 11 [.ref 2, .int x1, .int x2, .ref a] A Q :=
  show mW (d + 1) 11 0 [.ref 2, .int x1, .int x2, .ref a, am_un] [] A Q from ip 0 rfl (ip 1 rfl (ip 2 rfl (ip 3 rfl (ip 4 rfl (ip 5 rfl (And.intro (hS.vl 2 20 2 rfl rfl) (am_C.mono h (fun r A2 h2 => by
    obtain ⟨hS2, h2⟩ := h2
    rcases r with (_ | v) | e
    · exact h2.elim
    · cases v with
      | int y => exact (show mW (d + 1) 11 8 [.ref 2, .int x1, .int x2, .ref a, am_un] [.int y, .int (Int32.ofInt 0), .ref a] A2 Q from ip 8 rfl (ip 9 rfl (And.intro (And.intro h2.1.1 (ix0 h2.1.2)) (ip 10 rfl (ip 21 rfl (ip 22 rfl (And.intro hS2 h2.2)))))))
      | _ => exact h2.elim
    · have h2 : (match (if e = 2 then some 1 else if e = 0 then some 2 else none) with | some v => Q (.inl (some (.int v))) (am_new A2 0 6) | none => False) := h2
      by_cases e0 : e = 2
      · rw [if_pos e0] at h2
        subst e0
        exact (show mW (d + 1) 11 13 [.ref 2, .int x1, .int x2, .ref a, am_un] [.ref (am_sz A2)] (am_new A2 0 6) Q from ipk 13 [am_un, am_un, am_un, am_un, am_un] rfl rfl (il [am_un, am_un, am_un, am_un, .ref (am_sz A2)] (ip 15 rfl (ip 16 rfl (And.intro hS2.new h2)))))
      by_cases e1 : e = 0
      · rw [if_neg e0, if_pos e1] at h2
        subst e1
        exact (show mW (d + 1) 11 17 [.ref 2, .int x1, .int x2, .ref a, am_un] [.ref (am_sz A2)] (am_new A2 0 6) Q from ipk 17 [am_un, am_un, am_un, am_un, am_un] rfl rfl (il [am_un, am_un, am_un, am_un, .ref (am_sz A2)] (ip 19 rfl (ip 20 rfl (And.intro hS2.new h2)))))
      rw [if_neg e0, if_neg e1] at h2
      exact h2.elim))))))))
set_option maxRecDepth 20000 in
theorem x_12_0 {d : Nat} {A : am_A} {Q : am_Res → am_A → Prop} {a : Nat} {x1 x2 : Int32} (hS : Sh A) (h : mC d 28 [.ref 2, .int x1, .int x2] A (hi a (fun e => if e = 0 then some 1 else none) Q)) : mC (d + 1) 12 [.ref 2, .int x1, .int x2, .ref a] A Q :=
  show mW (d + 1) 12 0 [.ref 2, .int x1, .int x2, .ref a, am_un] [] A Q from ip 0 rfl (ip 1 rfl (ip 2 rfl (ip 3 rfl (ip 4 rfl (ip 5 rfl (And.intro (hS.vl 2 20 2 rfl rfl) (am_C.mono h (fun r A2 h2 => by
    obtain ⟨hS2, h2⟩ := h2
    rcases r with (_ | v) | e
    · exact h2.elim
    · cases v with
      | int y => exact (show mW (d + 1) 12 8 [.ref 2, .int x1, .int x2, .ref a, am_un] [.int y, .int (Int32.ofInt 0), .ref a] A2 Q from ip 8 rfl (ip 9 rfl (And.intro (And.intro h2.1.1 (ix0 h2.1.2)) (ip 10 rfl (ip 17 rfl (ip 18 rfl (And.intro hS2 h2.2)))))))
      | _ => exact h2.elim
    · have h2 : (match (if e = 0 then some 1 else none) with | some v => Q (.inl (some (.int v))) (am_new A2 0 6) | none => False) := h2
      by_cases e0 : e = 0
      · rw [if_pos e0] at h2
        subst e0
        exact (show mW (d + 1) 12 13 [.ref 2, .int x1, .int x2, .ref a, am_un] [.ref (am_sz A2)] (am_new A2 0 6) Q from ipk 13 [am_un, am_un, am_un, am_un, am_un] rfl rfl (il [am_un, am_un, am_un, am_un, .ref (am_sz A2)] (ip 15 rfl (ip 16 rfl (And.intro hS2.new h2)))))
      rw [if_neg e0] at h2
      exact h2.elim))))))))
set_option maxRecDepth 20000 in
theorem x_13_0 {d : Nat} {A : am_A} {Q : am_Res → am_A → Prop} {a : Nat} {x1 x2 x3 x4 : Int32} (hS : Sh A) (h : mC d 29 [.ref 2, .int x1, .int x2, .int x3, .int x4] A (hi a (fun e => if e = 0 then some 1 else none) Q)) : mC (d + 1) 13 [.ref 2, .int x1, .int x2, .int x3, .int x4, .ref a] A Q :=
  show mW (d + 1) 13 0 [.ref 2, .int x1, .int x2, .int x3, .int x4, .ref a, am_un] [] A Q from ip 0 rfl (ip 2 rfl (ip 3 rfl (ip 4 rfl (ip 5 rfl (ip 6 rfl (ip 7 rfl (ip 9 rfl (And.intro (hS.vl 2 20 2 rfl rfl) (am_C.mono h (fun r A2 h2 => by
    obtain ⟨hS2, h2⟩ := h2
    rcases r with (_ | v) | e
    · exact h2.elim
    · cases v with
      | int y => exact (show mW (d + 1) 13 12 [.ref 2, .int x1, .int x2, .int x3, .int x4, .ref a, am_un] [.int y, .int (Int32.ofInt 0), .ref a] A2 Q from ip 12 rfl (ip 13 rfl (And.intro (And.intro h2.1.1 (ix0 h2.1.2)) (ip 14 rfl (ip 21 rfl (ip 22 rfl (And.intro hS2 h2.2)))))))
      | _ => exact h2.elim
    · have h2 : (match (if e = 0 then some 1 else none) with | some v => Q (.inl (some (.int v))) (am_new A2 0 6) | none => False) := h2
      by_cases e0 : e = 0
      · rw [if_pos e0] at h2
        subst e0
        exact (show mW (d + 1) 13 17 [.ref 2, .int x1, .int x2, .int x3, .int x4, .ref a, am_un] [.ref (am_sz A2)] (am_new A2 0 6) Q from ipk 17 [am_un, am_un, am_un, am_un, am_un, am_un, am_un] rfl rfl (il [am_un, am_un, am_un, am_un, am_un, am_un, .ref (am_sz A2)] (ip 19 rfl (ip 20 rfl (And.intro hS2.new h2)))))
      rw [if_neg e0] at h2
      exact h2.elim))))))))))
set_option maxRecDepth 20000 in
theorem x_14_0 {d : Nat} {A : am_A} {Q : am_Res → am_A → Prop} {a : Nat} {x1 x2 x3 : Int32} (hS : Sh A) (h : mC d 30 [.ref 2, .int x1, .int x2, .int x3] A (hi a (fun e => if e = 0 then some 1 else if e = 2 then some 2 else none) Q)) : mC (d + 1) 14 [.ref 2, .int x1, .int x2, .int x3, .ref a] A Q :=
  show mW (d + 1) 14 0 [.ref 2, .int x1, .int x2, .int x3, .ref a, am_un] [] A Q from ip 0 rfl (ip 2 rfl (ip 3 rfl (ip 4 rfl (ip 5 rfl (ip 6 rfl (ip 7 rfl (And.intro (hS.vl 2 20 2 rfl rfl) (am_C.mono h (fun r A2 h2 => by
    obtain ⟨hS2, h2⟩ := h2
    rcases r with (_ | v) | e
    · exact h2.elim
    · cases v with
      | int y => exact (show mW (d + 1) 14 10 [.ref 2, .int x1, .int x2, .int x3, .ref a, am_un] [.int y, .int (Int32.ofInt 0), .ref a] A2 Q from ip 10 rfl (ip 11 rfl (And.intro (And.intro h2.1.1 (ix0 h2.1.2)) (ip 12 rfl (ip 23 rfl (ip 24 rfl (And.intro hS2 h2.2)))))))
      | _ => exact h2.elim
    · have h2 : (match (if e = 0 then some 1 else if e = 2 then some 2 else none) with | some v => Q (.inl (some (.int v))) (am_new A2 0 6) | none => False) := h2
      by_cases e0 : e = 0
      · rw [if_pos e0] at h2
        subst e0
        exact (show mW (d + 1) 14 15 [.ref 2, .int x1, .int x2, .int x3, .ref a, am_un] [.ref (am_sz A2)] (am_new A2 0 6) Q from ipk 15 [am_un, am_un, am_un, am_un, am_un, am_un] rfl rfl (il [am_un, am_un, am_un, am_un, am_un, .ref (am_sz A2)] (ip 17 rfl (ip 18 rfl (And.intro hS2.new h2)))))
      by_cases e1 : e = 2
      · rw [if_neg e0, if_pos e1] at h2
        subst e1
        exact (show mW (d + 1) 14 19 [.ref 2, .int x1, .int x2, .int x3, .ref a, am_un] [.ref (am_sz A2)] (am_new A2 0 6) Q from ipk 19 [am_un, am_un, am_un, am_un, am_un, am_un] rfl rfl (il [am_un, am_un, am_un, am_un, am_un, .ref (am_sz A2)] (ip 21 rfl (ip 22 rfl (And.intro hS2.new h2)))))
      rw [if_neg e0, if_neg e1] at h2
      exact h2.elim)))))))))
