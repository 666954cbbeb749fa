/-! A process's steps touch its own cells alone. -/
section
variable {f f' : hs} {n p q u t m B : Nat} {G G' : Gh} {h : Option Nat}
theorem u2_ne {a i b j : Nat} {x : Int32} (hn : ¬ (b = a ∧ j = i)) : am_u2 f a i x b j = f b j := by rw [u2_e, if_neg hn]
theorem rg.tr {l h : Nat} {f1 f2 f3 : hs} (h1 : rg q l h f1 f2) (h2 : rg q l h f2 f3) : rg q l h f1 f3 := fun a k x y z => (h2 a k x y z).trans (h1 a k x y z)
theorem rg.up {l h a i : Nat} {x : Int32} (hi : i / str a ≠ q) : rg q l h f (am_u2 f a i x) := fun b j _ _ hq => u2_ne (fun e => by rw [e.1, e.2] at hq; exact hi hq)
theorem rg.ite {l h : Nat} {c : Prop} [Decidable c] {g g' : hs} (h1 : rg q l h f g) (h2 : rg q l h f g') : rg q l h f (if c then g else g') := by split; exact h1; exact h2
theorem rg_ev {w x y z e : Int32} (hq : q ≠ p) : rg q 424 463 f (m_ev p w x y z e f) := by
  have hm : Int32.toNatClampNeg (f 424 p) % 64 < 64 := Nat.mod_lt _ (by decide)
  unfold m_ev
  generalize Int32.toNatClampNeg (f 424 p) % 64 = z' at hm
  have s : str 425 = 320 := rfl
  have s4 : str 424 = 1 := rfl
  refine (((((rg.up ?_).tr (rg.up ?_)).tr (rg.up ?_)).tr (rg.up ?_)).tr (rg.up ?_)).tr (rg.up ?_) <;> first | (rw [s]; omega) | (rw [s4]; omega)
theorem rg_note {w x y z e : Int32} (hq : q ≠ p) : rg q 424 463 f (m_note p w x y z e f) := by
  unfold m_note; split
  · exact rg_ev hq
  · exact rg.rfl f
theorem and3_4 (w : Int32) : Int32.toNatClampNeg (w &&& 3) < 4 := by
  rcases and3 w with e | e | e | e <;> rw [e] <;> decide
theorem rg_apply {w : Int32} (hq : q ≠ p) : rg q 424 463 f (m_apply p u w f) := by
  have s : str 438 = 6 := rfl
  have hz := and3_4 (w >>> ((2 : Int32) &&& 31))
  unfold m_apply
  generalize Int32.toNatClampNeg (w >>> ((2 : Int32) &&& 31) &&& 3) = z at hz
  repeat' split
  all_goals first
    | exact (rg.up (by rw [s]; omega)).tr (rg.up (by rw [s]; omega))
    | exact rg.up (by rw [s]; omega)
theorem rg_shift (hq : q ≠ p) (hc : Int32.toNatClampNeg (f 449 p) ≤ 256) : rg q 424 463 f (m_shift p f) := fun a k _ _ hk => by
  have s : str 450 = 256 ∧ str 451 = 256 ∧ str 452 = 256 ∧ str 449 = 1 := ⟨rfl, rfl, rfl, rfl⟩
  unfold m_shift
  rw [if_neg (fun e => by rw [e.1, e.2, s.2.2.2] at hk; omega), if_neg (fun e => ?_)]
  obtain ⟨e1, e2, e3⟩ := e
  rcases e1 with e1 | e1 | e1 <;> subst e1 <;> simp only [s] at hk <;> omega
theorem rg_pass {o : Bool} (hq : q ≠ p) (hu : u < 6) (hc : Int32.toNatClampNeg (f 449 p) ≤ 256) : rg q 424 463 f (m_pass p u o f) := by
  have s : str 442 = 6 := rfl
  have r1 : rg q 424 463 f (am_u2 f 442 (6 * p + u) (f 442 (6 * p + u) + 1)) := rg.up (by rw [s]; omega)
  have c1 : am_u2 f 442 (6 * p + u) (f 442 (6 * p + u) + 1) 449 p = f 449 p := u2_a (by decide)
  unfold m_pass
  split
  · exact r1
  · refine rg.tr ?_ (rg_note hq)
    split
    · refine rg.tr ?_ (rg_apply hq)
      split
      · exact r1.tr (rg_shift hq (by rw [c1]; exact hc))
      · exact r1
    · exact r1
/-- an event told, or none -/
theorem note_424 {w x y z e : Int32} (h0 : f 415 60 = 0) : m_note p w x y z e f 424 p = f 424 p + 1 := by
  unfold m_note m_ev; rw [if_pos h0, u2_s]
theorem apply_6 {w : Int32} {a k : Nat} (ha : a ≠ 438) : m_apply p u w f a k = f a k := by
  unfold m_apply; repeat' split
  all_goals simp (disch := first | decide | omega) only [u2_a]
theorem shift_6 {a k : Nat} (ha : a < 449 ∨ 452 < a) : m_shift p f a k = f a k := by
  unfold m_shift; rw [if_neg (by omega), if_neg (by omega)]
theorem pass_424 {o : Bool} (h0 : f 415 60 = 0) : m_pass p u o f 424 p = if f 446 (m_fr p u f) = 4 then f 424 p else f 424 p + 1 := by
  unfold m_pass
  split
  · exact u2_a (by decide)
  · rw [note_424]
    · congr 1
      split
      · rw [apply_6 (by decide)]
        split
        · rw [shift_6 (by decide)]; exact u2_a (by decide)
        · exact u2_a (by decide)
      · exact u2_a (by decide)
    · split
      · rw [apply_6 (by decide)]
        split
        · rw [shift_6 (by decide), u2_a (by decide)]; exact h0
        · rw [u2_a (by decide)]; exact h0
      · rw [u2_a (by decide)]; exact h0
theorem pass_442 {o : Bool} {j : Nat} : m_pass p u o f 442 j = am_u2 f 442 (6 * p + u) (f 442 (6 * p + u) + 1) 442 j := by
  unfold m_pass
  split
  · rfl
  · rw [note_a (by omega)]
    split
    · rw [apply_6 (by decide)]
      split
      · rw [shift_6 (by decide)]
      · rfl
    · rfl
theorem pass_438 {o : Bool} (hu : u < 6) (ho : oOk (f 438 (6 * p + 1))) : oOk (m_pass p u o f 438 (6 * p + 1)) := by
  unfold m_pass
  split
  · rw [u2_a (by decide)]; exact ho
  · rw [note_a (by omega)]
    split
    · refine app_own hu ?_
      split
      · rw [shift_6 (by decide), u2_a (by decide)]; exact ho
      · rw [u2_a (by decide)]; exact ho
    · rw [u2_a (by decide)]; exact ho
/-- the entries behind a front passed -/
theorem pass_ord {o : Bool} {a j : Nat} (ha : a = 449 ∨ a = 450 ∨ a = 451 ∨ a = 452) : m_pass p u o f a j = if (f 446 (m_fr p u f) = 2 ∨ f 446 (m_fr p u f) = 3) ∧ o = true then m_shift p f a j else f a j := by
  have e1 : ∀ b i, b ≠ 442 → am_u2 f 442 (6 * p + u) (f 442 (6 * p + u) + 1) b i = f b i := fun b i hb => u2_a hb
  have e2 : m_shift p (am_u2 f 442 (6 * p + u) (f 442 (6 * p + u) + 1)) a j = m_shift p f a j := by
    unfold m_shift
    rw [e1 449 _ (by decide), e1 a _ (by omega), e1 a _ (by omega)]
  unfold m_pass
  split
  · next h4 => rw [e1 _ _ (by omega), if_neg (by rw [h4]; rintro ⟨q | q, _⟩ <;> exact absurd q (by decide))]
  · rw [note_a (by omega)]
    split
    · next h23 =>
      rw [apply_6 (by omega)]
      cases o with
      | true => rw [if_pos rfl, e2, if_pos ⟨h23, rfl⟩]
      | false => rw [if_neg (by decide), e1 _ _ (by omega), if_neg (by rintro ⟨_, q⟩; cases q)]
    · next h23 => rw [e1 _ _ (by omega), if_neg (fun q => h23 q.1)]
end
