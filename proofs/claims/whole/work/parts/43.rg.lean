/-! The reference's methods do what the model says: an end thought through, promises, cuts. -/
section
variable {A : am_A} {f : hs} {Q : am_Res → am_A → Prop} {d n p q u t m : Nat}
theorem note_a {w x y z e : Int32} {a k : Nat} (h : a ≠ 424 ∧ a ≠ 425) : m_note p w x y z e f a k = f a k := by
  obtain ⟨h1, h2⟩ := h
  unfold m_note
  split
  · unfold m_ev; simp (disch := first | decide | omega) only [u2_a]
  · rfl
theorem pass_a {o : Bool} {a k : Nat} (h : a ≠ 424 ∧ a ≠ 425 ∧ a ≠ 438 ∧ a ≠ 442 ∧ (a < 449 ∨ 452 < a)) : m_pass p u o f a k = f a k := by
  obtain ⟨h1, h2, h3, h4, h5⟩ := h
  unfold m_pass
  split
  · exact u2_a h4
  · rw [note_a ⟨h1, h2⟩]
    split
    · rw [apply_a h3]
      split
      · rw [shift_a h5, u2_a h4]
      · exact u2_a h4
    · exact u2_a h4
theorem one_a {e : Bool} {g : hs} {a k : Nat} (hg : m_one n p e f = some g) (h : a ≠ 424 ∧ a ≠ 425 ∧ a ≠ 438 ∧ a ≠ 442 ∧ (a < 449 ∨ 452 < a)) : g a k = f a k := by
  unfold m_one at hg
  cases hf : fi (m_can n p e f) 0 n with
  | none => rw [hf] at hg; cases hg
  | some u => rw [hf] at hg; cases hg; exact pass_a h
theorem e1_a {a k : Nat} (h : a ≠ 424 ∧ a ≠ 425 ∧ a ≠ 438 ∧ a ≠ 442 ∧ (a < 449 ∨ 452 < a)) : ∀ c (f : hs), m_e1 n p c f a k = f a k := by
  intro c
  induction c with
  | zero => intro f; rfl
  | succ c ih =>
    intro f
    cases hg : m_one n p true f with
    | none => rw [e1_none hg]
    | some g => rw [e1_some hg, ih, one_a hg h]
theorem e2_a {a k : Nat} (h : a ≠ 424 ∧ a ≠ 425 ∧ a ≠ 438 ∧ a ≠ 442 ∧ (a < 449 ∨ 452 < a)) : ∀ c (f : hs), m_e2 n p c f a k = f a k := by
  intro c
  induction c with
  | zero => intro f; rfl
  | succ c ih =>
    intro f
    cases hg : fi (m_rest n p f) 0 n with
    | none => rw [e2_none hg]
    | some g => rw [e2_some hg, ih, pass_a h]
theorem end_a {a k : Nat} (h : a ≠ 424 ∧ a ≠ 425 ∧ a ≠ 438 ∧ a ≠ 442 ∧ (a < 449 ∨ 452 < a)) : m_end n p f a k = f a k := by
  unfold m_end; rw [e2_a h, u2_a (by omega), e1_a h]
def t_1 (p j : Nat) (f : hs) : hs := fun a i => if a = 465 ∧ i < j then f 442 (6 * p + i) else if a = 466 ∧ i < j then f 438 (6 * p + i) else f a i
theorem t_1s {j : Nat} : am_u2 (am_u2 (t_1 p j f) 465 j (f 442 (6 * p + j))) 466 j (f 438 (6 * p + j)) = t_1 p (j + 1) f := by
  funext a i
  simp only [u2_e, t_1]
  (repeat' split) <;> first | rfl | omega | (congr 1; omega)
def t_2 (p j : Nat) (f g : hs) : hs := fun a i => if a = 467 ∧ i < 3 * j then (if i % 3 = 0 then f 450 (256 * p + i / 3) else if i % 3 = 1 then f 451 (256 * p + i / 3) else f 452 (256 * p + i / 3)) else g a i
theorem t_2s {j : Nat} {g : hs} : am_u2 (am_u2 (am_u2 (t_2 p j f g) 467 (3 * j) (f 450 (256 * p + j))) 467 (3 * j + 1) (f 451 (256 * p + j))) 467 (3 * j + 2) (f 452 (256 * p + j)) = t_2 p (j + 1) f g := by
  funext a i
  simp only [u2_e, t_2]
  (repeat' split) <;> first | rfl | omega | (congr 1; omega)
def t_3 (p j : Nat) (f g : hs) : hs := fun a i => if a = 439 ∧ 6 * p ≤ i ∧ i < 6 * p + j then g 438 i else if a = 442 ∧ 6 * p ≤ i ∧ i < 6 * p + j then f 442 i else if a = 438 ∧ 6 * p ≤ i ∧ i < 6 * p + j then f 438 i else g a i
theorem t_3s {j : Nat} {g : hs} : am_u2 (am_u2 (am_u2 (t_3 p j f g) 439 (6 * p + j) (g 438 (6 * p + j))) 442 (6 * p + j) (f 442 (6 * p + j))) 438 (6 * p + j) (f 438 (6 * p + j)) = t_3 p (j + 1) f g := by
  funext a i
  simp only [u2_e, t_3]
  (repeat' split) <;> first | rfl | omega | (congr 1; omega)
def t_4 (p j : Nat) (f g : hs) : hs := fun a i => if (a = 450 ∨ a = 451 ∨ a = 452) ∧ 256 * p ≤ i ∧ i < 256 * p + j then f a i else g a i
theorem t_4s {j : Nat} {g : hs} : am_u2 (am_u2 (am_u2 (t_4 p j f g) 450 (256 * p + j) (f 450 (256 * p + j))) 451 (256 * p + j) (f 451 (256 * p + j))) 452 (256 * p + j) (f 452 (256 * p + j)) = t_4 p (j + 1) f g := by
  funext a i
  simp only [u2_e, t_4]
  by_cases h1 : a = 450
  · subst h1; (repeat' split) <;> first | rfl | omega | (congr 1; omega)
  · by_cases h2 : a = 451
    · subst h2; (repeat' split) <;> first | rfl | omega | (congr 1; omega)
    · by_cases h3 : a = 452
      · subst h3; (repeat' split) <;> first | rfl | omega | (congr 1; omega)
      · (repeat' split) <;> first | rfl | omega | (congr 1; omega)
theorem r_try {b : Nat} (hS : Sh A) (hp : p < 6) (hG : okG p f) (hO : okE n b p (am_u2 (m_aside p f) 415 60 1)) (h : Q (.inl none) (wI A (m_try n p f))) : mC (d + 6) 194 [.ref 415, .int (nI p)] (wI A f) Q := by
  obtain ⟨c, hc, hc2⟩ := hG.2.1
  refine x_194_0 (shw hS) ?_
  simp (disch := first | decide | omega) only [wI_I, wI_s, wI_P, wI_L, forall_eq, m2, m3, m5, m6, m7, m36, m46, m64, m256, m320, nI_add, k1, k2, k3, k4, k5, k6, k7, k8, k9, k10, k11, k12, k13, k64, nI_clamp, nI_ltI, nI_leI, nI_eq, u2_s, u2_a, u2_i, ixT, bi_z, bi_nz, bi_n1, bi_o1, true_and, and_true, true_implies, not_true, not_false_iff, Bool.not_eq_false, Bool.not_eq_true, forall_const, ne_eq, Classical.not_not, and_self, hc]
  have a0 : f = t_1 p 0 f := by funext a i; simp only [t_1]; (repeat' split) <;> first | rfl | omega | (congr 1; omega)
  have a1 : t_1 p 6 f = t_2 p 0 f (t_1 p 6 f) := by funext a i; simp only [t_2]; (repeat' split) <;> first | rfl | omega | (congr 1; omega)
  have a2 : t_2 p c f (t_1 p 6 f) = m_aside p f := by
    funext a i
    simp only [t_2, t_1, m_aside, hc, nI_clamp (show c < 2 ^ 31 by omega)]
    (repeat' split) <;> first | rfl | omega | (congr 1; omega)
  generalize hg : am_u2 (m_end n p (am_u2 (m_aside p f) 415 60 1)) 415 60 0 = g
  have g5 : ∀ k, k < 6 → g 465 k = f 442 (6 * p + k) := fun k hk => by
    rw [← hg, u2_a (by decide), end_a (by decide), u2_a (by decide)]; unfold m_aside; rw [if_pos ⟨rfl, hk⟩]
  have g6 : ∀ k, k < 6 → g 466 k = f 438 (6 * p + k) := fun k hk => by
    rw [← hg, u2_a (by decide), end_a (by decide), u2_a (by decide)]; unfold m_aside; rw [if_neg (by omega), if_pos ⟨rfl, hk⟩]
  have g7 : ∀ k, k < 3 * c → g 467 k = (if k % 3 = 0 then f 450 (256 * p + k / 3) else if k % 3 = 1 then f 451 (256 * p + k / 3) else f 452 (256 * p + k / 3)) := fun k hk => by
    rw [← hg, u2_a (by decide), end_a (by decide), u2_a (by decide)]; unfold m_aside; rw [if_neg (by omega), if_neg (by omega), hc, nI_clamp (by omega), if_pos ⟨rfl, hk⟩]
  have a3 : g = t_3 p 0 f g := by funext a i; simp only [t_3]; (repeat' split) <;> first | rfl | omega | (congr 1; omega)
  have a4 : am_u2 (t_3 p 6 f g) 449 p (nI c) = t_4 p 0 f (am_u2 (t_3 p 6 f g) 449 p (nI c)) := by funext a i; simp only [t_4]; (repeat' split) <;> first | rfl | omega | (congr 1; omega)
  have a5 : t_4 p c f (am_u2 (t_3 p 6 f g) 449 p (nI c)) = m_try n p f := by
    unfold m_try
    rw [hg]
    funext a i
    simp only [t_4, t_3, m_restore, u2_e, hc, nI_clamp (show c < 2 ^ 31 by omega)]
    by_cases e1 : a = 449 ∧ i = p
    · rw [if_neg (by omega), if_pos e1, if_neg (by omega), if_neg (by omega), if_pos e1, e1.1, e1.2, hc]
    · by_cases e2 : (a = 450 ∨ a = 451 ∨ a = 452) ∧ 256 * p ≤ i ∧ i < 256 * p + c
      · rw [if_pos e2, if_neg (by omega), if_neg (by omega), if_neg (by omega), if_pos e2]
      · rw [if_neg e2, if_neg e1, if_neg e1, if_neg e2]
        by_cases e3 : a = 439 ∧ 6 * p ≤ i ∧ i < 6 * p + 6
        · rw [if_pos e3, if_pos e3]
        · rw [if_neg e3, if_neg e3]
          by_cases e4 : a = 442 ∧ 6 * p ≤ i ∧ i < 6 * p + 6
          · rw [if_pos e4, if_pos ⟨Or.inl e4.1, e4.2⟩, e4.1]
          · rw [if_neg e4]
            by_cases e5 : a = 438 ∧ 6 * p ≤ i ∧ i < 6 * p + 6
            · rw [if_pos e5, if_pos ⟨Or.inr e5.1, e5.2⟩, e5.1]
            · rw [if_neg e5, if_neg (by omega)]
  have L1 : mW (d + 5 + 1) 194 9 [.ref 415, .int (nI p), .int (nI c), .int (nI 0)] [] (wI A (t_1 p 0 f)) Q := by
    refine l0 (P := fun j => mW (d + 5 + 1) 194 9 [.ref 415, .int (nI p), .int (nI c), .int (nI j)] [] (wI A (t_1 p j f)) Q) 6 (fun j hj ih => ?_) ?_
    · refine x_194_9 (shw hS) ⟨fun _ => ?_, fun c => absurd (nI_lt (b := 6) hj (by decide)) c⟩
      have e1 : t_1 p j f 442 (6 * p + j) = f 442 (6 * p + j) := by unfold t_1; rw [if_neg (by omega), if_neg (by omega)]
      have e2 : t_1 p j f 438 (6 * p + j) = f 438 (6 * p + j) := by unfold t_1; rw [if_neg (by omega), if_neg (by omega)]
      simp (disch := first | decide | omega) only [wI_I, wI_s, wI_P, wI_L, forall_eq, m2, m3, m5, m6, m7, m36, m46, m64, m256, m320, nI_add, k1, k2, k3, k4, k5, k6, k7, k8, k9, k10, k11, k12, k13, k64, nI_clamp, nI_ltI, nI_leI, nI_eq, u2_s, u2_a, u2_i, ixT, bi_z, bi_nz, bi_n1, bi_o1, true_and, and_true, true_implies, not_true, not_false_iff, Bool.not_eq_false, Bool.not_eq_true, forall_const, ne_eq, Classical.not_not, and_self, e1, e2, t_1s]
      exact ih
    · refine x_194_9 (shw hS) ⟨fun c => absurd c (by decide), fun _ => ?_⟩
      rw [a1]
      refine l0 (P := fun j => mW (d + 5 + 1) 194 57 [.ref 415, .int (nI p), .int (nI c), .int (nI j)] [] (wI A (t_2 p j f (t_1 p 6 f))) Q) c (fun j hj ih => ?_) ?_
      · refine x_194_57 (shw hS) ⟨fun _ => ?_, fun q => absurd (nI_lt (b := c) hj (by omega)) q⟩
        have e1 : ∀ a, a = 450 ∨ a = 451 ∨ a = 452 → ∀ i, t_2 p j f (t_1 p 6 f) a i = f a i := fun a ha i => by unfold t_2 t_1; rw [if_neg (by omega), if_neg (by omega), if_neg (by omega)]
        simp (disch := first | decide | omega) only [wI_I, wI_s, wI_P, wI_L, forall_eq, m2, m3, m5, m6, m7, m36, m46, m64, m256, m320, nI_add, k1, k2, k3, k4, k5, k6, k7, k8, k9, k10, k11, k12, k13, k64, nI_clamp, nI_ltI, nI_leI, nI_eq, u2_s, u2_a, u2_i, ixT, bi_z, bi_nz, bi_n1, bi_o1, true_and, and_true, true_implies, not_true, not_false_iff, Bool.not_eq_false, Bool.not_eq_true, forall_const, ne_eq, Classical.not_not, and_self, e1 450 (by decide), e1 451 (by decide), e1 452 (by decide), t_2s]
        exact ih
      · refine x_194_57 (shw hS) ⟨fun q => absurd q (by simp (disch := first | decide | omega) only [wI_I, wI_s, wI_P, wI_L, forall_eq, m2, m3, m5, m6, m7, m36, m46, m64, m256, m320, nI_add, k1, k2, k3, k4, k5, k6, k7, k8, k9, k10, k11, k12, k13, k64, nI_clamp, nI_ltI, nI_leI, nI_eq, u2_s, u2_a, u2_i, ixT, bi_z, bi_nz, bi_n1, bi_o1, true_and, and_true, true_implies, not_true, not_false_iff, Bool.not_eq_false, Bool.not_eq_true, forall_const, ne_eq, Classical.not_not, and_self]; omega), fun _ => ?_⟩
        rw [a2]
        refine r_end (b := b) hS hp hO ?_
        show mW _ _ _ _ _ _ _
        simp (disch := first | decide | omega) only [wI_I, wI_s, wI_P, wI_L, forall_eq, m2, m3, m5, m6, m7, m36, m46, m64, m256, m320, nI_add, k1, k2, k3, k4, k5, k6, k7, k8, k9, k10, k11, k12, k13, k64, nI_clamp, nI_ltI, nI_leI, nI_eq, u2_s, u2_a, u2_i, ixT, bi_z, bi_nz, bi_n1, bi_o1, true_and, and_true, true_implies, not_true, not_false_iff, Bool.not_eq_false, Bool.not_eq_true, forall_const, ne_eq, Classical.not_not, and_self, hg]
        rw [a3]
        refine l0 (P := fun j => mW (d + 5 + 1) 194 149 [.ref 415, .int (nI p), .int (nI c), .int (nI j)] [] (wI A (t_3 p j f g)) Q) 6 (fun j hj ih => ?_) ?_
        · refine x_194_149 (shw hS) ⟨fun _ => ?_, fun c => absurd (nI_lt (b := 6) hj (by decide)) c⟩
          have e1 : t_3 p j f g 438 (6 * p + j) = g 438 (6 * p + j) := by unfold t_3; rw [if_neg (by omega), if_neg (by omega), if_neg (by omega)]
          have e2 : t_3 p j f g 465 j = f 442 (6 * p + j) := by unfold t_3; rw [if_neg (by omega), if_neg (by omega), if_neg (by omega)]; exact g5 j hj
          have e3 : t_3 p j f g 466 j = f 438 (6 * p + j) := by unfold t_3; rw [if_neg (by omega), if_neg (by omega), if_neg (by omega)]; exact g6 j hj
          simp (disch := first | decide | omega) only [wI_I, wI_s, wI_P, wI_L, forall_eq, m2, m3, m5, m6, m7, m36, m46, m64, m256, m320, nI_add, k1, k2, k3, k4, k5, k6, k7, k8, k9, k10, k11, k12, k13, k64, nI_clamp, nI_ltI, nI_leI, nI_eq, u2_s, u2_a, u2_i, ixT, bi_z, bi_nz, bi_n1, bi_o1, true_and, and_true, true_implies, not_true, not_false_iff, Bool.not_eq_false, Bool.not_eq_true, forall_const, ne_eq, Classical.not_not, and_self, e1, e2, e3, t_3s]
          exact ih
        · refine x_194_149 (shw hS) ⟨fun c => absurd c (by decide), fun _ => ⟨ixn hp (by decide), ?_⟩⟩
          simp (disch := first | decide | omega) only [wI_I, wI_s, wI_P, wI_L, forall_eq, m2, m3, m5, m6, m7, m36, m46, m64, m256, m320, nI_add, k1, k2, k3, k4, k5, k6, k7, k8, k9, k10, k11, k12, k13, k64, nI_clamp, nI_ltI, nI_leI, nI_eq, u2_s, u2_a, u2_i, ixT, bi_z, bi_nz, bi_n1, bi_o1, true_and, and_true, true_implies, not_true, not_false_iff, Bool.not_eq_false, Bool.not_eq_true, forall_const, ne_eq, Classical.not_not, and_self]
          rw [a4]
          refine l0 (P := fun j => mW (d + 5 + 1) 194 226 [.ref 415, .int (nI p), .int (nI c), .int (nI j)] [] (wI A (t_4 p j f (am_u2 (t_3 p 6 f g) 449 p (nI c)))) Q) c (fun j hj ih => ?_) ?_
          · refine x_194_226 (shw hS) ⟨fun _ => ?_, fun q => absurd (nI_lt (b := c) hj (by omega)) q⟩
            have e0 : ∀ k, t_4 p j f (am_u2 (t_3 p 6 f g) 449 p (nI c)) 467 k = g 467 k := fun k => by unfold t_4; rw [if_neg (by omega), u2_a (by decide)]; unfold t_3; rw [if_neg (by omega), if_neg (by omega), if_neg (by omega)]
            have e1 : g 467 (3 * j) = f 450 (256 * p + j) := by rw [g7 _ (by omega), if_pos (by omega), show 3 * j / 3 = j by omega]
            have e2 : g 467 (3 * j + 1) = f 451 (256 * p + j) := by rw [g7 _ (by omega), if_neg (by omega), if_pos (by omega), show (3 * j + 1) / 3 = j by omega]
            have e3 : g 467 (3 * j + 2) = f 452 (256 * p + j) := by rw [g7 _ (by omega), if_neg (by omega), if_neg (by omega), show (3 * j + 2) / 3 = j by omega]
            simp (disch := first | decide | omega) only [wI_I, wI_s, wI_P, wI_L, forall_eq, m2, m3, m5, m6, m7, m36, m46, m64, m256, m320, nI_add, k1, k2, k3, k4, k5, k6, k7, k8, k9, k10, k11, k12, k13, k64, nI_clamp, nI_ltI, nI_leI, nI_eq, u2_s, u2_a, u2_i, ixT, bi_z, bi_nz, bi_n1, bi_o1, true_and, and_true, true_implies, not_true, not_false_iff, Bool.not_eq_false, Bool.not_eq_true, forall_const, ne_eq, Classical.not_not, and_self, e0, e1, e2, e3, t_4s]
            exact ih
          · refine x_194_226 (shw hS) ⟨fun q => absurd q (by simp (disch := first | decide | omega) only [wI_I, wI_s, wI_P, wI_L, forall_eq, m2, m3, m5, m6, m7, m36, m46, m64, m256, m320, nI_add, k1, k2, k3, k4, k5, k6, k7, k8, k9, k10, k11, k12, k13, k64, nI_clamp, nI_ltI, nI_leI, nI_eq, u2_s, u2_a, u2_i, ixT, bi_z, bi_nz, bi_n1, bi_o1, true_and, and_true, true_implies, not_true, not_false_iff, Bool.not_eq_false, Bool.not_eq_true, forall_const, ne_eq, Classical.not_not, and_self]; omega), fun _ => ?_⟩
            rw [a5]
            exact h
  rw [← a0] at L1
  exact L1
end
