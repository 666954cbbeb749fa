/-! The reference's methods do what the model says: packets, rows, views. -/
section
variable {A : am_A} {f : hs} {Q : am_Res → am_A → Prop} {d n p q u t m : Nat}
/-- the row and the pool of packets stand in their bounds -/
def rowOK (f : hs) : Prop := ∃ un fr, f 415 5 = nI un ∧ f 415 7 = nI fr ∧ un ≤ 600 ∧ fr ≤ 601 ∧ (un < 600 → 0 < fr) ∧ ∀ j, j < fr → ixk 601 (f 417 j)
theorem m_ship_full {kind : Int32} (h : f 415 5 = 600) : m_ship p q kind f = am_u2 (am_u2 f 421 p (f 421 p + 1)) 415 4 (f 415 4 + 1) := if_pos h
def m_bod (at' j : Nat) (g : hs) : hs := fun a k => if a = 418 ∧ 46 * at' + 9 ≤ k ∧ k < 46 * at' + 9 + j then (if nI (k - (46 * at' + 9)) < g 415 55 then g 464 (k - (46 * at' + 9)) else 0) else g a k
def m_h9 (at' p q : Nat) (kind s : Int32) (f g : hs) : hs := am_u2 (am_u2 (am_u2 (am_u2 (am_u2 (am_u2 (am_u2 (am_u2 (am_u2 g 418 (46 * at') kind) 418 (46 * at' + 1) (nI p)) 418 (46 * at' + 2) (nI q)) 418 (46 * at' + 3) (f 415 3)) 418 (46 * at' + 4) s) 418 (46 * at' + 5) (f 431 p)) 418 (46 * at' + 6) (f 432 p)) 418 (46 * at' + 7) (f 434 p)) 418 (46 * at' + 8) (f 435 p)
theorem m_h9_a {at' : Nat} {kind s : Int32} {g : hs} {a k : Nat} (h : a ≠ 418) : m_h9 at' p q kind s f g a k = g a k := by
  unfold m_h9; simp (disch := first | decide | omega) only [u2_a]
theorem m_h9_i {at' : Nat} {kind s : Int32} {g : hs} {a k : Nat} (h : k < 46 * at' ∨ 46 * at' + 9 ≤ k) : m_h9 at' p q kind s f g a k = g a k := by
  unfold m_h9; simp (disch := first | decide | omega) only [u2_i]
theorem m_put_eq {at' : Nat} {kind : Int32} {g : hs} (h5 : g 415 55 = f 415 55) (h6 : ∀ k, g 464 k = f 464 k) : m_bod at' 37 (m_h9 at' p q kind (f 421 p + 1) f g) = m_put at' (m_head p q kind f) g := by
  funext a k
  unfold m_put m_bod
  rw [m_h9_a (by decide), m_h9_a (by decide), h5, h6]
  by_cases ha : a = 418
  · subst ha
    by_cases hk : 46 * at' ≤ k ∧ k < 46 * at' + 46
    · obtain ⟨i, rfl⟩ : ∃ i, k = 46 * at' + i := ⟨k - 46 * at', by omega⟩
      rw [if_pos (c := 418 = 418 ∧ 46 * at' ≤ 46 * at' + i ∧ 46 * at' + i < 46 * at' + 46) ⟨rfl, hk⟩, show 46 * at' + i - 46 * at' = i by omega]
      rcases Nat.lt_or_ge i 9 with hi | hi
      · rw [if_neg (by omega)]
        unfold m_head m_h9
        have hi2 : i = 0 ∨ i = 1 ∨ i = 2 ∨ i = 3 ∨ i = 4 ∨ i = 5 ∨ i = 6 ∨ i = 7 ∨ i = 8 := by omega
        rcases hi2 with e | e | e | e | e | e | e | e | e <;> subst e <;> simp [u2_e]
      · rw [if_pos ⟨rfl, by omega, by omega⟩, show 46 * at' + i - (46 * at' + 9) = i - 9 by omega]
        unfold m_head
        simp (disch := omega) only [if_neg]
    · rw [if_neg (c := 418 = 418 ∧ 46 * at' ≤ k ∧ k < 46 * at' + 46) (fun e => hk e.2), if_neg (by omega), m_h9_i (by omega)]
  · rw [if_neg (fun e => ha e.1), if_neg (fun e => ha e.1), m_h9_a ha]
theorem ship_loop {at' w : Nat} {g : hs} {w1 w2 w3 : Value} (hS : Sh A) (hat : at' < 601) (hw : g 415 55 = nI w) (hw2 : w ≤ 37) (h : Q (.inl none) (wI A (am_u2 (m_bod at' 37 g) 419 at' (g 415 55)))) : mW (d + 1) 162 202 [.ref 415, w1, w2, w3, .int (nI at'), .int (nI (46 * at')), .int 0] [] (wI A g) Q := by
  have e0 : g = m_bod at' 0 g := by funext a k; unfold m_bod; rw [if_neg (by omega)]
  have key : ∀ j, j < 37 → ∀ x, (nI j < nI w → x = g 464 j) → (¬ nI j < nI w → x = 0) → am_u2 (m_bod at' j g) 418 (46 * at' + 9 + j) x = m_bod at' (j + 1) g := fun j hj x h1 h2 => by
    funext a k
    unfold m_bod
    rw [u2_e, hw]
    by_cases hak : a = 418 ∧ k = 46 * at' + 9 + j
    · rw [if_pos hak, if_pos ⟨hak.1, by omega, by omega⟩, hak.2, show 46 * at' + 9 + j - (46 * at' + 9) = j by omega]
      split
      · next c => exact h1 c
      · next c => exact h2 c
    · rw [if_neg hak]
      by_cases hc : a = 418 ∧ 46 * at' + 9 ≤ k ∧ k < 46 * at' + 9 + j
      · rw [if_pos hc, if_pos (c := a = 418 ∧ 46 * at' + 9 ≤ k ∧ k < 46 * at' + 9 + (j + 1)) ⟨hc.1, hc.2.1, by omega⟩]
      · rw [if_neg hc, if_neg (by omega)]
  have hb : ∀ j, m_bod at' j g 415 55 = nI w := fun j => by unfold m_bod; rw [if_neg (by omega)]; exact hw
  have hb2 : ∀ j k, m_bod at' j g 464 k = g 464 k := fun j k => by unfold m_bod; rw [if_neg (by omega)]
  rw [e0]
  have hl : ∀ w1 w2 w3, mW (d + 1) 162 202 [.ref 415, w1, w2, w3, .int (nI at'), .int (nI (46 * at')), .int (nI 0)] [] (wI A (m_bod at' 0 g)) Q := by
    refine l0 (P := fun j => ∀ w1 w2 w3, mW (d + 1) 162 202 [.ref 415, w1, w2, w3, .int (nI at'), .int (nI (46 * at')), .int (nI j)] [] (wI A (m_bod at' j g)) Q) 37 (fun j hj ih w1 w2 w3 => ?_) (fun w1 w2 w3 => ?_)
    · refine x_162_202 (shw hS) ⟨fun _ => ⟨fun c => ⟨ixn (by omega) (by decide), ?_⟩, fun c => ?_⟩, fun c => absurd (nI_lt (b := 37) hj (by decide)) c⟩
      · refine x_162_241 (shw hS) ?_
        simp (disch := first | decide | omega) only [wI_I, wI_s, wI_P, wI_L, forall_eq, m2, m3, m5, m6, m7, m36, m46, m64, m256, m320, nI_add, k1, k2, k3, k4, k5, k6, k7, k8, k9, k10, k11, k12, k13, k64, nI_clamp, nI_ltI, nI_leI, nI_eq, u2_s, u2_a, u2_i, ixT, bi_z, bi_nz, bi_n1, bi_o1, true_and, and_true, true_implies, not_true, not_false_iff, Bool.not_eq_false, Bool.not_eq_true, forall_const, ne_eq, Classical.not_not, and_self, hb2]
        rw [key j hj (g 464 j) (fun _ => rfl) (fun c2 => absurd (by have := c; rw [wI_I, hb] at this; exact this) c2)]
        exact ih _ _ _
      · refine x_162_241 (shw hS) ?_
        simp (disch := first | decide | omega) only [wI_I, wI_s, wI_P, wI_L, forall_eq, m2, m3, m5, m6, m7, m36, m46, m64, m256, m320, nI_add, k1, k2, k3, k4, k5, k6, k7, k8, k9, k10, k11, k12, k13, k64, nI_clamp, nI_ltI, nI_leI, nI_eq, u2_s, u2_a, u2_i, ixT, bi_z, bi_nz, bi_n1, bi_o1, true_and, and_true, true_implies, not_true, not_false_iff, Bool.not_eq_false, Bool.not_eq_true, forall_const, ne_eq, Classical.not_not, and_self]
        rw [key j hj 0 (fun c2 => absurd c2 (by have := c; rw [wI_I, hb] at this; exact this)) (fun _ => rfl)]
        exact ih _ _ _
    · refine x_162_202 (shw hS) ⟨fun c => absurd c (by decide), fun _ => ⟨ixn hat (by decide), ?_⟩⟩
      simp (disch := first | decide | omega) only [wI_I, wI_s, wI_P, wI_L, forall_eq, m2, m3, m5, m6, m7, m36, m46, m64, m256, m320, nI_add, k1, k2, k3, k4, k5, k6, k7, k8, k9, k10, k11, k12, k13, k64, nI_clamp, nI_ltI, nI_leI, nI_eq, u2_s, u2_a, u2_i, ixT, bi_z, bi_nz, bi_n1, bi_o1, true_and, and_true, true_implies, not_true, not_false_iff, Bool.not_eq_false, Bool.not_eq_true, forall_const, ne_eq, Classical.not_not, and_self, hb]
      rw [hw] at h
      exact h
  exact hl _ _ _
theorem r_ship {w : Nat} {kind : Int32} (hS : Sh A) (hp : p < 6) (hr : rowOK f) (hw : wr f w) (hw2 : w ≤ 37) (h : Q (.inl none) (wI A (m_ship p q kind f))) : mC (d + 1) 162 [.ref 415, .int (nI p), .int (nI q), .int kind] (wI A f) Q := by
  obtain ⟨un, fr, e1, e2, h1, h2, h3, h4⟩ := hr
  refine x_162_0 (shw hS) ?_
  simp (disch := first | decide | omega) only [wI_I, wI_s, wI_P, wI_L, forall_eq, m2, m3, m5, m6, m7, m36, m46, m64, m256, m320, nI_add, k1, k2, k3, k4, k5, k6, k7, k8, k9, k10, k11, k12, k13, k64, nI_clamp, nI_ltI, nI_leI, nI_eq, u2_s, u2_a, u2_i, ixT, bi_z, bi_nz, bi_n1, bi_o1, true_and, and_true, true_implies, not_true, not_false_iff, Bool.not_eq_false, Bool.not_eq_true, forall_const, ne_eq, Classical.not_not, and_self]
  refine ⟨fun c => ?_, fun c => ?_⟩
  · rw [m_ship_full c] at h; exact h
  · have hun : un < 600 := by
      rw [e1] at c
      rcases Nat.lt_or_ge un 600 with h5 | h5
      · exact h5
      · exact absurd (show nI un = 600 by rw [show un = 600 by omega]; rfl) c
    have hfr := h3 hun
    obtain ⟨at', hat, e3⟩ : ∃ at', at' < 601 ∧ f 417 (fr - 1) = nI at' := ⟨Int32.toNatClampNeg (f 417 (fr - 1)), (h4 (fr - 1) (by omega)).2, (tnI (h4 (fr - 1) (by omega)).1).symm⟩
    rw [m_ship, if_neg c, e2, nI_sub1 hfr, nI_clamp (by omega), e3, nI_clamp (by omega), e1, nI_clamp (by omega), k1, ← m_put_eq (by simp (disch := first | decide | omega) only [u2_a, u2_i]) (fun k => by simp (disch := first | decide | omega) only [u2_a, u2_i])] at h
    simp (disch := first | decide | omega) only [wI_I, wI_s, wI_P, wI_L, forall_eq, m2, m3, m5, m6, m7, m36, m46, m64, m256, m320, nI_add, k1, k2, k3, k4, k5, k6, k7, k8, k9, k10, k11, k12, k13, k64, nI_clamp, nI_ltI, nI_leI, nI_eq, u2_s, u2_a, u2_i, ixT, bi_z, bi_nz, bi_n1, bi_o1, true_and, and_true, true_implies, not_true, not_false_iff, Bool.not_eq_false, Bool.not_eq_true, forall_const, ne_eq, Classical.not_not, and_self, e1, e2, nI_sub1 hfr, e3, u2_s, u2_a, u2_i]
    refine ship_loop (w := w) hS hat (by simp (disch := first | decide | omega) only [u2_a, u2_i]; exact hw) hw2 ?_
    simp (disch := first | decide | omega) only [u2_a, u2_i]
    exact h
end
