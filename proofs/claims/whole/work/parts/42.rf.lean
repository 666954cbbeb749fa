/-! The reference's methods do what the model says: working, ending a view. -/
section
variable {A : am_A} {f : hs} {Q : am_Res → am_A → Prop} {d n p q u t m : Nat}
def m_shj (p c j : Nat) (f : hs) : hs := fun a i => if a = 449 ∧ i = p then nI c else if (a = 450 ∨ a = 451 ∨ a = 452) ∧ 256 * p ≤ i ∧ i < 256 * p + j then f a (i + 1) else f a i
theorem m_shj_s {c j : Nat} : am_u2 (am_u2 (am_u2 (m_shj p c j f) 450 (256 * p + j) (f 450 (256 * p + j + 1))) 451 (256 * p + j) (f 451 (256 * p + j + 1))) 452 (256 * p + j) (f 452 (256 * p + j + 1)) = m_shj p c (j + 1) f := by
  funext a i
  simp only [u2_e, m_shj]
  by_cases h1 : a = 450
  · subst h1; (repeat' split) <;> first | rfl | omega | (congr 1; omega)
  · by_cases h2 : a = 451
    · subst h2; (repeat' split) <;> first | rfl | omega | (congr 1; omega)
    · by_cases h3 : a = 452
      · subst h3; (repeat' split) <;> first | rfl | omega | (congr 1; omega)
      · (repeat' split) <;> first | rfl | omega | (congr 1; omega)
theorem apply_a {w : Int32} {a k : Nat} (h : a ≠ 438) : m_apply p u w f a k = f a k := by
  unfold m_apply
  (repeat' split) <;> simp (disch := first | decide | omega) only [u2_a]
theorem shift_a {a k : Nat} (h : a < 449 ∨ 452 < a) : m_shift p f a k = f a k := by
  unfold m_shift; rw [if_neg (by omega), if_neg (by omega)]
theorem r_pass {ordered : Bool} (hS : Sh A) (hp : p < 6) (hu : u < 6) (hG : okG p f) (ho : ordered = true → f 446 (m_fr p u f) = 2 ∨ f 446 (m_fr p u f) = 3 → 0 < f 449 p) (h : Q (.inl none) (wI A (m_pass p u ordered f))) : mC (d + 3) 187 [.ref 415, .int (nI p), .int (nI u), .int (bi ordered)] (wI A f) Q := by
  have hx := fr_lt (f := f) hp hu
  have hev := hG.2.2
  unfold m_pass at h
  refine x_187_0 (shw hS) (r_front hS hp hu hG ?_)
  show _ ∧ _
  simp (disch := first | decide | omega) only [wI_I, wI_s, wI_P, wI_L, forall_eq, m2, m3, m5, m6, m7, m36, m46, m64, m256, m320, nI_add, k1, k2, k3, k4, k5, k6, k7, k8, k9, k10, k11, k12, k13, k64, nI_clamp, nI_ltI, nI_leI, nI_eq, u2_s, u2_a, u2_i, ixT, bi_z, bi_nz, bi_n1, bi_o1, true_and, and_true, true_implies, not_true, not_false_iff, Bool.not_eq_false, Bool.not_eq_true, forall_const, ne_eq, Classical.not_not, and_self]
  refine ⟨fun c => by rw [if_pos c] at h; exact h, fun c => ?_⟩
  rw [if_neg c] at h
  have go : f 446 (m_fr p u f) = 2 ∨ f 446 (m_fr p u f) = 3 → mW (d + 2 + 1) 187 51 [.ref 415, .int (nI p), .int (nI u), .int (bi ordered), .int (nI (m_fr p u f)), .int (f 446 (m_fr p u f)), am_un] [] (wI A (am_u2 f 442 (6 * p + u) (f 442 (6 * p + u) + 1))) Q := fun c2 => by
    rw [if_pos c2] at h
    have fin : ∀ (g : hs) w3 w6, (∀ a k, a ≠ 438 → a ≠ 442 → a < 449 ∨ 452 < a → g a k = f a k) → Q (.inl none) (wI A (m_note p 2 (nI u) (f 445 (m_fr p u f)) (f 446 (m_fr p u f)) (f 447 (m_fr p u f)) (m_apply p u (f 447 (m_fr p u f)) g))) → mW (d + 2 + 1) 187 143 [.ref 415, .int (nI p), .int (nI u), w3, .int (nI (m_fr p u f)), .int (f 446 (m_fr p u f)), w6] [] (wI A g) Q := fun g w3 w6 hg hq => by
      refine x_187_143 (shw hS) ?_
      simp (disch := first | decide | omega) only [wI_I, wI_s, wI_P, wI_L, forall_eq, m2, m3, m5, m6, m7, m36, m46, m64, m256, m320, nI_add, k1, k2, k3, k4, k5, k6, k7, k8, k9, k10, k11, k12, k13, k64, nI_clamp, nI_ltI, nI_leI, nI_eq, u2_s, u2_a, u2_i, ixT, bi_z, bi_nz, bi_n1, bi_o1, true_and, and_true, true_implies, not_true, not_false_iff, Bool.not_eq_false, Bool.not_eq_true, forall_const, ne_eq, Classical.not_not, and_self, hg 447 (m_fr p u f) (by decide) (by decide) (by decide)]
      refine r_apply hS hp ?_
      show mC _ _ _ _ _
      simp (disch := first | decide | omega) only [wI_I, wI_s, wI_P, wI_L, forall_eq, m2, m3, m5, m6, m7, m36, m46, m64, m256, m320, nI_add, k1, k2, k3, k4, k5, k6, k7, k8, k9, k10, k11, k12, k13, k64, nI_clamp, nI_ltI, nI_leI, nI_eq, u2_s, u2_a, u2_i, ixT, bi_z, bi_nz, bi_n1, bi_o1, true_and, and_true, true_implies, not_true, not_false_iff, Bool.not_eq_false, Bool.not_eq_true, forall_const, ne_eq, Classical.not_not, and_self, apply_a, hg 447 (m_fr p u f) (by decide) (by decide) (by decide), hg 445 (m_fr p u f) (by decide) (by decide) (by decide)]
      refine r_note hS hp ?_ hq
      rw [apply_a (by decide), hg 424 p (by decide) (by decide) (by decide)]
      exact hev
    refine x_187_51 (shw hS) ?_
    simp (disch := first | decide | omega) only [wI_I, wI_s, wI_P, wI_L, forall_eq, m2, m3, m5, m6, m7, m36, m46, m64, m256, m320, nI_add, k1, k2, k3, k4, k5, k6, k7, k8, k9, k10, k11, k12, k13, k64, nI_clamp, nI_ltI, nI_leI, nI_eq, u2_s, u2_a, u2_i, ixT, bi_z, bi_nz, bi_n1, bi_o1, true_and, and_true, true_implies, not_true, not_false_iff, Bool.not_eq_false, Bool.not_eq_true, forall_const, ne_eq, Classical.not_not, and_self]
    refine ⟨fun c3 => ?_, fun c3 => ?_⟩
    · rw [if_neg (by rw [c3]; decide)] at h
      exact fin _ _ _ (fun a k h1 h2 h3 => u2_a h2) h
    · rw [if_pos c3] at h
      obtain ⟨c0, hc, hc2⟩ := hG.2.1
      have hpos := ho c3 c2
      rw [hc, k0, nI_ltI (by decide) (by omega)] at hpos
      have e0 : am_u2 (am_u2 f 442 (6 * p + u) (f 442 (6 * p + u) + 1)) 449 p (nI (c0 - 1)) = m_shj p (c0 - 1) 0 (am_u2 f 442 (6 * p + u) (f 442 (6 * p + u) + 1)) := by
        funext a i
        rw [u2_e]
        unfold m_shj
        by_cases e1 : a = 449 ∧ i = p
        · rw [if_pos e1, if_pos e1]
        · rw [if_neg e1, if_neg e1, if_neg (by omega)]
      rw [hc, nI_sub1 hpos, e0]
      generalize hG2 : am_u2 f 442 (6 * p + u) (f 442 (6 * p + u) + 1) = g0 at h ⊢
      have hg0 : ∀ a k, a ≠ 442 → g0 a k = f a k := fun a k ha => by rw [← hG2]; exact u2_a ha
      have e1 : ∀ j, m_shj p (c0 - 1) j g0 449 p = nI (c0 - 1) := fun j => by unfold m_shj; rw [if_pos ⟨rfl, rfl⟩]
      have e2 : ∀ j a, m_shj p (c0 - 1) j g0 a (256 * p + j + 1) = if a = 449 ∧ 256 * p + j + 1 = p then nI (c0 - 1) else g0 a (256 * p + j + 1) := fun j a => by unfold m_shj; rw [if_neg (c := (a = 450 ∨ a = 451 ∨ a = 452) ∧ _) (by omega)]
      refine l0 (P := fun j => ∀ w3, mW (d + 2 + 1) 187 72 [.ref 415, .int (nI p), .int (nI u), w3, .int (nI (m_fr p u f)), .int (f 446 (m_fr p u f)), .int (nI (256 * p + j))] [] (wI A (m_shj p (c0 - 1) j g0)) Q) (c0 - 1) (fun j hj ih w3 => ?_) (fun w3 => ?_) _
      · refine x_187_72 (shw hS) ?_
        simp (disch := first | decide | omega) only [wI_I, wI_s, wI_P, wI_L, forall_eq, m2, m3, m5, m6, m7, m36, m46, m64, m256, m320, nI_add, k1, k2, k3, k4, k5, k6, k7, k8, k9, k10, k11, k12, k13, k64, nI_clamp, nI_ltI, nI_leI, nI_eq, u2_s, u2_a, u2_i, ixT, bi_z, bi_nz, bi_n1, bi_o1, true_and, and_true, true_implies, not_true, not_false_iff, Bool.not_eq_false, Bool.not_eq_true, forall_const, ne_eq, Classical.not_not, and_self, e1]
        refine ⟨fun _ => ?_, fun c => absurd (by omega) c⟩
        rw [e2, e2, e2, if_neg (by omega), if_neg (by omega), if_neg (by omega), m_shj_s]
        exact ih _
      · refine x_187_72 (shw hS) ?_
        simp (disch := first | decide | omega) only [wI_I, wI_s, wI_P, wI_L, forall_eq, m2, m3, m5, m6, m7, m36, m46, m64, m256, m320, nI_add, k1, k2, k3, k4, k5, k6, k7, k8, k9, k10, k11, k12, k13, k64, nI_clamp, nI_ltI, nI_leI, nI_eq, u2_s, u2_a, u2_i, ixT, bi_z, bi_nz, bi_n1, bi_o1, true_and, and_true, true_implies, not_true, not_false_iff, Bool.not_eq_false, Bool.not_eq_true, forall_const, ne_eq, Classical.not_not, and_self, e1]
        refine ⟨fun c => absurd c (by omega), fun _ => ?_⟩
        have e3 : m_shj p (c0 - 1) (c0 - 1) g0 = m_shift p g0 := by
          funext a i
          have : g0 449 p = nI c0 := by rw [hg0 _ _ (by decide), hc]
          simp only [m_shj, m_shift, this, nI_sub1 hpos]
          rw [nI_clamp (by omega)]
        rw [e3]
        exact fin _ _ _ (fun a k h1 h2 h3 => by rw [shift_a h3, hg0 a k h2]) h
  refine ⟨fun c2 => go (Or.inl c2), fun c2 => ⟨fun c3 => go (Or.inr c3), fun c3 => ?_⟩⟩
  rw [if_neg (fun q => q.elim c2 c3)] at h
  refine x_187_156 (shw hS) ?_
  simp (disch := first | decide | omega) only [wI_I, wI_s, wI_P, wI_L, forall_eq, m2, m3, m5, m6, m7, m36, m46, m64, m256, m320, nI_add, k1, k2, k3, k4, k5, k6, k7, k8, k9, k10, k11, k12, k13, k64, nI_clamp, nI_ltI, nI_leI, nI_eq, u2_s, u2_a, u2_i, ixT, bi_z, bi_nz, bi_n1, bi_o1, true_and, and_true, true_implies, not_true, not_false_iff, Bool.not_eq_false, Bool.not_eq_true, forall_const, ne_eq, Classical.not_not, and_self]
  refine r_note hS hp ?_ h
  simp (disch := first | decide | omega) only [u2_a]
  exact hev
theorem can_o {ends : Bool} (h : m_can n p ends f u = true) (hs : f 446 (m_fr p u f) = 2 ∨ f 446 (m_fr p u f) = 3) : 0 < f 449 p := by
  unfold m_can m_first at h
  simp only [Bool.and_eq_true, Bool.or_eq_true, decide_eq_true_eq] at h
  rcases h.2 with h1 | h1 | h1
  · rcases hs with e | e <;> rw [e] at h1 <;> exact absurd h1 (by decide)
  · rcases hs with e | e <;> rw [e] at h1 <;> exact absurd h1 (by decide)
  · rcases h1.2 with h2 | h2
    · rcases hs with e | e <;> rw [e] at h2 <;> exact absurd h2 (by decide)
    · exact h2.1.1
theorem r_one {ends : Bool} (hS : Sh A) (hn : f 415 1 = nI n) (hn6 : n ≤ 6) (hp : p < 6) (hG : okG p f) (hH : okH p f) (h1 : ∀ g, m_one n p ends f = some g → Q (.inl (some (.int 1))) (wI A g)) (h2 : m_one n p ends f = none → Q (.inl (some (.int 0))) (wI A f)) : mC (d + 4) 188 [.ref 415, .int (nI p), .int (bi ends)] (wI A f) Q := by
  refine x_188_0 (shw hS) ?_
  unfold m_one at h1 h2
  refine lf0 (P := fun u => mW (d + 3 + 1) 188 2 [.ref 415, .int (nI p), .int (bi ends), .int (nI u)] [] (wI A f) Q) (X := fun u => m_can n p ends f u = true → u < n → Q (.inl (some (.int 1))) (wI A (m_pass p u true f))) n (m_can n p ends f) (fun u hu i1 i2 => ?_) (fun u hu _ _ => h1 _ (by rw [hu]; rfl)) (fun hu => ?_)
  · refine x_188_2 (shw hS) ⟨fun _ => r_can hS hn hn6 hp (by omega) hG hH ?_, fun c => absurd ?_ c⟩
    · show _ ∧ _
      simp (disch := first | decide | omega) only [wI_I, wI_s, wI_P, wI_L, forall_eq, m2, m3, m5, m6, m7, m36, m46, m64, m256, m320, nI_add, k1, k2, k3, k4, k5, k6, k7, k8, k9, k10, k11, k12, k13, k64, nI_clamp, nI_ltI, nI_leI, nI_eq, u2_s, u2_a, u2_i, ixT, bi_z, bi_nz, bi_n1, bi_o1, true_and, and_true, true_implies, not_true, not_false_iff, Bool.not_eq_false, Bool.not_eq_true, forall_const, ne_eq, Classical.not_not, and_self]
      refine ⟨fun c => i2 c, fun c => ?_⟩
      exact r_pass (ordered := true) hS hp (by omega) hG (fun _ => can_o c) (i1 c c hu)
    · simp (disch := first | decide | omega) only [wI_I, wI_s, wI_P, wI_L, forall_eq, m2, m3, m5, m6, m7, m36, m46, m64, m256, m320, nI_add, k1, k2, k3, k4, k5, k6, k7, k8, k9, k10, k11, k12, k13, k64, nI_clamp, nI_ltI, nI_leI, nI_eq, u2_s, u2_a, u2_i, ixT, bi_z, bi_nz, bi_n1, bi_o1, true_and, and_true, true_implies, not_true, not_false_iff, Bool.not_eq_false, Bool.not_eq_true, forall_const, ne_eq, Classical.not_not, and_self, hn]; exact hu
  · refine x_188_2 (shw hS) ⟨fun c => absurd c ?_, fun _ => h2 (by rw [hu]; rfl)⟩
    simp (disch := first | decide | omega) only [wI_I, wI_s, wI_P, wI_L, forall_eq, m2, m3, m5, m6, m7, m36, m46, m64, m256, m320, nI_add, k1, k2, k3, k4, k5, k6, k7, k8, k9, k10, k11, k12, k13, k64, nI_clamp, nI_ltI, nI_leI, nI_eq, u2_s, u2_a, u2_i, ixT, bi_z, bi_nz, bi_n1, bi_o1, true_and, and_true, true_implies, not_true, not_false_iff, Bool.not_eq_false, Bool.not_eq_true, forall_const, ne_eq, Classical.not_not, and_self, hn]; omega
theorem fo_or (b : Nat → Bool) (x : Bool) : ∀ m q, x = true → fo (fun v b' => b' || b v) q m x = true := by
  intro m
  induction m generalizing x with
  | zero => intro q h; exact h
  | succ m ih => intro q h; exact ih _ (q + 1) (by rw [h]; rfl)
theorem r_isOrd {k : Int32} (hS : Sh A) (hp : p < 6) (hG : okG p f) (h : Q (.inl (some (.int (bi (m_isOrd p u k f))))) (wI A f)) : mC (d + 1) 189 [.ref 415, .int (nI p), .int (nI u), .int k] (wI A f) Q := by
  obtain ⟨c0, hc, hc2⟩ := hG.2.1
  unfold m_isOrd at h
  rw [hc, nI_clamp (by omega)] at h
  refine x_189_0 (shw hS) ?_
  rw [m256]
  refine lp0 (P := fun e b => mW (d + 1) 189 10 [.ref 415, .int (nI p), .int (nI u), .int k, .int (bi b), .int (nI (256 * p + e))] [] (wI A f) Q) (x := false) c0 (fun e b => b || (decide (f 450 (256 * p + e) = nI u) && decide (f 451 (256 * p + e) = k))) (fun e b he ih => ?_) ?_
  · refine x_189_10 (shw hS) ?_
    simp (disch := first | decide | omega) only [wI_I, wI_s, wI_P, wI_L, forall_eq, m2, m3, m5, m6, m7, m36, m46, m64, m256, m320, nI_add, k1, k2, k3, k4, k5, k6, k7, k8, k9, k10, k11, k12, k13, k64, nI_clamp, nI_ltI, nI_leI, nI_eq, u2_s, u2_a, u2_i, ixT, bi_z, bi_nz, bi_n1, bi_o1, true_and, and_true, true_implies, not_true, not_false_iff, Bool.not_eq_false, Bool.not_eq_true, forall_const, ne_eq, Classical.not_not, and_self, hc]
    refine ⟨fun _ => ⟨fun c1 => ⟨fun c3 => ⟨fun c4 => ?_, fun c4 => ?_⟩, fun c3 => ?_⟩, fun c1 => ?_⟩, fun c => absurd (by omega) c⟩
    · rw [c1, decide_eq_true c3, decide_eq_true c4] at ih; exact ih
    · rw [c1, decide_eq_true c3, decide_eq_false c4] at ih; exact ih
    · rw [c1, decide_eq_false c3] at ih; exact ih
    · rw [c1] at ih; exact ih
  · refine x_189_10 (shw hS) ?_
    simp (disch := first | decide | omega) only [wI_I, wI_s, wI_P, wI_L, forall_eq, m2, m3, m5, m6, m7, m36, m46, m64, m256, m320, nI_add, k1, k2, k3, k4, k5, k6, k7, k8, k9, k10, k11, k12, k13, k64, nI_clamp, nI_ltI, nI_leI, nI_eq, u2_s, u2_a, u2_i, ixT, bi_z, bi_nz, bi_n1, bi_o1, true_and, and_true, true_implies, not_true, not_false_iff, Bool.not_eq_false, Bool.not_eq_true, forall_const, ne_eq, Classical.not_not, and_self, hc]
    exact ⟨fun c => absurd c (by omega), fun _ => ⟨bz_bi _, h⟩⟩
theorem r_order {b : Nat} (hS : Sh A) (hB : B0 n b f) (hp : p < 6) (hG : okG p f) (h1 : ∀ g, m_order n p f = some g → Q (.inl (some (.int 1))) (wI A g)) (h2 : m_order n p f = none → Q (.inl (some (.int 0))) (wI A f)) : mC (d + 5) 190 [.ref 415, .int (nI p)] (wI A f) Q := by
  have hn6 := hB.2.1
  have hn := hB.1
  unfold m_order at h1 h2
  refine x_190_0 (shw hS) ?_
  simp (disch := first | decide | omega) only [wI_I, wI_s, wI_P, wI_L, forall_eq, m2, m3, m5, m6, m7, m36, m46, m64, m256, m320, nI_add, k1, k2, k3, k4, k5, k6, k7, k8, k9, k10, k11, k12, k13, k64, nI_clamp, nI_ltI, nI_leI, nI_eq, u2_s, u2_a, u2_i, ixT, bi_z, bi_nz, bi_n1, bi_o1, true_and, and_true, true_implies, not_true, not_false_iff, Bool.not_eq_false, Bool.not_eq_true, forall_const, ne_eq, Classical.not_not, and_self]
  refine ⟨fun c => r_stable hS hn hn6 hp ?_, fun c => ?_⟩
  · show _ ∧ _
    refine ⟨fun c2 => ?_, fun c2 => ?_⟩
    · have hc : ¬ (f 432 p ≠ nI p ∨ 12 ≤ f 441 (6 * p + p) - m_stable n p f) := fun e => e.elim (fun e => e c) (fun e => Int32.not_le.mpr c2 e)
      rw [if_neg hc] at h1 h2
      refine lf0 (P := fun u => ∀ w3 w4, mW (d + 4 + 1) 190 36 [.ref 415, .int (nI p), .int (nI u), w3, w4] [] (wI A f) Q) (X := fun u => u < n → Q (.inl (some (.int 1))) (wI A (m_post n p 4 (8 * f 445 (m_fr p u f) + nI u) f))) n (m_wait n p f) (fun u hu i1 i2 w3 w4 => ?_) (fun u hu _ => h1 _ (by rw [hu]; rfl)) (fun hu w3 w4 => ?_) _ _
      · have hx := fr_lt (f := f) (u := u) hp (by omega)
        unfold m_wait at i1 i2
        refine x_190_36 (shw hS) ⟨fun _ => r_hasF hS hp (by omega) ?_, fun c => absurd ?_ c⟩
        · show _ ∧ _
          simp (disch := first | decide | omega) only [wI_I, wI_s, wI_P, wI_L, forall_eq, m2, m3, m5, m6, m7, m36, m46, m64, m256, m320, nI_add, k1, k2, k3, k4, k5, k6, k7, k8, k9, k10, k11, k12, k13, k64, nI_clamp, nI_ltI, nI_leI, nI_eq, u2_s, u2_a, u2_i, ixT, bi_z, bi_nz, bi_n1, bi_o1, true_and, and_true, true_implies, not_true, not_false_iff, Bool.not_eq_false, Bool.not_eq_true, forall_const, ne_eq, Classical.not_not, and_self]
          refine ⟨fun c3 => i2 (by rw [c3]; rfl) _ _, fun c3 => r_front hS hp (by omega) hG ?_⟩
          rw [c3] at i1 i2
          show _ ∧ _
          simp (disch := first | decide | omega) only [wI_I, wI_s, wI_P, wI_L, forall_eq, m2, m3, m5, m6, m7, m36, m46, m64, m256, m320, nI_add, k1, k2, k3, k4, k5, k6, k7, k8, k9, k10, k11, k12, k13, k64, nI_clamp, nI_ltI, nI_leI, nI_eq, u2_s, u2_a, u2_i, ixT, bi_z, bi_nz, bi_n1, bi_o1, true_and, and_true, true_implies, not_true, not_false_iff, Bool.not_eq_false, Bool.not_eq_true, forall_const, ne_eq, Classical.not_not, and_self]
          have go : (decide (f 446 (m_fr p u f) = 2) || decide (f 446 (m_fr p u f) = 3)) = true → mC (d + 4) 182 [.ref 415, .int (nI p), .int (nI (m_fr p u f))] (wI A f) (am_ci (fun y_15 B_12 => (y_15 = 0 → mW (d + 4 + 1) 190 36 [.ref 415, .int (nI p), .int (nI (u + 1)), am_un, am_un] [] B_12 Q) ∧ (¬ y_15 = 0 → (ixk 2304 (nI (m_fr p u f)) ∧ (mC (d + 4) 189 [.ref 415, .int (nI p), .int (nI u), .int (am_I B_12 445 (nI (m_fr p u f)).toNatClampNeg)] B_12 (am_ci (fun y_22 B_19 => (y_22 = 0 → (ixk 2304 (nI (m_fr p u f)) ∧ mC (d + 4) 179 [.ref 415, .int (nI p), .int 4, .int ((8 * (am_I B_19 445 (nI (m_fr p u f)).toNatClampNeg)) + nI u)] B_19 (am_cv (fun B_24 => Q (.inl (some (.int 1))) B_24)))) ∧ (¬ y_22 = 0 → mW (d + 4 + 1) 190 36 [.ref 415, .int (nI p), .int (nI (u + 1)), am_un, am_un] [] B_19 Q)))))))) := fun c4 => by
            rw [c4] at i1 i2
            refine r_isClear hS hn hn6 hp hx ?_
            show _ ∧ _
            simp (disch := first | decide | omega) only [wI_I, wI_s, wI_P, wI_L, forall_eq, m2, m3, m5, m6, m7, m36, m46, m64, m256, m320, nI_add, k1, k2, k3, k4, k5, k6, k7, k8, k9, k10, k11, k12, k13, k64, nI_clamp, nI_ltI, nI_leI, nI_eq, u2_s, u2_a, u2_i, ixT, bi_z, bi_nz, bi_n1, bi_o1, true_and, and_true, true_implies, not_true, not_false_iff, Bool.not_eq_false, Bool.not_eq_true, forall_const, ne_eq, Classical.not_not, and_self]
            refine ⟨fun c5 => i2 (by rw [c5]; rfl) _ _, fun c5 => r_isOrd hS hp hG ?_⟩
            rw [c5] at i1 i2
            show _ ∧ _
            simp (disch := first | decide | omega) only [wI_I, wI_s, wI_P, wI_L, forall_eq, m2, m3, m5, m6, m7, m36, m46, m64, m256, m320, nI_add, k1, k2, k3, k4, k5, k6, k7, k8, k9, k10, k11, k12, k13, k64, nI_clamp, nI_ltI, nI_leI, nI_eq, u2_s, u2_a, u2_i, ixT, bi_z, bi_nz, bi_n1, bi_o1, true_and, and_true, true_implies, not_true, not_false_iff, Bool.not_eq_false, Bool.not_eq_true, forall_const, ne_eq, Classical.not_not, and_self]
            refine ⟨fun c6 => r_post hS hB hp hG (i1 (by rw [c6]; rfl) hu), fun c6 => i2 (by rw [c6]; rfl) _ _⟩
          refine ⟨fun c4 => ?_, fun c4 => ⟨fun c5 => ?_, fun c5 => i2 (by rw [decide_eq_false c4, decide_eq_false c5]; rfl) _ _⟩⟩
          · have := go (by rw [decide_eq_true c4]; rfl); simp (disch := first | decide | omega) only [wI_I, wI_s, wI_P, wI_L, forall_eq, m2, m3, m5, m6, m7, m36, m46, m64, m256, m320, nI_add, k1, k2, k3, k4, k5, k6, k7, k8, k9, k10, k11, k12, k13, k64, nI_clamp, nI_ltI, nI_leI, nI_eq, u2_s, u2_a, u2_i, ixT, bi_z, bi_nz, bi_n1, bi_o1, true_and, and_true, true_implies, not_true, not_false_iff, Bool.not_eq_false, Bool.not_eq_true, forall_const, ne_eq, Classical.not_not, and_self] at this; exact this
          · have := go (by rw [decide_eq_true c5, Bool.or_true]); simp (disch := first | decide | omega) only [wI_I, wI_s, wI_P, wI_L, forall_eq, m2, m3, m5, m6, m7, m36, m46, m64, m256, m320, nI_add, k1, k2, k3, k4, k5, k6, k7, k8, k9, k10, k11, k12, k13, k64, nI_clamp, nI_ltI, nI_leI, nI_eq, u2_s, u2_a, u2_i, ixT, bi_z, bi_nz, bi_n1, bi_o1, true_and, and_true, true_implies, not_true, not_false_iff, Bool.not_eq_false, Bool.not_eq_true, forall_const, ne_eq, Classical.not_not, and_self] at this; exact this
        · simp (disch := first | decide | omega) only [wI_I, wI_s, wI_P, wI_L, forall_eq, m2, m3, m5, m6, m7, m36, m46, m64, m256, m320, nI_add, k1, k2, k3, k4, k5, k6, k7, k8, k9, k10, k11, k12, k13, k64, nI_clamp, nI_ltI, nI_leI, nI_eq, u2_s, u2_a, u2_i, ixT, bi_z, bi_nz, bi_n1, bi_o1, true_and, and_true, true_implies, not_true, not_false_iff, Bool.not_eq_false, Bool.not_eq_true, forall_const, ne_eq, Classical.not_not, and_self, hn]; exact hu
      · refine x_190_36 (shw hS) ⟨fun c => absurd c ?_, fun _ => h2 (by rw [hu]; rfl)⟩
        simp (disch := first | decide | omega) only [wI_I, wI_s, wI_P, wI_L, forall_eq, m2, m3, m5, m6, m7, m36, m46, m64, m256, m320, nI_add, k1, k2, k3, k4, k5, k6, k7, k8, k9, k10, k11, k12, k13, k64, nI_clamp, nI_ltI, nI_leI, nI_eq, u2_s, u2_a, u2_i, ixT, bi_z, bi_nz, bi_n1, bi_o1, true_and, and_true, true_implies, not_true, not_false_iff, Bool.not_eq_false, Bool.not_eq_true, forall_const, ne_eq, Classical.not_not, and_self, hn]; omega
    · exact h2 (if_pos (Or.inr (Int32.not_lt.mp c2)))
  · exact h2 (if_pos (Or.inl c))
/-- what a process needs to work -/
def okW (n b p : Nat) (f : hs) : Prop := B0 n b f ∧ okG p f ∧ okH p f
theorem wl_some1 {c : Nat} {g : hs} (h : m_one n p false f = some g) : m_wl n p (c + 1) f = m_wl n p c g := by
  show (match m_one n p false f with | some f1 => m_wl n p c f1 | none => _) = _
  rw [h]
theorem wl_some2 {c : Nat} {g : hs} (h : m_one n p false f = none) (h2 : m_order n p f = some g) : m_wl n p (c + 1) f = m_wl n p c g := by
  show (match m_one n p false f with | some f1 => m_wl n p c f1 | none => match m_order n p f with | some f1 => m_wl n p c f1 | none => f) = _
  rw [h, h2]
theorem wl_none {c : Nat} (h : m_one n p false f = none) (h2 : m_order n p f = none) : m_wl n p c f = f := by
  cases c with
  | zero => rfl
  | succ c =>
    show (match m_one n p false f with | some f1 => m_wl n p c f1 | none => match m_order n p f with | some f1 => m_wl n p c f1 | none => f) = _
    rw [h, h2]
theorem r_wl {b : Nat} (hS : Sh A) (hp : p < 6) : ∀ c (f : hs), (∀ j, okW n b p (m_wl n p j f)) → m_one n p false (m_wl n p c f) = none → m_order n p (m_wl n p c f) = none → Q (.inl none) (wI A (m_wl n p c f)) → mW (d + 6) 191 12 [.ref 415, .int (nI p), .int 1] [] (wI A f) Q := by
  intro c
  induction c with
  | zero =>
    intro f hO h1 h2 h
    have h1' : m_one n p false f = none := h1
    have h2' : m_order n p f = none := h2
    obtain ⟨oB, oG, oH⟩ : okW n b p f := hO 0
    refine x_191_12 (shw hS) ⟨fun c => absurd c (by decide), fun _ => ?_⟩
    refine r_one (ends := false) hS oB.1 oB.2.1 hp oG oH (fun g hg => by rw [h1'] at hg; cases hg) (fun _ => ?_)
    refine ⟨fun _ => ?_, fun c => absurd rfl c⟩
    refine r_order hS oB hp oG (fun g hg => by rw [h2'] at hg; cases hg) (fun _ => ?_)
    exact x_191_12 (shw hS) ⟨fun _ => h, fun c => absurd rfl c⟩
  | succ c ih =>
    intro f hO h1 h2 h
    obtain ⟨oB, oG, oH⟩ : okW n b p f := hO 0
    refine x_191_12 (shw hS) ⟨fun c => absurd c (by decide), fun _ => ?_⟩
    refine r_one (ends := false) hS oB.1 oB.2.1 hp oG oH (fun g hg => ?_) (fun hg => ?_)
    · refine ⟨fun c => absurd c (by decide), fun _ => ?_⟩
      rw [wl_some1 hg] at h1 h2 h
      exact ih g (fun j => by have := hO (j + 1); rw [wl_some1 hg] at this; exact this) h1 h2 h
    · refine ⟨fun _ => ?_, fun c => absurd rfl c⟩
      refine r_order hS oB hp oG (fun g hg2 => ?_) (fun hg2 => ?_)
      · rw [wl_some2 hg hg2] at h1 h2 h
        exact ih g (fun j => by have := hO (j + 1); rw [wl_some2 hg hg2] at this; exact this) h1 h2 h
      · rw [wl_none hg hg2] at h
        exact x_191_12 (shw hS) ⟨fun _ => h, fun c => absurd rfl c⟩
/-- working ends, in bounds all the way -/
def okWk (n b p : Nat) (f : hs) : Prop := f 436 p = 0 → (∀ j, okW n b p (m_wl n p j f)) ∧ m_one n p false (m_wl n p 1000 f) = none ∧ m_order n p (m_wl n p 1000 f) = none
theorem r_work {b : Nat} (hS : Sh A) (hp : p < 6) (hO : okWk n b p f) (h : Q (.inl none) (wI A (m_work n p f))) : mC (d + 6) 191 [.ref 415, .int (nI p)] (wI A f) Q := by
  unfold m_work at h
  refine x_191_0 (shw hS) ?_
  simp (disch := first | decide | omega) only [wI_I, wI_s, wI_P, wI_L, forall_eq, m2, m3, m5, m6, m7, m36, m46, m64, m256, m320, nI_add, k1, k2, k3, k4, k5, k6, k7, k8, k9, k10, k11, k12, k13, k64, nI_clamp, nI_ltI, nI_leI, nI_eq, u2_s, u2_a, u2_i, ixT, bi_z, bi_nz, bi_n1, bi_o1, true_and, and_true, true_implies, not_true, not_false_iff, Bool.not_eq_false, Bool.not_eq_true, forall_const, ne_eq, Classical.not_not, and_self]
  refine ⟨fun c => ?_, fun c => ?_⟩
  · rw [if_pos c] at h
    obtain ⟨h1, h2, h3⟩ := hO c
    exact r_wl hS hp 1000 f h1 h2 h3 h
  · rw [if_neg c] at h; exact h
theorem r_rest (hS : Sh A) (hn : f 415 1 = nI n) (hn6 : n ≤ 6) (hp : p < 6) (hG : okG p f) (h1 : ∀ u, fi (m_rest n p f) 0 n = some u → Q (.inl (some (.int 1))) (wI A (m_pass p u false f))) (h2 : fi (m_rest n p f) 0 n = none → Q (.inl (some (.int 0))) (wI A f)) : mC (d + 4) 192 [.ref 415, .int (nI p)] (wI A f) Q := by
  refine x_192_0 (shw hS) ?_
  refine lf0 (P := fun u => ∀ w3, mW (d + 3 + 1) 192 2 [.ref 415, .int (nI p), .int (nI u), w3] [] (wI A f) Q) (X := fun u => Q (.inl (some (.int 1))) (wI A (m_pass p u false f))) n (m_rest n p f) (fun u hu i1 i2 w3 => ?_) (fun u hu => h1 _ hu) (fun hu w3 => ?_) _
  · have hx := fr_lt (f := f) (u := u) hp (by omega)
    unfold m_rest at i1 i2
    have fin : Q (.inl (some (.int 1))) (wI A (m_pass p u false f)) → mC (d + 3) 187 [.ref 415, .int (nI p), .int (nI u), .int 0] (wI A f) (am_cv (fun B => Q (.inl (some (.int 1))) B)) := fun hq => r_pass (ordered := false) hS hp (by omega) hG (fun e => by cases e) hq
    refine x_192_2 (shw hS) ⟨fun _ => r_hasF hS hp (by omega) ?_, fun c => absurd ?_ c⟩
    · show _ ∧ _
      simp (disch := first | decide | omega) only [wI_I, wI_s, wI_P, wI_L, forall_eq, m2, m3, m5, m6, m7, m36, m46, m64, m256, m320, nI_add, k1, k2, k3, k4, k5, k6, k7, k8, k9, k10, k11, k12, k13, k64, nI_clamp, nI_ltI, nI_leI, nI_eq, u2_s, u2_a, u2_i, ixT, bi_z, bi_nz, bi_n1, bi_o1, true_and, and_true, true_implies, not_true, not_false_iff, Bool.not_eq_false, Bool.not_eq_true, forall_const, ne_eq, Classical.not_not, and_self]
      refine ⟨fun c3 => i2 (by rw [c3]; rfl) _, fun c3 => r_front hS hp (by omega) hG ?_⟩
      rw [c3] at i1 i2
      show _ ∧ _
      simp (disch := first | decide | omega) only [wI_I, wI_s, wI_P, wI_L, forall_eq, m2, m3, m5, m6, m7, m36, m46, m64, m256, m320, nI_add, k1, k2, k3, k4, k5, k6, k7, k8, k9, k10, k11, k12, k13, k64, nI_clamp, nI_ltI, nI_leI, nI_eq, u2_s, u2_a, u2_i, ixT, bi_z, bi_nz, bi_n1, bi_o1, true_and, and_true, true_implies, not_true, not_false_iff, Bool.not_eq_false, Bool.not_eq_true, forall_const, ne_eq, Classical.not_not, and_self]
      refine ⟨fun c4 => fin (i1 (by rw [decide_eq_true c4]; rfl)), fun c4 => ⟨fun c5 => fin (i1 (by rw [decide_eq_true (p := _ = (0 : Int32)) c5]; simp)), fun c5 => r_isClear hS hn hn6 hp hx ?_⟩⟩
      rw [decide_eq_false c4, decide_eq_false c5] at i1 i2
      show _ ∧ _
      simp (disch := first | decide | omega) only [wI_I, wI_s, wI_P, wI_L, forall_eq, m2, m3, m5, m6, m7, m36, m46, m64, m256, m320, nI_add, k1, k2, k3, k4, k5, k6, k7, k8, k9, k10, k11, k12, k13, k64, nI_clamp, nI_ltI, nI_leI, nI_eq, u2_s, u2_a, u2_i, ixT, bi_z, bi_nz, bi_n1, bi_o1, true_and, and_true, true_implies, not_true, not_false_iff, Bool.not_eq_false, Bool.not_eq_true, forall_const, ne_eq, Classical.not_not, and_self]
      exact ⟨fun c6 => i2 (by rw [c6]; rfl) _, fun c6 => fin (i1 (by rw [c6]; rfl))⟩
    · simp (disch := first | decide | omega) only [wI_I, wI_s, wI_P, wI_L, forall_eq, m2, m3, m5, m6, m7, m36, m46, m64, m256, m320, nI_add, k1, k2, k3, k4, k5, k6, k7, k8, k9, k10, k11, k12, k13, k64, nI_clamp, nI_ltI, nI_leI, nI_eq, u2_s, u2_a, u2_i, ixT, bi_z, bi_nz, bi_n1, bi_o1, true_and, and_true, true_implies, not_true, not_false_iff, Bool.not_eq_false, Bool.not_eq_true, forall_const, ne_eq, Classical.not_not, and_self, hn]; exact hu
  · refine x_192_2 (shw hS) ⟨fun c => absurd c ?_, fun _ => h2 hu⟩
    simp (disch := first | decide | omega) only [wI_I, wI_s, wI_P, wI_L, forall_eq, m2, m3, m5, m6, m7, m36, m46, m64, m256, m320, nI_add, k1, k2, k3, k4, k5, k6, k7, k8, k9, k10, k11, k12, k13, k64, nI_clamp, nI_ltI, nI_leI, nI_eq, u2_s, u2_a, u2_i, ixT, bi_z, bi_nz, bi_n1, bi_o1, true_and, and_true, true_implies, not_true, not_false_iff, Bool.not_eq_false, Bool.not_eq_true, forall_const, ne_eq, Classical.not_not, and_self, hn]; omega
theorem e1_some {c : Nat} {g : hs} (h : m_one n p true f = some g) : m_e1 n p (c + 1) f = m_e1 n p c g := by
  show (match m_one n p true f with | some f1 => m_e1 n p c f1 | none => _) = _
  rw [h]
theorem e1_none {c : Nat} (h : m_one n p true f = none) : m_e1 n p c f = f := by
  cases c with
  | zero => rfl
  | succ c => show (match m_one n p true f with | some f1 => m_e1 n p c f1 | none => f) = _; rw [h]
theorem e2_some {c u : Nat} (h : fi (m_rest n p f) 0 n = some u) : m_e2 n p (c + 1) f = m_e2 n p c (m_pass p u false f) := by
  show (match fi (m_rest n p f) 0 n with | some u => m_e2 n p c (m_pass p u false f) | none => _) = _
  rw [h]
theorem e2_none {c : Nat} (h : fi (m_rest n p f) 0 n = none) : m_e2 n p c f = f := by
  cases c with
  | zero => rfl
  | succ c => show (match fi (m_rest n p f) 0 n with | some u => m_e2 n p c (m_pass p u false f) | none => f) = _; rw [h]
theorem r_e2 {b : Nat} (hS : Sh A) (hp : p < 6) : ∀ c (f : hs), (∀ j, okW n b p (m_e2 n p j f)) → fi (m_rest n p (m_e2 n p c f)) 0 n = none → Q (.inl none) (wI A (m_e2 n p c f)) → mW (d + 5) 193 25 [.ref 415, .int (nI p), .int 1] [] (wI A f) Q := by
  intro c
  induction c with
  | zero =>
    intro f hO h1 h
    have h1' : fi (m_rest n p f) 0 n = none := h1
    obtain ⟨oB, oG, oH⟩ : okW n b p f := hO 0
    refine x_193_25 (shw hS) ⟨fun c => absurd c (by decide), fun _ => ?_⟩
    refine r_rest hS oB.1 oB.2.1 hp oG (fun g hg => by rw [h1'] at hg; cases hg) (fun _ => ?_)
    exact x_193_25 (shw hS) ⟨fun _ => h, fun c => absurd rfl c⟩
  | succ c ih =>
    intro f hO h1 h
    obtain ⟨oB, oG, oH⟩ : okW n b p f := hO 0
    refine x_193_25 (shw hS) ⟨fun c => absurd c (by decide), fun _ => ?_⟩
    refine r_rest hS oB.1 oB.2.1 hp oG (fun u hg => ?_) (fun hg => ?_)
    · rw [e2_some hg] at h1 h
      exact ih _ (fun j => by have := hO (j + 1); rw [e2_some hg] at this; exact this) h1 h
    · rw [e2_none hg] at h
      exact x_193_25 (shw hS) ⟨fun _ => h, fun c => absurd rfl c⟩
/-- ending a view ends, in bounds all the way -/
def okE (n b p : Nat) (f : hs) : Prop := (∀ j, okW n b p (m_e1 n p j f)) ∧ m_one n p true (m_e1 n p 500 f) = none ∧ (∀ j, okW n b p (m_e2 n p j (am_u2 (m_e1 n p 500 f) 449 p 0))) ∧ fi (m_rest n p (m_end n p f)) 0 n = none
theorem r_e1 {b : Nat} (hS : Sh A) (hp : p < 6) : ∀ c (f : hs), (∀ j, okW n b p (m_e1 n p j f)) → m_one n p true (m_e1 n p c f) = none → mW (d + 5) 193 25 [.ref 415, .int (nI p), .int 1] [] (wI A (am_u2 (m_e1 n p c f) 449 p 0)) Q → mW (d + 5) 193 2 [.ref 415, .int (nI p), .int 1] [] (wI A f) Q := by
  intro c
  induction c with
  | zero =>
    intro f hO h1 h
    have h1' : m_one n p true f = none := h1
    obtain ⟨oB, oG, oH⟩ : okW n b p f := hO 0
    refine x_193_2 (shw hS) ⟨fun c => absurd c (by decide), fun _ => ?_⟩
    refine r_one (ends := true) hS oB.1 oB.2.1 hp oG oH (fun g hg => by rw [h1'] at hg; cases hg) (fun _ => ?_)
    refine x_193_2 (shw hS) ⟨fun _ => ?_, fun c => absurd rfl c⟩
    simp (disch := first | decide | omega) only [wI_I, wI_s, wI_P, wI_L, forall_eq, m2, m3, m5, m6, m7, m36, m46, m64, m256, m320, nI_add, k1, k2, k3, k4, k5, k6, k7, k8, k9, k10, k11, k12, k13, k64, nI_clamp, nI_ltI, nI_leI, nI_eq, u2_s, u2_a, u2_i, ixT, bi_z, bi_nz, bi_n1, bi_o1, true_and, and_true, true_implies, not_true, not_false_iff, Bool.not_eq_false, Bool.not_eq_true, forall_const, ne_eq, Classical.not_not, and_self]
    exact h
  | succ c ih =>
    intro f hO h1 h
    obtain ⟨oB, oG, oH⟩ : okW n b p f := hO 0
    refine x_193_2 (shw hS) ⟨fun c => absurd c (by decide), fun _ => ?_⟩
    refine r_one (ends := true) hS oB.1 oB.2.1 hp oG oH (fun g hg => ?_) (fun hg => ?_)
    · rw [e1_some hg] at h1 h
      exact ih g (fun j => by have := hO (j + 1); rw [e1_some hg] at this; exact this) h1 h
    · rw [e1_none hg] at h
      refine x_193_2 (shw hS) ⟨fun _ => ?_, fun c => absurd rfl c⟩
      simp (disch := first | decide | omega) only [wI_I, wI_s, wI_P, wI_L, forall_eq, m2, m3, m5, m6, m7, m36, m46, m64, m256, m320, nI_add, k1, k2, k3, k4, k5, k6, k7, k8, k9, k10, k11, k12, k13, k64, nI_clamp, nI_ltI, nI_leI, nI_eq, u2_s, u2_a, u2_i, ixT, bi_z, bi_nz, bi_n1, bi_o1, true_and, and_true, true_implies, not_true, not_false_iff, Bool.not_eq_false, Bool.not_eq_true, forall_const, ne_eq, Classical.not_not, and_self]
      exact h
theorem r_end {b : Nat} (hS : Sh A) (hp : p < 6) (hO : okE n b p f) (h : Q (.inl none) (wI A (m_end n p f))) : mC (d + 5) 193 [.ref 415, .int (nI p)] (wI A f) Q :=
  x_193_0 (shw hS) (r_e1 hS hp 500 f hO.1 hO.2.1 (r_e2 hS hp 500 _ hO.2.2.1 hO.2.2.2 h))
end
