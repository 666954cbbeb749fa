/-! The reference's methods do what the model says: its other calls. -/
section
variable {A : am_A} {f : hs} {Q : am_Res → am_A → Prop} {d n p q u t m r s w : Nat}
theorem r_goOut (hS : Sh A) (hp : p < 6) (hev : ¬ f 424 p < 0) (h : Q (.inl none) (wI A (m_goOut p f))) : mC (d + 2) 170 [.ref 415, .int (nI p)] (wI A f) Q := by
  refine x_170_0 (shw hS) ?_
  simp (disch := first | decide | omega) only [wI_I, wI_s, wI_P, wI_L, forall_eq, m2, m3, m5, m6, m7, m36, m46, m64, m256, m320, nI_add, k1, k2, k3, k4, k5, k6, k7, k8, k9, k10, k11, k12, k13, k64, nI_clamp, nI_ltI, nI_leI, nI_eq, u2_s, u2_a, u2_i, ixT, bi_z, bi_nz, bi_n1, bi_o1, true_and, and_true, true_implies, not_true, not_false_iff, Bool.not_eq_false, Bool.not_eq_true, forall_const, ne_eq, Classical.not_not, and_self]
  exact r_note hS hp (by simp (disch := first | decide | omega) only [u2_a]; exact hev) h
/-- BYE to the others of the view, then out -/
def m_leave (n p : Nat) (f : hs) : hs := m_goOut p (fo (fun q f => if m_other p (f 433 p) q then m_ship p q 8 f else f) 0 n (m_start f))
theorem r_leave {x : Int32} {b : Nat} (hS : Sh A) (hB : B0 n b f) (hev : ∀ p, p < n → ¬ f 424 p < 0) (h1 : (∀ p, p < n → x ≠ nI p) → Q (.inl none) (wI A (m_th 1 f))) (h2 : ∀ p, p < n → x = nI p → f 423 p = 0 → Q (.inl none) (wI A (m_th 2 f))) (h3 : ∀ p, p < n → x = nI p → ¬ f 423 p = 0 → Q (.inl none) (wI A (m_leave n p (m_th 0 f)))) : mC (d + 3) 171 [.ref 415, .int x] (wI A f) Q := by
  have hn6 := hB.2.1
  refine x_171_0 (shw hS) (r_isP hS hB.1 hn6 (fun e => ?_) (fun p hp e => ?_))
  · refine ⟨fun _ => ⟨fun _ => h1 e, fun c => absurd ?_ c⟩, fun c => absurd rfl c⟩
    simp (disch := first | decide | omega) only [wI_I, wI_s, wI_P, wI_L, forall_eq, m2, m3, m5, m6, m7, m36, m46, m64, m256, m320, nI_add, k1, k2, k3, k4, k5, k6, k7, k8, k9, k10, k11, k12, k13, k64, nI_clamp, nI_ltI, nI_leI, nI_eq, u2_s, u2_a, u2_i, ixT, bi_z, bi_nz, bi_n1, bi_o1, true_and, and_true, true_implies, not_true, not_false_iff, Bool.not_eq_false, Bool.not_eq_true, forall_const, ne_eq, Classical.not_not, and_self]; exact pos1
  · refine ⟨fun c => absurd c (by decide), fun _ => ?_⟩
    subst e
    simp (disch := first | decide | omega) only [wI_I, wI_s, wI_P, wI_L, forall_eq, m2, m3, m5, m6, m7, m36, m46, m64, m256, m320, nI_add, k1, k2, k3, k4, k5, k6, k7, k8, k9, k10, k11, k12, k13, k64, nI_clamp, nI_ltI, nI_leI, nI_eq, u2_s, u2_a, u2_i, ixT, bi_z, bi_nz, bi_n1, bi_o1, true_and, and_true, true_implies, not_true, not_false_iff, Bool.not_eq_false, Bool.not_eq_true, forall_const, ne_eq, Classical.not_not, and_self]
    refine ⟨fun c => ⟨fun _ => h2 p hp rfl c, fun q => absurd pos2 q⟩, fun c => ⟨fun q => absurd q npos0, fun _ => ?_⟩⟩
    have h3 := h3 p hp rfl c
    unfold m_leave at h3
    refine r_startBody hS ?_
    refine (lp0 (P := fun q g => B0 n b g → wr g 0 → g 424 p = f 424 p → mW (d + 2 + 1) 171 44 [.ref 415, .int (nI p), .int (nI q)] [] (wI A g) Q) n (fun q f => if m_other p (f 433 p) q then m_ship p q 8 f else f) (fun q x hq ih i1 i2 i3 => ?_) (fun i1 i2 i3 => ?_)) hB.th.start (wr_0 _) (by rw [m_start_a (by decide), u2_a (by decide)])
    · refine x_171_44 (shw hS) ⟨fun _ => ?_, fun c => absurd ?_ c⟩
      · simp (disch := first | decide | omega) only [wI_I, wI_s, wI_P, wI_L, forall_eq, m2, m3, m5, m6, m7, m36, m46, m64, m256, m320, nI_add, k1, k2, k3, k4, k5, k6, k7, k8, k9, k10, k11, k12, k13, k64, nI_clamp, nI_ltI, nI_leI, nI_eq, u2_s, u2_a, u2_i, ixT, bi_z, bi_nz, bi_n1, bi_o1, true_and, and_true, true_implies, not_true, not_false_iff, Bool.not_eq_false, Bool.not_eq_true, forall_const, ne_eq, Classical.not_not, and_self]
        unfold m_other at ih
        refine ⟨fun c => ?_, fun c => r_has (shw hS) (by omega) ?_⟩
        · rw [if_neg (by rw [decide_eq_false (fun q => q c)]; simp)] at ih; exact ih i1 i2 i3
        · show _ ∧ _
          simp (disch := first | decide | omega) only [wI_I, wI_s, wI_P, wI_L, forall_eq, m2, m3, m5, m6, m7, m36, m46, m64, m256, m320, nI_add, k1, k2, k3, k4, k5, k6, k7, k8, k9, k10, k11, k12, k13, k64, nI_clamp, nI_ltI, nI_leI, nI_eq, u2_s, u2_a, u2_i, ixT, bi_z, bi_nz, bi_n1, bi_o1, true_and, and_true, true_implies, not_true, not_false_iff, Bool.not_eq_false, Bool.not_eq_true, forall_const, ne_eq, Classical.not_not, and_self]
          refine ⟨fun c2 => ?_, fun c2 => ?_⟩
          · rw [if_neg (by rw [c2]; simp)] at ih; exact ih i1 i2 i3
          · rw [if_pos (by rw [c2, decide_eq_true c]; rfl)] at ih
            exact r_ship hS (by omega) i1.2.2.ok i2 (by decide) (ih i1.ship (wr_ship i2) (by rw [ship_a (by decide) (by decide) (by decide) (by decide) (by decide)]; exact i3))
      · simp (disch := first | decide | omega) only [wI_I, wI_s, wI_P, wI_L, forall_eq, m2, m3, m5, m6, m7, m36, m46, m64, m256, m320, nI_add, k1, k2, k3, k4, k5, k6, k7, k8, k9, k10, k11, k12, k13, k64, nI_clamp, nI_ltI, nI_leI, nI_eq, u2_s, u2_a, u2_i, ixT, bi_z, bi_nz, bi_n1, bi_o1, true_and, and_true, true_implies, not_true, not_false_iff, Bool.not_eq_false, Bool.not_eq_true, forall_const, ne_eq, Classical.not_not, and_self, i1.1]; exact hq
    · refine x_171_44 (shw hS) ⟨fun c => absurd c ?_, fun _ => ?_⟩
      · simp (disch := first | decide | omega) only [wI_I, wI_s, wI_P, wI_L, forall_eq, m2, m3, m5, m6, m7, m36, m46, m64, m256, m320, nI_add, k1, k2, k3, k4, k5, k6, k7, k8, k9, k10, k11, k12, k13, k64, nI_clamp, nI_ltI, nI_leI, nI_eq, u2_s, u2_a, u2_i, ixT, bi_z, bi_nz, bi_n1, bi_o1, true_and, and_true, true_implies, not_true, not_false_iff, Bool.not_eq_false, Bool.not_eq_true, forall_const, ne_eq, Classical.not_not, and_self, i1.1]; omega
      · exact r_goOut hS (by omega) (by rw [i3]; exact hev p hp) h3
theorem r_crash {x : Int32} (hS : Sh A) (hn : f 415 1 = nI n) (hn6 : n ≤ 6) (hev : ∀ p, p < n → ¬ f 424 p < 0) (h1 : (∀ p, p < n → x ≠ nI p) → Q (.inl none) (wI A (m_th 1 f))) (h2 : ∀ p, p < n → x = nI p → f 423 p = 0 → Q (.inl none) (wI A (m_th 2 f))) (h3 : ∀ p, p < n → x = nI p → ¬ f 423 p = 0 → Q (.inl none) (wI A (m_goOut p (m_th 0 f)))) : mC (d + 3) 172 [.ref 415, .int x] (wI A f) Q := by
  refine x_172_0 (shw hS) (r_isP hS hn hn6 (fun e => ?_) (fun p hp e => ?_))
  · refine ⟨fun _ => ⟨fun c => absurd c ?_, fun _ => h1 e⟩, fun c => absurd rfl c⟩
    simp (disch := first | decide | omega) only [wI_I, wI_s, wI_P, wI_L, forall_eq, m2, m3, m5, m6, m7, m36, m46, m64, m256, m320, nI_add, k1, k2, k3, k4, k5, k6, k7, k8, k9, k10, k11, k12, k13, k64, nI_clamp, nI_ltI, nI_leI, nI_eq, u2_s, u2_a, u2_i, ixT, bi_z, bi_nz, bi_n1, bi_o1, true_and, and_true, true_implies, not_true, not_false_iff, Bool.not_eq_false, Bool.not_eq_true, forall_const, ne_eq, Classical.not_not, and_self]; decide
  · refine ⟨fun c => absurd c (by decide), fun _ => ?_⟩
    subst e
    simp (disch := first | decide | omega) only [wI_I, wI_s, wI_P, wI_L, forall_eq, m2, m3, m5, m6, m7, m36, m46, m64, m256, m320, nI_add, k1, k2, k3, k4, k5, k6, k7, k8, k9, k10, k11, k12, k13, k64, nI_clamp, nI_ltI, nI_leI, nI_eq, u2_s, u2_a, u2_i, ixT, bi_z, bi_nz, bi_n1, bi_o1, true_and, and_true, true_implies, not_true, not_false_iff, Bool.not_eq_false, Bool.not_eq_true, forall_const, ne_eq, Classical.not_not, and_self]
    refine ⟨fun c => ⟨fun q => absurd q (by decide), fun _ => h2 p hp rfl c⟩, fun c => ?_⟩
    exact ⟨r_goOut (f := m_th 0 f) hS (by omega) (by rw [th_a (by decide)]; exact hev p hp) (h3 p hp rfl c), fun q => q.elim⟩
theorem sort_in {x : Int32} : (decide (0 ≤ x) && decide (x ≤ 3)) = true ↔ 0 ≤ x ∧ x ≤ 3 := by rw [Bool.and_eq_true, decide_eq_true_eq, decide_eq_true_eq]
theorem r_send {x y v : Int32} {b : Nat} (hS : Sh A) (hB : B0 n b f)
    (h1 : ((∀ p, p < n → x ≠ nI p) ∨ ¬ (0 ≤ y ∧ y ≤ 3)) → Q (.inl (some (.int 0))) (wI A (m_th 1 f)))
    (h2 : ∀ p, p < n → x = nI p → 0 ≤ y ∧ y ≤ 3 → f 423 p = 0 → Q (.inl (some (.int 0))) (wI A (m_th 2 f)))
    (h3 : ∀ p, p < n → x = nI p → 0 ≤ y ∧ y ≤ 3 → ¬ f 423 p = 0 → ¬ f 436 p = 0 → Q (.inl (some (.int (-1)))) (wI A (m_th 0 f)))
    (h4 : ∀ p, p < n → x = nI p → 0 ≤ y ∧ y ≤ 3 → ¬ f 423 p = 0 → f 436 p = 0 → ¬ f 441 (6 * p + p) - m_stable n p (m_th 0 f) < 8 → Q (.inl (some (.int (-2)))) (wI A (m_th 0 f)))
    (h5 : ∀ p, p < n → x = nI p → 0 ≤ y ∧ y ≤ 3 → ¬ f 423 p = 0 → f 436 p = 0 → f 441 (6 * p + p) - m_stable n p (m_th 0 f) < 8 → okG p (m_th 0 f) ∧ okWk n b p (m_post n p y v (m_th 0 f)) ∧ Q (.inl (some (.int (m_post n p y v (m_th 0 f) 441 (6 * p + p))))) (wI A (m_work n p (m_post n p y v (m_th 0 f))))) : mC (d + 7) 230 [.ref 415, .int x, .int y, .int v] (wI A f) Q := by
  have hn6 := hB.2.1
  have one : ∀ w4, ((∀ p, p < n → x ≠ nI p) ∨ ¬ (0 ≤ y ∧ y ≤ 3)) → mW (d + 6 + 1) 230 18 [.ref 415, .int x, .int y, .int v, w4] [.ref 415] (wI A f) Q := fun w4 e => by
    refine x_230_18 (shw hS) (x_230_36 (shw hS) ⟨fun _ => h1 e, fun c => absurd ?_ c⟩)
    simp (disch := first | decide | omega) only [wI_I, wI_s, wI_P, wI_L, forall_eq, m2, m3, m5, m6, m7, m36, m46, m64, m256, m320, nI_add, k1, k2, k3, k4, k5, k6, k7, k8, k9, k10, k11, k12, k13, k64, nI_clamp, nI_ltI, nI_leI, nI_eq, u2_s, u2_a, u2_i, ixT, bi_z, bi_nz, bi_n1, bi_o1, true_and, and_true, true_implies, not_true, not_false_iff, Bool.not_eq_false, Bool.not_eq_true, forall_const, ne_eq, Classical.not_not, and_self]; exact pos1
  refine x_230_0 (shw hS) (r_isP hS hB.1 hn6 (fun e => ⟨fun _ => one _ (Or.inl e), fun c => absurd rfl c⟩) (fun p hp e => ⟨fun c => absurd c (by decide), fun _ => ?_⟩))
  refine r_within (shw hS) ?_
  show _ ∧ _
  rw [bi_z, Bool.not_eq_false]
  refine ⟨fun c => one _ (Or.inr (fun q => by rw [sort_in.mpr q] at c; cases c)), fun c => ?_⟩
  have c := sort_in.mp c
  subst e
  simp (disch := first | decide | omega) only [wI_I, wI_s, wI_P, wI_L, forall_eq, m2, m3, m5, m6, m7, m36, m46, m64, m256, m320, nI_add, k1, k2, k3, k4, k5, k6, k7, k8, k9, k10, k11, k12, k13, k64, nI_clamp, nI_ltI, nI_leI, nI_eq, u2_s, u2_a, u2_i, ixT, bi_z, bi_nz, bi_n1, bi_o1, true_and, and_true, true_implies, not_true, not_false_iff, Bool.not_eq_false, Bool.not_eq_true, forall_const, ne_eq, Classical.not_not, and_self]
  refine ⟨fun c2 => ?_, fun c2 => ?_⟩
  · refine x_230_36 (shw hS) ⟨fun _ => h2 p hp rfl c c2, fun q => absurd ?_ q⟩
    simp (disch := first | decide | omega) only [wI_I, wI_s, wI_P, wI_L, forall_eq, m2, m3, m5, m6, m7, m36, m46, m64, m256, m320, nI_add, k1, k2, k3, k4, k5, k6, k7, k8, k9, k10, k11, k12, k13, k64, nI_clamp, nI_ltI, nI_leI, nI_eq, u2_s, u2_a, u2_i, ixT, bi_z, bi_nz, bi_n1, bi_o1, true_and, and_true, true_implies, not_true, not_false_iff, Bool.not_eq_false, Bool.not_eq_true, forall_const, ne_eq, Classical.not_not, and_self]; exact pos2
  · refine x_230_36 (shw hS) ⟨fun q => absurd q ?_, fun _ => ?_⟩
    · simp (disch := first | decide | omega) only [wI_I, wI_s, wI_P, wI_L, forall_eq, m2, m3, m5, m6, m7, m36, m46, m64, m256, m320, nI_add, k1, k2, k3, k4, k5, k6, k7, k8, k9, k10, k11, k12, k13, k64, nI_clamp, nI_ltI, nI_leI, nI_eq, u2_s, u2_a, u2_i, ixT, bi_z, bi_nz, bi_n1, bi_o1, true_and, and_true, true_implies, not_true, not_false_iff, Bool.not_eq_false, Bool.not_eq_true, forall_const, ne_eq, Classical.not_not, and_self]; exact npos0
    · simp (disch := first | decide | omega) only [wI_I, wI_s, wI_P, wI_L, forall_eq, m2, m3, m5, m6, m7, m36, m46, m64, m256, m320, nI_add, k1, k2, k3, k4, k5, k6, k7, k8, k9, k10, k11, k12, k13, k64, nI_clamp, nI_ltI, nI_leI, nI_eq, u2_s, u2_a, u2_i, ixT, bi_z, bi_nz, bi_n1, bi_o1, true_and, and_true, true_implies, not_true, not_false_iff, Bool.not_eq_false, Bool.not_eq_true, forall_const, ne_eq, Classical.not_not, and_self]
      refine ⟨fun c3 => r_stable hS hB.th.1 hn6 (by omega) ?_, fun c3 => h3 p hp rfl c c2 c3⟩
      show _ ∧ _
      refine ⟨fun c4 => ?_, fun c4 => h4 p hp rfl c c2 c3 c4⟩
      obtain ⟨i1, i2, i3⟩ := h5 p hp rfl c c2 c3 c4
      refine r_post hS hB.th (by omega) i1 ?_
      exact r_work hS (by omega) i2 i3
def m_left (n : Nat) (x : Int32) : Int32 := fo (fun _ x => x / 3) 0 n x
def m_part (n : Nat) (x : Int32) (f : hs) : hs := (fo (fun p (g : hs × Int32) => (am_u2 g.1 422 p (g.2 - g.2 / 3 * 3), g.2 / 3)) 0 n (f, x)).1
theorem r_part {x : Int32} (hS : Sh A) (hn : f 415 1 = nI n) (hn6 : n ≤ 6) (h1 : x < 0 ∨ 0 < m_left n x → Q (.inl none) (wI A (m_th 1 f))) (h2 : ¬ x < 0 → ¬ 0 < m_left n x → Q (.inl none) (wI A (m_part n x (m_th 0 f)))) : mC (d + 1) 231 [.ref 415, .int x] (wI A f) Q := by
  refine x_231_0 (shw hS) ?_
  refine lp0 (P := fun q y => mW (d + 1) 231 4 [.ref 415, .int x, .int y, .int (nI q)] [] (wI A f) Q) n (fun _ x => x / 3) (fun q y hq ih => ?_) ?_
  · refine x_231_4 (shw hS) ⟨fun _ => ?_, fun c => absurd ?_ c⟩
    · simp (disch := first | decide | omega) only [wI_I, wI_s, wI_P, wI_L, forall_eq, m2, m3, m5, m6, m7, m36, m46, m64, m256, m320, nI_add, k1, k2, k3, k4, k5, k6, k7, k8, k9, k10, k11, k12, k13, k64, nI_clamp, nI_ltI, nI_leI, nI_eq, u2_s, u2_a, u2_i, ixT, bi_z, bi_nz, bi_n1, bi_o1, true_and, and_true, true_implies, not_true, not_false_iff, Bool.not_eq_false, Bool.not_eq_true, forall_const, ne_eq, Classical.not_not, and_self]; exact ih
    · simp (disch := first | decide | omega) only [wI_I, wI_s, wI_P, wI_L, forall_eq, m2, m3, m5, m6, m7, m36, m46, m64, m256, m320, nI_add, k1, k2, k3, k4, k5, k6, k7, k8, k9, k10, k11, k12, k13, k64, nI_clamp, nI_ltI, nI_leI, nI_eq, u2_s, u2_a, u2_i, ixT, bi_z, bi_nz, bi_n1, bi_o1, true_and, and_true, true_implies, not_true, not_false_iff, Bool.not_eq_false, Bool.not_eq_true, forall_const, ne_eq, Classical.not_not, and_self, hn]; exact hq
  · refine x_231_4 (shw hS) ⟨fun c => absurd c ?_, fun _ => ?_⟩
    · simp (disch := first | decide | omega) only [wI_I, wI_s, wI_P, wI_L, forall_eq, m2, m3, m5, m6, m7, m36, m46, m64, m256, m320, nI_add, k1, k2, k3, k4, k5, k6, k7, k8, k9, k10, k11, k12, k13, k64, nI_clamp, nI_ltI, nI_leI, nI_eq, u2_s, u2_a, u2_i, ixT, bi_z, bi_nz, bi_n1, bi_o1, true_and, and_true, true_implies, not_true, not_false_iff, Bool.not_eq_false, Bool.not_eq_true, forall_const, ne_eq, Classical.not_not, and_self, hn]; omega
    · refine ⟨fun c => ⟨fun _ => h1 (Or.inl c), fun q => absurd ?_ q⟩, fun c => ⟨fun c2 => ⟨fun _ => h1 (Or.inr c2), fun q => absurd ?_ q⟩, fun c2 => ⟨fun q => absurd q ?_, fun _ => ?_⟩⟩⟩
      · simp (disch := first | decide | omega) only [wI_I, wI_s, wI_P, wI_L, forall_eq, m2, m3, m5, m6, m7, m36, m46, m64, m256, m320, nI_add, k1, k2, k3, k4, k5, k6, k7, k8, k9, k10, k11, k12, k13, k64, nI_clamp, nI_ltI, nI_leI, nI_eq, u2_s, u2_a, u2_i, ixT, bi_z, bi_nz, bi_n1, bi_o1, true_and, and_true, true_implies, not_true, not_false_iff, Bool.not_eq_false, Bool.not_eq_true, forall_const, ne_eq, Classical.not_not, and_self]; exact pos1
      · simp (disch := first | decide | omega) only [wI_I, wI_s, wI_P, wI_L, forall_eq, m2, m3, m5, m6, m7, m36, m46, m64, m256, m320, nI_add, k1, k2, k3, k4, k5, k6, k7, k8, k9, k10, k11, k12, k13, k64, nI_clamp, nI_ltI, nI_leI, nI_eq, u2_s, u2_a, u2_i, ixT, bi_z, bi_nz, bi_n1, bi_o1, true_and, and_true, true_implies, not_true, not_false_iff, Bool.not_eq_false, Bool.not_eq_true, forall_const, ne_eq, Classical.not_not, and_self]; exact pos1
      · simp (disch := first | decide | omega) only [wI_I, wI_s, wI_P, wI_L, forall_eq, m2, m3, m5, m6, m7, m36, m46, m64, m256, m320, nI_add, k1, k2, k3, k4, k5, k6, k7, k8, k9, k10, k11, k12, k13, k64, nI_clamp, nI_ltI, nI_leI, nI_eq, u2_s, u2_a, u2_i, ixT, bi_z, bi_nz, bi_n1, bi_o1, true_and, and_true, true_implies, not_true, not_false_iff, Bool.not_eq_false, Bool.not_eq_true, forall_const, ne_eq, Classical.not_not, and_self]; exact npos0
      · have h2 := h2 c c2
        refine (lp0 (P := fun q (g : hs × Int32) => g.1 415 1 = nI n → ∀ w1, mW (d + 1) 231 51 [.ref 415, w1, .int g.2, .int (nI q)] [] (wI A g.1) Q) (x := (m_th 0 f, x)) n (fun p (g : hs × Int32) => (am_u2 g.1 422 p (g.2 - g.2 / 3 * 3), g.2 / 3)) (fun q y hq ih i1 w1 => ?_) (fun i1 w1 => ?_)) ((th_n (t := 0) (by decide)).trans hn) _
        · refine x_231_51 (shw hS) ⟨fun _ => ?_, fun c => absurd ?_ c⟩
          · simp (disch := first | decide | omega) only [wI_I, wI_s, wI_P, wI_L, forall_eq, m2, m3, m5, m6, m7, m36, m46, m64, m256, m320, nI_add, k1, k2, k3, k4, k5, k6, k7, k8, k9, k10, k11, k12, k13, k64, nI_clamp, nI_ltI, nI_leI, nI_eq, u2_s, u2_a, u2_i, ixT, bi_z, bi_nz, bi_n1, bi_o1, true_and, and_true, true_implies, not_true, not_false_iff, Bool.not_eq_false, Bool.not_eq_true, forall_const, ne_eq, Classical.not_not, and_self]
            exact ih (by show am_u2 y.1 422 q (y.2 - y.2 / 3 * 3) 415 1 = nI n; rw [u2_a (by decide)]; exact i1) _
          · simp (disch := first | decide | omega) only [wI_I, wI_s, wI_P, wI_L, forall_eq, m2, m3, m5, m6, m7, m36, m46, m64, m256, m320, nI_add, k1, k2, k3, k4, k5, k6, k7, k8, k9, k10, k11, k12, k13, k64, nI_clamp, nI_ltI, nI_leI, nI_eq, u2_s, u2_a, u2_i, ixT, bi_z, bi_nz, bi_n1, bi_o1, true_and, and_true, true_implies, not_true, not_false_iff, Bool.not_eq_false, Bool.not_eq_true, forall_const, ne_eq, Classical.not_not, and_self, i1]; exact hq
        · refine x_231_51 (shw hS) ⟨fun c => absurd c ?_, fun _ => h2⟩
          simp (disch := first | decide | omega) only [wI_I, wI_s, wI_P, wI_L, forall_eq, m2, m3, m5, m6, m7, m36, m46, m64, m256, m320, nI_add, k1, k2, k3, k4, k5, k6, k7, k8, k9, k10, k11, k12, k13, k64, nI_clamp, nI_ltI, nI_leI, nI_eq, u2_s, u2_a, u2_i, ixT, bi_z, bi_nz, bi_n1, bi_o1, true_and, and_true, true_implies, not_true, not_false_iff, Bool.not_eq_false, Bool.not_eq_true, forall_const, ne_eq, Classical.not_not, and_self, i1]; omega
theorem r_tickC {b : Nat} (hS : Sh A) (hT : okTk n b (m_th 0 f)) (h : Q (.inl (some (.int (m_tick n (m_th 0 f) 415 5)))) (wI A (m_tick n (m_th 0 f)))) : mC (d + 14) 232 [.ref 415] (wI A f) Q :=
  x_232_0 (shw hS) (r_tick hS hT h)
/-- x is the place of a packet, or none -/
theorem pkt_or {x : Int32} {un : Nat} (hu : un ≤ 600) : (decide (0 ≤ x) && decide (x ≤ nI un - 1)) = false ∧ (∀ k, k < un → x ≠ nI k) ∨ ∃ k, k < un ∧ x = nI k ∧ (decide (0 ≤ x) && decide (x ≤ nI un - 1)) = true := by
  by_cases h0 : x < 0
  · exact Or.inl ⟨by rw [decide_eq_false (Int32.not_le.mpr h0)]; rfl, fun k hk e => absurd h0 (by rw [e]; exact nI_pos (by omega))⟩
  · obtain ⟨j, hj, rfl⟩ := nI_of h0
    have d0 : decide ((0 : Int32) ≤ nI j) = true := decide_eq_true (Int32.not_lt.mp h0)
    rcases Nat.eq_zero_or_pos un with hz | hz
    · subst hz
      refine Or.inl ⟨?_, fun k hk => absurd hk (by omega)⟩
      rw [d0, Bool.true_and, dn_z]
      exact decide_eq_false (fun q => absurd (Int32.not_lt.mpr q) (by
        intro w
        exact w (Int32.lt_iff_toInt_lt.mpr (by rw [nI_toInt hj]; have : ((-1 : Int32)).toInt = -1 := by decide
                                               rw [this]; omega))))
    · rw [nI_sub1 hz]
      by_cases hj2 : j < un
      · exact Or.inr ⟨j, hj2, rfl, by rw [d0, Bool.true_and]; exact decide_eq_true ((nI_leI hj (by omega)).mpr (by omega))⟩
      · refine Or.inl ⟨by rw [d0, Bool.true_and]; exact decide_eq_false (fun q => hj2 (by have := (nI_leI hj (by omega)).mp q; omega)), fun k hk e => hj2 (by have := (nI_eq hj (by omega)).mp e; omega)⟩
theorem r_deliverC {x : Int32} {un : Nat} (hS : Sh A) (hu : f 415 5 = nI un) (hu6 : un ≤ 600) (h1 : (∀ k, k < un → x ≠ nI k) → Q (.inl none) (wI A (m_th 1 f))) (h2 : ∀ k, k < un → x = nI k → okDl n k (m_th 0 f) ∧ Q (.inl none) (wI A (m_deliver n k (m_th 0 f)))) : mC (d + 14) 233 [.ref 415, .int x] (wI A f) Q := by
  refine x_233_0 (shw hS) (r_within (shw hS) ?_)
  rw [wI_I, hu]
  rcases pkt_or (x := x) hu6 with ⟨e, e2⟩ | ⟨k, hk, rfl, e⟩
  · rw [e]
    refine ⟨fun _ => ⟨fun q => absurd q ?_, fun _ => h1 e2⟩, fun c => absurd rfl c⟩
    simp (disch := first | decide | omega) only [wI_I, wI_s, wI_P, wI_L, forall_eq, m2, m3, m5, m6, m7, m36, m46, m64, m256, m320, nI_add, k1, k2, k3, k4, k5, k6, k7, k8, k9, k10, k11, k12, k13, k64, nI_clamp, nI_ltI, nI_leI, nI_eq, u2_s, u2_a, u2_i, ixT, bi_z, bi_nz, bi_n1, bi_o1, true_and, and_true, true_implies, not_true, not_false_iff, Bool.not_eq_false, Bool.not_eq_true, forall_const, ne_eq, Classical.not_not, and_self]; decide
  · rw [e]
    refine ⟨fun c => absurd c (by decide), fun _ => ⟨fun _ => ?_, fun q => absurd ?_ q⟩⟩
    · have := h2 k hk rfl
      exact r_deliver hS this.1 this.2
    · simp (disch := first | decide | omega) only [wI_I, wI_s, wI_P, wI_L, forall_eq, m2, m3, m5, m6, m7, m36, m46, m64, m256, m320, nI_add, k1, k2, k3, k4, k5, k6, k7, k8, k9, k10, k11, k12, k13, k64, nI_clamp, nI_ltI, nI_leI, nI_eq, u2_s, u2_a, u2_i, ixT, bi_z, bi_nz, bi_n1, bi_o1, true_and, and_true, true_implies, not_true, not_false_iff, Bool.not_eq_false, Bool.not_eq_true, forall_const, ne_eq, Classical.not_not, and_self]
theorem out_7 {k : Nat} : m_out k f 415 7 = f 415 7 := by unfold m_out; rw [if_neg (by omega), if_neg (by omega)]
theorem r_loseC {x : Int32} {un fr : Nat} (hS : Sh A) (hu : f 415 5 = nI un) (hu6 : un ≤ 600) (hf : f 415 7 = nI fr) (hf6 : 0 < un → fr < 601) (h1 : (∀ k, k < un → x ≠ nI k) → Q (.inl none) (wI A (m_th 1 f))) (h2 : ∀ k, k < un → x = nI k → Q (.inl none) (wI A (m_lose k (m_th 0 f)))) : mC (d + 2) 234 [.ref 415, .int x] (wI A f) Q := by
  refine x_234_0 (shw hS) (r_within (shw hS) ?_)
  rw [wI_I, hu]
  rcases pkt_or (x := x) hu6 with ⟨e, e2⟩ | ⟨k, hk, rfl, e⟩
  · rw [e]
    refine ⟨fun _ => ⟨fun q => absurd q ?_, fun _ => h1 e2⟩, fun c => absurd rfl c⟩
    simp (disch := first | decide | omega) only [wI_I, wI_s, wI_P, wI_L, forall_eq, m2, m3, m5, m6, m7, m36, m46, m64, m256, m320, nI_add, k1, k2, k3, k4, k5, k6, k7, k8, k9, k10, k11, k12, k13, k64, nI_clamp, nI_ltI, nI_leI, nI_eq, u2_s, u2_a, u2_i, ixT, bi_z, bi_nz, bi_n1, bi_o1, true_and, and_true, true_implies, not_true, not_false_iff, Bool.not_eq_false, Bool.not_eq_true, forall_const, ne_eq, Classical.not_not, and_self]; decide
  · rw [e]
    refine ⟨fun c => absurd c (by decide), fun _ => ⟨fun _ => ?_, fun q => absurd ?_ q⟩⟩
    · have h2 := h2 k hk rfl
      refine r_takeOut (un := un) (f := m_th 0 f) hS ((th_n (by decide)).trans hu) hu6 hk ?_
      exact r_giveBack (fr := fr) hS (by rw [out_7, th_n (by decide), hf]) (hf6 (by omega)) h2
    · simp (disch := first | decide | omega) only [wI_I, wI_s, wI_P, wI_L, forall_eq, m2, m3, m5, m6, m7, m36, m46, m64, m256, m320, nI_add, k1, k2, k3, k4, k5, k6, k7, k8, k9, k10, k11, k12, k13, k64, nI_clamp, nI_ltI, nI_leI, nI_eq, u2_s, u2_a, u2_i, ixT, bi_z, bi_nz, bi_n1, bi_o1, true_and, and_true, true_implies, not_true, not_false_iff, Bool.not_eq_false, Bool.not_eq_true, forall_const, ne_eq, Classical.not_not, and_self]
theorem lk_or {x : Int32} : (decide (0 ≤ x) && decide (x ≤ 4)) = true ↔ 0 ≤ x ∧ x ≤ 4 := by rw [Bool.and_eq_true, decide_eq_true_eq, decide_eq_true_eq]
def m_look (x : Int32) (f : hs) : Int32 := if x = 0 then f 415 1 else if x = 1 then f 415 2 else if x = 2 then f 415 3 else if x = 3 then f 415 5 else f 415 4
theorem r_look {x : Int32} (hS : Sh A) (h1 : ¬ (0 ≤ x ∧ x ≤ 4) → Q (.inl (some (.int 0))) (wI A (m_th 1 f))) (h2 : 0 ≤ x ∧ x ≤ 4 → Q (.inl (some (.int (m_look x f)))) (wI A (m_th 0 f))) : mC (d + 2) 236 [.ref 415, .int x] (wI A f) Q := by
  refine x_236_0 (shw hS) (r_within (shw hS) ?_)
  show _ ∧ _
  rw [bi_z, Bool.not_eq_false]
  refine ⟨fun c => ⟨fun _ => h1 (fun q => by rw [lk_or.mpr q] at c; cases c), fun q => absurd ?_ q⟩, fun c => ⟨fun q => absurd q ?_, fun _ => ?_⟩⟩
  · simp (disch := first | decide | omega) only [wI_I, wI_s, wI_P, wI_L, forall_eq, m2, m3, m5, m6, m7, m36, m46, m64, m256, m320, nI_add, k1, k2, k3, k4, k5, k6, k7, k8, k9, k10, k11, k12, k13, k64, nI_clamp, nI_ltI, nI_leI, nI_eq, u2_s, u2_a, u2_i, ixT, bi_z, bi_nz, bi_n1, bi_o1, true_and, and_true, true_implies, not_true, not_false_iff, Bool.not_eq_false, Bool.not_eq_true, forall_const, ne_eq, Classical.not_not, and_self]; exact pos1
  · simp (disch := first | decide | omega) only [wI_I, wI_s, wI_P, wI_L, forall_eq, m2, m3, m5, m6, m7, m36, m46, m64, m256, m320, nI_add, k1, k2, k3, k4, k5, k6, k7, k8, k9, k10, k11, k12, k13, k64, nI_clamp, nI_ltI, nI_leI, nI_eq, u2_s, u2_a, u2_i, ixT, bi_z, bi_nz, bi_n1, bi_o1, true_and, and_true, true_implies, not_true, not_false_iff, Bool.not_eq_false, Bool.not_eq_true, forall_const, ne_eq, Classical.not_not, and_self]; exact npos0
  · have h2 := h2 (lk_or.mp c)
    unfold m_look at h2
    refine ⟨fun c1 => by rw [if_pos c1] at h2; simp (disch := first | decide | omega) only [wI_I, wI_s, wI_P, wI_L, forall_eq, m2, m3, m5, m6, m7, m36, m46, m64, m256, m320, nI_add, k1, k2, k3, k4, k5, k6, k7, k8, k9, k10, k11, k12, k13, k64, nI_clamp, nI_ltI, nI_leI, nI_eq, u2_s, u2_a, u2_i, ixT, bi_z, bi_nz, bi_n1, bi_o1, true_and, and_true, true_implies, not_true, not_false_iff, Bool.not_eq_false, Bool.not_eq_true, forall_const, ne_eq, Classical.not_not, and_self]; exact h2, fun c1 => ?_⟩
    rw [if_neg c1] at h2
    refine ⟨fun c2 => by rw [if_pos c2] at h2; simp (disch := first | decide | omega) only [wI_I, wI_s, wI_P, wI_L, forall_eq, m2, m3, m5, m6, m7, m36, m46, m64, m256, m320, nI_add, k1, k2, k3, k4, k5, k6, k7, k8, k9, k10, k11, k12, k13, k64, nI_clamp, nI_ltI, nI_leI, nI_eq, u2_s, u2_a, u2_i, ixT, bi_z, bi_nz, bi_n1, bi_o1, true_and, and_true, true_implies, not_true, not_false_iff, Bool.not_eq_false, Bool.not_eq_true, forall_const, ne_eq, Classical.not_not, and_self]; exact h2, fun c2 => ?_⟩
    rw [if_neg c2] at h2
    refine ⟨fun c3 => by rw [if_pos c3] at h2; simp (disch := first | decide | omega) only [wI_I, wI_s, wI_P, wI_L, forall_eq, m2, m3, m5, m6, m7, m36, m46, m64, m256, m320, nI_add, k1, k2, k3, k4, k5, k6, k7, k8, k9, k10, k11, k12, k13, k64, nI_clamp, nI_ltI, nI_leI, nI_eq, u2_s, u2_a, u2_i, ixT, bi_z, bi_nz, bi_n1, bi_o1, true_and, and_true, true_implies, not_true, not_false_iff, Bool.not_eq_false, Bool.not_eq_true, forall_const, ne_eq, Classical.not_not, and_self]; exact h2, fun c3 => ?_⟩
    rw [if_neg c3] at h2
    refine ⟨fun c4 => by rw [if_pos c4] at h2; simp (disch := first | decide | omega) only [wI_I, wI_s, wI_P, wI_L, forall_eq, m2, m3, m5, m6, m7, m36, m46, m64, m256, m320, nI_add, k1, k2, k3, k4, k5, k6, k7, k8, k9, k10, k11, k12, k13, k64, nI_clamp, nI_ltI, nI_leI, nI_eq, u2_s, u2_a, u2_i, ixT, bi_z, bi_nz, bi_n1, bi_o1, true_and, and_true, true_implies, not_true, not_false_iff, Bool.not_eq_false, Bool.not_eq_true, forall_const, ne_eq, Classical.not_not, and_self]; exact h2, fun c4 => ?_⟩
    rw [if_neg c4] at h2
    simp (disch := first | decide | omega) only [wI_I, wI_s, wI_P, wI_L, forall_eq, m2, m3, m5, m6, m7, m36, m46, m64, m256, m320, nI_add, k1, k2, k3, k4, k5, k6, k7, k8, k9, k10, k11, k12, k13, k64, nI_clamp, nI_ltI, nI_leI, nI_eq, u2_s, u2_a, u2_i, ixT, bi_z, bi_nz, bi_n1, bi_o1, true_and, and_true, true_implies, not_true, not_false_iff, Bool.not_eq_false, Bool.not_eq_true, forall_const, ne_eq, Classical.not_not, and_self]; exact h2
theorem in45 {x : Int32} : (decide (0 ≤ x) && decide (x ≤ 45)) = true → ∃ j, j < 46 ∧ x = nI j := fun h => by
  rw [Bool.and_eq_true, decide_eq_true_eq, decide_eq_true_eq] at h
  obtain ⟨j, hj, rfl⟩ := nI_of (Int32.not_lt.mpr h.1)
  exact ⟨j, by have := (nI_leI (b := 45) hj (by decide)).mp h.2; omega, rfl⟩
theorem r_packet {x y : Int32} {un : Nat} (hS : Sh A) (hu : f 415 5 = nI un) (hu6 : un ≤ 600) (hr : ∀ k, k < un → ixk 601 (f 416 k))
    (h1 : (∀ k, k < un → x ≠ nI k) → Q (.inl (some (.int 0))) (wI A (m_th 1 f)))
    (h2 : ∀ k, k < un → x = nI k → (∀ j, j < 46 → y ≠ nI j) → Q (.inl (some (.int 0))) (wI A (m_th 2 f)))
    (h3 : ∀ k j, k < un → x = nI k → j < 46 → y = nI j → Q (.inl (some (.int (f 418 (46 * Int32.toNatClampNeg (f 416 k) + j))))) (wI A (m_th 0 f))) : mC (d + 2) 237 [.ref 415, .int x, .int y] (wI A f) Q := by
  refine x_237_0 (shw hS) (r_within (shw hS) ?_)
  rw [wI_I, hu]
  rcases pkt_or (x := x) hu6 with ⟨e, e2⟩ | ⟨k, hk, rfl, e⟩
  · rw [e]
    refine ⟨fun _ => ⟨fun _ => h1 e2, fun q => absurd ?_ q⟩, fun c => absurd rfl c⟩
    simp (disch := first | decide | omega) only [wI_I, wI_s, wI_P, wI_L, forall_eq, m2, m3, m5, m6, m7, m36, m46, m64, m256, m320, nI_add, k1, k2, k3, k4, k5, k6, k7, k8, k9, k10, k11, k12, k13, k64, nI_clamp, nI_ltI, nI_leI, nI_eq, u2_s, u2_a, u2_i, ixT, bi_z, bi_nz, bi_n1, bi_o1, true_and, and_true, true_implies, not_true, not_false_iff, Bool.not_eq_false, Bool.not_eq_true, forall_const, ne_eq, Classical.not_not, and_self]; exact pos1
  · rw [e]
    refine ⟨fun c => absurd c (by decide), fun _ => r_within (shw hS) ?_⟩
    show _ ∧ _
    rw [bi_z, Bool.not_eq_false]
    refine ⟨fun c => ⟨fun _ => h2 k hk rfl (fun j hj q => ?_), fun q => absurd ?_ q⟩, fun c => ⟨fun q => absurd q ?_, fun _ => ?_⟩⟩
    · rw [q, decide_eq_true (Int32.not_lt.mp (nI_pos (by omega))), decide_eq_true (p := nI j ≤ 45) ((nI_leI (a := j) (b := 45) (by omega) (by decide)).mpr (by omega))] at c; cases c
    · simp (disch := first | decide | omega) only [wI_I, wI_s, wI_P, wI_L, forall_eq, m2, m3, m5, m6, m7, m36, m46, m64, m256, m320, nI_add, k1, k2, k3, k4, k5, k6, k7, k8, k9, k10, k11, k12, k13, k64, nI_clamp, nI_ltI, nI_leI, nI_eq, u2_s, u2_a, u2_i, ixT, bi_z, bi_nz, bi_n1, bi_o1, true_and, and_true, true_implies, not_true, not_false_iff, Bool.not_eq_false, Bool.not_eq_true, forall_const, ne_eq, Classical.not_not, and_self]; exact pos2
    · simp (disch := first | decide | omega) only [wI_I, wI_s, wI_P, wI_L, forall_eq, m2, m3, m5, m6, m7, m36, m46, m64, m256, m320, nI_add, k1, k2, k3, k4, k5, k6, k7, k8, k9, k10, k11, k12, k13, k64, nI_clamp, nI_ltI, nI_leI, nI_eq, u2_s, u2_a, u2_i, ixT, bi_z, bi_nz, bi_n1, bi_o1, true_and, and_true, true_implies, not_true, not_false_iff, Bool.not_eq_false, Bool.not_eq_true, forall_const, ne_eq, Classical.not_not, and_self]; exact npos0
    · obtain ⟨j, hj, rfl⟩ := in45 c
      obtain ⟨at', hat, e3⟩ : ∃ at', at' < 601 ∧ f 416 k = nI at' := ⟨Int32.toNatClampNeg (f 416 k), (hr k hk).2, (tnI (hr k hk).1).symm⟩
      have h3 := h3 k j hk rfl hj rfl
      rw [e3, nI_clamp (by omega)] at h3
      simp (disch := first | decide | omega) only [wI_I, wI_s, wI_P, wI_L, forall_eq, m2, m3, m5, m6, m7, m36, m46, m64, m256, m320, nI_add, k1, k2, k3, k4, k5, k6, k7, k8, k9, k10, k11, k12, k13, k64, nI_clamp, nI_ltI, nI_leI, nI_eq, u2_s, u2_a, u2_i, ixT, bi_z, bi_nz, bi_n1, bi_o1, true_and, and_true, true_implies, not_true, not_false_iff, Bool.not_eq_false, Bool.not_eq_true, forall_const, ne_eq, Classical.not_not, and_self, e3]
      exact h3
end
