/-! The reference's methods do what the model says: about, stream, event, go. -/
section
variable {A : am_A} {f : hs} {Q : am_Res → am_A → Prop} {d n p q u t m r s w : Nat}
/-- what about tells of a process that is in -/
def m_abt (n p : Nat) (y : Int32) (f : hs) : Int32 :=
  if y < 5 then (if y = 0 then (if f 423 p = 0 then 0 else 1) else if y = 1 then f 422 p else if y = 2 then f 420 p else if y = 3 then f 421 p else f 424 p)
  else if f 423 p = 0 then 0
  else if y < 11 then (if y = 5 then f 431 p else if y = 6 then f 432 p else if y = 7 then f 433 p else if y = 8 then f 434 p else if y = 9 then f 435 p else f 436 p)
  else if y < 16 then (if y = 11 then m_reach n p f else if f 453 p = 0 then 0 else if y = 12 then f 453 p else if y = 13 then f 454 p else if y = 14 then f 455 p else f 456 p)
  else if y = 16 then m_stable n p f else if y = 17 then f 449 p else f 438 (6 * p + (Int32.toNatClampNeg y - 18))
theorem in_n {x : Int32} {b : Nat} (hb : b < 2 ^ 31) : (decide (0 ≤ x) && decide (x ≤ nI b)) = true ∧ (∃ j, j ≤ b ∧ x = nI j) ∨ (decide (0 ≤ x) && decide (x ≤ nI b)) = false ∧ ∀ j, j ≤ b → x ≠ nI j := by
  by_cases h0 : x < 0
  · exact Or.inr ⟨by rw [decide_eq_false (Int32.not_le.mpr h0)]; rfl, fun j hj e => absurd h0 (by rw [e]; exact nI_pos (by omega))⟩
  · obtain ⟨j, hj, rfl⟩ := nI_of h0
    have d0 : decide ((0 : Int32) ≤ nI j) = true := decide_eq_true (Int32.not_lt.mp h0)
    by_cases hj2 : j ≤ b
    · exact Or.inl ⟨by rw [d0, Bool.true_and]; exact decide_eq_true ((nI_leI hj hb).mpr hj2), j, hj2, rfl⟩
    · exact Or.inr ⟨by rw [d0, Bool.true_and]; exact decide_eq_false (fun q => hj2 ((nI_leI hj hb).mp q)), fun i hi e => hj2 (by have := (nI_eq hj (by omega)).mp e; omega)⟩
theorem n5 {j : Nat} (hj : j < 2 ^ 31) {b : Nat} (hb : b < 2 ^ 31) : (nI j < nI b) ↔ j < b := nI_ltI hj hb
theorem reach_th {t : Int32} : m_reach n p (m_th t f) = m_reach n p f := by
  unfold m_reach m_near
  simp only [th_a (show 426 ≠ 415 by decide), th_n (show 3 ≠ 0 by decide), th_n (show 2 ≠ 0 by decide)]
theorem stable_th {t : Int32} : m_stable n p (m_th t f) = m_stable n p f := by
  unfold m_stable m_doneOf
  simp only [th_a (show 433 ≠ 415 by decide), th_a (show 442 ≠ 415 by decide), th_a (show 443 ≠ 415 by decide)]
theorem r_about {x y : Int32} (hS : Sh A) (hn : f 415 1 = nI n) (hn6 : n ≤ 6)
    (h1 : ((∀ p, p < n → x ≠ nI p) ∨ ∀ j, j ≤ 23 → y ≠ nI j) → Q (.inl (some (.int 0))) (wI A (m_th 1 f)))
    (h2 : ∀ p j, p < n → x = nI p → j ≤ 23 → y = nI j → Q (.inl (some (.int (m_abt n p y f)))) (wI A (m_th 0 f))) : mC (d + 3) 238 [.ref 415, .int x, .int y] (wI A f) Q := by
  have one : ((∀ p, p < n → x ≠ nI p) ∨ ∀ j, j ≤ 23 → y ≠ nI j) → mW (d + 2 + 1) 238 19 [.ref 415, .int x, .int y] [.ref 415] (wI A f) Q := fun e => by
    refine x_238_19 (shw hS) (x_238_24 (shw hS) ⟨fun _ => h1 e, fun c => absurd ?_ c⟩)
    simp (disch := first | decide | omega) only [wI_I, wI_s, wI_P, wI_L, forall_eq, m2, m3, m5, m6, m7, m36, m46, m64, m256, m320, nI_add, k1, k2, k3, k4, k5, k6, k7, k8, k9, k10, k11, k12, k13, k64, nI_clamp, nI_ltI, nI_leI, nI_eq, u2_s, u2_a, u2_i, ixT, bi_z, bi_nz, bi_n1, bi_o1, true_and, and_true, true_implies, not_true, not_false_iff, Bool.not_eq_false, Bool.not_eq_true, forall_const, ne_eq, Classical.not_not, and_self]; exact pos1
  refine x_238_0 (shw hS) (r_isP hS hn hn6 (fun e => ⟨fun _ => one (Or.inl e), fun c => absurd rfl c⟩) (fun p hp e => ⟨fun c => absurd c (by decide), fun _ => r_within (shw hS) ?_⟩))
  rcases in_n (x := y) (b := 23) (by decide) with ⟨e1, j, hj, e2⟩ | ⟨e1, e2⟩
  · have e1' : (decide (0 ≤ y) && decide (y ≤ 23)) = true := e1
    rw [e1']
    refine ⟨fun c => absurd c (by decide), fun _ => ?_⟩
    subst e
    have h2 := h2 p j hp rfl hj e2
    unfold m_abt at h2
    refine x_238_24 (shw hS) ⟨fun q => absurd q (by simp (disch := first | decide | omega) only [wI_I, wI_s, wI_P, wI_L, forall_eq, m2, m3, m5, m6, m7, m36, m46, m64, m256, m320, nI_add, k1, k2, k3, k4, k5, k6, k7, k8, k9, k10, k11, k12, k13, k64, nI_clamp, nI_ltI, nI_leI, nI_eq, u2_s, u2_a, u2_i, ixT, bi_z, bi_nz, bi_n1, bi_o1, true_and, and_true, true_implies, not_true, not_false_iff, Bool.not_eq_false, Bool.not_eq_true, forall_const, ne_eq, Classical.not_not, and_self]; exact npos0), fun _ => ?_⟩
    have fin1 : ∀ (z : Int32) w0 w1 w2, Q (.inl (some (.int z))) (wI A (m_th 0 f)) → mW (d + 2 + 1) 238 110 [w0, w1, w2] [.int z] (wI A (m_th 0 f)) Q := fun z w0 w1 w2 hq => x_238_110 (shw hS) hq
    have fin2 : ∀ (z : Int32) w0 w1 w2, Q (.inl (some (.int z))) (wI A (m_th 0 f)) → mW (d + 2 + 1) 238 191 [w0, w1, w2] [.int z] (wI A (m_th 0 f)) Q := fun z w0 w1 w2 hq => x_238_191 (shw hS) hq
    simp (disch := first | decide | omega) only [wI_I, wI_s, wI_P, wI_L, forall_eq, m2, m3, m5, m6, m7, m36, m46, m64, m256, m320, nI_add, k1, k2, k3, k4, k5, k6, k7, k8, k9, k10, k11, k12, k13, k64, nI_clamp, nI_ltI, nI_leI, nI_eq, u2_s, u2_a, u2_i, ixT, bi_z, bi_nz, bi_n1, bi_o1, true_and, and_true, true_implies, not_true, not_false_iff, Bool.not_eq_false, Bool.not_eq_true, forall_const, ne_eq, Classical.not_not, and_self]
    refine ⟨fun c => ?_, fun c => ?_⟩
    · rw [if_pos c] at h2
      refine ⟨fun c1 => ?_, fun c1 => ?_⟩
      · rw [if_pos c1] at h2
        exact ⟨fun c2 => fin1 _ _ _ _ (by rw [if_pos c2] at h2; exact h2), fun c2 => fin1 _ _ _ _ (by rw [if_neg c2] at h2; exact h2)⟩
      · rw [if_neg c1] at h2
        refine ⟨fun c2 => fin1 _ _ _ _ (by rw [if_pos c2] at h2; exact h2), fun c2 => ?_⟩
        rw [if_neg c2] at h2
        refine ⟨fun c3 => fin1 _ _ _ _ (by rw [if_pos c3] at h2; exact h2), fun c3 => ?_⟩
        rw [if_neg c3] at h2
        exact ⟨fun c4 => fin1 _ _ _ _ (by rw [if_pos c4] at h2; exact h2), fun c4 => fin1 _ _ _ _ (by rw [if_neg c4] at h2; exact h2)⟩
    · rw [if_neg c] at h2
      refine ⟨fun c1 => by rw [if_pos c1] at h2; exact h2, fun c1 => ?_⟩
      rw [if_neg c1] at h2
      refine ⟨fun c2 => ?_, fun c2 => ?_⟩
      · rw [if_pos c2] at h2
        refine x_239_0 (shw hS) ?_
        simp (disch := first | decide | omega) only [wI_I, wI_s, wI_P, wI_L, forall_eq, m2, m3, m5, m6, m7, m36, m46, m64, m256, m320, nI_add, k1, k2, k3, k4, k5, k6, k7, k8, k9, k10, k11, k12, k13, k64, nI_clamp, nI_ltI, nI_leI, nI_eq, u2_s, u2_a, u2_i, ixT, bi_z, bi_nz, bi_n1, bi_o1, true_and, and_true, true_implies, not_true, not_false_iff, Bool.not_eq_false, Bool.not_eq_true, forall_const, ne_eq, Classical.not_not, and_self]
        have hj5 : 5 ≤ j := by
          rw [e2] at c
          have : ¬ j < 5 := fun q => c ((nI_ltI (b := 5) (by omega) (by decide)).mpr q)
          omega
        have hj11 : j < 11 := by rw [e2] at c2; exact (nI_ltI (b := 11) (by omega) (by decide)).mp c2
        refine ⟨fun c3 => ?_, fun c3 => ?_, fun c3 => ?_, fun c3 => ?_, fun c3 => ?_, fun c3 => ?_⟩
        · rw [e2, nI_toInt (by omega)] at c3
          have hne : ∀ b : Nat, b < 10 → ¬ y = nI b := fun b hb q => by
            rw [e2] at q
            have := (nI_eq (by omega) (by omega)).mp q
            omega
          rw [if_neg (show ¬ y = 5 from hne 5 (by decide)), if_neg (show ¬ y = 6 from hne 6 (by decide)), if_neg (show ¬ y = 7 from hne 7 (by decide)), if_neg (show ¬ y = 8 from hne 8 (by decide)), if_neg (show ¬ y = 9 from hne 9 (by decide))] at h2
          exact h2
        · rw [if_pos c3] at h2; exact h2
        · rw [if_neg (by rw [c3]; decide), if_pos c3] at h2; exact h2
        · rw [if_neg (by rw [c3]; decide), if_neg (by rw [c3]; decide), if_pos c3] at h2; exact h2
        · rw [if_neg (by rw [c3]; decide), if_neg (by rw [c3]; decide), if_neg (by rw [c3]; decide), if_pos c3] at h2; exact h2
        · rw [if_neg (by rw [c3]; decide), if_neg (by rw [c3]; decide), if_neg (by rw [c3]; decide), if_neg (by rw [c3]; decide), if_pos c3] at h2; exact h2
      · rw [if_neg c2] at h2
        refine ⟨fun c3 => ?_, fun c3 => ?_⟩
        · rw [if_pos c3] at h2
          refine x_240_0 (shw hS) ⟨fun c4 => ?_, fun c4 => ?_⟩
          · rw [if_pos c4] at h2
            refine r_reach (f := m_th 0 f) hS ((th_n (by decide)).trans hn) hn6 (by omega) ?_
            rw [reach_th]; exact h2
          · rw [if_neg c4] at h2
            simp (disch := first | decide | omega) only [wI_I, wI_s, wI_P, wI_L, forall_eq, m2, m3, m5, m6, m7, m36, m46, m64, m256, m320, nI_add, k1, k2, k3, k4, k5, k6, k7, k8, k9, k10, k11, k12, k13, k64, nI_clamp, nI_ltI, nI_leI, nI_eq, u2_s, u2_a, u2_i, ixT, bi_z, bi_nz, bi_n1, bi_o1, true_and, and_true, true_implies, not_true, not_false_iff, Bool.not_eq_false, Bool.not_eq_true, forall_const, ne_eq, Classical.not_not, and_self]
            refine ⟨fun c5 => by rw [if_pos c5] at h2; exact h2, fun c5 => ?_⟩
            rw [if_neg c5] at h2
            refine ⟨fun c6 => by rw [if_pos c6] at h2; exact h2, fun c6 => ?_⟩
            rw [if_neg c6] at h2
            refine ⟨fun c7 => by rw [if_pos c7] at h2; exact h2, fun c7 => ?_⟩
            rw [if_neg c7] at h2
            exact ⟨fun c8 => by rw [if_pos c8] at h2; exact h2, fun c8 => by rw [if_neg c8] at h2; exact h2⟩
        · rw [if_neg c3] at h2
          refine ⟨fun c4 => ?_, fun c4 => ?_⟩
          · rw [if_pos c4] at h2
            refine r_stable (f := m_th 0 f) hS ((th_n (by decide)).trans hn) hn6 (by omega) ?_
            exact fin2 _ _ _ _ (by rw [stable_th]; exact h2)
          · rw [if_neg c4] at h2
            refine ⟨fun c5 => fin2 _ _ _ _ (by rw [if_pos c5] at h2; exact h2), fun c5 => ?_⟩
            rw [if_neg c5] at h2
            have hj16 : 18 ≤ j := by
              rw [e2] at c3 c4 c5
              have h1 : ¬ j < 16 := fun q => c3 ((nI_ltI (b := 16) (by omega) (by decide)).mpr q)
              have h2 : j ≠ 16 := fun q => c4 (by rw [q]; rfl)
              have h3 : j ≠ 17 := fun q => c5 (by rw [q]; rfl)
              omega
            have e3 : nI (6 * p) + y - 18 = nI (6 * p + (j - 18)) := by
              rw [e2, nI_add, show 6 * p + j = (6 * p + (j - 18)) + 18 by omega, ← nI_add]
              exact Int32.add_sub_cancel _ _
            rw [e2, nI_clamp (by omega)] at h2
            rw [e3]
            simp (disch := first | decide | omega) only [wI_I, wI_s, wI_P, wI_L, forall_eq, m2, m3, m5, m6, m7, m36, m46, m64, m256, m320, nI_add, k1, k2, k3, k4, k5, k6, k7, k8, k9, k10, k11, k12, k13, k64, nI_clamp, nI_ltI, nI_leI, nI_eq, u2_s, u2_a, u2_i, ixT, bi_z, bi_nz, bi_n1, bi_o1, true_and, and_true, true_implies, not_true, not_false_iff, Bool.not_eq_false, Bool.not_eq_true, forall_const, ne_eq, Classical.not_not, and_self]
            exact fin2 _ _ _ _ h2
  · have e1' : (decide (0 ≤ y) && decide (y ≤ 23)) = false := e1
    rw [e1']
    exact ⟨fun _ => one (Or.inr e2), fun c => absurd rfl c⟩
/-- what stream tells of a process that is in -/
def m_str (p : Nat) (y : Int32) (u q : Nat) (f : hs) : Int32 := if y < 2 then (if y = 0 then f 441 (6 * p + u) else f 442 (6 * p + u)) else if hasb (f 433 p) q = false then 0 else if y = 2 then m_doneOf p q u f else m_gotOf p q u f
theorem r_stream {x y z v : Int32} (hS : Sh A) (hn : f 415 1 = nI n) (hn6 : n ≤ 6)
    (h1 : ((∀ p, p < n → x ≠ nI p) ∨ (∀ p, p < n → z ≠ nI p) ∨ (∀ p, p < n → v ≠ nI p) ∨ ∀ j, j ≤ 3 → y ≠ nI j) → Q (.inl (some (.int 0))) (wI A (m_th 1 f)))
    (h2 : ∀ p u q j, p < n → x = nI p → u < n → z = nI u → q < n → v = nI q → j ≤ 3 → y = nI j → Q (.inl (some (.int (if f 423 p = 0 then 0 else m_str p y u q f)))) (wI A (m_th 0 f))) : mC (d + 2) 241 [.ref 415, .int x, .int y, .int z, .int v] (wI A f) Q := by
  have one : ((∀ p, p < n → x ≠ nI p) ∨ (∀ p, p < n → z ≠ nI p) ∨ (∀ p, p < n → v ≠ nI p) ∨ ∀ j, j ≤ 3 → y ≠ nI j) → mW (d + 1 + 1) 241 35 [.ref 415, .int x, .int y, .int z, .int v] [.ref 415] (wI A f) Q := fun e => by
    refine x_241_35 (shw hS) (x_241_40 (shw hS) ⟨fun _ => x_241_59 (shw hS) (h1 e), fun c => absurd ?_ c⟩)
    simp (disch := first | decide | omega) only [wI_I, wI_s, wI_P, wI_L, forall_eq, m2, m3, m5, m6, m7, m36, m46, m64, m256, m320, nI_add, k1, k2, k3, k4, k5, k6, k7, k8, k9, k10, k11, k12, k13, k64, nI_clamp, nI_ltI, nI_leI, nI_eq, u2_s, u2_a, u2_i, ixT, bi_z, bi_nz, bi_n1, bi_o1, true_and, and_true, true_implies, not_true, not_false_iff, Bool.not_eq_false, Bool.not_eq_true, forall_const, ne_eq, Classical.not_not, and_self]; exact pos1
  refine x_241_0 (shw hS) (r_isP hS hn hn6 (fun e => ⟨fun _ => one (Or.inl e), fun c => absurd rfl c⟩) (fun p hp e => ⟨fun c => absurd c (by decide), fun _ => ?_⟩))
  refine r_isP hS hn hn6 (fun e => ⟨fun _ => one (Or.inr (Or.inl e)), fun c => absurd rfl c⟩) (fun u hu eu => ⟨fun c => absurd c (by decide), fun _ => ?_⟩)
  refine r_isP hS hn hn6 (fun e => ⟨fun _ => one (Or.inr (Or.inr (Or.inl e))), fun c => absurd rfl c⟩) (fun q hq eq => ⟨fun c => absurd c (by decide), fun _ => r_within (shw hS) ?_⟩)
  rcases in_n (x := y) (b := 3) (by decide) with ⟨e1, j, hj, e2⟩ | ⟨e1, e2⟩
  · have e1' : (decide (0 ≤ y) && decide (y ≤ 3)) = true := e1
    rw [e1']
    refine ⟨fun c => absurd c (by decide), fun _ => ?_⟩
    subst e eu eq
    have h2 := h2 p u q j hp rfl hu rfl hq rfl hj e2
    refine x_241_40 (shw hS) ⟨fun q => absurd q (by simp (disch := first | decide | omega) only [wI_I, wI_s, wI_P, wI_L, forall_eq, m2, m3, m5, m6, m7, m36, m46, m64, m256, m320, nI_add, k1, k2, k3, k4, k5, k6, k7, k8, k9, k10, k11, k12, k13, k64, nI_clamp, nI_ltI, nI_leI, nI_eq, u2_s, u2_a, u2_i, ixT, bi_z, bi_nz, bi_n1, bi_o1, true_and, and_true, true_implies, not_true, not_false_iff, Bool.not_eq_false, Bool.not_eq_true, forall_const, ne_eq, Classical.not_not, and_self]; exact npos0), fun _ => ?_⟩
    simp (disch := first | decide | omega) only [wI_I, wI_s, wI_P, wI_L, forall_eq, m2, m3, m5, m6, m7, m36, m46, m64, m256, m320, nI_add, k1, k2, k3, k4, k5, k6, k7, k8, k9, k10, k11, k12, k13, k64, nI_clamp, nI_ltI, nI_leI, nI_eq, u2_s, u2_a, u2_i, ixT, bi_z, bi_nz, bi_n1, bi_o1, true_and, and_true, true_implies, not_true, not_false_iff, Bool.not_eq_false, Bool.not_eq_true, forall_const, ne_eq, Classical.not_not, and_self]
    refine ⟨fun c => x_241_59 (shw hS) (by rw [if_pos c] at h2; exact h2), fun c => ?_⟩
    rw [if_neg c] at h2
    unfold m_str at h2
    refine ⟨fun c1 => ?_, fun c1 => r_has (shw hS) (by omega) ?_⟩
    · rw [if_pos c1] at h2
      exact ⟨fun c2 => x_241_95 (shw hS) (by rw [if_pos c2] at h2; exact h2), fun c2 => x_241_95 (shw hS) (by rw [if_neg c2] at h2; exact h2)⟩
    · rw [if_neg c1] at h2
      show _ ∧ _
      simp (disch := first | decide | omega) only [wI_I, wI_s, wI_P, wI_L, forall_eq, m2, m3, m5, m6, m7, m36, m46, m64, m256, m320, nI_add, k1, k2, k3, k4, k5, k6, k7, k8, k9, k10, k11, k12, k13, k64, nI_clamp, nI_ltI, nI_leI, nI_eq, u2_s, u2_a, u2_i, ixT, bi_z, bi_nz, bi_n1, bi_o1, true_and, and_true, true_implies, not_true, not_false_iff, Bool.not_eq_false, Bool.not_eq_true, forall_const, ne_eq, Classical.not_not, and_self]
      refine ⟨fun c2 => by rw [if_pos c2] at h2; exact h2, fun c2 => ?_⟩
      rw [if_neg (by rw [c2]; decide)] at h2
      refine ⟨fun c3 => r_doneOf (f := m_th 0 f) hS (by omega) (by omega) (by omega) ?_, fun c3 => r_gotOf (f := m_th 0 f) hS (by omega) (by omega) (by omega) ?_⟩
      · rw [if_pos c3] at h2
        refine x_241_136 (shw hS) ?_
        have : m_doneOf p q u (m_th 0 f) = m_doneOf p q u f := by unfold m_doneOf; rw [th_a (by decide), th_a (by decide)]
        rw [this]; exact h2
      · rw [if_neg c3] at h2
        have : m_gotOf p q u (m_th 0 f) = m_gotOf p q u f := by unfold m_gotOf; rw [th_a (by decide), th_a (by decide)]
        rw [this]; exact h2
  · have e1' : (decide (0 ≤ y) && decide (y ≤ 3)) = false := e1
    rw [e1']
    exact ⟨fun _ => one (Or.inr (Or.inr (Or.inr e2))), fun c => absurd rfl c⟩
theorem r_event {x k y : Int32} (hS : Sh A) (hn : f 415 1 = nI n) (hn6 : n ≤ 6) (hev : ∀ p, p < n → ∃ e, f 424 p = nI e ∧ e < 2 ^ 31)
    (h1 : ((∀ p, p < n → x ≠ nI p) ∨ ∀ j, j ≤ 4 → y ≠ nI j) → Q (.inl (some (.int 0))) (wI A (m_th 1 f)))
    (h2 : ∀ p j e, p < n → x = nI p → j ≤ 4 → y = nI j → f 424 p = nI e → e < 2 ^ 31 → (∀ i, i < e → e ≤ i + 64 → k ≠ nI i) → Q (.inl (some (.int 0))) (wI A (m_th 2 f)))
    (h3 : ∀ p j e i, p < n → x = nI p → j ≤ 4 → y = nI j → f 424 p = nI e → e < 2 ^ 31 → i < e → e ≤ i + 64 → k = nI i → Q (.inl (some (.int (f 425 (320 * p + 5 * (i % 64) + j))))) (wI A (m_th 0 f))) : mC (d + 2) 242 [.ref 415, .int x, .int k, .int y] (wI A f) Q := by
  have one : ∀ w4, ((∀ p, p < n → x ≠ nI p) ∨ ∀ j, j ≤ 4 → y ≠ nI j) → mW (d + 1 + 1) 242 18 [.ref 415, .int x, .int k, .int y, w4] [.ref 415] (wI A f) Q := fun w4 e => by
    refine x_242_18 (shw hS) (x_242_23 (shw hS) ⟨fun _ => h1 e, fun c => absurd ?_ c⟩)
    simp (disch := first | decide | omega) only [wI_I, wI_s, wI_P, wI_L, forall_eq, m2, m3, m5, m6, m7, m36, m46, m64, m256, m320, nI_add, k1, k2, k3, k4, k5, k6, k7, k8, k9, k10, k11, k12, k13, k64, nI_clamp, nI_ltI, nI_leI, nI_eq, u2_s, u2_a, u2_i, ixT, bi_z, bi_nz, bi_n1, bi_o1, true_and, and_true, true_implies, not_true, not_false_iff, Bool.not_eq_false, Bool.not_eq_true, forall_const, ne_eq, Classical.not_not, and_self]; exact pos1
  refine x_242_0 (shw hS) (r_isP hS hn hn6 (fun e => ⟨fun _ => one _ (Or.inl e), fun c => absurd rfl c⟩) (fun p hp e => ⟨fun c => absurd c (by decide), fun _ => r_within (shw hS) ?_⟩))
  rcases in_n (x := y) (b := 4) (by decide) with ⟨e1, j, hj, e2⟩ | ⟨e1, e2⟩
  · have e1' : (decide (0 ≤ y) && decide (y ≤ 4)) = true := e1
    rw [e1']
    refine ⟨fun c => absurd c (by decide), fun _ => ?_⟩
    subst e
    obtain ⟨ev, hv, hv2⟩ := hev p hp
    refine x_242_23 (shw hS) ⟨fun q => absurd q (by simp (disch := first | decide | omega) only [wI_I, wI_s, wI_P, wI_L, forall_eq, m2, m3, m5, m6, m7, m36, m46, m64, m256, m320, nI_add, k1, k2, k3, k4, k5, k6, k7, k8, k9, k10, k11, k12, k13, k64, nI_clamp, nI_ltI, nI_leI, nI_eq, u2_s, u2_a, u2_i, ixT, bi_z, bi_nz, bi_n1, bi_o1, true_and, and_true, true_implies, not_true, not_false_iff, Bool.not_eq_false, Bool.not_eq_true, forall_const, ne_eq, Classical.not_not, and_self]; exact npos0), fun _ => ?_⟩
    have key : ∀ (fs : Nat) w4, (fs = ev - 64) → mW (d + 1 + 1) 242 59 [.ref 415, .int (nI p), .int k, .int y, w4] [.int (nI fs)] (wI A (m_th 0 f)) Q := fun fs w4 hfs => by
      have hv' : m_th 0 f 424 p = nI ev := by rw [th_a (by decide), hv]
      refine x_242_59 (shw hS) ?_
      simp (disch := first | decide | omega) only [wI_I, wI_s, wI_P, wI_L, forall_eq, m2, m3, m5, m6, m7, m36, m46, m64, m256, m320, nI_add, k1, k2, k3, k4, k5, k6, k7, k8, k9, k10, k11, k12, k13, k64, nI_clamp, nI_ltI, nI_leI, nI_eq, u2_s, u2_a, u2_i, ixT, bi_z, bi_nz, bi_n1, bi_o1, true_and, and_true, true_implies, not_true, not_false_iff, Bool.not_eq_false, Bool.not_eq_true, forall_const, ne_eq, Classical.not_not, and_self, hv']
      refine r_within (shw hS) ?_
      by_cases c : ∃ i, i < ev ∧ ev ≤ i + 64 ∧ k = nI i
      · obtain ⟨i, hi, hi2, rfl⟩ := c
        rw [nI_sub1 (by omega), decide_eq_true ((nI_leI (by omega) (by omega)).mpr (show fs ≤ i by omega)), decide_eq_true ((nI_leI (by omega) (by omega)).mpr (show i ≤ ev - 1 by omega))]
        refine ⟨fun c => absurd c (by decide), fun _ => ?_⟩
        have h3 := h3 p j ev i hp rfl hj e2 hv hv2 hi hi2 rfl
        refine x_242_84 (shw hS) ⟨fun q => absurd q (by simp (disch := first | decide | omega) only [wI_I, wI_s, wI_P, wI_L, forall_eq, m2, m3, m5, m6, m7, m36, m46, m64, m256, m320, nI_add, k1, k2, k3, k4, k5, k6, k7, k8, k9, k10, k11, k12, k13, k64, nI_clamp, nI_ltI, nI_leI, nI_eq, u2_s, u2_a, u2_i, ixT, bi_z, bi_nz, bi_n1, bi_o1, true_and, and_true, true_implies, not_true, not_false_iff, Bool.not_eq_false, Bool.not_eq_true, forall_const, ne_eq, Classical.not_not, and_self]; exact npos0), fun _ => ?_⟩
        have hr : nI i - nI i / (64 : Int32) * (64 : Int32) = nI (i % 64) := rem_n (b := 64) (by omega) (by decide) (by decide)
        have hm : i % 64 < 64 := Nat.mod_lt _ (by decide)
        rw [hr, e2]
        simp (disch := first | decide | omega) only [wI_I, wI_s, wI_P, wI_L, forall_eq, m2, m3, m5, m6, m7, m36, m46, m64, m256, m320, nI_add, k1, k2, k3, k4, k5, k6, k7, k8, k9, k10, k11, k12, k13, k64, nI_clamp, nI_ltI, nI_leI, nI_eq, u2_s, u2_a, u2_i, ixT, bi_z, bi_nz, bi_n1, bi_o1, true_and, and_true, true_implies, not_true, not_false_iff, Bool.not_eq_false, Bool.not_eq_true, forall_const, ne_eq, Classical.not_not, and_self]
        refine x_242_117 (shw hS) ?_
        have ea : am_u2 (m_th 0 f) 415 0 0 = m_th 0 f := u2_id th_0
        rw [ea, th_a (by decide)]
        exact h3
      · have c' : ∀ i, i < ev → ev ≤ i + 64 → k ≠ nI i := fun i hi hi2 q => c ⟨i, hi, hi2, q⟩
        have hno : (decide (nI fs ≤ k) && decide (k ≤ nI ev - 1)) = false := by
          rcases Bool.eq_false_or_eq_true (decide (nI fs ≤ k) && decide (k ≤ nI ev - 1)) with q | q
          · rw [Bool.and_eq_true, decide_eq_true_eq, decide_eq_true_eq] at q
            exfalso
            have q0 : ¬ k < 0 := fun z => by
              have h1 := Int32.le_iff_toInt_le.mp q.1
              have h2 := Int32.lt_iff_toInt_lt.mp z
              rw [nI_toInt (by omega)] at h1
              rw [Int32.toInt_zero] at h2
              omega
            obtain ⟨i, hi, rfl⟩ := nI_of q0
            have q1 := (nI_leI (by omega) hi).mp q.1
            rcases Nat.eq_zero_or_pos ev with hz | hz
            · have h2 := q.2
              rw [hz, dn_z] at h2
              have h3 := Int32.le_iff_toInt_le.mp h2
              rw [nI_toInt hi] at h3
              have : ((-1 : Int32)).toInt = -1 := by decide
              rw [this] at h3
              omega
            · have h2 := q.2
              rw [nI_sub1 hz] at h2
              have q2 := (nI_leI hi (by omega)).mp h2
              exact c' i (by omega) (by omega) rfl
          · exact q
        rw [hno]
        refine ⟨fun _ => ?_, fun c => absurd rfl c⟩
        refine x_242_84 (shw hS) ⟨fun _ => x_242_117 (shw hS) ?_, fun q => absurd ?_ q⟩
        · have ea : am_u2 (m_th 0 f) 415 0 2 = m_th 2 f := by
            unfold m_th
            funext a i
            simp only [u2_e]
            split <;> rfl
          show Q _ (wI A (am_u2 (m_th 0 f) 415 0 2))
          rw [ea]
          exact h2 p j ev hp rfl hj e2 hv hv2 c'
        · simp (disch := first | decide | omega) only [wI_I, wI_s, wI_P, wI_L, forall_eq, m2, m3, m5, m6, m7, m36, m46, m64, m256, m320, nI_add, k1, k2, k3, k4, k5, k6, k7, k8, k9, k10, k11, k12, k13, k64, nI_clamp, nI_ltI, nI_leI, nI_eq, u2_s, u2_a, u2_i, ixT, bi_z, bi_nz, bi_n1, bi_o1, true_and, and_true, true_implies, not_true, not_false_iff, Bool.not_eq_false, Bool.not_eq_true, forall_const, ne_eq, Classical.not_not, and_self]; exact pos2
    simp (disch := first | decide | omega) only [wI_I, wI_s, wI_P, wI_L, forall_eq, m2, m3, m5, m6, m7, m36, m46, m64, m256, m320, nI_add, k1, k2, k3, k4, k5, k6, k7, k8, k9, k10, k11, k12, k13, k64, nI_clamp, nI_ltI, nI_leI, nI_eq, u2_s, u2_a, u2_i, ixT, bi_z, bi_nz, bi_n1, bi_o1, true_and, and_true, true_implies, not_true, not_false_iff, Bool.not_eq_false, Bool.not_eq_true, forall_const, ne_eq, Classical.not_not, and_self, hv]
    refine ⟨fun c => ?_, fun c => ?_⟩
    · have hc : 64 < ev := (nI_ltI (a := 64) (by decide) hv2).mp c
      have e3 : nI ev - 64 = nI (ev - 64) := by
        rw [show ev = (ev - 64) + 64 by omega, ← nI_add]
        rw [show ev - 64 + 64 - 64 = ev - 64 by omega]
        exact Int32.add_sub_cancel _ _
      rw [e3]
      exact key (ev - 64) _ rfl
    · have hc : ¬ 64 < ev := fun q => c ((nI_ltI (a := 64) (by decide) hv2).mpr q)
      exact key 0 _ (by omega)
  · have e1' : (decide (0 ≤ y) && decide (y ≤ 4)) = false := e1
    rw [e1']
    exact ⟨fun _ => one _ (Or.inr e2), fun c => absurd rfl c⟩
end
