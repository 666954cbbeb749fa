/-! The reference's methods do what the model says: turns. -/
section
variable {A : am_A} {f : hs} {Q : am_Res → am_A → Prop} {d n p q u t m : Nat}
theorem r_above (hS : Sh A) (hp : p < 6) (hq : q < 6) (h : Q (.inl (some (.int (bi (m_above p f q))))) (wI A f)) : mC (d + 2) 211 [.ref 415, .int (nI p), .int (nI q)] (wI A f) Q := by
  unfold m_above at h
  refine x_211_0 (shw hS) ?_
  simp (disch := first | decide | omega) only [wI_I, wI_s, wI_P, wI_L, forall_eq, m2, m3, m5, m6, m7, m36, m46, m64, m256, m320, nI_add, k1, k2, k3, k4, k5, k6, k7, k8, k9, k10, k11, k12, k13, k64, nI_clamp, nI_ltI, nI_leI, nI_eq, u2_s, u2_a, u2_i, ixT, bi_z, bi_nz, bi_n1, bi_o1, true_and, and_true, true_implies, not_true, not_false_iff, Bool.not_eq_false, Bool.not_eq_true, forall_const, ne_eq, Classical.not_not, and_self]
  refine ⟨fun c => by rw [decide_eq_true c] at h; exact h, fun c => ?_⟩
  rw [decide_eq_false c] at h
  refine r_cmp (shw hS) ?_
  exact ⟨fun c2 => by rw [decide_eq_true c2] at h; exact h, fun c2 => by rw [decide_eq_false c2] at h; exact h⟩
theorem least_le {s : Int32} : m_least s ≤ 6 := by
  unfold m_least
  split
  · next q h => have := fi_some _ _ _ _ h; omega
  · exact Nat.le_refl 6
theorem r_givesUp {s : Int32} (hS : Sh A) (hn : f 415 1 = nI n) (hn6 : n ≤ 6) (hp : p < 6) (h : Q (.inl (some (.int (bi (m_givesUp n p s f))))) (wI A f)) : mC (d + 3) 212 [.ref 415, .int (nI p), .int s] (wI A f) Q := by
  have hl := least_le (s := s)
  unfold m_givesUp at h
  have loop : ∀ b w2, Q (.inl (some (.int (bi (fo (fun q b => b || (m_other p (f 454 p) q && m_above p f q)) 0 n b))))) (wI A f) → mW (d + 2 + 1) 212 27 [.ref 415, .int (nI p), w2, .int (bi b), .int 0] [] (wI A f) Q := fun b w2 hb => by
    refine lp0 (P := fun q b => ∀ w2, mW (d + 2 + 1) 212 27 [.ref 415, .int (nI p), w2, .int (bi b), .int (nI q)] [] (wI A f) Q) n (fun q b => b || (m_other p (f 454 p) q && m_above p f q)) (fun q b hq ih w2 => ?_) (fun w2 => ?_) _
    · refine x_212_27 (shw hS) ⟨fun _ => ?_, fun c => absurd ?_ c⟩
      · simp (disch := first | decide | omega) only [wI_I, wI_s, wI_P, wI_L, forall_eq, m2, m3, m5, m6, m7, m36, m46, m64, m256, m320, nI_add, k1, k2, k3, k4, k5, k6, k7, k8, k9, k10, k11, k12, k13, k64, nI_clamp, nI_ltI, nI_leI, nI_eq, u2_s, u2_a, u2_i, ixT, bi_z, bi_nz, bi_n1, bi_o1, true_and, and_true, true_implies, not_true, not_false_iff, Bool.not_eq_false, Bool.not_eq_true, forall_const, ne_eq, Classical.not_not, and_self]
        unfold m_other at ih
        refine ⟨fun c => ⟨fun c1 => ?_, fun c1 => r_has (shw hS) (by omega) ?_⟩, fun c => ?_⟩
        · rw [c, decide_eq_false (fun q => q c1), Bool.false_and, Bool.false_and, Bool.or_false] at ih; exact ih _
        · rw [c, decide_eq_true c1, Bool.false_or, Bool.true_and] at ih
          show _ ∧ _
          simp (disch := first | decide | omega) only [wI_I, wI_s, wI_P, wI_L, forall_eq, m2, m3, m5, m6, m7, m36, m46, m64, m256, m320, nI_add, k1, k2, k3, k4, k5, k6, k7, k8, k9, k10, k11, k12, k13, k64, nI_clamp, nI_ltI, nI_leI, nI_eq, u2_s, u2_a, u2_i, ixT, bi_z, bi_nz, bi_n1, bi_o1, true_and, and_true, true_implies, not_true, not_false_iff, Bool.not_eq_false, Bool.not_eq_true, forall_const, ne_eq, Classical.not_not, and_self]
          refine ⟨fun c2 => ?_, fun c2 => r_above hS hp (by omega) ?_⟩
          · rw [c2] at ih; exact ih _
          · rw [c2] at ih
            show _ ∧ _
            simp (disch := first | decide | omega) only [wI_I, wI_s, wI_P, wI_L, forall_eq, m2, m3, m5, m6, m7, m36, m46, m64, m256, m320, nI_add, k1, k2, k3, k4, k5, k6, k7, k8, k9, k10, k11, k12, k13, k64, nI_clamp, nI_ltI, nI_leI, nI_eq, u2_s, u2_a, u2_i, ixT, bi_z, bi_nz, bi_n1, bi_o1, true_and, and_true, true_implies, not_true, not_false_iff, Bool.not_eq_false, Bool.not_eq_true, forall_const, ne_eq, Classical.not_not, and_self]
            exact ⟨fun c3 => by rw [c3] at ih; exact ih _, fun c3 => by rw [c3] at ih; exact ih _⟩
        · rw [c, Bool.true_or] at ih; exact ih _
      · simp (disch := first | decide | omega) only [wI_I, wI_s, wI_P, wI_L, forall_eq, m2, m3, m5, m6, m7, m36, m46, m64, m256, m320, nI_add, k1, k2, k3, k4, k5, k6, k7, k8, k9, k10, k11, k12, k13, k64, nI_clamp, nI_ltI, nI_leI, nI_eq, u2_s, u2_a, u2_i, ixT, bi_z, bi_nz, bi_n1, bi_o1, true_and, and_true, true_implies, not_true, not_false_iff, Bool.not_eq_false, Bool.not_eq_true, forall_const, ne_eq, Classical.not_not, and_self, hn]; exact hq
    · refine x_212_27 (shw hS) ⟨fun c => absurd c ?_, fun _ => ⟨bz_bi _, hb⟩⟩
      simp (disch := first | decide | omega) only [wI_I, wI_s, wI_P, wI_L, forall_eq, m2, m3, m5, m6, m7, m36, m46, m64, m256, m320, nI_add, k1, k2, k3, k4, k5, k6, k7, k8, k9, k10, k11, k12, k13, k64, nI_clamp, nI_ltI, nI_leI, nI_eq, u2_s, u2_a, u2_i, ixT, bi_z, bi_nz, bi_n1, bi_o1, true_and, and_true, true_implies, not_true, not_false_iff, Bool.not_eq_false, Bool.not_eq_true, forall_const, ne_eq, Classical.not_not, and_self, hn]; omega
  refine x_212_0 (shw hS) (r_least (shw hS) ?_)
  show _ ∧ _
  simp (disch := first | decide | omega) only [wI_I, wI_s, wI_P, wI_L, forall_eq, m2, m3, m5, m6, m7, m36, m46, m64, m256, m320, nI_add, k1, k2, k3, k4, k5, k6, k7, k8, k9, k10, k11, k12, k13, k64, nI_clamp, nI_ltI, nI_leI, nI_eq, u2_s, u2_a, u2_i, ixT, bi_z, bi_nz, bi_n1, bi_o1, true_and, and_true, true_implies, not_true, not_false_iff, Bool.not_eq_false, Bool.not_eq_true, forall_const, ne_eq, Classical.not_not, and_self]
  refine ⟨fun c => ⟨fun c2 => ?_, fun c2 => ?_⟩, fun c => ?_⟩
  · rw [decide_eq_false (fun q => q c), decide_eq_false (fun q => q c2)] at h; exact loop false _ h
  · rw [decide_eq_true (p := s ≠ f 454 p) c2, Bool.or_true] at h; exact loop true _ h
  · rw [decide_eq_true (p := m_least s ≠ p) c] at h; exact loop true _ h
theorem r_wants {s : Int32} (hS : Sh A) (hn : f 415 1 = nI n) (hn6 : n ≤ 6) (hp : p < 6) (h : Q (.inl (some (.int (bi (m_wants n p s f))))) (wI A f)) : mC (d + 3) 213 [.ref 415, .int (nI p), .int s] (wI A f) Q := by
  have hl := least_le (s := s)
  unfold m_wants at h
  have loop : ∀ b w2 w5 w6, Q (.inl (some (.int (bi (fo (fun q b => b || (m_other p (f 433 p) q && !m_knV 430 431 432 p f q)) 0 n b))))) (wI A f) → mW (d + 2 + 1) 213 47 [.ref 415, .int (nI p), w2, .int (bi b), .int 0, w5, w6] [] (wI A f) Q := fun b w2 w5 w6 hb => by
    refine lp0 (P := fun q b => ∀ w2 w5 w6, mW (d + 2 + 1) 213 47 [.ref 415, .int (nI p), w2, .int (bi b), .int (nI q), w5, w6] [] (wI A f) Q) n (fun q b => b || (m_other p (f 433 p) q && !m_knV 430 431 432 p f q)) (fun q b hq ih w2 w5 w6 => ?_) (fun w2 w5 w6 => ?_) _ _ _
    · have tail : ∀ (kn : Bool) w2 w5 w6, m_knV 430 431 432 p f q = kn → mW (d + 2 + 1) 213 118 [.ref 415, .int (nI p), w2, .int (bi b), .int (nI q), w5, w6] [.int (bi kn)] (wI A f) Q := fun kn w2 w5 w6 hk => by
        rw [hk] at ih
        unfold m_other at ih
        have yes : (b || ((decide (q ≠ p) && hasb (f 433 p) q) && !kn)) = true → ∀ w2 w3 w5 w6, mW (d + 2 + 1) 213 149 [.ref 415, .int (nI p), w2, w3, .int (nI q), w5, w6] [] (wI A f) Q := fun e w2 w3 w5 w6 => by
          rw [e] at ih
          refine x_213_149 (shw hS) (x_213_154 (shw hS) ?_)
          simp (disch := first | decide | omega) only [wI_I, wI_s, wI_P, wI_L, forall_eq, m2, m3, m5, m6, m7, m36, m46, m64, m256, m320, nI_add, k1, k2, k3, k4, k5, k6, k7, k8, k9, k10, k11, k12, k13, k64, nI_clamp, nI_ltI, nI_leI, nI_eq, u2_s, u2_a, u2_i, ixT, bi_z, bi_nz, bi_n1, bi_o1, true_and, and_true, true_implies, not_true, not_false_iff, Bool.not_eq_false, Bool.not_eq_true, forall_const, ne_eq, Classical.not_not, and_self]
          exact ih _ _ _
        have no : (b || ((decide (q ≠ p) && hasb (f 433 p) q) && !kn)) = false → ∀ w2 w3 w5 w6, mW (d + 2 + 1) 213 153 [.ref 415, .int (nI p), w2, w3, .int (nI q), w5, w6] [] (wI A f) Q := fun e w2 w3 w5 w6 => by
          rw [e] at ih
          refine x_213_153 (shw hS) (x_213_154 (shw hS) ?_)
          simp (disch := first | decide | omega) only [wI_I, wI_s, wI_P, wI_L, forall_eq, m2, m3, m5, m6, m7, m36, m46, m64, m256, m320, nI_add, k1, k2, k3, k4, k5, k6, k7, k8, k9, k10, k11, k12, k13, k64, nI_clamp, nI_ltI, nI_leI, nI_eq, u2_s, u2_a, u2_i, ixT, bi_z, bi_nz, bi_n1, bi_o1, true_and, and_true, true_implies, not_true, not_false_iff, Bool.not_eq_false, Bool.not_eq_true, forall_const, ne_eq, Classical.not_not, and_self]
          exact ih _ _ _
        refine x_213_118 (shw hS) ?_
        simp (disch := first | decide | omega) only [wI_I, wI_s, wI_P, wI_L, forall_eq, m2, m3, m5, m6, m7, m36, m46, m64, m256, m320, nI_add, k1, k2, k3, k4, k5, k6, k7, k8, k9, k10, k11, k12, k13, k64, nI_clamp, nI_ltI, nI_leI, nI_eq, u2_s, u2_a, u2_i, ixT, bi_z, bi_nz, bi_n1, bi_o1, true_and, and_true, true_implies, not_true, not_false_iff, Bool.not_eq_false, Bool.not_eq_true, forall_const, ne_eq, Classical.not_not, and_self]
        refine ⟨fun c => ⟨fun c1 => no (by rw [c, decide_eq_false (fun q => q c1)]; rfl) _ _ _ _, fun c1 => r_has (shw hS) (by omega) ?_⟩, fun c => yes (by rw [c]; rfl) _ _ _ _⟩
        show _ ∧ _
        simp (disch := first | decide | omega) only [wI_I, wI_s, wI_P, wI_L, forall_eq, m2, m3, m5, m6, m7, m36, m46, m64, m256, m320, nI_add, k1, k2, k3, k4, k5, k6, k7, k8, k9, k10, k11, k12, k13, k64, nI_clamp, nI_ltI, nI_leI, nI_eq, u2_s, u2_a, u2_i, ixT, bi_z, bi_nz, bi_n1, bi_o1, true_and, and_true, true_implies, not_true, not_false_iff, Bool.not_eq_false, Bool.not_eq_true, forall_const, ne_eq, Classical.not_not, and_self]
        refine ⟨fun c2 => no (by rw [c, c2, Bool.and_false]; rfl) _ _ _ _, fun c2 => ⟨fun c3 => yes (by rw [c2, c3, decide_eq_true c1, Bool.or_eq_true]; exact Or.inr rfl) _ _ _ _, fun c3 => no (by rw [c, c3, Bool.not_true, Bool.and_false]; rfl) _ _ _ _⟩⟩
      refine x_213_47 (shw hS) ⟨fun _ => ?_, fun c => absurd ?_ c⟩
      · simp (disch := first | decide | omega) only [wI_I, wI_s, wI_P, wI_L, forall_eq, m2, m3, m5, m6, m7, m36, m46, m64, m256, m320, nI_add, k1, k2, k3, k4, k5, k6, k7, k8, k9, k10, k11, k12, k13, k64, nI_clamp, nI_ltI, nI_leI, nI_eq, u2_s, u2_a, u2_i, ixT, bi_z, bi_nz, bi_n1, bi_o1, true_and, and_true, true_implies, not_true, not_false_iff, Bool.not_eq_false, Bool.not_eq_true, forall_const, ne_eq, Classical.not_not, and_self]
        refine ⟨fun c => ?_, fun c => r_cmp (shw hS) ?_⟩
        · exact x_213_117 (shw hS) (tail false _ _ _ (by unfold m_knV; rw [decide_eq_true c]; rfl))
        · refine ⟨fun c2 => ?_, fun c2 => ?_⟩
          · exact tail true _ _ _ (by unfold m_knV; rw [decide_eq_false c, decide_eq_true c2]; rfl)
          · exact x_213_117 (shw hS) (tail false _ _ _ (by unfold m_knV; rw [decide_eq_false c, decide_eq_false c2]; rfl))
      · simp (disch := first | decide | omega) only [wI_I, wI_s, wI_P, wI_L, forall_eq, m2, m3, m5, m6, m7, m36, m46, m64, m256, m320, nI_add, k1, k2, k3, k4, k5, k6, k7, k8, k9, k10, k11, k12, k13, k64, nI_clamp, nI_ltI, nI_leI, nI_eq, u2_s, u2_a, u2_i, ixT, bi_z, bi_nz, bi_n1, bi_o1, true_and, and_true, true_implies, not_true, not_false_iff, Bool.not_eq_false, Bool.not_eq_true, forall_const, ne_eq, Classical.not_not, and_self, hn]; exact hq
    · refine x_213_47 (shw hS) ⟨fun c => absurd c ?_, fun _ => ⟨bz_bi _, hb⟩⟩
      simp (disch := first | decide | omega) only [wI_I, wI_s, wI_P, wI_L, forall_eq, m2, m3, m5, m6, m7, m36, m46, m64, m256, m320, nI_add, k1, k2, k3, k4, k5, k6, k7, k8, k9, k10, k11, k12, k13, k64, nI_clamp, nI_ltI, nI_leI, nI_eq, u2_s, u2_a, u2_i, ixT, bi_z, bi_nz, bi_n1, bi_o1, true_and, and_true, true_implies, not_true, not_false_iff, Bool.not_eq_false, Bool.not_eq_true, forall_const, ne_eq, Classical.not_not, and_self, hn]; omega
  refine x_213_0 (shw hS) ?_
  simp (disch := first | decide | omega) only [wI_I, wI_s, wI_P, wI_L, forall_eq, m2, m3, m5, m6, m7, m36, m46, m64, m256, m320, nI_add, k1, k2, k3, k4, k5, k6, k7, k8, k9, k10, k11, k12, k13, k64, nI_clamp, nI_ltI, nI_leI, nI_eq, u2_s, u2_a, u2_i, ixT, bi_z, bi_nz, bi_n1, bi_o1, true_and, and_true, true_implies, not_true, not_false_iff, Bool.not_eq_false, Bool.not_eq_true, forall_const, ne_eq, Classical.not_not, and_self]
  refine ⟨fun c => r_least (shw hS) ?_, fun c => x_213_17 (shw hS) (by rw [if_pos (Or.inl c)] at h; exact h)⟩
  show _ ∧ _
  simp (disch := first | decide | omega) only [wI_I, wI_s, wI_P, wI_L, forall_eq, m2, m3, m5, m6, m7, m36, m46, m64, m256, m320, nI_add, k1, k2, k3, k4, k5, k6, k7, k8, k9, k10, k11, k12, k13, k64, nI_clamp, nI_ltI, nI_leI, nI_eq, u2_s, u2_a, u2_i, ixT, bi_z, bi_nz, bi_n1, bi_o1, true_and, and_true, true_implies, not_true, not_false_iff, Bool.not_eq_false, Bool.not_eq_true, forall_const, ne_eq, Classical.not_not, and_self]
  refine ⟨fun c2 => ?_, fun c2 => x_213_17 (shw hS) (by rw [if_pos (Or.inr c2)] at h; exact h)⟩
  rw [if_neg (fun e => e.elim (fun e => e c) (fun e => e c2))] at h
  refine ⟨fun c3 => ⟨fun c4 => ?_, fun c4 => ?_⟩, fun c3 => ?_⟩
  · rw [decide_eq_false (fun q => q c3), decide_eq_false (fun q => q c4)] at h
    exact x_213_43 (shw hS) (loop false _ _ _ h)
  · rw [decide_eq_true (p := s ≠ f 433 p) c4, Bool.or_true] at h
    exact x_213_38 (shw hS) (x_213_43 (shw hS) (loop true _ _ _ h))
  · rw [decide_eq_true (p := f 436 p ≠ 0) c3] at h
    exact x_213_38 (shw hS) (x_213_43 (shw hS) (loop true _ _ _ h))
theorem r_hello {b : Nat} (hS : Sh A) (hB : B0 n b f) (hp : p < 6) (h : Q (.inl none) (wI A (m_hello n p f))) : mC (d + 3) 215 [.ref 415, .int (nI p)] (wI A f) Q := by
  have hn6 := hB.2.1
  refine x_215_0 (shw hS) (r_startBody hS ?_)
  rw [m6]
  refine r_sayRow (w := 0) (n := n) hS hB.start.1 hn6 (hS.vh 27 1 36 rfl) (by decide) (by decide) (by rw [hS.lh 27 1 36 rfl]; omega) (by rw [hS.lh 27 1 36 rfl]; decide) (wr_0 _) (by omega) ?_
  refine r_sayRow (w := 0 + n) (n := n) hS hB.start.row.1 hn6 (hS.vh 26 1 36 rfl) (by decide) (by decide) (by rw [hS.lh 26 1 36 rfl]; omega) (by rw [hS.lh 26 1 36 rfl]; decide) (wr_row (wr_0 _)) (by omega) ?_
  refine (lp0 (P := fun q g => B0 n b g → wr g (0 + n + n) → mW (d + 2 + 1) 215 30 [.ref 415, .int (nI p), .int (nI q)] [] (wI A g) Q) n (fun q f => if q ≠ p then m_ship p q 0 f else f) (fun q x hq ih h1 h2 => ?_) (fun h1 h2 => ?_)) hB.start.row.row (wr_row (wr_row (wr_0 _)))
  · refine x_215_30 (shw hS) ⟨fun _ => ?_, fun c => absurd ?_ c⟩
    · simp (disch := first | decide | omega) only [wI_I, wI_s, wI_P, wI_L, forall_eq, m2, m3, m5, m6, m7, m36, m46, m64, m256, m320, nI_add, k1, k2, k3, k4, k5, k6, k7, k8, k9, k10, k11, k12, k13, k64, nI_clamp, nI_ltI, nI_leI, nI_eq, u2_s, u2_a, u2_i, ixT, bi_z, bi_nz, bi_n1, bi_o1, true_and, and_true, true_implies, not_true, not_false_iff, Bool.not_eq_false, Bool.not_eq_true, forall_const, ne_eq, Classical.not_not, and_self]
      refine ⟨fun c => ?_, fun c => ?_⟩
      · rw [if_neg (fun q => q c)] at ih; exact ih h1 h2
      · rw [if_pos c] at ih
        exact r_ship hS hp h1.2.2.ok h2 (by omega) (ih h1.ship (wr_ship h2))
    · simp (disch := first | decide | omega) only [wI_I, wI_s, wI_P, wI_L, forall_eq, m2, m3, m5, m6, m7, m36, m46, m64, m256, m320, nI_add, k1, k2, k3, k4, k5, k6, k7, k8, k9, k10, k11, k12, k13, k64, nI_clamp, nI_ltI, nI_leI, nI_eq, u2_s, u2_a, u2_i, ixT, bi_z, bi_nz, bi_n1, bi_o1, true_and, and_true, true_implies, not_true, not_false_iff, Bool.not_eq_false, Bool.not_eq_true, forall_const, ne_eq, Classical.not_not, and_self, h1.1]; exact hq
  · refine x_215_30 (shw hS) ⟨fun c => absurd c ?_, fun _ => h⟩
    simp (disch := first | decide | omega) only [wI_I, wI_s, wI_P, wI_L, forall_eq, m2, m3, m5, m6, m7, m36, m46, m64, m256, m320, nI_add, k1, k2, k3, k4, k5, k6, k7, k8, k9, k10, k11, k12, k13, k64, nI_clamp, nI_ltI, nI_leI, nI_eq, u2_s, u2_a, u2_i, ixT, bi_z, bi_nz, bi_n1, bi_o1, true_and, and_true, true_implies, not_true, not_false_iff, Bool.not_eq_false, Bool.not_eq_true, forall_const, ne_eq, Classical.not_not, and_self, h1.1]; omega
theorem okC_of {g : hs} (h : okC n p f) (hs : sE f g) : okC n p g := fun u hu => by
  obtain ⟨gl, lo, e1, e2, e3, e4⟩ := h u hu
  exact ⟨gl, lo, by rw [hs 463 _ (by decide) (by decide), e1], e2, by rw [low_of hs, e3], e4⟩
theorem stable_of {g : hs} (h : sE f g) : m_stable n p g = m_stable n p f := by
  unfold m_stable m_doneOf
  simp only [fun k => h 433 k (by decide) (by decide), fun k => h 442 k (by decide) (by decide), fun k => h 443 k (by decide) (by decide)]
theorem sE.ag1 {g : hs} (h : sE f g) : sE f (m_again1 n p g q) := sE.ite (sE.ite h.sPro (sE.ite h.sCut h)) h
theorem B0.ag1 {b : Nat} (h : B0 n b f) : B0 n b (m_again1 m p f q) := B0.ite (B0.ite h.sPro (B0.ite h.sCut h)) h
theorem sE.agD {g : hs} {k : Int32} (h : sE f g) : sE f (m_againD n p k g) := sE.fo (fun _ _ h => sE.ite h.start.msg.ship h) h n 0
theorem B0.agD {b : Nat} {k : Int32} (h : B0 n b f) : B0 n b (m_againD m p k f) := B0.fo (fun _ _ h => B0.ite h.start.msg.ship h) h m 0
/-- what saying again needs -/
def okAg (n p : Nat) (f : hs) : Prop := (f 436 p = 2 ∨ f 436 p = 3 → okC n p f) ∧ (f 436 p = 0 → ∃ st gt, m_stable n p f = nI st ∧ f 441 (6 * p + p) = nI gt ∧ st ≤ gt ∧ gt ≤ 1000000)
theorem r_again {b : Nat} (hS : Sh A) (hB : B0 n b f) (hn0 : 0 < n) (hp : p < 6) (hA : okAg n p f) (h : Q (.inl none) (wI A (m_again n p f))) : mC (d + 6) 214 [.ref 415, .int (nI p)] (wI A f) Q := by
  have hn6 := hB.2.1
  unfold m_again at h
  dsimp only at h
  refine x_214_0 (shw hS) ?_
  -- the last loop
  have L4 : ∀ i : hs, B0 n b i → Q (.inl none) (wI A (if i 437 p = 0 then i else fo (fun q f => if m_other p (f 433 p) q && !m_knV 429 431 432 p f q then m_sIns p q f else f) 0 n i)) → ∀ w3 w4, mW (d + 5 + 1) 214 248 [.ref 415, .int (nI p), .int 0, w3, w4] [] (wI A i) Q := fun i hi hq w3 w4 => by
    by_cases c : i 437 p = 0
    · rw [if_pos c] at hq
      refine x_214_248 (shw hS) ⟨fun _ => ?_, fun _ => x_214_359 (shw hS) hq⟩
      simp (disch := first | decide | omega) only [wI_I, wI_s, wI_P, wI_L, forall_eq, m2, m3, m5, m6, m7, m36, m46, m64, m256, m320, nI_add, k1, k2, k3, k4, k5, k6, k7, k8, k9, k10, k11, k12, k13, k64, nI_clamp, nI_ltI, nI_leI, nI_eq, u2_s, u2_a, u2_i, ixT, bi_z, bi_nz, bi_n1, bi_o1, true_and, and_true, true_implies, not_true, not_false_iff, Bool.not_eq_false, Bool.not_eq_true, forall_const, ne_eq, Classical.not_not, and_self]
      exact ⟨fun _ => x_214_359 (shw hS) hq, fun e => absurd c e⟩
    · rw [if_neg c] at hq
      refine (lp0 (P := fun q g => B0 n b g → sE i g → ∀ w3 w4, mW (d + 5 + 1) 214 248 [.ref 415, .int (nI p), .int (nI q), w3, w4] [] (wI A g) Q) n (fun q f => if m_other p (f 433 p) q && !m_knV 429 431 432 p f q then m_sIns p q f else f) (fun q g hq ih h1 h2 w3 w4 => ?_) (fun h1 h2 w3 w4 => ?_)) hi (sE.rfl i) _ _
      · have c' : ¬ g 437 p = 0 := by rw [h2 437 _ (by decide) (by decide)]; exact c
        have tail : ∀ (kn : Bool) w3 w4, m_knV 429 431 432 p g q = kn → mW (d + 5 + 1) 214 322 [.ref 415, .int (nI p), .int (nI q), w3, w4] [.int (bi kn)] (wI A g) Q := fun kn w3 w4 hk => by
          rw [hk] at ih
          unfold m_other at ih
          refine x_214_322 (shw hS) ?_
          simp (disch := first | decide | omega) only [wI_I, wI_s, wI_P, wI_L, forall_eq, m2, m3, m5, m6, m7, m36, m46, m64, m256, m320, nI_add, k1, k2, k3, k4, k5, k6, k7, k8, k9, k10, k11, k12, k13, k64, nI_clamp, nI_ltI, nI_leI, nI_eq, u2_s, u2_a, u2_i, ixT, bi_z, bi_nz, bi_n1, bi_o1, true_and, and_true, true_implies, not_true, not_false_iff, Bool.not_eq_false, Bool.not_eq_true, forall_const, ne_eq, Classical.not_not, and_self]
          refine ⟨fun c1 => ?_, fun c1 => r_has (shw hS) (by omega) ?_⟩
          · rw [if_neg (by rw [decide_eq_false (fun q => q c1)]; simp)] at ih
            refine x_214_353 (shw hS) ?_
            simp (disch := first | decide | omega) only [wI_I, wI_s, wI_P, wI_L, forall_eq, m2, m3, m5, m6, m7, m36, m46, m64, m256, m320, nI_add, k1, k2, k3, k4, k5, k6, k7, k8, k9, k10, k11, k12, k13, k64, nI_clamp, nI_ltI, nI_leI, nI_eq, u2_s, u2_a, u2_i, ixT, bi_z, bi_nz, bi_n1, bi_o1, true_and, and_true, true_implies, not_true, not_false_iff, Bool.not_eq_false, Bool.not_eq_true, forall_const, ne_eq, Classical.not_not, and_self]
            exact ih h1 h2 _ _
          · show _ ∧ _
            simp (disch := first | decide | omega) only [wI_I, wI_s, wI_P, wI_L, forall_eq, m2, m3, m5, m6, m7, m36, m46, m64, m256, m320, nI_add, k1, k2, k3, k4, k5, k6, k7, k8, k9, k10, k11, k12, k13, k64, nI_clamp, nI_ltI, nI_leI, nI_eq, u2_s, u2_a, u2_i, ixT, bi_z, bi_nz, bi_n1, bi_o1, true_and, and_true, true_implies, not_true, not_false_iff, Bool.not_eq_false, Bool.not_eq_true, forall_const, ne_eq, Classical.not_not, and_self]
            refine ⟨fun c2 => ?_, fun c2 => ⟨fun c3 => ?_, fun c3 => ?_⟩⟩
            · rw [if_neg (by rw [c2]; simp)] at ih
              refine x_214_353 (shw hS) ?_
              simp (disch := first | decide | omega) only [wI_I, wI_s, wI_P, wI_L, forall_eq, m2, m3, m5, m6, m7, m36, m46, m64, m256, m320, nI_add, k1, k2, k3, k4, k5, k6, k7, k8, k9, k10, k11, k12, k13, k64, nI_clamp, nI_ltI, nI_leI, nI_eq, u2_s, u2_a, u2_i, ixT, bi_z, bi_nz, bi_n1, bi_o1, true_and, and_true, true_implies, not_true, not_false_iff, Bool.not_eq_false, Bool.not_eq_true, forall_const, ne_eq, Classical.not_not, and_self]
              exact ih h1 h2 _ _
            · rw [if_pos (by rw [c2, c3, decide_eq_true c1]; rfl)] at ih
              exact r_sIns hS h1 hp (ih h1.sIns h2.sIns _ _)
            · rw [if_neg (by rw [c3]; simp)] at ih
              refine x_214_353 (shw hS) ?_
              simp (disch := first | decide | omega) only [wI_I, wI_s, wI_P, wI_L, forall_eq, m2, m3, m5, m6, m7, m36, m46, m64, m256, m320, nI_add, k1, k2, k3, k4, k5, k6, k7, k8, k9, k10, k11, k12, k13, k64, nI_clamp, nI_ltI, nI_leI, nI_eq, u2_s, u2_a, u2_i, ixT, bi_z, bi_nz, bi_n1, bi_o1, true_and, and_true, true_implies, not_true, not_false_iff, Bool.not_eq_false, Bool.not_eq_true, forall_const, ne_eq, Classical.not_not, and_self]
              exact ih h1 h2 _ _
        refine x_214_248 (shw hS) ⟨fun _ => ?_, fun c => absurd ?_ c⟩
        · simp (disch := first | decide | omega) only [wI_I, wI_s, wI_P, wI_L, forall_eq, m2, m3, m5, m6, m7, m36, m46, m64, m256, m320, nI_add, k1, k2, k3, k4, k5, k6, k7, k8, k9, k10, k11, k12, k13, k64, nI_clamp, nI_ltI, nI_leI, nI_eq, u2_s, u2_a, u2_i, ixT, bi_z, bi_nz, bi_n1, bi_o1, true_and, and_true, true_implies, not_true, not_false_iff, Bool.not_eq_false, Bool.not_eq_true, forall_const, ne_eq, Classical.not_not, and_self]
          refine ⟨fun e => absurd e c', fun _ => ⟨fun c2 => ?_, fun c2 => r_cmp (shw hS) ?_⟩⟩
          · exact x_214_321 (shw hS) (tail false _ _ (by unfold m_knV; rw [decide_eq_true c2]; rfl))
          · refine ⟨fun c3 => ?_, fun c3 => ?_⟩
            · exact tail true _ _ (by unfold m_knV; rw [decide_eq_false c2, decide_eq_true c3]; rfl)
            · exact x_214_321 (shw hS) (tail false _ _ (by unfold m_knV; rw [decide_eq_false c2, decide_eq_false c3]; rfl))
        · simp (disch := first | decide | omega) only [wI_I, wI_s, wI_P, wI_L, forall_eq, m2, m3, m5, m6, m7, m36, m46, m64, m256, m320, nI_add, k1, k2, k3, k4, k5, k6, k7, k8, k9, k10, k11, k12, k13, k64, nI_clamp, nI_ltI, nI_leI, nI_eq, u2_s, u2_a, u2_i, ixT, bi_z, bi_nz, bi_n1, bi_o1, true_and, and_true, true_implies, not_true, not_false_iff, Bool.not_eq_false, Bool.not_eq_true, forall_const, ne_eq, Classical.not_not, and_self, h1.1]; exact hq
      · refine x_214_248 (shw hS) ⟨fun c => absurd c ?_, fun _ => x_214_359 (shw hS) hq⟩
        simp (disch := first | decide | omega) only [wI_I, wI_s, wI_P, wI_L, forall_eq, m2, m3, m5, m6, m7, m36, m46, m64, m256, m320, nI_add, k1, k2, k3, k4, k5, k6, k7, k8, k9, k10, k11, k12, k13, k64, nI_clamp, nI_ltI, nI_leI, nI_eq, u2_s, u2_a, u2_i, ixT, bi_z, bi_nz, bi_n1, bi_o1, true_and, and_true, true_implies, not_true, not_false_iff, Bool.not_eq_false, Bool.not_eq_true, forall_const, ne_eq, Classical.not_not, and_self, h1.1]; omega
  -- messages said again
  have L3 : ∀ g : hs, B0 n b g → sE f g → f 436 p = 0 → Q (.inl none) (wI A (if (fo (fun k f => m_againD n p (nI k) f) (Int32.toNatClampNeg (m_stable n p g) + 1) (Int32.toNatClampNeg (g 441 (6 * p + p)) - Int32.toNatClampNeg (m_stable n p g)) g) 437 p = 0 then (fo (fun k f => m_againD n p (nI k) f) (Int32.toNatClampNeg (m_stable n p g) + 1) (Int32.toNatClampNeg (g 441 (6 * p + p)) - Int32.toNatClampNeg (m_stable n p g)) g) else fo (fun q f => if m_other p (f 433 p) q && !m_knV 429 431 432 p f q then m_sIns p q f else f) 0 n (fo (fun k f => m_againD n p (nI k) f) (Int32.toNatClampNeg (m_stable n p g) + 1) (Int32.toNatClampNeg (g 441 (6 * p + p)) - Int32.toNatClampNeg (m_stable n p g)) g))) → ∀ w3 w4, mW (d + 5 + 1) 214 150 [.ref 415, .int (nI p), .int (m_stable n p g + 1), w3, w4] [] (wI A g) Q := fun g h1 h2 c hq w3 w4 => by
    obtain ⟨st, gt, e1, e2, e3, e4⟩ := hA.2 c
    rw [stable_of h2, h2 441 _ (by decide) (by decide), e1, e2, nI_clamp (by omega), nI_clamp (by omega)] at hq
    rw [stable_of h2, e1, k1]
    refine (lp (P := fun k g => B0 n b g → sE f g → ∀ w3 w4, mW (d + 5 + 1) 214 150 [.ref 415, .int (nI p), .int (nI k), w3, w4] [] (wI A g) Q) (gt + 1) (fun k f => m_againD n p (nI k) f) (fun k x hk ih h3 h4 w3 w4 => ?_) (gt - st) (st + 1) g (by omega) (fun h3 h4 w3 w4 => ?_)) h1 h2 _ _
    · refine x_214_150 (shw hS) ?_
      have e5 : x 441 (6 * p + p) = nI gt := by rw [h4 441 _ (by decide) (by decide), e2]
      simp (disch := first | decide | omega) only [wI_I, wI_s, wI_P, wI_L, forall_eq, m2, m3, m5, m6, m7, m36, m46, m64, m256, m320, nI_add, k1, k2, k3, k4, k5, k6, k7, k8, k9, k10, k11, k12, k13, k64, nI_clamp, nI_ltI, nI_leI, nI_eq, u2_s, u2_a, u2_i, ixT, bi_z, bi_nz, bi_n1, bi_o1, true_and, and_true, true_implies, not_true, not_false_iff, Bool.not_eq_false, Bool.not_eq_true, forall_const, ne_eq, Classical.not_not, and_self, e5]
      refine ⟨fun c => absurd c (by omega), fun _ => ?_⟩
      refine (lp0 (P := fun q g => B0 n b g → sE f g → ∀ w4, mW (d + 5 + 1) 214 167 [.ref 415, .int (nI p), .int (nI k), .int (nI q), w4] [] (wI A g) Q) n (fun q f => if m_other p (f 433 p) q && decide (f 443 (36 * p + 6 * q + p) < nI k) then m_ship p q 1 (m_sayMsg n p p (nI k) (m_start f)) else f) (fun q y hq ih2 h5 h6 w4 => ?_) (fun h5 h6 w4 => ?_)) h3 h4 _
      · have skip : (m_other p (y 433 p) q && decide (y 443 (36 * p + 6 * q + p) < nI k)) = false → ∀ w4, mW (d + 5 + 1) 214 234 [.ref 415, .int (nI p), .int (nI k), .int (nI q), w4] [] (wI A y) Q := fun e w4 => by
          rw [if_neg (by rw [e]; decide)] at ih2
          refine x_214_234 (shw hS) ?_
          simp (disch := first | decide | omega) only [wI_I, wI_s, wI_P, wI_L, forall_eq, m2, m3, m5, m6, m7, m36, m46, m64, m256, m320, nI_add, k1, k2, k3, k4, k5, k6, k7, k8, k9, k10, k11, k12, k13, k64, nI_clamp, nI_ltI, nI_leI, nI_eq, u2_s, u2_a, u2_i, ixT, bi_z, bi_nz, bi_n1, bi_o1, true_and, and_true, true_implies, not_true, not_false_iff, Bool.not_eq_false, Bool.not_eq_true, forall_const, ne_eq, Classical.not_not, and_self]
          exact ih2 h5 h6 _
        unfold m_other at ih2 skip
        refine x_214_167 (shw hS) ⟨fun _ => ?_, fun c => absurd ?_ c⟩
        · simp (disch := first | decide | omega) only [wI_I, wI_s, wI_P, wI_L, forall_eq, m2, m3, m5, m6, m7, m36, m46, m64, m256, m320, nI_add, k1, k2, k3, k4, k5, k6, k7, k8, k9, k10, k11, k12, k13, k64, nI_clamp, nI_ltI, nI_leI, nI_eq, u2_s, u2_a, u2_i, ixT, bi_z, bi_nz, bi_n1, bi_o1, true_and, and_true, true_implies, not_true, not_false_iff, Bool.not_eq_false, Bool.not_eq_true, forall_const, ne_eq, Classical.not_not, and_self]
          refine ⟨fun c => skip (by rw [decide_eq_false (fun q => q c)]; rfl) _, fun c => r_has (shw hS) (by omega) ?_⟩
          show _ ∧ _
          simp (disch := first | decide | omega) only [wI_I, wI_s, wI_P, wI_L, forall_eq, m2, m3, m5, m6, m7, m36, m46, m64, m256, m320, nI_add, k1, k2, k3, k4, k5, k6, k7, k8, k9, k10, k11, k12, k13, k64, nI_clamp, nI_ltI, nI_leI, nI_eq, u2_s, u2_a, u2_i, ixT, bi_z, bi_nz, bi_n1, bi_o1, true_and, and_true, true_implies, not_true, not_false_iff, Bool.not_eq_false, Bool.not_eq_true, forall_const, ne_eq, Classical.not_not, and_self]
          refine ⟨fun c2 => skip (by rw [c2, Bool.and_false]; rfl) _, fun c2 => ⟨fun c3 => ?_, fun c3 => skip (by rw [decide_eq_false c3, Bool.and_false]) _⟩⟩
          rw [if_pos (by rw [decide_eq_true c, c2, decide_eq_true c3]; rfl)] at ih2
          refine r_startBody hS ?_
          refine r_sayMsg (n := n) (w := 0) hS h5.start.1 hn6 hp hp (nI_pos (by omega)) (wr_0 _) (by omega) ?_
          exact r_ship hS hp h5.start.msg.2.2.ok (wr_msg (wr_0 _)) (by omega) (ih2 h5.start.msg.ship h6.start.msg.ship _)
        · simp (disch := first | decide | omega) only [wI_I, wI_s, wI_P, wI_L, forall_eq, m2, m3, m5, m6, m7, m36, m46, m64, m256, m320, nI_add, k1, k2, k3, k4, k5, k6, k7, k8, k9, k10, k11, k12, k13, k64, nI_clamp, nI_ltI, nI_leI, nI_eq, u2_s, u2_a, u2_i, ixT, bi_z, bi_nz, bi_n1, bi_o1, true_and, and_true, true_implies, not_true, not_false_iff, Bool.not_eq_false, Bool.not_eq_true, forall_const, ne_eq, Classical.not_not, and_self, h5.1]; exact hq
      · refine x_214_167 (shw hS) ⟨fun c => absurd c ?_, fun _ => ?_⟩
        · simp (disch := first | decide | omega) only [wI_I, wI_s, wI_P, wI_L, forall_eq, m2, m3, m5, m6, m7, m36, m46, m64, m256, m320, nI_add, k1, k2, k3, k4, k5, k6, k7, k8, k9, k10, k11, k12, k13, k64, nI_clamp, nI_ltI, nI_leI, nI_eq, u2_s, u2_a, u2_i, ixT, bi_z, bi_nz, bi_n1, bi_o1, true_and, and_true, true_implies, not_true, not_false_iff, Bool.not_eq_false, Bool.not_eq_true, forall_const, ne_eq, Classical.not_not, and_self, h5.1]; omega
        · simp (disch := first | decide | omega) only [wI_I, wI_s, wI_P, wI_L, forall_eq, m2, m3, m5, m6, m7, m36, m46, m64, m256, m320, nI_add, k1, k2, k3, k4, k5, k6, k7, k8, k9, k10, k11, k12, k13, k64, nI_clamp, nI_ltI, nI_leI, nI_eq, u2_s, u2_a, u2_i, ixT, bi_z, bi_nz, bi_n1, bi_o1, true_and, and_true, true_implies, not_true, not_false_iff, Bool.not_eq_false, Bool.not_eq_true, forall_const, ne_eq, Classical.not_not, and_self]
          exact ih h5 h6 _ _
    · generalize fo (fun k f => m_againD n p (nI k) f) (st + 1) (gt - st) g = i at hq h3 h4 ⊢
      refine x_214_150 (shw hS) ?_
      have e5 : i 441 (6 * p + p) = nI gt := by rw [h4 441 _ (by decide) (by decide), e2]
      simp (disch := first | decide | omega) only [wI_I, wI_s, wI_P, wI_L, forall_eq, m2, m3, m5, m6, m7, m36, m46, m64, m256, m320, nI_add, k1, k2, k3, k4, k5, k6, k7, k8, k9, k10, k11, k12, k13, k64, nI_clamp, nI_ltI, nI_leI, nI_eq, u2_s, u2_a, u2_i, ixT, bi_z, bi_nz, bi_n1, bi_o1, true_and, and_true, true_implies, not_true, not_false_iff, Bool.not_eq_false, Bool.not_eq_true, forall_const, ne_eq, Classical.not_not, and_self, e5]
      refine ⟨fun _ => L4 i h3 hq _ _, fun c => absurd (by omega) c⟩
  -- behind the attempt
  have L2 : ∀ g : hs, B0 n b g → sE f g → Q (.inl none) (wI A (if (if g 436 p = 2 ∨ g 436 p = 3 then m_fill n p g else g) 436 p ≠ 0 then (if g 436 p = 2 ∨ g 436 p = 3 then m_fill n p g else g) else (if (fo (fun k f => m_againD n p (nI k) f) (Int32.toNatClampNeg (m_stable n p (if g 436 p = 2 ∨ g 436 p = 3 then m_fill n p g else g)) + 1) (Int32.toNatClampNeg ((if g 436 p = 2 ∨ g 436 p = 3 then m_fill n p g else g) 441 (6 * p + p)) - Int32.toNatClampNeg (m_stable n p (if g 436 p = 2 ∨ g 436 p = 3 then m_fill n p g else g))) (if g 436 p = 2 ∨ g 436 p = 3 then m_fill n p g else g)) 437 p = 0 then (fo (fun k f => m_againD n p (nI k) f) (Int32.toNatClampNeg (m_stable n p (if g 436 p = 2 ∨ g 436 p = 3 then m_fill n p g else g)) + 1) (Int32.toNatClampNeg ((if g 436 p = 2 ∨ g 436 p = 3 then m_fill n p g else g) 441 (6 * p + p)) - Int32.toNatClampNeg (m_stable n p (if g 436 p = 2 ∨ g 436 p = 3 then m_fill n p g else g))) (if g 436 p = 2 ∨ g 436 p = 3 then m_fill n p g else g)) else fo (fun q f => if m_other p (f 433 p) q && !m_knV 429 431 432 p f q then m_sIns p q f else f) 0 n (fo (fun k f => m_againD n p (nI k) f) (Int32.toNatClampNeg (m_stable n p (if g 436 p = 2 ∨ g 436 p = 3 then m_fill n p g else g)) + 1) (Int32.toNatClampNeg ((if g 436 p = 2 ∨ g 436 p = 3 then m_fill n p g else g) 441 (6 * p + p)) - Int32.toNatClampNeg (m_stable n p (if g 436 p = 2 ∨ g 436 p = 3 then m_fill n p g else g))) (if g 436 p = 2 ∨ g 436 p = 3 then m_fill n p g else g))))) → ∀ w2 w3 w4, mW (d + 5 + 1) 214 107 [.ref 415, .int (nI p), w2, w3, w4] [] (wI A g) Q := fun g h1 h2 hq w2 w3 w4 => by
    have e6 : g 436 p = f 436 p := h2 436 p (by decide) (by decide)
    have filled : g 436 p = 2 ∨ g 436 p = 3 → ∀ w2 w3 w4, mW (d + 5 + 1) 214 127 [.ref 415, .int (nI p), w2, w3, w4] [] (wI A g) Q := fun c w2 w3 w4 => by
      simp only [if_pos c] at hq
      refine x_214_127 (shw hS) (r_fill (n := n) (b := b) hS h1 hn0 hp (okC_of (hA.1 (by rw [← e6]; exact c)) h2) ?_)
      have e7 : m_fill n p g 436 p = g 436 p := (sE.rfl g).fill 436 p (by decide) (by decide)
      have e8 : ¬ g 436 p = 0 := fun e => by rw [e] at c; exact absurd c (by decide)
      show _ ∧ _
      simp (disch := first | decide | omega) only [wI_I, wI_s, wI_P, wI_L, forall_eq, m2, m3, m5, m6, m7, m36, m46, m64, m256, m320, nI_add, k1, k2, k3, k4, k5, k6, k7, k8, k9, k10, k11, k12, k13, k64, nI_clamp, nI_ltI, nI_leI, nI_eq, u2_s, u2_a, u2_i, ixT, bi_z, bi_nz, bi_n1, bi_o1, true_and, and_true, true_implies, not_true, not_false_iff, Bool.not_eq_false, Bool.not_eq_true, forall_const, ne_eq, Classical.not_not, and_self, e7]
      rw [if_pos (by rw [e7]; exact e8)] at hq
      exact ⟨fun e => absurd e e8, fun _ => hq⟩
    refine x_214_107 (shw hS) ?_
    simp (disch := first | decide | omega) only [wI_I, wI_s, wI_P, wI_L, forall_eq, m2, m3, m5, m6, m7, m36, m46, m64, m256, m320, nI_add, k1, k2, k3, k4, k5, k6, k7, k8, k9, k10, k11, k12, k13, k64, nI_clamp, nI_ltI, nI_leI, nI_eq, u2_s, u2_a, u2_i, ixT, bi_z, bi_nz, bi_n1, bi_o1, true_and, and_true, true_implies, not_true, not_false_iff, Bool.not_eq_false, Bool.not_eq_true, forall_const, ne_eq, Classical.not_not, and_self]
    refine ⟨fun c => filled (Or.inl c) _ _ _, fun c => ⟨fun c2 => filled (Or.inr c2) _ _ _, fun c2 => ?_⟩⟩
    simp only [if_neg (fun e => Or.elim e c c2)] at hq
    refine x_214_132 (shw hS) ?_
    simp (disch := first | decide | omega) only [wI_I, wI_s, wI_P, wI_L, forall_eq, m2, m3, m5, m6, m7, m36, m46, m64, m256, m320, nI_add, k1, k2, k3, k4, k5, k6, k7, k8, k9, k10, k11, k12, k13, k64, nI_clamp, nI_ltI, nI_leI, nI_eq, u2_s, u2_a, u2_i, ixT, bi_z, bi_nz, bi_n1, bi_o1, true_and, and_true, true_implies, not_true, not_false_iff, Bool.not_eq_false, Bool.not_eq_true, forall_const, ne_eq, Classical.not_not, and_self]
    refine ⟨fun c3 => ?_, fun c3 => ?_⟩
    · rw [if_neg (fun q => q c3)] at hq
      refine r_stable hS h1.1 hn6 hp ?_
      exact L3 g h1 h2 (by rw [← e6]; exact c3) hq _ _
    · rw [if_pos c3] at hq; exact hq
  by_cases c0 : 0 < f 453 p
  · simp only [if_pos c0] at h
    refine (lp0 (P := fun q g => B0 n b g → sE f g → ∀ w3 w4, mW (d + 5 + 1) 214 2 [.ref 415, .int (nI p), .int (nI q), w3, w4] [] (wI A g) Q) n (fun q f => m_again1 n p f q) (fun q g hq ih h1 h2 w3 w4 => ?_) (fun h1 h2 w3 w4 => ?_)) hB (sE.rfl f) _ _
    · have c1 : 0 < g 453 p := by rw [h2 453 _ (by decide) (by decide)]; exact c0
      have skip : m_again1 n p g q = g → ∀ w3 w4, mW (d + 5 + 1) 214 101 [.ref 415, .int (nI p), .int (nI q), w3, w4] [] (wI A g) Q := fun e w3 w4 => by
        rw [e] at ih
        refine x_214_101 (shw hS) ?_
        simp (disch := first | decide | omega) only [wI_I, wI_s, wI_P, wI_L, forall_eq, m2, m3, m5, m6, m7, m36, m46, m64, m256, m320, nI_add, k1, k2, k3, k4, k5, k6, k7, k8, k9, k10, k11, k12, k13, k64, nI_clamp, nI_ltI, nI_leI, nI_eq, u2_s, u2_a, u2_i, ixT, bi_z, bi_nz, bi_n1, bi_o1, true_and, and_true, true_implies, not_true, not_false_iff, Bool.not_eq_false, Bool.not_eq_true, forall_const, ne_eq, Classical.not_not, and_self]
        exact ih h1 h2 _ _
      unfold m_again1 m_other at ih skip
      refine x_214_2 (shw hS) ⟨fun _ => ?_, fun c => absurd ?_ c⟩
      · simp (disch := first | decide | omega) only [wI_I, wI_s, wI_P, wI_L, forall_eq, m2, m3, m5, m6, m7, m36, m46, m64, m256, m320, nI_add, k1, k2, k3, k4, k5, k6, k7, k8, k9, k10, k11, k12, k13, k64, nI_clamp, nI_ltI, nI_leI, nI_eq, u2_s, u2_a, u2_i, ixT, bi_z, bi_nz, bi_n1, bi_o1, true_and, and_true, true_implies, not_true, not_false_iff, Bool.not_eq_false, Bool.not_eq_true, forall_const, ne_eq, Classical.not_not, and_self]
        refine ⟨fun _ => ⟨fun c => skip (if_neg (by rw [decide_eq_false (fun q => q c)]; simp)) _ _, fun c => r_has (shw hS) (by omega) ?_⟩, fun c => absurd c1 c⟩
        show _ ∧ _
        simp (disch := first | decide | omega) only [wI_I, wI_s, wI_P, wI_L, forall_eq, m2, m3, m5, m6, m7, m36, m46, m64, m256, m320, nI_add, k1, k2, k3, k4, k5, k6, k7, k8, k9, k10, k11, k12, k13, k64, nI_clamp, nI_ltI, nI_leI, nI_eq, u2_s, u2_a, u2_i, ixT, bi_z, bi_nz, bi_n1, bi_o1, true_and, and_true, true_implies, not_true, not_false_iff, Bool.not_eq_false, Bool.not_eq_true, forall_const, ne_eq, Classical.not_not, and_self]
        refine ⟨fun c2 => skip (if_neg (by rw [c2]; simp)) _ _, fun c2 => ?_⟩
        have co : (decide (q ≠ p) && hasb (g 454 p) q) = true := by rw [decide_eq_true c, c2]; rfl
        rw [if_pos co] at ih skip
        have second : ¬ (g 453 p = 1 ∧ hasb (g 455 p) q = false) → ∀ w3 w4, mW (d + 5 + 1) 214 72 [.ref 415, .int (nI p), .int (nI q), w3, w4] [] (wI A g) Q := fun e w3 w4 => by
          rw [if_neg e] at ih skip
          refine x_214_72 (shw hS) ?_
          simp (disch := first | decide | omega) only [wI_I, wI_s, wI_P, wI_L, forall_eq, m2, m3, m5, m6, m7, m36, m46, m64, m256, m320, nI_add, k1, k2, k3, k4, k5, k6, k7, k8, k9, k10, k11, k12, k13, k64, nI_clamp, nI_ltI, nI_leI, nI_eq, u2_s, u2_a, u2_i, ixT, bi_z, bi_nz, bi_n1, bi_o1, true_and, and_true, true_implies, not_true, not_false_iff, Bool.not_eq_false, Bool.not_eq_true, forall_const, ne_eq, Classical.not_not, and_self]
          refine ⟨fun c3 => r_has (shw hS) (by omega) ?_, fun c3 => skip (if_neg (fun q => c3 q.1)) _ _⟩
          show _ ∧ _
          simp (disch := first | decide | omega) only [wI_I, wI_s, wI_P, wI_L, forall_eq, m2, m3, m5, m6, m7, m36, m46, m64, m256, m320, nI_add, k1, k2, k3, k4, k5, k6, k7, k8, k9, k10, k11, k12, k13, k64, nI_clamp, nI_ltI, nI_leI, nI_eq, u2_s, u2_a, u2_i, ixT, bi_z, bi_nz, bi_n1, bi_o1, true_and, and_true, true_implies, not_true, not_false_iff, Bool.not_eq_false, Bool.not_eq_true, forall_const, ne_eq, Classical.not_not, and_self]
          refine ⟨fun c4 => ?_, fun c4 => skip (if_neg (fun q => by rw [c4] at q; exact absurd q.2 (by decide))) _ _⟩
          rw [if_pos ⟨c3, c4⟩] at ih
          exact r_sCut hS h1 hp (by omega) (ih h1.sCut h2.sCut _ _)
        refine ⟨fun c3 => r_has (shw hS) (by omega) ?_, fun c3 => second (fun q => c3 q.1) _ _⟩
        show _ ∧ _
        simp (disch := first | decide | omega) only [wI_I, wI_s, wI_P, wI_L, forall_eq, m2, m3, m5, m6, m7, m36, m46, m64, m256, m320, nI_add, k1, k2, k3, k4, k5, k6, k7, k8, k9, k10, k11, k12, k13, k64, nI_clamp, nI_ltI, nI_leI, nI_eq, u2_s, u2_a, u2_i, ixT, bi_z, bi_nz, bi_n1, bi_o1, true_and, and_true, true_implies, not_true, not_false_iff, Bool.not_eq_false, Bool.not_eq_true, forall_const, ne_eq, Classical.not_not, and_self]
        refine ⟨fun c4 => ?_, fun c4 => second (fun q => by rw [c4] at q; exact absurd q.2 (by decide)) _ _⟩
        rw [if_pos ⟨c3, c4⟩] at ih
        refine r_sPro hS h1 hp ?_
        refine x_214_101 (shw hS) ?_
        simp (disch := first | decide | omega) only [wI_I, wI_s, wI_P, wI_L, forall_eq, m2, m3, m5, m6, m7, m36, m46, m64, m256, m320, nI_add, k1, k2, k3, k4, k5, k6, k7, k8, k9, k10, k11, k12, k13, k64, nI_clamp, nI_ltI, nI_leI, nI_eq, u2_s, u2_a, u2_i, ixT, bi_z, bi_nz, bi_n1, bi_o1, true_and, and_true, true_implies, not_true, not_false_iff, Bool.not_eq_false, Bool.not_eq_true, forall_const, ne_eq, Classical.not_not, and_self]
        exact ih h1.sPro h2.sPro _ _
      · simp (disch := first | decide | omega) only [wI_I, wI_s, wI_P, wI_L, forall_eq, m2, m3, m5, m6, m7, m36, m46, m64, m256, m320, nI_add, k1, k2, k3, k4, k5, k6, k7, k8, k9, k10, k11, k12, k13, k64, nI_clamp, nI_ltI, nI_leI, nI_eq, u2_s, u2_a, u2_i, ixT, bi_z, bi_nz, bi_n1, bi_o1, true_and, and_true, true_implies, not_true, not_false_iff, Bool.not_eq_false, Bool.not_eq_true, forall_const, ne_eq, Classical.not_not, and_self, h1.1]; exact hq
    · refine x_214_2 (shw hS) ⟨fun c => absurd c ?_, fun _ => L2 _ h1 h2 h _ _ _⟩
      simp (disch := first | decide | omega) only [wI_I, wI_s, wI_P, wI_L, forall_eq, m2, m3, m5, m6, m7, m36, m46, m64, m256, m320, nI_add, k1, k2, k3, k4, k5, k6, k7, k8, k9, k10, k11, k12, k13, k64, nI_clamp, nI_ltI, nI_leI, nI_eq, u2_s, u2_a, u2_i, ixT, bi_z, bi_nz, bi_n1, bi_o1, true_and, and_true, true_implies, not_true, not_false_iff, Bool.not_eq_false, Bool.not_eq_true, forall_const, ne_eq, Classical.not_not, and_self, h1.1]; omega
  · simp only [if_neg c0] at h
    refine x_214_2 (shw hS) ⟨fun _ => ?_, fun _ => L2 f hB (sE.rfl f) h _ _ _⟩
    simp (disch := first | decide | omega) only [wI_I, wI_s, wI_P, wI_L, forall_eq, m2, m3, m5, m6, m7, m36, m46, m64, m256, m320, nI_add, k1, k2, k3, k4, k5, k6, k7, k8, k9, k10, k11, k12, k13, k64, nI_clamp, nI_ltI, nI_leI, nI_eq, u2_s, u2_a, u2_i, ixT, bi_z, bi_nz, bi_n1, bi_o1, true_and, and_true, true_implies, not_true, not_false_iff, Bool.not_eq_false, Bool.not_eq_true, forall_const, ne_eq, Classical.not_not, and_self]
    exact ⟨fun c => absurd c c0, fun _ => L2 f hB (sE.rfl f) h _ _ _⟩
end
