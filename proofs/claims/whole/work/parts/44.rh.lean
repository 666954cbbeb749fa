/-! The reference's methods do what the model says: promises, proposals, cuts. -/
section
variable {A : am_A} {f : hs} {Q : am_Res → am_A → Prop} {d n p q u t m : Nat}
def t_p (p J : Nat) (f g : hs) : hs := fun a i => if a = 445 ∧ 384 * p ≤ i ∧ i < 384 * p + J ∧ f 441 (i / 64) < f 445 i then 0 else g a i
theorem t_p1 {J : Nat} {g : hs} (h : f 441 ((384 * p + J) / 64) < f 445 (384 * p + J)) : am_u2 (t_p p J f g) 445 (384 * p + J) 0 = t_p p (J + 1) f g := by
  funext a i
  simp only [u2_e, t_p]
  by_cases e : a = 445 ∧ i = 384 * p + J
  · rw [if_pos e, if_pos ⟨e.1, by omega, by omega, by rw [e.2]; exact h⟩]
  · rw [if_neg e]
    by_cases e2 : a = 445 ∧ 384 * p ≤ i ∧ i < 384 * p + J ∧ f 441 (i / 64) < f 445 i
    · rw [if_pos e2, if_pos ⟨e2.1, e2.2.1, by omega, e2.2.2.2⟩]
    · rw [if_neg e2, if_neg (fun q => e2 ⟨q.1, q.2.1, by omega, q.2.2.2⟩)]
theorem t_p0 {J : Nat} {g : hs} (h : ¬ f 441 ((384 * p + J) / 64) < f 445 (384 * p + J)) : t_p p J f g = t_p p (J + 1) f g := by
  funext a i
  simp only [t_p]
  by_cases e2 : a = 445 ∧ 384 * p ≤ i ∧ i < 384 * p + J ∧ f 441 (i / 64) < f 445 i
  · rw [if_pos e2, if_pos ⟨e2.1, e2.2.1, by omega, e2.2.2.2⟩]
  · rw [if_neg e2, if_neg (fun q => ?_)]
    by_cases e3 : i = 384 * p + J
    · rw [e3] at q; exact h q.2.2.2
    · exact e2 ⟨q.1, q.2.1, by omega, q.2.2.2⟩
theorem r_prom {a b : Int32} (hS : Sh A) (hn : f 415 1 = nI n) (hn6 : n ≤ 6) (hp : p < 6) (h : Q (.inl none) (wI A (m_prom n p a b f))) : mC (d + 1) 195 [.ref 415, .int (nI p), .int a, .int b] (wI A f) Q := by
  refine x_195_0 (shw hS) ?_
  simp (disch := first | decide | omega) only [wI_I, wI_s, wI_P, wI_L, forall_eq, m2, m3, m5, m6, m7, m36, m46, m64, m256, m320, nI_add, k1, k2, k3, k4, k5, k6, k7, k8, k9, k10, k11, k12, k13, k64, nI_clamp, nI_ltI, nI_leI, nI_eq, u2_s, u2_a, u2_i, ixT, bi_z, bi_nz, bi_n1, bi_o1, true_and, and_true, true_implies, not_true, not_false_iff, Bool.not_eq_false, Bool.not_eq_true, forall_const, ne_eq, Classical.not_not, and_self]
  generalize hg : am_u2 (am_u2 (am_u2 (am_u2 f 453 p 0) 434 p a) 435 p b) 436 p 1 = g
  have ga : ∀ x i, x ≠ 453 → x ≠ 434 → x ≠ 435 → x ≠ 436 → g x i = f x i := fun x i h1 h2 h3 h4 => by rw [← hg]; simp (disch := first | decide | omega) only [u2_a]
  have a0 : g = t_p p 0 f g := by funext a i; simp only [t_p]; rw [if_neg (by omega)]
  have a1 : t_p p (64 * n) f g = m_prom n p a b f := by
    funext x i
    simp only [t_p, m_prom]
    by_cases e : x = 445
    · subst e
      rw [ga 445 i (by decide) (by decide) (by decide) (by decide), if_neg (c := 445 = 453 ∧ i = p) (by omega), if_neg (c := 445 = 434 ∧ i = p) (by omega), if_neg (c := 445 = 435 ∧ i = p) (by omega), if_neg (c := 445 = 436 ∧ i = p) (by omega)]
    · rw [if_neg (fun q => e q.1), if_neg (c := x = 445 ∧ _) (fun q => e q.1), ← hg]
      simp only [u2_e]
      (repeat' split) <;> first | rfl | omega | (congr 1; omega)
  rw [← a1] at h
  rw [a0]
  have b1 : ∀ J, t_p p J f g 415 1 = nI n := fun J => by unfold t_p; rw [if_neg (by omega), ga _ _ (by decide) (by decide) (by decide) (by decide), hn]
  refine l0 (P := fun u => ∀ w2 w3 w5, mW (d + 1) 195 31 [.ref 415, .int (nI p), w2, w3, .int (nI u), w5] [] (wI A (t_p p (64 * u) f g)) Q) n (fun u hu ih w2 w3 w5 => ?_) (fun w2 w3 w5 => ?_) _ _ _
  · refine x_195_31 (shw hS) ⟨fun _ => ?_, fun c => absurd ?_ c⟩
    · simp (disch := first | decide | omega) only [wI_I, wI_s, wI_P, wI_L, forall_eq, m2, m3, m5, m6, m7, m36, m46, m64, m256, m320, nI_add, k1, k2, k3, k4, k5, k6, k7, k8, k9, k10, k11, k12, k13, k64, nI_clamp, nI_ltI, nI_leI, nI_eq, u2_s, u2_a, u2_i, ixT, bi_z, bi_nz, bi_n1, bi_o1, true_and, and_true, true_implies, not_true, not_false_iff, Bool.not_eq_false, Bool.not_eq_true, forall_const, ne_eq, Classical.not_not, and_self]
      refine l0 (P := fun j => ∀ w2 w3, mW (d + 1) 195 52 [.ref 415, .int (nI p), w2, w3, .int (nI u), .int (nI (64 * (6 * p + u) + j))] [] (wI A (t_p p (64 * u + j) f g)) Q) 64 (fun j hj ih2 w2 w3 => ?_) (fun w2 w3 => ?_) _ _
      · refine x_195_52 (shw hS) ?_
        have e1 : t_p p (64 * u + j) f g 441 (6 * p + u) = f 441 (6 * p + u) := by unfold t_p; rw [if_neg (by omega), ga _ _ (by decide) (by decide) (by decide) (by decide)]
        have e2 : t_p p (64 * u + j) f g 445 (64 * (6 * p + u) + j) = f 445 (64 * (6 * p + u) + j) := by unfold t_p; rw [if_neg (by omega), ga _ _ (by decide) (by decide) (by decide) (by decide)]
        simp (disch := first | decide | omega) only [wI_I, wI_s, wI_P, wI_L, forall_eq, m2, m3, m5, m6, m7, m36, m46, m64, m256, m320, nI_add, k1, k2, k3, k4, k5, k6, k7, k8, k9, k10, k11, k12, k13, k64, nI_clamp, nI_ltI, nI_leI, nI_eq, u2_s, u2_a, u2_i, ixT, bi_z, bi_nz, bi_n1, bi_o1, true_and, and_true, true_implies, not_true, not_false_iff, Bool.not_eq_false, Bool.not_eq_true, forall_const, ne_eq, Classical.not_not, and_self, e1, e2]
        have i1 : 64 * (6 * p + u) + j = 384 * p + (64 * u + j) := by omega
        have i2 : (384 * p + (64 * u + j)) / 64 = 6 * p + u := by omega
        refine ⟨fun _ => ⟨fun c => ?_, fun c => ?_⟩, fun c => absurd (by omega) c⟩
        · have hh := t_p1 (J := 64 * u + j) (g := g) (by rw [i2, ← i1]; exact c)
          rw [i1, hh, ← i1]
          exact ih2 _ _
        · have hh := t_p0 (J := 64 * u + j) (g := g) (by rw [i2, ← i1]; exact c)
          rw [hh]
          exact ih2 _ _
      · refine x_195_52 (shw hS) ?_
        simp (disch := first | decide | omega) only [wI_I, wI_s, wI_P, wI_L, forall_eq, m2, m3, m5, m6, m7, m36, m46, m64, m256, m320, nI_add, k1, k2, k3, k4, k5, k6, k7, k8, k9, k10, k11, k12, k13, k64, nI_clamp, nI_ltI, nI_leI, nI_eq, u2_s, u2_a, u2_i, ixT, bi_z, bi_nz, bi_n1, bi_o1, true_and, and_true, true_implies, not_true, not_false_iff, Bool.not_eq_false, Bool.not_eq_true, forall_const, ne_eq, Classical.not_not, and_self]
        refine ⟨fun c => absurd c (by omega), fun _ => ?_⟩
        exact ih _ _ _
    · simp (disch := first | decide | omega) only [wI_I, wI_s, wI_P, wI_L, forall_eq, m2, m3, m5, m6, m7, m36, m46, m64, m256, m320, nI_add, k1, k2, k3, k4, k5, k6, k7, k8, k9, k10, k11, k12, k13, k64, nI_clamp, nI_ltI, nI_leI, nI_eq, u2_s, u2_a, u2_i, ixT, bi_z, bi_nz, bi_n1, bi_o1, true_and, and_true, true_implies, not_true, not_false_iff, Bool.not_eq_false, Bool.not_eq_true, forall_const, ne_eq, Classical.not_not, and_self, b1]; exact hu
  · refine x_195_31 (shw hS) ⟨fun c => absurd c ?_, fun _ => h⟩
    simp (disch := first | decide | omega) only [wI_I, wI_s, wI_P, wI_L, forall_eq, m2, m3, m5, m6, m7, m36, m46, m64, m256, m320, nI_add, k1, k2, k3, k4, k5, k6, k7, k8, k9, k10, k11, k12, k13, k64, nI_clamp, nI_ltI, nI_leI, nI_eq, u2_s, u2_a, u2_i, ixT, bi_z, bi_nz, bi_n1, bi_o1, true_and, and_true, true_implies, not_true, not_false_iff, Bool.not_eq_false, Bool.not_eq_true, forall_const, ne_eq, Classical.not_not, and_self, b1]; omega
theorem r_sPro {b : Nat} (hS : Sh A) (hB : B0 n b f) (hp : p < 6) (h : Q (.inl none) (wI A (m_sPro p q f))) : mC (d + 2) 196 [.ref 415, .int (nI p), .int (nI q)] (wI A f) Q := by
  refine x_196_0 (shw hS) (r_startBody hS ?_)
  show _ ∧ _
  simp (disch := first | decide | omega) only [wI_I, wI_s, wI_P, wI_L, forall_eq, m2, m3, m5, m6, m7, m36, m46, m64, m256, m320, nI_add, k1, k2, k3, k4, k5, k6, k7, k8, k9, k10, k11, k12, k13, k64, nI_clamp, nI_ltI, nI_leI, nI_eq, u2_s, u2_a, u2_i, ixT, bi_z, bi_nz, bi_n1, bi_o1, true_and, and_true, true_implies, not_true, not_false_iff, Bool.not_eq_false, Bool.not_eq_true, forall_const, ne_eq, Classical.not_not, and_self, m_start_a]
  refine r_say' hS (wr_0 _) (by decide) ?_
  exact r_ship hS hp hB.start.say.2.2.ok (wr_s (wr_0 _)) (by decide) h
theorem r_setR {a b : Int32} (hS : Sh A) (hp : p < 6) (hq : q < 6) (h : Q (.inl none) (wI A (m_setR p q a b f))) : mC (d + 1) 197 [.ref 415, .int (nI p), .int (nI q), .int a, .int b] (wI A f) Q := by
  refine x_197_0 (shw hS) ?_
  simp (disch := first | decide | omega) only [wI_I, wI_s, wI_P, wI_L, forall_eq, m2, m3, m5, m6, m7, m36, m46, m64, m256, m320, nI_add, k1, k2, k3, k4, k5, k6, k7, k8, k9, k10, k11, k12, k13, k64, nI_clamp, nI_ltI, nI_leI, nI_eq, u2_s, u2_a, u2_i, ixT, bi_z, bi_nz, bi_n1, bi_o1, true_and, and_true, true_implies, not_true, not_false_iff, Bool.not_eq_false, Bool.not_eq_true, forall_const, ne_eq, Classical.not_not, and_self]
  exact h
theorem r_alike (hS : Sh A) (hn : f 415 1 = nI n) (hn6 : n ≤ 6) (hp : p < 6) (hq : q < 6) (h : Q (.inl (some (.int (m_alike n p q f)))) (wI A f)) : mC (d + 2) 199 [.ref 415, .int (nI p), .int (nI q)] (wI A f) Q := by
  refine x_199_0 (shw hS) ?_
  refine lp0 (P := fun t s => ∀ w5, mW (d + 1 + 1) 199 5 [.ref 415, .int (nI p), .int (nI q), .int s, .int (nI t), w5] [] (wI A f) Q) n (fun t s => if m_same p q f t then sb s t else s) (fun t s ht ih w5 => ?_) (fun w5 => ?_) _
  · refine x_199_5 (shw hS) ⟨fun _ => ?_, fun c => absurd ?_ c⟩
    · simp (disch := first | decide | omega) only [wI_I, wI_s, wI_P, wI_L, forall_eq, m2, m3, m5, m6, m7, m36, m46, m64, m256, m320, nI_add, k1, k2, k3, k4, k5, k6, k7, k8, k9, k10, k11, k12, k13, k64, nI_clamp, nI_ltI, nI_leI, nI_eq, u2_s, u2_a, u2_i, ixT, bi_z, bi_nz, bi_n1, bi_o1, true_and, and_true, true_implies, not_true, not_false_iff, Bool.not_eq_false, Bool.not_eq_true, forall_const, ne_eq, Classical.not_not, and_self]
      unfold m_same at ih
      refine ⟨fun c1 => ⟨fun c2 => r_has (shw hS) (by omega) ?_, fun c2 => r_has (shw hS) (by omega) ?_⟩, fun c1 => r_has (shw hS) (by omega) ?_⟩
      · show _ ∧ _
        simp (disch := first | decide | omega) only [wI_I, wI_s, wI_P, wI_L, forall_eq, m2, m3, m5, m6, m7, m36, m46, m64, m256, m320, nI_add, k1, k2, k3, k4, k5, k6, k7, k8, k9, k10, k11, k12, k13, k64, nI_clamp, nI_ltI, nI_leI, nI_eq, u2_s, u2_a, u2_i, ixT, bi_z, bi_nz, bi_n1, bi_o1, true_and, and_true, true_implies, not_true, not_false_iff, Bool.not_eq_false, Bool.not_eq_true, forall_const, ne_eq, Classical.not_not, and_self]
        rw [decide_eq_true c1, decide_eq_true c2] at ih
        exact ⟨fun c => by rw [c] at ih; exact ih _, fun c => by rw [c] at ih; exact ih _⟩
      · show _ ∧ _
        simp (disch := first | decide | omega) only [wI_I, wI_s, wI_P, wI_L, forall_eq, m2, m3, m5, m6, m7, m36, m46, m64, m256, m320, nI_add, k1, k2, k3, k4, k5, k6, k7, k8, k9, k10, k11, k12, k13, k64, nI_clamp, nI_ltI, nI_leI, nI_eq, u2_s, u2_a, u2_i, ixT, bi_z, bi_nz, bi_n1, bi_o1, true_and, and_true, true_implies, not_true, not_false_iff, Bool.not_eq_false, Bool.not_eq_true, forall_const, ne_eq, Classical.not_not, and_self]
        rw [decide_eq_false c2, Bool.and_false, Bool.and_false] at ih
        exact ⟨fun c => ih _, fun c => ih _⟩
      · show _ ∧ _
        simp (disch := first | decide | omega) only [wI_I, wI_s, wI_P, wI_L, forall_eq, m2, m3, m5, m6, m7, m36, m46, m64, m256, m320, nI_add, k1, k2, k3, k4, k5, k6, k7, k8, k9, k10, k11, k12, k13, k64, nI_clamp, nI_ltI, nI_leI, nI_eq, u2_s, u2_a, u2_i, ixT, bi_z, bi_nz, bi_n1, bi_o1, true_and, and_true, true_implies, not_true, not_false_iff, Bool.not_eq_false, Bool.not_eq_true, forall_const, ne_eq, Classical.not_not, and_self]
        rw [decide_eq_false c1, Bool.false_and, Bool.and_false] at ih
        exact ⟨fun c => ih _, fun c => ih _⟩
    · simp (disch := first | decide | omega) only [wI_I, wI_s, wI_P, wI_L, forall_eq, m2, m3, m5, m6, m7, m36, m46, m64, m256, m320, nI_add, k1, k2, k3, k4, k5, k6, k7, k8, k9, k10, k11, k12, k13, k64, nI_clamp, nI_ltI, nI_leI, nI_eq, u2_s, u2_a, u2_i, ixT, bi_z, bi_nz, bi_n1, bi_o1, true_and, and_true, true_implies, not_true, not_false_iff, Bool.not_eq_false, Bool.not_eq_true, forall_const, ne_eq, Classical.not_not, and_self, hn]; exact ht
  · refine x_199_5 (shw hS) ⟨fun c => absurd c ?_, fun _ => h⟩
    simp (disch := first | decide | omega) only [wI_I, wI_s, wI_P, wI_L, forall_eq, m2, m3, m5, m6, m7, m36, m46, m64, m256, m320, nI_add, k1, k2, k3, k4, k5, k6, k7, k8, k9, k10, k11, k12, k13, k64, nI_clamp, nI_ltI, nI_leI, nI_eq, u2_s, u2_a, u2_i, ixT, bi_z, bi_nz, bi_n1, bi_o1, true_and, and_true, true_implies, not_true, not_false_iff, Bool.not_eq_false, Bool.not_eq_true, forall_const, ne_eq, Classical.not_not, and_self, hn]; omega
theorem r_sCut {b : Nat} (hS : Sh A) (hB : B0 n b f) (hp : p < 6) (hq : q < 6) (h : Q (.inl none) (wI A (m_sCut n p q f))) : mC (d + 3) 200 [.ref 415, .int (nI p), .int (nI q)] (wI A f) Q := by
  have hn6 := hB.2.1
  unfold m_sCut m_cutB at h
  refine x_200_0 (shw hS) (r_alike hS hB.1 hB.2.1 hp hq ?_)
  refine r_startBody hS ?_
  refine r_say' hS (wr_0 _) (by decide) ?_
  generalize m_alike n p q f = s at h ⊢
  refine (lp0 (P := fun u g => B0 n b g → wr g (1 + n * u) → ∀ w5, mW (d + 2 + 1) 200 19 [.ref 415, .int (nI p), .int (nI q), .int s, .int (nI u), w5] [] (wI A g) Q) n (fun u f => fo (fun v f => m_say (if hasb s u then f 459 (36 * p + 6 * u + v) else 0) f) 0 n f) (fun u g hu ih h1 h2 w5 => ?_) (fun h1 h2 w5 => ?_)) hB.start.say (by rw [Nat.mul_zero]; exact wr_s (wr_0 _)) _
  · have hnu : n * (u + 1) ≤ 36 := Nat.le_trans (Nat.mul_le_mul (show n ≤ 6 by omega) (show u + 1 ≤ 6 by omega)) (by decide)
    rw [Nat.mul_succ] at hnu
    refine x_200_19 (shw hS) ⟨fun _ => ?_, fun c => absurd ?_ c⟩
    · refine (lp0 (P := fun v g => B0 n b g → wr g (1 + n * u + v) → mW (d + 2 + 1) 200 31 [.ref 415, .int (nI p), .int (nI q), .int s, .int (nI u), .int (nI v)] [] (wI A g) Q) n (fun v f => m_say (if hasb s u then f 459 (36 * p + 6 * u + v) else 0) f) (fun v g hv ih2 h3 h4 => ?_) (fun h3 h4 => ?_)) h1 h2
      · refine x_200_31 (shw hS) ⟨fun _ => r_has (shw hS) (by omega) ?_, fun c => absurd ?_ c⟩
        · show _ ∧ _
          simp (disch := first | decide | omega) only [wI_I, wI_s, wI_P, wI_L, forall_eq, m2, m3, m5, m6, m7, m36, m46, m64, m256, m320, nI_add, k1, k2, k3, k4, k5, k6, k7, k8, k9, k10, k11, k12, k13, k64, nI_clamp, nI_ltI, nI_leI, nI_eq, u2_s, u2_a, u2_i, ixT, bi_z, bi_nz, bi_n1, bi_o1, true_and, and_true, true_implies, not_true, not_false_iff, Bool.not_eq_false, Bool.not_eq_true, forall_const, ne_eq, Classical.not_not, and_self]
          refine ⟨fun c => ?_, fun c => ?_⟩
          · rw [c] at ih2
            exact r_say' hS h4 (by omega) (ih2 h3.say (wr_s h4))
          · rw [c] at ih2
            exact r_say' hS h4 (by omega) (ih2 h3.say (wr_s h4))
        · simp (disch := first | decide | omega) only [wI_I, wI_s, wI_P, wI_L, forall_eq, m2, m3, m5, m6, m7, m36, m46, m64, m256, m320, nI_add, k1, k2, k3, k4, k5, k6, k7, k8, k9, k10, k11, k12, k13, k64, nI_clamp, nI_ltI, nI_leI, nI_eq, u2_s, u2_a, u2_i, ixT, bi_z, bi_nz, bi_n1, bi_o1, true_and, and_true, true_implies, not_true, not_false_iff, Bool.not_eq_false, Bool.not_eq_true, forall_const, ne_eq, Classical.not_not, and_self, h3.1]; exact hv
      · refine x_200_31 (shw hS) ⟨fun c => absurd c ?_, fun _ => ?_⟩
        · simp (disch := first | decide | omega) only [wI_I, wI_s, wI_P, wI_L, forall_eq, m2, m3, m5, m6, m7, m36, m46, m64, m256, m320, nI_add, k1, k2, k3, k4, k5, k6, k7, k8, k9, k10, k11, k12, k13, k64, nI_clamp, nI_ltI, nI_leI, nI_eq, u2_s, u2_a, u2_i, ixT, bi_z, bi_nz, bi_n1, bi_o1, true_and, and_true, true_implies, not_true, not_false_iff, Bool.not_eq_false, Bool.not_eq_true, forall_const, ne_eq, Classical.not_not, and_self, h3.1]; omega
        · simp (disch := first | decide | omega) only [wI_I, wI_s, wI_P, wI_L, forall_eq, m2, m3, m5, m6, m7, m36, m46, m64, m256, m320, nI_add, k1, k2, k3, k4, k5, k6, k7, k8, k9, k10, k11, k12, k13, k64, nI_clamp, nI_ltI, nI_leI, nI_eq, u2_s, u2_a, u2_i, ixT, bi_z, bi_nz, bi_n1, bi_o1, true_and, and_true, true_implies, not_true, not_false_iff, Bool.not_eq_false, Bool.not_eq_true, forall_const, ne_eq, Classical.not_not, and_self]
          exact ih h3 (by rw [Nat.mul_succ, ← Nat.add_assoc]; exact h4) _
    · simp (disch := first | decide | omega) only [wI_I, wI_s, wI_P, wI_L, forall_eq, m2, m3, m5, m6, m7, m36, m46, m64, m256, m320, nI_add, k1, k2, k3, k4, k5, k6, k7, k8, k9, k10, k11, k12, k13, k64, nI_clamp, nI_ltI, nI_leI, nI_eq, u2_s, u2_a, u2_i, ixT, bi_z, bi_nz, bi_n1, bi_o1, true_and, and_true, true_implies, not_true, not_false_iff, Bool.not_eq_false, Bool.not_eq_true, forall_const, ne_eq, Classical.not_not, and_self, h1.1]; exact hu
  · have hnn : n * n ≤ 36 := Nat.mul_le_mul hn6 hn6
    refine x_200_19 (shw hS) ⟨fun c => absurd c ?_, fun _ => ?_⟩
    · simp (disch := first | decide | omega) only [wI_I, wI_s, wI_P, wI_L, forall_eq, m2, m3, m5, m6, m7, m36, m46, m64, m256, m320, nI_add, k1, k2, k3, k4, k5, k6, k7, k8, k9, k10, k11, k12, k13, k64, nI_clamp, nI_ltI, nI_leI, nI_eq, u2_s, u2_a, u2_i, ixT, bi_z, bi_nz, bi_n1, bi_o1, true_and, and_true, true_implies, not_true, not_false_iff, Bool.not_eq_false, Bool.not_eq_true, forall_const, ne_eq, Classical.not_not, and_self, h1.1]; omega
    · exact r_ship hS hp h1.2.2.ok h2 (by omega) h
theorem dn_1 : (1 : Int32) + (-1 : Int32) = 0 := by decide
theorem dn_0 : nI 0 + (-1 : Int32) = -1 := by decide
theorem dn_z : nI 0 - (1 : Int32) = -1 := by decide
theorem neg1 : (-1 : Int32) < 0 := by decide
theorem r_giver {k : Int32} (hS : Sh A) (hn : f 415 1 = nI n) (hn6 : n ≤ 6) (h0 : 0 < n) (hp : p < 6) (hu : u < 6) (h : Q (.inl (some (.int (bi (decide (m_giver n p u k f = nI p)))))) (wI A f)) : mC (d + 2) 203 [.ref 415, .int (nI p), .int (nI u), .int k] (wI A f) Q := by
  refine x_203_0 (shw hS) ?_
  unfold m_giver at h
  rw [wI_I, hn]
  have dn : ∀ i, i < n → nI (n - 1 - i) + (-1 : Int32) = nI (n - 1 - (i + 1)) ∨ (i + 1 = n ∧ nI (n - 1 - i) + (-1 : Int32) = -1) := fun i hi => by
    rcases Nat.lt_or_ge (i + 1) n with h1 | h1
    · left
      rw [show n - 1 - i = (n - 1 - (i + 1)) + 1 by omega, ← k1]
      generalize nI (n - 1 - (i + 1)) = x
      rw [Int32.add_assoc, dn_1, Int32.add_zero]
    · right; exact ⟨by omega, by rw [show n - 1 - i = 0 by omega]; exact dn_0⟩
  have key : ∀ m i x, i + m = n → Q (.inl (some (.int (bi (decide (fo (fun i x => if hasb (f 461 p) (n - 1 - i) && decide (k ≤ f 462 (36 * p + 6 * (n - 1 - i) + u)) then nI (n - 1 - i) else x) i m x = nI p)))))) (wI A f) → mW (d + 1 + 1) 203 11 [.ref 415, .int (nI p), .int (nI u), .int k, .int x, .int (if i = n then -1 else nI (n - 1 - i))] [] (wI A f) Q := by
    intro m
    induction m with
    | zero =>
      intro i x hi hq
      rw [if_pos (by omega)]
      refine x_203_11 (shw hS) ⟨fun _ => ?_, fun c => absurd neg1 c⟩
      have hq' : Q (.inl (some (.int (bi (decide (x = nI p)))))) (wI A f) := hq
      exact ⟨fun c => by rw [decide_eq_true c] at hq'; exact hq', fun c => by rw [decide_eq_false c] at hq'; exact hq'⟩
    | succ m ih =>
      intro i x hi hq
      rw [if_neg (by omega)]
      have nx : ∀ y, Q (.inl (some (.int (bi (decide (fo (fun i x => if hasb (f 461 p) (n - 1 - i) && decide (k ≤ f 462 (36 * p + 6 * (n - 1 - i) + u)) then nI (n - 1 - i) else x) (i + 1) m y = nI p)))))) (wI A f) → mW (d + 1 + 1) 203 11 [.ref 415, .int (nI p), .int (nI u), .int k, .int y, .int (nI (n - 1 - i) + (-1 : Int32))] [] (wI A f) Q := fun y hy => by
        have := ih (i + 1) y (by omega) hy
        rcases dn i (by omega) with e | e
        · by_cases e2 : i + 1 = n
          · rw [if_pos e2] at this
            rw [show n - 1 - i = 0 by omega, dn_0]
            exact this
          · rw [if_neg e2] at this; rw [e]; exact this
        · rw [if_pos e.1] at this; rw [e.2]; exact this
      refine x_203_11 (shw hS) ⟨fun c => absurd c (nI_pos (by omega)), fun _ => ⟨ixn hp (by decide), r_has (shw hS) (by omega) ?_⟩⟩
      show _ ∧ _
      simp (disch := first | decide | omega) only [wI_I, wI_s, wI_P, wI_L, forall_eq, m2, m3, m5, m6, m7, m36, m46, m64, m256, m320, nI_add, k1, k2, k3, k4, k5, k6, k7, k8, k9, k10, k11, k12, k13, k64, nI_clamp, nI_ltI, nI_leI, nI_eq, u2_s, u2_a, u2_i, ixT, bi_z, bi_nz, bi_n1, bi_o1, true_and, and_true, true_implies, not_true, not_false_iff, Bool.not_eq_false, Bool.not_eq_true, forall_const, ne_eq, Classical.not_not, and_self]
      have hq' : Q (.inl (some (.int (bi (decide (fo (fun i x => if hasb (f 461 p) (n - 1 - i) && decide (k ≤ f 462 (36 * p + 6 * (n - 1 - i) + u)) then nI (n - 1 - i) else x) (i + 1) m (if hasb (f 461 p) (n - 1 - i) && decide (k ≤ f 462 (36 * p + 6 * (n - 1 - i) + u)) then nI (n - 1 - i) else x) = nI p)))))) (wI A f) := hq
      refine ⟨fun c => ?_, fun c => ⟨fun c2 => ?_, fun c2 => ?_⟩⟩
      · rw [c] at hq'; exact nx _ hq'
      · rw [c, decide_eq_false (Int32.not_le.mpr c2)] at hq'; exact nx _ hq'
      · rw [c, decide_eq_true (Int32.not_lt.mp c2)] at hq'; exact nx _ hq'
  have := key n 0 (-1) (by omega) h
  rw [if_neg (by omega)] at this
  rw [nI_sub1 h0]
  exact this
end
