/-! The reference's methods do what the model says: receiving, to its end. -/
section
variable {A : am_A} {f : hs} {Q : am_Res → am_A → Prop} {d n p q u t m r s w : Nat}
theorem r_rCut {b : Nat} (hS : Sh A) (hB : B0 n b f) (hn0 : 0 < n) (hr : r < 6) (hw : w + 46 ≤ 27646) (hP : ∃ z, f 435 r = nI z ∧ z < 6) (hT : f 436 r = 1 → okT n b r (m_mat n 462 (36 * r) (fun u v => f 418 (w + 10 + n * u + v)) (am_u2 f 461 r (f 418 (w + 9))))) (h : Q (.inl none) (wI A (m_rCut n r w f))) : mC (d + 10) 225 [.ref 415, .int (nI r), .int (nI w)] (wI A f) Q := by
  have hn6 := hB.2.1
  obtain ⟨z, hz, hz6⟩ := hP
  unfold m_rCut at h
  dsimp only at h
  refine x_225_0 (shw hS) ?_
  simp (disch := first | decide | omega) only [wI_I, wI_s, wI_P, wI_L, forall_eq, m2, m3, m5, m6, m7, m36, m46, m64, m256, m320, nI_add, k1, k2, k3, k4, k5, k6, k7, k8, k9, k10, k11, k12, k13, k64, nI_clamp, nI_ltI, nI_leI, nI_eq, u2_s, u2_a, u2_i, ixT, bi_z, bi_nz, bi_n1, bi_o1, true_and, and_true, true_implies, not_true, not_false_iff, Bool.not_eq_false, Bool.not_eq_true, forall_const, ne_eq, Classical.not_not, and_self]
  refine ⟨fun c => ?_, fun c => ⟨fun c2 => ?_, fun c2 => ?_⟩⟩
  · simp only [if_pos c] at h
    refine r_sRea hS hB hr hz hz6 ?_
    have e : m_sRea r f 436 r = 3 := by
      have := sE.ship (p := r) (q := Int32.toNatClampNeg (f 435 r)) (kind := 6) (fo_sE (c := fun k f => f 439 (6 * r + k)) 6 0 _ (sE.rfl f).start) 436 r (by decide) (by decide)
      unfold m_sRea
      rw [this]; exact c
    rw [if_pos (by rw [e]; decide)] at h
    show _ ∧ _
    simp (disch := first | decide | omega) only [wI_I, wI_s, wI_P, wI_L, forall_eq, m2, m3, m5, m6, m7, m36, m46, m64, m256, m320, nI_add, k1, k2, k3, k4, k5, k6, k7, k8, k9, k10, k11, k12, k13, k64, nI_clamp, nI_ltI, nI_leI, nI_eq, u2_s, u2_a, u2_i, ixT, bi_z, bi_nz, bi_n1, bi_o1, true_and, and_true, true_implies, not_true, not_false_iff, Bool.not_eq_false, Bool.not_eq_true, forall_const, ne_eq, Classical.not_not, and_self, e]
    refine ⟨fun q => absurd q (by decide), fun _ => h⟩
  · simp only [if_neg c] at h
    rw [if_neg (fun q => q c2)] at h
    have hT := hT c2
    generalize hG : am_u2 f 461 r (f 418 (w + 9)) = G at h hT ⊢
    have hBG : B0 n b G := by rw [← hG]; exact hB.set (by decide) (by decide)
    have g1 : ∀ k, G 418 k = f 418 k := fun k => by rw [← hG]; simp (disch := first | decide | omega) only [u2_a]
    have L : ∀ w4, mW (d + 9 + 1) 225 43 [.ref 415, .int (nI r), .int (nI w), .int (nI 0), w4] [] (wI A (t_mat n 462 (36 * r) 0 0 (fun u v => f 418 (w + 10 + n * u + v)) G)) Q := by
      refine l0 (P := fun i => ∀ w4, mW (d + 9 + 1) 225 43 [.ref 415, .int (nI r), .int (nI w), .int (nI i), w4] [] (wI A (t_mat n 462 (36 * r) i 0 (fun u v => f 418 (w + 10 + n * u + v)) G)) Q) n (fun i hi ih w4 => ?_) (fun w4 => ?_)
      · have hni : n * (i + 1) ≤ 36 := Nat.le_trans (Nat.mul_le_mul (show n ≤ 6 by omega) (show i + 1 ≤ 6 by omega)) (by decide)
        rw [Nat.mul_succ] at hni
        refine x_225_43 (shw hS) ⟨fun _ => ?_, fun c => absurd ?_ c⟩
        · refine l0 (P := fun j => mW (d + 9 + 1) 225 54 [.ref 415, .int (nI r), .int (nI w), .int (nI i), .int (nI j)] [] (wI A (t_mat n 462 (36 * r) i j (fun u v => f 418 (w + 10 + n * u + v)) G)) Q) n (fun j hj ih2 => ?_) ?_
          · rw [← t_mat_s hn6 hi hj] at ih2
            refine x_225_54 (shw hS) ⟨fun _ => ?_, fun c => absurd ?_ c⟩
            · simp (disch := first | decide | omega) only [wI_I, wI_s, wI_P, wI_L, forall_eq, m2, m3, m5, m6, m7, m36, m46, m64, m256, m320, nI_add, k1, k2, k3, k4, k5, k6, k7, k8, k9, k10, k11, k12, k13, k64, nI_clamp, nI_ltI, nI_leI, nI_eq, u2_s, u2_a, u2_i, ixT, bi_z, bi_nz, bi_n1, bi_o1, true_and, and_true, true_implies, not_true, not_false_iff, Bool.not_eq_false, Bool.not_eq_true, forall_const, ne_eq, Classical.not_not, and_self, t_mat_a, hBG.1, nI_mul, g1]
              exact ih2
            · simp (disch := first | decide | omega) only [wI_I, wI_s, wI_P, wI_L, forall_eq, m2, m3, m5, m6, m7, m36, m46, m64, m256, m320, nI_add, k1, k2, k3, k4, k5, k6, k7, k8, k9, k10, k11, k12, k13, k64, nI_clamp, nI_ltI, nI_leI, nI_eq, u2_s, u2_a, u2_i, ixT, bi_z, bi_nz, bi_n1, bi_o1, true_and, and_true, true_implies, not_true, not_false_iff, Bool.not_eq_false, Bool.not_eq_true, forall_const, ne_eq, Classical.not_not, and_self, t_mat_a, hBG.1]; exact hj
          · refine x_225_54 (shw hS) ⟨fun c => absurd c ?_, fun _ => ?_⟩
            · simp (disch := first | decide | omega) only [wI_I, wI_s, wI_P, wI_L, forall_eq, m2, m3, m5, m6, m7, m36, m46, m64, m256, m320, nI_add, k1, k2, k3, k4, k5, k6, k7, k8, k9, k10, k11, k12, k13, k64, nI_clamp, nI_ltI, nI_leI, nI_eq, u2_s, u2_a, u2_i, ixT, bi_z, bi_nz, bi_n1, bi_o1, true_and, and_true, true_implies, not_true, not_false_iff, Bool.not_eq_false, Bool.not_eq_true, forall_const, ne_eq, Classical.not_not, and_self, t_mat_a, hBG.1]; omega
            · simp (disch := first | decide | omega) only [wI_I, wI_s, wI_P, wI_L, forall_eq, m2, m3, m5, m6, m7, m36, m46, m64, m256, m320, nI_add, k1, k2, k3, k4, k5, k6, k7, k8, k9, k10, k11, k12, k13, k64, nI_clamp, nI_ltI, nI_leI, nI_eq, u2_s, u2_a, u2_i, ixT, bi_z, bi_nz, bi_n1, bi_o1, true_and, and_true, true_implies, not_true, not_false_iff, Bool.not_eq_false, Bool.not_eq_true, forall_const, ne_eq, Classical.not_not, and_self]
              rw [t_mat_n hn6]
              exact ih _
        · simp (disch := first | decide | omega) only [wI_I, wI_s, wI_P, wI_L, forall_eq, m2, m3, m5, m6, m7, m36, m46, m64, m256, m320, nI_add, k1, k2, k3, k4, k5, k6, k7, k8, k9, k10, k11, k12, k13, k64, nI_clamp, nI_ltI, nI_leI, nI_eq, u2_s, u2_a, u2_i, ixT, bi_z, bi_nz, bi_n1, bi_o1, true_and, and_true, true_implies, not_true, not_false_iff, Bool.not_eq_false, Bool.not_eq_true, forall_const, ne_eq, Classical.not_not, and_self, t_mat_a, hBG.1]; exact hi
      · rw [t_mat_e]
        refine x_225_43 (shw hS) ⟨fun c0 => absurd c0 ?_, fun _ => ?_⟩
        · have : m_mat n 462 (36 * r) (fun u v => f 418 (w + 10 + n * u + v)) G 415 1 = nI n := by unfold m_mat; rw [if_neg (by omega)]; exact hBG.1
          simp (disch := first | decide | omega) only [wI_I, wI_s, wI_P, wI_L, forall_eq, m2, m3, m5, m6, m7, m36, m46, m64, m256, m320, nI_add, k1, k2, k3, k4, k5, k6, k7, k8, k9, k10, k11, k12, k13, k64, nI_clamp, nI_ltI, nI_leI, nI_eq, u2_s, u2_a, u2_i, ixT, bi_z, bi_nz, bi_n1, bi_o1, true_and, and_true, true_implies, not_true, not_false_iff, Bool.not_eq_false, Bool.not_eq_true, forall_const, ne_eq, Classical.not_not, and_self, this]; omega
        · exact r_take (n := n) (b := b) hS (hBG.mat (by decide) (by decide)) hn0 hr hT h
    have := L am_un
    rw [t_mat_0] at this
    exact this
  · simp only [if_neg c] at h
    rw [if_pos c2] at h; exact h
theorem r_rFill {b z : Nat} (hS : Sh A) (hB : B0 n b f) (hn0 : 0 < n) (hr : r < 6) (hw : w + 46 ≤ 27646) (hG : okG r f) (hz : f 418 (w + 9) = nI z) (hz6 : z < 6) (hk : ¬ f 418 (w + 10) < 0)
    (hL : f 436 r = 2 → m_ofV r w f = true → okL n b r (m_keep n r z (f 418 (w + 10)) (f 418 (w + 11)) (f 418 (w + 12)) (fun i => f 418 (w + 13 + i)) f))
    (h : Q (.inl none) (wI A (m_rFill n r w f))) : mC (d + 9) 226 [.ref 415, .int (nI r), .int (nI w)] (wI A f) Q := by
  have hn6 := hB.2.1
  unfold m_rFill at h
  dsimp only at h
  rw [hz, nI_clamp (by omega)] at h
  refine x_226_0 (shw hS) ?_
  simp (disch := first | decide | omega) only [wI_I, wI_s, wI_P, wI_L, forall_eq, m2, m3, m5, m6, m7, m36, m46, m64, m256, m320, nI_add, k1, k2, k3, k4, k5, k6, k7, k8, k9, k10, k11, k12, k13, k64, nI_clamp, nI_ltI, nI_leI, nI_eq, u2_s, u2_a, u2_i, ixT, bi_z, bi_nz, bi_n1, bi_o1, true_and, and_true, true_implies, not_true, not_false_iff, Bool.not_eq_false, Bool.not_eq_true, forall_const, ne_eq, Classical.not_not, and_self]
  refine ⟨fun c => by rw [if_neg (fun q => q.1 c)] at h; exact h, fun c => r_ofV hS hr hw ?_⟩
  show _ ∧ _
  simp (disch := first | decide | omega) only [wI_I, wI_s, wI_P, wI_L, forall_eq, m2, m3, m5, m6, m7, m36, m46, m64, m256, m320, nI_add, k1, k2, k3, k4, k5, k6, k7, k8, k9, k10, k11, k12, k13, k64, nI_clamp, nI_ltI, nI_leI, nI_eq, u2_s, u2_a, u2_i, ixT, bi_z, bi_nz, bi_n1, bi_o1, true_and, and_true, true_implies, not_true, not_false_iff, Bool.not_eq_false, Bool.not_eq_true, forall_const, ne_eq, Classical.not_not, and_self]
  refine ⟨fun c2 => by rw [if_neg (fun q => by rw [c2] at q; exact absurd q.2 (by decide))] at h; exact h, fun c2 => ?_⟩
  rw [if_pos ⟨c, c2⟩] at h
  obtain ⟨g, e, hg, he, heg, hg2⟩ := hG.1 z hz6
  obtain ⟨c0, hc, hc2⟩ := hG.2.1
  rw [hz]
  refine r_keep (g := g) (c := c0) hS hB.1 hn6 hr hz6 hk (pk418 hS) (by rw [hS.lh 3 1 27646 rfl]; omega) (by rw [hS.lh 3 1 27646 rfl]; decide) hg (by omega) hc (by omega) ?_
  have e6 : ∀ k, m_keep n r z (f 418 (w + 10)) (f 418 (w + 11)) (f 418 (w + 12)) (fun i => f 418 (w + 13 + i)) f 436 k = f 436 k := fun k => keep_a (by decide)
  show _ ∧ _
  simp (disch := first | decide | omega) only [wI_I, wI_s, wI_P, wI_L, forall_eq, m2, m3, m5, m6, m7, m36, m46, m64, m256, m320, nI_add, k1, k2, k3, k4, k5, k6, k7, k8, k9, k10, k11, k12, k13, k64, nI_clamp, nI_ltI, nI_leI, nI_eq, u2_s, u2_a, u2_i, ixT, bi_z, bi_nz, bi_n1, bi_o1, true_and, and_true, true_implies, not_true, not_false_iff, Bool.not_eq_false, Bool.not_eq_true, forall_const, ne_eq, Classical.not_not, and_self, e6]
  rw [e6] at h
  refine ⟨fun c3 => ?_, fun c3 => by rw [if_neg c3] at h; exact h⟩
  rw [if_pos c3] at h
  exact r_lookAt hS hB.keep hn0 hr (hL c3 c2) h
theorem r_rRea {b : Nat} (hS : Sh A) (hB : B0 n b f) (hn0 : 0 < n) (hr : r < 6) (h6 : s < 6) (hw : w + 46 ≤ 27646)
    (hR : f 453 r = 2 ∧ hasb (f 454 r) s = true ∧ hasb (f 456 r) s = false → ∀ g, g = m_row 6 460 (36 * r + 6 * s) (fun j => f 418 (w + 9 + j)) (am_u2 f 456 r (sb (f 456 r) s)) → g 456 r = g 454 r → (∃ z, m_best n r g = nI z ∧ z < 6) ∧ okE n b r (am_u2 (m_row 6 440 (7 * r + 1) (fun k => g 460 (36 * r + 6 * Int32.toNatClampNeg (m_best n r g) + k)) (am_u2 g 440 (7 * r) (g 454 r))) 453 r 0))
    (h : Q (.inl none) (wI A (m_rRea n r s w f))) : mC (d + 8) 227 [.ref 415, .int (nI r), .int (nI s), .int (nI w)] (wI A f) Q := by
  have hn6 := hB.2.1
  unfold m_rRea at h
  refine x_227_0 (shw hS) ?_
  simp (disch := first | decide | omega) only [wI_I, wI_s, wI_P, wI_L, forall_eq, m2, m3, m5, m6, m7, m36, m46, m64, m256, m320, nI_add, k1, k2, k3, k4, k5, k6, k7, k8, k9, k10, k11, k12, k13, k64, nI_clamp, nI_ltI, nI_leI, nI_eq, u2_s, u2_a, u2_i, ixT, bi_z, bi_nz, bi_n1, bi_o1, true_and, and_true, true_implies, not_true, not_false_iff, Bool.not_eq_false, Bool.not_eq_true, forall_const, ne_eq, Classical.not_not, and_self]
  refine ⟨fun c => r_has (shw hS) h6 ?_, fun c => by rw [if_neg (fun q => c q.1)] at h; exact h⟩
  show _ ∧ _
  simp (disch := first | decide | omega) only [wI_I, wI_s, wI_P, wI_L, forall_eq, m2, m3, m5, m6, m7, m36, m46, m64, m256, m320, nI_add, k1, k2, k3, k4, k5, k6, k7, k8, k9, k10, k11, k12, k13, k64, nI_clamp, nI_ltI, nI_leI, nI_eq, u2_s, u2_a, u2_i, ixT, bi_z, bi_nz, bi_n1, bi_o1, true_and, and_true, true_implies, not_true, not_false_iff, Bool.not_eq_false, Bool.not_eq_true, forall_const, ne_eq, Classical.not_not, and_self]
  refine ⟨fun c2 => by rw [if_neg (fun q => by rw [c2] at q; exact absurd q.2.1 (by decide))] at h; exact h, fun c2 => r_has (shw hS) h6 ?_⟩
  show _ ∧ _
  simp (disch := first | decide | omega) only [wI_I, wI_s, wI_P, wI_L, forall_eq, m2, m3, m5, m6, m7, m36, m46, m64, m256, m320, nI_add, k1, k2, k3, k4, k5, k6, k7, k8, k9, k10, k11, k12, k13, k64, nI_clamp, nI_ltI, nI_leI, nI_eq, u2_s, u2_a, u2_i, ixT, bi_z, bi_nz, bi_n1, bi_o1, true_and, and_true, true_implies, not_true, not_false_iff, Bool.not_eq_false, Bool.not_eq_true, forall_const, ne_eq, Classical.not_not, and_self]
  refine ⟨fun c3 => ?_, fun c3 => by rw [if_neg (fun q => by rw [c3] at q; exact absurd q.2.2 (by decide))] at h; exact h⟩
  have cc : f 453 r = 2 ∧ hasb (f 454 r) s = true ∧ hasb (f 456 r) s = false := ⟨c, c2, c3⟩
  rw [if_pos cc] at h
  have hR := hR cc
  show mW (d + 7 + 1) 227 52 [.ref 415, .int (nI r), .int (nI s), .int (nI w), .int 0] [] (wI A (am_u2 f 456 r (sb (f 456 r) s))) Q
  generalize hG : am_u2 f 456 r (sb (f 456 r) s) = G at h hR ⊢
  have hBG : B0 n b G := by rw [← hG]; exact hB.set (by decide) (by decide)
  have g1 : ∀ k, G 418 k = f 418 k := fun k => by rw [← hG]; simp (disch := first | decide | omega) only [u2_a]
  have L : mW (d + 7 + 1) 227 52 [.ref 415, .int (nI r), .int (nI s), .int (nI w), .int (nI 0)] [] (wI A (t_row 460 (36 * r + 6 * s) 0 (fun u => f 418 (w + 9 + u)) G)) Q := by
    refine l0 (P := fun j => mW (d + 7 + 1) 227 52 [.ref 415, .int (nI r), .int (nI s), .int (nI w), .int (nI j)] [] (wI A (t_row 460 (36 * r + 6 * s) j (fun u => f 418 (w + 9 + u)) G)) Q) 6 (fun j hj ih => ?_) ?_
    · refine x_227_52 (shw hS) ⟨fun _ => ?_, fun c => absurd (nI_lt (b := 6) hj (by decide)) c⟩
      simp (disch := first | decide | omega) only [wI_I, wI_s, wI_P, wI_L, forall_eq, m2, m3, m5, m6, m7, m36, m46, m64, m256, m320, nI_add, k1, k2, k3, k4, k5, k6, k7, k8, k9, k10, k11, k12, k13, k64, nI_clamp, nI_ltI, nI_leI, nI_eq, u2_s, u2_a, u2_i, ixT, bi_z, bi_nz, bi_n1, bi_o1, true_and, and_true, true_implies, not_true, not_false_iff, Bool.not_eq_false, Bool.not_eq_true, forall_const, ne_eq, Classical.not_not, and_self, t_row_a, g1, t_rows (c := fun u => f 418 (w + 9 + u))]
      exact ih
    · rw [t_row_e]
      have hBr : B0 n b (m_row 6 460 (36 * r + 6 * s) (fun u => f 418 (w + 9 + u)) G) := hBG.mrow (by decide) (by decide)
      refine x_227_52 (shw hS) ⟨fun c => absurd c (by decide), fun _ => ?_⟩
      rcases Decidable.em (m_row 6 460 (36 * r + 6 * s) (fun u => f 418 (w + 9 + u)) G 456 r = m_row 6 460 (36 * r + 6 * s) (fun u => f 418 (w + 9 + u)) G 454 r) with e | e
      · obtain ⟨⟨wb, hwb, hwb6⟩, oE2⟩ := hR _ rfl e
        exact r_readyAll (w := wb) (n := n) (b := b) hS hBr hn0 hr (fun _ => hwb) hwb6 (fun _ => oE2) h
      · exact r_readyAll (w := 0) (n := n) (b := b) hS hBr hn0 hr (fun q => absurd q e) (by decide) (fun q => absurd q e) h
  rw [t_row0] at L
  exact L
/-- what a packet of a change needs -/
def okR2 (n b r s w : Nat) (K : Int32) (f : hs) : Prop := B0 n b f ∧ 0 < n ∧ (3 ≤ K ∧ K ≤ 7 → m_ofP r w f = true → ¬ f 436 r = 0 →
  (K = 3 → f 453 r = 1 ∧ hasb (f 454 r) s = true ∧ hasb (f 455 r) s = false → ∀ g, g = m_row n 459 (36 * r + 6 * s) (fun u => f 418 (w + 9 + u)) (m_setR r s (f 418 (w + 5)) (f 418 (w + 6)) f) → g 455 r = g 454 r → okT n b r (m_cut0 n r g)) ∧
  (K = 4 → (∃ z, f 435 r = nI z ∧ z < 6) ∧ (f 436 r = 1 → okT n b r (m_mat n 462 (36 * r) (fun u v => f 418 (w + 10 + n * u + v)) (am_u2 f 461 r (f 418 (w + 9)))))) ∧
  (K = 5 → ∃ z, f 418 (w + 9) = nI z ∧ z < 6 ∧ okG r f ∧ ¬ f 418 (w + 10) < 0 ∧ (f 436 r = 2 → m_ofV r w f = true → okL n b r (m_keep n r z (f 418 (w + 10)) (f 418 (w + 11)) (f 418 (w + 12)) (fun i => f 418 (w + 13 + i)) f))) ∧
  (K = 6 → f 453 r = 2 ∧ hasb (f 454 r) s = true ∧ hasb (f 456 r) s = false → ∀ g, g = m_row 6 460 (36 * r + 6 * s) (fun j => f 418 (w + 9 + j)) (am_u2 f 456 r (sb (f 456 r) s)) → g 456 r = g 454 r → (∃ z, m_best n r g = nI z ∧ z < 6) ∧ okE n b r (am_u2 (m_row 6 440 (7 * r + 1) (fun k => g 460 (36 * r + 6 * Int32.toNatClampNeg (m_best n r g) + k)) (am_u2 g 440 (7 * r) (g 454 r))) 453 r 0)) ∧
  (K = 7 → f 436 r = 3 → okE n b r f))
theorem k37 {K : Int32} (h : 3 ≤ K ∧ K ≤ 7) : K = 3 ∨ K = 4 ∨ K = 5 ∨ K = 6 ∨ K = 7 := by
  have h1 := Int32.le_iff_toInt_le.mp h.1
  have h2 := Int32.le_iff_toInt_le.mp h.2
  have e3 : (3 : Int32).toInt = 3 := by decide
  have e4 : (4 : Int32).toInt = 4 := by decide
  have e5 : (5 : Int32).toInt = 5 := by decide
  have e6 : (6 : Int32).toInt = 6 := by decide
  have e7 : (7 : Int32).toInt = 7 := by decide
  rw [e3] at h1
  rw [e7] at h2
  have : K.toInt = 3 ∨ K.toInt = 4 ∨ K.toInt = 5 ∨ K.toInt = 6 ∨ K.toInt = 7 := by omega
  rcases this with e | e | e | e | e
  · exact Or.inl (Int32.toInt_inj.mp (e.trans e3.symm))
  · exact Or.inr (Or.inl (Int32.toInt_inj.mp (e.trans e4.symm)))
  · exact Or.inr (Or.inr (Or.inl (Int32.toInt_inj.mp (e.trans e5.symm))))
  · exact Or.inr (Or.inr (Or.inr (Or.inl (Int32.toInt_inj.mp (e.trans e6.symm)))))
  · exact Or.inr (Or.inr (Or.inr (Or.inr (Int32.toInt_inj.mp (e.trans e7.symm)))))
theorem r_rec2 {b : Nat} {K : Int32} (hS : Sh A) (hr : r < 6) (h6 : s < 6) (hw : w + 46 ≤ 27646) (hO : okR2 n b r s w K f) (h : Q (.inl none) (wI A (m_rec2 n r s w K f))) (w1 : Value) : mW (d + 12) 228 108 [.ref 415, w1, .int (nI w), .int (nI s), .int (nI r), .int K] [] (wI A f) Q := by
  obtain ⟨hB, hn0, hO⟩ := hO
  unfold m_rec2 at h
  refine x_228_108 (shw hS) (r_within (shw hS) ?_)
  show _ ∧ _
  simp (disch := first | decide | omega) only [wI_I, wI_s, wI_P, wI_L, forall_eq, m2, m3, m5, m6, m7, m36, m46, m64, m256, m320, nI_add, k1, k2, k3, k4, k5, k6, k7, k8, k9, k10, k11, k12, k13, k64, nI_clamp, nI_ltI, nI_leI, nI_eq, u2_s, u2_a, u2_i, ixT, bi_z, bi_nz, bi_n1, bi_o1, true_and, and_true, true_implies, not_true, not_false_iff, Bool.not_eq_false, Bool.not_eq_true, forall_const, ne_eq, Classical.not_not, and_self]
  by_cases k37' : 3 ≤ K ∧ K ≤ 7
  · refine ⟨fun c => absurd c (by rw [decide_eq_true k37'.1, decide_eq_true k37'.2]; decide), fun _ => r_ofP hS hr hw ?_⟩
    show _ ∧ _
    simp (disch := first | decide | omega) only [wI_I, wI_s, wI_P, wI_L, forall_eq, m2, m3, m5, m6, m7, m36, m46, m64, m256, m320, nI_add, k1, k2, k3, k4, k5, k6, k7, k8, k9, k10, k11, k12, k13, k64, nI_clamp, nI_ltI, nI_leI, nI_eq, u2_s, u2_a, u2_i, ixT, bi_z, bi_nz, bi_n1, bi_o1, true_and, and_true, true_implies, not_true, not_false_iff, Bool.not_eq_false, Bool.not_eq_true, forall_const, ne_eq, Classical.not_not, and_self]
    refine ⟨fun c2 => by rw [if_pos (Or.inr (Or.inl c2))] at h; exact x_228_139 (shw hS) h, fun c2 => ?_⟩
    refine ⟨fun c3 => by rw [if_pos (Or.inr (Or.inr c3))] at h; exact x_228_139 (shw hS) h, fun c3 => ?_⟩
    rw [if_neg (fun q => q.elim (fun q => q k37') (fun q => q.elim (fun q => by rw [c2] at q; cases q) c3))] at h
    obtain ⟨o3, o4, o5, o6, o7⟩ := hO k37' c2 c3
    rcases k37 k37' with e | e | e | e | e <;> subst e
    · rw [if_pos rfl] at h
      refine ⟨fun _ => ?_, fun q => absurd rfl q⟩
      refine r_rRep hS hB hn0 hr h6 hw (o3 rfl) ?_
      refine ⟨fun q => absurd q (by decide), fun _ => ?_⟩
      refine x_228_167 (shw hS) ⟨fun q => absurd q (by decide), fun _ => ?_⟩
      refine x_228_180 (shw hS) ⟨fun q => absurd q (by decide), fun _ => ?_⟩
      refine x_228_195 (shw hS) ⟨fun q => absurd q (by decide), fun _ => ?_⟩
      exact x_228_227 (shw hS) h
    · rw [if_neg (by decide), if_pos rfl] at h
      refine ⟨fun q => absurd q (by decide), fun _ => ?_⟩
      refine x_228_154 (shw hS) ⟨fun _ => ?_, fun q => absurd rfl q⟩
      refine r_rCut hS hB hn0 hr hw (o4 rfl).1 (o4 rfl).2 ?_
      refine ⟨fun q => absurd q (by decide), fun _ => ?_⟩
      refine x_228_180 (shw hS) ⟨fun q => absurd q (by decide), fun _ => ?_⟩
      refine x_228_195 (shw hS) ⟨fun q => absurd q (by decide), fun _ => ?_⟩
      exact x_228_227 (shw hS) h
    · rw [if_neg (by decide), if_neg (by decide), if_pos rfl] at h
      refine ⟨fun q => absurd q (by decide), fun _ => ?_⟩
      refine x_228_154 (shw hS) ⟨fun q => absurd q (by decide), fun _ => ?_⟩
      refine x_228_167 (shw hS) ⟨fun _ => ?_, fun q => absurd rfl q⟩
      obtain ⟨z, hz, hz6, oG, ok, oL⟩ := o5 rfl
      refine r_rFill hS hB hn0 hr hw oG hz hz6 ok oL ?_
      refine ⟨fun q => absurd q (by decide), fun _ => ?_⟩
      refine x_228_195 (shw hS) ⟨fun q => absurd q (by decide), fun _ => ?_⟩
      exact x_228_227 (shw hS) h
    · rw [if_neg (by decide), if_neg (by decide), if_neg (by decide), if_pos rfl] at h
      refine ⟨fun q => absurd q (by decide), fun _ => ?_⟩
      refine x_228_154 (shw hS) ⟨fun q => absurd q (by decide), fun _ => ?_⟩
      refine x_228_167 (shw hS) ⟨fun q => absurd q (by decide), fun _ => ?_⟩
      refine x_228_180 (shw hS) ⟨fun _ => ?_, fun q => absurd rfl q⟩
      refine r_rRea hS hB hn0 hr h6 hw (o6 rfl) ?_
      refine ⟨fun q => absurd q (by decide), fun _ => ?_⟩
      exact x_228_227 (shw hS) h
    · rw [if_neg (by decide), if_neg (by decide), if_neg (by decide), if_neg (by decide)] at h
      refine ⟨fun q => absurd q (by decide), fun _ => ?_⟩
      refine x_228_154 (shw hS) ⟨fun q => absurd q (by decide), fun _ => ?_⟩
      refine x_228_167 (shw hS) ⟨fun q => absurd q (by decide), fun _ => ?_⟩
      refine x_228_180 (shw hS) ⟨fun q => absurd q (by decide), fun _ => ?_⟩
      refine x_228_195 (shw hS) ⟨fun _ => ?_, fun q => absurd rfl q⟩
      simp (disch := first | decide | omega) only [wI_I, wI_s, wI_P, wI_L, forall_eq, m2, m3, m5, m6, m7, m36, m46, m64, m256, m320, nI_add, k1, k2, k3, k4, k5, k6, k7, k8, k9, k10, k11, k12, k13, k64, nI_clamp, nI_ltI, nI_leI, nI_eq, u2_s, u2_a, u2_i, ixT, bi_z, bi_nz, bi_n1, bi_o1, true_and, and_true, true_implies, not_true, not_false_iff, Bool.not_eq_false, Bool.not_eq_true, forall_const, ne_eq, Classical.not_not, and_self]
      refine ⟨fun c4 => ?_, fun c4 => by rw [if_neg c4] at h; exact x_228_227 (shw hS) h⟩
      rw [if_pos c4] at h
      exact r_inst (b := b) (n := n) hS hr (o7 rfl c4) (hS.vh 3 1 27646 rfl) (Or.inr rfl) (by rw [hS.lh 3 1 27646 rfl]; omega) (by rw [hS.lh 3 1 27646 rfl]; decide) h
  · rw [if_pos (Or.inl k37')] at h
    refine ⟨fun _ => x_228_139 (shw hS) h, fun c => absurd ?_ k37'⟩
    simp only [Bool.and_eq_true, decide_eq_true_eq] at c
    exact c
end
