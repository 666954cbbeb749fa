/-! The reference's methods do what the model says: taking a cut, an attempt. -/
section
variable {A : am_A} {f : hs} {Q : am_Res → am_A → Prop} {d n p q u t m : Nat}
def t_goal (n p j : Nat) (f : hs) : hs := fun a k => if a = 463 ∧ 6 * p ≤ k ∧ k < 6 * p + j then m_high n p f (k - 6 * p) else f a k
theorem t_goal_s {j : Nat} : am_u2 (t_goal n p j f) 463 (6 * p + j) (m_high n p f j) = t_goal n p (j + 1) f := by
  funext a i
  simp only [u2_e, t_goal]
  by_cases e : a = 463 ∧ i = 6 * p + j
  · rw [if_pos e, if_pos ⟨e.1, by omega, by omega⟩, e.2, show 6 * p + j - 6 * p = j by omega]
  · rw [if_neg e]
    by_cases e2 : a = 463 ∧ 6 * p ≤ i ∧ i < 6 * p + j
    · rw [if_pos e2, if_pos ⟨e2.1, e2.2.1, by omega⟩]
    · rw [if_neg e2, if_neg (by omega)]
theorem t_goal_a {j a k : Nat} (h : a ≠ 463) : t_goal n p j f a k = f a k := by unfold t_goal; rw [if_neg (fun e => h e.1)]
theorem t_goal_0 : t_goal n p 0 f = f := by funext a k; unfold t_goal; rw [if_neg (by omega)]
/-- what taking a cut needs -/
def okT (n b p : Nat) (f : hs) : Prop := okC n p (am_u2 (m_goal n p f) 436 p 2) ∧ okL n b p (m_fill n p (am_u2 (m_goal n p f) 436 p 2))
theorem B0.goal {b : Nat} (h : B0 n b f) : B0 n b (m_goal m p f) := h.of (fun _ _ => t_goal_a (by decide)) (fun _ => t_goal_a (by decide))
theorem r_take {b : Nat} (hS : Sh A) (hB : B0 n b f) (hn0 : 0 < n) (hp : p < 6) (hT : okT n b p f) (h : Q (.inl none) (wI A (m_take n p f))) : mC (d + 9) 202 [.ref 415, .int (nI p)] (wI A f) Q := by
  have hn6 := hB.2.1
  unfold m_take at h
  refine x_202_0 (shw hS) ?_
  have L : ∀ w3 w4 w5, mW (d + 8 + 1) 202 2 [.ref 415, .int (nI p), .int (nI 0), w3, w4, w5] [] (wI A (t_goal n p 0 f)) Q := by
    refine l0 (P := fun j => ∀ w3 w4 w5, mW (d + 8 + 1) 202 2 [.ref 415, .int (nI p), .int (nI j), w3, w4, w5] [] (wI A (t_goal n p j f)) Q) n (fun j hj ih w3 w4 w5 => ?_) (fun w3 w4 w5 => ?_)
    · refine x_202_2 (shw hS) ⟨fun _ => ?_, fun c => absurd ?_ c⟩
      · rw [← t_goal_s] at ih
        unfold m_high at ih
        refine lp0 (P := fun t x => ∀ w5, mW (d + 8 + 1) 202 15 [.ref 415, .int (nI p), .int (nI j), .int x, .int (nI t), w5] [] (wI A (t_goal n p j f)) Q) n (fun t x => if hasb (f 461 p) t && decide (x < f 462 (36 * p + 6 * t + j)) then f 462 (36 * p + 6 * t + j) else x) (fun t x ht ih2 w5 => ?_) (fun w5 => ?_) _
        · refine x_202_15 (shw hS) ⟨fun _ => ?_, fun c => absurd ?_ c⟩
          · simp (disch := first | decide | omega) only [wI_I, wI_s, wI_P, wI_L, forall_eq, m2, m3, m5, m6, m7, m36, m46, m64, m256, m320, nI_add, k1, k2, k3, k4, k5, k6, k7, k8, k9, k10, k11, k12, k13, k64, nI_clamp, nI_ltI, nI_leI, nI_eq, u2_s, u2_a, u2_i, ixT, bi_z, bi_nz, bi_n1, bi_o1, true_and, and_true, true_implies, not_true, not_false_iff, Bool.not_eq_false, Bool.not_eq_true, forall_const, ne_eq, Classical.not_not, and_self, t_goal_a]
            refine r_has (shw hS) (by omega) ?_
            show _ ∧ _
            simp (disch := first | decide | omega) only [wI_I, wI_s, wI_P, wI_L, forall_eq, m2, m3, m5, m6, m7, m36, m46, m64, m256, m320, nI_add, k1, k2, k3, k4, k5, k6, k7, k8, k9, k10, k11, k12, k13, k64, nI_clamp, nI_ltI, nI_leI, nI_eq, u2_s, u2_a, u2_i, ixT, bi_z, bi_nz, bi_n1, bi_o1, true_and, and_true, true_implies, not_true, not_false_iff, Bool.not_eq_false, Bool.not_eq_true, forall_const, ne_eq, Classical.not_not, and_self]
            refine ⟨fun c => ?_, fun c => ⟨fun c2 => ?_, fun c2 => ?_⟩⟩
            · rw [c] at ih2; exact ih2 _
            · rw [c, decide_eq_true c2] at ih2; exact ih2 _
            · rw [c, decide_eq_false c2] at ih2; exact ih2 _
          · simp (disch := first | decide | omega) only [wI_I, wI_s, wI_P, wI_L, forall_eq, m2, m3, m5, m6, m7, m36, m46, m64, m256, m320, nI_add, k1, k2, k3, k4, k5, k6, k7, k8, k9, k10, k11, k12, k13, k64, nI_clamp, nI_ltI, nI_leI, nI_eq, u2_s, u2_a, u2_i, ixT, bi_z, bi_nz, bi_n1, bi_o1, true_and, and_true, true_implies, not_true, not_false_iff, Bool.not_eq_false, Bool.not_eq_true, forall_const, ne_eq, Classical.not_not, and_self, t_goal_a, hB.1]; exact ht
        · refine x_202_15 (shw hS) ⟨fun c => absurd c ?_, fun _ => ?_⟩
          · simp (disch := first | decide | omega) only [wI_I, wI_s, wI_P, wI_L, forall_eq, m2, m3, m5, m6, m7, m36, m46, m64, m256, m320, nI_add, k1, k2, k3, k4, k5, k6, k7, k8, k9, k10, k11, k12, k13, k64, nI_clamp, nI_ltI, nI_leI, nI_eq, u2_s, u2_a, u2_i, ixT, bi_z, bi_nz, bi_n1, bi_o1, true_and, and_true, true_implies, not_true, not_false_iff, Bool.not_eq_false, Bool.not_eq_true, forall_const, ne_eq, Classical.not_not, and_self, t_goal_a, hB.1]; omega
          · simp (disch := first | decide | omega) only [wI_I, wI_s, wI_P, wI_L, forall_eq, m2, m3, m5, m6, m7, m36, m46, m64, m256, m320, nI_add, k1, k2, k3, k4, k5, k6, k7, k8, k9, k10, k11, k12, k13, k64, nI_clamp, nI_ltI, nI_leI, nI_eq, u2_s, u2_a, u2_i, ixT, bi_z, bi_nz, bi_n1, bi_o1, true_and, and_true, true_implies, not_true, not_false_iff, Bool.not_eq_false, Bool.not_eq_true, forall_const, ne_eq, Classical.not_not, and_self]
            exact ih _ _ _
      · simp (disch := first | decide | omega) only [wI_I, wI_s, wI_P, wI_L, forall_eq, m2, m3, m5, m6, m7, m36, m46, m64, m256, m320, nI_add, k1, k2, k3, k4, k5, k6, k7, k8, k9, k10, k11, k12, k13, k64, nI_clamp, nI_ltI, nI_leI, nI_eq, u2_s, u2_a, u2_i, ixT, bi_z, bi_nz, bi_n1, bi_o1, true_and, and_true, true_implies, not_true, not_false_iff, Bool.not_eq_false, Bool.not_eq_true, forall_const, ne_eq, Classical.not_not, and_self, t_goal_a, hB.1]; exact hj
    · refine x_202_2 (shw hS) ⟨fun c => absurd c ?_, fun _ => ?_⟩
      · simp (disch := first | decide | omega) only [wI_I, wI_s, wI_P, wI_L, forall_eq, m2, m3, m5, m6, m7, m36, m46, m64, m256, m320, nI_add, k1, k2, k3, k4, k5, k6, k7, k8, k9, k10, k11, k12, k13, k64, nI_clamp, nI_ltI, nI_leI, nI_eq, u2_s, u2_a, u2_i, ixT, bi_z, bi_nz, bi_n1, bi_o1, true_and, and_true, true_implies, not_true, not_false_iff, Bool.not_eq_false, Bool.not_eq_true, forall_const, ne_eq, Classical.not_not, and_self, t_goal_a, hB.1]; omega
      · simp (disch := first | decide | omega) only [wI_I, wI_s, wI_P, wI_L, forall_eq, m2, m3, m5, m6, m7, m36, m46, m64, m256, m320, nI_add, k1, k2, k3, k4, k5, k6, k7, k8, k9, k10, k11, k12, k13, k64, nI_clamp, nI_ltI, nI_leI, nI_eq, u2_s, u2_a, u2_i, ixT, bi_z, bi_nz, bi_n1, bi_o1, true_and, and_true, true_implies, not_true, not_false_iff, Bool.not_eq_false, Bool.not_eq_true, forall_const, ne_eq, Classical.not_not, and_self]
        refine r_fill (n := n) (b := b) hS (hB.goal.set (by decide) (by decide)) hn0 hp hT.1 ?_
        exact r_lookAt (n := n) (b := b) hS (hB.goal.set (by decide) (by decide)).fill hn0 hp hT.2 h
  have := L am_un am_un am_un
  rw [t_goal_0] at this
  exact this
/-- the state that a cut of one's own is taken from -/
def m_cut0 (n p : Nat) (f : hs) : hs := m_mat n 462 (36 * p) (fun u v => if hasb ((am_u2 (fo (fun q f => if m_other p (f 454 p) q then m_sCut n p q f else f) 0 n (am_u2 f 453 p 2)) 461 p (m_alike n p p (fo (fun q f => if m_other p (f 454 p) q then m_sCut n p q f else f) 0 n (am_u2 f 453 p 2)))) 461 p) u then (am_u2 (fo (fun q f => if m_other p (f 454 p) q then m_sCut n p q f else f) 0 n (am_u2 f 453 p 2)) 461 p (m_alike n p p (fo (fun q f => if m_other p (f 454 p) q then m_sCut n p q f else f) 0 n (am_u2 f 453 p 2)))) 459 (36 * p + 6 * u + v) else 0) (am_u2 (fo (fun q f => if m_other p (f 454 p) q then m_sCut n p q f else f) 0 n (am_u2 f 453 p 2)) 461 p (m_alike n p p (fo (fun q f => if m_other p (f 454 p) q then m_sCut n p q f else f) 0 n (am_u2 f 453 p 2))))
theorem cutAll_eq : m_cutAll n p f = m_take n p (m_cut0 n p f) := rfl
theorem sE.cutB {g : hs} {s : Int32} (h : sE f g) : sE f (m_cutB n p s g) := sE.fo (fun _ _ h => fo_sE n 0 _ h) h.start.say n 0
theorem B0.cutB {b : Nat} {s : Int32} (h : B0 n b f) : B0 n b (m_cutB m p s f) := B0.fo (fun _ _ h => B0.fo (fun _ _ h => h.say) h m 0) h.start.say m 0
theorem sE.sCut {g : hs} (h : sE f g) : sE f (m_sCut n p q g) := h.cutB.ship
theorem B0.sCut {b : Nat} (h : B0 n b f) : B0 n b (m_sCut m p q f) := h.cutB.ship
/-- rows of n, 6 apart, under way -/
def t_mat (n a b i j : Nat) (c : Nat → Nat → Int32) (f : hs) : hs := fun x k => if x = a ∧ b ≤ k ∧ k < b + 6 * n ∧ (k - b) % 6 < n ∧ ((k - b) / 6 < i ∨ (k - b) / 6 = i ∧ (k - b) % 6 < j) then c ((k - b) / 6) ((k - b) % 6) else f x k
theorem t_mat_a {a b i j x k : Nat} {c : Nat → Nat → Int32} (h : x ≠ a) : t_mat n a b i j c f x k = f x k := by unfold t_mat; rw [if_neg (fun e => h e.1)]
theorem t_mat_s {a b i j : Nat} {c : Nat → Nat → Int32} (hn6 : n ≤ 6) (hi : i < n) (hj : j < n) : am_u2 (t_mat n a b i j c f) a (b + 6 * i + j) (c i j) = t_mat n a b i (j + 1) c f := by
  funext x k
  simp only [u2_e, t_mat]
  by_cases e : x = a ∧ k = b + 6 * i + j
  · have e1 : (k - b) / 6 = i := by omega
    have e2 : (k - b) % 6 = j := by omega
    rw [if_pos e, if_pos ⟨e.1, by omega, by omega, by omega, Or.inr ⟨e1, by omega⟩⟩, e1, e2]
  · rw [if_neg e]
    by_cases e2 : x = a ∧ b ≤ k ∧ k < b + 6 * n ∧ (k - b) % 6 < n ∧ ((k - b) / 6 < i ∨ (k - b) / 6 = i ∧ (k - b) % 6 < j)
    · rw [if_pos e2, if_pos ⟨e2.1, e2.2.1, e2.2.2.1, e2.2.2.2.1, by omega⟩]
    · rw [if_neg e2, if_neg (fun q => e2 ⟨q.1, q.2.1, q.2.2.1, q.2.2.2.1, by
        have := q.2.2.2.2
        have hx := q.1
        by_cases hk : k = b + 6 * i + j
        · exact absurd ⟨hx, hk⟩ e
        · omega⟩)]
theorem t_mat_n {a b i : Nat} {c : Nat → Nat → Int32} (hn6 : n ≤ 6) : t_mat n a b i n c f = t_mat n a b (i + 1) 0 c f := by
  funext x k
  simp only [t_mat]
  by_cases e2 : x = a ∧ b ≤ k ∧ k < b + 6 * n ∧ (k - b) % 6 < n ∧ ((k - b) / 6 < i ∨ (k - b) / 6 = i ∧ (k - b) % 6 < n)
  · rw [if_pos e2, if_pos ⟨e2.1, e2.2.1, e2.2.2.1, e2.2.2.2.1, by omega⟩]
  · rw [if_neg e2, if_neg (fun q => e2 ⟨q.1, q.2.1, q.2.2.1, q.2.2.2.1, by omega⟩)]
theorem t_mat_0 {a b : Nat} {c : Nat → Nat → Int32} : t_mat n a b 0 0 c f = f := by funext x k; unfold t_mat; rw [if_neg (by omega)]
theorem t_mat_e {a b : Nat} {c : Nat → Nat → Int32} : t_mat n a b n 0 c f = m_mat n a b c f := by
  funext x k
  simp only [t_mat, m_mat]
  by_cases e2 : x = a ∧ b ≤ k ∧ k < b + 6 * n ∧ (k - b) % 6 < n
  · rw [if_pos e2, if_pos ⟨e2.1, e2.2.1, e2.2.2.1, e2.2.2.2, by omega⟩]
  · rw [if_neg e2, if_neg (fun q => e2 ⟨q.1, q.2.1, q.2.2.1, q.2.2.2.1⟩)]
theorem B0.mat {b a r : Nat} {c : Nat → Nat → Int32} (h : B0 n b f) (ha : a ≠ 415) (ha2 : a ≠ 417) : B0 n b (m_mat m a r c f) := h.of (fun _ _ => by unfold m_mat; rw [if_neg (fun e => ha e.1.symm)]) (fun _ => by unfold m_mat; rw [if_neg (fun e => ha2 e.1.symm)])
theorem r_cutAll {b : Nat} (hS : Sh A) (hB : B0 n b f) (hn0 : 0 < n) (hp : p < 6) (hT : okT n b p (m_cut0 n p f)) (h : Q (.inl none) (wI A (m_cutAll n p f))) : mC (d + 10) 201 [.ref 415, .int (nI p)] (wI A f) Q := by
  have hn6 := hB.2.1
  rw [cutAll_eq] at h
  unfold m_cut0 at h hT
  refine x_201_0 (shw hS) ?_
  simp (disch := first | decide | omega) only [wI_I, wI_s, wI_P, wI_L, forall_eq, m2, m3, m5, m6, m7, m36, m46, m64, m256, m320, nI_add, k1, k2, k3, k4, k5, k6, k7, k8, k9, k10, k11, k12, k13, k64, nI_clamp, nI_ltI, nI_leI, nI_eq, u2_s, u2_a, u2_i, ixT, bi_z, bi_nz, bi_n1, bi_o1, true_and, and_true, true_implies, not_true, not_false_iff, Bool.not_eq_false, Bool.not_eq_true, forall_const, ne_eq, Classical.not_not, and_self]
  refine (lp0 (P := fun q g => B0 n b g → ∀ w3, mW (d + 9 + 1) 201 9 [.ref 415, .int (nI p), .int (nI q), w3] [] (wI A g) Q) n (fun q f => if m_other p (f 454 p) q then m_sCut n p q f else f) (fun q x hq ih h1 w3 => ?_) (fun h1 w3 => ?_)) (hB.set (by decide) (by decide)) _
  · refine x_201_9 (shw hS) ⟨fun _ => ?_, fun c => absurd ?_ c⟩
    · simp (disch := first | decide | omega) only [wI_I, wI_s, wI_P, wI_L, forall_eq, m2, m3, m5, m6, m7, m36, m46, m64, m256, m320, nI_add, k1, k2, k3, k4, k5, k6, k7, k8, k9, k10, k11, k12, k13, k64, nI_clamp, nI_ltI, nI_leI, nI_eq, u2_s, u2_a, u2_i, ixT, bi_z, bi_nz, bi_n1, bi_o1, true_and, and_true, true_implies, not_true, not_false_iff, Bool.not_eq_false, Bool.not_eq_true, forall_const, ne_eq, Classical.not_not, and_self]
      unfold m_other at ih
      refine ⟨fun c => ?_, fun c => r_has (shw hS) (by omega) ?_⟩
      · rw [if_neg (by rw [decide_eq_false (fun q => q c)]; simp)] at ih; exact ih h1 _
      · show _ ∧ _
        simp (disch := first | decide | omega) only [wI_I, wI_s, wI_P, wI_L, forall_eq, m2, m3, m5, m6, m7, m36, m46, m64, m256, m320, nI_add, k1, k2, k3, k4, k5, k6, k7, k8, k9, k10, k11, k12, k13, k64, nI_clamp, nI_ltI, nI_leI, nI_eq, u2_s, u2_a, u2_i, ixT, bi_z, bi_nz, bi_n1, bi_o1, true_and, and_true, true_implies, not_true, not_false_iff, Bool.not_eq_false, Bool.not_eq_true, forall_const, ne_eq, Classical.not_not, and_self]
        refine ⟨fun c2 => ?_, fun c2 => ?_⟩
        · rw [if_neg (by rw [c2]; simp)] at ih; exact ih h1 _
        · rw [if_pos (by rw [c2, decide_eq_true c]; rfl)] at ih
          exact r_sCut hS h1 hp (by omega) (ih h1.sCut _)
    · simp (disch := first | decide | omega) only [wI_I, wI_s, wI_P, wI_L, forall_eq, m2, m3, m5, m6, m7, m36, m46, m64, m256, m320, nI_add, k1, k2, k3, k4, k5, k6, k7, k8, k9, k10, k11, k12, k13, k64, nI_clamp, nI_ltI, nI_leI, nI_eq, u2_s, u2_a, u2_i, ixT, bi_z, bi_nz, bi_n1, bi_o1, true_and, and_true, true_implies, not_true, not_false_iff, Bool.not_eq_false, Bool.not_eq_true, forall_const, ne_eq, Classical.not_not, and_self, h1.1]; exact hq
  · generalize fo (fun q f => if m_other p (f 454 p) q then m_sCut n p q f else f) 0 n (am_u2 f 453 p 2) = g at h hT h1 ⊢
    refine x_201_9 (shw hS) ⟨fun c => absurd c ?_, fun _ => ?_⟩
    · simp (disch := first | decide | omega) only [wI_I, wI_s, wI_P, wI_L, forall_eq, m2, m3, m5, m6, m7, m36, m46, m64, m256, m320, nI_add, k1, k2, k3, k4, k5, k6, k7, k8, k9, k10, k11, k12, k13, k64, nI_clamp, nI_ltI, nI_leI, nI_eq, u2_s, u2_a, u2_i, ixT, bi_z, bi_nz, bi_n1, bi_o1, true_and, and_true, true_implies, not_true, not_false_iff, Bool.not_eq_false, Bool.not_eq_true, forall_const, ne_eq, Classical.not_not, and_self, h1.1]; omega
    · refine r_alike hS h1.1 hn6 hp hp ?_
      show _ ∧ _
      simp (disch := first | decide | omega) only [wI_I, wI_s, wI_P, wI_L, forall_eq, m2, m3, m5, m6, m7, m36, m46, m64, m256, m320, nI_add, k1, k2, k3, k4, k5, k6, k7, k8, k9, k10, k11, k12, k13, k64, nI_clamp, nI_ltI, nI_leI, nI_eq, u2_s, u2_a, u2_i, ixT, bi_z, bi_nz, bi_n1, bi_o1, true_and, and_true, true_implies, not_true, not_false_iff, Bool.not_eq_false, Bool.not_eq_true, forall_const, ne_eq, Classical.not_not, and_self]
      generalize hG : am_u2 g 461 p (m_alike n p p g) = G at h hT ⊢
      have hBG : B0 n b G := by rw [← hG]; exact h1.set (by decide) (by decide)
      generalize hc : (fun u v => if hasb (G 461 p) u then G 459 (36 * p + 6 * u + v) else 0) = c at h hT
      have hc' : ∀ u v, c u v = if hasb (G 461 p) u then G 459 (36 * p + 6 * u + v) else 0 := fun u v => by rw [← hc]
      have L : ∀ w3, mW (d + 9 + 1) 201 61 [.ref 415, .int (nI p), .int (nI 0), w3] [] (wI A (t_mat n 462 (36 * p) 0 0 c G)) Q := by
        refine l0 (P := fun i => ∀ w3, mW (d + 9 + 1) 201 61 [.ref 415, .int (nI p), .int (nI i), w3] [] (wI A (t_mat n 462 (36 * p) i 0 c G)) Q) n (fun i hi ih w3 => ?_) (fun w3 => ?_)
        · refine x_201_61 (shw hS) ⟨fun _ => ?_, fun c => absurd ?_ c⟩
          · refine l0 (P := fun j => mW (d + 9 + 1) 201 71 [.ref 415, .int (nI p), .int (nI i), .int (nI j)] [] (wI A (t_mat n 462 (36 * p) i j c G)) Q) n (fun j hj ih2 => ?_) ?_
            · rw [← t_mat_s hn6 hi hj, hc'] at ih2
              refine x_201_71 (shw hS) ⟨fun _ => ?_, fun c => absurd ?_ c⟩
              · simp (disch := first | decide | omega) only [wI_I, wI_s, wI_P, wI_L, forall_eq, m2, m3, m5, m6, m7, m36, m46, m64, m256, m320, nI_add, k1, k2, k3, k4, k5, k6, k7, k8, k9, k10, k11, k12, k13, k64, nI_clamp, nI_ltI, nI_leI, nI_eq, u2_s, u2_a, u2_i, ixT, bi_z, bi_nz, bi_n1, bi_o1, true_and, and_true, true_implies, not_true, not_false_iff, Bool.not_eq_false, Bool.not_eq_true, forall_const, ne_eq, Classical.not_not, and_self, t_mat_a]
                refine r_has (shw hS) (by omega) ?_
                show _ ∧ _
                simp (disch := first | decide | omega) only [wI_I, wI_s, wI_P, wI_L, forall_eq, m2, m3, m5, m6, m7, m36, m46, m64, m256, m320, nI_add, k1, k2, k3, k4, k5, k6, k7, k8, k9, k10, k11, k12, k13, k64, nI_clamp, nI_ltI, nI_leI, nI_eq, u2_s, u2_a, u2_i, ixT, bi_z, bi_nz, bi_n1, bi_o1, true_and, and_true, true_implies, not_true, not_false_iff, Bool.not_eq_false, Bool.not_eq_true, forall_const, ne_eq, Classical.not_not, and_self, t_mat_a]
                refine ⟨fun c2 => ?_, fun c2 => ?_⟩
                · rw [c2] at ih2; exact ih2
                · rw [c2] at ih2; exact ih2
              · simp (disch := first | decide | omega) only [wI_I, wI_s, wI_P, wI_L, forall_eq, m2, m3, m5, m6, m7, m36, m46, m64, m256, m320, nI_add, k1, k2, k3, k4, k5, k6, k7, k8, k9, k10, k11, k12, k13, k64, nI_clamp, nI_ltI, nI_leI, nI_eq, u2_s, u2_a, u2_i, ixT, bi_z, bi_nz, bi_n1, bi_o1, true_and, and_true, true_implies, not_true, not_false_iff, Bool.not_eq_false, Bool.not_eq_true, forall_const, ne_eq, Classical.not_not, and_self, t_mat_a, hBG.1]; exact hj
            · refine x_201_71 (shw hS) ⟨fun c => absurd c ?_, fun _ => ?_⟩
              · simp (disch := first | decide | omega) only [wI_I, wI_s, wI_P, wI_L, forall_eq, m2, m3, m5, m6, m7, m36, m46, m64, m256, m320, nI_add, k1, k2, k3, k4, k5, k6, k7, k8, k9, k10, k11, k12, k13, k64, nI_clamp, nI_ltI, nI_leI, nI_eq, u2_s, u2_a, u2_i, ixT, bi_z, bi_nz, bi_n1, bi_o1, true_and, and_true, true_implies, not_true, not_false_iff, Bool.not_eq_false, Bool.not_eq_true, forall_const, ne_eq, Classical.not_not, and_self, t_mat_a, hBG.1]; omega
              · simp (disch := first | decide | omega) only [wI_I, wI_s, wI_P, wI_L, forall_eq, m2, m3, m5, m6, m7, m36, m46, m64, m256, m320, nI_add, k1, k2, k3, k4, k5, k6, k7, k8, k9, k10, k11, k12, k13, k64, nI_clamp, nI_ltI, nI_leI, nI_eq, u2_s, u2_a, u2_i, ixT, bi_z, bi_nz, bi_n1, bi_o1, true_and, and_true, true_implies, not_true, not_false_iff, Bool.not_eq_false, Bool.not_eq_true, forall_const, ne_eq, Classical.not_not, and_self]
                rw [t_mat_n hn6]
                exact ih _
          · simp (disch := first | decide | omega) only [wI_I, wI_s, wI_P, wI_L, forall_eq, m2, m3, m5, m6, m7, m36, m46, m64, m256, m320, nI_add, k1, k2, k3, k4, k5, k6, k7, k8, k9, k10, k11, k12, k13, k64, nI_clamp, nI_ltI, nI_leI, nI_eq, u2_s, u2_a, u2_i, ixT, bi_z, bi_nz, bi_n1, bi_o1, true_and, and_true, true_implies, not_true, not_false_iff, Bool.not_eq_false, Bool.not_eq_true, forall_const, ne_eq, Classical.not_not, and_self, t_mat_a, hBG.1]; exact hi
        · rw [t_mat_e]
          refine x_201_61 (shw hS) ⟨fun c0 => absurd c0 ?_, fun _ => ?_⟩
          · have : m_mat n 462 (36 * p) c G 415 1 = nI n := by unfold m_mat; rw [if_neg (by omega)]; exact hBG.1
            simp (disch := first | decide | omega) only [wI_I, wI_s, wI_P, wI_L, forall_eq, m2, m3, m5, m6, m7, m36, m46, m64, m256, m320, nI_add, k1, k2, k3, k4, k5, k6, k7, k8, k9, k10, k11, k12, k13, k64, nI_clamp, nI_ltI, nI_leI, nI_eq, u2_s, u2_a, u2_i, ixT, bi_z, bi_nz, bi_n1, bi_o1, true_and, and_true, true_implies, not_true, not_false_iff, Bool.not_eq_false, Bool.not_eq_true, forall_const, ne_eq, Classical.not_not, and_self, this]; omega
          · exact r_take (n := n) (b := b) hS (hBG.mat (by decide) (by decide)) hn0 hp hT h
      have := L am_un
      rw [t_mat_0] at this
      exact this
theorem sE.sPro {g : hs} (h : sE f g) : sE f (m_sPro p q g) := h.start.say.ship
theorem B0.sPro {b : Nat} (h : B0 n b f) : B0 n b (m_sPro p q f) := h.start.say.ship
theorem prom_a {x y : Int32} {a k : Nat} (h : a ≠ 453 ∧ a ≠ 434 ∧ a ≠ 435 ∧ a ≠ 436 ∧ a ≠ 445) : m_prom n p x y f a k = f a k := by
  unfold m_prom; rw [if_neg (by omega), if_neg (by omega), if_neg (by omega), if_neg (by omega), if_neg (fun e => h.2.2.2.2 e.1)]
theorem B0.prom {b : Nat} {x y : Int32} (h : B0 n b f) : B0 n b (m_prom m p x y f) := h.of (fun _ _ => prom_a (by decide)) (fun _ => prom_a (by decide))
theorem B0.setR {b : Nat} {x y : Int32} (h : B0 n b f) : B0 n b (m_setR p q x y f) := ((h.set (by decide) (by decide)).set (by decide) (by decide)).set (by decide) (by decide)
/-- an attempt begun, its proposals sent -/
def m_att0 (n p : Nat) (s : Int32) (f : hs) : hs := fo (fun q f => if m_other p s q then m_sPro p q f else f) 0 n (m_row n 459 (36 * p + 6 * p) (fun u => f 441 (6 * p + u)) (m_setR p p (f 431 p) (f 432 p) (am_u2 (am_u2 (am_u2 (am_u2 (m_prom n p (f 420 p + 1) (nI p) (am_u2 f 420 p (f 420 p + 1))) 453 p 1) 454 p s) 455 p 0) 456 p 0)))
theorem att_eq {s : Int32} : m_attempt n p s f = if (m_att0 n p s f) 455 p = s then m_cutAll n p (m_att0 n p s f) else m_att0 n p s f := rfl
theorem t_row_e {a b : Nat} {c : Nat → Int32} : t_row a b n c f = m_row n a b c f := rfl
theorem r_attempt {b : Nat} {s : Int32} (hS : Sh A) (hB : B0 n b f) (hn0 : 0 < n) (hp : p < 6) (hT : (m_att0 n p s f) 455 p = s → okT n b p (m_cut0 n p (m_att0 n p s f))) (h : Q (.inl none) (wI A (m_attempt n p s f))) : mC (d + 11) 198 [.ref 415, .int (nI p), .int s] (wI A f) Q := by
  have hn6 := hB.2.1
  rw [att_eq] at h
  unfold m_att0 at h hT
  refine x_198_0 (shw hS) ?_
  simp (disch := first | decide | omega) only [wI_I, wI_s, wI_P, wI_L, forall_eq, m2, m3, m5, m6, m7, m36, m46, m64, m256, m320, nI_add, k1, k2, k3, k4, k5, k6, k7, k8, k9, k10, k11, k12, k13, k64, nI_clamp, nI_ltI, nI_leI, nI_eq, u2_s, u2_a, u2_i, ixT, bi_z, bi_nz, bi_n1, bi_o1, true_and, and_true, true_implies, not_true, not_false_iff, Bool.not_eq_false, Bool.not_eq_true, forall_const, ne_eq, Classical.not_not, and_self]
  refine r_prom (n := n) hS (hB.set (by decide) (by decide)).1 hn6 hp ?_
  show mC _ _ _ _ _
  simp (disch := first | decide | omega) only [wI_I, wI_s, wI_P, wI_L, forall_eq, m2, m3, m5, m6, m7, m36, m46, m64, m256, m320, nI_add, k1, k2, k3, k4, k5, k6, k7, k8, k9, k10, k11, k12, k13, k64, nI_clamp, nI_ltI, nI_leI, nI_eq, u2_s, u2_a, u2_i, ixT, bi_z, bi_nz, bi_n1, bi_o1, true_and, and_true, true_implies, not_true, not_false_iff, Bool.not_eq_false, Bool.not_eq_true, forall_const, ne_eq, Classical.not_not, and_self, prom_a]
  refine r_setR hS hp hp ?_
  generalize hG : m_setR p p (f 431 p) (f 432 p) (am_u2 (am_u2 (am_u2 (am_u2 (m_prom n p (f 420 p + 1) (nI p) (am_u2 f 420 p (f 420 p + 1))) 453 p 1) 454 p s) 455 p 0) 456 p 0) = G at h hT ⊢
  have hBG : B0 n b G := by rw [← hG]; exact (((((hB.set (a := 420) (by decide) (by decide)).prom (m := n)).set (by decide) (by decide)).set (by decide) (by decide)).set (by decide) (by decide)).set (by decide) (by decide) |>.setR
  have g1 : ∀ k, G 441 k = f 441 k := fun k => by
    rw [← hG]; unfold m_setR
    simp (disch := first | decide | omega) only [u2_a, prom_a]
  have L : mW (d + 10 + 1) 198 70 [.ref 415, .int (nI p), .int s, .int (nI 0)] [] (wI A (t_row 459 (36 * p + 6 * p) 0 (fun u => f 441 (6 * p + u)) G)) Q := by
    refine l0 (P := fun j => mW (d + 10 + 1) 198 70 [.ref 415, .int (nI p), .int s, .int (nI j)] [] (wI A (t_row 459 (36 * p + 6 * p) j (fun u => f 441 (6 * p + u)) G)) Q) n (fun j hj ih => ?_) ?_
    · refine x_198_70 (shw hS) ⟨fun _ => ?_, fun c => absurd ?_ c⟩
      · simp (disch := first | decide | omega) only [wI_I, wI_s, wI_P, wI_L, forall_eq, m2, m3, m5, m6, m7, m36, m46, m64, m256, m320, nI_add, k1, k2, k3, k4, k5, k6, k7, k8, k9, k10, k11, k12, k13, k64, nI_clamp, nI_ltI, nI_leI, nI_eq, u2_s, u2_a, u2_i, ixT, bi_z, bi_nz, bi_n1, bi_o1, true_and, and_true, true_implies, not_true, not_false_iff, Bool.not_eq_false, Bool.not_eq_true, forall_const, ne_eq, Classical.not_not, and_self, t_row_a, g1, t_rows (c := fun u => f 441 (6 * p + u))]
        exact ih
      · simp (disch := first | decide | omega) only [wI_I, wI_s, wI_P, wI_L, forall_eq, m2, m3, m5, m6, m7, m36, m46, m64, m256, m320, nI_add, k1, k2, k3, k4, k5, k6, k7, k8, k9, k10, k11, k12, k13, k64, nI_clamp, nI_ltI, nI_leI, nI_eq, u2_s, u2_a, u2_i, ixT, bi_z, bi_nz, bi_n1, bi_o1, true_and, and_true, true_implies, not_true, not_false_iff, Bool.not_eq_false, Bool.not_eq_true, forall_const, ne_eq, Classical.not_not, and_self, t_row_a, hBG.1]; exact hj
    · refine x_198_70 (shw hS) ⟨fun c => absurd c ?_, fun _ => ?_⟩
      · simp (disch := first | decide | omega) only [wI_I, wI_s, wI_P, wI_L, forall_eq, m2, m3, m5, m6, m7, m36, m46, m64, m256, m320, nI_add, k1, k2, k3, k4, k5, k6, k7, k8, k9, k10, k11, k12, k13, k64, nI_clamp, nI_ltI, nI_leI, nI_eq, u2_s, u2_a, u2_i, ixT, bi_z, bi_nz, bi_n1, bi_o1, true_and, and_true, true_implies, not_true, not_false_iff, Bool.not_eq_false, Bool.not_eq_true, forall_const, ne_eq, Classical.not_not, and_self, t_row_a, hBG.1]; omega
      · rw [t_row_e]
        have hBr : B0 n b (m_row n 459 (36 * p + 6 * p) (fun u => f 441 (6 * p + u)) G) := hBG.mrow (by decide) (by decide)
        refine (lp0 (P := fun q g => B0 n b g → mW (d + 10 + 1) 198 113 [.ref 415, .int (nI p), .int s, .int (nI q)] [] (wI A g) Q) n (fun q f => if m_other p s q then m_sPro p q f else f) (fun q x hq ih h1 => ?_) (fun h1 => ?_)) hBr
        · refine x_198_113 (shw hS) ⟨fun _ => ?_, fun c => absurd ?_ c⟩
          · simp (disch := first | decide | omega) only [wI_I, wI_s, wI_P, wI_L, forall_eq, m2, m3, m5, m6, m7, m36, m46, m64, m256, m320, nI_add, k1, k2, k3, k4, k5, k6, k7, k8, k9, k10, k11, k12, k13, k64, nI_clamp, nI_ltI, nI_leI, nI_eq, u2_s, u2_a, u2_i, ixT, bi_z, bi_nz, bi_n1, bi_o1, true_and, and_true, true_implies, not_true, not_false_iff, Bool.not_eq_false, Bool.not_eq_true, forall_const, ne_eq, Classical.not_not, and_self]
            unfold m_other at ih
            refine ⟨fun c => ?_, fun c => r_has (shw hS) (by omega) ?_⟩
            · rw [if_neg (by rw [decide_eq_false (fun q => q c)]; simp)] at ih; exact ih h1
            · show _ ∧ _
              simp (disch := first | decide | omega) only [wI_I, wI_s, wI_P, wI_L, forall_eq, m2, m3, m5, m6, m7, m36, m46, m64, m256, m320, nI_add, k1, k2, k3, k4, k5, k6, k7, k8, k9, k10, k11, k12, k13, k64, nI_clamp, nI_ltI, nI_leI, nI_eq, u2_s, u2_a, u2_i, ixT, bi_z, bi_nz, bi_n1, bi_o1, true_and, and_true, true_implies, not_true, not_false_iff, Bool.not_eq_false, Bool.not_eq_true, forall_const, ne_eq, Classical.not_not, and_self]
              refine ⟨fun c2 => ?_, fun c2 => ?_⟩
              · rw [if_neg (by rw [c2]; simp)] at ih; exact ih h1
              · rw [if_pos (by rw [c2, decide_eq_true c]; rfl)] at ih
                exact r_sPro hS h1 hp (ih h1.sPro)
          · simp (disch := first | decide | omega) only [wI_I, wI_s, wI_P, wI_L, forall_eq, m2, m3, m5, m6, m7, m36, m46, m64, m256, m320, nI_add, k1, k2, k3, k4, k5, k6, k7, k8, k9, k10, k11, k12, k13, k64, nI_clamp, nI_ltI, nI_leI, nI_eq, u2_s, u2_a, u2_i, ixT, bi_z, bi_nz, bi_n1, bi_o1, true_and, and_true, true_implies, not_true, not_false_iff, Bool.not_eq_false, Bool.not_eq_true, forall_const, ne_eq, Classical.not_not, and_self, h1.1]; exact hq
        · refine x_198_113 (shw hS) ⟨fun c => absurd c ?_, fun _ => ?_⟩
          · simp (disch := first | decide | omega) only [wI_I, wI_s, wI_P, wI_L, forall_eq, m2, m3, m5, m6, m7, m36, m46, m64, m256, m320, nI_add, k1, k2, k3, k4, k5, k6, k7, k8, k9, k10, k11, k12, k13, k64, nI_clamp, nI_ltI, nI_leI, nI_eq, u2_s, u2_a, u2_i, ixT, bi_z, bi_nz, bi_n1, bi_o1, true_and, and_true, true_implies, not_true, not_false_iff, Bool.not_eq_false, Bool.not_eq_true, forall_const, ne_eq, Classical.not_not, and_self, h1.1]; omega
          · simp (disch := first | decide | omega) only [wI_I, wI_s, wI_P, wI_L, forall_eq, m2, m3, m5, m6, m7, m36, m46, m64, m256, m320, nI_add, k1, k2, k3, k4, k5, k6, k7, k8, k9, k10, k11, k12, k13, k64, nI_clamp, nI_ltI, nI_leI, nI_eq, u2_s, u2_a, u2_i, ixT, bi_z, bi_nz, bi_n1, bi_o1, true_and, and_true, true_implies, not_true, not_false_iff, Bool.not_eq_false, Bool.not_eq_true, forall_const, ne_eq, Classical.not_not, and_self]
            refine ⟨fun c => ?_, fun c => ?_⟩
            · have c' := c
              rw [if_pos c'] at h
              exact r_cutAll (n := n) (b := b) hS h1 hn0 hp (hT c) h
            · rw [if_neg c] at h; exact h
  rw [t_row0] at L
  exact L
end
