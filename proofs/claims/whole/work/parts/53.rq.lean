/-! The reference's methods do what the model says: its calls. -/
section
variable {A : am_A} {f : hs} {Q : am_Res → am_A → Prop} {d n p q u t m r s w : Nat}
/-- a call's end in field thrown -/
def m_th (t : Int32) (f : hs) : hs := am_u2 f 415 0 t
def m_begin (a b : Int32) (f : hs) : hs := fun x k => if x = 415 ∧ k = 1 then a else if x = 415 ∧ k = 2 then b else if x = 415 ∧ (k = 3 ∨ k = 4 ∨ k = 5) then 0 else if x = 415 ∧ k = 7 then 601 else if x = 417 ∧ k < 601 then nI (600 - k) else if 420 ≤ x ∧ x ≤ 424 ∧ k < 6 then 0 else f x k
theorem th_0 {t : Int32} : m_th t f 415 0 = t := u2_s _ _ _ _
theorem th_a {t : Int32} {a k : Nat} (h : a ≠ 415) : m_th t f a k = f a k := u2_a h
theorem th_n {t : Int32} {k : Nat} (h : k ≠ 0) : m_th t f 415 k = f 415 k := u2_i h
theorem B0.th {b : Nat} {t : Int32} (h : B0 n b f) : B0 n b (m_th t f) := h.of (fun k hk => th_n (by omega)) (fun j => th_a (by decide))
theorem pos1 : (0 : Int32) < 1 := by decide
theorem pos2 : (0 : Int32) < 2 := by decide
theorem npos0 : ¬ (0 : Int32) < 0 := by decide
theorem r_thrown (hS : Sh A) (h : Q (.inl (some (.int (f 415 0)))) (wI A f)) : mC (d + 1) 152 [.ref 415] (wI A f) Q := x_152_0 (shw hS) h
theorem sub600 {k : Nat} (h : k < 601) : (600 : Int32) - nI k = nI (600 - k) := by
  have : nI (600 - k) + nI k = 600 := by rw [nI_add, show 600 - k + k = 600 by omega]; rfl
  rw [← this, Int32.add_sub_cancel]
theorem r_begin {a b : Int32} (hS : Sh A) (h1 : ¬ ((2 ≤ a ∧ a ≤ 6) ∧ 6 ≤ b ∧ b ≤ 30) → Q (.inl none) (wI A (m_th 1 f))) (h2 : (2 ≤ a ∧ a ≤ 6) ∧ 6 ≤ b ∧ b ≤ 30 → Q (.inl none) (wI A (m_begin a b (m_th 0 f)))) : mC (d + 2) 157 [.ref 415, .int a, .int b] (wI A f) Q := by
  refine x_157_0 (shw hS) (r_within (shw hS) ?_)
  refine ⟨fun c => ?_, fun c => r_within (shw hS) ?_⟩
  · rw [bi_z] at c
    have hb : ¬ ((2 ≤ a ∧ a ≤ 6) ∧ 6 ≤ b ∧ b ≤ 30) := fun q => by rw [decide_eq_true q.1.1, decide_eq_true q.1.2] at c; cases c
    refine ⟨fun _ => h1 hb, fun q => absurd ?_ q⟩
    simp (disch := first | decide | omega) only [wI_I, wI_s, wI_P, wI_L, forall_eq, m2, m3, m5, m6, m7, m36, m46, m64, m256, m320, nI_add, k1, k2, k3, k4, k5, k6, k7, k8, k9, k10, k11, k12, k13, k64, nI_clamp, nI_ltI, nI_leI, nI_eq, u2_s, u2_a, u2_i, ixT, bi_z, bi_nz, bi_n1, bi_o1, true_and, and_true, true_implies, not_true, not_false_iff, Bool.not_eq_false, Bool.not_eq_true, forall_const, ne_eq, Classical.not_not, and_self]; exact pos1
  rw [bi_nz, Bool.and_eq_true, decide_eq_true_eq, decide_eq_true_eq] at c
  refine ⟨fun c2 => ?_, fun c2 => ?_⟩
  · rw [bi_z] at c2
    have hb : ¬ ((2 ≤ a ∧ a ≤ 6) ∧ 6 ≤ b ∧ b ≤ 30) := fun q => by rw [decide_eq_true q.2.1, decide_eq_true q.2.2] at c2; cases c2
    refine ⟨fun _ => h1 hb, fun q => absurd ?_ q⟩
    simp (disch := first | decide | omega) only [wI_I, wI_s, wI_P, wI_L, forall_eq, m2, m3, m5, m6, m7, m36, m46, m64, m256, m320, nI_add, k1, k2, k3, k4, k5, k6, k7, k8, k9, k10, k11, k12, k13, k64, nI_clamp, nI_ltI, nI_leI, nI_eq, u2_s, u2_a, u2_i, ixT, bi_z, bi_nz, bi_n1, bi_o1, true_and, and_true, true_implies, not_true, not_false_iff, Bool.not_eq_false, Bool.not_eq_true, forall_const, ne_eq, Classical.not_not, and_self]; exact pos1
  rw [bi_nz, Bool.and_eq_true, decide_eq_true_eq, decide_eq_true_eq] at c2
  refine ⟨fun q => absurd q (by simp (disch := first | decide | omega) only [wI_I, wI_s, wI_P, wI_L, forall_eq, m2, m3, m5, m6, m7, m36, m46, m64, m256, m320, nI_add, k1, k2, k3, k4, k5, k6, k7, k8, k9, k10, k11, k12, k13, k64, nI_clamp, nI_ltI, nI_leI, nI_eq, u2_s, u2_a, u2_i, ixT, bi_z, bi_nz, bi_n1, bi_o1, true_and, and_true, true_implies, not_true, not_false_iff, Bool.not_eq_false, Bool.not_eq_true, forall_const, ne_eq, Classical.not_not, and_self]; exact npos0), fun _ => ?_⟩
  have h2 := h2 ⟨c, c2⟩
  simp (disch := first | decide | omega) only [wI_I, wI_s, wI_P, wI_L, forall_eq, m2, m3, m5, m6, m7, m36, m46, m64, m256, m320, nI_add, k1, k2, k3, k4, k5, k6, k7, k8, k9, k10, k11, k12, k13, k64, nI_clamp, nI_ltI, nI_leI, nI_eq, u2_s, u2_a, u2_i, ixT, bi_z, bi_nz, bi_n1, bi_o1, true_and, and_true, true_implies, not_true, not_false_iff, Bool.not_eq_false, Bool.not_eq_true, forall_const, ne_eq, Classical.not_not, and_self]
  generalize hg : am_u2 (am_u2 (am_u2 (am_u2 (am_u2 (am_u2 (am_u2 f 415 0 0) 415 1 a) 415 2 b) 415 3 0) 415 4 0) 415 5 0) 415 7 601 = g
  have L : ∀ w1 w2, mW (d + 1 + 1) 157 72 [.ref 415, w1, w2, .int (nI 0)] [] (wI A (fun x k => if x = 417 ∧ k < 0 then nI (600 - k) else g x k)) Q := by
    refine l0 (P := fun j => ∀ w1 w2, mW (d + 1 + 1) 157 72 [.ref 415, w1, w2, .int (nI j)] [] (wI A (fun x k => if x = 417 ∧ k < j then nI (600 - k) else g x k)) Q) 601 (fun j hj ih w1 w2 => ?_) (fun w1 w2 => ?_)
    · refine x_157_72 (shw hS) ⟨fun _ => ?_, fun c => absurd (nI_lt (b := 601) hj (by decide)) c⟩
      have e : am_u2 (fun x k => if x = 417 ∧ k < j then nI (600 - k) else g x k) 417 j (nI (600 - j)) = (fun x k => if x = 417 ∧ k < j + 1 then nI (600 - k) else g x k) := by
        funext x k
        simp only [u2_e]
        (repeat' split) <;> first | rfl | omega | (congr 1; omega)
      simp (disch := first | decide | omega) only [wI_I, wI_s, wI_P, wI_L, forall_eq, m2, m3, m5, m6, m7, m36, m46, m64, m256, m320, nI_add, k1, k2, k3, k4, k5, k6, k7, k8, k9, k10, k11, k12, k13, k64, nI_clamp, nI_ltI, nI_leI, nI_eq, u2_s, u2_a, u2_i, ixT, bi_z, bi_nz, bi_n1, bi_o1, true_and, and_true, true_implies, not_true, not_false_iff, Bool.not_eq_false, Bool.not_eq_true, forall_const, ne_eq, Classical.not_not, and_self, sub600 hj, e]
      exact ih _ _
    · refine x_157_72 (shw hS) ⟨fun c => absurd c (by decide), fun _ => ?_⟩
      generalize hG : (fun x k => if x = 417 ∧ k < 601 then nI (600 - k) else g x k) = G
      have L2 : ∀ w1 w2, mW (d + 1 + 1) 157 98 [.ref 415, w1, w2, .int (nI 0)] [] (wI A (fun x k => if (420 ≤ x ∧ x ≤ 424) ∧ k < 0 then 0 else G x k)) Q := by
        refine l0 (P := fun j => ∀ w1 w2, mW (d + 1 + 1) 157 98 [.ref 415, w1, w2, .int (nI j)] [] (wI A (fun x k => if (420 ≤ x ∧ x ≤ 424) ∧ k < j then 0 else G x k)) Q) 6 (fun j hj ih w1 w2 => ?_) (fun w1 w2 => ?_)
        · refine x_157_98 (shw hS) ⟨fun _ => ?_, fun c => absurd (nI_lt (b := 6) hj (by decide)) c⟩
          have e : am_u2 (am_u2 (am_u2 (am_u2 (am_u2 (fun x k => if (420 ≤ x ∧ x ≤ 424) ∧ k < j then (0 : Int32) else G x k) 420 j 0) 421 j 0) 422 j 0) 423 j 0) 424 j 0 = (fun x k => if (420 ≤ x ∧ x ≤ 424) ∧ k < j + 1 then 0 else G x k) := by
            funext x k
            simp only [u2_e]
            (repeat' split) <;> first | rfl | omega | (congr 1; omega)
          simp (disch := first | decide | omega) only [wI_I, wI_s, wI_P, wI_L, forall_eq, m2, m3, m5, m6, m7, m36, m46, m64, m256, m320, nI_add, k1, k2, k3, k4, k5, k6, k7, k8, k9, k10, k11, k12, k13, k64, nI_clamp, nI_ltI, nI_leI, nI_eq, u2_s, u2_a, u2_i, ixT, bi_z, bi_nz, bi_n1, bi_o1, true_and, and_true, true_implies, not_true, not_false_iff, Bool.not_eq_false, Bool.not_eq_true, forall_const, ne_eq, Classical.not_not, and_self, e]
          exact ih _ _
        · refine x_157_98 (shw hS) ⟨fun c => absurd c (by decide), fun _ => ?_⟩
          have e : (fun x k => if (420 ≤ x ∧ x ≤ 424) ∧ k < 6 then (0 : Int32) else G x k) = m_begin a b (m_th 0 f) := by
            rw [← hG, ← hg]
            funext x k
            simp only [m_begin, m_th, u2_e]
            by_cases hx : x = 415
            · subst hx
              (repeat' split) <;> first | rfl | omega | (congr 1; omega)
            · (repeat' split) <;> first | rfl | omega | (congr 1; omega)
          rw [e]
          exact h2
      have := L2 am_un am_un
      rw [show (fun x k => if (420 ≤ x ∧ x ≤ 424) ∧ k < 0 then (0 : Int32) else G x k) = G by funext x k; rw [if_neg (by omega)]] at this
      exact this
  have := L (.int a) (.int b)
  rw [show (fun x k => if x = 417 ∧ k < 0 then nI (600 - k) else g x k) = g by funext x k; rw [if_neg (by omega)]] at this
  exact this
/-- x is no process, or p -/
theorem proc_or {x : Int32} (hn6 : n ≤ 6) : (decide (0 ≤ x) && decide (x < nI n)) = false ∨ ∃ p, p < n ∧ x = nI p := by
  by_cases h0 : x < 0
  · left; rw [decide_eq_false (Int32.not_le.mpr h0)]; rfl
  · obtain ⟨j, hj, rfl⟩ := nI_of h0
    by_cases hj2 : j < n
    · exact Or.inr ⟨j, hj2, rfl⟩
    · left
      rw [decide_eq_false (p := nI j < nI n) (by rw [nI_ltI hj (by omega)]; exact hj2), Bool.and_false]
theorem proc_p (hn6 : n ≤ 6) (hp : p < n) : (decide (0 ≤ nI p) && decide (nI p < nI n)) = true := by
  rw [Bool.and_eq_true, decide_eq_true_eq, decide_eq_true_eq, nI_ltI (by omega) (by omega)]
  exact ⟨Int32.not_lt.mp (nI_pos (by omega)), hp⟩
theorem r_isP {x : Int32} (hS : Sh A) (hn : f 415 1 = nI n) (hn6 : n ≤ 6) (h1 : (∀ p, p < n → x ≠ nI p) → Q (.inl (some (.int 0))) (wI A f)) (h2 : ∀ p, p < n → x = nI p → Q (.inl (some (.int 1))) (wI A f)) : mC (d + 1) 155 [.ref 415, .int x] (wI A f) Q := by
  refine r_isProc (shw hS) ?_
  rw [wI_I, hn]
  rcases proc_or (x := x) hn6 with e | ⟨p, hp, rfl⟩
  · rw [e]; exact h1 (fun p hp q => by rw [q, proc_p hn6 hp] at e; cases e)
  · rw [proc_p hn6 hp]; exact h2 p hp rfl
theorem m_forget_s {j : Nat} {g : hs} : am_u2 (am_u2 (am_u2 (fun a k => if 6 * p ≤ k ∧ k < 6 * p + j then (if a = 426 then -1 else if a = 427 ∨ a = 428 then 0 else g a k) else g a k) 426 (6 * p + j) (-1)) 427 (6 * p + j) 0) 428 (6 * p + j) 0 = (fun a k => if 6 * p ≤ k ∧ k < 6 * p + (j + 1) then (if a = 426 then -1 else if a = 427 ∨ a = 428 then 0 else g a k) else g a k) := by
  funext a k
  simp only [u2_e]
  by_cases e : k = 6 * p + j
  · subst e
    rw [if_neg (c := 6 * p ≤ 6 * p + j ∧ 6 * p + j < 6 * p + j) (by omega), if_pos (c := 6 * p ≤ 6 * p + j ∧ 6 * p + j < 6 * p + (j + 1)) ⟨by omega, by omega⟩]
    (repeat' split) <;> first | rfl | omega | (congr 1; omega)
  · rw [if_neg (fun q => e q.2), if_neg (fun q => e q.2), if_neg (fun q => e q.2)]
    by_cases e2 : 6 * p ≤ k ∧ k < 6 * p + j
    · rw [if_pos e2, if_pos (c := 6 * p ≤ k ∧ k < 6 * p + (j + 1)) ⟨e2.1, by omega⟩]
    · rw [if_neg e2, if_neg (by omega)]
theorem r_join {x : Int32} (hS : Sh A) (hn : f 415 1 = nI n) (hn6 : n ≤ 6) (hev : ∀ p, p < n → ¬ f 424 p < 0) (h1 : (∀ p, p < n → x ≠ nI p) → Q (.inl none) (wI A (m_th 1 f))) (h2 : ∀ p, p < n → x = nI p → ¬ f 423 p = 0 → Q (.inl none) (wI A (m_th 2 f))) (h3 : ∀ p, p < n → x = nI p → f 423 p = 0 → Q (.inl none) (wI A (m_in p (m_th 0 f)))) : mC (d + 2) 169 [.ref 415, .int x] (wI A f) Q := by
  refine x_169_0 (shw hS) (r_isP hS hn hn6 (fun e => ?_) (fun p hp e => ?_))
  · refine ⟨fun _ => ?_, fun c => absurd rfl c⟩
    refine x_169_27 (shw hS) ⟨fun _ => h1 e, fun c => absurd ?_ c⟩
    simp (disch := first | decide | omega) only [wI_I, wI_s, wI_P, wI_L, forall_eq, m2, m3, m5, m6, m7, m36, m46, m64, m256, m320, nI_add, k1, k2, k3, k4, k5, k6, k7, k8, k9, k10, k11, k12, k13, k64, nI_clamp, nI_ltI, nI_leI, nI_eq, u2_s, u2_a, u2_i, ixT, bi_z, bi_nz, bi_n1, bi_o1, true_and, and_true, true_implies, not_true, not_false_iff, Bool.not_eq_false, Bool.not_eq_true, forall_const, ne_eq, Classical.not_not, and_self]; exact pos1
  · refine ⟨fun c => absurd c (by decide), fun _ => ?_⟩
    subst e
    simp (disch := first | decide | omega) only [wI_I, wI_s, wI_P, wI_L, forall_eq, m2, m3, m5, m6, m7, m36, m46, m64, m256, m320, nI_add, k1, k2, k3, k4, k5, k6, k7, k8, k9, k10, k11, k12, k13, k64, nI_clamp, nI_ltI, nI_leI, nI_eq, u2_s, u2_a, u2_i, ixT, bi_z, bi_nz, bi_n1, bi_o1, true_and, and_true, true_implies, not_true, not_false_iff, Bool.not_eq_false, Bool.not_eq_true, forall_const, ne_eq, Classical.not_not, and_self]
    refine ⟨fun c => ?_, fun c => ?_⟩
    · refine x_169_27 (shw hS) ⟨fun q => absurd q (by simp (disch := first | decide | omega) only [wI_I, wI_s, wI_P, wI_L, forall_eq, m2, m3, m5, m6, m7, m36, m46, m64, m256, m320, nI_add, k1, k2, k3, k4, k5, k6, k7, k8, k9, k10, k11, k12, k13, k64, nI_clamp, nI_ltI, nI_leI, nI_eq, u2_s, u2_a, u2_i, ixT, bi_z, bi_nz, bi_n1, bi_o1, true_and, and_true, true_implies, not_true, not_false_iff, Bool.not_eq_false, Bool.not_eq_true, forall_const, ne_eq, Classical.not_not, and_self]; exact npos0), fun _ => ?_⟩
      simp (disch := first | decide | omega) only [wI_I, wI_s, wI_P, wI_L, forall_eq, m2, m3, m5, m6, m7, m36, m46, m64, m256, m320, nI_add, k1, k2, k3, k4, k5, k6, k7, k8, k9, k10, k11, k12, k13, k64, nI_clamp, nI_ltI, nI_leI, nI_eq, u2_s, u2_a, u2_i, ixT, bi_z, bi_nz, bi_n1, bi_o1, true_and, and_true, true_implies, not_true, not_false_iff, Bool.not_eq_false, Bool.not_eq_true, forall_const, ne_eq, Classical.not_not, and_self]
      have h3 := h3 p hp rfl c
      unfold m_in m_th at h3
      simp (disch := first | decide | omega) only [u2_a, u2_i, u2_s] at h3
      generalize hg : am_u2 (am_u2 (am_u2 (am_u2 (am_u2 (am_u2 (am_u2 (am_u2 (am_u2 (am_u2 (am_u2 f 415 0 0) 423 p 1) 420 p (f 420 p + 1)) 431 p (f 420 p + 1)) 432 p (nI p)) 434 p (f 420 p + 1)) 435 p (nI p)) 433 p (1 <<< (nI p &&& 31))) 436 p 0) 437 p 0) 453 p 0 = g at h3 ⊢
      have g0 : g 420 p = f 420 p + 1 := by rw [← hg]; simp (disch := first | decide | omega) only [u2_a, u2_s]
      have g4 : g 424 p = f 424 p := by rw [← hg]; simp (disch := first | decide | omega) only [u2_a]
      have L : mW (d + 1 + 1) 169 125 [.ref 415, .int (nI p), .int (nI 0)] [] (wI A (fun a k => if 6 * p ≤ k ∧ k < 6 * p + 0 then (if a = 426 then -1 else if a = 427 ∨ a = 428 then 0 else g a k) else g a k)) Q := by
        refine l0 (P := fun j => mW (d + 1 + 1) 169 125 [.ref 415, .int (nI p), .int (nI j)] [] (wI A (fun a k => if 6 * p ≤ k ∧ k < 6 * p + j then (if a = 426 then -1 else if a = 427 ∨ a = 428 then 0 else g a k) else g a k)) Q) 6 (fun j hj ih => ?_) ?_
        · refine x_169_125 (shw hS) ⟨fun _ => ?_, fun c => absurd (nI_lt (b := 6) hj (by decide)) c⟩
          simp (disch := first | decide | omega) only [wI_I, wI_s, wI_P, wI_L, forall_eq, m2, m3, m5, m6, m7, m36, m46, m64, m256, m320, nI_add, k1, k2, k3, k4, k5, k6, k7, k8, k9, k10, k11, k12, k13, k64, nI_clamp, nI_ltI, nI_leI, nI_eq, u2_s, u2_a, u2_i, ixT, bi_z, bi_nz, bi_n1, bi_o1, true_and, and_true, true_implies, not_true, not_false_iff, Bool.not_eq_false, Bool.not_eq_true, forall_const, ne_eq, Classical.not_not, and_self, m_forget_s]
          exact ih
        · refine x_169_125 (shw hS) ⟨fun c => absurd c (by decide), fun _ => ?_⟩
          refine r_clear hS (by omega) ?_
          refine r_fresh hS (by omega) ?_
          refine ⟨ixn (by omega) (by decide), ?_⟩
          have f0 : ∀ a, a = 420 ∨ a = 424 → m_fresh p (m_clear p (m_forget p g)) a p = g a p := fun a ha => by
            rw [fresh_a (by omega) (by omega)]; unfold m_clear m_forget
            rw [if_neg (by omega)]
            split
            · rw [if_neg (by omega), if_neg (by omega)]
            · rfl
          have f1 := f0 420 (Or.inl rfl)
          have f2 := f0 424 (Or.inr rfl)
          have f1' : m_fresh p (m_clear p (fun a k => if 6 * p ≤ k ∧ k < 6 * p + 6 then (if a = 426 then -1 else if a = 427 ∨ a = 428 then 0 else g a k) else g a k)) 420 p = f 420 p + 1 := f1.trans g0
          simp (disch := first | decide | omega) only [wI_I, wI_s, wI_P, wI_L, forall_eq, m2, m3, m5, m6, m7, m36, m46, m64, m256, m320, nI_add, k1, k2, k3, k4, k5, k6, k7, k8, k9, k10, k11, k12, k13, k64, nI_clamp, nI_ltI, nI_leI, nI_eq, u2_s, u2_a, u2_i, ixT, bi_z, bi_nz, bi_n1, bi_o1, true_and, and_true, true_implies, not_true, not_false_iff, Bool.not_eq_false, Bool.not_eq_true, forall_const, ne_eq, Classical.not_not, and_self, f1']
          refine r_note hS (by omega) ?_ h3
          have f2' : m_fresh p (m_clear p (fun a k => if 6 * p ≤ k ∧ k < 6 * p + 6 then (if a = 426 then -1 else if a = 427 ∨ a = 428 then 0 else g a k) else g a k)) 424 p = f 424 p := f2.trans g4
          rw [f2']
          exact hev p hp
      rw [show (fun a k => if 6 * p ≤ k ∧ k < 6 * p + 0 then (if a = 426 then -1 else if a = 427 ∨ a = 428 then 0 else g a k) else g a k) = g by funext a k; rw [if_neg (by omega)]] at L
      exact L
    · refine x_169_27 (shw hS) ⟨fun _ => h2 p hp rfl c, fun q => absurd ?_ q⟩
      simp (disch := first | decide | omega) only [wI_I, wI_s, wI_P, wI_L, forall_eq, m2, m3, m5, m6, m7, m36, m46, m64, m256, m320, nI_add, k1, k2, k3, k4, k5, k6, k7, k8, k9, k10, k11, k12, k13, k64, nI_clamp, nI_ltI, nI_leI, nI_eq, u2_s, u2_a, u2_i, ixT, bi_z, bi_nz, bi_n1, bi_o1, true_and, and_true, true_implies, not_true, not_false_iff, Bool.not_eq_false, Bool.not_eq_true, forall_const, ne_eq, Classical.not_not, and_self]; exact pos2
end
