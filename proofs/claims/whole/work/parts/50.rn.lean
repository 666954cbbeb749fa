/-! The reference's methods do what the model says: receiving. -/
section
variable {A : am_A} {f : hs} {Q : am_Res → am_A → Prop} {d n p q u t m r s w : Nat}
theorem u2_id {g : hs} {a i : Nat} {x : Int32} (h : g a i = x) : am_u2 g a i x = g := by
  funext b j
  rw [u2_e]
  split
  · next e => rw [e.1, e.2, h]
  · rfl
theorem r_hear (hS : Sh A) (hr : r < 6) (h6 : s < 6) (hw : w + 46 ≤ 27646) (h : Q (.inl none) (wI A (m_hear r s w f))) : mC (d + 1) 218 [.ref 415, .int (nI r), .int (nI s), .int (nI w)] (wI A f) Q := by
  unfold m_hear at h
  dsimp only at h
  refine x_218_0 (shw hS) ?_
  simp (disch := first | decide | omega) only [wI_I, wI_s, wI_P, wI_L, forall_eq, m2, m3, m5, m6, m7, m36, m46, m64, m256, m320, nI_add, k1, k2, k3, k4, k5, k6, k7, k8, k9, k10, k11, k12, k13, k64, nI_clamp, nI_ltI, nI_leI, nI_eq, u2_s, u2_a, u2_i, ixT, bi_z, bi_nz, bi_n1, bi_o1, true_and, and_true, true_implies, not_true, not_false_iff, Bool.not_eq_false, Bool.not_eq_true, forall_const, ne_eq, Classical.not_not, and_self]
  have go : ∀ (x : Int32), (if f 418 w = 8 then -1 else f 415 3) = x → ∀ w2, mW (d + 1) 218 33 [.ref 415, .int (nI r), w2, .int (nI w), .int (nI (6 * r + s))] [.int x, .int (nI (6 * r + s)), .ref 426] (wI A f) Q := fun x hx w2 => by
    rw [hx] at h
    have fin : ∀ (g : hs) w2 w4, g 420 r = f 420 r → (∀ k, g 418 k = f 418 k) → Q (.inl none) (wI A (if f 420 r < f 418 (w + 7) then am_u2 g 420 r (f 418 (w + 7)) else g)) → mW (d + 1) 218 150 [.ref 415, .int (nI r), w2, .int (nI w), w4] [] (wI A g) Q := fun g w2 w4 g1 g2 hq => by
      refine x_218_150 (shw hS) ?_
      simp (disch := first | decide | omega) only [wI_I, wI_s, wI_P, wI_L, forall_eq, m2, m3, m5, m6, m7, m36, m46, m64, m256, m320, nI_add, k1, k2, k3, k4, k5, k6, k7, k8, k9, k10, k11, k12, k13, k64, nI_clamp, nI_ltI, nI_leI, nI_eq, u2_s, u2_a, u2_i, ixT, bi_z, bi_nz, bi_n1, bi_o1, true_and, and_true, true_implies, not_true, not_false_iff, Bool.not_eq_false, Bool.not_eq_true, forall_const, ne_eq, Classical.not_not, and_self, g1, g2]
      refine ⟨fun c => ?_, fun c => ?_⟩
      · rw [if_pos c] at hq; exact x_218_183 (shw hS) hq
      · rw [if_neg c] at hq; exact x_218_183 (shw hS) hq
    refine x_218_33 (shw hS) ?_
    simp (disch := first | decide | omega) only [wI_I, wI_s, wI_P, wI_L, forall_eq, m2, m3, m5, m6, m7, m36, m46, m64, m256, m320, nI_add, k1, k2, k3, k4, k5, k6, k7, k8, k9, k10, k11, k12, k13, k64, nI_clamp, nI_ltI, nI_leI, nI_eq, u2_s, u2_a, u2_i, ixT, bi_z, bi_nz, bi_n1, bi_o1, true_and, and_true, true_implies, not_true, not_false_iff, Bool.not_eq_false, Bool.not_eq_true, forall_const, ne_eq, Classical.not_not, and_self]
    refine ⟨fun c => ?_, fun c => ?_⟩
    · rw [if_pos c] at h
      exact fin _ _ _ (by simp (disch := first | decide | omega) only [u2_a]) (fun k => by simp (disch := first | decide | omega) only [u2_a]) h
    · rw [if_neg c] at h
      exact fin _ _ _ (by simp (disch := first | decide | omega) only [u2_a]) (fun k => by simp (disch := first | decide | omega) only [u2_a]) h
  exact ⟨fun c => go _ (if_pos c) _, fun c => go _ (if_neg c) _⟩
theorem r_ofV (hS : Sh A) (hr : r < 6) (hw : w + 46 ≤ 27646) (h : Q (.inl (some (.int (bi (m_ofV r w f))))) (wI A f)) : mC (d + 1) 219 [.ref 415, .int (nI r), .int (nI w)] (wI A f) Q := by
  unfold m_ofV at h
  refine x_219_0 (shw hS) ?_
  simp (disch := first | decide | omega) only [wI_I, wI_s, wI_P, wI_L, forall_eq, m2, m3, m5, m6, m7, m36, m46, m64, m256, m320, nI_add, k1, k2, k3, k4, k5, k6, k7, k8, k9, k10, k11, k12, k13, k64, nI_clamp, nI_ltI, nI_leI, nI_eq, u2_s, u2_a, u2_i, ixT, bi_z, bi_nz, bi_n1, bi_o1, true_and, and_true, true_implies, not_true, not_false_iff, Bool.not_eq_false, Bool.not_eq_true, forall_const, ne_eq, Classical.not_not, and_self]
  refine ⟨fun c => ⟨fun c2 => ?_, fun c2 => ?_⟩, fun c => ?_⟩
  · rw [decide_eq_true c, decide_eq_true c2] at h; exact h
  · rw [decide_eq_true c, decide_eq_false c2] at h; exact h
  · rw [decide_eq_false c] at h; exact h
theorem r_ofP (hS : Sh A) (hr : r < 6) (hw : w + 46 ≤ 27646) (h : Q (.inl (some (.int (bi (m_ofP r w f))))) (wI A f)) : mC (d + 1) 220 [.ref 415, .int (nI r), .int (nI w)] (wI A f) Q := by
  unfold m_ofP at h
  refine x_220_0 (shw hS) ?_
  simp (disch := first | decide | omega) only [wI_I, wI_s, wI_P, wI_L, forall_eq, m2, m3, m5, m6, m7, m36, m46, m64, m256, m320, nI_add, k1, k2, k3, k4, k5, k6, k7, k8, k9, k10, k11, k12, k13, k64, nI_clamp, nI_ltI, nI_leI, nI_eq, u2_s, u2_a, u2_i, ixT, bi_z, bi_nz, bi_n1, bi_o1, true_and, and_true, true_implies, not_true, not_false_iff, Bool.not_eq_false, Bool.not_eq_true, forall_const, ne_eq, Classical.not_not, and_self]
  refine ⟨fun c => ⟨fun c2 => ?_, fun c2 => ?_⟩, fun c => ?_⟩
  · rw [decide_eq_true c, decide_eq_true c2] at h; exact h
  · rw [decide_eq_true c, decide_eq_false c2] at h; exact h
  · rw [decide_eq_false c] at h; exact h
def t_lrn (n r s w j : Nat) (f : hs) : hs := fun a k => if a = 443 ∧ 36 * r + 6 * s ≤ k ∧ k < 36 * r + 6 * s + j then m_max (f 443 k) (f 418 (w + 9 + (k - (36 * r + 6 * s)))) else if a = 444 ∧ 36 * r + 6 * s ≤ k ∧ k < 36 * r + 6 * s + j then m_max (f 444 k) (f 418 (w + 9 + n + (k - (36 * r + 6 * s)))) else f a k
theorem t_lrn_s {j : Nat} : t_lrn n r s w (j + 1) f = am_u2 (am_u2 (t_lrn n r s w j f) 443 (36 * r + 6 * s + j) (m_max (f 443 (36 * r + 6 * s + j)) (f 418 (w + 9 + j)))) 444 (36 * r + 6 * s + j) (m_max (f 444 (36 * r + 6 * s + j)) (f 418 (w + 9 + n + j))) := by
  funext a k
  simp only [u2_e, t_lrn]
  by_cases e : k = 36 * r + 6 * s + j
  · subst e
    rw [show 36 * r + 6 * s + j - (36 * r + 6 * s) = j by omega]
    (repeat' split) <;> first | rfl | omega | (congr 1; omega)
  · (repeat' split) <;> first | rfl | omega | (congr 1; omega)
theorem t_lrn_a {j a k : Nat} (h : a ≠ 443 ∧ a ≠ 444) : t_lrn n r s w j f a k = f a k := by unfold t_lrn; rw [if_neg (by omega), if_neg (by omega)]
theorem t_lrn_f {j a k : Nat} (h : 36 * r + 6 * s + j ≤ k) : t_lrn n r s w j f a k = f a k := by unfold t_lrn; rw [if_neg (by omega), if_neg (by omega)]
theorem t_lrn_0 : t_lrn n r s w 0 f = f := by funext a k; unfold t_lrn; rw [if_neg (by omega), if_neg (by omega)]
theorem r_rHello {b : Nat} (hS : Sh A) (hn : f 415 1 = nI n) (hn6 : n ≤ 6) (hr : r < 6) (h6 : s < 6) (hw : w + 46 ≤ 27646) (hW : m_ofV r w f = true → okWk n b r (m_learn n r s w f)) (h : Q (.inl none) (wI A (m_rHello n r s w f))) : mC (d + 7) 221 [.ref 415, .int (nI r), .int (nI s), .int (nI w)] (wI A f) Q := by
  unfold m_rHello at h
  refine x_221_0 (shw hS) (r_ofV hS hr hw ?_)
  show _ ∧ _
  simp (disch := first | decide | omega) only [wI_I, wI_s, wI_P, wI_L, forall_eq, m2, m3, m5, m6, m7, m36, m46, m64, m256, m320, nI_add, k1, k2, k3, k4, k5, k6, k7, k8, k9, k10, k11, k12, k13, k64, nI_clamp, nI_ltI, nI_leI, nI_eq, u2_s, u2_a, u2_i, ixT, bi_z, bi_nz, bi_n1, bi_o1, true_and, and_true, true_implies, not_true, not_false_iff, Bool.not_eq_false, Bool.not_eq_true, forall_const, ne_eq, Classical.not_not, and_self]
  refine ⟨fun c => by rw [if_neg (by rw [c]; decide)] at h; exact h, fun c => ?_⟩
  rw [if_pos c] at h
  have hW := hW c
  have L : ∀ w5, mW (d + 6 + 1) 221 13 [.ref 415, .int (nI r), .int (nI s), .int (nI w), .int (nI 0), w5] [] (wI A (t_lrn n r s w 0 f)) Q := by
    refine l0 (P := fun j => ∀ w5, mW (d + 6 + 1) 221 13 [.ref 415, .int (nI r), .int (nI s), .int (nI w), .int (nI j), w5] [] (wI A (t_lrn n r s w j f)) Q) n (fun j hj ih w5 => ?_) (fun w5 => ?_)
    · rw [t_lrn_s] at ih
      unfold m_max at ih
      have h1 : ∀ k, t_lrn n r s w j f 418 k = f 418 k := fun k => t_lrn_a (by decide)
      have h2 : t_lrn n r s w j f 443 (36 * r + 6 * s + j) = f 443 (36 * r + 6 * s + j) := t_lrn_f (by omega)
      have h3 : t_lrn n r s w j f 444 (36 * r + 6 * s + j) = f 444 (36 * r + 6 * s + j) := t_lrn_f (by omega)
      have h4 : t_lrn n r s w j f 415 1 = nI n := by rw [t_lrn_a (by decide)]; exact hn
      refine x_221_13 (shw hS) ⟨fun _ => ?_, fun c => absurd ?_ c⟩
      · simp (disch := first | decide | omega) only [wI_I, wI_s, wI_P, wI_L, forall_eq, m2, m3, m5, m6, m7, m36, m46, m64, m256, m320, nI_add, k1, k2, k3, k4, k5, k6, k7, k8, k9, k10, k11, k12, k13, k64, nI_clamp, nI_ltI, nI_leI, nI_eq, u2_s, u2_a, u2_i, ixT, bi_z, bi_nz, bi_n1, bi_o1, true_and, and_true, true_implies, not_true, not_false_iff, Bool.not_eq_false, Bool.not_eq_true, forall_const, ne_eq, Classical.not_not, and_self, h1, h2, h3, h4]
        refine ⟨fun c1 => ⟨fun c2 => ?_, fun c2 => ?_⟩, fun c1 => ⟨fun c2 => ?_, fun c2 => ?_⟩⟩
        · rw [if_pos c1, if_pos c2] at ih; exact ih _
        · rw [if_pos c1, if_neg c2, u2_id (i := 36 * r + 6 * s + j) (a := 444) (by rw [u2_a (by decide)]; exact h3)] at ih; exact ih _
        · rw [if_neg c1, if_pos c2, u2_id (g := t_lrn n r s w j f) h2] at ih; exact ih _
        · rw [if_neg c1, if_neg c2, u2_id (g := t_lrn n r s w j f) h2, u2_id h3] at ih; exact ih _
      · simp (disch := first | decide | omega) only [wI_I, wI_s, wI_P, wI_L, forall_eq, m2, m3, m5, m6, m7, m36, m46, m64, m256, m320, nI_add, k1, k2, k3, k4, k5, k6, k7, k8, k9, k10, k11, k12, k13, k64, nI_clamp, nI_ltI, nI_leI, nI_eq, u2_s, u2_a, u2_i, ixT, bi_z, bi_nz, bi_n1, bi_o1, true_and, and_true, true_implies, not_true, not_false_iff, Bool.not_eq_false, Bool.not_eq_true, forall_const, ne_eq, Classical.not_not, and_self, h4]; exact hj
    · refine x_221_13 (shw hS) ⟨fun c => absurd c ?_, fun _ => ?_⟩
      · have h4 : t_lrn n r s w n f 415 1 = nI n := by rw [t_lrn_a (by decide)]; exact hn
        simp (disch := first | decide | omega) only [wI_I, wI_s, wI_P, wI_L, forall_eq, m2, m3, m5, m6, m7, m36, m46, m64, m256, m320, nI_add, k1, k2, k3, k4, k5, k6, k7, k8, k9, k10, k11, k12, k13, k64, nI_clamp, nI_ltI, nI_leI, nI_eq, u2_s, u2_a, u2_i, ixT, bi_z, bi_nz, bi_n1, bi_o1, true_and, and_true, true_implies, not_true, not_false_iff, Bool.not_eq_false, Bool.not_eq_true, forall_const, ne_eq, Classical.not_not, and_self, h4]; omega
      · exact r_work hS hr hW h
  have := L am_un
  rw [t_lrn_0] at this
  exact this
theorem pk418 (hS : Sh A) : srcOK A 418 := ⟨hS.vh 3 1 27646 rfl, by decide, by decide, by decide, by decide⟩
theorem r_rData {b : Nat} (hS : Sh A) (hn : f 415 1 = nI n) (hn6 : n ≤ 6) (hr : r < 6) (h6 : s < 6) (hw : w + 46 ≤ 27646) (hG : okG r f) (hk : f 436 r = 0 → m_ofV r w f = true → ¬ f 418 (w + 9) < 0) (hW : f 436 r = 0 → m_ofV r w f = true → okWk n b r (m_keep n r s (f 418 (w + 9)) (f 418 (w + 10)) (f 418 (w + 11)) (fun i => f 418 (w + 12 + i)) f)) (h : Q (.inl none) (wI A (m_rData n r s w f))) : mC (d + 7) 222 [.ref 415, .int (nI r), .int (nI s), .int (nI w)] (wI A f) Q := by
  unfold m_rData at h
  refine x_222_0 (shw hS) ?_
  simp (disch := first | decide | omega) only [wI_I, wI_s, wI_P, wI_L, forall_eq, m2, m3, m5, m6, m7, m36, m46, m64, m256, m320, nI_add, k1, k2, k3, k4, k5, k6, k7, k8, k9, k10, k11, k12, k13, k64, nI_clamp, nI_ltI, nI_leI, nI_eq, u2_s, u2_a, u2_i, ixT, bi_z, bi_nz, bi_n1, bi_o1, true_and, and_true, true_implies, not_true, not_false_iff, Bool.not_eq_false, Bool.not_eq_true, forall_const, ne_eq, Classical.not_not, and_self]
  refine ⟨fun c => r_ofV hS hr hw ?_, fun c => by rw [if_neg (fun q => c q.1)] at h; exact h⟩
  show _ ∧ _
  simp (disch := first | decide | omega) only [wI_I, wI_s, wI_P, wI_L, forall_eq, m2, m3, m5, m6, m7, m36, m46, m64, m256, m320, nI_add, k1, k2, k3, k4, k5, k6, k7, k8, k9, k10, k11, k12, k13, k64, nI_clamp, nI_ltI, nI_leI, nI_eq, u2_s, u2_a, u2_i, ixT, bi_z, bi_nz, bi_n1, bi_o1, true_and, and_true, true_implies, not_true, not_false_iff, Bool.not_eq_false, Bool.not_eq_true, forall_const, ne_eq, Classical.not_not, and_self]
  refine ⟨fun c2 => by rw [if_neg (by rw [c2]; simp)] at h; exact h, fun c2 => ?_⟩
  rw [if_pos ⟨c, c2⟩] at h
  obtain ⟨g, e, hg, he, heg, hg2⟩ := hG.1 s h6
  obtain ⟨c0, hc, hc2⟩ := hG.2.1
  refine r_keep (g := g) (c := c0) hS hn hn6 hr h6 (hk c c2) (pk418 hS) (by rw [hS.lh 3 1 27646 rfl]; omega) (by rw [hS.lh 3 1 27646 rfl]; decide) hg (by omega) hc (by omega) ?_
  exact r_work hS hr (hW c c2) h
theorem cmp_3 {a b c e : Int32} : m_cmp a b c e = -1 ∨ m_cmp a b c e = 0 ∨ m_cmp a b c e = 1 := by
  unfold m_cmp
  split
  · split
    · exact Or.inl rfl
    · exact Or.inr (Or.inr rfl)
  · split
    · exact Or.inl rfl
    · split
      · exact Or.inr (Or.inr rfl)
      · exact Or.inr (Or.inl rfl)
theorem r_rPro {b : Nat} (hS : Sh A) (hB : B0 n b f) (hr : r < 6) (h6 : s < 6) (hw : w + 46 ≤ 27646) (h : Q (.inl none) (wI A (m_rPro n r s w f))) : mC (d + 3) 223 [.ref 415, .int (nI r), .int (nI s), .int (nI w)] (wI A f) Q := by
  have hn6 := hB.2.1
  unfold m_rPro at h
  dsimp only at h
  refine x_223_0 (shw hS) ?_
  simp (disch := first | decide | omega) only [wI_I, wI_s, wI_P, wI_L, forall_eq, m2, m3, m5, m6, m7, m36, m46, m64, m256, m320, nI_add, k1, k2, k3, k4, k5, k6, k7, k8, k9, k10, k11, k12, k13, k64, nI_clamp, nI_ltI, nI_leI, nI_eq, u2_s, u2_a, u2_i, ixT, bi_z, bi_nz, bi_n1, bi_o1, true_and, and_true, true_implies, not_true, not_false_iff, Bool.not_eq_false, Bool.not_eq_true, forall_const, ne_eq, Classical.not_not, and_self]
  refine r_cmp (shw hS) ?_
  have send : ∀ g : hs, B0 n b g → Q (.inl none) (wI A (m_ship r s 3 (m_sayRow n 441 (6 * r) (m_start g)))) → mC (d + 2) 159 [.ref 415] (wI A g) (am_cv (fun B_13 => mC (d + 2) 161 [.ref 415, .ref 441, .int (nI (6 * r))] B_13 (am_cv (fun B_17 => mC (d + 2) 162 [.ref 415, .int (nI r), .int (nI s), .int 3] B_17 (am_cv (fun B_21 => Q (.inl none) B_21)))))) := fun g hg hq => by
    refine r_startBody hS ?_
    refine r_sayRow (w := 0) (n := n) hS hg.start.1 hn6 (hS.vh 26 1 36 rfl) (by decide) (by decide) (by rw [hS.lh 26 1 36 rfl]; omega) (by rw [hS.lh 26 1 36 rfl]; decide) (wr_0 _) (by omega) ?_
    exact r_ship hS hr hg.start.row.2.2.ok (wr_row (wr_0 _)) (by omega) hq
  rcases cmp_3 (a := f 418 (w + 7)) (b := f 418 (w + 8)) (c := f 434 r) (e := f 435 r) with e | e | e
  · rw [e] at h ⊢
    rw [if_pos (Or.inl neg1)] at h
    exact ⟨fun _ => h, fun c => absurd neg1 c⟩
  · rw [e] at h ⊢
    refine ⟨fun c => absurd c (by decide), fun _ => ⟨fun _ => ?_, fun c => absurd rfl c⟩⟩
    refine ⟨fun c => ⟨fun c2 => absurd c2 (by decide), fun _ => ?_⟩, fun c => ?_⟩
    · rw [if_neg (fun q => q.elim (fun q => absurd q (by decide)) (fun q => q.2 c)), if_neg (by decide)] at h
      exact send f hB h
    · rw [if_pos (Or.inr ⟨rfl, c⟩)] at h; exact h
  · rw [e] at h ⊢
    refine ⟨fun c => absurd c (by decide), fun _ => ⟨fun c => absurd c (by decide), fun _ => ⟨fun _ => ?_, fun c => absurd (by decide) c⟩⟩⟩
    rw [if_neg (fun q => q.elim (fun q => absurd q (by decide)) (fun q => absurd q.1 (by decide))), if_pos (by decide)] at h
    simp (disch := first | decide | omega) only [wI_I, wI_s, wI_P, wI_L, forall_eq, m2, m3, m5, m6, m7, m36, m46, m64, m256, m320, nI_add, k1, k2, k3, k4, k5, k6, k7, k8, k9, k10, k11, k12, k13, k64, nI_clamp, nI_ltI, nI_leI, nI_eq, u2_s, u2_a, u2_i, ixT, bi_z, bi_nz, bi_n1, bi_o1, true_and, and_true, true_implies, not_true, not_false_iff, Bool.not_eq_false, Bool.not_eq_true, forall_const, ne_eq, Classical.not_not, and_self]
    refine r_prom hS hB.1 hn6 hr ?_
    exact send _ hB.prom h
theorem r_rRep {b : Nat} (hS : Sh A) (hB : B0 n b f) (hn0 : 0 < n) (hr : r < 6) (h6 : s < 6) (hw : w + 46 ≤ 27646)
    (hT : f 453 r = 1 ∧ hasb (f 454 r) s = true ∧ hasb (f 455 r) s = false → ∀ g, g = m_row n 459 (36 * r + 6 * s) (fun u => f 418 (w + 9 + u)) (m_setR r s (f 418 (w + 5)) (f 418 (w + 6)) f) → g 455 r = g 454 r → okT n b r (m_cut0 n r g))
    (h : Q (.inl none) (wI A (m_rRep n r s w f))) : mC (d + 11) 224 [.ref 415, .int (nI r), .int (nI s), .int (nI w)] (wI A f) Q := by
  have hn6 := hB.2.1
  unfold m_rRep at h
  dsimp only at h
  refine x_224_0 (shw hS) ?_
  simp (disch := first | decide | omega) only [wI_I, wI_s, wI_P, wI_L, forall_eq, m2, m3, m5, m6, m7, m36, m46, m64, m256, m320, nI_add, k1, k2, k3, k4, k5, k6, k7, k8, k9, k10, k11, k12, k13, k64, nI_clamp, nI_ltI, nI_leI, nI_eq, u2_s, u2_a, u2_i, ixT, bi_z, bi_nz, bi_n1, bi_o1, true_and, and_true, true_implies, not_true, not_false_iff, Bool.not_eq_false, Bool.not_eq_true, forall_const, ne_eq, Classical.not_not, and_self]
  refine ⟨fun c => r_has (shw hS) h6 ?_, fun c => by rw [if_neg (fun q => c q.1)] at h; exact h⟩
  show _ ∧ _
  simp (disch := first | decide | omega) only [wI_I, wI_s, wI_P, wI_L, forall_eq, m2, m3, m5, m6, m7, m36, m46, m64, m256, m320, nI_add, k1, k2, k3, k4, k5, k6, k7, k8, k9, k10, k11, k12, k13, k64, nI_clamp, nI_ltI, nI_leI, nI_eq, u2_s, u2_a, u2_i, ixT, bi_z, bi_nz, bi_n1, bi_o1, true_and, and_true, true_implies, not_true, not_false_iff, Bool.not_eq_false, Bool.not_eq_true, forall_const, ne_eq, Classical.not_not, and_self]
  refine ⟨fun c2 => by rw [if_neg (fun q => by rw [c2] at q; exact absurd q.2.1 (by decide))] at h; exact h, fun c2 => r_has (shw hS) h6 ?_⟩
  show _ ∧ _
  simp (disch := first | decide | omega) only [wI_I, wI_s, wI_P, wI_L, forall_eq, m2, m3, m5, m6, m7, m36, m46, m64, m256, m320, nI_add, k1, k2, k3, k4, k5, k6, k7, k8, k9, k10, k11, k12, k13, k64, nI_clamp, nI_ltI, nI_leI, nI_eq, u2_s, u2_a, u2_i, ixT, bi_z, bi_nz, bi_n1, bi_o1, true_and, and_true, true_implies, not_true, not_false_iff, Bool.not_eq_false, Bool.not_eq_true, forall_const, ne_eq, Classical.not_not, and_self]
  refine ⟨fun c3 => ?_, fun c3 => by rw [if_neg (fun q => by rw [c3] at q; exact absurd q.2.2 (by decide))] at h; exact h⟩
  have cc : f 453 r = 1 ∧ hasb (f 454 r) s = true ∧ hasb (f 455 r) s = false := ⟨c, c2, c3⟩
  rw [if_pos cc] at h
  have hT := hT cc
  refine r_setR hS hr h6 ?_
  generalize hG : m_setR r s (f 418 (w + 5)) (f 418 (w + 6)) f = G at h hT ⊢
  have hBG : B0 n b G := by rw [← hG]; exact hB.setR
  have g1 : ∀ k, G 418 k = f 418 k := fun k => by rw [← hG]; unfold m_setR; simp (disch := first | decide | omega) only [u2_a]
  have L : mW (d + 10 + 1) 224 63 [.ref 415, .int (nI r), .int (nI s), .int (nI w), .int (nI 0)] [] (wI A (t_row 459 (36 * r + 6 * s) 0 (fun u => f 418 (w + 9 + u)) G)) Q := by
    refine l0 (P := fun j => mW (d + 10 + 1) 224 63 [.ref 415, .int (nI r), .int (nI s), .int (nI w), .int (nI j)] [] (wI A (t_row 459 (36 * r + 6 * s) j (fun u => f 418 (w + 9 + u)) G)) Q) n (fun j hj ih => ?_) ?_
    · refine x_224_63 (shw hS) ⟨fun _ => ?_, fun c => absurd ?_ c⟩
      · simp (disch := first | decide | omega) only [wI_I, wI_s, wI_P, wI_L, forall_eq, m2, m3, m5, m6, m7, m36, m46, m64, m256, m320, nI_add, k1, k2, k3, k4, k5, k6, k7, k8, k9, k10, k11, k12, k13, k64, nI_clamp, nI_ltI, nI_leI, nI_eq, u2_s, u2_a, u2_i, ixT, bi_z, bi_nz, bi_n1, bi_o1, true_and, and_true, true_implies, not_true, not_false_iff, Bool.not_eq_false, Bool.not_eq_true, forall_const, ne_eq, Classical.not_not, and_self, t_row_a, g1, t_rows (c := fun u => f 418 (w + 9 + u))]
        exact ih
      · simp (disch := first | decide | omega) only [wI_I, wI_s, wI_P, wI_L, forall_eq, m2, m3, m5, m6, m7, m36, m46, m64, m256, m320, nI_add, k1, k2, k3, k4, k5, k6, k7, k8, k9, k10, k11, k12, k13, k64, nI_clamp, nI_ltI, nI_leI, nI_eq, u2_s, u2_a, u2_i, ixT, bi_z, bi_nz, bi_n1, bi_o1, true_and, and_true, true_implies, not_true, not_false_iff, Bool.not_eq_false, Bool.not_eq_true, forall_const, ne_eq, Classical.not_not, and_self, t_row_a, hBG.1]; exact hj
    · rw [t_row_e]
      have hBr : B0 n b (m_row n 459 (36 * r + 6 * s) (fun u => f 418 (w + 9 + u)) G) := hBG.mrow (by decide) (by decide)
      refine x_224_63 (shw hS) ⟨fun c => absurd c ?_, fun _ => ?_⟩
      · simp (disch := first | decide | omega) only [wI_I, wI_s, wI_P, wI_L, forall_eq, m2, m3, m5, m6, m7, m36, m46, m64, m256, m320, nI_add, k1, k2, k3, k4, k5, k6, k7, k8, k9, k10, k11, k12, k13, k64, nI_clamp, nI_ltI, nI_leI, nI_eq, u2_s, u2_a, u2_i, ixT, bi_z, bi_nz, bi_n1, bi_o1, true_and, and_true, true_implies, not_true, not_false_iff, Bool.not_eq_false, Bool.not_eq_true, forall_const, ne_eq, Classical.not_not, and_self, hBr.1]; omega
      · simp (disch := first | decide | omega) only [wI_I, wI_s, wI_P, wI_L, forall_eq, m2, m3, m5, m6, m7, m36, m46, m64, m256, m320, nI_add, k1, k2, k3, k4, k5, k6, k7, k8, k9, k10, k11, k12, k13, k64, nI_clamp, nI_ltI, nI_leI, nI_eq, u2_s, u2_a, u2_i, ixT, bi_z, bi_nz, bi_n1, bi_o1, true_and, and_true, true_implies, not_true, not_false_iff, Bool.not_eq_false, Bool.not_eq_true, forall_const, ne_eq, Classical.not_not, and_self]
        refine ⟨fun c => ?_, fun c => ?_⟩
        · rw [if_pos c] at h
          exact r_cutAll hS hBr hn0 hr (hT _ rfl c) h
        · rw [if_neg c] at h; exact h
  rw [t_row0] at L
  exact L
end
