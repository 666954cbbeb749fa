/-! The class's methods, by what they do to the ints of the memory: streams, states, events. -/
section
variable {A : am_A} {g : hs} {Q : am_Res → am_A → Prop} {d n p q u t m : Nat}
def c_drop (p J : Nat) (g : hs) : hs := fun b j => if b = nd p + 60 ∧ j < J ∧ g (nd p + (54 + p)) (j / 16) < g (nd p + 60) j then 0 else g b j
theorem drop_1 {J : Nat} (h : g (nd p + (54 + p)) (J / 16) < g (nd p + 60) J) : am_u2 (c_drop p J g) (nd p + 60) J 0 = c_drop p (J + 1) g := by
  funext b j
  simp only [u2_e, c_drop]
  by_cases e : b = nd p + 60 ∧ j = J
  · rw [if_pos e, if_pos ⟨e.1, by omega, by rw [e.2]; exact h⟩]
  · rw [if_neg e]
    by_cases e2 : b = nd p + 60 ∧ j < J ∧ g (nd p + (54 + p)) (j / 16) < g (nd p + 60) j
    · rw [if_pos e2, if_pos ⟨e2.1, by omega, e2.2.2⟩]
    · rw [if_neg e2, if_neg (fun q => e2 ⟨q.1, by omega, q.2.2⟩)]
theorem drop_0 {J : Nat} (h : ¬ g (nd p + (54 + p)) (J / 16) < g (nd p + 60) J) : c_drop p J g = c_drop p (J + 1) g := by
  funext b j
  simp only [c_drop]
  by_cases e2 : b = nd p + 60 ∧ j < J ∧ g (nd p + (54 + p)) (j / 16) < g (nd p + 60) j
  · rw [if_pos e2, if_pos ⟨e2.1, by omega, e2.2.2⟩]
  · rw [if_neg e2, if_neg (fun q => ?_)]
    by_cases e3 : j = J
    · rw [e3] at q; exact h q.2.2
    · exact e2 ⟨q.1, by omega, q.2.2⟩
theorem div16 {J : Nat} (h : J < 96) : nI J / (16 : Int32) = nI (J / 16) := by
  have : ∀ J, J < 96 → nI J / (16 : Int32) = nI (J / 16) := by decide +kernel
  exact this J h
theorem k_drop (hS : Sh A) (hp : p < 6) (h : Q (.inl none) (wI A (c_drop p 96 g))) : mC (d + 1) 134 [.ref (nd p + 45)] (wI A g) Q := by
  refine x_134_0 (shw hS) hp ?_
  have e0 : g = c_drop p 0 g := by funext b j; unfold c_drop; rw [if_neg (by omega)]
  have L : mW (d + 1) 134 2 [.ref (nd p + 45), .int (nI 0)] [] (wI A (c_drop p 0 g)) Q := by
    refine l0 (P := fun j => mW (d + 1) 134 2 [.ref (nd p + 45), .int (nI j)] [] (wI A (c_drop p j g)) Q) 96 (fun j hj ih => ?_) ?_
    · refine x_134_2 (shw hS) hp ⟨fun _ => ?_, fun q => absurd (nI_lt (b := 96) hj (by decide)) q⟩
      have h6 : j / 16 < 6 := by omega
      have e1 : c_drop p j g (nd p + (54 + p)) (j / 16) = g (nd p + (54 + p)) (j / 16) := by unfold c_drop; rw [if_neg (by omega)]
      have e2 : c_drop p j g (nd p + 60) j = g (nd p + 60) j := by unfold c_drop; rw [if_neg (by omega)]
      simp (disch := first | decide | omega) only [wI_I, wI_s, wI_P, wI_L, forall_eq, m2, m3, m5, m6, m7, m36, m46, m64, m256, m320, nI_add, k1, k2, k3, k4, k5, k6, k7, k8, k9, k10, k11, k12, k13, k64, nI_clamp, nI_ltI, nI_leI, nI_eq, u2_s, u2_a, u2_i, ixT, bi_z, bi_nz, bi_n1, bi_o1, true_and, and_true, true_implies, not_true, not_false_iff, Bool.not_eq_false, Bool.not_eq_true, forall_const, ne_eq, Classical.not_not, and_self, div16 hj, e1, e2]
      refine ⟨fun c => ?_, fun c => ?_⟩
      · rw [drop_1 c]; exact ih
      · rw [drop_0 c]; exact ih
    · exact x_134_2 (shw hS) hp ⟨fun q => absurd q (by decide), fun _ => h⟩
  rw [← e0] at L
  exact L
def c_lrn (n p q a J : Nat) (g : hs) : hs := fun b j => if b = nd p + (47 + q) ∧ j < J then m_max (g b j) (g (a + 1) j) else if b = nd p + (54 + q) ∧ j < J then m_max (g b j) (g (a + 1) (n + j)) else g b j
theorem lrn_s {a J : Nat} (hq : q < 6) : am_u2 (am_u2 (c_lrn n p q a J g) (nd p + (47 + q)) J (m_max (g (nd p + (47 + q)) J) (g (a + 1) J))) (nd p + (54 + q)) J (m_max (g (nd p + (54 + q)) J) (g (a + 1) (n + J))) = c_lrn n p q a (J + 1) g := by
  funext b j
  simp only [u2_e, c_lrn]
  by_cases e1 : b = nd p + (47 + q)
  · subst e1
    by_cases e2 : j = J
    · subst e2; (repeat' split) <;> first | rfl | omega | (congr 1; omega)
    · (repeat' split) <;> first | rfl | omega | (congr 1; omega)
  · by_cases e3 : b = nd p + (54 + q)
    · subst e3
      by_cases e2 : j = J
      · subst e2; (repeat' split) <;> first | rfl | omega | (congr 1; omega)
      · (repeat' split) <;> first | rfl | omega | (congr 1; omega)
    · (repeat' split) <;> first | rfl | omega | (congr 1; omega)
theorem k_learn {a : Nat} (hS : Sh A) (hp : p < 6) (hq : q < 6) (hk : isPk A a) (ha : 415 < a) (hn6 : n ≤ 6) (h : Q (.inl none) (wI A (c_lrn n p q a n g))) : mC (d + 1) 135 [.ref (nd p + 45), .int (nI q), .ref a, .int (nI n)] (wI A g) Q := by
  have hnd := nd_b hp
  refine x_135_0 (shw hS) hp ?_
  have e0 : g = c_lrn n p q a 0 g := by funext b j; unfold c_lrn; rw [if_neg (by omega), if_neg (by omega)]
  have L : mW (d + 1) 135 3 [.ref (nd p + 45), .int (nI q), .ref a, .int (nI n), .int (nI 0)] [] (wI A (c_lrn n p q a 0 g)) Q := by
    refine l0 (P := fun j => mW (d + 1) 135 3 [.ref (nd p + 45), .int (nI q), .ref a, .int (nI n), .int (nI j)] [] (wI A (c_lrn n p q a j g)) Q) n (fun j hj ih => ?_) ?_
    · refine x_135_3 (shw hS) hp ⟨fun _ => ?_, fun c => absurd (nI_lt hj (by omega)) c⟩
      have e1 : ∀ i, c_lrn n p q a j g (a + 1) i = g (a + 1) i := fun i => by unfold c_lrn; rw [if_neg (by omega), if_neg (by omega)]
      have e2 : c_lrn n p q a j g (nd p + (47 + q)) j = g (nd p + (47 + q)) j := by unfold c_lrn; rw [if_neg (by omega), if_neg (by omega)]
      have e3 : c_lrn n p q a j g (nd p + (54 + q)) j = g (nd p + (54 + q)) j := by unfold c_lrn; rw [if_neg (by omega), if_neg (by omega)]
      rw [← lrn_s hq] at ih
      simp (disch := first | decide | omega) only [wI_I, wI_s, wI_P, wI_L, forall_eq, m2, m3, m5, m6, m7, m36, m46, m64, m256, m320, nI_add, k1, k2, k3, k4, k5, k6, k7, k8, k9, k10, k11, k12, k13, k64, nI_clamp, nI_ltI, nI_leI, nI_eq, u2_s, u2_a, u2_i, ixT, bi_z, bi_nz, bi_n1, bi_o1, true_and, and_true, true_implies, not_true, not_false_iff, Bool.not_eq_false, Bool.not_eq_true, forall_const, ne_eq, Classical.not_not, and_self, e1, e2, e3]
      exact ⟨pkw hk, ih⟩
    · exact x_135_3 (shw hS) hp ⟨fun c => absurd c (by rw [nI_ltI (by omega) (by omega)]; omega), fun _ => h⟩
  rw [← e0] at L
  exact L
def c_sv (p : Nat) (mem hd : Int32) (g : hs) : hs := fun b j => if b = nd p + 45 ∧ j = 1 then mem else if b = nd p + 45 ∧ j = 2 then hd else if (nd p + 47 ≤ b ∧ b < nd p + 53 ∨ nd p + 54 ≤ b ∧ b < nd p + 60) ∧ j < 6 then 0 else if b = nd p + 60 ∧ j < 96 then 0 else if b = nd p + 64 ∧ j < 2 then 0 else g b j
def c_svj (p i : Nat) (mem hd : Int32) (g : hs) : hs := fun b j => if b = nd p + 45 ∧ j = 1 then mem else if b = nd p + 45 ∧ j = 2 then hd else if (nd p + 47 ≤ b ∧ b < nd p + 47 + i ∨ nd p + 54 ≤ b ∧ b < nd p + 54 + i) ∧ j < 6 then 0 else g b j
theorem k_startView {mem hd : Int32} (hS : Sh A) (hp : p < 6) (h : Q (.inl none) (wI A (c_sv p mem hd g))) : mC (d + 2) 126 [.ref (nd p + 45), .int mem, .int hd] (wI A g) Q := by
  refine x_126_0 (shw hS) hp ?_
  simp (disch := first | decide | omega) only [wI_I, wI_s, wI_P, wI_L, forall_eq, m2, m3, m5, m6, m7, m36, m46, m64, m256, m320, nI_add, k1, k2, k3, k4, k5, k6, k7, k8, k9, k10, k11, k12, k13, k64, nI_clamp, nI_ltI, nI_leI, nI_eq, u2_s, u2_a, u2_i, ixT, bi_z, bi_nz, bi_n1, bi_o1, true_and, and_true, true_implies, not_true, not_false_iff, Bool.not_eq_false, Bool.not_eq_true, forall_const, ne_eq, Classical.not_not, and_self]
  have e0 : am_u2 (am_u2 g (nd p + 45) 1 mem) (nd p + 45) 2 hd = c_svj p 0 mem hd g := by
    funext b j
    simp only [u2_e, c_svj]
    (repeat' split) <;> first | rfl | omega | (congr 1; omega)
  rw [e0]
  refine l0 (P := fun i => ∀ w1 w2, mW (d + 1 + 1) 126 12 [.ref (nd p + 45), w1, w2, .int (nI i)] [] (wI A (c_svj p i mem hd g)) Q) 6 (fun i hi ih w1 w2 => ?_) (fun w1 w2 => ?_) _ _
  · refine x_126_12 (shw hS) hp ⟨fun _ => ?_, fun q => absurd (nI_lt (b := 6) hi (by decide)) q⟩
    simp (disch := first | decide | omega) only [wI_I, wI_s, wI_P, wI_L, forall_eq, m2, m3, m5, m6, m7, m36, m46, m64, m256, m320, nI_add, k1, k2, k3, k4, k5, k6, k7, k8, k9, k10, k11, k12, k13, k64, nI_clamp, nI_ltI, nI_leI, nI_eq, u2_s, u2_a, u2_i, ixT, bi_z, bi_nz, bi_n1, bi_o1, true_and, and_true, true_implies, not_true, not_false_iff, Bool.not_eq_false, Bool.not_eq_true, forall_const, ne_eq, Classical.not_not, and_self]
    refine k_fill hS (hS.v hp (47 + i) 1 6 (ly_47 i hi)) (hS.l hp (47 + i) 1 6 (ly_47 i hi)) (by decide) ?_
    refine k_fill hS (hS.v hp (54 + i) 1 6 (ly_54 i hi)) (hS.l hp (54 + i) 1 6 (ly_54 i hi)) (by decide) ?_
    have e : c_fill (nd p + (54 + i)) 6 0 (c_fill (nd p + (47 + i)) 6 0 (c_svj p i mem hd g)) = c_svj p (i + 1) mem hd g := by
      funext b j
      simp only [c_fill, c_svj]
      (repeat' split) <;> first | rfl | omega | (congr 1; omega)
    rw [e]
    exact ih _ _
  · refine x_126_12 (shw hS) hp ⟨fun q => absurd q (by decide), fun _ => ?_⟩
    refine k_fill hS (hS.v hp 60 1 96 rfl) (hS.l hp 60 1 96 rfl) (by decide) ?_
    refine k_oclear hS hp ?_
    have e : c_oclear p (c_fill (nd p + 60) 96 0 (c_svj p 6 mem hd g)) = c_sv p mem hd g := by
      funext b j
      simp only [c_oclear, c_fill, c_svj, c_sv, u2_e]
      (repeat' split) <;> first | rfl | omega | (congr 1; omega)
    rw [e]
    exact h
def c_save (p : Nat) (g : hs) : hs := am_u2 (am_u2 (c_cp (nd p + (47 + p)) 0 (nd p + 67) 0 6 g) (nd p + 45) 13 (g (nd p + 64) 0)) (nd p + 45) 14 (g (nd p + 64) 1)
theorem k_save (hS : Sh A) (hp : p < 6) (h : Q (.inl none) (wI A (c_save p g))) : mC (d + 1) 142 [.ref (nd p + 45)] (wI A g) Q := by
  refine x_142_0 (shw hS) hp ?_
  have e1 : ∀ j, c_cp (nd p + (47 + p)) 0 (nd p + 67) 0 6 g (nd p + 64) j = g (nd p + 64) j := fun j => cp_a (by omega)
  simp (disch := first | decide | omega) only [wI_I, wI_s, wI_P, wI_L, forall_eq, m2, m3, m5, m6, m7, m36, m46, m64, m256, m320, nI_add, k1, k2, k3, k4, k5, k6, k7, k8, k9, k10, k11, k12, k13, k64, nI_clamp, nI_ltI, nI_leI, nI_eq, u2_s, u2_a, u2_i, ixT, bi_z, bi_nz, bi_n1, bi_o1, true_and, and_true, true_implies, not_true, not_false_iff, Bool.not_eq_false, Bool.not_eq_true, forall_const, ne_eq, Classical.not_not, and_self, wI_c, z_0, z_6, e1]
  exact ⟨by decide, h⟩
def c_rest (p : Nat) (g : hs) : hs := am_u2 (am_u2 (c_cp (nd p + 67) 0 (nd p + (47 + p)) 0 6 g) (nd p + 64) 0 (g (nd p + 45) 13)) (nd p + 64) 1 (g (nd p + 45) 14)
theorem k_restore (hS : Sh A) (hp : p < 6) (h : Q (.inl none) (wI A (c_rest p g))) : mC (d + 1) 143 [.ref (nd p + 45)] (wI A g) Q := by
  refine x_143_0 (shw hS) hp ?_
  have e1 : ∀ j, c_cp (nd p + 67) 0 (nd p + (47 + p)) 0 6 g (nd p + 45) j = g (nd p + 45) j := fun j => cp_a (by omega)
  simp (disch := first | decide | omega) only [wI_I, wI_s, wI_P, wI_L, forall_eq, m2, m3, m5, m6, m7, m36, m46, m64, m256, m320, nI_add, k1, k2, k3, k4, k5, k6, k7, k8, k9, k10, k11, k12, k13, k64, nI_clamp, nI_ltI, nI_leI, nI_eq, u2_s, u2_a, u2_i, ixT, bi_z, bi_nz, bi_n1, bi_o1, true_and, and_true, true_implies, not_true, not_false_iff, Bool.not_eq_false, Bool.not_eq_true, forall_const, ne_eq, Classical.not_not, and_self, wI_c, z_0, z_6, e1]
  exact ⟨by decide, h⟩
/-- a State: APPLIED and OWNER at a, its cells at a + 1 -/
def c_stc (a : Nat) (g : hs) : hs := c_fill (a + 1) 4 0 (am_u2 (am_u2 g a 0 0) a 1 (-1))
theorem k_stc {a : Nat} (hS : Sh A) (ha : isSt a) (h : Q (.inl none) (wI A (c_stc a g))) : mC (d + 2) 120 [.ref a] (wI A g) Q := by
  refine x_120_0 (shw hS) ha ?_
  exact k_fill hS (ha.v1 hS) (ha.l1 hS) (by decide) h
def c_stcp (a b : Nat) (g : hs) : hs := c_cp (b + 1) 0 (a + 1) 0 4 (am_u2 (am_u2 g a 0 (g b 0)) a 1 (g b 1))
theorem k_stcp {a b : Nat} (hS : Sh A) (ha : isSt a) (hb : isSt b) (hab : b ≠ a) (h : Q (.inl none) (wI A (c_stcp a b g))) : mC (d + 1) 121 [.ref a, .ref b] (wI A g) Q := by
  refine x_121_0 (shw hS) ha hb ?_
  simp (disch := first | decide | omega) only [wI_I, wI_s, wI_P, wI_L, forall_eq, m2, m3, m5, m6, m7, m36, m46, m64, m256, m320, nI_add, k1, k2, k3, k4, k5, k6, k7, k8, k9, k10, k11, k12, k13, k64, nI_clamp, nI_ltI, nI_leI, nI_eq, u2_s, u2_a, u2_i, ixT, bi_z, bi_nz, bi_n1, bi_o1, true_and, and_true, true_implies, not_true, not_false_iff, Bool.not_eq_false, Bool.not_eq_true, forall_const, ne_eq, Classical.not_not, and_self, wI_c, z_0, z_4]
  exact ⟨by decide, h⟩
def c_app (a u : Nat) (w : Int32) (g : hs) : hs :=
  if w &&& 3 = 0 then am_u2 (am_u2 g a 0 (g a 0 + 1)) (a + 1) (Int32.toNatClampNeg (w >>> ((2 : Int32) &&& 31) &&& 3)) (w >>> ((4 : Int32) &&& 31))
  else if w &&& 3 = 1 then am_u2 (am_u2 g a 0 (g a 0 + 1)) (a + 1) (Int32.toNatClampNeg (w >>> ((2 : Int32) &&& 31) &&& 3)) (g (a + 1) (Int32.toNatClampNeg (w >>> ((2 : Int32) &&& 31) &&& 3)) + (w >>> ((4 : Int32) &&& 31)))
  else if w &&& 3 = 2 then (if g a 1 = -1 then am_u2 (am_u2 g a 0 (g a 0 + 1)) a 1 (nI u) else am_u2 g a 0 (g a 0 + 1))
  else (if g a 1 = nI u then am_u2 (am_u2 g a 0 (g a 0 + 1)) a 1 (-1) else am_u2 g a 0 (g a 0 + 1))
theorem k_apply {a : Nat} {w : Int32} (hS : Sh A) (ha : isSt a) (h : Q (.inl none) (wI A (c_app a u w g))) : mC (d + 1) 122 [.ref a, .int (nI u), .int w] (wI A g) Q := by
  obtain ⟨z, hz, ez⟩ : ∃ z, z < 4 ∧ (w >>> ((2 : Int32) &&& 31)) &&& 3 = nI z := by
    rcases and3 (w >>> ((2 : Int32) &&& 31)) with e | e | e | e
    · exact ⟨0, by decide, e⟩
    · exact ⟨1, by decide, e⟩
    · exact ⟨2, by decide, e⟩
    · exact ⟨3, by decide, e⟩
  unfold c_app at h
  rw [ez, nI_clamp (by omega)] at h
  refine x_122_0 (shw hS) ha ?_
  have t0 : (0 : Int32).toInt = 0 := by decide
  have t1 : (1 : Int32).toInt = 1 := by decide
  have t2 : (2 : Int32).toInt = 2 := by decide
  have t3 : (3 : Int32).toInt = 3 := by decide
  simp (disch := first | decide | omega) only [wI_I, wI_s, wI_P, wI_L, forall_eq, m2, m3, m5, m6, m7, m36, m46, m64, m256, m320, nI_add, k1, k2, k3, k4, k5, k6, k7, k8, k9, k10, k11, k12, k13, k64, nI_clamp, nI_ltI, nI_leI, nI_eq, u2_s, u2_a, u2_i, ixT, bi_z, bi_nz, bi_n1, bi_o1, true_and, and_true, true_implies, not_true, not_false_iff, Bool.not_eq_false, Bool.not_eq_true, forall_const, ne_eq, Classical.not_not, and_self, ez]
  rcases and3 w with e | e | e | e
  · rw [if_pos e] at h
    rw [e]
    refine ⟨fun q => absurd q (by rw [t0]; omega), fun _ => h, fun q => absurd q (by decide), fun q => absurd q (by decide)⟩
  · rw [if_neg (by rw [e]; decide), if_pos e] at h
    rw [e]
    refine ⟨fun q => absurd q (by rw [t1]; omega), fun q => absurd q (by decide), fun _ => h, fun q => absurd q (by decide)⟩
  · rw [if_neg (by rw [e]; decide), if_neg (by rw [e]; decide), if_pos e] at h
    rw [e]
    refine ⟨fun q => absurd q (by rw [t2]; omega), fun q => absurd q (by decide), fun q => absurd q (by decide), fun _ => ⟨fun c => ?_, fun c => ?_⟩⟩
    · rw [if_pos c] at h; exact h
    · rw [if_neg c] at h; exact h
  · rw [if_neg (by rw [e]; decide), if_neg (by rw [e]; decide), if_neg (by rw [e]; decide)] at h
    rw [e]
    refine ⟨fun _ => ⟨fun c => ?_, fun c => ?_⟩, fun q => absurd q (by decide), fun q => absurd q (by decide), fun q => absurd q (by decide)⟩
    · rw [if_pos c] at h; exact h
    · rw [if_neg c] at h; exact h
def c_str (a k st : Nat) (g : hs) : hs := c_cp (k + 1) (st + 2) (a + 1) 0 4 (am_u2 (am_u2 g a 0 (g (k + 1) st)) a 1 (g (k + 1) (st + 1)))
theorem k_stread {a k st : Nat} (hS : Sh A) (ha : isSt a) (ha2 : a < 415) (hk : isPk A k) (hk2 : 415 < k) (hst : st + 6 ≤ 37) (h : Q (.inl none) (wI A (c_str a k st g))) : mC (d + 1) 124 [.ref a, .ref k, .int (nI st)] (wI A g) Q := by
  refine x_124_0 (shw hS) ha ⟨pkw hk, ?_⟩
  simp (disch := first | decide | omega) only [wI_I, wI_s, wI_P, wI_L, forall_eq, m2, m3, m5, m6, m7, m36, m46, m64, m256, m320, nI_add, k1, k2, k3, k4, k5, k6, k7, k8, k9, k10, k11, k12, k13, k64, nI_clamp, nI_ltI, nI_leI, nI_eq, u2_s, u2_a, u2_i, ixT, bi_z, bi_nz, bi_n1, bi_o1, true_and, and_true, true_implies, not_true, not_false_iff, Bool.not_eq_false, Bool.not_eq_true, forall_const, ne_eq, Classical.not_not, and_self, wI_c, z_0, z_4]
  exact ⟨⟨⟨nI_pos (by omega), npos0, p_4⟩, by omega, by omega⟩, h⟩
def c_ev (p : Nat) (w a b c e : Int32) (g : hs) : hs := am_u2 (am_u2 (am_u2 (am_u2 (am_u2 (am_u2 g (nd p + 38) (5 * (Int32.toNatClampNeg (g (nd p + 37) 0) % 64)) w) (nd p + 38) (5 * (Int32.toNatClampNeg (g (nd p + 37) 0) % 64) + 1) a) (nd p + 38) (5 * (Int32.toNatClampNeg (g (nd p + 37) 0) % 64) + 2) b) (nd p + 38) (5 * (Int32.toNatClampNeg (g (nd p + 37) 0) % 64) + 3) c) (nd p + 38) (5 * (Int32.toNatClampNeg (g (nd p + 37) 0) % 64) + 4) e) (nd p + 37) 0 (g (nd p + 37) 0 + 1)
theorem k_ev {w a b c e : Int32} (hS : Sh A) (hp : p < 6) (h0 : ¬ g (nd p + 37) 0 < 0) (h : Q (.inl none) (wI A (c_ev p w a b c e g))) : mC (d + 1) 67 [.ref (nd p + 37), .int w, .int a, .int b, .int c, .int e] (wI A g) Q := by
  have hm : Int32.toNatClampNeg (g (nd p + 37) 0) % 64 < 64 := Nat.mod_lt _ (by decide)
  refine x_67_0 (shw hS) hp ?_
  simp (disch := first | decide | omega) only [wI_I, wI_s, wI_P, wI_L, forall_eq, m2, m3, m5, m6, m7, m36, m46, m64, m256, m320, nI_add, k1, k2, k3, k4, k5, k6, k7, k8, k9, k10, k11, k12, k13, k64, nI_clamp, nI_ltI, nI_leI, nI_eq, u2_s, u2_a, u2_i, ixT, bi_z, bi_nz, bi_n1, bi_o1, true_and, and_true, true_implies, not_true, not_false_iff, Bool.not_eq_false, Bool.not_eq_true, forall_const, ne_eq, Classical.not_not, and_self, rem64 h0, t5]
  exact h
end
