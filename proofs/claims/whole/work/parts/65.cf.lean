/-! The class's methods, by what they do to the ints of the memory: cuts, bodies. -/
section
variable {A : am_A} {g : hs} {Q : am_Res → am_A → Prop} {d n p q u t m : Nat}
/-- the goal of stream u, t members looked at -/
def c_gl (p : Nat) (g : hs) (u t : Nat) : Int32 := fo (fun t x => if hasb (g (nd p + 28) 0) t then m_max x (g (nd p + (30 + t)) u) else x) 0 t 0
theorem gl_s : c_gl p g u (t + 1) = if hasb (g (nd p + 28) 0) t then m_max (c_gl p g u t) (g (nd p + (30 + t)) u) else c_gl p g u t := by
  unfold c_gl; rw [fo_last, Nat.zero_add]
def c_aimj (n p t J : Nat) (g : hs) : hs := fun b j => if b = nd p + 36 ∧ j < 6 then (if j < n then (if j < J then c_gl p g j (t + 1) else c_gl p g j t) else 0) else g b j
def c_aim (n p : Nat) (g : hs) : hs := fun b j => if b = nd p + 36 ∧ j < 6 then (if j < n then c_gl p g j n else 0) else g b j
theorem k_aim (hS : Sh A) (hp : p < 6) (hn6 : n ≤ 6) (h : Q (.inl none) (wI A (c_aim n p g))) : mC (d + 2) 63 [.ref (nd p + 28), .int (nI n)] (wI A g) Q := by
  refine x_63_0 (shw hS) hp ?_
  refine k_fill hS (hS.v hp 36 1 6 rfl) (hS.l hp 36 1 6 rfl) (by decide) ?_
  have e0 : c_fill (nd p + 36) 6 0 g = c_aimj n p 0 0 g := by
    funext b j
    simp only [c_fill, c_aimj]
    by_cases e : b = nd p + 36 ∧ j < 6
    · rw [if_pos e, if_pos e]
      split
      · rw [if_neg (by omega)]; rfl
      · rfl
    · rw [if_neg e, if_neg e]
  have e9 : c_aimj n p n 0 g = c_aim n p g := by
    funext b j
    simp only [c_aimj, c_aim]
    by_cases e : b = nd p + 36 ∧ j < 6
    · rw [if_pos e, if_pos e]
      split
      · rw [if_neg (by omega)]
      · rfl
    · rw [if_neg e, if_neg e]
  have en : ∀ t, c_aimj n p t n g = c_aimj n p (t + 1) 0 g := fun t => by
    funext b j
    simp only [c_aimj]
    by_cases e : b = nd p + 36 ∧ j < 6
    · rw [if_pos e, if_pos e]
      split
      · rw [if_neg (by omega)]
      · rfl
    · rw [if_neg e, if_neg e]
  have eno : ∀ t, hasb (g (nd p + 28) 0) t = false → c_aimj n p t 0 g = c_aimj n p (t + 1) 0 g := fun t ht => by
    funext b j
    simp only [c_aimj]
    by_cases e : b = nd p + 36 ∧ j < 6
    · rw [if_pos e, if_pos e]
      split
      · rw [if_neg (by omega), if_neg (by omega), gl_s, ht]; rfl
      · rfl
    · rw [if_neg e, if_neg e]
  have ea : ∀ t J b j, b ≠ nd p + 36 → c_aimj n p t J g b j = g b j := fun t J b j hb => by unfold c_aimj; rw [if_neg (fun q => hb q.1)]
  show mW _ _ _ _ _ _ _
  rw [e0]
  refine l0 (P := fun t => ∀ w3, mW (d + 1 + 1) 63 10 [.ref (nd p + 28), .int (nI n), .int (nI t), w3] [] (wI A (c_aimj n p t 0 g)) Q) n (fun t ht ih w3 => ?_) (fun w3 => ?_) _
  · refine x_63_10 (shw hS) hp ⟨fun _ => ?_, fun c => absurd (nI_lt ht (by omega)) c⟩
    cases hin : hasb (g (nd p + 28) 0) t with
    | false =>
      refine x_63_17 (shw hS) hp ⟨fun _ => k_isIn (shw hS) (by omega) ?_, fun q => ?_⟩
      · rw [wI_I, ea _ _ _ _ (by omega), hin]
        refine ⟨fun _ => ?_, fun q => absurd rfl q⟩
        simp (disch := first | decide | omega) only [wI_I, wI_s, wI_P, wI_L, forall_eq, m2, m3, m5, m6, m7, m36, m46, m64, m256, m320, nI_add, k1, k2, k3, k4, k5, k6, k7, k8, k9, k10, k11, k12, k13, k64, nI_clamp, nI_ltI, nI_leI, nI_eq, u2_s, u2_a, u2_i, ixT, bi_z, bi_nz, bi_n1, bi_o1, true_and, and_true, true_implies, not_true, not_false_iff, Bool.not_eq_false, Bool.not_eq_true, forall_const, ne_eq, Classical.not_not, and_self]
        rw [eno t hin]
        exact ih _
      · simp (disch := first | decide | omega) only [wI_I, wI_s, wI_P, wI_L, forall_eq, m2, m3, m5, m6, m7, m36, m46, m64, m256, m320, nI_add, k1, k2, k3, k4, k5, k6, k7, k8, k9, k10, k11, k12, k13, k64, nI_clamp, nI_ltI, nI_leI, nI_eq, u2_s, u2_a, u2_i, ixT, bi_z, bi_nz, bi_n1, bi_o1, true_and, and_true, true_implies, not_true, not_false_iff, Bool.not_eq_false, Bool.not_eq_true, forall_const, ne_eq, Classical.not_not, and_self]
        rw [eno t hin]
        exact ih _
    | true =>
      refine l0 (P := fun J => mW (d + 1 + 1) 63 17 [.ref (nd p + 28), .int (nI n), .int (nI t), .int (nI J)] [] (wI A (c_aimj n p t J g)) Q) n (fun J hJ ih2 => ?_) ?_
      · refine x_63_17 (shw hS) hp ⟨fun _ => k_isIn (shw hS) (by omega) ?_, fun c => absurd (nI_lt hJ (by omega)) c⟩
        rw [wI_I, ea _ _ _ _ (by omega), hin]
        refine ⟨fun q => absurd q (by decide), fun _ => ?_⟩
        have e1 : c_aimj n p t J g (nd p + 36) J = c_gl p g J t := by unfold c_aimj; rw [if_pos ⟨rfl, by omega⟩, if_pos hJ, if_neg (by omega)]
        have e2 : c_aimj n p t J g (nd p + (30 + t)) J = g (nd p + (30 + t)) J := ea _ _ _ _ (by omega)
        have e3 : am_u2 (c_aimj n p t J g) (nd p + 36) J (m_max (c_gl p g J t) (g (nd p + (30 + t)) J)) = c_aimj n p t (J + 1) g := by
          funext b j
          simp only [u2_e, c_aimj]
          by_cases e : b = nd p + 36 ∧ j = J
          · rw [if_pos e, if_pos ⟨e.1, by omega⟩, if_pos (by omega), if_pos (by omega), e.2, gl_s, hin]; rfl
          · rw [if_neg e]
            by_cases e4 : b = nd p + 36 ∧ j < 6
            · rw [if_pos e4, if_pos e4]
              split
              · by_cases e5 : j < J
                · rw [if_pos e5, if_pos (by omega)]
                · rw [if_neg e5, if_neg (by omega)]
              · rfl
            · rw [if_neg e4, if_neg e4]
        rw [← e3] at ih2
        simp (disch := first | decide | omega) only [wI_I, wI_s, wI_P, wI_L, forall_eq, m2, m3, m5, m6, m7, m36, m46, m64, m256, m320, nI_add, k1, k2, k3, k4, k5, k6, k7, k8, k9, k10, k11, k12, k13, k64, nI_clamp, nI_ltI, nI_leI, nI_eq, u2_s, u2_a, u2_i, ixT, bi_z, bi_nz, bi_n1, bi_o1, true_and, and_true, true_implies, not_true, not_false_iff, Bool.not_eq_false, Bool.not_eq_true, forall_const, ne_eq, Classical.not_not, and_self, e1, e2]
        exact ih2
      · refine x_63_17 (shw hS) hp ⟨fun c => absurd c (by rw [nI_ltI (by omega) (by omega)]; omega), fun _ => ?_⟩
        simp (disch := first | decide | omega) only [wI_I, wI_s, wI_P, wI_L, forall_eq, m2, m3, m5, m6, m7, m36, m46, m64, m256, m320, nI_add, k1, k2, k3, k4, k5, k6, k7, k8, k9, k10, k11, k12, k13, k64, nI_clamp, nI_ltI, nI_leI, nI_eq, u2_s, u2_a, u2_i, ixT, bi_z, bi_nz, bi_n1, bi_o1, true_and, and_true, true_implies, not_true, not_false_iff, Bool.not_eq_false, Bool.not_eq_true, forall_const, ne_eq, Classical.not_not, and_self]
        rw [en t]
        exact ih _
  · rw [e9]
    exact x_63_10 (shw hS) hp ⟨fun c => absurd c (by rw [nI_ltI (by omega) (by omega)]; omega), fun _ => h⟩
def c_rdo (n p J : Nat) (g : hs) : hs := fun b j => if nd p + 30 ≤ b ∧ b < nd p + 30 + J ∧ j < n then g (nd p + (9 + (b - (nd p + 30)))) j else g b j
theorem k_readOwn (hS : Sh A) (hp : p < 6) (hq : q < 6) (hn6 : n ≤ 6) (h : Q (.inl none) (wI A (c_aim n p (c_rdo n p n (am_u2 g (nd p + 28) 0 (c_team p q g)))))) : mC (d + 3) 61 [.ref (nd p + 28), .ref (nd p + 6), .int (nI q), .int (nI n)] (wI A g) Q := by
  refine x_61_0 (shw hS) hp (k_team hS hp hq ?_)
  show mW _ _ _ _ _ _ _
  simp (disch := first | decide | omega) only [wI_I, wI_s, wI_P, wI_L, forall_eq, m2, m3, m5, m6, m7, m36, m46, m64, m256, m320, nI_add, k1, k2, k3, k4, k5, k6, k7, k8, k9, k10, k11, k12, k13, k64, nI_clamp, nI_ltI, nI_leI, nI_eq, u2_s, u2_a, u2_i, ixT, bi_z, bi_nz, bi_n1, bi_o1, true_and, and_true, true_implies, not_true, not_false_iff, Bool.not_eq_false, Bool.not_eq_true, forall_const, ne_eq, Classical.not_not, and_self]
  generalize hG : am_u2 g (nd p + 28) 0 (c_team p q g) = G at h ⊢
  have L : ∀ w2, mW (d + 2 + 1) 61 12 [.ref (nd p + 28), .ref (nd p + 6), w2, .int (nI n), .int (nI 0)] [] (wI A (c_rdo n p 0 G)) Q := by
    refine l0 (P := fun t => ∀ w2, mW (d + 2 + 1) 61 12 [.ref (nd p + 28), .ref (nd p + 6), w2, .int (nI n), .int (nI t)] [] (wI A (c_rdo n p t G)) Q) n (fun t ht ih w2 => ?_) (fun w2 => ?_)
    · refine x_61_12 (shw hS) hp ⟨fun _ => ?_, fun c => absurd (nI_lt ht (by omega)) c⟩
      have e : c_cp (nd p + (9 + t)) 0 (nd p + (30 + t)) 0 n (c_rdo n p t G) = c_rdo n p (t + 1) G := by
        funext b j
        simp only [c_cp, c_rdo, va_cpy]
        by_cases e1 : b = nd p + (30 + t)
        · subst e1
          rw [if_pos rfl]
          by_cases e2 : j < n
          · rw [if_pos ⟨by omega, by omega⟩, if_neg (by omega), if_pos ⟨by omega, by omega, e2⟩, show nd p + (30 + t) - (nd p + 30) = t by omega, show 0 + (j - 0) = j by omega]
          · rw [if_neg (by omega), if_neg (by omega), if_neg (by omega)]
        · rw [if_neg e1]
          by_cases e2 : nd p + 30 ≤ b ∧ b < nd p + 30 + t ∧ j < n
          · rw [if_pos e2, if_pos ⟨e2.1, by omega, e2.2.2⟩]
          · rw [if_neg e2, if_neg (by omega)]
      simp (disch := first | decide | omega) only [wI_I, wI_s, wI_P, wI_L, forall_eq, m2, m3, m5, m6, m7, m36, m46, m64, m256, m320, nI_add, k1, k2, k3, k4, k5, k6, k7, k8, k9, k10, k11, k12, k13, k64, nI_clamp, nI_ltI, nI_leI, nI_eq, u2_s, u2_a, u2_i, ixT, bi_z, bi_nz, bi_n1, bi_o1, true_and, and_true, true_implies, not_true, not_false_iff, Bool.not_eq_false, Bool.not_eq_true, forall_const, ne_eq, Classical.not_not, and_self, wI_c, z_0, e]
      refine ⟨⟨⟨npos0, npos0, nI_pos (by omega)⟩, by omega⟩, ih _⟩
    · refine x_61_12 (shw hS) hp ⟨fun c => absurd c (by rw [nI_ltI (by omega) (by omega)]; omega), fun _ => ?_⟩
      exact k_aim hS hp hn6 h
  have := L (.int (nI q))
  rw [show c_rdo n p 0 G = G by funext b j; unfold c_rdo; rw [if_neg (by omega)]] at this
  exact this
def c_rd (n p a J : Nat) (g : hs) : hs := fun b j => if nd p + 30 ≤ b ∧ b < nd p + 30 + J ∧ j < n then g (a + 1) (1 + (b - (nd p + 30)) * n + j) else g b j
theorem k_read {a : Nat} (hS : Sh A) (hp : p < 6) (hk : isPk A a) (ha : 415 < a) (hn6 : n ≤ 6) (h : Q (.inl none) (wI A (c_aim n p (c_rd n p a n (am_u2 g (nd p + 28) 0 (g (a + 1) 0)))))) : mC (d + 3) 62 [.ref (nd p + 28), .ref a, .int (nI n)] (wI A g) Q := by
  have hnd := nd_b hp
  refine x_62_0 (shw hS) hp ⟨pkw hk, ?_⟩
  simp (disch := first | decide | omega) only [wI_I, wI_s, wI_P, wI_L, forall_eq, m2, m3, m5, m6, m7, m36, m46, m64, m256, m320, nI_add, k1, k2, k3, k4, k5, k6, k7, k8, k9, k10, k11, k12, k13, k64, nI_clamp, nI_ltI, nI_leI, nI_eq, u2_s, u2_a, u2_i, ixT, bi_z, bi_nz, bi_n1, bi_o1, true_and, and_true, true_implies, not_true, not_false_iff, Bool.not_eq_false, Bool.not_eq_true, forall_const, ne_eq, Classical.not_not, and_self, z_0]
  generalize hG : am_u2 g (nd p + 28) 0 (g (a + 1) 0) = G at h ⊢
  have L : mW (d + 2 + 1) 62 12 [.ref (nd p + 28), .ref a, .int (nI n), .int (nI 0)] [] (wI A (c_rd n p a 0 G)) Q := by
    refine l0 (P := fun t => mW (d + 2 + 1) 62 12 [.ref (nd p + 28), .ref a, .int (nI n), .int (nI t)] [] (wI A (c_rd n p a t G)) Q) n (fun t ht ih => ?_) ?_
    · have htn : (t + 1) * n ≤ 36 := Nat.le_trans (Nat.mul_le_mul (show t + 1 ≤ 6 by omega) hn6) (by decide)
      rw [Nat.succ_mul] at htn
      refine x_62_12 (shw hS) hp ⟨fun _ => ⟨pkw hk, ?_⟩, fun c => absurd (nI_lt ht (by omega)) c⟩
      have e : c_cp (a + 1) (1 + t * n) (nd p + (30 + t)) 0 n (c_rd n p a t G) = c_rd n p a (t + 1) G := by
        funext b j
        simp only [c_cp, c_rd, va_cpy]
        by_cases e1 : b = nd p + (30 + t)
        · subst e1
          rw [if_pos rfl]
          by_cases e2 : j < n
          · rw [if_pos ⟨by omega, by omega⟩, if_neg (by omega), if_pos ⟨by omega, by omega, e2⟩, show nd p + (30 + t) - (nd p + 30) = t by omega, show 1 + t * n + (j - 0) = 1 + t * n + j by omega]
          · rw [if_neg (by omega), if_neg (by omega), if_neg (by omega)]
        · rw [if_neg e1]
          by_cases e2 : nd p + 30 ≤ b ∧ b < nd p + 30 + t ∧ j < n
          · rw [if_pos e2, if_pos ⟨e2.1, by omega, e2.2.2⟩]
          · rw [if_neg e2, if_neg (by omega)]
      have e5 : (1 : Int32) + nI t * nI n = nI (1 + t * n) := by rw [nI_mul, show (1 : Int32) = nI 1 from rfl, nI_add]
      rw [e5]
      simp (disch := first | decide | omega) only [wI_I, wI_s, wI_P, wI_L, forall_eq, m2, m3, m5, m6, m7, m36, m46, m64, m256, m320, nI_add, k1, k2, k3, k4, k5, k6, k7, k8, k9, k10, k11, k12, k13, k64, nI_clamp, nI_ltI, nI_leI, nI_eq, u2_s, u2_a, u2_i, ixT, bi_z, bi_nz, bi_n1, bi_o1, true_and, and_true, true_implies, not_true, not_false_iff, Bool.not_eq_false, Bool.not_eq_true, forall_const, ne_eq, Classical.not_not, and_self, wI_c, z_0, e]
      refine ⟨⟨⟨nI_pos (by omega), npos0, nI_pos (by omega)⟩, by omega, by omega⟩, ih⟩
    · refine x_62_12 (shw hS) hp ⟨fun c => absurd c (by rw [nI_ltI (by omega) (by omega)]; omega), fun _ => ?_⟩
      exact k_aim hS hp hn6 h
  rw [show c_rd n p a 0 G = G by funext b j; unfold c_rd; rw [if_neg (by omega)]] at L
  exact L
def c_common (p u : Nat) (g : hs) : Int32 := fo (fun t x => if hasb (g (nd p + 28) 0) t && decide (g (nd p + (30 + t)) u < x) then g (nd p + (30 + t)) u else x) 0 6 (g (nd p + 36) u)
theorem k_common (hS : Sh A) (hp : p < 6) (hu : u < 6) (h : Q (.inl (some (.int (c_common p u g)))) (wI A g)) : mC (d + 2) 64 [.ref (nd p + 28), .int (nI u)] (wI A g) Q := by
  refine x_64_0 (shw hS) hp ?_
  simp (disch := first | decide | omega) only [wI_I, wI_s, wI_P, wI_L, forall_eq, m2, m3, m5, m6, m7, m36, m46, m64, m256, m320, nI_add, k1, k2, k3, k4, k5, k6, k7, k8, k9, k10, k11, k12, k13, k64, nI_clamp, nI_ltI, nI_leI, nI_eq, u2_s, u2_a, u2_i, ixT, bi_z, bi_nz, bi_n1, bi_o1, true_and, and_true, true_implies, not_true, not_false_iff, Bool.not_eq_false, Bool.not_eq_true, forall_const, ne_eq, Classical.not_not, and_self]
  refine lp0 (P := fun t x => mW (d + 1 + 1) 64 9 [.ref (nd p + 28), .int (nI u), .int x, .int (nI t)] [] (wI A g) Q) 6 (fun t x => if hasb (g (nd p + 28) 0) t && decide (g (nd p + (30 + t)) u < x) then g (nd p + (30 + t)) u else x) (fun t x ht ih => ?_) ?_
  · refine x_64_9 (shw hS) hp ⟨fun _ => k_isIn (shw hS) ht ?_, fun c => absurd (nI_lt (b := 6) ht (by decide)) c⟩
    show _ ∧ _
    simp (disch := first | decide | omega) only [wI_I, wI_s, wI_P, wI_L, forall_eq, m2, m3, m5, m6, m7, m36, m46, m64, m256, m320, nI_add, k1, k2, k3, k4, k5, k6, k7, k8, k9, k10, k11, k12, k13, k64, nI_clamp, nI_ltI, nI_leI, nI_eq, u2_s, u2_a, u2_i, ixT, bi_z, bi_nz, bi_n1, bi_o1, true_and, and_true, true_implies, not_true, not_false_iff, Bool.not_eq_false, Bool.not_eq_true, forall_const, ne_eq, Classical.not_not, and_self]
    refine ⟨fun c => by rw [c] at ih; exact ih, fun c => ?_⟩
    rw [c] at ih
    exact ⟨fun c2 => by rw [decide_eq_true c2] at ih; exact ih, fun c2 => by rw [decide_eq_false c2] at ih; exact ih⟩
  · exact x_64_9 (shw hS) hp ⟨fun c => absurd c (by decide), fun _ => h⟩
def c_giver (p u : Nat) (k : Int32) (g : hs) : Option Nat := fi (fun w => hasb (g (nd p + 28) 0) w && decide (k ≤ g (nd p + (30 + w)) u)) 0 6
theorem k_giver {k : Int32} (hS : Sh A) (hp : p < 6) (hu : u < 6) (h : Q (.inl (some (.int (oI (c_giver p u k g))))) (wI A g)) : mC (d + 2) 65 [.ref (nd p + 28), .int (nI u), .int k] (wI A g) Q := by
  unfold c_giver at h
  refine x_65_0 (shw hS) hp ?_
  refine lf0 (P := fun w => mW (d + 1 + 1) 65 2 [.ref (nd p + 28), .int (nI u), .int k, .int (nI w)] [] (wI A g) Q) (X := fun w => Q (.inl (some (.int (nI w)))) (wI A g)) 6 (fun w => hasb (g (nd p + 28) 0) w && decide (k ≤ g (nd p + (30 + w)) u)) (fun w hw i1 i2 => ?_) (fun r hr => by rw [hr] at h; exact h) (fun hr => ?_)
  · refine x_65_2 (shw hS) hp ⟨fun _ => k_isIn (shw hS) hw ?_, fun c => absurd (nI_lt (b := 6) hw (by decide)) c⟩
    show _ ∧ _
    simp (disch := first | decide | omega) only [wI_I, wI_s, wI_P, wI_L, forall_eq, m2, m3, m5, m6, m7, m36, m46, m64, m256, m320, nI_add, k1, k2, k3, k4, k5, k6, k7, k8, k9, k10, k11, k12, k13, k64, nI_clamp, nI_ltI, nI_leI, nI_eq, u2_s, u2_a, u2_i, ixT, bi_z, bi_nz, bi_n1, bi_o1, true_and, and_true, true_implies, not_true, not_false_iff, Bool.not_eq_false, Bool.not_eq_true, forall_const, ne_eq, Classical.not_not, and_self]
    refine ⟨fun c => i2 (by rw [c]; rfl), fun c => ?_⟩
    rw [c, Bool.true_and] at i1 i2
    exact ⟨fun c2 => i2 (decide_eq_false (Int32.not_le.mpr c2)), fun c2 => i1 (decide_eq_true (Int32.not_lt.mp c2))⟩
  · rw [hr] at h
    exact x_65_2 (shw hS) hp ⟨fun c => absurd c (by decide), fun _ => h⟩
/-- a number more in the body of packet a -/
def c_add (a : Nat) (v : Int32) (g : hs) : hs := am_u2 (am_u2 g (a + 1) (Int32.toNatClampNeg (g a 7)) v) a 7 (g a 7 + 1)
/-- so many are in the body -/
def cl (a : Nat) (g : hs) (m : Nat) : Prop := g a 7 = nI m
theorem cl_s {a : Nat} {v : Int32} (h : cl a g m) : cl a (c_add a v g) (m + 1) := by unfold cl c_add; rw [u2_s, h, k1]
theorem c_add_a {a b j : Nat} {v : Int32} (h1 : b ≠ a) (h2 : b ≠ a + 1) : c_add a v g b j = g b j := by unfold c_add; rw [u2_a h1, u2_a h2]
theorem c_add_n {a j : Nat} {v : Int32} (h : j ≠ 7) : c_add a v g a j = g a j := by unfold c_add; rw [u2_i h, u2_a (by omega)]
theorem k_add {a : Nat} {v : Int32} (hS : Sh A) (hk : isPk A a) (hc : cl a g m) (hm : m < 37) (h : Q (.inl none) (wI A (c_add a v g))) : mC (d + 1) 115 [.ref a, .int v] (wI A g) Q := by
  refine x_115_0 (shw hS) ⟨pkw hk, fun _ => ?_, fun q => absurd ?_ q⟩
  · have hc' : g a 7 = nI m := hc
    unfold c_add at h
    rw [hc', nI_clamp (by omega), k1] at h
    simp (disch := first | decide | omega) only [wI_I, wI_s, wI_P, wI_L, forall_eq, m2, m3, m5, m6, m7, m36, m46, m64, m256, m320, nI_add, k1, k2, k3, k4, k5, k6, k7, k8, k9, k10, k11, k12, k13, k64, nI_clamp, nI_ltI, nI_leI, nI_eq, u2_s, u2_a, u2_i, ixT, bi_z, bi_nz, bi_n1, bi_o1, true_and, and_true, true_implies, not_true, not_false_iff, Bool.not_eq_false, Bool.not_eq_true, forall_const, ne_eq, Classical.not_not, and_self, hc']
    exact h
  · rw [wI_I, show g a 7 = nI m from hc]; exact nI_lt (b := 37) hm (by decide)
def c_adds (a b : Nat) (q m : Nat) (g : hs) : hs := fo (fun i g => c_add a (g b i) g) q m g
theorem cl_fo {a : Nat} {F : Nat → hs → Int32} : ∀ m q (g : hs) l, cl a g l → cl a (fo (fun i g => c_add a (F i g) g) q m g) (l + m) := by
  intro m
  induction m with
  | zero => intro q g l h; exact h
  | succ m ih => intro q g l h; have := ih (q + 1) _ _ (cl_s (v := F q g) h); rw [show l + (m + 1) = l + 1 + m by omega]; exact this
theorem k_adds {a b l w : Nat} (hS : Sh A) (hk : isPk A a) (hb : am_V A 1 b) (hl : am_L A b = l) (hnl : n ≤ l) (hl2 : l < 100000) (hc : cl a g w) (hw : w + n ≤ 37) (h : Q (.inl none) (wI A (c_adds a b 0 n g))) : mC (d + 2) 116 [.ref a, .ref b, .int (nI n)] (wI A g) Q := by
  refine x_116_0 (shw hS) ?_
  refine (lp0 (P := fun i g => cl a g (w + i) → mW (d + 1 + 1) 116 2 [.ref a, .ref b, .int (nI n), .int (nI i)] [] (wI A g) Q) n (fun i g => c_add a (g b i) g) (fun i g hi ih hc => ?_) (fun hc => ?_)) hc
  · refine x_116_2 (shw hS) ⟨fun _ => ⟨avw hb, fun _ => ⟨?_, pkw hk, ?_⟩, fun q => absurd ?_ q⟩, fun c => absurd (nI_lt hi (by omega)) c⟩
    · rw [wI_L, hl]; exact ixn (by omega) hl2
    · simp (disch := first | decide | omega) only [wI_I, wI_s, wI_P, wI_L, forall_eq, m2, m3, m5, m6, m7, m36, m46, m64, m256, m320, nI_add, k1, k2, k3, k4, k5, k6, k7, k8, k9, k10, k11, k12, k13, k64, nI_clamp, nI_ltI, nI_leI, nI_eq, u2_s, u2_a, u2_i, ixT, bi_z, bi_nz, bi_n1, bi_o1, true_and, and_true, true_implies, not_true, not_false_iff, Bool.not_eq_false, Bool.not_eq_true, forall_const, ne_eq, Classical.not_not, and_self]
      exact k_add hS hk hc (by omega) (ih (cl_s hc))
    · rw [wI_L, hl]; exact nI_lt (by omega) (by omega)
  · exact x_116_2 (shw hS) ⟨fun c => absurd c (by rw [nI_ltI (by omega) (by omega)]; omega), fun _ => h⟩
/-- a State into a body -/
def c_stw (a k : Nat) (g : hs) : hs := fo (fun i g => c_add k (g (a + 1) i) g) 0 4 (c_add k (g a 1) (c_add k (g a 0) g))
theorem k_stw {a k w : Nat} (hS : Sh A) (ha : isSt a) (ha2 : a < 415) (hk : isPk A k) (hk2 : k = 4 ∨ 415 < k) (ha3 : a ≠ 4 ∧ a ≠ 5) (hc : cl k g w) (hw : w + 6 ≤ 37) (h : Q (.inl none) (wI A (c_stw a k g))) : mC (d + 2) 123 [.ref a, .ref k] (wI A g) Q := by
  refine x_123_0 (shw hS) ha ⟨pkw hk, k_add hS hk hc (by omega) ?_⟩
  refine ⟨pkw hk, ?_⟩
  have e1 : c_add k (g a 0) g a 1 = g a 1 := c_add_a (by omega) (by omega)
  simp (disch := first | decide | omega) only [wI_I, wI_s, wI_P, wI_L, forall_eq, m2, m3, m5, m6, m7, m36, m46, m64, m256, m320, nI_add, k1, k2, k3, k4, k5, k6, k7, k8, k9, k10, k11, k12, k13, k64, nI_clamp, nI_ltI, nI_leI, nI_eq, u2_s, u2_a, u2_i, ixT, bi_z, bi_nz, bi_n1, bi_o1, true_and, and_true, true_implies, not_true, not_false_iff, Bool.not_eq_false, Bool.not_eq_true, forall_const, ne_eq, Classical.not_not, and_self, e1]
  refine k_add hS hk (cl_s hc) (by omega) ?_
  refine (lp0 (P := fun i g => cl k g (w + 1 + 1 + i) → mW (d + 1 + 1) 123 18 [.ref a, .ref k, .int (nI i)] [] (wI A g) Q) 4 (fun i g => c_add k (g (a + 1) i) g) (fun i g hi ih hc => ?_) (fun hc => ?_)) (cl_s (cl_s hc))
  · refine x_123_18 (shw hS) ha ⟨fun _ => ⟨ixn hi (by decide), pkw hk, ?_⟩, fun c => absurd (nI_lt (b := 4) hi (by decide)) c⟩
    simp (disch := first | decide | omega) only [wI_I, wI_s, wI_P, wI_L, forall_eq, m2, m3, m5, m6, m7, m36, m46, m64, m256, m320, nI_add, k1, k2, k3, k4, k5, k6, k7, k8, k9, k10, k11, k12, k13, k64, nI_clamp, nI_ltI, nI_leI, nI_eq, u2_s, u2_a, u2_i, ixT, bi_z, bi_nz, bi_n1, bi_o1, true_and, and_true, true_implies, not_true, not_false_iff, Bool.not_eq_false, Bool.not_eq_true, forall_const, ne_eq, Classical.not_not, and_self]
    exact k_add hS hk hc (by omega) (ih (cl_s hc))
  · exact x_123_18 (shw hS) ha ⟨fun c => absurd c (by decide), fun _ => h⟩
/-- a message into a body -/
def c_mw (n p u a : Nat) (k : Int32) (g : hs) : hs := fo (fun v g => c_add a (g (nd p + 63) (6 * cS u k + v)) g) 0 n (c_add a (g (nd p + 62) (cS u k)) (c_add a (g (nd p + 61) (cS u k)) (c_add a k g)))
theorem k_mw {a w : Nat} {k : Int32} (hS : Sh A) (hp : p < 6) (hu : u < 6) (hn6 : n ≤ 6) (hk0 : ¬ k < 0) (hk : isPk A a) (hk2 : a = 4 ∨ 415 < a) (hc : cl a g w) (hw : w + 3 + n ≤ 37) (h : Q (.inl none) (wI A (c_mw n p u a k g))) : mC (d + 2) 132 [.ref (nd p + 45), .int (nI u), .int k, .ref a, .int (nI n)] (wI A g) Q := by
  have hnd := nd_b hp
  have hx := cS_lt (k := k) hu
  refine x_132_0 (shw hS) hp (k_slot (shw hS) hk0 ?_)
  refine ⟨pkw hk, k_add hS hk hc (by omega) ?_⟩
  have e1 : c_add a k g (nd p + 61) (cS u k) = g (nd p + 61) (cS u k) := c_add_a (by omega) (by omega)
  refine ⟨ixn hx (by decide), pkw hk, ?_⟩
  simp (disch := first | decide | omega) only [wI_I, wI_s, wI_P, wI_L, forall_eq, m2, m3, m5, m6, m7, m36, m46, m64, m256, m320, nI_add, k1, k2, k3, k4, k5, k6, k7, k8, k9, k10, k11, k12, k13, k64, nI_clamp, nI_ltI, nI_leI, nI_eq, u2_s, u2_a, u2_i, ixT, bi_z, bi_nz, bi_n1, bi_o1, true_and, and_true, true_implies, not_true, not_false_iff, Bool.not_eq_false, Bool.not_eq_true, forall_const, ne_eq, Classical.not_not, and_self, e1]
  refine k_add hS hk (cl_s hc) (by omega) ?_
  have e2 : c_add a (g (nd p + 61) (cS u k)) (c_add a k g) (nd p + 62) (cS u k) = g (nd p + 62) (cS u k) := by rw [c_add_a (by omega) (by omega), c_add_a (by omega) (by omega)]
  refine ⟨pkw hk, ?_⟩
  simp (disch := first | decide | omega) only [wI_I, wI_s, wI_P, wI_L, forall_eq, m2, m3, m5, m6, m7, m36, m46, m64, m256, m320, nI_add, k1, k2, k3, k4, k5, k6, k7, k8, k9, k10, k11, k12, k13, k64, nI_clamp, nI_ltI, nI_leI, nI_eq, u2_s, u2_a, u2_i, ixT, bi_z, bi_nz, bi_n1, bi_o1, true_and, and_true, true_implies, not_true, not_false_iff, Bool.not_eq_false, Bool.not_eq_true, forall_const, ne_eq, Classical.not_not, and_self, e2]
  refine k_add hS hk (cl_s (cl_s hc)) (by omega) ?_
  refine (lp0 (P := fun v g => cl a g (w + 1 + 1 + 1 + v) → ∀ w1 w2, mW (d + 1 + 1) 132 37 [.ref (nd p + 45), w1, w2, .ref a, .int (nI n), .int (nI (cS u k)), .int (nI v)] [] (wI A g) Q) n (fun v g => c_add a (g (nd p + 63) (6 * cS u k + v)) g) (fun v g hv ih hc w1 w2 => ?_) (fun hc w1 w2 => ?_)) (cl_s (cl_s (cl_s hc))) _ _
  · refine x_132_37 (shw hS) hp ⟨fun _ => ?_, fun c => absurd (nI_lt hv (by omega)) c⟩
    simp (disch := first | decide | omega) only [wI_I, wI_s, wI_P, wI_L, forall_eq, m2, m3, m5, m6, m7, m36, m46, m64, m256, m320, nI_add, k1, k2, k3, k4, k5, k6, k7, k8, k9, k10, k11, k12, k13, k64, nI_clamp, nI_ltI, nI_leI, nI_eq, u2_s, u2_a, u2_i, ixT, bi_z, bi_nz, bi_n1, bi_o1, true_and, and_true, true_implies, not_true, not_false_iff, Bool.not_eq_false, Bool.not_eq_true, forall_const, ne_eq, Classical.not_not, and_self, t6]
    exact ⟨pkw hk, k_add hS hk hc (by omega) (ih (cl_s hc) _ _)⟩
  · exact x_132_37 (shw hS) hp ⟨fun c => absurd c (by rw [nI_ltI (by omega) (by omega)]; omega), fun _ => h⟩
/-- a cut into a body -/
def c_cw (n p a : Nat) (s : Int32) (g : hs) : hs := fo (fun t g => fo (fun u g => c_add a (if hasb s t then g (nd p + (9 + t)) u else 0) g) 0 n g) 0 n (c_add a s g)
theorem k_cw {a : Nat} (hS : Sh A) (hp : p < 6) (hq : q < 6) (hn6 : n ≤ 6) (hk : isPk A a) (hc : cl a g 0) (h : Q (.inl none) (wI A (c_cw n p a (c_team p q g) g))) : mC (d + 3) 50 [.ref (nd p + 6), .int (nI q), .ref a, .int (nI n)] (wI A g) Q := by
  unfold c_cw at h
  refine x_50_0 (shw hS) hp (k_team hS hp hq ?_)
  generalize c_team p q g = s at h ⊢
  refine ⟨pkw hk, k_add hS hk hc (by decide) ?_⟩
  refine (lp0 (P := fun t g => cl a g (1 + n * t) → ∀ w1 w6, mW (d + 2 + 1) 50 16 [.ref (nd p + 6), w1, .ref a, .int (nI n), .int s, .int (nI t), w6] [] (wI A g) Q) n (fun t g => fo (fun u g => c_add a (if hasb s t then g (nd p + (9 + t)) u else 0) g) 0 n g) (fun t g ht ih hc w1 w6 => ?_) (fun hc w1 w6 => ?_)) (by rw [Nat.mul_zero]; exact cl_s hc) _ _
  · have hnu : n * (t + 1) ≤ 36 := Nat.le_trans (Nat.mul_le_mul (show n ≤ 6 by omega) (show t + 1 ≤ 6 by omega)) (by decide)
    rw [Nat.mul_succ] at hnu
    refine x_50_16 (shw hS) hp ⟨fun _ => ?_, fun c => absurd (nI_lt ht (by omega)) c⟩
    refine (lp0 (P := fun u g => cl a g (1 + n * t + u) → ∀ w1, mW (d + 2 + 1) 50 25 [.ref (nd p + 6), w1, .ref a, .int (nI n), .int s, .int (nI t), .int (nI u)] [] (wI A g) Q) n (fun u g => c_add a (if hasb s t then g (nd p + (9 + t)) u else 0) g) (fun u g hu ih2 hc w1 => ?_) (fun hc w1 => ?_)) hc _
    · refine x_50_25 (shw hS) hp ⟨fun _ => k_isIn (shw hS) (by omega) ?_, fun c => absurd (nI_lt hu (by omega)) c⟩
      show _ ∧ _
      simp (disch := first | decide | omega) only [wI_I, wI_s, wI_P, wI_L, forall_eq, m2, m3, m5, m6, m7, m36, m46, m64, m256, m320, nI_add, k1, k2, k3, k4, k5, k6, k7, k8, k9, k10, k11, k12, k13, k64, nI_clamp, nI_ltI, nI_leI, nI_eq, u2_s, u2_a, u2_i, ixT, bi_z, bi_nz, bi_n1, bi_o1, true_and, and_true, true_implies, not_true, not_false_iff, Bool.not_eq_false, Bool.not_eq_true, forall_const, ne_eq, Classical.not_not, and_self]
      refine ⟨fun c => ⟨pkw hk, ?_⟩, fun c => ⟨pkw hk, ?_⟩⟩
      · rw [c] at ih2; exact k_add hS hk hc (by omega) (ih2 (cl_s hc) _)
      · rw [c] at ih2; exact k_add hS hk hc (by omega) (ih2 (cl_s hc) _)
    · refine x_50_25 (shw hS) hp ⟨fun c => absurd c (by rw [nI_ltI (by omega) (by omega)]; omega), fun _ => ?_⟩
      simp (disch := first | decide | omega) only [wI_I, wI_s, wI_P, wI_L, forall_eq, m2, m3, m5, m6, m7, m36, m46, m64, m256, m320, nI_add, k1, k2, k3, k4, k5, k6, k7, k8, k9, k10, k11, k12, k13, k64, nI_clamp, nI_ltI, nI_leI, nI_eq, u2_s, u2_a, u2_i, ixT, bi_z, bi_nz, bi_n1, bi_o1, true_and, and_true, true_implies, not_true, not_false_iff, Bool.not_eq_false, Bool.not_eq_true, forall_const, ne_eq, Classical.not_not, and_self]
      exact ih (by rw [Nat.mul_succ, show 1 + (n * t + n) = 1 + n * t + n by omega]; exact hc) _ _
  · exact x_50_16 (shw hS) hp ⟨fun c => absurd c (by rw [nI_ltI (by omega) (by omega)]; omega), fun _ => h⟩
end
