/-! The reference's methods do what the model says: go. -/
section
variable {A : am_A} {f : hs} {Q : am_Res → am_A → Prop} {d n p q u t m r s w : Nat}
def g_dr (s : Int32) : Int32 := s * (1103515245 : Int32) + (12345 : Int32)
def g_x (s : Int32) : Int32 := (s.toUInt32 >>> ((16 : Int32).toUInt32 &&& Int32.toUInt32 31)).toInt32
/-- one packet of go: the state, the drawn, the place -/
def m_gs (n : Nat) (loss : Int32) (g : hs × Int32 × Nat) : hs × Int32 × Nat :=
  if g_x (g_dr g.2.1) - g_x (g_dr g.2.1) / 16 * 16 < loss then (m_lose g.2.2 g.1, g_dr g.2.1, g.2.2)
  else if g.1 415 3 - g.1 418 (46 * Int32.toNatClampNeg (g.1 416 g.2.2) + 3) < 3 ∧ ¬ (g_x (g_dr g.2.1) / 16) - (g_x (g_dr g.2.1) / 16) / 4 * 4 = 0 then (g.1, g_dr g.2.1, g.2.2 + 1)
  else (m_deliver n g.2.2 g.1, g_dr g.2.1, g.2.2)
def m_gi (n : Nat) (loss : Int32) (m : Nat) (g : hs × Int32 × Nat) : hs × Int32 × Nat := fo (fun _ g => m_gs n loss g) 0 m g
def m_g1 (n : Nat) (loss : Int32) (g : hs × Int32) : hs × Int32 := ((m_gi n loss (Int32.toNatClampNeg (m_tick n g.1 415 5)) (m_tick n g.1, g.2, 0)).1, (m_gi n loss (Int32.toNatClampNeg (m_tick n g.1 415 5)) (m_tick n g.1, g.2, 0)).2.1)
def m_go (n : Nat) (loss : Int32) (m : Nat) (g : hs × Int32) : hs × Int32 := fo (fun _ g => m_g1 n loss g) 0 m g
theorem gi_s {loss : Int32} {g : hs × Int32 × Nat} : m_gi n loss (m + 1) g = m_gs n loss (m_gi n loss m g) := fo_last _ m 0 g
theorem go_s {loss : Int32} {g : hs × Int32} : m_go n loss (m + 1) g = m_g1 n loss (m_go n loss m g) := fo_last _ m 0 g
/-- what a packet of go needs -/
def okGs (n : Nat) (g : hs × Int32 × Nat) : Prop := okDl n g.2.2 g.1 ∧ ∃ fr, g.1 415 7 = nI fr ∧ fr < 601
/-- what a turn of go needs -/
def okG1 (n : Nat) (loss : Int32) (g : hs × Int32) : Prop := okTk n 0 g.1 ∧ ∃ un, m_tick n g.1 415 5 = nI un ∧ un ≤ 600 ∧ ∀ j, j < un → okGs n (m_gi n loss j (m_tick n g.1, g.2, 0))
theorem r_gs {l1 l5 l6 l8 loss : Int32} {g : hs × Int32 × Nat} {w2 w9 w10 : Value} (hS : Sh A) (hO : okGs n g) (h : ∀ w2 w9 w10, mW (d + 14) 235 66 [.ref 415, .int l1, w2, .int loss, .int (m_gs n loss g).2.1, .int l5, .int l6, .int (nI (m_gs n loss g).2.2), .int (l8 + 1), w9, w10] [] (wI A (m_gs n loss g).1) Q) (hl : l8 < l6) : mW (d + 14) 235 66 [.ref 415, .int l1, w2, .int loss, .int g.2.1, .int l5, .int l6, .int (nI g.2.2), .int l8, w9, w10] [] (wI A g.1) Q := by
  obtain ⟨hD, fr, e1, e2⟩ := hO
  obtain ⟨un, at', r, s, d1, d2, d3, d4, d5, d6⟩ := id hD
  refine x_235_66 (shw hS) ⟨fun _ => ?_, fun c => absurd hl c⟩
  unfold m_gs at h
  rw [d4, nI_clamp (by omega)] at h
  have go : ∀ (yg : Bool) w2 w10, decide (g.1 415 3 - g.1 418 (46 * at' + 3) < 3) = yg → mW (d + 13 + 1) 235 123 [.ref 415, .int l1, w2, .int loss, .int (g_dr g.2.1), .int l5, .int l6, .int (nI g.2.2), .int l8, .int (g_x (g_dr g.2.1)), w10] [.int (bi yg)] (wI A g.1) Q := fun yg w2 w10 hyg => by
    refine x_235_123 (shw hS) ⟨fun c => ?_, fun c => ?_⟩
    · simp only [if_pos c] at h
      refine r_takeOut hS d1 d2 d3 ?_
      refine r_giveBack (fr := fr) hS (by rw [out_7, e1]) e2 ?_
      exact x_235_174 (shw hS) (h _ _ _)
    · simp only [if_neg c] at h
      have del : ¬ (g.1 415 3 - g.1 418 (46 * at' + 3) < 3 ∧ ¬ (g_x (g_dr g.2.1) / 16) - (g_x (g_dr g.2.1) / 16) / 4 * 4 = 0) → ∀ w2 w9 w10, mW (d + 13 + 1) 235 168 [.ref 415, .int l1, w2, .int loss, .int (g_dr g.2.1), .int l5, .int l6, .int (nI g.2.2), .int l8, w9, w10] [] (wI A g.1) Q := fun e w2 w9 w10 => by
        simp only [if_neg e] at h
        exact x_235_168 (shw hS) (r_deliver hS hD (h _ _ _))
      rw [bi_z, Bool.not_eq_false]
      refine ⟨fun c2 => del (fun q => by rw [c2] at hyg; exact of_decide_eq_false hyg q.1) _ _ _, fun c2 => ⟨fun c3 => del (fun q => q.2 c3) _ _ _, fun c3 => ?_⟩⟩
      rw [c2] at hyg
      simp only [if_pos (show g.1 415 3 - g.1 418 (46 * at' + 3) < 3 ∧ ¬ (g_x (g_dr g.2.1) / 16) - (g_x (g_dr g.2.1) / 16) / 4 * 4 = 0 from ⟨of_decide_eq_true hyg, c3⟩)] at h
      rw [k1]
      exact x_235_174 (shw hS) (h _ _ _)
  simp (disch := first | decide | omega) only [wI_I, wI_s, wI_P, wI_L, forall_eq, m2, m3, m5, m6, m7, m36, m46, m64, m256, m320, nI_add, k1, k2, k3, k4, k5, k6, k7, k8, k9, k10, k11, k12, k13, k64, nI_clamp, nI_ltI, nI_leI, nI_eq, u2_s, u2_a, u2_i, ixT, bi_z, bi_nz, bi_n1, bi_o1, true_and, and_true, true_implies, not_true, not_false_iff, Bool.not_eq_false, Bool.not_eq_true, forall_const, ne_eq, Classical.not_not, and_self, d4]
  refine ⟨fun c => ?_, fun c => ?_⟩
  · exact go true _ _ (decide_eq_true c)
  · exact go false _ _ (decide_eq_false c)
theorem r_gi {un : Nat} {l1 l5 loss : Int32} {g : hs × Int32 × Nat} (hS : Sh A) (hu : un ≤ 600) (hO : ∀ j, j < un → okGs n (m_gi n loss j g)) (h : ∀ w2 w6 w7 w8 w9 w10, mW (d + 14) 235 44 [.ref 415, .int l1, w2, .int loss, .int (m_gi n loss un g).2.1, .int (l5 + 1), w6, w7, w8, w9, w10] [] (wI A (m_gi n loss un g).1) Q) : ∀ w2 w9 w10, mW (d + 14) 235 66 [.ref 415, .int l1, w2, .int loss, .int g.2.1, .int l5, .int (nI un), .int (nI g.2.2), .int 0, w9, w10] [] (wI A g.1) Q := by
  refine l0 (P := fun j => ∀ w2 w9 w10, mW (d + 14) 235 66 [.ref 415, .int l1, w2, .int loss, .int (m_gi n loss j g).2.1, .int l5, .int (nI un), .int (nI (m_gi n loss j g).2.2), .int (nI j), w9, w10] [] (wI A (m_gi n loss j g).1) Q) un (fun j hj ih w2 w9 w10 => ?_) (fun w2 w9 w10 => ?_)
  · refine r_gs hS (hO j hj) (fun w2 w9 w10 => ?_) (nI_lt hj (by omega))
    rw [← gi_s, k1]
    exact ih _ _ _
  · refine x_235_66 (shw hS) ⟨fun c => absurd c (by rw [nI_ltI (by omega) (by omega)]; omega), fun _ => h _ _ _ _ _ _⟩
theorem r_go {x y z : Int32} (hS : Sh A)
    (h1 : ¬ ((1 ≤ x ∧ x ≤ 60) ∧ 0 ≤ z ∧ z ≤ 16) → Q (.inl (some (.int 0))) (wI A (m_th 1 f)))
    (h2 : (0 ≤ z ∧ z ≤ 16) → ∀ T, 1 ≤ T → T ≤ 60 → x = nI T → (∀ i, i < T → okG1 n z (m_go n z i (m_th 0 f, y))) ∧ Q (.inl (some (.int ((m_go n z T (m_th 0 f, y)).1 415 5)))) (wI A (m_go n z T (m_th 0 f, y)).1)) : mC (d + 14) 235 [.ref 415, .int x, .int y, .int z] (wI A f) Q := by
  have one : ∀ w4 w5 w6 w7 w8 w9 w10, ¬ ((1 ≤ x ∧ x ≤ 60) ∧ 0 ≤ z ∧ z ≤ 16) → mW (d + 13 + 1) 235 21 [.ref 415, .int x, .int y, .int z, w4, w5, w6, w7, w8, w9, w10] [.ref 415] (wI A f) Q := fun w4 w5 w6 w7 w8 w9 w10 e => by
    refine x_235_21 (shw hS) (x_235_26 (shw hS) ⟨fun _ => h1 e, fun c => absurd ?_ c⟩)
    simp (disch := first | decide | omega) only [wI_I, wI_s, wI_P, wI_L, forall_eq, m2, m3, m5, m6, m7, m36, m46, m64, m256, m320, nI_add, k1, k2, k3, k4, k5, k6, k7, k8, k9, k10, k11, k12, k13, k64, nI_clamp, nI_ltI, nI_leI, nI_eq, u2_s, u2_a, u2_i, ixT, bi_z, bi_nz, bi_n1, bi_o1, true_and, and_true, true_implies, not_true, not_false_iff, Bool.not_eq_false, Bool.not_eq_true, forall_const, ne_eq, Classical.not_not, and_self]; exact pos1
  refine x_235_0 (shw hS) (r_within (shw hS) ?_)
  show _ ∧ _
  rw [bi_z, Bool.not_eq_false]
  refine ⟨fun c => one _ _ _ _ _ _ _ (fun q => by rw [decide_eq_true q.1.1, decide_eq_true q.1.2] at c; cases c), fun c => r_within (shw hS) ?_⟩
  show _ ∧ _
  rw [bi_z, Bool.not_eq_false]
  refine ⟨fun c2 => one _ _ _ _ _ _ _ (fun q => by rw [decide_eq_true q.2.1, decide_eq_true q.2.2] at c2; cases c2), fun c2 => ?_⟩
  rw [Bool.and_eq_true, decide_eq_true_eq, decide_eq_true_eq] at c c2
  have hx0 : ¬ x < 0 := fun q => by
    have h1 := Int32.le_iff_toInt_le.mp c.1
    have h2 := Int32.lt_iff_toInt_lt.mp q
    have : ((1 : Int32)).toInt = 1 := by decide
    rw [this] at h1
    rw [Int32.toInt_zero] at h2
    omega
  obtain ⟨T, hT, rfl⟩ := nI_of hx0
  have hT1 : 1 ≤ T := (nI_leI (a := 1) (by decide) hT).mp c.1
  have hT6 : T ≤ 60 := (nI_leI (b := 60) hT (by decide)).mp c.2
  obtain ⟨hO, hq⟩ := h2 c2 T hT1 hT6 rfl
  refine x_235_26 (shw hS) ⟨fun q => absurd q (by simp (disch := first | decide | omega) only [wI_I, wI_s, wI_P, wI_L, forall_eq, m2, m3, m5, m6, m7, m36, m46, m64, m256, m320, nI_add, k1, k2, k3, k4, k5, k6, k7, k8, k9, k10, k11, k12, k13, k64, nI_clamp, nI_ltI, nI_leI, nI_eq, u2_s, u2_a, u2_i, ixT, bi_z, bi_nz, bi_n1, bi_o1, true_and, and_true, true_implies, not_true, not_false_iff, Bool.not_eq_false, Bool.not_eq_true, forall_const, ne_eq, Classical.not_not, and_self]; exact npos0), fun _ => ?_⟩
  refine l0 (P := fun i => ∀ w2 w6 w7 w8 w9 w10, mW (d + 13 + 1) 235 44 [.ref 415, .int (nI T), w2, .int z, .int (m_go n z i (m_th 0 f, y)).2, .int (nI i), w6, w7, w8, w9, w10] [] (wI A (m_go n z i (m_th 0 f, y)).1) Q) T (fun i hi ih w2 w6 w7 w8 w9 w10 => ?_) (fun w2 w6 w7 w8 w9 w10 => ?_) _ _ _ _ _ _
  · obtain ⟨o1, un, o2, o3, o4⟩ := hO i hi
    refine x_235_44 (shw hS) ⟨fun _ => ?_, fun c => absurd (nI_lt hi (by omega)) c⟩
    refine r_tick hS o1 ?_
    rw [go_s] at ih
    unfold m_g1 at ih
    rw [o2, nI_clamp (by omega)] at ih
    show mW _ _ _ _ _ _ _
    rw [wI_I, o2]
    refine r_gi (g := (m_tick n (m_go n z i (m_th 0 f, y)).1, (m_go n z i (m_th 0 f, y)).2, 0)) hS o3 o4 (fun w2 w6 w7 w8 w9 w10 => ?_) _ _ _
    rw [k1]
    exact ih _ _ _ _ _ _
  · exact x_235_44 (shw hS) ⟨fun c => absurd c (by rw [nI_ltI (by omega) (by omega)]; omega), fun _ => hq⟩
end
