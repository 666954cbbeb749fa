/-! The reference's methods do what the model says: a turn, a tick. -/
section
variable {A : am_A} {f : hs} {Q : am_Res → am_A → Prop} {d n p q u t m : Nat}
theorem B0.sRea {b : Nat} (h : B0 n b f) : B0 n b (m_sRea p f) := B0.ship (B0.fo (fun _ _ h => h.say) h.start 6 0)
theorem B0.readyAll {b : Nat} (h : B0 n b f) : B0 n b (m_readyAll m p f) := by
  unfold m_readyAll
  split
  · exact h
  · exact B0.fo (fun _ _ h => B0.ite h.sIns h) ((((h.set (by decide) (by decide)).mrow (by decide) (by decide)).set (by decide) (by decide)).inst.set (by decide) (by decide)) m 0
theorem B0.lookAt {b : Nat} (h : B0 n b f) : B0 n b (m_lookAt m p f) := by
  unfold m_lookAt
  split
  · have ht : B0 n b (m_try m p (am_u2 f 436 p 3)) := (h.set (by decide) (by decide)).tri
    dsimp only
    split
    · exact ht.sRea
    · split
      · exact ((ht.mrow (by decide) (by decide)).set (by decide) (by decide)).readyAll
      · exact ht
  · exact h
theorem B0.take {b : Nat} (h : B0 n b f) : B0 n b (m_take m p f) := ((h.goal.set (by decide) (by decide)).fill).lookAt
theorem B0.cut0 {b : Nat} (h : B0 n b f) : B0 n b (m_cut0 m p f) := ((B0.fo (fun _ _ h => B0.ite h.sCut h) (h.set (by decide) (by decide)) m 0).set (by decide) (by decide)).mat (by decide) (by decide)
theorem B0.cutAll {b : Nat} (h : B0 n b f) : B0 n b (m_cutAll m p f) := h.cut0.take
theorem B0.att0 {b : Nat} {s : Int32} (h : B0 n b f) : B0 n b (m_att0 m p s f) := B0.fo (fun _ _ h => B0.ite h.sPro h) ((((((((h.set (a := 420) (by decide) (by decide)).prom (m := m)).set (by decide) (by decide)).set (by decide) (by decide)).set (by decide) (by decide)).set (by decide) (by decide)).setR).mrow (by decide) (by decide)) m 0
theorem B0.attempt {b : Nat} {s : Int32} (h : B0 n b f) : B0 n b (m_attempt m p s f) := by
  rw [att_eq]
  split
  · exact h.att0.cutAll
  · exact h.att0
theorem B0_again {b : Nat} (h : B0 n b f) : B0 n b (m_again m p f) := by
  unfold m_again
  dsimp only
  have h1 : B0 n b (if 0 < f 453 p then fo (fun q f => m_again1 m p f q) 0 m f else f) := B0.ite (B0.fo (fun _ _ h => h.ag1) h m 0) h
  generalize (if 0 < f 453 p then fo (fun q f => m_again1 m p f q) 0 m f else f) = g at h1 ⊢
  have h2 : B0 n b (if g 436 p = 2 ∨ g 436 p = 3 then m_fill m p g else g) := B0.ite h1.fill h1
  generalize (if g 436 p = 2 ∨ g 436 p = 3 then m_fill m p g else g) = h' at h2 ⊢
  refine B0.ite h2 ?_
  have h3 : B0 n b (fo (fun k f => m_againD m p (nI k) f) (Int32.toNatClampNeg (m_stable m p h') + 1) (Int32.toNatClampNeg (h' 441 (6 * p + p)) - Int32.toNatClampNeg (m_stable m p h')) h') := B0.fo (fun _ _ h => h.agD) h2 _ _
  exact B0.ite h3 (B0.fo (fun _ _ h => B0.ite h.sIns h) h3 m 0)
theorem B0.hello {b : Nat} (h : B0 n b f) : B0 n b (m_hello m p f) := B0.fo (fun _ _ h => B0.ite h.ship h) h.start.row.row m 0
def m_tu1 (n p : Nat) (f : hs) : hs := if f 453 p ≠ 0 ∧ m_givesUp n p (m_reach n p f) f = true then am_u2 f 453 p 0 else f
def m_tu2 (n p : Nat) (f : hs) : hs := if m_wants n p (m_reach n p f) (m_tu1 n p f) then m_attempt n p (m_reach n p f) (m_tu1 n p f) else m_tu1 n p f
def m_tu3 (n p : Nat) (f : hs) : hs := if m_tu2 n p f 415 3 - m_tu2 n p f 415 3 / 4 * 4 = 0 then m_again n p (m_tu2 n p f) else m_tu2 n p f
def m_tu4 (n p : Nat) (f : hs) : hs := if m_tu3 n p f 415 3 - m_tu3 n p f 415 3 / 2 * 2 = 0 then m_hello n p (m_tu3 n p f) else m_tu3 n p f
theorem turn_eq : m_turn n p f = m_work n p (m_tu4 n p f) := rfl
theorem B0.tu1 {b : Nat} (h : B0 n b f) : B0 n b (m_tu1 m p f) := B0.ite (h.set (by decide) (by decide)) h
theorem B0.tu2 {b : Nat} (h : B0 n b f) : B0 n b (m_tu2 m p f) := B0.ite h.tu1.attempt h.tu1
theorem B0.tu3 {b : Nat} (h : B0 n b f) : B0 n b (m_tu3 m p f) := B0.ite (B0_again h.tu2) h.tu2
theorem B0.tu4 {b : Nat} (h : B0 n b f) : B0 n b (m_tu4 m p f) := B0.ite h.tu3.hello h.tu3
/-- what a turn needs -/
def okTu (n b p : Nat) (f : hs) : Prop := B0 n b f ∧ 0 < n ∧
  (m_wants n p (m_reach n p f) (m_tu1 n p f) = true → m_att0 n p (m_reach n p f) (m_tu1 n p f) 455 p = m_reach n p f → okT n b p (m_cut0 n p (m_att0 n p (m_reach n p f) (m_tu1 n p f)))) ∧
  (m_tu2 n p f 415 3 - m_tu2 n p f 415 3 / 4 * 4 = 0 → okAg n p (m_tu2 n p f)) ∧ okWk n b p (m_tu4 n p f)
theorem r_turn {b : Nat} (hS : Sh A) (hp : p < 6) (hT : okTu n b p f) (h : Q (.inl none) (wI A (m_turn n p f))) : mC (d + 12) 216 [.ref 415, .int (nI p)] (wI A f) Q := by
  obtain ⟨hB, hn0, hA, hG, hW⟩ := hT
  have hn6 := hB.2.1
  rw [turn_eq] at h
  refine x_216_0 (shw hS) (r_reach hS hB.1 hn6 hp ?_)
  have W : mC (d + 11) 191 [.ref 415, .int (nI p)] (wI A (m_tu4 n p f)) (am_cv (fun B => Q (.inl none) B)) := r_work hS hp hW h
  have s4 : (m_tu3 n p f 415 3 - m_tu3 n p f 415 3 / 2 * 2 = 0 → mC (d + 11) 215 [.ref 415, .int (nI p)] (wI A (m_tu3 n p f)) (am_cv (fun B_16 => mC (d + 11) 191 [.ref 415, .int (nI p)] B_16 (am_cv (fun B_20 => Q (.inl none) B_20))))) := fun c => by
    unfold m_tu4 at W
    rw [if_pos c] at W
    exact r_hello hS hB.tu3 hp W
  have s5 : ¬ m_tu3 n p f 415 3 - m_tu3 n p f 415 3 / 2 * 2 = 0 → ∀ w2, mW (d + 11 + 1) 216 74 [.ref 415, .int (nI p), w2] [] (wI A (m_tu3 n p f)) Q := fun c w2 => by
    unfold m_tu4 at W
    rw [if_neg c] at W
    exact x_216_74 (shw hS) W
  have s2 : m_tu2 n p f 415 3 - m_tu2 n p f 415 3 / 4 * 4 = 0 → mC (d + 11) 214 [.ref 415, .int (nI p)] (wI A (m_tu2 n p f)) (am_cv (fun B_11 => ((am_I B_11 415 3) - (am_I B_11 415 3) / 2 * 2 = 0 → mC (d + 11) 215 [.ref 415, .int (nI p)] B_11 (am_cv (fun B_16 => mC (d + 11) 191 [.ref 415, .int (nI p)] B_16 (am_cv (fun B_20 => Q (.inl none) B_20))))) ∧ (¬ (am_I B_11 415 3) - (am_I B_11 415 3) / 2 * 2 = 0 → mW (d + 11 + 1) 216 74 [.ref 415, .int (nI p), am_un] [] B_11 Q))) := fun c => by
    refine r_again hS hB.tu2 hn0 hp (hG c) ?_
    have e : m_again n p (m_tu2 n p f) = m_tu3 n p f := (if_pos c).symm
    rw [e]
    exact ⟨s4, fun c2 => s5 c2 _⟩
  have s3 : ¬ m_tu2 n p f 415 3 - m_tu2 n p f 415 3 / 4 * 4 = 0 → ∀ w2, mW (d + 11 + 1) 216 60 [.ref 415, .int (nI p), w2] [] (wI A (m_tu2 n p f)) Q := fun c w2 => by
    have e : m_tu2 n p f = m_tu3 n p f := (if_neg c).symm
    rw [e]
    exact x_216_60 (shw hS) ⟨s4, fun c2 => s5 c2 _⟩
  have s1 : mW (d + 11 + 1) 216 31 [.ref 415, .int (nI p), .int (m_reach n p f)] [] (wI A (m_tu1 n p f)) Q := by
    refine x_216_31 (shw hS) (r_wants hS hB.tu1.1 hn6 hp ?_)
    show _ ∧ _
    simp (disch := first | decide | omega) only [wI_I, wI_s, wI_P, wI_L, forall_eq, m2, m3, m5, m6, m7, m36, m46, m64, m256, m320, nI_add, k1, k2, k3, k4, k5, k6, k7, k8, k9, k10, k11, k12, k13, k64, nI_clamp, nI_ltI, nI_leI, nI_eq, u2_s, u2_a, u2_i, ixT, bi_z, bi_nz, bi_n1, bi_o1, true_and, and_true, true_implies, not_true, not_false_iff, Bool.not_eq_false, Bool.not_eq_true, forall_const, ne_eq, Classical.not_not, and_self]
    refine ⟨fun c => ?_, fun c => ?_⟩
    · have e : m_tu1 n p f = m_tu2 n p f := (if_neg (by rw [c]; decide)).symm
      rw [e]
      exact x_216_46 (shw hS) ⟨s2, fun c2 => s3 c2 _⟩
    · refine r_attempt hS hB.tu1 hn0 hp (hA c) ?_
      have e : m_attempt n p (m_reach n p f) (m_tu1 n p f) = m_tu2 n p f := (if_pos c).symm
      rw [e]
      exact ⟨s2, fun c2 => s3 c2 _⟩
  show _ ∧ _
  simp (disch := first | decide | omega) only [wI_I, wI_s, wI_P, wI_L, forall_eq, m2, m3, m5, m6, m7, m36, m46, m64, m256, m320, nI_add, k1, k2, k3, k4, k5, k6, k7, k8, k9, k10, k11, k12, k13, k64, nI_clamp, nI_ltI, nI_leI, nI_eq, u2_s, u2_a, u2_i, ixT, bi_z, bi_nz, bi_n1, bi_o1, true_and, and_true, true_implies, not_true, not_false_iff, Bool.not_eq_false, Bool.not_eq_true, forall_const, ne_eq, Classical.not_not, and_self]
  refine ⟨fun c => ?_, fun c => r_givesUp hS hB.1 hn6 hp ?_⟩
  · have e : f = m_tu1 n p f := (if_neg (fun q => q.1 c)).symm
    rw [← e] at s1
    exact s1
  · show _ ∧ _
    simp (disch := first | decide | omega) only [wI_I, wI_s, wI_P, wI_L, forall_eq, m2, m3, m5, m6, m7, m36, m46, m64, m256, m320, nI_add, k1, k2, k3, k4, k5, k6, k7, k8, k9, k10, k11, k12, k13, k64, nI_clamp, nI_ltI, nI_leI, nI_eq, u2_s, u2_a, u2_i, ixT, bi_z, bi_nz, bi_n1, bi_o1, true_and, and_true, true_implies, not_true, not_false_iff, Bool.not_eq_false, Bool.not_eq_true, forall_const, ne_eq, Classical.not_not, and_self]
    refine ⟨fun c2 => ?_, fun c2 => ?_⟩
    · have e : f = m_tu1 n p f := (if_neg (fun q => by rw [c2] at q; exact absurd q.2 (by decide))).symm
      rw [← e] at s1
      exact s1
    · have e : am_u2 f 453 p 0 = m_tu1 n p f := (if_pos ⟨c, c2⟩).symm
      rw [e]
      exact s1
/-- the state of a tick when it comes to p -/
def m_tk (n : Nat) (f : hs) (p : Nat) : hs := fo (fun p f => if f 423 p = 0 then f else m_turn n p f) 0 p (am_u2 f 415 3 (f 415 3 + 1))
theorem tick_eq : m_tick n f = m_tk n f n := rfl
theorem tk_s : m_tk n f (p + 1) = if m_tk n f p 423 p = 0 then m_tk n f p else m_turn n p (m_tk n f p) := by
  have := fo_last (fun p f => if f 423 p = 0 then f else m_turn n p f) p 0 (am_u2 f 415 3 (f 415 3 + 1))
  rw [Nat.zero_add] at this
  exact this
/-- what a tick needs -/
def okTk (n b : Nat) (f : hs) : Prop := n ≤ 6 ∧ (∀ p, p ≤ n → m_tk n f p 415 1 = nI n) ∧ ∀ p, p < n → ¬ m_tk n f p 423 p = 0 → okTu n b p (m_tk n f p)
theorem r_tick {b : Nat} (hS : Sh A) (hT : okTk n b f) (h : Q (.inl none) (wI A (m_tick n f))) : mC (d + 13) 217 [.ref 415] (wI A f) Q := by
  obtain ⟨hn6, hn, hT⟩ := hT
  rw [tick_eq] at h
  refine x_217_0 (shw hS) ?_
  have L : mW (d + 12 + 1) 217 12 [.ref 415, .int (nI 0)] [] (wI A (m_tk n f 0)) Q := by
    refine l0 (P := fun p => mW (d + 12 + 1) 217 12 [.ref 415, .int (nI p)] [] (wI A (m_tk n f p)) Q) n (fun p hp ih => ?_) ?_
    · rw [tk_s] at ih
      refine x_217_12 (shw hS) ⟨fun _ => ?_, fun c => absurd ?_ c⟩
      · simp (disch := first | decide | omega) only [wI_I, wI_s, wI_P, wI_L, forall_eq, m2, m3, m5, m6, m7, m36, m46, m64, m256, m320, nI_add, k1, k2, k3, k4, k5, k6, k7, k8, k9, k10, k11, k12, k13, k64, nI_clamp, nI_ltI, nI_leI, nI_eq, u2_s, u2_a, u2_i, ixT, bi_z, bi_nz, bi_n1, bi_o1, true_and, and_true, true_implies, not_true, not_false_iff, Bool.not_eq_false, Bool.not_eq_true, forall_const, ne_eq, Classical.not_not, and_self]
        refine ⟨fun c => by rw [if_pos c] at ih; exact ih, fun c => ?_⟩
        rw [if_neg c] at ih
        exact r_turn hS (by omega) (hT p hp c) ih
      · simp (disch := first | decide | omega) only [wI_I, wI_s, wI_P, wI_L, forall_eq, m2, m3, m5, m6, m7, m36, m46, m64, m256, m320, nI_add, k1, k2, k3, k4, k5, k6, k7, k8, k9, k10, k11, k12, k13, k64, nI_clamp, nI_ltI, nI_leI, nI_eq, u2_s, u2_a, u2_i, ixT, bi_z, bi_nz, bi_n1, bi_o1, true_and, and_true, true_implies, not_true, not_false_iff, Bool.not_eq_false, Bool.not_eq_true, forall_const, ne_eq, Classical.not_not, and_self, hn p (by omega)]; exact hp
    · refine x_217_12 (shw hS) ⟨fun c => absurd c ?_, fun _ => h⟩
      simp (disch := first | decide | omega) only [wI_I, wI_s, wI_P, wI_L, forall_eq, m2, m3, m5, m6, m7, m36, m46, m64, m256, m320, nI_add, k1, k2, k3, k4, k5, k6, k7, k8, k9, k10, k11, k12, k13, k64, nI_clamp, nI_ltI, nI_leI, nI_eq, u2_s, u2_a, u2_i, ixT, bi_z, bi_nz, bi_n1, bi_o1, true_and, and_true, true_implies, not_true, not_false_iff, Bool.not_eq_false, Bool.not_eq_true, forall_const, ne_eq, Classical.not_not, and_self, hn n (by omega)]; omega
  exact L
end
