/-! The reference's methods do what the model says: passing fronts. -/
section
variable {A : am_A} {f : hs} {Q : am_Res → am_A → Prop} {d n p q u t m : Nat}
theorem bz_bi (b : Bool) : am_bz (bi b) = true := by cases b <;> rfl
theorem r_hasF (hS : Sh A) (hp : p < 6) (hu : u < 6) (h : Q (.inl (some (.int (bi (m_hasF p u f))))) (wI A f)) : mC (d + 1) 180 [.ref 415, .int (nI p), .int (nI u)] (wI A f) Q := by
  refine x_180_0 (shw hS) ?_
  simp (disch := first | decide | omega) only [wI_I, wI_s, wI_P, wI_L, forall_eq, m2, m3, m5, m6, m7, m36, m46, m64, m256, m320, nI_add, k1, k2, k3, k4, k5, k6, k7, k8, k9, k10, k11, k12, k13, k64, nI_clamp, nI_ltI, nI_leI, nI_eq, u2_s, u2_a, u2_i, ixT, bi_z, bi_nz, bi_n1, bi_o1, true_and, and_true, true_implies, not_true, not_false_iff, Bool.not_eq_false, Bool.not_eq_true, forall_const, ne_eq, Classical.not_not, and_self]
  unfold m_hasF at h
  exact ⟨fun c => by rw [decide_eq_true c] at h; exact h, fun c => by rw [decide_eq_false c] at h; exact h⟩
theorem fr_lt (hp : p < 6) (hu : u < 6) : m_fr p u f < 2304 := mAt_lt hp hu
theorem r_front (hS : Sh A) (hp : p < 6) (hu : u < 6) (hG : okG p f) (h : Q (.inl (some (.int (nI (m_fr p u f))))) (wI A f)) : mC (d + 2) 181 [.ref 415, .int (nI p), .int (nI u)] (wI A f) Q := by
  obtain ⟨g, e, hg, he, heg, hg2⟩ := hG.1 u hu
  refine x_181_0 (shw hS) ?_
  simp (disch := first | decide | omega) only [wI_I, wI_s, wI_P, wI_L, forall_eq, m2, m3, m5, m6, m7, m36, m46, m64, m256, m320, nI_add, k1, k2, k3, k4, k5, k6, k7, k8, k9, k10, k11, k12, k13, k64, nI_clamp, nI_ltI, nI_leI, nI_eq, u2_s, u2_a, u2_i, ixT, bi_z, bi_nz, bi_n1, bi_o1, true_and, and_true, true_implies, not_true, not_false_iff, Bool.not_eq_false, Bool.not_eq_true, forall_const, ne_eq, Classical.not_not, and_self]
  exact r_at (shw hS) hp hu (by rw [he]; exact nn1 (by omega)) h
theorem r_isClear (hS : Sh A) (hn : f 415 1 = nI n) (hn6 : n ≤ 6) (hp : p < 6) (hm : m < 2304) (h : Q (.inl (some (.int (bi (m_isClear n p m f))))) (wI A f)) : mC (d + 1) 182 [.ref 415, .int (nI p), .int (nI m)] (wI A f) Q := by
  refine x_182_0 (shw hS) ?_
  refine lp0 (P := fun v b => mW (d + 1) 182 5 [.ref 415, .int (nI p), .int (nI m), .int (bi b), .int (nI v)] [] (wI A f) Q) (x := true) n (fun v b => b && decide (f 448 (6 * m + v) ≤ f 442 (6 * p + v))) (fun v b hv ih => ?_) ?_
  · refine x_182_5 (shw hS) ⟨fun _ => ?_, fun c => absurd ?_ c⟩
    · simp (disch := first | decide | omega) only [wI_I, wI_s, wI_P, wI_L, forall_eq, m2, m3, m5, m6, m7, m36, m46, m64, m256, m320, nI_add, k1, k2, k3, k4, k5, k6, k7, k8, k9, k10, k11, k12, k13, k64, nI_clamp, nI_ltI, nI_leI, nI_eq, u2_s, u2_a, u2_i, ixT, bi_z, bi_nz, bi_n1, bi_o1, true_and, and_true, true_implies, not_true, not_false_iff, Bool.not_eq_false, Bool.not_eq_true, forall_const, ne_eq, Classical.not_not, and_self]
      refine ⟨fun c => ?_, fun c => ⟨fun c2 => ?_, fun c2 => ?_⟩⟩
      · rw [c] at ih; exact ih
      · rw [c, decide_eq_false (Int32.not_le.mpr c2)] at ih; exact ih
      · rw [c, decide_eq_true (Int32.not_lt.mp c2)] at ih; exact ih
    · simp (disch := first | decide | omega) only [wI_I, wI_s, wI_P, wI_L, forall_eq, m2, m3, m5, m6, m7, m36, m46, m64, m256, m320, nI_add, k1, k2, k3, k4, k5, k6, k7, k8, k9, k10, k11, k12, k13, k64, nI_clamp, nI_ltI, nI_leI, nI_eq, u2_s, u2_a, u2_i, ixT, bi_z, bi_nz, bi_n1, bi_o1, true_and, and_true, true_implies, not_true, not_false_iff, Bool.not_eq_false, Bool.not_eq_true, forall_const, ne_eq, Classical.not_not, and_self, hn]; exact hv
  · refine x_182_5 (shw hS) ⟨fun c => absurd c ?_, fun _ => ⟨bz_bi _, h⟩⟩
    simp (disch := first | decide | omega) only [wI_I, wI_s, wI_P, wI_L, forall_eq, m2, m3, m5, m6, m7, m36, m46, m64, m256, m320, nI_add, k1, k2, k3, k4, k5, k6, k7, k8, k9, k10, k11, k12, k13, k64, nI_clamp, nI_ltI, nI_leI, nI_eq, u2_s, u2_a, u2_i, ixT, bi_z, bi_nz, bi_n1, bi_o1, true_and, and_true, true_implies, not_true, not_false_iff, Bool.not_eq_false, Bool.not_eq_true, forall_const, ne_eq, Classical.not_not, and_self, hn]; omega
theorem r_first {k : Int32} (hS : Sh A) (hp : p < 6) (h : Q (.inl (some (.int (bi (m_first p u k f))))) (wI A f)) : mC (d + 1) 183 [.ref 415, .int (nI p), .int (nI u), .int k] (wI A f) Q := by
  refine x_183_0 (shw hS) ?_
  simp (disch := first | decide | omega) only [wI_I, wI_s, wI_P, wI_L, forall_eq, m2, m3, m5, m6, m7, m36, m46, m64, m256, m320, nI_add, k1, k2, k3, k4, k5, k6, k7, k8, k9, k10, k11, k12, k13, k64, nI_clamp, nI_ltI, nI_leI, nI_eq, u2_s, u2_a, u2_i, ixT, bi_z, bi_nz, bi_n1, bi_o1, true_and, and_true, true_implies, not_true, not_false_iff, Bool.not_eq_false, Bool.not_eq_true, forall_const, ne_eq, Classical.not_not, and_self]
  unfold m_first at h
  refine ⟨fun c => ⟨fun c2 => ⟨fun c3 => ?_, fun c3 => ?_⟩, fun c2 => ?_⟩, fun c => ?_⟩
  · rw [decide_eq_true c, decide_eq_true c2, decide_eq_true c3] at h; exact h
  · rw [decide_eq_true c, decide_eq_true c2, decide_eq_false c3] at h; exact h
  · rw [decide_eq_true c, decide_eq_false c2] at h; exact h
  · rw [decide_eq_false c] at h; exact h
theorem fo_and (b : Nat → Bool) (x : Bool) : ∀ m q, fo (fun v b' => b' && b v) q m x = (x && al b q m) := by
  intro m
  induction m generalizing x with
  | zero => intro q; exact (Bool.and_true x).symm
  | succ m ih =>
    intro q
    show fo _ (q + 1) m (x && b q) = (x && fo _ (q + 1) m (true && b q))
    have h2 := ih (true && b q) (q + 1)
    rw [ih, h2, Bool.true_and, Bool.and_assoc]
theorem r_every {k : Int32} {hd : Nat} (hS : Sh A) (hn : f 415 1 = nI n) (hn6 : n ≤ 6) (hp : p < 6) (hu : u < 6) (hh : f 432 p = nI hd) (hh6 : hd < 6) (h : Q (.inl (some (.int (bi (m_every n p u k f))))) (wI A f)) : mC (d + 2) 184 [.ref 415, .int (nI p), .int (nI u), .int k] (wI A f) Q := by
  refine x_184_0 (shw hS) ?_
  unfold m_every at h
  rw [hh, nI_clamp (by omega)] at h
  refine lp0 (P := fun q b => ∀ w6, mW (d + 1 + 1) 184 6 [.ref 415, .int (nI p), .int (nI u), .int k, .int (bi b), .int (nI q), w6] [] (wI A f) Q) (x := true) n (fun q b => b && (!hasb (f 433 p) q || (decide (k ≤ m_gotOf p q u f) && (decide (f 452 (256 * p) ≤ m_gotOf p q hd f) && al (fun v => decide (f 442 (6 * p + v) ≤ m_gotOf p q v f)) 0 n)))) (fun q b hq ih w6 => ?_) (fun w6 => ?_) _
  · have inner : ∀ b, (∀ w6, mW (d + 1 + 1) 184 6 [.ref 415, .int (nI p), .int (nI u), .int k, .int (bi (b && al (fun v => decide (f 442 (6 * p + v) ≤ m_gotOf p q v f)) 0 n)), .int (nI (q + 1)), w6] [] (wI A f) Q) → mW (d + 1 + 1) 184 85 [.ref 415, .int (nI p), .int (nI u), .int k, .int (bi b), .int (nI q), .int 0] [] (wI A f) Q := fun b hb => by
      rw [← fo_and] at hb
      refine lp0 (P := fun v b => mW (d + 1 + 1) 184 85 [.ref 415, .int (nI p), .int (nI u), .int k, .int (bi b), .int (nI q), .int (nI v)] [] (wI A f) Q) n (fun v b => b && decide (f 442 (6 * p + v) ≤ m_gotOf p q v f)) (fun v b hv ih2 => ?_) ?_
      · refine x_184_85 (shw hS) ⟨fun _ => ?_, fun c => absurd ?_ c⟩
        · simp (disch := first | decide | omega) only [wI_I, wI_s, wI_P, wI_L, forall_eq, m2, m3, m5, m6, m7, m36, m46, m64, m256, m320, nI_add, k1, k2, k3, k4, k5, k6, k7, k8, k9, k10, k11, k12, k13, k64, nI_clamp, nI_ltI, nI_leI, nI_eq, u2_s, u2_a, u2_i, ixT, bi_z, bi_nz, bi_n1, bi_o1, true_and, and_true, true_implies, not_true, not_false_iff, Bool.not_eq_false, Bool.not_eq_true, forall_const, ne_eq, Classical.not_not, and_self]
          refine ⟨fun c => ?_, fun c => r_gotOf hS hp (by omega) (by omega) ?_⟩
          · rw [c] at ih2; exact ih2
          · show _ ∧ _
            simp (disch := first | decide | omega) only [wI_I, wI_s, wI_P, wI_L, forall_eq, m2, m3, m5, m6, m7, m36, m46, m64, m256, m320, nI_add, k1, k2, k3, k4, k5, k6, k7, k8, k9, k10, k11, k12, k13, k64, nI_clamp, nI_ltI, nI_leI, nI_eq, u2_s, u2_a, u2_i, ixT, bi_z, bi_nz, bi_n1, bi_o1, true_and, and_true, true_implies, not_true, not_false_iff, Bool.not_eq_false, Bool.not_eq_true, forall_const, ne_eq, Classical.not_not, and_self]
            refine ⟨fun c2 => ?_, fun c2 => ?_⟩
            · rw [c, decide_eq_false (Int32.not_le.mpr c2)] at ih2; exact ih2
            · rw [c, decide_eq_true (Int32.not_lt.mp c2)] at ih2; exact ih2
        · simp (disch := first | decide | omega) only [wI_I, wI_s, wI_P, wI_L, forall_eq, m2, m3, m5, m6, m7, m36, m46, m64, m256, m320, nI_add, k1, k2, k3, k4, k5, k6, k7, k8, k9, k10, k11, k12, k13, k64, nI_clamp, nI_ltI, nI_leI, nI_eq, u2_s, u2_a, u2_i, ixT, bi_z, bi_nz, bi_n1, bi_o1, true_and, and_true, true_implies, not_true, not_false_iff, Bool.not_eq_false, Bool.not_eq_true, forall_const, ne_eq, Classical.not_not, and_self, hn]; exact hv
      · refine x_184_85 (shw hS) ⟨fun c => absurd c ?_, fun _ => ?_⟩
        · simp (disch := first | decide | omega) only [wI_I, wI_s, wI_P, wI_L, forall_eq, m2, m3, m5, m6, m7, m36, m46, m64, m256, m320, nI_add, k1, k2, k3, k4, k5, k6, k7, k8, k9, k10, k11, k12, k13, k64, nI_clamp, nI_ltI, nI_leI, nI_eq, u2_s, u2_a, u2_i, ixT, bi_z, bi_nz, bi_n1, bi_o1, true_and, and_true, true_implies, not_true, not_false_iff, Bool.not_eq_false, Bool.not_eq_true, forall_const, ne_eq, Classical.not_not, and_self, hn]; omega
        · simp (disch := first | decide | omega) only [wI_I, wI_s, wI_P, wI_L, forall_eq, m2, m3, m5, m6, m7, m36, m46, m64, m256, m320, nI_add, k1, k2, k3, k4, k5, k6, k7, k8, k9, k10, k11, k12, k13, k64, nI_clamp, nI_ltI, nI_leI, nI_eq, u2_s, u2_a, u2_i, ixT, bi_z, bi_nz, bi_n1, bi_o1, true_and, and_true, true_implies, not_true, not_false_iff, Bool.not_eq_false, Bool.not_eq_true, forall_const, ne_eq, Classical.not_not, and_self]; exact hb _
    refine x_184_6 (shw hS) ⟨fun _ => ?_, fun c => absurd ?_ c⟩
    · simp (disch := first | decide | omega) only [wI_I, wI_s, wI_P, wI_L, forall_eq, m2, m3, m5, m6, m7, m36, m46, m64, m256, m320, nI_add, k1, k2, k3, k4, k5, k6, k7, k8, k9, k10, k11, k12, k13, k64, nI_clamp, nI_ltI, nI_leI, nI_eq, u2_s, u2_a, u2_i, ixT, bi_z, bi_nz, bi_n1, bi_o1, true_and, and_true, true_implies, not_true, not_false_iff, Bool.not_eq_false, Bool.not_eq_true, forall_const, ne_eq, Classical.not_not, and_self]
      refine r_has (shw hS) (by omega) ?_
      show _ ∧ _
      simp (disch := first | decide | omega) only [wI_I, wI_s, wI_P, wI_L, forall_eq, m2, m3, m5, m6, m7, m36, m46, m64, m256, m320, nI_add, k1, k2, k3, k4, k5, k6, k7, k8, k9, k10, k11, k12, k13, k64, nI_clamp, nI_ltI, nI_leI, nI_eq, u2_s, u2_a, u2_i, ixT, bi_z, bi_nz, bi_n1, bi_o1, true_and, and_true, true_implies, not_true, not_false_iff, Bool.not_eq_false, Bool.not_eq_true, forall_const, ne_eq, Classical.not_not, and_self]
      refine ⟨fun c => ?_, fun c => ?_⟩
      · rw [c] at ih; simp only [Bool.not_false, Bool.true_or, Bool.and_true] at ih; exact ih _
      · rw [c] at ih; simp only [Bool.not_true, Bool.false_or] at ih
        refine ⟨fun c1 => ?_, fun c1 => r_gotOf hS hp (by omega) (by omega) ?_⟩
        · rw [c1, Bool.false_and] at ih; exact inner false (by rw [Bool.false_and]; exact ih)
        · show _ ∧ _
          simp (disch := first | decide | omega) only [wI_I, wI_s, wI_P, wI_L, forall_eq, m2, m3, m5, m6, m7, m36, m46, m64, m256, m320, nI_add, k1, k2, k3, k4, k5, k6, k7, k8, k9, k10, k11, k12, k13, k64, nI_clamp, nI_ltI, nI_leI, nI_eq, u2_s, u2_a, u2_i, ixT, bi_z, bi_nz, bi_n1, bi_o1, true_and, and_true, true_implies, not_true, not_false_iff, Bool.not_eq_false, Bool.not_eq_true, forall_const, ne_eq, Classical.not_not, and_self, hh]
          refine ⟨fun c2 => ?_, fun c2 => r_gotOf hS hp (by omega) hh6 ?_⟩
          · rw [decide_eq_false (Int32.not_le.mpr c2), Bool.false_and, Bool.and_false] at ih; exact inner false (by rw [Bool.false_and]; exact ih)
          · show _ ∧ _
            simp (disch := first | decide | omega) only [wI_I, wI_s, wI_P, wI_L, forall_eq, m2, m3, m5, m6, m7, m36, m46, m64, m256, m320, nI_add, k1, k2, k3, k4, k5, k6, k7, k8, k9, k10, k11, k12, k13, k64, nI_clamp, nI_ltI, nI_leI, nI_eq, u2_s, u2_a, u2_i, ixT, bi_z, bi_nz, bi_n1, bi_o1, true_and, and_true, true_implies, not_true, not_false_iff, Bool.not_eq_false, Bool.not_eq_true, forall_const, ne_eq, Classical.not_not, and_self]
            rw [c1, decide_eq_true (Int32.not_lt.mp c2), Bool.true_and, Bool.true_and] at ih
            refine ⟨fun c3 => ?_, fun c3 => ?_⟩
            · rw [decide_eq_false (Int32.not_le.mpr c3), Bool.false_and] at ih; exact inner false (by rw [Bool.false_and]; exact ih)
            · rw [decide_eq_true (Int32.not_lt.mp c3), Bool.true_and] at ih; exact inner true (by rw [Bool.true_and]; exact ih)
    · simp (disch := first | decide | omega) only [wI_I, wI_s, wI_P, wI_L, forall_eq, m2, m3, m5, m6, m7, m36, m46, m64, m256, m320, nI_add, k1, k2, k3, k4, k5, k6, k7, k8, k9, k10, k11, k12, k13, k64, nI_clamp, nI_ltI, nI_leI, nI_eq, u2_s, u2_a, u2_i, ixT, bi_z, bi_nz, bi_n1, bi_o1, true_and, and_true, true_implies, not_true, not_false_iff, Bool.not_eq_false, Bool.not_eq_true, forall_const, ne_eq, Classical.not_not, and_self, hn]; exact hq
  · refine x_184_6 (shw hS) ⟨fun c => absurd c ?_, fun _ => ⟨bz_bi _, h⟩⟩
    simp (disch := first | decide | omega) only [wI_I, wI_s, wI_P, wI_L, forall_eq, m2, m3, m5, m6, m7, m36, m46, m64, m256, m320, nI_add, k1, k2, k3, k4, k5, k6, k7, k8, k9, k10, k11, k12, k13, k64, nI_clamp, nI_ltI, nI_leI, nI_eq, u2_s, u2_a, u2_i, ixT, bi_z, bi_nz, bi_n1, bi_o1, true_and, and_true, true_implies, not_true, not_false_iff, Bool.not_eq_false, Bool.not_eq_true, forall_const, ne_eq, Classical.not_not, and_self, hn]; omega
/-- the head of p's view is a process -/
def okH (p : Nat) (f : hs) : Prop := ∃ hd, f 432 p = nI hd ∧ hd < 6
theorem r_can {ends : Bool} (hS : Sh A) (hn : f 415 1 = nI n) (hn6 : n ≤ 6) (hp : p < 6) (hu : u < 6) (hG : okG p f) (hH : okH p f) (h : Q (.inl (some (.int (bi (m_can n p ends f u))))) (wI A f)) : mC (d + 3) 185 [.ref 415, .int (nI p), .int (nI u), .int (bi ends)] (wI A f) Q := by
  unfold m_can at h
  have hx := fr_lt (f := f) hp hu
  refine x_185_0 (shw hS) (r_hasF hS hp hu ?_)
  show _ ∧ _
  simp (disch := first | decide | omega) only [wI_I, wI_s, wI_P, wI_L, forall_eq, m2, m3, m5, m6, m7, m36, m46, m64, m256, m320, nI_add, k1, k2, k3, k4, k5, k6, k7, k8, k9, k10, k11, k12, k13, k64, nI_clamp, nI_ltI, nI_leI, nI_eq, u2_s, u2_a, u2_i, ixT, bi_z, bi_nz, bi_n1, bi_o1, true_and, and_true, true_implies, not_true, not_false_iff, Bool.not_eq_false, Bool.not_eq_true, forall_const, ne_eq, Classical.not_not, and_self]
  refine ⟨fun c => by rw [c] at h; exact h, fun c => r_front hS hp hu hG ?_⟩
  rw [c, Bool.true_and] at h
  show _ ∧ _
  simp (disch := first | decide | omega) only [wI_I, wI_s, wI_P, wI_L, forall_eq, m2, m3, m5, m6, m7, m36, m46, m64, m256, m320, nI_add, k1, k2, k3, k4, k5, k6, k7, k8, k9, k10, k11, k12, k13, k64, nI_clamp, nI_ltI, nI_leI, nI_eq, u2_s, u2_a, u2_i, ixT, bi_z, bi_nz, bi_n1, bi_o1, true_and, and_true, true_implies, not_true, not_false_iff, Bool.not_eq_false, Bool.not_eq_true, forall_const, ne_eq, Classical.not_not, and_self]
  refine ⟨fun c1 => by rw [decide_eq_true c1] at h; exact h, fun c1 => ⟨fun c2 => by rw [decide_eq_true (p := _ = (0 : Int32)) c2, Bool.true_or, Bool.or_true] at h; exact h, fun c2 => r_isClear hS hn hn6 hp hx ?_⟩⟩
  rw [decide_eq_false c1, decide_eq_false c2, Bool.false_or, Bool.false_or] at h
  show _ ∧ _
  simp (disch := first | decide | omega) only [wI_I, wI_s, wI_P, wI_L, forall_eq, m2, m3, m5, m6, m7, m36, m46, m64, m256, m320, nI_add, k1, k2, k3, k4, k5, k6, k7, k8, k9, k10, k11, k12, k13, k64, nI_clamp, nI_ltI, nI_leI, nI_eq, u2_s, u2_a, u2_i, ixT, bi_z, bi_nz, bi_n1, bi_o1, true_and, and_true, true_implies, not_true, not_false_iff, Bool.not_eq_false, Bool.not_eq_true, forall_const, ne_eq, Classical.not_not, and_self]
  refine ⟨fun c3 => by rw [c3] at h; exact h, fun c3 => ⟨fun c4 => by rw [c3, decide_eq_true c4] at h; exact h, fun c4 => r_first hS hp ?_⟩⟩
  rw [c3, decide_eq_false c4, Bool.true_and, Bool.false_or] at h
  show _ ∧ _
  simp (disch := first | decide | omega) only [wI_I, wI_s, wI_P, wI_L, forall_eq, m2, m3, m5, m6, m7, m36, m46, m64, m256, m320, nI_add, k1, k2, k3, k4, k5, k6, k7, k8, k9, k10, k11, k12, k13, k64, nI_clamp, nI_ltI, nI_leI, nI_eq, u2_s, u2_a, u2_i, ixT, bi_z, bi_nz, bi_n1, bi_o1, true_and, and_true, true_implies, not_true, not_false_iff, Bool.not_eq_false, Bool.not_eq_true, forall_const, ne_eq, Classical.not_not, and_self]
  refine ⟨fun c5 => by rw [c5] at h; exact h, fun c5 => ⟨fun c6 => by rw [c5, decide_eq_true c6] at h; exact h, fun c6 => ⟨fun c7 => ?_, fun c7 => by rw [c5, c7, Bool.true_or, Bool.or_true] at h; exact h⟩⟩⟩
  rw [c5, decide_eq_false c6, c7, Bool.true_and, Bool.false_or, Bool.false_or] at h
  obtain ⟨hd, hh, hh6⟩ := hH
  refine r_every hS hn hn6 hp hu hh hh6 ?_
  show _ ∧ _
  simp (disch := first | decide | omega) only [wI_I, wI_s, wI_P, wI_L, forall_eq, m2, m3, m5, m6, m7, m36, m46, m64, m256, m320, nI_add, k1, k2, k3, k4, k5, k6, k7, k8, k9, k10, k11, k12, k13, k64, nI_clamp, nI_ltI, nI_leI, nI_eq, u2_s, u2_a, u2_i, ixT, bi_z, bi_nz, bi_n1, bi_o1, true_and, and_true, true_implies, not_true, not_false_iff, Bool.not_eq_false, Bool.not_eq_true, forall_const, ne_eq, Classical.not_not, and_self]
  exact ⟨fun c8 => by rw [c8] at h; exact h, fun c8 => by rw [c8] at h; exact h⟩
theorem and3 (x : Int32) : x &&& 3 = 0 ∨ x &&& 3 = 1 ∨ x &&& 3 = 2 ∨ x &&& 3 = 3 := by
  have h : ∀ i, i < 32 → 2 ≤ i → bt 3 i = false := by decide +kernel
  have key : ∀ y : Int32, (bt y 0 = bt (x &&& 3) 0) → (bt y 1 = bt (x &&& 3) 1) → (∀ i, i < 32 → 2 ≤ i → bt y i = false) → x &&& 3 = y := fun y h0 h1 h2 => by
    refine b_ext (fun i hi => ?_)
    rcases Nat.lt_or_ge i 2 with hi2 | hi2
    · rcases Nat.lt_or_ge i 1 with hi3 | hi3
      · rw [show i = 0 by omega]; exact h0.symm
      · rw [show i = 1 by omega]; exact h1.symm
    · rw [b_and, h i hi hi2, Bool.and_false, h2 i hi hi2]
  cases e0 : bt (x &&& 3) 0 <;> cases e1 : bt (x &&& 3) 1
  · exact Or.inl (key 0 (by rw [e0]; decide) (by rw [e1]; decide) (by decide +kernel))
  · exact Or.inr (Or.inr (Or.inl (key 2 (by rw [e0]; decide) (by rw [e1]; decide) (by decide +kernel))))
  · exact Or.inr (Or.inl (key 1 (by rw [e0]; decide) (by rw [e1]; decide) (by decide +kernel)))
  · exact Or.inr (Or.inr (Or.inr (key 3 (by rw [e0]; decide) (by rw [e1]; decide) (by decide +kernel))))
theorem r_apply {w : Int32} (hS : Sh A) (hp : p < 6) (h : Q (.inl none) (wI A (m_apply p u w f))) : mC (d + 1) 186 [.ref 415, .int (nI p), .int (nI u), .int w] (wI A f) Q := by
  obtain ⟨z, hz, ez⟩ : ∃ z, z < 4 ∧ (w >>> ((2 : Int32) &&& 31)) &&& 3 = nI z := by
    rcases and3 (w >>> ((2 : Int32) &&& 31)) with e | e | e | e
    · exact ⟨0, by decide, e⟩
    · exact ⟨1, by decide, e⟩
    · exact ⟨2, by decide, e⟩
    · exact ⟨3, by decide, e⟩
  unfold m_apply at h
  rw [ez, nI_clamp (by omega)] at h
  refine x_186_0 (shw hS) ?_
  simp (disch := first | decide | omega) only [wI_I, wI_s, wI_P, wI_L, forall_eq, m2, m3, m5, m6, m7, m36, m46, m64, m256, m320, nI_add, k1, k2, k3, k4, k5, k6, k7, k8, k9, k10, k11, k12, k13, k64, nI_clamp, nI_ltI, nI_leI, nI_eq, u2_s, u2_a, u2_i, ixT, bi_z, bi_nz, bi_n1, bi_o1, true_and, and_true, true_implies, not_true, not_false_iff, Bool.not_eq_false, Bool.not_eq_true, forall_const, ne_eq, Classical.not_not, and_self, ez]
  rcases and3 w with e | e | e | e
  · rw [if_pos e] at h
    refine ⟨fun _ => ?_, fun c => absurd e c⟩
    refine x_186_45 (shw hS) ⟨fun c => absurd (e.symm.trans c) (by decide), fun _ => ?_⟩
    refine x_186_65 (shw hS) ⟨fun c => absurd (e.symm.trans c) (by decide), fun _ => ?_⟩
    refine x_186_97 (shw hS) ⟨fun c => absurd (e.symm.trans c) (by decide), fun _ => ?_⟩
    exact x_186_127 (shw hS) h
  · rw [if_neg (by rw [e]; decide), if_pos e] at h
    refine ⟨fun c => absurd (e.symm.trans c) (by decide), fun _ => ?_⟩
    refine x_186_45 (shw hS) ⟨fun _ => ?_, fun c => absurd e c⟩
    simp (disch := first | decide | omega) only [wI_I, wI_s, wI_P, wI_L, forall_eq, m2, m3, m5, m6, m7, m36, m46, m64, m256, m320, nI_add, k1, k2, k3, k4, k5, k6, k7, k8, k9, k10, k11, k12, k13, k64, nI_clamp, nI_ltI, nI_leI, nI_eq, u2_s, u2_a, u2_i, ixT, bi_z, bi_nz, bi_n1, bi_o1, true_and, and_true, true_implies, not_true, not_false_iff, Bool.not_eq_false, Bool.not_eq_true, forall_const, ne_eq, Classical.not_not, and_self]
    refine x_186_65 (shw hS) ⟨fun c => absurd (e.symm.trans c) (by decide), fun _ => ?_⟩
    refine x_186_97 (shw hS) ⟨fun c => absurd (e.symm.trans c) (by decide), fun _ => ?_⟩
    exact x_186_127 (shw hS) h
  · rw [if_neg (by rw [e]; decide), if_neg (by rw [e]; decide), if_pos e] at h
    refine ⟨fun c => absurd (e.symm.trans c) (by decide), fun _ => ?_⟩
    refine x_186_45 (shw hS) ⟨fun c => absurd (e.symm.trans c) (by decide), fun _ => ?_⟩
    refine x_186_65 (shw hS) ⟨fun _ => ?_, fun c => absurd e c⟩
    simp (disch := first | decide | omega) only [wI_I, wI_s, wI_P, wI_L, forall_eq, m2, m3, m5, m6, m7, m36, m46, m64, m256, m320, nI_add, k1, k2, k3, k4, k5, k6, k7, k8, k9, k10, k11, k12, k13, k64, nI_clamp, nI_ltI, nI_leI, nI_eq, u2_s, u2_a, u2_i, ixT, bi_z, bi_nz, bi_n1, bi_o1, true_and, and_true, true_implies, not_true, not_false_iff, Bool.not_eq_false, Bool.not_eq_true, forall_const, ne_eq, Classical.not_not, and_self]
    refine ⟨fun c => ?_, fun c => ?_⟩
    · rw [if_pos c] at h
      exact x_186_127 (shw hS) h
    · rw [if_neg c] at h
      refine x_186_97 (shw hS) ⟨fun c => absurd (e.symm.trans c) (by decide), fun _ => ?_⟩
      exact x_186_127 (shw hS) h
  · rw [if_neg (by rw [e]; decide), if_neg (by rw [e]; decide), if_neg (by rw [e]; decide)] at h
    refine ⟨fun c => absurd (e.symm.trans c) (by decide), fun _ => ?_⟩
    refine x_186_45 (shw hS) ⟨fun c => absurd (e.symm.trans c) (by decide), fun _ => ?_⟩
    refine x_186_65 (shw hS) ⟨fun c => absurd (e.symm.trans c) (by decide), fun _ => ?_⟩
    refine x_186_97 (shw hS) ⟨fun _ => ?_, fun c => absurd e c⟩
    simp (disch := first | decide | omega) only [wI_I, wI_s, wI_P, wI_L, forall_eq, m2, m3, m5, m6, m7, m36, m46, m64, m256, m320, nI_add, k1, k2, k3, k4, k5, k6, k7, k8, k9, k10, k11, k12, k13, k64, nI_clamp, nI_ltI, nI_leI, nI_eq, u2_s, u2_a, u2_i, ixT, bi_z, bi_nz, bi_n1, bi_o1, true_and, and_true, true_implies, not_true, not_false_iff, Bool.not_eq_false, Bool.not_eq_true, forall_const, ne_eq, Classical.not_not, and_self]
    refine ⟨fun c => ?_, fun c => ?_⟩
    · rw [if_pos c] at h
      exact x_186_127 (shw hS) h
    · rw [if_neg c] at h
      exact x_186_127 (shw hS) h
end
