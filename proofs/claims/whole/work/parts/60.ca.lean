/-! The class's methods, by what they do to the ints of the memory: sets, orders, streams read. -/
section
variable {A : am_A} {g : hs} {Q : am_Res → am_A → Prop} {d n p q u t m : Nat}
theorem nd_b (hp : p < 6) : 7 ≤ nd p ∧ nd p + 68 ≤ 415 := by unfold nd; omega
theorem k_isIn {s : Int32} (hS : Sh A) (hq : q < 6) (h : Q (.inl (some (.int (bi (hasb s q))))) A) : mC (d + 1) 40 [.int (nI q), .int s] A Q := by
  refine x_40_0 hS ⟨fun c => ?_, fun c => ?_⟩ <;> rw [has_1 hq] at c
  · rw [c] at h; exact h
  · rw [bi_nz] at c; rw [c] at h; exact h
theorem and15 {k : Int32} (h : ¬ k < 0) : k &&& 15 = nI (Int32.toNatClampNeg k % 16) := by
  obtain ⟨j, hj, rfl⟩ := nI_of h
  rw [nI_clamp hj]
  show nI j &&& nI 15 = _
  have : nI j &&& nI 15 = nI (j &&& 15) := by
    apply Int32.toBitVec_inj.mp
    rw [Int32.toBitVec_and]
    show BitVec.ofNat 32 j &&& BitVec.ofNat 32 15 = BitVec.ofNat 32 (j &&& 15)
    apply BitVec.eq_of_toNat_eq
    rw [BitVec.toNat_and, BitVec.toNat_ofNat, BitVec.toNat_ofNat, BitVec.toNat_ofNat, Nat.mod_eq_of_lt (show j < 2 ^ 32 by omega), Nat.mod_eq_of_lt (show (15 : Nat) < 2 ^ 32 by decide)]
    rw [Nat.mod_eq_of_lt]
    exact Nat.lt_of_le_of_lt Nat.and_le_left (by omega)
  rw [this]
  congr 1
  exact Nat.and_two_pow_sub_one_eq_mod j 4
/-- the place of message k of stream u -/
def cS (u : Nat) (k : Int32) : Nat := 16 * u + Int32.toNatClampNeg k % 16
theorem cS_lt {k : Int32} (hu : u < 6) : cS u k < 96 := by
  have : Int32.toNatClampNeg k % 16 < 16 := Nat.mod_lt _ (by decide)
  unfold cS; omega
theorem t16 (a : Nat) : nI a * (16 : Int32) = nI (16 * a) := by rw [show (16 : Int32) = nI 16 from rfl, nI_mul, Nat.mul_comm]
theorem t6 (a : Nat) : nI a * (6 : Int32) = nI (6 * a) := by rw [show (6 : Int32) = nI 6 from rfl, nI_mul, Nat.mul_comm]
theorem t5 (a : Nat) : nI a * (5 : Int32) = nI (5 * a) := by rw [show (5 : Int32) = nI 5 from rfl, nI_mul, Nat.mul_comm]
theorem t8 (a : Nat) : nI a * (8 : Int32) = nI (8 * a) := by rw [show (8 : Int32) = nI 8 from rfl, nI_mul, Nat.mul_comm]
theorem k_slot {k : Int32} (hS : Sh A) (hk : ¬ k < 0) (h : Q (.inl (some (.int (nI (cS u k))))) A) : mC (d + 1) 127 [.int (nI u), .int k] A Q := by
  refine x_127_0 hS ?_
  rw [and15 hk, t16, nI_add]
  exact h
theorem k_idOf {a b : Int32} (hS : Sh A) (h : Q (.inl (some (.int (a * 8 + b)))) A) : mC (d + 1) 37 [.int a, .int b] A Q := x_37_0 hS h
theorem k_numberOf {a : Int32} (hS : Sh A) (h : Q (.inl (some (.int (a >>> ((3 : Int32) &&& 31))))) A) : mC (d + 1) 38 [.int a] A Q := x_38_0 hS h
theorem k_processOf {a : Int32} (hS : Sh A) (h : Q (.inl (some (.int (a &&& 7)))) A) : mC (d + 1) 39 [.int a] A Q := x_39_0 hS h
theorem rem128 {a : Nat} (ha : a < 2 ^ 31) : nI a - nI a / (128 : Int32) * (128 : Int32) = nI (a % 128) := rem_n (b := 128) ha (by decide) (by decide)
def c_oclear (p : Nat) (g : hs) : hs := am_u2 (am_u2 g (nd p + 64) 0 0) (nd p + 64) 1 0
theorem k_oclear (hS : Sh A) (hp : p < 6) (h : Q (.inl none) (wI A (c_oclear p g))) : mC (d + 1) 109 [.ref (nd p + 64)] (wI A g) Q := by
  refine x_109_0 (shw hS) hp ?_
  simp (disch := first | decide | omega) only [wI_I, wI_s, wI_P, wI_L, forall_eq, m2, m3, m5, m6, m7, m36, m46, m64, m256, m320, nI_add, k1, k2, k3, k4, k5, k6, k7, k8, k9, k10, k11, k12, k13, k64, nI_clamp, nI_ltI, nI_leI, nI_eq, u2_s, u2_a, u2_i, ixT, bi_z, bi_nz, bi_n1, bi_o1, true_and, and_true, true_implies, not_true, not_false_iff, Bool.not_eq_false, Bool.not_eq_true, forall_const, ne_eq, Classical.not_not, and_self]
  exact h
/-- the ring of entries stands in its bounds -/
def oOK (p : Nat) (g : hs) (fa c : Nat) : Prop := g (nd p + 64) 0 = nI fa ∧ g (nd p + 64) 1 = nI c ∧ fa < 128 ∧ c ≤ 128
def c_oadd (p : Nat) (v x : Int32) (fa c : Nat) (g : hs) : hs := am_u2 (am_u2 (am_u2 g (nd p + 65) ((fa + c) % 128) v) (nd p + 66) ((fa + c) % 128) x) (nd p + 64) 1 (nI (c + 1))
theorem k_oadd {v x : Int32} {fa c : Nat} (hS : Sh A) (hp : p < 6) (hO : oOK p g fa c) (hc : c < 128) (h : Q (.inl none) (wI A (c_oadd p v x fa c g))) : mC (d + 1) 110 [.ref (nd p + 64), .int v, .int x] (wI A g) Q := by
  obtain ⟨h1, h2, h3, h4⟩ := hO
  refine x_110_0 (shw hS) hp ⟨fun _ => ?_, fun q => absurd ?_ q⟩
  · have hm : (fa + c) % 128 < 128 := Nat.mod_lt _ (by decide)
    simp (disch := first | decide | omega) only [wI_I, wI_s, wI_P, wI_L, forall_eq, m2, m3, m5, m6, m7, m36, m46, m64, m256, m320, nI_add, k1, k2, k3, k4, k5, k6, k7, k8, k9, k10, k11, k12, k13, k64, nI_clamp, nI_ltI, nI_leI, nI_eq, u2_s, u2_a, u2_i, ixT, bi_z, bi_nz, bi_n1, bi_o1, true_and, and_true, true_implies, not_true, not_false_iff, Bool.not_eq_false, Bool.not_eq_true, forall_const, ne_eq, Classical.not_not, and_self, h1, h2, rem128]
    exact h
  · simp (disch := first | decide | omega) only [wI_I, wI_s, wI_P, wI_L, forall_eq, m2, m3, m5, m6, m7, m36, m46, m64, m256, m320, nI_add, k1, k2, k3, k4, k5, k6, k7, k8, k9, k10, k11, k12, k13, k64, nI_clamp, nI_ltI, nI_leI, nI_eq, u2_s, u2_a, u2_i, ixT, bi_z, bi_nz, bi_n1, bi_o1, true_and, and_true, true_implies, not_true, not_false_iff, Bool.not_eq_false, Bool.not_eq_true, forall_const, ne_eq, Classical.not_not, and_self, h2]; exact nI_lt (b := 128) hc (by decide)
def c_odrop (p fa c : Nat) (g : hs) : hs := am_u2 (am_u2 g (nd p + 64) 0 (nI ((fa + 1) % 128))) (nd p + 64) 1 (nI (c - 1))
theorem k_odrop {fa c : Nat} (hS : Sh A) (hp : p < 6) (hO : oOK p g fa c) (h1 : c = 0 → Q (.inl none) (wI A g)) (h2 : 0 < c → Q (.inl none) (wI A (c_odrop p fa c g))) : mC (d + 1) 111 [.ref (nd p + 64)] (wI A g) Q := by
  obtain ⟨e1, e2, e3, e4⟩ := hO
  refine x_111_0 (shw hS) hp ?_
  rcases Nat.eq_zero_or_pos c with hc | hc
  · refine ⟨fun q => absurd q ?_, fun _ => h1 hc⟩
    simp (disch := first | decide | omega) only [wI_I, wI_s, wI_P, wI_L, forall_eq, m2, m3, m5, m6, m7, m36, m46, m64, m256, m320, nI_add, k1, k2, k3, k4, k5, k6, k7, k8, k9, k10, k11, k12, k13, k64, nI_clamp, nI_ltI, nI_leI, nI_eq, u2_s, u2_a, u2_i, ixT, bi_z, bi_nz, bi_n1, bi_o1, true_and, and_true, true_implies, not_true, not_false_iff, Bool.not_eq_false, Bool.not_eq_true, forall_const, ne_eq, Classical.not_not, and_self, e2]; rw [hc]; decide
  · refine ⟨fun _ => ?_, fun q => absurd (by simp (disch := first | decide | omega) only [wI_I, wI_s, wI_P, wI_L, forall_eq, m2, m3, m5, m6, m7, m36, m46, m64, m256, m320, nI_add, k1, k2, k3, k4, k5, k6, k7, k8, k9, k10, k11, k12, k13, k64, nI_clamp, nI_ltI, nI_leI, nI_eq, u2_s, u2_a, u2_i, ixT, bi_z, bi_nz, bi_n1, bi_o1, true_and, and_true, true_implies, not_true, not_false_iff, Bool.not_eq_false, Bool.not_eq_true, forall_const, ne_eq, Classical.not_not, and_self, e2]; exact nI_lt (a := 0) hc (by omega)) q⟩
    have h2 := h2 hc
    simp (disch := first | decide | omega) only [wI_I, wI_s, wI_P, wI_L, forall_eq, m2, m3, m5, m6, m7, m36, m46, m64, m256, m320, nI_add, k1, k2, k3, k4, k5, k6, k7, k8, k9, k10, k11, k12, k13, k64, nI_clamp, nI_ltI, nI_leI, nI_eq, u2_s, u2_a, u2_i, ixT, bi_z, bi_nz, bi_n1, bi_o1, true_and, and_true, true_implies, not_true, not_false_iff, Bool.not_eq_false, Bool.not_eq_true, forall_const, ne_eq, Classical.not_not, and_self, e1, e2, rem128, nI_sub1]
    exact h2
def c_first (v : Int32) (p fa c : Nat) (g : hs) : Bool := decide (0 < c) && decide (g (nd p + 65) fa = v)
theorem k_first {v : Int32} {fa c : Nat} (hS : Sh A) (hp : p < 6) (hO : oOK p g fa c) (h : Q (.inl (some (.int (bi (c_first v p fa c g))))) (wI A g)) : mC (d + 1) 112 [.ref (nd p + 64), .int v] (wI A g) Q := by
  obtain ⟨e1, e2, e3, e4⟩ := hO
  unfold c_first at h
  refine x_112_0 (shw hS) hp ?_
  simp (disch := first | decide | omega) only [wI_I, wI_s, wI_P, wI_L, forall_eq, m2, m3, m5, m6, m7, m36, m46, m64, m256, m320, nI_add, k1, k2, k3, k4, k5, k6, k7, k8, k9, k10, k11, k12, k13, k64, nI_clamp, nI_ltI, nI_leI, nI_eq, u2_s, u2_a, u2_i, ixT, bi_z, bi_nz, bi_n1, bi_o1, true_and, and_true, true_implies, not_true, not_false_iff, Bool.not_eq_false, Bool.not_eq_true, forall_const, ne_eq, Classical.not_not, and_self, e1, e2]
  rw [show ((0 : Int32) < nI c) ↔ 0 < c from nI_ltI (a := 0) (by decide) (by omega)]
  refine ⟨fun q => ⟨fun q2 => ?_, fun q2 => ?_⟩, fun q => ?_⟩
  · rw [decide_eq_true q, decide_eq_true q2] at h; exact h
  · rw [decide_eq_true q, decide_eq_false q2] at h; exact h
  · rw [decide_eq_false q] at h; exact h
def c_ohas (v : Int32) (p fa c : Nat) (g : hs) : Bool := (fi (fun e => decide (g (nd p + 65) ((fa + e) % 128) = v)) 0 c).isSome
theorem k_ohas {v : Int32} {fa c : Nat} (hS : Sh A) (hp : p < 6) (hO : oOK p g fa c) (h : Q (.inl (some (.int (bi (c_ohas v p fa c g))))) (wI A g)) : mC (d + 1) 113 [.ref (nd p + 64), .int v] (wI A g) Q := by
  obtain ⟨e1, e2, e3, e4⟩ := hO
  unfold c_ohas at h
  refine x_113_0 (shw hS) hp ?_
  refine lf0 (P := fun e => mW (d + 1) 113 2 [.ref (nd p + 64), .int v, .int (nI e)] [] (wI A g) Q) (X := fun _ => Q (.inl (some (.int 1))) (wI A g)) c (fun e => decide (g (nd p + 65) ((fa + e) % 128) = v)) (fun e he i1 i2 => ?_) (fun r hr => ?_) (fun hr => ?_)
  · refine x_113_2 (shw hS) hp ⟨fun _ => ?_, fun q => absurd (by simp (disch := first | decide | omega) only [wI_I, wI_s, wI_P, wI_L, forall_eq, m2, m3, m5, m6, m7, m36, m46, m64, m256, m320, nI_add, k1, k2, k3, k4, k5, k6, k7, k8, k9, k10, k11, k12, k13, k64, nI_clamp, nI_ltI, nI_leI, nI_eq, u2_s, u2_a, u2_i, ixT, bi_z, bi_nz, bi_n1, bi_o1, true_and, and_true, true_implies, not_true, not_false_iff, Bool.not_eq_false, Bool.not_eq_true, forall_const, ne_eq, Classical.not_not, and_self, e2]; exact he) q⟩
    have hm : (fa + e) % 128 < 128 := Nat.mod_lt _ (by decide)
    simp (disch := first | decide | omega) only [wI_I, wI_s, wI_P, wI_L, forall_eq, m2, m3, m5, m6, m7, m36, m46, m64, m256, m320, nI_add, k1, k2, k3, k4, k5, k6, k7, k8, k9, k10, k11, k12, k13, k64, nI_clamp, nI_ltI, nI_leI, nI_eq, u2_s, u2_a, u2_i, ixT, bi_z, bi_nz, bi_n1, bi_o1, true_and, and_true, true_implies, not_true, not_false_iff, Bool.not_eq_false, Bool.not_eq_true, forall_const, ne_eq, Classical.not_not, and_self, e1, rem128]
    exact ⟨fun q => i1 (decide_eq_true q), fun q => i2 (decide_eq_false q)⟩
  · rw [hr] at h; exact h
  · rw [hr] at h
    exact x_113_2 (shw hS) hp ⟨fun q => absurd q (by simp (disch := first | decide | omega) only [wI_I, wI_s, wI_P, wI_L, forall_eq, m2, m3, m5, m6, m7, m36, m46, m64, m256, m320, nI_add, k1, k2, k3, k4, k5, k6, k7, k8, k9, k10, k11, k12, k13, k64, nI_clamp, nI_ltI, nI_leI, nI_eq, u2_s, u2_a, u2_i, ixT, bi_z, bi_nz, bi_n1, bi_o1, true_and, and_true, true_implies, not_true, not_false_iff, Bool.not_eq_false, Bool.not_eq_true, forall_const, ne_eq, Classical.not_not, and_self, e2]; omega), fun _ => h⟩
end
