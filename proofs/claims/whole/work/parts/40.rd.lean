/-! The reference's methods do what the model says: keeping and posting messages. -/
section
variable {A : am_A} {f : hs} {Q : am_Res → am_A → Prop} {d n p q u t m : Nat}
theorem mAt_lt {k : Int32} (hp : p < 6) (hu : u < 6) : mAt p u k < 2304 := by
  have : Int32.toNatClampNeg k % 64 < 64 := Nat.mod_lt _ (by decide)
  unfold mAt; omega
theorem r_at {k : Int32} (hS : Sh A) (hp : p < 6) (hu : u < 6) (hk : ¬ k < 0) (h : Q (.inl (some (.int (nI (mAt p u k))))) A) : mC (d + 1) 173 [.ref 415, .int (nI p), .int (nI u), .int k] A Q := by
  refine x_173_0 hS ?_
  rw [rem64 hk, m6, nI_add, m64, nI_add]
  exact h
theorem nn1 {x : Nat} (h : x < 2000000000) : ¬ nI x + 1 < 0 := by rw [k1]; exact nI_pos (by omega)
def m_msgj (m w : Nat) (k s v : Int32) (c : Nat → Int32) (f : hs) : hs := fun a j => if a = 445 ∧ j = m then k else if a = 446 ∧ j = m then s else if a = 447 ∧ j = m then v else if a = 448 ∧ 6 * m ≤ j ∧ j < 6 * m + w then c (j - 6 * m) else f a j
theorem m_msgj_s {w : Nat} {k s v : Int32} {c : Nat → Int32} : am_u2 (m_msgj m w k s v c f) 448 (6 * m + w) (c w) = m_msgj m (w + 1) k s v c f := by
  funext a i
  simp only [u2_e, m_msgj]
  (repeat' split) <;> first | rfl | omega | (congr 1; omega)
/-- what a message is read from: a row that the writing of it leaves alone -/
def srcOK (A : am_A) (a : Nat) : Prop := am_V A 1 a ∧ a ≠ 445 ∧ a ≠ 446 ∧ a ≠ 447 ∧ a ≠ 448
theorem acc_n {k : Nat} (h : k ≠ 449 ∧ k ≠ 441 ∧ k ≠ 450 ∧ k ≠ 451 ∧ k ≠ 452) (j : Nat) : m_acc p u f k j = f k j := by
  unfold m_acc
  split <;> simp (disch := first | decide | omega) only [u2_a]
theorem acc_g {g : Nat} (hg : f 441 (6 * p + u) = nI g) : m_acc p u f 441 (6 * p + u) = nI (g + 1) := by
  unfold m_acc
  split <;> simp (disch := first | decide | omega) only [u2_a, u2_s, hg, k1]
theorem acc_o {c : Nat} (hc : f 449 p = nI c) : ∃ c', m_acc p u f 449 p = nI c' ∧ c' ≤ c + 1 := by
  unfold m_acc
  split
  · exact ⟨c + 1, by simp (disch := first | decide | omega) only [u2_a, u2_s, hc, k1], by omega⟩
  · exact ⟨c, by simp (disch := first | decide | omega) only [u2_a, u2_s, hc], by omega⟩
theorem r_close : ∀ b (f : hs) g c w3 w4 w5 w6 w7 w8 w9 w10, Sh A → p < 6 → u < 6 → f 441 (6 * p + u) = nI g → g + b < 2000000 → f 449 p = nI c → c + b ≤ 256 → m_more p u (m_close p u b f) = false → Q (.inl none) (wI A (m_close p u b f)) → mW (d + 1 + 1) 174 101 [.ref 415, .int (nI p), .int (nI u), w3, w4, w5, w6, w7, w8, w9, w10] [] (wI A f) Q := by
  intro b
  induction b with
  | zero =>
    intro f g c w3 w4 w5 w6 w7 w8 w9 w10 hS hp hu hg hg2 hc hc2 hm h
    have hm2 : m_more p u f = false := hm
    unfold m_more at hm2
    refine x_174_101 (shw hS) ⟨by rw [m6, nI_add]; exact ixn (by omega) (by decide), ?_⟩
    simp (disch := first | decide | omega) only [wI_I, wI_s, wI_P, wI_L, forall_eq, m2, m3, m5, m6, m7, m36, m46, m64, m256, m320, nI_add, k1, k2, k3, k4, k5, k6, k7, k8, k9, k10, k11, k12, k13, k64, nI_clamp, nI_ltI, nI_leI, nI_eq, u2_s, u2_a, u2_i, ixT, bi_z, bi_nz, bi_n1, bi_o1, true_and, and_true, true_implies, not_true, not_false_iff, Bool.not_eq_false, Bool.not_eq_true, forall_const, ne_eq, Classical.not_not, and_self, hg]
    refine r_at (shw hS) hp hu (nI_pos (by omega)) ?_
    have hx := mAt_lt (k := nI (g + 1)) hp hu
    have := of_decide_eq_false hm2
    rw [hg, k1] at this
    show _ ∧ _
    simp (disch := first | decide | omega) only [wI_I, wI_s, wI_P, wI_L, forall_eq, m2, m3, m5, m6, m7, m36, m46, m64, m256, m320, nI_add, k1, k2, k3, k4, k5, k6, k7, k8, k9, k10, k11, k12, k13, k64, nI_clamp, nI_ltI, nI_leI, nI_eq, u2_s, u2_a, u2_i, ixT, bi_z, bi_nz, bi_n1, bi_o1, true_and, and_true, true_implies, not_true, not_false_iff, Bool.not_eq_false, Bool.not_eq_true, forall_const, ne_eq, Classical.not_not, and_self, hg]
    exact ⟨fun c => absurd c this, fun _ => h⟩
  | succ b ihb =>
    intro f g c w3 w4 w5 w6 w7 w8 w9 w10 hS hp hu hg hg2 hc hc2 hm h
    refine x_174_101 (shw hS) ⟨by rw [m6, nI_add]; exact ixn (by omega) (by decide), ?_⟩
    simp (disch := first | decide | omega) only [wI_I, wI_s, wI_P, wI_L, forall_eq, m2, m3, m5, m6, m7, m36, m46, m64, m256, m320, nI_add, k1, k2, k3, k4, k5, k6, k7, k8, k9, k10, k11, k12, k13, k64, nI_clamp, nI_ltI, nI_leI, nI_eq, u2_s, u2_a, u2_i, ixT, bi_z, bi_nz, bi_n1, bi_o1, true_and, and_true, true_implies, not_true, not_false_iff, Bool.not_eq_false, Bool.not_eq_true, forall_const, ne_eq, Classical.not_not, and_self, hg]
    refine r_at (shw hS) hp hu (nI_pos (by omega)) ?_
    have hx := mAt_lt (k := nI (g + 1)) hp hu
    show _ ∧ _
    simp (disch := first | decide | omega) only [wI_I, wI_s, wI_P, wI_L, forall_eq, m2, m3, m5, m6, m7, m36, m46, m64, m256, m320, nI_add, k1, k2, k3, k4, k5, k6, k7, k8, k9, k10, k11, k12, k13, k64, nI_clamp, nI_ltI, nI_leI, nI_eq, u2_s, u2_a, u2_i, ixT, bi_z, bi_nz, bi_n1, bi_o1, true_and, and_true, true_implies, not_true, not_false_iff, Bool.not_eq_false, Bool.not_eq_true, forall_const, ne_eq, Classical.not_not, and_self, hg]
    refine ⟨fun e => ?_, fun e => ?_⟩
    · have hmo : m_more p u f = true := by unfold m_more; rw [hg, k1]; exact decide_eq_true e
      unfold m_close at hm h
      rw [if_pos hmo] at hm h
      refine r_at (shw hS) hp hu (nI_pos (by omega)) ?_
      show _ ∧ _
      simp (disch := first | decide | omega) only [wI_I, wI_s, wI_P, wI_L, forall_eq, m2, m3, m5, m6, m7, m36, m46, m64, m256, m320, nI_add, k1, k2, k3, k4, k5, k6, k7, k8, k9, k10, k11, k12, k13, k64, nI_clamp, nI_ltI, nI_leI, nI_eq, u2_s, u2_a, u2_i, ixT, bi_z, bi_nz, bi_n1, bi_o1, true_and, and_true, true_implies, not_true, not_false_iff, Bool.not_eq_false, Bool.not_eq_true, forall_const, ne_eq, Classical.not_not, and_self, hg, hc]
      obtain ⟨c', hc', hcc⟩ := acc_o (u := u) hc
      refine ⟨fun e2 => ?_, fun e2 => ?_⟩
      · refine x_174_261 (shw hS) ?_
        have hh := ihb (m_acc p u f) (g + 1) c' am_un am_un am_un am_un am_un am_un am_un am_un hS hp hu (acc_g hg) (by omega) hc' (by omega) hm h
        have he : m_acc p u f = am_u2 (am_u2 (am_u2 (am_u2 (am_u2 f 441 (6 * p + u) (nI (g + 1))) 450 (256 * p + c) (f 447 (mAt p u (nI (g + 1))) &&& 7)) 451 (256 * p + c) (f 447 (mAt p u (nI (g + 1))) >>> ((3 : Int32) &&& 31))) 452 (256 * p + c) (nI (g + 1))) 449 p (nI (c + 1)) := by
          unfold m_acc
          rw [hg, k1, if_pos e2, hc, nI_clamp (by omega), k1]
        rw [he] at hh
        exact hh
      · refine x_174_261 (shw hS) ?_
        have hh := ihb (m_acc p u f) (g + 1) c' am_un am_un am_un am_un am_un am_un am_un am_un hS hp hu (acc_g hg) (by omega) hc' (by omega) hm h
        have he : m_acc p u f = am_u2 f 441 (6 * p + u) (nI (g + 1)) := by
          unfold m_acc
          rw [hg, k1, if_neg e2]
        rw [he] at hh
        exact hh
    · have hmo : ¬ m_more p u f = true := by unfold m_more; rw [hg, k1]; exact fun q => e (of_decide_eq_true q)
      unfold m_close at h
      rw [if_neg hmo] at h
      exact h
/-- sixty-four turns close any gap -/
theorem close_end : ∀ b (f : hs) g, f 441 (6 * p + u) = nI g → g + b < 2000000 → m_more p u (m_close p u b f) = true → ∀ i, i ≤ b → f 445 (mAt p u (nI (g + 1 + i))) = nI (g + 1 + i) := by
  intro b
  induction b with
  | zero =>
    intro f g hg hb hm i hi
    have := of_decide_eq_true (show decide (f 445 (mAt p u (f 441 (6 * p + u) + 1)) = f 441 (6 * p + u) + 1) = true from hm)
    rw [hg, k1] at this
    rw [show i = 0 by omega]
    exact this
  | succ b ih =>
    intro f g hg hb hm i hi
    unfold m_close at hm
    by_cases hmo : m_more p u f = true
    · rw [if_pos hmo] at hm
      rcases Nat.eq_zero_or_pos i with h0 | h0
      · have := of_decide_eq_true (show decide (f 445 (mAt p u (f 441 (6 * p + u) + 1)) = f 441 (6 * p + u) + 1) = true from hmo)
        rw [hg, k1] at this
        rw [h0]; exact this
      · have := ih (m_acc p u f) (g + 1) (acc_g hg) (by omega) hm (i - 1) (by omega)
        rw [acc_n (by decide), show g + 1 + 1 + (i - 1) = g + 1 + i by omega] at this
        exact this
    · rw [if_neg hmo] at hm; exact absurd hm hmo
theorem close_no {g : Nat} (hg : f 441 (6 * p + u) = nI g) (hb : g < 1500000) : m_more p u (m_close p u 65 f) = false := by
  cases hm : m_more p u (m_close p u 65 f) with
  | false => rfl
  | true =>
    have h1 := close_end 65 f g hg (by omega) hm 0 (by omega)
    have h2 := close_end 65 f g hg (by omega) hm 64 (by omega)
    have e : mAt p u (nI (g + 1 + 64)) = mAt p u (nI (g + 1 + 0)) := by
      unfold mAt; rw [nI_clamp (by omega), nI_clamp (by omega)]; omega
    rw [e, h1] at h2
    have := (nI_eq (by omega) (by omega)).mp h2
    omega
theorem r_keep {k s v : Int32} {a b g c : Nat} (hS : Sh A) (hn : f 415 1 = nI n) (hn6 : n ≤ 6) (hp : p < 6) (hu : u < 6) (hk : ¬ k < 0) (ha : srcOK A a) (hb : b + n ≤ am_L A a) (hl : am_L A a < 100000) (hg : f 441 (6 * p + u) = nI g) (hg2 : g < 1000001) (hc : f 449 p = nI c) (hc2 : c ≤ 190)
    (h : Q (.inl none) (wI A (m_keep n p u k s v (fun w => f a (b + w)) f))) : mC (d + 2) 174 [.ref 415, .int (nI p), .int (nI u), .int k, .int s, .int v, .ref a, .int (nI b)] (wI A f) Q := by
  refine x_174_0 (shw hS) (r_at (shw hS) hp hu hk ?_)
  have hx := mAt_lt (k := k) hp hu
  unfold m_keep at h
  show _ ∧ _
  simp (disch := first | decide | omega) only [wI_I, wI_s, wI_P, wI_L, forall_eq, m2, m3, m5, m6, m7, m36, m46, m64, m256, m320, nI_add, k1, k2, k3, k4, k5, k6, k7, k8, k9, k10, k11, k12, k13, k64, nI_clamp, nI_ltI, nI_leI, nI_eq, u2_s, u2_a, u2_i, ixT, bi_z, bi_nz, bi_n1, bi_o1, true_and, and_true, true_implies, not_true, not_false_iff, Bool.not_eq_false, Bool.not_eq_true, forall_const, ne_eq, Classical.not_not, and_self, hg]
  rw [hg] at h
  refine ⟨fun e => ⟨fun e2 => ?_, fun e2 => ?_⟩, fun e => ?_⟩
  · rw [if_pos (Or.inr e2)] at h; exact x_174_35 (shw hS) h
  · rw [if_neg (fun q => q.elim (fun q => Int32.not_le.mpr e q) e2)] at h
    have e0 : am_u2 (am_u2 (am_u2 f 445 (mAt p u k) k) 446 (mAt p u k) s) 447 (mAt p u k) v = m_msgj (mAt p u k) 0 k s v (fun w => f a (b + w)) f := by
      funext a i
      simp only [u2_e, m_msgj]
      (repeat' split) <;> first | rfl | omega | (congr 1; omega)
    rw [e0]
    have hj : ∀ w x j, x ≠ 445 → x ≠ 446 → x ≠ 447 → x ≠ 448 → m_msgj (mAt p u k) w k s v (fun w => f a (b + w)) f x j = f x j := fun w x j h1 h2 h3 h4 => by
      unfold m_msgj; rw [if_neg (fun q => h1 q.1), if_neg (fun q => h2 q.1), if_neg (fun q => h3 q.1), if_neg (fun q => h4 q.1)]
    refine l0 (P := fun w => ∀ w3 w4 w5 w10, mW (d + 1 + 1) 174 65 [.ref 415, .int (nI p), .int (nI u), w3, w4, w5, .ref a, .int (nI b), .int (nI (mAt p u k)), .int (nI w), w10] [] (wI A (m_msgj (mAt p u k) w k s v (fun w => f a (b + w)) f)) Q) n (fun w hw ih w3 w4 w5 w10 => ?_) (fun w3 w4 w5 w10 => ?_) _ _ _ _
    · refine x_174_65 (shw hS) ⟨fun _ => ⟨avw ha.1, ?_, ?_⟩, fun q => absurd ?_ q⟩
      · rw [nI_add, wI_L]; exact ixn (by omega) hl
      · simp (disch := first | decide | omega) only [wI_I, wI_s, wI_P, wI_L, forall_eq, m2, m3, m5, m6, m7, m36, m46, m64, m256, m320, nI_add, k1, k2, k3, k4, k5, k6, k7, k8, k9, k10, k11, k12, k13, k64, nI_clamp, nI_ltI, nI_leI, nI_eq, u2_s, u2_a, u2_i, ixT, bi_z, bi_nz, bi_n1, bi_o1, true_and, and_true, true_implies, not_true, not_false_iff, Bool.not_eq_false, Bool.not_eq_true, forall_const, ne_eq, Classical.not_not, and_self, hj w a (b + w) ha.2.1 ha.2.2.1 ha.2.2.2.1 ha.2.2.2.2, m_msgj_s (c := fun w => f a (b + w))]
        exact ih am_un am_un am_un am_un
      · simp (disch := first | decide | omega) only [wI_I, wI_s, wI_P, wI_L, forall_eq, m2, m3, m5, m6, m7, m36, m46, m64, m256, m320, nI_add, k1, k2, k3, k4, k5, k6, k7, k8, k9, k10, k11, k12, k13, k64, nI_clamp, nI_ltI, nI_leI, nI_eq, u2_s, u2_a, u2_i, ixT, bi_z, bi_nz, bi_n1, bi_o1, true_and, and_true, true_implies, not_true, not_false_iff, Bool.not_eq_false, Bool.not_eq_true, forall_const, ne_eq, Classical.not_not, and_self, hj w 415 1 (by decide) (by decide) (by decide) (by decide), hn]; exact hw
    · refine x_174_65 (shw hS) ⟨fun q => absurd q ?_, fun _ => ?_⟩
      · simp (disch := first | decide | omega) only [wI_I, wI_s, wI_P, wI_L, forall_eq, m2, m3, m5, m6, m7, m36, m46, m64, m256, m320, nI_add, k1, k2, k3, k4, k5, k6, k7, k8, k9, k10, k11, k12, k13, k64, nI_clamp, nI_ltI, nI_leI, nI_eq, u2_s, u2_a, u2_i, ixT, bi_z, bi_nz, bi_n1, bi_o1, true_and, and_true, true_implies, not_true, not_false_iff, Bool.not_eq_false, Bool.not_eq_true, forall_const, ne_eq, Classical.not_not, and_self, hj n 415 1 (by decide) (by decide) (by decide) (by decide), hn]; omega
      · refine r_close 65 _ g c _ _ _ _ _ _ _ _ hS hp hu ?_ (by omega) ?_ (by omega) (close_no (g := g) ?_ (by omega)) h
        · rw [hj n 441 _ (by decide) (by decide) (by decide) (by decide)]; exact hg
        · rw [hj n 449 _ (by decide) (by decide) (by decide) (by decide)]; exact hc
        · rw [hj n 441 _ (by decide) (by decide) (by decide) (by decide)]; exact hg
  · rw [if_pos (Or.inl (Int32.not_lt.mp e))] at h; exact x_174_35 (shw hS) h
theorem r_doneOf (hS : Sh A) (hp : p < 6) (hq : q < 6) (hu : u < 6) (h : Q (.inl (some (.int (m_doneOf p q u f)))) (wI A f)) : mC (d + 1) 175 [.ref 415, .int (nI p), .int (nI q), .int (nI u)] (wI A f) Q := by
  unfold m_doneOf at h
  refine x_175_0 (shw hS) ?_
  simp (disch := first | decide | omega) only [wI_I, wI_s, wI_P, wI_L, forall_eq, m2, m3, m5, m6, m7, m36, m46, m64, m256, m320, nI_add, k1, k2, k3, k4, k5, k6, k7, k8, k9, k10, k11, k12, k13, k64, nI_clamp, nI_ltI, nI_leI, nI_eq, u2_s, u2_a, u2_i, ixT, bi_z, bi_nz, bi_n1, bi_o1, true_and, and_true, true_implies, not_true, not_false_iff, Bool.not_eq_false, Bool.not_eq_true, forall_const, ne_eq, Classical.not_not, and_self]
  exact ⟨fun c => by rw [if_pos c] at h; exact h, fun c => by rw [if_neg c] at h; exact h⟩
theorem r_gotOf (hS : Sh A) (hp : p < 6) (hq : q < 6) (hu : u < 6) (h : Q (.inl (some (.int (m_gotOf p q u f)))) (wI A f)) : mC (d + 1) 176 [.ref 415, .int (nI p), .int (nI q), .int (nI u)] (wI A f) Q := by
  unfold m_gotOf at h
  refine x_176_0 (shw hS) ?_
  simp (disch := first | decide | omega) only [wI_I, wI_s, wI_P, wI_L, forall_eq, m2, m3, m5, m6, m7, m36, m46, m64, m256, m320, nI_add, k1, k2, k3, k4, k5, k6, k7, k8, k9, k10, k11, k12, k13, k64, nI_clamp, nI_ltI, nI_leI, nI_eq, u2_s, u2_a, u2_i, ixT, bi_z, bi_nz, bi_n1, bi_o1, true_and, and_true, true_implies, not_true, not_false_iff, Bool.not_eq_false, Bool.not_eq_true, forall_const, ne_eq, Classical.not_not, and_self]
  exact ⟨fun c => by rw [if_pos c] at h; exact h, fun c => by rw [if_neg c] at h; exact h⟩
theorem r_stable (hS : Sh A) (hn : f 415 1 = nI n) (hn6 : n ≤ 6) (hp : p < 6) (h : Q (.inl (some (.int (m_stable n p f)))) (wI A f)) : mC (d + 2) 177 [.ref 415, .int (nI p)] (wI A f) Q := by
  refine x_177_0 (shw hS) ?_
  simp (disch := first | decide | omega) only [wI_I, wI_s, wI_P, wI_L, forall_eq, m2, m3, m5, m6, m7, m36, m46, m64, m256, m320, nI_add, k1, k2, k3, k4, k5, k6, k7, k8, k9, k10, k11, k12, k13, k64, nI_clamp, nI_ltI, nI_leI, nI_eq, u2_s, u2_a, u2_i, ixT, bi_z, bi_nz, bi_n1, bi_o1, true_and, and_true, true_implies, not_true, not_false_iff, Bool.not_eq_false, Bool.not_eq_true, forall_const, ne_eq, Classical.not_not, and_self]
  refine lp0 (P := fun q s => mW (d + 1 + 1) 177 14 [.ref 415, .int (nI p), .int s, .int (nI q)] [] (wI A f) Q) n (fun q low => if hasb (f 433 p) q && decide (m_doneOf p q p f < low) then m_doneOf p q p f else low) (fun q s hq ih => ?_) ?_
  · refine x_177_14 (shw hS) ⟨fun _ => ?_, fun c => absurd ?_ c⟩
    · simp (disch := first | decide | omega) only [wI_I, wI_s, wI_P, wI_L, forall_eq, m2, m3, m5, m6, m7, m36, m46, m64, m256, m320, nI_add, k1, k2, k3, k4, k5, k6, k7, k8, k9, k10, k11, k12, k13, k64, nI_clamp, nI_ltI, nI_leI, nI_eq, u2_s, u2_a, u2_i, ixT, bi_z, bi_nz, bi_n1, bi_o1, true_and, and_true, true_implies, not_true, not_false_iff, Bool.not_eq_false, Bool.not_eq_true, forall_const, ne_eq, Classical.not_not, and_self]
      refine r_has (shw hS) (by omega) ?_
      show _ ∧ _
      simp (disch := first | decide | omega) only [wI_I, wI_s, wI_P, wI_L, forall_eq, m2, m3, m5, m6, m7, m36, m46, m64, m256, m320, nI_add, k1, k2, k3, k4, k5, k6, k7, k8, k9, k10, k11, k12, k13, k64, nI_clamp, nI_ltI, nI_leI, nI_eq, u2_s, u2_a, u2_i, ixT, bi_z, bi_nz, bi_n1, bi_o1, true_and, and_true, true_implies, not_true, not_false_iff, Bool.not_eq_false, Bool.not_eq_true, forall_const, ne_eq, Classical.not_not, and_self]
      refine ⟨fun c => ?_, fun c => r_doneOf hS hp (by omega) hp ?_⟩
      · rw [c, Bool.false_and] at ih; exact ih
      · refine ⟨fun c2 => r_doneOf hS hp (by omega) hp ?_, fun c2 => ?_⟩
        · rw [c, decide_eq_true c2] at ih; exact ih
        · rw [c, decide_eq_false c2] at ih; exact ih
    · simp (disch := first | decide | omega) only [wI_I, wI_s, wI_P, wI_L, forall_eq, m2, m3, m5, m6, m7, m36, m46, m64, m256, m320, nI_add, k1, k2, k3, k4, k5, k6, k7, k8, k9, k10, k11, k12, k13, k64, nI_clamp, nI_ltI, nI_leI, nI_eq, u2_s, u2_a, u2_i, ixT, bi_z, bi_nz, bi_n1, bi_o1, true_and, and_true, true_implies, not_true, not_false_iff, Bool.not_eq_false, Bool.not_eq_true, forall_const, ne_eq, Classical.not_not, and_self, hn]; exact hq
  · refine x_177_14 (shw hS) ⟨fun c => absurd c ?_, fun _ => h⟩
    simp (disch := first | decide | omega) only [wI_I, wI_s, wI_P, wI_L, forall_eq, m2, m3, m5, m6, m7, m36, m46, m64, m256, m320, nI_add, k1, k2, k3, k4, k5, k6, k7, k8, k9, k10, k11, k12, k13, k64, nI_clamp, nI_ltI, nI_leI, nI_eq, u2_s, u2_a, u2_i, ixT, bi_z, bi_nz, bi_n1, bi_o1, true_and, and_true, true_implies, not_true, not_false_iff, Bool.not_eq_false, Bool.not_eq_true, forall_const, ne_eq, Classical.not_not, and_self, hn]; omega
theorem r_sayMsg {k : Int32} {w : Nat} (hS : Sh A) (hn : f 415 1 = nI n) (hn6 : n ≤ 6) (hp : p < 6) (hu : u < 6) (hk : ¬ k < 0) (hw : wr f w) (hw2 : w + 3 + n ≤ 40) (h : Q (.inl none) (wI A (m_sayMsg n p u k f))) : mC (d + 3) 178 [.ref 415, .int (nI p), .int (nI u), .int k] (wI A f) Q := by
  have hx := mAt_lt (k := k) hp hu
  refine x_178_0 (shw hS) (r_at (shw hS) hp hu hk ?_)
  refine r_say' hS hw (by omega) ?_
  show _ ∧ _
  simp (disch := first | decide | omega) only [wI_I, wI_s, wI_P, wI_L, forall_eq, m2, m3, m5, m6, m7, m36, m46, m64, m256, m320, nI_add, k1, k2, k3, k4, k5, k6, k7, k8, k9, k10, k11, k12, k13, k64, nI_clamp, nI_ltI, nI_leI, nI_eq, u2_s, u2_a, u2_i, ixT, bi_z, bi_nz, bi_n1, bi_o1, true_and, and_true, true_implies, not_true, not_false_iff, Bool.not_eq_false, Bool.not_eq_true, forall_const, ne_eq, Classical.not_not, and_self, m_say_a]
  refine r_say' hS (wr_s hw) (by omega) ?_
  show mC _ _ _ _ _
  simp (disch := first | decide | omega) only [wI_I, wI_s, wI_P, wI_L, forall_eq, m2, m3, m5, m6, m7, m36, m46, m64, m256, m320, nI_add, k1, k2, k3, k4, k5, k6, k7, k8, k9, k10, k11, k12, k13, k64, nI_clamp, nI_ltI, nI_leI, nI_eq, u2_s, u2_a, u2_i, ixT, bi_z, bi_nz, bi_n1, bi_o1, true_and, and_true, true_implies, not_true, not_false_iff, Bool.not_eq_false, Bool.not_eq_true, forall_const, ne_eq, Classical.not_not, and_self, m_say_a]
  refine r_say' hS (wr_s (wr_s hw)) (by omega) ?_
  refine r_sayRow (w := w + 1 + 1 + 1) hS ?_ hn6 (hS.vh 33 1 13824 rfl) (by decide) (by decide) ?_ ?_ (wr_s (wr_s (wr_s hw))) (by omega) h
  · rw [m_say_n (by decide), m_say_n (by decide), m_say_n (by decide)]; exact hn
  · rw [hS.lh 33 1 13824 rfl]; omega
  · rw [hS.lh 33 1 13824 rfl]; decide
theorem sayRow_a {a b x k : Nat} (h1 : x ≠ 464) (h2 : x ≠ 415) : m_sayRow n a b f x k = f x k := by
  have : ∀ m q (f : hs), fo (fun k f => m_say (f a (b + k)) f) q m f x k = f x k := by
    intro m
    induction m with
    | zero => intro q f; rfl
    | succ m ih => intro q f; show (fo (fun k f => m_say (f a (b + k)) f) (q + 1) m (m_say (f a (b + q)) f)) x k = _; rw [ih, m_say_a h1 h2]
  exact this n 0 f
theorem sayRow_n {a b k : Nat} (h : k ≠ 55) : m_sayRow n a b f 415 k = f 415 k := by
  have : ∀ m q (f : hs), fo (fun k f => m_say (f a (b + k)) f) q m f 415 k = f 415 k := by
    intro m
    induction m with
    | zero => intro q f; rfl
    | succ m ih => intro q f; show (fo (fun k f => m_say (f a (b + k)) f) (q + 1) m (m_say (f a (b + q)) f)) 415 k = _; rw [ih, m_say_n h]
  exact this n 0 f
theorem sayMsg_a {k : Int32} {x j : Nat} (h1 : x ≠ 464) (h2 : x ≠ 415) : m_sayMsg n p u k f x j = f x j := by unfold m_sayMsg; rw [sayRow_a h1 h2, m_say_a h1 h2, m_say_a h1 h2, m_say_a h1 h2]
theorem sayMsg_n {k : Int32} {j : Nat} (h : j ≠ 55) : m_sayMsg n p u k f 415 j = f 415 j := by unfold m_sayMsg; rw [sayRow_n h, m_say_n h, m_say_n h, m_say_n h]
theorem wr_msg {k : Int32} {w : Nat} (h : wr f w) : wr (m_sayMsg n p u k f) (w + 3 + n) := wr_row (wr_s (wr_s (wr_s h)))
/-- what a packet sent changes -/
theorem ship_a {kind : Int32} {a k : Nat} (h1 : a ≠ 415) (h2 : a ≠ 416) (h3 : a ≠ 418) (h4 : a ≠ 419) (h5 : a ≠ 421) : m_ship p q kind f a k = f a k := by
  unfold m_ship
  split
  · simp (disch := first | decide | omega) only [u2_a]
  · rw [u2_a h4, m_put, if_neg (fun e => h3 e.1)]; simp (disch := first | decide | omega) only [u2_a]
theorem ship_n {kind : Int32} {k : Nat} (h1 : k ≠ 4) (h2 : k ≠ 5) (h3 : k ≠ 7) : m_ship p q kind f 415 k = f 415 k := by
  unfold m_ship
  split
  · simp (disch := first | decide | omega) only [u2_a, u2_i]
  · rw [u2_a (by decide), m_put, if_neg (by omega)]; simp (disch := first | decide | omega) only [u2_a, u2_i]
theorem rowOK_of {g : hs} (h : rowOK f) (h5 : g 415 5 = f 415 5) (h7 : g 415 7 = f 415 7) (hs : ∀ j, g 417 j = f 417 j) : rowOK g := by
  obtain ⟨un, fr, e1, e2, h1, h2, h3, h4⟩ := h
  exact ⟨un, fr, by rw [h5, e1], by rw [h7, e2], h1, h2, h3, fun j hj => by rw [hs]; exact h4 j hj⟩
/-- the row's bounds with one packet in hand or none -/
def rowB (b : Nat) (f : hs) : Prop := ∃ un fr, f 415 5 = nI un ∧ f 415 7 = nI fr ∧ un ≤ 600 ∧ un + fr + b = 601 ∧ b ≤ 1 ∧ ∀ j, j < fr → ixk 601 (f 417 j)
theorem rowB.ok {b : Nat} (h : rowB b f) : rowOK f := by
  obtain ⟨un, fr, e1, e2, h1, h2, h3, h4⟩ := h
  exact ⟨un, fr, e1, e2, h1, by omega, fun _ => by omega, h4⟩
theorem rowB_of {b : Nat} {g : hs} (h : rowB b f) (h5 : g 415 5 = f 415 5) (h7 : g 415 7 = f 415 7) (hs : ∀ j, g 417 j = f 417 j) : rowB b g := by
  obtain ⟨un, fr, e1, e2, h1, h2, h3, h4⟩ := h
  exact ⟨un, fr, by rw [h5, e1], by rw [h7, e2], h1, h2, h3, fun j hj => by rw [hs]; exact h4 j hj⟩
theorem rowB_ship {b : Nat} {kind : Int32} (h : rowB b f) : rowB b (m_ship p q kind f) := by
  obtain ⟨un, fr, e1, e2, h1, h2, h3, h4⟩ := h
  unfold m_ship
  split
  · exact ⟨un, fr, by simp (disch := first | decide | omega) only [u2_a, u2_i]; exact e1, by simp (disch := first | decide | omega) only [u2_a, u2_i]; exact e2, h1, h2, h3, fun j hj => by simp (disch := first | decide | omega) only [u2_a]; exact h4 j hj⟩
  · next c =>
    have hun : un ≠ 600 := fun e => c (by rw [e1, e]; rfl)
    refine ⟨un + 1, fr - 1, ?_, ?_, by omega, by omega, h3, fun j hj => ?_⟩
    · rw [u2_a (by decide), m_put, if_neg (by omega)]; simp (disch := first | decide | omega) only [u2_a, u2_i, u2_s, e1, k1]
    · rw [u2_a (by decide), m_put, if_neg (by omega)]; simp (disch := first | decide | omega) only [u2_a, u2_i, u2_s, e2]; exact nI_sub1 (by omega)
    · rw [u2_a (by decide), m_put, if_neg (by omega)]; simp (disch := first | decide | omega) only [u2_a]; exact h4 j (by omega)
/-- n processes; the row in its bounds, b packets in hand -/
def B0 (n b : Nat) (f : hs) : Prop := f 415 1 = nI n ∧ n ≤ 6 ∧ rowB b f
theorem B0.of {b : Nat} {g : hs} (h : B0 n b f) (h1 : ∀ k, k = 1 ∨ k = 5 ∨ k = 7 → g 415 k = f 415 k) (hs : ∀ j, g 417 j = f 417 j) : B0 n b g := ⟨by rw [h1 1 (by omega)]; exact h.1, h.2.1, rowB_of h.2.2 (h1 5 (by omega)) (h1 7 (by omega)) hs⟩
theorem B0.ship {b : Nat} {kind : Int32} (h : B0 n b f) : B0 n b (m_ship p q kind f) := ⟨by rw [ship_n (by decide) (by decide) (by decide)]; exact h.1, h.2.1, rowB_ship h.2.2⟩
theorem B0.say {b : Nat} {v : Int32} (h : B0 n b f) : B0 n b (m_say v f) := h.of (fun k hk => m_say_n (by omega)) (fun j => m_say_a (by decide) (by decide))
theorem B0.start {b : Nat} (h : B0 n b f) : B0 n b (m_start f) := h.of (fun k hk => m_start_n (by omega)) (fun j => m_start_a (by decide))
theorem B0.row {b x y : Nat} (h : B0 n b f) : B0 n b (m_sayRow m x y f) := h.of (fun k hk => sayRow_n (by omega)) (fun j => sayRow_a (by decide) (by decide))
theorem B0.msg {b : Nat} {k : Int32} (h : B0 n b f) : B0 n b (m_sayMsg m p u k f) := h.of (fun k hk => sayMsg_n (by omega)) (fun j => sayMsg_a (by decide) (by decide))
theorem wr_ship {kind : Int32} {w : Nat} (h : wr f w) : wr (m_ship p q kind f) w := by unfold wr; rw [ship_n (by decide) (by decide) (by decide)]; exact h
theorem close_a {a k : Nat} (h : a ≠ 449 ∧ a ≠ 441 ∧ a ≠ 450 ∧ a ≠ 451 ∧ a ≠ 452) : ∀ b (f : hs), m_close p u b f a k = f a k := by
  intro b
  induction b with
  | zero => intro f; rfl
  | succ b ih =>
    intro f
    unfold m_close
    split
    · rw [ih, acc_n h]
    · rfl
theorem keep_a {a j : Nat} {k s v : Int32} {c : Nat → Int32} (h : a < 441 ∨ 452 < a) : m_keep n p u k s v c f a j = f a j := by
  unfold m_keep
  split
  · rfl
  · rw [close_a (by omega)]; unfold m_msg; rw [if_neg (by omega), if_neg (by omega), if_neg (by omega), if_neg (by omega)]
theorem B0.keep {b : Nat} {k s v : Int32} {c : Nat → Int32} (h : B0 n b f) : B0 n b (m_keep m p u k s v c f) := h.of (fun k hk => keep_a (by omega)) (fun j => keep_a (by omega))
/-- streams and orders of p stand in their bounds -/
def okG (p : Nat) (f : hs) : Prop := (∀ u, u < 6 → ∃ g e, f 441 (6 * p + u) = nI g ∧ f 442 (6 * p + u) = nI e ∧ e ≤ g ∧ g ≤ 1000000) ∧ (∃ c, f 449 p = nI c ∧ c ≤ 128) ∧ ¬ f 424 p < 0
theorem r_post {s v : Int32} {b : Nat} (hS : Sh A) (hB : B0 n b f) (hp : p < 6) (hG : okG p f) (h : Q (.inl none) (wI A (m_post n p s v f))) : mC (d + 4) 179 [.ref 415, .int (nI p), .int s, .int v] (wI A f) Q := by
  obtain ⟨g, e, hg, he, heg, hg2⟩ := hG.1 p hp
  obtain ⟨c, hc, hc2⟩ := hG.2.1
  have hn6 := hB.2.1
  refine x_179_0 (shw hS) ?_
  simp (disch := first | decide | omega) only [wI_I, wI_s, wI_P, wI_L, forall_eq, m2, m3, m5, m6, m7, m36, m46, m64, m256, m320, nI_add, k1, k2, k3, k4, k5, k6, k7, k8, k9, k10, k11, k12, k13, k64, nI_clamp, nI_ltI, nI_leI, nI_eq, u2_s, u2_a, u2_i, ixT, bi_z, bi_nz, bi_n1, bi_o1, true_and, and_true, true_implies, not_true, not_false_iff, Bool.not_eq_false, Bool.not_eq_true, forall_const, ne_eq, Classical.not_not, and_self]
  refine r_keep (g := g) (c := c) hS hB.1 hB.2.1 hp hp (by rw [hg]; exact nn1 (by omega)) ⟨hS.vh 27 1 36 rfl, by decide, by decide, by decide, by decide⟩ ?_ ?_ hg (by omega) hc (by omega) ?_
  · rw [hS.lh 27 1 36 rfl]; omega
  · rw [hS.lh 27 1 36 rfl]; decide
  refine r_startBody hS ?_
  refine r_sayMsg (n := n) (w := 0) hS hB.keep.start.1 hB.2.1 hp hp (by rw [hg]; exact nn1 (by omega)) (wr_0 _) (by omega) ?_
  refine (lp0 (P := fun q g => B0 n b g → wr g (0 + 3 + n) → ∀ w2 w3 w4, mW (d + 3 + 1) 179 48 [.ref 415, .int (nI p), w2, w3, w4, .int (nI q)] [] (wI A g) Q) n (fun q f => if m_other p (f 433 p) q then m_ship p q 1 f else f) (fun q x hq ih h1 h2 w2 w3 w4 => ?_) (fun h1 h2 w2 w3 w4 => ?_)) hB.keep.start.msg (wr_msg (wr_0 _)) _ _ _
  · refine x_179_48 (shw hS) ⟨fun _ => ?_, fun c => absurd ?_ c⟩
    · simp (disch := first | decide | omega) only [wI_I, wI_s, wI_P, wI_L, forall_eq, m2, m3, m5, m6, m7, m36, m46, m64, m256, m320, nI_add, k1, k2, k3, k4, k5, k6, k7, k8, k9, k10, k11, k12, k13, k64, nI_clamp, nI_ltI, nI_leI, nI_eq, u2_s, u2_a, u2_i, ixT, bi_z, bi_nz, bi_n1, bi_o1, true_and, and_true, true_implies, not_true, not_false_iff, Bool.not_eq_false, Bool.not_eq_true, forall_const, ne_eq, Classical.not_not, and_self]
      unfold m_other at ih
      refine ⟨fun c => ?_, fun c => r_has (shw hS) (by omega) ?_⟩
      · rw [if_neg (by rw [decide_eq_false (fun q => q c)]; simp)] at ih; exact ih h1 h2 _ _ _
      · show _ ∧ _
        simp (disch := first | decide | omega) only [wI_I, wI_s, wI_P, wI_L, forall_eq, m2, m3, m5, m6, m7, m36, m46, m64, m256, m320, nI_add, k1, k2, k3, k4, k5, k6, k7, k8, k9, k10, k11, k12, k13, k64, nI_clamp, nI_ltI, nI_leI, nI_eq, u2_s, u2_a, u2_i, ixT, bi_z, bi_nz, bi_n1, bi_o1, true_and, and_true, true_implies, not_true, not_false_iff, Bool.not_eq_false, Bool.not_eq_true, forall_const, ne_eq, Classical.not_not, and_self]
        refine ⟨fun c2 => ?_, fun c2 => ?_⟩
        · rw [if_neg (by rw [c2]; simp)] at ih; exact ih h1 h2 _ _ _
        · rw [if_pos (by rw [c2, decide_eq_true c]; rfl)] at ih
          exact r_ship hS hp h1.2.2.ok h2 (by omega) (ih h1.ship (wr_ship h2) _ _ _)
    · simp (disch := first | decide | omega) only [wI_I, wI_s, wI_P, wI_L, forall_eq, m2, m3, m5, m6, m7, m36, m46, m64, m256, m320, nI_add, k1, k2, k3, k4, k5, k6, k7, k8, k9, k10, k11, k12, k13, k64, nI_clamp, nI_ltI, nI_leI, nI_eq, u2_s, u2_a, u2_i, ixT, bi_z, bi_nz, bi_n1, bi_o1, true_and, and_true, true_implies, not_true, not_false_iff, Bool.not_eq_false, Bool.not_eq_true, forall_const, ne_eq, Classical.not_not, and_self, h1.1]; exact hq
  · refine x_179_48 (shw hS) ⟨fun c => absurd c ?_, fun _ => h⟩
    simp (disch := first | decide | omega) only [wI_I, wI_s, wI_P, wI_L, forall_eq, m2, m3, m5, m6, m7, m36, m46, m64, m256, m320, nI_add, k1, k2, k3, k4, k5, k6, k7, k8, k9, k10, k11, k12, k13, k64, nI_clamp, nI_ltI, nI_leI, nI_eq, u2_s, u2_a, u2_i, ixT, bi_z, bi_nz, bi_n1, bi_o1, true_and, and_true, true_implies, not_true, not_false_iff, Bool.not_eq_false, Bool.not_eq_true, forall_const, ne_eq, Classical.not_not, and_self, h1.1]; omega
end
