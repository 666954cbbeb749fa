/-! The reference's methods do what the model says: helpers. -/
section
variable {A : am_A} {f : hs} {Q : am_Res → am_A → Prop} {d n p q u t m : Nat}
theorem r_within {x a b : Int32} (hS : Sh A) (h : Q (.inl (some (.int (bi (decide (a ≤ x) && decide (x ≤ b)))))) A) : mC (d + 1) 153 [.int x, .int a, .int b] A Q := by
  refine x_153_0 hS ⟨fun c => ?_, fun c => ⟨fun e => ?_, fun e => ?_⟩⟩
  · rw [decide_eq_false (Int32.not_le.mpr c), Bool.false_and] at h; exact h
  · rw [decide_eq_false (p := x ≤ b) (Int32.not_le.mpr e), Bool.and_false] at h; exact h
  · rw [decide_eq_true (Int32.not_lt.mp c), decide_eq_true (Int32.not_lt.mp e)] at h; exact h
theorem r_has {s : Int32} (hS : Sh A) (hq : q < 6) (h : Q (.inl (some (.int (bi (hasb s q))))) A) : mC (d + 1) 154 [.int s, .int (nI q)] A Q := by
  refine x_154_0 hS ⟨fun c => ?_, fun c => ?_⟩ <;> rw [has_1 hq] at c
  · rw [c] at h; exact h
  · cases hb : hasb s q with
    | false => rw [hb] at h; exact h
    | true => rw [hb] at c; exact absurd rfl c
theorem r_isProc {x : Int32} (hS : Sh A) (h : Q (.inl (some (.int (bi (decide (0 ≤ x) && decide (x < am_I A 415 1)))))) A) : mC (d + 1) 155 [.ref 415, .int x] A Q := by
  refine x_155_0 hS ⟨fun c => ?_, fun c => ⟨fun e => ?_, fun e => ?_⟩⟩
  · rw [decide_eq_false (Int32.not_le.mpr c), Bool.false_and] at h; exact h
  · rw [decide_eq_true (Int32.not_lt.mp c), decide_eq_true e] at h; exact h
  · rw [decide_eq_false e, Bool.and_false] at h; exact h
theorem r_least {s : Int32} (hS : Sh A) (h : Q (.inl (some (.int (nI (m_least s))))) A) : mC (d + 1) 156 [.int s] A Q := by
  refine x_156_0 hS ?_
  refine lf0 (P := fun q => mW (d + 1) 156 2 [.int s, .int (nI q)] [] A Q) (X := fun q => Q (.inl (some (.int (nI q)))) A) 6 (fun q => hasb s q) (fun q hq h1 h2 => ?_) (fun r hr => ?_) (fun hr => ?_)
  · refine x_156_2 hS ⟨fun _ => ?_, fun c => absurd (nI_lt (b := 6) hq (by decide)) c⟩
    rw [has_1 hq, k1, bi_nz, bi_z]
    exact ⟨fun c => h2 c, fun c => h1 c⟩
  · unfold m_least at h; rw [hr] at h; exact h
  · unfold m_least at h; rw [hr] at h
    exact x_156_2 hS ⟨fun c => absurd c (by decide), fun _ => h⟩
theorem r_note {w a b c e : Int32} (hS : Sh A) (hp : p < 6) (h0 : ¬ f 424 p < 0) (h : Q (.inl none) (wI A (m_note p w a b c e f))) : mC (d + 1) 158 [.ref 415, .int (nI p), .int w, .int a, .int b, .int c, .int e] (wI A f) Q := by
  refine x_158_0 (shw hS) ⟨fun c => ?_, fun c => ?_⟩
  · rw [m_note, if_pos (show f 415 60 = 0 from c)] at h
    have hm : Int32.toNatClampNeg (f 424 p) % 64 < 64 := Nat.mod_lt _ (by decide)
    simp (disch := first | decide | omega) only [wI_I, wI_s, wI_P, wI_L, forall_eq, m2, m3, m5, m6, m7, m36, m46, m64, m256, m320, nI_add, k1, k2, k3, k4, k5, k6, k7, k8, k9, k10, k11, k12, k13, k64, nI_clamp, nI_ltI, nI_leI, nI_eq, u2_s, u2_a, u2_i, ixT, bi_z, bi_nz, bi_n1, bi_o1, true_and, and_true, true_implies, not_true, not_false_iff, Bool.not_eq_false, Bool.not_eq_true, forall_const, ne_eq, Classical.not_not, and_self, rem64 h0]
    exact h
  · rw [m_note, if_neg (show ¬ f 415 60 = 0 from c)] at h; exact h
theorem r_startBody (hS : Sh A) (h : Q (.inl none) (wI A (m_start f))) : mC (d + 1) 159 [.ref 415] (wI A f) Q := x_159_0 (shw hS) h
theorem r_say {v : Int32} (hS : Sh A) (h0 : ixk 40 (f 415 55)) (h : Q (.inl none) (wI A (m_say v f))) : mC (d + 1) 160 [.ref 415, .int v] (wI A f) Q := by
  refine x_160_0 (shw hS) ⟨h0, ?_⟩
  simp (disch := first | decide | omega) only [wI_I, wI_s, wI_P, wI_L, forall_eq, m2, m3, m5, m6, m7, m36, m46, m64, m256, m320, nI_add, k1, k2, k3, k4, k5, k6, k7, k8, k9, k10, k11, k12, k13, k64, nI_clamp, nI_ltI, nI_leI, nI_eq, u2_s, u2_a, u2_i, ixT, bi_z, bi_nz, bi_n1, bi_o1, true_and, and_true, true_implies, not_true, not_false_iff, Bool.not_eq_false, Bool.not_eq_true, forall_const, ne_eq, Classical.not_not, and_self]
  exact h
/-- while a body is written: so many are in it -/
def wr (f : hs) (m : Nat) : Prop := f 415 55 = nI m
theorem wr_0 (f : hs) : wr (m_start f) 0 := u2_s _ _ _ _
theorem wr_s {v : Int32} {f : hs} {m : Nat} (h : wr f m) : wr (m_say v f) (m + 1) := by unfold wr m_say; rw [u2_s, h, k1]
theorem wr_fo {c : Nat → hs → Int32} : ∀ m q (f : hs) w, wr f w → wr (fo (fun k f => m_say (c k f) f) q m f) (w + m) := by
  intro m
  induction m with
  | zero => intro q f w h; exact h
  | succ m ih => intro q f w h; have := ih (q + 1) _ _ (wr_s (v := c q f) h); rw [show w + (m + 1) = w + 1 + m by omega]; exact this
theorem wr_row {n a b : Nat} {f : hs} {w : Nat} (h : wr f w) : wr (m_sayRow n a b f) (w + n) := wr_fo n 0 f w h
theorem r_say' {v : Int32} (hS : Sh A) (hw : wr f m) (hm : m < 40) (h : Q (.inl none) (wI A (m_say v f))) : mC (d + 1) 160 [.ref 415, .int v] (wI A f) Q := r_say hS (by rw [hw]; exact ixn hm (by decide)) h
theorem m_say_a {v : Int32} {f : hs} {a k : Nat} (h : a ≠ 464) (h2 : a ≠ 415) : m_say v f a k = f a k := by unfold m_say; rw [u2_a h2, u2_a h]
theorem m_say_n {v : Int32} {f : hs} {k : Nat} (h : k ≠ 55) : m_say v f 415 k = f 415 k := by unfold m_say; rw [u2_i h, u2_a (by decide)]
theorem m_start_a {f : hs} {a k : Nat} (h2 : a ≠ 415) : m_start f a k = f a k := u2_a h2
theorem m_start_n {f : hs} {k : Nat} (h : k ≠ 55) : m_start f 415 k = f 415 k := u2_i h
theorem r_sayRow {a b w : Nat} (hS : Sh A) (hn : f 415 1 = nI n) (hn6 : n ≤ 6) (ha : am_V A 1 a) (ha1 : a ≠ 415) (ha2 : a ≠ 464) (hb : b + n ≤ am_L A a) (hl : am_L A a < 100000) (hw : wr f w) (hw2 : w + n ≤ 40) (h : Q (.inl none) (wI A (m_sayRow n a b f))) : mC (d + 2) 161 [.ref 415, .ref a, .int (nI b)] (wI A f) Q := by
  refine x_161_0 (shw hS) ?_
  refine (lp0 (P := fun q f => f 415 1 = nI n → wr f (w + q) → mW (d + 1 + 1) 161 2 [.ref 415, .ref a, .int (nI b), .int (nI q)] [] (wI A f) Q) n (fun k f => m_say (f a (b + k)) f) (fun q g hq ih h1 h2 => ?_) (fun h1 h2 => ?_)) hn hw
  · refine x_161_2 (shw hS) ⟨fun _ => ⟨ha, ?_, ?_⟩, fun c => absurd (by simp (disch := first | decide | omega) only [wI_I, wI_s, wI_P, wI_L, forall_eq, m2, m3, m5, m6, m7, m36, m46, m64, m256, m320, nI_add, k1, k2, k3, k4, k5, k6, k7, k8, k9, k10, k11, k12, k13, k64, nI_clamp, nI_ltI, nI_leI, nI_eq, u2_s, u2_a, u2_i, ixT, bi_z, bi_nz, bi_n1, bi_o1, true_and, and_true, true_implies, not_true, not_false_iff, Bool.not_eq_false, Bool.not_eq_true, forall_const, ne_eq, Classical.not_not, and_self, wI_I, h1]; exact hq) c⟩
    · rw [nI_add]; exact ixn (by rw [wI_L]; omega) (by rw [wI_L]; omega)
    · simp (disch := first | decide | omega) only [wI_I, wI_s, wI_P, wI_L, forall_eq, m2, m3, m5, m6, m7, m36, m46, m64, m256, m320, nI_add, k1, k2, k3, k4, k5, k6, k7, k8, k9, k10, k11, k12, k13, k64, nI_clamp, nI_ltI, nI_leI, nI_eq, u2_s, u2_a, u2_i, ixT, bi_z, bi_nz, bi_n1, bi_o1, true_and, and_true, true_implies, not_true, not_false_iff, Bool.not_eq_false, Bool.not_eq_true, forall_const, ne_eq, Classical.not_not, and_self]
      exact r_say' hS h2 (by omega) (ih (by rw [m_say_n (by decide)]; exact h1) (wr_s h2))
  · exact x_161_2 (shw hS) ⟨fun c => absurd c (by simp (disch := first | decide | omega) only [wI_I, wI_s, wI_P, wI_L, forall_eq, m2, m3, m5, m6, m7, m36, m46, m64, m256, m320, nI_add, k1, k2, k3, k4, k5, k6, k7, k8, k9, k10, k11, k12, k13, k64, nI_clamp, nI_ltI, nI_leI, nI_eq, u2_s, u2_a, u2_i, ixT, bi_z, bi_nz, bi_n1, bi_o1, true_and, and_true, true_implies, not_true, not_false_iff, Bool.not_eq_false, Bool.not_eq_true, forall_const, ne_eq, Classical.not_not, and_self, wI_I, h1]; omega), fun _ => h⟩
end
