/-! The reference's methods do what the model says: the row, reaching, fresh views, messages. -/
section
variable {A : am_A} {f : hs} {Q : am_Res → am_A → Prop} {d n p q u t m : Nat}
def m_outj (k un j : Nat) (f : hs) : hs := fun a i => if a = 415 ∧ i = 5 then nI (un - 1) else if a = 416 ∧ k ≤ i ∧ i < k + j then f 416 (i + 1) else f a i
theorem m_outj_s {k un j : Nat} : am_u2 (m_outj k un j f) 416 (k + j) (f 416 (k + j + 1)) = m_outj k un (j + 1) f := by
  funext a i
  simp only [u2_e, m_outj]
  (repeat' split) <;> first | rfl | omega | (congr 1; omega)
theorem r_takeOut {k un : Nat} (hS : Sh A) (h5 : f 415 5 = nI un) (hu : un ≤ 600) (hk : k < un) (h : Q (.inl (some (.int (f 416 k)))) (wI A (m_out k f))) : mC (d + 1) 163 [.ref 415, .int (nI k)] (wI A f) Q := by
  refine x_163_0 (shw hS) ?_
  simp (disch := first | decide | omega) only [wI_I, wI_s, wI_P, wI_L, forall_eq, m2, m3, m5, m6, m7, m36, m46, m64, m256, m320, nI_add, k1, k2, k3, k4, k5, k6, k7, k8, k9, k10, k11, k12, k13, k64, nI_clamp, nI_ltI, nI_leI, nI_eq, u2_s, u2_a, u2_i, ixT, bi_z, bi_nz, bi_n1, bi_o1, true_and, and_true, true_implies, not_true, not_false_iff, Bool.not_eq_false, Bool.not_eq_true, forall_const, ne_eq, Classical.not_not, and_self, h5, nI_sub1]
  have e0 : am_u2 f 415 5 (nI (un - 1)) = m_outj k un 0 f := by
    funext a i
    simp only [u2_e, m_outj]
    (repeat' split) <;> first | rfl | omega | (congr 1; omega)
  rw [e0]
  have e1 : ∀ j, m_outj k un j f 415 5 = nI (un - 1) := fun j => by unfold m_outj; rw [if_pos ⟨rfl, rfl⟩]
  have e2 : ∀ j, m_outj k un j f 416 (k + j + 1) = f 416 (k + j + 1) := fun j => by unfold m_outj; rw [if_neg (by omega), if_neg (by omega)]
  have e3 : m_outj k un (un - 1 - k) f = m_out k f := by
    funext a i
    simp only [m_out, m_outj, h5, nI_sub1 (show 0 < un by omega)]
    rw [nI_clamp (by omega)]
    (repeat' split) <;> first | rfl | omega | (congr 1; omega)
  rw [← e3] at h
  refine l0 (P := fun j => ∀ w1, mW (d + 1) 163 19 [.ref 415, w1, .int (f 416 k), .int (nI (k + j))] [] (wI A (m_outj k un j f)) Q) (un - 1 - k) (fun j hj ih w1 => ?_) (fun w1 => ?_) _
  · refine x_163_19 (shw hS) ⟨fun _ => ?_, fun c => absurd ?_ c⟩
    · simp (disch := first | decide | omega) only [wI_I, wI_s, wI_P, wI_L, forall_eq, m2, m3, m5, m6, m7, m36, m46, m64, m256, m320, nI_add, k1, k2, k3, k4, k5, k6, k7, k8, k9, k10, k11, k12, k13, k64, nI_clamp, nI_ltI, nI_leI, nI_eq, u2_s, u2_a, u2_i, ixT, bi_z, bi_nz, bi_n1, bi_o1, true_and, and_true, true_implies, not_true, not_false_iff, Bool.not_eq_false, Bool.not_eq_true, forall_const, ne_eq, Classical.not_not, and_self, e2, m_outj_s]
      exact ih _
    · simp (disch := first | decide | omega) only [wI_I, wI_s, wI_P, wI_L, forall_eq, m2, m3, m5, m6, m7, m36, m46, m64, m256, m320, nI_add, k1, k2, k3, k4, k5, k6, k7, k8, k9, k10, k11, k12, k13, k64, nI_clamp, nI_ltI, nI_leI, nI_eq, u2_s, u2_a, u2_i, ixT, bi_z, bi_nz, bi_n1, bi_o1, true_and, and_true, true_implies, not_true, not_false_iff, Bool.not_eq_false, Bool.not_eq_true, forall_const, ne_eq, Classical.not_not, and_self, e1]; omega
  · refine x_163_19 (shw hS) ⟨fun c => absurd c ?_, fun _ => h⟩
    simp (disch := first | decide | omega) only [wI_I, wI_s, wI_P, wI_L, forall_eq, m2, m3, m5, m6, m7, m36, m46, m64, m256, m320, nI_add, k1, k2, k3, k4, k5, k6, k7, k8, k9, k10, k11, k12, k13, k64, nI_clamp, nI_ltI, nI_leI, nI_eq, u2_s, u2_a, u2_i, ixT, bi_z, bi_nz, bi_n1, bi_o1, true_and, and_true, true_implies, not_true, not_false_iff, Bool.not_eq_false, Bool.not_eq_true, forall_const, ne_eq, Classical.not_not, and_self, e1]; omega
theorem r_giveBack {x : Int32} {fr : Nat} (hS : Sh A) (h7 : f 415 7 = nI fr) (hf : fr < 601) (h : Q (.inl none) (wI A (m_back x f))) : mC (d + 1) 164 [.ref 415, .int x] (wI A f) Q := by
  refine x_164_0 (shw hS) ⟨by rw [wI_I, h7]; exact ixn hf (by decide), ?_⟩
  simp (disch := first | decide | omega) only [wI_I, wI_s, wI_P, wI_L, forall_eq, m2, m3, m5, m6, m7, m36, m46, m64, m256, m320, nI_add, k1, k2, k3, k4, k5, k6, k7, k8, k9, k10, k11, k12, k13, k64, nI_clamp, nI_ltI, nI_leI, nI_eq, u2_s, u2_a, u2_i, ixT, bi_z, bi_nz, bi_n1, bi_o1, true_and, and_true, true_implies, not_true, not_false_iff, Bool.not_eq_false, Bool.not_eq_true, forall_const, ne_eq, Classical.not_not, and_self]
  exact h
theorem r_reach (hS : Sh A) (hn : f 415 1 = nI n) (hn6 : n ≤ 6) (hp : p < 6) (h : Q (.inl (some (.int (m_reach n p f)))) (wI A f)) : mC (d + 1) 165 [.ref 415, .int (nI p)] (wI A f) Q := by
  refine x_165_0 (shw hS) ?_
  refine lp0 (P := fun q s => ∀ w4, mW (d + 1) 165 4 [.ref 415, .int (nI p), .int s, .int (nI q), w4] [] (wI A f) Q) n (fun q s => if m_near p f q then sb s q else s) (fun q s hq ih w4 => ?_) (fun w4 => ?_) _
  · refine x_165_4 (shw hS) ⟨fun _ => ?_, fun c => absurd ?_ c⟩
    · simp (disch := first | decide | omega) only [wI_I, wI_s, wI_P, wI_L, forall_eq, m2, m3, m5, m6, m7, m36, m46, m64, m256, m320, nI_add, k1, k2, k3, k4, k5, k6, k7, k8, k9, k10, k11, k12, k13, k64, nI_clamp, nI_ltI, nI_leI, nI_eq, u2_s, u2_a, u2_i, ixT, bi_z, bi_nz, bi_n1, bi_o1, true_and, and_true, true_implies, not_true, not_false_iff, Bool.not_eq_false, Bool.not_eq_true, forall_const, ne_eq, Classical.not_not, and_self]
      have hh := ih am_un
      unfold m_near at hh
      refine ⟨fun c => ?_, fun c => ⟨fun c1 => ?_, fun c1 => ⟨fun c2 => ?_, fun c2 => ?_⟩⟩⟩
      · rw [if_pos (by rw [decide_eq_true c]; rfl)] at hh; exact hh
      · rw [if_neg (by rw [decide_eq_false c, decide_eq_false (p := 0 ≤ _) (Int32.not_le.mpr c1)]; simp)] at hh; exact hh
      · rw [if_neg (by rw [decide_eq_false c, decide_eq_false (p := _ - _ ≤ _) (Int32.not_le.mpr c2)]; simp)] at hh; exact hh
      · rw [if_pos (by rw [decide_eq_true (p := 0 ≤ _) (Int32.not_lt.mp c1), decide_eq_true (p := _ - _ ≤ _) (Int32.not_lt.mp c2)]; simp)] at hh; exact hh
    · simp (disch := first | decide | omega) only [wI_I, wI_s, wI_P, wI_L, forall_eq, m2, m3, m5, m6, m7, m36, m46, m64, m256, m320, nI_add, k1, k2, k3, k4, k5, k6, k7, k8, k9, k10, k11, k12, k13, k64, nI_clamp, nI_ltI, nI_leI, nI_eq, u2_s, u2_a, u2_i, ixT, bi_z, bi_nz, bi_n1, bi_o1, true_and, and_true, true_implies, not_true, not_false_iff, Bool.not_eq_false, Bool.not_eq_true, forall_const, ne_eq, Classical.not_not, and_self, hn]; exact hq
  · refine x_165_4 (shw hS) ⟨fun c => absurd c ?_, fun _ => h⟩
    simp (disch := first | decide | omega) only [wI_I, wI_s, wI_P, wI_L, forall_eq, m2, m3, m5, m6, m7, m36, m46, m64, m256, m320, nI_add, k1, k2, k3, k4, k5, k6, k7, k8, k9, k10, k11, k12, k13, k64, nI_clamp, nI_ltI, nI_leI, nI_eq, u2_s, u2_a, u2_i, ixT, bi_z, bi_nz, bi_n1, bi_o1, true_and, and_true, true_implies, not_true, not_false_iff, Bool.not_eq_false, Bool.not_eq_true, forall_const, ne_eq, Classical.not_not, and_self, hn]; omega
theorem r_cmp {a b c e : Int32} (hS : Sh A) (h : Q (.inl (some (.int (m_cmp a b c e)))) A) : mC (d + 1) 166 [.int a, .int b, .int c, .int e] A Q := by
  unfold m_cmp at h
  refine x_166_0 hS ⟨fun c1 => ⟨fun c2 => ?_, fun c2 => ⟨fun c3 => ?_, fun c3 => ?_⟩⟩, fun c1 => ⟨fun c2 => ?_, fun c2 => ?_⟩⟩
  · rw [if_neg (by simpa using c1), if_pos c2] at h; exact h
  · rw [if_neg (by simpa using c1), if_neg c2, if_pos c3] at h; exact h
  · rw [if_neg (by simpa using c1), if_neg c2, if_neg c3] at h; exact h
  · rw [if_pos c1, if_pos c2] at h; exact h
  · rw [if_pos c1, if_neg c2] at h; exact h
/-- zeros at some of the places T, at all of D -/
def zin (T D : Nat → Nat → Prop) (f g : hs) : Prop := (∀ a i, g a i = f a i ∨ g a i = 0 ∧ T a i) ∧ ∀ a i, D a i → g a i = 0
theorem zin.z {T : Nat → Nat → Prop} : zin T (fun _ _ => False) f f := ⟨fun _ _ => Or.inl rfl, fun _ _ h => h.elim⟩
theorem zin.w {T D D' : Nat → Nat → Prop} {g : hs} (h : zin T D f g) (hD : ∀ a i, D' a i → D a i) : zin T D' f g := ⟨h.1, fun a i q => h.2 a i (hD a i q)⟩
theorem zin.s {T D D' : Nat → Nat → Prop} {g : hs} (h : zin T D f g) (b j : Nat) (hT : T b j) (hD : ∀ a i, D' a i → D a i ∨ a = b ∧ i = j) : zin T D' f (am_u2 g b j 0) := by
  refine ⟨fun a i => ?_, fun a i hd => ?_⟩
  · rw [u2_e]
    split
    · next e => exact Or.inr ⟨rfl, by rw [e.1, e.2]; exact hT⟩
    · exact h.1 a i
  · rw [u2_e]
    split
    · rfl
    · next e => exact h.2 a i ((hD a i hd).resolve_right e)
def frT (p a i : Nat) : Prop := (a = 441 ∨ a = 442) ∧ 6 * p ≤ i ∧ i < 6 * p + 6 ∨ (a = 443 ∨ a = 444) ∧ 36 * p ≤ i ∧ i < 36 * p + 36 ∨ a = 445 ∧ 384 * p ≤ i ∧ i < 384 * p + 384
def frD (p u a i : Nat) : Prop := (a = 441 ∨ a = 442) ∧ 6 * p ≤ i ∧ i < 6 * p + u ∨ (a = 443 ∨ a = 444) ∧ 36 * p ≤ i ∧ i < 36 * p + 36 ∧ (i - 36 * p) % 6 < u ∨ a = 445 ∧ 384 * p ≤ i ∧ i < 384 * p + 64 * u
def frE (p u q a i : Nat) : Prop := (a = 441 ∨ a = 442) ∧ 6 * p ≤ i ∧ i < 6 * p + (u + 1) ∨ (a = 443 ∨ a = 444) ∧ 36 * p ≤ i ∧ i < 36 * p + 36 ∧ ((i - 36 * p) % 6 < u ∨ (i - 36 * p) % 6 = u ∧ (i - 36 * p) / 6 < q) ∨ a = 445 ∧ 384 * p ≤ i ∧ i < 384 * p + 64 * u
def frK (p u k a i : Nat) : Prop := (a = 441 ∨ a = 442) ∧ 6 * p ≤ i ∧ i < 6 * p + (u + 1) ∨ (a = 443 ∨ a = 444) ∧ 36 * p ≤ i ∧ i < 36 * p + 36 ∧ (i - 36 * p) % 6 < u + 1 ∨ a = 445 ∧ 384 * p ≤ i ∧ i < 384 * p + 64 * u + k
theorem fr_end {g : hs} (h : zin (frT p) (frD p 6) f g) : am_u2 g 449 p 0 = m_fresh p f := by
  funext a i
  unfold m_fresh
  rw [u2_e]
  have h1 := h.1 a i
  have h2 := h.2 a i
  unfold frT at h1
  unfold frD at h2
  by_cases c1 : (a = 441 ∨ a = 442) ∧ 6 * p ≤ i ∧ i < 6 * p + 6
  · rw [if_neg (by omega), if_pos c1]; exact h2 (by omega)
  · by_cases c2 : (a = 443 ∨ a = 444) ∧ 36 * p ≤ i ∧ i < 36 * p + 36
    · rw [if_neg (by omega), if_neg c1, if_pos c2]; exact h2 (by omega)
    · by_cases c3 : a = 445 ∧ 384 * p ≤ i ∧ i < 384 * p + 384
      · rw [if_neg (by omega), if_neg c1, if_neg c2, if_pos c3]; exact h2 (by omega)
      · rw [if_neg c1, if_neg c2, if_neg c3]
        rcases h1 with h1 | h1
        · rw [h1]
        · omega
theorem r_fresh (hS : Sh A) (hp : p < 6) (h : Q (.inl none) (wI A (m_fresh p f))) : mC (d + 1) 167 [.ref 415, .int (nI p)] (wI A f) Q := by
  refine x_167_0 (shw hS) ?_
  refine l0 (P := fun u => ∀ g w, zin (frT p) (frD p u) f g → mW (d + 1) 167 2 [.ref 415, .int (nI p), .int (nI u), w] [] (wI A g) Q) 6 (fun u hu ih g w hg => ?_) (fun g w hg => ?_) f _ (zin.z.w (fun a i => by unfold frD; omega))
  · refine x_167_2 (shw hS) ⟨fun _ => ?_, fun c => absurd (nI_lt (b := 6) hu (by decide)) c⟩
    simp (disch := first | decide | omega) only [wI_I, wI_s, wI_P, wI_L, forall_eq, m2, m3, m5, m6, m7, m36, m46, m64, m256, m320, nI_add, k1, k2, k3, k4, k5, k6, k7, k8, k9, k10, k11, k12, k13, k64, nI_clamp, nI_ltI, nI_leI, nI_eq, u2_s, u2_a, u2_i, ixT, bi_z, bi_nz, bi_n1, bi_o1, true_and, and_true, true_implies, not_true, not_false_iff, Bool.not_eq_false, Bool.not_eq_true, forall_const, ne_eq, Classical.not_not, and_self]
    refine l0 (P := fun q => ∀ g, zin (frT p) (frE p u q) f g → mW (d + 1) 167 34 [.ref 415, .int (nI p), .int (nI u), .int (nI q)] [] (wI A g) Q) 6 (fun q hq ih2 g hg => ?_) (fun g hg => ?_) _ ((hg.s 441 (6 * p + u) (by unfold frT; omega) (D' := fun a i => frD p u a i ∨ a = 441 ∧ i = 6 * p + u) (fun a i => id)).s 442 (6 * p + u) (by unfold frT; omega) (fun a i => by unfold frE frD; omega))
    · refine x_167_34 (shw hS) ⟨fun _ => ?_, fun c => absurd (nI_lt (b := 6) hq (by decide)) c⟩
      simp (disch := first | decide | omega) only [wI_I, wI_s, wI_P, wI_L, forall_eq, m2, m3, m5, m6, m7, m36, m46, m64, m256, m320, nI_add, k1, k2, k3, k4, k5, k6, k7, k8, k9, k10, k11, k12, k13, k64, nI_clamp, nI_ltI, nI_leI, nI_eq, u2_s, u2_a, u2_i, ixT, bi_z, bi_nz, bi_n1, bi_o1, true_and, and_true, true_implies, not_true, not_false_iff, Bool.not_eq_false, Bool.not_eq_true, forall_const, ne_eq, Classical.not_not, and_self]
      exact ih2 _ ((hg.s 443 (36 * p + 6 * q + u) (by unfold frT; omega) (D' := fun a i => frE p u q a i ∨ a = 443 ∧ i = 36 * p + 6 * q + u) (fun a i => id)).s 444 (36 * p + 6 * q + u) (by unfold frT; omega) (fun a i => by unfold frE; omega))
    · refine x_167_34 (shw hS) ⟨fun c => absurd c (by decide), fun _ => ?_⟩
      refine l0 (P := fun k => ∀ g, zin (frT p) (frK p u k) f g → mW (d + 1) 167 82 [.ref 415, .int (nI p), .int (nI u), .int (nI k)] [] (wI A g) Q) 64 (fun k hk ih3 g hg => ?_) (fun g hg => ?_) _ (hg.w (fun a i => by unfold frK frE; omega))
      · refine x_167_82 (shw hS) ⟨fun _ => ?_, fun c => absurd (nI_lt (b := 64) hk (by decide)) c⟩
        simp (disch := first | decide | omega) only [wI_I, wI_s, wI_P, wI_L, forall_eq, m2, m3, m5, m6, m7, m36, m46, m64, m256, m320, nI_add, k1, k2, k3, k4, k5, k6, k7, k8, k9, k10, k11, k12, k13, k64, nI_clamp, nI_ltI, nI_leI, nI_eq, u2_s, u2_a, u2_i, ixT, bi_z, bi_nz, bi_n1, bi_o1, true_and, and_true, true_implies, not_true, not_false_iff, Bool.not_eq_false, Bool.not_eq_true, forall_const, ne_eq, Classical.not_not, and_self]
        exact ih3 _ (hg.s 445 (64 * (6 * p + u) + k) (by unfold frT; omega) (fun a i => by unfold frK; omega))
      · refine x_167_82 (shw hS) ⟨fun c => absurd c (by decide), fun _ => ?_⟩
        simp (disch := first | decide | omega) only [wI_I, wI_s, wI_P, wI_L, forall_eq, m2, m3, m5, m6, m7, m36, m46, m64, m256, m320, nI_add, k1, k2, k3, k4, k5, k6, k7, k8, k9, k10, k11, k12, k13, k64, nI_clamp, nI_ltI, nI_leI, nI_eq, u2_s, u2_a, u2_i, ixT, bi_z, bi_nz, bi_n1, bi_o1, true_and, and_true, true_implies, not_true, not_false_iff, Bool.not_eq_false, Bool.not_eq_true, forall_const, ne_eq, Classical.not_not, and_self]
        exact ih _ _ (hg.w (fun a i => by unfold frK frD; omega))
  · refine x_167_2 (shw hS) ⟨fun c => absurd c (by decide), fun _ => ⟨ixn hp (by decide), ?_⟩⟩
    simp (disch := first | decide | omega) only [wI_I, wI_s, wI_P, wI_L, forall_eq, m2, m3, m5, m6, m7, m36, m46, m64, m256, m320, nI_add, k1, k2, k3, k4, k5, k6, k7, k8, k9, k10, k11, k12, k13, k64, nI_clamp, nI_ltI, nI_leI, nI_eq, u2_s, u2_a, u2_i, ixT, bi_z, bi_nz, bi_n1, bi_o1, true_and, and_true, true_implies, not_true, not_false_iff, Bool.not_eq_false, Bool.not_eq_true, forall_const, ne_eq, Classical.not_not, and_self]
    rw [fr_end hg]
    exact h
theorem m_clear_s {j : Nat} : am_u2 (fun a k => if a = 438 ∧ 6 * p ≤ k ∧ k < 6 * p + j then (if k = 6 * p + 1 then (-1 : Int32) else 0) else f a k) 438 (6 * p + j) (if j = 1 then -1 else 0) = (fun a k => if a = 438 ∧ 6 * p ≤ k ∧ k < 6 * p + (j + 1) then (if k = 6 * p + 1 then (-1 : Int32) else 0) else f a k) := by
  funext a i
  simp only [u2_e]
  (repeat' split) <;> first | rfl | omega | (congr 1; omega)
theorem r_clear (hS : Sh A) (hp : p < 6) (h : Q (.inl none) (wI A (m_clear p f))) : mC (d + 1) 168 [.ref 415, .int (nI p)] (wI A f) Q := by
  refine x_168_0 (shw hS) ?_
  have e0 : f = (fun a k => if a = 438 ∧ 6 * p ≤ k ∧ k < 6 * p + 0 then (if k = 6 * p + 1 then (-1 : Int32) else 0) else f a k) := by
    funext a i
    (repeat' split) <;> first | rfl | omega | (congr 1; omega)
  have hl : mW (d + 1) 168 2 [.ref 415, .int (nI p), .int (nI 0)] [] (wI A (fun a k => if a = 438 ∧ 6 * p ≤ k ∧ k < 6 * p + 0 then (if k = 6 * p + 1 then (-1 : Int32) else 0) else f a k)) Q := by
    refine l0 (P := fun j => mW (d + 1) 168 2 [.ref 415, .int (nI p), .int (nI j)] [] (wI A (fun a k => if a = 438 ∧ 6 * p ≤ k ∧ k < 6 * p + j then (if k = 6 * p + 1 then (-1 : Int32) else 0) else f a k)) Q) 6 (fun j hj ih => ?_) ?_
    · rw [← m_clear_s] at ih
      refine x_168_2 (shw hS) ⟨fun _ => ⟨fun c => ?_, fun c => ?_⟩, fun c => absurd (nI_lt (b := 6) hj (by decide)) c⟩
      · have c' : j = 1 := (nI_eq (by omega) (by decide)).mp c
        rw [if_pos c'] at ih
        simp (disch := first | decide | omega) only [wI_I, wI_s, wI_P, wI_L, forall_eq, m2, m3, m5, m6, m7, m36, m46, m64, m256, m320, nI_add, k1, k2, k3, k4, k5, k6, k7, k8, k9, k10, k11, k12, k13, k64, nI_clamp, nI_ltI, nI_leI, nI_eq, u2_s, u2_a, u2_i, ixT, bi_z, bi_nz, bi_n1, bi_o1, true_and, and_true, true_implies, not_true, not_false_iff, Bool.not_eq_false, Bool.not_eq_true, forall_const, ne_eq, Classical.not_not, and_self]; exact ih
      · have c' : ¬ j = 1 := fun e => c (by rw [e]; rfl)
        rw [if_neg c'] at ih
        simp (disch := first | decide | omega) only [wI_I, wI_s, wI_P, wI_L, forall_eq, m2, m3, m5, m6, m7, m36, m46, m64, m256, m320, nI_add, k1, k2, k3, k4, k5, k6, k7, k8, k9, k10, k11, k12, k13, k64, nI_clamp, nI_ltI, nI_leI, nI_eq, u2_s, u2_a, u2_i, ixT, bi_z, bi_nz, bi_n1, bi_o1, true_and, and_true, true_implies, not_true, not_false_iff, Bool.not_eq_false, Bool.not_eq_true, forall_const, ne_eq, Classical.not_not, and_self]; exact ih
    · exact x_168_2 (shw hS) ⟨fun c => absurd c (by decide), fun _ => h⟩
  rw [← e0] at hl
  exact hl
end
