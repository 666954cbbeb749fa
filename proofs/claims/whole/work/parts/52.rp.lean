/-! The reference's methods do what the model says: a packet delivered. -/
section
variable {A : am_A} {f : hs} {Q : am_Res → am_A → Prop} {d n p q u t m r s w : Nat}
theorem hear_418 {k : Nat} : m_hear r s w f 418 k = f 418 k := by
  unfold m_hear
  (repeat' split) <;> simp (disch := first | decide | omega) only [u2_a]
theorem within_no {K : Int32} (hS : Sh A) (h : K = 0 ∨ K = 1 ∨ K = 2) {R : Int32 → am_A → Prop} (hq : R 0 (wI A f)) : mC (d + 1) 153 [.int K, .int 3, .int 7] (wI A f) (am_ci R) := by
  refine r_within (shw hS) ?_
  have : decide ((3 : Int32) ≤ K) = false := by rcases h with e | e | e <;> subst e <;> decide
  rw [this]
  exact hq
theorem t_108 {K : Int32} (hS : Sh A) (h : K = 0 ∨ K = 1 ∨ K = 2) (hq : Q (.inl none) (wI A f)) (w1 : Value) : mW (d + 2) 228 108 [.ref 415, w1, .int (nI w), .int (nI s), .int (nI r), .int K] [] (wI A f) Q :=
  x_228_108 (shw hS) (within_no hS h ⟨fun _ => x_228_139 (shw hS) hq, fun c => absurd rfl c⟩)
/-- what a packet needs: from s to r, at w -/
def okRc (n b r s w : Nat) (f : hs) : Prop := ¬ f 423 r = 0 → f 422 r = f 422 s → ∀ g, g = m_hear r s w f →
  (f 418 w = 0 → B0 n b g ∧ (m_ofV r w g = true → okWk n b r (m_learn n r s w g))) ∧
  (f 418 w = 1 → B0 n b g ∧ okG r g ∧ (g 436 r = 0 → m_ofV r w g = true → ¬ g 418 (w + 9) < 0 ∧ okWk n b r (m_keep n r s (g 418 (w + 9)) (g 418 (w + 10)) (g 418 (w + 11)) (fun i => g 418 (w + 12 + i)) g))) ∧
  (f 418 w = 2 → B0 n b g) ∧ (¬ f 418 w = 0 → ¬ f 418 w = 1 → ¬ f 418 w = 2 → okR2 n b r s w (f 418 w) g)
theorem r_rec {b at' : Nat} (hS : Sh A) (hat : at' < 601) (h2 : f 418 (46 * at' + 2) = nI r) (hr : r < 6) (h1 : f 418 (46 * at' + 1) = nI s) (h6 : s < 6) (hO : okRc n b r s (46 * at') f) (h : Q (.inl none) (wI A (m_rec n (46 * at') f))) : mC (d + 12) 228 [.ref 415, .int (nI at')] (wI A f) Q := by
  unfold m_rec at h
  rw [h1, h2, nI_clamp (by omega), nI_clamp (by omega)] at h
  refine x_228_0 (shw hS) ?_
  simp (disch := first | decide | omega) only [wI_I, wI_s, wI_P, wI_L, forall_eq, m2, m3, m5, m6, m7, m36, m46, m64, m256, m320, nI_add, k1, k2, k3, k4, k5, k6, k7, k8, k9, k10, k11, k12, k13, k64, nI_clamp, nI_ltI, nI_leI, nI_eq, u2_s, u2_a, u2_i, ixT, bi_z, bi_nz, bi_n1, bi_o1, true_and, and_true, true_implies, not_true, not_false_iff, Bool.not_eq_false, Bool.not_eq_true, forall_const, ne_eq, Classical.not_not, and_self, h1, h2]
  refine ⟨fun c => by rw [if_pos (Or.inl c)] at h; exact x_228_50 (shw hS) h, fun c => ⟨fun c2 => r_hear hS hr h6 (by omega) ?_, fun c2 => by rw [if_pos (Or.inr c2)] at h; exact x_228_50 (shw hS) h⟩⟩
  rw [if_neg (fun q => q.elim c (fun q => q c2))] at h
  obtain ⟨o0, o1, o2, o3⟩ := hO c c2 _ rfl
  have e8 : ∀ k, m_hear r s (46 * at') f 418 k = f 418 k := fun k => hear_418
  show _ ∧ _
  simp (disch := first | decide | omega) only [wI_I, wI_s, wI_P, wI_L, forall_eq, m2, m3, m5, m6, m7, m36, m46, m64, m256, m320, nI_add, k1, k2, k3, k4, k5, k6, k7, k8, k9, k10, k11, k12, k13, k64, nI_clamp, nI_ltI, nI_leI, nI_eq, u2_s, u2_a, u2_i, ixT, bi_z, bi_nz, bi_n1, bi_o1, true_and, and_true, true_implies, not_true, not_false_iff, Bool.not_eq_false, Bool.not_eq_true, forall_const, ne_eq, Classical.not_not, and_self, e8]
  generalize hK : f 418 (46 * at') = K at h o0 o1 o2 o3 ⊢
  generalize m_hear r s (46 * at') f = g at h o0 o1 o2 o3 ⊢
  unfold m_rec1 at h
  refine ⟨fun k0 => ?_, fun k0 => ?_⟩
  · rw [if_pos k0] at h
    have := o0 k0
    refine r_rHello (b := b) (n := n) hS this.1.1 this.1.2.1 hr h6 (by omega) this.2 ?_
    refine ⟨fun q => absurd (k0.symm.trans q) (by decide), fun _ => ?_⟩
    refine x_228_94 (shw hS) ⟨fun q => absurd (k0.symm.trans q) (by decide), fun _ => ?_⟩
    exact t_108 hS (Or.inl k0) h _
  · rw [if_neg k0] at h
    refine x_228_80 (shw hS) ⟨fun k1' => ?_, fun k1' => ?_⟩
    · rw [if_pos k1'] at h
      have := o1 k1'
      refine r_rData (b := b) (n := n) hS this.1.1 this.1.2.1 hr h6 (by omega) this.2.1 (fun a b => (this.2.2 a b).1) (fun a b => (this.2.2 a b).2) ?_
      refine ⟨fun q => absurd (k1'.symm.trans q) (by decide), fun _ => ?_⟩
      exact t_108 hS (Or.inr (Or.inl k1')) h _
    · rw [if_neg k1'] at h
      refine x_228_94 (shw hS) ⟨fun k2' => ?_, fun k2' => ?_⟩
      · rw [if_pos k2'] at h
        refine r_rPro hS (o2 k2') hr h6 (by omega) ?_
        exact within_no hS (Or.inr (Or.inr k2')) ⟨fun _ => x_228_139 (shw hS) h, fun c => absurd rfl c⟩
      · rw [if_neg k2'] at h
        exact r_rec2 hS hr h6 (by omega) (o3 k0 k1' k2') h _
/-- what a delivery of the k-th needs -/
def okDl (n k : Nat) (f : hs) : Prop := ∃ un at' r s, f 415 5 = nI un ∧ un ≤ 600 ∧ k < un ∧ f 416 k = nI at' ∧ at' < 601 ∧ f 418 (46 * at' + 2) = nI r ∧ r < 6 ∧ f 418 (46 * at' + 1) = nI s ∧ s < 6 ∧ okRc n 1 r s (46 * at') (m_out k f) ∧ ∃ fr, m_rec n (46 * at') (m_out k f) 415 7 = nI fr ∧ fr < 601
theorem out_a {k a j : Nat} (h : a ≠ 415) (h2 : a ≠ 416) : m_out k f a j = f a j := by unfold m_out; rw [if_neg (fun e => h e.1), if_neg (fun e => h2 e.1)]
theorem r_deliver {k : Nat} (hS : Sh A) (hO : okDl n k f) (h : Q (.inl none) (wI A (m_deliver n k f))) : mC (d + 13) 229 [.ref 415, .int (nI k)] (wI A f) Q := by
  obtain ⟨un, at', r, s, e1, e2, e3, e4, e5, e6, e7, e8, e9, e10, fr, e11, e12⟩ := hO
  unfold m_deliver at h
  rw [e4, nI_clamp (by omega)] at h
  refine x_229_0 (shw hS) (r_takeOut hS e1 e2 e3 ?_)
  rw [e4]
  refine r_rec (b := 1) hS e5 (by rw [out_a (by decide) (by decide)]; exact e6) e7 (by rw [out_a (by decide) (by decide)]; exact e8) e9 e10 ?_
  exact r_giveBack hS e11 e12 h
end
