/-! The reference's methods do what the model says: filling, ready, install. -/
section
variable {A : am_A} {f : hs} {Q : am_Res → am_A → Prop} {d n p q u t m : Nat}
/-- sending packets changes nothing else -/
def sE (f g : hs) : Prop := ∀ a k, 421 < a → a ≠ 464 → g a k = f a k
theorem sE.rfl (f : hs) : sE f f := fun _ _ _ _ => Eq.refl _
theorem sE.tr {f g h : hs} (h1 : sE f g) (h2 : sE g h) : sE f h := fun a k x y => (h2 a k x y).trans (h1 a k x y)
theorem sE.ship {kind : Int32} {g : hs} (h : sE f g) : sE f (m_ship p q kind g) := fun a k h1 h2 => by rw [ship_a (by omega) (by omega) (by omega) (by omega) (by omega)]; exact h a k h1 h2
theorem sE.say {v : Int32} {g : hs} (h : sE f g) : sE f (m_say v g) := fun a k h1 h2 => by rw [m_say_a h2 (by omega)]; exact h a k h1 h2
theorem sE.start {g : hs} (h : sE f g) : sE f (m_start g) := fun a k h1 h2 => by rw [m_start_a (by omega)]; exact h a k h1 h2
theorem sE.row {g : hs} {a b : Nat} (h : sE f g) : sE f (m_sayRow n a b g) := fun x k h1 h2 => by rw [sayRow_a h2 (by omega)]; exact h x k h1 h2
theorem sE.msg {g : hs} {k : Int32} (h : sE f g) : sE f (m_sayMsg n p u k g) := fun x j h1 h2 => by rw [sayMsg_a h2 (by omega)]; exact h x j h1 h2
theorem sE.fo {g : hs} {F : Nat → hs → hs} (hF : ∀ q g, sE f g → sE f (F q g)) (h : sE f g) : ∀ m q, sE f (fo F q m g) := by
  intro m
  induction m generalizing g with
  | zero => intro q; exact h
  | succ m ih => intro q; exact ih (hF q g h) (q + 1)
theorem B0.fo {b : Nat} {g : hs} {F : Nat → hs → hs} (hF : ∀ q g, B0 n b g → B0 n b (F q g)) (h : B0 n b g) : ∀ m q, B0 n b (fo F q m g) := by
  intro m
  induction m generalizing g with
  | zero => intro q; exact h
  | succ m ih => intro q; exact ih (hF q g h) (q + 1)
theorem sE.ite {c : Prop} [Decidable c] {g h : hs} (h1 : sE f g) (h2 : sE f h) : sE f (if c then g else h) := by split; exact h1; exact h2
theorem B0.ite {b : Nat} {c : Prop} [Decidable c] {g h : hs} (h1 : B0 n b g) (h2 : B0 n b h) : B0 n b (if c then g else h) := by split; exact h1; exact h2
theorem sE.fill1 {k : Int32} {g : hs} (h : sE f g) : sE f (m_fill1 n p u k g) := sE.fo (fun _ _ h => sE.ite h.start.say.msg.ship h) h n 0
theorem B0.fill1 {b : Nat} {k : Int32} (h : B0 n b f) : B0 n b (m_fill1 m p u k f) := B0.fo (fun _ _ h => B0.ite h.start.say.msg.ship h) h m 0
theorem r_fill1 {b : Nat} {k : Int32} (hS : Sh A) (hB : B0 n b f) (hp : p < 6) (hu : u < 6) (hk : ¬ k < 0) (h : Q (.inl none) (wI A (m_fill1 n p u k f))) : mC (d + 4) 205 [.ref 415, .int (nI p), .int (nI u), .int k] (wI A f) Q := by
  have hn6 := hB.2.1
  refine x_205_0 (shw hS) ?_
  refine (lp0 (P := fun t g => B0 n b g → mW (d + 3 + 1) 205 3 [.ref 415, .int (nI p), .int (nI u), .int k, .int (nI t)] [] (wI A g) Q) n (fun t f => if m_lacks p u k f t then m_ship p t 5 (m_sayMsg n p u k (m_say (nI u) (m_start f))) else f) (fun t g ht ih h1 => ?_) (fun h1 => ?_)) hB
  · refine x_205_3 (shw hS) ⟨fun _ => ?_, fun c => absurd ?_ c⟩
    · simp (disch := first | decide | omega) only [wI_I, wI_s, wI_P, wI_L, forall_eq, m2, m3, m5, m6, m7, m36, m46, m64, m256, m320, nI_add, k1, k2, k3, k4, k5, k6, k7, k8, k9, k10, k11, k12, k13, k64, nI_clamp, nI_ltI, nI_leI, nI_eq, u2_s, u2_a, u2_i, ixT, bi_z, bi_nz, bi_n1, bi_o1, true_and, and_true, true_implies, not_true, not_false_iff, Bool.not_eq_false, Bool.not_eq_true, forall_const, ne_eq, Classical.not_not, and_self]
      unfold m_lacks m_other at ih
      refine ⟨fun c => ?_, fun c => r_has (shw hS) (by omega) ?_⟩
      · rw [if_neg (by rw [decide_eq_false (fun q => q c)]; simp)] at ih; exact ih h1
      · show _ ∧ _
        simp (disch := first | decide | omega) only [wI_I, wI_s, wI_P, wI_L, forall_eq, m2, m3, m5, m6, m7, m36, m46, m64, m256, m320, nI_add, k1, k2, k3, k4, k5, k6, k7, k8, k9, k10, k11, k12, k13, k64, nI_clamp, nI_ltI, nI_leI, nI_eq, u2_s, u2_a, u2_i, ixT, bi_z, bi_nz, bi_n1, bi_o1, true_and, and_true, true_implies, not_true, not_false_iff, Bool.not_eq_false, Bool.not_eq_true, forall_const, ne_eq, Classical.not_not, and_self]
        refine ⟨fun c2 => ?_, fun c2 => ⟨fun c3 => ?_, fun c3 => ?_⟩⟩
        · rw [if_neg (by rw [c2]; simp)] at ih; exact ih h1
        · rw [if_pos (by rw [c2, decide_eq_true c, decide_eq_true c3]; rfl)] at ih
          refine r_startBody hS ?_
          refine r_say' hS (wr_0 _) (by decide) ?_
          refine r_sayMsg (n := n) (w := 0 + 1) hS h1.start.say.1 hn6 hp hu hk (wr_s (wr_0 _)) (by omega) ?_
          exact r_ship hS hp h1.start.say.msg.2.2.ok (wr_msg (wr_s (wr_0 _))) (by omega) (ih h1.start.say.msg.ship)
        · rw [if_neg (by rw [decide_eq_false c3]; simp)] at ih; exact ih h1
    · simp (disch := first | decide | omega) only [wI_I, wI_s, wI_P, wI_L, forall_eq, m2, m3, m5, m6, m7, m36, m46, m64, m256, m320, nI_add, k1, k2, k3, k4, k5, k6, k7, k8, k9, k10, k11, k12, k13, k64, nI_clamp, nI_ltI, nI_leI, nI_eq, u2_s, u2_a, u2_i, ixT, bi_z, bi_nz, bi_n1, bi_o1, true_and, and_true, true_implies, not_true, not_false_iff, Bool.not_eq_false, Bool.not_eq_true, forall_const, ne_eq, Classical.not_not, and_self, h1.1]; exact ht
  · refine x_205_3 (shw hS) ⟨fun c => absurd c ?_, fun _ => h⟩
    simp (disch := first | decide | omega) only [wI_I, wI_s, wI_P, wI_L, forall_eq, m2, m3, m5, m6, m7, m36, m46, m64, m256, m320, nI_add, k1, k2, k3, k4, k5, k6, k7, k8, k9, k10, k11, k12, k13, k64, nI_clamp, nI_ltI, nI_leI, nI_eq, u2_s, u2_a, u2_i, ixT, bi_z, bi_nz, bi_n1, bi_o1, true_and, and_true, true_implies, not_true, not_false_iff, Bool.not_eq_false, Bool.not_eq_true, forall_const, ne_eq, Classical.not_not, and_self, h1.1]; omega
/-- the goals of p and what all have stand in their bounds -/
def okC (n p : Nat) (f : hs) : Prop := ∀ u, u < n → ∃ gl lo, f 463 (6 * p + u) = nI gl ∧ gl ≤ 1000000 ∧ m_low n p f u = nI lo ∧ lo ≤ gl
theorem low_of {g : hs} (h : sE f g) : m_low n p g u = m_low n p f u := by
  unfold m_low
  simp only [fun k => h 461 k (by decide) (by decide), fun k => h 462 k (by decide) (by decide), fun k => h 463 k (by decide) (by decide)]
theorem sE.fillU {g : hs} (h : sE f g) : sE f (m_fillU n p u g) := sE.fo (fun _ _ h => sE.ite h.fill1 h) h _ _
theorem B0.fillU {b : Nat} (h : B0 n b f) : B0 n b (m_fillU m p u f) := B0.fo (fun _ _ h => B0.ite h.fill1 h) h _ _
theorem sE.fill {g : hs} (h : sE f g) : sE f (m_fill n p g) := sE.fo (fun _ _ h => h.fillU) h n 0
theorem B0.fill {b : Nat} (h : B0 n b f) : B0 n b (m_fill m p f) := B0.fo (fun _ _ h => h.fillU) h m 0
theorem r_fill {b : Nat} (hS : Sh A) (hB : B0 n b f) (hn0 : 0 < n) (hp : p < 6) (hC : okC n p f) (h : Q (.inl none) (wI A (m_fill n p f))) : mC (d + 5) 204 [.ref 415, .int (nI p)] (wI A f) Q := by
  have hn6 := hB.2.1
  refine x_204_0 (shw hS) ?_
  refine (lp0 (P := fun u g => B0 n b g → sE f g → ∀ w3 w4 w5, mW (d + 4 + 1) 204 2 [.ref 415, .int (nI p), .int (nI u), w3, w4, w5] [] (wI A g) Q) n (fun u f => m_fillU n p u f) (fun u g hu ih h1 h2 w3 w4 w5 => ?_) (fun h1 h2 w3 w4 w5 => ?_)) hB (sE.rfl f) _ _ _
  · obtain ⟨gl, lo, e1, e2, e3, e4⟩ := hC u hu
    have e1' : g 463 (6 * p + u) = nI gl := by rw [h2 463 _ (by decide) (by decide), e1]
    have e3' : m_low n p g u = nI lo := by rw [low_of h2, e3]
    refine x_204_2 (shw hS) ⟨fun _ => ?_, fun c => absurd ?_ c⟩
    · simp (disch := first | decide | omega) only [wI_I, wI_s, wI_P, wI_L, forall_eq, m2, m3, m5, m6, m7, m36, m46, m64, m256, m320, nI_add, k1, k2, k3, k4, k5, k6, k7, k8, k9, k10, k11, k12, k13, k64, nI_clamp, nI_ltI, nI_leI, nI_eq, u2_s, u2_a, u2_i, ixT, bi_z, bi_nz, bi_n1, bi_o1, true_and, and_true, true_implies, not_true, not_false_iff, Bool.not_eq_false, Bool.not_eq_true, forall_const, ne_eq, Classical.not_not, and_self]
      have ih' := ih h1.fillU h2.fillU
      unfold m_fillU at ih'
      rw [e3', e1', nI_clamp (by omega), nI_clamp (by omega)] at ih'
      unfold m_low at e3'
      refine lp0 (P := fun t x => ∀ w5, mW (d + 4 + 1) 204 25 [.ref 415, .int (nI p), .int (nI u), .int x, .int (nI t), w5] [] (wI A g) Q) n (fun t x => if hasb (g 461 p) t && decide (g 462 (36 * p + 6 * t + u) < x) then g 462 (36 * p + 6 * t + u) else x) (fun t x ht ih2 w5 => ?_) (fun w5 => ?_) _
      · refine x_204_25 (shw hS) ⟨fun _ => ?_, fun c => absurd ?_ c⟩
        · simp (disch := first | decide | omega) only [wI_I, wI_s, wI_P, wI_L, forall_eq, m2, m3, m5, m6, m7, m36, m46, m64, m256, m320, nI_add, k1, k2, k3, k4, k5, k6, k7, k8, k9, k10, k11, k12, k13, k64, nI_clamp, nI_ltI, nI_leI, nI_eq, u2_s, u2_a, u2_i, ixT, bi_z, bi_nz, bi_n1, bi_o1, true_and, and_true, true_implies, not_true, not_false_iff, Bool.not_eq_false, Bool.not_eq_true, forall_const, ne_eq, Classical.not_not, and_self]
          refine r_has (shw hS) (by omega) ?_
          show _ ∧ _
          simp (disch := first | decide | omega) only [wI_I, wI_s, wI_P, wI_L, forall_eq, m2, m3, m5, m6, m7, m36, m46, m64, m256, m320, nI_add, k1, k2, k3, k4, k5, k6, k7, k8, k9, k10, k11, k12, k13, k64, nI_clamp, nI_ltI, nI_leI, nI_eq, u2_s, u2_a, u2_i, ixT, bi_z, bi_nz, bi_n1, bi_o1, true_and, and_true, true_implies, not_true, not_false_iff, Bool.not_eq_false, Bool.not_eq_true, forall_const, ne_eq, Classical.not_not, and_self]
          refine ⟨fun c => ?_, fun c => ⟨fun c2 => ?_, fun c2 => ?_⟩⟩
          · rw [c] at ih2; exact ih2 _
          · rw [c, decide_eq_true c2] at ih2; exact ih2 _
          · rw [c, decide_eq_false c2] at ih2; exact ih2 _
        · simp (disch := first | decide | omega) only [wI_I, wI_s, wI_P, wI_L, forall_eq, m2, m3, m5, m6, m7, m36, m46, m64, m256, m320, nI_add, k1, k2, k3, k4, k5, k6, k7, k8, k9, k10, k11, k12, k13, k64, nI_clamp, nI_ltI, nI_leI, nI_eq, u2_s, u2_a, u2_i, ixT, bi_z, bi_nz, bi_n1, bi_o1, true_and, and_true, true_implies, not_true, not_false_iff, Bool.not_eq_false, Bool.not_eq_true, forall_const, ne_eq, Classical.not_not, and_self, h1.1]; exact ht
      · refine x_204_25 (shw hS) ⟨fun c => absurd c ?_, fun _ => ?_⟩
        · simp (disch := first | decide | omega) only [wI_I, wI_s, wI_P, wI_L, forall_eq, m2, m3, m5, m6, m7, m36, m46, m64, m256, m320, nI_add, k1, k2, k3, k4, k5, k6, k7, k8, k9, k10, k11, k12, k13, k64, nI_clamp, nI_ltI, nI_leI, nI_eq, u2_s, u2_a, u2_i, ixT, bi_z, bi_nz, bi_n1, bi_o1, true_and, and_true, true_implies, not_true, not_false_iff, Bool.not_eq_false, Bool.not_eq_true, forall_const, ne_eq, Classical.not_not, and_self, h1.1]; omega
        · rw [e3', k1]
          refine (lp (P := fun i g => B0 n b g → sE f g → ∀ w3 w5, mW (d + 4 + 1) 204 87 [.ref 415, .int (nI p), .int (nI u), w3, .int (nI i), w5] [] (wI A g) Q) (gl + 1) (fun i f => if m_giver n p u (nI i) f = nI p then m_fill1 n p u (nI i) f else f) (fun i g2 hi ih3 h3 h4 w3 w5 => ?_) (gl - lo) (lo + 1) g (by omega) (fun h3 h4 w3 w5 => ?_)) h1 h2 _ _
          · refine x_204_87 (shw hS) ?_
            have e5 : g2 463 (6 * p + u) = nI gl := by rw [h4 463 _ (by decide) (by decide), e1]
            simp (disch := first | decide | omega) only [wI_I, wI_s, wI_P, wI_L, forall_eq, m2, m3, m5, m6, m7, m36, m46, m64, m256, m320, nI_add, k1, k2, k3, k4, k5, k6, k7, k8, k9, k10, k11, k12, k13, k64, nI_clamp, nI_ltI, nI_leI, nI_eq, u2_s, u2_a, u2_i, ixT, bi_z, bi_nz, bi_n1, bi_o1, true_and, and_true, true_implies, not_true, not_false_iff, Bool.not_eq_false, Bool.not_eq_true, forall_const, ne_eq, Classical.not_not, and_self, e5]
            refine ⟨fun c => absurd c (by omega), fun _ => ?_⟩
            refine r_giver hS h3.1 hn6 hn0 hp (by omega) ?_
            show _ ∧ _
            simp (disch := first | decide | omega) only [wI_I, wI_s, wI_P, wI_L, forall_eq, m2, m3, m5, m6, m7, m36, m46, m64, m256, m320, nI_add, k1, k2, k3, k4, k5, k6, k7, k8, k9, k10, k11, k12, k13, k64, nI_clamp, nI_ltI, nI_leI, nI_eq, u2_s, u2_a, u2_i, ixT, bi_z, bi_nz, bi_n1, bi_o1, true_and, and_true, true_implies, not_true, not_false_iff, Bool.not_eq_false, Bool.not_eq_true, forall_const, ne_eq, Classical.not_not, and_self]
            refine ⟨fun c => ?_, fun c => ?_⟩
            · rw [if_neg (of_decide_eq_false c)] at ih3; exact ih3 h3 h4 _ _
            · rw [if_pos (of_decide_eq_true c)] at ih3
              exact r_fill1 hS h3 hp (by omega) (nI_pos (by omega)) (ih3 h3.fill1 h4.fill1 _ _)
          · refine x_204_87 (shw hS) ?_
            generalize hgg : fo (fun i f => if m_giver n p u (nI i) f = nI p then m_fill1 n p u (nI i) f else f) (lo + 1) (gl - lo) g = g2 at h3 h4 ih' ⊢
            have e5 : g2 463 (6 * p + u) = nI gl := by rw [h4 463 _ (by decide) (by decide), e1]
            simp (disch := first | decide | omega) only [wI_I, wI_s, wI_P, wI_L, forall_eq, m2, m3, m5, m6, m7, m36, m46, m64, m256, m320, nI_add, k1, k2, k3, k4, k5, k6, k7, k8, k9, k10, k11, k12, k13, k64, nI_clamp, nI_ltI, nI_leI, nI_eq, u2_s, u2_a, u2_i, ixT, bi_z, bi_nz, bi_n1, bi_o1, true_and, and_true, true_implies, not_true, not_false_iff, Bool.not_eq_false, Bool.not_eq_true, forall_const, ne_eq, Classical.not_not, and_self, e5]
            refine ⟨fun _ => ?_, fun c => absurd (by omega) c⟩
            exact ih' _ _ _
    · simp (disch := first | decide | omega) only [wI_I, wI_s, wI_P, wI_L, forall_eq, m2, m3, m5, m6, m7, m36, m46, m64, m256, m320, nI_add, k1, k2, k3, k4, k5, k6, k7, k8, k9, k10, k11, k12, k13, k64, nI_clamp, nI_ltI, nI_leI, nI_eq, u2_s, u2_a, u2_i, ixT, bi_z, bi_nz, bi_n1, bi_o1, true_and, and_true, true_implies, not_true, not_false_iff, Bool.not_eq_false, Bool.not_eq_true, forall_const, ne_eq, Classical.not_not, and_self, h1.1]; exact hu
  · refine x_204_2 (shw hS) ⟨fun c => absurd c ?_, fun _ => h⟩
    simp (disch := first | decide | omega) only [wI_I, wI_s, wI_P, wI_L, forall_eq, m2, m3, m5, m6, m7, m36, m46, m64, m256, m320, nI_add, k1, k2, k3, k4, k5, k6, k7, k8, k9, k10, k11, k12, k13, k64, nI_clamp, nI_ltI, nI_leI, nI_eq, u2_s, u2_a, u2_i, ixT, bi_z, bi_nz, bi_n1, bi_o1, true_and, and_true, true_implies, not_true, not_false_iff, Bool.not_eq_false, Bool.not_eq_true, forall_const, ne_eq, Classical.not_not, and_self, h1.1]; omega
theorem fo_sE {c : Nat → hs → Int32} : ∀ m q (g : hs), sE f g → sE f (fo (fun k f => m_say (c k f) f) q m g) := fun m q g h => sE.fo (fun _ _ h => h.say) h m q
theorem r_sRea {b w : Nat} (hS : Sh A) (hB : B0 n b f) (hp : p < 6) (hw : f 435 p = nI w) (hw6 : w < 6) (h : Q (.inl none) (wI A (m_sRea p f))) : mC (d + 2) 206 [.ref 415, .int (nI p)] (wI A f) Q := by
  unfold m_sRea at h
  rw [hw, nI_clamp (by omega)] at h
  refine x_206_0 (shw hS) (r_startBody hS ?_)
  refine (lp0 (P := fun k g => B0 n b g → wr g k → sE f g → mW (d + 1 + 1) 206 6 [.ref 415, .int (nI p), .int (nI k)] [] (wI A g) Q) 6 (fun k f => m_say (f 439 (6 * p + k)) f) (fun k g hk ih h1 h2 h3 => ?_) (fun h1 h2 h3 => ?_)) hB.start (wr_0 _) (sE.rfl f).start
  · refine x_206_6 (shw hS) ⟨fun _ => ?_, fun c => absurd (nI_lt (b := 6) hk (by decide)) c⟩
    simp (disch := first | decide | omega) only [wI_I, wI_s, wI_P, wI_L, forall_eq, m2, m3, m5, m6, m7, m36, m46, m64, m256, m320, nI_add, k1, k2, k3, k4, k5, k6, k7, k8, k9, k10, k11, k12, k13, k64, nI_clamp, nI_ltI, nI_leI, nI_eq, u2_s, u2_a, u2_i, ixT, bi_z, bi_nz, bi_n1, bi_o1, true_and, and_true, true_implies, not_true, not_false_iff, Bool.not_eq_false, Bool.not_eq_true, forall_const, ne_eq, Classical.not_not, and_self]
    exact r_say' hS h2 (by omega) (ih h1.say (wr_s h2) h3.say)
  · refine x_206_6 (shw hS) ⟨fun c => absurd c (by decide), fun _ => ⟨ixn hp (by decide), ?_⟩⟩
    simp (disch := first | decide | omega) only [wI_I, wI_s, wI_P, wI_L, forall_eq, m2, m3, m5, m6, m7, m36, m46, m64, m256, m320, nI_add, k1, k2, k3, k4, k5, k6, k7, k8, k9, k10, k11, k12, k13, k64, nI_clamp, nI_ltI, nI_leI, nI_eq, u2_s, u2_a, u2_i, ixT, bi_z, bi_nz, bi_n1, bi_o1, true_and, and_true, true_implies, not_true, not_false_iff, Bool.not_eq_false, Bool.not_eq_true, forall_const, ne_eq, Classical.not_not, and_self, h3 435 p (by decide) (by decide), hw]
    exact r_ship hS hp h1.2.2.ok h2 (by decide) h
theorem r_sIns {b : Nat} (hS : Sh A) (hB : B0 n b f) (hp : p < 6) (h : Q (.inl none) (wI A (m_sIns p q f))) : mC (d + 2) 209 [.ref 415, .int (nI p), .int (nI q)] (wI A f) Q := by
  unfold m_sIns at h
  refine x_209_0 (shw hS) (r_startBody hS ?_)
  refine (lp0 (P := fun k g => B0 n b g → wr g k → mW (d + 1 + 1) 209 6 [.ref 415, .int (nI p), .int (nI q), .int (nI k)] [] (wI A g) Q) 7 (fun k f => m_say (f 440 (7 * p + k)) f) (fun k g hk ih h1 h2 => ?_) (fun h1 h2 => ?_)) hB.start (wr_0 _)
  · refine x_209_6 (shw hS) ⟨fun _ => ?_, fun c => absurd (nI_lt (b := 7) hk (by decide)) c⟩
    simp (disch := first | decide | omega) only [wI_I, wI_s, wI_P, wI_L, forall_eq, m2, m3, m5, m6, m7, m36, m46, m64, m256, m320, nI_add, k1, k2, k3, k4, k5, k6, k7, k8, k9, k10, k11, k12, k13, k64, nI_clamp, nI_ltI, nI_leI, nI_eq, u2_s, u2_a, u2_i, ixT, bi_z, bi_nz, bi_n1, bi_o1, true_and, and_true, true_implies, not_true, not_false_iff, Bool.not_eq_false, Bool.not_eq_true, forall_const, ne_eq, Classical.not_not, and_self]
    exact r_say' hS h2 (by omega) (ih h1.say (wr_s h2))
  · refine x_209_6 (shw hS) ⟨fun c => absurd c (by decide), fun _ => ?_⟩
    exact r_ship hS hp h1.2.2.ok h2 (by decide) h
end
