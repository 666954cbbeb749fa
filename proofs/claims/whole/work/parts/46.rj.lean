/-! The reference's methods do what the model says: a view installed, all ready, looking at a cut. -/
section
variable {A : am_A} {f : hs} {Q : am_Res → am_A → Prop} {d n p q u t m : Nat}
def t_row (a b j : Nat) (c : Nat → Int32) (f : hs) : hs := fun x k => if x = a ∧ b ≤ k ∧ k < b + j then c (k - b) else f x k
theorem t_row0 {a b : Nat} {c : Nat → Int32} : t_row a b 0 c f = f := by funext x k; unfold t_row; rw [if_neg (by omega)]
theorem t_rows {a b j : Nat} {c : Nat → Int32} : am_u2 (t_row a b j c f) a (b + j) (c j) = t_row a b (j + 1) c f := by
  funext x k
  simp only [u2_e, t_row]
  (repeat' split) <;> first | rfl | omega | (congr 1; omega)
theorem t_row_a {a b j x k : Nat} {c : Nat → Int32} (h : x ≠ a) : t_row a b j c f x k = f x k := by unfold t_row; rw [if_neg (fun e => h e.1)]
theorem fresh_a {a k : Nat} (h : a < 441 ∨ 445 < a) (h2 : a ≠ 449) : m_fresh p f a k = f a k := by
  unfold m_fresh; rw [if_neg (by omega), if_neg (by omega), if_neg (by omega), if_neg (by omega)]
theorem r_inst {b a r : Nat} (hS : Sh A) (hp : p < 6) (hO : okE n b p f) (ha : am_V A 1 a) (ha2 : a = 440 ∨ a = 418) (hr : r + 7 ≤ am_L A a) (hl : am_L A a < 100000) (h : Q (.inl none) (wI A (m_inst n p (f a r) (fun k => f a (r + 1 + k)) f))) : mC (d + 6) 210 [.ref 415, .int (nI p), .ref a, .int (nI r)] (wI A f) Q := by
  refine x_210_0 (shw hS) (r_end hS hp hO ?_)
  have ea : ∀ k, m_end n p f a k = f a k := fun k => end_a (by omega)
  have hev : ¬ m_end n p f 424 p < 0 := (hO.2.2.1 500).2.1.2.2
  have e4 : ∀ x k, x = 431 ∨ x = 432 ∨ x = 434 ∨ x = 435 → m_end n p f x k = f x k := fun x k hx => end_a (by omega)
  unfold m_inst at h
  have L : mW (d + 5 + 1) 210 8 [.ref 415, .int (nI p), .ref a, .int (nI r), .int (nI 0)] [] (wI A (t_row 438 (6 * p) 0 (fun k => f a (r + 1 + k)) (m_end n p f))) Q := by
    refine l0 (P := fun j => mW (d + 5 + 1) 210 8 [.ref 415, .int (nI p), .ref a, .int (nI r), .int (nI j)] [] (wI A (t_row 438 (6 * p) j (fun k => f a (r + 1 + k)) (m_end n p f))) Q) 6 (fun j hj ih => ?_) ?_
    · refine x_210_8 (shw hS) ⟨fun _ => ⟨avw ha, ?_, ?_⟩, fun c => absurd (nI_lt (b := 6) hj (by decide)) c⟩
      · rw [k1, nI_add, wI_L]; exact ixn (by omega) hl
      · have e1 : t_row 438 (6 * p) j (fun k => f a (r + 1 + k)) (m_end n p f) a (r + 1 + j) = f a (r + 1 + j) := by rw [t_row_a (by omega), ea]
        simp (disch := first | decide | omega) only [wI_I, wI_s, wI_P, wI_L, forall_eq, m2, m3, m5, m6, m7, m36, m46, m64, m256, m320, nI_add, k1, k2, k3, k4, k5, k6, k7, k8, k9, k10, k11, k12, k13, k64, nI_clamp, nI_ltI, nI_leI, nI_eq, u2_s, u2_a, u2_i, ixT, bi_z, bi_nz, bi_n1, bi_o1, true_and, and_true, true_implies, not_true, not_false_iff, Bool.not_eq_false, Bool.not_eq_true, forall_const, ne_eq, Classical.not_not, and_self, e1, t_rows (c := fun k => f a (r + 1 + k))]
        exact ih
    · generalize hg : t_row 438 (6 * p) 6 (fun k => f a (r + 1 + k)) (m_end n p f) = g
      have hg' : m_row 6 438 (6 * p) (fun k => f a (r + 1 + k)) (m_end n p f) = g := hg
      rw [hg'] at h
      dsimp only at h
      have gA : ∀ x k, x ≠ 438 → g x k = m_end n p f x k := fun x k hx => by rw [← hg]; exact t_row_a hx
      have gr : ∀ k, g a k = f a k := fun k => by rw [gA a k (by omega), ea]
      have fin : ∀ (o : hs) w4, (∀ x k, x ≠ 438 → o x k = g x k) → Q (.inl none) (wI A (m_note p 1 (f 434 p) (f 435 p) (f a r) (o 438 (6 * p)) (m_fresh p (am_u2 (am_u2 (am_u2 (am_u2 (am_u2 o 431 p (f 434 p)) 432 p (f 435 p)) 433 p (f a r)) 436 p 0) 437 p 0)))) → mW (d + 5 + 1) 210 82 [.ref 415, .int (nI p), .ref a, .int (nI r), w4] [] (wI A o) Q := fun o w4 ho hq => by
        refine x_210_82 (shw hS) ?_
        have o1 : o 434 p = f 434 p := by rw [ho _ _ (by decide), gA _ _ (by decide), e4 _ _ (by decide)]
        have o2 : o 435 p = f 435 p := by rw [ho _ _ (by decide), gA _ _ (by decide), e4 _ _ (by decide)]
        have o3 : o a r = f a r := by rw [ho _ _ (by omega), gr]
        have ne1 : a ≠ 431 := by omega
        have ne2 : a ≠ 432 := by omega
        simp (disch := first | decide | omega) only [wI_I, wI_s, wI_P, wI_L, forall_eq, m2, m3, m5, m6, m7, m36, m46, m64, m256, m320, nI_add, k1, k2, k3, k4, k5, k6, k7, k8, k9, k10, k11, k12, k13, k64, nI_clamp, nI_ltI, nI_leI, nI_eq, u2_s, u2_a, u2_i, ixT, bi_z, bi_nz, bi_n1, bi_o1, true_and, and_true, true_implies, not_true, not_false_iff, Bool.not_eq_false, Bool.not_eq_true, forall_const, ne_eq, Classical.not_not, and_self, o1, o2, o3]
        refine ⟨avw ha, ?_⟩
        refine r_fresh hS hp ?_
        show mC _ _ _ _ _
        simp (disch := first | decide | omega) only [wI_I, wI_s, wI_P, wI_L, forall_eq, m2, m3, m5, m6, m7, m36, m46, m64, m256, m320, nI_add, k1, k2, k3, k4, k5, k6, k7, k8, k9, k10, k11, k12, k13, k64, nI_clamp, nI_ltI, nI_leI, nI_eq, u2_s, u2_a, u2_i, ixT, bi_z, bi_nz, bi_n1, bi_o1, true_and, and_true, true_implies, not_true, not_false_iff, Bool.not_eq_false, Bool.not_eq_true, forall_const, ne_eq, Classical.not_not, and_self, fresh_a, u2_a, u2_s, u2_i]
        refine r_note hS hp ?_ hq
        rw [fresh_a (by decide) (by decide)]
        simp (disch := first | decide | omega) only [u2_a]
        rw [ho _ _ (by decide), gA _ _ (by decide)]
        exact hev
      refine x_210_8 (shw hS) ⟨fun c => absurd c (by decide), fun _ => ?_⟩
      simp (disch := first | decide | omega) only [wI_I, wI_s, wI_P, wI_L, forall_eq, m2, m3, m5, m6, m7, m36, m46, m64, m256, m320, nI_add, k1, k2, k3, k4, k5, k6, k7, k8, k9, k10, k11, k12, k13, k64, nI_clamp, nI_ltI, nI_leI, nI_eq, u2_s, u2_a, u2_i, ixT, bi_z, bi_nz, bi_n1, bi_o1, true_and, and_true, true_implies, not_true, not_false_iff, Bool.not_eq_false, Bool.not_eq_true, forall_const, ne_eq, Classical.not_not, and_self]
      have neg : g 438 (6 * p + 1) < 0 ∨ (f a r >>> (g 438 (6 * p + 1) &&& 31)) &&& 1 ≠ 1 → mW (d + 5 + 1) 210 70 [.ref 415, .int (nI p), .ref a, .int (nI r), .int (g 438 (6 * p + 1))] [] (wI A g) Q := fun c => by
        rw [if_pos c] at h
        refine x_210_70 (shw hS) ?_
        simp (disch := first | decide | omega) only [wI_I, wI_s, wI_P, wI_L, forall_eq, m2, m3, m5, m6, m7, m36, m46, m64, m256, m320, nI_add, k1, k2, k3, k4, k5, k6, k7, k8, k9, k10, k11, k12, k13, k64, nI_clamp, nI_ltI, nI_leI, nI_eq, u2_s, u2_a, u2_i, ixT, bi_z, bi_nz, bi_n1, bi_o1, true_and, and_true, true_implies, not_true, not_false_iff, Bool.not_eq_false, Bool.not_eq_true, forall_const, ne_eq, Classical.not_not, and_self]
        exact fin _ _ (fun x k hx => u2_a hx) h
      refine ⟨fun c => neg (Or.inl c), fun c => ⟨avw ha, ?_⟩⟩
      · rw [gr]
        refine x_154_0 (shw hS) ⟨fun c2 => ?_, fun c2 => ?_⟩
        · show _ ∧ _
          refine ⟨fun c3 => absurd c3 (by decide), fun _ => ?_⟩
          rw [if_neg (fun q => q.elim c (fun q => q c2))] at h
          exact fin _ _ (fun x k hx => rfl) h
        · show _ ∧ _
          exact ⟨fun _ => neg (Or.inr c2), fun c3 => absurd rfl c3⟩
  rw [t_row0] at L
  exact L
theorem sE.sIns {g : hs} (h : sE f g) : sE f (m_sIns p q g) := sE.ship (fo_sE 7 0 _ h.start)
theorem B0.sIns {b : Nat} (h : B0 n b f) : B0 n b (m_sIns p q f) := B0.ship (B0.fo (fun _ _ h => h.say) h.start 7 0)
theorem note_0 {w x y z e : Int32} {a k : Nat} (h : f 415 60 ≠ 0) : m_note p w x y z e f a k = f a k := by unfold m_note; rw [if_neg h]
theorem B0.note {b : Nat} {w x y z e : Int32} (h : B0 n b f) : B0 n b (m_note p w x y z e f) := h.of (fun k hk => note_a (by omega)) (fun j => note_a (by decide))
theorem B0.endv {b : Nat} (h : B0 n b f) : B0 n b (m_end m p f) := h.of (fun k hk => end_a (by omega)) (fun j => end_a (by decide))
theorem inst_a {s : Int32} {c : Nat → Int32} {a k : Nat} (h : a < 424 ∨ a = 434 ∨ a = 435 ∨ a = 440 ∨ 452 < a) : m_inst n p s c f a k = f a k := by
  show m_note p 1 (f 434 p) (f 435 p) s _ (m_fresh p (am_u2 (am_u2 (am_u2 (am_u2 (am_u2 (if _ then _ else _) 431 p _) 432 p _) 433 p _) 436 p _) 437 p _)) a k = f a k
  rw [note_a (by omega), fresh_a (by omega) (by omega), u2_a (by omega), u2_a (by omega), u2_a (by omega), u2_a (by omega), u2_a (by omega)]
  split
  · rw [u2_a (by omega)]; unfold m_row; rw [if_neg (by omega), end_a (by omega)]
  · unfold m_row; rw [if_neg (by omega), end_a (by omega)]
theorem B0.inst {b : Nat} {s : Int32} {c : Nat → Int32} (h : B0 n b f) : B0 n b (m_inst m p s c f) := h.of (fun k hk => inst_a (by omega)) (fun j => inst_a (by decide))
/-- the best end so far, i of n looked at from the last on -/
def m_bst (n p : Nat) (f : hs) (i : Nat) (x : Int32) : Int32 := if hasb (f 454 p) (n - 1 - i) && (decide (x < 0) || decide (f 460 (36 * p + 6 * Int32.toNatClampNeg x) ≤ f 460 (36 * p + 6 * (n - 1 - i)))) then nI (n - 1 - i) else x
theorem bst_ok {x : Int32} {i : Nat} (hn6 : n ≤ 6) (h : x = -1 ∨ ∃ j, j < 6 ∧ x = nI j) (hi : i < n) : m_bst n p f i x = -1 ∨ ∃ j, j < 6 ∧ m_bst n p f i x = nI j := by
  unfold m_bst
  split
  · exact Or.inr ⟨_, by omega, rfl⟩
  · exact h
theorem r_readyAll {b w : Nat} (hS : Sh A) (hB : B0 n b f) (hn0 : 0 < n) (hp : p < 6) (hb : f 456 p = f 454 p → m_best n p f = nI w) (hw : w < 6)
    (hO : f 456 p = f 454 p → okE n b p (am_u2 (m_row 6 440 (7 * p + 1) (fun k => f 460 (36 * p + 6 * Int32.toNatClampNeg (m_best n p f) + k)) (am_u2 f 440 (7 * p) (f 454 p))) 453 p 0))
    (h : Q (.inl none) (wI A (m_readyAll n p f))) : mC (d + 7) 208 [.ref 415, .int (nI p)] (wI A f) Q := by
  have hn6 := hB.2.1
  unfold m_readyAll at h
  refine x_208_0 (shw hS) ?_
  simp (disch := first | decide | omega) only [wI_I, wI_s, wI_P, wI_L, forall_eq, m2, m3, m5, m6, m7, m36, m46, m64, m256, m320, nI_add, k1, k2, k3, k4, k5, k6, k7, k8, k9, k10, k11, k12, k13, k64, nI_clamp, nI_ltI, nI_leI, nI_eq, u2_s, u2_a, u2_i, ixT, bi_z, bi_nz, bi_n1, bi_o1, true_and, and_true, true_implies, not_true, not_false_iff, Bool.not_eq_false, Bool.not_eq_true, forall_const, ne_eq, Classical.not_not, and_self, hB.1]
  refine ⟨fun c => ?_, fun c => by rw [if_pos c] at h; exact h⟩
  have hb := hb c
  have hO := hO c
  rw [if_neg (fun q => q c)] at h
  rw [hb, nI_clamp (by omega)] at hO h
  have dn : ∀ i, i + 1 < n → nI (n - 1 - i) + (-1 : Int32) = nI (n - 1 - (i + 1)) := fun i hi => by
    rw [show n - 1 - i = (n - 1 - (i + 1)) + 1 by omega, ← k1]
    generalize nI (n - 1 - (i + 1)) = x
    rw [Int32.add_assoc, dn_1, Int32.add_zero]
  have rest : mW (d + 6 + 1) 208 102 [.ref 415, .int (nI p), .int (nI w), .int 0] [] (wI A (am_u2 f 440 (7 * p) (f 454 p))) Q := by
    have L : mW (d + 6 + 1) 208 102 [.ref 415, .int (nI p), .int (nI w), .int (nI 0)] [] (wI A (t_row 440 (7 * p + 1) 0 (fun k => f 460 (36 * p + 6 * w + k)) (am_u2 f 440 (7 * p) (f 454 p)))) Q := by
      refine l0 (P := fun j => mW (d + 6 + 1) 208 102 [.ref 415, .int (nI p), .int (nI w), .int (nI j)] [] (wI A (t_row 440 (7 * p + 1) j (fun k => f 460 (36 * p + 6 * w + k)) (am_u2 f 440 (7 * p) (f 454 p)))) Q) 6 (fun j hj ih => ?_) ?_
      · refine x_208_102 (shw hS) ⟨fun _ => ?_, fun c => absurd (nI_lt (b := 6) hj (by decide)) c⟩
        have e1 : t_row 440 (7 * p + 1) j (fun k => f 460 (36 * p + 6 * w + k)) (am_u2 f 440 (7 * p) (f 454 p)) 460 (36 * p + 6 * w + j) = f 460 (36 * p + 6 * w + j) := by rw [t_row_a (by decide), u2_a (by decide)]
        simp (disch := first | decide | omega) only [wI_I, wI_s, wI_P, wI_L, forall_eq, m2, m3, m5, m6, m7, m36, m46, m64, m256, m320, nI_add, k1, k2, k3, k4, k5, k6, k7, k8, k9, k10, k11, k12, k13, k64, nI_clamp, nI_ltI, nI_leI, nI_eq, u2_s, u2_a, u2_i, ixT, bi_z, bi_nz, bi_n1, bi_o1, true_and, and_true, true_implies, not_true, not_false_iff, Bool.not_eq_false, Bool.not_eq_true, forall_const, ne_eq, Classical.not_not, and_self, e1, t_rows (c := fun k => f 460 (36 * p + 6 * w + k))]
        exact ih
      · refine x_208_102 (shw hS) ⟨fun c => absurd c (by decide), fun _ => ⟨ixn hp (by decide), ?_⟩⟩
        simp (disch := first | decide | omega) only [wI_I, wI_s, wI_P, wI_L, forall_eq, m2, m3, m5, m6, m7, m36, m46, m64, m256, m320, nI_add, k1, k2, k3, k4, k5, k6, k7, k8, k9, k10, k11, k12, k13, k64, nI_clamp, nI_ltI, nI_leI, nI_eq, u2_s, u2_a, u2_i, ixT, bi_z, bi_nz, bi_n1, bi_o1, true_and, and_true, true_implies, not_true, not_false_iff, Bool.not_eq_false, Bool.not_eq_true, forall_const, ne_eq, Classical.not_not, and_self]
        generalize hg : am_u2 (t_row 440 (7 * p + 1) 6 (fun k => f 460 (36 * p + 6 * w + k)) (am_u2 f 440 (7 * p) (f 454 p))) 453 p 0 = g
        have hg' : am_u2 (m_row 6 440 (7 * p + 1) (fun k => f 460 (36 * p + 6 * w + k)) (am_u2 f 440 (7 * p) (f 454 p))) 453 p 0 = g := hg
        rw [hg'] at hO
        simp only [hg'] at h
        have hBg : B0 n b g := hB.of (fun k hk => by rw [← hg, u2_a (by decide), t_row_a (by decide), u2_a (by decide)]) (fun j => by rw [← hg, u2_a (by decide), t_row_a (by decide), u2_a (by decide)])
        refine r_inst (b := b) (n := n) hS hp hO (hS.vh 25 1 42 rfl) (Or.inl rfl) (by rw [hS.lh 25 1 42 rfl]; omega) (by rw [hS.lh 25 1 42 rfl]; decide) ?_
        show mW _ _ _ _ _ _ _
        simp (disch := first | decide | omega) only [wI_I, wI_s, wI_P, wI_L, forall_eq, m2, m3, m5, m6, m7, m36, m46, m64, m256, m320, nI_add, k1, k2, k3, k4, k5, k6, k7, k8, k9, k10, k11, k12, k13, k64, nI_clamp, nI_ltI, nI_leI, nI_eq, u2_s, u2_a, u2_i, ixT, bi_z, bi_nz, bi_n1, bi_o1, true_and, and_true, true_implies, not_true, not_false_iff, Bool.not_eq_false, Bool.not_eq_true, forall_const, ne_eq, Classical.not_not, and_self]
        have hBi : B0 n b (am_u2 (m_inst n p (g 440 (7 * p)) (fun k => g 440 (7 * p + 1 + k)) g) 437 p 1) := (hBg.inst (m := n) (p := p) (s := g 440 (7 * p)) (c := fun k => g 440 (7 * p + 1 + k))).of (fun k hk => u2_a (by decide)) (fun j => u2_a (by decide))
        refine (lp0 (P := fun q g => B0 n b g → ∀ w2, mW (d + 6 + 1) 208 172 [.ref 415, .int (nI p), w2, .int (nI q)] [] (wI A g) Q) n (fun q f => if m_other p (f 433 p) q then m_sIns p q f else f) (fun q x hq ih h1 w2 => ?_) (fun h1 w2 => ?_)) hBi _
        · refine x_208_172 (shw hS) ⟨fun _ => ?_, fun c => absurd ?_ c⟩
          · simp (disch := first | decide | omega) only [wI_I, wI_s, wI_P, wI_L, forall_eq, m2, m3, m5, m6, m7, m36, m46, m64, m256, m320, nI_add, k1, k2, k3, k4, k5, k6, k7, k8, k9, k10, k11, k12, k13, k64, nI_clamp, nI_ltI, nI_leI, nI_eq, u2_s, u2_a, u2_i, ixT, bi_z, bi_nz, bi_n1, bi_o1, true_and, and_true, true_implies, not_true, not_false_iff, Bool.not_eq_false, Bool.not_eq_true, forall_const, ne_eq, Classical.not_not, and_self]
            unfold m_other at ih
            refine ⟨fun c => ?_, fun c => r_has (shw hS) (by omega) ?_⟩
            · rw [if_neg (by rw [decide_eq_false (fun q => q c)]; simp)] at ih; exact ih h1 _
            · show _ ∧ _
              simp (disch := first | decide | omega) only [wI_I, wI_s, wI_P, wI_L, forall_eq, m2, m3, m5, m6, m7, m36, m46, m64, m256, m320, nI_add, k1, k2, k3, k4, k5, k6, k7, k8, k9, k10, k11, k12, k13, k64, nI_clamp, nI_ltI, nI_leI, nI_eq, u2_s, u2_a, u2_i, ixT, bi_z, bi_nz, bi_n1, bi_o1, true_and, and_true, true_implies, not_true, not_false_iff, Bool.not_eq_false, Bool.not_eq_true, forall_const, ne_eq, Classical.not_not, and_self]
              refine ⟨fun c2 => ?_, fun c2 => ?_⟩
              · rw [if_neg (by rw [c2]; simp)] at ih; exact ih h1 _
              · rw [if_pos (by rw [c2, decide_eq_true c]; rfl)] at ih
                exact r_sIns hS h1 hp (ih h1.sIns _)
          · simp (disch := first | decide | omega) only [wI_I, wI_s, wI_P, wI_L, forall_eq, m2, m3, m5, m6, m7, m36, m46, m64, m256, m320, nI_add, k1, k2, k3, k4, k5, k6, k7, k8, k9, k10, k11, k12, k13, k64, nI_clamp, nI_ltI, nI_leI, nI_eq, u2_s, u2_a, u2_i, ixT, bi_z, bi_nz, bi_n1, bi_o1, true_and, and_true, true_implies, not_true, not_false_iff, Bool.not_eq_false, Bool.not_eq_true, forall_const, ne_eq, Classical.not_not, and_self, h1.1]; exact hq
        · refine x_208_172 (shw hS) ⟨fun c => absurd c ?_, fun _ => h⟩
          simp (disch := first | decide | omega) only [wI_I, wI_s, wI_P, wI_L, forall_eq, m2, m3, m5, m6, m7, m36, m46, m64, m256, m320, nI_add, k1, k2, k3, k4, k5, k6, k7, k8, k9, k10, k11, k12, k13, k64, nI_clamp, nI_ltI, nI_leI, nI_eq, u2_s, u2_a, u2_i, ixT, bi_z, bi_nz, bi_n1, bi_o1, true_and, and_true, true_implies, not_true, not_false_iff, Bool.not_eq_false, Bool.not_eq_true, forall_const, ne_eq, Classical.not_not, and_self, h1.1]; omega
    rw [t_row0] at L
    exact L
  have key : ∀ m i x, i + m = n → (x = -1 ∨ ∃ j, j < 6 ∧ x = nI j) → fo (m_bst n p f) i m x = nI w → mW (d + 6 + 1) 208 25 [.ref 415, .int (nI p), .int x, .int (if i = n then -1 else nI (n - 1 - i))] [] (wI A f) Q := by
    intro m
    induction m with
    | zero =>
      intro i x hi hx hq
      have hq' : x = nI w := hq
      rw [if_pos (by omega), hq']
      refine x_208_25 (shw hS) ⟨fun _ => ?_, fun c => absurd neg1 c⟩
      simp (disch := first | decide | omega) only [wI_I, wI_s, wI_P, wI_L, forall_eq, m2, m3, m5, m6, m7, m36, m46, m64, m256, m320, nI_add, k1, k2, k3, k4, k5, k6, k7, k8, k9, k10, k11, k12, k13, k64, nI_clamp, nI_ltI, nI_leI, nI_eq, u2_s, u2_a, u2_i, ixT, bi_z, bi_nz, bi_n1, bi_o1, true_and, and_true, true_implies, not_true, not_false_iff, Bool.not_eq_false, Bool.not_eq_true, forall_const, ne_eq, Classical.not_not, and_self]
      exact rest
    | succ m ih =>
      intro i x hi hx hq
      have hq' : fo (m_bst n p f) (i + 1) m (m_bst n p f i x) = nI w := hq
      rw [if_neg (by omega)]
      have nx : mW (d + 6 + 1) 208 25 [.ref 415, .int (nI p), .int (m_bst n p f i x), .int (nI (n - 1 - i) + (-1 : Int32))] [] (wI A f) Q := by
        have := ih (i + 1) _ (by omega) (bst_ok hn6 hx (by omega)) hq'
        by_cases e2 : i + 1 = n
        · rw [if_pos e2] at this
          rw [show n - 1 - i = 0 by omega, dn_0]
          exact this
        · rw [if_neg e2] at this; rw [dn i (by omega)]; exact this
      refine x_208_25 (shw hS) ⟨fun c => absurd c (nI_pos (by omega)), fun _ => ⟨ixn hp (by decide), r_has (shw hS) (by omega) ?_⟩⟩
      show _ ∧ _
      unfold m_bst at nx
      simp (disch := first | decide | omega) only [wI_I, wI_s, wI_P, wI_L, forall_eq, m2, m3, m5, m6, m7, m36, m46, m64, m256, m320, nI_add, k1, k2, k3, k4, k5, k6, k7, k8, k9, k10, k11, k12, k13, k64, nI_clamp, nI_ltI, nI_leI, nI_eq, u2_s, u2_a, u2_i, ixT, bi_z, bi_nz, bi_n1, bi_o1, true_and, and_true, true_implies, not_true, not_false_iff, Bool.not_eq_false, Bool.not_eq_true, forall_const, ne_eq, Classical.not_not, and_self]
      refine ⟨fun c => ?_, fun c => ⟨fun c2 => ?_, fun c2 => ?_⟩⟩
      · rw [c] at nx; exact nx
      · rw [c, decide_eq_true c2] at nx; exact nx
      · rcases hx with hx | ⟨j, hj, hx⟩
        · exact absurd (by rw [hx]; exact neg1) c2
        · rw [hx] at nx c2 ⊢
          rw [nI_clamp (by omega), c, decide_eq_false c2] at nx
          simp (disch := first | decide | omega) only [wI_I, wI_s, wI_P, wI_L, forall_eq, m2, m3, m5, m6, m7, m36, m46, m64, m256, m320, nI_add, k1, k2, k3, k4, k5, k6, k7, k8, k9, k10, k11, k12, k13, k64, nI_clamp, nI_ltI, nI_leI, nI_eq, u2_s, u2_a, u2_i, ixT, bi_z, bi_nz, bi_n1, bi_o1, true_and, and_true, true_implies, not_true, not_false_iff, Bool.not_eq_false, Bool.not_eq_true, forall_const, ne_eq, Classical.not_not, and_self]
          refine ⟨fun c3 => ?_, fun c3 => ?_⟩
          · rw [decide_eq_false (Int32.not_le.mpr c3)] at nx; exact nx
          · rw [decide_eq_true (Int32.not_lt.mp c3)] at nx; exact nx
  have := key n 0 (-1) (by omega) (Or.inl rfl) hb
  rw [if_neg (by omega)] at this
  rw [nI_sub1 hn0]
  exact this
theorem al_0 (b : Nat → Bool) (x : Bool) : fo (fun q x => x && b q) 0 n x = (x && al b 0 n) := fo_and b x n 0
/-- what looking at a cut needs, all got -/
def okL (n b p : Nat) (f : hs) : Prop := al (fun u => decide (f 441 (6 * p + u) = f 463 (6 * p + u))) 0 n = true →
  okG p f ∧ okE n b p (am_u2 (m_aside p (am_u2 f 436 p 3)) 415 60 1) ∧ (∃ w, f 435 p = nI w ∧ w < 6) ∧
  (f 435 p = nI p → f 453 p = 2 → ∀ g h, g = m_try n p (am_u2 f 436 p 3) → h = am_u2 (m_row 6 460 (36 * p + 6 * p) (fun k => g 439 (6 * p + k)) g) 456 p (sb (g 456 p) p) → h 456 p = h 454 p → (∃ w, m_best n p h = nI w ∧ w < 6) ∧ okE n b p (am_u2 (m_row 6 440 (7 * p + 1) (fun k => h 460 (36 * p + 6 * Int32.toNatClampNeg (m_best n p h) + k)) (am_u2 h 440 (7 * p) (h 454 p))) 453 p 0))
theorem try_a {a k : Nat} (h : a ≠ 415 ∧ a ≠ 424 ∧ a ≠ 425 ∧ a ≠ 438 ∧ a ≠ 439 ∧ a ≠ 442 ∧ (a < 449 ∨ 452 < a) ∧ (a < 465 ∨ 467 < a)) : m_try n p f a k = f a k := by
  unfold m_try m_restore
  rw [if_neg (by omega), if_neg (by omega), if_neg (by omega), if_neg (by omega), u2_a (by omega), end_a (by omega), u2_a (by omega)]
  unfold m_aside
  rw [if_neg (by omega), if_neg (by omega), if_neg (by omega)]
theorem try_n {k : Nat} (h : k ≠ 60) : m_try n p f 415 k = f 415 k := by
  unfold m_try m_restore
  rw [if_neg (by omega), if_neg (by omega), if_neg (by omega), if_neg (by omega), u2_i h, end_a (by omega), u2_i h]
  unfold m_aside
  rw [if_neg (by omega), if_neg (by omega), if_neg (by omega)]
theorem B0.tri {b : Nat} (h : B0 n b f) : B0 n b (m_try m p f) := h.of (fun k hk => try_n (by omega)) (fun j => try_a (by omega))
theorem B0.set {b a k : Nat} {x : Int32} (h : B0 n b f) (ha : a ≠ 415) (ha2 : a ≠ 417) : B0 n b (am_u2 f a k x) := h.of (fun _ _ => u2_a (Ne.symm ha)) (fun _ => u2_a (Ne.symm ha2))
theorem m_row_a {a b x k : Nat} {c : Nat → Int32} (h : x ≠ a) : m_row n a b c f x k = f x k := by unfold m_row; rw [if_neg (fun e => h e.1)]
theorem B0.mrow {b a r : Nat} {c : Nat → Int32} (h : B0 n b f) (ha : a ≠ 415) (ha2 : a ≠ 417) : B0 n b (m_row m a r c f) := h.of (fun _ _ => m_row_a (Ne.symm ha)) (fun _ => m_row_a (Ne.symm ha2))
theorem r_lookAt {b : Nat} (hS : Sh A) (hB : B0 n b f) (hn0 : 0 < n) (hp : p < 6) (hL : okL n b p f) (h : Q (.inl none) (wI A (m_lookAt n p f))) : mC (d + 8) 207 [.ref 415, .int (nI p)] (wI A f) Q := by
  have hn6 := hB.2.1
  unfold m_lookAt at h
  refine x_207_0 (shw hS) ?_
  refine lp0 (P := fun u x => mW (d + 7 + 1) 207 4 [.ref 415, .int (nI p), .int (bi x), .int (nI u)] [] (wI A f) Q) (x := true) n (fun u x => x && decide (f 441 (6 * p + u) = f 463 (6 * p + u))) (fun u x hu ih => ?_) ?_
  · refine x_207_4 (shw hS) ⟨fun _ => ?_, fun c => absurd ?_ c⟩
    · simp (disch := first | decide | omega) only [wI_I, wI_s, wI_P, wI_L, forall_eq, m2, m3, m5, m6, m7, m36, m46, m64, m256, m320, nI_add, k1, k2, k3, k4, k5, k6, k7, k8, k9, k10, k11, k12, k13, k64, nI_clamp, nI_ltI, nI_leI, nI_eq, u2_s, u2_a, u2_i, ixT, bi_z, bi_nz, bi_n1, bi_o1, true_and, and_true, true_implies, not_true, not_false_iff, Bool.not_eq_false, Bool.not_eq_true, forall_const, ne_eq, Classical.not_not, and_self]
      refine ⟨fun c => by rw [c] at ih; exact ih, fun c => ⟨fun c2 => ?_, fun c2 => ?_⟩⟩
      · rw [c, decide_eq_true c2] at ih; exact ih
      · rw [c, decide_eq_false c2] at ih; exact ih
    · simp (disch := first | decide | omega) only [wI_I, wI_s, wI_P, wI_L, forall_eq, m2, m3, m5, m6, m7, m36, m46, m64, m256, m320, nI_add, k1, k2, k3, k4, k5, k6, k7, k8, k9, k10, k11, k12, k13, k64, nI_clamp, nI_ltI, nI_leI, nI_eq, u2_s, u2_a, u2_i, ixT, bi_z, bi_nz, bi_n1, bi_o1, true_and, and_true, true_implies, not_true, not_false_iff, Bool.not_eq_false, Bool.not_eq_true, forall_const, ne_eq, Classical.not_not, and_self, hB.1]; exact hu
  · rw [al_0, Bool.true_and]
    refine x_207_4 (shw hS) ⟨fun c => absurd c ?_, fun _ => ?_⟩
    · simp (disch := first | decide | omega) only [wI_I, wI_s, wI_P, wI_L, forall_eq, m2, m3, m5, m6, m7, m36, m46, m64, m256, m320, nI_add, k1, k2, k3, k4, k5, k6, k7, k8, k9, k10, k11, k12, k13, k64, nI_clamp, nI_ltI, nI_leI, nI_eq, u2_s, u2_a, u2_i, ixT, bi_z, bi_nz, bi_n1, bi_o1, true_and, and_true, true_implies, not_true, not_false_iff, Bool.not_eq_false, Bool.not_eq_true, forall_const, ne_eq, Classical.not_not, and_self, hB.1]; omega
    · simp (disch := first | decide | omega) only [wI_I, wI_s, wI_P, wI_L, forall_eq, m2, m3, m5, m6, m7, m36, m46, m64, m256, m320, nI_add, k1, k2, k3, k4, k5, k6, k7, k8, k9, k10, k11, k12, k13, k64, nI_clamp, nI_ltI, nI_leI, nI_eq, u2_s, u2_a, u2_i, ixT, bi_z, bi_nz, bi_n1, bi_o1, true_and, and_true, true_implies, not_true, not_false_iff, Bool.not_eq_false, Bool.not_eq_true, forall_const, ne_eq, Classical.not_not, and_self]
      refine ⟨fun c => ?_, fun c => ?_⟩
      · rw [if_neg (by rw [c]; decide)] at h; exact h
      · rw [if_pos c] at h
        dsimp only at h
        obtain ⟨oG, oE, ⟨w, ow, ow6⟩, oR⟩ := hL c
        have oG' : okG p (am_u2 f 436 p 3) := ⟨fun u hu => by obtain ⟨g, e, h1, h2, h3, h4⟩ := oG.1 u hu; exact ⟨g, e, by rw [u2_a (by decide)]; exact h1, by rw [u2_a (by decide)]; exact h2, h3, h4⟩, by obtain ⟨c, h1, h2⟩ := oG.2.1; exact ⟨c, by rw [u2_a (by decide)]; exact h1, h2⟩, by rw [u2_a (by decide)]; exact oG.2.2⟩
        refine r_try (b := b) (n := n) hS hp oG' oE ?_
        show _ ∧ _
        have e5 : m_try n p (am_u2 f 436 p 3) 435 p = f 435 p := by rw [try_a (by omega), u2_a (by decide)]
        have e3 : m_try n p (am_u2 f 436 p 3) 453 p = f 453 p := by rw [try_a (by omega), u2_a (by decide)]
        simp (disch := first | decide | omega) only [wI_I, wI_s, wI_P, wI_L, forall_eq, m2, m3, m5, m6, m7, m36, m46, m64, m256, m320, nI_add, k1, k2, k3, k4, k5, k6, k7, k8, k9, k10, k11, k12, k13, k64, nI_clamp, nI_ltI, nI_leI, nI_eq, u2_s, u2_a, u2_i, ixT, bi_z, bi_nz, bi_n1, bi_o1, true_and, and_true, true_implies, not_true, not_false_iff, Bool.not_eq_false, Bool.not_eq_true, forall_const, ne_eq, Classical.not_not, and_self, e5, e3]
        have hBt : B0 n b (m_try n p (am_u2 f 436 p 3)) := (hB.set (by decide) (by decide)).tri
        refine ⟨fun c1 => ⟨fun c2 => ?_, fun c2 => ?_⟩, fun c1 => ?_⟩
        · rw [if_neg (fun q => q c1), if_pos c2] at h
          have oR' := oR c1 c2 _ _ rfl rfl
          generalize m_try n p (am_u2 f 436 p 3) = g at h hBt oR' ⊢
          have L : ∀ w2, mW (d + 7 + 1) 207 100 [.ref 415, .int (nI p), w2, .int (nI 0)] [] (wI A (t_row 460 (36 * p + 6 * p) 0 (fun k => g 439 (6 * p + k)) g)) Q := by
            refine l0 (P := fun j => ∀ w2, mW (d + 7 + 1) 207 100 [.ref 415, .int (nI p), w2, .int (nI j)] [] (wI A (t_row 460 (36 * p + 6 * p) j (fun k => g 439 (6 * p + k)) g)) Q) 6 (fun j hj ih w2 => ?_) (fun w2 => ?_)
            · refine x_207_100 (shw hS) ⟨fun _ => ?_, fun c => absurd (nI_lt (b := 6) hj (by decide)) c⟩
              simp (disch := first | decide | omega) only [wI_I, wI_s, wI_P, wI_L, forall_eq, m2, m3, m5, m6, m7, m36, m46, m64, m256, m320, nI_add, k1, k2, k3, k4, k5, k6, k7, k8, k9, k10, k11, k12, k13, k64, nI_clamp, nI_ltI, nI_leI, nI_eq, u2_s, u2_a, u2_i, ixT, bi_z, bi_nz, bi_n1, bi_o1, true_and, and_true, true_implies, not_true, not_false_iff, Bool.not_eq_false, Bool.not_eq_true, forall_const, ne_eq, Classical.not_not, and_self, t_row_a, t_rows (c := fun k => g 439 (6 * p + k))]
              exact ih _
            · refine x_207_100 (shw hS) ⟨fun c => absurd c (by decide), fun _ => ?_⟩
              simp (disch := first | decide | omega) only [wI_I, wI_s, wI_P, wI_L, forall_eq, m2, m3, m5, m6, m7, m36, m46, m64, m256, m320, nI_add, k1, k2, k3, k4, k5, k6, k7, k8, k9, k10, k11, k12, k13, k64, nI_clamp, nI_ltI, nI_leI, nI_eq, u2_s, u2_a, u2_i, ixT, bi_z, bi_nz, bi_n1, bi_o1, true_and, and_true, true_implies, not_true, not_false_iff, Bool.not_eq_false, Bool.not_eq_true, forall_const, ne_eq, Classical.not_not, and_self, t_row_a]
              show mC (d + 7) 208 [.ref 415, .int (nI p)] (wI A (am_u2 (m_row 6 460 (36 * p + 6 * p) (fun k => g 439 (6 * p + k)) g) 456 p (sb (g 456 p) p))) _
              rcases Decidable.em ((am_u2 (m_row 6 460 (36 * p + 6 * p) (fun k => g 439 (6 * p + k)) g) 456 p (sb (g 456 p) p)) 456 p = (am_u2 (m_row 6 460 (36 * p + 6 * p) (fun k => g 439 (6 * p + k)) g) 456 p (sb (g 456 p) p)) 454 p) with e | e
              · obtain ⟨⟨wb, hwb, hwb6⟩, oE2⟩ := oR' e
                exact r_readyAll (w := wb) (n := n) (b := b) hS ((hBt.mrow (by decide) (by decide)).set (by decide) (by decide)) hn0 hp (fun _ => hwb) hwb6 (fun _ => oE2) h
              · exact r_readyAll (w := 0) (n := n) (b := b) hS ((hBt.mrow (by decide) (by decide)).set (by decide) (by decide)) hn0 hp (fun q => absurd q e) (by decide) (fun q => absurd q e) h
          have := L (.int (bi (al (fun u => decide (f 441 (6 * p + u) = f 463 (6 * p + u))) 0 n)))
          rw [t_row0] at this
          exact this
        · rw [if_neg (fun q => q c1), if_neg c2] at h; exact h
        · rw [if_pos c1] at h
          exact r_sRea (w := w) hS hBt hp (by rw [e5]; exact ow) ow6 h
end
