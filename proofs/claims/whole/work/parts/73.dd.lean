/-! The class and the model end a view alike. -/
section
variable {A : am_A} {g f : hs} {n p q u t m : Nat} {L : Nat → Nat}
/-- both are about to pass fronts into State s -/
def FS (n p s : Nat) (g f : hs) (L : Nat → Nat) : Prop := RF n p g f L ∧ RS s (6 * p) 438 g f ∧ EV p g f ∧ (f 438 (6 * p + 1) = -1 ∨ ¬ f 438 (6 * p + 1) < 0)
theorem one_fi {e : Bool} : m_one n p e f = (fi (m_can n p e f) 0 n).map (fun u => m_pass p u true f) := rfl
theorem can_f {e : Bool} (h : m_can n p e f u = true) : f 442 (6 * p + u) < f 441 (6 * p + u) := by
  unfold m_can m_hasF at h
  rw [Bool.and_eq_true] at h
  exact of_decide_eq_true h.1
theorem rest_f (h : m_rest n p f u = true) : f 442 (6 * p + u) < f 441 (6 * p + u) := by
  unfold m_rest m_hasF at h
  rw [Bool.and_eq_true] at h
  exact of_decide_eq_true h.1
theorem FS.step {s way : Nat} {real : Bool} (h : FS n p s g f L) (hM : MI n p f L) (hw : way < 2) (hst : s = nd p + 39 ∨ s = nd p + 41) (he : ¬ f 424 p + 1 < 0) (hre : real = true ↔ f 415 60 = 0) (hc : c_ps p way g = some u) : m_one n p (decide (way = 1)) f = some (m_pass p u true f) ∧ FS n p s (c_front p u s real g) (m_pass p u true f) L := by
  obtain ⟨h1, h2, h3, h4⟩ := h
  rw [h1.pass hM hw] at hc
  obtain ⟨q1, q2, q3, q4⟩ := fi_some _ _ _ _ hc
  refine ⟨by rw [one_fi, hc]; rfl, ?_⟩
  exact front_step h1 hM (by have := hM.1; omega) (can_f q3) hst h2 h4 h3 he hre (fun hs' => Or.inl ⟨rfl, can_o q3 hs'⟩)
theorem FS.no {s way : Nat} (h : FS n p s g f L) (hM : MI n p f L) (hw : way < 2) : c_ps p way g = none ↔ m_one n p (decide (way = 1)) f = none := by
  rw [h.1.pass hM hw, one_fi]
  cases fi (m_can n p (decide (way = 1)) f) 0 n with
  | none => exact ⟨fun _ => rfl, fun _ => rfl⟩
  | some u => exact ⟨(fun q => nomatch q), (fun q => nomatch q)⟩
theorem FS.e1 {s : Nat} {real : Bool} (hst : s = nd p + 39 ∨ s = nd p + 41) : ∀ j (g f : hs), FS n p s g f L → (∀ j, MI n p (m_e1 n p j f) L) → (∀ j, ¬ m_e1 n p j f 424 p + 1 < 0) → (real = true ↔ f 415 60 = 0) → FS n p s (c_e p s 1 real j g) (m_e1 n p j f) L := by
  intro j
  induction j with
  | zero => intro g f h hM he hre; exact h
  | succ j ih =>
    intro g f h hM he hre
    have hM0 : MI n p f L := hM 0
    have he0 : ¬ f 424 p + 1 < 0 := he 0
    cases hps : c_ps p 1 g with
    | none =>
      have := (h.no (way := 1) hM0 (by decide)).mp hps
      rw [ce_none hps, e1_none this]; exact h
    | some u =>
      obtain ⟨h1, h2⟩ := h.step (way := 1) hM0 (by decide) hst he0 hre hps
      have h1' : m_one n p true f = some (m_pass p u true f) := h1
      rw [ce_some hps, e1_some h1']
      refine ih _ _ h2 (fun j => by have := hM (j + 1); rw [e1_some h1'] at this; exact this) (fun j => by have := he (j + 1); rw [e1_some h1'] at this; exact this) ?_
      rw [pass_a (by omega)]; exact hre
theorem pass_o {a : Nat} (h : a = 449 ∨ a = 450 ∨ a = 451 ∨ a = 452) {j : Nat} : m_pass p u false f a j = f a j := by
  unfold m_pass
  split
  · exact u2_a (by omega)
  · rw [note_a (by omega)]
    split
    · rw [apply_a (by omega), if_neg (by decide)]; exact u2_a (by omega)
    · exact u2_a (by omega)
theorem e2_o : ∀ j (f : hs), m_e2 n p j f 449 p = f 449 p := by
  intro j
  induction j with
  | zero => intro f; rfl
  | succ j ih =>
    intro f
    cases hg : fi (m_rest n p f) 0 n with
    | none => rw [e2_none hg]
    | some u => rw [e2_some hg, ih, pass_o (by decide)]
theorem FS.e2 {s : Nat} {real : Bool} (hst : s = nd p + 39 ∨ s = nd p + 41) : ∀ j (g f : hs), FS n p s g f L → f 449 p = 0 → (∀ j, MI n p (m_e2 n p j f) L) → (∀ j, ¬ m_e2 n p j f 424 p + 1 < 0) → (real = true ↔ f 415 60 = 0) → FS n p s (c_e p s 2 real j g) (m_e2 n p j f) L := by
  intro j
  induction j with
  | zero => intro g f h h0 hM he hre; exact h
  | succ j ih =>
    intro g f h h0 hM he hre
    have hM0 : MI n p f L := hM 0
    have he0 : ¬ f 424 p + 1 < 0 := he 0
    have hr := h.1.rest hM0
    cases hps : c_ps p 2 g with
    | none =>
      rw [hps] at hr
      rw [ce_none hps, e2_none hr.symm]; exact h
    | some u =>
      rw [hps] at hr
      obtain ⟨q1, q2, q3, q4⟩ := fi_some _ _ _ _ hr.symm
      rw [ce_some hps, e2_some hr.symm]
      have h2 : FS n p s (c_front p u s real g) (m_pass p u false f) L := front_step h.1 hM0 (by have := hM0.1; omega) (rest_f q3) hst h.2.1 h.2.2.2 h.2.2.1 he0 hre (fun _ => Or.inr ⟨rfl, h0⟩)
      refine ih _ _ h2 (by rw [pass_o (by decide)]; exact h0) (fun j => by have := hM (j + 1); rw [e2_some hr.symm] at this; exact this) (fun j => by have := he (j + 1); rw [e2_some hr.symm] at this; exact this) ?_
      rw [pass_a (by omega)]; exact hre
/-- the entries cleared in both -/
theorem FS.clear {s : Nat} (hp : p < 6) (h : FS n p s g f L) (hst : s = nd p + 39 ∨ s = nd p + 41) : FS n p s (c_oclear p g) (am_u2 f 449 p 0) L := by
  obtain ⟨⟨hD, hR, hO, q0, q1, q2, q3⟩, h2, h3, h4⟩ := h
  have gA : ∀ x j, x ≠ nd p + 64 → c_oclear p g x j = g x j := fun x j hx => by unfold c_oclear; simp (disch := first | decide | omega) only [u2_a]
  have fA : ∀ x j, x ≠ 449 → am_u2 f 449 p 0 x j = f x j := fun x j hx => u2_a hx
  refine ⟨⟨⟨fun v hv => ?_, fun q v hq hv hqp => ?_⟩, hR.of (fun j => gA _ _ (by omega)) (fun j => gA _ _ (by omega)) (fun j => gA _ _ (by omega)) (fun j => gA _ _ (by omega)) (fun x j hx => fA _ _ (by omega)), ⟨0, 0, ⟨?_, ?_, by decide, by decide⟩, u2_s _ _ _ _, fun e he => absurd he (by omega)⟩, ?_, ?_, ?_, ?_⟩, ?_, ?_, ?_⟩
  · rw [gA _ _ (by omega), gA _ _ (by omega), fA _ _ (by decide), fA _ _ (by decide)]; exact hD.1 v hv
  · rw [gA _ _ (by omega), gA _ _ (by omega), fA _ _ (by decide), fA _ _ (by decide)]; exact hD.2 q v hq hv hqp
  · unfold c_oclear; simp (disch := first | decide | omega) only [u2_i, u2_s]; rfl
  · unfold c_oclear; rw [u2_s]; rfl
  · rw [gA _ _ (by omega)]; exact q0
  · rw [gA _ _ (by omega), fA _ _ (by decide)]; exact q1
  · rw [gA _ _ (by omega), fA _ _ (by decide)]; exact q2
  · rw [gA _ _ (by omega)]; exact q3
  · exact h2.of (fun j => gA _ _ (by omega)) (fun j => gA _ _ (by omega)) (fun i hi => fA _ _ (by decide))
  · exact h3.of (fun j => gA _ _ (by omega)) (fun j => gA _ _ (by omega)) (fA _ _ (by decide)) (fun k => fA _ _ (by decide))
  · rw [fA _ _ (by decide)]; exact h4
/-- what ending a view needs of the model -/
def ME (n p : Nat) (f : hs) (L : Nat → Nat) : Prop := (∀ j, MI n p (m_e1 n p j f) L ∧ ¬ m_e1 n p j f 424 p + 1 < 0) ∧ m_one n p true (m_e1 n p 500 f) = none ∧ (∀ j, MI n p (m_e2 n p j (am_u2 (m_e1 n p 500 f) 449 p 0)) L ∧ ¬ m_e2 n p j (am_u2 (m_e1 n p 500 f) 449 p 0) 424 p + 1 < 0) ∧ fi (m_rest n p (m_end n p f)) 0 n = none
theorem FS.fin {s : Nat} {real : Bool} (h : FS n p s g f L) (hst : s = nd p + 39 ∨ s = nd p + 41) (hre : real = true ↔ f 415 60 = 0) (hE : ME n p f L) : FS n p s (c_end p s real g) (m_end n p f) L ∧ okCE p s real g := by
  obtain ⟨E1, E2, E3, E4⟩ := hE
  have k1' : ∀ j, FS n p s (c_e p s 1 real j g) (m_e1 n p j f) L := fun j => FS.e1 hst j g f h (fun j => (E1 j).1) (fun j => (E1 j).2) hre
  have k2' : FS n p s (c_oclear p (c_e p s 1 real 500 g)) (am_u2 (m_e1 n p 500 f) 449 p 0) L := (k1' 500).clear (by have := (E1 0).1.1; have := (E1 0).1.2.1; omega) hst
  have hre2 : real = true ↔ am_u2 (m_e1 n p 500 f) 449 p 0 415 60 = 0 := by rw [u2_a (by decide), e1_a (by omega)]; exact hre
  have k3' : ∀ j, FS n p s (c_e p s 2 real j (c_oclear p (c_e p s 1 real 500 g))) (m_e2 n p j (am_u2 (m_e1 n p 500 f) 449 p 0)) L := fun j => FS.e2 hst j _ _ k2' (u2_s _ _ _ _) (fun j => (E3 j).1) (fun j => (E3 j).2) hre2
  refine ⟨k3' 500, fun j => (k1' j).1.s0 (E1 j).1, ((k1' 500).no (way := 1) (E1 500).1 (by decide)).mpr E2, fun j => (k3' j).1.s0 (E3 j).1, ?_⟩
  show c_ps p 2 (c_e p s 2 real 500 (c_oclear p (c_e p s 1 real 500 g))) = _
  rw [(k3' 500).1.rest (E3 500).1]
  exact E4
end
