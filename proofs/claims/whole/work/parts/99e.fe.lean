/-! A view ends in the model: it comes to an end, and what stays. -/
section
variable {f f' f1 f2 f3 : hs} {n p q u t m B j X : Nat} {G G' : Gh} {h : Option Nat} {L : Nat → Nat}
/-- messages got and not passed -/
def nu (p : Nat) (f : hs) : Nat := s6 (fun u => Int32.toNatClampNeg (f 441 (6 * p + u)) - Int32.toNatClampNeg (f 442 (6 * p + u)))
/-- a view about to end -/
def EI (n p : Nat) (f : hs) (L : Nat → Nat) (X : Nat) : Prop := MI n p f L ∧ oOk (f 438 (6 * p + 1)) ∧ ∃ ev, f 424 p = nI ev ∧ ev + nu p f ≤ X
theorem MI.pass {o : Bool} (hM : MI n p f L) (hu : u < 6) (hf : f 442 (6 * p + u) < f 441 (6 * p + u)) (ho : (f 446 (m_fr p u f) = 2 ∨ f 446 (m_fr p u f) = 3) → o = true → 0 < f 449 p) : MI n p (m_pass p u o f) L ∧ nu p (m_pass p u o f) + 1 = nu p f := by
  have fA : ∀ x j, (x ≠ 424 ∧ x ≠ 425 ∧ x ≠ 438 ∧ x ≠ 442 ∧ (x < 449 ∨ 452 < x)) → m_pass p u o f x j = f x j := fun x j hx => pass_a hx
  obtain ⟨m1, m2, m3, ⟨c, o1, o2, o3⟩, m5, m6, m7⟩ := hM
  have d' : ∀ v, v < 6 → m_pass p u o f 442 (6 * p + v) = if v = u then f 442 (6 * p + u) + 1 else f 442 (6 * p + v) := fun v hv => by
    rw [pass_442, u2_e]
    by_cases e : v = u
    · rw [if_pos ⟨rfl, by omega⟩, if_pos e]
    · rw [if_neg (by omega), if_neg e]
  refine ⟨⟨m1, m2, fun v hv => ?_, ?_, by rw [fA _ _ (by omega)]; exact m5, by rw [fA _ _ (by omega)]; exact m6, fun q v hq hv => by rw [fA 443 _ (by omega), fA 444 _ (by omega)]; exact m7 q v hq hv⟩, ?_⟩
  · obtain ⟨a, b, e1, e2, e3, e4, e5, e6, e7, e8⟩ := m3 v hv
    rw [d' v hv]
    by_cases e : v = u
    · subst e
      rw [if_pos rfl, e1, k1]
      rw [e1, e2] at hf
      have hab := (nI_ltI (by omega) (by omega)).mp hf
      exact ⟨a + 1, b, rfl, by rw [fA _ _ (by omega)]; exact e2, by omega, e4, by omega, e6, e7, fun k k1 k2 => by rw [fA _ _ (by omega)]; exact e8 k (by omega) k2⟩
    · rw [if_neg e]
      exact ⟨a, b, e1, by rw [fA _ _ (by omega)]; exact e2, e3, e4, e5, e6, e7, fun k k1 k2 => by rw [fA _ _ (by omega)]; exact e8 k k1 k2⟩
  · by_cases hc : (f 446 (m_fr p u f) = 2 ∨ f 446 (m_fr p u f) = 3) ∧ o = true
    · have h0 := ho hc.1 hc.2
      rw [o1] at h0
      have hc0 : 0 < c := (nI_ltI (a := 0) (by decide) (by omega)).mp h0
      refine ⟨c - 1, ?_, by omega, fun e he => ?_⟩
      · rw [pass_ord (by omega), if_pos hc]; unfold m_shift; rw [if_pos ⟨rfl, rfl⟩, o1, nI_sub1 hc0]
      · have sh : ∀ a, a = 450 ∨ a = 451 ∨ a = 452 → m_pass p u o f a (256 * p + e) = f a (256 * p + (e + 1)) := fun a ha => by
          rw [pass_ord (by omega), if_pos hc]
          unfold m_shift
          rw [if_neg (by omega), o1, nI_clamp (by omega), if_pos ⟨ha, by omega, by omega⟩, Nat.add_assoc]
        rw [sh 450 (by decide), sh 451 (by decide)]
        exact o3 (e + 1) (by omega)
    · have oA : ∀ a j, a = 449 ∨ a = 450 ∨ a = 451 ∨ a = 452 → m_pass p u o f a j = f a j := fun a j ha => by rw [pass_ord ha, if_neg hc]
      exact ⟨c, by rw [oA _ _ (by decide)]; exact o1, o2, fun e he => by rw [oA 450 _ (by decide), oA 451 _ (by decide)]; exact o3 e he⟩
  · obtain ⟨a, b, e1, e2, e3, e4, e5, e6, e7, e8⟩ := m3 u hu
    rw [e1, e2] at hf
    have hab := (nI_ltI (by omega) (by omega)).mp hf
    have : nu p f = nu p (m_pass p u o f) + 1 := by
      unfold nu
      refine s6_one hu (fun v hv hvu => ?_) ?_
      · rw [d' v hv, if_neg hvu, fA _ _ (by omega)]
      · rw [d' u hu, if_pos rfl, fA _ _ (by omega), e1, e2, k1, nI_clamp (by omega), nI_clamp (by omega), nI_clamp (by omega)]; omega
    omega
theorem EI.pass {o : Bool} (hE : EI n p f L X) (hX : X ≤ 10000000) (hu : u < 6) (hf : f 442 (6 * p + u) < f 441 (6 * p + u)) (ho : (f 446 (m_fr p u f) = 2 ∨ f 446 (m_fr p u f) = 3) → o = true → 0 < f 449 p) : EI n p (m_pass p u o f) L X ∧ nu p (m_pass p u o f) + 1 = nu p f := by
  obtain ⟨h1, h2, ev, e1, e2⟩ := hE
  obtain ⟨m1, m2⟩ := h1.pass (o := o) hu hf ho
  refine ⟨⟨m1, pass_438 hu h2, ?_⟩, m2⟩
  by_cases h0 : f 415 60 = 0
  · refine ⟨if f 446 (m_fr p u f) = 4 then ev else ev + 1, ?_, ?_⟩
    · rw [pass_424 h0]; split
      · exact e1
      · rw [e1, k1]
    · split <;> omega
  · refine ⟨ev, ?_, by omega⟩
    have : m_pass p u o f 424 p = f 424 p := by
      unfold m_pass
      split
      · exact u2_a (by decide)
      · unfold m_note
        have e60 : ∀ g : hs, g 415 60 = f 415 60 → ∀ (x y z w v : Int32), (if g 415 60 = 0 then m_ev p x y z w v g else g) 424 p = g 424 p := fun g hg x y z w v => by rw [hg, if_neg h0]
        rw [e60]
        · split
          · rw [apply_6 (by decide)]
            split
            · rw [shift_6 (by decide)]; exact u2_a (by decide)
            · exact u2_a (by decide)
          · exact u2_a (by decide)
        · split
          · rw [apply_6 (by decide)]
            split
            · rw [shift_6 (by decide)]; exact u2_a (by decide)
            · exact u2_a (by decide)
          · exact u2_a (by decide)
    rw [this]; exact e1
/-- an entry is first -/
theorem can_c {e : Bool} (hc : m_can n p e f u = true) : (f 446 (m_fr p u f) = 2 ∨ f 446 (m_fr p u f) = 3) → (true : Bool) = true → 0 < f 449 p := fun h23 _ => by
  unfold m_can at hc
  rw [Bool.and_eq_true] at hc
  have hc := hc.2
  have n4 : decide (f 446 (m_fr p u f) = 4) = false := decide_eq_false (fun q => by rw [q] at h23; rcases h23 with q | q <;> exact absurd q (by decide))
  have n0 : decide (f 446 (m_fr p u f) = 0) = false := decide_eq_false (fun q => by rw [q] at h23; rcases h23 with q | q <;> exact absurd q (by decide))
  have n1 : decide (f 446 (m_fr p u f) = 1) = false := decide_eq_false (fun q => by rw [q] at h23; rcases h23 with q | q <;> exact absurd q (by decide))
  rw [n4, n0, n1, Bool.false_or, Bool.false_or, Bool.and_eq_true, Bool.false_or, Bool.and_eq_true] at hc
  have := hc.2.1
  unfold m_first at this
  rw [Bool.and_eq_true] at this
  exact of_decide_eq_true this.1
theorem EI.e1 (hX : X ≤ 10000000) : ∀ j (f : hs), EI n p f L X → EI n p (m_e1 n p j f) L X ∧ (nu p f < j → m_one n p true (m_e1 n p j f) = none) ∧ (∀ q, q ≠ p → rg q 424 463 f (m_e1 n p j f)) := by
  intro j
  induction j with
  | zero => intro f hE; exact ⟨hE, fun h => absurd h (by omega), fun q _ => rg.rfl f⟩
  | succ j ih =>
    intro f hE
    cases h1 : m_one n p true f with
    | none => rw [e1_none h1]; exact ⟨hE, fun _ => h1, fun q _ => rg.rfl f⟩
    | some f1 =>
      rw [e1_some h1]
      unfold m_one at h1
      cases hfi : fi (m_can n p true f) 0 n with
      | none => rw [hfi] at h1; cases h1
      | some u =>
        rw [hfi] at h1
        obtain ⟨q1, q2, q3, q4⟩ := fi_some _ _ _ _ hfi
        have e : f1 = m_pass p u true f := by cases h1; rfl
        have hu6 : u < 6 := by have := hE.1.1; omega
        obtain ⟨z1, z2⟩ := hE.pass (o := true) hX hu6 (can_f q3) (can_c q3)
        rw [e]
        obtain ⟨y1, y2, y3⟩ := ih _ z1
        obtain ⟨c, o1, o2, _⟩ := hE.1.2.2.2.1
        exact ⟨y1, fun hn => y2 (by omega), fun q hq => (rg_pass hq hu6 (by rw [o1, nI_clamp (by omega)]; omega)).tr (y3 q hq)⟩
theorem EI.e2 (hX : X ≤ 10000000) : ∀ j (f : hs), EI n p f L X → EI n p (m_e2 n p j f) L X ∧ (nu p f < j → fi (m_rest n p (m_e2 n p j f)) 0 n = none) ∧ (∀ q, q ≠ p → rg q 424 463 f (m_e2 n p j f)) := by
  intro j
  induction j with
  | zero => intro f hE; exact ⟨hE, fun h => absurd h (by omega), fun q _ => rg.rfl f⟩
  | succ j ih =>
    intro f hE
    cases hfi : fi (m_rest n p f) 0 n with
    | none => rw [e2_none hfi]; exact ⟨hE, fun _ => hfi, fun q _ => rg.rfl f⟩
    | some u =>
      rw [e2_some hfi]
      obtain ⟨q1, q2, q3, q4⟩ := fi_some _ _ _ _ hfi
      have hu6 : u < 6 := by have := hE.1.1; omega
      obtain ⟨z1, z2⟩ := hE.pass (o := false) hX hu6 (rest_f q3) (fun _ h => by cases h)
      obtain ⟨y1, y2, y3⟩ := ih _ z1
      obtain ⟨c, o1, o2, _⟩ := hE.1.2.2.2.1
      exact ⟨y1, fun hn => y2 (by omega), fun q hq => (rg_pass hq hu6 (by rw [o1, nI_clamp (by omega)]; omega)).tr (y3 q hq)⟩
theorem EI.nl (hE : EI n p f L X) : nu p f ≤ 72 := by
  have h1 : ∀ u, u < 6 → Int32.toNatClampNeg (f 441 (6 * p + u)) - Int32.toNatClampNeg (f 442 (6 * p + u)) ≤ 12 := fun u hu => by
    obtain ⟨a, b, e1, e2, e3, e4, e5, e6, _⟩ := hE.1.2.2.1 u hu
    rw [e1, e2, nI_clamp (by omega), nI_clamp (by omega)]; omega
  have a0 := h1 0 (by decide); have a1 := h1 1 (by decide); have a2 := h1 2 (by decide); have a3 := h1 3 (by decide); have a4 := h1 4 (by decide); have a5 := h1 5 (by decide)
  unfold nu s6
  dsimp only
  omega
theorem EI.clear (hE : EI n p f L X) : EI n p (am_u2 f 449 p 0) L X := by
  obtain ⟨⟨m1, m2, m3, m4, m5, m6, m7⟩, h2, ev, e1, e2⟩ := hE
  have fA : ∀ x j, x ≠ 449 → am_u2 f 449 p 0 x j = f x j := fun x j hx => u2_a hx
  refine ⟨⟨m1, m2, fun u hu => ?_, ⟨0, u2_s _ _ _ _, by decide, fun e he => absurd he (by omega)⟩, by rw [fA _ _ (by decide)]; exact m5, by rw [fA _ _ (by decide)]; exact m6, fun q v hq hv => by rw [fA 443 _ (by decide), fA 444 _ (by decide)]; exact m7 q v hq hv⟩, by rw [fA _ _ (by decide)]; exact h2, ev, by rw [fA _ _ (by decide)]; exact e1, ?_⟩
  · obtain ⟨a, b, e1, e2, e3, e4, e5, e6, e7, e8⟩ := m3 u hu
    exact ⟨a, b, by rw [fA _ _ (by decide)]; exact e1, by rw [fA _ _ (by decide)]; exact e2, e3, e4, e5, e6, e7, fun k k1 k2 => by rw [fA _ _ (by decide)]; exact e8 k k1 k2⟩
  · exact e2
theorem EI.fin (hE : EI n p f L X) (hX : X ≤ 10000000) : ME n p f L ∧ EI n p (m_end n p f) L X ∧ oth p f (m_end n p f) := by
  have hnu := hE.nl
  have E1 := fun j => EI.e1 hX j f hE
  have hC := (E1 500).1.clear
  have hnu2 : nu p (am_u2 (m_e1 n p 500 f) 449 p 0) ≤ 72 := hC.nl
  have E2 := fun j => EI.e2 hX j _ hC
  have nn : ∀ g : hs, EI n p g L X → ¬ g 424 p + 1 < 0 := fun g hg => by
    obtain ⟨_, _, ev, e1, e2⟩ := hg
    rw [e1, k1]; exact nI_pos (by omega)
  refine ⟨⟨fun j => ⟨(E1 j).1.1, nn _ (E1 j).1⟩, (E1 500).2.1 (by omega), fun j => ⟨(E2 j).1.1, nn _ (E2 j).1⟩, (E2 500).2.1 (by omega)⟩, (E2 500).1, oth_24 (fun q hq hqp => ?_) (fun a k x y => end_a (by omega))⟩
  exact (((E1 500).2.2 q hqp).tr (rg.up (by show p / 1 ≠ q; omega))).tr ((E2 500).2.2 q hqp)
/-- what the reference's method needs of it -/
theorem EI.okE {b : Nat} (hE : EI n p f L X) (hX : X ≤ 10000000) (hB : B0 n b f) : okE n b p f := by
  have hM := (hE.fin hX).1
  obtain ⟨E1, E2, E3, E4⟩ := hM
  have ok : ∀ g : hs, MI n p g L → ¬ g 424 p + 1 < 0 → (∃ ev, g 424 p = nI ev ∧ ev ≤ X) → (∀ k, g 415 k = f 415 k) → (∀ k, g 417 k = f 417 k) → okW n b p g := fun g hg h1 h2 h3 h4 => by
    obtain ⟨m1, m2, m3, ⟨c, o1, o2, _⟩, m5, ⟨hd, m6, m6'⟩, m7⟩ := hg
    obtain ⟨b1, b2, un, fr, b3, b4, b5, b6, b7, b8⟩ := hB
    refine ⟨⟨by rw [h3]; exact b1, b2, un, fr, by rw [h3]; exact b3, by rw [h3]; exact b4, b5, b6, b7, fun j hj => by rw [h4]; exact b8 j hj⟩, ⟨fun u hu => ?_, ⟨c, o1, by omega⟩, ?_⟩, hd, m6, by omega⟩
    · obtain ⟨a, b, e1, e2, e3, e4, e5, e6, _⟩ := m3 u hu
      exact ⟨b, a, e2, e1, e3, by omega⟩
    · obtain ⟨ev, e1, e2⟩ := h2
      rw [e1]; exact nI_pos (by omega)
  have evb : ∀ g : hs, EI n p g L X → ∃ ev, g 424 p = nI ev ∧ ev ≤ X := fun g hg => by
    obtain ⟨_, _, ev, e1, e2⟩ := hg; exact ⟨ev, e1, by omega⟩
  refine ⟨fun j => ok _ (E1 j).1 (E1 j).2 (evb _ (EI.e1 hX j f hE).1) (fun k => e1_a (by omega) _ _) (fun k => e1_a (by omega) _ _), E2, fun j => ok _ (E3 j).1 (E3 j).2 (evb _ (EI.e2 hX j _ (EI.e1 hX 500 f hE).1.clear).1) (fun k => ?_) (fun k => ?_), E4⟩
  · rw [e2_a (by omega), u2_a (by decide), e1_a (by omega)]
  · rw [e2_a (by omega), u2_a (by decide), e1_a (by omega)]
/-- from a process at rest -/
theorem In.ei (hI : In n B G f h) (hp : p < 6) (hin : f 423 p ≠ 0) : EI n p f (yl G (yV G p)) (yV G p + yO G + 2 * sm (wt G) (yV G p + 1)) ∧ yV G p + yO G + 2 * sm (wt G) (yV G p + 1) ≤ 10000000 := by
  obtain ⟨h1, h2, h3, h4, h5, h6, h7, h8, h9, h10, h11⟩ := hI
  obtain ⟨pn, hP⟩ := h9 p hp hin
  obtain ⟨ev, e1, e2⟩ := hP.2.2.2.2.2.2.2.2
  have hnu : nu p f + s6 (yD G p (yV G p)) ≤ s6 (yl G (yV G p)) := by
    have h1 : ∀ u, u < 6 → Int32.toNatClampNeg (f 441 (6 * p + u)) - Int32.toNatClampNeg (f 442 (6 * p + u)) + yD G p (yV G p) u ≤ yl G (yV G p) u := fun u hu => by
      obtain ⟨b1, b2, _⟩ := hP.2.1.2 u hu
      have := h7.2.2.1 p (yV G p) u
      have := (h7.len h2 (yV G p) u).2.1
      rw [b1, b2, nI_clamp (by omega), nI_clamp (by omega)]; omega
    have a0 := h1 0 (by decide); have a1 := h1 1 (by decide); have a2 := h1 2 (by decide); have a3 := h1 3 (by decide); have a4 := h1 4 (by decide); have a5 := h1 5 (by decide)
    unfold nu s6
    dsimp only
    omega
  have hl := (h7.len h2 (yV G p) 0).2.2
  refine ⟨⟨hP.mi h7 h2 pn, hP.2.2.2.2.2.2.2.1.1, ev, e1, ?_⟩, ?_⟩
  · show _ ≤ _ + 2 * (sm (wt G) (yV G p) + wt G (yV G p))
    omega
  · obtain ⟨g1, _, _, _, _, _, _, _, g9, g10, g11, g12⟩ := h7
    have := g9 (yV G p + 1)
    obtain ⟨i1, i2, i3, i4, i5, i6, i7⟩ := g1 p hp
    have := (g1 (yV G p % 8) (by omega)).2.2.2.2.2.2
    omega
end
