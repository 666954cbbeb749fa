/-! The class and the model pass fronts alike. -/
section
variable {A : am_A} {g f : hs} {n p q u t m : Nat} {L : Nat → Nat}
theorem app_a {s a b : Nat} {w : Int32} (h1 : a ≠ s) (h2 : a ≠ s + 1) : c_app s u w g a b = g a b := by
  unfold c_app
  (repeat' split) <;> simp (disch := first | decide | omega) only [u2_a]
theorem odrop_a {fa c a b : Nat} (h : a ≠ nd p + 64) : c_odrop p fa c g a b = g a b := by unfold c_odrop; simp (disch := first | decide | omega) only [u2_a]
theorem front_a {s a b : Nat} {real : Bool} (h1 : a ≠ nd p + (47 + p)) (h2 : a ≠ nd p + 37) (h3 : a ≠ nd p + 38) (h4 : a ≠ nd p + 64) (h5 : a ≠ s) (h6 : a ≠ s + 1) : c_front p u s real g a b = g a b := by
  unfold c_front
  split
  · exact u2_a h1
  · dsimp only
    split
    · rw [app_a h5 h6]
      split
      · rw [odrop_a h4]
        split
        · rw [ev_a h2 h3, u2_a h1]
        · exact u2_a h1
      · split
        · rw [ev_a h2 h3, u2_a h1]
        · exact u2_a h1
    · split
      · rw [ev_a h2 h3, u2_a h1]
      · exact u2_a h1
/-- applying to a State -/
theorem app_RS {s : Nat} {w : Int32} (h : RS s (6 * p) 438 g f) (hu : u < 6) (ho : f 438 (6 * p + 1) = -1 ∨ ¬ f 438 (6 * p + 1) < 0) : RS s (6 * p) 438 (c_app s u w g) (m_apply p u w f) := by
  obtain ⟨z, hz, ez⟩ : ∃ z, z < 4 ∧ (w >>> ((2 : Int32) &&& 31)) &&& 3 = nI z := by
    rcases and3 (w >>> ((2 : Int32) &&& 31)) with e | e | e | e
    · exact ⟨0, by decide, e⟩
    · exact ⟨1, by decide, e⟩
    · exact ⟨2, by decide, e⟩
    · exact ⟨3, by decide, e⟩
  obtain ⟨h1, h2, h3⟩ := h
  unfold c_app m_apply
  rw [ez, nI_clamp (by omega)]
  rcases and3 w with e | e | e | e
  · simp only [if_pos e]
    refine ⟨?_, ?_, fun i hi => ?_⟩
    · simp (disch := first | decide | omega) only [u2_a, u2_i, u2_s]; rw [h1]
    · simp (disch := first | decide | omega) only [u2_a, u2_i, u2_s]; exact h2
    · by_cases c : i = z
      · subst c; rw [u2_s, u2_s]
      · rw [u2_i c, u2_a (by omega), u2_i (by omega), u2_i (by omega)]; exact h3 i hi
  · simp only [if_neg (show ¬ w &&& 3 = 0 by rw [e]; decide), if_pos e]
    refine ⟨?_, ?_, fun i hi => ?_⟩
    · simp (disch := first | decide | omega) only [u2_a, u2_i, u2_s]; rw [h1]
    · simp (disch := first | decide | omega) only [u2_a, u2_i, u2_s]; exact h2
    · by_cases c : i = z
      · subst c; rw [u2_s, u2_s, h3 i hi]
      · rw [u2_i c, u2_a (by omega), u2_i (by omega), u2_i (by omega)]; exact h3 i hi
  · simp only [if_neg (show ¬ w &&& 3 = 0 by rw [e]; decide), if_neg (show ¬ w &&& 3 = 1 by rw [e]; decide), if_pos e]
    have : (g s 1 = -1) ↔ f 438 (6 * p + 1) < 0 := by
      rw [h2]
      constructor
      · intro q; rw [q]; exact neg1
      · intro q; rcases ho with ho | ho
        · exact ho
        · exact absurd q ho
    by_cases c : f 438 (6 * p + 1) < 0
    · rw [if_pos (this.mpr c), if_pos c]
      refine ⟨?_, ?_, fun i hi => ?_⟩
      · simp (disch := first | decide | omega) only [u2_a, u2_i, u2_s]; rw [h1]
      · rw [u2_s, u2_s]
      · rw [u2_a (by omega), u2_a (by omega), u2_i (by omega), u2_i (by omega)]; exact h3 i hi
    · rw [if_neg (fun q => c (this.mp q)), if_neg c]
      refine ⟨?_, ?_, fun i hi => ?_⟩
      · rw [u2_s, u2_s, h1]
      · simp (disch := first | decide | omega) only [u2_a, u2_i, u2_s]; exact h2
      · rw [u2_a (by omega), u2_i (by omega)]; exact h3 i hi
  · simp only [if_neg (show ¬ w &&& 3 = 0 by rw [e]; decide), if_neg (show ¬ w &&& 3 = 1 by rw [e]; decide), if_neg (show ¬ w &&& 3 = 2 by rw [e]; decide)]
    by_cases c : f 438 (6 * p + 1) = nI u
    · rw [if_pos (show g s 1 = nI u by rw [h2]; exact c), if_pos c]
      refine ⟨?_, ?_, fun i hi => ?_⟩
      · simp (disch := first | decide | omega) only [u2_a, u2_i, u2_s]; rw [h1]
      · rw [u2_s, u2_s]
      · rw [u2_a (by omega), u2_a (by omega), u2_i (by omega), u2_i (by omega)]; exact h3 i hi
    · rw [if_neg (show ¬ g s 1 = nI u by rw [h2]; exact c), if_neg c]
      refine ⟨?_, ?_, fun i hi => ?_⟩
      · rw [u2_s, u2_s, h1]
      · simp (disch := first | decide | omega) only [u2_a, u2_i, u2_s]; exact h2
      · rw [u2_a (by omega), u2_i (by omega)]; exact h3 i hi
theorem app_own {w : Int32} (hu : u < 6) (ho : f 438 (6 * p + 1) = -1 ∨ ¬ f 438 (6 * p + 1) < 0) : m_apply p u w f 438 (6 * p + 1) = -1 ∨ ¬ m_apply p u w f 438 (6 * p + 1) < 0 := by
  unfold m_apply
  (repeat' split)
  all_goals (first
    | (left; exact u2_s _ _ _ _)
    | (right; rw [u2_s]; exact nI_pos (by omega))
    | (simp (disch := omega) only [u2_i]; exact ho))
/-- the events of both -/
def EV (p : Nat) (g f : hs) : Prop := g (nd p + 37) 0 = f 424 p ∧ ¬ f 424 p < 0 ∧ ∀ k, k < 320 → g (nd p + 38) k = f 425 (320 * p + k)
theorem EV.add {w a b c e : Int32} (h : EV p g f) (h0 : ¬ f 424 p + 1 < 0) : EV p (c_ev p w a b c e g) (m_ev p w a b c e f) := by
  obtain ⟨h1, h2, h3⟩ := h
  have hm : Int32.toNatClampNeg (f 424 p) % 64 < 64 := Nat.mod_lt _ (by decide)
  refine ⟨?_, ?_, fun k hk => ?_⟩
  · unfold c_ev m_ev; rw [u2_s, u2_s, h1]
  · unfold m_ev; rw [u2_s]; exact h0
  · unfold c_ev m_ev
    rw [h1]
    generalize Int32.toNatClampNeg (f 424 p) % 64 = z at hm
    have n1 : nd p + 38 ≠ nd p + 37 := by omega
    by_cases k4 : k = 5 * z + 4
    · subst k4; rw [show 320 * p + (5 * z + 4) = 320 * p + 5 * z + 4 by omega]; simp (disch := first | decide | omega) only [u2_a, u2_s]
    · by_cases k3 : k = 5 * z + 3
      · subst k3; rw [show 320 * p + (5 * z + 3) = 320 * p + 5 * z + 3 by omega]; simp (disch := first | decide | omega) only [u2_a, u2_i, u2_s]
      · by_cases k2 : k = 5 * z + 2
        · subst k2; rw [show 320 * p + (5 * z + 2) = 320 * p + 5 * z + 2 by omega]; simp (disch := first | decide | omega) only [u2_a, u2_i, u2_s]
        · by_cases k1' : k = 5 * z + 1
          · subst k1'; rw [show 320 * p + (5 * z + 1) = 320 * p + 5 * z + 1 by omega]; simp (disch := first | decide | omega) only [u2_a, u2_i, u2_s]
          · by_cases k0' : k = 5 * z
            · subst k0'; simp (disch := first | decide | omega) only [u2_a, u2_i, u2_s]
            · simp (disch := first | decide | omega) only [u2_a, u2_i]; exact h3 k hk
theorem EV.of {g' f' : hs} (h : EV p g f) (h1 : ∀ j, g' (nd p + 37) j = g (nd p + 37) j) (h2 : ∀ j, g' (nd p + 38) j = g (nd p + 38) j) (h3 : f' 424 p = f 424 p) (h4 : ∀ k, f' 425 k = f 425 k) : EV p g' f' :=
  ⟨by rw [h1, h3]; exact h.1, by rw [h3]; exact h.2.1, fun k hk => by rw [h2, h4]; exact h.2.2 k hk⟩
theorem RS.of {a b c : Nat} {g' f' : hs} (h : RS a b c g f) (h1 : ∀ j, g' a j = g a j) (h2 : ∀ j, g' (a + 1) j = g (a + 1) j) (h3 : ∀ i, i < 6 → f' c (b + i) = f c (b + i)) : RS a b c g' f' :=
  ⟨by rw [h1]; exact h.1.trans (h3 0 (by omega)).symm, by rw [h1, h3 1 (by omega)]; exact h.2.1, fun i hi => by rw [h2, Nat.add_assoc, h3 (2 + i) (by omega), ← Nat.add_assoc]; exact h.2.2 i hi⟩
theorem RM.of {k : Nat} {g' f' : hs} (h : RM n p u k g f) (h1 : ∀ j, g' (nd p + 61) j = g (nd p + 61) j) (h2 : ∀ j, g' (nd p + 62) j = g (nd p + 62) j) (h3 : ∀ j, g' (nd p + 63) j = g (nd p + 63) j) (h4 : ∀ a j, a = 446 ∨ a = 447 ∨ a = 448 → f' a j = f a j) : RM n p u k g' f' :=
  ⟨by rw [h1, h4 446 _ (by decide)]; exact h.1, by rw [h2, h4 447 _ (by decide)]; exact h.2.1, fun v hv => by rw [h3, h4 448 _ (by decide)]; exact h.2.2.1 v hv, fun v a b => by rw [h3]; exact h.2.2.2 v a b⟩
theorem RR.of {g' f' : hs} (h : RR n p g f L) (h0 : ∀ j, g' (nd p + 60) j = g (nd p + 60) j) (h1 : ∀ j, g' (nd p + 61) j = g (nd p + 61) j) (h2 : ∀ j, g' (nd p + 62) j = g (nd p + 62) j) (h3 : ∀ j, g' (nd p + 63) j = g (nd p + 63) j) (h4 : ∀ a j, a = 445 ∨ a = 446 ∨ a = 447 ∨ a = 448 → f' a j = f a j) : RR n p g' f' L := fun u hu => by
  obtain ⟨r1, r2, r3, r4⟩ := h u hu
  refine ⟨r1, fun i hi => by rw [h0]; exact r2 i hi, fun i hi => by rw [h4 445 _ (by decide)]; exact r3 i hi, fun k a b c => ?_⟩
  rw [h0, h4 445 _ (by decide)]
  exact ⟨(r4 k a b c).1, fun q => ((r4 k a b c).2 q).of h1 h2 h3 (fun a j ha => h4 a j (by omega))⟩
theorem RO.of {g' f' : hs} (h : RO p g f) (h0 : ∀ a j, a = 64 ∨ a = 65 ∨ a = 66 → g' (nd p + a) j = g (nd p + a) j) (h4 : ∀ a j, a = 449 ∨ a = 450 ∨ a = 451 ∨ a = 452 → f' a j = f a j) : RO p g' f' := by
  obtain ⟨fa, c, ⟨o1, o2, o3, o4⟩, hc, he⟩ := h
  refine ⟨fa, c, ⟨by rw [h0 64 _ (by decide)]; exact o1, by rw [h0 64 _ (by decide)]; exact o2, o3, o4⟩, by rw [h4 449 _ (by decide)]; exact hc, fun e hh => ?_⟩
  rw [h0 65 _ (by decide), h0 66 _ (by decide), h4 450 _ (by decide), h4 451 _ (by decide), h4 452 _ (by decide)]
  exact he e hh
/-- an entry dropped -/
theorem RO.drop {c fa : Nat} (hO : oOK p g fa c) (hc : f 449 p = nI c) (hc0 : 0 < c) (he : ∀ e, e < c → g (nd p + 65) ((fa + e) % 128) = cid (f 451 (256 * p + e)) (f 450 (256 * p + e)) ∧ g (nd p + 66) ((fa + e) % 128) = f 452 (256 * p + e)) {g' f' : hs} (h1 : ∀ j, g' (nd p + 64) j = c_odrop p fa c g (nd p + 64) j) (h2 : ∀ a j, a = 65 ∨ a = 66 → g' (nd p + a) j = g (nd p + a) j) (h3 : ∀ a j, a = 449 ∨ a = 450 ∨ a = 451 ∨ a = 452 → f' a j = m_shift p f a j) : RO p g' f' := by
  obtain ⟨o1, o2, o3, o4⟩ := hO
  refine ⟨(fa + 1) % 128, c - 1, ⟨?_, ?_, Nat.mod_lt _ (by decide), by omega⟩, ?_, fun e hh => ?_⟩
  · rw [h1]; unfold c_odrop; simp (disch := first | decide | omega) only [u2_i, u2_s]
  · rw [h1]; unfold c_odrop; rw [u2_s]
  · rw [h3 449 _ (by decide)]; unfold m_shift; rw [if_pos ⟨rfl, rfl⟩, hc, nI_sub1 hc0]
  · have e1 : ((fa + 1) % 128 + e) % 128 = (fa + (e + 1)) % 128 := by omega
    have e2 : ∀ a, a = 450 ∨ a = 451 ∨ a = 452 → m_shift p f a (256 * p + e) = f a (256 * p + (e + 1)) := fun a ha => by
      unfold m_shift
      rw [if_neg (by omega), hc, nI_clamp (by omega), if_pos ⟨ha, by omega, by omega⟩, Nat.add_assoc]
    rw [h2 65 _ (by decide), h2 66 _ (by decide), h3 450 _ (by decide), h3 451 _ (by decide), h3 452 _ (by decide), e1, e2 450 (by decide), e2 451 (by decide), e2 452 (by decide)]
    exact he (e + 1) (by omega)
theorem RD.pass (h : RD p g f) (hu : u < 6) (hp : p < 6) {g' f' : hs} (h1 : ∀ j, g' (nd p + (47 + p)) j = am_u2 g (nd p + (47 + p)) u (g (nd p + (47 + p)) u + 1) (nd p + (47 + p)) j) (h2 : ∀ q j, q < 6 → g' (nd p + (54 + q)) j = g (nd p + (54 + q)) j) (h3 : ∀ q j, q < 6 → q ≠ p → g' (nd p + (47 + q)) j = g (nd p + (47 + q)) j) (h4 : ∀ j, f' 442 j = am_u2 f 442 (6 * p + u) (f 442 (6 * p + u) + 1) 442 j) (h5 : ∀ a j, a = 441 ∨ a = 443 ∨ a = 444 → f' a j = f a j) : RD p g' f' := by
  refine ⟨fun v hv => ⟨?_, ?_⟩, fun q v hq hv hqp => ?_⟩
  · rw [h2 p v hp, h5 441 _ (by decide)]; exact (h.1 v hv).1
  · rw [h1, h4]
    by_cases e : v = u
    · subst e; rw [u2_s, u2_s, (h.1 v hv).2]
    · rw [u2_i e, u2_i (by omega)]; exact (h.1 v hv).2
  · rw [h3 q v hq hqp, h2 q v hq, h5 443 _ (by decide), h5 444 _ (by decide)]; exact h.2 q v hq hv hqp
/-- both pass the front of u: into State s; real: told as events -/
theorem front_step {s : Nat} {real ob : Bool} (h : RF n p g f L) (hM : MI n p f L) (hu : u < 6) (hf : f 442 (6 * p + u) < f 441 (6 * p + u)) (hst : s = nd p + 39 ∨ s = nd p + 41) (hs' : RS s (6 * p) 438 g f) (ho : f 438 (6 * p + 1) = -1 ∨ ¬ f 438 (6 * p + 1) < 0) (hev : EV p g f) (he1 : ¬ f 424 p + 1 < 0) (hre : (real = true ↔ f 415 60 = 0))
    (hob : f 446 (m_fr p u f) = 2 ∨ f 446 (m_fr p u f) = 3 → (ob = true ∧ 0 < f 449 p) ∨ (ob = false ∧ f 449 p = 0)) :
    RF n p (c_front p u s real g) (m_pass p u ob f) L ∧ RS s (6 * p) 438 (c_front p u s real g) (m_pass p u ob f) ∧ EV p (c_front p u s real g) (m_pass p u ob f) ∧ (m_pass p u ob f 438 (6 * p + 1) = -1 ∨ ¬ m_pass p u ob f 438 (6 * p + 1) < 0) := by
  have hp : p < 6 := by have := hM.1; have := hM.2.1; omega
  obtain ⟨a, b, e1, e2, e3, e4, e5, e6, e7, e8, e9, e10⟩ := h.front hM hu hf
  obtain ⟨hD, hR, hRO, q0, q1, q2, q3⟩ := h
  obtain ⟨fa, c, hO, hc, he⟩ := id hRO
  obtain ⟨o1, o2, o3, o4⟩ := id hO
  have srt : g (nd p + 61) (c_fr p u g) = f 446 (m_fr p u f) := by rw [e10, e9]; exact e7.1
  have val : g (nd p + 62) (c_fr p u g) = f 447 (m_fr p u f) := by rw [e10, e9]; exact e7.2.1
  have dn : g (nd p + (47 + p)) u = f 442 (6 * p + u) := (hD.1 u hu).2
  -- what neither touches
  have gA : ∀ x j, x ≠ nd p + (47 + p) → x ≠ nd p + 37 → x ≠ nd p + 38 → x ≠ nd p + 64 → x ≠ s → x ≠ s + 1 → c_front p u s real g x j = g x j := fun x j h1 h2 h3 h4 h5 h6 => front_a h1 h2 h3 h4 h5 h6
  have fA : ∀ x j, (x ≠ 424 ∧ x ≠ 425 ∧ x ≠ 438 ∧ x ≠ 442 ∧ (x < 449 ∨ 452 < x)) → m_pass p u ob f x j = f x j := fun x j hx => pass_a hx
  have rr : RR n p (c_front p u s real g) (m_pass p u ob f) L := hR.of (fun j => gA _ _ (by omega) (by omega) (by omega) (by omega) (by omega) (by omega)) (fun j => gA _ _ (by omega) (by omega) (by omega) (by omega) (by omega) (by omega)) (fun j => gA _ _ (by omega) (by omega) (by omega) (by omega) (by omega) (by omega)) (fun j => gA _ _ (by omega) (by omega) (by omega) (by omega) (by omega) (by omega)) (fun x j hx => fA x j (by omega))
  have g45 : ∀ j, c_front p u s real g (nd p + 45) j = g (nd p + 45) j := fun j => gA _ _ (by omega) (by omega) (by omega) (by omega) (by omega) (by omega)
  -- the done row, the orders, the state, the events
  have main : (∀ j, c_front p u s real g (nd p + (47 + p)) j = am_u2 g (nd p + (47 + p)) u (g (nd p + (47 + p)) u + 1) (nd p + (47 + p)) j) ∧ (∀ j, m_pass p u ob f 442 j = am_u2 f 442 (6 * p + u) (f 442 (6 * p + u) + 1) 442 j) ∧ RO p (c_front p u s real g) (m_pass p u ob f) ∧ RS s (6 * p) 438 (c_front p u s real g) (m_pass p u ob f) ∧ EV p (c_front p u s real g) (m_pass p u ob f) ∧ (m_pass p u ob f 438 (6 * p + 1) = -1 ∨ ¬ m_pass p u ob f 438 (6 * p + 1) < 0) := by
    unfold c_front m_pass
    rw [srt, val, dn, e1, k1, e8, o1, o2, nI_clamp (by omega), nI_clamp (by omega)]
    generalize hG0 : am_u2 g (nd p + (47 + p)) u (nI (a + 1)) = G0
    generalize hF0 : am_u2 f 442 (6 * p + u) (nI (a + 1)) = F0
    have g0 : ∀ x j, x ≠ nd p + (47 + p) → G0 x j = g x j := fun x j hx => by rw [← hG0]; exact u2_a hx
    have f0 : ∀ x j, x ≠ 442 → F0 x j = f x j := fun x j hx => by rw [← hF0]; exact u2_a hx
    have ev0 : EV p G0 F0 := hev.of (fun j => g0 _ _ (by omega)) (fun j => g0 _ _ (by omega)) (f0 _ _ (by decide)) (fun k => f0 _ _ (by decide))
    have rs0 : RS s (6 * p) 438 G0 F0 := hs'.of (fun j => g0 _ _ (by omega)) (fun j => g0 _ _ (by omega)) (fun i hi => f0 _ _ (by decide))
    have ro0 : RO p G0 F0 := hRO.of (fun x j hx => g0 _ _ (by omega)) (fun x j hx => f0 _ _ (by omega))
    by_cases s4 : f 446 (m_fr p u f) = 4
    · rw [if_pos s4, if_pos s4]
      exact ⟨fun j => rfl, fun j => rfl, ro0, rs0, ev0, by rw [f0 _ _ (by decide)]; exact ho⟩
    · rw [if_neg s4, if_neg s4]
      dsimp only
      -- the event, or none
      generalize hH : (if real = true then c_ev p 2 (nI u) (nI (a + 1)) (f 446 (m_fr p u f)) (f 447 (m_fr p u f)) G0 else G0) = H
      have hHa : ∀ x j, x ≠ nd p + 37 → x ≠ nd p + 38 → H x j = G0 x j := fun x j h1 h2 => by
        rw [← hH]; split
        · exact ev_a h1 h2
        · rfl
      have note : ∀ (g' X : hs), (∀ j, g' (nd p + 37) j = H (nd p + 37) j) → (∀ j, g' (nd p + 38) j = H (nd p + 38) j) → X 424 p = F0 424 p → (∀ k, X 425 k = F0 425 k) → X 415 60 = f 415 60 → EV p g' (m_note p 2 (nI u) (nI (a + 1)) (f 446 (m_fr p u f)) (f 447 (m_fr p u f)) X) := fun g' X h1 h2 h3 h4 h5 => by
        have evX : EV p G0 X := ev0.of (fun j => rfl) (fun j => rfl) h3 h4
        unfold m_note
        cases hr : real with
        | true =>
          have : X 415 60 = 0 := by rw [h5]; exact hre.mp hr
          rw [if_pos this]
          have hh : H = c_ev p 2 (nI u) (nI (a + 1)) (f 446 (m_fr p u f)) (f 447 (m_fr p u f)) G0 := by rw [← hH, hr]; rfl
          have : EV p (c_ev p 2 (nI u) (nI (a + 1)) (f 446 (m_fr p u f)) (f 447 (m_fr p u f)) G0) (m_ev p 2 (nI u) (nI (a + 1)) (f 446 (m_fr p u f)) (f 447 (m_fr p u f)) X) := evX.add (by rw [h3, f0 _ _ (by decide)]; exact he1)
          rw [← hh] at this
          exact this.of h1 h2 rfl (fun k => rfl)
        | false =>
          have : ¬ X 415 60 = 0 := fun q => by rw [h5] at q; have := hre.mpr q; rw [hr] at this; cases this
          rw [if_neg this]
          have hh : H = G0 := by rw [← hH, hr]; rfl
          rw [hh] at h1 h2
          exact evX.of h1 h2 rfl (fun k => rfl)
      by_cases s23 : f 446 (m_fr p u f) = 2 ∨ f 446 (m_fr p u f) = 3
      · rw [if_pos s23, if_pos s23]
        have fin : ∀ (H' F' : hs), (∀ x j, x ≠ nd p + 64 → H' x j = H x j) → (∀ x j, x < 449 ∨ 452 < x → F' x j = F0 x j) → RO p H' F' → (∀ j, c_app s u (f 447 (m_fr p u f)) H' (nd p + (47 + p)) j = G0 (nd p + (47 + p)) j) ∧ (∀ j, m_note p 2 (nI u) (nI (a + 1)) (f 446 (m_fr p u f)) (f 447 (m_fr p u f)) (m_apply p u (f 447 (m_fr p u f)) F') 442 j = F0 442 j) ∧ RO p (c_app s u (f 447 (m_fr p u f)) H') (m_note p 2 (nI u) (nI (a + 1)) (f 446 (m_fr p u f)) (f 447 (m_fr p u f)) (m_apply p u (f 447 (m_fr p u f)) F')) ∧ RS s (6 * p) 438 (c_app s u (f 447 (m_fr p u f)) H') (m_note p 2 (nI u) (nI (a + 1)) (f 446 (m_fr p u f)) (f 447 (m_fr p u f)) (m_apply p u (f 447 (m_fr p u f)) F')) ∧ EV p (c_app s u (f 447 (m_fr p u f)) H') (m_note p 2 (nI u) (nI (a + 1)) (f 446 (m_fr p u f)) (f 447 (m_fr p u f)) (m_apply p u (f 447 (m_fr p u f)) F')) ∧ (m_note p 2 (nI u) (nI (a + 1)) (f 446 (m_fr p u f)) (f 447 (m_fr p u f)) (m_apply p u (f 447 (m_fr p u f)) F') 438 (6 * p + 1) = -1 ∨ ¬ m_note p 2 (nI u) (nI (a + 1)) (f 446 (m_fr p u f)) (f 447 (m_fr p u f)) (m_apply p u (f 447 (m_fr p u f)) F') 438 (6 * p + 1) < 0) := fun H' F' i1 i2 i3 => by
          have ho' : F' 438 (6 * p + 1) = -1 ∨ ¬ F' 438 (6 * p + 1) < 0 := by rw [i2 _ _ (by decide), f0 _ _ (by decide)]; exact ho
          have rsH : RS s (6 * p) 438 H' F' := rs0.of (fun j => by rw [i1 _ _ (by omega), hHa _ _ (by omega) (by omega)]) (fun j => by rw [i1 _ _ (by omega), hHa _ _ (by omega) (by omega)]) (fun i hi => i2 _ _ (by decide))
          refine ⟨fun j => ?_, fun j => ?_, ?_, ?_, ?_, ?_⟩
          · rw [app_a (by omega) (by omega), i1 _ _ (by omega), hHa _ _ (by omega) (by omega)]
          · rw [note_a (by decide), apply_a (by decide), i2 _ _ (by decide)]
          · exact i3.of (fun x j hx => app_a (by omega) (by omega)) (fun x j hx => by rw [note_a (by omega), apply_a (by omega)])
          · exact (app_RS rsH hu ho').of (fun j => rfl) (fun j => rfl) (fun i hi => note_a (by decide))
          · exact note _ _ (fun j => by rw [app_a (by omega) (by omega), i1 _ _ (by omega)]) (fun j => by rw [app_a (by omega) (by omega), i1 _ _ (by omega)]) (by rw [apply_a (by decide), i2 _ _ (by decide)]) (fun k => by rw [apply_a (by decide), i2 _ _ (by decide)]) (by rw [apply_a (by decide), i2 _ _ (by decide), f0 _ _ (by decide)])
          · rw [note_a (by decide)]; exact app_own hu ho'
        rcases hob s23 with ⟨ob1, ob2⟩ | ⟨ob1, ob2⟩
        · rw [hc] at ob2
          have hc0 : 0 < c := (nI_ltI (a := 0) (by decide) (by omega)).mp ob2
          rw [ob1, if_pos hc0, if_pos rfl]
          refine fin _ _ (fun x j hx => odrop_a hx) (fun x j hx => shift_a hx) ?_
          have hOH : oOK p H fa c := ⟨by rw [hHa _ _ (by omega) (by omega), g0 _ _ (by omega)]; exact o1, by rw [hHa _ _ (by omega) (by omega), g0 _ _ (by omega)]; exact o2, o3, o4⟩
          refine RO.drop (g := H) (f := F0) hOH (by rw [f0 _ _ (by decide)]; exact hc) hc0 (fun e hh => ?_) (fun j => rfl) (fun x j hx => odrop_a (by omega)) (fun x j hx => rfl)
          rw [hHa _ _ (by omega) (by omega), g0 _ _ (by omega), hHa _ _ (by omega) (by omega), g0 _ _ (by omega), f0 _ _ (by decide), f0 _ _ (by decide), f0 _ _ (by decide)]
          exact he e hh
        · rw [hc] at ob2
          have hc0 : c = 0 := (nI_eq (b := 0) (by omega) (by decide)).mp ob2
          rw [ob1, if_neg (show ¬ 0 < c by omega), if_neg (by decide)]
          refine fin _ _ (fun x j hx => rfl) (fun x j hx => rfl) ?_
          exact ro0.of (fun x j hx => hHa _ _ (by omega) (by omega)) (fun x j hx => rfl)
      · rw [if_neg s23, if_neg s23]
        refine ⟨fun j => hHa _ _ (by omega) (by omega), fun j => note_a (by decide), ?_, ?_, ?_, ?_⟩
        · exact ro0.of (fun x j hx => hHa _ _ (by omega) (by omega)) (fun x j hx => note_a (by omega))
        · exact rs0.of (fun j => hHa _ _ (by omega) (by omega)) (fun j => hHa _ _ (by omega) (by omega)) (fun i hi => note_a (by decide))
        · exact note H F0 (fun j => rfl) (fun j => rfl) rfl (fun k => rfl) (f0 _ _ (by decide))
        · rw [note_a (by decide), f0 _ _ (by decide)]; exact ho
  obtain ⟨m1, m2, m3, m4, m5, m6⟩ := main
  refine ⟨⟨?_, rr, m3, ?_, ?_, ?_, ?_⟩, m4, m5, m6⟩
  · exact hD.pass hu hp m1 (fun q j hq => gA _ _ (by omega) (by omega) (by omega) (by omega) (by omega) (by omega)) (fun q j hq hqp => gA _ _ (by omega) (by omega) (by omega) (by omega) (by omega) (by omega)) m2 (fun x j hx => fA x j (by omega))
  · rw [g45]; exact q0
  · rw [g45, fA 433 p (by omega)]; exact q1
  · rw [g45, fA 432 p (by omega)]; exact q2
  · rw [m5.1]; exact m5.2.1
end
