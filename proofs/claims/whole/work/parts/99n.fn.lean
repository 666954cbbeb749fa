/-! Both become whole alike. -/
section
variable {A A' : am_A} {g f g' f' g0 f0 f1 gR : hs} {n p q u t m B B' P X : Nat} {L L' : Nat → Nat} {c : wc} {G G' G0 : Gh} {Q : am_Res → am_A → Prop} {d : Nat} {h : Option Nat} {s : Int32}
theorem stcp_a {a b x j : Nat} (h1 : x ≠ a) (h2 : x ≠ a + 1) : c_stcp a b g x j = g x j := by
  unfold c_stcp; rw [cp_a h2]; simp (disch := first | decide | omega) only [u2_a]
theorem stcp_v {a b : Nat} (h3 : b + 1 ≠ a) : c_stcp a b g a 0 = g b 0 ∧ c_stcp a b g a 1 = g b 1 ∧ ∀ i, i < 4 → c_stcp a b g (a + 1) i = g (b + 1) i := by
  unfold c_stcp
  refine ⟨by rw [cp_a (by omega), u2_i (by decide), u2_s], by rw [cp_a (by omega), u2_s], fun i hi => ?_⟩
  unfold c_cp va_cpy
  rw [if_pos rfl, if_pos ⟨by omega, by omega⟩, u2_a h3, u2_a h3, show 0 + (i - 0) = i by omega]
theorem RS.cp {a b y z : Nat} (hR : RS b y z g f) (h3 : b + 1 ≠ a) : RS a y z (c_stcp a b g) f := by
  obtain ⟨e1, e2, e3⟩ := stcp_v (g := g) h3
  exact ⟨by rw [e1]; exact hR.1, by rw [e2]; exact hR.2.1, fun i hi => by rw [e3 i hi]; exact hR.2.2 i hi⟩
theorem save_a {x j : Nat} (h1 : x ≠ nd p + 67) (h2 : ¬ (x = nd p + 45 ∧ (j = 13 ∨ j = 14))) : c_save p g x j = g x j := by
  unfold c_save
  rw [u2_ne (by omega), u2_ne (by omega), cp_a h1]
theorem save_67 {j : Nat} (hj : j < 6) : c_save p g (nd p + 67) j = g (nd p + (47 + p)) j := by
  unfold c_save
  rw [u2_a (by omega), u2_a (by omega)]
  unfold c_cp va_cpy
  rw [if_pos rfl, if_pos ⟨by omega, by omega⟩, show 0 + (j - 0) = j by omega]
theorem save_45 : c_save p g (nd p + 45) 13 = g (nd p + 64) 0 ∧ c_save p g (nd p + 45) 14 = g (nd p + 64) 1 := by
  unfold c_save
  exact ⟨by rw [u2_i (by decide), u2_s], by rw [u2_s]⟩
theorem rest_a {x j : Nat} (h1 : x ≠ nd p + (47 + p)) (h2 : ¬ (x = nd p + 64 ∧ (j = 0 ∨ j = 1))) : c_rest p g x j = g x j := by
  unfold c_rest
  rw [u2_ne (by omega), u2_ne (by omega), cp_a h1]
theorem rest_47 (hp : p < 6) {j : Nat} (hj : j < 6) : c_rest p g (nd p + (47 + p)) j = g (nd p + 67) j := by
  unfold c_rest
  rw [u2_a (by omega), u2_a (by omega)]
  unfold c_cp va_cpy
  rw [if_pos rfl, if_pos ⟨by omega, by omega⟩, show 0 + (j - 0) = j by omega]
theorem rest_64 (hp : p < 6) : c_rest p g (nd p + 64) 0 = g (nd p + 45) 13 ∧ c_rest p g (nd p + 64) 1 = g (nd p + 45) 14 := by
  unfold c_rest
  exact ⟨by rw [u2_i (by decide), u2_s], by rw [u2_s]⟩
theorem ce_a {s way x j : Nat} {real : Bool} (h1 : x ≠ nd p + (47 + p)) (h2 : x ≠ nd p + 37) (h3 : x ≠ nd p + 38) (h4 : x ≠ nd p + 64) (h5 : x ≠ s) (h6 : x ≠ s + 1) : ∀ b (g : hs), c_e p s way real b g x j = g x j := by
  intro b
  induction b with
  | zero => intro g; rfl
  | succ b ih =>
    intro g
    cases hc : c_ps p way g with
    | none => rw [ce_none hc]
    | some u => rw [ce_some hc, ih, front_a h1 h2 h3 h4 h5 h6]
theorem cend_a {s x j : Nat} {real : Bool} (h1 : x ≠ nd p + (47 + p)) (h2 : x ≠ nd p + 37) (h3 : x ≠ nd p + 38) (h4 : x ≠ nd p + 64) (h5 : x ≠ s) (h6 : x ≠ s + 1) : c_end p s real g x j = g x j := by
  unfold c_end
  rw [ce_a h1 h2 h3 h4 h5 h6]
  unfold c_oclear
  rw [u2_a h4, u2_a h4, ce_a h1 h2 h3 h4 h5 h6]
/-- the class's states on the way -/
def c_w3 (p : Nat) (g : hs) : hs := c_save p (c_stcp (nd p + 41) (nd p + 39) (am_u2 g (nd p) 8 3))
def c_w5 (p : Nat) (g : hs) : hs := c_rest p (c_end p (nd p + 41) false (c_w3 p g))
theorem w3_a {x j : Nat} (h1 : x ≠ nd p + 67) (h2 : ¬ (x = nd p + 45 ∧ (j = 13 ∨ j = 14))) (h3 : x ≠ nd p + 41) (h4 : x ≠ nd p + 42) (h5 : ¬ (x = nd p ∧ j = 8)) : c_w3 p g x j = g x j := by
  unfold c_w3
  rw [save_a h1 h2, stcp_a h3 (by omega), u2_ne (by omega)]
theorem w5_a {x j : Nat} (h1 : x ≠ nd p + 67) (h2 : ¬ (x = nd p + 45 ∧ (j = 13 ∨ j = 14))) (h3 : x ≠ nd p + 41) (h4 : x ≠ nd p + 42) (h5 : ¬ (x = nd p ∧ j = 8)) (h6 : x ≠ nd p + (47 + p)) (h7 : x ≠ nd p + 37) (h8 : x ≠ nd p + 38) (h9 : x ≠ nd p + 64) : c_w5 p g x j = g x j := by
  unfold c_w5
  rw [rest_a h6 (by omega), cend_a h6 h7 h8 h9 h3 (by omega), w3_a h1 h2 h3 h4 h5]
theorem FS.w3 (hZ : ZP n p c A g f L) (hp : p < 6) (hE : EI n p (m_wh0 p f) L X) (hX : X ≤ 10000000) : FS n p (nd p + 41) (c_w3 p g) (m_wh0 p f) L := by
  have hnd := nd_b hp
  obtain ⟨n6, n0, _, _⟩ := hZ.1.n6
  obtain ⟨r1, r2, r3, r4, r5, r6, r7, r8, r9⟩ := hZ.2.2.1.get
  have fA : ∀ a k, 420 ≤ a → a ≤ 463 → a ≠ 436 → m_wh0 p f a k = f a k := fun a k h1 h2 h3 => wh0_a (by omega) (by omega) (by omega)
  have gA : ∀ i j, i ≠ 67 → i ≠ 41 → i ≠ 42 → i ≠ 45 → i ≠ 0 → c_w3 p g (nd p + i) j = g (nd p + i) j := fun i j h1 h2 h3 h4 h5 => w3_a (by omega) (by omega) (by omega) (by omega) (by omega)
  have g45 : ∀ j, j ≠ 13 → j ≠ 14 → c_w3 p g (nd p + 45) j = g (nd p + 45) j := fun j h1 h2 => w3_a (by omega) (by omega) (by omega) (by omega) (by omega)
  obtain ⟨_, _, ev, ev1, ev2⟩ := id hE
  have hev : ¬ f 424 p < 0 := by
    rw [fA _ _ (by decide) (by decide) (by decide)] at ev1
    rw [ev1]; exact nI_pos (by omega)
  refine ⟨⟨?_, ?_, ?_, ?_, ?_, ?_, ?_⟩, ?_, ?_, hE.2.1⟩
  · exact r4.r hp (fun i j h1 h2 => gA i j (by omega) (by omega) (by omega) (by omega) (by omega)) (rg.all (fun a k h1 h2 => fA a k (by omega) (by omega) (by omega)))
  · exact r5.r n6 (fun i j h1 h2 => gA i j (by omega) (by omega) (by omega) (by omega) (by omega)) (rg.all (fun a k h1 h2 => fA a k (by omega) (by omega) (by omega)))
  · exact r6.r (fun i j h1 h2 => gA i j (by omega) (by omega) (by omega) (by omega) (by omega)) (rg.all (fun a k h1 h2 => fA a k (by omega) (by omega) (by omega)))
  · rw [g45 _ (by decide) (by decide)]; exact hZ.2.1.2.1
  · rw [g45 _ (by decide) (by decide), fA _ _ (by decide) (by decide) (by decide)]; exact r1.2.2.2.2.1
  · rw [g45 _ (by decide) (by decide), fA _ _ (by decide) (by decide) (by decide)]; exact r1.2.2.2.2.2
  · rw [gA _ _ (by decide) (by decide) (by decide) (by decide) (by decide), hZ.2.1.2.2.2.2.2.2.1]; exact hev
  · have hR : RS (nd p + 39) (6 * p) 438 (am_u2 g (nd p) 8 3) (m_wh0 p f) := r3.of (fun j => u2_a (by omega)) (fun j => u2_a (by omega)) (fun i _ => fA _ _ (by decide) (by decide) (by decide))
    exact (hR.cp (a := nd p + 41) (by omega)).of (fun j => save_a (by omega) (by omega)) (fun j => save_a (by omega) (by omega)) (fun _ _ => rfl)
  · refine ⟨?_, ?_, fun k hk => ?_⟩
    · rw [gA _ _ (by decide) (by decide) (by decide) (by decide) (by decide), fA _ _ (by decide) (by decide) (by decide)]; exact hZ.2.1.2.2.2.2.2.2.1
    · rw [fA _ _ (by decide) (by decide) (by decide)]; exact hev
    · rw [gA _ _ (by decide) (by decide) (by decide) (by decide) (by decide), fA _ _ (by decide) (by decide) (by decide)]; exact hZ.2.1.2.2.2.2.2.2.2 k hk
theorem ZP.whl (hZ : ZP n p c A g f L) (hp : p < 6) (hm : f 436 p = 2) (h60 : f 415 60 = 0) (hE : EI n p (m_wh0 p f) L X) (hX : X ≤ 10000000) : ZP n p c A (c_w5 p g) (m_whl n p f) L ∧ gO p g (c_w5 p g) ∧ okCE p (nd p + 41) false (c_w3 p g) := by
  have hnd := nd_b hp
  obtain ⟨n6, n0, _, _⟩ := hZ.1.n6
  obtain ⟨r1, r2, r3, r4, r5, r6, r7, r8, r9⟩ := hZ.2.2.1.get
  have hFS := FS.w3 hZ hp hE hX
  have e60 : m_wh0 p f 415 60 = 1 := u2_s _ _ _ _
  obtain ⟨hF, hok⟩ := hFS.fin (real := false) (Or.inr rfl) (by rw [e60]; exact ⟨fun q => absurd q (by decide), fun q => absurd q (by decide)⟩) (hE.fin hX).1
  have fA : ∀ a k, (a ≠ 415 ∧ a ≠ 424 ∧ a ≠ 425 ∧ a ≠ 436 ∧ a ≠ 438 ∧ a ≠ 439 ∧ a ≠ 442 ∧ (a < 449 ∨ 452 < a) ∧ (a < 465 ∨ 467 < a)) → m_whl n p f a k = f a k := fun a k h1 => whl_a (by omega) (by omega)
  have gA : ∀ i j, (i ≠ 67 ∧ i ≠ 41 ∧ i ≠ 42 ∧ i ≠ 45 ∧ i ≠ 0 ∧ i ≠ 47 + p ∧ i ≠ 37 ∧ i ≠ 38 ∧ i ≠ 64) → c_w5 p g (nd p + i) j = g (nd p + i) j := fun i j h1 => w5_a (by omega) (by omega) (by omega) (by omega) (by omega) (by omega) (by omega) (by omega) (by omega)
  have g0' : ∀ j, j ≠ 8 → c_w5 p g (nd p) j = g (nd p) j := fun j hj => w5_a (by omega) (by omega) (by omega) (by omega) (by omega) (by omega) (by omega) (by omega) (by omega)
  have g45 : ∀ j, j ≠ 13 → j ≠ 14 → c_w5 p g (nd p + 45) j = g (nd p + 45) j := fun j h1 h2 => w5_a (by omega) (by omega) (by omega) (by omega) (by omega) (by omega) (by omega) (by omega) (by omega)
  have g8 : c_w5 p g (nd p) 8 = 3 := by
    unfold c_w5
    rw [rest_a (by omega) (by omega), cend_a (by omega) (by omega) (by omega) (by omega) (by omega) (by omega)]
    unfold c_w3
    rw [save_a (by omega) (by omega), stcp_a (by omega) (by omega), u2_s]
  have gE4 : ∀ x j, x ≠ nd p + (47 + p) → x ≠ nd p + 64 → c_w5 p g x j = c_end p (nd p + 41) false (c_w3 p g) x j := fun x j h1 h2 => by
    unfold c_w5; rw [rest_a h1 (by omega)]
  have hgO : gO p g (c_w5 p g) := fun x j hx => w5_a (by omega) (by omega) (by omega) (by omega) (by omega) (by omega) (by omega) (by omega) (by omega)
  have d5 : ∀ u, u < 6 → c_w5 p g (nd p + (47 + p)) u = g (nd p + (47 + p)) u := fun u hu => by
    unfold c_w5
    rw [rest_47 hp hu, cend_a (by omega) (by omega) (by omega) (by omega) (by omega) (by omega)]
    unfold c_w3
    rw [save_67 hu, stcp_a (by omega) (by omega), u2_a (by omega)]
  have o5 : c_w5 p g (nd p + 64) 0 = g (nd p + 64) 0 ∧ c_w5 p g (nd p + 64) 1 = g (nd p + 64) 1 := by
    unfold c_w5
    rw [(rest_64 hp).1, (rest_64 hp).2, cend_a (by omega) (by omega) (by omega) (by omega) (by omega) (by omega), cend_a (by omega) (by omega) (by omega) (by omega) (by omega) (by omega)]
    unfold c_w3
    rw [save_45.1, save_45.2, stcp_a (by omega) (by omega), stcp_a (by omega) (by omega), u2_a (by omega), u2_a (by omega)]
    exact ⟨rfl, rfl⟩
  have hev : EV p (c_w5 p g) (m_whl n p f) := by
    obtain ⟨x1, x2, x3⟩ := hF.2.2.1
    have e4 : ∀ k, m_end n p (m_wh0 p f) 424 k = f 424 k := fun k => by rw [end_nt (Or.inl rfl) (by rw [e60]; decide), wh0_a (by omega) (by omega) (by omega)]
    have e5 : ∀ k, m_end n p (m_wh0 p f) 425 k = f 425 k := fun k => by rw [end_nt (Or.inr rfl) (by rw [e60]; decide), wh0_a (by omega) (by omega) (by omega)]
    refine ⟨?_, ?_, fun k hk => ?_⟩
    · rw [gE4 _ _ (by omega) (by omega), whl_nt (Or.inl rfl), x1, e4]
    · rw [whl_nt (Or.inl rfl), ← e4]; exact x2
    · rw [gE4 _ _ (by omega) (by omega), whl_nt (Or.inr rfl), x3 k hk, e5]
  refine ⟨hZ.upd hp hgO (fun a k h1 h2 => ?_) (hZ.2.1.e (fun j hj => g0' j (by omega)) (g45 _ (by decide) (by decide)) hev (rg.all (fun a k h1 h2 => fA a k (by omega)))) ⟨?_, ?_, ?_, ?_, ?_, ?_, ?_, ?_, ?_⟩ (by rw [g0' _ (by decide)]; exact hZ.2.2.2), hgO, hok⟩
  · by_cases e : a = 415
    · subst e; exact whl_415 h60
    · exact fA a k (by omega)
  · obtain ⟨a1, a2, a3, a4, a5, a6⟩ := r1
    refine ⟨?_, ?_, ?_, ?_, ?_, ?_⟩
    · rw [g0' _ (by decide), fA _ _ (by decide), fA _ _ (by decide)]; exact a1
    · rw [g0' _ (by decide), fA _ _ (by decide), fA _ _ (by decide)]; exact a2
    · rw [g8, whl_436]
    · rw [g0' _ (by decide), fA _ _ (by decide)]; exact a4
    · rw [g45 _ (by decide) (by decide), fA _ _ (by decide)]; exact a5
    · rw [g45 _ (by decide) (by decide), fA _ _ (by decide)]; exact a6
  · exact r2.r (fun i j h1 h2 => gA i j (by omega)) (rg.all (fun a k h1 h2 => fA a k (by omega)))
  · exact r3.of (fun j => gA _ _ (by omega)) (fun j => gA 40 _ (by omega)) (fun i hi => whl_own (Or.inr rfl) (by omega))
  · refine ⟨fun u hu => ⟨?_, ?_⟩, fun q u hq hu hqp => ⟨?_, ?_⟩⟩
    · rw [gA _ _ (by omega), fA _ _ (by decide)]; exact (r4.1 u hu).1
    · rw [d5 u hu, whl_own (Or.inl rfl) (by omega)]; exact (r4.1 u hu).2
    · rw [gA _ _ (by omega), fA _ _ (by decide)]; exact (r4.2 q u hq hu hqp).1
    · rw [gA _ _ (by omega), fA _ _ (by decide)]; exact (r4.2 q u hq hu hqp).2
  · exact r5.r n6 (fun i j h1 h2 => gA i j (by omega)) (rg.all (fun a k h1 h2 => fA a k (by omega)))
  · obtain ⟨fa, co, ⟨o1, o2, o3, o4⟩, oc, oe⟩ := r6
    have tc : Int32.toNatClampNeg (f 449 p) = co := by rw [oc]; exact nI_clamp (by omega)
    refine ⟨fa, co, ⟨by rw [(o5).1]; exact o1, by rw [(o5).2]; exact o2, o3, o4⟩, by rw [whl_449]; exact oc, fun e he => ?_⟩
    rw [gA 65 _ (by omega), gA 66 _ (by omega), whl_ord (Or.inl rfl) (by omega), whl_ord (Or.inr (Or.inl rfl)) (by omega), whl_ord (Or.inr (Or.inr rfl)) (by omega)]
    exact oe e he
  · exact r7.r n6 (fun i j h1 h2 => gA i j (by omega)) (rg.all (fun a k h1 h2 => fA a k (by omega)))
  · intro _
    obtain ⟨x1, x2, x3, x4⟩ := r8 (Or.inl hm)
    refine ⟨?_, fun t u ht hu hb => ?_, fun u hu => ?_, fun u h1 h2 => ?_⟩
    · rw [gA _ _ (by omega), fA _ _ (by decide)]; exact x1
    · rw [fA _ _ (by decide)] at hb
      rw [gA _ _ (by omega), fA _ _ (by decide)]; exact x2 t u ht hu hb
    · rw [gA _ _ (by omega), fA _ _ (by decide)]; exact x3 u hu
    · rw [gA _ _ (by omega)]; exact x4 u h1 h2
  · refine ⟨fun _ => ?_, fun q => ?_⟩
    · obtain ⟨x1, x2, x3⟩ := hF.2.1
      refine ⟨?_, ?_, fun i hi => ?_⟩
      · rw [gE4 _ _ (by omega) (by omega), show 6 * p = 6 * p + 0 from rfl, whl_439 (by decide)]; exact x1
      · rw [gE4 _ _ (by omega) (by omega), whl_439 (by decide)]; exact x2
      · rw [gE4 _ _ (by omega) (by omega), show 6 * p + 2 + i = 6 * p + (2 + i) by omega, whl_439 (by omega), x3 i hi, show 6 * p + 2 + i = 6 * p + (2 + i) by omega]
    · rw [fA _ _ (by decide)] at q
      rw [fA _ _ (by decide), fA _ _ (by decide)]
      exact ⟨(r9.2 q).1, (r9.2 q).2.r (l := 7) (fun i j h1 h2 => gA i j (by omega)) (rg.all (fun a k h1 h2 => fA a k (by omega))) rfl (fun j hj => by omega)⟩
/-- ready in its own attempt -/
theorem ZP.rdo (hZ : ZP n p c A g f L) (hp : p < 6) (h3 : f 436 p = 3) (h2 : f 453 p = 2) : ZP n p c A (c_stcp (nd p + (16 + 2 * p)) (nd p + 41) (am_u2 g (nd p + 6) 3 (sb (g (nd p + 6) 3) p))) (m_rdo p f) L ∧ gO p g (c_stcp (nd p + (16 + 2 * p)) (nd p + 41) (am_u2 g (nd p + 6) 3 (sb (g (nd p + 6) 3) p))) := by
  have hnd := nd_b hp
  obtain ⟨n6, n0, _, _⟩ := hZ.1.n6
  have fA : ∀ a k, a ≠ 456 → a ≠ 460 → m_rdo p f a k = f a k := fun a k h1 h2 => rdo_a h1 h2
  have gB : ∀ x j, x ≠ nd p + (16 + 2 * p) → x ≠ nd p + (17 + 2 * p) → ¬ (x = nd p + 6 ∧ j = 3) → c_stcp (nd p + (16 + 2 * p)) (nd p + 41) (am_u2 g (nd p + 6) 3 (sb (g (nd p + 6) 3) p)) x j = g x j := fun x j h1 h2 h3 => by rw [stcp_a h1 (by omega), u2_ne h3]
  have gA : ∀ i j, (i < 6 ∨ 27 < i) → c_stcp (nd p + (16 + 2 * p)) (nd p + 41) (am_u2 g (nd p + 6) 3 (sb (g (nd p + 6) 3) p)) (nd p + i) j = g (nd p + i) j := fun i j h1 => gB _ _ (by omega) (by omega) (by omega)
  have g0' : ∀ j, c_stcp (nd p + (16 + 2 * p)) (nd p + 41) (am_u2 g (nd p + 6) 3 (sb (g (nd p + 6) 3) p)) (nd p) j = g (nd p) j := fun j => gA 0 j (by omega)
  have hgO : gO p g (c_stcp (nd p + (16 + 2 * p)) (nd p + 41) (am_u2 g (nd p + 6) 3 (sb (g (nd p + 6) 3) p))) := fun x j hx => gB _ _ (by omega) (by omega) (by omega)
  obtain ⟨r1, r2, r3, r4, r5, r6, r7, r8, r9⟩ := hZ.2.2.1.get
  refine ⟨hZ.upd hp hgO (fun a k h1 h2 => fA a k (by omega) (by omega)) (hZ.2.1.r (fun j _ => g0' j) (gA _ _ (by omega)) (fun i j h1 h2 => gA i j (by omega)) (rg.all (fun a k h1 h2 => fA a k (by omega) (by omega)))) ⟨?_, ?_, ?_, ?_, ?_, ?_, ?_, ?_, ?_⟩ (by rw [g0']; exact hZ.2.2.2), hgO⟩
  · exact r1.r (fun j _ => g0' j) (fun j _ => gA 45 j (by omega)) (rg.all (fun a k h1 h2 => fA a k (by omega) (by omega)))
  · exact r2.r (fun i j h1 h2 => gA i j (by omega)) (rg.all (fun a k h1 h2 => fA a k (by omega) (by omega)))
  · exact r3.r (l := 6) (fun i j h1 h2 => gA i j (by omega)) (rg.all (fun a k h1 h2 => fA a k (by omega) (by omega))) rfl (fun j hj => by omega)
  · exact r4.r hp (fun i j h1 h2 => gA i j (by omega)) (rg.all (fun a k h1 h2 => fA a k (by omega) (by omega)))
  · exact r5.r n6 (fun i j h1 h2 => gA i j (by omega)) (rg.all (fun a k h1 h2 => fA a k (by omega) (by omega)))
  · exact r6.r (fun i j h1 h2 => gA i j (by omega)) (rg.all (fun a k h1 h2 => fA a k (by omega) (by omega)))
  · obtain ⟨a1, a2, a3⟩ := r7
    obtain ⟨b1, b2, b3, b4, b5⟩ := a3 (by rw [h2]; decide)
    refine ⟨by rw [gB _ _ (by omega) (by omega) (by omega), fA _ _ (by decide) (by decide)]; exact a1, fun q => by rw [fA _ _ (by decide) (by decide), h2] at q; exact absurd q (by decide), fun _ => ⟨?_, ?_, ?_, fun q hq hb => ?_, fun q hq hb => ?_⟩⟩
    · rw [gB _ _ (by omega) (by omega) (by omega), fA _ _ (by decide) (by decide)]; exact b1
    · rw [gB _ _ (by omega) (by omega) (by omega), fA _ _ (by decide) (by decide)]; exact b2
    · rw [stcp_a (by omega) (by omega), u2_s, rdo_456, b3]
    · rw [fA _ _ (by decide) (by decide)] at hb
      obtain ⟨c1, c2⟩ := b4 q hq hb
      refine ⟨by rw [gB _ _ (by omega) (by omega) (by omega), fA _ _ (by decide) (by decide), fA _ _ (by decide) (by decide)]; exact c1, fun u hu => ?_⟩
      rw [gB _ _ (by omega) (by omega) (by omega), fA _ _ (by decide) (by decide)]; exact c2 u hu
    · by_cases e : q = p
      · subst e
        have hR := r9.1 h3
        have hR1 : RS (nd q + 41) (6 * q) 439 (am_u2 g (nd q + 6) 3 (sb (g (nd q + 6) 3) q)) f := hR.of (fun j => u2_a (by omega)) (fun j => u2_a (by omega)) (fun _ _ => rfl)
        obtain ⟨y1, y2, y3⟩ := hR1.cp (a := nd q + (16 + 2 * q)) (by omega)
        refine ⟨?_, ?_, fun i hi => ?_⟩
        · rw [y1, show 36 * q + 6 * q = 36 * q + 6 * q + 0 from rfl, rdo_460 hp (by decide), if_pos rfl, Nat.add_zero]
        · rw [y2, rdo_460 hp (by decide), if_pos rfl]
        · rw [y3 i hi, show 36 * q + 6 * q + 2 + i = 36 * q + 6 * q + (2 + i) by omega, rdo_460 hp (by omega), if_pos rfl, Nat.add_assoc]
      · rw [rdo_456, has_sb hp (by omega), decide_eq_false e, Bool.or_false] at hb
        obtain ⟨y1, y2, y3⟩ := b5 q hq hb
        refine ⟨?_, ?_, fun i hi => ?_⟩
        · rw [gB _ _ (by omega) (by omega) (by omega), show 36 * p + 6 * q = 36 * p + 6 * q + 0 from rfl, rdo_460 hq (by decide), if_neg e]; exact y1
        · rw [gB _ _ (by omega) (by omega) (by omega), rdo_460 hq (by decide), if_neg e]; exact y2
        · rw [gB _ _ (by omega) (by omega) (by omega), show 36 * p + 6 * q + 2 + i = 36 * p + 6 * q + (2 + i) by omega, rdo_460 hq (by omega), if_neg e, y3 i hi, Nat.add_assoc]
  · exact r8.r n6 (fun i j h1 h2 => gA i j (by omega)) (fA _ _ (by decide) (by decide)) (rg.all (fun a k h1 h2 => fA a k (by omega) (by omega)))
  · exact r9.r (fun i j h1 h2 => gA i j (by omega)) (fA _ _ (by decide) (by decide)) (fA _ _ (by decide) (by decide)) (fA _ _ (by decide) (by decide)) (rg.all (fun a k h1 h2 => fA a k (by omega) (by omega)))
/-- the class becomes whole as the model does -/
theorem K_whole (hX : TX n B p c g0 f0 G0 A g f G) (hp : p < 6) (hm : f 436 p = 2) (hk : ∀ A' g', TX n B p c g0 f0 G0 A' g' (m_who n p f) G → Q (.inl none) (wI A' g')) : mC (d + 5) 103 [.ref (nd p)] (wI A g) Q := by
  have hnd := nd_b hp
  obtain ⟨pn, n6, hP, hG⟩ := hX.1.pi hp
  obtain ⟨hI, hZ, hin⟩ := id hX.1
  obtain ⟨hE, hX7⟩ := hI.wh0 hp hin
  have h60 : f 415 60 = 0 := by obtain ⟨_, _, _, h4, _⟩ := hI; exact h4
  obtain ⟨z1, z2, z3⟩ := hZ.whl hp hm h60 hE hX7
  obtain ⟨i1, i2⟩ := hI.whl hp hin hm
  have hin' : m_whl n p f 423 p ≠ 0 := by rw [whl_a (by decide) (by omega)]; exact hin
  have hX1 : TX n B p c g0 f0 G0 A (c_w5 p g) (m_whl n p f) G := hX.move i1 i2 (gM.rfl G) hin' z1 z2.fr
  have hS := hZ.1.sh
  obtain ⟨_, _, hP1, _⟩ := hX1.1.pi hp
  have hlt := pV.lt hP1 hG n6 hp
  refine x_103_0 (shw hS) hp ?_
  show mC (d + 4) 121 [.ref (nd p + 41), .ref (nd p + 39)] (wI A (am_u2 g (nd p) 8 3)) _
  refine k_stcp (shw hS) (isSt.mk hp 41 rfl) (isSt.mk hp 39 rfl) (by omega) ?_
  refine k_save (shw hS) hp ?_
  refine k_end (real := false) (shw hS) hp (isSt.mk hp 41 rfl) z3 ?_
  refine k_restore (shw hS) hp ?_
  refine k_processOf (shw hS) ?_
  show ((c_w5 p g (nd p) 7) &&& 7 = c_w5 p g (nd p) 0 → _) ∧ (¬ (c_w5 p g (nd p) 7) &&& 7 = c_w5 p g (nd p) 0 → _)
  rw [z1.g45.2]
  have e7 : c_w5 p g (nd p) 7 &&& 7 = f 435 p := by
    rw [z1.2.2.1.1.2.1, hP1.1.2.2.1, hP1.1.2.2.2.1, cid_proc (by omega) (by omega), ← hP1.1.2.2.2.1, whl_a (by decide) (by omega)]
  rw [e7]
  rw [who_eq] at hk
  refine ⟨fun e => ?_, fun e => ?_⟩
  · rw [if_neg (fun q => q e)] at hk
    have e6 : c_w5 p g (nd p + 6) 0 = f 453 p := by rw [z1.ra.1, whl_a (by decide) (by omega)]
    show (c_w5 p g (nd p + 6) 0 = 2 → _) ∧ (¬ c_w5 p g (nd p + 6) 0 = 2 → _)
    rw [e6]
    refine ⟨fun q M hM => ?_, fun q => ?_⟩
    · rw [if_pos q] at hk
      subst hM
      have em : am_setI (wI A (c_w5 p g)) (nd p + 6) 3 ((am_I (wI A (c_w5 p g)) (nd p + 6) 3) ||| ((1 : Int32) <<< ((am_I (wI A (c_w5 p g)) (nd p) 0) &&& 31))) = wI A (am_u2 (c_w5 p g) (nd p + 6) 3 (sb (c_w5 p g (nd p + 6) 3) p)) := by
        show wI A (am_u2 (c_w5 p g) (nd p + 6) 3 ((c_w5 p g (nd p + 6) 3) ||| ((1 : Int32) <<< ((c_w5 p g (nd p) 0) &&& 31)))) = _
        rw [z1.g45.2]; rfl
      obtain ⟨j1, j2⟩ := i1.rdo hp hin' whl_436
      obtain ⟨y1, y2⟩ := z1.rdo hp whl_436 (by rw [whl_a (by decide) (by omega)]; exact q)
      have hX2 : TX n B p c g0 f0 G0 A _ (m_rdo p (m_whl n p f)) G := hX1.move j1 j2 (gM.rfl G) (by rw [rdo_a (by decide) (by decide)]; exact hin') y1 y2.fr
      have e0 : am_u2 (c_w5 p g) (nd p + 6) 3 (sb (c_w5 p g (nd p + 6) 3) p) (nd p) 0 = nI p := by rw [u2_a (by omega)]; exact z1.g45.2
      show ixk 6 (am_I (am_setI (wI A (c_w5 p g)) (nd p + 6) 3 ((am_I (wI A (c_w5 p g)) (nd p + 6) 3) ||| ((1 : Int32) <<< ((am_I (wI A (c_w5 p g)) (nd p) 0) &&& 31)))) (nd p) 0) ∧ mC (d + 4) 121 [.ref (nd p + (16 + 2 * (am_I (am_setI (wI A (c_w5 p g)) (nd p + 6) 3 ((am_I (wI A (c_w5 p g)) (nd p + 6) 3) ||| ((1 : Int32) <<< ((am_I (wI A (c_w5 p g)) (nd p) 0) &&& 31)))) (nd p) 0).toNatClampNeg)), .ref (nd p + 41)] (am_setI (wI A (c_w5 p g)) (nd p + 6) 3 ((am_I (wI A (c_w5 p g)) (nd p + 6) 3) ||| ((1 : Int32) <<< ((am_I (wI A (c_w5 p g)) (nd p) 0) &&& 31)))) _
      rw [em, wI_I, e0]
      refine ⟨ixn (show p < 6 from hp) (by decide), ?_⟩
      rw [nI_clamp (by omega)]
      exact k_stcp (shw hS) (isSt.e hp hp) (isSt.mk hp 41 rfl) (by omega) (hk A _ hX2)
    · rw [if_neg q] at hk
      exact hk A _ hX1
  · rw [if_pos e] at hk
    have hr := i1.rea hp hin' whl_436 (by rw [whl_a (by decide) (by omega)]; exact e)
    exact K_ready z1 hp hP1.1.2.2.1 (by omega) hP1.1.2.2.2.1 (by omega) whl_436 (fun A' g' y1 y2 => hk A' g' (hX1.send hr y1 y2))
end
