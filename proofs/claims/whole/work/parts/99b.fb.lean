/-! The class works as the model does: fronts, posts. -/
section
variable {A : am_A} {g f g' f' : hs} {n p q u t m B : Nat} {L L' : Nat → Nat} {c : wc} {G G' : Gh} {Q : am_Res → am_A → Prop} {d : Nat} {h : Option Nat}
theorem RL.e (hL : RL p g f) (h0 : ∀ j, j = 0 ∨ j = 2 ∨ j = 3 ∨ j = 4 ∨ j = 5 → g' (nd p) j = g (nd p) j) (h45 : g' (nd p + 45) 0 = g (nd p + 45) 0) (hE : EV p g' f') (hr : rg p 420 423 f f') : RL p g' f' := by
  obtain ⟨a0, a1, a2, a3, a4, a5, a6, a7⟩ := hL
  exact ⟨by rw [h0 0 (by decide)]; exact a0, by rw [h45]; exact a1, by rw [h0 2 (by decide), hr.c1 (by decide) (by decide) (Eq.refl (str 423))]; exact a2, by rw [h0 3 (by decide), hr.c1 (by decide) (by decide) (Eq.refl (str 422))]; exact a3, by rw [h0 4 (by decide), hr.c1 (by decide) (by decide) (Eq.refl (str 420))]; exact a4, by rw [h0 5 (by decide), hr.c1 (by decide) (by decide) (Eq.refl (str 421))]; exact a5, hE.1, hE.2.2⟩
/-- numbers of events are small -/
theorem ev_s (hI : In n B G f h) (hp : p < 6) : ∃ ev, f 424 p = nI ev ∧ ev ≤ 8000000 := by
  obtain ⟨h1, h2, h3, h4, h5, h6, h7, h8, h9, h10, h11⟩ := hI
  obtain ⟨_, ev, e1, e2⟩ := h8 p hp
  obtain ⟨g1, _, _, _, _, _, _, _, g9, g10, g11, g12⟩ := h7
  obtain ⟨i1, i2, i3, i4, i5, i6, i7⟩ := g1 p hp
  have := g9 (yV G p + 1)
  have hx : yV G p % 8 < 6 := by omega
  have := (g1 _ hx).2.2.2.2.2.2
  exact ⟨ev, e1, by omega⟩
theorem ZP.rf (hZ : ZP n p c A g f L) (hev : ¬ f 424 p < 0) : RF n p g f L := ⟨hZ.rd, hZ.rr, hZ.2.2.1.2.2.2.2.2.1, hZ.2.1.2.1, hZ.g45.1, hZ.2.2.1.1.2.2.2.2.2, by rw [hZ.2.1.2.2.2.2.2.2.1]; exact hev⟩
theorem ZP.ev (hZ : ZP n p c A g f L) (hev : ¬ f 424 p < 0) : EV p g f := ⟨hZ.2.1.2.2.2.2.2.2.1, hev, hZ.2.1.2.2.2.2.2.2.2⟩
/-- both: the model's state, the class's -/
def TT (n B p : Nat) (c : wc) (A : am_A) (g f : hs) (G : Gh) : Prop := In n B G f c.2.2.1 ∧ ZP n p c A g f (yl G (yV G p)) ∧ f 423 p ≠ 0
theorem TT.pi (hT : TT n B p c A g f G) (hp : p < 6) : p < n ∧ n ≤ 6 ∧ pI n G p f ∧ GI n G B := by
  obtain ⟨h1, h2, h3, h4, h5, h6, h7, h8, h9, h10, h11⟩ := hT.1
  exact ⟨(h9 p hp hT.2.2).1, h2, (h9 p hp hT.2.2).2, h7⟩
theorem TT.rf (hT : TT n B p c A g f G) (hp : p < 6) : RF n p g f (yl G (yV G p)) ∧ MI n p f (yl G (yV G p)) ∧ EV p g f ∧ ¬ f 424 p + 1 < 0 := by
  obtain ⟨pn, n6, hP, hG⟩ := hT.pi hp
  obtain ⟨ev, e1, e2⟩ := ev_s hT.1 hp
  have hev : ¬ f 424 p < 0 := by rw [e1]; exact nI_pos (by omega)
  exact ⟨hT.2.1.rf hev, hP.mi hG n6 pn, hT.2.1.ev hev, by rw [e1, k1]; exact nI_pos (by omega)⟩
/-- a front passed by both -/
theorem TT.pass (hT : TT n B p c A g f G) (hp : p < 6) (hm : f 436 p = 0) (hu : u < n) (hc : m_can n p false f u = true) : TT n B p c A (c_front p u (nd p + 39) true g) (m_pass p u true f) (gPass G p (yV G p) u) ∧ m_pass p u true f 436 p = 0 ∧ gO p g (c_front p u (nd p + 39) true g) ∧ mU (gPass G p (yV G p) u) p < mU G p := by
  have hnd := nd_b hp
  obtain ⟨pn, n6, hP, hG⟩ := hT.pi hp
  obtain ⟨hRF, hMI, hEV, he1⟩ := hT.rf hp
  obtain ⟨hI, hZ, hin⟩ := hT
  have hf : m_hasF p u f = true := by unfold m_can at hc; rw [Bool.and_eq_true] at hc; exact hc.1
  obtain ⟨i1, i2, i3⟩ := hI.pass hp hin hm hu hc
  obtain ⟨r1, r2, r3, r4, r5, r6, r7, r8, r9⟩ := hZ.2.2.1.get
  have h60 : f 415 60 = 0 := by obtain ⟨_, _, _, h4, _⟩ := hI; exact h4
  have hob : f 446 (m_fr p u f) = 2 ∨ f 446 (m_fr p u f) = 3 → ((true : Bool) = true ∧ 0 < f 449 p) ∨ ((true : Bool) = false ∧ f 449 p = 0) := fun h23 => by
    left
    refine ⟨rfl, ?_⟩
    unfold m_can at hc
    rw [Bool.and_eq_true] at hc
    have hc := hc.2
    have n4 : decide (f 446 (m_fr p u f) = 4) = false := decide_eq_false (fun q => by rw [q] at h23; rcases h23 with q | q <;> exact absurd q (by decide))
    have n0 : decide (f 446 (m_fr p u f) = 0) = false := decide_eq_false (fun q => by rw [q] at h23; rcases h23 with q | q <;> exact absurd q (by decide))
    have n1 : decide (f 446 (m_fr p u f) = 1) = false := decide_eq_false (fun q => by rw [q] at h23; rcases h23 with q | q <;> exact absurd q (by decide))
    rw [n4, n0, n1, Bool.false_or, Bool.false_or, Bool.and_eq_true, Bool.false_or, Bool.and_eq_true] at hc
    have := hc.2.1
    unfold m_first at this
    rw [Bool.and_eq_true] at this
    exact of_decide_eq_true this.1
  obtain ⟨z1, z2, z3, z4⟩ := front_step (s := nd p + 39) (real := true) (ob := true) hRF hMI (by omega) (of_decide_eq_true hf) (Or.inl rfl) r3 hP.2.2.2.2.2.2.2.1.1 hEV he1 (by rw [h60]; simp) hob
  have gA : ∀ i j, i ≠ 47 + p → i ≠ 37 → i ≠ 38 → i ≠ 64 → i ≠ 39 → i ≠ 40 → c_front p u (nd p + 39) true g (nd p + i) j = g (nd p + i) j := fun i j h1 h2 h3 h4 h5 h6 => front_a (by omega) (by omega) (by omega) (by omega) (by omega) (by omega)
  have fA : ∀ x j, (x ≠ 424 ∧ x ≠ 425 ∧ x ≠ 438 ∧ x ≠ 442 ∧ (x < 449 ∨ 452 < x)) → m_pass p u true f x j = f x j := fun x j hx => pass_a hx
  have g0 : ∀ j, c_front p u (nd p + 39) true g (nd p) j = g (nd p) j := fun j => gA 0 j (by omega) (by decide) (by decide) (by decide) (by decide) (by decide)
  have hgO : gO p g (c_front p u (nd p + 39) true g) := fun x j hx => front_a (by omega) (by omega) (by omega) (by omega) (by omega) (by omega)
  have hZ' : ZP n p c A (c_front p u (nd p + 39) true g) (m_pass p u true f) (yl G (yV G p)) := by
    refine hZ.upd hp hgO (fun a k h1 h2 => fA a k (by omega)) (hZ.2.1.e (fun j _ => g0 j) (gA 45 0 (by omega) (by decide) (by decide) (by decide) (by decide) (by decide)) z3 (rg.all (fun a k h1 h2 => fA a k (by omega)))) ⟨?_, ?_, z2, z1.1, z1.2.1, z1.2.2.1, ?_, ?_, ?_⟩ (by rw [g0]; exact hZ.2.2.2)
    · exact r1.r (fun j _ => g0 j) (fun j _ => gA 45 j (by omega) (by decide) (by decide) (by decide) (by decide) (by decide)) (rg.all (fun a k h1 h2 => fA a k (by omega)))
    · exact r2.r (fun i j h1 h2 => gA i j (by omega) (by omega) (by omega) (by omega) (by omega) (by omega)) (rg.all (fun a k h1 h2 => fA a k (by omega)))
    · exact r7.r n6 (fun i j h1 h2 => gA i j (by omega) (by omega) (by omega) (by omega) (by omega) (by omega)) (rg.all (fun a k h1 h2 => fA a k (by omega)))
    · exact r8.r n6 (fun i j h1 h2 => gA i j (by omega) (by omega) (by omega) (by omega) (by omega) (by omega)) (fA _ _ (by omega)) (rg.all (fun a k h1 h2 => fA a k (by omega)))
    · exact r9.r (fun i j h1 h2 => gA i j (by omega) (by omega) (by omega) (by omega) (by omega) (by omega)) (fA _ _ (by omega)) (fA _ _ (by omega)) (fA _ _ (by omega)) (rg.all (fun a k h1 h2 => fA a k (by omega)))
  obtain ⟨x1, _⟩ := hP.front hG n6 pn (by omega) hf
  exact ⟨⟨i1, hZ', i2⟩, i3, hgO, mU_pass hG (by omega) x1⟩
/-- a message of its own kept by both -/
theorem TT.own {s v : Int32} (hT : TT n B p c A g f G) (hp : p < 6) (hL : yl G (yV G p) p + 1 ≤ 1000000) (hr : yl G (yV G p) p + 1 ≤ 12 + yD G p (yV G p) p) (hx : s = 4 → ∃ x, v = nI x ∧ x < 2 ^ 31) (hA : ∀ x j, (x < 441 ∨ 452 < x) → m_own n p s v f x j = f x j) : ZP n p c A (c_close p p 16 (c_own p s v g)) (m_own n p s v f) (Lp p (yl G (yV G p))) ∧ gO p g (c_close p p 16 (c_own p s v g)) := by
  have hnd := nd_b hp
  obtain ⟨pn, n6, hP, hG⟩ := hT.pi hp
  obtain ⟨hRF, hMI, hEV, he1⟩ := hT.rf hp
  obtain ⟨hI, hZ, hin⟩ := hT
  obtain ⟨b1, b2, b3, b4, b5, b6⟩ := hP.2.1.2 p hp
  have hg : f 441 (6 * p + p) = nI (yl G (yV G p) p) := by rw [b2, hP.2.1.1]
  obtain ⟨r1, r2, r3, r4, r5, r6, r7, r8, r9⟩ := hZ.2.2.1.get
  obtain ⟨z1, z2⟩ := RF.own (s := s) (v := v) hRF hMI hg (fun a ha => by
    rw [b1] at ha
    have hd := hG.2.2.1 p (yV G p) p
    have hl := (hG.len n6 (yV G p) p).2.1
    have ha31 : a < 2 ^ 31 ∨ ¬ a < 2 ^ 31 := Classical.em _
    rcases ha31 with q | q
    · have := (nI_eq (by omega) q).mp ha; omega
    · omega) (by omega) hx
  have em : m_own n p s v f = m_keep n p p (nI (yl G (yV G p) p) + 1) s v (fun w => f 442 (6 * p + w)) f := by unfold m_own; rw [hg]
  rw [← em] at z1
  have gA : ∀ x j, x ≠ nd p + 60 → x ≠ nd p + 61 → x ≠ nd p + 62 → x ≠ nd p + 63 → x ≠ nd p + (54 + p) → x ≠ nd p + 64 → x ≠ nd p + 65 → x ≠ nd p + 66 → c_close p p 16 (c_own p s v g) x j = g x j := fun x j h1 h2 h3 h4 h5 h6 h7 h8 => by
    rw [cclose_a h5 h6 h7 h8]
    unfold c_own
    rw [cp_a h4]; simp (disch := first | decide | omega) only [u2_a]
  have hgO : gO p g (c_close p p 16 (c_own p s v g)) := fun x j hx => gA x j (by omega) (by omega) (by omega) (by omega) (by omega) (by omega) (by omega) (by omega)
  have gB : ∀ i j, i ≤ 46 → c_close p p 16 (c_own p s v g) (nd p + i) j = g (nd p + i) j := fun i j hi => gA _ _ (by omega) (by omega) (by omega) (by omega) (by omega) (by omega) (by omega) (by omega)
  have g0 : ∀ j, c_close p p 16 (c_own p s v g) (nd p) j = g (nd p) j := fun j => gB 0 j (by omega)
  have hEV' : EV p (c_close p p 16 (c_own p s v g)) (m_own n p s v f) := hEV.of (fun j => gB 37 j (by decide)) (fun j => gB 38 j (by decide)) (hA _ _ (by decide)) (fun k => hA _ _ (by decide))
  refine ⟨hZ.upd hp hgO (fun a k h1 h2 => hA a k (by omega)) (hZ.2.1.e (fun j _ => g0 j) (gB 45 0 (by decide)) hEV' (rg.all (fun a k h1 h2 => hA a k (by omega)))) ⟨?_, ?_, ?_, z1.1, z1.2.1, z1.2.2.1, ?_, ?_, ?_⟩ (by rw [g0]; exact hZ.2.2.2), hgO⟩
  · exact r1.r (fun j _ => g0 j) (fun j _ => gB 45 j (by decide)) (rg.all (fun a k h1 h2 => hA a k (by omega)))
  · exact r2.r (fun i j h1 h2 => gB i j (by omega)) (rg.all (fun a k h1 h2 => hA a k (by omega)))
  · exact r3.r (l := 6) (fun i j h1 h2 => gB i j (by omega)) (rg.all (fun a k h1 h2 => hA a k (by omega))) rfl (fun j hj => by omega)
  · exact r7.r n6 (fun i j h1 h2 => gB i j (by omega)) (rg.all (fun a k h1 h2 => hA a k (by omega)))
  · exact r8.r n6 (fun i j h1 h2 => gB i j (by omega)) (hA _ _ (by omega)) (rg.all (fun a k h1 h2 => hA a k (by omega)))
  · exact r9.r (fun i j h1 h2 => gB i j (by omega)) (hA _ _ (by omega)) (hA _ _ (by omega)) (hA _ _ (by omega)) (rg.all (fun a k h1 h2 => hA a k (by omega)))
/-- a message of its own posted by both -/
theorem K_post {s v : Int32} (hT : TT n B p c A g f G) (hp : p < 6) (hI' : In n B G' (m_post n p s v f) c.2.2.1) (hN : gN n p s v f G G') (hr : yl G (yV G p) p + 1 ≤ 12 + yD G p (yV G p) p) (hx : s = 4 → ∃ x, v = nI x ∧ x < 2 ^ 31) (hA : ∀ x j, (x < 441 ∨ 452 < x) → m_own n p s v f x j = f x j) (hI1 : In n B G' (m_own n p s v f) c.2.2.1) (hk : ∀ A' g', TT n B p c A' g' (m_post n p s v f) G' → FR p g g' → Q (.inl (some (.int (f 441 (6 * p + p) + 1)))) (wI A' g')) : mC (d + 4) 78 [.ref (nd p), .int s, .int v] (wI A g) Q := by
  have hnd := nd_b hp
  obtain ⟨pn, n6, hP, hG⟩ := hT.pi hp
  have hlen' : yl G (yV G p) p + 1 ≤ 1000000 := by
    obtain ⟨_, _, _, _, _, _, h7', _⟩ := hI1
    have := (h7'.len n6 (yV G p) p).2.1
    rw [hN.2.2.2.2.2.2.1, if_pos ⟨rfl, rfl⟩] at this; exact this
  obtain ⟨hZ1, hgO⟩ := hT.own hp hlen' hr hx hA
  obtain ⟨hI, hZ, hin⟩ := id hT
  obtain ⟨b1, b2, b3, b4, b5, b6⟩ := hP.2.1.2 p hp
  have hg : f 441 (6 * p + p) = nI (yl G (yV G p) p) := by rw [b2, hP.2.1.1]
  obtain ⟨hd, fa, c0, hK, _, _, h3, h4⟩ := (hT.rf hp).1.sK (hT.rf hp).2.1
  refine x_78_0 (shw hZ.1.sh) hp ?_
  refine k_addOwn (shw hZ.1.sh) hp hZ.2.1.2.1 (by rw [(hZ.rd.1 p hp).1, hg]) (by omega) hK.2.2.2.2 (by omega) ?_
  have e1 : g (nd p + (54 + p)) p + 1 = nI (yl G (yV G p) p + 1) := by rw [(hZ.rd.1 p hp).1, hg, k1]
  show mW (d + 3 + 1) 78 13 [.ref (nd p), .int s, .int v, .int (g (nd p + (54 + p)) p + 1), .int 0] [] (wI A (c_close p p 16 (c_own p s v g))) Q
  rw [e1]
  -- the body
  obtain ⟨_, _, _, _, _, _, h7', _, h9', _⟩ := id hI1
  have hin' : m_own n p s v f 423 p ≠ 0 := by rw [hA _ _ (by decide)]; exact hin
  obtain ⟨_, hP'⟩ := h9' p hp hin'
  obtain ⟨n1, n2, n3, n4, n5, n6', nl, nG, ns, nv, np⟩ := id hN
  have kg : yG G' p (yV G' p) p = yl G (yV G p) p + 1 := by rw [n1, nG, if_pos rfl]
  have kl : yl G' (yV G' p) p = yl G (yV G p) p + 1 := by rw [n1, nl, if_pos ⟨rfl, rfl⟩]
  obtain ⟨c1, c2, c3, c4, c5, c6⟩ := hP'.2.1.2 p hp
  have hx5 := c5 (yl G (yV G p) p + 1) (by omega) (by omega) (by omega)
  have eL : Lp p (yl G (yV G p)) p = yl G (yV G p) p + 1 := by unfold Lp; rw [if_pos rfl]
  have hRM := ((hZ1.rr p hp).2.2.2 (yl G (yV G p) p + 1) (by omega) (by rw [eL]; exact Nat.le_refl _) (by rw [eL]; omega)).2 hx5
  have s0 := sc_start (f := m_own n p s v f)
  have hB0 : Bd (m_start (m_own n p s v f)) 0 (bM n p p (yl G (yV G p) p + 1) 0 0 (m_start (m_own n p s v f))) := Bd.start
  obtain ⟨hB, s1⟩ := hB0.msg n6 (by decide)
  have ss := s0.tr s1
  have epost : m_post n p s v f = fo (fun q f => if m_other p (f 433 p) q then m_ship p q 1 f else f) 0 n (m_sayMsg n p p (nI (yl G (yV G p) p + 1)) (m_start (m_own n p s v f))) := by
    unfold m_post m_own
    rw [hg, k1]
  rw [show 0 + 3 + n = 3 + n by omega] at hB
  have hk31 : yl G (yV G p) p + 1 < 2 ^ 31 := by omega
  have hyL : yl G' (yV G' p) = Lp p (yl G (yV G p)) := by
    funext u; rw [n1, nl]; unfold Lp; simp
  have key := lz0 (S := fun A' g' f' => ZP n p c A' g' f' (Lp p (yl G (yV G p))) ∧ FR p g g' ∧ sE (m_sayMsg n p p (nI (yl G (yV G p) p + 1)) (m_start (m_own n p s v f))) f' ∧ Bd f' (3 + n) (bM n p p (yl G (yV G p) p + 1) 0 0 (m_start (m_own n p s v f))) ∧ RM n p p (yl G (yV G p) p + 1) g' f') (W := fun q A' g' => ∀ w1 w2, mW (d + 3 + 1) 78 13 [.ref (nd p), w1, w2, .int (nI (yl G (yV G p) p + 1)), .int (nI q)] [] (wI A' g') Q) n (fun q f => if m_other p (f 433 p) q then m_ship p q 1 f else f) (A := A) (g := c_close p p 16 (c_own p s v g)) (f := m_sayMsg n p p (nI (yl G (yV G p) p + 1)) (m_start (m_own n p s v f))) (fun q A1 g1 f1 hq ⟨hZ1, hF1, hE1, hB1, hM1⟩ ih w1 w2 => ?_) ⟨hZ1.scr hp ss, hgO.fr, sE.rfl _, hB, hRM.of (fun _ => rfl) (fun _ => rfl) (fun _ => rfl) (fun a j ha => ss a j (by omega) (by omega))⟩ (fun A1 g1 ⟨hZ1, hF1, hE1, hB1, hM1⟩ w1 w2 => ?_)
  · exact key _ _
  · obtain ⟨n6, n0, g30, f1'⟩ := hZ1.1.n6
    refine x_78_13 (shw hZ1.1.sh) hp ⟨fun _ => k_isOther (shw hZ1.1.sh) hp (by omega) hZ1.g45.2 ?_, fun c => absurd (show nI q < g1 3 0 by rw [g30]; exact ltn hq (by omega)) c⟩
    show (bi (m_other p (g1 (nd p + 45) 1) q) = 0 → _) ∧ (¬ bi (m_other p (g1 (nd p + 45) 1) q) = 0 → _)
    rw [bi_nz, bi_z, hZ1.g45.1, k1]
    refine ⟨fun c => ?_, fun c => ?_⟩
    · rw [c] at ih; exact ih A1 g1 ⟨hZ1, hF1, hE1, hB1, hM1⟩ _ _
    · rw [c] at ih
      refine K_data hZ1 hp (by omega) hk31 hM1 (m_start (m_own n p s v f)) (fun j => ?_) hB1 (fun A' g' z1 z2 => ?_)
      · rw [hE1 446 _ (by decide) (by decide), hE1 447 _ (by decide) (by decide), hE1 448 _ (by decide) (by decide)]
        exact ⟨(s1 _ _ (by decide) (by omega)).symm, (s1 _ _ (by decide) (by omega)).symm, (s1 _ _ (by decide) (by omega)).symm⟩
      · refine ih A' g' ⟨z1, hF1.tr z2, hE1.ship, hB1.ship, ?_⟩ _ _
        rw [if_pos rfl]
        have hpres : m_ship p q 1 f1 445 (mAt p p (nI (yl G (yV G p) p + 1))) = nI (yl G (yV G p) p + 1) := by
          rw [ship_a (by decide) (by decide) (by decide) (by decide) (by decide), hE1 _ _ (by decide) (by decide), ss _ _ (by decide) (by omega)]; exact hx5
        exact ((z1.rr p hp).2.2.2 (yl G (yV G p) p + 1) (by omega) (by rw [eL]; exact Nat.le_refl _) (by rw [eL]; omega)).2 hpres
  · obtain ⟨n6, n0, g30, f1'⟩ := hZ1.1.n6
    refine x_78_13 (shw hZ1.1.sh) hp ⟨fun c => absurd (show nI n < nI n by rw [← g30]; rw [← g30] at c; exact c) (nltn (by omega)), fun _ => ?_⟩
    have := hk A1 g1 ⟨hI', by rw [epost, hyL]; exact hZ1, by rw [epost, hE1 _ _ (by decide) (by decide), ss _ _ (by decide) (by omega)]; exact hin'⟩ hF1
    rw [hg, k1] at this
    exact this
end
