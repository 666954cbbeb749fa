/-! Both settle alike. -/
section
variable {A A' : am_A} {g f g' f' g0 f0 f1 gz fz g3 g4 : hs} {n p q u t m B B' P X : Nat} {L L' : Nat → Nat} {c : wc} {G G' G0 : Gh} {Q : am_Res → am_A → Prop} {d : Nat} {h : Option Nat} {b mk : Int32} {k : Nat → Int32}
theorem bit01 (x : Int32) : x &&& 1 = 0 ∨ x &&& 1 = 1 := by
  cases hb : bt x 0 with
  | false =>
    left
    refine b_ext (fun i hi => ?_)
    rw [b_and, bt_1 i hi, b_0]
    by_cases e : i = 0
    · rw [e, hb]; rfl
    · rw [decide_eq_false e, Bool.and_false]
  | true =>
    right
    refine b_ext (fun i hi => ?_)
    rw [b_and, bt_1 i hi]
    by_cases e : i = 0
    · rw [e, hb]; rfl
    · rw [decide_eq_false e, Bool.and_false]
/-- the class installs as the model does -/
theorem K_inst (hX : TX n B p c g0 f0 G0 A gz fz G) (hp : p < 6) (hg : ∀ x j, x ≠ nd p + 43 → x ≠ nd p + 44 → ¬ (x = nd p ∧ j = 18) → g x j = gz x j) (h18 : g (nd p) 18 = b) (h43 : g (nd p + 43) 0 = k 0) (h431 : g (nd p + 43) 1 = k 1) (h44 : ∀ i, i < 4 → g (nd p + 44) i = k (2 + i))
    (hm : fz 436 p ≠ 0) (hfr : ∀ a k, a ≠ 440 → a ≠ 453 → f a k = fz a k) (h40 : ∀ k, k / 7 ≠ p → f 440 k = fz 440 k) (h53 : ∀ k, k ≠ p → f 453 k = fz 453 k) (h53p : f 453 p = 0) (hb : b = yM G (yP G p)) (hbp : hasb b p = true) (hbN : setN n b) (ho : oOk (k 1))
    (hmk : fz 453 p = 2 → yP G p % 8 = p ∧ f 440 (7 * p) = b ∧ ∀ i, i < 6 → f 440 (7 * p + 1 + i) = k i)
    (hk0 : fz 453 p ≠ 2 → ∀ A' g', TX n B p c g0 f0 G0 A' g' (m_inst n p b k f) (gView G p (yP G p)) → Q (.inl none) (wI A' g'))
    (hk2 : fz 453 p = 2 → ∀ A' g', TX n B p c g0 f0 G0 A' g' (fo (fun q f => if m_other p (f 433 p) q then m_sIns p q f else f) 0 n (am_u2 (m_inst n p b k f) 437 p 1)) (gView G p (yP G p)) → Q (.inl none) (wI A' g')) : mC (d + 5) 104 [.ref (nd p)] (wI A g) Q := by
  have hnd := nd_b hp
  obtain ⟨pn, n6, hP, hG⟩ := hX.1.pi hp
  obtain ⟨hI, hZ, hin⟩ := id hX.1
  obtain ⟨n6', n0, g30, f1'⟩ := hZ.1.n6
  obtain ⟨r1, r2, r3, r4, r5, r6, r7, r8, r9⟩ := hZ.2.2.1.get
  have hS := hZ.1.sh
  obtain ⟨hE0, hX7⟩ := hI.ei hp hin
  have hE : EI n p f (yl G (yV G p)) (yV G p + yO G + 2 * sm (wt G) (yV G p + 1)) := hE0.ext (fun a k ha => hfr a k (by omega) (by omega))
  have h60 : f 415 60 = 0 := by rw [hfr _ _ (by decide) (by decide)]; obtain ⟨_, _, _, h4, _⟩ := hI; exact h4
  have hlt := pV.lt hP hG n6 hp
  have gA : ∀ i j, i ≠ 43 → i ≠ 44 → i ≠ 0 → am_u2 g (nd p) 18 0 (nd p + i) j = gz (nd p + i) j := fun i j h1 h2 h3 => by rw [u2_a (by omega), hg _ _ (by omega) (by omega) (by omega)]
  have fA : ∀ a k, a ≠ 440 → a ≠ 453 → f a k = fz a k := hfr
  obtain ⟨ev, ev1, ev2⟩ := ev_s hI hp
  have hev : ¬ f 424 p < 0 := by rw [fA _ _ (by decide) (by decide), ev1]; exact nI_pos (by omega)
  have hFS : FS n p (nd p + 39) (am_u2 g (nd p) 18 0) f (yl G (yV G p)) := by
    refine ⟨⟨?_, ?_, ?_, ?_, ?_, ?_, ?_⟩, ?_, ⟨?_, hev, fun k hk => ?_⟩, hE.2.1⟩
    · exact r4.r hp (fun i j h1 h2 => gA i j (by omega) (by omega) (by omega)) (rg.all (fun a k h1 h2 => fA a k (by omega) (by omega)))
    · exact r5.r n6 (fun i j h1 h2 => gA i j (by omega) (by omega) (by omega)) (rg.all (fun a k h1 h2 => fA a k (by omega) (by omega)))
    · exact r6.r (fun i j h1 h2 => gA i j (by omega) (by omega) (by omega)) (rg.all (fun a k h1 h2 => fA a k (by omega) (by omega)))
    · rw [gA _ _ (by decide) (by decide) (by decide)]; exact hZ.2.1.2.1
    · rw [gA _ _ (by decide) (by decide) (by decide), fA _ _ (by decide) (by decide)]; exact r1.2.2.2.2.1
    · rw [gA _ _ (by decide) (by decide) (by decide), fA _ _ (by decide) (by decide)]; exact r1.2.2.2.2.2
    · rw [gA _ _ (by decide) (by decide) (by decide), hZ.2.1.2.2.2.2.2.2.1, ← fA _ _ (by decide) (by decide)]; exact hev
    · exact r3.r (l := 6) (fun i j h1 h2 => gA i j (by omega) (by omega) (by omega)) (rg.all (fun a k h1 h2 => fA a k (by omega) (by omega))) rfl (fun j hj => by omega)
    · rw [gA _ _ (by decide) (by decide) (by decide), fA _ _ (by decide) (by decide)]; exact hZ.2.1.2.2.2.2.2.2.1
    · rw [gA _ _ (by decide) (by decide) (by decide), fA _ _ (by decide) (by decide)]; exact hZ.2.1.2.2.2.2.2.2.2 k hk
  obtain ⟨hF, hok⟩ := hFS.fin (real := true) (Or.inl rfl) (by rw [h60]; exact ⟨fun _ => rfl, fun _ => rfl⟩) (hE.fin hX7).1
  have hef := (hE.fin hX7).2.1
  obtain ⟨i1, i2, i3⟩ := hI.inst (b := b) (c := k) (f := f) hp hin hm hfr h40 h53 h53p hb hbp hbN ho
  have hinI : m_inst n p b k f 423 p ≠ 0 := by rw [inst_a (by decide), fA _ _ (by decide) (by decide)]; exact hin
  have eV : yV (gView G p (yP G p)) p = yP G p := by rw [gView_yV, u1_s]
  -- the state behind the copy
  generalize hg3 : c_stcp (nd p + 39) (nd p + 43) (c_end p (nd p + 39) true (am_u2 g (nd p) 18 0)) = g3
  have g3a : ∀ x j, x ≠ nd p + 39 → x ≠ nd p + 40 → x ≠ nd p + (47 + p) → x ≠ nd p + 37 → x ≠ nd p + 38 → x ≠ nd p + 64 → g3 x j = am_u2 g (nd p) 18 0 x j := fun x j h1 h2 h3 h4 h5 h6 => by
    rw [← hg3, stcp_a h1 (by omega), cend_a h3 h4 h5 h6 h1 (by omega)]
  have e43 : ∀ i j, i = 43 ∨ i = 44 → c_end p (nd p + 39) true (am_u2 g (nd p) 18 0) (nd p + i) j = g (nd p + i) j := fun i j hi => by
    rw [cend_a (by omega) (by omega) (by omega) (by omega) (by omega) (by omega), u2_a (by omega)]
  obtain ⟨c1, c2, c3⟩ := stcp_v (g := c_end p (nd p + 39) true (am_u2 g (nd p) 18 0)) (a := nd p + 39) (b := nd p + 43) (by omega)
  rw [hg3] at c1 c2 c3
  have d0 : g3 (nd p + 39) 0 = k 0 := by rw [c1, e43 43 _ (by decide)]; exact h43
  have d1 : g3 (nd p + 39) 1 = k 1 := by rw [c2, e43 43 _ (by decide)]; exact h431
  have d2 : ∀ i, i < 4 → g3 (nd p + 40) i = k (2 + i) := fun i hi => by
    have := c3 i hi
    rw [show nd p + 39 + 1 = nd p + 40 from rfl, show nd p + 43 + 1 = nd p + 44 from rfl, e43 44 _ (by decide)] at this
    rw [this]; exact h44 i hi
  have hL' : ∀ u, u < 6 → yl (gView G p (yP G p)) (yV (gView G p (yP G p)) p) u ≤ 1000000 := fun u hu => (hG.len n6 _ u).2.1
  -- from the owner's place on
  have key : ∀ g4 : hs, (∀ x j, ¬ (x = nd p + 39 ∧ j = 1) → g4 x j = g3 x j) → g4 (nd p + 39) 1 = ownr b (k 1) →
      mC (d + 4) 73 [.ref (nd p), .int b] (wI A g4) (am_cv (fun B_10 => (am_I B_10 (nd p + 6) 0 = (2 : Int32) → mC (d + 4) 42 [.ref (nd p + 6)] (am_setI B_10 (nd p) 17 (1 : Int32)) (am_cv (fun B_15 => mW (d + 5) 104 96 [.ref (nd p), .int b, .int (0 : Int32)] [] B_15 Q))) ∧ (¬ am_I B_10 (nd p + 6) 0 = (2 : Int32) → mC (d + 4) 42 [.ref (nd p + 6)] (am_setI B_10 (nd p) 17 (0 : Int32)) (am_cv (fun B_19 => mW (d + 5) 104 96 [.ref (nd p), .int b, .int (0 : Int32)] [] B_19 Q))))) := fun g4 hg4 h4o => by
    have g4a : ∀ x j, x ≠ nd p + 39 → x ≠ nd p + 40 → x ≠ nd p + (47 + p) → x ≠ nd p + 37 → x ≠ nd p + 38 → x ≠ nd p + 64 → g4 x j = am_u2 g (nd p) 18 0 x j := fun x j h1 h2 h3 h4 h5 h6 => by rw [hg4 x j (by omega), g3a x j h1 h2 h3 h4 h5 h6]
    have gev : ∀ i j, i = 37 ∨ i = 38 → g4 (nd p + i) j = c_end p (nd p + 39) true (am_u2 g (nd p) 18 0) (nd p + i) j := fun i j hi => by rw [hg4 _ _ (by omega), ← hg3, stcp_a (by omega) (by omega)]
    have hEV : EV p g4 (m_ih n p b k f) := hF.2.2.1.of (fun j => gev 37 j (by decide)) (fun j => gev 38 j (by decide)) (by rw [ih_a (by omega) (by omega)]) (fun j => by rw [ih_a (by omega) (by omega)])
    have hn : ¬ m_ih n p b k f 424 p + 1 < 0 := by
      obtain ⟨_, _, ev, e1, e2⟩ := hef
      rw [ih_a (by omega) (by omega), e1, k1]; exact nI_pos (by omega)
    have zp : ∀ (mk : Int32) (f' : hs), (mk = 0 ∧ f' = m_inst n p b k f ∨ mk = 1 ∧ f' = am_u2 (m_inst n p b k f) 437 p 1 ∧ f 440 (7 * p) = b ∧ ∀ i, i < 6 → f 440 (7 * p + 1 + i) = k i) → ZP n p c A (c_fin p b mk g4) f' (yl (gView G p (yP G p)) (yV (gView G p (yP G p)) p)) ∧ gO p gz (c_fin p b mk g4) := fun mk f' hmk' =>
      hZ.inst hp hfr h53p hL' (fun i j hi => by
        rw [g4a _ _ (by omega) (by omega) (by omega) (by omega) (by omega) (by omega)]
        by_cases e : i = 0
        · subst e; rw [show nd p + 0 = nd p from rfl, u2_i (by omega), hg _ _ (by omega) (by omega) (by omega)]
        · rw [u2_a (by omega), hg _ _ (by omega) (by omega) (by omega)]) (fun x j hx => by rw [g4a _ _ (by omega) (by omega) (by omega) (by omega) (by omega) (by omega), u2_a (by omega), hg _ _ (by omega) (by omega) (by omega)]) (by rw [g4a _ _ (by omega) (by omega) (by omega) (by omega) (by omega) (by omega), u2_s]) (by rw [hg4 _ _ (by omega)]; exact d0) h4o (fun i hi => by rw [hg4 _ _ (by omega)]; exact d2 i hi) (by rw [g4a _ _ (by omega) (by omega) (by omega) (by omega) (by omega) (by omega), u2_a (by omega)]; exact h43) (by rw [g4a _ _ (by omega) (by omega) (by omega) (by omega) (by omega) (by omega), u2_a (by omega)]; exact h431) (fun i hi => by rw [g4a _ _ (by omega) (by omega) (by omega) (by omega) (by omega) (by omega), u2_a (by omega)]; exact h44 i hi) hP.1.2.2.1 (by omega) hP.1.2.2.2.1 (by omega) hEV hn h60 hmk'
    refine k_open (shw hS) hp (by rw [hEV.1]; exact hEV.2.1) ?_
    have e6 : c_open p b g4 (nd p + 6) 0 = fz 453 p := by
      unfold c_open
      rw [ev_a (by omega) (by omega), sv_a (by omega), u2_a (by omega), u2_a (by omega), g4a _ _ (by omega) (by omega) (by omega) (by omega) (by omega) (by omega), u2_a (by omega), hg _ _ (by omega) (by omega) (by omega)]
      exact r7.1
    show (c_open p b g4 (nd p + 6) 0 = (2 : Int32) → _) ∧ (¬ c_open p b g4 (nd p + 6) 0 = (2 : Int32) → _)
    rw [e6]
    refine ⟨fun e => ?_, fun e => ?_⟩
    · obtain ⟨m1, m2, m3⟩ := hmk e
      obtain ⟨z1, z2⟩ := zp 1 _ (Or.inr ⟨rfl, rfl, m2, m3⟩)
      obtain ⟨j1, j2⟩ := i1.made hp hinI (by rw [eV]; exact m1) (by rw [inst_a (by decide), eV, m2]; exact hb) (by rw [inst_a (by decide), show 7 * p + 2 = 7 * p + 1 + 1 from rfl, m3 1 (by decide)]; exact ho)
      have hinM : am_u2 (m_inst n p b k f) 437 p 1 423 p ≠ 0 := by rw [u2_a (by decide)]; exact hinI
      have hX1 : TX n B p c g0 f0 G0 A (c_fin p b 1 g4) (am_u2 (m_inst n p b k f) 437 p 1) (gView G p (yP G p)) := hX.move j1 (i2.tr j2) i3 hinM z1 z2.fr
      refine k_giveUp (shw hS) hp ?_
      have m7 : am_u2 (m_inst n p b k f) 437 p 1 437 p ≠ 0 := by rw [u2_s]; decide
      have m6 : am_u2 (m_inst n p b k f) 437 p 1 436 p = 0 := by rw [u2_a (by decide), inst_i (by decide) (by decide)]; exact ih_v.2.2.2.1
      have m33 : am_u2 (m_inst n p b k f) 437 p 1 433 p = b := by rw [u2_a (by decide), inst_i (by decide) (by decide)]; exact ih_v.2.2.1
      show mW (d + 5) 104 96 [.ref (nd p), .int b, .int (nI 0)] [] (wI A (c_fin p b 1 g4)) Q
      refine lz0 (S := fun A' g' f' => TX n B p c g0 f0 G0 A' g' f' (gView G p (yP G p)) ∧ sE (am_u2 (m_inst n p b k f) 437 p 1) f') (W := fun q A' g' => mW (d + 5) 104 96 [.ref (nd p), .int b, .int (nI q)] [] (wI A' g') Q) n (fun q f => if m_other p (f 433 p) q then m_sIns p q f else f) (fun q A1 g1 f1 hq ⟨hX2, hE2⟩ ih => ?_) ⟨hX1, sE.rfl _⟩ (fun A1 g1 ⟨hX2, hE2⟩ => ?_)
      · have hZ1 := hX2.1.2.1
        obtain ⟨n6', n0', g30', f1''⟩ := hZ1.1.n6
        have e17 : ¬ g1 (nd p) 17 = 0 := by rw [hZ1.2.2.1.1.2.2.2.1, hE2 _ _ (by decide) (by decide)]; exact m7
        refine x_104_96 (shw hZ1.1.sh) hp ⟨fun _ => ⟨fun c => absurd c e17, fun _ => k_isOther (shw hZ1.1.sh) hp (by omega) hZ1.g45.2 ?_⟩, fun c => absurd (show nI q < g1 3 0 by rw [g30']; exact ltn hq (by omega)) c⟩
        show (bi (m_other p b q) = 0 → _) ∧ (¬ bi (m_other p b q) = 0 → _)
        have e33 : f1 433 p = b := by rw [hE2 _ _ (by decide) (by decide)]; exact m33
        rw [e33] at ih
        rw [bi_nz, bi_z, k1]
        refine ⟨fun c => ?_, fun c => ?_⟩
        · rw [c] at ih; exact ih A1 g1 ⟨hX2, hE2⟩
        · rw [c, if_pos rfl] at ih
          obtain ⟨q1, q2⟩ := oth_ne c
          have hSS := hX2.1.1.ins hp hX2.1.2.2 (by rw [hE2 _ _ (by decide) (by decide)]; exact m6) (by rw [hE2 _ _ (by decide) (by decide)]; exact m7) hq q1 (by rw [e33]; exact q2)
          exact K_ins hZ1 hp (by rw [hE2 _ _ (by decide) (by decide)]; exact m7) (fun A' g' y1 y2 => ih A' g' ⟨hX2.send hSS y1 y2, hE2.tr hSS.2.1⟩)
      · have hZ1 := hX2.1.2.1
        obtain ⟨n6', n0', g30', f1''⟩ := hZ1.1.n6
        exact x_104_96 (shw hZ1.1.sh) hp ⟨fun c => absurd (show nI n < nI n by rw [← g30']; rw [← g30'] at c; exact c) (nltn (by omega)), fun _ => hk2 e A1 g1 hX2⟩
    · obtain ⟨z1, z2⟩ := zp 0 _ (Or.inl ⟨rfl, rfl⟩)
      have hX1 : TX n B p c g0 f0 G0 A (c_fin p b 0 g4) (m_inst n p b k f) (gView G p (yP G p)) := hX.move i1 i2 i3 hinI z1 z2.fr
      refine k_giveUp (shw hS) hp ?_
      show mW (d + 5) 104 96 [.ref (nd p), .int b, .int (nI 0)] [] (wI A (c_fin p b 0 g4)) Q
      obtain ⟨n6', n0', g30', f1''⟩ := z1.1.n6
      have e17 : c_fin p b 0 g4 (nd p) 17 = 0 := by rw [fin_0, if_pos rfl]
      exact x_104_96 (shw hS) hp ⟨fun _ => ⟨fun _ => hk0 e A _ hX1, fun c => absurd e17 c⟩, fun _ => hk0 e A _ hX1⟩
  refine x_104_0 (shw hS) hp ?_
  show mC (d + 4) 81 [.ref (nd p), .ref (nd p + 39), .int (1 : Int32)] (wI A (am_u2 g (nd p) 18 0)) _
  refine k_end (real := true) (shw hS) hp (isSt.mk hp 39 rfl) hok ?_
  refine k_stcp (shw hS) (isSt.mk hp 39 rfl) (isSt.mk hp 43 rfl) (by omega) ?_
  rw [hg3]
  show (g3 (nd p + 39) 1 < 0 → mC (d + 4) 73 [.ref (nd p), .int (g (nd p) 18)] (wI A g3) _) ∧ (¬ g3 (nd p + 39) 1 < 0 → mC (d + 4) 40 [.int (g3 (nd p + 39) 1), .int (g (nd p) 18)] (wI A g3) _)
  rw [d1]
  refine ⟨fun e => ?_, fun e => ?_⟩
  · have em : k 1 = -1 := ho.elim id (fun q => absurd e q)
    have := key g3 (fun _ _ _ => rfl) (by rw [d1]; unfold ownr; rw [if_pos (Or.inl e)]; exact em)
    rw [← h18] at this
    exact this
  · refine x_40_0 (shw hS) ?_
    rw [h18]
    rcases bit01 (b >>> (k 1 &&& 31)) with e1 | e1
    · refine ⟨fun _ => ⟨fun _ => ?_, fun q => absurd rfl q⟩, fun q => absurd e1 q⟩
      have := key (am_u2 g3 (nd p + 39) 1 (-1)) (fun x j hx => u2_ne hx) (by rw [u2_s]; unfold ownr; rw [if_pos (Or.inr (by rw [e1]; decide))])
      rw [← h18] at this
      exact this
    · refine ⟨fun q => absurd (e1.symm.trans q) (by decide), fun _ => ⟨fun q => absurd q (by decide), fun _ => ?_⟩⟩
      have := key g3 (fun _ _ _ => rfl) (by rw [d1]; unfold ownr; rw [if_neg (fun q => q.elim e (fun q => q e1))])
      rw [← h18] at this
      exact this
end
